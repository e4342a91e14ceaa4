section
-- ===== PART A: goes FIRST, ahead of the names: the tables' words, and 'selects' of the private methods out of them =====
/-- a private method of a class that the tables say can be made, by its rows of tables_1 -/
def lw_okq (q : MethodName × Nat) : Prop := (q.1.cls ≠ "java/lang/invoke/MethodHandle" ∧ q.1.cls ≠ "java/lang/invoke/VarHandle") ∧ Cond.instantiable q.1.cls q.2 ∈ tables_1 ∧ Cond.privateMethod q.1 ∈ tables_1 ∧ Cond.instanceMethod q.1 ∈ tables_1
theorem lw_p0 : lw_okq (⟨"StackStates$Program", "parseInstruction", "(LStackStates$Text;I)I"⟩, 9) := ⟨⟨by decide +kernel, by decide +kernel⟩, List.mem_of_getElem? (i := 141) (by decide +kernel), List.mem_of_getElem? (i := 376) (by decide +kernel), List.mem_of_getElem? (i := 377) (by decide +kernel)⟩
theorem lw_p1 : lw_okq (⟨"StackStates$Program", "nextToConsider", "()I"⟩, 9) := ⟨⟨by decide +kernel, by decide +kernel⟩, List.mem_of_getElem? (i := 141) (by decide +kernel), List.mem_of_getElem? (i := 466) (by decide +kernel), List.mem_of_getElem? (i := 467) (by decide +kernel)⟩
theorem lw_p2 : lw_okq (⟨"StackStates$Program", "passOn", "(ILStackStates$Causes;)Z"⟩, 9) := ⟨⟨by decide +kernel, by decide +kernel⟩, List.mem_of_getElem? (i := 141) (by decide +kernel), List.mem_of_getElem? (i := 474) (by decide +kernel), List.mem_of_getElem? (i := 475) (by decide +kernel)⟩
theorem lw_p3 : lw_okq (⟨"StackStates$Program", "accepts", "(II)Z"⟩, 9) := ⟨⟨by decide +kernel, by decide +kernel⟩, List.mem_of_getElem? (i := 141) (by decide +kernel), List.mem_of_getElem? (i := 489) (by decide +kernel), List.mem_of_getElem? (i := 490) (by decide +kernel)⟩
theorem lw_p4 : lw_okq (⟨"StackStates", "refresh", "()V"⟩, 8) := ⟨⟨by decide +kernel, by decide +kernel⟩, List.mem_of_getElem? (i := 19) (by decide +kernel), List.mem_of_getElem? (i := 497) (by decide +kernel), List.mem_of_getElem? (i := 498) (by decide +kernel)⟩
theorem lw_p5 : lw_okq (⟨"StackStates$Machine", "listStates", "()V"⟩, 9) := ⟨⟨by decide +kernel, by decide +kernel⟩, List.mem_of_getElem? (i := 104) (by decide +kernel), List.mem_of_getElem? (i := 505) (by decide +kernel), List.mem_of_getElem? (i := 506) (by decide +kernel)⟩
theorem lw_p6 : lw_okq (⟨"StackStates$Machine", "listState", "(II)V"⟩, 9) := ⟨⟨by decide +kernel, by decide +kernel⟩, List.mem_of_getElem? (i := 104) (by decide +kernel), List.mem_of_getElem? (i := 509) (by decide +kernel), List.mem_of_getElem? (i := 510) (by decide +kernel)⟩
theorem lw_p7 : lw_okq (⟨"StackStates$Machine", "cheapestPassage", "(II)I"⟩, 9) := ⟨⟨by decide +kernel, by decide +kernel⟩, List.mem_of_getElem? (i := 104) (by decide +kernel), List.mem_of_getElem? (i := 526) (by decide +kernel), List.mem_of_getElem? (i := 527) (by decide +kernel)⟩
theorem lw_p8 : lw_okq (⟨"StackStates$Machine", "goesRound", "(III)Z"⟩, 9) := ⟨⟨by decide +kernel, by decide +kernel⟩, List.mem_of_getElem? (i := 104) (by decide +kernel), List.mem_of_getElem? (i := 535) (by decide +kernel), List.mem_of_getElem? (i := 536) (by decide +kernel)⟩
theorem lw_p9 : lw_okq (⟨"StackStates$Machine", "keeps", "(III)Z"⟩, 9) := ⟨⟨by decide +kernel, by decide +kernel⟩, List.mem_of_getElem? (i := 104) (by decide +kernel), List.mem_of_getElem? (i := 539) (by decide +kernel), List.mem_of_getElem? (i := 540) (by decide +kernel)⟩
theorem lw_p10 : lw_okq (⟨"StackStates", "isInstruction", "(I)Z"⟩, 8) := ⟨⟨by decide +kernel, by decide +kernel⟩, List.mem_of_getElem? (i := 19) (by decide +kernel), List.mem_of_getElem? (i := 610) (by decide +kernel), List.mem_of_getElem? (i := 611) (by decide +kernel)⟩
theorem lw_p11 : lw_okq (⟨"StackStates", "isState", "(I)Z"⟩, 8) := ⟨⟨by decide +kernel, by decide +kernel⟩, List.mem_of_getElem? (i := 19) (by decide +kernel), List.mem_of_getElem? (i := 665) (by decide +kernel), List.mem_of_getElem? (i := 666) (by decide +kernel)⟩
theorem lw_p12 : lw_okq (⟨"StackStates$Machine", "worksInRegisters", "(II)Z"⟩, 9) := ⟨⟨by decide +kernel, by decide +kernel⟩, List.mem_of_getElem? (i := 104) (by decide +kernel), List.mem_of_getElem? (i := 690) (by decide +kernel), List.mem_of_getElem? (i := 691) (by decide +kernel)⟩
theorem lw_p13 : lw_okq (⟨"StackStates$Chooser", "prepare", "()V"⟩, 19) := ⟨⟨by decide +kernel, by decide +kernel⟩, List.mem_of_getElem? (i := 189) (by decide +kernel), List.mem_of_getElem? (i := 720) (by decide +kernel), List.mem_of_getElem? (i := 721) (by decide +kernel)⟩
theorem lw_p14 : lw_okq (⟨"StackStates$Chooser", "listLegal", "(I)V"⟩, 19) := ⟨⟨by decide +kernel, by decide +kernel⟩, List.mem_of_getElem? (i := 189) (by decide +kernel), List.mem_of_getElem? (i := 725) (by decide +kernel), List.mem_of_getElem? (i := 726) (by decide +kernel)⟩
theorem lw_p15 : lw_okq (⟨"StackStates$Chooser", "listExit", "(II)V"⟩, 19) := ⟨⟨by decide +kernel, by decide +kernel⟩, List.mem_of_getElem? (i := 189) (by decide +kernel), List.mem_of_getElem? (i := 734) (by decide +kernel), List.mem_of_getElem? (i := 735) (by decide +kernel)⟩
def lw_privs_1 : List (MethodName × Nat) := [(⟨"StackStates$Program", "parseInstruction", "(LStackStates$Text;I)I"⟩, 9), (⟨"StackStates$Program", "nextToConsider", "()I"⟩, 9), (⟨"StackStates$Program", "passOn", "(ILStackStates$Causes;)Z"⟩, 9), (⟨"StackStates$Program", "accepts", "(II)Z"⟩, 9), (⟨"StackStates", "refresh", "()V"⟩, 8), (⟨"StackStates$Machine", "listStates", "()V"⟩, 9), (⟨"StackStates$Machine", "listState", "(II)V"⟩, 9), (⟨"StackStates$Machine", "cheapestPassage", "(II)I"⟩, 9), (⟨"StackStates$Machine", "goesRound", "(III)Z"⟩, 9), (⟨"StackStates$Machine", "keeps", "(III)Z"⟩, 9), (⟨"StackStates", "isInstruction", "(I)Z"⟩, 8), (⟨"StackStates", "isState", "(I)Z"⟩, 8), (⟨"StackStates$Machine", "worksInRegisters", "(II)Z"⟩, 9), (⟨"StackStates$Chooser", "prepare", "()V"⟩, 19), (⟨"StackStates$Chooser", "listLegal", "(I)V"⟩, 19), (⟨"StackStates$Chooser", "listExit", "(II)V"⟩, 19)]
theorem lw_r1 : ∀ q ∈ lw_privs_1, lw_okq q := List.forall_mem_cons.mpr ⟨lw_p0, List.forall_mem_cons.mpr ⟨lw_p1, List.forall_mem_cons.mpr ⟨lw_p2, List.forall_mem_cons.mpr ⟨lw_p3, List.forall_mem_cons.mpr ⟨lw_p4, List.forall_mem_cons.mpr ⟨lw_p5, List.forall_mem_cons.mpr ⟨lw_p6, List.forall_mem_cons.mpr ⟨lw_p7, List.forall_mem_cons.mpr ⟨lw_p8, List.forall_mem_cons.mpr ⟨lw_p9, List.forall_mem_cons.mpr ⟨lw_p10, List.forall_mem_cons.mpr ⟨lw_p11, List.forall_mem_cons.mpr ⟨lw_p12, List.forall_mem_cons.mpr ⟨lw_p13, List.forall_mem_cons.mpr ⟨lw_p14, List.forall_mem_cons.mpr ⟨lw_p15, fun _ h => absurd h List.not_mem_nil⟩⟩⟩⟩⟩⟩⟩⟩⟩⟩⟩⟩⟩⟩⟩⟩
theorem lw_p16 : lw_okq (⟨"StackStates$Chooser", "tryAllPins", "(Z)V"⟩, 19) := ⟨⟨by decide +kernel, by decide +kernel⟩, List.mem_of_getElem? (i := 189) (by decide +kernel), List.mem_of_getElem? (i := 738) (by decide +kernel), List.mem_of_getElem? (i := 739) (by decide +kernel)⟩
theorem lw_p17 : lw_okq (⟨"StackStates$Chooser", "pinCount", "(I)I"⟩, 19) := ⟨⟨by decide +kernel, by decide +kernel⟩, List.mem_of_getElem? (i := 189) (by decide +kernel), List.mem_of_getElem? (i := 747) (by decide +kernel), List.mem_of_getElem? (i := 748) (by decide +kernel)⟩
theorem lw_p18 : lw_okq (⟨"StackStates$Chooser", "pin", "(II)V"⟩, 19) := ⟨⟨by decide +kernel, by decide +kernel⟩, List.mem_of_getElem? (i := 189) (by decide +kernel), List.mem_of_getElem? (i := 751) (by decide +kernel), List.mem_of_getElem? (i := 752) (by decide +kernel)⟩
theorem lw_p19 : lw_okq (⟨"StackStates$Chooser", "walkBack", "()V"⟩, 19) := ⟨⟨by decide +kernel, by decide +kernel⟩, List.mem_of_getElem? (i := 189) (by decide +kernel), List.mem_of_getElem? (i := 755) (by decide +kernel), List.mem_of_getElem? (i := 756) (by decide +kernel)⟩
theorem lw_p20 : lw_okq (⟨"StackStates$Chooser", "leaving", "(II)I"⟩, 19) := ⟨⟨by decide +kernel, by decide +kernel⟩, List.mem_of_getElem? (i := 189) (by decide +kernel), List.mem_of_getElem? (i := 759) (by decide +kernel), List.mem_of_getElem? (i := 760) (by decide +kernel)⟩
theorem lw_p21 : lw_okq (⟨"StackStates$Chooser", "leading", "(II)I"⟩, 19) := ⟨⟨by decide +kernel, by decide +kernel⟩, List.mem_of_getElem? (i := 189) (by decide +kernel), List.mem_of_getElem? (i := 764) (by decide +kernel), List.mem_of_getElem? (i := 765) (by decide +kernel)⟩
theorem lw_p22 : lw_okq (⟨"StackStates$Chooser", "falling", "(II)I"⟩, 19) := ⟨⟨by decide +kernel, by decide +kernel⟩, List.mem_of_getElem? (i := 189) (by decide +kernel), List.mem_of_getElem? (i := 769) (by decide +kernel), List.mem_of_getElem? (i := 770) (by decide +kernel)⟩
theorem lw_p23 : lw_okq (⟨"StackStates$Chooser", "fallingTo", "(III)I"⟩, 19) := ⟨⟨by decide +kernel, by decide +kernel⟩, List.mem_of_getElem? (i := 189) (by decide +kernel), List.mem_of_getElem? (i := 773) (by decide +kernel), List.mem_of_getElem? (i := 774) (by decide +kernel)⟩
theorem lw_p24 : lw_okq (⟨"StackStates$Chooser", "total", "()I"⟩, 19) := ⟨⟨by decide +kernel, by decide +kernel⟩, List.mem_of_getElem? (i := 189) (by decide +kernel), List.mem_of_getElem? (i := 777) (by decide +kernel), List.mem_of_getElem? (i := 778) (by decide +kernel)⟩
theorem lw_p25 : lw_okq (⟨"StackStates$Chooser", "walkForth", "(I)V"⟩, 19) := ⟨⟨by decide +kernel, by decide +kernel⟩, List.mem_of_getElem? (i := 189) (by decide +kernel), List.mem_of_getElem? (i := 785) (by decide +kernel), List.mem_of_getElem? (i := 786) (by decide +kernel)⟩
theorem lw_p26 : lw_okq (⟨"StackStates$Chooser", "noteLeast", "(II)V"⟩, 19) := ⟨⟨by decide +kernel, by decide +kernel⟩, List.mem_of_getElem? (i := 189) (by decide +kernel), List.mem_of_getElem? (i := 789) (by decide +kernel), List.mem_of_getElem? (i := 790) (by decide +kernel)⟩
theorem lw_p27 : lw_okq (⟨"StackStates$Chooser", "carryForth", "(I)V"⟩, 19) := ⟨⟨by decide +kernel, by decide +kernel⟩, List.mem_of_getElem? (i := 189) (by decide +kernel), List.mem_of_getElem? (i := 794) (by decide +kernel), List.mem_of_getElem? (i := 795) (by decide +kernel)⟩
theorem lw_p28 : lw_okq (⟨"StackStates$Chooser", "cheapestEntry", "(II)I"⟩, 19) := ⟨⟨by decide +kernel, by decide +kernel⟩, List.mem_of_getElem? (i := 189) (by decide +kernel), List.mem_of_getElem? (i := 798) (by decide +kernel), List.mem_of_getElem? (i := 799) (by decide +kernel)⟩
theorem lw_p29 : lw_okq (⟨"StackStates$Chooser", "pick", "()V"⟩, 19) := ⟨⟨by decide +kernel, by decide +kernel⟩, List.mem_of_getElem? (i := 189) (by decide +kernel), List.mem_of_getElem? (i := 802) (by decide +kernel), List.mem_of_getElem? (i := 803) (by decide +kernel)⟩
theorem lw_p30 : lw_okq (⟨"StackStates$Run", "execute", "(II)I"⟩, 15) := ⟨⟨by decide +kernel, by decide +kernel⟩, List.mem_of_getElem? (i := 256) (by decide +kernel), List.mem_of_getElem? (i := 839) (by decide +kernel), List.mem_of_getElem? (i := 840) (by decide +kernel)⟩
theorem lw_p31 : lw_okq (⟨"StackStates$Run", "pop", "()I"⟩, 15) := ⟨⟨by decide +kernel, by decide +kernel⟩, List.mem_of_getElem? (i := 256) (by decide +kernel), List.mem_of_getElem? (i := 844) (by decide +kernel), List.mem_of_getElem? (i := 845) (by decide +kernel)⟩
def lw_privs_2 : List (MethodName × Nat) := [(⟨"StackStates$Chooser", "tryAllPins", "(Z)V"⟩, 19), (⟨"StackStates$Chooser", "pinCount", "(I)I"⟩, 19), (⟨"StackStates$Chooser", "pin", "(II)V"⟩, 19), (⟨"StackStates$Chooser", "walkBack", "()V"⟩, 19), (⟨"StackStates$Chooser", "leaving", "(II)I"⟩, 19), (⟨"StackStates$Chooser", "leading", "(II)I"⟩, 19), (⟨"StackStates$Chooser", "falling", "(II)I"⟩, 19), (⟨"StackStates$Chooser", "fallingTo", "(III)I"⟩, 19), (⟨"StackStates$Chooser", "total", "()I"⟩, 19), (⟨"StackStates$Chooser", "walkForth", "(I)V"⟩, 19), (⟨"StackStates$Chooser", "noteLeast", "(II)V"⟩, 19), (⟨"StackStates$Chooser", "carryForth", "(I)V"⟩, 19), (⟨"StackStates$Chooser", "cheapestEntry", "(II)I"⟩, 19), (⟨"StackStates$Chooser", "pick", "()V"⟩, 19), (⟨"StackStates$Run", "execute", "(II)I"⟩, 15), (⟨"StackStates$Run", "pop", "()I"⟩, 15)]
theorem lw_r2 : ∀ q ∈ lw_privs_2, lw_okq q := List.forall_mem_cons.mpr ⟨lw_p16, List.forall_mem_cons.mpr ⟨lw_p17, List.forall_mem_cons.mpr ⟨lw_p18, List.forall_mem_cons.mpr ⟨lw_p19, List.forall_mem_cons.mpr ⟨lw_p20, List.forall_mem_cons.mpr ⟨lw_p21, List.forall_mem_cons.mpr ⟨lw_p22, List.forall_mem_cons.mpr ⟨lw_p23, List.forall_mem_cons.mpr ⟨lw_p24, List.forall_mem_cons.mpr ⟨lw_p25, List.forall_mem_cons.mpr ⟨lw_p26, List.forall_mem_cons.mpr ⟨lw_p27, List.forall_mem_cons.mpr ⟨lw_p28, List.forall_mem_cons.mpr ⟨lw_p29, List.forall_mem_cons.mpr ⟨lw_p30, List.forall_mem_cons.mpr ⟨lw_p31, fun _ h => absurd h List.not_mem_nil⟩⟩⟩⟩⟩⟩⟩⟩⟩⟩⟩⟩⟩⟩⟩⟩
theorem lw_p32 : lw_okq (⟨"StackStates$Run", "push", "(I)V"⟩, 15) := ⟨⟨by decide +kernel, by decide +kernel⟩, List.mem_of_getElem? (i := 256) (by decide +kernel), List.mem_of_getElem? (i := 848) (by decide +kernel), List.mem_of_getElem? (i := 849) (by decide +kernel)⟩
theorem lw_p33 : lw_okq (⟨"StackStates$Run", "calculate", "(I)V"⟩, 15) := ⟨⟨by decide +kernel, by decide +kernel⟩, List.mem_of_getElem? (i := 256) (by decide +kernel), List.mem_of_getElem? (i := 852) (by decide +kernel), List.mem_of_getElem? (i := 853) (by decide +kernel)⟩
theorem lw_p34 : lw_okq (⟨"StackStates$Run", "rearrange", "(I)V"⟩, 15) := ⟨⟨by decide +kernel, by decide +kernel⟩, List.mem_of_getElem? (i := 256) (by decide +kernel), List.mem_of_getElem? (i := 856) (by decide +kernel), List.mem_of_getElem? (i := 857) (by decide +kernel)⟩
theorem lw_p35 : lw_okq (⟨"StackStatesModel", "lays", "(III)V"⟩, 55) := ⟨⟨by decide +kernel, by decide +kernel⟩, List.mem_of_getElem? (i := 904) (by decide +kernel), List.mem_of_getElem? (i := 910) (by decide +kernel), List.mem_of_getElem? (i := 911) (by decide +kernel)⟩
theorem lw_p36 : lw_okq (⟨"StackStatesModel", "takesProgram", "()V"⟩, 55) := ⟨⟨by decide +kernel, by decide +kernel⟩, List.mem_of_getElem? (i := 904) (by decide +kernel), List.mem_of_getElem? (i := 914) (by decide +kernel), List.mem_of_getElem? (i := 915) (by decide +kernel)⟩
theorem lw_p37 : lw_okq (⟨"StackStatesModel", "findsDepths", "()Z"⟩, 55) := ⟨⟨by decide +kernel, by decide +kernel⟩, List.mem_of_getElem? (i := 904) (by decide +kernel), List.mem_of_getElem? (i := 918) (by decide +kernel), List.mem_of_getElem? (i := 919) (by decide +kernel)⟩
theorem lw_p38 : lw_okq (⟨"StackStatesModel", "lowest", "()I"⟩, 55) := ⟨⟨by decide +kernel, by decide +kernel⟩, List.mem_of_getElem? (i := 904) (by decide +kernel), List.mem_of_getElem? (i := 922) (by decide +kernel), List.mem_of_getElem? (i := 923) (by decide +kernel)⟩
theorem lw_p39 : lw_okq (⟨"StackStatesModel", "takesOne", "(I)Z"⟩, 55) := ⟨⟨by decide +kernel, by decide +kernel⟩, List.mem_of_getElem? (i := 904) (by decide +kernel), List.mem_of_getElem? (i := 926) (by decide +kernel), List.mem_of_getElem? (i := 927) (by decide +kernel)⟩
theorem lw_p40 : lw_okq (⟨"StackStatesModel", "refuses", "(III)I"⟩, 55) := ⟨⟨by decide +kernel, by decide +kernel⟩, List.mem_of_getElem? (i := 904) (by decide +kernel), List.mem_of_getElem? (i := 936) (by decide +kernel), List.mem_of_getElem? (i := 937) (by decide +kernel)⟩
theorem lw_p41 : lw_okq (⟨"StackStatesModel", "finds", "()I"⟩, 55) := ⟨⟨by decide +kernel, by decide +kernel⟩, List.mem_of_getElem? (i := 904) (by decide +kernel), List.mem_of_getElem? (i := 1127) (by decide +kernel), List.mem_of_getElem? (i := 1128) (by decide +kernel)⟩
theorem lw_p42 : lw_okq (⟨"StackStatesModel", "reads", "()I"⟩, 55) := ⟨⟨by decide +kernel, by decide +kernel⟩, List.mem_of_getElem? (i := 904) (by decide +kernel), List.mem_of_getElem? (i := 1131) (by decide +kernel), List.mem_of_getElem? (i := 1132) (by decide +kernel)⟩
theorem lw_p43 : lw_okq (⟨"StackStatesModel", "isFigure", "(I)Z"⟩, 55) := ⟨⟨by decide +kernel, by decide +kernel⟩, List.mem_of_getElem? (i := 904) (by decide +kernel), List.mem_of_getElem? (i := 1141) (by decide +kernel), List.mem_of_getElem? (i := 1142) (by decide +kernel)⟩
theorem lw_p44 : lw_okq (⟨"StackStatesModel", "isCode", "(I)Z"⟩, 55) := ⟨⟨by decide +kernel, by decide +kernel⟩, List.mem_of_getElem? (i := 904) (by decide +kernel), List.mem_of_getElem? (i := 1157) (by decide +kernel), List.mem_of_getElem? (i := 1158) (by decide +kernel)⟩
theorem lw_p45 : lw_okq (⟨"StackStatesModel", "notes", "()V"⟩, 55) := ⟨⟨by decide +kernel, by decide +kernel⟩, List.mem_of_getElem? (i := 904) (by decide +kernel), List.mem_of_getElem? (i := 1165) (by decide +kernel), List.mem_of_getElem? (i := 1166) (by decide +kernel)⟩
theorem lw_p46 : lw_okq (⟨"StackStatesModel", "forgets", "()V"⟩, 55) := ⟨⟨by decide +kernel, by decide +kernel⟩, List.mem_of_getElem? (i := 904) (by decide +kernel), List.mem_of_getElem? (i := 1169) (by decide +kernel), List.mem_of_getElem? (i := 1170) (by decide +kernel)⟩
theorem lw_p47 : lw_okq (⟨"StackStatesModel", "laysStates", "()V"⟩, 55) := ⟨⟨by decide +kernel, by decide +kernel⟩, List.mem_of_getElem? (i := 904) (by decide +kernel), List.mem_of_getElem? (i := 1196) (by decide +kernel), List.mem_of_getElem? (i := 1197) (by decide +kernel)⟩
def lw_privs_3 : List (MethodName × Nat) := [(⟨"StackStates$Run", "push", "(I)V"⟩, 15), (⟨"StackStates$Run", "calculate", "(I)V"⟩, 15), (⟨"StackStates$Run", "rearrange", "(I)V"⟩, 15), (⟨"StackStatesModel", "lays", "(III)V"⟩, 55), (⟨"StackStatesModel", "takesProgram", "()V"⟩, 55), (⟨"StackStatesModel", "findsDepths", "()Z"⟩, 55), (⟨"StackStatesModel", "lowest", "()I"⟩, 55), (⟨"StackStatesModel", "takesOne", "(I)Z"⟩, 55), (⟨"StackStatesModel", "refuses", "(III)I"⟩, 55), (⟨"StackStatesModel", "finds", "()I"⟩, 55), (⟨"StackStatesModel", "reads", "()I"⟩, 55), (⟨"StackStatesModel", "isFigure", "(I)Z"⟩, 55), (⟨"StackStatesModel", "isCode", "(I)Z"⟩, 55), (⟨"StackStatesModel", "notes", "()V"⟩, 55), (⟨"StackStatesModel", "forgets", "()V"⟩, 55), (⟨"StackStatesModel", "laysStates", "()V"⟩, 55)]
theorem lw_r3 : ∀ q ∈ lw_privs_3, lw_okq q := List.forall_mem_cons.mpr ⟨lw_p32, List.forall_mem_cons.mpr ⟨lw_p33, List.forall_mem_cons.mpr ⟨lw_p34, List.forall_mem_cons.mpr ⟨lw_p35, List.forall_mem_cons.mpr ⟨lw_p36, List.forall_mem_cons.mpr ⟨lw_p37, List.forall_mem_cons.mpr ⟨lw_p38, List.forall_mem_cons.mpr ⟨lw_p39, List.forall_mem_cons.mpr ⟨lw_p40, List.forall_mem_cons.mpr ⟨lw_p41, List.forall_mem_cons.mpr ⟨lw_p42, List.forall_mem_cons.mpr ⟨lw_p43, List.forall_mem_cons.mpr ⟨lw_p44, List.forall_mem_cons.mpr ⟨lw_p45, List.forall_mem_cons.mpr ⟨lw_p46, List.forall_mem_cons.mpr ⟨lw_p47, fun _ h => absurd h List.not_mem_nil⟩⟩⟩⟩⟩⟩⟩⟩⟩⟩⟩⟩⟩⟩⟩⟩
theorem lw_p48 : lw_okq (⟨"StackStatesModel", "adds", "(IIII)V"⟩, 55) := ⟨⟨by decide +kernel, by decide +kernel⟩, List.mem_of_getElem? (i := 904) (by decide +kernel), List.mem_of_getElem? (i := 1200) (by decide +kernel), List.mem_of_getElem? (i := 1201) (by decide +kernel)⟩
theorem lw_p49 : lw_okq (⟨"StackStatesModel", "isState", "(I)Z"⟩, 55) := ⟨⟨by decide +kernel, by decide +kernel⟩, List.mem_of_getElem? (i := 904) (by decide +kernel), List.mem_of_getElem? (i := 1208) (by decide +kernel), List.mem_of_getElem? (i := 1209) (by decide +kernel)⟩
theorem lw_p50 : lw_okq (⟨"StackStatesModel", "hasVersion", "(II)Z"⟩, 55) := ⟨⟨by decide +kernel, by decide +kernel⟩, List.mem_of_getElem? (i := 904) (by decide +kernel), List.mem_of_getElem? (i := 1216) (by decide +kernel), List.mem_of_getElem? (i := 1217) (by decide +kernel)⟩
theorem lw_p51 : lw_okq (⟨"StackStatesModel", "turnsRegisters", "(II)V"⟩, 55) := ⟨⟨by decide +kernel, by decide +kernel⟩, List.mem_of_getElem? (i := 904) (by decide +kernel), List.mem_of_getElem? (i := 1220) (by decide +kernel), List.mem_of_getElem? (i := 1221) (by decide +kernel)⟩
theorem lw_p52 : lw_okq (⟨"StackStatesModel", "stateOf", "(IIII)I"⟩, 55) := ⟨⟨by decide +kernel, by decide +kernel⟩, List.mem_of_getElem? (i := 904) (by decide +kernel), List.mem_of_getElem? (i := 1224) (by decide +kernel), List.mem_of_getElem? (i := 1225) (by decide +kernel)⟩
theorem lw_p53 : lw_okq (⟨"StackStatesModel", "leavesRest", "(II)V"⟩, 55) := ⟨⟨by decide +kernel, by decide +kernel⟩, List.mem_of_getElem? (i := 904) (by decide +kernel), List.mem_of_getElem? (i := 1228) (by decide +kernel), List.mem_of_getElem? (i := 1229) (by decide +kernel)⟩
theorem lw_p54 : lw_okq (⟨"StackStatesModel", "freeIn", "(I)I"⟩, 55) := ⟨⟨by decide +kernel, by decide +kernel⟩, List.mem_of_getElem? (i := 904) (by decide +kernel), List.mem_of_getElem? (i := 1232) (by decide +kernel), List.mem_of_getElem? (i := 1233) (by decide +kernel)⟩
theorem lw_p55 : lw_okq (⟨"StackStatesModel", "laysPassages", "()V"⟩, 55) := ⟨⟨by decide +kernel, by decide +kernel⟩, List.mem_of_getElem? (i := 904) (by decide +kernel), List.mem_of_getElem? (i := 1240) (by decide +kernel), List.mem_of_getElem? (i := 1241) (by decide +kernel)⟩
theorem lw_p56 : lw_okq (⟨"StackStatesModel", "laysFrom", "(I)V"⟩, 55) := ⟨⟨by decide +kernel, by decide +kernel⟩, List.mem_of_getElem? (i := 904) (by decide +kernel), List.mem_of_getElem? (i := 1244) (by decide +kernel), List.mem_of_getElem? (i := 1245) (by decide +kernel)⟩
theorem lw_p57 : lw_okq (⟨"StackStatesModel", "goesBehind", "(I)V"⟩, 55) := ⟨⟨by decide +kernel, by decide +kernel⟩, List.mem_of_getElem? (i := 904) (by decide +kernel), List.mem_of_getElem? (i := 1252) (by decide +kernel), List.mem_of_getElem? (i := 1253) (by decide +kernel)⟩
theorem lw_p58 : lw_okq (⟨"StackStatesModel", "nearer", "(II)V"⟩, 55) := ⟨⟨by decide +kernel, by decide +kernel⟩, List.mem_of_getElem? (i := 904) (by decide +kernel), List.mem_of_getElem? (i := 1259) (by decide +kernel), List.mem_of_getElem? (i := 1260) (by decide +kernel)⟩
theorem lw_p59 : lw_okq (⟨"StackStatesModel", "isAt", "(II)Z"⟩, 55) := ⟨⟨by decide +kernel, by decide +kernel⟩, List.mem_of_getElem? (i := 904) (by decide +kernel), List.mem_of_getElem? (i := 1263) (by decide +kernel), List.mem_of_getElem? (i := 1264) (by decide +kernel)⟩
theorem lw_p60 : lw_okq (⟨"StackStatesModel", "laysBest", "()V"⟩, 55) := ⟨⟨by decide +kernel, by decide +kernel⟩, List.mem_of_getElem? (i := 904) (by decide +kernel), List.mem_of_getElem? (i := 1271) (by decide +kernel), List.mem_of_getElem? (i := 1272) (by decide +kernel)⟩
theorem lw_p61 : lw_okq (⟨"StackStatesModel", "search", "()I"⟩, 55) := ⟨⟨by decide +kernel, by decide +kernel⟩, List.mem_of_getElem? (i := 904) (by decide +kernel), List.mem_of_getElem? (i := 1275) (by decide +kernel), List.mem_of_getElem? (i := 1276) (by decide +kernel)⟩
theorem lw_p62 : lw_okq (⟨"StackStatesModel", "laysVersions", "()V"⟩, 55) := ⟨⟨by decide +kernel, by decide +kernel⟩, List.mem_of_getElem? (i := 904) (by decide +kernel), List.mem_of_getElem? (i := 1279) (by decide +kernel), List.mem_of_getElem? (i := 1280) (by decide +kernel)⟩
theorem lw_p63 : lw_okq (⟨"StackStatesModel", "total", "()I"⟩, 55) := ⟨⟨by decide +kernel, by decide +kernel⟩, List.mem_of_getElem? (i := 904) (by decide +kernel), List.mem_of_getElem? (i := 1283) (by decide +kernel), List.mem_of_getElem? (i := 1284) (by decide +kernel)⟩
def lw_privs_4 : List (MethodName × Nat) := [(⟨"StackStatesModel", "adds", "(IIII)V"⟩, 55), (⟨"StackStatesModel", "isState", "(I)Z"⟩, 55), (⟨"StackStatesModel", "hasVersion", "(II)Z"⟩, 55), (⟨"StackStatesModel", "turnsRegisters", "(II)V"⟩, 55), (⟨"StackStatesModel", "stateOf", "(IIII)I"⟩, 55), (⟨"StackStatesModel", "leavesRest", "(II)V"⟩, 55), (⟨"StackStatesModel", "freeIn", "(I)I"⟩, 55), (⟨"StackStatesModel", "laysPassages", "()V"⟩, 55), (⟨"StackStatesModel", "laysFrom", "(I)V"⟩, 55), (⟨"StackStatesModel", "goesBehind", "(I)V"⟩, 55), (⟨"StackStatesModel", "nearer", "(II)V"⟩, 55), (⟨"StackStatesModel", "isAt", "(II)Z"⟩, 55), (⟨"StackStatesModel", "laysBest", "()V"⟩, 55), (⟨"StackStatesModel", "search", "()I"⟩, 55), (⟨"StackStatesModel", "laysVersions", "()V"⟩, 55), (⟨"StackStatesModel", "total", "()I"⟩, 55)]
theorem lw_r4 : ∀ q ∈ lw_privs_4, lw_okq q := List.forall_mem_cons.mpr ⟨lw_p48, List.forall_mem_cons.mpr ⟨lw_p49, List.forall_mem_cons.mpr ⟨lw_p50, List.forall_mem_cons.mpr ⟨lw_p51, List.forall_mem_cons.mpr ⟨lw_p52, List.forall_mem_cons.mpr ⟨lw_p53, List.forall_mem_cons.mpr ⟨lw_p54, List.forall_mem_cons.mpr ⟨lw_p55, List.forall_mem_cons.mpr ⟨lw_p56, List.forall_mem_cons.mpr ⟨lw_p57, List.forall_mem_cons.mpr ⟨lw_p58, List.forall_mem_cons.mpr ⟨lw_p59, List.forall_mem_cons.mpr ⟨lw_p60, List.forall_mem_cons.mpr ⟨lw_p61, List.forall_mem_cons.mpr ⟨lw_p62, List.forall_mem_cons.mpr ⟨lw_p63, fun _ h => absurd h List.not_mem_nil⟩⟩⟩⟩⟩⟩⟩⟩⟩⟩⟩⟩⟩⟩⟩⟩
theorem lw_p64 : lw_okq (⟨"StackStatesModel", "leastOf", "(II)I"⟩, 55) := ⟨⟨by decide +kernel, by decide +kernel⟩, List.mem_of_getElem? (i := 904) (by decide +kernel), List.mem_of_getElem? (i := 1287) (by decide +kernel), List.mem_of_getElem? (i := 1288) (by decide +kernel)⟩
theorem lw_p65 : lw_okq (⟨"StackStatesModel", "onTo", "(III)I"⟩, 55) := ⟨⟨by decide +kernel, by decide +kernel⟩, List.mem_of_getElem? (i := 904) (by decide +kernel), List.mem_of_getElem? (i := 1291) (by decide +kernel), List.mem_of_getElem? (i := 1292) (by decide +kernel)⟩
theorem lw_p66 : lw_okq (⟨"StackStatesModel", "follows", "(II)V"⟩, 55) := ⟨⟨by decide +kernel, by decide +kernel⟩, List.mem_of_getElem? (i := 904) (by decide +kernel), List.mem_of_getElem? (i := 1295) (by decide +kernel), List.mem_of_getElem? (i := 1296) (by decide +kernel)⟩
theorem lw_p67 : lw_okq (⟨"StackStatesModel", "stepsOnce", "()V"⟩, 55) := ⟨⟨by decide +kernel, by decide +kernel⟩, List.mem_of_getElem? (i := 904) (by decide +kernel), List.mem_of_getElem? (i := 1315) (by decide +kernel), List.mem_of_getElem? (i := 1316) (by decide +kernel)⟩
theorem lw_p68 : lw_okq (⟨"StackStatesModel", "does", "(I)Z"⟩, 55) := ⟨⟨by decide +kernel, by decide +kernel⟩, List.mem_of_getElem? (i := 904) (by decide +kernel), List.mem_of_getElem? (i := 1319) (by decide +kernel), List.mem_of_getElem? (i := 1320) (by decide +kernel)⟩
theorem lw_p69 : lw_okq (⟨"StackStatesModel", "pushes", "(I)V"⟩, 55) := ⟨⟨by decide +kernel, by decide +kernel⟩, List.mem_of_getElem? (i := 904) (by decide +kernel), List.mem_of_getElem? (i := 1323) (by decide +kernel), List.mem_of_getElem? (i := 1324) (by decide +kernel)⟩
theorem lw_p70 : lw_okq (⟨"StackStatesModel", "reckons", "(I)V"⟩, 55) := ⟨⟨by decide +kernel, by decide +kernel⟩, List.mem_of_getElem? (i := 904) (by decide +kernel), List.mem_of_getElem? (i := 1327) (by decide +kernel), List.mem_of_getElem? (i := 1328) (by decide +kernel)⟩
theorem lw_p71 : lw_okq (⟨"StackStatesModel", "pops", "()I"⟩, 55) := ⟨⟨by decide +kernel, by decide +kernel⟩, List.mem_of_getElem? (i := 904) (by decide +kernel), List.mem_of_getElem? (i := 1331) (by decide +kernel), List.mem_of_getElem? (i := 1332) (by decide +kernel)⟩
theorem lw_p72 : lw_okq (⟨"StackStatesModel", "rolls", "(I)V"⟩, 55) := ⟨⟨by decide +kernel, by decide +kernel⟩, List.mem_of_getElem? (i := 904) (by decide +kernel), List.mem_of_getElem? (i := 1335) (by decide +kernel), List.mem_of_getElem? (i := 1336) (by decide +kernel)⟩
def lw_privs_5 : List (MethodName × Nat) := [(⟨"StackStatesModel", "leastOf", "(II)I"⟩, 55), (⟨"StackStatesModel", "onTo", "(III)I"⟩, 55), (⟨"StackStatesModel", "follows", "(II)V"⟩, 55), (⟨"StackStatesModel", "stepsOnce", "()V"⟩, 55), (⟨"StackStatesModel", "does", "(I)Z"⟩, 55), (⟨"StackStatesModel", "pushes", "(I)V"⟩, 55), (⟨"StackStatesModel", "reckons", "(I)V"⟩, 55), (⟨"StackStatesModel", "pops", "()I"⟩, 55), (⟨"StackStatesModel", "rolls", "(I)V"⟩, 55)]
theorem lw_r5 : ∀ q ∈ lw_privs_5, lw_okq q := List.forall_mem_cons.mpr ⟨lw_p64, List.forall_mem_cons.mpr ⟨lw_p65, List.forall_mem_cons.mpr ⟨lw_p66, List.forall_mem_cons.mpr ⟨lw_p67, List.forall_mem_cons.mpr ⟨lw_p68, List.forall_mem_cons.mpr ⟨lw_p69, List.forall_mem_cons.mpr ⟨lw_p70, List.forall_mem_cons.mpr ⟨lw_p71, List.forall_mem_cons.mpr ⟨lw_p72, fun _ h => absurd h List.not_mem_nil⟩⟩⟩⟩⟩⟩⟩⟩⟩
def lw_privs : List (MethodName × Nat) := lw_privs_1 ++ (lw_privs_2 ++ (lw_privs_3 ++ (lw_privs_4 ++ (lw_privs_5))))
def lw_tbl : List Cond := k2_sels lw_privs ++ tables_1
theorem lw_privs_ok : ∀ q ∈ lw_privs, lw_okq q := by
  show ∀ q ∈ lw_privs_1 ++ (lw_privs_2 ++ (lw_privs_3 ++ (lw_privs_4 ++ (lw_privs_5)))), lw_okq q
  exact List.forall_mem_append.mpr ⟨lw_r1, List.forall_mem_append.mpr ⟨lw_r2, List.forall_mem_append.mpr ⟨lw_r3, List.forall_mem_append.mpr ⟨lw_r4, lw_r5⟩⟩⟩⟩
def RX0 : String := "StackStates$Causes"
def TX0 : u_T := fun k => match k with
  | 0 => ("StackStates$Causes", "list", "[I", true)
  | _ => ("StackStates$Causes", "length", "I", false)
def tyX0 : Nat → FieldType := fun k => match k with
  | 0 => .array .int
  | _ => .int
abbrev wsX00 : List Cond := u_ws RX0 TX0 2
theorem nmX0 : ∀ a, a < 2 → ∀ b, b < 2 → a ≠ b → (TX0 a).2.1 ≠ (TX0 b).2.1 := by decide +kernel
theorem tyX0_ok : ∀ k, k < 2 → parseFieldDescriptor (TX0 k).2.2.1 = some (tyX0 k) := by decide +kernel
abbrev cX0_init : ByteArray := prog_2_method_1_code
def yX0_init : MethodName := ⟨RX0, "<init>", "()V"⟩
abbrev cX0_append : ByteArray := prog_2_method_2_code
def yX0_append : MethodName := ⟨RX0, "append", "(I)V"⟩
def RX1 : String := "StackStates$Chooser"
def TX1 : u_T := fun k => match k with
  | 0 => ("StackStates$Chooser", "program", "LStackStates$Program;", true)
  | 1 => ("StackStates$Chooser", "machine", "LStackStates$Machine;", true)
  | 2 => ("StackStates$Chooser", "passages", "[I", true)
  | 3 => ("StackStates$Chooser", "weights", "[I", true)
  | 4 => ("StackStates$Chooser", "legal", "[I", true)
  | 5 => ("StackStates$Chooser", "legals", "[I", true)
  | 6 => ("StackStates$Chooser", "exits", "[I", true)
  | 7 => ("StackStates$Chooser", "exitCounts", "[I", true)
  | 8 => ("StackStates$Chooser", "after", "[I", true)
  | 9 => ("StackStates$Chooser", "price", "[I", true)
  | 10 => ("StackStates$Chooser", "onward", "[I", true)
  | 11 => ("StackStates$Chooser", "backward", "[I", true)
  | 12 => ("StackStates$Chooser", "least", "[I", true)
  | 13 => ("StackStates$Chooser", "pinned", "[I", true)
  | 14 => ("StackStates$Chooser", "byExit", "[I", true)
  | 15 => ("StackStates$Chooser", "chosen", "[I", true)
  | 16 => ("StackStates$Chooser", "cost", "I", false)
  | 17 => ("StackStates$Chooser", "hasChoice", "Z", false)
  | _ => ("StackStates$Chooser", "hasLeast", "Z", false)
def tyX1 : Nat → FieldType := fun k => match k with
  | 0 => .object "StackStates$Program"
  | 1 => .object "StackStates$Machine"
  | 2 => .array .int
  | 3 => .array .int
  | 4 => .array .int
  | 5 => .array .int
  | 6 => .array .int
  | 7 => .array .int
  | 8 => .array .int
  | 9 => .array .int
  | 10 => .array .int
  | 11 => .array .int
  | 12 => .array .int
  | 13 => .array .int
  | 14 => .array .int
  | 15 => .array .int
  | 16 => .int
  | 17 => .boolean
  | _ => .boolean
abbrev wsX10 : List Cond := u_ws RX1 TX1 19
theorem nmX1 : ∀ a, a < 19 → ∀ b, b < 19 → a ≠ b → (TX1 a).2.1 ≠ (TX1 b).2.1 := by decide +kernel
theorem tyX1_ok : ∀ k, k < 19 → parseFieldDescriptor (TX1 k).2.2.1 = some (tyX1 k) := by decide +kernel
abbrev cX1_init : ByteArray := prog_3_method_1_code
def yX1_init : MethodName := ⟨RX1, "<init>", "(LStackStates$Program;LStackStates$Machine;LStackStates$Settings;)V"⟩
abbrev cX1_forget : ByteArray := prog_3_method_2_code
def yX1_forget : MethodName := ⟨RX1, "forget", "()V"⟩
abbrev cX1_choose : ByteArray := prog_3_method_3_code
def yX1_choose : MethodName := ⟨RX1, "choose", "()V"⟩
abbrev cX1_findLeast : ByteArray := prog_3_method_4_code
def yX1_findLeast : MethodName := ⟨RX1, "findLeast", "()V"⟩
abbrev cX1_leastWith : ByteArray := prog_3_method_5_code
def yX1_leastWith : MethodName := ⟨RX1, "leastWith", "(II)I"⟩
abbrev cX1_prepare : ByteArray := prog_3_method_6_code
def yX1_prepare : MethodName := ⟨RX1, "prepare", "()V"⟩
abbrev cX1_listLegal : ByteArray := prog_3_method_7_code
def yX1_listLegal : MethodName := ⟨RX1, "listLegal", "(I)V"⟩
abbrev cX1_listExit : ByteArray := prog_3_method_8_code
def yX1_listExit : MethodName := ⟨RX1, "listExit", "(II)V"⟩
abbrev cX1_tryAllPins : ByteArray := prog_3_method_9_code
def yX1_tryAllPins : MethodName := ⟨RX1, "tryAllPins", "(Z)V"⟩
abbrev cX1_pinCount : ByteArray := prog_3_method_10_code
def yX1_pinCount : MethodName := ⟨RX1, "pinCount", "(I)I"⟩
abbrev cX1_pin : ByteArray := prog_3_method_11_code
def yX1_pin : MethodName := ⟨RX1, "pin", "(II)V"⟩
abbrev cX1_walkBack : ByteArray := prog_3_method_12_code
def yX1_walkBack : MethodName := ⟨RX1, "walkBack", "()V"⟩
abbrev cX1_leaving : ByteArray := prog_3_method_13_code
def yX1_leaving : MethodName := ⟨RX1, "leaving", "(II)I"⟩
abbrev cX1_leading : ByteArray := prog_3_method_14_code
def yX1_leading : MethodName := ⟨RX1, "leading", "(II)I"⟩
abbrev cX1_falling : ByteArray := prog_3_method_15_code
def yX1_falling : MethodName := ⟨RX1, "falling", "(II)I"⟩
abbrev cX1_fallingTo : ByteArray := prog_3_method_16_code
def yX1_fallingTo : MethodName := ⟨RX1, "fallingTo", "(III)I"⟩
abbrev cX1_total : ByteArray := prog_3_method_17_code
def yX1_total : MethodName := ⟨RX1, "total", "()I"⟩
abbrev cX1_walkForth : ByteArray := prog_3_method_18_code
def yX1_walkForth : MethodName := ⟨RX1, "walkForth", "(I)V"⟩
abbrev cX1_noteLeast : ByteArray := prog_3_method_19_code
def yX1_noteLeast : MethodName := ⟨RX1, "noteLeast", "(II)V"⟩
abbrev cX1_carryForth : ByteArray := prog_3_method_20_code
def yX1_carryForth : MethodName := ⟨RX1, "carryForth", "(I)V"⟩
abbrev cX1_cheapestEntry : ByteArray := prog_3_method_21_code
def yX1_cheapestEntry : MethodName := ⟨RX1, "cheapestEntry", "(II)I"⟩
abbrev cX1_pick : ByteArray := prog_3_method_22_code
def yX1_pick : MethodName := ⟨RX1, "pick", "()V"⟩
def RX2 : String := "StackStates$Machine"
def TX2 : u_T := fun k => match k with
  | 0 => ("StackStates$Machine", "registers", "I", false)
  | 1 => ("StackStates$Machine", "move", "I", false)
  | 2 => ("StackStates$Machine", "load", "I", false)
  | 3 => ("StackStates$Machine", "store", "I", false)
  | 4 => ("StackStates$Machine", "size", "I", false)
  | 5 => ("StackStates$Machine", "packed", "[I", true)
  | 6 => ("StackStates$Machine", "lengths", "[I", true)
  | 7 => ("StackStates$Machine", "numberOf", "[I", true)
  | _ => ("StackStates$Machine", "passages", "[I", true)
def tyX2 : Nat → FieldType := fun k => match k with
  | 0 => .int
  | 1 => .int
  | 2 => .int
  | 3 => .int
  | 4 => .int
  | 5 => .array .int
  | 6 => .array .int
  | 7 => .array .int
  | _ => .array .int
abbrev wsX20 : List Cond := u_ws RX2 TX2 9
theorem nmX2 : ∀ a, a < 9 → ∀ b, b < 9 → a ≠ b → (TX2 a).2.1 ≠ (TX2 b).2.1 := by decide +kernel
theorem tyX2_ok : ∀ k, k < 9 → parseFieldDescriptor (TX2 k).2.2.1 = some (tyX2 k) := by decide +kernel
abbrev cX2_init : ByteArray := prog_4_method_1_code
def yX2_init : MethodName := ⟨RX2, "<init>", "()V"⟩
abbrev cX2_equip : ByteArray := prog_4_method_2_code
def yX2_equip : MethodName := ⟨RX2, "equip", "(LStackStates$Settings;)V"⟩
abbrev cX2_listStates : ByteArray := prog_4_method_3_code
def yX2_listStates : MethodName := ⟨RX2, "listStates", "()V"⟩
abbrev cX2_listState : ByteArray := prog_4_method_4_code
def yX2_listState : MethodName := ⟨RX2, "listState", "(II)V"⟩
abbrev cX2_push : ByteArray := prog_4_method_5_code
def yX2_push : MethodName := ⟨RX2, "push", "(II)I"⟩
abbrev cX2_holds : ByteArray := prog_4_method_6_code
def yX2_holds : MethodName := ⟨RX2, "holds", "(II)Z"⟩
abbrev cX2_lengthOf : ByteArray := prog_4_method_7_code
def yX2_lengthOf : MethodName := ⟨RX2, "lengthOf", "(I)I"⟩
abbrev cX2_registerOf : ByteArray := prog_4_method_8_code
def yX2_registerOf : MethodName := ⟨RX2, "registerOf", "(II)I"⟩
abbrev cX2_passageCost : ByteArray := prog_4_method_9_code
def yX2_passageCost : MethodName := ⟨RX2, "passageCost", "(II)I"⟩
abbrev cX2_cheapestPassage : ByteArray := prog_4_method_10_code
def yX2_cheapestPassage : MethodName := ⟨RX2, "cheapestPassage", "(II)I"⟩
abbrev cX2_goesRound : ByteArray := prog_4_method_11_code
def yX2_goesRound : MethodName := ⟨RX2, "goesRound", "(III)Z"⟩
abbrev cX2_keeps : ByteArray := prog_4_method_12_code
def yX2_keeps : MethodName := ⟨RX2, "keeps", "(III)Z"⟩
abbrev cX2_hasVersion : ByteArray := prog_4_method_13_code
def yX2_hasVersion : MethodName := ⟨RX2, "hasVersion", "(II)Z"⟩
abbrev cX2_worksInRegisters : ByteArray := prog_4_method_14_code
def yX2_worksInRegisters : MethodName := ⟨RX2, "worksInRegisters", "(II)Z"⟩
abbrev cX2_isPlain : ByteArray := prog_4_method_15_code
def yX2_isPlain : MethodName := ⟨RX2, "isPlain", "(II)Z"⟩
abbrev cX2_versionCost : ByteArray := prog_4_method_16_code
def yX2_versionCost : MethodName := ⟨RX2, "versionCost", "(II)I"⟩
abbrev cX2_stateAfter : ByteArray := prog_4_method_17_code
def yX2_stateAfter : MethodName := ⟨RX2, "stateAfter", "(II)I"⟩
abbrev cX2_smallestFree : ByteArray := prog_4_method_18_code
def yX2_smallestFree : MethodName := ⟨RX2, "smallestFree", "(I)I"⟩
def RX3 : String := "StackStates$Program"
def TX3 : u_T := fun k => match k with
  | 0 => ("StackStates$Program", "kinds", "[I", true)
  | 1 => ("StackStates$Program", "numbers", "[I", true)
  | 2 => ("StackStates$Program", "places", "[I", true)
  | 3 => ("StackStates$Program", "depths", "[I", true)
  | 4 => ("StackStates$Program", "considered", "[Z", true)
  | 5 => ("StackStates$Program", "isTarget", "[Z", true)
  | 6 => ("StackStates$Program", "size", "I", false)
  | 7 => ("StackStates$Program", "reached", "I", false)
  | _ => ("StackStates$Program", "targets", "I", false)
def tyX3 : Nat → FieldType := fun k => match k with
  | 0 => .array .int
  | 1 => .array .int
  | 2 => .array .int
  | 3 => .array .int
  | 4 => .array .boolean
  | 5 => .array .boolean
  | 6 => .int
  | 7 => .int
  | _ => .int
abbrev wsX30 : List Cond := u_ws RX3 TX3 9
theorem nmX3 : ∀ a, a < 9 → ∀ b, b < 9 → a ≠ b → (TX3 a).2.1 ≠ (TX3 b).2.1 := by decide +kernel
theorem tyX3_ok : ∀ k, k < 9 → parseFieldDescriptor (TX3 k).2.2.1 = some (tyX3 k) := by decide +kernel
abbrev cX3_init : ByteArray := prog_5_method_1_code
def yX3_init : MethodName := ⟨RX3, "<init>", "()V"⟩
abbrev cX3_parse : ByteArray := prog_5_method_2_code
def yX3_parse : MethodName := ⟨RX3, "parse", "(LStackStates$Text;LStackStates$Causes;)I"⟩
abbrev cX3_faulty : ByteArray := prog_5_method_3_code
def yX3_faulty : MethodName := ⟨RX3, "faulty", "(IILStackStates$Causes;)I"⟩
abbrev cX3_parseInstruction : ByteArray := prog_5_method_4_code
def yX3_parseInstruction : MethodName := ⟨RX3, "parseInstruction", "(LStackStates$Text;I)I"⟩
abbrev cX3_findDepths : ByteArray := prog_5_method_5_code
def yX3_findDepths : MethodName := ⟨RX3, "findDepths", "(LStackStates$Causes;)Z"⟩
abbrev cX3_nextToConsider : ByteArray := prog_5_method_6_code
def yX3_nextToConsider : MethodName := ⟨RX3, "nextToConsider", "()I"⟩
abbrev cX3_passOn : ByteArray := prog_5_method_7_code
def yX3_passOn : MethodName := ⟨RX3, "passOn", "(ILStackStates$Causes;)Z"⟩
abbrev cX3_accepts : ByteArray := prog_5_method_8_code
def yX3_accepts : MethodName := ⟨RX3, "accepts", "(II)Z"⟩
abbrev cX3_flawed : ByteArray := prog_5_method_9_code
def yX3_flawed : MethodName := ⟨RX3, "flawed", "(IILStackStates$Causes;)Z"⟩
abbrev cX3_become : ByteArray := prog_5_method_10_code
def yX3_become : MethodName := ⟨RX3, "become", "(LStackStates$Program;)V"⟩
abbrev cX3_isReached : ByteArray := prog_5_method_11_code
def yX3_isReached : MethodName := ⟨RX3, "isReached", "(I)Z"⟩
abbrev cX3_falls : ByteArray := prog_5_method_12_code
def yX3_falls : MethodName := ⟨RX3, "falls", "(I)Z"⟩
abbrev cX3_leads : ByteArray := prog_5_method_13_code
def yX3_leads : MethodName := ⟨RX3, "leads", "(I)Z"⟩
abbrev cX3_isHead : ByteArray := prog_5_method_14_code
def yX3_isHead : MethodName := ⟨RX3, "isHead", "(I)Z"⟩
abbrev cX3_targetFrom : ByteArray := prog_5_method_15_code
def yX3_targetFrom : MethodName := ⟨RX3, "targetFrom", "(I)I"⟩
def RX4 : String := "StackStates$Run"
def TX4 : u_T := fun k => match k with
  | 0 => ("StackStates$Run", "program", "LStackStates$Program;", true)
  | 1 => ("StackStates$Run", "machine", "LStackStates$Machine;", true)
  | 2 => ("StackStates$Run", "chosen", "[I", true)
  | 3 => ("StackStates$Run", "cells", "[I", true)
  | 4 => ("StackStates$Run", "variables", "[I", true)
  | 5 => ("StackStates$Run", "outputs", "[I", true)
  | 6 => ("StackStates$Run", "executed", "[I", true)
  | 7 => ("StackStates$Run", "exists", "Z", false)
  | 8 => ("StackStates$Run", "ended", "Z", false)
  | 9 => ("StackStates$Run", "at", "I", false)
  | 10 => ("StackStates$Run", "present", "I", false)
  | 11 => ("StackStates$Run", "height", "I", false)
  | 12 => ("StackStates$Run", "written", "I", false)
  | 13 => ("StackStates$Run", "paid", "I", false)
  | _ => ("StackStates$Run", "steps", "I", false)
def tyX4 : Nat → FieldType := fun k => match k with
  | 0 => .object "StackStates$Program"
  | 1 => .object "StackStates$Machine"
  | 2 => .array .int
  | 3 => .array .int
  | 4 => .array .int
  | 5 => .array .int
  | 6 => .array .int
  | 7 => .boolean
  | 8 => .boolean
  | 9 => .int
  | 10 => .int
  | 11 => .int
  | 12 => .int
  | 13 => .int
  | _ => .int
abbrev wsX40 : List Cond := u_ws RX4 TX4 15
theorem nmX4 : ∀ a, a < 15 → ∀ b, b < 15 → a ≠ b → (TX4 a).2.1 ≠ (TX4 b).2.1 := by decide +kernel
theorem tyX4_ok : ∀ k, k < 15 → parseFieldDescriptor (TX4 k).2.2.1 = some (tyX4 k) := by decide +kernel
abbrev cX4_init : ByteArray := prog_6_method_1_code
def yX4_init : MethodName := ⟨RX4, "<init>", "(LStackStates$Program;LStackStates$Machine;LStackStates$Chooser;)V"⟩
abbrev cX4_begin : ByteArray := prog_6_method_2_code
def yX4_begin : MethodName := ⟨RX4, "begin", "()V"⟩
abbrev cX4_advance : ByteArray := prog_6_method_3_code
def yX4_advance : MethodName := ⟨RX4, "advance", "()V"⟩
abbrev cX4_execute : ByteArray := prog_6_method_4_code
def yX4_execute : MethodName := ⟨RX4, "execute", "(II)I"⟩
abbrev cX4_calculate : ByteArray := prog_6_method_5_code
def yX4_calculate : MethodName := ⟨RX4, "calculate", "(I)V"⟩
abbrev cX4_rearrange : ByteArray := prog_6_method_6_code
def yX4_rearrange : MethodName := ⟨RX4, "rearrange", "(I)V"⟩
abbrev cX4_push : ByteArray := prog_6_method_7_code
def yX4_push : MethodName := ⟨RX4, "push", "(I)V"⟩
abbrev cX4_pop : ByteArray := prog_6_method_8_code
def yX4_pop : MethodName := ⟨RX4, "pop", "()I"⟩
abbrev cX4_cellAt : ByteArray := prog_6_method_9_code
def yX4_cellAt : MethodName := ⟨RX4, "cellAt", "(I)I"⟩
abbrev cX4_weightOf : ByteArray := prog_6_method_10_code
def yX4_weightOf : MethodName := ⟨RX4, "weightOf", "(I)I"⟩
def RX5 : String := "StackStates$Settings"
def TX5 : u_T := fun k => match k with
  | 0 => ("StackStates$Settings", "registers", "I", false)
  | 1 => ("StackStates$Settings", "move", "I", false)
  | 2 => ("StackStates$Settings", "load", "I", false)
  | 3 => ("StackStates$Settings", "store", "I", false)
  | 4 => ("StackStates$Settings", "weights", "[I", true)
  | 5 => ("StackStates$Settings", "remembered", "I", false)
  | 6 => ("StackStates$Settings", "formerRows", "[I", true)
  | _ => ("StackStates$Settings", "nextRow", "I", false)
def tyX5 : Nat → FieldType := fun k => match k with
  | 0 => .int
  | 1 => .int
  | 2 => .int
  | 3 => .int
  | 4 => .array .int
  | 5 => .int
  | 6 => .array .int
  | _ => .int
abbrev wsX50 : List Cond := u_ws RX5 TX5 8
theorem nmX5 : ∀ a, a < 8 → ∀ b, b < 8 → a ≠ b → (TX5 a).2.1 ≠ (TX5 b).2.1 := by decide +kernel
theorem tyX5_ok : ∀ k, k < 8 → parseFieldDescriptor (TX5 k).2.2.1 = some (tyX5 k) := by decide +kernel
abbrev cX5_init : ByteArray := prog_7_method_1_code
def yX5_init : MethodName := ⟨RX5, "<init>", "()V"⟩
abbrev cX5_resetWeights : ByteArray := prog_7_method_2_code
def yX5_resetWeights : MethodName := ⟨RX5, "resetWeights", "()V"⟩
abbrev cX5_forgetChanges : ByteArray := prog_7_method_3_code
def yX5_forgetChanges : MethodName := ⟨RX5, "forgetChanges", "()V"⟩
abbrev cX5_remember : ByteArray := prog_7_method_4_code
def yX5_remember : MethodName := ⟨RX5, "remember", "()V"⟩
abbrev cX5_recall : ByteArray := prog_7_method_5_code
def yX5_recall : MethodName := ⟨RX5, "recall", "()V"⟩
def RX6 : String := "StackStates$Text"
def TX6 : u_T := fun k => match k with
  | 0 => ("StackStates$Text", "letters", "[I", true)
  | _ => ("StackStates$Text", "length", "I", false)
def tyX6 : Nat → FieldType := fun k => match k with
  | 0 => .array .int
  | _ => .int
abbrev wsX60 : List Cond := u_ws RX6 TX6 2
theorem nmX6 : ∀ a, a < 2 → ∀ b, b < 2 → a ≠ b → (TX6 a).2.1 ≠ (TX6 b).2.1 := by decide +kernel
theorem tyX6_ok : ∀ k, k < 2 → parseFieldDescriptor (TX6 k).2.2.1 = some (tyX6 k) := by decide +kernel
abbrev cX6_init : ByteArray := prog_8_method_1_code
def yX6_init : MethodName := ⟨RX6, "<init>", "()V"⟩
abbrev cX6_append : ByteArray := prog_8_method_2_code
def yX6_append : MethodName := ⟨RX6, "append", "(I)V"⟩
abbrev cX6_empty : ByteArray := prog_8_method_3_code
def yX6_empty : MethodName := ⟨RX6, "empty", "()I"⟩
abbrev cX6_letterAt : ByteArray := prog_8_method_4_code
def yX6_letterAt : MethodName := ⟨RX6, "letterAt", "(I)I"⟩
abbrev cX6_hasDigitAt : ByteArray := prog_8_method_5_code
def yX6_hasDigitAt : MethodName := ⟨RX6, "hasDigitAt", "(I)Z"⟩
def RX7 : String := "StackStates"
def TX7 : u_T := fun k => match k with
  | 0 => ("StackStates", "text", "LStackStates$Text;", true)
  | 1 => ("StackStates", "causes", "LStackStates$Causes;", true)
  | 2 => ("StackStates", "settings", "LStackStates$Settings;", true)
  | 3 => ("StackStates", "machine", "LStackStates$Machine;", true)
  | 4 => ("StackStates", "program", "LStackStates$Program;", true)
  | 5 => ("StackStates", "draft", "LStackStates$Program;", true)
  | 6 => ("StackStates", "chooser", "LStackStates$Chooser;", true)
  | _ => ("StackStates", "run", "LStackStates$Run;", true)
def tyX7 : Nat → FieldType := fun k => match k with
  | 0 => .object "StackStates$Text"
  | 1 => .object "StackStates$Causes"
  | 2 => .object "StackStates$Settings"
  | 3 => .object "StackStates$Machine"
  | 4 => .object "StackStates$Program"
  | 5 => .object "StackStates$Program"
  | 6 => .object "StackStates$Chooser"
  | _ => .object "StackStates$Run"
abbrev wsX70 : List Cond := u_ws RX7 TX7 8
theorem nmX7 : ∀ a, a < 8 → ∀ b, b < 8 → a ≠ b → (TX7 a).2.1 ≠ (TX7 b).2.1 := by decide +kernel
theorem tyX7_ok : ∀ k, k < 8 → parseFieldDescriptor (TX7 k).2.2.1 = some (tyX7 k) := by decide +kernel
abbrev cX7_init : ByteArray := prog_1_method_1_code
def yX7_init : MethodName := ⟨RX7, "<init>", "()V"⟩
abbrev cX7_write : ByteArray := prog_1_method_2_code
def yX7_write : MethodName := ⟨RX7, "write", "(I)I"⟩
abbrev cX7_wipe : ByteArray := prog_1_method_3_code
def yX7_wipe : MethodName := ⟨RX7, "wipe", "()I"⟩
abbrev cX7_fault : ByteArray := prog_1_method_4_code
def yX7_fault : MethodName := ⟨RX7, "fault", "()I"⟩
abbrev cX7_lay : ByteArray := prog_1_method_5_code
def yX7_lay : MethodName := ⟨RX7, "lay", "()I"⟩
abbrev cX7_cause : ByteArray := prog_1_method_6_code
def yX7_cause : MethodName := ⟨RX7, "cause", "(I)I"⟩
abbrev cX7_code : ByteArray := prog_1_method_7_code
def yX7_code : MethodName := ⟨RX7, "code", "(II)I"⟩
abbrev cX7_registers : ByteArray := prog_1_method_8_code
def yX7_registers : MethodName := ⟨RX7, "registers", "(I)I"⟩
abbrev cX7_costs : ByteArray := prog_1_method_9_code
def yX7_costs : MethodName := ⟨RX7, "costs", "(III)I"⟩
abbrev cX7_weigh : ByteArray := prog_1_method_10_code
def yX7_weigh : MethodName := ⟨RX7, "weigh", "(II)I"⟩
abbrev cX7_profile : ByteArray := prog_1_method_11_code
def yX7_profile : MethodName := ⟨RX7, "profile", "()I"⟩
abbrev cX7_undo : ByteArray := prog_1_method_12_code
def yX7_undo : MethodName := ⟨RX7, "undo", "()I"⟩
abbrev cX7_states : ByteArray := prog_1_method_13_code
def yX7_states : MethodName := ⟨RX7, "states", "()I"⟩
abbrev cX7_state : ByteArray := prog_1_method_14_code
def yX7_state : MethodName := ⟨RX7, "state", "(II)I"⟩
abbrev cX7_passage : ByteArray := prog_1_method_15_code
def yX7_passage : MethodName := ⟨RX7, "passage", "(II)I"⟩
abbrev cX7_version : ByteArray := prog_1_method_16_code
def yX7_version : MethodName := ⟨RX7, "version", "(III)I"⟩
abbrev cX7_best : ByteArray := prog_1_method_17_code
def yX7_best : MethodName := ⟨RX7, "best", "()I"⟩
abbrev cX7_meets : ByteArray := prog_1_method_18_code
def yX7_meets : MethodName := ⟨RX7, "meets", "(II)I"⟩
abbrev cX7_ifMeets : ByteArray := prog_1_method_19_code
def yX7_ifMeets : MethodName := ⟨RX7, "ifMeets", "(II)I"⟩
abbrev cX7_start : ByteArray := prog_1_method_20_code
def yX7_start : MethodName := ⟨RX7, "start", "()I"⟩
abbrev cX7_step : ByteArray := prog_1_method_21_code
def yX7_step : MethodName := ⟨RX7, "step", "(I)I"⟩
abbrev cX7_now : ByteArray := prog_1_method_22_code
def yX7_now : MethodName := ⟨RX7, "now", "(I)I"⟩
abbrev cX7_cell : ByteArray := prog_1_method_23_code
def yX7_cell : MethodName := ⟨RX7, "cell", "(I)I"⟩
abbrev cX7_register : ByteArray := prog_1_method_24_code
def yX7_register : MethodName := ⟨RX7, "register", "(I)I"⟩
abbrev cX7_memory : ByteArray := prog_1_method_25_code
def yX7_memory : MethodName := ⟨RX7, "memory", "(I)I"⟩
abbrev cX7_variable : ByteArray := prog_1_method_26_code
def yX7_variable : MethodName := ⟨RX7, "variable", "(I)I"⟩
abbrev cX7_out : ByteArray := prog_1_method_27_code
def yX7_out : MethodName := ⟨RX7, "out", "(I)I"⟩
abbrev cX7_went : ByteArray := prog_1_method_28_code
def yX7_went : MethodName := ⟨RX7, "went", "(I)I"⟩
abbrev cX7_count : ByteArray := prog_1_method_29_code
def yX7_count : MethodName := ⟨RX7, "count", "(I)I"⟩
abbrev cX7_isInstruction : ByteArray := prog_1_method_30_code
def yX7_isInstruction : MethodName := ⟨RX7, "isInstruction", "(I)Z"⟩
abbrev cX7_isState : ByteArray := prog_1_method_31_code
def yX7_isState : MethodName := ⟨RX7, "isState", "(I)Z"⟩
abbrev cX7_isCost : ByteArray := prog_1_method_32_code
def yX7_isCost : MethodName := ⟨RX7, "isCost", "(I)Z"⟩
abbrev cX7_shown : ByteArray := prog_1_method_33_code
def yX7_shown : MethodName := ⟨RX7, "shown", "(I)I"⟩
abbrev cX7_refresh : ByteArray := prog_1_method_34_code
def yX7_refresh : MethodName := ⟨RX7, "refresh", "()V"⟩
def RX8 : String := "StackStatesModel"
def TX8 : u_T := fun k => match k with
  | 0 => ("StackStatesModel", "set", "[I", true)
  | 1 => ("StackStatesModel", "past", "[I", true)
  | 2 => ("StackStatesModel", "changes", "I", false)
  | 3 => ("StackStatesModel", "many", "I", false)
  | 4 => ("StackStatesModel", "letter", "[I", true)
  | 5 => ("StackStatesModel", "number", "[I", true)
  | 6 => ("StackStatesModel", "depth", "[I", true)
  | 7 => ("StackStatesModel", "target", "[I", true)
  | 8 => ("StackStatesModel", "text", "[I", true)
  | 9 => ("StackStatesModel", "letters", "I", false)
  | 10 => ("StackStatesModel", "readMany", "I", false)
  | 11 => ("StackStatesModel", "readLetter", "[I", true)
  | 12 => ("StackStatesModel", "readNumber", "[I", true)
  | 13 => ("StackStatesModel", "readPlace", "[I", true)
  | 14 => ("StackStatesModel", "readAt", "I", false)
  | 15 => ("StackStatesModel", "causes", "[I", true)
  | 16 => ("StackStatesModel", "causeMany", "I", false)
  | 17 => ("StackStatesModel", "found", "[I", true)
  | 18 => ("StackStatesModel", "taken", "[I", true)
  | 19 => ("StackStatesModel", "isTarget", "[I", true)
  | 20 => ("StackStatesModel", "stateMany", "I", false)
  | 21 => ("StackStatesModel", "holds", "[I", true)
  | 22 => ("StackStatesModel", "regs", "[I", true)
  | 23 => ("StackStatesModel", "leaves", "I", false)
  | 24 => ("StackStatesModel", "pays", "I", false)
  | 25 => ("StackStatesModel", "isPlain", "Z", false)
  | 26 => ("StackStatesModel", "rest", "[I", true)
  | 27 => ("StackStatesModel", "arePassages", "Z", false)
  | 28 => ("StackStatesModel", "pass", "[I", true)
  | 29 => ("StackStatesModel", "far", "[I", true)
  | 30 => ("StackStatesModel", "done", "[I", true)
  | 31 => ("StackStatesModel", "isBest", "Z", false)
  | 32 => ("StackStatesModel", "bestCost", "I", false)
  | 33 => ("StackStatesModel", "meets", "[I", true)
  | 34 => ("StackStatesModel", "left", "[I", true)
  | 35 => ("StackStatesModel", "paysIn", "[I", true)
  | 36 => ("StackStatesModel", "least", "[I", true)
  | 37 => ("StackStatesModel", "targets", "I", false)
  | 38 => ("StackStatesModel", "targetAt", "[I", true)
  | 39 => ("StackStatesModel", "meetsAt", "[I", true)
  | 40 => ("StackStatesModel", "onlyAt", "I", false)
  | 41 => ("StackStatesModel", "onlyState", "I", false)
  | 42 => ("StackStatesModel", "leastState", "I", false)
  | 43 => ("StackStatesModel", "isRun", "Z", false)
  | 44 => ("StackStatesModel", "isOver", "Z", false)
  | 45 => ("StackStatesModel", "at", "I", false)
  | 46 => ("StackStatesModel", "nowState", "I", false)
  | 47 => ("StackStatesModel", "stack", "[I", true)
  | 48 => ("StackStatesModel", "size", "I", false)
  | 49 => ("StackStatesModel", "paid", "I", false)
  | 50 => ("StackStatesModel", "steps", "I", false)
  | 51 => ("StackStatesModel", "outs", "[I", true)
  | 52 => ("StackStatesModel", "outMany", "I", false)
  | 53 => ("StackStatesModel", "variables", "[I", true)
  | _ => ("StackStatesModel", "went", "[I", true)
def tyX8 : Nat → FieldType := fun k => match k with
  | 0 => .array .int
  | 1 => .array .int
  | 2 => .int
  | 3 => .int
  | 4 => .array .int
  | 5 => .array .int
  | 6 => .array .int
  | 7 => .array .int
  | 8 => .array .int
  | 9 => .int
  | 10 => .int
  | 11 => .array .int
  | 12 => .array .int
  | 13 => .array .int
  | 14 => .int
  | 15 => .array .int
  | 16 => .int
  | 17 => .array .int
  | 18 => .array .int
  | 19 => .array .int
  | 20 => .int
  | 21 => .array .int
  | 22 => .array .int
  | 23 => .int
  | 24 => .int
  | 25 => .boolean
  | 26 => .array .int
  | 27 => .boolean
  | 28 => .array .int
  | 29 => .array .int
  | 30 => .array .int
  | 31 => .boolean
  | 32 => .int
  | 33 => .array .int
  | 34 => .array .int
  | 35 => .array .int
  | 36 => .array .int
  | 37 => .int
  | 38 => .array .int
  | 39 => .array .int
  | 40 => .int
  | 41 => .int
  | 42 => .int
  | 43 => .boolean
  | 44 => .boolean
  | 45 => .int
  | 46 => .int
  | 47 => .array .int
  | 48 => .int
  | 49 => .int
  | 50 => .int
  | 51 => .array .int
  | 52 => .int
  | 53 => .array .int
  | _ => .array .int
abbrev wsX80 : List Cond := u_ws RX8 TX8 55
theorem nmX8 : ∀ a, a < 55 → ∀ b, b < 55 → a ≠ b → (TX8 a).2.1 ≠ (TX8 b).2.1 := by decide +kernel
theorem tyX8_ok : ∀ k, k < 55 → parseFieldDescriptor (TX8 k).2.2.1 = some (tyX8 k) := by decide +kernel
abbrev cX8_init : ByteArray := prog_10_method_1_code
def yX8_init : MethodName := ⟨RX8, "<init>", "()V"⟩
abbrev cX8_lays : ByteArray := prog_10_method_2_code
def yX8_lays : MethodName := ⟨RX8, "lays", "(III)V"⟩
abbrev cX8_in : ByteArray := prog_10_method_3_code
def yX8_in : MethodName := ⟨RX8, "in", "(III)Z"⟩
abbrev cX8_takes : ByteArray := prog_10_method_4_code
def yX8_takes : MethodName := ⟨RX8, "takes", "(I)I"⟩
abbrev cX8_comes : ByteArray := prog_10_method_5_code
def yX8_comes : MethodName := ⟨RX8, "comes", "(I)I"⟩
abbrev cX8_isName : ByteArray := prog_10_method_6_code
def yX8_isName : MethodName := ⟨RX8, "isName", "(I)Z"⟩
abbrev cX8_figuresOf : ByteArray := prog_10_method_7_code
def yX8_figuresOf : MethodName := ⟨RX8, "figuresOf", "(I)I"⟩
abbrev cX8_write : ByteArray := prog_10_method_8_code
def yX8_write : MethodName := ⟨RX8, "write", "(I)I"⟩
abbrev cX8_wipe : ByteArray := prog_10_method_9_code
def yX8_wipe : MethodName := ⟨RX8, "wipe", "()I"⟩
abbrev cX8_isFigure : ByteArray := prog_10_method_10_code
def yX8_isFigure : MethodName := ⟨RX8, "isFigure", "(I)Z"⟩
abbrev cX8_reads : ByteArray := prog_10_method_11_code
def yX8_reads : MethodName := ⟨RX8, "reads", "()I"⟩
abbrev cX8_refuses : ByteArray := prog_10_method_12_code
def yX8_refuses : MethodName := ⟨RX8, "refuses", "(III)I"⟩
abbrev cX8_isJump : ByteArray := prog_10_method_13_code
def yX8_isJump : MethodName := ⟨RX8, "isJump", "(I)Z"⟩
abbrev cX8_finds : ByteArray := prog_10_method_14_code
def yX8_finds : MethodName := ⟨RX8, "finds", "()I"⟩
abbrev cX8_fault : ByteArray := prog_10_method_15_code
def yX8_fault : MethodName := ⟨RX8, "fault", "()I"⟩
abbrev cX8_lowest : ByteArray := prog_10_method_16_code
def yX8_lowest : MethodName := ⟨RX8, "lowest", "()I"⟩
abbrev cX8_goesOn : ByteArray := prog_10_method_17_code
def yX8_goesOn : MethodName := ⟨RX8, "goesOn", "([I[IIII)I"⟩
abbrev cX8_takesOne : ByteArray := prog_10_method_18_code
def yX8_takesOne : MethodName := ⟨RX8, "takesOne", "(I)Z"⟩
abbrev cX8_findsDepths : ByteArray := prog_10_method_19_code
def yX8_findsDepths : MethodName := ⟨RX8, "findsDepths", "()Z"⟩
abbrev cX8_takesProgram : ByteArray := prog_10_method_20_code
def yX8_takesProgram : MethodName := ⟨RX8, "takesProgram", "()V"⟩
abbrev cX8_lay : ByteArray := prog_10_method_21_code
def yX8_lay : MethodName := ⟨RX8, "lay", "()I"⟩
abbrev cX8_cause : ByteArray := prog_10_method_22_code
def yX8_cause : MethodName := ⟨RX8, "cause", "(I)I"⟩
abbrev cX8_isCode : ByteArray := prog_10_method_23_code
def yX8_isCode : MethodName := ⟨RX8, "isCode", "(I)Z"⟩
abbrev cX8_code : ByteArray := prog_10_method_24_code
def yX8_code : MethodName := ⟨RX8, "code", "(II)I"⟩
abbrev cX8_notes : ByteArray := prog_10_method_25_code
def yX8_notes : MethodName := ⟨RX8, "notes", "()V"⟩
abbrev cX8_forgets : ByteArray := prog_10_method_26_code
def yX8_forgets : MethodName := ⟨RX8, "forgets", "()V"⟩
abbrev cX8_registers : ByteArray := prog_10_method_27_code
def yX8_registers : MethodName := ⟨RX8, "registers", "(I)I"⟩
abbrev cX8_costs : ByteArray := prog_10_method_28_code
def yX8_costs : MethodName := ⟨RX8, "costs", "(III)I"⟩
abbrev cX8_weigh : ByteArray := prog_10_method_29_code
def yX8_weigh : MethodName := ⟨RX8, "weigh", "(II)I"⟩
abbrev cX8_weightOf : ByteArray := prog_10_method_30_code
def yX8_weightOf : MethodName := ⟨RX8, "weightOf", "(I)I"⟩
abbrev cX8_profile : ByteArray := prog_10_method_31_code
def yX8_profile : MethodName := ⟨RX8, "profile", "()I"⟩
abbrev cX8_undo : ByteArray := prog_10_method_32_code
def yX8_undo : MethodName := ⟨RX8, "undo", "()I"⟩
abbrev cX8_adds : ByteArray := prog_10_method_33_code
def yX8_adds : MethodName := ⟨RX8, "adds", "(IIII)V"⟩
abbrev cX8_laysStates : ByteArray := prog_10_method_34_code
def yX8_laysStates : MethodName := ⟨RX8, "laysStates", "()V"⟩
abbrev cX8_isState : ByteArray := prog_10_method_35_code
def yX8_isState : MethodName := ⟨RX8, "isState", "(I)Z"⟩
abbrev cX8_states : ByteArray := prog_10_method_36_code
def yX8_states : MethodName := ⟨RX8, "states", "()I"⟩
abbrev cX8_state : ByteArray := prog_10_method_37_code
def yX8_state : MethodName := ⟨RX8, "state", "(II)I"⟩
abbrev cX8_stateOf : ByteArray := prog_10_method_38_code
def yX8_stateOf : MethodName := ⟨RX8, "stateOf", "(IIII)I"⟩
abbrev cX8_freeIn : ByteArray := prog_10_method_39_code
def yX8_freeIn : MethodName := ⟨RX8, "freeIn", "(I)I"⟩
abbrev cX8_leavesRest : ByteArray := prog_10_method_40_code
def yX8_leavesRest : MethodName := ⟨RX8, "leavesRest", "(II)V"⟩
abbrev cX8_turnsRegisters : ByteArray := prog_10_method_41_code
def yX8_turnsRegisters : MethodName := ⟨RX8, "turnsRegisters", "(II)V"⟩
abbrev cX8_hasVersion : ByteArray := prog_10_method_42_code
def yX8_hasVersion : MethodName := ⟨RX8, "hasVersion", "(II)Z"⟩
abbrev cX8_version : ByteArray := prog_10_method_43_code
def yX8_version : MethodName := ⟨RX8, "version", "(III)I"⟩
abbrev cX8_hasOf : ByteArray := prog_10_method_44_code
def yX8_hasOf : MethodName := ⟨RX8, "hasOf", "(II)I"⟩
abbrev cX8_with : ByteArray := prog_10_method_45_code
def yX8_with : MethodName := ⟨RX8, "with", "(III)I"⟩
abbrev cX8_nearer : ByteArray := prog_10_method_46_code
def yX8_nearer : MethodName := ⟨RX8, "nearer", "(II)V"⟩
abbrev cX8_goesBehind : ByteArray := prog_10_method_47_code
def yX8_goesBehind : MethodName := ⟨RX8, "goesBehind", "(I)V"⟩
abbrev cX8_laysFrom : ByteArray := prog_10_method_48_code
def yX8_laysFrom : MethodName := ⟨RX8, "laysFrom", "(I)V"⟩
abbrev cX8_isAt : ByteArray := prog_10_method_49_code
def yX8_isAt : MethodName := ⟨RX8, "isAt", "(II)Z"⟩
abbrev cX8_laysPassages : ByteArray := prog_10_method_50_code
def yX8_laysPassages : MethodName := ⟨RX8, "laysPassages", "()V"⟩
abbrev cX8_passage : ByteArray := prog_10_method_51_code
def yX8_passage : MethodName := ⟨RX8, "passage", "(II)I"⟩
abbrev cX8_laysVersions : ByteArray := prog_10_method_52_code
def yX8_laysVersions : MethodName := ⟨RX8, "laysVersions", "()V"⟩
abbrev cX8_onTo : ByteArray := prog_10_method_53_code
def yX8_onTo : MethodName := ⟨RX8, "onTo", "(III)I"⟩
abbrev cX8_leastOf : ByteArray := prog_10_method_54_code
def yX8_leastOf : MethodName := ⟨RX8, "leastOf", "(II)I"⟩
abbrev cX8_total : ByteArray := prog_10_method_55_code
def yX8_total : MethodName := ⟨RX8, "total", "()I"⟩
abbrev cX8_search : ByteArray := prog_10_method_56_code
def yX8_search : MethodName := ⟨RX8, "search", "()I"⟩
abbrev cX8_follows : ByteArray := prog_10_method_57_code
def yX8_follows : MethodName := ⟨RX8, "follows", "(II)V"⟩
abbrev cX8_laysBest : ByteArray := prog_10_method_58_code
def yX8_laysBest : MethodName := ⟨RX8, "laysBest", "()V"⟩
abbrev cX8_best : ByteArray := prog_10_method_59_code
def yX8_best : MethodName := ⟨RX8, "best", "()I"⟩
abbrev cX8_meets : ByteArray := prog_10_method_60_code
def yX8_meets : MethodName := ⟨RX8, "meets", "(II)I"⟩
abbrev cX8_ifMeets : ByteArray := prog_10_method_61_code
def yX8_ifMeets : MethodName := ⟨RX8, "ifMeets", "(II)I"⟩
abbrev cX8_start : ByteArray := prog_10_method_62_code
def yX8_start : MethodName := ⟨RX8, "start", "()I"⟩
abbrev cX8_pops : ByteArray := prog_10_method_63_code
def yX8_pops : MethodName := ⟨RX8, "pops", "()I"⟩
abbrev cX8_pushes : ByteArray := prog_10_method_64_code
def yX8_pushes : MethodName := ⟨RX8, "pushes", "(I)V"⟩
abbrev cX8_reckons : ByteArray := prog_10_method_65_code
def yX8_reckons : MethodName := ⟨RX8, "reckons", "(I)V"⟩
abbrev cX8_rolls : ByteArray := prog_10_method_66_code
def yX8_rolls : MethodName := ⟨RX8, "rolls", "(I)V"⟩
abbrev cX8_does : ByteArray := prog_10_method_67_code
def yX8_does : MethodName := ⟨RX8, "does", "(I)Z"⟩
abbrev cX8_stepsOnce : ByteArray := prog_10_method_68_code
def yX8_stepsOnce : MethodName := ⟨RX8, "stepsOnce", "()V"⟩
abbrev cX8_step : ByteArray := prog_10_method_69_code
def yX8_step : MethodName := ⟨RX8, "step", "(I)I"⟩
abbrev cX8_now : ByteArray := prog_10_method_70_code
def yX8_now : MethodName := ⟨RX8, "now", "(I)I"⟩
abbrev cX8_modulo : ByteArray := prog_10_method_71_code
def yX8_modulo : MethodName := ⟨RX8, "modulo", "(I)I"⟩
abbrev cX8_cell : ByteArray := prog_10_method_72_code
def yX8_cell : MethodName := ⟨RX8, "cell", "(I)I"⟩
abbrev cX8_register : ByteArray := prog_10_method_73_code
def yX8_register : MethodName := ⟨RX8, "register", "(I)I"⟩
abbrev cX8_memory : ByteArray := prog_10_method_74_code
def yX8_memory : MethodName := ⟨RX8, "memory", "(I)I"⟩
abbrev cX8_variable : ByteArray := prog_10_method_75_code
def yX8_variable : MethodName := ⟨RX8, "variable", "(I)I"⟩
abbrev cX8_out : ByteArray := prog_10_method_76_code
def yX8_out : MethodName := ⟨RX8, "out", "(I)I"⟩
abbrev cX8_went : ByteArray := prog_10_method_77_code
def yX8_went : MethodName := ⟨RX8, "went", "(I)I"⟩
abbrev cX8_count : ByteArray := prog_10_method_78_code
def yX8_count : MethodName := ⟨RX8, "count", "(I)I"⟩
def RJx145de : String := "java/io/Serializable"
def TJx145de : u_T := fun k => match k with
  | _ => ("", "", "", false)
def tyJx145de : Nat → FieldType := fun k => match k with
  | _ => .int
abbrev wsJx145de0 : List Cond := u_ws RJx145de TJx145de 0
theorem nmJx145de : ∀ a, a < 0 → ∀ b, b < 0 → a ≠ b → (TJx145de a).2.1 ≠ (TJx145de b).2.1 := by decide +kernel
theorem tyJx145de_ok : ∀ k, k < 0 → parseFieldDescriptor (TJx145de k).2.2.1 = some (tyJx145de k) := by decide +kernel
def RJx9f9b0 : String := "java/lang/CharSequence"
def TJx9f9b0 : u_T := fun k => match k with
  | _ => ("", "", "", false)
def tyJx9f9b0 : Nat → FieldType := fun k => match k with
  | _ => .int
abbrev wsJx9f9b00 : List Cond := u_ws RJx9f9b0 TJx9f9b0 0
theorem nmJx9f9b0 : ∀ a, a < 0 → ∀ b, b < 0 → a ≠ b → (TJx9f9b0 a).2.1 ≠ (TJx9f9b0 b).2.1 := by decide +kernel
theorem tyJx9f9b0_ok : ∀ k, k < 0 → parseFieldDescriptor (TJx9f9b0 k).2.2.1 = some (tyJx9f9b0 k) := by decide +kernel
def RJ11 : String := "java/lang/Character"
def TJ11 : u_T := fun k => match k with
  | _ => ("", "", "", false)
def tyJ11 : Nat → FieldType := fun k => match k with
  | _ => .int
abbrev wsJ110 : List Cond := u_ws RJ11 TJ11 0
theorem nmJ11 : ∀ a, a < 0 → ∀ b, b < 0 → a ≠ b → (TJ11 a).2.1 ≠ (TJ11 b).2.1 := by decide +kernel
theorem tyJ11_ok : ∀ k, k < 0 → parseFieldDescriptor (TJ11 k).2.2.1 = some (tyJ11 k) := by decide +kernel
abbrev cJ11_isValidCodePoint_9a6ad : ByteArray := prog_11_method_11_code
def yJ11_isValidCodePoint_9a6ad : MethodName := ⟨RJ11, "isValidCodePoint", "(I)Z"⟩
abbrev cJ11_highSurrogate_5068e : ByteArray := prog_11_method_28_code
def yJ11_highSurrogate_5068e : MethodName := ⟨RJ11, "highSurrogate", "(I)C"⟩
abbrev cJ11_lowSurrogate_5068e : ByteArray := prog_11_method_29_code
def yJ11_lowSurrogate_5068e : MethodName := ⟨RJ11, "lowSurrogate", "(I)C"⟩
def RJxb160c : String := "java/lang/Comparable"
def TJxb160c : u_T := fun k => match k with
  | _ => ("", "", "", false)
def tyJxb160c : Nat → FieldType := fun k => match k with
  | _ => .int
abbrev wsJxb160c0 : List Cond := u_ws RJxb160c TJxb160c 0
theorem nmJxb160c : ∀ a, a < 0 → ∀ b, b < 0 → a ≠ b → (TJxb160c a).2.1 ≠ (TJxb160c b).2.1 := by decide +kernel
theorem tyJxb160c_ok : ∀ k, k < 0 → parseFieldDescriptor (TJxb160c k).2.2.1 = some (tyJxb160c k) := by decide +kernel
def RJ9 : String := "java/lang/Math"
def TJ9 : u_T := fun k => match k with
  | _ => ("", "", "", false)
def tyJ9 : Nat → FieldType := fun k => match k with
  | _ => .int
abbrev wsJ90 : List Cond := u_ws RJ9 TJ9 0
theorem nmJ9 : ∀ a, a < 0 → ∀ b, b < 0 → a ≠ b → (TJ9 a).2.1 ≠ (TJ9 b).2.1 := by decide +kernel
theorem tyJ9_ok : ∀ k, k < 0 → parseFieldDescriptor (TJ9 k).2.2.1 = some (tyJ9 k) := by decide +kernel
abbrev cJ9_floorDiv_7cf53 : ByteArray := prog_12_method_47_code
def yJ9_floorDiv_7cf53 : MethodName := ⟨RJ9, "floorDiv", "(II)I"⟩
abbrev cJ9_floorMod_7cf53 : ByteArray := prog_12_method_50_code
def yJ9_floorMod_7cf53 : MethodName := ⟨RJ9, "floorMod", "(II)I"⟩
abbrev cJ9_max_7cf53 : ByteArray := prog_12_method_65_code
def yJ9_max_7cf53 : MethodName := ⟨RJ9, "max", "(II)I"⟩
abbrev cJ9_min_7cf53 : ByteArray := prog_12_method_69_code
def yJ9_min_7cf53 : MethodName := ⟨RJ9, "min", "(II)I"⟩
def RJ0 : String := "java/lang/String"
def TJ0 : u_T := fun k => match k with
  | _ => ("", "", "", false)
def tyJ0 : Nat → FieldType := fun k => match k with
  | _ => .int
abbrev wsJ00 : List Cond := u_ws RJ0 TJ0 0
theorem nmJ0 : ∀ a, a < 0 → ∀ b, b < 0 → a ≠ b → (TJ0 a).2.1 ≠ (TJ0 b).2.1 := by decide +kernel
theorem tyJ0_ok : ∀ k, k < 0 → parseFieldDescriptor (TJ0 k).2.2.1 = some (tyJ0 k) := by decide +kernel
abbrev cJ0_length_8abf5 : ByteArray := prog_13_method_54_code
def yJ0_length_8abf5 : MethodName := ⟨RJ0, "length", "()I"⟩
abbrev cJ0_charAt_5068e : ByteArray := prog_13_method_56_code
def yJ0_charAt_5068e : MethodName := ⟨RJ0, "charAt", "(I)C"⟩
abbrev cJ0_indexOf_0f7a4 : ByteArray := prog_13_method_79_code
def yJ0_indexOf_0f7a4 : MethodName := ⟨RJ0, "indexOf", "(I)I"⟩
abbrev cJ0_indexOf_7cf53 : ByteArray := prog_13_method_80_code
def yJ0_indexOf_7cf53 : MethodName := ⟨RJ0, "indexOf", "(II)I"⟩
abbrev cJ0_coder_7d493 : ByteArray := prog_13_method_152_code
def yJ0_coder_7d493 : MethodName := ⟨RJ0, "coder", "()B"⟩
abbrev cJ0_isLatin1_aae02 : ByteArray := prog_13_method_154_code
def yJ0_isLatin1_aae02 : MethodName := ⟨RJ0, "isLatin1", "()Z"⟩
abbrev cJ0_checkIndex_df160 : ByteArray := prog_13_method_155_code
def yJ0_checkIndex_df160 : MethodName := ⟨RJ0, "checkIndex", "(II)V"⟩
abbrev cJ0_checkBoundsBeginEnd_23922 : ByteArray := prog_13_method_158_code
def yJ0_checkBoundsBeginEnd_23922 : MethodName := ⟨RJ0, "checkBoundsBeginEnd", "(III)V"⟩
def RJ1 : String := "java/lang/StringLatin1"
def TJ1 : u_T := fun k => match k with
  | _ => ("", "", "", false)
def tyJ1 : Nat → FieldType := fun k => match k with
  | _ => .int
abbrev wsJ10 : List Cond := u_ws RJ1 TJ1 0
theorem nmJ1 : ∀ a, a < 0 → ∀ b, b < 0 → a ≠ b → (TJ1 a).2.1 ≠ (TJ1 b).2.1 := by decide +kernel
theorem tyJ1_ok : ∀ k, k < 0 → parseFieldDescriptor (TJ1 k).2.2.1 = some (tyJ1 k) := by decide +kernel
abbrev cJ1_charAt_3b067 : ByteArray := prog_14_method_2_code
def yJ1_charAt_3b067 : MethodName := ⟨RJ1, "charAt", "([BI)C"⟩
abbrev cJ1_canEncode_9a6ad : ByteArray := prog_14_method_4_code
def yJ1_canEncode_9a6ad : MethodName := ⟨RJ1, "canEncode", "(I)Z"⟩
abbrev cJ1_indexOf_4cfef : ByteArray := prog_14_method_22_code
def yJ1_indexOf_4cfef : MethodName := ⟨RJ1, "indexOf", "([BIII)I"⟩
abbrev cJ1_indexOfChar_4cfef : ByteArray := prog_14_method_23_code
def yJ1_indexOfChar_4cfef : MethodName := ⟨RJ1, "indexOfChar", "([BIII)I"⟩
def RJ2 : String := "java/lang/StringUTF16"
def TJ2 : u_T := fun k => match k with
  | _ => ("", "", "", false)
def tyJ2 : Nat → FieldType := fun k => match k with
  | _ => .int
abbrev wsJ20 : List Cond := u_ws RJ2 TJ2 0
theorem nmJ2 : ∀ a, a < 0 → ∀ b, b < 0 → a ≠ b → (TJ2 a).2.1 ≠ (TJ2 b).2.1 := by decide +kernel
theorem tyJ2_ok : ∀ k, k < 0 → parseFieldDescriptor (TJ2 k).2.2.1 = some (tyJ2 k) := by decide +kernel
abbrev cJ2_getChar_3b067 : ByteArray := prog_15_method_5_code
def yJ2_getChar_3b067 : MethodName := ⟨RJ2, "getChar", "([BI)C"⟩
abbrev cJ2_length_9d52b : ByteArray := prog_15_method_6_code
def yJ2_length_9d52b : MethodName := ⟨RJ2, "length", "([B)I"⟩
abbrev cJ2_indexOf_4cfef : ByteArray := prog_15_method_40_code
def yJ2_indexOf_4cfef : MethodName := ⟨RJ2, "indexOf", "([BIII)I"⟩
abbrev cJ2_indexOfChar_4cfef : ByteArray := prog_15_method_47_code
def yJ2_indexOfChar_4cfef : MethodName := ⟨RJ2, "indexOfChar", "([BIII)I"⟩
abbrev cJ2_indexOfCharUnsafe_4cfef : ByteArray := prog_15_method_48_code
def yJ2_indexOfCharUnsafe_4cfef : MethodName := ⟨RJ2, "indexOfCharUnsafe", "([BIII)I"⟩
abbrev cJ2_indexOfSupplementary_4cfef : ByteArray := prog_15_method_49_code
def yJ2_indexOfSupplementary_4cfef : MethodName := ⟨RJ2, "indexOfSupplementary", "([BIII)I"⟩
abbrev cJ2_charAt_3b067 : ByteArray := prog_15_method_83_code
def yJ2_charAt_3b067 : MethodName := ⟨RJ2, "charAt", "([BI)C"⟩
abbrev cJ2_checkIndex_2214a : ByteArray := prog_15_method_91_code
def yJ2_checkIndex_2214a : MethodName := ⟨RJ2, "checkIndex", "(I[B)V"⟩
abbrev cJ2_checkBoundsBeginEnd_d044e : ByteArray := prog_15_method_93_code
def yJ2_checkBoundsBeginEnd_d044e : MethodName := ⟨RJ2, "checkBoundsBeginEnd", "(II[B)V"⟩
def RJ10 : String := "java/lang/System"
def TJ10 : u_T := fun k => match k with
  | _ => ("", "", "", false)
def tyJ10 : Nat → FieldType := fun k => match k with
  | _ => .int
abbrev wsJ100 : List Cond := u_ws RJ10 TJ10 0
theorem nmJ10 : ∀ a, a < 0 → ∀ b, b < 0 → a ≠ b → (TJ10 a).2.1 ≠ (TJ10 b).2.1 := by decide +kernel
theorem tyJ10_ok : ∀ k, k < 0 → parseFieldDescriptor (TJ10 k).2.2.1 = some (tyJ10 k) := by decide +kernel
def RJxfd54e : String := "java/lang/constant/Constable"
def TJxfd54e : u_T := fun k => match k with
  | _ => ("", "", "", false)
def tyJxfd54e : Nat → FieldType := fun k => match k with
  | _ => .int
abbrev wsJxfd54e0 : List Cond := u_ws RJxfd54e TJxfd54e 0
theorem nmJxfd54e : ∀ a, a < 0 → ∀ b, b < 0 → a ≠ b → (TJxfd54e a).2.1 ≠ (TJxfd54e b).2.1 := by decide +kernel
theorem tyJxfd54e_ok : ∀ k, k < 0 → parseFieldDescriptor (TJxfd54e k).2.2.1 = some (tyJxfd54e k) := by decide +kernel
def RJx3cf43 : String := "java/lang/constant/ConstantDesc"
def TJx3cf43 : u_T := fun k => match k with
  | _ => ("", "", "", false)
def tyJx3cf43 : Nat → FieldType := fun k => match k with
  | _ => .int
abbrev wsJx3cf430 : List Cond := u_ws RJx3cf43 TJx3cf43 0
theorem nmJx3cf43 : ∀ a, a < 0 → ∀ b, b < 0 → a ≠ b → (TJx3cf43 a).2.1 ≠ (TJx3cf43 b).2.1 := by decide +kernel
theorem tyJx3cf43_ok : ∀ k, k < 0 → parseFieldDescriptor (TJx3cf43 k).2.2.1 = some (tyJx3cf43 k) := by decide +kernel
def RJ7 : String := "java/util/Arrays"
def TJ7 : u_T := fun k => match k with
  | _ => ("", "", "", false)
def tyJ7 : Nat → FieldType := fun k => match k with
  | _ => .int
abbrev wsJ70 : List Cond := u_ws RJ7 TJ7 0
theorem nmJ7 : ∀ a, a < 0 → ∀ b, b < 0 → a ≠ b → (TJ7 a).2.1 ≠ (TJ7 b).2.1 := by decide +kernel
theorem tyJ7_ok : ∀ k, k < 0 → parseFieldDescriptor (TJ7 k).2.2.1 = some (tyJ7 k) := by decide +kernel
abbrev cJ7_fill_53178 : ByteArray := prog_17_method_103_code
def yJ7_fill_53178 : MethodName := ⟨RJ7, "fill", "([II)V"⟩
def RJ3 : String := "jdk/internal/util/Preconditions"
def TJ3 : u_T := fun k => match k with
  | _ => ("", "", "", false)
def tyJ3 : Nat → FieldType := fun k => match k with
  | _ => .int
abbrev wsJ30 : List Cond := u_ws RJ3 TJ3 0
theorem nmJ3 : ∀ a, a < 0 → ∀ b, b < 0 → a ≠ b → (TJ3 a).2.1 ≠ (TJ3 b).2.1 := by decide +kernel
theorem tyJ3_ok : ∀ k, k < 0 → parseFieldDescriptor (TJ3 k).2.2.1 = some (tyJ3 k) := by decide +kernel
abbrev cJ3_checkIndex_8e157 : ByteArray := prog_18_method_11_code
def yJ3_checkIndex_8e157 : MethodName := ⟨RJ3, "checkIndex", "(IILjava/util/function/BiFunction;)I"⟩
abbrev cJ3_checkFromToIndex_8c36e : ByteArray := prog_18_method_12_code
def yJ3_checkFromToIndex_8c36e : MethodName := ⟨RJ3, "checkFromToIndex", "(IIILjava/util/function/BiFunction;)I"⟩
def RL : String := "StackStatesLaw"
abbrev cL_law : ByteArray := code
def yL_law : MethodName := ⟨RL, "law", "([I)Z"⟩
abbrev vwCl : List vw_C := [(RX0, TX0, 2), (RX1, TX1, 19), (RX2, TX2, 9), (RX3, TX3, 9), (RX4, TX4, 15), (RX5, TX5, 8), (RX6, TX6, 2), (RX7, TX7, 8), (RX8, TX8, 55)]
end
section
theorem dX0_init_0 : decode cX0_init 0 = .ok (.aload_n 0, 1) := by decide +kernel
theorem dX0_init_1 : decode cX0_init 1 = .ok (.invokespecial 3, 3) := by decide +kernel
theorem dX0_init_4 : decode cX0_init 4 = .ok (.aload_n 0, 1) := by decide +kernel
theorem dX0_init_5 : decode cX0_init 5 = .ok (.iconst 3, 1) := by decide +kernel
theorem dX0_init_6 : decode cX0_init 6 = .ok (.newarray .int, 2) := by decide +kernel
theorem dX0_init_8 : decode cX0_init 8 = .ok (.putfield 9, 3) := by decide +kernel
theorem dX0_init_11 : decode cX0_init 11 = .ok (.aload_n 0, 1) := by decide +kernel
theorem dX0_init_12 : decode cX0_init 12 = .ok (.iconst 0, 1) := by decide +kernel
theorem dX0_init_13 : decode cX0_init 13 = .ok (.putfield 15, 3) := by decide +kernel
theorem dX0_init_16 : decode cX0_init 16 = .ok (.return_, 1) := by decide +kernel
theorem dX0_append_0 : decode cX0_append 0 = .ok (.aload_n 0, 1) := by decide +kernel
theorem dX0_append_1 : decode cX0_append 1 = .ok (.getfield 15, 3) := by decide +kernel
theorem dX0_append_4 : decode cX0_append 4 = .ok (.aload_n 0, 1) := by decide +kernel
theorem dX0_append_5 : decode cX0_append 5 = .ok (.getfield 9, 3) := by decide +kernel
theorem dX0_append_8 : decode cX0_append 8 = .ok (.arraylength, 1) := by decide +kernel
theorem dX0_append_9 : decode cX0_append 9 = .ok (.if_icmp .ge 20, 3) := by decide +kernel
theorem dX0_append_12 : decode cX0_append 12 = .ok (.aload_n 0, 1) := by decide +kernel
theorem dX0_append_13 : decode cX0_append 13 = .ok (.getfield 9, 3) := by decide +kernel
theorem dX0_append_16 : decode cX0_append 16 = .ok (.aload_n 0, 1) := by decide +kernel
theorem dX0_append_17 : decode cX0_append 17 = .ok (.dup, 1) := by decide +kernel
theorem dX0_append_18 : decode cX0_append 18 = .ok (.getfield 15, 3) := by decide +kernel
theorem dX0_append_21 : decode cX0_append 21 = .ok (.dup_x1, 1) := by decide +kernel
theorem dX0_append_22 : decode cX0_append 22 = .ok (.iconst 1, 1) := by decide +kernel
theorem dX0_append_23 : decode cX0_append 23 = .ok (.iadd, 1) := by decide +kernel
theorem dX0_append_24 : decode cX0_append 24 = .ok (.putfield 15, 3) := by decide +kernel
theorem dX0_append_27 : decode cX0_append 27 = .ok (.iload_n 1, 1) := by decide +kernel
theorem dX0_append_28 : decode cX0_append 28 = .ok (.iastore, 1) := by decide +kernel
theorem dX0_append_29 : decode cX0_append 29 = .ok (.return_, 1) := by decide +kernel
theorem dX1_init_0 : decode cX1_init 0 = .ok (.aload_n 0, 1) := by decide +kernel
theorem dX1_init_1 : decode cX1_init 1 = .ok (.invokespecial 3, 3) := by decide +kernel
theorem dX1_init_4 : decode cX1_init 4 = .ok (.aload_n 0, 1) := by decide +kernel
theorem dX1_init_5 : decode cX1_init 5 = .ok (.sipush 384, 3) := by decide +kernel
theorem dX1_init_8 : decode cX1_init 8 = .ok (.newarray .int, 2) := by decide +kernel
theorem dX1_init_10 : decode cX1_init 10 = .ok (.putfield 11, 3) := by decide +kernel
theorem dX1_init_13 : decode cX1_init 13 = .ok (.aload_n 0, 1) := by decide +kernel
theorem dX1_init_14 : decode cX1_init 14 = .ok (.bipush 24, 2) := by decide +kernel
theorem dX1_init_16 : decode cX1_init 16 = .ok (.newarray .int, 2) := by decide +kernel
theorem dX1_init_18 : decode cX1_init 18 = .ok (.putfield 15, 3) := by decide +kernel
theorem dX1_init_21 : decode cX1_init 21 = .ok (.aload_n 0, 1) := by decide +kernel
theorem dX1_init_22 : decode cX1_init 22 = .ok (.sipush 384, 3) := by decide +kernel
theorem dX1_init_25 : decode cX1_init 25 = .ok (.newarray .int, 2) := by decide +kernel
theorem dX1_init_27 : decode cX1_init 27 = .ok (.putfield 18, 3) := by decide +kernel
theorem dX1_init_30 : decode cX1_init 30 = .ok (.aload_n 0, 1) := by decide +kernel
theorem dX1_init_31 : decode cX1_init 31 = .ok (.bipush 24, 2) := by decide +kernel
theorem dX1_init_33 : decode cX1_init 33 = .ok (.newarray .int, 2) := by decide +kernel
theorem dX1_init_35 : decode cX1_init 35 = .ok (.putfield 21, 3) := by decide +kernel
theorem dX1_init_38 : decode cX1_init 38 = .ok (.aload_n 0, 1) := by decide +kernel
theorem dX1_init_39 : decode cX1_init 39 = .ok (.sipush 384, 3) := by decide +kernel
theorem dX1_init_42 : decode cX1_init 42 = .ok (.newarray .int, 2) := by decide +kernel
theorem dX1_init_44 : decode cX1_init 44 = .ok (.putfield 24, 3) := by decide +kernel
theorem dX1_init_47 : decode cX1_init 47 = .ok (.aload_n 0, 1) := by decide +kernel
theorem dX1_init_48 : decode cX1_init 48 = .ok (.sipush 384, 3) := by decide +kernel
theorem dX1_init_51 : decode cX1_init 51 = .ok (.newarray .int, 2) := by decide +kernel
theorem dX1_init_53 : decode cX1_init 53 = .ok (.putfield 27, 3) := by decide +kernel
theorem dX1_init_56 : decode cX1_init 56 = .ok (.aload_n 0, 1) := by decide +kernel
theorem dX1_init_57 : decode cX1_init 57 = .ok (.sipush 384, 3) := by decide +kernel
theorem dX1_init_60 : decode cX1_init 60 = .ok (.newarray .int, 2) := by decide +kernel
theorem dX1_init_62 : decode cX1_init 62 = .ok (.putfield 30, 3) := by decide +kernel
theorem dX1_init_65 : decode cX1_init 65 = .ok (.aload_n 0, 1) := by decide +kernel
theorem dX1_init_66 : decode cX1_init 66 = .ok (.sipush 384, 3) := by decide +kernel
theorem dX1_init_69 : decode cX1_init 69 = .ok (.newarray .int, 2) := by decide +kernel
theorem dX1_init_71 : decode cX1_init 71 = .ok (.putfield 33, 3) := by decide +kernel
theorem dX1_init_74 : decode cX1_init 74 = .ok (.aload_n 0, 1) := by decide +kernel
theorem dX1_init_75 : decode cX1_init 75 = .ok (.sipush 384, 3) := by decide +kernel
theorem dX1_init_78 : decode cX1_init 78 = .ok (.newarray .int, 2) := by decide +kernel
theorem dX1_init_80 : decode cX1_init 80 = .ok (.putfield 36, 3) := by decide +kernel
theorem dX1_init_83 : decode cX1_init 83 = .ok (.aload_n 0, 1) := by decide +kernel
theorem dX1_init_84 : decode cX1_init 84 = .ok (.bipush 24, 2) := by decide +kernel
theorem dX1_init_86 : decode cX1_init 86 = .ok (.newarray .int, 2) := by decide +kernel
theorem dX1_init_88 : decode cX1_init 88 = .ok (.putfield 39, 3) := by decide +kernel
theorem dX1_init_91 : decode cX1_init 91 = .ok (.aload_n 0, 1) := by decide +kernel
theorem dX1_init_92 : decode cX1_init 92 = .ok (.bipush 16, 2) := by decide +kernel
theorem dX1_init_94 : decode cX1_init 94 = .ok (.newarray .int, 2) := by decide +kernel
theorem dX1_init_96 : decode cX1_init 96 = .ok (.putfield 42, 3) := by decide +kernel
theorem dX1_init_99 : decode cX1_init 99 = .ok (.aload_n 0, 1) := by decide +kernel
theorem dX1_init_100 : decode cX1_init 100 = .ok (.bipush 24, 2) := by decide +kernel
theorem dX1_init_102 : decode cX1_init 102 = .ok (.newarray .int, 2) := by decide +kernel
theorem dX1_init_104 : decode cX1_init 104 = .ok (.putfield 45, 3) := by decide +kernel
theorem dX1_init_107 : decode cX1_init 107 = .ok (.aload_n 0, 1) := by decide +kernel
theorem dX1_init_108 : decode cX1_init 108 = .ok (.iconst 0, 1) := by decide +kernel
theorem dX1_init_109 : decode cX1_init 109 = .ok (.putfield 48, 3) := by decide +kernel
theorem dX1_init_112 : decode cX1_init 112 = .ok (.aload_n 0, 1) := by decide +kernel
theorem dX1_init_113 : decode cX1_init 113 = .ok (.iconst 0, 1) := by decide +kernel
theorem dX1_init_114 : decode cX1_init 114 = .ok (.putfield 52, 3) := by decide +kernel
theorem dX1_init_117 : decode cX1_init 117 = .ok (.aload_n 0, 1) := by decide +kernel
theorem dX1_init_118 : decode cX1_init 118 = .ok (.iconst 0, 1) := by decide +kernel
theorem dX1_init_119 : decode cX1_init 119 = .ok (.putfield 56, 3) := by decide +kernel
theorem dX1_init_122 : decode cX1_init 122 = .ok (.aload_n 0, 1) := by decide +kernel
theorem dX1_init_123 : decode cX1_init 123 = .ok (.aload_n 1, 1) := by decide +kernel
theorem dX1_init_124 : decode cX1_init 124 = .ok (.putfield 59, 3) := by decide +kernel
theorem dX1_init_127 : decode cX1_init 127 = .ok (.aload_n 0, 1) := by decide +kernel
theorem dX1_init_128 : decode cX1_init 128 = .ok (.aload_n 2, 1) := by decide +kernel
theorem dX1_init_129 : decode cX1_init 129 = .ok (.putfield 63, 3) := by decide +kernel
theorem dX1_init_132 : decode cX1_init 132 = .ok (.aload_n 0, 1) := by decide +kernel
theorem dX1_init_133 : decode cX1_init 133 = .ok (.aload_n 2, 1) := by decide +kernel
theorem dX1_init_134 : decode cX1_init 134 = .ok (.getfield 67, 3) := by decide +kernel
theorem dX1_init_137 : decode cX1_init 137 = .ok (.putfield 72, 3) := by decide +kernel
theorem dX1_init_140 : decode cX1_init 140 = .ok (.aload_n 0, 1) := by decide +kernel
theorem dX1_init_141 : decode cX1_init 141 = .ok (.aload_n 3, 1) := by decide +kernel
theorem dX1_init_142 : decode cX1_init 142 = .ok (.getfield 73, 3) := by decide +kernel
theorem dX1_init_145 : decode cX1_init 145 = .ok (.putfield 78, 3) := by decide +kernel
theorem dX1_init_148 : decode cX1_init 148 = .ok (.return_, 1) := by decide +kernel
theorem dX1_forget_0 : decode cX1_forget 0 = .ok (.aload_n 0, 1) := by decide +kernel
theorem dX1_forget_1 : decode cX1_forget 1 = .ok (.iconst 0, 1) := by decide +kernel
theorem dX1_forget_2 : decode cX1_forget 2 = .ok (.putfield 52, 3) := by decide +kernel
theorem dX1_forget_5 : decode cX1_forget 5 = .ok (.aload_n 0, 1) := by decide +kernel
theorem dX1_forget_6 : decode cX1_forget 6 = .ok (.iconst 0, 1) := by decide +kernel
theorem dX1_forget_7 : decode cX1_forget 7 = .ok (.putfield 56, 3) := by decide +kernel
theorem dX1_forget_10 : decode cX1_forget 10 = .ok (.return_, 1) := by decide +kernel
theorem dX1_choose_0 : decode cX1_choose 0 = .ok (.aload_n 0, 1) := by decide +kernel
theorem dX1_choose_1 : decode cX1_choose 1 = .ok (.getfield 52, 3) := by decide +kernel
theorem dX1_choose_4 : decode cX1_choose 4 = .ok (.ifCond .eq 4, 3) := by decide +kernel
theorem dX1_choose_7 : decode cX1_choose 7 = .ok (.return_, 1) := by decide +kernel
theorem dX1_choose_8 : decode cX1_choose 8 = .ok (.aload_n 0, 1) := by decide +kernel
theorem dX1_choose_9 : decode cX1_choose 9 = .ok (.invokevirtual 79, 3) := by decide +kernel
theorem dX1_choose_12 : decode cX1_choose 12 = .ok (.aload_n 0, 1) := by decide +kernel
theorem dX1_choose_13 : decode cX1_choose 13 = .ok (.iconst 0, 1) := by decide +kernel
theorem dX1_choose_14 : decode cX1_choose 14 = .ok (.invokevirtual 82, 3) := by decide +kernel
theorem dX1_choose_17 : decode cX1_choose 17 = .ok (.aload_n 0, 1) := by decide +kernel
theorem dX1_choose_18 : decode cX1_choose 18 = .ok (.iconst 1, 1) := by decide +kernel
theorem dX1_choose_19 : decode cX1_choose 19 = .ok (.putfield 52, 3) := by decide +kernel
theorem dX1_choose_22 : decode cX1_choose 22 = .ok (.return_, 1) := by decide +kernel
theorem dX1_findLeast_0 : decode cX1_findLeast 0 = .ok (.aload_n 0, 1) := by decide +kernel
theorem dX1_findLeast_1 : decode cX1_findLeast 1 = .ok (.getfield 56, 3) := by decide +kernel
theorem dX1_findLeast_4 : decode cX1_findLeast 4 = .ok (.ifCond .eq 4, 3) := by decide +kernel
theorem dX1_findLeast_7 : decode cX1_findLeast 7 = .ok (.return_, 1) := by decide +kernel
theorem dX1_findLeast_8 : decode cX1_findLeast 8 = .ok (.aload_n 0, 1) := by decide +kernel
theorem dX1_findLeast_9 : decode cX1_findLeast 9 = .ok (.invokevirtual 79, 3) := by decide +kernel
theorem dX1_findLeast_12 : decode cX1_findLeast 12 = .ok (.aload_n 0, 1) := by decide +kernel
theorem dX1_findLeast_13 : decode cX1_findLeast 13 = .ok (.getfield 36, 3) := by decide +kernel
theorem dX1_findLeast_16 : decode cX1_findLeast 16 = .ok (.ldc 86, 2) := by decide +kernel
theorem dX1_findLeast_18 : decode cX1_findLeast 18 = .ok (.invokestatic 87, 3) := by decide +kernel
theorem dX1_findLeast_21 : decode cX1_findLeast 21 = .ok (.aload_n 0, 1) := by decide +kernel
theorem dX1_findLeast_22 : decode cX1_findLeast 22 = .ok (.iconst 1, 1) := by decide +kernel
theorem dX1_findLeast_23 : decode cX1_findLeast 23 = .ok (.invokevirtual 82, 3) := by decide +kernel
theorem dX1_findLeast_26 : decode cX1_findLeast 26 = .ok (.aload_n 0, 1) := by decide +kernel
theorem dX1_findLeast_27 : decode cX1_findLeast 27 = .ok (.iconst 1, 1) := by decide +kernel
theorem dX1_findLeast_28 : decode cX1_findLeast 28 = .ok (.putfield 52, 3) := by decide +kernel
theorem dX1_findLeast_31 : decode cX1_findLeast 31 = .ok (.aload_n 0, 1) := by decide +kernel
theorem dX1_findLeast_32 : decode cX1_findLeast 32 = .ok (.iconst 1, 1) := by decide +kernel
theorem dX1_findLeast_33 : decode cX1_findLeast 33 = .ok (.putfield 56, 3) := by decide +kernel
theorem dX1_findLeast_36 : decode cX1_findLeast 36 = .ok (.return_, 1) := by decide +kernel
theorem dX1_leastWith_0 : decode cX1_leastWith 0 = .ok (.aload_n 0, 1) := by decide +kernel
theorem dX1_leastWith_1 : decode cX1_leastWith 1 = .ok (.getfield 36, 3) := by decide +kernel
theorem dX1_leastWith_4 : decode cX1_leastWith 4 = .ok (.iload_n 1, 1) := by decide +kernel
theorem dX1_leastWith_5 : decode cX1_leastWith 5 = .ok (.bipush 16, 2) := by decide +kernel
theorem dX1_leastWith_7 : decode cX1_leastWith 7 = .ok (.imul, 1) := by decide +kernel
theorem dX1_leastWith_8 : decode cX1_leastWith 8 = .ok (.iload_n 2, 1) := by decide +kernel
theorem dX1_leastWith_9 : decode cX1_leastWith 9 = .ok (.iadd, 1) := by decide +kernel
theorem dX1_leastWith_10 : decode cX1_leastWith 10 = .ok (.iaload, 1) := by decide +kernel
theorem dX1_leastWith_11 : decode cX1_leastWith 11 = .ok (.istore_n 3, 1) := by decide +kernel
theorem dX1_leastWith_12 : decode cX1_leastWith 12 = .ok (.iload_n 3, 1) := by decide +kernel
theorem dX1_leastWith_13 : decode cX1_leastWith 13 = .ok (.ldc 86, 2) := by decide +kernel
theorem dX1_leastWith_15 : decode cX1_leastWith 15 = .ok (.if_icmp .ne 8, 3) := by decide +kernel
theorem dX1_leastWith_18 : decode cX1_leastWith 18 = .ok (.bipush (-4), 2) := by decide +kernel
theorem dX1_leastWith_20 : decode cX1_leastWith 20 = .ok (.goto 4, 3) := by decide +kernel
theorem dX1_leastWith_23 : decode cX1_leastWith 23 = .ok (.iload_n 3, 1) := by decide +kernel
theorem dX1_leastWith_24 : decode cX1_leastWith 24 = .ok (.ireturn, 1) := by decide +kernel
theorem dX1_prepare_0 : decode cX1_prepare 0 = .ok (.aload_n 0, 1) := by decide +kernel
theorem dX1_prepare_1 : decode cX1_prepare 1 = .ok (.getfield 39, 3) := by decide +kernel
theorem dX1_prepare_4 : decode cX1_prepare 4 = .ok (.bipush (-4), 2) := by decide +kernel
theorem dX1_prepare_6 : decode cX1_prepare 6 = .ok (.invokestatic 87, 3) := by decide +kernel
theorem dX1_prepare_9 : decode cX1_prepare 9 = .ok (.iconst 0, 1) := by decide +kernel
theorem dX1_prepare_10 : decode cX1_prepare 10 = .ok (.istore_n 1, 1) := by decide +kernel
theorem dX1_prepare_11 : decode cX1_prepare 11 = .ok (.iload_n 1, 1) := by decide +kernel
theorem dX1_prepare_12 : decode cX1_prepare 12 = .ok (.aload_n 0, 1) := by decide +kernel
theorem dX1_prepare_13 : decode cX1_prepare 13 = .ok (.getfield 59, 3) := by decide +kernel
theorem dX1_prepare_16 : decode cX1_prepare 16 = .ok (.getfield 93, 3) := by decide +kernel
theorem dX1_prepare_19 : decode cX1_prepare 19 = .ok (.if_icmp .ge 14, 3) := by decide +kernel
theorem dX1_prepare_22 : decode cX1_prepare 22 = .ok (.aload_n 0, 1) := by decide +kernel
theorem dX1_prepare_23 : decode cX1_prepare 23 = .ok (.iload_n 1, 1) := by decide +kernel
theorem dX1_prepare_24 : decode cX1_prepare 24 = .ok (.invokevirtual 98, 3) := by decide +kernel
theorem dX1_prepare_27 : decode cX1_prepare 27 = .ok (.iinc 1 1, 3) := by decide +kernel
theorem dX1_prepare_30 : decode cX1_prepare 30 = .ok (.goto (-19), 3) := by decide +kernel
theorem dX1_prepare_33 : decode cX1_prepare 33 = .ok (.aload_n 0, 1) := by decide +kernel
theorem dX1_prepare_34 : decode cX1_prepare 34 = .ok (.getfield 39, 3) := by decide +kernel
theorem dX1_prepare_37 : decode cX1_prepare 37 = .ok (.iconst 0, 1) := by decide +kernel
theorem dX1_prepare_38 : decode cX1_prepare 38 = .ok (.iconst 0, 1) := by decide +kernel
theorem dX1_prepare_39 : decode cX1_prepare 39 = .ok (.iastore, 1) := by decide +kernel
theorem dX1_prepare_40 : decode cX1_prepare 40 = .ok (.return_, 1) := by decide +kernel
theorem dX1_listLegal_0 : decode cX1_listLegal 0 = .ok (.aload_n 0, 1) := by decide +kernel
theorem dX1_listLegal_1 : decode cX1_listLegal 1 = .ok (.getfield 15, 3) := by decide +kernel
theorem dX1_listLegal_4 : decode cX1_listLegal 4 = .ok (.iload_n 1, 1) := by decide +kernel
theorem dX1_listLegal_5 : decode cX1_listLegal 5 = .ok (.iconst 0, 1) := by decide +kernel
theorem dX1_listLegal_6 : decode cX1_listLegal 6 = .ok (.iastore, 1) := by decide +kernel
theorem dX1_listLegal_7 : decode cX1_listLegal 7 = .ok (.aload_n 0, 1) := by decide +kernel
theorem dX1_listLegal_8 : decode cX1_listLegal 8 = .ok (.getfield 21, 3) := by decide +kernel
theorem dX1_listLegal_11 : decode cX1_listLegal 11 = .ok (.iload_n 1, 1) := by decide +kernel
theorem dX1_listLegal_12 : decode cX1_listLegal 12 = .ok (.iconst 0, 1) := by decide +kernel
theorem dX1_listLegal_13 : decode cX1_listLegal 13 = .ok (.iastore, 1) := by decide +kernel
theorem dX1_listLegal_14 : decode cX1_listLegal 14 = .ok (.aload_n 0, 1) := by decide +kernel
theorem dX1_listLegal_15 : decode cX1_listLegal 15 = .ok (.getfield 59, 3) := by decide +kernel
theorem dX1_listLegal_18 : decode cX1_listLegal 18 = .ok (.iload_n 1, 1) := by decide +kernel
theorem dX1_listLegal_19 : decode cX1_listLegal 19 = .ok (.invokevirtual 102, 3) := by decide +kernel
theorem dX1_listLegal_22 : decode cX1_listLegal 22 = .ok (.ifCond .ne 4, 3) := by decide +kernel
theorem dX1_listLegal_25 : decode cX1_listLegal 25 = .ok (.return_, 1) := by decide +kernel
theorem dX1_listLegal_26 : decode cX1_listLegal 26 = .ok (.aload_n 0, 1) := by decide +kernel
theorem dX1_listLegal_27 : decode cX1_listLegal 27 = .ok (.getfield 59, 3) := by decide +kernel
theorem dX1_listLegal_30 : decode cX1_listLegal 30 = .ok (.getfield 106, 3) := by decide +kernel
theorem dX1_listLegal_33 : decode cX1_listLegal 33 = .ok (.iload_n 1, 1) := by decide +kernel
theorem dX1_listLegal_34 : decode cX1_listLegal 34 = .ok (.iaload, 1) := by decide +kernel
theorem dX1_listLegal_35 : decode cX1_listLegal 35 = .ok (.istore_n 2, 1) := by decide +kernel
theorem dX1_listLegal_36 : decode cX1_listLegal 36 = .ok (.iload_n 1, 1) := by decide +kernel
theorem dX1_listLegal_37 : decode cX1_listLegal 37 = .ok (.ifCond .ne 7, 3) := by decide +kernel
theorem dX1_listLegal_40 : decode cX1_listLegal 40 = .ok (.iconst 1, 1) := by decide +kernel
theorem dX1_listLegal_41 : decode cX1_listLegal 41 = .ok (.goto 10, 3) := by decide +kernel
theorem dX1_listLegal_44 : decode cX1_listLegal 44 = .ok (.aload_n 0, 1) := by decide +kernel
theorem dX1_listLegal_45 : decode cX1_listLegal 45 = .ok (.getfield 63, 3) := by decide +kernel
theorem dX1_listLegal_48 : decode cX1_listLegal 48 = .ok (.getfield 109, 3) := by decide +kernel
theorem dX1_listLegal_51 : decode cX1_listLegal 51 = .ok (.istore_n 3, 1) := by decide +kernel
theorem dX1_listLegal_52 : decode cX1_listLegal 52 = .ok (.iconst 0, 1) := by decide +kernel
theorem dX1_listLegal_53 : decode cX1_listLegal 53 = .ok (.istore 4, 2) := by decide +kernel
theorem dX1_listLegal_55 : decode cX1_listLegal 55 = .ok (.iload 4, 2) := by decide +kernel
theorem dX1_listLegal_57 : decode cX1_listLegal 57 = .ok (.iload_n 3, 1) := by decide +kernel
theorem dX1_listLegal_58 : decode cX1_listLegal 58 = .ok (.if_icmp .ge 131, 3) := by decide +kernel
theorem dX1_listLegal_61 : decode cX1_listLegal 61 = .ok (.aload_n 0, 1) := by decide +kernel
theorem dX1_listLegal_62 : decode cX1_listLegal 62 = .ok (.getfield 63, 3) := by decide +kernel
theorem dX1_listLegal_65 : decode cX1_listLegal 65 = .ok (.iload 4, 2) := by decide +kernel
theorem dX1_listLegal_67 : decode cX1_listLegal 67 = .ok (.invokevirtual 110, 3) := by decide +kernel
theorem dX1_listLegal_70 : decode cX1_listLegal 70 = .ok (.aload_n 0, 1) := by decide +kernel
theorem dX1_listLegal_71 : decode cX1_listLegal 71 = .ok (.getfield 59, 3) := by decide +kernel
theorem dX1_listLegal_74 : decode cX1_listLegal 74 = .ok (.getfield 114, 3) := by decide +kernel
theorem dX1_listLegal_77 : decode cX1_listLegal 77 = .ok (.iload_n 1, 1) := by decide +kernel
theorem dX1_listLegal_78 : decode cX1_listLegal 78 = .ok (.iaload, 1) := by decide +kernel
theorem dX1_listLegal_79 : decode cX1_listLegal 79 = .ok (.if_icmp .gt 104, 3) := by decide +kernel
theorem dX1_listLegal_82 : decode cX1_listLegal 82 = .ok (.aload_n 0, 1) := by decide +kernel
theorem dX1_listLegal_83 : decode cX1_listLegal 83 = .ok (.getfield 63, 3) := by decide +kernel
theorem dX1_listLegal_86 : decode cX1_listLegal 86 = .ok (.iload_n 2, 1) := by decide +kernel
theorem dX1_listLegal_87 : decode cX1_listLegal 87 = .ok (.iload 4, 2) := by decide +kernel
theorem dX1_listLegal_89 : decode cX1_listLegal 89 = .ok (.invokevirtual 117, 3) := by decide +kernel
theorem dX1_listLegal_92 : decode cX1_listLegal 92 = .ok (.ifCond .ne 6, 3) := by decide +kernel
theorem dX1_listLegal_95 : decode cX1_listLegal 95 = .ok (.goto 88, 3) := by decide +kernel
theorem dX1_listLegal_98 : decode cX1_listLegal 98 = .ok (.iload_n 1, 1) := by decide +kernel
theorem dX1_listLegal_99 : decode cX1_listLegal 99 = .ok (.bipush 16, 2) := by decide +kernel
theorem dX1_listLegal_101 : decode cX1_listLegal 101 = .ok (.imul, 1) := by decide +kernel
theorem dX1_listLegal_102 : decode cX1_listLegal 102 = .ok (.iload 4, 2) := by decide +kernel
theorem dX1_listLegal_104 : decode cX1_listLegal 104 = .ok (.iadd, 1) := by decide +kernel
theorem dX1_listLegal_105 : decode cX1_listLegal 105 = .ok (.istore 5, 2) := by decide +kernel
theorem dX1_listLegal_107 : decode cX1_listLegal 107 = .ok (.aload_n 0, 1) := by decide +kernel
theorem dX1_listLegal_108 : decode cX1_listLegal 108 = .ok (.getfield 11, 3) := by decide +kernel
theorem dX1_listLegal_111 : decode cX1_listLegal 111 = .ok (.iload_n 1, 1) := by decide +kernel
theorem dX1_listLegal_112 : decode cX1_listLegal 112 = .ok (.bipush 16, 2) := by decide +kernel
theorem dX1_listLegal_114 : decode cX1_listLegal 114 = .ok (.imul, 1) := by decide +kernel
theorem dX1_listLegal_115 : decode cX1_listLegal 115 = .ok (.aload_n 0, 1) := by decide +kernel
theorem dX1_listLegal_116 : decode cX1_listLegal 116 = .ok (.getfield 15, 3) := by decide +kernel
theorem dX1_listLegal_119 : decode cX1_listLegal 119 = .ok (.iload_n 1, 1) := by decide +kernel
theorem dX1_listLegal_120 : decode cX1_listLegal 120 = .ok (.dup2, 1) := by decide +kernel
theorem dX1_listLegal_121 : decode cX1_listLegal 121 = .ok (.iaload, 1) := by decide +kernel
theorem dX1_listLegal_122 : decode cX1_listLegal 122 = .ok (.dup_x2, 1) := by decide +kernel
theorem dX1_listLegal_123 : decode cX1_listLegal 123 = .ok (.iconst 1, 1) := by decide +kernel
theorem dX1_listLegal_124 : decode cX1_listLegal 124 = .ok (.iadd, 1) := by decide +kernel
theorem dX1_listLegal_125 : decode cX1_listLegal 125 = .ok (.iastore, 1) := by decide +kernel
theorem dX1_listLegal_126 : decode cX1_listLegal 126 = .ok (.iadd, 1) := by decide +kernel
theorem dX1_listLegal_127 : decode cX1_listLegal 127 = .ok (.iload 4, 2) := by decide +kernel
theorem dX1_listLegal_129 : decode cX1_listLegal 129 = .ok (.iastore, 1) := by decide +kernel
theorem dX1_listLegal_130 : decode cX1_listLegal 130 = .ok (.aload_n 0, 1) := by decide +kernel
theorem dX1_listLegal_131 : decode cX1_listLegal 131 = .ok (.getfield 24, 3) := by decide +kernel
theorem dX1_listLegal_134 : decode cX1_listLegal 134 = .ok (.iload 5, 2) := by decide +kernel
theorem dX1_listLegal_136 : decode cX1_listLegal 136 = .ok (.aload_n 0, 1) := by decide +kernel
theorem dX1_listLegal_137 : decode cX1_listLegal 137 = .ok (.getfield 63, 3) := by decide +kernel
theorem dX1_listLegal_140 : decode cX1_listLegal 140 = .ok (.iload_n 2, 1) := by decide +kernel
theorem dX1_listLegal_141 : decode cX1_listLegal 141 = .ok (.iload 4, 2) := by decide +kernel
theorem dX1_listLegal_143 : decode cX1_listLegal 143 = .ok (.invokevirtual 121, 3) := by decide +kernel
theorem dX1_listLegal_146 : decode cX1_listLegal 146 = .ok (.iastore, 1) := by decide +kernel
theorem dX1_listLegal_147 : decode cX1_listLegal 147 = .ok (.aload_n 0, 1) := by decide +kernel
theorem dX1_listLegal_148 : decode cX1_listLegal 148 = .ok (.getfield 27, 3) := by decide +kernel
theorem dX1_listLegal_151 : decode cX1_listLegal 151 = .ok (.iload 5, 2) := by decide +kernel
theorem dX1_listLegal_153 : decode cX1_listLegal 153 = .ok (.aload_n 0, 1) := by decide +kernel
theorem dX1_listLegal_154 : decode cX1_listLegal 154 = .ok (.getfield 78, 3) := by decide +kernel
theorem dX1_listLegal_157 : decode cX1_listLegal 157 = .ok (.iload_n 1, 1) := by decide +kernel
theorem dX1_listLegal_158 : decode cX1_listLegal 158 = .ok (.iaload, 1) := by decide +kernel
theorem dX1_listLegal_159 : decode cX1_listLegal 159 = .ok (.aload_n 0, 1) := by decide +kernel
theorem dX1_listLegal_160 : decode cX1_listLegal 160 = .ok (.getfield 63, 3) := by decide +kernel
theorem dX1_listLegal_163 : decode cX1_listLegal 163 = .ok (.iload_n 2, 1) := by decide +kernel
theorem dX1_listLegal_164 : decode cX1_listLegal 164 = .ok (.iload 4, 2) := by decide +kernel
theorem dX1_listLegal_166 : decode cX1_listLegal 166 = .ok (.invokevirtual 125, 3) := by decide +kernel
theorem dX1_listLegal_169 : decode cX1_listLegal 169 = .ok (.imul, 1) := by decide +kernel
theorem dX1_listLegal_170 : decode cX1_listLegal 170 = .ok (.iastore, 1) := by decide +kernel
theorem dX1_listLegal_171 : decode cX1_listLegal 171 = .ok (.aload_n 0, 1) := by decide +kernel
theorem dX1_listLegal_172 : decode cX1_listLegal 172 = .ok (.iload_n 1, 1) := by decide +kernel
theorem dX1_listLegal_173 : decode cX1_listLegal 173 = .ok (.aload_n 0, 1) := by decide +kernel
theorem dX1_listLegal_174 : decode cX1_listLegal 174 = .ok (.getfield 24, 3) := by decide +kernel
theorem dX1_listLegal_177 : decode cX1_listLegal 177 = .ok (.iload 5, 2) := by decide +kernel
theorem dX1_listLegal_179 : decode cX1_listLegal 179 = .ok (.iaload, 1) := by decide +kernel
theorem dX1_listLegal_180 : decode cX1_listLegal 180 = .ok (.invokevirtual 128, 3) := by decide +kernel
theorem dX1_listLegal_183 : decode cX1_listLegal 183 = .ok (.iinc 4 1, 3) := by decide +kernel
theorem dX1_listLegal_186 : decode cX1_listLegal 186 = .ok (.goto (-131), 3) := by decide +kernel
theorem dX1_listLegal_189 : decode cX1_listLegal 189 = .ok (.return_, 1) := by decide +kernel
theorem dX1_listExit_0 : decode cX1_listExit 0 = .ok (.iload_n 1, 1) := by decide +kernel
theorem dX1_listExit_1 : decode cX1_listExit 1 = .ok (.bipush 16, 2) := by decide +kernel
theorem dX1_listExit_3 : decode cX1_listExit 3 = .ok (.imul, 1) := by decide +kernel
theorem dX1_listExit_4 : decode cX1_listExit 4 = .ok (.istore_n 3, 1) := by decide +kernel
theorem dX1_listExit_5 : decode cX1_listExit 5 = .ok (.iconst 0, 1) := by decide +kernel
theorem dX1_listExit_6 : decode cX1_listExit 6 = .ok (.istore 4, 2) := by decide +kernel
theorem dX1_listExit_8 : decode cX1_listExit 8 = .ok (.iload 4, 2) := by decide +kernel
theorem dX1_listExit_10 : decode cX1_listExit 10 = .ok (.aload_n 0, 1) := by decide +kernel
theorem dX1_listExit_11 : decode cX1_listExit 11 = .ok (.getfield 21, 3) := by decide +kernel
theorem dX1_listExit_14 : decode cX1_listExit 14 = .ok (.iload_n 1, 1) := by decide +kernel
theorem dX1_listExit_15 : decode cX1_listExit 15 = .ok (.iaload, 1) := by decide +kernel
theorem dX1_listExit_16 : decode cX1_listExit 16 = .ok (.if_icmp .ge 23, 3) := by decide +kernel
theorem dX1_listExit_19 : decode cX1_listExit 19 = .ok (.aload_n 0, 1) := by decide +kernel
theorem dX1_listExit_20 : decode cX1_listExit 20 = .ok (.getfield 18, 3) := by decide +kernel
theorem dX1_listExit_23 : decode cX1_listExit 23 = .ok (.iload_n 3, 1) := by decide +kernel
theorem dX1_listExit_24 : decode cX1_listExit 24 = .ok (.iload 4, 2) := by decide +kernel
theorem dX1_listExit_26 : decode cX1_listExit 26 = .ok (.iadd, 1) := by decide +kernel
theorem dX1_listExit_27 : decode cX1_listExit 27 = .ok (.iaload, 1) := by decide +kernel
theorem dX1_listExit_28 : decode cX1_listExit 28 = .ok (.iload_n 2, 1) := by decide +kernel
theorem dX1_listExit_29 : decode cX1_listExit 29 = .ok (.if_icmp .ne 4, 3) := by decide +kernel
theorem dX1_listExit_32 : decode cX1_listExit 32 = .ok (.return_, 1) := by decide +kernel
theorem dX1_listExit_33 : decode cX1_listExit 33 = .ok (.iinc 4 1, 3) := by decide +kernel
theorem dX1_listExit_36 : decode cX1_listExit 36 = .ok (.goto (-28), 3) := by decide +kernel
theorem dX1_listExit_39 : decode cX1_listExit 39 = .ok (.aload_n 0, 1) := by decide +kernel
theorem dX1_listExit_40 : decode cX1_listExit 40 = .ok (.getfield 18, 3) := by decide +kernel
theorem dX1_listExit_43 : decode cX1_listExit 43 = .ok (.iload_n 3, 1) := by decide +kernel
theorem dX1_listExit_44 : decode cX1_listExit 44 = .ok (.aload_n 0, 1) := by decide +kernel
theorem dX1_listExit_45 : decode cX1_listExit 45 = .ok (.getfield 21, 3) := by decide +kernel
theorem dX1_listExit_48 : decode cX1_listExit 48 = .ok (.iload_n 1, 1) := by decide +kernel
theorem dX1_listExit_49 : decode cX1_listExit 49 = .ok (.dup2, 1) := by decide +kernel
theorem dX1_listExit_50 : decode cX1_listExit 50 = .ok (.iaload, 1) := by decide +kernel
theorem dX1_listExit_51 : decode cX1_listExit 51 = .ok (.dup_x2, 1) := by decide +kernel
theorem dX1_listExit_52 : decode cX1_listExit 52 = .ok (.iconst 1, 1) := by decide +kernel
theorem dX1_listExit_53 : decode cX1_listExit 53 = .ok (.iadd, 1) := by decide +kernel
theorem dX1_listExit_54 : decode cX1_listExit 54 = .ok (.iastore, 1) := by decide +kernel
theorem dX1_listExit_55 : decode cX1_listExit 55 = .ok (.iadd, 1) := by decide +kernel
theorem dX1_listExit_56 : decode cX1_listExit 56 = .ok (.iload_n 2, 1) := by decide +kernel
theorem dX1_listExit_57 : decode cX1_listExit 57 = .ok (.iastore, 1) := by decide +kernel
theorem dX1_listExit_58 : decode cX1_listExit 58 = .ok (.return_, 1) := by decide +kernel
theorem dX1_tryAllPins_0 : decode cX1_tryAllPins 0 = .ok (.aload_n 0, 1) := by decide +kernel
theorem dX1_tryAllPins_1 : decode cX1_tryAllPins 1 = .ok (.getfield 59, 3) := by decide +kernel
theorem dX1_tryAllPins_4 : decode cX1_tryAllPins 4 = .ok (.iconst 0, 1) := by decide +kernel
theorem dX1_tryAllPins_5 : decode cX1_tryAllPins 5 = .ok (.invokevirtual 132, 3) := by decide +kernel
theorem dX1_tryAllPins_8 : decode cX1_tryAllPins 8 = .ok (.istore_n 2, 1) := by decide +kernel
theorem dX1_tryAllPins_9 : decode cX1_tryAllPins 9 = .ok (.iload_n 2, 1) := by decide +kernel
theorem dX1_tryAllPins_10 : decode cX1_tryAllPins 10 = .ok (.bipush (-4), 2) := by decide +kernel
theorem dX1_tryAllPins_12 : decode cX1_tryAllPins 12 = .ok (.if_icmp .ne 8, 3) := by decide +kernel
theorem dX1_tryAllPins_15 : decode cX1_tryAllPins 15 = .ok (.bipush (-4), 2) := by decide +kernel
theorem dX1_tryAllPins_17 : decode cX1_tryAllPins 17 = .ok (.goto 13, 3) := by decide +kernel
theorem dX1_tryAllPins_20 : decode cX1_tryAllPins 20 = .ok (.aload_n 0, 1) := by decide +kernel
theorem dX1_tryAllPins_21 : decode cX1_tryAllPins 21 = .ok (.getfield 59, 3) := by decide +kernel
theorem dX1_tryAllPins_24 : decode cX1_tryAllPins 24 = .ok (.iload_n 2, 1) := by decide +kernel
theorem dX1_tryAllPins_25 : decode cX1_tryAllPins 25 = .ok (.iconst 1, 1) := by decide +kernel
theorem dX1_tryAllPins_26 : decode cX1_tryAllPins 26 = .ok (.iadd, 1) := by decide +kernel
theorem dX1_tryAllPins_27 : decode cX1_tryAllPins 27 = .ok (.invokevirtual 132, 3) := by decide +kernel
theorem dX1_tryAllPins_30 : decode cX1_tryAllPins 30 = .ok (.istore_n 3, 1) := by decide +kernel
theorem dX1_tryAllPins_31 : decode cX1_tryAllPins 31 = .ok (.bipush (-4), 2) := by decide +kernel
theorem dX1_tryAllPins_33 : decode cX1_tryAllPins 33 = .ok (.istore 4, 2) := by decide +kernel
theorem dX1_tryAllPins_35 : decode cX1_tryAllPins 35 = .ok (.bipush (-4), 2) := by decide +kernel
theorem dX1_tryAllPins_37 : decode cX1_tryAllPins 37 = .ok (.istore 5, 2) := by decide +kernel
theorem dX1_tryAllPins_39 : decode cX1_tryAllPins 39 = .ok (.aload_n 0, 1) := by decide +kernel
theorem dX1_tryAllPins_40 : decode cX1_tryAllPins 40 = .ok (.ldc 86, 2) := by decide +kernel
theorem dX1_tryAllPins_42 : decode cX1_tryAllPins 42 = .ok (.putfield 48, 3) := by decide +kernel
theorem dX1_tryAllPins_45 : decode cX1_tryAllPins 45 = .ok (.iconst 0, 1) := by decide +kernel
theorem dX1_tryAllPins_46 : decode cX1_tryAllPins 46 = .ok (.istore 6, 2) := by decide +kernel
theorem dX1_tryAllPins_48 : decode cX1_tryAllPins 48 = .ok (.iload 6, 2) := by decide +kernel
theorem dX1_tryAllPins_50 : decode cX1_tryAllPins 50 = .ok (.aload_n 0, 1) := by decide +kernel
theorem dX1_tryAllPins_51 : decode cX1_tryAllPins 51 = .ok (.iload_n 2, 1) := by decide +kernel
theorem dX1_tryAllPins_52 : decode cX1_tryAllPins 52 = .ok (.invokevirtual 135, 3) := by decide +kernel
theorem dX1_tryAllPins_55 : decode cX1_tryAllPins 55 = .ok (.if_icmp .ge 88, 3) := by decide +kernel
theorem dX1_tryAllPins_58 : decode cX1_tryAllPins 58 = .ok (.iconst 0, 1) := by decide +kernel
theorem dX1_tryAllPins_59 : decode cX1_tryAllPins 59 = .ok (.istore 7, 2) := by decide +kernel
theorem dX1_tryAllPins_61 : decode cX1_tryAllPins 61 = .ok (.iload 7, 2) := by decide +kernel
theorem dX1_tryAllPins_63 : decode cX1_tryAllPins 63 = .ok (.aload_n 0, 1) := by decide +kernel
theorem dX1_tryAllPins_64 : decode cX1_tryAllPins 64 = .ok (.iload_n 3, 1) := by decide +kernel
theorem dX1_tryAllPins_65 : decode cX1_tryAllPins 65 = .ok (.invokevirtual 135, 3) := by decide +kernel
theorem dX1_tryAllPins_68 : decode cX1_tryAllPins 68 = .ok (.if_icmp .ge 69, 3) := by decide +kernel
theorem dX1_tryAllPins_71 : decode cX1_tryAllPins 71 = .ok (.aload_n 0, 1) := by decide +kernel
theorem dX1_tryAllPins_72 : decode cX1_tryAllPins 72 = .ok (.iload_n 2, 1) := by decide +kernel
theorem dX1_tryAllPins_73 : decode cX1_tryAllPins 73 = .ok (.iload 6, 2) := by decide +kernel
theorem dX1_tryAllPins_75 : decode cX1_tryAllPins 75 = .ok (.invokevirtual 138, 3) := by decide +kernel
theorem dX1_tryAllPins_78 : decode cX1_tryAllPins 78 = .ok (.aload_n 0, 1) := by decide +kernel
theorem dX1_tryAllPins_79 : decode cX1_tryAllPins 79 = .ok (.iload_n 3, 1) := by decide +kernel
theorem dX1_tryAllPins_80 : decode cX1_tryAllPins 80 = .ok (.iload 7, 2) := by decide +kernel
theorem dX1_tryAllPins_82 : decode cX1_tryAllPins 82 = .ok (.invokevirtual 138, 3) := by decide +kernel
theorem dX1_tryAllPins_85 : decode cX1_tryAllPins 85 = .ok (.aload_n 0, 1) := by decide +kernel
theorem dX1_tryAllPins_86 : decode cX1_tryAllPins 86 = .ok (.invokevirtual 141, 3) := by decide +kernel
theorem dX1_tryAllPins_89 : decode cX1_tryAllPins 89 = .ok (.aload_n 0, 1) := by decide +kernel
theorem dX1_tryAllPins_90 : decode cX1_tryAllPins 90 = .ok (.invokevirtual 144, 3) := by decide +kernel
theorem dX1_tryAllPins_93 : decode cX1_tryAllPins 93 = .ok (.istore 8, 2) := by decide +kernel
theorem dX1_tryAllPins_95 : decode cX1_tryAllPins 95 = .ok (.iload_n 1, 1) := by decide +kernel
theorem dX1_tryAllPins_96 : decode cX1_tryAllPins 96 = .ok (.ifCond .eq 9, 3) := by decide +kernel
theorem dX1_tryAllPins_99 : decode cX1_tryAllPins 99 = .ok (.aload_n 0, 1) := by decide +kernel
theorem dX1_tryAllPins_100 : decode cX1_tryAllPins 100 = .ok (.iload 8, 2) := by decide +kernel
theorem dX1_tryAllPins_102 : decode cX1_tryAllPins 102 = .ok (.invokevirtual 148, 3) := by decide +kernel
theorem dX1_tryAllPins_105 : decode cX1_tryAllPins 105 = .ok (.iload 8, 2) := by decide +kernel
theorem dX1_tryAllPins_107 : decode cX1_tryAllPins 107 = .ok (.aload_n 0, 1) := by decide +kernel
theorem dX1_tryAllPins_108 : decode cX1_tryAllPins 108 = .ok (.getfield 48, 3) := by decide +kernel
theorem dX1_tryAllPins_111 : decode cX1_tryAllPins 111 = .ok (.if_icmp .lt 6, 3) := by decide +kernel
theorem dX1_tryAllPins_114 : decode cX1_tryAllPins 114 = .ok (.goto 17, 3) := by decide +kernel
theorem dX1_tryAllPins_117 : decode cX1_tryAllPins 117 = .ok (.aload_n 0, 1) := by decide +kernel
theorem dX1_tryAllPins_118 : decode cX1_tryAllPins 118 = .ok (.iload 8, 2) := by decide +kernel
theorem dX1_tryAllPins_120 : decode cX1_tryAllPins 120 = .ok (.putfield 48, 3) := by decide +kernel
theorem dX1_tryAllPins_123 : decode cX1_tryAllPins 123 = .ok (.iload 6, 2) := by decide +kernel
theorem dX1_tryAllPins_125 : decode cX1_tryAllPins 125 = .ok (.istore 4, 2) := by decide +kernel
theorem dX1_tryAllPins_127 : decode cX1_tryAllPins 127 = .ok (.iload 7, 2) := by decide +kernel
theorem dX1_tryAllPins_129 : decode cX1_tryAllPins 129 = .ok (.istore 5, 2) := by decide +kernel
theorem dX1_tryAllPins_131 : decode cX1_tryAllPins 131 = .ok (.iinc 7 1, 3) := by decide +kernel
theorem dX1_tryAllPins_134 : decode cX1_tryAllPins 134 = .ok (.goto (-73), 3) := by decide +kernel
theorem dX1_tryAllPins_137 : decode cX1_tryAllPins 137 = .ok (.iinc 6 1, 3) := by decide +kernel
theorem dX1_tryAllPins_140 : decode cX1_tryAllPins 140 = .ok (.goto (-92), 3) := by decide +kernel
theorem dX1_tryAllPins_143 : decode cX1_tryAllPins 143 = .ok (.aload_n 0, 1) := by decide +kernel
theorem dX1_tryAllPins_144 : decode cX1_tryAllPins 144 = .ok (.iload_n 2, 1) := by decide +kernel
theorem dX1_tryAllPins_145 : decode cX1_tryAllPins 145 = .ok (.iload 4, 2) := by decide +kernel
theorem dX1_tryAllPins_147 : decode cX1_tryAllPins 147 = .ok (.invokevirtual 138, 3) := by decide +kernel
theorem dX1_tryAllPins_150 : decode cX1_tryAllPins 150 = .ok (.aload_n 0, 1) := by decide +kernel
theorem dX1_tryAllPins_151 : decode cX1_tryAllPins 151 = .ok (.iload_n 3, 1) := by decide +kernel
theorem dX1_tryAllPins_152 : decode cX1_tryAllPins 152 = .ok (.iload 5, 2) := by decide +kernel
theorem dX1_tryAllPins_154 : decode cX1_tryAllPins 154 = .ok (.invokevirtual 138, 3) := by decide +kernel
theorem dX1_tryAllPins_157 : decode cX1_tryAllPins 157 = .ok (.aload_n 0, 1) := by decide +kernel
theorem dX1_tryAllPins_158 : decode cX1_tryAllPins 158 = .ok (.invokevirtual 141, 3) := by decide +kernel
theorem dX1_tryAllPins_161 : decode cX1_tryAllPins 161 = .ok (.aload_n 0, 1) := by decide +kernel
theorem dX1_tryAllPins_162 : decode cX1_tryAllPins 162 = .ok (.invokevirtual 151, 3) := by decide +kernel
theorem dX1_tryAllPins_165 : decode cX1_tryAllPins 165 = .ok (.return_, 1) := by decide +kernel
theorem dX1_pinCount_0 : decode cX1_pinCount 0 = .ok (.iload_n 1, 1) := by decide +kernel
theorem dX1_pinCount_1 : decode cX1_pinCount 1 = .ok (.bipush (-4), 2) := by decide +kernel
theorem dX1_pinCount_3 : decode cX1_pinCount 3 = .ok (.if_icmp .ne 7, 3) := by decide +kernel
theorem dX1_pinCount_6 : decode cX1_pinCount 6 = .ok (.iconst 1, 1) := by decide +kernel
theorem dX1_pinCount_7 : decode cX1_pinCount 7 = .ok (.goto 9, 3) := by decide +kernel
theorem dX1_pinCount_10 : decode cX1_pinCount 10 = .ok (.aload_n 0, 1) := by decide +kernel
theorem dX1_pinCount_11 : decode cX1_pinCount 11 = .ok (.getfield 15, 3) := by decide +kernel
theorem dX1_pinCount_14 : decode cX1_pinCount 14 = .ok (.iload_n 1, 1) := by decide +kernel
theorem dX1_pinCount_15 : decode cX1_pinCount 15 = .ok (.iaload, 1) := by decide +kernel
theorem dX1_pinCount_16 : decode cX1_pinCount 16 = .ok (.ireturn, 1) := by decide +kernel
theorem dX1_pin_0 : decode cX1_pin 0 = .ok (.iload_n 1, 1) := by decide +kernel
theorem dX1_pin_1 : decode cX1_pin 1 = .ok (.bipush (-4), 2) := by decide +kernel
theorem dX1_pin_3 : decode cX1_pin 3 = .ok (.if_icmp .eq 26, 3) := by decide +kernel
theorem dX1_pin_6 : decode cX1_pin 6 = .ok (.iload_n 2, 1) := by decide +kernel
theorem dX1_pin_7 : decode cX1_pin 7 = .ok (.bipush (-4), 2) := by decide +kernel
theorem dX1_pin_9 : decode cX1_pin 9 = .ok (.if_icmp .eq 20, 3) := by decide +kernel
theorem dX1_pin_12 : decode cX1_pin 12 = .ok (.aload_n 0, 1) := by decide +kernel
theorem dX1_pin_13 : decode cX1_pin 13 = .ok (.getfield 39, 3) := by decide +kernel
theorem dX1_pin_16 : decode cX1_pin 16 = .ok (.iload_n 1, 1) := by decide +kernel
theorem dX1_pin_17 : decode cX1_pin 17 = .ok (.aload_n 0, 1) := by decide +kernel
theorem dX1_pin_18 : decode cX1_pin 18 = .ok (.getfield 11, 3) := by decide +kernel
theorem dX1_pin_21 : decode cX1_pin 21 = .ok (.iload_n 1, 1) := by decide +kernel
theorem dX1_pin_22 : decode cX1_pin 22 = .ok (.bipush 16, 2) := by decide +kernel
theorem dX1_pin_24 : decode cX1_pin 24 = .ok (.imul, 1) := by decide +kernel
theorem dX1_pin_25 : decode cX1_pin 25 = .ok (.iload_n 2, 1) := by decide +kernel
theorem dX1_pin_26 : decode cX1_pin 26 = .ok (.iadd, 1) := by decide +kernel
theorem dX1_pin_27 : decode cX1_pin 27 = .ok (.iaload, 1) := by decide +kernel
theorem dX1_pin_28 : decode cX1_pin 28 = .ok (.iastore, 1) := by decide +kernel
theorem dX1_pin_29 : decode cX1_pin 29 = .ok (.return_, 1) := by decide +kernel
theorem dX1_walkBack_0 : decode cX1_walkBack 0 = .ok (.aload_n 0, 1) := by decide +kernel
theorem dX1_walkBack_1 : decode cX1_walkBack 1 = .ok (.getfield 59, 3) := by decide +kernel
theorem dX1_walkBack_4 : decode cX1_walkBack 4 = .ok (.getfield 93, 3) := by decide +kernel
theorem dX1_walkBack_7 : decode cX1_walkBack 7 = .ok (.iconst 1, 1) := by decide +kernel
theorem dX1_walkBack_8 : decode cX1_walkBack 8 = .ok (.isub, 1) := by decide +kernel
theorem dX1_walkBack_9 : decode cX1_walkBack 9 = .ok (.istore_n 1, 1) := by decide +kernel
theorem dX1_walkBack_10 : decode cX1_walkBack 10 = .ok (.iload_n 1, 1) := by decide +kernel
theorem dX1_walkBack_11 : decode cX1_walkBack 11 = .ok (.ifCond .lt 176, 3) := by decide +kernel
theorem dX1_walkBack_14 : decode cX1_walkBack 14 = .ok (.aload_n 0, 1) := by decide +kernel
theorem dX1_walkBack_15 : decode cX1_walkBack 15 = .ok (.getfield 59, 3) := by decide +kernel
theorem dX1_walkBack_18 : decode cX1_walkBack 18 = .ok (.iload_n 1, 1) := by decide +kernel
theorem dX1_walkBack_19 : decode cX1_walkBack 19 = .ok (.invokevirtual 102, 3) := by decide +kernel
theorem dX1_walkBack_22 : decode cX1_walkBack 22 = .ok (.ifCond .ne 6, 3) := by decide +kernel
theorem dX1_walkBack_25 : decode cX1_walkBack 25 = .ok (.goto 156, 3) := by decide +kernel
theorem dX1_walkBack_28 : decode cX1_walkBack 28 = .ok (.iload_n 1, 1) := by decide +kernel
theorem dX1_walkBack_29 : decode cX1_walkBack 29 = .ok (.bipush 16, 2) := by decide +kernel
theorem dX1_walkBack_31 : decode cX1_walkBack 31 = .ok (.imul, 1) := by decide +kernel
theorem dX1_walkBack_32 : decode cX1_walkBack 32 = .ok (.istore_n 2, 1) := by decide +kernel
theorem dX1_walkBack_33 : decode cX1_walkBack 33 = .ok (.aload_n 0, 1) := by decide +kernel
theorem dX1_walkBack_34 : decode cX1_walkBack 34 = .ok (.getfield 39, 3) := by decide +kernel
theorem dX1_walkBack_37 : decode cX1_walkBack 37 = .ok (.iload_n 1, 1) := by decide +kernel
theorem dX1_walkBack_38 : decode cX1_walkBack 38 = .ok (.iaload, 1) := by decide +kernel
theorem dX1_walkBack_39 : decode cX1_walkBack 39 = .ok (.bipush (-4), 2) := by decide +kernel
theorem dX1_walkBack_41 : decode cX1_walkBack 41 = .ok (.if_icmp .eq 39, 3) := by decide +kernel
theorem dX1_walkBack_44 : decode cX1_walkBack 44 = .ok (.iload_n 2, 1) := by decide +kernel
theorem dX1_walkBack_45 : decode cX1_walkBack 45 = .ok (.aload_n 0, 1) := by decide +kernel
theorem dX1_walkBack_46 : decode cX1_walkBack 46 = .ok (.getfield 39, 3) := by decide +kernel
theorem dX1_walkBack_49 : decode cX1_walkBack 49 = .ok (.iload_n 1, 1) := by decide +kernel
theorem dX1_walkBack_50 : decode cX1_walkBack 50 = .ok (.iaload, 1) := by decide +kernel
theorem dX1_walkBack_51 : decode cX1_walkBack 51 = .ok (.iadd, 1) := by decide +kernel
theorem dX1_walkBack_52 : decode cX1_walkBack 52 = .ok (.istore_n 3, 1) := by decide +kernel
theorem dX1_walkBack_53 : decode cX1_walkBack 53 = .ok (.aload_n 0, 1) := by decide +kernel
theorem dX1_walkBack_54 : decode cX1_walkBack 54 = .ok (.getfield 30, 3) := by decide +kernel
theorem dX1_walkBack_57 : decode cX1_walkBack 57 = .ok (.iload_n 3, 1) := by decide +kernel
theorem dX1_walkBack_58 : decode cX1_walkBack 58 = .ok (.aload_n 0, 1) := by decide +kernel
theorem dX1_walkBack_59 : decode cX1_walkBack 59 = .ok (.getfield 27, 3) := by decide +kernel
theorem dX1_walkBack_62 : decode cX1_walkBack 62 = .ok (.iload_n 3, 1) := by decide +kernel
theorem dX1_walkBack_63 : decode cX1_walkBack 63 = .ok (.iaload, 1) := by decide +kernel
theorem dX1_walkBack_64 : decode cX1_walkBack 64 = .ok (.aload_n 0, 1) := by decide +kernel
theorem dX1_walkBack_65 : decode cX1_walkBack 65 = .ok (.iload_n 1, 1) := by decide +kernel
theorem dX1_walkBack_66 : decode cX1_walkBack 66 = .ok (.aload_n 0, 1) := by decide +kernel
theorem dX1_walkBack_67 : decode cX1_walkBack 67 = .ok (.getfield 24, 3) := by decide +kernel
theorem dX1_walkBack_70 : decode cX1_walkBack 70 = .ok (.iload_n 3, 1) := by decide +kernel
theorem dX1_walkBack_71 : decode cX1_walkBack 71 = .ok (.iaload, 1) := by decide +kernel
theorem dX1_walkBack_72 : decode cX1_walkBack 72 = .ok (.invokevirtual 154, 3) := by decide +kernel
theorem dX1_walkBack_75 : decode cX1_walkBack 75 = .ok (.iadd, 1) := by decide +kernel
theorem dX1_walkBack_76 : decode cX1_walkBack 76 = .ok (.iastore, 1) := by decide +kernel
theorem dX1_walkBack_77 : decode cX1_walkBack 77 = .ok (.goto 104, 3) := by decide +kernel
theorem dX1_walkBack_80 : decode cX1_walkBack 80 = .ok (.iconst 0, 1) := by decide +kernel
theorem dX1_walkBack_81 : decode cX1_walkBack 81 = .ok (.istore_n 3, 1) := by decide +kernel
theorem dX1_walkBack_82 : decode cX1_walkBack 82 = .ok (.iload_n 3, 1) := by decide +kernel
theorem dX1_walkBack_83 : decode cX1_walkBack 83 = .ok (.aload_n 0, 1) := by decide +kernel
theorem dX1_walkBack_84 : decode cX1_walkBack 84 = .ok (.getfield 21, 3) := by decide +kernel
theorem dX1_walkBack_87 : decode cX1_walkBack 87 = .ok (.iload_n 1, 1) := by decide +kernel
theorem dX1_walkBack_88 : decode cX1_walkBack 88 = .ok (.iaload, 1) := by decide +kernel
theorem dX1_walkBack_89 : decode cX1_walkBack 89 = .ok (.if_icmp .ge 35, 3) := by decide +kernel
theorem dX1_walkBack_92 : decode cX1_walkBack 92 = .ok (.aload_n 0, 1) := by decide +kernel
theorem dX1_walkBack_93 : decode cX1_walkBack 93 = .ok (.getfield 42, 3) := by decide +kernel
theorem dX1_walkBack_96 : decode cX1_walkBack 96 = .ok (.aload_n 0, 1) := by decide +kernel
theorem dX1_walkBack_97 : decode cX1_walkBack 97 = .ok (.getfield 18, 3) := by decide +kernel
theorem dX1_walkBack_100 : decode cX1_walkBack 100 = .ok (.iload_n 2, 1) := by decide +kernel
theorem dX1_walkBack_101 : decode cX1_walkBack 101 = .ok (.iload_n 3, 1) := by decide +kernel
theorem dX1_walkBack_102 : decode cX1_walkBack 102 = .ok (.iadd, 1) := by decide +kernel
theorem dX1_walkBack_103 : decode cX1_walkBack 103 = .ok (.iaload, 1) := by decide +kernel
theorem dX1_walkBack_104 : decode cX1_walkBack 104 = .ok (.aload_n 0, 1) := by decide +kernel
theorem dX1_walkBack_105 : decode cX1_walkBack 105 = .ok (.iload_n 1, 1) := by decide +kernel
theorem dX1_walkBack_106 : decode cX1_walkBack 106 = .ok (.aload_n 0, 1) := by decide +kernel
theorem dX1_walkBack_107 : decode cX1_walkBack 107 = .ok (.getfield 18, 3) := by decide +kernel
theorem dX1_walkBack_110 : decode cX1_walkBack 110 = .ok (.iload_n 2, 1) := by decide +kernel
theorem dX1_walkBack_111 : decode cX1_walkBack 111 = .ok (.iload_n 3, 1) := by decide +kernel
theorem dX1_walkBack_112 : decode cX1_walkBack 112 = .ok (.iadd, 1) := by decide +kernel
theorem dX1_walkBack_113 : decode cX1_walkBack 113 = .ok (.iaload, 1) := by decide +kernel
theorem dX1_walkBack_114 : decode cX1_walkBack 114 = .ok (.invokevirtual 154, 3) := by decide +kernel
theorem dX1_walkBack_117 : decode cX1_walkBack 117 = .ok (.iastore, 1) := by decide +kernel
theorem dX1_walkBack_118 : decode cX1_walkBack 118 = .ok (.iinc 3 1, 3) := by decide +kernel
theorem dX1_walkBack_121 : decode cX1_walkBack 121 = .ok (.goto (-39), 3) := by decide +kernel
theorem dX1_walkBack_124 : decode cX1_walkBack 124 = .ok (.iconst 0, 1) := by decide +kernel
theorem dX1_walkBack_125 : decode cX1_walkBack 125 = .ok (.istore_n 3, 1) := by decide +kernel
theorem dX1_walkBack_126 : decode cX1_walkBack 126 = .ok (.iload_n 3, 1) := by decide +kernel
theorem dX1_walkBack_127 : decode cX1_walkBack 127 = .ok (.aload_n 0, 1) := by decide +kernel
theorem dX1_walkBack_128 : decode cX1_walkBack 128 = .ok (.getfield 15, 3) := by decide +kernel
theorem dX1_walkBack_131 : decode cX1_walkBack 131 = .ok (.iload_n 1, 1) := by decide +kernel
theorem dX1_walkBack_132 : decode cX1_walkBack 132 = .ok (.iaload, 1) := by decide +kernel
theorem dX1_walkBack_133 : decode cX1_walkBack 133 = .ok (.if_icmp .ge 48, 3) := by decide +kernel
theorem dX1_walkBack_136 : decode cX1_walkBack 136 = .ok (.iload_n 2, 1) := by decide +kernel
theorem dX1_walkBack_137 : decode cX1_walkBack 137 = .ok (.aload_n 0, 1) := by decide +kernel
theorem dX1_walkBack_138 : decode cX1_walkBack 138 = .ok (.getfield 11, 3) := by decide +kernel
theorem dX1_walkBack_141 : decode cX1_walkBack 141 = .ok (.iload_n 2, 1) := by decide +kernel
theorem dX1_walkBack_142 : decode cX1_walkBack 142 = .ok (.iload_n 3, 1) := by decide +kernel
theorem dX1_walkBack_143 : decode cX1_walkBack 143 = .ok (.iadd, 1) := by decide +kernel
theorem dX1_walkBack_144 : decode cX1_walkBack 144 = .ok (.iaload, 1) := by decide +kernel
theorem dX1_walkBack_145 : decode cX1_walkBack 145 = .ok (.iadd, 1) := by decide +kernel
theorem dX1_walkBack_146 : decode cX1_walkBack 146 = .ok (.istore 4, 2) := by decide +kernel
theorem dX1_walkBack_148 : decode cX1_walkBack 148 = .ok (.aload_n 0, 1) := by decide +kernel
theorem dX1_walkBack_149 : decode cX1_walkBack 149 = .ok (.getfield 30, 3) := by decide +kernel
theorem dX1_walkBack_152 : decode cX1_walkBack 152 = .ok (.iload 4, 2) := by decide +kernel
theorem dX1_walkBack_154 : decode cX1_walkBack 154 = .ok (.aload_n 0, 1) := by decide +kernel
theorem dX1_walkBack_155 : decode cX1_walkBack 155 = .ok (.getfield 27, 3) := by decide +kernel
theorem dX1_walkBack_158 : decode cX1_walkBack 158 = .ok (.iload 4, 2) := by decide +kernel
theorem dX1_walkBack_160 : decode cX1_walkBack 160 = .ok (.iaload, 1) := by decide +kernel
theorem dX1_walkBack_161 : decode cX1_walkBack 161 = .ok (.aload_n 0, 1) := by decide +kernel
theorem dX1_walkBack_162 : decode cX1_walkBack 162 = .ok (.getfield 42, 3) := by decide +kernel
theorem dX1_walkBack_165 : decode cX1_walkBack 165 = .ok (.aload_n 0, 1) := by decide +kernel
theorem dX1_walkBack_166 : decode cX1_walkBack 166 = .ok (.getfield 24, 3) := by decide +kernel
theorem dX1_walkBack_169 : decode cX1_walkBack 169 = .ok (.iload 4, 2) := by decide +kernel
theorem dX1_walkBack_171 : decode cX1_walkBack 171 = .ok (.iaload, 1) := by decide +kernel
theorem dX1_walkBack_172 : decode cX1_walkBack 172 = .ok (.iaload, 1) := by decide +kernel
theorem dX1_walkBack_173 : decode cX1_walkBack 173 = .ok (.iadd, 1) := by decide +kernel
theorem dX1_walkBack_174 : decode cX1_walkBack 174 = .ok (.iastore, 1) := by decide +kernel
theorem dX1_walkBack_175 : decode cX1_walkBack 175 = .ok (.iinc 3 1, 3) := by decide +kernel
theorem dX1_walkBack_178 : decode cX1_walkBack 178 = .ok (.goto (-52), 3) := by decide +kernel
theorem dX1_walkBack_181 : decode cX1_walkBack 181 = .ok (.iinc 1 (-1), 3) := by decide +kernel
theorem dX1_walkBack_184 : decode cX1_walkBack 184 = .ok (.goto (-174), 3) := by decide +kernel
theorem dX1_walkBack_187 : decode cX1_walkBack 187 = .ok (.return_, 1) := by decide +kernel
theorem dX1_leaving_0 : decode cX1_leaving 0 = .ok (.aload_n 0, 1) := by decide +kernel
theorem dX1_leaving_1 : decode cX1_leaving 1 = .ok (.getfield 59, 3) := by decide +kernel
theorem dX1_leaving_4 : decode cX1_leaving 4 = .ok (.iload_n 1, 1) := by decide +kernel
theorem dX1_leaving_5 : decode cX1_leaving 5 = .ok (.invokevirtual 157, 3) := by decide +kernel
theorem dX1_leaving_8 : decode cX1_leaving 8 = .ok (.ifCond .eq 19, 3) := by decide +kernel
theorem dX1_leaving_11 : decode cX1_leaving 11 = .ok (.aload_n 0, 1) := by decide +kernel
theorem dX1_leaving_12 : decode cX1_leaving 12 = .ok (.iload_n 1, 1) := by decide +kernel
theorem dX1_leaving_13 : decode cX1_leaving 13 = .ok (.iload_n 2, 1) := by decide +kernel
theorem dX1_leaving_14 : decode cX1_leaving 14 = .ok (.invokevirtual 160, 3) := by decide +kernel
theorem dX1_leaving_17 : decode cX1_leaving 17 = .ok (.aload_n 0, 1) := by decide +kernel
theorem dX1_leaving_18 : decode cX1_leaving 18 = .ok (.iload_n 1, 1) := by decide +kernel
theorem dX1_leaving_19 : decode cX1_leaving 19 = .ok (.iload_n 2, 1) := by decide +kernel
theorem dX1_leaving_20 : decode cX1_leaving 20 = .ok (.invokevirtual 163, 3) := by decide +kernel
theorem dX1_leaving_23 : decode cX1_leaving 23 = .ok (.iadd, 1) := by decide +kernel
theorem dX1_leaving_24 : decode cX1_leaving 24 = .ok (.goto 9, 3) := by decide +kernel
theorem dX1_leaving_27 : decode cX1_leaving 27 = .ok (.aload_n 0, 1) := by decide +kernel
theorem dX1_leaving_28 : decode cX1_leaving 28 = .ok (.iload_n 1, 1) := by decide +kernel
theorem dX1_leaving_29 : decode cX1_leaving 29 = .ok (.iload_n 2, 1) := by decide +kernel
theorem dX1_leaving_30 : decode cX1_leaving 30 = .ok (.invokevirtual 160, 3) := by decide +kernel
theorem dX1_leaving_33 : decode cX1_leaving 33 = .ok (.ireturn, 1) := by decide +kernel
theorem dX1_leading_0 : decode cX1_leading 0 = .ok (.aload_n 0, 1) := by decide +kernel
theorem dX1_leading_1 : decode cX1_leading 1 = .ok (.getfield 59, 3) := by decide +kernel
theorem dX1_leading_4 : decode cX1_leading 4 = .ok (.iload_n 1, 1) := by decide +kernel
theorem dX1_leading_5 : decode cX1_leading 5 = .ok (.invokevirtual 166, 3) := by decide +kernel
theorem dX1_leading_8 : decode cX1_leading 8 = .ok (.ifCond .ne 5, 3) := by decide +kernel
theorem dX1_leading_11 : decode cX1_leading 11 = .ok (.iconst 0, 1) := by decide +kernel
theorem dX1_leading_12 : decode cX1_leading 12 = .ok (.ireturn, 1) := by decide +kernel
theorem dX1_leading_13 : decode cX1_leading 13 = .ok (.aload_n 0, 1) := by decide +kernel
theorem dX1_leading_14 : decode cX1_leading 14 = .ok (.getfield 78, 3) := by decide +kernel
theorem dX1_leading_17 : decode cX1_leading 17 = .ok (.iload_n 1, 1) := by decide +kernel
theorem dX1_leading_18 : decode cX1_leading 18 = .ok (.iaload, 1) := by decide +kernel
theorem dX1_leading_19 : decode cX1_leading 19 = .ok (.aload_n 0, 1) := by decide +kernel
theorem dX1_leading_20 : decode cX1_leading 20 = .ok (.getfield 72, 3) := by decide +kernel
theorem dX1_leading_23 : decode cX1_leading 23 = .ok (.iload_n 2, 1) := by decide +kernel
theorem dX1_leading_24 : decode cX1_leading 24 = .ok (.bipush 16, 2) := by decide +kernel
theorem dX1_leading_26 : decode cX1_leading 26 = .ok (.imul, 1) := by decide +kernel
theorem dX1_leading_27 : decode cX1_leading 27 = .ok (.aload_n 0, 1) := by decide +kernel
theorem dX1_leading_28 : decode cX1_leading 28 = .ok (.getfield 39, 3) := by decide +kernel
theorem dX1_leading_31 : decode cX1_leading 31 = .ok (.aload_n 0, 1) := by decide +kernel
theorem dX1_leading_32 : decode cX1_leading 32 = .ok (.getfield 59, 3) := by decide +kernel
theorem dX1_leading_35 : decode cX1_leading 35 = .ok (.getfield 169, 3) := by decide +kernel
theorem dX1_leading_38 : decode cX1_leading 38 = .ok (.iload_n 1, 1) := by decide +kernel
theorem dX1_leading_39 : decode cX1_leading 39 = .ok (.iaload, 1) := by decide +kernel
theorem dX1_leading_40 : decode cX1_leading 40 = .ok (.iaload, 1) := by decide +kernel
theorem dX1_leading_41 : decode cX1_leading 41 = .ok (.iadd, 1) := by decide +kernel
theorem dX1_leading_42 : decode cX1_leading 42 = .ok (.iaload, 1) := by decide +kernel
theorem dX1_leading_43 : decode cX1_leading 43 = .ok (.imul, 1) := by decide +kernel
theorem dX1_leading_44 : decode cX1_leading 44 = .ok (.ireturn, 1) := by decide +kernel
theorem dX1_falling_0 : decode cX1_falling 0 = .ok (.aload_n 0, 1) := by decide +kernel
theorem dX1_falling_1 : decode cX1_falling 1 = .ok (.getfield 39, 3) := by decide +kernel
theorem dX1_falling_4 : decode cX1_falling 4 = .ok (.iload_n 1, 1) := by decide +kernel
theorem dX1_falling_5 : decode cX1_falling 5 = .ok (.iconst 1, 1) := by decide +kernel
theorem dX1_falling_6 : decode cX1_falling 6 = .ok (.iadd, 1) := by decide +kernel
theorem dX1_falling_7 : decode cX1_falling 7 = .ok (.iaload, 1) := by decide +kernel
theorem dX1_falling_8 : decode cX1_falling 8 = .ok (.bipush (-4), 2) := by decide +kernel
theorem dX1_falling_10 : decode cX1_falling 10 = .ok (.if_icmp .eq 18, 3) := by decide +kernel
theorem dX1_falling_13 : decode cX1_falling 13 = .ok (.aload_n 0, 1) := by decide +kernel
theorem dX1_falling_14 : decode cX1_falling 14 = .ok (.iload_n 1, 1) := by decide +kernel
theorem dX1_falling_15 : decode cX1_falling 15 = .ok (.iload_n 2, 1) := by decide +kernel
theorem dX1_falling_16 : decode cX1_falling 16 = .ok (.aload_n 0, 1) := by decide +kernel
theorem dX1_falling_17 : decode cX1_falling 17 = .ok (.getfield 39, 3) := by decide +kernel
theorem dX1_falling_20 : decode cX1_falling 20 = .ok (.iload_n 1, 1) := by decide +kernel
theorem dX1_falling_21 : decode cX1_falling 21 = .ok (.iconst 1, 1) := by decide +kernel
theorem dX1_falling_22 : decode cX1_falling 22 = .ok (.iadd, 1) := by decide +kernel
theorem dX1_falling_23 : decode cX1_falling 23 = .ok (.iaload, 1) := by decide +kernel
theorem dX1_falling_24 : decode cX1_falling 24 = .ok (.invokevirtual 172, 3) := by decide +kernel
theorem dX1_falling_27 : decode cX1_falling 27 = .ok (.ireturn, 1) := by decide +kernel
theorem dX1_falling_28 : decode cX1_falling 28 = .ok (.aload_n 0, 1) := by decide +kernel
theorem dX1_falling_29 : decode cX1_falling 29 = .ok (.getfield 78, 3) := by decide +kernel
theorem dX1_falling_32 : decode cX1_falling 32 = .ok (.iload_n 1, 1) := by decide +kernel
theorem dX1_falling_33 : decode cX1_falling 33 = .ok (.iaload, 1) := by decide +kernel
theorem dX1_falling_34 : decode cX1_falling 34 = .ok (.istore_n 3, 1) := by decide +kernel
theorem dX1_falling_35 : decode cX1_falling 35 = .ok (.iload_n 2, 1) := by decide +kernel
theorem dX1_falling_36 : decode cX1_falling 36 = .ok (.bipush 16, 2) := by decide +kernel
theorem dX1_falling_38 : decode cX1_falling 38 = .ok (.imul, 1) := by decide +kernel
theorem dX1_falling_39 : decode cX1_falling 39 = .ok (.istore 4, 2) := by decide +kernel
theorem dX1_falling_41 : decode cX1_falling 41 = .ok (.iload_n 1, 1) := by decide +kernel
theorem dX1_falling_42 : decode cX1_falling 42 = .ok (.iconst 1, 1) := by decide +kernel
theorem dX1_falling_43 : decode cX1_falling 43 = .ok (.iadd, 1) := by decide +kernel
theorem dX1_falling_44 : decode cX1_falling 44 = .ok (.bipush 16, 2) := by decide +kernel
theorem dX1_falling_46 : decode cX1_falling 46 = .ok (.imul, 1) := by decide +kernel
theorem dX1_falling_47 : decode cX1_falling 47 = .ok (.istore 5, 2) := by decide +kernel
theorem dX1_falling_49 : decode cX1_falling 49 = .ok (.iload 5, 2) := by decide +kernel
theorem dX1_falling_51 : decode cX1_falling 51 = .ok (.aload_n 0, 1) := by decide +kernel
theorem dX1_falling_52 : decode cX1_falling 52 = .ok (.getfield 15, 3) := by decide +kernel
theorem dX1_falling_55 : decode cX1_falling 55 = .ok (.iload_n 1, 1) := by decide +kernel
theorem dX1_falling_56 : decode cX1_falling 56 = .ok (.iconst 1, 1) := by decide +kernel
theorem dX1_falling_57 : decode cX1_falling 57 = .ok (.iadd, 1) := by decide +kernel
theorem dX1_falling_58 : decode cX1_falling 58 = .ok (.iaload, 1) := by decide +kernel
theorem dX1_falling_59 : decode cX1_falling 59 = .ok (.iadd, 1) := by decide +kernel
theorem dX1_falling_60 : decode cX1_falling 60 = .ok (.istore 6, 2) := by decide +kernel
theorem dX1_falling_62 : decode cX1_falling 62 = .ok (.ldc 86, 2) := by decide +kernel
theorem dX1_falling_64 : decode cX1_falling 64 = .ok (.istore 7, 2) := by decide +kernel
theorem dX1_falling_66 : decode cX1_falling 66 = .ok (.iload 5, 2) := by decide +kernel
theorem dX1_falling_68 : decode cX1_falling 68 = .ok (.istore 8, 2) := by decide +kernel
theorem dX1_falling_70 : decode cX1_falling 70 = .ok (.iload 8, 2) := by decide +kernel
theorem dX1_falling_72 : decode cX1_falling 72 = .ok (.iload 6, 2) := by decide +kernel
theorem dX1_falling_74 : decode cX1_falling 74 = .ok (.if_icmp .ge 54, 3) := by decide +kernel
theorem dX1_falling_77 : decode cX1_falling 77 = .ok (.aload_n 0, 1) := by decide +kernel
theorem dX1_falling_78 : decode cX1_falling 78 = .ok (.getfield 11, 3) := by decide +kernel
theorem dX1_falling_81 : decode cX1_falling 81 = .ok (.iload 8, 2) := by decide +kernel
theorem dX1_falling_83 : decode cX1_falling 83 = .ok (.iaload, 1) := by decide +kernel
theorem dX1_falling_84 : decode cX1_falling 84 = .ok (.istore 9, 2) := by decide +kernel
theorem dX1_falling_86 : decode cX1_falling 86 = .ok (.iload_n 3, 1) := by decide +kernel
theorem dX1_falling_87 : decode cX1_falling 87 = .ok (.aload_n 0, 1) := by decide +kernel
theorem dX1_falling_88 : decode cX1_falling 88 = .ok (.getfield 72, 3) := by decide +kernel
theorem dX1_falling_91 : decode cX1_falling 91 = .ok (.iload 4, 2) := by decide +kernel
theorem dX1_falling_93 : decode cX1_falling 93 = .ok (.iload 9, 2) := by decide +kernel
theorem dX1_falling_95 : decode cX1_falling 95 = .ok (.iadd, 1) := by decide +kernel
theorem dX1_falling_96 : decode cX1_falling 96 = .ok (.iaload, 1) := by decide +kernel
theorem dX1_falling_97 : decode cX1_falling 97 = .ok (.imul, 1) := by decide +kernel
theorem dX1_falling_98 : decode cX1_falling 98 = .ok (.aload_n 0, 1) := by decide +kernel
theorem dX1_falling_99 : decode cX1_falling 99 = .ok (.getfield 30, 3) := by decide +kernel
theorem dX1_falling_102 : decode cX1_falling 102 = .ok (.iload 5, 2) := by decide +kernel
theorem dX1_falling_104 : decode cX1_falling 104 = .ok (.iload 9, 2) := by decide +kernel
theorem dX1_falling_106 : decode cX1_falling 106 = .ok (.iadd, 1) := by decide +kernel
theorem dX1_falling_107 : decode cX1_falling 107 = .ok (.iaload, 1) := by decide +kernel
theorem dX1_falling_108 : decode cX1_falling 108 = .ok (.iadd, 1) := by decide +kernel
theorem dX1_falling_109 : decode cX1_falling 109 = .ok (.istore 10, 2) := by decide +kernel
theorem dX1_falling_111 : decode cX1_falling 111 = .ok (.iload 10, 2) := by decide +kernel
theorem dX1_falling_113 : decode cX1_falling 113 = .ok (.iload 7, 2) := by decide +kernel
theorem dX1_falling_115 : decode cX1_falling 115 = .ok (.if_icmp .ge 7, 3) := by decide +kernel
theorem dX1_falling_118 : decode cX1_falling 118 = .ok (.iload 10, 2) := by decide +kernel
theorem dX1_falling_120 : decode cX1_falling 120 = .ok (.istore 7, 2) := by decide +kernel
theorem dX1_falling_122 : decode cX1_falling 122 = .ok (.iinc 8 1, 3) := by decide +kernel
theorem dX1_falling_125 : decode cX1_falling 125 = .ok (.goto (-55), 3) := by decide +kernel
theorem dX1_falling_128 : decode cX1_falling 128 = .ok (.iload 7, 2) := by decide +kernel
theorem dX1_falling_130 : decode cX1_falling 130 = .ok (.ireturn, 1) := by decide +kernel
theorem dX1_fallingTo_0 : decode cX1_fallingTo 0 = .ok (.aload_n 0, 1) := by decide +kernel
theorem dX1_fallingTo_1 : decode cX1_fallingTo 1 = .ok (.getfield 78, 3) := by decide +kernel
theorem dX1_fallingTo_4 : decode cX1_fallingTo 4 = .ok (.iload_n 1, 1) := by decide +kernel
theorem dX1_fallingTo_5 : decode cX1_fallingTo 5 = .ok (.iaload, 1) := by decide +kernel
theorem dX1_fallingTo_6 : decode cX1_fallingTo 6 = .ok (.aload_n 0, 1) := by decide +kernel
theorem dX1_fallingTo_7 : decode cX1_fallingTo 7 = .ok (.getfield 72, 3) := by decide +kernel
theorem dX1_fallingTo_10 : decode cX1_fallingTo 10 = .ok (.iload_n 2, 1) := by decide +kernel
theorem dX1_fallingTo_11 : decode cX1_fallingTo 11 = .ok (.bipush 16, 2) := by decide +kernel
theorem dX1_fallingTo_13 : decode cX1_fallingTo 13 = .ok (.imul, 1) := by decide +kernel
theorem dX1_fallingTo_14 : decode cX1_fallingTo 14 = .ok (.iload_n 3, 1) := by decide +kernel
theorem dX1_fallingTo_15 : decode cX1_fallingTo 15 = .ok (.iadd, 1) := by decide +kernel
theorem dX1_fallingTo_16 : decode cX1_fallingTo 16 = .ok (.iaload, 1) := by decide +kernel
theorem dX1_fallingTo_17 : decode cX1_fallingTo 17 = .ok (.imul, 1) := by decide +kernel
theorem dX1_fallingTo_18 : decode cX1_fallingTo 18 = .ok (.aload_n 0, 1) := by decide +kernel
theorem dX1_fallingTo_19 : decode cX1_fallingTo 19 = .ok (.getfield 30, 3) := by decide +kernel
theorem dX1_fallingTo_22 : decode cX1_fallingTo 22 = .ok (.iload_n 1, 1) := by decide +kernel
theorem dX1_fallingTo_23 : decode cX1_fallingTo 23 = .ok (.iconst 1, 1) := by decide +kernel
theorem dX1_fallingTo_24 : decode cX1_fallingTo 24 = .ok (.iadd, 1) := by decide +kernel
theorem dX1_fallingTo_25 : decode cX1_fallingTo 25 = .ok (.bipush 16, 2) := by decide +kernel
theorem dX1_fallingTo_27 : decode cX1_fallingTo 27 = .ok (.imul, 1) := by decide +kernel
theorem dX1_fallingTo_28 : decode cX1_fallingTo 28 = .ok (.iload_n 3, 1) := by decide +kernel
theorem dX1_fallingTo_29 : decode cX1_fallingTo 29 = .ok (.iadd, 1) := by decide +kernel
theorem dX1_fallingTo_30 : decode cX1_fallingTo 30 = .ok (.iaload, 1) := by decide +kernel
theorem dX1_fallingTo_31 : decode cX1_fallingTo 31 = .ok (.iadd, 1) := by decide +kernel
theorem dX1_fallingTo_32 : decode cX1_fallingTo 32 = .ok (.ireturn, 1) := by decide +kernel
theorem dX1_total_0 : decode cX1_total 0 = .ok (.iconst 0, 1) := by decide +kernel
theorem dX1_total_1 : decode cX1_total 1 = .ok (.istore_n 1, 1) := by decide +kernel
theorem dX1_total_2 : decode cX1_total 2 = .ok (.iconst 0, 1) := by decide +kernel
theorem dX1_total_3 : decode cX1_total 3 = .ok (.istore_n 2, 1) := by decide +kernel
theorem dX1_total_4 : decode cX1_total 4 = .ok (.iload_n 2, 1) := by decide +kernel
theorem dX1_total_5 : decode cX1_total 5 = .ok (.aload_n 0, 1) := by decide +kernel
theorem dX1_total_6 : decode cX1_total 6 = .ok (.getfield 59, 3) := by decide +kernel
theorem dX1_total_9 : decode cX1_total 9 = .ok (.getfield 93, 3) := by decide +kernel
theorem dX1_total_12 : decode cX1_total 12 = .ok (.if_icmp .ge 50, 3) := by decide +kernel
theorem dX1_total_15 : decode cX1_total 15 = .ok (.aload_n 0, 1) := by decide +kernel
theorem dX1_total_16 : decode cX1_total 16 = .ok (.getfield 59, 3) := by decide +kernel
theorem dX1_total_19 : decode cX1_total 19 = .ok (.iload_n 2, 1) := by decide +kernel
theorem dX1_total_20 : decode cX1_total 20 = .ok (.invokevirtual 102, 3) := by decide +kernel
theorem dX1_total_23 : decode cX1_total 23 = .ok (.ifCond .eq 33, 3) := by decide +kernel
theorem dX1_total_26 : decode cX1_total 26 = .ok (.aload_n 0, 1) := by decide +kernel
theorem dX1_total_27 : decode cX1_total 27 = .ok (.getfield 59, 3) := by decide +kernel
theorem dX1_total_30 : decode cX1_total 30 = .ok (.iload_n 2, 1) := by decide +kernel
theorem dX1_total_31 : decode cX1_total 31 = .ok (.invokevirtual 176, 3) := by decide +kernel
theorem dX1_total_34 : decode cX1_total 34 = .ok (.ifCond .eq 22, 3) := by decide +kernel
theorem dX1_total_37 : decode cX1_total 37 = .ok (.iload_n 1, 1) := by decide +kernel
theorem dX1_total_38 : decode cX1_total 38 = .ok (.aload_n 0, 1) := by decide +kernel
theorem dX1_total_39 : decode cX1_total 39 = .ok (.getfield 30, 3) := by decide +kernel
theorem dX1_total_42 : decode cX1_total 42 = .ok (.iload_n 2, 1) := by decide +kernel
theorem dX1_total_43 : decode cX1_total 43 = .ok (.bipush 16, 2) := by decide +kernel
theorem dX1_total_45 : decode cX1_total 45 = .ok (.imul, 1) := by decide +kernel
theorem dX1_total_46 : decode cX1_total 46 = .ok (.aload_n 0, 1) := by decide +kernel
theorem dX1_total_47 : decode cX1_total 47 = .ok (.getfield 39, 3) := by decide +kernel
theorem dX1_total_50 : decode cX1_total 50 = .ok (.iload_n 2, 1) := by decide +kernel
theorem dX1_total_51 : decode cX1_total 51 = .ok (.iaload, 1) := by decide +kernel
theorem dX1_total_52 : decode cX1_total 52 = .ok (.iadd, 1) := by decide +kernel
theorem dX1_total_53 : decode cX1_total 53 = .ok (.iaload, 1) := by decide +kernel
theorem dX1_total_54 : decode cX1_total 54 = .ok (.iadd, 1) := by decide +kernel
theorem dX1_total_55 : decode cX1_total 55 = .ok (.istore_n 1, 1) := by decide +kernel
theorem dX1_total_56 : decode cX1_total 56 = .ok (.iinc 2 1, 3) := by decide +kernel
theorem dX1_total_59 : decode cX1_total 59 = .ok (.goto (-55), 3) := by decide +kernel
theorem dX1_total_62 : decode cX1_total 62 = .ok (.iload_n 1, 1) := by decide +kernel
theorem dX1_total_63 : decode cX1_total 63 = .ok (.ireturn, 1) := by decide +kernel
theorem dX1_walkForth_0 : decode cX1_walkForth 0 = .ok (.iconst 0, 1) := by decide +kernel
theorem dX1_walkForth_1 : decode cX1_walkForth 1 = .ok (.istore_n 2, 1) := by decide +kernel
theorem dX1_walkForth_2 : decode cX1_walkForth 2 = .ok (.iconst 0, 1) := by decide +kernel
theorem dX1_walkForth_3 : decode cX1_walkForth 3 = .ok (.istore_n 3, 1) := by decide +kernel
theorem dX1_walkForth_4 : decode cX1_walkForth 4 = .ok (.iload_n 3, 1) := by decide +kernel
theorem dX1_walkForth_5 : decode cX1_walkForth 5 = .ok (.aload_n 0, 1) := by decide +kernel
theorem dX1_walkForth_6 : decode cX1_walkForth 6 = .ok (.getfield 59, 3) := by decide +kernel
theorem dX1_walkForth_9 : decode cX1_walkForth 9 = .ok (.getfield 93, 3) := by decide +kernel
theorem dX1_walkForth_12 : decode cX1_walkForth 12 = .ok (.if_icmp .ge 87, 3) := by decide +kernel
theorem dX1_walkForth_15 : decode cX1_walkForth 15 = .ok (.aload_n 0, 1) := by decide +kernel
theorem dX1_walkForth_16 : decode cX1_walkForth 16 = .ok (.getfield 59, 3) := by decide +kernel
theorem dX1_walkForth_19 : decode cX1_walkForth 19 = .ok (.iload_n 3, 1) := by decide +kernel
theorem dX1_walkForth_20 : decode cX1_walkForth 20 = .ok (.invokevirtual 102, 3) := by decide +kernel
theorem dX1_walkForth_23 : decode cX1_walkForth 23 = .ok (.ifCond .ne 6, 3) := by decide +kernel
theorem dX1_walkForth_26 : decode cX1_walkForth 26 = .ok (.goto 67, 3) := by decide +kernel
theorem dX1_walkForth_29 : decode cX1_walkForth 29 = .ok (.aload_n 0, 1) := by decide +kernel
theorem dX1_walkForth_30 : decode cX1_walkForth 30 = .ok (.getfield 59, 3) := by decide +kernel
theorem dX1_walkForth_33 : decode cX1_walkForth 33 = .ok (.iload_n 3, 1) := by decide +kernel
theorem dX1_walkForth_34 : decode cX1_walkForth 34 = .ok (.invokevirtual 176, 3) := by decide +kernel
theorem dX1_walkForth_37 : decode cX1_walkForth 37 = .ok (.ifCond .eq 34, 3) := by decide +kernel
theorem dX1_walkForth_40 : decode cX1_walkForth 40 = .ok (.iload_n 3, 1) := by decide +kernel
theorem dX1_walkForth_41 : decode cX1_walkForth 41 = .ok (.bipush 16, 2) := by decide +kernel
theorem dX1_walkForth_43 : decode cX1_walkForth 43 = .ok (.imul, 1) := by decide +kernel
theorem dX1_walkForth_44 : decode cX1_walkForth 44 = .ok (.aload_n 0, 1) := by decide +kernel
theorem dX1_walkForth_45 : decode cX1_walkForth 45 = .ok (.getfield 39, 3) := by decide +kernel
theorem dX1_walkForth_48 : decode cX1_walkForth 48 = .ok (.iload_n 3, 1) := by decide +kernel
theorem dX1_walkForth_49 : decode cX1_walkForth 49 = .ok (.iaload, 1) := by decide +kernel
theorem dX1_walkForth_50 : decode cX1_walkForth 50 = .ok (.iadd, 1) := by decide +kernel
theorem dX1_walkForth_51 : decode cX1_walkForth 51 = .ok (.istore 4, 2) := by decide +kernel
theorem dX1_walkForth_53 : decode cX1_walkForth 53 = .ok (.aload_n 0, 1) := by decide +kernel
theorem dX1_walkForth_54 : decode cX1_walkForth 54 = .ok (.getfield 33, 3) := by decide +kernel
theorem dX1_walkForth_57 : decode cX1_walkForth 57 = .ok (.iload 4, 2) := by decide +kernel
theorem dX1_walkForth_59 : decode cX1_walkForth 59 = .ok (.iconst 0, 1) := by decide +kernel
theorem dX1_walkForth_60 : decode cX1_walkForth 60 = .ok (.iastore, 1) := by decide +kernel
theorem dX1_walkForth_61 : decode cX1_walkForth 61 = .ok (.iload_n 1, 1) := by decide +kernel
theorem dX1_walkForth_62 : decode cX1_walkForth 62 = .ok (.aload_n 0, 1) := by decide +kernel
theorem dX1_walkForth_63 : decode cX1_walkForth 63 = .ok (.getfield 30, 3) := by decide +kernel
theorem dX1_walkForth_66 : decode cX1_walkForth 66 = .ok (.iload 4, 2) := by decide +kernel
theorem dX1_walkForth_68 : decode cX1_walkForth 68 = .ok (.iaload, 1) := by decide +kernel
theorem dX1_walkForth_69 : decode cX1_walkForth 69 = .ok (.isub, 1) := by decide +kernel
theorem dX1_walkForth_70 : decode cX1_walkForth 70 = .ok (.istore_n 2, 1) := by decide +kernel
theorem dX1_walkForth_71 : decode cX1_walkForth 71 = .ok (.aload_n 0, 1) := by decide +kernel
theorem dX1_walkForth_72 : decode cX1_walkForth 72 = .ok (.iload_n 3, 1) := by decide +kernel
theorem dX1_walkForth_73 : decode cX1_walkForth 73 = .ok (.iload_n 2, 1) := by decide +kernel
theorem dX1_walkForth_74 : decode cX1_walkForth 74 = .ok (.invokevirtual 179, 3) := by decide +kernel
theorem dX1_walkForth_77 : decode cX1_walkForth 77 = .ok (.aload_n 0, 1) := by decide +kernel
theorem dX1_walkForth_78 : decode cX1_walkForth 78 = .ok (.getfield 59, 3) := by decide +kernel
theorem dX1_walkForth_81 : decode cX1_walkForth 81 = .ok (.iload_n 3, 1) := by decide +kernel
theorem dX1_walkForth_82 : decode cX1_walkForth 82 = .ok (.invokevirtual 157, 3) := by decide +kernel
theorem dX1_walkForth_85 : decode cX1_walkForth 85 = .ok (.ifCond .eq 8, 3) := by decide +kernel
theorem dX1_walkForth_88 : decode cX1_walkForth 88 = .ok (.aload_n 0, 1) := by decide +kernel
theorem dX1_walkForth_89 : decode cX1_walkForth 89 = .ok (.iload_n 3, 1) := by decide +kernel
theorem dX1_walkForth_90 : decode cX1_walkForth 90 = .ok (.invokevirtual 182, 3) := by decide +kernel
theorem dX1_walkForth_93 : decode cX1_walkForth 93 = .ok (.iinc 3 1, 3) := by decide +kernel
theorem dX1_walkForth_96 : decode cX1_walkForth 96 = .ok (.goto (-92), 3) := by decide +kernel
theorem dX1_walkForth_99 : decode cX1_walkForth 99 = .ok (.return_, 1) := by decide +kernel
theorem dX1_noteLeast_0 : decode cX1_noteLeast 0 = .ok (.iconst 0, 1) := by decide +kernel
theorem dX1_noteLeast_1 : decode cX1_noteLeast 1 = .ok (.istore_n 3, 1) := by decide +kernel
theorem dX1_noteLeast_2 : decode cX1_noteLeast 2 = .ok (.iload_n 3, 1) := by decide +kernel
theorem dX1_noteLeast_3 : decode cX1_noteLeast 3 = .ok (.aload_n 0, 1) := by decide +kernel
theorem dX1_noteLeast_4 : decode cX1_noteLeast 4 = .ok (.getfield 15, 3) := by decide +kernel
theorem dX1_noteLeast_7 : decode cX1_noteLeast 7 = .ok (.iload_n 1, 1) := by decide +kernel
theorem dX1_noteLeast_8 : decode cX1_noteLeast 8 = .ok (.iaload, 1) := by decide +kernel
theorem dX1_noteLeast_9 : decode cX1_noteLeast 9 = .ok (.if_icmp .ge 90, 3) := by decide +kernel
theorem dX1_noteLeast_12 : decode cX1_noteLeast 12 = .ok (.aload_n 0, 1) := by decide +kernel
theorem dX1_noteLeast_13 : decode cX1_noteLeast 13 = .ok (.getfield 11, 3) := by decide +kernel
theorem dX1_noteLeast_16 : decode cX1_noteLeast 16 = .ok (.iload_n 1, 1) := by decide +kernel
theorem dX1_noteLeast_17 : decode cX1_noteLeast 17 = .ok (.bipush 16, 2) := by decide +kernel
theorem dX1_noteLeast_19 : decode cX1_noteLeast 19 = .ok (.imul, 1) := by decide +kernel
theorem dX1_noteLeast_20 : decode cX1_noteLeast 20 = .ok (.iload_n 3, 1) := by decide +kernel
theorem dX1_noteLeast_21 : decode cX1_noteLeast 21 = .ok (.iadd, 1) := by decide +kernel
theorem dX1_noteLeast_22 : decode cX1_noteLeast 22 = .ok (.iaload, 1) := by decide +kernel
theorem dX1_noteLeast_23 : decode cX1_noteLeast 23 = .ok (.istore 4, 2) := by decide +kernel
theorem dX1_noteLeast_25 : decode cX1_noteLeast 25 = .ok (.aload_n 0, 1) := by decide +kernel
theorem dX1_noteLeast_26 : decode cX1_noteLeast 26 = .ok (.getfield 39, 3) := by decide +kernel
theorem dX1_noteLeast_29 : decode cX1_noteLeast 29 = .ok (.iload_n 1, 1) := by decide +kernel
theorem dX1_noteLeast_30 : decode cX1_noteLeast 30 = .ok (.iaload, 1) := by decide +kernel
theorem dX1_noteLeast_31 : decode cX1_noteLeast 31 = .ok (.bipush (-4), 2) := by decide +kernel
theorem dX1_noteLeast_33 : decode cX1_noteLeast 33 = .ok (.if_icmp .eq 17, 3) := by decide +kernel
theorem dX1_noteLeast_36 : decode cX1_noteLeast 36 = .ok (.aload_n 0, 1) := by decide +kernel
theorem dX1_noteLeast_37 : decode cX1_noteLeast 37 = .ok (.getfield 39, 3) := by decide +kernel
theorem dX1_noteLeast_40 : decode cX1_noteLeast 40 = .ok (.iload_n 1, 1) := by decide +kernel
theorem dX1_noteLeast_41 : decode cX1_noteLeast 41 = .ok (.iaload, 1) := by decide +kernel
theorem dX1_noteLeast_42 : decode cX1_noteLeast 42 = .ok (.iload 4, 2) := by decide +kernel
theorem dX1_noteLeast_44 : decode cX1_noteLeast 44 = .ok (.if_icmp .eq 6, 3) := by decide +kernel
theorem dX1_noteLeast_47 : decode cX1_noteLeast 47 = .ok (.goto 46, 3) := by decide +kernel
theorem dX1_noteLeast_50 : decode cX1_noteLeast 50 = .ok (.iload_n 1, 1) := by decide +kernel
theorem dX1_noteLeast_51 : decode cX1_noteLeast 51 = .ok (.bipush 16, 2) := by decide +kernel
theorem dX1_noteLeast_53 : decode cX1_noteLeast 53 = .ok (.imul, 1) := by decide +kernel
theorem dX1_noteLeast_54 : decode cX1_noteLeast 54 = .ok (.iload 4, 2) := by decide +kernel
theorem dX1_noteLeast_56 : decode cX1_noteLeast 56 = .ok (.iadd, 1) := by decide +kernel
theorem dX1_noteLeast_57 : decode cX1_noteLeast 57 = .ok (.istore 5, 2) := by decide +kernel
theorem dX1_noteLeast_59 : decode cX1_noteLeast 59 = .ok (.aload_n 0, 1) := by decide +kernel
theorem dX1_noteLeast_60 : decode cX1_noteLeast 60 = .ok (.getfield 36, 3) := by decide +kernel
theorem dX1_noteLeast_63 : decode cX1_noteLeast 63 = .ok (.iload 5, 2) := by decide +kernel
theorem dX1_noteLeast_65 : decode cX1_noteLeast 65 = .ok (.aload_n 0, 1) := by decide +kernel
theorem dX1_noteLeast_66 : decode cX1_noteLeast 66 = .ok (.getfield 36, 3) := by decide +kernel
theorem dX1_noteLeast_69 : decode cX1_noteLeast 69 = .ok (.iload 5, 2) := by decide +kernel
theorem dX1_noteLeast_71 : decode cX1_noteLeast 71 = .ok (.iaload, 1) := by decide +kernel
theorem dX1_noteLeast_72 : decode cX1_noteLeast 72 = .ok (.iload_n 2, 1) := by decide +kernel
theorem dX1_noteLeast_73 : decode cX1_noteLeast 73 = .ok (.aload_n 0, 1) := by decide +kernel
theorem dX1_noteLeast_74 : decode cX1_noteLeast 74 = .ok (.getfield 33, 3) := by decide +kernel
theorem dX1_noteLeast_77 : decode cX1_noteLeast 77 = .ok (.iload 5, 2) := by decide +kernel
theorem dX1_noteLeast_79 : decode cX1_noteLeast 79 = .ok (.iaload, 1) := by decide +kernel
theorem dX1_noteLeast_80 : decode cX1_noteLeast 80 = .ok (.iadd, 1) := by decide +kernel
theorem dX1_noteLeast_81 : decode cX1_noteLeast 81 = .ok (.aload_n 0, 1) := by decide +kernel
theorem dX1_noteLeast_82 : decode cX1_noteLeast 82 = .ok (.getfield 30, 3) := by decide +kernel
theorem dX1_noteLeast_85 : decode cX1_noteLeast 85 = .ok (.iload 5, 2) := by decide +kernel
theorem dX1_noteLeast_87 : decode cX1_noteLeast 87 = .ok (.iaload, 1) := by decide +kernel
theorem dX1_noteLeast_88 : decode cX1_noteLeast 88 = .ok (.iadd, 1) := by decide +kernel
theorem dX1_noteLeast_89 : decode cX1_noteLeast 89 = .ok (.invokestatic 185, 3) := by decide +kernel
theorem dX1_noteLeast_92 : decode cX1_noteLeast 92 = .ok (.iastore, 1) := by decide +kernel
theorem dX1_noteLeast_93 : decode cX1_noteLeast 93 = .ok (.iinc 3 1, 3) := by decide +kernel
theorem dX1_noteLeast_96 : decode cX1_noteLeast 96 = .ok (.goto (-94), 3) := by decide +kernel
theorem dX1_noteLeast_99 : decode cX1_noteLeast 99 = .ok (.return_, 1) := by decide +kernel
theorem dX1_carryForth_0 : decode cX1_carryForth 0 = .ok (.iload_n 1, 1) := by decide +kernel
theorem dX1_carryForth_1 : decode cX1_carryForth 1 = .ok (.bipush 16, 2) := by decide +kernel
theorem dX1_carryForth_3 : decode cX1_carryForth 3 = .ok (.imul, 1) := by decide +kernel
theorem dX1_carryForth_4 : decode cX1_carryForth 4 = .ok (.istore_n 2, 1) := by decide +kernel
theorem dX1_carryForth_5 : decode cX1_carryForth 5 = .ok (.aload_n 0, 1) := by decide +kernel
theorem dX1_carryForth_6 : decode cX1_carryForth 6 = .ok (.getfield 42, 3) := by decide +kernel
theorem dX1_carryForth_9 : decode cX1_carryForth 9 = .ok (.ldc 86, 2) := by decide +kernel
theorem dX1_carryForth_11 : decode cX1_carryForth 11 = .ok (.invokestatic 87, 3) := by decide +kernel
theorem dX1_carryForth_14 : decode cX1_carryForth 14 = .ok (.iconst 0, 1) := by decide +kernel
theorem dX1_carryForth_15 : decode cX1_carryForth 15 = .ok (.istore_n 3, 1) := by decide +kernel
theorem dX1_carryForth_16 : decode cX1_carryForth 16 = .ok (.iload_n 3, 1) := by decide +kernel
theorem dX1_carryForth_17 : decode cX1_carryForth 17 = .ok (.aload_n 0, 1) := by decide +kernel
theorem dX1_carryForth_18 : decode cX1_carryForth 18 = .ok (.getfield 15, 3) := by decide +kernel
theorem dX1_carryForth_21 : decode cX1_carryForth 21 = .ok (.iload_n 1, 1) := by decide +kernel
theorem dX1_carryForth_22 : decode cX1_carryForth 22 = .ok (.iaload, 1) := by decide +kernel
theorem dX1_carryForth_23 : decode cX1_carryForth 23 = .ok (.if_icmp .ge 103, 3) := by decide +kernel
theorem dX1_carryForth_26 : decode cX1_carryForth 26 = .ok (.aload_n 0, 1) := by decide +kernel
theorem dX1_carryForth_27 : decode cX1_carryForth 27 = .ok (.getfield 11, 3) := by decide +kernel
theorem dX1_carryForth_30 : decode cX1_carryForth 30 = .ok (.iload_n 2, 1) := by decide +kernel
theorem dX1_carryForth_31 : decode cX1_carryForth 31 = .ok (.iload_n 3, 1) := by decide +kernel
theorem dX1_carryForth_32 : decode cX1_carryForth 32 = .ok (.iadd, 1) := by decide +kernel
theorem dX1_carryForth_33 : decode cX1_carryForth 33 = .ok (.iaload, 1) := by decide +kernel
theorem dX1_carryForth_34 : decode cX1_carryForth 34 = .ok (.istore 4, 2) := by decide +kernel
theorem dX1_carryForth_36 : decode cX1_carryForth 36 = .ok (.aload_n 0, 1) := by decide +kernel
theorem dX1_carryForth_37 : decode cX1_carryForth 37 = .ok (.getfield 39, 3) := by decide +kernel
theorem dX1_carryForth_40 : decode cX1_carryForth 40 = .ok (.iload_n 1, 1) := by decide +kernel
theorem dX1_carryForth_41 : decode cX1_carryForth 41 = .ok (.iaload, 1) := by decide +kernel
theorem dX1_carryForth_42 : decode cX1_carryForth 42 = .ok (.bipush (-4), 2) := by decide +kernel
theorem dX1_carryForth_44 : decode cX1_carryForth 44 = .ok (.if_icmp .eq 17, 3) := by decide +kernel
theorem dX1_carryForth_47 : decode cX1_carryForth 47 = .ok (.aload_n 0, 1) := by decide +kernel
theorem dX1_carryForth_48 : decode cX1_carryForth 48 = .ok (.getfield 39, 3) := by decide +kernel
theorem dX1_carryForth_51 : decode cX1_carryForth 51 = .ok (.iload_n 1, 1) := by decide +kernel
theorem dX1_carryForth_52 : decode cX1_carryForth 52 = .ok (.iaload, 1) := by decide +kernel
theorem dX1_carryForth_53 : decode cX1_carryForth 53 = .ok (.iload 4, 2) := by decide +kernel
theorem dX1_carryForth_55 : decode cX1_carryForth 55 = .ok (.if_icmp .eq 6, 3) := by decide +kernel
theorem dX1_carryForth_58 : decode cX1_carryForth 58 = .ok (.goto 62, 3) := by decide +kernel
theorem dX1_carryForth_61 : decode cX1_carryForth 61 = .ok (.aload_n 0, 1) := by decide +kernel
theorem dX1_carryForth_62 : decode cX1_carryForth 62 = .ok (.getfield 24, 3) := by decide +kernel
theorem dX1_carryForth_65 : decode cX1_carryForth 65 = .ok (.iload_n 2, 1) := by decide +kernel
theorem dX1_carryForth_66 : decode cX1_carryForth 66 = .ok (.iload 4, 2) := by decide +kernel
theorem dX1_carryForth_68 : decode cX1_carryForth 68 = .ok (.iadd, 1) := by decide +kernel
theorem dX1_carryForth_69 : decode cX1_carryForth 69 = .ok (.iaload, 1) := by decide +kernel
theorem dX1_carryForth_70 : decode cX1_carryForth 70 = .ok (.istore 5, 2) := by decide +kernel
theorem dX1_carryForth_72 : decode cX1_carryForth 72 = .ok (.aload_n 0, 1) := by decide +kernel
theorem dX1_carryForth_73 : decode cX1_carryForth 73 = .ok (.getfield 33, 3) := by decide +kernel
theorem dX1_carryForth_76 : decode cX1_carryForth 76 = .ok (.iload_n 2, 1) := by decide +kernel
theorem dX1_carryForth_77 : decode cX1_carryForth 77 = .ok (.iload 4, 2) := by decide +kernel
theorem dX1_carryForth_79 : decode cX1_carryForth 79 = .ok (.iadd, 1) := by decide +kernel
theorem dX1_carryForth_80 : decode cX1_carryForth 80 = .ok (.iaload, 1) := by decide +kernel
theorem dX1_carryForth_81 : decode cX1_carryForth 81 = .ok (.aload_n 0, 1) := by decide +kernel
theorem dX1_carryForth_82 : decode cX1_carryForth 82 = .ok (.getfield 27, 3) := by decide +kernel
theorem dX1_carryForth_85 : decode cX1_carryForth 85 = .ok (.iload_n 2, 1) := by decide +kernel
theorem dX1_carryForth_86 : decode cX1_carryForth 86 = .ok (.iload 4, 2) := by decide +kernel
theorem dX1_carryForth_88 : decode cX1_carryForth 88 = .ok (.iadd, 1) := by decide +kernel
theorem dX1_carryForth_89 : decode cX1_carryForth 89 = .ok (.iaload, 1) := by decide +kernel
theorem dX1_carryForth_90 : decode cX1_carryForth 90 = .ok (.iadd, 1) := by decide +kernel
theorem dX1_carryForth_91 : decode cX1_carryForth 91 = .ok (.aload_n 0, 1) := by decide +kernel
theorem dX1_carryForth_92 : decode cX1_carryForth 92 = .ok (.iload_n 1, 1) := by decide +kernel
theorem dX1_carryForth_93 : decode cX1_carryForth 93 = .ok (.iload 5, 2) := by decide +kernel
theorem dX1_carryForth_95 : decode cX1_carryForth 95 = .ok (.invokevirtual 160, 3) := by decide +kernel
theorem dX1_carryForth_98 : decode cX1_carryForth 98 = .ok (.iadd, 1) := by decide +kernel
theorem dX1_carryForth_99 : decode cX1_carryForth 99 = .ok (.istore 6, 2) := by decide +kernel
theorem dX1_carryForth_101 : decode cX1_carryForth 101 = .ok (.aload_n 0, 1) := by decide +kernel
theorem dX1_carryForth_102 : decode cX1_carryForth 102 = .ok (.getfield 42, 3) := by decide +kernel
theorem dX1_carryForth_105 : decode cX1_carryForth 105 = .ok (.iload 5, 2) := by decide +kernel
theorem dX1_carryForth_107 : decode cX1_carryForth 107 = .ok (.aload_n 0, 1) := by decide +kernel
theorem dX1_carryForth_108 : decode cX1_carryForth 108 = .ok (.getfield 42, 3) := by decide +kernel
theorem dX1_carryForth_111 : decode cX1_carryForth 111 = .ok (.iload 5, 2) := by decide +kernel
theorem dX1_carryForth_113 : decode cX1_carryForth 113 = .ok (.iaload, 1) := by decide +kernel
theorem dX1_carryForth_114 : decode cX1_carryForth 114 = .ok (.iload 6, 2) := by decide +kernel
theorem dX1_carryForth_116 : decode cX1_carryForth 116 = .ok (.invokestatic 185, 3) := by decide +kernel
theorem dX1_carryForth_119 : decode cX1_carryForth 119 = .ok (.iastore, 1) := by decide +kernel
theorem dX1_carryForth_120 : decode cX1_carryForth 120 = .ok (.iinc 3 1, 3) := by decide +kernel
theorem dX1_carryForth_123 : decode cX1_carryForth 123 = .ok (.goto (-107), 3) := by decide +kernel
theorem dX1_carryForth_126 : decode cX1_carryForth 126 = .ok (.iload_n 2, 1) := by decide +kernel
theorem dX1_carryForth_127 : decode cX1_carryForth 127 = .ok (.bipush 16, 2) := by decide +kernel
theorem dX1_carryForth_129 : decode cX1_carryForth 129 = .ok (.iadd, 1) := by decide +kernel
theorem dX1_carryForth_130 : decode cX1_carryForth 130 = .ok (.istore_n 3, 1) := by decide +kernel
theorem dX1_carryForth_131 : decode cX1_carryForth 131 = .ok (.iconst 0, 1) := by decide +kernel
theorem dX1_carryForth_132 : decode cX1_carryForth 132 = .ok (.istore 4, 2) := by decide +kernel
theorem dX1_carryForth_134 : decode cX1_carryForth 134 = .ok (.iload 4, 2) := by decide +kernel
theorem dX1_carryForth_136 : decode cX1_carryForth 136 = .ok (.aload_n 0, 1) := by decide +kernel
theorem dX1_carryForth_137 : decode cX1_carryForth 137 = .ok (.getfield 15, 3) := by decide +kernel
theorem dX1_carryForth_140 : decode cX1_carryForth 140 = .ok (.iload_n 1, 1) := by decide +kernel
theorem dX1_carryForth_141 : decode cX1_carryForth 141 = .ok (.iconst 1, 1) := by decide +kernel
theorem dX1_carryForth_142 : decode cX1_carryForth 142 = .ok (.iadd, 1) := by decide +kernel
theorem dX1_carryForth_143 : decode cX1_carryForth 143 = .ok (.iaload, 1) := by decide +kernel
theorem dX1_carryForth_144 : decode cX1_carryForth 144 = .ok (.if_icmp .ge 62, 3) := by decide +kernel
theorem dX1_carryForth_147 : decode cX1_carryForth 147 = .ok (.aload_n 0, 1) := by decide +kernel
theorem dX1_carryForth_148 : decode cX1_carryForth 148 = .ok (.getfield 11, 3) := by decide +kernel
theorem dX1_carryForth_151 : decode cX1_carryForth 151 = .ok (.iload_n 3, 1) := by decide +kernel
theorem dX1_carryForth_152 : decode cX1_carryForth 152 = .ok (.iload 4, 2) := by decide +kernel
theorem dX1_carryForth_154 : decode cX1_carryForth 154 = .ok (.iadd, 1) := by decide +kernel
theorem dX1_carryForth_155 : decode cX1_carryForth 155 = .ok (.iaload, 1) := by decide +kernel
theorem dX1_carryForth_156 : decode cX1_carryForth 156 = .ok (.istore 5, 2) := by decide +kernel
theorem dX1_carryForth_158 : decode cX1_carryForth 158 = .ok (.aload_n 0, 1) := by decide +kernel
theorem dX1_carryForth_159 : decode cX1_carryForth 159 = .ok (.getfield 39, 3) := by decide +kernel
theorem dX1_carryForth_162 : decode cX1_carryForth 162 = .ok (.iload_n 1, 1) := by decide +kernel
theorem dX1_carryForth_163 : decode cX1_carryForth 163 = .ok (.iconst 1, 1) := by decide +kernel
theorem dX1_carryForth_164 : decode cX1_carryForth 164 = .ok (.iadd, 1) := by decide +kernel
theorem dX1_carryForth_165 : decode cX1_carryForth 165 = .ok (.iaload, 1) := by decide +kernel
theorem dX1_carryForth_166 : decode cX1_carryForth 166 = .ok (.bipush (-4), 2) := by decide +kernel
theorem dX1_carryForth_168 : decode cX1_carryForth 168 = .ok (.if_icmp .eq 16, 3) := by decide +kernel
theorem dX1_carryForth_171 : decode cX1_carryForth 171 = .ok (.aload_n 0, 1) := by decide +kernel
theorem dX1_carryForth_172 : decode cX1_carryForth 172 = .ok (.getfield 39, 3) := by decide +kernel
theorem dX1_carryForth_175 : decode cX1_carryForth 175 = .ok (.iload_n 1, 1) := by decide +kernel
theorem dX1_carryForth_176 : decode cX1_carryForth 176 = .ok (.iconst 1, 1) := by decide +kernel
theorem dX1_carryForth_177 : decode cX1_carryForth 177 = .ok (.iadd, 1) := by decide +kernel
theorem dX1_carryForth_178 : decode cX1_carryForth 178 = .ok (.iaload, 1) := by decide +kernel
theorem dX1_carryForth_179 : decode cX1_carryForth 179 = .ok (.iload 5, 2) := by decide +kernel
theorem dX1_carryForth_181 : decode cX1_carryForth 181 = .ok (.if_icmp .ne 19, 3) := by decide +kernel
theorem dX1_carryForth_184 : decode cX1_carryForth 184 = .ok (.aload_n 0, 1) := by decide +kernel
theorem dX1_carryForth_185 : decode cX1_carryForth 185 = .ok (.getfield 33, 3) := by decide +kernel
theorem dX1_carryForth_188 : decode cX1_carryForth 188 = .ok (.iload_n 3, 1) := by decide +kernel
theorem dX1_carryForth_189 : decode cX1_carryForth 189 = .ok (.iload 5, 2) := by decide +kernel
theorem dX1_carryForth_191 : decode cX1_carryForth 191 = .ok (.iadd, 1) := by decide +kernel
theorem dX1_carryForth_192 : decode cX1_carryForth 192 = .ok (.aload_n 0, 1) := by decide +kernel
theorem dX1_carryForth_193 : decode cX1_carryForth 193 = .ok (.iload_n 1, 1) := by decide +kernel
theorem dX1_carryForth_194 : decode cX1_carryForth 194 = .ok (.iload 5, 2) := by decide +kernel
theorem dX1_carryForth_196 : decode cX1_carryForth 196 = .ok (.invokevirtual 190, 3) := by decide +kernel
theorem dX1_carryForth_199 : decode cX1_carryForth 199 = .ok (.iastore, 1) := by decide +kernel
theorem dX1_carryForth_200 : decode cX1_carryForth 200 = .ok (.iinc 4 1, 3) := by decide +kernel
theorem dX1_carryForth_203 : decode cX1_carryForth 203 = .ok (.goto (-69), 3) := by decide +kernel
theorem dX1_carryForth_206 : decode cX1_carryForth 206 = .ok (.return_, 1) := by decide +kernel
theorem dX1_cheapestEntry_0 : decode cX1_cheapestEntry 0 = .ok (.aload_n 0, 1) := by decide +kernel
theorem dX1_cheapestEntry_1 : decode cX1_cheapestEntry 1 = .ok (.getfield 78, 3) := by decide +kernel
theorem dX1_cheapestEntry_4 : decode cX1_cheapestEntry 4 = .ok (.iload_n 1, 1) := by decide +kernel
theorem dX1_cheapestEntry_5 : decode cX1_cheapestEntry 5 = .ok (.iaload, 1) := by decide +kernel
theorem dX1_cheapestEntry_6 : decode cX1_cheapestEntry 6 = .ok (.istore_n 3, 1) := by decide +kernel
theorem dX1_cheapestEntry_7 : decode cX1_cheapestEntry 7 = .ok (.iload_n 1, 1) := by decide +kernel
theorem dX1_cheapestEntry_8 : decode cX1_cheapestEntry 8 = .ok (.bipush 16, 2) := by decide +kernel
theorem dX1_cheapestEntry_10 : decode cX1_cheapestEntry 10 = .ok (.imul, 1) := by decide +kernel
theorem dX1_cheapestEntry_11 : decode cX1_cheapestEntry 11 = .ok (.istore 4, 2) := by decide +kernel
theorem dX1_cheapestEntry_13 : decode cX1_cheapestEntry 13 = .ok (.iload 4, 2) := by decide +kernel
theorem dX1_cheapestEntry_15 : decode cX1_cheapestEntry 15 = .ok (.aload_n 0, 1) := by decide +kernel
theorem dX1_cheapestEntry_16 : decode cX1_cheapestEntry 16 = .ok (.getfield 21, 3) := by decide +kernel
theorem dX1_cheapestEntry_19 : decode cX1_cheapestEntry 19 = .ok (.iload_n 1, 1) := by decide +kernel
theorem dX1_cheapestEntry_20 : decode cX1_cheapestEntry 20 = .ok (.iaload, 1) := by decide +kernel
theorem dX1_cheapestEntry_21 : decode cX1_cheapestEntry 21 = .ok (.iadd, 1) := by decide +kernel
theorem dX1_cheapestEntry_22 : decode cX1_cheapestEntry 22 = .ok (.istore 5, 2) := by decide +kernel
theorem dX1_cheapestEntry_24 : decode cX1_cheapestEntry 24 = .ok (.ldc 86, 2) := by decide +kernel
theorem dX1_cheapestEntry_26 : decode cX1_cheapestEntry 26 = .ok (.istore 6, 2) := by decide +kernel
theorem dX1_cheapestEntry_28 : decode cX1_cheapestEntry 28 = .ok (.iload 4, 2) := by decide +kernel
theorem dX1_cheapestEntry_30 : decode cX1_cheapestEntry 30 = .ok (.istore 7, 2) := by decide +kernel
theorem dX1_cheapestEntry_32 : decode cX1_cheapestEntry 32 = .ok (.iload 7, 2) := by decide +kernel
theorem dX1_cheapestEntry_34 : decode cX1_cheapestEntry 34 = .ok (.iload 5, 2) := by decide +kernel
theorem dX1_cheapestEntry_36 : decode cX1_cheapestEntry 36 = .ok (.if_icmp .ge 53, 3) := by decide +kernel
theorem dX1_cheapestEntry_39 : decode cX1_cheapestEntry 39 = .ok (.aload_n 0, 1) := by decide +kernel
theorem dX1_cheapestEntry_40 : decode cX1_cheapestEntry 40 = .ok (.getfield 18, 3) := by decide +kernel
theorem dX1_cheapestEntry_43 : decode cX1_cheapestEntry 43 = .ok (.iload 7, 2) := by decide +kernel
theorem dX1_cheapestEntry_45 : decode cX1_cheapestEntry 45 = .ok (.iaload, 1) := by decide +kernel
theorem dX1_cheapestEntry_46 : decode cX1_cheapestEntry 46 = .ok (.istore 8, 2) := by decide +kernel
theorem dX1_cheapestEntry_48 : decode cX1_cheapestEntry 48 = .ok (.aload_n 0, 1) := by decide +kernel
theorem dX1_cheapestEntry_49 : decode cX1_cheapestEntry 49 = .ok (.getfield 42, 3) := by decide +kernel
theorem dX1_cheapestEntry_52 : decode cX1_cheapestEntry 52 = .ok (.iload 8, 2) := by decide +kernel
theorem dX1_cheapestEntry_54 : decode cX1_cheapestEntry 54 = .ok (.iaload, 1) := by decide +kernel
theorem dX1_cheapestEntry_55 : decode cX1_cheapestEntry 55 = .ok (.iload_n 3, 1) := by decide +kernel
theorem dX1_cheapestEntry_56 : decode cX1_cheapestEntry 56 = .ok (.aload_n 0, 1) := by decide +kernel
theorem dX1_cheapestEntry_57 : decode cX1_cheapestEntry 57 = .ok (.getfield 72, 3) := by decide +kernel
theorem dX1_cheapestEntry_60 : decode cX1_cheapestEntry 60 = .ok (.iload 8, 2) := by decide +kernel
theorem dX1_cheapestEntry_62 : decode cX1_cheapestEntry 62 = .ok (.bipush 16, 2) := by decide +kernel
theorem dX1_cheapestEntry_64 : decode cX1_cheapestEntry 64 = .ok (.imul, 1) := by decide +kernel
theorem dX1_cheapestEntry_65 : decode cX1_cheapestEntry 65 = .ok (.iload_n 2, 1) := by decide +kernel
theorem dX1_cheapestEntry_66 : decode cX1_cheapestEntry 66 = .ok (.iadd, 1) := by decide +kernel
theorem dX1_cheapestEntry_67 : decode cX1_cheapestEntry 67 = .ok (.iaload, 1) := by decide +kernel
theorem dX1_cheapestEntry_68 : decode cX1_cheapestEntry 68 = .ok (.imul, 1) := by decide +kernel
theorem dX1_cheapestEntry_69 : decode cX1_cheapestEntry 69 = .ok (.iadd, 1) := by decide +kernel
theorem dX1_cheapestEntry_70 : decode cX1_cheapestEntry 70 = .ok (.istore 9, 2) := by decide +kernel
theorem dX1_cheapestEntry_72 : decode cX1_cheapestEntry 72 = .ok (.iload 9, 2) := by decide +kernel
theorem dX1_cheapestEntry_74 : decode cX1_cheapestEntry 74 = .ok (.iload 6, 2) := by decide +kernel
theorem dX1_cheapestEntry_76 : decode cX1_cheapestEntry 76 = .ok (.if_icmp .ge 7, 3) := by decide +kernel
theorem dX1_cheapestEntry_79 : decode cX1_cheapestEntry 79 = .ok (.iload 9, 2) := by decide +kernel
theorem dX1_cheapestEntry_81 : decode cX1_cheapestEntry 81 = .ok (.istore 6, 2) := by decide +kernel
theorem dX1_cheapestEntry_83 : decode cX1_cheapestEntry 83 = .ok (.iinc 7 1, 3) := by decide +kernel
theorem dX1_cheapestEntry_86 : decode cX1_cheapestEntry 86 = .ok (.goto (-54), 3) := by decide +kernel
theorem dX1_cheapestEntry_89 : decode cX1_cheapestEntry 89 = .ok (.iload 6, 2) := by decide +kernel
theorem dX1_cheapestEntry_91 : decode cX1_cheapestEntry 91 = .ok (.ireturn, 1) := by decide +kernel
theorem dX1_pick_0 : decode cX1_pick 0 = .ok (.iconst 0, 1) := by decide +kernel
theorem dX1_pick_1 : decode cX1_pick 1 = .ok (.istore_n 1, 1) := by decide +kernel
theorem dX1_pick_2 : decode cX1_pick 2 = .ok (.iload_n 1, 1) := by decide +kernel
theorem dX1_pick_3 : decode cX1_pick 3 = .ok (.aload_n 0, 1) := by decide +kernel
theorem dX1_pick_4 : decode cX1_pick 4 = .ok (.getfield 59, 3) := by decide +kernel
theorem dX1_pick_7 : decode cX1_pick 7 = .ok (.getfield 93, 3) := by decide +kernel
theorem dX1_pick_10 : decode cX1_pick 10 = .ok (.if_icmp .ge 146, 3) := by decide +kernel
theorem dX1_pick_13 : decode cX1_pick 13 = .ok (.aload_n 0, 1) := by decide +kernel
theorem dX1_pick_14 : decode cX1_pick 14 = .ok (.getfield 45, 3) := by decide +kernel
theorem dX1_pick_17 : decode cX1_pick 17 = .ok (.iload_n 1, 1) := by decide +kernel
theorem dX1_pick_18 : decode cX1_pick 18 = .ok (.iconst 0, 1) := by decide +kernel
theorem dX1_pick_19 : decode cX1_pick 19 = .ok (.iastore, 1) := by decide +kernel
theorem dX1_pick_20 : decode cX1_pick 20 = .ok (.aload_n 0, 1) := by decide +kernel
theorem dX1_pick_21 : decode cX1_pick 21 = .ok (.getfield 59, 3) := by decide +kernel
theorem dX1_pick_24 : decode cX1_pick 24 = .ok (.iload_n 1, 1) := by decide +kernel
theorem dX1_pick_25 : decode cX1_pick 25 = .ok (.invokevirtual 102, 3) := by decide +kernel
theorem dX1_pick_28 : decode cX1_pick 28 = .ok (.ifCond .ne 6, 3) := by decide +kernel
theorem dX1_pick_31 : decode cX1_pick 31 = .ok (.goto 119, 3) := by decide +kernel
theorem dX1_pick_34 : decode cX1_pick 34 = .ok (.aload_n 0, 1) := by decide +kernel
theorem dX1_pick_35 : decode cX1_pick 35 = .ok (.getfield 39, 3) := by decide +kernel
theorem dX1_pick_38 : decode cX1_pick 38 = .ok (.iload_n 1, 1) := by decide +kernel
theorem dX1_pick_39 : decode cX1_pick 39 = .ok (.iaload, 1) := by decide +kernel
theorem dX1_pick_40 : decode cX1_pick 40 = .ok (.bipush (-4), 2) := by decide +kernel
theorem dX1_pick_42 : decode cX1_pick 42 = .ok (.if_icmp .eq 18, 3) := by decide +kernel
theorem dX1_pick_45 : decode cX1_pick 45 = .ok (.aload_n 0, 1) := by decide +kernel
theorem dX1_pick_46 : decode cX1_pick 46 = .ok (.getfield 45, 3) := by decide +kernel
theorem dX1_pick_49 : decode cX1_pick 49 = .ok (.iload_n 1, 1) := by decide +kernel
theorem dX1_pick_50 : decode cX1_pick 50 = .ok (.aload_n 0, 1) := by decide +kernel
theorem dX1_pick_51 : decode cX1_pick 51 = .ok (.getfield 39, 3) := by decide +kernel
theorem dX1_pick_54 : decode cX1_pick 54 = .ok (.iload_n 1, 1) := by decide +kernel
theorem dX1_pick_55 : decode cX1_pick 55 = .ok (.iaload, 1) := by decide +kernel
theorem dX1_pick_56 : decode cX1_pick 56 = .ok (.iastore, 1) := by decide +kernel
theorem dX1_pick_57 : decode cX1_pick 57 = .ok (.goto 93, 3) := by decide +kernel
theorem dX1_pick_60 : decode cX1_pick 60 = .ok (.aload_n 0, 1) := by decide +kernel
theorem dX1_pick_61 : decode cX1_pick 61 = .ok (.getfield 24, 3) := by decide +kernel
theorem dX1_pick_64 : decode cX1_pick 64 = .ok (.iload_n 1, 1) := by decide +kernel
theorem dX1_pick_65 : decode cX1_pick 65 = .ok (.iconst 1, 1) := by decide +kernel
theorem dX1_pick_66 : decode cX1_pick 66 = .ok (.isub, 1) := by decide +kernel
theorem dX1_pick_67 : decode cX1_pick 67 = .ok (.bipush 16, 2) := by decide +kernel
theorem dX1_pick_69 : decode cX1_pick 69 = .ok (.imul, 1) := by decide +kernel
theorem dX1_pick_70 : decode cX1_pick 70 = .ok (.aload_n 0, 1) := by decide +kernel
theorem dX1_pick_71 : decode cX1_pick 71 = .ok (.getfield 45, 3) := by decide +kernel
theorem dX1_pick_74 : decode cX1_pick 74 = .ok (.iload_n 1, 1) := by decide +kernel
theorem dX1_pick_75 : decode cX1_pick 75 = .ok (.iconst 1, 1) := by decide +kernel
theorem dX1_pick_76 : decode cX1_pick 76 = .ok (.isub, 1) := by decide +kernel
theorem dX1_pick_77 : decode cX1_pick 77 = .ok (.iaload, 1) := by decide +kernel
theorem dX1_pick_78 : decode cX1_pick 78 = .ok (.iadd, 1) := by decide +kernel
theorem dX1_pick_79 : decode cX1_pick 79 = .ok (.iaload, 1) := by decide +kernel
theorem dX1_pick_80 : decode cX1_pick 80 = .ok (.istore_n 2, 1) := by decide +kernel
theorem dX1_pick_81 : decode cX1_pick 81 = .ok (.ldc 86, 2) := by decide +kernel
theorem dX1_pick_83 : decode cX1_pick 83 = .ok (.istore_n 3, 1) := by decide +kernel
theorem dX1_pick_84 : decode cX1_pick 84 = .ok (.iconst 0, 1) := by decide +kernel
theorem dX1_pick_85 : decode cX1_pick 85 = .ok (.istore 4, 2) := by decide +kernel
theorem dX1_pick_87 : decode cX1_pick 87 = .ok (.iload 4, 2) := by decide +kernel
theorem dX1_pick_89 : decode cX1_pick 89 = .ok (.aload_n 0, 1) := by decide +kernel
theorem dX1_pick_90 : decode cX1_pick 90 = .ok (.getfield 15, 3) := by decide +kernel
theorem dX1_pick_93 : decode cX1_pick 93 = .ok (.iload_n 1, 1) := by decide +kernel
theorem dX1_pick_94 : decode cX1_pick 94 = .ok (.iaload, 1) := by decide +kernel
theorem dX1_pick_95 : decode cX1_pick 95 = .ok (.if_icmp .ge 55, 3) := by decide +kernel
theorem dX1_pick_98 : decode cX1_pick 98 = .ok (.aload_n 0, 1) := by decide +kernel
theorem dX1_pick_99 : decode cX1_pick 99 = .ok (.getfield 11, 3) := by decide +kernel
theorem dX1_pick_102 : decode cX1_pick 102 = .ok (.iload_n 1, 1) := by decide +kernel
theorem dX1_pick_103 : decode cX1_pick 103 = .ok (.bipush 16, 2) := by decide +kernel
theorem dX1_pick_105 : decode cX1_pick 105 = .ok (.imul, 1) := by decide +kernel
theorem dX1_pick_106 : decode cX1_pick 106 = .ok (.iload 4, 2) := by decide +kernel
theorem dX1_pick_108 : decode cX1_pick 108 = .ok (.iadd, 1) := by decide +kernel
theorem dX1_pick_109 : decode cX1_pick 109 = .ok (.iaload, 1) := by decide +kernel
theorem dX1_pick_110 : decode cX1_pick 110 = .ok (.istore 5, 2) := by decide +kernel
theorem dX1_pick_112 : decode cX1_pick 112 = .ok (.aload_n 0, 1) := by decide +kernel
theorem dX1_pick_113 : decode cX1_pick 113 = .ok (.iload_n 1, 1) := by decide +kernel
theorem dX1_pick_114 : decode cX1_pick 114 = .ok (.iconst 1, 1) := by decide +kernel
theorem dX1_pick_115 : decode cX1_pick 115 = .ok (.isub, 1) := by decide +kernel
theorem dX1_pick_116 : decode cX1_pick 116 = .ok (.iload_n 2, 1) := by decide +kernel
theorem dX1_pick_117 : decode cX1_pick 117 = .ok (.iload 5, 2) := by decide +kernel
theorem dX1_pick_119 : decode cX1_pick 119 = .ok (.invokevirtual 172, 3) := by decide +kernel
theorem dX1_pick_122 : decode cX1_pick 122 = .ok (.istore 6, 2) := by decide +kernel
theorem dX1_pick_124 : decode cX1_pick 124 = .ok (.iload 6, 2) := by decide +kernel
theorem dX1_pick_126 : decode cX1_pick 126 = .ok (.iload_n 3, 1) := by decide +kernel
theorem dX1_pick_127 : decode cX1_pick 127 = .ok (.if_icmp .lt 6, 3) := by decide +kernel
theorem dX1_pick_130 : decode cX1_pick 130 = .ok (.goto 14, 3) := by decide +kernel
theorem dX1_pick_133 : decode cX1_pick 133 = .ok (.iload 6, 2) := by decide +kernel
theorem dX1_pick_135 : decode cX1_pick 135 = .ok (.istore_n 3, 1) := by decide +kernel
theorem dX1_pick_136 : decode cX1_pick 136 = .ok (.aload_n 0, 1) := by decide +kernel
theorem dX1_pick_137 : decode cX1_pick 137 = .ok (.getfield 45, 3) := by decide +kernel
theorem dX1_pick_140 : decode cX1_pick 140 = .ok (.iload_n 1, 1) := by decide +kernel
theorem dX1_pick_141 : decode cX1_pick 141 = .ok (.iload 5, 2) := by decide +kernel
theorem dX1_pick_143 : decode cX1_pick 143 = .ok (.iastore, 1) := by decide +kernel
theorem dX1_pick_144 : decode cX1_pick 144 = .ok (.iinc 4 1, 3) := by decide +kernel
theorem dX1_pick_147 : decode cX1_pick 147 = .ok (.goto (-60), 3) := by decide +kernel
theorem dX1_pick_150 : decode cX1_pick 150 = .ok (.iinc 1 1, 3) := by decide +kernel
theorem dX1_pick_153 : decode cX1_pick 153 = .ok (.goto (-151), 3) := by decide +kernel
theorem dX1_pick_156 : decode cX1_pick 156 = .ok (.return_, 1) := by decide +kernel
theorem dX2_init_0 : decode cX2_init 0 = .ok (.aload_n 0, 1) := by decide +kernel
theorem dX2_init_1 : decode cX2_init 1 = .ok (.invokespecial 3, 3) := by decide +kernel
theorem dX2_init_4 : decode cX2_init 4 = .ok (.aload_n 0, 1) := by decide +kernel
theorem dX2_init_5 : decode cX2_init 5 = .ok (.iconst 0, 1) := by decide +kernel
theorem dX2_init_6 : decode cX2_init 6 = .ok (.putfield 9, 3) := by decide +kernel
theorem dX2_init_9 : decode cX2_init 9 = .ok (.aload_n 0, 1) := by decide +kernel
theorem dX2_init_10 : decode cX2_init 10 = .ok (.iconst 0, 1) := by decide +kernel
theorem dX2_init_11 : decode cX2_init 11 = .ok (.putfield 15, 3) := by decide +kernel
theorem dX2_init_14 : decode cX2_init 14 = .ok (.aload_n 0, 1) := by decide +kernel
theorem dX2_init_15 : decode cX2_init 15 = .ok (.iconst 0, 1) := by decide +kernel
theorem dX2_init_16 : decode cX2_init 16 = .ok (.putfield 18, 3) := by decide +kernel
theorem dX2_init_19 : decode cX2_init 19 = .ok (.aload_n 0, 1) := by decide +kernel
theorem dX2_init_20 : decode cX2_init 20 = .ok (.iconst 0, 1) := by decide +kernel
theorem dX2_init_21 : decode cX2_init 21 = .ok (.putfield 21, 3) := by decide +kernel
theorem dX2_init_24 : decode cX2_init 24 = .ok (.aload_n 0, 1) := by decide +kernel
theorem dX2_init_25 : decode cX2_init 25 = .ok (.iconst 0, 1) := by decide +kernel
theorem dX2_init_26 : decode cX2_init 26 = .ok (.putfield 24, 3) := by decide +kernel
theorem dX2_init_29 : decode cX2_init 29 = .ok (.aload_n 0, 1) := by decide +kernel
theorem dX2_init_30 : decode cX2_init 30 = .ok (.bipush 16, 2) := by decide +kernel
theorem dX2_init_32 : decode cX2_init 32 = .ok (.newarray .int, 2) := by decide +kernel
theorem dX2_init_34 : decode cX2_init 34 = .ok (.putfield 27, 3) := by decide +kernel
theorem dX2_init_37 : decode cX2_init 37 = .ok (.aload_n 0, 1) := by decide +kernel
theorem dX2_init_38 : decode cX2_init 38 = .ok (.bipush 16, 2) := by decide +kernel
theorem dX2_init_40 : decode cX2_init 40 = .ok (.newarray .int, 2) := by decide +kernel
theorem dX2_init_42 : decode cX2_init 42 = .ok (.putfield 31, 3) := by decide +kernel
theorem dX2_init_45 : decode cX2_init 45 = .ok (.aload_n 0, 1) := by decide +kernel
theorem dX2_init_46 : decode cX2_init 46 = .ok (.bipush 64, 2) := by decide +kernel
theorem dX2_init_48 : decode cX2_init 48 = .ok (.newarray .int, 2) := by decide +kernel
theorem dX2_init_50 : decode cX2_init 50 = .ok (.putfield 34, 3) := by decide +kernel
theorem dX2_init_53 : decode cX2_init 53 = .ok (.aload_n 0, 1) := by decide +kernel
theorem dX2_init_54 : decode cX2_init 54 = .ok (.sipush 256, 3) := by decide +kernel
theorem dX2_init_57 : decode cX2_init 57 = .ok (.newarray .int, 2) := by decide +kernel
theorem dX2_init_59 : decode cX2_init 59 = .ok (.putfield 37, 3) := by decide +kernel
theorem dX2_init_62 : decode cX2_init 62 = .ok (.return_, 1) := by decide +kernel
theorem dX2_equip_0 : decode cX2_equip 0 = .ok (.aload_n 0, 1) := by decide +kernel
theorem dX2_equip_1 : decode cX2_equip 1 = .ok (.getfield 9, 3) := by decide +kernel
theorem dX2_equip_4 : decode cX2_equip 4 = .ok (.aload_n 1, 1) := by decide +kernel
theorem dX2_equip_5 : decode cX2_equip 5 = .ok (.getfield 40, 3) := by decide +kernel
theorem dX2_equip_8 : decode cX2_equip 8 = .ok (.if_icmp .ne 7, 3) := by decide +kernel
theorem dX2_equip_11 : decode cX2_equip 11 = .ok (.iconst 1, 1) := by decide +kernel
theorem dX2_equip_12 : decode cX2_equip 12 = .ok (.goto 4, 3) := by decide +kernel
theorem dX2_equip_15 : decode cX2_equip 15 = .ok (.iconst 0, 1) := by decide +kernel
theorem dX2_equip_16 : decode cX2_equip 16 = .ok (.istore_n 2, 1) := by decide +kernel
theorem dX2_equip_17 : decode cX2_equip 17 = .ok (.aload_n 0, 1) := by decide +kernel
theorem dX2_equip_18 : decode cX2_equip 18 = .ok (.getfield 15, 3) := by decide +kernel
theorem dX2_equip_21 : decode cX2_equip 21 = .ok (.aload_n 1, 1) := by decide +kernel
theorem dX2_equip_22 : decode cX2_equip 22 = .ok (.getfield 43, 3) := by decide +kernel
theorem dX2_equip_25 : decode cX2_equip 25 = .ok (.if_icmp .ne 29, 3) := by decide +kernel
theorem dX2_equip_28 : decode cX2_equip 28 = .ok (.aload_n 0, 1) := by decide +kernel
theorem dX2_equip_29 : decode cX2_equip 29 = .ok (.getfield 18, 3) := by decide +kernel
theorem dX2_equip_32 : decode cX2_equip 32 = .ok (.aload_n 1, 1) := by decide +kernel
theorem dX2_equip_33 : decode cX2_equip 33 = .ok (.getfield 44, 3) := by decide +kernel
theorem dX2_equip_36 : decode cX2_equip 36 = .ok (.if_icmp .ne 18, 3) := by decide +kernel
theorem dX2_equip_39 : decode cX2_equip 39 = .ok (.aload_n 0, 1) := by decide +kernel
theorem dX2_equip_40 : decode cX2_equip 40 = .ok (.getfield 21, 3) := by decide +kernel
theorem dX2_equip_43 : decode cX2_equip 43 = .ok (.aload_n 1, 1) := by decide +kernel
theorem dX2_equip_44 : decode cX2_equip 44 = .ok (.getfield 45, 3) := by decide +kernel
theorem dX2_equip_47 : decode cX2_equip 47 = .ok (.if_icmp .ne 7, 3) := by decide +kernel
theorem dX2_equip_50 : decode cX2_equip 50 = .ok (.iconst 1, 1) := by decide +kernel
theorem dX2_equip_51 : decode cX2_equip 51 = .ok (.goto 4, 3) := by decide +kernel
theorem dX2_equip_54 : decode cX2_equip 54 = .ok (.iconst 0, 1) := by decide +kernel
theorem dX2_equip_55 : decode cX2_equip 55 = .ok (.istore_n 3, 1) := by decide +kernel
theorem dX2_equip_56 : decode cX2_equip 56 = .ok (.iload_n 2, 1) := by decide +kernel
theorem dX2_equip_57 : decode cX2_equip 57 = .ok (.ifCond .eq 8, 3) := by decide +kernel
theorem dX2_equip_60 : decode cX2_equip 60 = .ok (.iload_n 3, 1) := by decide +kernel
theorem dX2_equip_61 : decode cX2_equip 61 = .ok (.ifCond .eq 4, 3) := by decide +kernel
theorem dX2_equip_64 : decode cX2_equip 64 = .ok (.return_, 1) := by decide +kernel
theorem dX2_equip_65 : decode cX2_equip 65 = .ok (.aload_n 0, 1) := by decide +kernel
theorem dX2_equip_66 : decode cX2_equip 66 = .ok (.aload_n 1, 1) := by decide +kernel
theorem dX2_equip_67 : decode cX2_equip 67 = .ok (.getfield 40, 3) := by decide +kernel
theorem dX2_equip_70 : decode cX2_equip 70 = .ok (.putfield 9, 3) := by decide +kernel
theorem dX2_equip_73 : decode cX2_equip 73 = .ok (.aload_n 0, 1) := by decide +kernel
theorem dX2_equip_74 : decode cX2_equip 74 = .ok (.aload_n 1, 1) := by decide +kernel
theorem dX2_equip_75 : decode cX2_equip 75 = .ok (.getfield 43, 3) := by decide +kernel
theorem dX2_equip_78 : decode cX2_equip 78 = .ok (.putfield 15, 3) := by decide +kernel
theorem dX2_equip_81 : decode cX2_equip 81 = .ok (.aload_n 0, 1) := by decide +kernel
theorem dX2_equip_82 : decode cX2_equip 82 = .ok (.aload_n 1, 1) := by decide +kernel
theorem dX2_equip_83 : decode cX2_equip 83 = .ok (.getfield 44, 3) := by decide +kernel
theorem dX2_equip_86 : decode cX2_equip 86 = .ok (.putfield 18, 3) := by decide +kernel
theorem dX2_equip_89 : decode cX2_equip 89 = .ok (.aload_n 0, 1) := by decide +kernel
theorem dX2_equip_90 : decode cX2_equip 90 = .ok (.aload_n 1, 1) := by decide +kernel
theorem dX2_equip_91 : decode cX2_equip 91 = .ok (.getfield 45, 3) := by decide +kernel
theorem dX2_equip_94 : decode cX2_equip 94 = .ok (.putfield 21, 3) := by decide +kernel
theorem dX2_equip_97 : decode cX2_equip 97 = .ok (.iload_n 2, 1) := by decide +kernel
theorem dX2_equip_98 : decode cX2_equip 98 = .ok (.ifCond .ne 7, 3) := by decide +kernel
theorem dX2_equip_101 : decode cX2_equip 101 = .ok (.aload_n 0, 1) := by decide +kernel
theorem dX2_equip_102 : decode cX2_equip 102 = .ok (.invokevirtual 46, 3) := by decide +kernel
theorem dX2_equip_105 : decode cX2_equip 105 = .ok (.iconst 0, 1) := by decide +kernel
theorem dX2_equip_106 : decode cX2_equip 106 = .ok (.istore 4, 2) := by decide +kernel
theorem dX2_equip_108 : decode cX2_equip 108 = .ok (.iload 4, 2) := by decide +kernel
theorem dX2_equip_110 : decode cX2_equip 110 = .ok (.aload_n 0, 1) := by decide +kernel
theorem dX2_equip_111 : decode cX2_equip 111 = .ok (.getfield 24, 3) := by decide +kernel
theorem dX2_equip_114 : decode cX2_equip 114 = .ok (.if_icmp .ge 48, 3) := by decide +kernel
theorem dX2_equip_117 : decode cX2_equip 117 = .ok (.iconst 0, 1) := by decide +kernel
theorem dX2_equip_118 : decode cX2_equip 118 = .ok (.istore 5, 2) := by decide +kernel
theorem dX2_equip_120 : decode cX2_equip 120 = .ok (.iload 5, 2) := by decide +kernel
theorem dX2_equip_122 : decode cX2_equip 122 = .ok (.aload_n 0, 1) := by decide +kernel
theorem dX2_equip_123 : decode cX2_equip 123 = .ok (.getfield 24, 3) := by decide +kernel
theorem dX2_equip_126 : decode cX2_equip 126 = .ok (.if_icmp .ge 30, 3) := by decide +kernel
theorem dX2_equip_129 : decode cX2_equip 129 = .ok (.aload_n 0, 1) := by decide +kernel
theorem dX2_equip_130 : decode cX2_equip 130 = .ok (.getfield 37, 3) := by decide +kernel
theorem dX2_equip_133 : decode cX2_equip 133 = .ok (.iload 4, 2) := by decide +kernel
theorem dX2_equip_135 : decode cX2_equip 135 = .ok (.bipush 16, 2) := by decide +kernel
theorem dX2_equip_137 : decode cX2_equip 137 = .ok (.imul, 1) := by decide +kernel
theorem dX2_equip_138 : decode cX2_equip 138 = .ok (.iload 5, 2) := by decide +kernel
theorem dX2_equip_140 : decode cX2_equip 140 = .ok (.iadd, 1) := by decide +kernel
theorem dX2_equip_141 : decode cX2_equip 141 = .ok (.aload_n 0, 1) := by decide +kernel
theorem dX2_equip_142 : decode cX2_equip 142 = .ok (.iload 4, 2) := by decide +kernel
theorem dX2_equip_144 : decode cX2_equip 144 = .ok (.iload 5, 2) := by decide +kernel
theorem dX2_equip_146 : decode cX2_equip 146 = .ok (.invokevirtual 49, 3) := by decide +kernel
theorem dX2_equip_149 : decode cX2_equip 149 = .ok (.iastore, 1) := by decide +kernel
theorem dX2_equip_150 : decode cX2_equip 150 = .ok (.iinc 5 1, 3) := by decide +kernel
theorem dX2_equip_153 : decode cX2_equip 153 = .ok (.goto (-33), 3) := by decide +kernel
theorem dX2_equip_156 : decode cX2_equip 156 = .ok (.iinc 4 1, 3) := by decide +kernel
theorem dX2_equip_159 : decode cX2_equip 159 = .ok (.goto (-51), 3) := by decide +kernel
theorem dX2_equip_162 : decode cX2_equip 162 = .ok (.return_, 1) := by decide +kernel
theorem dX2_listStates_0 : decode cX2_listStates 0 = .ok (.aload_n 0, 1) := by decide +kernel
theorem dX2_listStates_1 : decode cX2_listStates 1 = .ok (.iconst 0, 1) := by decide +kernel
theorem dX2_listStates_2 : decode cX2_listStates 2 = .ok (.putfield 24, 3) := by decide +kernel
theorem dX2_listStates_5 : decode cX2_listStates 5 = .ok (.iconst 1, 1) := by decide +kernel
theorem dX2_listStates_6 : decode cX2_listStates 6 = .ok (.istore_n 1, 1) := by decide +kernel
theorem dX2_listStates_7 : decode cX2_listStates 7 = .ok (.iconst 0, 1) := by decide +kernel
theorem dX2_listStates_8 : decode cX2_listStates 8 = .ok (.istore_n 2, 1) := by decide +kernel
theorem dX2_listStates_9 : decode cX2_listStates 9 = .ok (.iload_n 2, 1) := by decide +kernel
theorem dX2_listStates_10 : decode cX2_listStates 10 = .ok (.aload_n 0, 1) := by decide +kernel
theorem dX2_listStates_11 : decode cX2_listStates 11 = .ok (.getfield 9, 3) := by decide +kernel
theorem dX2_listStates_14 : decode cX2_listStates 14 = .ok (.if_icmp .gt 35, 3) := by decide +kernel
theorem dX2_listStates_17 : decode cX2_listStates 17 = .ok (.iconst 0, 1) := by decide +kernel
theorem dX2_listStates_18 : decode cX2_listStates 18 = .ok (.istore_n 3, 1) := by decide +kernel
theorem dX2_listStates_19 : decode cX2_listStates 19 = .ok (.iload_n 3, 1) := by decide +kernel
theorem dX2_listStates_20 : decode cX2_listStates 20 = .ok (.iload_n 1, 1) := by decide +kernel
theorem dX2_listStates_21 : decode cX2_listStates 21 = .ok (.if_icmp .ge 15, 3) := by decide +kernel
theorem dX2_listStates_24 : decode cX2_listStates 24 = .ok (.aload_n 0, 1) := by decide +kernel
theorem dX2_listStates_25 : decode cX2_listStates 25 = .ok (.iload_n 2, 1) := by decide +kernel
theorem dX2_listStates_26 : decode cX2_listStates 26 = .ok (.iload_n 3, 1) := by decide +kernel
theorem dX2_listStates_27 : decode cX2_listStates 27 = .ok (.invokevirtual 53, 3) := by decide +kernel
theorem dX2_listStates_30 : decode cX2_listStates 30 = .ok (.iinc 3 1, 3) := by decide +kernel
theorem dX2_listStates_33 : decode cX2_listStates 33 = .ok (.goto (-14), 3) := by decide +kernel
theorem dX2_listStates_36 : decode cX2_listStates 36 = .ok (.iload_n 1, 1) := by decide +kernel
theorem dX2_listStates_37 : decode cX2_listStates 37 = .ok (.aload_n 0, 1) := by decide +kernel
theorem dX2_listStates_38 : decode cX2_listStates 38 = .ok (.getfield 9, 3) := by decide +kernel
theorem dX2_listStates_41 : decode cX2_listStates 41 = .ok (.imul, 1) := by decide +kernel
theorem dX2_listStates_42 : decode cX2_listStates 42 = .ok (.istore_n 1, 1) := by decide +kernel
theorem dX2_listStates_43 : decode cX2_listStates 43 = .ok (.iinc 2 1, 3) := by decide +kernel
theorem dX2_listStates_46 : decode cX2_listStates 46 = .ok (.goto (-37), 3) := by decide +kernel
theorem dX2_listStates_49 : decode cX2_listStates 49 = .ok (.return_, 1) := by decide +kernel
theorem dX2_listState_0 : decode cX2_listState 0 = .ok (.iconst 0, 1) := by decide +kernel
theorem dX2_listState_1 : decode cX2_listState 1 = .ok (.istore_n 3, 1) := by decide +kernel
theorem dX2_listState_2 : decode cX2_listState 2 = .ok (.iload_n 2, 1) := by decide +kernel
theorem dX2_listState_3 : decode cX2_listState 3 = .ok (.istore 4, 2) := by decide +kernel
theorem dX2_listState_5 : decode cX2_listState 5 = .ok (.iconst 0, 1) := by decide +kernel
theorem dX2_listState_6 : decode cX2_listState 6 = .ok (.istore 5, 2) := by decide +kernel
theorem dX2_listState_8 : decode cX2_listState 8 = .ok (.iload 5, 2) := by decide +kernel
theorem dX2_listState_10 : decode cX2_listState 10 = .ok (.iload_n 1, 1) := by decide +kernel
theorem dX2_listState_11 : decode cX2_listState 11 = .ok (.if_icmp .ge 56, 3) := by decide +kernel
theorem dX2_listState_14 : decode cX2_listState 14 = .ok (.iload 4, 2) := by decide +kernel
theorem dX2_listState_16 : decode cX2_listState 16 = .ok (.aload_n 0, 1) := by decide +kernel
theorem dX2_listState_17 : decode cX2_listState 17 = .ok (.getfield 9, 3) := by decide +kernel
theorem dX2_listState_20 : decode cX2_listState 20 = .ok (.iconst 1, 1) := by decide +kernel
theorem dX2_listState_21 : decode cX2_listState 21 = .ok (.invokestatic 57, 3) := by decide +kernel
theorem dX2_listState_24 : decode cX2_listState 24 = .ok (.invokestatic 62, 3) := by decide +kernel
theorem dX2_listState_27 : decode cX2_listState 27 = .ok (.istore 6, 2) := by decide +kernel
theorem dX2_listState_29 : decode cX2_listState 29 = .ok (.iload_n 3, 1) := by decide +kernel
theorem dX2_listState_30 : decode cX2_listState 30 = .ok (.iload 6, 2) := by decide +kernel
theorem dX2_listState_32 : decode cX2_listState 32 = .ok (.invokestatic 65, 3) := by decide +kernel
theorem dX2_listState_35 : decode cX2_listState 35 = .ok (.ifCond .eq 4, 3) := by decide +kernel
theorem dX2_listState_38 : decode cX2_listState 38 = .ok (.return_, 1) := by decide +kernel
theorem dX2_listState_39 : decode cX2_listState 39 = .ok (.iload_n 3, 1) := by decide +kernel
theorem dX2_listState_40 : decode cX2_listState 40 = .ok (.iload 6, 2) := by decide +kernel
theorem dX2_listState_42 : decode cX2_listState 42 = .ok (.invokestatic 69, 3) := by decide +kernel
theorem dX2_listState_45 : decode cX2_listState 45 = .ok (.istore_n 3, 1) := by decide +kernel
theorem dX2_listState_46 : decode cX2_listState 46 = .ok (.iload 4, 2) := by decide +kernel
theorem dX2_listState_48 : decode cX2_listState 48 = .ok (.aload_n 0, 1) := by decide +kernel
theorem dX2_listState_49 : decode cX2_listState 49 = .ok (.getfield 9, 3) := by decide +kernel
theorem dX2_listState_52 : decode cX2_listState 52 = .ok (.iconst 1, 1) := by decide +kernel
theorem dX2_listState_53 : decode cX2_listState 53 = .ok (.invokestatic 57, 3) := by decide +kernel
theorem dX2_listState_56 : decode cX2_listState 56 = .ok (.invokestatic 72, 3) := by decide +kernel
theorem dX2_listState_59 : decode cX2_listState 59 = .ok (.istore 4, 2) := by decide +kernel
theorem dX2_listState_61 : decode cX2_listState 61 = .ok (.iinc 5 1, 3) := by decide +kernel
theorem dX2_listState_64 : decode cX2_listState 64 = .ok (.goto (-56), 3) := by decide +kernel
theorem dX2_listState_67 : decode cX2_listState 67 = .ok (.aload_n 0, 1) := by decide +kernel
theorem dX2_listState_68 : decode cX2_listState 68 = .ok (.getfield 24, 3) := by decide +kernel
theorem dX2_listState_71 : decode cX2_listState 71 = .ok (.bipush 16, 2) := by decide +kernel
theorem dX2_listState_73 : decode cX2_listState 73 = .ok (.if_icmp .ne 4, 3) := by decide +kernel
theorem dX2_listState_76 : decode cX2_listState 76 = .ok (.return_, 1) := by decide +kernel
theorem dX2_listState_77 : decode cX2_listState 77 = .ok (.aload_n 0, 1) := by decide +kernel
theorem dX2_listState_78 : decode cX2_listState 78 = .ok (.getfield 27, 3) := by decide +kernel
theorem dX2_listState_81 : decode cX2_listState 81 = .ok (.aload_n 0, 1) := by decide +kernel
theorem dX2_listState_82 : decode cX2_listState 82 = .ok (.getfield 24, 3) := by decide +kernel
theorem dX2_listState_85 : decode cX2_listState 85 = .ok (.iload_n 3, 1) := by decide +kernel
theorem dX2_listState_86 : decode cX2_listState 86 = .ok (.iastore, 1) := by decide +kernel
theorem dX2_listState_87 : decode cX2_listState 87 = .ok (.aload_n 0, 1) := by decide +kernel
theorem dX2_listState_88 : decode cX2_listState 88 = .ok (.getfield 31, 3) := by decide +kernel
theorem dX2_listState_91 : decode cX2_listState 91 = .ok (.aload_n 0, 1) := by decide +kernel
theorem dX2_listState_92 : decode cX2_listState 92 = .ok (.getfield 24, 3) := by decide +kernel
theorem dX2_listState_95 : decode cX2_listState 95 = .ok (.iload_n 1, 1) := by decide +kernel
theorem dX2_listState_96 : decode cX2_listState 96 = .ok (.iastore, 1) := by decide +kernel
theorem dX2_listState_97 : decode cX2_listState 97 = .ok (.aload_n 0, 1) := by decide +kernel
theorem dX2_listState_98 : decode cX2_listState 98 = .ok (.getfield 34, 3) := by decide +kernel
theorem dX2_listState_101 : decode cX2_listState 101 = .ok (.iload_n 3, 1) := by decide +kernel
theorem dX2_listState_102 : decode cX2_listState 102 = .ok (.aload_n 0, 1) := by decide +kernel
theorem dX2_listState_103 : decode cX2_listState 103 = .ok (.getfield 24, 3) := by decide +kernel
theorem dX2_listState_106 : decode cX2_listState 106 = .ok (.iastore, 1) := by decide +kernel
theorem dX2_listState_107 : decode cX2_listState 107 = .ok (.aload_n 0, 1) := by decide +kernel
theorem dX2_listState_108 : decode cX2_listState 108 = .ok (.dup, 1) := by decide +kernel
theorem dX2_listState_109 : decode cX2_listState 109 = .ok (.getfield 24, 3) := by decide +kernel
theorem dX2_listState_112 : decode cX2_listState 112 = .ok (.iconst 1, 1) := by decide +kernel
theorem dX2_listState_113 : decode cX2_listState 113 = .ok (.iadd, 1) := by decide +kernel
theorem dX2_listState_114 : decode cX2_listState 114 = .ok (.putfield 24, 3) := by decide +kernel
theorem dX2_listState_117 : decode cX2_listState 117 = .ok (.return_, 1) := by decide +kernel
theorem dX2_push_0 : decode cX2_push 0 = .ok (.iload_n 0, 1) := by decide +kernel
theorem dX2_push_1 : decode cX2_push 1 = .ok (.iconst 2, 1) := by decide +kernel
theorem dX2_push_2 : decode cX2_push 2 = .ok (.ishl, 1) := by decide +kernel
theorem dX2_push_3 : decode cX2_push 3 = .ok (.iload_n 1, 1) := by decide +kernel
theorem dX2_push_4 : decode cX2_push 4 = .ok (.iconst 1, 1) := by decide +kernel
theorem dX2_push_5 : decode cX2_push 5 = .ok (.iadd, 1) := by decide +kernel
theorem dX2_push_6 : decode cX2_push 6 = .ok (.ior, 1) := by decide +kernel
theorem dX2_push_7 : decode cX2_push 7 = .ok (.ireturn, 1) := by decide +kernel
theorem dX2_holds_0 : decode cX2_holds 0 = .ok (.iload_n 0, 1) := by decide +kernel
theorem dX2_holds_1 : decode cX2_holds 1 = .ok (.iconst 3, 1) := by decide +kernel
theorem dX2_holds_2 : decode cX2_holds 2 = .ok (.iand, 1) := by decide +kernel
theorem dX2_holds_3 : decode cX2_holds 3 = .ok (.iload_n 1, 1) := by decide +kernel
theorem dX2_holds_4 : decode cX2_holds 4 = .ok (.iconst 1, 1) := by decide +kernel
theorem dX2_holds_5 : decode cX2_holds 5 = .ok (.iadd, 1) := by decide +kernel
theorem dX2_holds_6 : decode cX2_holds 6 = .ok (.if_icmp .eq 25, 3) := by decide +kernel
theorem dX2_holds_9 : decode cX2_holds 9 = .ok (.iload_n 0, 1) := by decide +kernel
theorem dX2_holds_10 : decode cX2_holds 10 = .ok (.iconst 2, 1) := by decide +kernel
theorem dX2_holds_11 : decode cX2_holds 11 = .ok (.ishr, 1) := by decide +kernel
theorem dX2_holds_12 : decode cX2_holds 12 = .ok (.iconst 3, 1) := by decide +kernel
theorem dX2_holds_13 : decode cX2_holds 13 = .ok (.iand, 1) := by decide +kernel
theorem dX2_holds_14 : decode cX2_holds 14 = .ok (.iload_n 1, 1) := by decide +kernel
theorem dX2_holds_15 : decode cX2_holds 15 = .ok (.iconst 1, 1) := by decide +kernel
theorem dX2_holds_16 : decode cX2_holds 16 = .ok (.iadd, 1) := by decide +kernel
theorem dX2_holds_17 : decode cX2_holds 17 = .ok (.if_icmp .eq 14, 3) := by decide +kernel
theorem dX2_holds_20 : decode cX2_holds 20 = .ok (.iload_n 0, 1) := by decide +kernel
theorem dX2_holds_21 : decode cX2_holds 21 = .ok (.iconst 4, 1) := by decide +kernel
theorem dX2_holds_22 : decode cX2_holds 22 = .ok (.ishr, 1) := by decide +kernel
theorem dX2_holds_23 : decode cX2_holds 23 = .ok (.iconst 3, 1) := by decide +kernel
theorem dX2_holds_24 : decode cX2_holds 24 = .ok (.iand, 1) := by decide +kernel
theorem dX2_holds_25 : decode cX2_holds 25 = .ok (.iload_n 1, 1) := by decide +kernel
theorem dX2_holds_26 : decode cX2_holds 26 = .ok (.iconst 1, 1) := by decide +kernel
theorem dX2_holds_27 : decode cX2_holds 27 = .ok (.iadd, 1) := by decide +kernel
theorem dX2_holds_28 : decode cX2_holds 28 = .ok (.if_icmp .ne 7, 3) := by decide +kernel
theorem dX2_holds_31 : decode cX2_holds 31 = .ok (.iconst 1, 1) := by decide +kernel
theorem dX2_holds_32 : decode cX2_holds 32 = .ok (.goto 4, 3) := by decide +kernel
theorem dX2_holds_35 : decode cX2_holds 35 = .ok (.iconst 0, 1) := by decide +kernel
theorem dX2_holds_36 : decode cX2_holds 36 = .ok (.ireturn, 1) := by decide +kernel
theorem dX2_lengthOf_0 : decode cX2_lengthOf 0 = .ok (.aload_n 0, 1) := by decide +kernel
theorem dX2_lengthOf_1 : decode cX2_lengthOf 1 = .ok (.getfield 31, 3) := by decide +kernel
theorem dX2_lengthOf_4 : decode cX2_lengthOf 4 = .ok (.iload_n 1, 1) := by decide +kernel
theorem dX2_lengthOf_5 : decode cX2_lengthOf 5 = .ok (.iaload, 1) := by decide +kernel
theorem dX2_lengthOf_6 : decode cX2_lengthOf 6 = .ok (.ireturn, 1) := by decide +kernel
theorem dX2_registerOf_0 : decode cX2_registerOf 0 = .ok (.aload_n 0, 1) := by decide +kernel
theorem dX2_registerOf_1 : decode cX2_registerOf 1 = .ok (.getfield 27, 3) := by decide +kernel
theorem dX2_registerOf_4 : decode cX2_registerOf 4 = .ok (.iload_n 1, 1) := by decide +kernel
theorem dX2_registerOf_5 : decode cX2_registerOf 5 = .ok (.iaload, 1) := by decide +kernel
theorem dX2_registerOf_6 : decode cX2_registerOf 6 = .ok (.iconst 2, 1) := by decide +kernel
theorem dX2_registerOf_7 : decode cX2_registerOf 7 = .ok (.iload_n 2, 1) := by decide +kernel
theorem dX2_registerOf_8 : decode cX2_registerOf 8 = .ok (.imul, 1) := by decide +kernel
theorem dX2_registerOf_9 : decode cX2_registerOf 9 = .ok (.ishr, 1) := by decide +kernel
theorem dX2_registerOf_10 : decode cX2_registerOf 10 = .ok (.iconst 3, 1) := by decide +kernel
theorem dX2_registerOf_11 : decode cX2_registerOf 11 = .ok (.iand, 1) := by decide +kernel
theorem dX2_registerOf_12 : decode cX2_registerOf 12 = .ok (.iconst 1, 1) := by decide +kernel
theorem dX2_registerOf_13 : decode cX2_registerOf 13 = .ok (.isub, 1) := by decide +kernel
theorem dX2_registerOf_14 : decode cX2_registerOf 14 = .ok (.ireturn, 1) := by decide +kernel
theorem dX2_passageCost_0 : decode cX2_passageCost 0 = .ok (.aload_n 0, 1) := by decide +kernel
theorem dX2_passageCost_1 : decode cX2_passageCost 1 = .ok (.getfield 37, 3) := by decide +kernel
theorem dX2_passageCost_4 : decode cX2_passageCost 4 = .ok (.iload_n 1, 1) := by decide +kernel
theorem dX2_passageCost_5 : decode cX2_passageCost 5 = .ok (.bipush 16, 2) := by decide +kernel
theorem dX2_passageCost_7 : decode cX2_passageCost 7 = .ok (.imul, 1) := by decide +kernel
theorem dX2_passageCost_8 : decode cX2_passageCost 8 = .ok (.iload_n 2, 1) := by decide +kernel
theorem dX2_passageCost_9 : decode cX2_passageCost 9 = .ok (.iadd, 1) := by decide +kernel
theorem dX2_passageCost_10 : decode cX2_passageCost 10 = .ok (.iaload, 1) := by decide +kernel
theorem dX2_passageCost_11 : decode cX2_passageCost 11 = .ok (.ireturn, 1) := by decide +kernel
theorem dX2_cheapestPassage_0 : decode cX2_cheapestPassage 0 = .ok (.aload_n 0, 1) := by decide +kernel
theorem dX2_cheapestPassage_1 : decode cX2_cheapestPassage 1 = .ok (.getfield 31, 3) := by decide +kernel
theorem dX2_cheapestPassage_4 : decode cX2_cheapestPassage 4 = .ok (.iload_n 1, 1) := by decide +kernel
theorem dX2_cheapestPassage_5 : decode cX2_cheapestPassage 5 = .ok (.iaload, 1) := by decide +kernel
theorem dX2_cheapestPassage_6 : decode cX2_cheapestPassage 6 = .ok (.aload_n 0, 1) := by decide +kernel
theorem dX2_cheapestPassage_7 : decode cX2_cheapestPassage 7 = .ok (.getfield 31, 3) := by decide +kernel
theorem dX2_cheapestPassage_10 : decode cX2_cheapestPassage 10 = .ok (.iload_n 2, 1) := by decide +kernel
theorem dX2_cheapestPassage_11 : decode cX2_cheapestPassage 11 = .ok (.iaload, 1) := by decide +kernel
theorem dX2_cheapestPassage_12 : decode cX2_cheapestPassage 12 = .ok (.invokestatic 75, 3) := by decide +kernel
theorem dX2_cheapestPassage_15 : decode cX2_cheapestPassage 15 = .ok (.istore_n 3, 1) := by decide +kernel
theorem dX2_cheapestPassage_16 : decode cX2_cheapestPassage 16 = .ok (.aload_n 0, 1) := by decide +kernel
theorem dX2_cheapestPassage_17 : decode cX2_cheapestPassage 17 = .ok (.getfield 21, 3) := by decide +kernel
theorem dX2_cheapestPassage_20 : decode cX2_cheapestPassage 20 = .ok (.aload_n 0, 1) := by decide +kernel
theorem dX2_cheapestPassage_21 : decode cX2_cheapestPassage 21 = .ok (.getfield 31, 3) := by decide +kernel
theorem dX2_cheapestPassage_24 : decode cX2_cheapestPassage 24 = .ok (.iload_n 1, 1) := by decide +kernel
theorem dX2_cheapestPassage_25 : decode cX2_cheapestPassage 25 = .ok (.iaload, 1) := by decide +kernel
theorem dX2_cheapestPassage_26 : decode cX2_cheapestPassage 26 = .ok (.iload_n 3, 1) := by decide +kernel
theorem dX2_cheapestPassage_27 : decode cX2_cheapestPassage 27 = .ok (.isub, 1) := by decide +kernel
theorem dX2_cheapestPassage_28 : decode cX2_cheapestPassage 28 = .ok (.imul, 1) := by decide +kernel
theorem dX2_cheapestPassage_29 : decode cX2_cheapestPassage 29 = .ok (.aload_n 0, 1) := by decide +kernel
theorem dX2_cheapestPassage_30 : decode cX2_cheapestPassage 30 = .ok (.getfield 18, 3) := by decide +kernel
theorem dX2_cheapestPassage_33 : decode cX2_cheapestPassage 33 = .ok (.aload_n 0, 1) := by decide +kernel
theorem dX2_cheapestPassage_34 : decode cX2_cheapestPassage 34 = .ok (.getfield 31, 3) := by decide +kernel
theorem dX2_cheapestPassage_37 : decode cX2_cheapestPassage 37 = .ok (.iload_n 2, 1) := by decide +kernel
theorem dX2_cheapestPassage_38 : decode cX2_cheapestPassage 38 = .ok (.iaload, 1) := by decide +kernel
theorem dX2_cheapestPassage_39 : decode cX2_cheapestPassage 39 = .ok (.iload_n 3, 1) := by decide +kernel
theorem dX2_cheapestPassage_40 : decode cX2_cheapestPassage 40 = .ok (.isub, 1) := by decide +kernel
theorem dX2_cheapestPassage_41 : decode cX2_cheapestPassage 41 = .ok (.imul, 1) := by decide +kernel
theorem dX2_cheapestPassage_42 : decode cX2_cheapestPassage 42 = .ok (.iadd, 1) := by decide +kernel
theorem dX2_cheapestPassage_43 : decode cX2_cheapestPassage 43 = .ok (.istore 4, 2) := by decide +kernel
theorem dX2_cheapestPassage_45 : decode cX2_cheapestPassage 45 = .ok (.iconst 0, 1) := by decide +kernel
theorem dX2_cheapestPassage_46 : decode cX2_cheapestPassage 46 = .ok (.istore 5, 2) := by decide +kernel
theorem dX2_cheapestPassage_48 : decode cX2_cheapestPassage 48 = .ok (.iconst 0, 1) := by decide +kernel
theorem dX2_cheapestPassage_49 : decode cX2_cheapestPassage 49 = .ok (.istore 6, 2) := by decide +kernel
theorem dX2_cheapestPassage_51 : decode cX2_cheapestPassage 51 = .ok (.iload 6, 2) := by decide +kernel
theorem dX2_cheapestPassage_53 : decode cX2_cheapestPassage 53 = .ok (.iload_n 3, 1) := by decide +kernel
theorem dX2_cheapestPassage_54 : decode cX2_cheapestPassage 54 = .ok (.if_icmp .ge 29, 3) := by decide +kernel
theorem dX2_cheapestPassage_57 : decode cX2_cheapestPassage 57 = .ok (.aload_n 0, 1) := by decide +kernel
theorem dX2_cheapestPassage_58 : decode cX2_cheapestPassage 58 = .ok (.iload_n 1, 1) := by decide +kernel
theorem dX2_cheapestPassage_59 : decode cX2_cheapestPassage 59 = .ok (.iload 6, 2) := by decide +kernel
theorem dX2_cheapestPassage_61 : decode cX2_cheapestPassage 61 = .ok (.invokevirtual 78, 3) := by decide +kernel
theorem dX2_cheapestPassage_64 : decode cX2_cheapestPassage 64 = .ok (.aload_n 0, 1) := by decide +kernel
theorem dX2_cheapestPassage_65 : decode cX2_cheapestPassage 65 = .ok (.iload_n 2, 1) := by decide +kernel
theorem dX2_cheapestPassage_66 : decode cX2_cheapestPassage 66 = .ok (.iload 6, 2) := by decide +kernel
theorem dX2_cheapestPassage_68 : decode cX2_cheapestPassage 68 = .ok (.invokevirtual 78, 3) := by decide +kernel
theorem dX2_cheapestPassage_71 : decode cX2_cheapestPassage 71 = .ok (.if_icmp .eq 6, 3) := by decide +kernel
theorem dX2_cheapestPassage_74 : decode cX2_cheapestPassage 74 = .ok (.iinc 5 1, 3) := by decide +kernel
theorem dX2_cheapestPassage_77 : decode cX2_cheapestPassage 77 = .ok (.iinc 6 1, 3) := by decide +kernel
theorem dX2_cheapestPassage_80 : decode cX2_cheapestPassage 80 = .ok (.goto (-29), 3) := by decide +kernel
theorem dX2_cheapestPassage_83 : decode cX2_cheapestPassage 83 = .ok (.aload_n 0, 1) := by decide +kernel
theorem dX2_cheapestPassage_84 : decode cX2_cheapestPassage 84 = .ok (.getfield 21, 3) := by decide +kernel
theorem dX2_cheapestPassage_87 : decode cX2_cheapestPassage 87 = .ok (.aload_n 0, 1) := by decide +kernel
theorem dX2_cheapestPassage_88 : decode cX2_cheapestPassage 88 = .ok (.getfield 18, 3) := by decide +kernel
theorem dX2_cheapestPassage_91 : decode cX2_cheapestPassage 91 = .ok (.iadd, 1) := by decide +kernel
theorem dX2_cheapestPassage_92 : decode cX2_cheapestPassage 92 = .ok (.istore 6, 2) := by decide +kernel
theorem dX2_cheapestPassage_94 : decode cX2_cheapestPassage 94 = .ok (.aload_n 0, 1) := by decide +kernel
theorem dX2_cheapestPassage_95 : decode cX2_cheapestPassage 95 = .ok (.getfield 15, 3) := by decide +kernel
theorem dX2_cheapestPassage_98 : decode cX2_cheapestPassage 98 = .ok (.iload 6, 2) := by decide +kernel
theorem dX2_cheapestPassage_100 : decode cX2_cheapestPassage 100 = .ok (.invokestatic 75, 3) := by decide +kernel
theorem dX2_cheapestPassage_103 : decode cX2_cheapestPassage 103 = .ok (.istore 7, 2) := by decide +kernel
theorem dX2_cheapestPassage_105 : decode cX2_cheapestPassage 105 = .ok (.aload_n 0, 1) := by decide +kernel
theorem dX2_cheapestPassage_106 : decode cX2_cheapestPassage 106 = .ok (.iload_n 1, 1) := by decide +kernel
theorem dX2_cheapestPassage_107 : decode cX2_cheapestPassage 107 = .ok (.iload_n 2, 1) := by decide +kernel
theorem dX2_cheapestPassage_108 : decode cX2_cheapestPassage 108 = .ok (.iload_n 3, 1) := by decide +kernel
theorem dX2_cheapestPassage_109 : decode cX2_cheapestPassage 109 = .ok (.invokevirtual 81, 3) := by decide +kernel
theorem dX2_cheapestPassage_112 : decode cX2_cheapestPassage 112 = .ok (.ifCond .ne 12, 3) := by decide +kernel
theorem dX2_cheapestPassage_115 : decode cX2_cheapestPassage 115 = .ok (.iload 4, 2) := by decide +kernel
theorem dX2_cheapestPassage_117 : decode cX2_cheapestPassage 117 = .ok (.iload 5, 2) := by decide +kernel
theorem dX2_cheapestPassage_119 : decode cX2_cheapestPassage 119 = .ok (.iload 7, 2) := by decide +kernel
theorem dX2_cheapestPassage_121 : decode cX2_cheapestPassage 121 = .ok (.imul, 1) := by decide +kernel
theorem dX2_cheapestPassage_122 : decode cX2_cheapestPassage 122 = .ok (.iadd, 1) := by decide +kernel
theorem dX2_cheapestPassage_123 : decode cX2_cheapestPassage 123 = .ok (.ireturn, 1) := by decide +kernel
theorem dX2_cheapestPassage_124 : decode cX2_cheapestPassage 124 = .ok (.iload 6, 2) := by decide +kernel
theorem dX2_cheapestPassage_126 : decode cX2_cheapestPassage 126 = .ok (.iload 5, 2) := by decide +kernel
theorem dX2_cheapestPassage_128 : decode cX2_cheapestPassage 128 = .ok (.iconst 1, 1) := by decide +kernel
theorem dX2_cheapestPassage_129 : decode cX2_cheapestPassage 129 = .ok (.isub, 1) := by decide +kernel
theorem dX2_cheapestPassage_130 : decode cX2_cheapestPassage 130 = .ok (.iload 7, 2) := by decide +kernel
theorem dX2_cheapestPassage_132 : decode cX2_cheapestPassage 132 = .ok (.imul, 1) := by decide +kernel
theorem dX2_cheapestPassage_133 : decode cX2_cheapestPassage 133 = .ok (.iadd, 1) := by decide +kernel
theorem dX2_cheapestPassage_134 : decode cX2_cheapestPassage 134 = .ok (.istore 8, 2) := by decide +kernel
theorem dX2_cheapestPassage_136 : decode cX2_cheapestPassage 136 = .ok (.iload_n 3, 1) := by decide +kernel
theorem dX2_cheapestPassage_137 : decode cX2_cheapestPassage 137 = .ok (.aload_n 0, 1) := by decide +kernel
theorem dX2_cheapestPassage_138 : decode cX2_cheapestPassage 138 = .ok (.getfield 9, 3) := by decide +kernel
theorem dX2_cheapestPassage_141 : decode cX2_cheapestPassage 141 = .ok (.if_icmp .ge 19, 3) := by decide +kernel
theorem dX2_cheapestPassage_144 : decode cX2_cheapestPassage 144 = .ok (.iload 8, 2) := by decide +kernel
theorem dX2_cheapestPassage_146 : decode cX2_cheapestPassage 146 = .ok (.iload 5, 2) := by decide +kernel
theorem dX2_cheapestPassage_148 : decode cX2_cheapestPassage 148 = .ok (.iconst 1, 1) := by decide +kernel
theorem dX2_cheapestPassage_149 : decode cX2_cheapestPassage 149 = .ok (.iadd, 1) := by decide +kernel
theorem dX2_cheapestPassage_150 : decode cX2_cheapestPassage 150 = .ok (.aload_n 0, 1) := by decide +kernel
theorem dX2_cheapestPassage_151 : decode cX2_cheapestPassage 151 = .ok (.getfield 15, 3) := by decide +kernel
theorem dX2_cheapestPassage_154 : decode cX2_cheapestPassage 154 = .ok (.imul, 1) := by decide +kernel
theorem dX2_cheapestPassage_155 : decode cX2_cheapestPassage 155 = .ok (.invokestatic 75, 3) := by decide +kernel
theorem dX2_cheapestPassage_158 : decode cX2_cheapestPassage 158 = .ok (.istore 8, 2) := by decide +kernel
theorem dX2_cheapestPassage_160 : decode cX2_cheapestPassage 160 = .ok (.iload 4, 2) := by decide +kernel
theorem dX2_cheapestPassage_162 : decode cX2_cheapestPassage 162 = .ok (.iload 8, 2) := by decide +kernel
theorem dX2_cheapestPassage_164 : decode cX2_cheapestPassage 164 = .ok (.iadd, 1) := by decide +kernel
theorem dX2_cheapestPassage_165 : decode cX2_cheapestPassage 165 = .ok (.ireturn, 1) := by decide +kernel
theorem dX2_goesRound_0 : decode cX2_goesRound 0 = .ok (.iconst 0, 1) := by decide +kernel
theorem dX2_goesRound_1 : decode cX2_goesRound 1 = .ok (.istore 4, 2) := by decide +kernel
theorem dX2_goesRound_3 : decode cX2_goesRound 3 = .ok (.iconst 0, 1) := by decide +kernel
theorem dX2_goesRound_4 : decode cX2_goesRound 4 = .ok (.istore 5, 2) := by decide +kernel
theorem dX2_goesRound_6 : decode cX2_goesRound 6 = .ok (.iload 5, 2) := by decide +kernel
theorem dX2_goesRound_8 : decode cX2_goesRound 8 = .ok (.iload_n 3, 1) := by decide +kernel
theorem dX2_goesRound_9 : decode cX2_goesRound 9 = .ok (.if_icmp .ge 50, 3) := by decide +kernel
theorem dX2_goesRound_12 : decode cX2_goesRound 12 = .ok (.aload_n 0, 1) := by decide +kernel
theorem dX2_goesRound_13 : decode cX2_goesRound 13 = .ok (.iload_n 1, 1) := by decide +kernel
theorem dX2_goesRound_14 : decode cX2_goesRound 14 = .ok (.iload 5, 2) := by decide +kernel
theorem dX2_goesRound_16 : decode cX2_goesRound 16 = .ok (.invokevirtual 78, 3) := by decide +kernel
theorem dX2_goesRound_19 : decode cX2_goesRound 19 = .ok (.aload_n 0, 1) := by decide +kernel
theorem dX2_goesRound_20 : decode cX2_goesRound 20 = .ok (.iload_n 2, 1) := by decide +kernel
theorem dX2_goesRound_21 : decode cX2_goesRound 21 = .ok (.iload 5, 2) := by decide +kernel
theorem dX2_goesRound_23 : decode cX2_goesRound 23 = .ok (.invokevirtual 78, 3) := by decide +kernel
theorem dX2_goesRound_26 : decode cX2_goesRound 26 = .ok (.if_icmp .ne 6, 3) := by decide +kernel
theorem dX2_goesRound_29 : decode cX2_goesRound 29 = .ok (.goto 24, 3) := by decide +kernel
theorem dX2_goesRound_32 : decode cX2_goesRound 32 = .ok (.iconst 1, 1) := by decide +kernel
theorem dX2_goesRound_33 : decode cX2_goesRound 33 = .ok (.istore 4, 2) := by decide +kernel
theorem dX2_goesRound_35 : decode cX2_goesRound 35 = .ok (.aload_n 0, 1) := by decide +kernel
theorem dX2_goesRound_36 : decode cX2_goesRound 36 = .ok (.iload_n 1, 1) := by decide +kernel
theorem dX2_goesRound_37 : decode cX2_goesRound 37 = .ok (.iload_n 3, 1) := by decide +kernel
theorem dX2_goesRound_38 : decode cX2_goesRound 38 = .ok (.aload_n 0, 1) := by decide +kernel
theorem dX2_goesRound_39 : decode cX2_goesRound 39 = .ok (.iload_n 2, 1) := by decide +kernel
theorem dX2_goesRound_40 : decode cX2_goesRound 40 = .ok (.iload 5, 2) := by decide +kernel
theorem dX2_goesRound_42 : decode cX2_goesRound 42 = .ok (.invokevirtual 78, 3) := by decide +kernel
theorem dX2_goesRound_45 : decode cX2_goesRound 45 = .ok (.invokevirtual 85, 3) := by decide +kernel
theorem dX2_goesRound_48 : decode cX2_goesRound 48 = .ok (.ifCond .ne 5, 3) := by decide +kernel
theorem dX2_goesRound_51 : decode cX2_goesRound 51 = .ok (.iconst 0, 1) := by decide +kernel
theorem dX2_goesRound_52 : decode cX2_goesRound 52 = .ok (.ireturn, 1) := by decide +kernel
theorem dX2_goesRound_53 : decode cX2_goesRound 53 = .ok (.iinc 5 1, 3) := by decide +kernel
theorem dX2_goesRound_56 : decode cX2_goesRound 56 = .ok (.goto (-50), 3) := by decide +kernel
theorem dX2_goesRound_59 : decode cX2_goesRound 59 = .ok (.iload 4, 2) := by decide +kernel
theorem dX2_goesRound_61 : decode cX2_goesRound 61 = .ok (.ireturn, 1) := by decide +kernel
theorem dX2_keeps_0 : decode cX2_keeps 0 = .ok (.iconst 0, 1) := by decide +kernel
theorem dX2_keeps_1 : decode cX2_keeps 1 = .ok (.istore 4, 2) := by decide +kernel
theorem dX2_keeps_3 : decode cX2_keeps 3 = .ok (.iload 4, 2) := by decide +kernel
theorem dX2_keeps_5 : decode cX2_keeps 5 = .ok (.iload_n 2, 1) := by decide +kernel
theorem dX2_keeps_6 : decode cX2_keeps 6 = .ok (.if_icmp .ge 22, 3) := by decide +kernel
theorem dX2_keeps_9 : decode cX2_keeps 9 = .ok (.aload_n 0, 1) := by decide +kernel
theorem dX2_keeps_10 : decode cX2_keeps 10 = .ok (.iload_n 1, 1) := by decide +kernel
theorem dX2_keeps_11 : decode cX2_keeps 11 = .ok (.iload 4, 2) := by decide +kernel
theorem dX2_keeps_13 : decode cX2_keeps 13 = .ok (.invokevirtual 78, 3) := by decide +kernel
theorem dX2_keeps_16 : decode cX2_keeps 16 = .ok (.iload_n 3, 1) := by decide +kernel
theorem dX2_keeps_17 : decode cX2_keeps 17 = .ok (.if_icmp .ne 5, 3) := by decide +kernel
theorem dX2_keeps_20 : decode cX2_keeps 20 = .ok (.iconst 1, 1) := by decide +kernel
theorem dX2_keeps_21 : decode cX2_keeps 21 = .ok (.ireturn, 1) := by decide +kernel
theorem dX2_keeps_22 : decode cX2_keeps 22 = .ok (.iinc 4 1, 3) := by decide +kernel
theorem dX2_keeps_25 : decode cX2_keeps 25 = .ok (.goto (-22), 3) := by decide +kernel
theorem dX2_keeps_28 : decode cX2_keeps 28 = .ok (.iconst 0, 1) := by decide +kernel
theorem dX2_keeps_29 : decode cX2_keeps 29 = .ok (.ireturn, 1) := by decide +kernel
theorem dX2_hasVersion_0 : decode cX2_hasVersion 0 = .ok (.iload_n 2, 1) := by decide +kernel
theorem dX2_hasVersion_1 : decode cX2_hasVersion 1 = .ok (.ifCond .eq 12, 3) := by decide +kernel
theorem dX2_hasVersion_4 : decode cX2_hasVersion 4 = .ok (.aload_n 0, 1) := by decide +kernel
theorem dX2_hasVersion_5 : decode cX2_hasVersion 5 = .ok (.iload_n 1, 1) := by decide +kernel
theorem dX2_hasVersion_6 : decode cX2_hasVersion 6 = .ok (.iload_n 2, 1) := by decide +kernel
theorem dX2_hasVersion_7 : decode cX2_hasVersion 7 = .ok (.invokevirtual 88, 3) := by decide +kernel
theorem dX2_hasVersion_10 : decode cX2_hasVersion 10 = .ok (.ifCond .eq 7, 3) := by decide +kernel
theorem dX2_hasVersion_13 : decode cX2_hasVersion 13 = .ok (.iconst 1, 1) := by decide +kernel
theorem dX2_hasVersion_14 : decode cX2_hasVersion 14 = .ok (.goto 4, 3) := by decide +kernel
theorem dX2_hasVersion_17 : decode cX2_hasVersion 17 = .ok (.iconst 0, 1) := by decide +kernel
theorem dX2_hasVersion_18 : decode cX2_hasVersion 18 = .ok (.ireturn, 1) := by decide +kernel
theorem dX2_worksInRegisters_0 : decode cX2_worksInRegisters 0 = .ok (.aload_n 0, 1) := by decide +kernel
theorem dX2_worksInRegisters_1 : decode cX2_worksInRegisters 1 = .ok (.getfield 31, 3) := by decide +kernel
theorem dX2_worksInRegisters_4 : decode cX2_worksInRegisters 4 = .ok (.iload_n 2, 1) := by decide +kernel
theorem dX2_worksInRegisters_5 : decode cX2_worksInRegisters 5 = .ok (.iaload, 1) := by decide +kernel
theorem dX2_worksInRegisters_6 : decode cX2_worksInRegisters 6 = .ok (.getstatic 91, 3) := by decide +kernel
theorem dX2_worksInRegisters_9 : decode cX2_worksInRegisters 9 = .ok (.iload_n 1, 1) := by decide +kernel
theorem dX2_worksInRegisters_10 : decode cX2_worksInRegisters 10 = .ok (.iaload, 1) := by decide +kernel
theorem dX2_worksInRegisters_11 : decode cX2_worksInRegisters 11 = .ok (.if_icmp .lt 32, 3) := by decide +kernel
theorem dX2_worksInRegisters_14 : decode cX2_worksInRegisters 14 = .ok (.aload_n 0, 1) := by decide +kernel
theorem dX2_worksInRegisters_15 : decode cX2_worksInRegisters 15 = .ok (.getfield 31, 3) := by decide +kernel
theorem dX2_worksInRegisters_18 : decode cX2_worksInRegisters 18 = .ok (.iload_n 2, 1) := by decide +kernel
theorem dX2_worksInRegisters_19 : decode cX2_worksInRegisters 19 = .ok (.iaload, 1) := by decide +kernel
theorem dX2_worksInRegisters_20 : decode cX2_worksInRegisters 20 = .ok (.getstatic 91, 3) := by decide +kernel
theorem dX2_worksInRegisters_23 : decode cX2_worksInRegisters 23 = .ok (.iload_n 1, 1) := by decide +kernel
theorem dX2_worksInRegisters_24 : decode cX2_worksInRegisters 24 = .ok (.iaload, 1) := by decide +kernel
theorem dX2_worksInRegisters_25 : decode cX2_worksInRegisters 25 = .ok (.isub, 1) := by decide +kernel
theorem dX2_worksInRegisters_26 : decode cX2_worksInRegisters 26 = .ok (.getstatic 94, 3) := by decide +kernel
theorem dX2_worksInRegisters_29 : decode cX2_worksInRegisters 29 = .ok (.iload_n 1, 1) := by decide +kernel
theorem dX2_worksInRegisters_30 : decode cX2_worksInRegisters 30 = .ok (.iaload, 1) := by decide +kernel
theorem dX2_worksInRegisters_31 : decode cX2_worksInRegisters 31 = .ok (.iadd, 1) := by decide +kernel
theorem dX2_worksInRegisters_32 : decode cX2_worksInRegisters 32 = .ok (.aload_n 0, 1) := by decide +kernel
theorem dX2_worksInRegisters_33 : decode cX2_worksInRegisters 33 = .ok (.getfield 9, 3) := by decide +kernel
theorem dX2_worksInRegisters_36 : decode cX2_worksInRegisters 36 = .ok (.if_icmp .gt 7, 3) := by decide +kernel
theorem dX2_worksInRegisters_39 : decode cX2_worksInRegisters 39 = .ok (.iconst 1, 1) := by decide +kernel
theorem dX2_worksInRegisters_40 : decode cX2_worksInRegisters 40 = .ok (.goto 4, 3) := by decide +kernel
theorem dX2_worksInRegisters_43 : decode cX2_worksInRegisters 43 = .ok (.iconst 0, 1) := by decide +kernel
theorem dX2_worksInRegisters_44 : decode cX2_worksInRegisters 44 = .ok (.ireturn, 1) := by decide +kernel
theorem dX2_isPlain_0 : decode cX2_isPlain 0 = .ok (.iload_n 2, 1) := by decide +kernel
theorem dX2_isPlain_1 : decode cX2_isPlain 1 = .ok (.ifCond .ne 22, 3) := by decide +kernel
theorem dX2_isPlain_4 : decode cX2_isPlain 4 = .ok (.iload_n 1, 1) := by decide +kernel
theorem dX2_isPlain_5 : decode cX2_isPlain 5 = .ok (.bipush 6, 2) := by decide +kernel
theorem dX2_isPlain_7 : decode cX2_isPlain 7 = .ok (.if_icmp .eq 16, 3) := by decide +kernel
theorem dX2_isPlain_10 : decode cX2_isPlain 10 = .ok (.aload_n 0, 1) := by decide +kernel
theorem dX2_isPlain_11 : decode cX2_isPlain 11 = .ok (.iload_n 1, 1) := by decide +kernel
theorem dX2_isPlain_12 : decode cX2_isPlain 12 = .ok (.iload_n 2, 1) := by decide +kernel
theorem dX2_isPlain_13 : decode cX2_isPlain 13 = .ok (.invokevirtual 88, 3) := by decide +kernel
theorem dX2_isPlain_16 : decode cX2_isPlain 16 = .ok (.ifCond .ne 7, 3) := by decide +kernel
theorem dX2_isPlain_19 : decode cX2_isPlain 19 = .ok (.iconst 1, 1) := by decide +kernel
theorem dX2_isPlain_20 : decode cX2_isPlain 20 = .ok (.goto 4, 3) := by decide +kernel
theorem dX2_isPlain_23 : decode cX2_isPlain 23 = .ok (.iconst 0, 1) := by decide +kernel
theorem dX2_isPlain_24 : decode cX2_isPlain 24 = .ok (.ireturn, 1) := by decide +kernel
theorem dX2_versionCost_0 : decode cX2_versionCost 0 = .ok (.aload_n 0, 1) := by decide +kernel
theorem dX2_versionCost_1 : decode cX2_versionCost 1 = .ok (.iload_n 1, 1) := by decide +kernel
theorem dX2_versionCost_2 : decode cX2_versionCost 2 = .ok (.iload_n 2, 1) := by decide +kernel
theorem dX2_versionCost_3 : decode cX2_versionCost 3 = .ok (.invokevirtual 97, 3) := by decide +kernel
theorem dX2_versionCost_6 : decode cX2_versionCost 6 = .ok (.ifCond .eq 25, 3) := by decide +kernel
theorem dX2_versionCost_9 : decode cX2_versionCost 9 = .ok (.getstatic 91, 3) := by decide +kernel
theorem dX2_versionCost_12 : decode cX2_versionCost 12 = .ok (.iload_n 1, 1) := by decide +kernel
theorem dX2_versionCost_13 : decode cX2_versionCost 13 = .ok (.iaload, 1) := by decide +kernel
theorem dX2_versionCost_14 : decode cX2_versionCost 14 = .ok (.aload_n 0, 1) := by decide +kernel
theorem dX2_versionCost_15 : decode cX2_versionCost 15 = .ok (.getfield 18, 3) := by decide +kernel
theorem dX2_versionCost_18 : decode cX2_versionCost 18 = .ok (.imul, 1) := by decide +kernel
theorem dX2_versionCost_19 : decode cX2_versionCost 19 = .ok (.getstatic 94, 3) := by decide +kernel
theorem dX2_versionCost_22 : decode cX2_versionCost 22 = .ok (.iload_n 1, 1) := by decide +kernel
theorem dX2_versionCost_23 : decode cX2_versionCost 23 = .ok (.iaload, 1) := by decide +kernel
theorem dX2_versionCost_24 : decode cX2_versionCost 24 = .ok (.aload_n 0, 1) := by decide +kernel
theorem dX2_versionCost_25 : decode cX2_versionCost 25 = .ok (.getfield 21, 3) := by decide +kernel
theorem dX2_versionCost_28 : decode cX2_versionCost 28 = .ok (.imul, 1) := by decide +kernel
theorem dX2_versionCost_29 : decode cX2_versionCost 29 = .ok (.iadd, 1) := by decide +kernel
theorem dX2_versionCost_30 : decode cX2_versionCost 30 = .ok (.ireturn, 1) := by decide +kernel
theorem dX2_versionCost_31 : decode cX2_versionCost 31 = .ok (.iload_n 1, 1) := by decide +kernel
theorem dX2_versionCost_32 : decode cX2_versionCost 32 = .ok (.iconst 4, 1) := by decide +kernel
theorem dX2_versionCost_33 : decode cX2_versionCost 33 = .ok (.if_icmp .eq 9, 3) := by decide +kernel
theorem dX2_versionCost_36 : decode cX2_versionCost 36 = .ok (.iload_n 1, 1) := by decide +kernel
theorem dX2_versionCost_37 : decode cX2_versionCost 37 = .ok (.bipush 7, 2) := by decide +kernel
theorem dX2_versionCost_39 : decode cX2_versionCost 39 = .ok (.if_icmp .ne 7, 3) := by decide +kernel
theorem dX2_versionCost_42 : decode cX2_versionCost 42 = .ok (.iconst 1, 1) := by decide +kernel
theorem dX2_versionCost_43 : decode cX2_versionCost 43 = .ok (.goto 4, 3) := by decide +kernel
theorem dX2_versionCost_46 : decode cX2_versionCost 46 = .ok (.iconst 0, 1) := by decide +kernel
theorem dX2_versionCost_47 : decode cX2_versionCost 47 = .ok (.istore_n 3, 1) := by decide +kernel
theorem dX2_versionCost_48 : decode cX2_versionCost 48 = .ok (.iload_n 3, 1) := by decide +kernel
theorem dX2_versionCost_49 : decode cX2_versionCost 49 = .ok (.ifCond .eq 10, 3) := by decide +kernel
theorem dX2_versionCost_52 : decode cX2_versionCost 52 = .ok (.aload_n 0, 1) := by decide +kernel
theorem dX2_versionCost_53 : decode cX2_versionCost 53 = .ok (.getfield 15, 3) := by decide +kernel
theorem dX2_versionCost_56 : decode cX2_versionCost 56 = .ok (.goto 4, 3) := by decide +kernel
theorem dX2_versionCost_59 : decode cX2_versionCost 59 = .ok (.iconst 0, 1) := by decide +kernel
theorem dX2_versionCost_60 : decode cX2_versionCost 60 = .ok (.ireturn, 1) := by decide +kernel
theorem dX2_stateAfter_0 : decode cX2_stateAfter 0 = .ok (.aload_n 0, 1) := by decide +kernel
theorem dX2_stateAfter_1 : decode cX2_stateAfter 1 = .ok (.iload_n 1, 1) := by decide +kernel
theorem dX2_stateAfter_2 : decode cX2_stateAfter 2 = .ok (.iload_n 2, 1) := by decide +kernel
theorem dX2_stateAfter_3 : decode cX2_stateAfter 3 = .ok (.invokevirtual 88, 3) := by decide +kernel
theorem dX2_stateAfter_6 : decode cX2_stateAfter 6 = .ok (.ifCond .ne 5, 3) := by decide +kernel
theorem dX2_stateAfter_9 : decode cX2_stateAfter 9 = .ok (.iconst 0, 1) := by decide +kernel
theorem dX2_stateAfter_10 : decode cX2_stateAfter 10 = .ok (.ireturn, 1) := by decide +kernel
theorem dX2_stateAfter_11 : decode cX2_stateAfter 11 = .ok (.aload_n 0, 1) := by decide +kernel
theorem dX2_stateAfter_12 : decode cX2_stateAfter 12 = .ok (.getfield 27, 3) := by decide +kernel
theorem dX2_stateAfter_15 : decode cX2_stateAfter 15 = .ok (.iload_n 2, 1) := by decide +kernel
theorem dX2_stateAfter_16 : decode cX2_stateAfter 16 = .ok (.iaload, 1) := by decide +kernel
theorem dX2_stateAfter_17 : decode cX2_stateAfter 17 = .ok (.istore_n 3, 1) := by decide +kernel
theorem dX2_stateAfter_18 : decode cX2_stateAfter 18 = .ok (.iload_n 1, 1) := by decide +kernel
theorem dX2_stateAfter_19 : decode cX2_stateAfter 19 = .ok (.tableswitch 93 4 8 #[79, 33, 93, 79, 60], 33) := by decide +kernel
theorem dX2_stateAfter_52 : decode cX2_stateAfter 52 = .ok (.aload_n 0, 1) := by decide +kernel
theorem dX2_stateAfter_53 : decode cX2_stateAfter 53 = .ok (.getfield 34, 3) := by decide +kernel
theorem dX2_stateAfter_56 : decode cX2_stateAfter 56 = .ok (.iload_n 3, 1) := by decide +kernel
theorem dX2_stateAfter_57 : decode cX2_stateAfter 57 = .ok (.iconst 4, 1) := by decide +kernel
theorem dX2_stateAfter_58 : decode cX2_stateAfter 58 = .ok (.ishr, 1) := by decide +kernel
theorem dX2_stateAfter_59 : decode cX2_stateAfter 59 = .ok (.aload_n 0, 1) := by decide +kernel
theorem dX2_stateAfter_60 : decode cX2_stateAfter 60 = .ok (.iload_n 2, 1) := by decide +kernel
theorem dX2_stateAfter_61 : decode cX2_stateAfter 61 = .ok (.iconst 0, 1) := by decide +kernel
theorem dX2_stateAfter_62 : decode cX2_stateAfter 62 = .ok (.invokevirtual 78, 3) := by decide +kernel
theorem dX2_stateAfter_65 : decode cX2_stateAfter 65 = .ok (.invokestatic 69, 3) := by decide +kernel
theorem dX2_stateAfter_68 : decode cX2_stateAfter 68 = .ok (.aload_n 0, 1) := by decide +kernel
theorem dX2_stateAfter_69 : decode cX2_stateAfter 69 = .ok (.iload_n 2, 1) := by decide +kernel
theorem dX2_stateAfter_70 : decode cX2_stateAfter 70 = .ok (.iconst 1, 1) := by decide +kernel
theorem dX2_stateAfter_71 : decode cX2_stateAfter 71 = .ok (.invokevirtual 78, 3) := by decide +kernel
theorem dX2_stateAfter_74 : decode cX2_stateAfter 74 = .ok (.invokestatic 69, 3) := by decide +kernel
theorem dX2_stateAfter_77 : decode cX2_stateAfter 77 = .ok (.iaload, 1) := by decide +kernel
theorem dX2_stateAfter_78 : decode cX2_stateAfter 78 = .ok (.ireturn, 1) := by decide +kernel
theorem dX2_stateAfter_79 : decode cX2_stateAfter 79 = .ok (.aload_n 0, 1) := by decide +kernel
theorem dX2_stateAfter_80 : decode cX2_stateAfter 80 = .ok (.getfield 34, 3) := by decide +kernel
theorem dX2_stateAfter_83 : decode cX2_stateAfter 83 = .ok (.iload_n 3, 1) := by decide +kernel
theorem dX2_stateAfter_84 : decode cX2_stateAfter 84 = .ok (.bipush 15, 2) := by decide +kernel
theorem dX2_stateAfter_86 : decode cX2_stateAfter 86 = .ok (.iand, 1) := by decide +kernel
theorem dX2_stateAfter_87 : decode cX2_stateAfter 87 = .ok (.aload_n 0, 1) := by decide +kernel
theorem dX2_stateAfter_88 : decode cX2_stateAfter 88 = .ok (.iload_n 2, 1) := by decide +kernel
theorem dX2_stateAfter_89 : decode cX2_stateAfter 89 = .ok (.iconst 2, 1) := by decide +kernel
theorem dX2_stateAfter_90 : decode cX2_stateAfter 90 = .ok (.invokevirtual 78, 3) := by decide +kernel
theorem dX2_stateAfter_93 : decode cX2_stateAfter 93 = .ok (.invokestatic 69, 3) := by decide +kernel
theorem dX2_stateAfter_96 : decode cX2_stateAfter 96 = .ok (.iaload, 1) := by decide +kernel
theorem dX2_stateAfter_97 : decode cX2_stateAfter 97 = .ok (.ireturn, 1) := by decide +kernel
theorem dX2_stateAfter_98 : decode cX2_stateAfter 98 = .ok (.aload_n 0, 1) := by decide +kernel
theorem dX2_stateAfter_99 : decode cX2_stateAfter 99 = .ok (.getfield 34, 3) := by decide +kernel
theorem dX2_stateAfter_102 : decode cX2_stateAfter 102 = .ok (.iload_n 3, 1) := by decide +kernel
theorem dX2_stateAfter_103 : decode cX2_stateAfter 103 = .ok (.iload_n 3, 1) := by decide +kernel
theorem dX2_stateAfter_104 : decode cX2_stateAfter 104 = .ok (.invokestatic 100, 3) := by decide +kernel
theorem dX2_stateAfter_107 : decode cX2_stateAfter 107 = .ok (.invokestatic 69, 3) := by decide +kernel
theorem dX2_stateAfter_110 : decode cX2_stateAfter 110 = .ok (.iaload, 1) := by decide +kernel
theorem dX2_stateAfter_111 : decode cX2_stateAfter 111 = .ok (.ireturn, 1) := by decide +kernel
theorem dX2_stateAfter_112 : decode cX2_stateAfter 112 = .ok (.iload_n 3, 1) := by decide +kernel
theorem dX2_stateAfter_113 : decode cX2_stateAfter 113 = .ok (.iconst 2, 1) := by decide +kernel
theorem dX2_stateAfter_114 : decode cX2_stateAfter 114 = .ok (.getstatic 91, 3) := by decide +kernel
theorem dX2_stateAfter_117 : decode cX2_stateAfter 117 = .ok (.iload_n 1, 1) := by decide +kernel
theorem dX2_stateAfter_118 : decode cX2_stateAfter 118 = .ok (.iaload, 1) := by decide +kernel
theorem dX2_stateAfter_119 : decode cX2_stateAfter 119 = .ok (.imul, 1) := by decide +kernel
theorem dX2_stateAfter_120 : decode cX2_stateAfter 120 = .ok (.ishr, 1) := by decide +kernel
theorem dX2_stateAfter_121 : decode cX2_stateAfter 121 = .ok (.istore 4, 2) := by decide +kernel
theorem dX2_stateAfter_123 : decode cX2_stateAfter 123 = .ok (.getstatic 94, 3) := by decide +kernel
theorem dX2_stateAfter_126 : decode cX2_stateAfter 126 = .ok (.iload_n 1, 1) := by decide +kernel
theorem dX2_stateAfter_127 : decode cX2_stateAfter 127 = .ok (.iaload, 1) := by decide +kernel
theorem dX2_stateAfter_128 : decode cX2_stateAfter 128 = .ok (.ifCond .ne 13, 3) := by decide +kernel
theorem dX2_stateAfter_131 : decode cX2_stateAfter 131 = .ok (.aload_n 0, 1) := by decide +kernel
theorem dX2_stateAfter_132 : decode cX2_stateAfter 132 = .ok (.getfield 34, 3) := by decide +kernel
theorem dX2_stateAfter_135 : decode cX2_stateAfter 135 = .ok (.iload 4, 2) := by decide +kernel
theorem dX2_stateAfter_137 : decode cX2_stateAfter 137 = .ok (.iaload, 1) := by decide +kernel
theorem dX2_stateAfter_138 : decode cX2_stateAfter 138 = .ok (.goto 18, 3) := by decide +kernel
theorem dX2_stateAfter_141 : decode cX2_stateAfter 141 = .ok (.aload_n 0, 1) := by decide +kernel
theorem dX2_stateAfter_142 : decode cX2_stateAfter 142 = .ok (.getfield 34, 3) := by decide +kernel
theorem dX2_stateAfter_145 : decode cX2_stateAfter 145 = .ok (.iload 4, 2) := by decide +kernel
theorem dX2_stateAfter_147 : decode cX2_stateAfter 147 = .ok (.iload 4, 2) := by decide +kernel
theorem dX2_stateAfter_149 : decode cX2_stateAfter 149 = .ok (.invokestatic 100, 3) := by decide +kernel
theorem dX2_stateAfter_152 : decode cX2_stateAfter 152 = .ok (.invokestatic 69, 3) := by decide +kernel
theorem dX2_stateAfter_155 : decode cX2_stateAfter 155 = .ok (.iaload, 1) := by decide +kernel
theorem dX2_stateAfter_156 : decode cX2_stateAfter 156 = .ok (.ireturn, 1) := by decide +kernel
theorem dX2_smallestFree_0 : decode cX2_smallestFree 0 = .ok (.iconst 0, 1) := by decide +kernel
theorem dX2_smallestFree_1 : decode cX2_smallestFree 1 = .ok (.istore_n 1, 1) := by decide +kernel
theorem dX2_smallestFree_2 : decode cX2_smallestFree 2 = .ok (.iload_n 1, 1) := by decide +kernel
theorem dX2_smallestFree_3 : decode cX2_smallestFree 3 = .ok (.iconst 2, 1) := by decide +kernel
theorem dX2_smallestFree_4 : decode cX2_smallestFree 4 = .ok (.if_icmp .ge 19, 3) := by decide +kernel
theorem dX2_smallestFree_7 : decode cX2_smallestFree 7 = .ok (.iload_n 0, 1) := by decide +kernel
theorem dX2_smallestFree_8 : decode cX2_smallestFree 8 = .ok (.iload_n 1, 1) := by decide +kernel
theorem dX2_smallestFree_9 : decode cX2_smallestFree 9 = .ok (.invokestatic 65, 3) := by decide +kernel
theorem dX2_smallestFree_12 : decode cX2_smallestFree 12 = .ok (.ifCond .ne 5, 3) := by decide +kernel
theorem dX2_smallestFree_15 : decode cX2_smallestFree 15 = .ok (.iload_n 1, 1) := by decide +kernel
theorem dX2_smallestFree_16 : decode cX2_smallestFree 16 = .ok (.ireturn, 1) := by decide +kernel
theorem dX2_smallestFree_17 : decode cX2_smallestFree 17 = .ok (.iinc 1 1, 3) := by decide +kernel
theorem dX2_smallestFree_20 : decode cX2_smallestFree 20 = .ok (.goto (-18), 3) := by decide +kernel
theorem dX2_smallestFree_23 : decode cX2_smallestFree 23 = .ok (.iconst 2, 1) := by decide +kernel
theorem dX2_smallestFree_24 : decode cX2_smallestFree 24 = .ok (.ireturn, 1) := by decide +kernel
theorem dX3_init_0 : decode cX3_init 0 = .ok (.aload_n 0, 1) := by decide +kernel
theorem dX3_init_1 : decode cX3_init 1 = .ok (.invokespecial 3, 3) := by decide +kernel
theorem dX3_init_4 : decode cX3_init 4 = .ok (.aload_n 0, 1) := by decide +kernel
theorem dX3_init_5 : decode cX3_init 5 = .ok (.bipush 24, 2) := by decide +kernel
theorem dX3_init_7 : decode cX3_init 7 = .ok (.newarray .int, 2) := by decide +kernel
theorem dX3_init_9 : decode cX3_init 9 = .ok (.putfield 9, 3) := by decide +kernel
theorem dX3_init_12 : decode cX3_init 12 = .ok (.aload_n 0, 1) := by decide +kernel
theorem dX3_init_13 : decode cX3_init 13 = .ok (.bipush 24, 2) := by decide +kernel
theorem dX3_init_15 : decode cX3_init 15 = .ok (.newarray .int, 2) := by decide +kernel
theorem dX3_init_17 : decode cX3_init 17 = .ok (.putfield 15, 3) := by decide +kernel
theorem dX3_init_20 : decode cX3_init 20 = .ok (.aload_n 0, 1) := by decide +kernel
theorem dX3_init_21 : decode cX3_init 21 = .ok (.bipush 24, 2) := by decide +kernel
theorem dX3_init_23 : decode cX3_init 23 = .ok (.newarray .int, 2) := by decide +kernel
theorem dX3_init_25 : decode cX3_init 25 = .ok (.putfield 18, 3) := by decide +kernel
theorem dX3_init_28 : decode cX3_init 28 = .ok (.aload_n 0, 1) := by decide +kernel
theorem dX3_init_29 : decode cX3_init 29 = .ok (.bipush 24, 2) := by decide +kernel
theorem dX3_init_31 : decode cX3_init 31 = .ok (.newarray .int, 2) := by decide +kernel
theorem dX3_init_33 : decode cX3_init 33 = .ok (.putfield 21, 3) := by decide +kernel
theorem dX3_init_36 : decode cX3_init 36 = .ok (.aload_n 0, 1) := by decide +kernel
theorem dX3_init_37 : decode cX3_init 37 = .ok (.bipush 24, 2) := by decide +kernel
theorem dX3_init_39 : decode cX3_init 39 = .ok (.newarray .boolean, 2) := by decide +kernel
theorem dX3_init_41 : decode cX3_init 41 = .ok (.putfield 24, 3) := by decide +kernel
theorem dX3_init_44 : decode cX3_init 44 = .ok (.aload_n 0, 1) := by decide +kernel
theorem dX3_init_45 : decode cX3_init 45 = .ok (.bipush 24, 2) := by decide +kernel
theorem dX3_init_47 : decode cX3_init 47 = .ok (.newarray .boolean, 2) := by decide +kernel
theorem dX3_init_49 : decode cX3_init 49 = .ok (.putfield 28, 3) := by decide +kernel
theorem dX3_init_52 : decode cX3_init 52 = .ok (.aload_n 0, 1) := by decide +kernel
theorem dX3_init_53 : decode cX3_init 53 = .ok (.iconst 0, 1) := by decide +kernel
theorem dX3_init_54 : decode cX3_init 54 = .ok (.putfield 31, 3) := by decide +kernel
theorem dX3_init_57 : decode cX3_init 57 = .ok (.aload_n 0, 1) := by decide +kernel
theorem dX3_init_58 : decode cX3_init 58 = .ok (.iconst 0, 1) := by decide +kernel
theorem dX3_init_59 : decode cX3_init 59 = .ok (.putfield 35, 3) := by decide +kernel
theorem dX3_init_62 : decode cX3_init 62 = .ok (.aload_n 0, 1) := by decide +kernel
theorem dX3_init_63 : decode cX3_init 63 = .ok (.iconst 0, 1) := by decide +kernel
theorem dX3_init_64 : decode cX3_init 64 = .ok (.putfield 38, 3) := by decide +kernel
theorem dX3_init_67 : decode cX3_init 67 = .ok (.return_, 1) := by decide +kernel
theorem dX3_parse_0 : decode cX3_parse 0 = .ok (.aload_n 2, 1) := by decide +kernel
theorem dX3_parse_1 : decode cX3_parse 1 = .ok (.iconst 0, 1) := by decide +kernel
theorem dX3_parse_2 : decode cX3_parse 2 = .ok (.putfield 41, 3) := by decide +kernel
theorem dX3_parse_5 : decode cX3_parse 5 = .ok (.aload_n 0, 1) := by decide +kernel
theorem dX3_parse_6 : decode cX3_parse 6 = .ok (.iconst 0, 1) := by decide +kernel
theorem dX3_parse_7 : decode cX3_parse 7 = .ok (.putfield 31, 3) := by decide +kernel
theorem dX3_parse_10 : decode cX3_parse 10 = .ok (.iconst 0, 1) := by decide +kernel
theorem dX3_parse_11 : decode cX3_parse 11 = .ok (.istore_n 3, 1) := by decide +kernel
theorem dX3_parse_12 : decode cX3_parse 12 = .ok (.iconst 0, 1) := by decide +kernel
theorem dX3_parse_13 : decode cX3_parse 13 = .ok (.istore 4, 2) := by decide +kernel
theorem dX3_parse_15 : decode cX3_parse 15 = .ok (.iload 4, 2) := by decide +kernel
theorem dX3_parse_17 : decode cX3_parse 17 = .ok (.bipush 24, 2) := by decide +kernel
theorem dX3_parse_19 : decode cX3_parse 19 = .ok (.if_icmp .gt 60, 3) := by decide +kernel
theorem dX3_parse_22 : decode cX3_parse 22 = .ok (.iload_n 3, 1) := by decide +kernel
theorem dX3_parse_23 : decode cX3_parse 23 = .ok (.aload_n 1, 1) := by decide +kernel
theorem dX3_parse_24 : decode cX3_parse 24 = .ok (.getfield 46, 3) := by decide +kernel
theorem dX3_parse_27 : decode cX3_parse 27 = .ok (.if_icmp .ge 52, 3) := by decide +kernel
theorem dX3_parse_30 : decode cX3_parse 30 = .ok (.aload_n 0, 1) := by decide +kernel
theorem dX3_parse_31 : decode cX3_parse 31 = .ok (.aload_n 1, 1) := by decide +kernel
theorem dX3_parse_32 : decode cX3_parse 32 = .ok (.iload_n 3, 1) := by decide +kernel
theorem dX3_parse_33 : decode cX3_parse 33 = .ok (.invokevirtual 49, 3) := by decide +kernel
theorem dX3_parse_36 : decode cX3_parse 36 = .ok (.istore 5, 2) := by decide +kernel
theorem dX3_parse_38 : decode cX3_parse 38 = .ok (.iload 5, 2) := by decide +kernel
theorem dX3_parse_40 : decode cX3_parse 40 = .ok (.bipush (-4), 2) := by decide +kernel
theorem dX3_parse_42 : decode cX3_parse 42 = .ok (.if_icmp .eq 11, 3) := by decide +kernel
theorem dX3_parse_45 : decode cX3_parse 45 = .ok (.iload_n 3, 1) := by decide +kernel
theorem dX3_parse_46 : decode cX3_parse 46 = .ok (.iload 5, 2) := by decide +kernel
theorem dX3_parse_48 : decode cX3_parse 48 = .ok (.aload_n 2, 1) := by decide +kernel
theorem dX3_parse_49 : decode cX3_parse 49 = .ok (.invokestatic 53, 3) := by decide +kernel
theorem dX3_parse_52 : decode cX3_parse 52 = .ok (.ireturn, 1) := by decide +kernel
theorem dX3_parse_53 : decode cX3_parse 53 = .ok (.iload_n 3, 1) := by decide +kernel
theorem dX3_parse_54 : decode cX3_parse 54 = .ok (.iconst 1, 1) := by decide +kernel
theorem dX3_parse_55 : decode cX3_parse 55 = .ok (.getstatic 57, 3) := by decide +kernel
theorem dX3_parse_58 : decode cX3_parse 58 = .ok (.aload_n 0, 1) := by decide +kernel
theorem dX3_parse_59 : decode cX3_parse 59 = .ok (.getfield 9, 3) := by decide +kernel
theorem dX3_parse_62 : decode cX3_parse 62 = .ok (.aload_n 0, 1) := by decide +kernel
theorem dX3_parse_63 : decode cX3_parse 63 = .ok (.getfield 31, 3) := by decide +kernel
theorem dX3_parse_66 : decode cX3_parse 66 = .ok (.iconst 1, 1) := by decide +kernel
theorem dX3_parse_67 : decode cX3_parse 67 = .ok (.isub, 1) := by decide +kernel
theorem dX3_parse_68 : decode cX3_parse 68 = .ok (.iaload, 1) := by decide +kernel
theorem dX3_parse_69 : decode cX3_parse 69 = .ok (.iaload, 1) := by decide +kernel
theorem dX3_parse_70 : decode cX3_parse 70 = .ok (.iadd, 1) := by decide +kernel
theorem dX3_parse_71 : decode cX3_parse 71 = .ok (.iadd, 1) := by decide +kernel
theorem dX3_parse_72 : decode cX3_parse 72 = .ok (.istore_n 3, 1) := by decide +kernel
theorem dX3_parse_73 : decode cX3_parse 73 = .ok (.iinc 4 1, 3) := by decide +kernel
theorem dX3_parse_76 : decode cX3_parse 76 = .ok (.goto (-61), 3) := by decide +kernel
theorem dX3_parse_79 : decode cX3_parse 79 = .ok (.iconst 0, 1) := by decide +kernel
theorem dX3_parse_80 : decode cX3_parse 80 = .ok (.istore 4, 2) := by decide +kernel
theorem dX3_parse_82 : decode cX3_parse 82 = .ok (.iload 4, 2) := by decide +kernel
theorem dX3_parse_84 : decode cX3_parse 84 = .ok (.aload_n 0, 1) := by decide +kernel
theorem dX3_parse_85 : decode cX3_parse 85 = .ok (.getfield 31, 3) := by decide +kernel
theorem dX3_parse_88 : decode cX3_parse 88 = .ok (.if_icmp .ge 46, 3) := by decide +kernel
theorem dX3_parse_91 : decode cX3_parse 91 = .ok (.aload_n 0, 1) := by decide +kernel
theorem dX3_parse_92 : decode cX3_parse 92 = .ok (.iload 4, 2) := by decide +kernel
theorem dX3_parse_94 : decode cX3_parse 94 = .ok (.invokevirtual 60, 3) := by decide +kernel
theorem dX3_parse_97 : decode cX3_parse 97 = .ok (.ifCond .eq 31, 3) := by decide +kernel
theorem dX3_parse_100 : decode cX3_parse 100 = .ok (.aload_n 0, 1) := by decide +kernel
theorem dX3_parse_101 : decode cX3_parse 101 = .ok (.getfield 15, 3) := by decide +kernel
theorem dX3_parse_104 : decode cX3_parse 104 = .ok (.iload 4, 2) := by decide +kernel
theorem dX3_parse_106 : decode cX3_parse 106 = .ok (.iaload, 1) := by decide +kernel
theorem dX3_parse_107 : decode cX3_parse 107 = .ok (.aload_n 0, 1) := by decide +kernel
theorem dX3_parse_108 : decode cX3_parse 108 = .ok (.getfield 31, 3) := by decide +kernel
theorem dX3_parse_111 : decode cX3_parse 111 = .ok (.if_icmp .lt 17, 3) := by decide +kernel
theorem dX3_parse_114 : decode cX3_parse 114 = .ok (.aload_n 0, 1) := by decide +kernel
theorem dX3_parse_115 : decode cX3_parse 115 = .ok (.getfield 18, 3) := by decide +kernel
theorem dX3_parse_118 : decode cX3_parse 118 = .ok (.iload 4, 2) := by decide +kernel
theorem dX3_parse_120 : decode cX3_parse 120 = .ok (.iaload, 1) := by decide +kernel
theorem dX3_parse_121 : decode cX3_parse 121 = .ok (.bipush 14, 2) := by decide +kernel
theorem dX3_parse_123 : decode cX3_parse 123 = .ok (.aload_n 2, 1) := by decide +kernel
theorem dX3_parse_124 : decode cX3_parse 124 = .ok (.invokestatic 53, 3) := by decide +kernel
theorem dX3_parse_127 : decode cX3_parse 127 = .ok (.ireturn, 1) := by decide +kernel
theorem dX3_parse_128 : decode cX3_parse 128 = .ok (.iinc 4 1, 3) := by decide +kernel
theorem dX3_parse_131 : decode cX3_parse 131 = .ok (.goto (-49), 3) := by decide +kernel
theorem dX3_parse_134 : decode cX3_parse 134 = .ok (.bipush (-4), 2) := by decide +kernel
theorem dX3_parse_136 : decode cX3_parse 136 = .ok (.ireturn, 1) := by decide +kernel
theorem dX3_faulty_0 : decode cX3_faulty 0 = .ok (.aload_n 2, 1) := by decide +kernel
theorem dX3_faulty_1 : decode cX3_faulty 1 = .ok (.iconst 1, 1) := by decide +kernel
theorem dX3_faulty_2 : decode cX3_faulty 2 = .ok (.invokevirtual 64, 3) := by decide +kernel
theorem dX3_faulty_5 : decode cX3_faulty 5 = .ok (.aload_n 2, 1) := by decide +kernel
theorem dX3_faulty_6 : decode cX3_faulty 6 = .ok (.iload_n 1, 1) := by decide +kernel
theorem dX3_faulty_7 : decode cX3_faulty 7 = .ok (.invokevirtual 64, 3) := by decide +kernel
theorem dX3_faulty_10 : decode cX3_faulty 10 = .ok (.iload_n 0, 1) := by decide +kernel
theorem dX3_faulty_11 : decode cX3_faulty 11 = .ok (.ireturn, 1) := by decide +kernel
theorem dX3_parseInstruction_0 : decode cX3_parseInstruction 0 = .ok (.aload_n 0, 1) := by decide +kernel
theorem dX3_parseInstruction_1 : decode cX3_parseInstruction 1 = .ok (.getfield 31, 3) := by decide +kernel
theorem dX3_parseInstruction_4 : decode cX3_parseInstruction 4 = .ok (.bipush 24, 2) := by decide +kernel
theorem dX3_parseInstruction_6 : decode cX3_parseInstruction 6 = .ok (.if_icmp .ne 6, 3) := by decide +kernel
theorem dX3_parseInstruction_9 : decode cX3_parseInstruction 9 = .ok (.bipush 13, 2) := by decide +kernel
theorem dX3_parseInstruction_11 : decode cX3_parseInstruction 11 = .ok (.ireturn, 1) := by decide +kernel
theorem dX3_parseInstruction_12 : decode cX3_parseInstruction 12 = .ok (.ldc 68, 2) := by decide +kernel
theorem dX3_parseInstruction_14 : decode cX3_parseInstruction 14 = .ok (.aload_n 1, 1) := by decide +kernel
theorem dX3_parseInstruction_15 : decode cX3_parseInstruction 15 = .ok (.iload_n 2, 1) := by decide +kernel
theorem dX3_parseInstruction_16 : decode cX3_parseInstruction 16 = .ok (.invokevirtual 70, 3) := by decide +kernel
theorem dX3_parseInstruction_19 : decode cX3_parseInstruction 19 = .ok (.i2c, 1) := by decide +kernel
theorem dX3_parseInstruction_20 : decode cX3_parseInstruction 20 = .ok (.invokevirtual 74, 3) := by decide +kernel
theorem dX3_parseInstruction_23 : decode cX3_parseInstruction 23 = .ok (.istore_n 3, 1) := by decide +kernel
theorem dX3_parseInstruction_24 : decode cX3_parseInstruction 24 = .ok (.iload_n 3, 1) := by decide +kernel
theorem dX3_parseInstruction_25 : decode cX3_parseInstruction 25 = .ok (.ifCond .ge 6, 3) := by decide +kernel
theorem dX3_parseInstruction_28 : decode cX3_parseInstruction 28 = .ok (.bipush 10, 2) := by decide +kernel
theorem dX3_parseInstruction_30 : decode cX3_parseInstruction 30 = .ok (.ireturn, 1) := by decide +kernel
theorem dX3_parseInstruction_31 : decode cX3_parseInstruction 31 = .ok (.iconst 0, 1) := by decide +kernel
theorem dX3_parseInstruction_32 : decode cX3_parseInstruction 32 = .ok (.istore 4, 2) := by decide +kernel
theorem dX3_parseInstruction_34 : decode cX3_parseInstruction 34 = .ok (.iconst 1, 1) := by decide +kernel
theorem dX3_parseInstruction_35 : decode cX3_parseInstruction 35 = .ok (.istore 5, 2) := by decide +kernel
theorem dX3_parseInstruction_37 : decode cX3_parseInstruction 37 = .ok (.iload 5, 2) := by decide +kernel
theorem dX3_parseInstruction_39 : decode cX3_parseInstruction 39 = .ok (.getstatic 57, 3) := by decide +kernel
theorem dX3_parseInstruction_42 : decode cX3_parseInstruction 42 = .ok (.iload_n 3, 1) := by decide +kernel
theorem dX3_parseInstruction_43 : decode cX3_parseInstruction 43 = .ok (.iaload, 1) := by decide +kernel
theorem dX3_parseInstruction_44 : decode cX3_parseInstruction 44 = .ok (.if_icmp .gt 42, 3) := by decide +kernel
theorem dX3_parseInstruction_47 : decode cX3_parseInstruction 47 = .ok (.aload_n 1, 1) := by decide +kernel
theorem dX3_parseInstruction_48 : decode cX3_parseInstruction 48 = .ok (.iload_n 2, 1) := by decide +kernel
theorem dX3_parseInstruction_49 : decode cX3_parseInstruction 49 = .ok (.iload 5, 2) := by decide +kernel
theorem dX3_parseInstruction_51 : decode cX3_parseInstruction 51 = .ok (.iadd, 1) := by decide +kernel
theorem dX3_parseInstruction_52 : decode cX3_parseInstruction 52 = .ok (.invokevirtual 79, 3) := by decide +kernel
theorem dX3_parseInstruction_55 : decode cX3_parseInstruction 55 = .ok (.ifCond .ne 6, 3) := by decide +kernel
theorem dX3_parseInstruction_58 : decode cX3_parseInstruction 58 = .ok (.bipush 11, 2) := by decide +kernel
theorem dX3_parseInstruction_60 : decode cX3_parseInstruction 60 = .ok (.ireturn, 1) := by decide +kernel
theorem dX3_parseInstruction_61 : decode cX3_parseInstruction 61 = .ok (.bipush 10, 2) := by decide +kernel
theorem dX3_parseInstruction_63 : decode cX3_parseInstruction 63 = .ok (.iload 4, 2) := by decide +kernel
theorem dX3_parseInstruction_65 : decode cX3_parseInstruction 65 = .ok (.imul, 1) := by decide +kernel
theorem dX3_parseInstruction_66 : decode cX3_parseInstruction 66 = .ok (.aload_n 1, 1) := by decide +kernel
theorem dX3_parseInstruction_67 : decode cX3_parseInstruction 67 = .ok (.iload_n 2, 1) := by decide +kernel
theorem dX3_parseInstruction_68 : decode cX3_parseInstruction 68 = .ok (.iload 5, 2) := by decide +kernel
theorem dX3_parseInstruction_70 : decode cX3_parseInstruction 70 = .ok (.iadd, 1) := by decide +kernel
theorem dX3_parseInstruction_71 : decode cX3_parseInstruction 71 = .ok (.invokevirtual 70, 3) := by decide +kernel
theorem dX3_parseInstruction_74 : decode cX3_parseInstruction 74 = .ok (.iadd, 1) := by decide +kernel
theorem dX3_parseInstruction_75 : decode cX3_parseInstruction 75 = .ok (.bipush 48, 2) := by decide +kernel
theorem dX3_parseInstruction_77 : decode cX3_parseInstruction 77 = .ok (.isub, 1) := by decide +kernel
theorem dX3_parseInstruction_78 : decode cX3_parseInstruction 78 = .ok (.istore 4, 2) := by decide +kernel
theorem dX3_parseInstruction_80 : decode cX3_parseInstruction 80 = .ok (.iinc 5 1, 3) := by decide +kernel
theorem dX3_parseInstruction_83 : decode cX3_parseInstruction 83 = .ok (.goto (-46), 3) := by decide +kernel
theorem dX3_parseInstruction_86 : decode cX3_parseInstruction 86 = .ok (.iload_n 3, 1) := by decide +kernel
theorem dX3_parseInstruction_87 : decode cX3_parseInstruction 87 = .ok (.bipush 9, 2) := by decide +kernel
theorem dX3_parseInstruction_89 : decode cX3_parseInstruction 89 = .ok (.if_icmp .eq 9, 3) := by decide +kernel
theorem dX3_parseInstruction_92 : decode cX3_parseInstruction 92 = .ok (.iload_n 3, 1) := by decide +kernel
theorem dX3_parseInstruction_93 : decode cX3_parseInstruction 93 = .ok (.bipush 10, 2) := by decide +kernel
theorem dX3_parseInstruction_95 : decode cX3_parseInstruction 95 = .ok (.if_icmp .ne 12, 3) := by decide +kernel
theorem dX3_parseInstruction_98 : decode cX3_parseInstruction 98 = .ok (.iload 4, 2) := by decide +kernel
theorem dX3_parseInstruction_100 : decode cX3_parseInstruction 100 = .ok (.iconst 4, 1) := by decide +kernel
theorem dX3_parseInstruction_101 : decode cX3_parseInstruction 101 = .ok (.if_icmp .lt 6, 3) := by decide +kernel
theorem dX3_parseInstruction_104 : decode cX3_parseInstruction 104 = .ok (.bipush 12, 2) := by decide +kernel
theorem dX3_parseInstruction_106 : decode cX3_parseInstruction 106 = .ok (.ireturn, 1) := by decide +kernel
theorem dX3_parseInstruction_107 : decode cX3_parseInstruction 107 = .ok (.aload_n 0, 1) := by decide +kernel
theorem dX3_parseInstruction_108 : decode cX3_parseInstruction 108 = .ok (.getfield 9, 3) := by decide +kernel
theorem dX3_parseInstruction_111 : decode cX3_parseInstruction 111 = .ok (.aload_n 0, 1) := by decide +kernel
theorem dX3_parseInstruction_112 : decode cX3_parseInstruction 112 = .ok (.getfield 31, 3) := by decide +kernel
theorem dX3_parseInstruction_115 : decode cX3_parseInstruction 115 = .ok (.iload_n 3, 1) := by decide +kernel
theorem dX3_parseInstruction_116 : decode cX3_parseInstruction 116 = .ok (.iastore, 1) := by decide +kernel
theorem dX3_parseInstruction_117 : decode cX3_parseInstruction 117 = .ok (.aload_n 0, 1) := by decide +kernel
theorem dX3_parseInstruction_118 : decode cX3_parseInstruction 118 = .ok (.getfield 15, 3) := by decide +kernel
theorem dX3_parseInstruction_121 : decode cX3_parseInstruction 121 = .ok (.aload_n 0, 1) := by decide +kernel
theorem dX3_parseInstruction_122 : decode cX3_parseInstruction 122 = .ok (.getfield 31, 3) := by decide +kernel
theorem dX3_parseInstruction_125 : decode cX3_parseInstruction 125 = .ok (.iload 4, 2) := by decide +kernel
theorem dX3_parseInstruction_127 : decode cX3_parseInstruction 127 = .ok (.iastore, 1) := by decide +kernel
theorem dX3_parseInstruction_128 : decode cX3_parseInstruction 128 = .ok (.aload_n 0, 1) := by decide +kernel
theorem dX3_parseInstruction_129 : decode cX3_parseInstruction 129 = .ok (.getfield 18, 3) := by decide +kernel
theorem dX3_parseInstruction_132 : decode cX3_parseInstruction 132 = .ok (.aload_n 0, 1) := by decide +kernel
theorem dX3_parseInstruction_133 : decode cX3_parseInstruction 133 = .ok (.getfield 31, 3) := by decide +kernel
theorem dX3_parseInstruction_136 : decode cX3_parseInstruction 136 = .ok (.iload_n 2, 1) := by decide +kernel
theorem dX3_parseInstruction_137 : decode cX3_parseInstruction 137 = .ok (.iastore, 1) := by decide +kernel
theorem dX3_parseInstruction_138 : decode cX3_parseInstruction 138 = .ok (.aload_n 0, 1) := by decide +kernel
theorem dX3_parseInstruction_139 : decode cX3_parseInstruction 139 = .ok (.dup, 1) := by decide +kernel
theorem dX3_parseInstruction_140 : decode cX3_parseInstruction 140 = .ok (.getfield 31, 3) := by decide +kernel
theorem dX3_parseInstruction_143 : decode cX3_parseInstruction 143 = .ok (.iconst 1, 1) := by decide +kernel
theorem dX3_parseInstruction_144 : decode cX3_parseInstruction 144 = .ok (.iadd, 1) := by decide +kernel
theorem dX3_parseInstruction_145 : decode cX3_parseInstruction 145 = .ok (.putfield 31, 3) := by decide +kernel
theorem dX3_parseInstruction_148 : decode cX3_parseInstruction 148 = .ok (.bipush (-4), 2) := by decide +kernel
theorem dX3_parseInstruction_150 : decode cX3_parseInstruction 150 = .ok (.ireturn, 1) := by decide +kernel
theorem dX3_findDepths_0 : decode cX3_findDepths 0 = .ok (.iconst 0, 1) := by decide +kernel
theorem dX3_findDepths_1 : decode cX3_findDepths 1 = .ok (.istore_n 2, 1) := by decide +kernel
theorem dX3_findDepths_2 : decode cX3_findDepths 2 = .ok (.iload_n 2, 1) := by decide +kernel
theorem dX3_findDepths_3 : decode cX3_findDepths 3 = .ok (.bipush 24, 2) := by decide +kernel
theorem dX3_findDepths_5 : decode cX3_findDepths 5 = .ok (.if_icmp .ge 31, 3) := by decide +kernel
theorem dX3_findDepths_8 : decode cX3_findDepths 8 = .ok (.aload_n 0, 1) := by decide +kernel
theorem dX3_findDepths_9 : decode cX3_findDepths 9 = .ok (.getfield 21, 3) := by decide +kernel
theorem dX3_findDepths_12 : decode cX3_findDepths 12 = .ok (.iload_n 2, 1) := by decide +kernel
theorem dX3_findDepths_13 : decode cX3_findDepths 13 = .ok (.bipush (-4), 2) := by decide +kernel
theorem dX3_findDepths_15 : decode cX3_findDepths 15 = .ok (.iastore, 1) := by decide +kernel
theorem dX3_findDepths_16 : decode cX3_findDepths 16 = .ok (.aload_n 0, 1) := by decide +kernel
theorem dX3_findDepths_17 : decode cX3_findDepths 17 = .ok (.getfield 24, 3) := by decide +kernel
theorem dX3_findDepths_20 : decode cX3_findDepths 20 = .ok (.iload_n 2, 1) := by decide +kernel
theorem dX3_findDepths_21 : decode cX3_findDepths 21 = .ok (.iconst 0, 1) := by decide +kernel
theorem dX3_findDepths_22 : decode cX3_findDepths 22 = .ok (.bastore, 1) := by decide +kernel
theorem dX3_findDepths_23 : decode cX3_findDepths 23 = .ok (.aload_n 0, 1) := by decide +kernel
theorem dX3_findDepths_24 : decode cX3_findDepths 24 = .ok (.getfield 28, 3) := by decide +kernel
theorem dX3_findDepths_27 : decode cX3_findDepths 27 = .ok (.iload_n 2, 1) := by decide +kernel
theorem dX3_findDepths_28 : decode cX3_findDepths 28 = .ok (.iconst 0, 1) := by decide +kernel
theorem dX3_findDepths_29 : decode cX3_findDepths 29 = .ok (.bastore, 1) := by decide +kernel
theorem dX3_findDepths_30 : decode cX3_findDepths 30 = .ok (.iinc 2 1, 3) := by decide +kernel
theorem dX3_findDepths_33 : decode cX3_findDepths 33 = .ok (.goto (-31), 3) := by decide +kernel
theorem dX3_findDepths_36 : decode cX3_findDepths 36 = .ok (.aload_n 0, 1) := by decide +kernel
theorem dX3_findDepths_37 : decode cX3_findDepths 37 = .ok (.iconst 0, 1) := by decide +kernel
theorem dX3_findDepths_38 : decode cX3_findDepths 38 = .ok (.putfield 35, 3) := by decide +kernel
theorem dX3_findDepths_41 : decode cX3_findDepths 41 = .ok (.aload_n 0, 1) := by decide +kernel
theorem dX3_findDepths_42 : decode cX3_findDepths 42 = .ok (.iconst 0, 1) := by decide +kernel
theorem dX3_findDepths_43 : decode cX3_findDepths 43 = .ok (.putfield 38, 3) := by decide +kernel
theorem dX3_findDepths_46 : decode cX3_findDepths 46 = .ok (.aload_n 0, 1) := by decide +kernel
theorem dX3_findDepths_47 : decode cX3_findDepths 47 = .ok (.getfield 21, 3) := by decide +kernel
theorem dX3_findDepths_50 : decode cX3_findDepths 50 = .ok (.iconst 0, 1) := by decide +kernel
theorem dX3_findDepths_51 : decode cX3_findDepths 51 = .ok (.iconst 0, 1) := by decide +kernel
theorem dX3_findDepths_52 : decode cX3_findDepths 52 = .ok (.iastore, 1) := by decide +kernel
theorem dX3_findDepths_53 : decode cX3_findDepths 53 = .ok (.iconst 0, 1) := by decide +kernel
theorem dX3_findDepths_54 : decode cX3_findDepths 54 = .ok (.istore_n 2, 1) := by decide +kernel
theorem dX3_findDepths_55 : decode cX3_findDepths 55 = .ok (.iload_n 2, 1) := by decide +kernel
theorem dX3_findDepths_56 : decode cX3_findDepths 56 = .ok (.aload_n 0, 1) := by decide +kernel
theorem dX3_findDepths_57 : decode cX3_findDepths 57 = .ok (.getfield 31, 3) := by decide +kernel
theorem dX3_findDepths_60 : decode cX3_findDepths 60 = .ok (.if_icmp .ge 51, 3) := by decide +kernel
theorem dX3_findDepths_63 : decode cX3_findDepths 63 = .ok (.aload_n 0, 1) := by decide +kernel
theorem dX3_findDepths_64 : decode cX3_findDepths 64 = .ok (.invokevirtual 82, 3) := by decide +kernel
theorem dX3_findDepths_67 : decode cX3_findDepths 67 = .ok (.istore_n 3, 1) := by decide +kernel
theorem dX3_findDepths_68 : decode cX3_findDepths 68 = .ok (.iload_n 3, 1) := by decide +kernel
theorem dX3_findDepths_69 : decode cX3_findDepths 69 = .ok (.bipush (-4), 2) := by decide +kernel
theorem dX3_findDepths_71 : decode cX3_findDepths 71 = .ok (.if_icmp .ne 6, 3) := by decide +kernel
theorem dX3_findDepths_74 : decode cX3_findDepths 74 = .ok (.goto 37, 3) := by decide +kernel
theorem dX3_findDepths_77 : decode cX3_findDepths 77 = .ok (.aload_n 0, 1) := by decide +kernel
theorem dX3_findDepths_78 : decode cX3_findDepths 78 = .ok (.getfield 24, 3) := by decide +kernel
theorem dX3_findDepths_81 : decode cX3_findDepths 81 = .ok (.iload_n 3, 1) := by decide +kernel
theorem dX3_findDepths_82 : decode cX3_findDepths 82 = .ok (.iconst 1, 1) := by decide +kernel
theorem dX3_findDepths_83 : decode cX3_findDepths 83 = .ok (.bastore, 1) := by decide +kernel
theorem dX3_findDepths_84 : decode cX3_findDepths 84 = .ok (.aload_n 0, 1) := by decide +kernel
theorem dX3_findDepths_85 : decode cX3_findDepths 85 = .ok (.dup, 1) := by decide +kernel
theorem dX3_findDepths_86 : decode cX3_findDepths 86 = .ok (.getfield 35, 3) := by decide +kernel
theorem dX3_findDepths_89 : decode cX3_findDepths 89 = .ok (.iconst 1, 1) := by decide +kernel
theorem dX3_findDepths_90 : decode cX3_findDepths 90 = .ok (.iadd, 1) := by decide +kernel
theorem dX3_findDepths_91 : decode cX3_findDepths 91 = .ok (.putfield 35, 3) := by decide +kernel
theorem dX3_findDepths_94 : decode cX3_findDepths 94 = .ok (.aload_n 0, 1) := by decide +kernel
theorem dX3_findDepths_95 : decode cX3_findDepths 95 = .ok (.iload_n 3, 1) := by decide +kernel
theorem dX3_findDepths_96 : decode cX3_findDepths 96 = .ok (.aload_n 1, 1) := by decide +kernel
theorem dX3_findDepths_97 : decode cX3_findDepths 97 = .ok (.invokevirtual 86, 3) := by decide +kernel
theorem dX3_findDepths_100 : decode cX3_findDepths 100 = .ok (.ifCond .ne 5, 3) := by decide +kernel
theorem dX3_findDepths_103 : decode cX3_findDepths 103 = .ok (.iconst 0, 1) := by decide +kernel
theorem dX3_findDepths_104 : decode cX3_findDepths 104 = .ok (.ireturn, 1) := by decide +kernel
theorem dX3_findDepths_105 : decode cX3_findDepths 105 = .ok (.iinc 2 1, 3) := by decide +kernel
theorem dX3_findDepths_108 : decode cX3_findDepths 108 = .ok (.goto (-53), 3) := by decide +kernel
theorem dX3_findDepths_111 : decode cX3_findDepths 111 = .ok (.aload_n 0, 1) := by decide +kernel
theorem dX3_findDepths_112 : decode cX3_findDepths 112 = .ok (.getfield 38, 3) := by decide +kernel
theorem dX3_findDepths_115 : decode cX3_findDepths 115 = .ok (.iconst 2, 1) := by decide +kernel
theorem dX3_findDepths_116 : decode cX3_findDepths 116 = .ok (.if_icmp .le 14, 3) := by decide +kernel
theorem dX3_findDepths_119 : decode cX3_findDepths 119 = .ok (.bipush 23, 2) := by decide +kernel
theorem dX3_findDepths_121 : decode cX3_findDepths 121 = .ok (.aload_n 0, 1) := by decide +kernel
theorem dX3_findDepths_122 : decode cX3_findDepths 122 = .ok (.getfield 38, 3) := by decide +kernel
theorem dX3_findDepths_125 : decode cX3_findDepths 125 = .ok (.aload_n 1, 1) := by decide +kernel
theorem dX3_findDepths_126 : decode cX3_findDepths 126 = .ok (.invokestatic 90, 3) := by decide +kernel
theorem dX3_findDepths_129 : decode cX3_findDepths 129 = .ok (.ireturn, 1) := by decide +kernel
theorem dX3_findDepths_130 : decode cX3_findDepths 130 = .ok (.iconst 1, 1) := by decide +kernel
theorem dX3_findDepths_131 : decode cX3_findDepths 131 = .ok (.ireturn, 1) := by decide +kernel
theorem dX3_nextToConsider_0 : decode cX3_nextToConsider 0 = .ok (.iconst 0, 1) := by decide +kernel
theorem dX3_nextToConsider_1 : decode cX3_nextToConsider 1 = .ok (.istore_n 1, 1) := by decide +kernel
theorem dX3_nextToConsider_2 : decode cX3_nextToConsider 2 = .ok (.iload_n 1, 1) := by decide +kernel
theorem dX3_nextToConsider_3 : decode cX3_nextToConsider 3 = .ok (.aload_n 0, 1) := by decide +kernel
theorem dX3_nextToConsider_4 : decode cX3_nextToConsider 4 = .ok (.getfield 31, 3) := by decide +kernel
theorem dX3_nextToConsider_7 : decode cX3_nextToConsider 7 = .ok (.if_icmp .ge 28, 3) := by decide +kernel
theorem dX3_nextToConsider_10 : decode cX3_nextToConsider 10 = .ok (.aload_n 0, 1) := by decide +kernel
theorem dX3_nextToConsider_11 : decode cX3_nextToConsider 11 = .ok (.iload_n 1, 1) := by decide +kernel
theorem dX3_nextToConsider_12 : decode cX3_nextToConsider 12 = .ok (.invokevirtual 94, 3) := by decide +kernel
theorem dX3_nextToConsider_15 : decode cX3_nextToConsider 15 = .ok (.ifCond .eq 14, 3) := by decide +kernel
theorem dX3_nextToConsider_18 : decode cX3_nextToConsider 18 = .ok (.aload_n 0, 1) := by decide +kernel
theorem dX3_nextToConsider_19 : decode cX3_nextToConsider 19 = .ok (.getfield 24, 3) := by decide +kernel
theorem dX3_nextToConsider_22 : decode cX3_nextToConsider 22 = .ok (.iload_n 1, 1) := by decide +kernel
theorem dX3_nextToConsider_23 : decode cX3_nextToConsider 23 = .ok (.baload, 1) := by decide +kernel
theorem dX3_nextToConsider_24 : decode cX3_nextToConsider 24 = .ok (.ifCond .ne 5, 3) := by decide +kernel
theorem dX3_nextToConsider_27 : decode cX3_nextToConsider 27 = .ok (.iload_n 1, 1) := by decide +kernel
theorem dX3_nextToConsider_28 : decode cX3_nextToConsider 28 = .ok (.ireturn, 1) := by decide +kernel
theorem dX3_nextToConsider_29 : decode cX3_nextToConsider 29 = .ok (.iinc 1 1, 3) := by decide +kernel
theorem dX3_nextToConsider_32 : decode cX3_nextToConsider 32 = .ok (.goto (-30), 3) := by decide +kernel
theorem dX3_nextToConsider_35 : decode cX3_nextToConsider 35 = .ok (.bipush (-4), 2) := by decide +kernel
theorem dX3_nextToConsider_37 : decode cX3_nextToConsider 37 = .ok (.ireturn, 1) := by decide +kernel
theorem dX3_passOn_0 : decode cX3_passOn 0 = .ok (.aload_n 0, 1) := by decide +kernel
theorem dX3_passOn_1 : decode cX3_passOn 1 = .ok (.getfield 21, 3) := by decide +kernel
theorem dX3_passOn_4 : decode cX3_passOn 4 = .ok (.iload_n 1, 1) := by decide +kernel
theorem dX3_passOn_5 : decode cX3_passOn 5 = .ok (.iaload, 1) := by decide +kernel
theorem dX3_passOn_6 : decode cX3_passOn 6 = .ok (.getstatic 97, 3) := by decide +kernel
theorem dX3_passOn_9 : decode cX3_passOn 9 = .ok (.aload_n 0, 1) := by decide +kernel
theorem dX3_passOn_10 : decode cX3_passOn 10 = .ok (.getfield 9, 3) := by decide +kernel
theorem dX3_passOn_13 : decode cX3_passOn 13 = .ok (.iload_n 1, 1) := by decide +kernel
theorem dX3_passOn_14 : decode cX3_passOn 14 = .ok (.iaload, 1) := by decide +kernel
theorem dX3_passOn_15 : decode cX3_passOn 15 = .ok (.iaload, 1) := by decide +kernel
theorem dX3_passOn_16 : decode cX3_passOn 16 = .ok (.isub, 1) := by decide +kernel
theorem dX3_passOn_17 : decode cX3_passOn 17 = .ok (.getstatic 100, 3) := by decide +kernel
theorem dX3_passOn_20 : decode cX3_passOn 20 = .ok (.aload_n 0, 1) := by decide +kernel
theorem dX3_passOn_21 : decode cX3_passOn 21 = .ok (.getfield 9, 3) := by decide +kernel
theorem dX3_passOn_24 : decode cX3_passOn 24 = .ok (.iload_n 1, 1) := by decide +kernel
theorem dX3_passOn_25 : decode cX3_passOn 25 = .ok (.iaload, 1) := by decide +kernel
theorem dX3_passOn_26 : decode cX3_passOn 26 = .ok (.iaload, 1) := by decide +kernel
theorem dX3_passOn_27 : decode cX3_passOn 27 = .ok (.iadd, 1) := by decide +kernel
theorem dX3_passOn_28 : decode cX3_passOn 28 = .ok (.istore_n 3, 1) := by decide +kernel
theorem dX3_passOn_29 : decode cX3_passOn 29 = .ok (.aload_n 0, 1) := by decide +kernel
theorem dX3_passOn_30 : decode cX3_passOn 30 = .ok (.getfield 21, 3) := by decide +kernel
theorem dX3_passOn_33 : decode cX3_passOn 33 = .ok (.iload_n 1, 1) := by decide +kernel
theorem dX3_passOn_34 : decode cX3_passOn 34 = .ok (.iaload, 1) := by decide +kernel
theorem dX3_passOn_35 : decode cX3_passOn 35 = .ok (.getstatic 97, 3) := by decide +kernel
theorem dX3_passOn_38 : decode cX3_passOn 38 = .ok (.aload_n 0, 1) := by decide +kernel
theorem dX3_passOn_39 : decode cX3_passOn 39 = .ok (.getfield 9, 3) := by decide +kernel
theorem dX3_passOn_42 : decode cX3_passOn 42 = .ok (.iload_n 1, 1) := by decide +kernel
theorem dX3_passOn_43 : decode cX3_passOn 43 = .ok (.iaload, 1) := by decide +kernel
theorem dX3_passOn_44 : decode cX3_passOn 44 = .ok (.iaload, 1) := by decide +kernel
theorem dX3_passOn_45 : decode cX3_passOn 45 = .ok (.if_icmp .lt 9, 3) := by decide +kernel
theorem dX3_passOn_48 : decode cX3_passOn 48 = .ok (.iload_n 3, 1) := by decide +kernel
theorem dX3_passOn_49 : decode cX3_passOn 49 = .ok (.bipush 12, 2) := by decide +kernel
theorem dX3_passOn_51 : decode cX3_passOn 51 = .ok (.if_icmp .le 11, 3) := by decide +kernel
theorem dX3_passOn_54 : decode cX3_passOn 54 = .ok (.bipush 22, 2) := by decide +kernel
theorem dX3_passOn_56 : decode cX3_passOn 56 = .ok (.iload_n 1, 1) := by decide +kernel
theorem dX3_passOn_57 : decode cX3_passOn 57 = .ok (.aload_n 2, 1) := by decide +kernel
theorem dX3_passOn_58 : decode cX3_passOn 58 = .ok (.invokestatic 90, 3) := by decide +kernel
theorem dX3_passOn_61 : decode cX3_passOn 61 = .ok (.ireturn, 1) := by decide +kernel
theorem dX3_passOn_62 : decode cX3_passOn 62 = .ok (.aload_n 0, 1) := by decide +kernel
theorem dX3_passOn_63 : decode cX3_passOn 63 = .ok (.iload_n 1, 1) := by decide +kernel
theorem dX3_passOn_64 : decode cX3_passOn 64 = .ok (.invokevirtual 103, 3) := by decide +kernel
theorem dX3_passOn_67 : decode cX3_passOn 67 = .ok (.ifCond .eq 24, 3) := by decide +kernel
theorem dX3_passOn_70 : decode cX3_passOn 70 = .ok (.aload_n 0, 1) := by decide +kernel
theorem dX3_passOn_71 : decode cX3_passOn 71 = .ok (.iload_n 1, 1) := by decide +kernel
theorem dX3_passOn_72 : decode cX3_passOn 72 = .ok (.iconst 1, 1) := by decide +kernel
theorem dX3_passOn_73 : decode cX3_passOn 73 = .ok (.iadd, 1) := by decide +kernel
theorem dX3_passOn_74 : decode cX3_passOn 74 = .ok (.iload_n 3, 1) := by decide +kernel
theorem dX3_passOn_75 : decode cX3_passOn 75 = .ok (.invokevirtual 106, 3) := by decide +kernel
theorem dX3_passOn_78 : decode cX3_passOn 78 = .ok (.ifCond .ne 13, 3) := by decide +kernel
theorem dX3_passOn_81 : decode cX3_passOn 81 = .ok (.bipush 21, 2) := by decide +kernel
theorem dX3_passOn_83 : decode cX3_passOn 83 = .ok (.iload_n 1, 1) := by decide +kernel
theorem dX3_passOn_84 : decode cX3_passOn 84 = .ok (.iconst 1, 1) := by decide +kernel
theorem dX3_passOn_85 : decode cX3_passOn 85 = .ok (.iadd, 1) := by decide +kernel
theorem dX3_passOn_86 : decode cX3_passOn 86 = .ok (.aload_n 2, 1) := by decide +kernel
theorem dX3_passOn_87 : decode cX3_passOn 87 = .ok (.invokestatic 90, 3) := by decide +kernel
theorem dX3_passOn_90 : decode cX3_passOn 90 = .ok (.ireturn, 1) := by decide +kernel
theorem dX3_passOn_91 : decode cX3_passOn 91 = .ok (.aload_n 0, 1) := by decide +kernel
theorem dX3_passOn_92 : decode cX3_passOn 92 = .ok (.iload_n 1, 1) := by decide +kernel
theorem dX3_passOn_93 : decode cX3_passOn 93 = .ok (.invokevirtual 60, 3) := by decide +kernel
theorem dX3_passOn_96 : decode cX3_passOn 96 = .ok (.ifCond .ne 5, 3) := by decide +kernel
theorem dX3_passOn_99 : decode cX3_passOn 99 = .ok (.iconst 1, 1) := by decide +kernel
theorem dX3_passOn_100 : decode cX3_passOn 100 = .ok (.ireturn, 1) := by decide +kernel
theorem dX3_passOn_101 : decode cX3_passOn 101 = .ok (.aload_n 0, 1) := by decide +kernel
theorem dX3_passOn_102 : decode cX3_passOn 102 = .ok (.getfield 15, 3) := by decide +kernel
theorem dX3_passOn_105 : decode cX3_passOn 105 = .ok (.iload_n 1, 1) := by decide +kernel
theorem dX3_passOn_106 : decode cX3_passOn 106 = .ok (.iaload, 1) := by decide +kernel
theorem dX3_passOn_107 : decode cX3_passOn 107 = .ok (.istore 4, 2) := by decide +kernel
theorem dX3_passOn_109 : decode cX3_passOn 109 = .ok (.aload_n 0, 1) := by decide +kernel
theorem dX3_passOn_110 : decode cX3_passOn 110 = .ok (.getfield 28, 3) := by decide +kernel
theorem dX3_passOn_113 : decode cX3_passOn 113 = .ok (.iload 4, 2) := by decide +kernel
theorem dX3_passOn_115 : decode cX3_passOn 115 = .ok (.baload, 1) := by decide +kernel
theorem dX3_passOn_116 : decode cX3_passOn 116 = .ok (.ifCond .ne 13, 3) := by decide +kernel
theorem dX3_passOn_119 : decode cX3_passOn 119 = .ok (.aload_n 0, 1) := by decide +kernel
theorem dX3_passOn_120 : decode cX3_passOn 120 = .ok (.dup, 1) := by decide +kernel
theorem dX3_passOn_121 : decode cX3_passOn 121 = .ok (.getfield 38, 3) := by decide +kernel
theorem dX3_passOn_124 : decode cX3_passOn 124 = .ok (.iconst 1, 1) := by decide +kernel
theorem dX3_passOn_125 : decode cX3_passOn 125 = .ok (.iadd, 1) := by decide +kernel
theorem dX3_passOn_126 : decode cX3_passOn 126 = .ok (.putfield 38, 3) := by decide +kernel
theorem dX3_passOn_129 : decode cX3_passOn 129 = .ok (.aload_n 0, 1) := by decide +kernel
theorem dX3_passOn_130 : decode cX3_passOn 130 = .ok (.getfield 28, 3) := by decide +kernel
theorem dX3_passOn_133 : decode cX3_passOn 133 = .ok (.iload 4, 2) := by decide +kernel
theorem dX3_passOn_135 : decode cX3_passOn 135 = .ok (.iconst 1, 1) := by decide +kernel
theorem dX3_passOn_136 : decode cX3_passOn 136 = .ok (.bastore, 1) := by decide +kernel
theorem dX3_passOn_137 : decode cX3_passOn 137 = .ok (.aload_n 0, 1) := by decide +kernel
theorem dX3_passOn_138 : decode cX3_passOn 138 = .ok (.iload 4, 2) := by decide +kernel
theorem dX3_passOn_140 : decode cX3_passOn 140 = .ok (.iload_n 3, 1) := by decide +kernel
theorem dX3_passOn_141 : decode cX3_passOn 141 = .ok (.invokevirtual 106, 3) := by decide +kernel
theorem dX3_passOn_144 : decode cX3_passOn 144 = .ok (.ifCond .ne 14, 3) := by decide +kernel
theorem dX3_passOn_147 : decode cX3_passOn 147 = .ok (.bipush 21, 2) := by decide +kernel
theorem dX3_passOn_149 : decode cX3_passOn 149 = .ok (.iload 4, 2) := by decide +kernel
theorem dX3_passOn_151 : decode cX3_passOn 151 = .ok (.aload_n 2, 1) := by decide +kernel
theorem dX3_passOn_152 : decode cX3_passOn 152 = .ok (.invokestatic 90, 3) := by decide +kernel
theorem dX3_passOn_155 : decode cX3_passOn 155 = .ok (.ifCond .eq 7, 3) := by decide +kernel
theorem dX3_passOn_158 : decode cX3_passOn 158 = .ok (.iconst 1, 1) := by decide +kernel
theorem dX3_passOn_159 : decode cX3_passOn 159 = .ok (.goto 4, 3) := by decide +kernel
theorem dX3_passOn_162 : decode cX3_passOn 162 = .ok (.iconst 0, 1) := by decide +kernel
theorem dX3_passOn_163 : decode cX3_passOn 163 = .ok (.ireturn, 1) := by decide +kernel
theorem dX3_accepts_0 : decode cX3_accepts 0 = .ok (.aload_n 0, 1) := by decide +kernel
theorem dX3_accepts_1 : decode cX3_accepts 1 = .ok (.iload_n 1, 1) := by decide +kernel
theorem dX3_accepts_2 : decode cX3_accepts 2 = .ok (.invokevirtual 94, 3) := by decide +kernel
theorem dX3_accepts_5 : decode cX3_accepts 5 = .ok (.ifCond .ne 10, 3) := by decide +kernel
theorem dX3_accepts_8 : decode cX3_accepts 8 = .ok (.aload_n 0, 1) := by decide +kernel
theorem dX3_accepts_9 : decode cX3_accepts 9 = .ok (.getfield 21, 3) := by decide +kernel
theorem dX3_accepts_12 : decode cX3_accepts 12 = .ok (.iload_n 1, 1) := by decide +kernel
theorem dX3_accepts_13 : decode cX3_accepts 13 = .ok (.iload_n 2, 1) := by decide +kernel
theorem dX3_accepts_14 : decode cX3_accepts 14 = .ok (.iastore, 1) := by decide +kernel
theorem dX3_accepts_15 : decode cX3_accepts 15 = .ok (.aload_n 0, 1) := by decide +kernel
theorem dX3_accepts_16 : decode cX3_accepts 16 = .ok (.getfield 21, 3) := by decide +kernel
theorem dX3_accepts_19 : decode cX3_accepts 19 = .ok (.iload_n 1, 1) := by decide +kernel
theorem dX3_accepts_20 : decode cX3_accepts 20 = .ok (.iaload, 1) := by decide +kernel
theorem dX3_accepts_21 : decode cX3_accepts 21 = .ok (.iload_n 2, 1) := by decide +kernel
theorem dX3_accepts_22 : decode cX3_accepts 22 = .ok (.if_icmp .ne 7, 3) := by decide +kernel
theorem dX3_accepts_25 : decode cX3_accepts 25 = .ok (.iconst 1, 1) := by decide +kernel
theorem dX3_accepts_26 : decode cX3_accepts 26 = .ok (.goto 4, 3) := by decide +kernel
theorem dX3_accepts_29 : decode cX3_accepts 29 = .ok (.iconst 0, 1) := by decide +kernel
theorem dX3_accepts_30 : decode cX3_accepts 30 = .ok (.ireturn, 1) := by decide +kernel
theorem dX3_flawed_0 : decode cX3_flawed 0 = .ok (.aload_n 2, 1) := by decide +kernel
theorem dX3_flawed_1 : decode cX3_flawed 1 = .ok (.iconst 3, 1) := by decide +kernel
theorem dX3_flawed_2 : decode cX3_flawed 2 = .ok (.invokevirtual 64, 3) := by decide +kernel
theorem dX3_flawed_5 : decode cX3_flawed 5 = .ok (.aload_n 2, 1) := by decide +kernel
theorem dX3_flawed_6 : decode cX3_flawed 6 = .ok (.iload_n 0, 1) := by decide +kernel
theorem dX3_flawed_7 : decode cX3_flawed 7 = .ok (.invokevirtual 64, 3) := by decide +kernel
theorem dX3_flawed_10 : decode cX3_flawed 10 = .ok (.aload_n 2, 1) := by decide +kernel
theorem dX3_flawed_11 : decode cX3_flawed 11 = .ok (.bipush 30, 2) := by decide +kernel
theorem dX3_flawed_13 : decode cX3_flawed 13 = .ok (.iload_n 1, 1) := by decide +kernel
theorem dX3_flawed_14 : decode cX3_flawed 14 = .ok (.iadd, 1) := by decide +kernel
theorem dX3_flawed_15 : decode cX3_flawed 15 = .ok (.invokevirtual 64, 3) := by decide +kernel
theorem dX3_flawed_18 : decode cX3_flawed 18 = .ok (.iconst 0, 1) := by decide +kernel
theorem dX3_flawed_19 : decode cX3_flawed 19 = .ok (.ireturn, 1) := by decide +kernel
theorem dX3_become_0 : decode cX3_become 0 = .ok (.iconst 0, 1) := by decide +kernel
theorem dX3_become_1 : decode cX3_become 1 = .ok (.istore_n 2, 1) := by decide +kernel
theorem dX3_become_2 : decode cX3_become 2 = .ok (.iload_n 2, 1) := by decide +kernel
theorem dX3_become_3 : decode cX3_become 3 = .ok (.bipush 24, 2) := by decide +kernel
theorem dX3_become_5 : decode cX3_become 5 = .ok (.if_icmp .ge 57, 3) := by decide +kernel
theorem dX3_become_8 : decode cX3_become 8 = .ok (.aload_n 0, 1) := by decide +kernel
theorem dX3_become_9 : decode cX3_become 9 = .ok (.getfield 9, 3) := by decide +kernel
theorem dX3_become_12 : decode cX3_become 12 = .ok (.iload_n 2, 1) := by decide +kernel
theorem dX3_become_13 : decode cX3_become 13 = .ok (.aload_n 1, 1) := by decide +kernel
theorem dX3_become_14 : decode cX3_become 14 = .ok (.getfield 9, 3) := by decide +kernel
theorem dX3_become_17 : decode cX3_become 17 = .ok (.iload_n 2, 1) := by decide +kernel
theorem dX3_become_18 : decode cX3_become 18 = .ok (.iaload, 1) := by decide +kernel
theorem dX3_become_19 : decode cX3_become 19 = .ok (.iastore, 1) := by decide +kernel
theorem dX3_become_20 : decode cX3_become 20 = .ok (.aload_n 0, 1) := by decide +kernel
theorem dX3_become_21 : decode cX3_become 21 = .ok (.getfield 15, 3) := by decide +kernel
theorem dX3_become_24 : decode cX3_become 24 = .ok (.iload_n 2, 1) := by decide +kernel
theorem dX3_become_25 : decode cX3_become 25 = .ok (.aload_n 1, 1) := by decide +kernel
theorem dX3_become_26 : decode cX3_become 26 = .ok (.getfield 15, 3) := by decide +kernel
theorem dX3_become_29 : decode cX3_become 29 = .ok (.iload_n 2, 1) := by decide +kernel
theorem dX3_become_30 : decode cX3_become 30 = .ok (.iaload, 1) := by decide +kernel
theorem dX3_become_31 : decode cX3_become 31 = .ok (.iastore, 1) := by decide +kernel
theorem dX3_become_32 : decode cX3_become 32 = .ok (.aload_n 0, 1) := by decide +kernel
theorem dX3_become_33 : decode cX3_become 33 = .ok (.getfield 21, 3) := by decide +kernel
theorem dX3_become_36 : decode cX3_become 36 = .ok (.iload_n 2, 1) := by decide +kernel
theorem dX3_become_37 : decode cX3_become 37 = .ok (.aload_n 1, 1) := by decide +kernel
theorem dX3_become_38 : decode cX3_become 38 = .ok (.getfield 21, 3) := by decide +kernel
theorem dX3_become_41 : decode cX3_become 41 = .ok (.iload_n 2, 1) := by decide +kernel
theorem dX3_become_42 : decode cX3_become 42 = .ok (.iaload, 1) := by decide +kernel
theorem dX3_become_43 : decode cX3_become 43 = .ok (.iastore, 1) := by decide +kernel
theorem dX3_become_44 : decode cX3_become 44 = .ok (.aload_n 0, 1) := by decide +kernel
theorem dX3_become_45 : decode cX3_become 45 = .ok (.getfield 28, 3) := by decide +kernel
theorem dX3_become_48 : decode cX3_become 48 = .ok (.iload_n 2, 1) := by decide +kernel
theorem dX3_become_49 : decode cX3_become 49 = .ok (.aload_n 1, 1) := by decide +kernel
theorem dX3_become_50 : decode cX3_become 50 = .ok (.getfield 28, 3) := by decide +kernel
theorem dX3_become_53 : decode cX3_become 53 = .ok (.iload_n 2, 1) := by decide +kernel
theorem dX3_become_54 : decode cX3_become 54 = .ok (.baload, 1) := by decide +kernel
theorem dX3_become_55 : decode cX3_become 55 = .ok (.bastore, 1) := by decide +kernel
theorem dX3_become_56 : decode cX3_become 56 = .ok (.iinc 2 1, 3) := by decide +kernel
theorem dX3_become_59 : decode cX3_become 59 = .ok (.goto (-57), 3) := by decide +kernel
theorem dX3_become_62 : decode cX3_become 62 = .ok (.aload_n 0, 1) := by decide +kernel
theorem dX3_become_63 : decode cX3_become 63 = .ok (.aload_n 1, 1) := by decide +kernel
theorem dX3_become_64 : decode cX3_become 64 = .ok (.getfield 31, 3) := by decide +kernel
theorem dX3_become_67 : decode cX3_become 67 = .ok (.putfield 31, 3) := by decide +kernel
theorem dX3_become_70 : decode cX3_become 70 = .ok (.aload_n 0, 1) := by decide +kernel
theorem dX3_become_71 : decode cX3_become 71 = .ok (.aload_n 1, 1) := by decide +kernel
theorem dX3_become_72 : decode cX3_become 72 = .ok (.getfield 35, 3) := by decide +kernel
theorem dX3_become_75 : decode cX3_become 75 = .ok (.putfield 35, 3) := by decide +kernel
theorem dX3_become_78 : decode cX3_become 78 = .ok (.aload_n 0, 1) := by decide +kernel
theorem dX3_become_79 : decode cX3_become 79 = .ok (.aload_n 1, 1) := by decide +kernel
theorem dX3_become_80 : decode cX3_become 80 = .ok (.getfield 38, 3) := by decide +kernel
theorem dX3_become_83 : decode cX3_become 83 = .ok (.putfield 38, 3) := by decide +kernel
theorem dX3_become_86 : decode cX3_become 86 = .ok (.return_, 1) := by decide +kernel
theorem dX3_isReached_0 : decode cX3_isReached 0 = .ok (.aload_n 0, 1) := by decide +kernel
theorem dX3_isReached_1 : decode cX3_isReached 1 = .ok (.getfield 21, 3) := by decide +kernel
theorem dX3_isReached_4 : decode cX3_isReached 4 = .ok (.iload_n 1, 1) := by decide +kernel
theorem dX3_isReached_5 : decode cX3_isReached 5 = .ok (.iaload, 1) := by decide +kernel
theorem dX3_isReached_6 : decode cX3_isReached 6 = .ok (.bipush (-4), 2) := by decide +kernel
theorem dX3_isReached_8 : decode cX3_isReached 8 = .ok (.if_icmp .eq 7, 3) := by decide +kernel
theorem dX3_isReached_11 : decode cX3_isReached 11 = .ok (.iconst 1, 1) := by decide +kernel
theorem dX3_isReached_12 : decode cX3_isReached 12 = .ok (.goto 4, 3) := by decide +kernel
theorem dX3_isReached_15 : decode cX3_isReached 15 = .ok (.iconst 0, 1) := by decide +kernel
theorem dX3_isReached_16 : decode cX3_isReached 16 = .ok (.ireturn, 1) := by decide +kernel
theorem dX3_falls_0 : decode cX3_falls 0 = .ok (.aload_n 0, 1) := by decide +kernel
theorem dX3_falls_1 : decode cX3_falls 1 = .ok (.getfield 9, 3) := by decide +kernel
theorem dX3_falls_4 : decode cX3_falls 4 = .ok (.iload_n 1, 1) := by decide +kernel
theorem dX3_falls_5 : decode cX3_falls 5 = .ok (.iaload, 1) := by decide +kernel
theorem dX3_falls_6 : decode cX3_falls 6 = .ok (.bipush 11, 2) := by decide +kernel
theorem dX3_falls_8 : decode cX3_falls 8 = .ok (.if_icmp .eq 28, 3) := by decide +kernel
theorem dX3_falls_11 : decode cX3_falls 11 = .ok (.aload_n 0, 1) := by decide +kernel
theorem dX3_falls_12 : decode cX3_falls 12 = .ok (.getfield 9, 3) := by decide +kernel
theorem dX3_falls_15 : decode cX3_falls 15 = .ok (.iload_n 1, 1) := by decide +kernel
theorem dX3_falls_16 : decode cX3_falls 16 = .ok (.iaload, 1) := by decide +kernel
theorem dX3_falls_17 : decode cX3_falls 17 = .ok (.bipush 14, 2) := by decide +kernel
theorem dX3_falls_19 : decode cX3_falls 19 = .ok (.if_icmp .eq 17, 3) := by decide +kernel
theorem dX3_falls_22 : decode cX3_falls 22 = .ok (.iload_n 1, 1) := by decide +kernel
theorem dX3_falls_23 : decode cX3_falls 23 = .ok (.iconst 1, 1) := by decide +kernel
theorem dX3_falls_24 : decode cX3_falls 24 = .ok (.iadd, 1) := by decide +kernel
theorem dX3_falls_25 : decode cX3_falls 25 = .ok (.aload_n 0, 1) := by decide +kernel
theorem dX3_falls_26 : decode cX3_falls 26 = .ok (.getfield 31, 3) := by decide +kernel
theorem dX3_falls_29 : decode cX3_falls 29 = .ok (.if_icmp .ge 7, 3) := by decide +kernel
theorem dX3_falls_32 : decode cX3_falls 32 = .ok (.iconst 1, 1) := by decide +kernel
theorem dX3_falls_33 : decode cX3_falls 33 = .ok (.goto 4, 3) := by decide +kernel
theorem dX3_falls_36 : decode cX3_falls 36 = .ok (.iconst 0, 1) := by decide +kernel
theorem dX3_falls_37 : decode cX3_falls 37 = .ok (.ireturn, 1) := by decide +kernel
theorem dX3_leads_0 : decode cX3_leads 0 = .ok (.aload_n 0, 1) := by decide +kernel
theorem dX3_leads_1 : decode cX3_leads 1 = .ok (.getfield 9, 3) := by decide +kernel
theorem dX3_leads_4 : decode cX3_leads 4 = .ok (.iload_n 1, 1) := by decide +kernel
theorem dX3_leads_5 : decode cX3_leads 5 = .ok (.iaload, 1) := by decide +kernel
theorem dX3_leads_6 : decode cX3_leads 6 = .ok (.bipush 11, 2) := by decide +kernel
theorem dX3_leads_8 : decode cX3_leads 8 = .ok (.if_icmp .eq 14, 3) := by decide +kernel
theorem dX3_leads_11 : decode cX3_leads 11 = .ok (.aload_n 0, 1) := by decide +kernel
theorem dX3_leads_12 : decode cX3_leads 12 = .ok (.getfield 9, 3) := by decide +kernel
theorem dX3_leads_15 : decode cX3_leads 15 = .ok (.iload_n 1, 1) := by decide +kernel
theorem dX3_leads_16 : decode cX3_leads 16 = .ok (.iaload, 1) := by decide +kernel
theorem dX3_leads_17 : decode cX3_leads 17 = .ok (.bipush 12, 2) := by decide +kernel
theorem dX3_leads_19 : decode cX3_leads 19 = .ok (.if_icmp .ne 7, 3) := by decide +kernel
theorem dX3_leads_22 : decode cX3_leads 22 = .ok (.iconst 1, 1) := by decide +kernel
theorem dX3_leads_23 : decode cX3_leads 23 = .ok (.goto 4, 3) := by decide +kernel
theorem dX3_leads_26 : decode cX3_leads 26 = .ok (.iconst 0, 1) := by decide +kernel
theorem dX3_leads_27 : decode cX3_leads 27 = .ok (.ireturn, 1) := by decide +kernel
theorem dX3_isHead_0 : decode cX3_isHead 0 = .ok (.iload_n 1, 1) := by decide +kernel
theorem dX3_isHead_1 : decode cX3_isHead 1 = .ok (.ifCond .eq 23, 3) := by decide +kernel
theorem dX3_isHead_4 : decode cX3_isHead 4 = .ok (.aload_n 0, 1) := by decide +kernel
theorem dX3_isHead_5 : decode cX3_isHead 5 = .ok (.iload_n 1, 1) := by decide +kernel
theorem dX3_isHead_6 : decode cX3_isHead 6 = .ok (.iconst 1, 1) := by decide +kernel
theorem dX3_isHead_7 : decode cX3_isHead 7 = .ok (.isub, 1) := by decide +kernel
theorem dX3_isHead_8 : decode cX3_isHead 8 = .ok (.invokevirtual 94, 3) := by decide +kernel
theorem dX3_isHead_11 : decode cX3_isHead 11 = .ok (.ifCond .eq 13, 3) := by decide +kernel
theorem dX3_isHead_14 : decode cX3_isHead 14 = .ok (.aload_n 0, 1) := by decide +kernel
theorem dX3_isHead_15 : decode cX3_isHead 15 = .ok (.iload_n 1, 1) := by decide +kernel
theorem dX3_isHead_16 : decode cX3_isHead 16 = .ok (.iconst 1, 1) := by decide +kernel
theorem dX3_isHead_17 : decode cX3_isHead 17 = .ok (.isub, 1) := by decide +kernel
theorem dX3_isHead_18 : decode cX3_isHead 18 = .ok (.invokevirtual 103, 3) := by decide +kernel
theorem dX3_isHead_21 : decode cX3_isHead 21 = .ok (.ifCond .ne 7, 3) := by decide +kernel
theorem dX3_isHead_24 : decode cX3_isHead 24 = .ok (.iconst 1, 1) := by decide +kernel
theorem dX3_isHead_25 : decode cX3_isHead 25 = .ok (.goto 4, 3) := by decide +kernel
theorem dX3_isHead_28 : decode cX3_isHead 28 = .ok (.iconst 0, 1) := by decide +kernel
theorem dX3_isHead_29 : decode cX3_isHead 29 = .ok (.ireturn, 1) := by decide +kernel
theorem dX3_targetFrom_0 : decode cX3_targetFrom 0 = .ok (.iload_n 1, 1) := by decide +kernel
theorem dX3_targetFrom_1 : decode cX3_targetFrom 1 = .ok (.istore_n 2, 1) := by decide +kernel
theorem dX3_targetFrom_2 : decode cX3_targetFrom 2 = .ok (.iload_n 2, 1) := by decide +kernel
theorem dX3_targetFrom_3 : decode cX3_targetFrom 3 = .ok (.aload_n 0, 1) := by decide +kernel
theorem dX3_targetFrom_4 : decode cX3_targetFrom 4 = .ok (.getfield 31, 3) := by decide +kernel
theorem dX3_targetFrom_7 : decode cX3_targetFrom 7 = .ok (.if_icmp .ge 20, 3) := by decide +kernel
theorem dX3_targetFrom_10 : decode cX3_targetFrom 10 = .ok (.aload_n 0, 1) := by decide +kernel
theorem dX3_targetFrom_11 : decode cX3_targetFrom 11 = .ok (.getfield 28, 3) := by decide +kernel
theorem dX3_targetFrom_14 : decode cX3_targetFrom 14 = .ok (.iload_n 2, 1) := by decide +kernel
theorem dX3_targetFrom_15 : decode cX3_targetFrom 15 = .ok (.baload, 1) := by decide +kernel
theorem dX3_targetFrom_16 : decode cX3_targetFrom 16 = .ok (.ifCond .eq 5, 3) := by decide +kernel
theorem dX3_targetFrom_19 : decode cX3_targetFrom 19 = .ok (.iload_n 2, 1) := by decide +kernel
theorem dX3_targetFrom_20 : decode cX3_targetFrom 20 = .ok (.ireturn, 1) := by decide +kernel
theorem dX3_targetFrom_21 : decode cX3_targetFrom 21 = .ok (.iinc 2 1, 3) := by decide +kernel
theorem dX3_targetFrom_24 : decode cX3_targetFrom 24 = .ok (.goto (-22), 3) := by decide +kernel
theorem dX3_targetFrom_27 : decode cX3_targetFrom 27 = .ok (.bipush (-4), 2) := by decide +kernel
theorem dX3_targetFrom_29 : decode cX3_targetFrom 29 = .ok (.ireturn, 1) := by decide +kernel
theorem dX4_init_0 : decode cX4_init 0 = .ok (.aload_n 0, 1) := by decide +kernel
theorem dX4_init_1 : decode cX4_init 1 = .ok (.invokespecial 3, 3) := by decide +kernel
theorem dX4_init_4 : decode cX4_init 4 = .ok (.aload_n 0, 1) := by decide +kernel
theorem dX4_init_5 : decode cX4_init 5 = .ok (.bipush 12, 2) := by decide +kernel
theorem dX4_init_7 : decode cX4_init 7 = .ok (.newarray .int, 2) := by decide +kernel
theorem dX4_init_9 : decode cX4_init 9 = .ok (.putfield 9, 3) := by decide +kernel
theorem dX4_init_12 : decode cX4_init 12 = .ok (.aload_n 0, 1) := by decide +kernel
theorem dX4_init_13 : decode cX4_init 13 = .ok (.iconst 4, 1) := by decide +kernel
theorem dX4_init_14 : decode cX4_init 14 = .ok (.newarray .int, 2) := by decide +kernel
theorem dX4_init_16 : decode cX4_init 16 = .ok (.putfield 15, 3) := by decide +kernel
theorem dX4_init_19 : decode cX4_init 19 = .ok (.aload_n 0, 1) := by decide +kernel
theorem dX4_init_20 : decode cX4_init 20 = .ok (.bipush 16, 2) := by decide +kernel
theorem dX4_init_22 : decode cX4_init 22 = .ok (.newarray .int, 2) := by decide +kernel
theorem dX4_init_24 : decode cX4_init 24 = .ok (.putfield 18, 3) := by decide +kernel
theorem dX4_init_27 : decode cX4_init 27 = .ok (.aload_n 0, 1) := by decide +kernel
theorem dX4_init_28 : decode cX4_init 28 = .ok (.bipush 24, 2) := by decide +kernel
theorem dX4_init_30 : decode cX4_init 30 = .ok (.newarray .int, 2) := by decide +kernel
theorem dX4_init_32 : decode cX4_init 32 = .ok (.putfield 21, 3) := by decide +kernel
theorem dX4_init_35 : decode cX4_init 35 = .ok (.aload_n 0, 1) := by decide +kernel
theorem dX4_init_36 : decode cX4_init 36 = .ok (.iconst 0, 1) := by decide +kernel
theorem dX4_init_37 : decode cX4_init 37 = .ok (.putfield 24, 3) := by decide +kernel
theorem dX4_init_40 : decode cX4_init 40 = .ok (.aload_n 0, 1) := by decide +kernel
theorem dX4_init_41 : decode cX4_init 41 = .ok (.iconst 0, 1) := by decide +kernel
theorem dX4_init_42 : decode cX4_init 42 = .ok (.putfield 28, 3) := by decide +kernel
theorem dX4_init_45 : decode cX4_init 45 = .ok (.aload_n 0, 1) := by decide +kernel
theorem dX4_init_46 : decode cX4_init 46 = .ok (.iconst 0, 1) := by decide +kernel
theorem dX4_init_47 : decode cX4_init 47 = .ok (.putfield 31, 3) := by decide +kernel
theorem dX4_init_50 : decode cX4_init 50 = .ok (.aload_n 0, 1) := by decide +kernel
theorem dX4_init_51 : decode cX4_init 51 = .ok (.iconst 0, 1) := by decide +kernel
theorem dX4_init_52 : decode cX4_init 52 = .ok (.putfield 35, 3) := by decide +kernel
theorem dX4_init_55 : decode cX4_init 55 = .ok (.aload_n 0, 1) := by decide +kernel
theorem dX4_init_56 : decode cX4_init 56 = .ok (.iconst 0, 1) := by decide +kernel
theorem dX4_init_57 : decode cX4_init 57 = .ok (.putfield 38, 3) := by decide +kernel
theorem dX4_init_60 : decode cX4_init 60 = .ok (.aload_n 0, 1) := by decide +kernel
theorem dX4_init_61 : decode cX4_init 61 = .ok (.iconst 0, 1) := by decide +kernel
theorem dX4_init_62 : decode cX4_init 62 = .ok (.putfield 41, 3) := by decide +kernel
theorem dX4_init_65 : decode cX4_init 65 = .ok (.aload_n 0, 1) := by decide +kernel
theorem dX4_init_66 : decode cX4_init 66 = .ok (.iconst 0, 1) := by decide +kernel
theorem dX4_init_67 : decode cX4_init 67 = .ok (.putfield 44, 3) := by decide +kernel
theorem dX4_init_70 : decode cX4_init 70 = .ok (.aload_n 0, 1) := by decide +kernel
theorem dX4_init_71 : decode cX4_init 71 = .ok (.iconst 0, 1) := by decide +kernel
theorem dX4_init_72 : decode cX4_init 72 = .ok (.putfield 47, 3) := by decide +kernel
theorem dX4_init_75 : decode cX4_init 75 = .ok (.aload_n 0, 1) := by decide +kernel
theorem dX4_init_76 : decode cX4_init 76 = .ok (.aload_n 1, 1) := by decide +kernel
theorem dX4_init_77 : decode cX4_init 77 = .ok (.putfield 50, 3) := by decide +kernel
theorem dX4_init_80 : decode cX4_init 80 = .ok (.aload_n 0, 1) := by decide +kernel
theorem dX4_init_81 : decode cX4_init 81 = .ok (.aload_n 2, 1) := by decide +kernel
theorem dX4_init_82 : decode cX4_init 82 = .ok (.putfield 54, 3) := by decide +kernel
theorem dX4_init_85 : decode cX4_init 85 = .ok (.aload_n 0, 1) := by decide +kernel
theorem dX4_init_86 : decode cX4_init 86 = .ok (.aload_n 3, 1) := by decide +kernel
theorem dX4_init_87 : decode cX4_init 87 = .ok (.getfield 58, 3) := by decide +kernel
theorem dX4_init_90 : decode cX4_init 90 = .ok (.putfield 63, 3) := by decide +kernel
theorem dX4_init_93 : decode cX4_init 93 = .ok (.return_, 1) := by decide +kernel
theorem dX4_begin_0 : decode cX4_begin 0 = .ok (.aload_n 0, 1) := by decide +kernel
theorem dX4_begin_1 : decode cX4_begin 1 = .ok (.getfield 15, 3) := by decide +kernel
theorem dX4_begin_4 : decode cX4_begin 4 = .ok (.iconst 0, 1) := by decide +kernel
theorem dX4_begin_5 : decode cX4_begin 5 = .ok (.invokestatic 64, 3) := by decide +kernel
theorem dX4_begin_8 : decode cX4_begin 8 = .ok (.aload_n 0, 1) := by decide +kernel
theorem dX4_begin_9 : decode cX4_begin 9 = .ok (.getfield 21, 3) := by decide +kernel
theorem dX4_begin_12 : decode cX4_begin 12 = .ok (.iconst 0, 1) := by decide +kernel
theorem dX4_begin_13 : decode cX4_begin 13 = .ok (.invokestatic 64, 3) := by decide +kernel
theorem dX4_begin_16 : decode cX4_begin 16 = .ok (.aload_n 0, 1) := by decide +kernel
theorem dX4_begin_17 : decode cX4_begin 17 = .ok (.iconst 1, 1) := by decide +kernel
theorem dX4_begin_18 : decode cX4_begin 18 = .ok (.putfield 24, 3) := by decide +kernel
theorem dX4_begin_21 : decode cX4_begin 21 = .ok (.aload_n 0, 1) := by decide +kernel
theorem dX4_begin_22 : decode cX4_begin 22 = .ok (.iconst 0, 1) := by decide +kernel
theorem dX4_begin_23 : decode cX4_begin 23 = .ok (.putfield 28, 3) := by decide +kernel
theorem dX4_begin_26 : decode cX4_begin 26 = .ok (.aload_n 0, 1) := by decide +kernel
theorem dX4_begin_27 : decode cX4_begin 27 = .ok (.iconst 0, 1) := by decide +kernel
theorem dX4_begin_28 : decode cX4_begin 28 = .ok (.putfield 31, 3) := by decide +kernel
theorem dX4_begin_31 : decode cX4_begin 31 = .ok (.aload_n 0, 1) := by decide +kernel
theorem dX4_begin_32 : decode cX4_begin 32 = .ok (.aload_n 0, 1) := by decide +kernel
theorem dX4_begin_33 : decode cX4_begin 33 = .ok (.getfield 63, 3) := by decide +kernel
theorem dX4_begin_36 : decode cX4_begin 36 = .ok (.iconst 0, 1) := by decide +kernel
theorem dX4_begin_37 : decode cX4_begin 37 = .ok (.iaload, 1) := by decide +kernel
theorem dX4_begin_38 : decode cX4_begin 38 = .ok (.putfield 35, 3) := by decide +kernel
theorem dX4_begin_41 : decode cX4_begin 41 = .ok (.aload_n 0, 1) := by decide +kernel
theorem dX4_begin_42 : decode cX4_begin 42 = .ok (.iconst 0, 1) := by decide +kernel
theorem dX4_begin_43 : decode cX4_begin 43 = .ok (.putfield 38, 3) := by decide +kernel
theorem dX4_begin_46 : decode cX4_begin 46 = .ok (.aload_n 0, 1) := by decide +kernel
theorem dX4_begin_47 : decode cX4_begin 47 = .ok (.iconst 0, 1) := by decide +kernel
theorem dX4_begin_48 : decode cX4_begin 48 = .ok (.putfield 41, 3) := by decide +kernel
theorem dX4_begin_51 : decode cX4_begin 51 = .ok (.aload_n 0, 1) := by decide +kernel
theorem dX4_begin_52 : decode cX4_begin 52 = .ok (.iconst 0, 1) := by decide +kernel
theorem dX4_begin_53 : decode cX4_begin 53 = .ok (.putfield 44, 3) := by decide +kernel
theorem dX4_begin_56 : decode cX4_begin 56 = .ok (.aload_n 0, 1) := by decide +kernel
theorem dX4_begin_57 : decode cX4_begin 57 = .ok (.iconst 0, 1) := by decide +kernel
theorem dX4_begin_58 : decode cX4_begin 58 = .ok (.putfield 47, 3) := by decide +kernel
theorem dX4_begin_61 : decode cX4_begin 61 = .ok (.return_, 1) := by decide +kernel
theorem dX4_advance_0 : decode cX4_advance 0 = .ok (.aload_n 0, 1) := by decide +kernel
theorem dX4_advance_1 : decode cX4_advance 1 = .ok (.getfield 31, 3) := by decide +kernel
theorem dX4_advance_4 : decode cX4_advance 4 = .ok (.istore_n 1, 1) := by decide +kernel
theorem dX4_advance_5 : decode cX4_advance 5 = .ok (.aload_n 0, 1) := by decide +kernel
theorem dX4_advance_6 : decode cX4_advance 6 = .ok (.getfield 50, 3) := by decide +kernel
theorem dX4_advance_9 : decode cX4_advance 9 = .ok (.getfield 70, 3) := by decide +kernel
theorem dX4_advance_12 : decode cX4_advance 12 = .ok (.iload_n 1, 1) := by decide +kernel
theorem dX4_advance_13 : decode cX4_advance 13 = .ok (.iaload, 1) := by decide +kernel
theorem dX4_advance_14 : decode cX4_advance 14 = .ok (.istore_n 2, 1) := by decide +kernel
theorem dX4_advance_15 : decode cX4_advance 15 = .ok (.iload_n 2, 1) := by decide +kernel
theorem dX4_advance_16 : decode cX4_advance 16 = .ok (.bipush 13, 2) := by decide +kernel
theorem dX4_advance_18 : decode cX4_advance 18 = .ok (.if_icmp .ne 18, 3) := by decide +kernel
theorem dX4_advance_21 : decode cX4_advance 21 = .ok (.aload_n 0, 1) := by decide +kernel
theorem dX4_advance_22 : decode cX4_advance 22 = .ok (.getfield 41, 3) := by decide +kernel
theorem dX4_advance_25 : decode cX4_advance 25 = .ok (.bipush 16, 2) := by decide +kernel
theorem dX4_advance_27 : decode cX4_advance 27 = .ok (.if_icmp .ne 9, 3) := by decide +kernel
theorem dX4_advance_30 : decode cX4_advance 30 = .ok (.aload_n 0, 1) := by decide +kernel
theorem dX4_advance_31 : decode cX4_advance 31 = .ok (.iconst 1, 1) := by decide +kernel
theorem dX4_advance_32 : decode cX4_advance 32 = .ok (.putfield 28, 3) := by decide +kernel
theorem dX4_advance_35 : decode cX4_advance 35 = .ok (.return_, 1) := by decide +kernel
theorem dX4_advance_36 : decode cX4_advance 36 = .ok (.aload_n 0, 1) := by decide +kernel
theorem dX4_advance_37 : decode cX4_advance 37 = .ok (.iload_n 1, 1) := by decide +kernel
theorem dX4_advance_38 : decode cX4_advance 38 = .ok (.iload_n 2, 1) := by decide +kernel
theorem dX4_advance_39 : decode cX4_advance 39 = .ok (.invokevirtual 75, 3) := by decide +kernel
theorem dX4_advance_42 : decode cX4_advance 42 = .ok (.istore_n 3, 1) := by decide +kernel
theorem dX4_advance_43 : decode cX4_advance 43 = .ok (.aload_n 0, 1) := by decide +kernel
theorem dX4_advance_44 : decode cX4_advance 44 = .ok (.getfield 21, 3) := by decide +kernel
theorem dX4_advance_47 : decode cX4_advance 47 = .ok (.iload_n 1, 1) := by decide +kernel
theorem dX4_advance_48 : decode cX4_advance 48 = .ok (.dup2, 1) := by decide +kernel
theorem dX4_advance_49 : decode cX4_advance 49 = .ok (.iaload, 1) := by decide +kernel
theorem dX4_advance_50 : decode cX4_advance 50 = .ok (.iconst 1, 1) := by decide +kernel
theorem dX4_advance_51 : decode cX4_advance 51 = .ok (.iadd, 1) := by decide +kernel
theorem dX4_advance_52 : decode cX4_advance 52 = .ok (.iastore, 1) := by decide +kernel
theorem dX4_advance_53 : decode cX4_advance 53 = .ok (.aload_n 0, 1) := by decide +kernel
theorem dX4_advance_54 : decode cX4_advance 54 = .ok (.dup, 1) := by decide +kernel
theorem dX4_advance_55 : decode cX4_advance 55 = .ok (.getfield 47, 3) := by decide +kernel
theorem dX4_advance_58 : decode cX4_advance 58 = .ok (.iconst 1, 1) := by decide +kernel
theorem dX4_advance_59 : decode cX4_advance 59 = .ok (.iadd, 1) := by decide +kernel
theorem dX4_advance_60 : decode cX4_advance 60 = .ok (.putfield 47, 3) := by decide +kernel
theorem dX4_advance_63 : decode cX4_advance 63 = .ok (.aload_n 0, 1) := by decide +kernel
theorem dX4_advance_64 : decode cX4_advance 64 = .ok (.dup, 1) := by decide +kernel
theorem dX4_advance_65 : decode cX4_advance 65 = .ok (.getfield 44, 3) := by decide +kernel
theorem dX4_advance_68 : decode cX4_advance 68 = .ok (.aload_n 0, 1) := by decide +kernel
theorem dX4_advance_69 : decode cX4_advance 69 = .ok (.getfield 54, 3) := by decide +kernel
theorem dX4_advance_72 : decode cX4_advance 72 = .ok (.iload_n 2, 1) := by decide +kernel
theorem dX4_advance_73 : decode cX4_advance 73 = .ok (.aload_n 0, 1) := by decide +kernel
theorem dX4_advance_74 : decode cX4_advance 74 = .ok (.getfield 35, 3) := by decide +kernel
theorem dX4_advance_77 : decode cX4_advance 77 = .ok (.invokevirtual 79, 3) := by decide +kernel
theorem dX4_advance_80 : decode cX4_advance 80 = .ok (.iadd, 1) := by decide +kernel
theorem dX4_advance_81 : decode cX4_advance 81 = .ok (.putfield 44, 3) := by decide +kernel
theorem dX4_advance_84 : decode cX4_advance 84 = .ok (.aload_n 0, 1) := by decide +kernel
theorem dX4_advance_85 : decode cX4_advance 85 = .ok (.getfield 54, 3) := by decide +kernel
theorem dX4_advance_88 : decode cX4_advance 88 = .ok (.iload_n 2, 1) := by decide +kernel
theorem dX4_advance_89 : decode cX4_advance 89 = .ok (.aload_n 0, 1) := by decide +kernel
theorem dX4_advance_90 : decode cX4_advance 90 = .ok (.getfield 35, 3) := by decide +kernel
theorem dX4_advance_93 : decode cX4_advance 93 = .ok (.invokevirtual 84, 3) := by decide +kernel
theorem dX4_advance_96 : decode cX4_advance 96 = .ok (.istore 4, 2) := by decide +kernel
theorem dX4_advance_98 : decode cX4_advance 98 = .ok (.aload_n 0, 1) := by decide +kernel
theorem dX4_advance_99 : decode cX4_advance 99 = .ok (.iload_n 3, 1) := by decide +kernel
theorem dX4_advance_100 : decode cX4_advance 100 = .ok (.bipush (-4), 2) := by decide +kernel
theorem dX4_advance_102 : decode cX4_advance 102 = .ok (.if_icmp .ne 7, 3) := by decide +kernel
theorem dX4_advance_105 : decode cX4_advance 105 = .ok (.iconst 1, 1) := by decide +kernel
theorem dX4_advance_106 : decode cX4_advance 106 = .ok (.goto 4, 3) := by decide +kernel
theorem dX4_advance_109 : decode cX4_advance 109 = .ok (.iconst 0, 1) := by decide +kernel
theorem dX4_advance_110 : decode cX4_advance 110 = .ok (.putfield 28, 3) := by decide +kernel
theorem dX4_advance_113 : decode cX4_advance 113 = .ok (.aload_n 0, 1) := by decide +kernel
theorem dX4_advance_114 : decode cX4_advance 114 = .ok (.getfield 28, 3) := by decide +kernel
theorem dX4_advance_117 : decode cX4_advance 117 = .ok (.ifCond .eq 10, 3) := by decide +kernel
theorem dX4_advance_120 : decode cX4_advance 120 = .ok (.aload_n 0, 1) := by decide +kernel
theorem dX4_advance_121 : decode cX4_advance 121 = .ok (.iload 4, 2) := by decide +kernel
theorem dX4_advance_123 : decode cX4_advance 123 = .ok (.putfield 35, 3) := by decide +kernel
theorem dX4_advance_126 : decode cX4_advance 126 = .ok (.return_, 1) := by decide +kernel
theorem dX4_advance_127 : decode cX4_advance 127 = .ok (.aload_n 0, 1) := by decide +kernel
theorem dX4_advance_128 : decode cX4_advance 128 = .ok (.iload_n 3, 1) := by decide +kernel
theorem dX4_advance_129 : decode cX4_advance 129 = .ok (.putfield 31, 3) := by decide +kernel
theorem dX4_advance_132 : decode cX4_advance 132 = .ok (.aload_n 0, 1) := by decide +kernel
theorem dX4_advance_133 : decode cX4_advance 133 = .ok (.aload_n 0, 1) := by decide +kernel
theorem dX4_advance_134 : decode cX4_advance 134 = .ok (.getfield 63, 3) := by decide +kernel
theorem dX4_advance_137 : decode cX4_advance 137 = .ok (.iload_n 3, 1) := by decide +kernel
theorem dX4_advance_138 : decode cX4_advance 138 = .ok (.iaload, 1) := by decide +kernel
theorem dX4_advance_139 : decode cX4_advance 139 = .ok (.putfield 35, 3) := by decide +kernel
theorem dX4_advance_142 : decode cX4_advance 142 = .ok (.aload_n 0, 1) := by decide +kernel
theorem dX4_advance_143 : decode cX4_advance 143 = .ok (.dup, 1) := by decide +kernel
theorem dX4_advance_144 : decode cX4_advance 144 = .ok (.getfield 44, 3) := by decide +kernel
theorem dX4_advance_147 : decode cX4_advance 147 = .ok (.aload_n 0, 1) := by decide +kernel
theorem dX4_advance_148 : decode cX4_advance 148 = .ok (.getfield 54, 3) := by decide +kernel
theorem dX4_advance_151 : decode cX4_advance 151 = .ok (.iload 4, 2) := by decide +kernel
theorem dX4_advance_153 : decode cX4_advance 153 = .ok (.aload_n 0, 1) := by decide +kernel
theorem dX4_advance_154 : decode cX4_advance 154 = .ok (.getfield 35, 3) := by decide +kernel
theorem dX4_advance_157 : decode cX4_advance 157 = .ok (.invokevirtual 87, 3) := by decide +kernel
theorem dX4_advance_160 : decode cX4_advance 160 = .ok (.iadd, 1) := by decide +kernel
theorem dX4_advance_161 : decode cX4_advance 161 = .ok (.putfield 44, 3) := by decide +kernel
theorem dX4_advance_164 : decode cX4_advance 164 = .ok (.return_, 1) := by decide +kernel
theorem dX4_execute_0 : decode cX4_execute 0 = .ok (.aload_n 0, 1) := by decide +kernel
theorem dX4_execute_1 : decode cX4_execute 1 = .ok (.getfield 50, 3) := by decide +kernel
theorem dX4_execute_4 : decode cX4_execute 4 = .ok (.getfield 90, 3) := by decide +kernel
theorem dX4_execute_7 : decode cX4_execute 7 = .ok (.iload_n 1, 1) := by decide +kernel
theorem dX4_execute_8 : decode cX4_execute 8 = .ok (.iaload, 1) := by decide +kernel
theorem dX4_execute_9 : decode cX4_execute 9 = .ok (.istore_n 3, 1) := by decide +kernel
theorem dX4_execute_10 : decode cX4_execute 10 = .ok (.aload_n 0, 1) := by decide +kernel
theorem dX4_execute_11 : decode cX4_execute 11 = .ok (.getfield 50, 3) := by decide +kernel
theorem dX4_execute_14 : decode cX4_execute 14 = .ok (.iload_n 1, 1) := by decide +kernel
theorem dX4_execute_15 : decode cX4_execute 15 = .ok (.invokevirtual 93, 3) := by decide +kernel
theorem dX4_execute_18 : decode cX4_execute 18 = .ok (.ifCond .eq 9, 3) := by decide +kernel
theorem dX4_execute_21 : decode cX4_execute 21 = .ok (.iload_n 1, 1) := by decide +kernel
theorem dX4_execute_22 : decode cX4_execute 22 = .ok (.iconst 1, 1) := by decide +kernel
theorem dX4_execute_23 : decode cX4_execute 23 = .ok (.iadd, 1) := by decide +kernel
theorem dX4_execute_24 : decode cX4_execute 24 = .ok (.goto 5, 3) := by decide +kernel
theorem dX4_execute_27 : decode cX4_execute 27 = .ok (.bipush (-4), 2) := by decide +kernel
theorem dX4_execute_29 : decode cX4_execute 29 = .ok (.istore 4, 2) := by decide +kernel
theorem dX4_execute_31 : decode cX4_execute 31 = .ok (.iload_n 2, 1) := by decide +kernel
theorem dX4_execute_32 : decode cX4_execute 32 = .ok (.tableswitch 160 0 14 #[92, 152, 152, 152, 160, 160, 160, 160, 160, 100, 113, 76, 78, 126, 149], 76) := by decide +kernel
theorem dX4_execute_108 : decode cX4_execute 108 = .ok (.iload_n 3, 1) := by decide +kernel
theorem dX4_execute_109 : decode cX4_execute 109 = .ok (.ireturn, 1) := by decide +kernel
theorem dX4_execute_110 : decode cX4_execute 110 = .ok (.aload_n 0, 1) := by decide +kernel
theorem dX4_execute_111 : decode cX4_execute 111 = .ok (.invokevirtual 97, 3) := by decide +kernel
theorem dX4_execute_114 : decode cX4_execute 114 = .ok (.ifCond .ne 7, 3) := by decide +kernel
theorem dX4_execute_117 : decode cX4_execute 117 = .ok (.iload_n 3, 1) := by decide +kernel
theorem dX4_execute_118 : decode cX4_execute 118 = .ok (.goto 5, 3) := by decide +kernel
theorem dX4_execute_121 : decode cX4_execute 121 = .ok (.iload 4, 2) := by decide +kernel
theorem dX4_execute_123 : decode cX4_execute 123 = .ok (.ireturn, 1) := by decide +kernel
theorem dX4_execute_124 : decode cX4_execute 124 = .ok (.aload_n 0, 1) := by decide +kernel
theorem dX4_execute_125 : decode cX4_execute 125 = .ok (.iload_n 3, 1) := by decide +kernel
theorem dX4_execute_126 : decode cX4_execute 126 = .ok (.invokevirtual 101, 3) := by decide +kernel
theorem dX4_execute_129 : decode cX4_execute 129 = .ok (.goto 68, 3) := by decide +kernel
theorem dX4_execute_132 : decode cX4_execute 132 = .ok (.aload_n 0, 1) := by decide +kernel
theorem dX4_execute_133 : decode cX4_execute 133 = .ok (.aload_n 0, 1) := by decide +kernel
theorem dX4_execute_134 : decode cX4_execute 134 = .ok (.getfield 15, 3) := by decide +kernel
theorem dX4_execute_137 : decode cX4_execute 137 = .ok (.iload_n 3, 1) := by decide +kernel
theorem dX4_execute_138 : decode cX4_execute 138 = .ok (.iaload, 1) := by decide +kernel
theorem dX4_execute_139 : decode cX4_execute 139 = .ok (.invokevirtual 101, 3) := by decide +kernel
theorem dX4_execute_142 : decode cX4_execute 142 = .ok (.goto 55, 3) := by decide +kernel
theorem dX4_execute_145 : decode cX4_execute 145 = .ok (.aload_n 0, 1) := by decide +kernel
theorem dX4_execute_146 : decode cX4_execute 146 = .ok (.getfield 15, 3) := by decide +kernel
theorem dX4_execute_149 : decode cX4_execute 149 = .ok (.iload_n 3, 1) := by decide +kernel
theorem dX4_execute_150 : decode cX4_execute 150 = .ok (.aload_n 0, 1) := by decide +kernel
theorem dX4_execute_151 : decode cX4_execute 151 = .ok (.invokevirtual 97, 3) := by decide +kernel
theorem dX4_execute_154 : decode cX4_execute 154 = .ok (.iastore, 1) := by decide +kernel
theorem dX4_execute_155 : decode cX4_execute 155 = .ok (.goto 42, 3) := by decide +kernel
theorem dX4_execute_158 : decode cX4_execute 158 = .ok (.aload_n 0, 1) := by decide +kernel
theorem dX4_execute_159 : decode cX4_execute 159 = .ok (.getfield 18, 3) := by decide +kernel
theorem dX4_execute_162 : decode cX4_execute 162 = .ok (.aload_n 0, 1) := by decide +kernel
theorem dX4_execute_163 : decode cX4_execute 163 = .ok (.dup, 1) := by decide +kernel
theorem dX4_execute_164 : decode cX4_execute 164 = .ok (.getfield 41, 3) := by decide +kernel
theorem dX4_execute_167 : decode cX4_execute 167 = .ok (.dup_x1, 1) := by decide +kernel
theorem dX4_execute_168 : decode cX4_execute 168 = .ok (.iconst 1, 1) := by decide +kernel
theorem dX4_execute_169 : decode cX4_execute 169 = .ok (.iadd, 1) := by decide +kernel
theorem dX4_execute_170 : decode cX4_execute 170 = .ok (.putfield 41, 3) := by decide +kernel
theorem dX4_execute_173 : decode cX4_execute 173 = .ok (.aload_n 0, 1) := by decide +kernel
theorem dX4_execute_174 : decode cX4_execute 174 = .ok (.invokevirtual 97, 3) := by decide +kernel
theorem dX4_execute_177 : decode cX4_execute 177 = .ok (.iastore, 1) := by decide +kernel
theorem dX4_execute_178 : decode cX4_execute 178 = .ok (.goto 19, 3) := by decide +kernel
theorem dX4_execute_181 : decode cX4_execute 181 = .ok (.goto 16, 3) := by decide +kernel
theorem dX4_execute_184 : decode cX4_execute 184 = .ok (.aload_n 0, 1) := by decide +kernel
theorem dX4_execute_185 : decode cX4_execute 185 = .ok (.iload_n 2, 1) := by decide +kernel
theorem dX4_execute_186 : decode cX4_execute 186 = .ok (.invokevirtual 105, 3) := by decide +kernel
theorem dX4_execute_189 : decode cX4_execute 189 = .ok (.goto 8, 3) := by decide +kernel
theorem dX4_execute_192 : decode cX4_execute 192 = .ok (.aload_n 0, 1) := by decide +kernel
theorem dX4_execute_193 : decode cX4_execute 193 = .ok (.iload_n 2, 1) := by decide +kernel
theorem dX4_execute_194 : decode cX4_execute 194 = .ok (.invokevirtual 108, 3) := by decide +kernel
theorem dX4_execute_197 : decode cX4_execute 197 = .ok (.iload 4, 2) := by decide +kernel
theorem dX4_execute_199 : decode cX4_execute 199 = .ok (.ireturn, 1) := by decide +kernel
theorem dX4_calculate_0 : decode cX4_calculate 0 = .ok (.aload_n 0, 1) := by decide +kernel
theorem dX4_calculate_1 : decode cX4_calculate 1 = .ok (.invokevirtual 97, 3) := by decide +kernel
theorem dX4_calculate_4 : decode cX4_calculate 4 = .ok (.istore_n 2, 1) := by decide +kernel
theorem dX4_calculate_5 : decode cX4_calculate 5 = .ok (.aload_n 0, 1) := by decide +kernel
theorem dX4_calculate_6 : decode cX4_calculate 6 = .ok (.invokevirtual 97, 3) := by decide +kernel
theorem dX4_calculate_9 : decode cX4_calculate 9 = .ok (.istore_n 3, 1) := by decide +kernel
theorem dX4_calculate_10 : decode cX4_calculate 10 = .ok (.iload_n 1, 1) := by decide +kernel
theorem dX4_calculate_11 : decode cX4_calculate 11 = .ok (.iconst 1, 1) := by decide +kernel
theorem dX4_calculate_12 : decode cX4_calculate 12 = .ok (.if_icmp .ne 13, 3) := by decide +kernel
theorem dX4_calculate_15 : decode cX4_calculate 15 = .ok (.aload_n 0, 1) := by decide +kernel
theorem dX4_calculate_16 : decode cX4_calculate 16 = .ok (.iload_n 3, 1) := by decide +kernel
theorem dX4_calculate_17 : decode cX4_calculate 17 = .ok (.iload_n 2, 1) := by decide +kernel
theorem dX4_calculate_18 : decode cX4_calculate 18 = .ok (.iadd, 1) := by decide +kernel
theorem dX4_calculate_19 : decode cX4_calculate 19 = .ok (.invokevirtual 101, 3) := by decide +kernel
theorem dX4_calculate_22 : decode cX4_calculate 22 = .ok (.goto 25, 3) := by decide +kernel
theorem dX4_calculate_25 : decode cX4_calculate 25 = .ok (.iload_n 1, 1) := by decide +kernel
theorem dX4_calculate_26 : decode cX4_calculate 26 = .ok (.iconst 2, 1) := by decide +kernel
theorem dX4_calculate_27 : decode cX4_calculate 27 = .ok (.if_icmp .ne 13, 3) := by decide +kernel
theorem dX4_calculate_30 : decode cX4_calculate 30 = .ok (.aload_n 0, 1) := by decide +kernel
theorem dX4_calculate_31 : decode cX4_calculate 31 = .ok (.iload_n 3, 1) := by decide +kernel
theorem dX4_calculate_32 : decode cX4_calculate 32 = .ok (.iload_n 2, 1) := by decide +kernel
theorem dX4_calculate_33 : decode cX4_calculate 33 = .ok (.isub, 1) := by decide +kernel
theorem dX4_calculate_34 : decode cX4_calculate 34 = .ok (.invokevirtual 101, 3) := by decide +kernel
theorem dX4_calculate_37 : decode cX4_calculate 37 = .ok (.goto 10, 3) := by decide +kernel
theorem dX4_calculate_40 : decode cX4_calculate 40 = .ok (.aload_n 0, 1) := by decide +kernel
theorem dX4_calculate_41 : decode cX4_calculate 41 = .ok (.iload_n 3, 1) := by decide +kernel
theorem dX4_calculate_42 : decode cX4_calculate 42 = .ok (.iload_n 2, 1) := by decide +kernel
theorem dX4_calculate_43 : decode cX4_calculate 43 = .ok (.imul, 1) := by decide +kernel
theorem dX4_calculate_44 : decode cX4_calculate 44 = .ok (.invokevirtual 101, 3) := by decide +kernel
theorem dX4_calculate_47 : decode cX4_calculate 47 = .ok (.return_, 1) := by decide +kernel
theorem dX4_rearrange_0 : decode cX4_rearrange 0 = .ok (.aload_n 0, 1) := by decide +kernel
theorem dX4_rearrange_1 : decode cX4_rearrange 1 = .ok (.invokevirtual 97, 3) := by decide +kernel
theorem dX4_rearrange_4 : decode cX4_rearrange 4 = .ok (.istore_n 2, 1) := by decide +kernel
theorem dX4_rearrange_5 : decode cX4_rearrange 5 = .ok (.iload_n 1, 1) := by decide +kernel
theorem dX4_rearrange_6 : decode cX4_rearrange 6 = .ok (.bipush 6, 2) := by decide +kernel
theorem dX4_rearrange_8 : decode cX4_rearrange 8 = .ok (.if_icmp .ne 4, 3) := by decide +kernel
theorem dX4_rearrange_11 : decode cX4_rearrange 11 = .ok (.return_, 1) := by decide +kernel
theorem dX4_rearrange_12 : decode cX4_rearrange 12 = .ok (.iload_n 1, 1) := by decide +kernel
theorem dX4_rearrange_13 : decode cX4_rearrange 13 = .ok (.iconst 4, 1) := by decide +kernel
theorem dX4_rearrange_14 : decode cX4_rearrange 14 = .ok (.if_icmp .ne 14, 3) := by decide +kernel
theorem dX4_rearrange_17 : decode cX4_rearrange 17 = .ok (.aload_n 0, 1) := by decide +kernel
theorem dX4_rearrange_18 : decode cX4_rearrange 18 = .ok (.iload_n 2, 1) := by decide +kernel
theorem dX4_rearrange_19 : decode cX4_rearrange 19 = .ok (.invokevirtual 101, 3) := by decide +kernel
theorem dX4_rearrange_22 : decode cX4_rearrange 22 = .ok (.aload_n 0, 1) := by decide +kernel
theorem dX4_rearrange_23 : decode cX4_rearrange 23 = .ok (.iload_n 2, 1) := by decide +kernel
theorem dX4_rearrange_24 : decode cX4_rearrange 24 = .ok (.invokevirtual 101, 3) := by decide +kernel
theorem dX4_rearrange_27 : decode cX4_rearrange 27 = .ok (.return_, 1) := by decide +kernel
theorem dX4_rearrange_28 : decode cX4_rearrange 28 = .ok (.aload_n 0, 1) := by decide +kernel
theorem dX4_rearrange_29 : decode cX4_rearrange 29 = .ok (.invokevirtual 97, 3) := by decide +kernel
theorem dX4_rearrange_32 : decode cX4_rearrange 32 = .ok (.istore_n 3, 1) := by decide +kernel
theorem dX4_rearrange_33 : decode cX4_rearrange 33 = .ok (.iload_n 1, 1) := by decide +kernel
theorem dX4_rearrange_34 : decode cX4_rearrange 34 = .ok (.bipush 8, 2) := by decide +kernel
theorem dX4_rearrange_36 : decode cX4_rearrange 36 = .ok (.if_icmp .ne 26, 3) := by decide +kernel
theorem dX4_rearrange_39 : decode cX4_rearrange 39 = .ok (.aload_n 0, 1) := by decide +kernel
theorem dX4_rearrange_40 : decode cX4_rearrange 40 = .ok (.invokevirtual 97, 3) := by decide +kernel
theorem dX4_rearrange_43 : decode cX4_rearrange 43 = .ok (.istore 4, 2) := by decide +kernel
theorem dX4_rearrange_45 : decode cX4_rearrange 45 = .ok (.aload_n 0, 1) := by decide +kernel
theorem dX4_rearrange_46 : decode cX4_rearrange 46 = .ok (.iload_n 3, 1) := by decide +kernel
theorem dX4_rearrange_47 : decode cX4_rearrange 47 = .ok (.invokevirtual 101, 3) := by decide +kernel
theorem dX4_rearrange_50 : decode cX4_rearrange 50 = .ok (.aload_n 0, 1) := by decide +kernel
theorem dX4_rearrange_51 : decode cX4_rearrange 51 = .ok (.iload_n 2, 1) := by decide +kernel
theorem dX4_rearrange_52 : decode cX4_rearrange 52 = .ok (.invokevirtual 101, 3) := by decide +kernel
theorem dX4_rearrange_55 : decode cX4_rearrange 55 = .ok (.aload_n 0, 1) := by decide +kernel
theorem dX4_rearrange_56 : decode cX4_rearrange 56 = .ok (.iload 4, 2) := by decide +kernel
theorem dX4_rearrange_58 : decode cX4_rearrange 58 = .ok (.invokevirtual 101, 3) := by decide +kernel
theorem dX4_rearrange_61 : decode cX4_rearrange 61 = .ok (.return_, 1) := by decide +kernel
theorem dX4_rearrange_62 : decode cX4_rearrange 62 = .ok (.iload_n 1, 1) := by decide +kernel
theorem dX4_rearrange_63 : decode cX4_rearrange 63 = .ok (.bipush 7, 2) := by decide +kernel
theorem dX4_rearrange_65 : decode cX4_rearrange 65 = .ok (.if_icmp .ne 8, 3) := by decide +kernel
theorem dX4_rearrange_68 : decode cX4_rearrange 68 = .ok (.aload_n 0, 1) := by decide +kernel
theorem dX4_rearrange_69 : decode cX4_rearrange 69 = .ok (.iload_n 3, 1) := by decide +kernel
theorem dX4_rearrange_70 : decode cX4_rearrange 70 = .ok (.invokevirtual 101, 3) := by decide +kernel
theorem dX4_rearrange_73 : decode cX4_rearrange 73 = .ok (.aload_n 0, 1) := by decide +kernel
theorem dX4_rearrange_74 : decode cX4_rearrange 74 = .ok (.iload_n 2, 1) := by decide +kernel
theorem dX4_rearrange_75 : decode cX4_rearrange 75 = .ok (.invokevirtual 101, 3) := by decide +kernel
theorem dX4_rearrange_78 : decode cX4_rearrange 78 = .ok (.aload_n 0, 1) := by decide +kernel
theorem dX4_rearrange_79 : decode cX4_rearrange 79 = .ok (.iload_n 3, 1) := by decide +kernel
theorem dX4_rearrange_80 : decode cX4_rearrange 80 = .ok (.invokevirtual 101, 3) := by decide +kernel
theorem dX4_rearrange_83 : decode cX4_rearrange 83 = .ok (.return_, 1) := by decide +kernel
theorem dX4_push_0 : decode cX4_push 0 = .ok (.aload_n 0, 1) := by decide +kernel
theorem dX4_push_1 : decode cX4_push 1 = .ok (.getfield 38, 3) := by decide +kernel
theorem dX4_push_4 : decode cX4_push 4 = .ok (.aload_n 0, 1) := by decide +kernel
theorem dX4_push_5 : decode cX4_push 5 = .ok (.getfield 9, 3) := by decide +kernel
theorem dX4_push_8 : decode cX4_push 8 = .ok (.arraylength, 1) := by decide +kernel
theorem dX4_push_9 : decode cX4_push 9 = .ok (.if_icmp .ge 20, 3) := by decide +kernel
theorem dX4_push_12 : decode cX4_push 12 = .ok (.aload_n 0, 1) := by decide +kernel
theorem dX4_push_13 : decode cX4_push 13 = .ok (.getfield 9, 3) := by decide +kernel
theorem dX4_push_16 : decode cX4_push 16 = .ok (.aload_n 0, 1) := by decide +kernel
theorem dX4_push_17 : decode cX4_push 17 = .ok (.dup, 1) := by decide +kernel
theorem dX4_push_18 : decode cX4_push 18 = .ok (.getfield 38, 3) := by decide +kernel
theorem dX4_push_21 : decode cX4_push 21 = .ok (.dup_x1, 1) := by decide +kernel
theorem dX4_push_22 : decode cX4_push 22 = .ok (.iconst 1, 1) := by decide +kernel
theorem dX4_push_23 : decode cX4_push 23 = .ok (.iadd, 1) := by decide +kernel
theorem dX4_push_24 : decode cX4_push 24 = .ok (.putfield 38, 3) := by decide +kernel
theorem dX4_push_27 : decode cX4_push 27 = .ok (.iload_n 1, 1) := by decide +kernel
theorem dX4_push_28 : decode cX4_push 28 = .ok (.iastore, 1) := by decide +kernel
theorem dX4_push_29 : decode cX4_push 29 = .ok (.return_, 1) := by decide +kernel
theorem dX4_pop_0 : decode cX4_pop 0 = .ok (.aload_n 0, 1) := by decide +kernel
theorem dX4_pop_1 : decode cX4_pop 1 = .ok (.getfield 38, 3) := by decide +kernel
theorem dX4_pop_4 : decode cX4_pop 4 = .ok (.ifCond .le 22, 3) := by decide +kernel
theorem dX4_pop_7 : decode cX4_pop 7 = .ok (.aload_n 0, 1) := by decide +kernel
theorem dX4_pop_8 : decode cX4_pop 8 = .ok (.getfield 9, 3) := by decide +kernel
theorem dX4_pop_11 : decode cX4_pop 11 = .ok (.aload_n 0, 1) := by decide +kernel
theorem dX4_pop_12 : decode cX4_pop 12 = .ok (.dup, 1) := by decide +kernel
theorem dX4_pop_13 : decode cX4_pop 13 = .ok (.getfield 38, 3) := by decide +kernel
theorem dX4_pop_16 : decode cX4_pop 16 = .ok (.iconst 1, 1) := by decide +kernel
theorem dX4_pop_17 : decode cX4_pop 17 = .ok (.isub, 1) := by decide +kernel
theorem dX4_pop_18 : decode cX4_pop 18 = .ok (.dup_x1, 1) := by decide +kernel
theorem dX4_pop_19 : decode cX4_pop 19 = .ok (.putfield 38, 3) := by decide +kernel
theorem dX4_pop_22 : decode cX4_pop 22 = .ok (.iaload, 1) := by decide +kernel
theorem dX4_pop_23 : decode cX4_pop 23 = .ok (.goto 4, 3) := by decide +kernel
theorem dX4_pop_26 : decode cX4_pop 26 = .ok (.iconst 0, 1) := by decide +kernel
theorem dX4_pop_27 : decode cX4_pop 27 = .ok (.ireturn, 1) := by decide +kernel
theorem dX4_cellAt_0 : decode cX4_cellAt 0 = .ok (.iload_n 1, 1) := by decide +kernel
theorem dX4_cellAt_1 : decode cX4_cellAt 1 = .ok (.ifCond .lt 27, 3) := by decide +kernel
theorem dX4_cellAt_4 : decode cX4_cellAt 4 = .ok (.iload_n 1, 1) := by decide +kernel
theorem dX4_cellAt_5 : decode cX4_cellAt 5 = .ok (.aload_n 0, 1) := by decide +kernel
theorem dX4_cellAt_6 : decode cX4_cellAt 6 = .ok (.getfield 38, 3) := by decide +kernel
theorem dX4_cellAt_9 : decode cX4_cellAt 9 = .ok (.if_icmp .ge 19, 3) := by decide +kernel
theorem dX4_cellAt_12 : decode cX4_cellAt 12 = .ok (.aload_n 0, 1) := by decide +kernel
theorem dX4_cellAt_13 : decode cX4_cellAt 13 = .ok (.getfield 9, 3) := by decide +kernel
theorem dX4_cellAt_16 : decode cX4_cellAt 16 = .ok (.aload_n 0, 1) := by decide +kernel
theorem dX4_cellAt_17 : decode cX4_cellAt 17 = .ok (.getfield 38, 3) := by decide +kernel
theorem dX4_cellAt_20 : decode cX4_cellAt 20 = .ok (.iconst 1, 1) := by decide +kernel
theorem dX4_cellAt_21 : decode cX4_cellAt 21 = .ok (.isub, 1) := by decide +kernel
theorem dX4_cellAt_22 : decode cX4_cellAt 22 = .ok (.iload_n 1, 1) := by decide +kernel
theorem dX4_cellAt_23 : decode cX4_cellAt 23 = .ok (.isub, 1) := by decide +kernel
theorem dX4_cellAt_24 : decode cX4_cellAt 24 = .ok (.iaload, 1) := by decide +kernel
theorem dX4_cellAt_25 : decode cX4_cellAt 25 = .ok (.goto 4, 3) := by decide +kernel
theorem dX4_cellAt_28 : decode cX4_cellAt 28 = .ok (.iconst 0, 1) := by decide +kernel
theorem dX4_cellAt_29 : decode cX4_cellAt 29 = .ok (.ireturn, 1) := by decide +kernel
theorem dX4_weightOf_0 : decode cX4_weightOf 0 = .ok (.aload_n 0, 1) := by decide +kernel
theorem dX4_weightOf_1 : decode cX4_weightOf 1 = .ok (.getfield 21, 3) := by decide +kernel
theorem dX4_weightOf_4 : decode cX4_weightOf 4 = .ok (.iload_n 1, 1) := by decide +kernel
theorem dX4_weightOf_5 : decode cX4_weightOf 5 = .ok (.iaload, 1) := by decide +kernel
theorem dX4_weightOf_6 : decode cX4_weightOf 6 = .ok (.iconst 1, 1) := by decide +kernel
theorem dX4_weightOf_7 : decode cX4_weightOf 7 = .ok (.iadd, 1) := by decide +kernel
theorem dX4_weightOf_8 : decode cX4_weightOf 8 = .ok (.sipush 999, 3) := by decide +kernel
theorem dX4_weightOf_11 : decode cX4_weightOf 11 = .ok (.invokestatic 111, 3) := by decide +kernel
theorem dX4_weightOf_14 : decode cX4_weightOf 14 = .ok (.ireturn, 1) := by decide +kernel
theorem dX5_init_0 : decode cX5_init 0 = .ok (.aload_n 0, 1) := by decide +kernel
theorem dX5_init_1 : decode cX5_init 1 = .ok (.invokespecial 3, 3) := by decide +kernel
theorem dX5_init_4 : decode cX5_init 4 = .ok (.aload_n 0, 1) := by decide +kernel
theorem dX5_init_5 : decode cX5_init 5 = .ok (.iconst 2, 1) := by decide +kernel
theorem dX5_init_6 : decode cX5_init 6 = .ok (.putfield 9, 3) := by decide +kernel
theorem dX5_init_9 : decode cX5_init 9 = .ok (.aload_n 0, 1) := by decide +kernel
theorem dX5_init_10 : decode cX5_init 10 = .ok (.iconst 1, 1) := by decide +kernel
theorem dX5_init_11 : decode cX5_init 11 = .ok (.putfield 15, 3) := by decide +kernel
theorem dX5_init_14 : decode cX5_init 14 = .ok (.aload_n 0, 1) := by decide +kernel
theorem dX5_init_15 : decode cX5_init 15 = .ok (.iconst 2, 1) := by decide +kernel
theorem dX5_init_16 : decode cX5_init 16 = .ok (.putfield 18, 3) := by decide +kernel
theorem dX5_init_19 : decode cX5_init 19 = .ok (.aload_n 0, 1) := by decide +kernel
theorem dX5_init_20 : decode cX5_init 20 = .ok (.iconst 2, 1) := by decide +kernel
theorem dX5_init_21 : decode cX5_init 21 = .ok (.putfield 21, 3) := by decide +kernel
theorem dX5_init_24 : decode cX5_init 24 = .ok (.aload_n 0, 1) := by decide +kernel
theorem dX5_init_25 : decode cX5_init 25 = .ok (.bipush 24, 2) := by decide +kernel
theorem dX5_init_27 : decode cX5_init 27 = .ok (.newarray .int, 2) := by decide +kernel
theorem dX5_init_29 : decode cX5_init 29 = .ok (.putfield 24, 3) := by decide +kernel
theorem dX5_init_32 : decode cX5_init 32 = .ok (.aload_n 0, 1) := by decide +kernel
theorem dX5_init_33 : decode cX5_init 33 = .ok (.iconst 0, 1) := by decide +kernel
theorem dX5_init_34 : decode cX5_init 34 = .ok (.putfield 28, 3) := by decide +kernel
theorem dX5_init_37 : decode cX5_init 37 = .ok (.aload_n 0, 1) := by decide +kernel
theorem dX5_init_38 : decode cX5_init 38 = .ok (.sipush 168, 3) := by decide +kernel
theorem dX5_init_41 : decode cX5_init 41 = .ok (.newarray .int, 2) := by decide +kernel
theorem dX5_init_43 : decode cX5_init 43 = .ok (.putfield 31, 3) := by decide +kernel
theorem dX5_init_46 : decode cX5_init 46 = .ok (.aload_n 0, 1) := by decide +kernel
theorem dX5_init_47 : decode cX5_init 47 = .ok (.iconst 0, 1) := by decide +kernel
theorem dX5_init_48 : decode cX5_init 48 = .ok (.putfield 34, 3) := by decide +kernel
theorem dX5_init_51 : decode cX5_init 51 = .ok (.aload_n 0, 1) := by decide +kernel
theorem dX5_init_52 : decode cX5_init 52 = .ok (.getfield 24, 3) := by decide +kernel
theorem dX5_init_55 : decode cX5_init 55 = .ok (.iconst 1, 1) := by decide +kernel
theorem dX5_init_56 : decode cX5_init 56 = .ok (.invokestatic 37, 3) := by decide +kernel
theorem dX5_init_59 : decode cX5_init 59 = .ok (.return_, 1) := by decide +kernel
theorem dX5_resetWeights_0 : decode cX5_resetWeights 0 = .ok (.aload_n 0, 1) := by decide +kernel
theorem dX5_resetWeights_1 : decode cX5_resetWeights 1 = .ok (.getfield 24, 3) := by decide +kernel
theorem dX5_resetWeights_4 : decode cX5_resetWeights 4 = .ok (.iconst 1, 1) := by decide +kernel
theorem dX5_resetWeights_5 : decode cX5_resetWeights 5 = .ok (.invokestatic 37, 3) := by decide +kernel
theorem dX5_resetWeights_8 : decode cX5_resetWeights 8 = .ok (.return_, 1) := by decide +kernel
theorem dX5_forgetChanges_0 : decode cX5_forgetChanges 0 = .ok (.aload_n 0, 1) := by decide +kernel
theorem dX5_forgetChanges_1 : decode cX5_forgetChanges 1 = .ok (.iconst 0, 1) := by decide +kernel
theorem dX5_forgetChanges_2 : decode cX5_forgetChanges 2 = .ok (.putfield 28, 3) := by decide +kernel
theorem dX5_forgetChanges_5 : decode cX5_forgetChanges 5 = .ok (.return_, 1) := by decide +kernel
theorem dX5_remember_0 : decode cX5_remember 0 = .ok (.aload_n 0, 1) := by decide +kernel
theorem dX5_remember_1 : decode cX5_remember 1 = .ok (.getfield 34, 3) := by decide +kernel
theorem dX5_remember_4 : decode cX5_remember 4 = .ok (.bipush 28, 2) := by decide +kernel
theorem dX5_remember_6 : decode cX5_remember 6 = .ok (.imul, 1) := by decide +kernel
theorem dX5_remember_7 : decode cX5_remember 7 = .ok (.istore_n 1, 1) := by decide +kernel
theorem dX5_remember_8 : decode cX5_remember 8 = .ok (.aload_n 0, 1) := by decide +kernel
theorem dX5_remember_9 : decode cX5_remember 9 = .ok (.getfield 31, 3) := by decide +kernel
theorem dX5_remember_12 : decode cX5_remember 12 = .ok (.iload_n 1, 1) := by decide +kernel
theorem dX5_remember_13 : decode cX5_remember 13 = .ok (.aload_n 0, 1) := by decide +kernel
theorem dX5_remember_14 : decode cX5_remember 14 = .ok (.getfield 9, 3) := by decide +kernel
theorem dX5_remember_17 : decode cX5_remember 17 = .ok (.iastore, 1) := by decide +kernel
theorem dX5_remember_18 : decode cX5_remember 18 = .ok (.aload_n 0, 1) := by decide +kernel
theorem dX5_remember_19 : decode cX5_remember 19 = .ok (.getfield 31, 3) := by decide +kernel
theorem dX5_remember_22 : decode cX5_remember 22 = .ok (.iload_n 1, 1) := by decide +kernel
theorem dX5_remember_23 : decode cX5_remember 23 = .ok (.iconst 1, 1) := by decide +kernel
theorem dX5_remember_24 : decode cX5_remember 24 = .ok (.iadd, 1) := by decide +kernel
theorem dX5_remember_25 : decode cX5_remember 25 = .ok (.aload_n 0, 1) := by decide +kernel
theorem dX5_remember_26 : decode cX5_remember 26 = .ok (.getfield 15, 3) := by decide +kernel
theorem dX5_remember_29 : decode cX5_remember 29 = .ok (.iastore, 1) := by decide +kernel
theorem dX5_remember_30 : decode cX5_remember 30 = .ok (.aload_n 0, 1) := by decide +kernel
theorem dX5_remember_31 : decode cX5_remember 31 = .ok (.getfield 31, 3) := by decide +kernel
theorem dX5_remember_34 : decode cX5_remember 34 = .ok (.iload_n 1, 1) := by decide +kernel
theorem dX5_remember_35 : decode cX5_remember 35 = .ok (.iconst 2, 1) := by decide +kernel
theorem dX5_remember_36 : decode cX5_remember 36 = .ok (.iadd, 1) := by decide +kernel
theorem dX5_remember_37 : decode cX5_remember 37 = .ok (.aload_n 0, 1) := by decide +kernel
theorem dX5_remember_38 : decode cX5_remember 38 = .ok (.getfield 18, 3) := by decide +kernel
theorem dX5_remember_41 : decode cX5_remember 41 = .ok (.iastore, 1) := by decide +kernel
theorem dX5_remember_42 : decode cX5_remember 42 = .ok (.aload_n 0, 1) := by decide +kernel
theorem dX5_remember_43 : decode cX5_remember 43 = .ok (.getfield 31, 3) := by decide +kernel
theorem dX5_remember_46 : decode cX5_remember 46 = .ok (.iload_n 1, 1) := by decide +kernel
theorem dX5_remember_47 : decode cX5_remember 47 = .ok (.iconst 3, 1) := by decide +kernel
theorem dX5_remember_48 : decode cX5_remember 48 = .ok (.iadd, 1) := by decide +kernel
theorem dX5_remember_49 : decode cX5_remember 49 = .ok (.aload_n 0, 1) := by decide +kernel
theorem dX5_remember_50 : decode cX5_remember 50 = .ok (.getfield 21, 3) := by decide +kernel
theorem dX5_remember_53 : decode cX5_remember 53 = .ok (.iastore, 1) := by decide +kernel
theorem dX5_remember_54 : decode cX5_remember 54 = .ok (.aload_n 0, 1) := by decide +kernel
theorem dX5_remember_55 : decode cX5_remember 55 = .ok (.getfield 24, 3) := by decide +kernel
theorem dX5_remember_58 : decode cX5_remember 58 = .ok (.iconst 0, 1) := by decide +kernel
theorem dX5_remember_59 : decode cX5_remember 59 = .ok (.aload_n 0, 1) := by decide +kernel
theorem dX5_remember_60 : decode cX5_remember 60 = .ok (.getfield 31, 3) := by decide +kernel
theorem dX5_remember_63 : decode cX5_remember 63 = .ok (.iload_n 1, 1) := by decide +kernel
theorem dX5_remember_64 : decode cX5_remember 64 = .ok (.iconst 4, 1) := by decide +kernel
theorem dX5_remember_65 : decode cX5_remember 65 = .ok (.iadd, 1) := by decide +kernel
theorem dX5_remember_66 : decode cX5_remember 66 = .ok (.bipush 24, 2) := by decide +kernel
theorem dX5_remember_68 : decode cX5_remember 68 = .ok (.invokestatic 43, 3) := by decide +kernel
theorem dX5_remember_71 : decode cX5_remember 71 = .ok (.aload_n 0, 1) := by decide +kernel
theorem dX5_remember_72 : decode cX5_remember 72 = .ok (.aload_n 0, 1) := by decide +kernel
theorem dX5_remember_73 : decode cX5_remember 73 = .ok (.getfield 34, 3) := by decide +kernel
theorem dX5_remember_76 : decode cX5_remember 76 = .ok (.iconst 1, 1) := by decide +kernel
theorem dX5_remember_77 : decode cX5_remember 77 = .ok (.iadd, 1) := by decide +kernel
theorem dX5_remember_78 : decode cX5_remember 78 = .ok (.bipush 6, 2) := by decide +kernel
theorem dX5_remember_80 : decode cX5_remember 80 = .ok (.if_icmp .ge 12, 3) := by decide +kernel
theorem dX5_remember_83 : decode cX5_remember 83 = .ok (.aload_n 0, 1) := by decide +kernel
theorem dX5_remember_84 : decode cX5_remember 84 = .ok (.getfield 34, 3) := by decide +kernel
theorem dX5_remember_87 : decode cX5_remember 87 = .ok (.iconst 1, 1) := by decide +kernel
theorem dX5_remember_88 : decode cX5_remember 88 = .ok (.iadd, 1) := by decide +kernel
theorem dX5_remember_89 : decode cX5_remember 89 = .ok (.goto 4, 3) := by decide +kernel
theorem dX5_remember_92 : decode cX5_remember 92 = .ok (.iconst 0, 1) := by decide +kernel
theorem dX5_remember_93 : decode cX5_remember 93 = .ok (.putfield 34, 3) := by decide +kernel
theorem dX5_remember_96 : decode cX5_remember 96 = .ok (.aload_n 0, 1) := by decide +kernel
theorem dX5_remember_97 : decode cX5_remember 97 = .ok (.aload_n 0, 1) := by decide +kernel
theorem dX5_remember_98 : decode cX5_remember 98 = .ok (.getfield 28, 3) := by decide +kernel
theorem dX5_remember_101 : decode cX5_remember 101 = .ok (.iconst 1, 1) := by decide +kernel
theorem dX5_remember_102 : decode cX5_remember 102 = .ok (.iadd, 1) := by decide +kernel
theorem dX5_remember_103 : decode cX5_remember 103 = .ok (.bipush 6, 2) := by decide +kernel
theorem dX5_remember_105 : decode cX5_remember 105 = .ok (.invokestatic 49, 3) := by decide +kernel
theorem dX5_remember_108 : decode cX5_remember 108 = .ok (.putfield 28, 3) := by decide +kernel
theorem dX5_remember_111 : decode cX5_remember 111 = .ok (.return_, 1) := by decide +kernel
theorem dX5_recall_0 : decode cX5_recall 0 = .ok (.aload_n 0, 1) := by decide +kernel
theorem dX5_recall_1 : decode cX5_recall 1 = .ok (.aload_n 0, 1) := by decide +kernel
theorem dX5_recall_2 : decode cX5_recall 2 = .ok (.getfield 34, 3) := by decide +kernel
theorem dX5_recall_5 : decode cX5_recall 5 = .ok (.ifCond .le 12, 3) := by decide +kernel
theorem dX5_recall_8 : decode cX5_recall 8 = .ok (.aload_n 0, 1) := by decide +kernel
theorem dX5_recall_9 : decode cX5_recall 9 = .ok (.getfield 34, 3) := by decide +kernel
theorem dX5_recall_12 : decode cX5_recall 12 = .ok (.iconst 1, 1) := by decide +kernel
theorem dX5_recall_13 : decode cX5_recall 13 = .ok (.isub, 1) := by decide +kernel
theorem dX5_recall_14 : decode cX5_recall 14 = .ok (.goto 4, 3) := by decide +kernel
theorem dX5_recall_17 : decode cX5_recall 17 = .ok (.iconst 5, 1) := by decide +kernel
theorem dX5_recall_18 : decode cX5_recall 18 = .ok (.putfield 34, 3) := by decide +kernel
theorem dX5_recall_21 : decode cX5_recall 21 = .ok (.aload_n 0, 1) := by decide +kernel
theorem dX5_recall_22 : decode cX5_recall 22 = .ok (.dup, 1) := by decide +kernel
theorem dX5_recall_23 : decode cX5_recall 23 = .ok (.getfield 28, 3) := by decide +kernel
theorem dX5_recall_26 : decode cX5_recall 26 = .ok (.iconst 1, 1) := by decide +kernel
theorem dX5_recall_27 : decode cX5_recall 27 = .ok (.isub, 1) := by decide +kernel
theorem dX5_recall_28 : decode cX5_recall 28 = .ok (.putfield 28, 3) := by decide +kernel
theorem dX5_recall_31 : decode cX5_recall 31 = .ok (.aload_n 0, 1) := by decide +kernel
theorem dX5_recall_32 : decode cX5_recall 32 = .ok (.getfield 34, 3) := by decide +kernel
theorem dX5_recall_35 : decode cX5_recall 35 = .ok (.bipush 28, 2) := by decide +kernel
theorem dX5_recall_37 : decode cX5_recall 37 = .ok (.imul, 1) := by decide +kernel
theorem dX5_recall_38 : decode cX5_recall 38 = .ok (.istore_n 1, 1) := by decide +kernel
theorem dX5_recall_39 : decode cX5_recall 39 = .ok (.aload_n 0, 1) := by decide +kernel
theorem dX5_recall_40 : decode cX5_recall 40 = .ok (.aload_n 0, 1) := by decide +kernel
theorem dX5_recall_41 : decode cX5_recall 41 = .ok (.getfield 31, 3) := by decide +kernel
theorem dX5_recall_44 : decode cX5_recall 44 = .ok (.iload_n 1, 1) := by decide +kernel
theorem dX5_recall_45 : decode cX5_recall 45 = .ok (.iaload, 1) := by decide +kernel
theorem dX5_recall_46 : decode cX5_recall 46 = .ok (.putfield 9, 3) := by decide +kernel
theorem dX5_recall_49 : decode cX5_recall 49 = .ok (.aload_n 0, 1) := by decide +kernel
theorem dX5_recall_50 : decode cX5_recall 50 = .ok (.aload_n 0, 1) := by decide +kernel
theorem dX5_recall_51 : decode cX5_recall 51 = .ok (.getfield 31, 3) := by decide +kernel
theorem dX5_recall_54 : decode cX5_recall 54 = .ok (.iload_n 1, 1) := by decide +kernel
theorem dX5_recall_55 : decode cX5_recall 55 = .ok (.iconst 1, 1) := by decide +kernel
theorem dX5_recall_56 : decode cX5_recall 56 = .ok (.iadd, 1) := by decide +kernel
theorem dX5_recall_57 : decode cX5_recall 57 = .ok (.iaload, 1) := by decide +kernel
theorem dX5_recall_58 : decode cX5_recall 58 = .ok (.putfield 15, 3) := by decide +kernel
theorem dX5_recall_61 : decode cX5_recall 61 = .ok (.aload_n 0, 1) := by decide +kernel
theorem dX5_recall_62 : decode cX5_recall 62 = .ok (.aload_n 0, 1) := by decide +kernel
theorem dX5_recall_63 : decode cX5_recall 63 = .ok (.getfield 31, 3) := by decide +kernel
theorem dX5_recall_66 : decode cX5_recall 66 = .ok (.iload_n 1, 1) := by decide +kernel
theorem dX5_recall_67 : decode cX5_recall 67 = .ok (.iconst 2, 1) := by decide +kernel
theorem dX5_recall_68 : decode cX5_recall 68 = .ok (.iadd, 1) := by decide +kernel
theorem dX5_recall_69 : decode cX5_recall 69 = .ok (.iaload, 1) := by decide +kernel
theorem dX5_recall_70 : decode cX5_recall 70 = .ok (.putfield 18, 3) := by decide +kernel
theorem dX5_recall_73 : decode cX5_recall 73 = .ok (.aload_n 0, 1) := by decide +kernel
theorem dX5_recall_74 : decode cX5_recall 74 = .ok (.aload_n 0, 1) := by decide +kernel
theorem dX5_recall_75 : decode cX5_recall 75 = .ok (.getfield 31, 3) := by decide +kernel
theorem dX5_recall_78 : decode cX5_recall 78 = .ok (.iload_n 1, 1) := by decide +kernel
theorem dX5_recall_79 : decode cX5_recall 79 = .ok (.iconst 3, 1) := by decide +kernel
theorem dX5_recall_80 : decode cX5_recall 80 = .ok (.iadd, 1) := by decide +kernel
theorem dX5_recall_81 : decode cX5_recall 81 = .ok (.iaload, 1) := by decide +kernel
theorem dX5_recall_82 : decode cX5_recall 82 = .ok (.putfield 21, 3) := by decide +kernel
theorem dX5_recall_85 : decode cX5_recall 85 = .ok (.aload_n 0, 1) := by decide +kernel
theorem dX5_recall_86 : decode cX5_recall 86 = .ok (.getfield 31, 3) := by decide +kernel
theorem dX5_recall_89 : decode cX5_recall 89 = .ok (.iload_n 1, 1) := by decide +kernel
theorem dX5_recall_90 : decode cX5_recall 90 = .ok (.iconst 4, 1) := by decide +kernel
theorem dX5_recall_91 : decode cX5_recall 91 = .ok (.iadd, 1) := by decide +kernel
theorem dX5_recall_92 : decode cX5_recall 92 = .ok (.aload_n 0, 1) := by decide +kernel
theorem dX5_recall_93 : decode cX5_recall 93 = .ok (.getfield 24, 3) := by decide +kernel
theorem dX5_recall_96 : decode cX5_recall 96 = .ok (.iconst 0, 1) := by decide +kernel
theorem dX5_recall_97 : decode cX5_recall 97 = .ok (.bipush 24, 2) := by decide +kernel
theorem dX5_recall_99 : decode cX5_recall 99 = .ok (.invokestatic 43, 3) := by decide +kernel
theorem dX5_recall_102 : decode cX5_recall 102 = .ok (.return_, 1) := by decide +kernel
theorem dX6_init_0 : decode cX6_init 0 = .ok (.aload_n 0, 1) := by decide +kernel
theorem dX6_init_1 : decode cX6_init 1 = .ok (.invokespecial 3, 3) := by decide +kernel
theorem dX6_init_4 : decode cX6_init 4 = .ok (.aload_n 0, 1) := by decide +kernel
theorem dX6_init_5 : decode cX6_init 5 = .ok (.sipush 200, 3) := by decide +kernel
theorem dX6_init_8 : decode cX6_init 8 = .ok (.newarray .int, 2) := by decide +kernel
theorem dX6_init_10 : decode cX6_init 10 = .ok (.putfield 9, 3) := by decide +kernel
theorem dX6_init_13 : decode cX6_init 13 = .ok (.aload_n 0, 1) := by decide +kernel
theorem dX6_init_14 : decode cX6_init 14 = .ok (.iconst 0, 1) := by decide +kernel
theorem dX6_init_15 : decode cX6_init 15 = .ok (.putfield 15, 3) := by decide +kernel
theorem dX6_init_18 : decode cX6_init 18 = .ok (.return_, 1) := by decide +kernel
theorem dX6_append_0 : decode cX6_append 0 = .ok (.aload_n 0, 1) := by decide +kernel
theorem dX6_append_1 : decode cX6_append 1 = .ok (.getfield 15, 3) := by decide +kernel
theorem dX6_append_4 : decode cX6_append 4 = .ok (.aload_n 0, 1) := by decide +kernel
theorem dX6_append_5 : decode cX6_append 5 = .ok (.getfield 9, 3) := by decide +kernel
theorem dX6_append_8 : decode cX6_append 8 = .ok (.arraylength, 1) := by decide +kernel
theorem dX6_append_9 : decode cX6_append 9 = .ok (.if_icmp .ge 20, 3) := by decide +kernel
theorem dX6_append_12 : decode cX6_append 12 = .ok (.aload_n 0, 1) := by decide +kernel
theorem dX6_append_13 : decode cX6_append 13 = .ok (.getfield 9, 3) := by decide +kernel
theorem dX6_append_16 : decode cX6_append 16 = .ok (.aload_n 0, 1) := by decide +kernel
theorem dX6_append_17 : decode cX6_append 17 = .ok (.dup, 1) := by decide +kernel
theorem dX6_append_18 : decode cX6_append 18 = .ok (.getfield 15, 3) := by decide +kernel
theorem dX6_append_21 : decode cX6_append 21 = .ok (.dup_x1, 1) := by decide +kernel
theorem dX6_append_22 : decode cX6_append 22 = .ok (.iconst 1, 1) := by decide +kernel
theorem dX6_append_23 : decode cX6_append 23 = .ok (.iadd, 1) := by decide +kernel
theorem dX6_append_24 : decode cX6_append 24 = .ok (.putfield 15, 3) := by decide +kernel
theorem dX6_append_27 : decode cX6_append 27 = .ok (.iload_n 1, 1) := by decide +kernel
theorem dX6_append_28 : decode cX6_append 28 = .ok (.iastore, 1) := by decide +kernel
theorem dX6_append_29 : decode cX6_append 29 = .ok (.return_, 1) := by decide +kernel
theorem dX6_empty_0 : decode cX6_empty 0 = .ok (.aload_n 0, 1) := by decide +kernel
theorem dX6_empty_1 : decode cX6_empty 1 = .ok (.getfield 15, 3) := by decide +kernel
theorem dX6_empty_4 : decode cX6_empty 4 = .ok (.istore_n 1, 1) := by decide +kernel
theorem dX6_empty_5 : decode cX6_empty 5 = .ok (.aload_n 0, 1) := by decide +kernel
theorem dX6_empty_6 : decode cX6_empty 6 = .ok (.iconst 0, 1) := by decide +kernel
theorem dX6_empty_7 : decode cX6_empty 7 = .ok (.putfield 15, 3) := by decide +kernel
theorem dX6_empty_10 : decode cX6_empty 10 = .ok (.iload_n 1, 1) := by decide +kernel
theorem dX6_empty_11 : decode cX6_empty 11 = .ok (.ireturn, 1) := by decide +kernel
theorem dX6_letterAt_0 : decode cX6_letterAt 0 = .ok (.iload_n 1, 1) := by decide +kernel
theorem dX6_letterAt_1 : decode cX6_letterAt 1 = .ok (.ifCond .lt 20, 3) := by decide +kernel
theorem dX6_letterAt_4 : decode cX6_letterAt 4 = .ok (.iload_n 1, 1) := by decide +kernel
theorem dX6_letterAt_5 : decode cX6_letterAt 5 = .ok (.aload_n 0, 1) := by decide +kernel
theorem dX6_letterAt_6 : decode cX6_letterAt 6 = .ok (.getfield 15, 3) := by decide +kernel
theorem dX6_letterAt_9 : decode cX6_letterAt 9 = .ok (.if_icmp .ge 12, 3) := by decide +kernel
theorem dX6_letterAt_12 : decode cX6_letterAt 12 = .ok (.aload_n 0, 1) := by decide +kernel
theorem dX6_letterAt_13 : decode cX6_letterAt 13 = .ok (.getfield 9, 3) := by decide +kernel
theorem dX6_letterAt_16 : decode cX6_letterAt 16 = .ok (.iload_n 1, 1) := by decide +kernel
theorem dX6_letterAt_17 : decode cX6_letterAt 17 = .ok (.iaload, 1) := by decide +kernel
theorem dX6_letterAt_18 : decode cX6_letterAt 18 = .ok (.goto 4, 3) := by decide +kernel
theorem dX6_letterAt_21 : decode cX6_letterAt 21 = .ok (.iconst 0, 1) := by decide +kernel
theorem dX6_letterAt_22 : decode cX6_letterAt 22 = .ok (.ireturn, 1) := by decide +kernel
theorem dX6_hasDigitAt_0 : decode cX6_hasDigitAt 0 = .ok (.aload_n 0, 1) := by decide +kernel
theorem dX6_hasDigitAt_1 : decode cX6_hasDigitAt 1 = .ok (.iload_n 1, 1) := by decide +kernel
theorem dX6_hasDigitAt_2 : decode cX6_hasDigitAt 2 = .ok (.invokevirtual 19, 3) := by decide +kernel
theorem dX6_hasDigitAt_5 : decode cX6_hasDigitAt 5 = .ok (.bipush 48, 2) := by decide +kernel
theorem dX6_hasDigitAt_7 : decode cX6_hasDigitAt 7 = .ok (.if_icmp .lt 17, 3) := by decide +kernel
theorem dX6_hasDigitAt_10 : decode cX6_hasDigitAt 10 = .ok (.aload_n 0, 1) := by decide +kernel
theorem dX6_hasDigitAt_11 : decode cX6_hasDigitAt 11 = .ok (.iload_n 1, 1) := by decide +kernel
theorem dX6_hasDigitAt_12 : decode cX6_hasDigitAt 12 = .ok (.invokevirtual 19, 3) := by decide +kernel
theorem dX6_hasDigitAt_15 : decode cX6_hasDigitAt 15 = .ok (.bipush 57, 2) := by decide +kernel
theorem dX6_hasDigitAt_17 : decode cX6_hasDigitAt 17 = .ok (.if_icmp .gt 7, 3) := by decide +kernel
theorem dX6_hasDigitAt_20 : decode cX6_hasDigitAt 20 = .ok (.iconst 1, 1) := by decide +kernel
theorem dX6_hasDigitAt_21 : decode cX6_hasDigitAt 21 = .ok (.goto 4, 3) := by decide +kernel
theorem dX6_hasDigitAt_24 : decode cX6_hasDigitAt 24 = .ok (.iconst 0, 1) := by decide +kernel
theorem dX6_hasDigitAt_25 : decode cX6_hasDigitAt 25 = .ok (.ireturn, 1) := by decide +kernel
theorem dX7_init_0 : decode cX7_init 0 = .ok (.aload_n 0, 1) := by decide +kernel
theorem dX7_init_1 : decode cX7_init 1 = .ok (.invokespecial 1, 3) := by decide +kernel
theorem dX7_init_4 : decode cX7_init 4 = .ok (.aload_n 0, 1) := by decide +kernel
theorem dX7_init_5 : decode cX7_init 5 = .ok (.new 7, 3) := by decide +kernel
theorem dX7_init_8 : decode cX7_init 8 = .ok (.dup, 1) := by decide +kernel
theorem dX7_init_9 : decode cX7_init 9 = .ok (.invokespecial 9, 3) := by decide +kernel
theorem dX7_init_12 : decode cX7_init 12 = .ok (.putfield 10, 3) := by decide +kernel
theorem dX7_init_15 : decode cX7_init 15 = .ok (.aload_n 0, 1) := by decide +kernel
theorem dX7_init_16 : decode cX7_init 16 = .ok (.new 16, 3) := by decide +kernel
theorem dX7_init_19 : decode cX7_init 19 = .ok (.dup, 1) := by decide +kernel
theorem dX7_init_20 : decode cX7_init 20 = .ok (.invokespecial 18, 3) := by decide +kernel
theorem dX7_init_23 : decode cX7_init 23 = .ok (.putfield 19, 3) := by decide +kernel
theorem dX7_init_26 : decode cX7_init 26 = .ok (.aload_n 0, 1) := by decide +kernel
theorem dX7_init_27 : decode cX7_init 27 = .ok (.new 23, 3) := by decide +kernel
theorem dX7_init_30 : decode cX7_init 30 = .ok (.dup, 1) := by decide +kernel
theorem dX7_init_31 : decode cX7_init 31 = .ok (.invokespecial 25, 3) := by decide +kernel
theorem dX7_init_34 : decode cX7_init 34 = .ok (.putfield 26, 3) := by decide +kernel
theorem dX7_init_37 : decode cX7_init 37 = .ok (.aload_n 0, 1) := by decide +kernel
theorem dX7_init_38 : decode cX7_init 38 = .ok (.new 30, 3) := by decide +kernel
theorem dX7_init_41 : decode cX7_init 41 = .ok (.dup, 1) := by decide +kernel
theorem dX7_init_42 : decode cX7_init 42 = .ok (.invokespecial 32, 3) := by decide +kernel
theorem dX7_init_45 : decode cX7_init 45 = .ok (.putfield 33, 3) := by decide +kernel
theorem dX7_init_48 : decode cX7_init 48 = .ok (.aload_n 0, 1) := by decide +kernel
theorem dX7_init_49 : decode cX7_init 49 = .ok (.new 37, 3) := by decide +kernel
theorem dX7_init_52 : decode cX7_init 52 = .ok (.dup, 1) := by decide +kernel
theorem dX7_init_53 : decode cX7_init 53 = .ok (.invokespecial 39, 3) := by decide +kernel
theorem dX7_init_56 : decode cX7_init 56 = .ok (.putfield 40, 3) := by decide +kernel
theorem dX7_init_59 : decode cX7_init 59 = .ok (.aload_n 0, 1) := by decide +kernel
theorem dX7_init_60 : decode cX7_init 60 = .ok (.new 37, 3) := by decide +kernel
theorem dX7_init_63 : decode cX7_init 63 = .ok (.dup, 1) := by decide +kernel
theorem dX7_init_64 : decode cX7_init 64 = .ok (.invokespecial 39, 3) := by decide +kernel
theorem dX7_init_67 : decode cX7_init 67 = .ok (.putfield 44, 3) := by decide +kernel
theorem dX7_init_70 : decode cX7_init 70 = .ok (.aload_n 0, 1) := by decide +kernel
theorem dX7_init_71 : decode cX7_init 71 = .ok (.new 47, 3) := by decide +kernel
theorem dX7_init_74 : decode cX7_init 74 = .ok (.dup, 1) := by decide +kernel
theorem dX7_init_75 : decode cX7_init 75 = .ok (.aload_n 0, 1) := by decide +kernel
theorem dX7_init_76 : decode cX7_init 76 = .ok (.getfield 40, 3) := by decide +kernel
theorem dX7_init_79 : decode cX7_init 79 = .ok (.aload_n 0, 1) := by decide +kernel
theorem dX7_init_80 : decode cX7_init 80 = .ok (.getfield 33, 3) := by decide +kernel
theorem dX7_init_83 : decode cX7_init 83 = .ok (.aload_n 0, 1) := by decide +kernel
theorem dX7_init_84 : decode cX7_init 84 = .ok (.getfield 26, 3) := by decide +kernel
theorem dX7_init_87 : decode cX7_init 87 = .ok (.invokespecial 49, 3) := by decide +kernel
theorem dX7_init_90 : decode cX7_init 90 = .ok (.putfield 52, 3) := by decide +kernel
theorem dX7_init_93 : decode cX7_init 93 = .ok (.aload_n 0, 1) := by decide +kernel
theorem dX7_init_94 : decode cX7_init 94 = .ok (.new 56, 3) := by decide +kernel
theorem dX7_init_97 : decode cX7_init 97 = .ok (.dup, 1) := by decide +kernel
theorem dX7_init_98 : decode cX7_init 98 = .ok (.aload_n 0, 1) := by decide +kernel
theorem dX7_init_99 : decode cX7_init 99 = .ok (.getfield 40, 3) := by decide +kernel
theorem dX7_init_102 : decode cX7_init 102 = .ok (.aload_n 0, 1) := by decide +kernel
theorem dX7_init_103 : decode cX7_init 103 = .ok (.getfield 33, 3) := by decide +kernel
theorem dX7_init_106 : decode cX7_init 106 = .ok (.aload_n 0, 1) := by decide +kernel
theorem dX7_init_107 : decode cX7_init 107 = .ok (.getfield 52, 3) := by decide +kernel
theorem dX7_init_110 : decode cX7_init 110 = .ok (.invokespecial 58, 3) := by decide +kernel
theorem dX7_init_113 : decode cX7_init 113 = .ok (.putfield 61, 3) := by decide +kernel
theorem dX7_init_116 : decode cX7_init 116 = .ok (.iconst 0, 1) := by decide +kernel
theorem dX7_init_117 : decode cX7_init 117 = .ok (.istore_n 1, 1) := by decide +kernel
theorem dX7_init_118 : decode cX7_init 118 = .ok (.iload_n 1, 1) := by decide +kernel
theorem dX7_init_119 : decode cX7_init 119 = .ok (.ldc 65, 2) := by decide +kernel
theorem dX7_init_121 : decode cX7_init 121 = .ok (.invokevirtual 67, 3) := by decide +kernel
theorem dX7_init_124 : decode cX7_init 124 = .ok (.if_icmp .ge 22, 3) := by decide +kernel
theorem dX7_init_127 : decode cX7_init 127 = .ok (.aload_n 0, 1) := by decide +kernel
theorem dX7_init_128 : decode cX7_init 128 = .ok (.getfield 10, 3) := by decide +kernel
theorem dX7_init_131 : decode cX7_init 131 = .ok (.ldc 65, 2) := by decide +kernel
theorem dX7_init_133 : decode cX7_init 133 = .ok (.iload_n 1, 1) := by decide +kernel
theorem dX7_init_134 : decode cX7_init 134 = .ok (.invokevirtual 73, 3) := by decide +kernel
theorem dX7_init_137 : decode cX7_init 137 = .ok (.invokevirtual 77, 3) := by decide +kernel
theorem dX7_init_140 : decode cX7_init 140 = .ok (.iinc 1 1, 3) := by decide +kernel
theorem dX7_init_143 : decode cX7_init 143 = .ok (.goto (-25), 3) := by decide +kernel
theorem dX7_init_146 : decode cX7_init 146 = .ok (.aload_n 0, 1) := by decide +kernel
theorem dX7_init_147 : decode cX7_init 147 = .ok (.getfield 40, 3) := by decide +kernel
theorem dX7_init_150 : decode cX7_init 150 = .ok (.aload_n 0, 1) := by decide +kernel
theorem dX7_init_151 : decode cX7_init 151 = .ok (.getfield 10, 3) := by decide +kernel
theorem dX7_init_154 : decode cX7_init 154 = .ok (.aload_n 0, 1) := by decide +kernel
theorem dX7_init_155 : decode cX7_init 155 = .ok (.getfield 19, 3) := by decide +kernel
theorem dX7_init_158 : decode cX7_init 158 = .ok (.invokevirtual 81, 3) := by decide +kernel
theorem dX7_init_161 : decode cX7_init 161 = .ok (.pop, 1) := by decide +kernel
theorem dX7_init_162 : decode cX7_init 162 = .ok (.aload_n 0, 1) := by decide +kernel
theorem dX7_init_163 : decode cX7_init 163 = .ok (.getfield 40, 3) := by decide +kernel
theorem dX7_init_166 : decode cX7_init 166 = .ok (.aload_n 0, 1) := by decide +kernel
theorem dX7_init_167 : decode cX7_init 167 = .ok (.getfield 19, 3) := by decide +kernel
theorem dX7_init_170 : decode cX7_init 170 = .ok (.invokevirtual 85, 3) := by decide +kernel
theorem dX7_init_173 : decode cX7_init 173 = .ok (.pop, 1) := by decide +kernel
theorem dX7_init_174 : decode cX7_init 174 = .ok (.aload_n 0, 1) := by decide +kernel
theorem dX7_init_175 : decode cX7_init 175 = .ok (.getfield 10, 3) := by decide +kernel
theorem dX7_init_178 : decode cX7_init 178 = .ok (.invokevirtual 89, 3) := by decide +kernel
theorem dX7_init_181 : decode cX7_init 181 = .ok (.pop, 1) := by decide +kernel
theorem dX7_init_182 : decode cX7_init 182 = .ok (.aload_n 0, 1) := by decide +kernel
theorem dX7_init_183 : decode cX7_init 183 = .ok (.invokevirtual 92, 3) := by decide +kernel
theorem dX7_init_186 : decode cX7_init 186 = .ok (.return_, 1) := by decide +kernel
theorem dX7_write_0 : decode cX7_write 0 = .ok (.iload_n 1, 1) := by decide +kernel
theorem dX7_write_1 : decode cX7_write 1 = .ok (.bipush 32, 2) := by decide +kernel
theorem dX7_write_3 : decode cX7_write 3 = .ok (.if_icmp .lt 9, 3) := by decide +kernel
theorem dX7_write_6 : decode cX7_write 6 = .ok (.iload_n 1, 1) := by decide +kernel
theorem dX7_write_7 : decode cX7_write 7 = .ok (.bipush 126, 2) := by decide +kernel
theorem dX7_write_9 : decode cX7_write 9 = .ok (.if_icmp .le 5, 3) := by decide +kernel
theorem dX7_write_12 : decode cX7_write 12 = .ok (.iconst (-1), 1) := by decide +kernel
theorem dX7_write_13 : decode cX7_write 13 = .ok (.ireturn, 1) := by decide +kernel
theorem dX7_write_14 : decode cX7_write 14 = .ok (.aload_n 0, 1) := by decide +kernel
theorem dX7_write_15 : decode cX7_write 15 = .ok (.getfield 10, 3) := by decide +kernel
theorem dX7_write_18 : decode cX7_write 18 = .ok (.getfield 95, 3) := by decide +kernel
theorem dX7_write_21 : decode cX7_write 21 = .ok (.sipush 200, 3) := by decide +kernel
theorem dX7_write_24 : decode cX7_write 24 = .ok (.if_icmp .ne 6, 3) := by decide +kernel
theorem dX7_write_27 : decode cX7_write 27 = .ok (.bipush (-3), 2) := by decide +kernel
theorem dX7_write_29 : decode cX7_write 29 = .ok (.ireturn, 1) := by decide +kernel
theorem dX7_write_30 : decode cX7_write 30 = .ok (.aload_n 0, 1) := by decide +kernel
theorem dX7_write_31 : decode cX7_write 31 = .ok (.getfield 10, 3) := by decide +kernel
theorem dX7_write_34 : decode cX7_write 34 = .ok (.iload_n 1, 1) := by decide +kernel
theorem dX7_write_35 : decode cX7_write 35 = .ok (.invokevirtual 77, 3) := by decide +kernel
theorem dX7_write_38 : decode cX7_write 38 = .ok (.aload_n 0, 1) := by decide +kernel
theorem dX7_write_39 : decode cX7_write 39 = .ok (.getfield 10, 3) := by decide +kernel
theorem dX7_write_42 : decode cX7_write 42 = .ok (.getfield 95, 3) := by decide +kernel
theorem dX7_write_45 : decode cX7_write 45 = .ok (.ireturn, 1) := by decide +kernel
theorem dX7_wipe_0 : decode cX7_wipe 0 = .ok (.aload_n 0, 1) := by decide +kernel
theorem dX7_wipe_1 : decode cX7_wipe 1 = .ok (.getfield 10, 3) := by decide +kernel
theorem dX7_wipe_4 : decode cX7_wipe 4 = .ok (.invokevirtual 89, 3) := by decide +kernel
theorem dX7_wipe_7 : decode cX7_wipe 7 = .ok (.ireturn, 1) := by decide +kernel
theorem dX7_fault_0 : decode cX7_fault 0 = .ok (.aload_n 0, 1) := by decide +kernel
theorem dX7_fault_1 : decode cX7_fault 1 = .ok (.getfield 44, 3) := by decide +kernel
theorem dX7_fault_4 : decode cX7_fault 4 = .ok (.aload_n 0, 1) := by decide +kernel
theorem dX7_fault_5 : decode cX7_fault 5 = .ok (.getfield 10, 3) := by decide +kernel
theorem dX7_fault_8 : decode cX7_fault 8 = .ok (.aload_n 0, 1) := by decide +kernel
theorem dX7_fault_9 : decode cX7_fault 9 = .ok (.getfield 19, 3) := by decide +kernel
theorem dX7_fault_12 : decode cX7_fault 12 = .ok (.invokevirtual 81, 3) := by decide +kernel
theorem dX7_fault_15 : decode cX7_fault 15 = .ok (.ireturn, 1) := by decide +kernel
theorem dX7_lay_0 : decode cX7_lay 0 = .ok (.aload_n 0, 1) := by decide +kernel
theorem dX7_lay_1 : decode cX7_lay 1 = .ok (.getfield 44, 3) := by decide +kernel
theorem dX7_lay_4 : decode cX7_lay 4 = .ok (.aload_n 0, 1) := by decide +kernel
theorem dX7_lay_5 : decode cX7_lay 5 = .ok (.getfield 10, 3) := by decide +kernel
theorem dX7_lay_8 : decode cX7_lay 8 = .ok (.aload_n 0, 1) := by decide +kernel
theorem dX7_lay_9 : decode cX7_lay 9 = .ok (.getfield 19, 3) := by decide +kernel
theorem dX7_lay_12 : decode cX7_lay 12 = .ok (.invokevirtual 81, 3) := by decide +kernel
theorem dX7_lay_15 : decode cX7_lay 15 = .ok (.bipush (-4), 2) := by decide +kernel
theorem dX7_lay_17 : decode cX7_lay 17 = .ok (.if_icmp .eq 6, 3) := by decide +kernel
theorem dX7_lay_20 : decode cX7_lay 20 = .ok (.bipush (-2), 2) := by decide +kernel
theorem dX7_lay_22 : decode cX7_lay 22 = .ok (.ireturn, 1) := by decide +kernel
theorem dX7_lay_23 : decode cX7_lay 23 = .ok (.aload_n 0, 1) := by decide +kernel
theorem dX7_lay_24 : decode cX7_lay 24 = .ok (.getfield 44, 3) := by decide +kernel
theorem dX7_lay_27 : decode cX7_lay 27 = .ok (.getfield 98, 3) := by decide +kernel
theorem dX7_lay_30 : decode cX7_lay 30 = .ok (.ifCond .ne 14, 3) := by decide +kernel
theorem dX7_lay_33 : decode cX7_lay 33 = .ok (.aload_n 0, 1) := by decide +kernel
theorem dX7_lay_34 : decode cX7_lay 34 = .ok (.getfield 19, 3) := by decide +kernel
theorem dX7_lay_37 : decode cX7_lay 37 = .ok (.iconst 2, 1) := by decide +kernel
theorem dX7_lay_38 : decode cX7_lay 38 = .ok (.invokevirtual 101, 3) := by decide +kernel
theorem dX7_lay_41 : decode cX7_lay 41 = .ok (.bipush (-2), 2) := by decide +kernel
theorem dX7_lay_43 : decode cX7_lay 43 = .ok (.ireturn, 1) := by decide +kernel
theorem dX7_lay_44 : decode cX7_lay 44 = .ok (.aload_n 0, 1) := by decide +kernel
theorem dX7_lay_45 : decode cX7_lay 45 = .ok (.getfield 44, 3) := by decide +kernel
theorem dX7_lay_48 : decode cX7_lay 48 = .ok (.aload_n 0, 1) := by decide +kernel
theorem dX7_lay_49 : decode cX7_lay 49 = .ok (.getfield 19, 3) := by decide +kernel
theorem dX7_lay_52 : decode cX7_lay 52 = .ok (.invokevirtual 85, 3) := by decide +kernel
theorem dX7_lay_55 : decode cX7_lay 55 = .ok (.ifCond .ne 6, 3) := by decide +kernel
theorem dX7_lay_58 : decode cX7_lay 58 = .ok (.bipush (-2), 2) := by decide +kernel
theorem dX7_lay_60 : decode cX7_lay 60 = .ok (.ireturn, 1) := by decide +kernel
theorem dX7_lay_61 : decode cX7_lay 61 = .ok (.aload_n 0, 1) := by decide +kernel
theorem dX7_lay_62 : decode cX7_lay 62 = .ok (.getfield 40, 3) := by decide +kernel
theorem dX7_lay_65 : decode cX7_lay 65 = .ok (.aload_n 0, 1) := by decide +kernel
theorem dX7_lay_66 : decode cX7_lay 66 = .ok (.getfield 44, 3) := by decide +kernel
theorem dX7_lay_69 : decode cX7_lay 69 = .ok (.invokevirtual 102, 3) := by decide +kernel
theorem dX7_lay_72 : decode cX7_lay 72 = .ok (.aload_n 0, 1) := by decide +kernel
theorem dX7_lay_73 : decode cX7_lay 73 = .ok (.getfield 26, 3) := by decide +kernel
theorem dX7_lay_76 : decode cX7_lay 76 = .ok (.invokevirtual 106, 3) := by decide +kernel
theorem dX7_lay_79 : decode cX7_lay 79 = .ok (.aload_n 0, 1) := by decide +kernel
theorem dX7_lay_80 : decode cX7_lay 80 = .ok (.getfield 26, 3) := by decide +kernel
theorem dX7_lay_83 : decode cX7_lay 83 = .ok (.invokevirtual 109, 3) := by decide +kernel
theorem dX7_lay_86 : decode cX7_lay 86 = .ok (.aload_n 0, 1) := by decide +kernel
theorem dX7_lay_87 : decode cX7_lay 87 = .ok (.invokevirtual 92, 3) := by decide +kernel
theorem dX7_lay_90 : decode cX7_lay 90 = .ok (.aload_n 0, 1) := by decide +kernel
theorem dX7_lay_91 : decode cX7_lay 91 = .ok (.getfield 40, 3) := by decide +kernel
theorem dX7_lay_94 : decode cX7_lay 94 = .ok (.getfield 98, 3) := by decide +kernel
theorem dX7_lay_97 : decode cX7_lay 97 = .ok (.ireturn, 1) := by decide +kernel
theorem dX7_cause_0 : decode cX7_cause 0 = .ok (.iload_n 1, 1) := by decide +kernel
theorem dX7_cause_1 : decode cX7_cause 1 = .ok (.ifCond .ge 5, 3) := by decide +kernel
theorem dX7_cause_4 : decode cX7_cause 4 = .ok (.iconst (-1), 1) := by decide +kernel
theorem dX7_cause_5 : decode cX7_cause 5 = .ok (.ireturn, 1) := by decide +kernel
theorem dX7_cause_6 : decode cX7_cause 6 = .ok (.iload_n 1, 1) := by decide +kernel
theorem dX7_cause_7 : decode cX7_cause 7 = .ok (.aload_n 0, 1) := by decide +kernel
theorem dX7_cause_8 : decode cX7_cause 8 = .ok (.getfield 19, 3) := by decide +kernel
theorem dX7_cause_11 : decode cX7_cause 11 = .ok (.getfield 112, 3) := by decide +kernel
theorem dX7_cause_14 : decode cX7_cause 14 = .ok (.if_icmp .ge 15, 3) := by decide +kernel
theorem dX7_cause_17 : decode cX7_cause 17 = .ok (.aload_n 0, 1) := by decide +kernel
theorem dX7_cause_18 : decode cX7_cause 18 = .ok (.getfield 19, 3) := by decide +kernel
theorem dX7_cause_21 : decode cX7_cause 21 = .ok (.getfield 113, 3) := by decide +kernel
theorem dX7_cause_24 : decode cX7_cause 24 = .ok (.iload_n 1, 1) := by decide +kernel
theorem dX7_cause_25 : decode cX7_cause 25 = .ok (.iaload, 1) := by decide +kernel
theorem dX7_cause_26 : decode cX7_cause 26 = .ok (.goto 5, 3) := by decide +kernel
theorem dX7_cause_29 : decode cX7_cause 29 = .ok (.bipush (-4), 2) := by decide +kernel
theorem dX7_cause_31 : decode cX7_cause 31 = .ok (.ireturn, 1) := by decide +kernel
theorem dX7_code_0 : decode cX7_code 0 = .ok (.aload_n 0, 1) := by decide +kernel
theorem dX7_code_1 : decode cX7_code 1 = .ok (.iload_n 1, 1) := by decide +kernel
theorem dX7_code_2 : decode cX7_code 2 = .ok (.invokevirtual 117, 3) := by decide +kernel
theorem dX7_code_5 : decode cX7_code 5 = .ok (.ifCond .eq 12, 3) := by decide +kernel
theorem dX7_code_8 : decode cX7_code 8 = .ok (.iload_n 2, 1) := by decide +kernel
theorem dX7_code_9 : decode cX7_code 9 = .ok (.ifCond .lt 8, 3) := by decide +kernel
theorem dX7_code_12 : decode cX7_code 12 = .ok (.iload_n 2, 1) := by decide +kernel
theorem dX7_code_13 : decode cX7_code 13 = .ok (.iconst 4, 1) := by decide +kernel
theorem dX7_code_14 : decode cX7_code 14 = .ok (.if_icmp .le 5, 3) := by decide +kernel
theorem dX7_code_17 : decode cX7_code 17 = .ok (.iconst (-1), 1) := by decide +kernel
theorem dX7_code_18 : decode cX7_code 18 = .ok (.ireturn, 1) := by decide +kernel
theorem dX7_code_19 : decode cX7_code 19 = .ok (.iload_n 2, 1) := by decide +kernel
theorem dX7_code_20 : decode cX7_code 20 = .ok (.tableswitch 122 0 3 #[32, 47, 78, 104], 32) := by decide +kernel
theorem dX7_code_52 : decode cX7_code 52 = .ok (.ldc 121, 2) := by decide +kernel
theorem dX7_code_54 : decode cX7_code 54 = .ok (.aload_n 0, 1) := by decide +kernel
theorem dX7_code_55 : decode cX7_code 55 = .ok (.getfield 40, 3) := by decide +kernel
theorem dX7_code_58 : decode cX7_code 58 = .ok (.getfield 123, 3) := by decide +kernel
theorem dX7_code_61 : decode cX7_code 61 = .ok (.iload_n 1, 1) := by decide +kernel
theorem dX7_code_62 : decode cX7_code 62 = .ok (.iaload, 1) := by decide +kernel
theorem dX7_code_63 : decode cX7_code 63 = .ok (.invokevirtual 73, 3) := by decide +kernel
theorem dX7_code_66 : decode cX7_code 66 = .ok (.ireturn, 1) := by decide +kernel
theorem dX7_code_67 : decode cX7_code 67 = .ok (.getstatic 126, 3) := by decide +kernel
theorem dX7_code_70 : decode cX7_code 70 = .ok (.aload_n 0, 1) := by decide +kernel
theorem dX7_code_71 : decode cX7_code 71 = .ok (.getfield 40, 3) := by decide +kernel
theorem dX7_code_74 : decode cX7_code 74 = .ok (.getfield 123, 3) := by decide +kernel
theorem dX7_code_77 : decode cX7_code 77 = .ok (.iload_n 1, 1) := by decide +kernel
theorem dX7_code_78 : decode cX7_code 78 = .ok (.iaload, 1) := by decide +kernel
theorem dX7_code_79 : decode cX7_code 79 = .ok (.iaload, 1) := by decide +kernel
theorem dX7_code_80 : decode cX7_code 80 = .ok (.ifCond .le 15, 3) := by decide +kernel
theorem dX7_code_83 : decode cX7_code 83 = .ok (.aload_n 0, 1) := by decide +kernel
theorem dX7_code_84 : decode cX7_code 84 = .ok (.getfield 40, 3) := by decide +kernel
theorem dX7_code_87 : decode cX7_code 87 = .ok (.getfield 129, 3) := by decide +kernel
theorem dX7_code_90 : decode cX7_code 90 = .ok (.iload_n 1, 1) := by decide +kernel
theorem dX7_code_91 : decode cX7_code 91 = .ok (.iaload, 1) := by decide +kernel
theorem dX7_code_92 : decode cX7_code 92 = .ok (.goto 5, 3) := by decide +kernel
theorem dX7_code_95 : decode cX7_code 95 = .ok (.bipush (-4), 2) := by decide +kernel
theorem dX7_code_97 : decode cX7_code 97 = .ok (.ireturn, 1) := by decide +kernel
theorem dX7_code_98 : decode cX7_code 98 = .ok (.aload_n 0, 1) := by decide +kernel
theorem dX7_code_99 : decode cX7_code 99 = .ok (.getfield 40, 3) := by decide +kernel
theorem dX7_code_102 : decode cX7_code 102 = .ok (.iload_n 1, 1) := by decide +kernel
theorem dX7_code_103 : decode cX7_code 103 = .ok (.invokevirtual 132, 3) := by decide +kernel
theorem dX7_code_106 : decode cX7_code 106 = .ok (.ifCond .eq 15, 3) := by decide +kernel
theorem dX7_code_109 : decode cX7_code 109 = .ok (.aload_n 0, 1) := by decide +kernel
theorem dX7_code_110 : decode cX7_code 110 = .ok (.getfield 40, 3) := by decide +kernel
theorem dX7_code_113 : decode cX7_code 113 = .ok (.getfield 135, 3) := by decide +kernel
theorem dX7_code_116 : decode cX7_code 116 = .ok (.iload_n 1, 1) := by decide +kernel
theorem dX7_code_117 : decode cX7_code 117 = .ok (.iaload, 1) := by decide +kernel
theorem dX7_code_118 : decode cX7_code 118 = .ok (.goto 5, 3) := by decide +kernel
theorem dX7_code_121 : decode cX7_code 121 = .ok (.bipush (-4), 2) := by decide +kernel
theorem dX7_code_123 : decode cX7_code 123 = .ok (.ireturn, 1) := by decide +kernel
theorem dX7_code_124 : decode cX7_code 124 = .ok (.aload_n 0, 1) := by decide +kernel
theorem dX7_code_125 : decode cX7_code 125 = .ok (.getfield 40, 3) := by decide +kernel
theorem dX7_code_128 : decode cX7_code 128 = .ok (.getfield 138, 3) := by decide +kernel
theorem dX7_code_131 : decode cX7_code 131 = .ok (.iload_n 1, 1) := by decide +kernel
theorem dX7_code_132 : decode cX7_code 132 = .ok (.baload, 1) := by decide +kernel
theorem dX7_code_133 : decode cX7_code 133 = .ok (.ifCond .eq 7, 3) := by decide +kernel
theorem dX7_code_136 : decode cX7_code 136 = .ok (.iconst 1, 1) := by decide +kernel
theorem dX7_code_137 : decode cX7_code 137 = .ok (.goto 4, 3) := by decide +kernel
theorem dX7_code_140 : decode cX7_code 140 = .ok (.iconst 0, 1) := by decide +kernel
theorem dX7_code_141 : decode cX7_code 141 = .ok (.ireturn, 1) := by decide +kernel
theorem dX7_code_142 : decode cX7_code 142 = .ok (.aload_n 0, 1) := by decide +kernel
theorem dX7_code_143 : decode cX7_code 143 = .ok (.getfield 26, 3) := by decide +kernel
theorem dX7_code_146 : decode cX7_code 146 = .ok (.getfield 142, 3) := by decide +kernel
theorem dX7_code_149 : decode cX7_code 149 = .ok (.iload_n 1, 1) := by decide +kernel
theorem dX7_code_150 : decode cX7_code 150 = .ok (.iaload, 1) := by decide +kernel
theorem dX7_code_151 : decode cX7_code 151 = .ok (.ireturn, 1) := by decide +kernel
theorem dX7_registers_0 : decode cX7_registers 0 = .ok (.iload_n 1, 1) := by decide +kernel
theorem dX7_registers_1 : decode cX7_registers 1 = .ok (.iconst 1, 1) := by decide +kernel
theorem dX7_registers_2 : decode cX7_registers 2 = .ok (.if_icmp .lt 8, 3) := by decide +kernel
theorem dX7_registers_5 : decode cX7_registers 5 = .ok (.iload_n 1, 1) := by decide +kernel
theorem dX7_registers_6 : decode cX7_registers 6 = .ok (.iconst 3, 1) := by decide +kernel
theorem dX7_registers_7 : decode cX7_registers 7 = .ok (.if_icmp .le 5, 3) := by decide +kernel
theorem dX7_registers_10 : decode cX7_registers 10 = .ok (.iconst (-1), 1) := by decide +kernel
theorem dX7_registers_11 : decode cX7_registers 11 = .ok (.ireturn, 1) := by decide +kernel
theorem dX7_registers_12 : decode cX7_registers 12 = .ok (.aload_n 0, 1) := by decide +kernel
theorem dX7_registers_13 : decode cX7_registers 13 = .ok (.getfield 26, 3) := by decide +kernel
theorem dX7_registers_16 : decode cX7_registers 16 = .ok (.getfield 145, 3) := by decide +kernel
theorem dX7_registers_19 : decode cX7_registers 19 = .ok (.istore_n 2, 1) := by decide +kernel
theorem dX7_registers_20 : decode cX7_registers 20 = .ok (.iload_n 2, 1) := by decide +kernel
theorem dX7_registers_21 : decode cX7_registers 21 = .ok (.iload_n 1, 1) := by decide +kernel
theorem dX7_registers_22 : decode cX7_registers 22 = .ok (.if_icmp .ne 6, 3) := by decide +kernel
theorem dX7_registers_25 : decode cX7_registers 25 = .ok (.bipush (-2), 2) := by decide +kernel
theorem dX7_registers_27 : decode cX7_registers 27 = .ok (.ireturn, 1) := by decide +kernel
theorem dX7_registers_28 : decode cX7_registers 28 = .ok (.aload_n 0, 1) := by decide +kernel
theorem dX7_registers_29 : decode cX7_registers 29 = .ok (.getfield 26, 3) := by decide +kernel
theorem dX7_registers_32 : decode cX7_registers 32 = .ok (.invokevirtual 148, 3) := by decide +kernel
theorem dX7_registers_35 : decode cX7_registers 35 = .ok (.aload_n 0, 1) := by decide +kernel
theorem dX7_registers_36 : decode cX7_registers 36 = .ok (.getfield 26, 3) := by decide +kernel
theorem dX7_registers_39 : decode cX7_registers 39 = .ok (.iload_n 1, 1) := by decide +kernel
theorem dX7_registers_40 : decode cX7_registers 40 = .ok (.putfield 145, 3) := by decide +kernel
theorem dX7_registers_43 : decode cX7_registers 43 = .ok (.aload_n 0, 1) := by decide +kernel
theorem dX7_registers_44 : decode cX7_registers 44 = .ok (.invokevirtual 92, 3) := by decide +kernel
theorem dX7_registers_47 : decode cX7_registers 47 = .ok (.iload_n 2, 1) := by decide +kernel
theorem dX7_registers_48 : decode cX7_registers 48 = .ok (.ireturn, 1) := by decide +kernel
theorem dX7_costs_0 : decode cX7_costs 0 = .ok (.iload_n 1, 1) := by decide +kernel
theorem dX7_costs_1 : decode cX7_costs 1 = .ok (.invokestatic 151, 3) := by decide +kernel
theorem dX7_costs_4 : decode cX7_costs 4 = .ok (.ifCond .eq 17, 3) := by decide +kernel
theorem dX7_costs_7 : decode cX7_costs 7 = .ok (.iload_n 2, 1) := by decide +kernel
theorem dX7_costs_8 : decode cX7_costs 8 = .ok (.invokestatic 151, 3) := by decide +kernel
theorem dX7_costs_11 : decode cX7_costs 11 = .ok (.ifCond .eq 10, 3) := by decide +kernel
theorem dX7_costs_14 : decode cX7_costs 14 = .ok (.iload_n 3, 1) := by decide +kernel
theorem dX7_costs_15 : decode cX7_costs 15 = .ok (.invokestatic 151, 3) := by decide +kernel
theorem dX7_costs_18 : decode cX7_costs 18 = .ok (.ifCond .ne 5, 3) := by decide +kernel
theorem dX7_costs_21 : decode cX7_costs 21 = .ok (.iconst (-1), 1) := by decide +kernel
theorem dX7_costs_22 : decode cX7_costs 22 = .ok (.ireturn, 1) := by decide +kernel
theorem dX7_costs_23 : decode cX7_costs 23 = .ok (.aload_n 0, 1) := by decide +kernel
theorem dX7_costs_24 : decode cX7_costs 24 = .ok (.getfield 26, 3) := by decide +kernel
theorem dX7_costs_27 : decode cX7_costs 27 = .ok (.getfield 154, 3) := by decide +kernel
theorem dX7_costs_30 : decode cX7_costs 30 = .ok (.iload_n 1, 1) := by decide +kernel
theorem dX7_costs_31 : decode cX7_costs 31 = .ok (.if_icmp .ne 28, 3) := by decide +kernel
theorem dX7_costs_34 : decode cX7_costs 34 = .ok (.aload_n 0, 1) := by decide +kernel
theorem dX7_costs_35 : decode cX7_costs 35 = .ok (.getfield 26, 3) := by decide +kernel
theorem dX7_costs_38 : decode cX7_costs 38 = .ok (.getfield 157, 3) := by decide +kernel
theorem dX7_costs_41 : decode cX7_costs 41 = .ok (.iload_n 2, 1) := by decide +kernel
theorem dX7_costs_42 : decode cX7_costs 42 = .ok (.if_icmp .ne 17, 3) := by decide +kernel
theorem dX7_costs_45 : decode cX7_costs 45 = .ok (.aload_n 0, 1) := by decide +kernel
theorem dX7_costs_46 : decode cX7_costs 46 = .ok (.getfield 26, 3) := by decide +kernel
theorem dX7_costs_49 : decode cX7_costs 49 = .ok (.getfield 160, 3) := by decide +kernel
theorem dX7_costs_52 : decode cX7_costs 52 = .ok (.iload_n 3, 1) := by decide +kernel
theorem dX7_costs_53 : decode cX7_costs 53 = .ok (.if_icmp .ne 6, 3) := by decide +kernel
theorem dX7_costs_56 : decode cX7_costs 56 = .ok (.bipush (-2), 2) := by decide +kernel
theorem dX7_costs_58 : decode cX7_costs 58 = .ok (.ireturn, 1) := by decide +kernel
theorem dX7_costs_59 : decode cX7_costs 59 = .ok (.bipush 100, 2) := by decide +kernel
theorem dX7_costs_61 : decode cX7_costs 61 = .ok (.aload_n 0, 1) := by decide +kernel
theorem dX7_costs_62 : decode cX7_costs 62 = .ok (.getfield 26, 3) := by decide +kernel
theorem dX7_costs_65 : decode cX7_costs 65 = .ok (.getfield 154, 3) := by decide +kernel
theorem dX7_costs_68 : decode cX7_costs 68 = .ok (.imul, 1) := by decide +kernel
theorem dX7_costs_69 : decode cX7_costs 69 = .ok (.bipush 10, 2) := by decide +kernel
theorem dX7_costs_71 : decode cX7_costs 71 = .ok (.aload_n 0, 1) := by decide +kernel
theorem dX7_costs_72 : decode cX7_costs 72 = .ok (.getfield 26, 3) := by decide +kernel
theorem dX7_costs_75 : decode cX7_costs 75 = .ok (.getfield 157, 3) := by decide +kernel
theorem dX7_costs_78 : decode cX7_costs 78 = .ok (.imul, 1) := by decide +kernel
theorem dX7_costs_79 : decode cX7_costs 79 = .ok (.iadd, 1) := by decide +kernel
theorem dX7_costs_80 : decode cX7_costs 80 = .ok (.aload_n 0, 1) := by decide +kernel
theorem dX7_costs_81 : decode cX7_costs 81 = .ok (.getfield 26, 3) := by decide +kernel
theorem dX7_costs_84 : decode cX7_costs 84 = .ok (.getfield 160, 3) := by decide +kernel
theorem dX7_costs_87 : decode cX7_costs 87 = .ok (.iadd, 1) := by decide +kernel
theorem dX7_costs_88 : decode cX7_costs 88 = .ok (.istore 4, 2) := by decide +kernel
theorem dX7_costs_90 : decode cX7_costs 90 = .ok (.aload_n 0, 1) := by decide +kernel
theorem dX7_costs_91 : decode cX7_costs 91 = .ok (.getfield 26, 3) := by decide +kernel
theorem dX7_costs_94 : decode cX7_costs 94 = .ok (.invokevirtual 148, 3) := by decide +kernel
theorem dX7_costs_97 : decode cX7_costs 97 = .ok (.aload_n 0, 1) := by decide +kernel
theorem dX7_costs_98 : decode cX7_costs 98 = .ok (.getfield 26, 3) := by decide +kernel
theorem dX7_costs_101 : decode cX7_costs 101 = .ok (.iload_n 1, 1) := by decide +kernel
theorem dX7_costs_102 : decode cX7_costs 102 = .ok (.putfield 154, 3) := by decide +kernel
theorem dX7_costs_105 : decode cX7_costs 105 = .ok (.aload_n 0, 1) := by decide +kernel
theorem dX7_costs_106 : decode cX7_costs 106 = .ok (.getfield 26, 3) := by decide +kernel
theorem dX7_costs_109 : decode cX7_costs 109 = .ok (.iload_n 2, 1) := by decide +kernel
theorem dX7_costs_110 : decode cX7_costs 110 = .ok (.putfield 157, 3) := by decide +kernel
theorem dX7_costs_113 : decode cX7_costs 113 = .ok (.aload_n 0, 1) := by decide +kernel
theorem dX7_costs_114 : decode cX7_costs 114 = .ok (.getfield 26, 3) := by decide +kernel
theorem dX7_costs_117 : decode cX7_costs 117 = .ok (.iload_n 3, 1) := by decide +kernel
theorem dX7_costs_118 : decode cX7_costs 118 = .ok (.putfield 160, 3) := by decide +kernel
theorem dX7_costs_121 : decode cX7_costs 121 = .ok (.aload_n 0, 1) := by decide +kernel
theorem dX7_costs_122 : decode cX7_costs 122 = .ok (.invokevirtual 92, 3) := by decide +kernel
theorem dX7_costs_125 : decode cX7_costs 125 = .ok (.iload 4, 2) := by decide +kernel
theorem dX7_costs_127 : decode cX7_costs 127 = .ok (.ireturn, 1) := by decide +kernel
theorem dX7_weigh_0 : decode cX7_weigh 0 = .ok (.aload_n 0, 1) := by decide +kernel
theorem dX7_weigh_1 : decode cX7_weigh 1 = .ok (.iload_n 1, 1) := by decide +kernel
theorem dX7_weigh_2 : decode cX7_weigh 2 = .ok (.invokevirtual 117, 3) := by decide +kernel
theorem dX7_weigh_5 : decode cX7_weigh 5 = .ok (.ifCond .eq 15, 3) := by decide +kernel
theorem dX7_weigh_8 : decode cX7_weigh 8 = .ok (.iload_n 2, 1) := by decide +kernel
theorem dX7_weigh_9 : decode cX7_weigh 9 = .ok (.iconst 1, 1) := by decide +kernel
theorem dX7_weigh_10 : decode cX7_weigh 10 = .ok (.if_icmp .lt 10, 3) := by decide +kernel
theorem dX7_weigh_13 : decode cX7_weigh 13 = .ok (.iload_n 2, 1) := by decide +kernel
theorem dX7_weigh_14 : decode cX7_weigh 14 = .ok (.sipush 999, 3) := by decide +kernel
theorem dX7_weigh_17 : decode cX7_weigh 17 = .ok (.if_icmp .le 5, 3) := by decide +kernel
theorem dX7_weigh_20 : decode cX7_weigh 20 = .ok (.iconst (-1), 1) := by decide +kernel
theorem dX7_weigh_21 : decode cX7_weigh 21 = .ok (.ireturn, 1) := by decide +kernel
theorem dX7_weigh_22 : decode cX7_weigh 22 = .ok (.aload_n 0, 1) := by decide +kernel
theorem dX7_weigh_23 : decode cX7_weigh 23 = .ok (.getfield 26, 3) := by decide +kernel
theorem dX7_weigh_26 : decode cX7_weigh 26 = .ok (.getfield 142, 3) := by decide +kernel
theorem dX7_weigh_29 : decode cX7_weigh 29 = .ok (.iload_n 1, 1) := by decide +kernel
theorem dX7_weigh_30 : decode cX7_weigh 30 = .ok (.iaload, 1) := by decide +kernel
theorem dX7_weigh_31 : decode cX7_weigh 31 = .ok (.istore_n 3, 1) := by decide +kernel
theorem dX7_weigh_32 : decode cX7_weigh 32 = .ok (.iload_n 3, 1) := by decide +kernel
theorem dX7_weigh_33 : decode cX7_weigh 33 = .ok (.iload_n 2, 1) := by decide +kernel
theorem dX7_weigh_34 : decode cX7_weigh 34 = .ok (.if_icmp .ne 6, 3) := by decide +kernel
theorem dX7_weigh_37 : decode cX7_weigh 37 = .ok (.bipush (-2), 2) := by decide +kernel
theorem dX7_weigh_39 : decode cX7_weigh 39 = .ok (.ireturn, 1) := by decide +kernel
theorem dX7_weigh_40 : decode cX7_weigh 40 = .ok (.aload_n 0, 1) := by decide +kernel
theorem dX7_weigh_41 : decode cX7_weigh 41 = .ok (.getfield 26, 3) := by decide +kernel
theorem dX7_weigh_44 : decode cX7_weigh 44 = .ok (.invokevirtual 148, 3) := by decide +kernel
theorem dX7_weigh_47 : decode cX7_weigh 47 = .ok (.aload_n 0, 1) := by decide +kernel
theorem dX7_weigh_48 : decode cX7_weigh 48 = .ok (.getfield 26, 3) := by decide +kernel
theorem dX7_weigh_51 : decode cX7_weigh 51 = .ok (.getfield 142, 3) := by decide +kernel
theorem dX7_weigh_54 : decode cX7_weigh 54 = .ok (.iload_n 1, 1) := by decide +kernel
theorem dX7_weigh_55 : decode cX7_weigh 55 = .ok (.iload_n 2, 1) := by decide +kernel
theorem dX7_weigh_56 : decode cX7_weigh 56 = .ok (.iastore, 1) := by decide +kernel
theorem dX7_weigh_57 : decode cX7_weigh 57 = .ok (.aload_n 0, 1) := by decide +kernel
theorem dX7_weigh_58 : decode cX7_weigh 58 = .ok (.invokevirtual 92, 3) := by decide +kernel
theorem dX7_weigh_61 : decode cX7_weigh 61 = .ok (.iload_n 3, 1) := by decide +kernel
theorem dX7_weigh_62 : decode cX7_weigh 62 = .ok (.ireturn, 1) := by decide +kernel
theorem dX7_profile_0 : decode cX7_profile 0 = .ok (.aload_n 0, 1) := by decide +kernel
theorem dX7_profile_1 : decode cX7_profile 1 = .ok (.getfield 61, 3) := by decide +kernel
theorem dX7_profile_4 : decode cX7_profile 4 = .ok (.getfield 163, 3) := by decide +kernel
theorem dX7_profile_7 : decode cX7_profile 7 = .ok (.ifCond .ne 6, 3) := by decide +kernel
theorem dX7_profile_10 : decode cX7_profile 10 = .ok (.bipush (-2), 2) := by decide +kernel
theorem dX7_profile_12 : decode cX7_profile 12 = .ok (.ireturn, 1) := by decide +kernel
theorem dX7_profile_13 : decode cX7_profile 13 = .ok (.iconst 0, 1) := by decide +kernel
theorem dX7_profile_14 : decode cX7_profile 14 = .ok (.istore_n 1, 1) := by decide +kernel
theorem dX7_profile_15 : decode cX7_profile 15 = .ok (.iconst 0, 1) := by decide +kernel
theorem dX7_profile_16 : decode cX7_profile 16 = .ok (.istore_n 2, 1) := by decide +kernel
theorem dX7_profile_17 : decode cX7_profile 17 = .ok (.iload_n 2, 1) := by decide +kernel
theorem dX7_profile_18 : decode cX7_profile 18 = .ok (.aload_n 0, 1) := by decide +kernel
theorem dX7_profile_19 : decode cX7_profile 19 = .ok (.getfield 40, 3) := by decide +kernel
theorem dX7_profile_22 : decode cX7_profile 22 = .ok (.getfield 98, 3) := by decide +kernel
theorem dX7_profile_25 : decode cX7_profile 25 = .ok (.if_icmp .ge 32, 3) := by decide +kernel
theorem dX7_profile_28 : decode cX7_profile 28 = .ok (.aload_n 0, 1) := by decide +kernel
theorem dX7_profile_29 : decode cX7_profile 29 = .ok (.getfield 26, 3) := by decide +kernel
theorem dX7_profile_32 : decode cX7_profile 32 = .ok (.getfield 142, 3) := by decide +kernel
theorem dX7_profile_35 : decode cX7_profile 35 = .ok (.iload_n 2, 1) := by decide +kernel
theorem dX7_profile_36 : decode cX7_profile 36 = .ok (.iaload, 1) := by decide +kernel
theorem dX7_profile_37 : decode cX7_profile 37 = .ok (.aload_n 0, 1) := by decide +kernel
theorem dX7_profile_38 : decode cX7_profile 38 = .ok (.getfield 61, 3) := by decide +kernel
theorem dX7_profile_41 : decode cX7_profile 41 = .ok (.iload_n 2, 1) := by decide +kernel
theorem dX7_profile_42 : decode cX7_profile 42 = .ok (.invokevirtual 167, 3) := by decide +kernel
theorem dX7_profile_45 : decode cX7_profile 45 = .ok (.if_icmp .eq 6, 3) := by decide +kernel
theorem dX7_profile_48 : decode cX7_profile 48 = .ok (.iinc 1 1, 3) := by decide +kernel
theorem dX7_profile_51 : decode cX7_profile 51 = .ok (.iinc 2 1, 3) := by decide +kernel
theorem dX7_profile_54 : decode cX7_profile 54 = .ok (.goto (-37), 3) := by decide +kernel
theorem dX7_profile_57 : decode cX7_profile 57 = .ok (.iload_n 1, 1) := by decide +kernel
theorem dX7_profile_58 : decode cX7_profile 58 = .ok (.ifCond .ne 6, 3) := by decide +kernel
theorem dX7_profile_61 : decode cX7_profile 61 = .ok (.bipush (-2), 2) := by decide +kernel
theorem dX7_profile_63 : decode cX7_profile 63 = .ok (.ireturn, 1) := by decide +kernel
theorem dX7_profile_64 : decode cX7_profile 64 = .ok (.aload_n 0, 1) := by decide +kernel
theorem dX7_profile_65 : decode cX7_profile 65 = .ok (.getfield 26, 3) := by decide +kernel
theorem dX7_profile_68 : decode cX7_profile 68 = .ok (.invokevirtual 148, 3) := by decide +kernel
theorem dX7_profile_71 : decode cX7_profile 71 = .ok (.iconst 0, 1) := by decide +kernel
theorem dX7_profile_72 : decode cX7_profile 72 = .ok (.istore_n 2, 1) := by decide +kernel
theorem dX7_profile_73 : decode cX7_profile 73 = .ok (.iload_n 2, 1) := by decide +kernel
theorem dX7_profile_74 : decode cX7_profile 74 = .ok (.aload_n 0, 1) := by decide +kernel
theorem dX7_profile_75 : decode cX7_profile 75 = .ok (.getfield 40, 3) := by decide +kernel
theorem dX7_profile_78 : decode cX7_profile 78 = .ok (.getfield 98, 3) := by decide +kernel
theorem dX7_profile_81 : decode cX7_profile 81 = .ok (.if_icmp .ge 26, 3) := by decide +kernel
theorem dX7_profile_84 : decode cX7_profile 84 = .ok (.aload_n 0, 1) := by decide +kernel
theorem dX7_profile_85 : decode cX7_profile 85 = .ok (.getfield 26, 3) := by decide +kernel
theorem dX7_profile_88 : decode cX7_profile 88 = .ok (.getfield 142, 3) := by decide +kernel
theorem dX7_profile_91 : decode cX7_profile 91 = .ok (.iload_n 2, 1) := by decide +kernel
theorem dX7_profile_92 : decode cX7_profile 92 = .ok (.aload_n 0, 1) := by decide +kernel
theorem dX7_profile_93 : decode cX7_profile 93 = .ok (.getfield 61, 3) := by decide +kernel
theorem dX7_profile_96 : decode cX7_profile 96 = .ok (.iload_n 2, 1) := by decide +kernel
theorem dX7_profile_97 : decode cX7_profile 97 = .ok (.invokevirtual 167, 3) := by decide +kernel
theorem dX7_profile_100 : decode cX7_profile 100 = .ok (.iastore, 1) := by decide +kernel
theorem dX7_profile_101 : decode cX7_profile 101 = .ok (.iinc 2 1, 3) := by decide +kernel
theorem dX7_profile_104 : decode cX7_profile 104 = .ok (.goto (-31), 3) := by decide +kernel
theorem dX7_profile_107 : decode cX7_profile 107 = .ok (.aload_n 0, 1) := by decide +kernel
theorem dX7_profile_108 : decode cX7_profile 108 = .ok (.invokevirtual 92, 3) := by decide +kernel
theorem dX7_profile_111 : decode cX7_profile 111 = .ok (.iload_n 1, 1) := by decide +kernel
theorem dX7_profile_112 : decode cX7_profile 112 = .ok (.ireturn, 1) := by decide +kernel
theorem dX7_undo_0 : decode cX7_undo 0 = .ok (.aload_n 0, 1) := by decide +kernel
theorem dX7_undo_1 : decode cX7_undo 1 = .ok (.getfield 26, 3) := by decide +kernel
theorem dX7_undo_4 : decode cX7_undo 4 = .ok (.getfield 171, 3) := by decide +kernel
theorem dX7_undo_7 : decode cX7_undo 7 = .ok (.ifCond .ne 6, 3) := by decide +kernel
theorem dX7_undo_10 : decode cX7_undo 10 = .ok (.bipush (-2), 2) := by decide +kernel
theorem dX7_undo_12 : decode cX7_undo 12 = .ok (.ireturn, 1) := by decide +kernel
theorem dX7_undo_13 : decode cX7_undo 13 = .ok (.aload_n 0, 1) := by decide +kernel
theorem dX7_undo_14 : decode cX7_undo 14 = .ok (.getfield 26, 3) := by decide +kernel
theorem dX7_undo_17 : decode cX7_undo 17 = .ok (.invokevirtual 174, 3) := by decide +kernel
theorem dX7_undo_20 : decode cX7_undo 20 = .ok (.aload_n 0, 1) := by decide +kernel
theorem dX7_undo_21 : decode cX7_undo 21 = .ok (.invokevirtual 92, 3) := by decide +kernel
theorem dX7_undo_24 : decode cX7_undo 24 = .ok (.aload_n 0, 1) := by decide +kernel
theorem dX7_undo_25 : decode cX7_undo 25 = .ok (.getfield 26, 3) := by decide +kernel
theorem dX7_undo_28 : decode cX7_undo 28 = .ok (.getfield 171, 3) := by decide +kernel
theorem dX7_undo_31 : decode cX7_undo 31 = .ok (.ireturn, 1) := by decide +kernel
theorem dX7_states_0 : decode cX7_states 0 = .ok (.aload_n 0, 1) := by decide +kernel
theorem dX7_states_1 : decode cX7_states 1 = .ok (.getfield 33, 3) := by decide +kernel
theorem dX7_states_4 : decode cX7_states 4 = .ok (.getfield 177, 3) := by decide +kernel
theorem dX7_states_7 : decode cX7_states 7 = .ok (.ireturn, 1) := by decide +kernel
theorem dX7_state_0 : decode cX7_state 0 = .ok (.aload_n 0, 1) := by decide +kernel
theorem dX7_state_1 : decode cX7_state 1 = .ok (.iload_n 1, 1) := by decide +kernel
theorem dX7_state_2 : decode cX7_state 2 = .ok (.invokevirtual 178, 3) := by decide +kernel
theorem dX7_state_5 : decode cX7_state 5 = .ok (.ifCond .eq 8, 3) := by decide +kernel
theorem dX7_state_8 : decode cX7_state 8 = .ok (.iload_n 2, 1) := by decide +kernel
theorem dX7_state_9 : decode cX7_state 9 = .ok (.iconst (-1), 1) := by decide +kernel
theorem dX7_state_10 : decode cX7_state 10 = .ok (.if_icmp .ge 5, 3) := by decide +kernel
theorem dX7_state_13 : decode cX7_state 13 = .ok (.iconst (-1), 1) := by decide +kernel
theorem dX7_state_14 : decode cX7_state 14 = .ok (.ireturn, 1) := by decide +kernel
theorem dX7_state_15 : decode cX7_state 15 = .ok (.aload_n 0, 1) := by decide +kernel
theorem dX7_state_16 : decode cX7_state 16 = .ok (.getfield 33, 3) := by decide +kernel
theorem dX7_state_19 : decode cX7_state 19 = .ok (.iload_n 1, 1) := by decide +kernel
theorem dX7_state_20 : decode cX7_state 20 = .ok (.invokevirtual 181, 3) := by decide +kernel
theorem dX7_state_23 : decode cX7_state 23 = .ok (.istore_n 3, 1) := by decide +kernel
theorem dX7_state_24 : decode cX7_state 24 = .ok (.iload_n 2, 1) := by decide +kernel
theorem dX7_state_25 : decode cX7_state 25 = .ok (.iconst (-1), 1) := by decide +kernel
theorem dX7_state_26 : decode cX7_state 26 = .ok (.if_icmp .ne 5, 3) := by decide +kernel
theorem dX7_state_29 : decode cX7_state 29 = .ok (.iload_n 3, 1) := by decide +kernel
theorem dX7_state_30 : decode cX7_state 30 = .ok (.ireturn, 1) := by decide +kernel
theorem dX7_state_31 : decode cX7_state 31 = .ok (.iload_n 2, 1) := by decide +kernel
theorem dX7_state_32 : decode cX7_state 32 = .ok (.iload_n 3, 1) := by decide +kernel
theorem dX7_state_33 : decode cX7_state 33 = .ok (.if_icmp .ge 15, 3) := by decide +kernel
theorem dX7_state_36 : decode cX7_state 36 = .ok (.aload_n 0, 1) := by decide +kernel
theorem dX7_state_37 : decode cX7_state 37 = .ok (.getfield 33, 3) := by decide +kernel
theorem dX7_state_40 : decode cX7_state 40 = .ok (.iload_n 1, 1) := by decide +kernel
theorem dX7_state_41 : decode cX7_state 41 = .ok (.iload_n 2, 1) := by decide +kernel
theorem dX7_state_42 : decode cX7_state 42 = .ok (.invokevirtual 184, 3) := by decide +kernel
theorem dX7_state_45 : decode cX7_state 45 = .ok (.goto 5, 3) := by decide +kernel
theorem dX7_state_48 : decode cX7_state 48 = .ok (.bipush (-4), 2) := by decide +kernel
theorem dX7_state_50 : decode cX7_state 50 = .ok (.ireturn, 1) := by decide +kernel
theorem dX7_passage_0 : decode cX7_passage 0 = .ok (.aload_n 0, 1) := by decide +kernel
theorem dX7_passage_1 : decode cX7_passage 1 = .ok (.iload_n 1, 1) := by decide +kernel
theorem dX7_passage_2 : decode cX7_passage 2 = .ok (.invokevirtual 178, 3) := by decide +kernel
theorem dX7_passage_5 : decode cX7_passage 5 = .ok (.ifCond .eq 11, 3) := by decide +kernel
theorem dX7_passage_8 : decode cX7_passage 8 = .ok (.aload_n 0, 1) := by decide +kernel
theorem dX7_passage_9 : decode cX7_passage 9 = .ok (.iload_n 2, 1) := by decide +kernel
theorem dX7_passage_10 : decode cX7_passage 10 = .ok (.invokevirtual 178, 3) := by decide +kernel
theorem dX7_passage_13 : decode cX7_passage 13 = .ok (.ifCond .ne 5, 3) := by decide +kernel
theorem dX7_passage_16 : decode cX7_passage 16 = .ok (.iconst (-1), 1) := by decide +kernel
theorem dX7_passage_17 : decode cX7_passage 17 = .ok (.ireturn, 1) := by decide +kernel
theorem dX7_passage_18 : decode cX7_passage 18 = .ok (.aload_n 0, 1) := by decide +kernel
theorem dX7_passage_19 : decode cX7_passage 19 = .ok (.getfield 33, 3) := by decide +kernel
theorem dX7_passage_22 : decode cX7_passage 22 = .ok (.iload_n 1, 1) := by decide +kernel
theorem dX7_passage_23 : decode cX7_passage 23 = .ok (.iload_n 2, 1) := by decide +kernel
theorem dX7_passage_24 : decode cX7_passage 24 = .ok (.invokevirtual 188, 3) := by decide +kernel
theorem dX7_passage_27 : decode cX7_passage 27 = .ok (.ireturn, 1) := by decide +kernel
theorem dX7_version_0 : decode cX7_version 0 = .ok (.aload_n 0, 1) := by decide +kernel
theorem dX7_version_1 : decode cX7_version 1 = .ok (.iload_n 1, 1) := by decide +kernel
theorem dX7_version_2 : decode cX7_version 2 = .ok (.invokevirtual 117, 3) := by decide +kernel
theorem dX7_version_5 : decode cX7_version 5 = .ok (.ifCond .eq 20, 3) := by decide +kernel
theorem dX7_version_8 : decode cX7_version 8 = .ok (.aload_n 0, 1) := by decide +kernel
theorem dX7_version_9 : decode cX7_version 9 = .ok (.iload_n 2, 1) := by decide +kernel
theorem dX7_version_10 : decode cX7_version 10 = .ok (.invokevirtual 178, 3) := by decide +kernel
theorem dX7_version_13 : decode cX7_version 13 = .ok (.ifCond .eq 12, 3) := by decide +kernel
theorem dX7_version_16 : decode cX7_version 16 = .ok (.iload_n 3, 1) := by decide +kernel
theorem dX7_version_17 : decode cX7_version 17 = .ok (.ifCond .lt 8, 3) := by decide +kernel
theorem dX7_version_20 : decode cX7_version 20 = .ok (.iload_n 3, 1) := by decide +kernel
theorem dX7_version_21 : decode cX7_version 21 = .ok (.iconst 2, 1) := by decide +kernel
theorem dX7_version_22 : decode cX7_version 22 = .ok (.if_icmp .le 5, 3) := by decide +kernel
theorem dX7_version_25 : decode cX7_version 25 = .ok (.iconst (-1), 1) := by decide +kernel
theorem dX7_version_26 : decode cX7_version 26 = .ok (.ireturn, 1) := by decide +kernel
theorem dX7_version_27 : decode cX7_version 27 = .ok (.aload_n 0, 1) := by decide +kernel
theorem dX7_version_28 : decode cX7_version 28 = .ok (.getfield 40, 3) := by decide +kernel
theorem dX7_version_31 : decode cX7_version 31 = .ok (.getfield 123, 3) := by decide +kernel
theorem dX7_version_34 : decode cX7_version 34 = .ok (.iload_n 1, 1) := by decide +kernel
theorem dX7_version_35 : decode cX7_version 35 = .ok (.iaload, 1) := by decide +kernel
theorem dX7_version_36 : decode cX7_version 36 = .ok (.istore 4, 2) := by decide +kernel
theorem dX7_version_38 : decode cX7_version 38 = .ok (.aload_n 0, 1) := by decide +kernel
theorem dX7_version_39 : decode cX7_version 39 = .ok (.getfield 33, 3) := by decide +kernel
theorem dX7_version_42 : decode cX7_version 42 = .ok (.iload 4, 2) := by decide +kernel
theorem dX7_version_44 : decode cX7_version 44 = .ok (.iload_n 2, 1) := by decide +kernel
theorem dX7_version_45 : decode cX7_version 45 = .ok (.invokevirtual 191, 3) := by decide +kernel
theorem dX7_version_48 : decode cX7_version 48 = .ok (.ifCond .ne 6, 3) := by decide +kernel
theorem dX7_version_51 : decode cX7_version 51 = .ok (.bipush (-4), 2) := by decide +kernel
theorem dX7_version_53 : decode cX7_version 53 = .ok (.ireturn, 1) := by decide +kernel
theorem dX7_version_54 : decode cX7_version 54 = .ok (.iload_n 3, 1) := by decide +kernel
theorem dX7_version_55 : decode cX7_version 55 = .ok (.lookupswitch 47 #[(0, 25), (1, 36)], 25) := by decide +kernel
theorem dX7_version_80 : decode cX7_version 80 = .ok (.aload_n 0, 1) := by decide +kernel
theorem dX7_version_81 : decode cX7_version 81 = .ok (.getfield 33, 3) := by decide +kernel
theorem dX7_version_84 : decode cX7_version 84 = .ok (.iload 4, 2) := by decide +kernel
theorem dX7_version_86 : decode cX7_version 86 = .ok (.iload_n 2, 1) := by decide +kernel
theorem dX7_version_87 : decode cX7_version 87 = .ok (.invokevirtual 195, 3) := by decide +kernel
theorem dX7_version_90 : decode cX7_version 90 = .ok (.ireturn, 1) := by decide +kernel
theorem dX7_version_91 : decode cX7_version 91 = .ok (.aload_n 0, 1) := by decide +kernel
theorem dX7_version_92 : decode cX7_version 92 = .ok (.getfield 33, 3) := by decide +kernel
theorem dX7_version_95 : decode cX7_version 95 = .ok (.iload 4, 2) := by decide +kernel
theorem dX7_version_97 : decode cX7_version 97 = .ok (.iload_n 2, 1) := by decide +kernel
theorem dX7_version_98 : decode cX7_version 98 = .ok (.invokevirtual 198, 3) := by decide +kernel
theorem dX7_version_101 : decode cX7_version 101 = .ok (.ireturn, 1) := by decide +kernel
theorem dX7_version_102 : decode cX7_version 102 = .ok (.aload_n 0, 1) := by decide +kernel
theorem dX7_version_103 : decode cX7_version 103 = .ok (.getfield 33, 3) := by decide +kernel
theorem dX7_version_106 : decode cX7_version 106 = .ok (.iload 4, 2) := by decide +kernel
theorem dX7_version_108 : decode cX7_version 108 = .ok (.iload_n 2, 1) := by decide +kernel
theorem dX7_version_109 : decode cX7_version 109 = .ok (.invokevirtual 201, 3) := by decide +kernel
theorem dX7_version_112 : decode cX7_version 112 = .ok (.ifCond .eq 7, 3) := by decide +kernel
theorem dX7_version_115 : decode cX7_version 115 = .ok (.iconst 1, 1) := by decide +kernel
theorem dX7_version_116 : decode cX7_version 116 = .ok (.goto 4, 3) := by decide +kernel
theorem dX7_version_119 : decode cX7_version 119 = .ok (.iconst 0, 1) := by decide +kernel
theorem dX7_version_120 : decode cX7_version 120 = .ok (.ireturn, 1) := by decide +kernel
theorem dX7_best_0 : decode cX7_best 0 = .ok (.aload_n 0, 1) := by decide +kernel
theorem dX7_best_1 : decode cX7_best 1 = .ok (.getfield 52, 3) := by decide +kernel
theorem dX7_best_4 : decode cX7_best 4 = .ok (.invokevirtual 204, 3) := by decide +kernel
theorem dX7_best_7 : decode cX7_best 7 = .ok (.aload_n 0, 1) := by decide +kernel
theorem dX7_best_8 : decode cX7_best 8 = .ok (.getfield 52, 3) := by decide +kernel
theorem dX7_best_11 : decode cX7_best 11 = .ok (.getfield 207, 3) := by decide +kernel
theorem dX7_best_14 : decode cX7_best 14 = .ok (.ireturn, 1) := by decide +kernel
theorem dX7_meets_0 : decode cX7_meets 0 = .ok (.aload_n 0, 1) := by decide +kernel
theorem dX7_meets_1 : decode cX7_meets 1 = .ok (.iload_n 1, 1) := by decide +kernel
theorem dX7_meets_2 : decode cX7_meets 2 = .ok (.invokevirtual 117, 3) := by decide +kernel
theorem dX7_meets_5 : decode cX7_meets 5 = .ok (.ifCond .eq 12, 3) := by decide +kernel
theorem dX7_meets_8 : decode cX7_meets 8 = .ok (.iload_n 2, 1) := by decide +kernel
theorem dX7_meets_9 : decode cX7_meets 9 = .ok (.ifCond .lt 8, 3) := by decide +kernel
theorem dX7_meets_12 : decode cX7_meets 12 = .ok (.iload_n 2, 1) := by decide +kernel
theorem dX7_meets_13 : decode cX7_meets 13 = .ok (.iconst 1, 1) := by decide +kernel
theorem dX7_meets_14 : decode cX7_meets 14 = .ok (.if_icmp .le 5, 3) := by decide +kernel
theorem dX7_meets_17 : decode cX7_meets 17 = .ok (.iconst (-1), 1) := by decide +kernel
theorem dX7_meets_18 : decode cX7_meets 18 = .ok (.ireturn, 1) := by decide +kernel
theorem dX7_meets_19 : decode cX7_meets 19 = .ok (.aload_n 0, 1) := by decide +kernel
theorem dX7_meets_20 : decode cX7_meets 20 = .ok (.getfield 40, 3) := by decide +kernel
theorem dX7_meets_23 : decode cX7_meets 23 = .ok (.iload_n 1, 1) := by decide +kernel
theorem dX7_meets_24 : decode cX7_meets 24 = .ok (.invokevirtual 132, 3) := by decide +kernel
theorem dX7_meets_27 : decode cX7_meets 27 = .ok (.ifCond .ne 6, 3) := by decide +kernel
theorem dX7_meets_30 : decode cX7_meets 30 = .ok (.bipush (-4), 2) := by decide +kernel
theorem dX7_meets_32 : decode cX7_meets 32 = .ok (.ireturn, 1) := by decide +kernel
theorem dX7_meets_33 : decode cX7_meets 33 = .ok (.aload_n 0, 1) := by decide +kernel
theorem dX7_meets_34 : decode cX7_meets 34 = .ok (.getfield 52, 3) := by decide +kernel
theorem dX7_meets_37 : decode cX7_meets 37 = .ok (.invokevirtual 204, 3) := by decide +kernel
theorem dX7_meets_40 : decode cX7_meets 40 = .ok (.aload_n 0, 1) := by decide +kernel
theorem dX7_meets_41 : decode cX7_meets 41 = .ok (.getfield 52, 3) := by decide +kernel
theorem dX7_meets_44 : decode cX7_meets 44 = .ok (.getfield 210, 3) := by decide +kernel
theorem dX7_meets_47 : decode cX7_meets 47 = .ok (.iload_n 1, 1) := by decide +kernel
theorem dX7_meets_48 : decode cX7_meets 48 = .ok (.iaload, 1) := by decide +kernel
theorem dX7_meets_49 : decode cX7_meets 49 = .ok (.istore_n 3, 1) := by decide +kernel
theorem dX7_meets_50 : decode cX7_meets 50 = .ok (.iload_n 2, 1) := by decide +kernel
theorem dX7_meets_51 : decode cX7_meets 51 = .ok (.ifCond .ne 7, 3) := by decide +kernel
theorem dX7_meets_54 : decode cX7_meets 54 = .ok (.iload_n 3, 1) := by decide +kernel
theorem dX7_meets_55 : decode cX7_meets 55 = .ok (.goto 20, 3) := by decide +kernel
theorem dX7_meets_58 : decode cX7_meets 58 = .ok (.aload_n 0, 1) := by decide +kernel
theorem dX7_meets_59 : decode cX7_meets 59 = .ok (.getfield 33, 3) := by decide +kernel
theorem dX7_meets_62 : decode cX7_meets 62 = .ok (.aload_n 0, 1) := by decide +kernel
theorem dX7_meets_63 : decode cX7_meets 63 = .ok (.getfield 40, 3) := by decide +kernel
theorem dX7_meets_66 : decode cX7_meets 66 = .ok (.getfield 123, 3) := by decide +kernel
theorem dX7_meets_69 : decode cX7_meets 69 = .ok (.iload_n 1, 1) := by decide +kernel
theorem dX7_meets_70 : decode cX7_meets 70 = .ok (.iaload, 1) := by decide +kernel
theorem dX7_meets_71 : decode cX7_meets 71 = .ok (.iload_n 3, 1) := by decide +kernel
theorem dX7_meets_72 : decode cX7_meets 72 = .ok (.invokevirtual 195, 3) := by decide +kernel
theorem dX7_meets_75 : decode cX7_meets 75 = .ok (.ireturn, 1) := by decide +kernel
theorem dX7_ifMeets_0 : decode cX7_ifMeets 0 = .ok (.aload_n 0, 1) := by decide +kernel
theorem dX7_ifMeets_1 : decode cX7_ifMeets 1 = .ok (.iload_n 1, 1) := by decide +kernel
theorem dX7_ifMeets_2 : decode cX7_ifMeets 2 = .ok (.invokevirtual 117, 3) := by decide +kernel
theorem dX7_ifMeets_5 : decode cX7_ifMeets 5 = .ok (.ifCond .eq 11, 3) := by decide +kernel
theorem dX7_ifMeets_8 : decode cX7_ifMeets 8 = .ok (.aload_n 0, 1) := by decide +kernel
theorem dX7_ifMeets_9 : decode cX7_ifMeets 9 = .ok (.iload_n 2, 1) := by decide +kernel
theorem dX7_ifMeets_10 : decode cX7_ifMeets 10 = .ok (.invokevirtual 178, 3) := by decide +kernel
theorem dX7_ifMeets_13 : decode cX7_ifMeets 13 = .ok (.ifCond .ne 5, 3) := by decide +kernel
theorem dX7_ifMeets_16 : decode cX7_ifMeets 16 = .ok (.iconst (-1), 1) := by decide +kernel
theorem dX7_ifMeets_17 : decode cX7_ifMeets 17 = .ok (.ireturn, 1) := by decide +kernel
theorem dX7_ifMeets_18 : decode cX7_ifMeets 18 = .ok (.aload_n 0, 1) := by decide +kernel
theorem dX7_ifMeets_19 : decode cX7_ifMeets 19 = .ok (.getfield 40, 3) := by decide +kernel
theorem dX7_ifMeets_22 : decode cX7_ifMeets 22 = .ok (.iload_n 1, 1) := by decide +kernel
theorem dX7_ifMeets_23 : decode cX7_ifMeets 23 = .ok (.invokevirtual 132, 3) := by decide +kernel
theorem dX7_ifMeets_26 : decode cX7_ifMeets 26 = .ok (.ifCond .ne 6, 3) := by decide +kernel
theorem dX7_ifMeets_29 : decode cX7_ifMeets 29 = .ok (.bipush (-4), 2) := by decide +kernel
theorem dX7_ifMeets_31 : decode cX7_ifMeets 31 = .ok (.ireturn, 1) := by decide +kernel
theorem dX7_ifMeets_32 : decode cX7_ifMeets 32 = .ok (.aload_n 0, 1) := by decide +kernel
theorem dX7_ifMeets_33 : decode cX7_ifMeets 33 = .ok (.getfield 52, 3) := by decide +kernel
theorem dX7_ifMeets_36 : decode cX7_ifMeets 36 = .ok (.invokevirtual 213, 3) := by decide +kernel
theorem dX7_ifMeets_39 : decode cX7_ifMeets 39 = .ok (.aload_n 0, 1) := by decide +kernel
theorem dX7_ifMeets_40 : decode cX7_ifMeets 40 = .ok (.getfield 52, 3) := by decide +kernel
theorem dX7_ifMeets_43 : decode cX7_ifMeets 43 = .ok (.iload_n 1, 1) := by decide +kernel
theorem dX7_ifMeets_44 : decode cX7_ifMeets 44 = .ok (.iload_n 2, 1) := by decide +kernel
theorem dX7_ifMeets_45 : decode cX7_ifMeets 45 = .ok (.invokevirtual 216, 3) := by decide +kernel
theorem dX7_ifMeets_48 : decode cX7_ifMeets 48 = .ok (.ireturn, 1) := by decide +kernel
theorem dX7_start_0 : decode cX7_start 0 = .ok (.aload_n 0, 1) := by decide +kernel
theorem dX7_start_1 : decode cX7_start 1 = .ok (.getfield 52, 3) := by decide +kernel
theorem dX7_start_4 : decode cX7_start 4 = .ok (.invokevirtual 204, 3) := by decide +kernel
theorem dX7_start_7 : decode cX7_start 7 = .ok (.aload_n 0, 1) := by decide +kernel
theorem dX7_start_8 : decode cX7_start 8 = .ok (.getfield 61, 3) := by decide +kernel
theorem dX7_start_11 : decode cX7_start 11 = .ok (.invokevirtual 219, 3) := by decide +kernel
theorem dX7_start_14 : decode cX7_start 14 = .ok (.aload_n 0, 1) := by decide +kernel
theorem dX7_start_15 : decode cX7_start 15 = .ok (.getfield 61, 3) := by decide +kernel
theorem dX7_start_18 : decode cX7_start 18 = .ok (.getfield 222, 3) := by decide +kernel
theorem dX7_start_21 : decode cX7_start 21 = .ok (.ireturn, 1) := by decide +kernel
theorem dX7_step_0 : decode cX7_step 0 = .ok (.iload_n 1, 1) := by decide +kernel
theorem dX7_step_1 : decode cX7_step 1 = .ok (.iconst 1, 1) := by decide +kernel
theorem dX7_step_2 : decode cX7_step 2 = .ok (.if_icmp .lt 10, 3) := by decide +kernel
theorem dX7_step_5 : decode cX7_step 5 = .ok (.iload_n 1, 1) := by decide +kernel
theorem dX7_step_6 : decode cX7_step 6 = .ok (.sipush 500, 3) := by decide +kernel
theorem dX7_step_9 : decode cX7_step 9 = .ok (.if_icmp .le 5, 3) := by decide +kernel
theorem dX7_step_12 : decode cX7_step 12 = .ok (.iconst (-1), 1) := by decide +kernel
theorem dX7_step_13 : decode cX7_step 13 = .ok (.ireturn, 1) := by decide +kernel
theorem dX7_step_14 : decode cX7_step 14 = .ok (.aload_n 0, 1) := by decide +kernel
theorem dX7_step_15 : decode cX7_step 15 = .ok (.getfield 61, 3) := by decide +kernel
theorem dX7_step_18 : decode cX7_step 18 = .ok (.getfield 163, 3) := by decide +kernel
theorem dX7_step_21 : decode cX7_step 21 = .ok (.ifCond .eq 13, 3) := by decide +kernel
theorem dX7_step_24 : decode cX7_step 24 = .ok (.aload_n 0, 1) := by decide +kernel
theorem dX7_step_25 : decode cX7_step 25 = .ok (.getfield 61, 3) := by decide +kernel
theorem dX7_step_28 : decode cX7_step 28 = .ok (.getfield 225, 3) := by decide +kernel
theorem dX7_step_31 : decode cX7_step 31 = .ok (.ifCond .eq 6, 3) := by decide +kernel
theorem dX7_step_34 : decode cX7_step 34 = .ok (.bipush (-2), 2) := by decide +kernel
theorem dX7_step_36 : decode cX7_step 36 = .ok (.ireturn, 1) := by decide +kernel
theorem dX7_step_37 : decode cX7_step 37 = .ok (.aload_n 0, 1) := by decide +kernel
theorem dX7_step_38 : decode cX7_step 38 = .ok (.getfield 61, 3) := by decide +kernel
theorem dX7_step_41 : decode cX7_step 41 = .ok (.getfield 228, 3) := by decide +kernel
theorem dX7_step_44 : decode cX7_step 44 = .ok (.istore_n 2, 1) := by decide +kernel
theorem dX7_step_45 : decode cX7_step 45 = .ok (.iconst 0, 1) := by decide +kernel
theorem dX7_step_46 : decode cX7_step 46 = .ok (.istore_n 3, 1) := by decide +kernel
theorem dX7_step_47 : decode cX7_step 47 = .ok (.iload_n 3, 1) := by decide +kernel
theorem dX7_step_48 : decode cX7_step 48 = .ok (.iload_n 1, 1) := by decide +kernel
theorem dX7_step_49 : decode cX7_step 49 = .ok (.if_icmp .ge 26, 3) := by decide +kernel
theorem dX7_step_52 : decode cX7_step 52 = .ok (.aload_n 0, 1) := by decide +kernel
theorem dX7_step_53 : decode cX7_step 53 = .ok (.getfield 61, 3) := by decide +kernel
theorem dX7_step_56 : decode cX7_step 56 = .ok (.getfield 225, 3) := by decide +kernel
theorem dX7_step_59 : decode cX7_step 59 = .ok (.ifCond .ne 16, 3) := by decide +kernel
theorem dX7_step_62 : decode cX7_step 62 = .ok (.aload_n 0, 1) := by decide +kernel
theorem dX7_step_63 : decode cX7_step 63 = .ok (.getfield 61, 3) := by decide +kernel
theorem dX7_step_66 : decode cX7_step 66 = .ok (.invokevirtual 231, 3) := by decide +kernel
theorem dX7_step_69 : decode cX7_step 69 = .ok (.iinc 3 1, 3) := by decide +kernel
theorem dX7_step_72 : decode cX7_step 72 = .ok (.goto (-25), 3) := by decide +kernel
theorem dX7_step_75 : decode cX7_step 75 = .ok (.aload_n 0, 1) := by decide +kernel
theorem dX7_step_76 : decode cX7_step 76 = .ok (.getfield 61, 3) := by decide +kernel
theorem dX7_step_79 : decode cX7_step 79 = .ok (.getfield 228, 3) := by decide +kernel
theorem dX7_step_82 : decode cX7_step 82 = .ok (.iload_n 2, 1) := by decide +kernel
theorem dX7_step_83 : decode cX7_step 83 = .ok (.isub, 1) := by decide +kernel
theorem dX7_step_84 : decode cX7_step 84 = .ok (.ireturn, 1) := by decide +kernel
theorem dX7_now_0 : decode cX7_now 0 = .ok (.iload_n 1, 1) := by decide +kernel
theorem dX7_now_1 : decode cX7_now 1 = .ok (.ifCond .lt 8, 3) := by decide +kernel
theorem dX7_now_4 : decode cX7_now 4 = .ok (.iload_n 1, 1) := by decide +kernel
theorem dX7_now_5 : decode cX7_now 5 = .ok (.iconst 5, 1) := by decide +kernel
theorem dX7_now_6 : decode cX7_now 6 = .ok (.if_icmp .le 5, 3) := by decide +kernel
theorem dX7_now_9 : decode cX7_now 9 = .ok (.iconst (-1), 1) := by decide +kernel
theorem dX7_now_10 : decode cX7_now 10 = .ok (.ireturn, 1) := by decide +kernel
theorem dX7_now_11 : decode cX7_now 11 = .ok (.aload_n 0, 1) := by decide +kernel
theorem dX7_now_12 : decode cX7_now 12 = .ok (.getfield 61, 3) := by decide +kernel
theorem dX7_now_15 : decode cX7_now 15 = .ok (.getfield 163, 3) := by decide +kernel
theorem dX7_now_18 : decode cX7_now 18 = .ok (.ifCond .ne 6, 3) := by decide +kernel
theorem dX7_now_21 : decode cX7_now 21 = .ok (.bipush (-2), 2) := by decide +kernel
theorem dX7_now_23 : decode cX7_now 23 = .ok (.ireturn, 1) := by decide +kernel
theorem dX7_now_24 : decode cX7_now 24 = .ok (.iload_n 1, 1) := by decide +kernel
theorem dX7_now_25 : decode cX7_now 25 = .ok (.tableswitch 90 0 4 #[35, 58, 66, 74, 82], 35) := by decide +kernel
theorem dX7_now_60 : decode cX7_now 60 = .ok (.aload_n 0, 1) := by decide +kernel
theorem dX7_now_61 : decode cX7_now 61 = .ok (.getfield 61, 3) := by decide +kernel
theorem dX7_now_64 : decode cX7_now 64 = .ok (.getfield 225, 3) := by decide +kernel
theorem dX7_now_67 : decode cX7_now 67 = .ok (.ifCond .eq 8, 3) := by decide +kernel
theorem dX7_now_70 : decode cX7_now 70 = .ok (.bipush (-4), 2) := by decide +kernel
theorem dX7_now_72 : decode cX7_now 72 = .ok (.goto 10, 3) := by decide +kernel
theorem dX7_now_75 : decode cX7_now 75 = .ok (.aload_n 0, 1) := by decide +kernel
theorem dX7_now_76 : decode cX7_now 76 = .ok (.getfield 61, 3) := by decide +kernel
theorem dX7_now_79 : decode cX7_now 79 = .ok (.getfield 234, 3) := by decide +kernel
theorem dX7_now_82 : decode cX7_now 82 = .ok (.ireturn, 1) := by decide +kernel
theorem dX7_now_83 : decode cX7_now 83 = .ok (.aload_n 0, 1) := by decide +kernel
theorem dX7_now_84 : decode cX7_now 84 = .ok (.getfield 61, 3) := by decide +kernel
theorem dX7_now_87 : decode cX7_now 87 = .ok (.getfield 222, 3) := by decide +kernel
theorem dX7_now_90 : decode cX7_now 90 = .ok (.ireturn, 1) := by decide +kernel
theorem dX7_now_91 : decode cX7_now 91 = .ok (.aload_n 0, 1) := by decide +kernel
theorem dX7_now_92 : decode cX7_now 92 = .ok (.getfield 61, 3) := by decide +kernel
theorem dX7_now_95 : decode cX7_now 95 = .ok (.getfield 237, 3) := by decide +kernel
theorem dX7_now_98 : decode cX7_now 98 = .ok (.ireturn, 1) := by decide +kernel
theorem dX7_now_99 : decode cX7_now 99 = .ok (.aload_n 0, 1) := by decide +kernel
theorem dX7_now_100 : decode cX7_now 100 = .ok (.getfield 61, 3) := by decide +kernel
theorem dX7_now_103 : decode cX7_now 103 = .ok (.getfield 240, 3) := by decide +kernel
theorem dX7_now_106 : decode cX7_now 106 = .ok (.ireturn, 1) := by decide +kernel
theorem dX7_now_107 : decode cX7_now 107 = .ok (.aload_n 0, 1) := by decide +kernel
theorem dX7_now_108 : decode cX7_now 108 = .ok (.getfield 61, 3) := by decide +kernel
theorem dX7_now_111 : decode cX7_now 111 = .ok (.getfield 228, 3) := by decide +kernel
theorem dX7_now_114 : decode cX7_now 114 = .ok (.ireturn, 1) := by decide +kernel
theorem dX7_now_115 : decode cX7_now 115 = .ok (.aload_n 0, 1) := by decide +kernel
theorem dX7_now_116 : decode cX7_now 116 = .ok (.getfield 61, 3) := by decide +kernel
theorem dX7_now_119 : decode cX7_now 119 = .ok (.getfield 243, 3) := by decide +kernel
theorem dX7_now_122 : decode cX7_now 122 = .ok (.ireturn, 1) := by decide +kernel
theorem dX7_cell_0 : decode cX7_cell 0 = .ok (.iload_n 1, 1) := by decide +kernel
theorem dX7_cell_1 : decode cX7_cell 1 = .ok (.ifCond .ge 5, 3) := by decide +kernel
theorem dX7_cell_4 : decode cX7_cell 4 = .ok (.iconst (-1), 1) := by decide +kernel
theorem dX7_cell_5 : decode cX7_cell 5 = .ok (.ireturn, 1) := by decide +kernel
theorem dX7_cell_6 : decode cX7_cell 6 = .ok (.aload_n 0, 1) := by decide +kernel
theorem dX7_cell_7 : decode cX7_cell 7 = .ok (.getfield 61, 3) := by decide +kernel
theorem dX7_cell_10 : decode cX7_cell 10 = .ok (.getfield 163, 3) := by decide +kernel
theorem dX7_cell_13 : decode cX7_cell 13 = .ok (.ifCond .ne 6, 3) := by decide +kernel
theorem dX7_cell_16 : decode cX7_cell 16 = .ok (.bipush (-2), 2) := by decide +kernel
theorem dX7_cell_18 : decode cX7_cell 18 = .ok (.ireturn, 1) := by decide +kernel
theorem dX7_cell_19 : decode cX7_cell 19 = .ok (.iload_n 1, 1) := by decide +kernel
theorem dX7_cell_20 : decode cX7_cell 20 = .ok (.aload_n 0, 1) := by decide +kernel
theorem dX7_cell_21 : decode cX7_cell 21 = .ok (.getfield 61, 3) := by decide +kernel
theorem dX7_cell_24 : decode cX7_cell 24 = .ok (.getfield 237, 3) := by decide +kernel
theorem dX7_cell_27 : decode cX7_cell 27 = .ok (.if_icmp .ge 17, 3) := by decide +kernel
theorem dX7_cell_30 : decode cX7_cell 30 = .ok (.aload_n 0, 1) := by decide +kernel
theorem dX7_cell_31 : decode cX7_cell 31 = .ok (.getfield 61, 3) := by decide +kernel
theorem dX7_cell_34 : decode cX7_cell 34 = .ok (.iload_n 1, 1) := by decide +kernel
theorem dX7_cell_35 : decode cX7_cell 35 = .ok (.invokevirtual 246, 3) := by decide +kernel
theorem dX7_cell_38 : decode cX7_cell 38 = .ok (.invokestatic 249, 3) := by decide +kernel
theorem dX7_cell_41 : decode cX7_cell 41 = .ok (.goto 5, 3) := by decide +kernel
theorem dX7_cell_44 : decode cX7_cell 44 = .ok (.bipush (-4), 2) := by decide +kernel
theorem dX7_cell_46 : decode cX7_cell 46 = .ok (.ireturn, 1) := by decide +kernel
theorem dX7_register_0 : decode cX7_register 0 = .ok (.iload_n 1, 1) := by decide +kernel
theorem dX7_register_1 : decode cX7_register 1 = .ok (.ifCond .lt 14, 3) := by decide +kernel
theorem dX7_register_4 : decode cX7_register 4 = .ok (.iload_n 1, 1) := by decide +kernel
theorem dX7_register_5 : decode cX7_register 5 = .ok (.aload_n 0, 1) := by decide +kernel
theorem dX7_register_6 : decode cX7_register 6 = .ok (.getfield 26, 3) := by decide +kernel
theorem dX7_register_9 : decode cX7_register 9 = .ok (.getfield 145, 3) := by decide +kernel
theorem dX7_register_12 : decode cX7_register 12 = .ok (.if_icmp .lt 5, 3) := by decide +kernel
theorem dX7_register_15 : decode cX7_register 15 = .ok (.iconst (-1), 1) := by decide +kernel
theorem dX7_register_16 : decode cX7_register 16 = .ok (.ireturn, 1) := by decide +kernel
theorem dX7_register_17 : decode cX7_register 17 = .ok (.aload_n 0, 1) := by decide +kernel
theorem dX7_register_18 : decode cX7_register 18 = .ok (.getfield 61, 3) := by decide +kernel
theorem dX7_register_21 : decode cX7_register 21 = .ok (.getfield 163, 3) := by decide +kernel
theorem dX7_register_24 : decode cX7_register 24 = .ok (.ifCond .ne 6, 3) := by decide +kernel
theorem dX7_register_27 : decode cX7_register 27 = .ok (.bipush (-2), 2) := by decide +kernel
theorem dX7_register_29 : decode cX7_register 29 = .ok (.ireturn, 1) := by decide +kernel
theorem dX7_register_30 : decode cX7_register 30 = .ok (.aload_n 0, 1) := by decide +kernel
theorem dX7_register_31 : decode cX7_register 31 = .ok (.getfield 33, 3) := by decide +kernel
theorem dX7_register_34 : decode cX7_register 34 = .ok (.aload_n 0, 1) := by decide +kernel
theorem dX7_register_35 : decode cX7_register 35 = .ok (.getfield 61, 3) := by decide +kernel
theorem dX7_register_38 : decode cX7_register 38 = .ok (.getfield 222, 3) := by decide +kernel
theorem dX7_register_41 : decode cX7_register 41 = .ok (.invokevirtual 181, 3) := by decide +kernel
theorem dX7_register_44 : decode cX7_register 44 = .ok (.istore_n 2, 1) := by decide +kernel
theorem dX7_register_45 : decode cX7_register 45 = .ok (.iconst 0, 1) := by decide +kernel
theorem dX7_register_46 : decode cX7_register 46 = .ok (.istore_n 3, 1) := by decide +kernel
theorem dX7_register_47 : decode cX7_register 47 = .ok (.iload_n 3, 1) := by decide +kernel
theorem dX7_register_48 : decode cX7_register 48 = .ok (.iload_n 2, 1) := by decide +kernel
theorem dX7_register_49 : decode cX7_register 49 = .ok (.if_icmp .ge 40, 3) := by decide +kernel
theorem dX7_register_52 : decode cX7_register 52 = .ok (.aload_n 0, 1) := by decide +kernel
theorem dX7_register_53 : decode cX7_register 53 = .ok (.getfield 33, 3) := by decide +kernel
theorem dX7_register_56 : decode cX7_register 56 = .ok (.aload_n 0, 1) := by decide +kernel
theorem dX7_register_57 : decode cX7_register 57 = .ok (.getfield 61, 3) := by decide +kernel
theorem dX7_register_60 : decode cX7_register 60 = .ok (.getfield 222, 3) := by decide +kernel
theorem dX7_register_63 : decode cX7_register 63 = .ok (.iload_n 3, 1) := by decide +kernel
theorem dX7_register_64 : decode cX7_register 64 = .ok (.invokevirtual 184, 3) := by decide +kernel
theorem dX7_register_67 : decode cX7_register 67 = .ok (.iload_n 1, 1) := by decide +kernel
theorem dX7_register_68 : decode cX7_register 68 = .ok (.if_icmp .ne 15, 3) := by decide +kernel
theorem dX7_register_71 : decode cX7_register 71 = .ok (.aload_n 0, 1) := by decide +kernel
theorem dX7_register_72 : decode cX7_register 72 = .ok (.getfield 61, 3) := by decide +kernel
theorem dX7_register_75 : decode cX7_register 75 = .ok (.iload_n 3, 1) := by decide +kernel
theorem dX7_register_76 : decode cX7_register 76 = .ok (.invokevirtual 246, 3) := by decide +kernel
theorem dX7_register_79 : decode cX7_register 79 = .ok (.invokestatic 249, 3) := by decide +kernel
theorem dX7_register_82 : decode cX7_register 82 = .ok (.ireturn, 1) := by decide +kernel
theorem dX7_register_83 : decode cX7_register 83 = .ok (.iinc 3 1, 3) := by decide +kernel
theorem dX7_register_86 : decode cX7_register 86 = .ok (.goto (-39), 3) := by decide +kernel
theorem dX7_register_89 : decode cX7_register 89 = .ok (.bipush (-4), 2) := by decide +kernel
theorem dX7_register_91 : decode cX7_register 91 = .ok (.ireturn, 1) := by decide +kernel
theorem dX7_memory_0 : decode cX7_memory 0 = .ok (.iload_n 1, 1) := by decide +kernel
theorem dX7_memory_1 : decode cX7_memory 1 = .ok (.ifCond .ge 5, 3) := by decide +kernel
theorem dX7_memory_4 : decode cX7_memory 4 = .ok (.iconst (-1), 1) := by decide +kernel
theorem dX7_memory_5 : decode cX7_memory 5 = .ok (.ireturn, 1) := by decide +kernel
theorem dX7_memory_6 : decode cX7_memory 6 = .ok (.aload_n 0, 1) := by decide +kernel
theorem dX7_memory_7 : decode cX7_memory 7 = .ok (.getfield 61, 3) := by decide +kernel
theorem dX7_memory_10 : decode cX7_memory 10 = .ok (.getfield 163, 3) := by decide +kernel
theorem dX7_memory_13 : decode cX7_memory 13 = .ok (.ifCond .ne 6, 3) := by decide +kernel
theorem dX7_memory_16 : decode cX7_memory 16 = .ok (.bipush (-2), 2) := by decide +kernel
theorem dX7_memory_18 : decode cX7_memory 18 = .ok (.ireturn, 1) := by decide +kernel
theorem dX7_memory_19 : decode cX7_memory 19 = .ok (.aload_n 0, 1) := by decide +kernel
theorem dX7_memory_20 : decode cX7_memory 20 = .ok (.getfield 61, 3) := by decide +kernel
theorem dX7_memory_23 : decode cX7_memory 23 = .ok (.getfield 237, 3) := by decide +kernel
theorem dX7_memory_26 : decode cX7_memory 26 = .ok (.aload_n 0, 1) := by decide +kernel
theorem dX7_memory_27 : decode cX7_memory 27 = .ok (.getfield 33, 3) := by decide +kernel
theorem dX7_memory_30 : decode cX7_memory 30 = .ok (.aload_n 0, 1) := by decide +kernel
theorem dX7_memory_31 : decode cX7_memory 31 = .ok (.getfield 61, 3) := by decide +kernel
theorem dX7_memory_34 : decode cX7_memory 34 = .ok (.getfield 222, 3) := by decide +kernel
theorem dX7_memory_37 : decode cX7_memory 37 = .ok (.invokevirtual 181, 3) := by decide +kernel
theorem dX7_memory_40 : decode cX7_memory 40 = .ok (.isub, 1) := by decide +kernel
theorem dX7_memory_41 : decode cX7_memory 41 = .ok (.istore_n 2, 1) := by decide +kernel
theorem dX7_memory_42 : decode cX7_memory 42 = .ok (.iload_n 1, 1) := by decide +kernel
theorem dX7_memory_43 : decode cX7_memory 43 = .ok (.iload_n 2, 1) := by decide +kernel
theorem dX7_memory_44 : decode cX7_memory 44 = .ok (.if_icmp .ge 27, 3) := by decide +kernel
theorem dX7_memory_47 : decode cX7_memory 47 = .ok (.aload_n 0, 1) := by decide +kernel
theorem dX7_memory_48 : decode cX7_memory 48 = .ok (.getfield 61, 3) := by decide +kernel
theorem dX7_memory_51 : decode cX7_memory 51 = .ok (.aload_n 0, 1) := by decide +kernel
theorem dX7_memory_52 : decode cX7_memory 52 = .ok (.getfield 61, 3) := by decide +kernel
theorem dX7_memory_55 : decode cX7_memory 55 = .ok (.getfield 237, 3) := by decide +kernel
theorem dX7_memory_58 : decode cX7_memory 58 = .ok (.iconst 1, 1) := by decide +kernel
theorem dX7_memory_59 : decode cX7_memory 59 = .ok (.isub, 1) := by decide +kernel
theorem dX7_memory_60 : decode cX7_memory 60 = .ok (.iload_n 1, 1) := by decide +kernel
theorem dX7_memory_61 : decode cX7_memory 61 = .ok (.isub, 1) := by decide +kernel
theorem dX7_memory_62 : decode cX7_memory 62 = .ok (.invokevirtual 246, 3) := by decide +kernel
theorem dX7_memory_65 : decode cX7_memory 65 = .ok (.invokestatic 249, 3) := by decide +kernel
theorem dX7_memory_68 : decode cX7_memory 68 = .ok (.goto 5, 3) := by decide +kernel
theorem dX7_memory_71 : decode cX7_memory 71 = .ok (.bipush (-4), 2) := by decide +kernel
theorem dX7_memory_73 : decode cX7_memory 73 = .ok (.ireturn, 1) := by decide +kernel
theorem dX7_variable_0 : decode cX7_variable 0 = .ok (.iload_n 1, 1) := by decide +kernel
theorem dX7_variable_1 : decode cX7_variable 1 = .ok (.ifCond .lt 8, 3) := by decide +kernel
theorem dX7_variable_4 : decode cX7_variable 4 = .ok (.iload_n 1, 1) := by decide +kernel
theorem dX7_variable_5 : decode cX7_variable 5 = .ok (.iconst 4, 1) := by decide +kernel
theorem dX7_variable_6 : decode cX7_variable 6 = .ok (.if_icmp .lt 5, 3) := by decide +kernel
theorem dX7_variable_9 : decode cX7_variable 9 = .ok (.iconst (-1), 1) := by decide +kernel
theorem dX7_variable_10 : decode cX7_variable 10 = .ok (.ireturn, 1) := by decide +kernel
theorem dX7_variable_11 : decode cX7_variable 11 = .ok (.aload_n 0, 1) := by decide +kernel
theorem dX7_variable_12 : decode cX7_variable 12 = .ok (.getfield 61, 3) := by decide +kernel
theorem dX7_variable_15 : decode cX7_variable 15 = .ok (.getfield 163, 3) := by decide +kernel
theorem dX7_variable_18 : decode cX7_variable 18 = .ok (.ifCond .ne 6, 3) := by decide +kernel
theorem dX7_variable_21 : decode cX7_variable 21 = .ok (.bipush (-2), 2) := by decide +kernel
theorem dX7_variable_23 : decode cX7_variable 23 = .ok (.ireturn, 1) := by decide +kernel
theorem dX7_variable_24 : decode cX7_variable 24 = .ok (.aload_n 0, 1) := by decide +kernel
theorem dX7_variable_25 : decode cX7_variable 25 = .ok (.getfield 61, 3) := by decide +kernel
theorem dX7_variable_28 : decode cX7_variable 28 = .ok (.getfield 252, 3) := by decide +kernel
theorem dX7_variable_31 : decode cX7_variable 31 = .ok (.iload_n 1, 1) := by decide +kernel
theorem dX7_variable_32 : decode cX7_variable 32 = .ok (.iaload, 1) := by decide +kernel
theorem dX7_variable_33 : decode cX7_variable 33 = .ok (.invokestatic 249, 3) := by decide +kernel
theorem dX7_variable_36 : decode cX7_variable 36 = .ok (.ireturn, 1) := by decide +kernel
theorem dX7_out_0 : decode cX7_out 0 = .ok (.iload_n 1, 1) := by decide +kernel
theorem dX7_out_1 : decode cX7_out 1 = .ok (.ifCond .ge 5, 3) := by decide +kernel
theorem dX7_out_4 : decode cX7_out 4 = .ok (.iconst (-1), 1) := by decide +kernel
theorem dX7_out_5 : decode cX7_out 5 = .ok (.ireturn, 1) := by decide +kernel
theorem dX7_out_6 : decode cX7_out 6 = .ok (.aload_n 0, 1) := by decide +kernel
theorem dX7_out_7 : decode cX7_out 7 = .ok (.getfield 61, 3) := by decide +kernel
theorem dX7_out_10 : decode cX7_out 10 = .ok (.getfield 163, 3) := by decide +kernel
theorem dX7_out_13 : decode cX7_out 13 = .ok (.ifCond .ne 6, 3) := by decide +kernel
theorem dX7_out_16 : decode cX7_out 16 = .ok (.bipush (-2), 2) := by decide +kernel
theorem dX7_out_18 : decode cX7_out 18 = .ok (.ireturn, 1) := by decide +kernel
theorem dX7_out_19 : decode cX7_out 19 = .ok (.iload_n 1, 1) := by decide +kernel
theorem dX7_out_20 : decode cX7_out 20 = .ok (.aload_n 0, 1) := by decide +kernel
theorem dX7_out_21 : decode cX7_out 21 = .ok (.getfield 61, 3) := by decide +kernel
theorem dX7_out_24 : decode cX7_out 24 = .ok (.getfield 243, 3) := by decide +kernel
theorem dX7_out_27 : decode cX7_out 27 = .ok (.if_icmp .ge 18, 3) := by decide +kernel
theorem dX7_out_30 : decode cX7_out 30 = .ok (.aload_n 0, 1) := by decide +kernel
theorem dX7_out_31 : decode cX7_out 31 = .ok (.getfield 61, 3) := by decide +kernel
theorem dX7_out_34 : decode cX7_out 34 = .ok (.getfield 255, 3) := by decide +kernel
theorem dX7_out_37 : decode cX7_out 37 = .ok (.iload_n 1, 1) := by decide +kernel
theorem dX7_out_38 : decode cX7_out 38 = .ok (.iaload, 1) := by decide +kernel
theorem dX7_out_39 : decode cX7_out 39 = .ok (.invokestatic 249, 3) := by decide +kernel
theorem dX7_out_42 : decode cX7_out 42 = .ok (.goto 5, 3) := by decide +kernel
theorem dX7_out_45 : decode cX7_out 45 = .ok (.bipush (-4), 2) := by decide +kernel
theorem dX7_out_47 : decode cX7_out 47 = .ok (.ireturn, 1) := by decide +kernel
theorem dX7_went_0 : decode cX7_went 0 = .ok (.aload_n 0, 1) := by decide +kernel
theorem dX7_went_1 : decode cX7_went 1 = .ok (.iload_n 1, 1) := by decide +kernel
theorem dX7_went_2 : decode cX7_went 2 = .ok (.invokevirtual 117, 3) := by decide +kernel
theorem dX7_went_5 : decode cX7_went 5 = .ok (.ifCond .ne 5, 3) := by decide +kernel
theorem dX7_went_8 : decode cX7_went 8 = .ok (.iconst (-1), 1) := by decide +kernel
theorem dX7_went_9 : decode cX7_went 9 = .ok (.ireturn, 1) := by decide +kernel
theorem dX7_went_10 : decode cX7_went 10 = .ok (.aload_n 0, 1) := by decide +kernel
theorem dX7_went_11 : decode cX7_went 11 = .ok (.getfield 61, 3) := by decide +kernel
theorem dX7_went_14 : decode cX7_went 14 = .ok (.getfield 163, 3) := by decide +kernel
theorem dX7_went_17 : decode cX7_went 17 = .ok (.ifCond .ne 6, 3) := by decide +kernel
theorem dX7_went_20 : decode cX7_went 20 = .ok (.bipush (-2), 2) := by decide +kernel
theorem dX7_went_22 : decode cX7_went 22 = .ok (.ireturn, 1) := by decide +kernel
theorem dX7_went_23 : decode cX7_went 23 = .ok (.aload_n 0, 1) := by decide +kernel
theorem dX7_went_24 : decode cX7_went 24 = .ok (.getfield 61, 3) := by decide +kernel
theorem dX7_went_27 : decode cX7_went 27 = .ok (.getfield 258, 3) := by decide +kernel
theorem dX7_went_30 : decode cX7_went 30 = .ok (.iload_n 1, 1) := by decide +kernel
theorem dX7_went_31 : decode cX7_went 31 = .ok (.iaload, 1) := by decide +kernel
theorem dX7_went_32 : decode cX7_went 32 = .ok (.ireturn, 1) := by decide +kernel
theorem dX7_count_0 : decode cX7_count 0 = .ok (.iload_n 1, 1) := by decide +kernel
theorem dX7_count_1 : decode cX7_count 1 = .ok (.tableswitch 155 0 10 #[59, 67, 75, 83, 91, 99, 107, 115, 123, 131, 139], 59) := by decide +kernel
theorem dX7_count_60 : decode cX7_count 60 = .ok (.aload_n 0, 1) := by decide +kernel
theorem dX7_count_61 : decode cX7_count 61 = .ok (.getfield 40, 3) := by decide +kernel
theorem dX7_count_64 : decode cX7_count 64 = .ok (.getfield 98, 3) := by decide +kernel
theorem dX7_count_67 : decode cX7_count 67 = .ok (.ireturn, 1) := by decide +kernel
theorem dX7_count_68 : decode cX7_count 68 = .ok (.aload_n 0, 1) := by decide +kernel
theorem dX7_count_69 : decode cX7_count 69 = .ok (.getfield 26, 3) := by decide +kernel
theorem dX7_count_72 : decode cX7_count 72 = .ok (.getfield 145, 3) := by decide +kernel
theorem dX7_count_75 : decode cX7_count 75 = .ok (.ireturn, 1) := by decide +kernel
theorem dX7_count_76 : decode cX7_count 76 = .ok (.aload_n 0, 1) := by decide +kernel
theorem dX7_count_77 : decode cX7_count 77 = .ok (.getfield 26, 3) := by decide +kernel
theorem dX7_count_80 : decode cX7_count 80 = .ok (.getfield 154, 3) := by decide +kernel
theorem dX7_count_83 : decode cX7_count 83 = .ok (.ireturn, 1) := by decide +kernel
theorem dX7_count_84 : decode cX7_count 84 = .ok (.aload_n 0, 1) := by decide +kernel
theorem dX7_count_85 : decode cX7_count 85 = .ok (.getfield 26, 3) := by decide +kernel
theorem dX7_count_88 : decode cX7_count 88 = .ok (.getfield 157, 3) := by decide +kernel
theorem dX7_count_91 : decode cX7_count 91 = .ok (.ireturn, 1) := by decide +kernel
theorem dX7_count_92 : decode cX7_count 92 = .ok (.aload_n 0, 1) := by decide +kernel
theorem dX7_count_93 : decode cX7_count 93 = .ok (.getfield 26, 3) := by decide +kernel
theorem dX7_count_96 : decode cX7_count 96 = .ok (.getfield 160, 3) := by decide +kernel
theorem dX7_count_99 : decode cX7_count 99 = .ok (.ireturn, 1) := by decide +kernel
theorem dX7_count_100 : decode cX7_count 100 = .ok (.aload_n 0, 1) := by decide +kernel
theorem dX7_count_101 : decode cX7_count 101 = .ok (.getfield 40, 3) := by decide +kernel
theorem dX7_count_104 : decode cX7_count 104 = .ok (.getfield 261, 3) := by decide +kernel
theorem dX7_count_107 : decode cX7_count 107 = .ok (.ireturn, 1) := by decide +kernel
theorem dX7_count_108 : decode cX7_count 108 = .ok (.aload_n 0, 1) := by decide +kernel
theorem dX7_count_109 : decode cX7_count 109 = .ok (.getfield 40, 3) := by decide +kernel
theorem dX7_count_112 : decode cX7_count 112 = .ok (.getfield 264, 3) := by decide +kernel
theorem dX7_count_115 : decode cX7_count 115 = .ok (.ireturn, 1) := by decide +kernel
theorem dX7_count_116 : decode cX7_count 116 = .ok (.aload_n 0, 1) := by decide +kernel
theorem dX7_count_117 : decode cX7_count 117 = .ok (.getfield 26, 3) := by decide +kernel
theorem dX7_count_120 : decode cX7_count 120 = .ok (.getfield 171, 3) := by decide +kernel
theorem dX7_count_123 : decode cX7_count 123 = .ok (.ireturn, 1) := by decide +kernel
theorem dX7_count_124 : decode cX7_count 124 = .ok (.aload_n 0, 1) := by decide +kernel
theorem dX7_count_125 : decode cX7_count 125 = .ok (.getfield 10, 3) := by decide +kernel
theorem dX7_count_128 : decode cX7_count 128 = .ok (.getfield 95, 3) := by decide +kernel
theorem dX7_count_131 : decode cX7_count 131 = .ok (.ireturn, 1) := by decide +kernel
theorem dX7_count_132 : decode cX7_count 132 = .ok (.aload_n 0, 1) := by decide +kernel
theorem dX7_count_133 : decode cX7_count 133 = .ok (.getfield 19, 3) := by decide +kernel
theorem dX7_count_136 : decode cX7_count 136 = .ok (.getfield 112, 3) := by decide +kernel
theorem dX7_count_139 : decode cX7_count 139 = .ok (.ireturn, 1) := by decide +kernel
theorem dX7_count_140 : decode cX7_count 140 = .ok (.aload_n 0, 1) := by decide +kernel
theorem dX7_count_141 : decode cX7_count 141 = .ok (.getfield 61, 3) := by decide +kernel
theorem dX7_count_144 : decode cX7_count 144 = .ok (.getfield 163, 3) := by decide +kernel
theorem dX7_count_147 : decode cX7_count 147 = .ok (.ifCond .eq 7, 3) := by decide +kernel
theorem dX7_count_150 : decode cX7_count 150 = .ok (.iconst 1, 1) := by decide +kernel
theorem dX7_count_151 : decode cX7_count 151 = .ok (.goto 4, 3) := by decide +kernel
theorem dX7_count_154 : decode cX7_count 154 = .ok (.iconst 0, 1) := by decide +kernel
theorem dX7_count_155 : decode cX7_count 155 = .ok (.ireturn, 1) := by decide +kernel
theorem dX7_count_156 : decode cX7_count 156 = .ok (.iconst (-1), 1) := by decide +kernel
theorem dX7_count_157 : decode cX7_count 157 = .ok (.ireturn, 1) := by decide +kernel
theorem dX7_isInstruction_0 : decode cX7_isInstruction 0 = .ok (.iload_n 1, 1) := by decide +kernel
theorem dX7_isInstruction_1 : decode cX7_isInstruction 1 = .ok (.ifCond .lt 18, 3) := by decide +kernel
theorem dX7_isInstruction_4 : decode cX7_isInstruction 4 = .ok (.iload_n 1, 1) := by decide +kernel
theorem dX7_isInstruction_5 : decode cX7_isInstruction 5 = .ok (.aload_n 0, 1) := by decide +kernel
theorem dX7_isInstruction_6 : decode cX7_isInstruction 6 = .ok (.getfield 40, 3) := by decide +kernel
theorem dX7_isInstruction_9 : decode cX7_isInstruction 9 = .ok (.getfield 98, 3) := by decide +kernel
theorem dX7_isInstruction_12 : decode cX7_isInstruction 12 = .ok (.if_icmp .ge 7, 3) := by decide +kernel
theorem dX7_isInstruction_15 : decode cX7_isInstruction 15 = .ok (.iconst 1, 1) := by decide +kernel
theorem dX7_isInstruction_16 : decode cX7_isInstruction 16 = .ok (.goto 4, 3) := by decide +kernel
theorem dX7_isInstruction_19 : decode cX7_isInstruction 19 = .ok (.iconst 0, 1) := by decide +kernel
theorem dX7_isInstruction_20 : decode cX7_isInstruction 20 = .ok (.ireturn, 1) := by decide +kernel
theorem dX7_isState_0 : decode cX7_isState 0 = .ok (.iload_n 1, 1) := by decide +kernel
theorem dX7_isState_1 : decode cX7_isState 1 = .ok (.ifCond .lt 18, 3) := by decide +kernel
theorem dX7_isState_4 : decode cX7_isState 4 = .ok (.iload_n 1, 1) := by decide +kernel
theorem dX7_isState_5 : decode cX7_isState 5 = .ok (.aload_n 0, 1) := by decide +kernel
theorem dX7_isState_6 : decode cX7_isState 6 = .ok (.getfield 33, 3) := by decide +kernel
theorem dX7_isState_9 : decode cX7_isState 9 = .ok (.getfield 177, 3) := by decide +kernel
theorem dX7_isState_12 : decode cX7_isState 12 = .ok (.if_icmp .ge 7, 3) := by decide +kernel
theorem dX7_isState_15 : decode cX7_isState 15 = .ok (.iconst 1, 1) := by decide +kernel
theorem dX7_isState_16 : decode cX7_isState 16 = .ok (.goto 4, 3) := by decide +kernel
theorem dX7_isState_19 : decode cX7_isState 19 = .ok (.iconst 0, 1) := by decide +kernel
theorem dX7_isState_20 : decode cX7_isState 20 = .ok (.ireturn, 1) := by decide +kernel
theorem dX7_isCost_0 : decode cX7_isCost 0 = .ok (.iload_n 0, 1) := by decide +kernel
theorem dX7_isCost_1 : decode cX7_isCost 1 = .ok (.ifCond .lt 13, 3) := by decide +kernel
theorem dX7_isCost_4 : decode cX7_isCost 4 = .ok (.iload_n 0, 1) := by decide +kernel
theorem dX7_isCost_5 : decode cX7_isCost 5 = .ok (.bipush 9, 2) := by decide +kernel
theorem dX7_isCost_7 : decode cX7_isCost 7 = .ok (.if_icmp .gt 7, 3) := by decide +kernel
theorem dX7_isCost_10 : decode cX7_isCost 10 = .ok (.iconst 1, 1) := by decide +kernel
theorem dX7_isCost_11 : decode cX7_isCost 11 = .ok (.goto 4, 3) := by decide +kernel
theorem dX7_isCost_14 : decode cX7_isCost 14 = .ok (.iconst 0, 1) := by decide +kernel
theorem dX7_isCost_15 : decode cX7_isCost 15 = .ok (.ireturn, 1) := by decide +kernel
theorem dX7_shown_0 : decode cX7_shown 0 = .ok (.iload_n 0, 1) := by decide +kernel
theorem dX7_shown_1 : decode cX7_shown 1 = .ok (.ldc_w 267, 3) := by decide +kernel
theorem dX7_shown_4 : decode cX7_shown 4 = .ok (.invokestatic 268, 3) := by decide +kernel
theorem dX7_shown_7 : decode cX7_shown 7 = .ok (.ireturn, 1) := by decide +kernel
theorem dX7_refresh_0 : decode cX7_refresh 0 = .ok (.aload_n 0, 1) := by decide +kernel
theorem dX7_refresh_1 : decode cX7_refresh 1 = .ok (.getfield 33, 3) := by decide +kernel
theorem dX7_refresh_4 : decode cX7_refresh 4 = .ok (.aload_n 0, 1) := by decide +kernel
theorem dX7_refresh_5 : decode cX7_refresh 5 = .ok (.getfield 26, 3) := by decide +kernel
theorem dX7_refresh_8 : decode cX7_refresh 8 = .ok (.invokevirtual 273, 3) := by decide +kernel
theorem dX7_refresh_11 : decode cX7_refresh 11 = .ok (.aload_n 0, 1) := by decide +kernel
theorem dX7_refresh_12 : decode cX7_refresh 12 = .ok (.getfield 52, 3) := by decide +kernel
theorem dX7_refresh_15 : decode cX7_refresh 15 = .ok (.invokevirtual 277, 3) := by decide +kernel
theorem dX7_refresh_18 : decode cX7_refresh 18 = .ok (.aload_n 0, 1) := by decide +kernel
theorem dX7_refresh_19 : decode cX7_refresh 19 = .ok (.getfield 61, 3) := by decide +kernel
theorem dX7_refresh_22 : decode cX7_refresh 22 = .ok (.iconst 0, 1) := by decide +kernel
theorem dX7_refresh_23 : decode cX7_refresh 23 = .ok (.putfield 163, 3) := by decide +kernel
theorem dX7_refresh_26 : decode cX7_refresh 26 = .ok (.return_, 1) := by decide +kernel
theorem dX8_init_0 : decode cX8_init 0 = .ok (.aload_n 0, 1) := by decide +kernel
theorem dX8_init_1 : decode cX8_init 1 = .ok (.invokespecial 1, 3) := by decide +kernel
theorem dX8_init_4 : decode cX8_init 4 = .ok (.aload_n 0, 1) := by decide +kernel
theorem dX8_init_5 : decode cX8_init 5 = .ok (.bipush 28, 2) := by decide +kernel
theorem dX8_init_7 : decode cX8_init 7 = .ok (.newarray .int, 2) := by decide +kernel
theorem dX8_init_9 : decode cX8_init 9 = .ok (.putfield 7, 3) := by decide +kernel
theorem dX8_init_12 : decode cX8_init 12 = .ok (.aload_n 0, 1) := by decide +kernel
theorem dX8_init_13 : decode cX8_init 13 = .ok (.sipush 168, 3) := by decide +kernel
theorem dX8_init_16 : decode cX8_init 16 = .ok (.newarray .int, 2) := by decide +kernel
theorem dX8_init_18 : decode cX8_init 18 = .ok (.putfield 13, 3) := by decide +kernel
theorem dX8_init_21 : decode cX8_init 21 = .ok (.aload_n 0, 1) := by decide +kernel
theorem dX8_init_22 : decode cX8_init 22 = .ok (.bipush 24, 2) := by decide +kernel
theorem dX8_init_24 : decode cX8_init 24 = .ok (.newarray .int, 2) := by decide +kernel
theorem dX8_init_26 : decode cX8_init 26 = .ok (.putfield 16, 3) := by decide +kernel
theorem dX8_init_29 : decode cX8_init 29 = .ok (.aload_n 0, 1) := by decide +kernel
theorem dX8_init_30 : decode cX8_init 30 = .ok (.bipush 24, 2) := by decide +kernel
theorem dX8_init_32 : decode cX8_init 32 = .ok (.newarray .int, 2) := by decide +kernel
theorem dX8_init_34 : decode cX8_init 34 = .ok (.putfield 19, 3) := by decide +kernel
theorem dX8_init_37 : decode cX8_init 37 = .ok (.aload_n 0, 1) := by decide +kernel
theorem dX8_init_38 : decode cX8_init 38 = .ok (.bipush 24, 2) := by decide +kernel
theorem dX8_init_40 : decode cX8_init 40 = .ok (.newarray .int, 2) := by decide +kernel
theorem dX8_init_42 : decode cX8_init 42 = .ok (.putfield 22, 3) := by decide +kernel
theorem dX8_init_45 : decode cX8_init 45 = .ok (.aload_n 0, 1) := by decide +kernel
theorem dX8_init_46 : decode cX8_init 46 = .ok (.bipush 24, 2) := by decide +kernel
theorem dX8_init_48 : decode cX8_init 48 = .ok (.newarray .int, 2) := by decide +kernel
theorem dX8_init_50 : decode cX8_init 50 = .ok (.putfield 25, 3) := by decide +kernel
theorem dX8_init_53 : decode cX8_init 53 = .ok (.aload_n 0, 1) := by decide +kernel
theorem dX8_init_54 : decode cX8_init 54 = .ok (.sipush 200, 3) := by decide +kernel
theorem dX8_init_57 : decode cX8_init 57 = .ok (.newarray .int, 2) := by decide +kernel
theorem dX8_init_59 : decode cX8_init 59 = .ok (.putfield 28, 3) := by decide +kernel
theorem dX8_init_62 : decode cX8_init 62 = .ok (.aload_n 0, 1) := by decide +kernel
theorem dX8_init_63 : decode cX8_init 63 = .ok (.bipush 24, 2) := by decide +kernel
theorem dX8_init_65 : decode cX8_init 65 = .ok (.newarray .int, 2) := by decide +kernel
theorem dX8_init_67 : decode cX8_init 67 = .ok (.putfield 31, 3) := by decide +kernel
theorem dX8_init_70 : decode cX8_init 70 = .ok (.aload_n 0, 1) := by decide +kernel
theorem dX8_init_71 : decode cX8_init 71 = .ok (.bipush 24, 2) := by decide +kernel
theorem dX8_init_73 : decode cX8_init 73 = .ok (.newarray .int, 2) := by decide +kernel
theorem dX8_init_75 : decode cX8_init 75 = .ok (.putfield 34, 3) := by decide +kernel
theorem dX8_init_78 : decode cX8_init 78 = .ok (.aload_n 0, 1) := by decide +kernel
theorem dX8_init_79 : decode cX8_init 79 = .ok (.bipush 24, 2) := by decide +kernel
theorem dX8_init_81 : decode cX8_init 81 = .ok (.newarray .int, 2) := by decide +kernel
theorem dX8_init_83 : decode cX8_init 83 = .ok (.putfield 37, 3) := by decide +kernel
theorem dX8_init_86 : decode cX8_init 86 = .ok (.aload_n 0, 1) := by decide +kernel
theorem dX8_init_87 : decode cX8_init 87 = .ok (.iconst 3, 1) := by decide +kernel
theorem dX8_init_88 : decode cX8_init 88 = .ok (.newarray .int, 2) := by decide +kernel
theorem dX8_init_90 : decode cX8_init 90 = .ok (.putfield 40, 3) := by decide +kernel
theorem dX8_init_93 : decode cX8_init 93 = .ok (.aload_n 0, 1) := by decide +kernel
theorem dX8_init_94 : decode cX8_init 94 = .ok (.bipush 24, 2) := by decide +kernel
theorem dX8_init_96 : decode cX8_init 96 = .ok (.newarray .int, 2) := by decide +kernel
theorem dX8_init_98 : decode cX8_init 98 = .ok (.putfield 43, 3) := by decide +kernel
theorem dX8_init_101 : decode cX8_init 101 = .ok (.aload_n 0, 1) := by decide +kernel
theorem dX8_init_102 : decode cX8_init 102 = .ok (.bipush 24, 2) := by decide +kernel
theorem dX8_init_104 : decode cX8_init 104 = .ok (.newarray .int, 2) := by decide +kernel
theorem dX8_init_106 : decode cX8_init 106 = .ok (.putfield 46, 3) := by decide +kernel
theorem dX8_init_109 : decode cX8_init 109 = .ok (.aload_n 0, 1) := by decide +kernel
theorem dX8_init_110 : decode cX8_init 110 = .ok (.bipush 24, 2) := by decide +kernel
theorem dX8_init_112 : decode cX8_init 112 = .ok (.newarray .int, 2) := by decide +kernel
theorem dX8_init_114 : decode cX8_init 114 = .ok (.putfield 49, 3) := by decide +kernel
theorem dX8_init_117 : decode cX8_init 117 = .ok (.aload_n 0, 1) := by decide +kernel
theorem dX8_init_118 : decode cX8_init 118 = .ok (.bipush 16, 2) := by decide +kernel
theorem dX8_init_120 : decode cX8_init 120 = .ok (.newarray .int, 2) := by decide +kernel
theorem dX8_init_122 : decode cX8_init 122 = .ok (.putfield 52, 3) := by decide +kernel
theorem dX8_init_125 : decode cX8_init 125 = .ok (.aload_n 0, 1) := by decide +kernel
theorem dX8_init_126 : decode cX8_init 126 = .ok (.bipush 48, 2) := by decide +kernel
theorem dX8_init_128 : decode cX8_init 128 = .ok (.newarray .int, 2) := by decide +kernel
theorem dX8_init_130 : decode cX8_init 130 = .ok (.putfield 55, 3) := by decide +kernel
theorem dX8_init_133 : decode cX8_init 133 = .ok (.aload_n 0, 1) := by decide +kernel
theorem dX8_init_134 : decode cX8_init 134 = .ok (.iconst 3, 1) := by decide +kernel
theorem dX8_init_135 : decode cX8_init 135 = .ok (.newarray .int, 2) := by decide +kernel
theorem dX8_init_137 : decode cX8_init 137 = .ok (.putfield 58, 3) := by decide +kernel
theorem dX8_init_140 : decode cX8_init 140 = .ok (.aload_n 0, 1) := by decide +kernel
theorem dX8_init_141 : decode cX8_init 141 = .ok (.sipush 256, 3) := by decide +kernel
theorem dX8_init_144 : decode cX8_init 144 = .ok (.newarray .int, 2) := by decide +kernel
theorem dX8_init_146 : decode cX8_init 146 = .ok (.putfield 61, 3) := by decide +kernel
theorem dX8_init_149 : decode cX8_init 149 = .ok (.aload_n 0, 1) := by decide +kernel
theorem dX8_init_150 : decode cX8_init 150 = .ok (.sipush 512, 3) := by decide +kernel
theorem dX8_init_153 : decode cX8_init 153 = .ok (.newarray .int, 2) := by decide +kernel
theorem dX8_init_155 : decode cX8_init 155 = .ok (.putfield 64, 3) := by decide +kernel
theorem dX8_init_158 : decode cX8_init 158 = .ok (.aload_n 0, 1) := by decide +kernel
theorem dX8_init_159 : decode cX8_init 159 = .ok (.sipush 512, 3) := by decide +kernel
theorem dX8_init_162 : decode cX8_init 162 = .ok (.newarray .int, 2) := by decide +kernel
theorem dX8_init_164 : decode cX8_init 164 = .ok (.putfield 67, 3) := by decide +kernel
theorem dX8_init_167 : decode cX8_init 167 = .ok (.aload_n 0, 1) := by decide +kernel
theorem dX8_init_168 : decode cX8_init 168 = .ok (.bipush 24, 2) := by decide +kernel
theorem dX8_init_170 : decode cX8_init 170 = .ok (.newarray .int, 2) := by decide +kernel
theorem dX8_init_172 : decode cX8_init 172 = .ok (.putfield 70, 3) := by decide +kernel
theorem dX8_init_175 : decode cX8_init 175 = .ok (.aload_n 0, 1) := by decide +kernel
theorem dX8_init_176 : decode cX8_init 176 = .ok (.sipush 384, 3) := by decide +kernel
theorem dX8_init_179 : decode cX8_init 179 = .ok (.newarray .int, 2) := by decide +kernel
theorem dX8_init_181 : decode cX8_init 181 = .ok (.putfield 73, 3) := by decide +kernel
theorem dX8_init_184 : decode cX8_init 184 = .ok (.aload_n 0, 1) := by decide +kernel
theorem dX8_init_185 : decode cX8_init 185 = .ok (.sipush 384, 3) := by decide +kernel
theorem dX8_init_188 : decode cX8_init 188 = .ok (.newarray .int, 2) := by decide +kernel
theorem dX8_init_190 : decode cX8_init 190 = .ok (.putfield 76, 3) := by decide +kernel
theorem dX8_init_193 : decode cX8_init 193 = .ok (.aload_n 0, 1) := by decide +kernel
theorem dX8_init_194 : decode cX8_init 194 = .ok (.sipush 384, 3) := by decide +kernel
theorem dX8_init_197 : decode cX8_init 197 = .ok (.newarray .int, 2) := by decide +kernel
theorem dX8_init_199 : decode cX8_init 199 = .ok (.putfield 79, 3) := by decide +kernel
theorem dX8_init_202 : decode cX8_init 202 = .ok (.aload_n 0, 1) := by decide +kernel
theorem dX8_init_203 : decode cX8_init 203 = .ok (.iconst 2, 1) := by decide +kernel
theorem dX8_init_204 : decode cX8_init 204 = .ok (.newarray .int, 2) := by decide +kernel
theorem dX8_init_206 : decode cX8_init 206 = .ok (.putfield 82, 3) := by decide +kernel
theorem dX8_init_209 : decode cX8_init 209 = .ok (.aload_n 0, 1) := by decide +kernel
theorem dX8_init_210 : decode cX8_init 210 = .ok (.bipush 24, 2) := by decide +kernel
theorem dX8_init_212 : decode cX8_init 212 = .ok (.newarray .int, 2) := by decide +kernel
theorem dX8_init_214 : decode cX8_init 214 = .ok (.putfield 85, 3) := by decide +kernel
theorem dX8_init_217 : decode cX8_init 217 = .ok (.aload_n 0, 1) := by decide +kernel
theorem dX8_init_218 : decode cX8_init 218 = .ok (.bipush (-4), 2) := by decide +kernel
theorem dX8_init_220 : decode cX8_init 220 = .ok (.putfield 88, 3) := by decide +kernel
theorem dX8_init_223 : decode cX8_init 223 = .ok (.aload_n 0, 1) := by decide +kernel
theorem dX8_init_224 : decode cX8_init 224 = .ok (.bipush 16, 2) := by decide +kernel
theorem dX8_init_226 : decode cX8_init 226 = .ok (.newarray .int, 2) := by decide +kernel
theorem dX8_init_228 : decode cX8_init 228 = .ok (.putfield 92, 3) := by decide +kernel
theorem dX8_init_231 : decode cX8_init 231 = .ok (.aload_n 0, 1) := by decide +kernel
theorem dX8_init_232 : decode cX8_init 232 = .ok (.bipush 16, 2) := by decide +kernel
theorem dX8_init_234 : decode cX8_init 234 = .ok (.newarray .int, 2) := by decide +kernel
theorem dX8_init_236 : decode cX8_init 236 = .ok (.putfield 95, 3) := by decide +kernel
theorem dX8_init_239 : decode cX8_init 239 = .ok (.aload_n 0, 1) := by decide +kernel
theorem dX8_init_240 : decode cX8_init 240 = .ok (.iconst 4, 1) := by decide +kernel
theorem dX8_init_241 : decode cX8_init 241 = .ok (.newarray .int, 2) := by decide +kernel
theorem dX8_init_243 : decode cX8_init 243 = .ok (.putfield 98, 3) := by decide +kernel
theorem dX8_init_246 : decode cX8_init 246 = .ok (.aload_n 0, 1) := by decide +kernel
theorem dX8_init_247 : decode cX8_init 247 = .ok (.bipush 24, 2) := by decide +kernel
theorem dX8_init_249 : decode cX8_init 249 = .ok (.newarray .int, 2) := by decide +kernel
theorem dX8_init_251 : decode cX8_init 251 = .ok (.putfield 101, 3) := by decide +kernel
theorem dX8_init_254 : decode cX8_init 254 = .ok (.aload_n 0, 1) := by decide +kernel
theorem dX8_init_255 : decode cX8_init 255 = .ok (.getfield 7, 3) := by decide +kernel
theorem dX8_init_258 : decode cX8_init 258 = .ok (.iconst 0, 1) := by decide +kernel
theorem dX8_init_259 : decode cX8_init 259 = .ok (.iconst 2, 1) := by decide +kernel
theorem dX8_init_260 : decode cX8_init 260 = .ok (.iastore, 1) := by decide +kernel
theorem dX8_init_261 : decode cX8_init 261 = .ok (.aload_n 0, 1) := by decide +kernel
theorem dX8_init_262 : decode cX8_init 262 = .ok (.getfield 7, 3) := by decide +kernel
theorem dX8_init_265 : decode cX8_init 265 = .ok (.iconst 1, 1) := by decide +kernel
theorem dX8_init_266 : decode cX8_init 266 = .ok (.iconst 1, 1) := by decide +kernel
theorem dX8_init_267 : decode cX8_init 267 = .ok (.iastore, 1) := by decide +kernel
theorem dX8_init_268 : decode cX8_init 268 = .ok (.aload_n 0, 1) := by decide +kernel
theorem dX8_init_269 : decode cX8_init 269 = .ok (.getfield 7, 3) := by decide +kernel
theorem dX8_init_272 : decode cX8_init 272 = .ok (.iconst 2, 1) := by decide +kernel
theorem dX8_init_273 : decode cX8_init 273 = .ok (.iconst 2, 1) := by decide +kernel
theorem dX8_init_274 : decode cX8_init 274 = .ok (.iastore, 1) := by decide +kernel
theorem dX8_init_275 : decode cX8_init 275 = .ok (.aload_n 0, 1) := by decide +kernel
theorem dX8_init_276 : decode cX8_init 276 = .ok (.getfield 7, 3) := by decide +kernel
theorem dX8_init_279 : decode cX8_init 279 = .ok (.iconst 3, 1) := by decide +kernel
theorem dX8_init_280 : decode cX8_init 280 = .ok (.iconst 2, 1) := by decide +kernel
theorem dX8_init_281 : decode cX8_init 281 = .ok (.iastore, 1) := by decide +kernel
theorem dX8_init_282 : decode cX8_init 282 = .ok (.aload_n 0, 1) := by decide +kernel
theorem dX8_init_283 : decode cX8_init 283 = .ok (.iconst 0, 1) := by decide +kernel
theorem dX8_init_284 : decode cX8_init 284 = .ok (.bipush 110, 2) := by decide +kernel
theorem dX8_init_286 : decode cX8_init 286 = .ok (.iconst 5, 1) := by decide +kernel
theorem dX8_init_287 : decode cX8_init 287 = .ok (.invokevirtual 104, 3) := by decide +kernel
theorem dX8_init_290 : decode cX8_init 290 = .ok (.aload_n 0, 1) := by decide +kernel
theorem dX8_init_291 : decode cX8_init 291 = .ok (.iconst 1, 1) := by decide +kernel
theorem dX8_init_292 : decode cX8_init 292 = .ok (.bipush 115, 2) := by decide +kernel
theorem dX8_init_294 : decode cX8_init 294 = .ok (.iconst 0, 1) := by decide +kernel
theorem dX8_init_295 : decode cX8_init 295 = .ok (.invokevirtual 104, 3) := by decide +kernel
theorem dX8_init_298 : decode cX8_init 298 = .ok (.aload_n 0, 1) := by decide +kernel
theorem dX8_init_299 : decode cX8_init 299 = .ok (.iconst 2, 1) := by decide +kernel
theorem dX8_init_300 : decode cX8_init 300 = .ok (.bipush 103, 2) := by decide +kernel
theorem dX8_init_302 : decode cX8_init 302 = .ok (.iconst 0, 1) := by decide +kernel
theorem dX8_init_303 : decode cX8_init 303 = .ok (.invokevirtual 104, 3) := by decide +kernel
theorem dX8_init_306 : decode cX8_init 306 = .ok (.aload_n 0, 1) := by decide +kernel
theorem dX8_init_307 : decode cX8_init 307 = .ok (.iconst 3, 1) := by decide +kernel
theorem dX8_init_308 : decode cX8_init 308 = .ok (.bipush 98, 2) := by decide +kernel
theorem dX8_init_310 : decode cX8_init 310 = .ok (.bipush 15, 2) := by decide +kernel
theorem dX8_init_312 : decode cX8_init 312 = .ok (.invokevirtual 104, 3) := by decide +kernel
theorem dX8_init_315 : decode cX8_init 315 = .ok (.aload_n 0, 1) := by decide +kernel
theorem dX8_init_316 : decode cX8_init 316 = .ok (.iconst 4, 1) := by decide +kernel
theorem dX8_init_317 : decode cX8_init 317 = .ok (.bipush 103, 2) := by decide +kernel
theorem dX8_init_319 : decode cX8_init 319 = .ok (.iconst 0, 1) := by decide +kernel
theorem dX8_init_320 : decode cX8_init 320 = .ok (.invokevirtual 104, 3) := by decide +kernel
theorem dX8_init_323 : decode cX8_init 323 = .ok (.aload_n 0, 1) := by decide +kernel
theorem dX8_init_324 : decode cX8_init 324 = .ok (.iconst 5, 1) := by decide +kernel
theorem dX8_init_325 : decode cX8_init 325 = .ok (.bipush 110, 2) := by decide +kernel
theorem dX8_init_327 : decode cX8_init 327 = .ok (.iconst 3, 1) := by decide +kernel
theorem dX8_init_328 : decode cX8_init 328 = .ok (.invokevirtual 104, 3) := by decide +kernel
theorem dX8_init_331 : decode cX8_init 331 = .ok (.aload_n 0, 1) := by decide +kernel
theorem dX8_init_332 : decode cX8_init 332 = .ok (.bipush 6, 2) := by decide +kernel
theorem dX8_init_334 : decode cX8_init 334 = .ok (.bipush 42, 2) := by decide +kernel
theorem dX8_init_336 : decode cX8_init 336 = .ok (.bipush (-4), 2) := by decide +kernel
theorem dX8_init_338 : decode cX8_init 338 = .ok (.invokevirtual 104, 3) := by decide +kernel
theorem dX8_init_341 : decode cX8_init 341 = .ok (.aload_n 0, 1) := by decide +kernel
theorem dX8_init_342 : decode cX8_init 342 = .ok (.bipush 7, 2) := by decide +kernel
theorem dX8_init_344 : decode cX8_init 344 = .ok (.bipush 100, 2) := by decide +kernel
theorem dX8_init_346 : decode cX8_init 346 = .ok (.bipush (-4), 2) := by decide +kernel
theorem dX8_init_348 : decode cX8_init 348 = .ok (.invokevirtual 104, 3) := by decide +kernel
theorem dX8_init_351 : decode cX8_init 351 = .ok (.aload_n 0, 1) := by decide +kernel
theorem dX8_init_352 : decode cX8_init 352 = .ok (.bipush 8, 2) := by decide +kernel
theorem dX8_init_354 : decode cX8_init 354 = .ok (.bipush 119, 2) := by decide +kernel
theorem dX8_init_356 : decode cX8_init 356 = .ok (.bipush (-4), 2) := by decide +kernel
theorem dX8_init_358 : decode cX8_init 358 = .ok (.invokevirtual 104, 3) := by decide +kernel
theorem dX8_init_361 : decode cX8_init 361 = .ok (.aload_n 0, 1) := by decide +kernel
theorem dX8_init_362 : decode cX8_init 362 = .ok (.bipush 9, 2) := by decide +kernel
theorem dX8_init_364 : decode cX8_init 364 = .ok (.bipush 112, 2) := by decide +kernel
theorem dX8_init_366 : decode cX8_init 366 = .ok (.bipush (-4), 2) := by decide +kernel
theorem dX8_init_368 : decode cX8_init 368 = .ok (.invokevirtual 104, 3) := by decide +kernel
theorem dX8_init_371 : decode cX8_init 371 = .ok (.aload_n 0, 1) := by decide +kernel
theorem dX8_init_372 : decode cX8_init 372 = .ok (.bipush 10, 2) := by decide +kernel
theorem dX8_init_374 : decode cX8_init 374 = .ok (.bipush 103, 2) := by decide +kernel
theorem dX8_init_376 : decode cX8_init 376 = .ok (.iconst 0, 1) := by decide +kernel
theorem dX8_init_377 : decode cX8_init 377 = .ok (.invokevirtual 104, 3) := by decide +kernel
theorem dX8_init_380 : decode cX8_init 380 = .ok (.aload_n 0, 1) := by decide +kernel
theorem dX8_init_381 : decode cX8_init 381 = .ok (.bipush 11, 2) := by decide +kernel
theorem dX8_init_383 : decode cX8_init 383 = .ok (.bipush 110, 2) := by decide +kernel
theorem dX8_init_385 : decode cX8_init 385 = .ok (.iconst 1, 1) := by decide +kernel
theorem dX8_init_386 : decode cX8_init 386 = .ok (.invokevirtual 104, 3) := by decide +kernel
theorem dX8_init_389 : decode cX8_init 389 = .ok (.aload_n 0, 1) := by decide +kernel
theorem dX8_init_390 : decode cX8_init 390 = .ok (.bipush 12, 2) := by decide +kernel
theorem dX8_init_392 : decode cX8_init 392 = .ok (.bipush 45, 2) := by decide +kernel
theorem dX8_init_394 : decode cX8_init 394 = .ok (.bipush (-4), 2) := by decide +kernel
theorem dX8_init_396 : decode cX8_init 396 = .ok (.invokevirtual 104, 3) := by decide +kernel
theorem dX8_init_399 : decode cX8_init 399 = .ok (.aload_n 0, 1) := by decide +kernel
theorem dX8_init_400 : decode cX8_init 400 = .ok (.bipush 13, 2) := by decide +kernel
theorem dX8_init_402 : decode cX8_init 402 = .ok (.bipush 115, 2) := by decide +kernel
theorem dX8_init_404 : decode cX8_init 404 = .ok (.iconst 0, 1) := by decide +kernel
theorem dX8_init_405 : decode cX8_init 405 = .ok (.invokevirtual 104, 3) := by decide +kernel
theorem dX8_init_408 : decode cX8_init 408 = .ok (.aload_n 0, 1) := by decide +kernel
theorem dX8_init_409 : decode cX8_init 409 = .ok (.bipush 14, 2) := by decide +kernel
theorem dX8_init_411 : decode cX8_init 411 = .ok (.bipush 106, 2) := by decide +kernel
theorem dX8_init_413 : decode cX8_init 413 = .ok (.iconst 2, 1) := by decide +kernel
theorem dX8_init_414 : decode cX8_init 414 = .ok (.invokevirtual 104, 3) := by decide +kernel
theorem dX8_init_417 : decode cX8_init 417 = .ok (.aload_n 0, 1) := by decide +kernel
theorem dX8_init_418 : decode cX8_init 418 = .ok (.bipush 15, 2) := by decide +kernel
theorem dX8_init_420 : decode cX8_init 420 = .ok (.bipush 104, 2) := by decide +kernel
theorem dX8_init_422 : decode cX8_init 422 = .ok (.bipush (-4), 2) := by decide +kernel
theorem dX8_init_424 : decode cX8_init 424 = .ok (.invokevirtual 104, 3) := by decide +kernel
theorem dX8_init_427 : decode cX8_init 427 = .ok (.aload_n 0, 1) := by decide +kernel
theorem dX8_init_428 : decode cX8_init 428 = .ok (.bipush 16, 2) := by decide +kernel
theorem dX8_init_430 : decode cX8_init 430 = .ok (.putfield 108, 3) := by decide +kernel
theorem dX8_init_433 : decode cX8_init 433 = .ok (.aload_n 0, 1) := by decide +kernel
theorem dX8_init_434 : decode cX8_init 434 = .ok (.invokevirtual 111, 3) := by decide +kernel
theorem dX8_init_437 : decode cX8_init 437 = .ok (.return_, 1) := by decide +kernel
theorem dX8_lays_0 : decode cX8_lays 0 = .ok (.aload_n 0, 1) := by decide +kernel
theorem dX8_lays_1 : decode cX8_lays 1 = .ok (.getfield 31, 3) := by decide +kernel
theorem dX8_lays_4 : decode cX8_lays 4 = .ok (.iload_n 1, 1) := by decide +kernel
theorem dX8_lays_5 : decode cX8_lays 5 = .ok (.iload_n 2, 1) := by decide +kernel
theorem dX8_lays_6 : decode cX8_lays 6 = .ok (.iastore, 1) := by decide +kernel
theorem dX8_lays_7 : decode cX8_lays 7 = .ok (.aload_n 0, 1) := by decide +kernel
theorem dX8_lays_8 : decode cX8_lays 8 = .ok (.getfield 34, 3) := by decide +kernel
theorem dX8_lays_11 : decode cX8_lays 11 = .ok (.iload_n 1, 1) := by decide +kernel
theorem dX8_lays_12 : decode cX8_lays 12 = .ok (.iload_n 3, 1) := by decide +kernel
theorem dX8_lays_13 : decode cX8_lays 13 = .ok (.iastore, 1) := by decide +kernel
theorem dX8_lays_14 : decode cX8_lays 14 = .ok (.return_, 1) := by decide +kernel
theorem dX8_in_0 : decode cX8_in 0 = .ok (.iload_n 0, 1) := by decide +kernel
theorem dX8_in_1 : decode cX8_in 1 = .ok (.iload_n 1, 1) := by decide +kernel
theorem dX8_in_2 : decode cX8_in 2 = .ok (.if_icmp .lt 12, 3) := by decide +kernel
theorem dX8_in_5 : decode cX8_in 5 = .ok (.iload_n 0, 1) := by decide +kernel
theorem dX8_in_6 : decode cX8_in 6 = .ok (.iload_n 2, 1) := by decide +kernel
theorem dX8_in_7 : decode cX8_in 7 = .ok (.if_icmp .gt 7, 3) := by decide +kernel
theorem dX8_in_10 : decode cX8_in 10 = .ok (.iconst 1, 1) := by decide +kernel
theorem dX8_in_11 : decode cX8_in 11 = .ok (.goto 4, 3) := by decide +kernel
theorem dX8_in_14 : decode cX8_in 14 = .ok (.iconst 0, 1) := by decide +kernel
theorem dX8_in_15 : decode cX8_in 15 = .ok (.ireturn, 1) := by decide +kernel
theorem dX8_takes_0 : decode cX8_takes 0 = .ok (.iload_n 0, 1) := by decide +kernel
theorem dX8_takes_1 : decode cX8_takes 1 = .ok (.tableswitch 109 98 119 #[105, 109, 105, 109, 109, 103, 103, 109, 103, 109, 109, 109, 103, 109, 105, 109, 107, 105, 109, 109, 109, 105], 103) := by decide +kernel
theorem dX8_takes_104 : decode cX8_takes 104 = .ok (.iconst 0, 1) := by decide +kernel
theorem dX8_takes_105 : decode cX8_takes 105 = .ok (.ireturn, 1) := by decide +kernel
theorem dX8_takes_106 : decode cX8_takes 106 = .ok (.iconst 1, 1) := by decide +kernel
theorem dX8_takes_107 : decode cX8_takes 107 = .ok (.ireturn, 1) := by decide +kernel
theorem dX8_takes_108 : decode cX8_takes 108 = .ok (.iconst 3, 1) := by decide +kernel
theorem dX8_takes_109 : decode cX8_takes 109 = .ok (.ireturn, 1) := by decide +kernel
theorem dX8_takes_110 : decode cX8_takes 110 = .ok (.iconst 2, 1) := by decide +kernel
theorem dX8_takes_111 : decode cX8_takes 111 = .ok (.ireturn, 1) := by decide +kernel
theorem dX8_comes_0 : decode cX8_comes 0 = .ok (.iload_n 0, 1) := by decide +kernel
theorem dX8_comes_1 : decode cX8_comes 1 = .ok (.lookupswitch 89 #[(42, 87), (43, 87), (45, 87), (100, 83), (103, 87), (110, 87), (111, 85), (114, 85), (120, 83)], 83) := by decide +kernel
theorem dX8_comes_84 : decode cX8_comes 84 = .ok (.iconst 2, 1) := by decide +kernel
theorem dX8_comes_85 : decode cX8_comes 85 = .ok (.ireturn, 1) := by decide +kernel
theorem dX8_comes_86 : decode cX8_comes 86 = .ok (.iconst 3, 1) := by decide +kernel
theorem dX8_comes_87 : decode cX8_comes 87 = .ok (.ireturn, 1) := by decide +kernel
theorem dX8_comes_88 : decode cX8_comes 88 = .ok (.iconst 1, 1) := by decide +kernel
theorem dX8_comes_89 : decode cX8_comes 89 = .ok (.ireturn, 1) := by decide +kernel
theorem dX8_comes_90 : decode cX8_comes 90 = .ok (.iconst 0, 1) := by decide +kernel
theorem dX8_comes_91 : decode cX8_comes 91 = .ok (.ireturn, 1) := by decide +kernel
theorem dX8_isName_0 : decode cX8_isName 0 = .ok (.iload_n 0, 1) := by decide +kernel
theorem dX8_isName_1 : decode cX8_isName 1 = .ok (.lookupswitch 133 #[(42, 131), (43, 131), (45, 131), (98, 131), (100, 131), (103, 131), (104, 131), (106, 131), (110, 131), (111, 131), (112, 131), (114, 131), (115, 131), (119, 131), (120, 131)], 131) := by decide +kernel
theorem dX8_isName_132 : decode cX8_isName 132 = .ok (.iconst 1, 1) := by decide +kernel
theorem dX8_isName_133 : decode cX8_isName 133 = .ok (.ireturn, 1) := by decide +kernel
theorem dX8_isName_134 : decode cX8_isName 134 = .ok (.iconst 0, 1) := by decide +kernel
theorem dX8_isName_135 : decode cX8_isName 135 = .ok (.ireturn, 1) := by decide +kernel
theorem dX8_figuresOf_0 : decode cX8_figuresOf 0 = .ok (.iload_n 0, 1) := by decide +kernel
theorem dX8_figuresOf_1 : decode cX8_figuresOf 1 = .ok (.bipush 110, 2) := by decide +kernel
theorem dX8_figuresOf_3 : decode cX8_figuresOf 3 = .ok (.if_icmp .eq 15, 3) := by decide +kernel
theorem dX8_figuresOf_6 : decode cX8_figuresOf 6 = .ok (.iload_n 0, 1) := by decide +kernel
theorem dX8_figuresOf_7 : decode cX8_figuresOf 7 = .ok (.bipush 106, 2) := by decide +kernel
theorem dX8_figuresOf_9 : decode cX8_figuresOf 9 = .ok (.if_icmp .eq 9, 3) := by decide +kernel
theorem dX8_figuresOf_12 : decode cX8_figuresOf 12 = .ok (.iload_n 0, 1) := by decide +kernel
theorem dX8_figuresOf_13 : decode cX8_figuresOf 13 = .ok (.bipush 98, 2) := by decide +kernel
theorem dX8_figuresOf_15 : decode cX8_figuresOf 15 = .ok (.if_icmp .ne 7, 3) := by decide +kernel
theorem dX8_figuresOf_18 : decode cX8_figuresOf 18 = .ok (.iconst 2, 1) := by decide +kernel
theorem dX8_figuresOf_19 : decode cX8_figuresOf 19 = .ok (.goto 20, 3) := by decide +kernel
theorem dX8_figuresOf_22 : decode cX8_figuresOf 22 = .ok (.iload_n 0, 1) := by decide +kernel
theorem dX8_figuresOf_23 : decode cX8_figuresOf 23 = .ok (.bipush 103, 2) := by decide +kernel
theorem dX8_figuresOf_25 : decode cX8_figuresOf 25 = .ok (.if_icmp .eq 9, 3) := by decide +kernel
theorem dX8_figuresOf_28 : decode cX8_figuresOf 28 = .ok (.iload_n 0, 1) := by decide +kernel
theorem dX8_figuresOf_29 : decode cX8_figuresOf 29 = .ok (.bipush 115, 2) := by decide +kernel
theorem dX8_figuresOf_31 : decode cX8_figuresOf 31 = .ok (.if_icmp .ne 7, 3) := by decide +kernel
theorem dX8_figuresOf_34 : decode cX8_figuresOf 34 = .ok (.iconst 1, 1) := by decide +kernel
theorem dX8_figuresOf_35 : decode cX8_figuresOf 35 = .ok (.goto 4, 3) := by decide +kernel
theorem dX8_figuresOf_38 : decode cX8_figuresOf 38 = .ok (.iconst 0, 1) := by decide +kernel
theorem dX8_figuresOf_39 : decode cX8_figuresOf 39 = .ok (.ireturn, 1) := by decide +kernel
theorem dX8_write_0 : decode cX8_write 0 = .ok (.iload_n 1, 1) := by decide +kernel
theorem dX8_write_1 : decode cX8_write 1 = .ok (.bipush 32, 2) := by decide +kernel
theorem dX8_write_3 : decode cX8_write 3 = .ok (.bipush 126, 2) := by decide +kernel
theorem dX8_write_5 : decode cX8_write 5 = .ok (.invokestatic 114, 3) := by decide +kernel
theorem dX8_write_8 : decode cX8_write 8 = .ok (.ifCond .ne 5, 3) := by decide +kernel
theorem dX8_write_11 : decode cX8_write 11 = .ok (.iconst (-1), 1) := by decide +kernel
theorem dX8_write_12 : decode cX8_write 12 = .ok (.ireturn, 1) := by decide +kernel
theorem dX8_write_13 : decode cX8_write 13 = .ok (.aload_n 0, 1) := by decide +kernel
theorem dX8_write_14 : decode cX8_write 14 = .ok (.getfield 118, 3) := by decide +kernel
theorem dX8_write_17 : decode cX8_write 17 = .ok (.sipush 200, 3) := by decide +kernel
theorem dX8_write_20 : decode cX8_write 20 = .ok (.if_icmp .ne 6, 3) := by decide +kernel
theorem dX8_write_23 : decode cX8_write 23 = .ok (.bipush (-3), 2) := by decide +kernel
theorem dX8_write_25 : decode cX8_write 25 = .ok (.ireturn, 1) := by decide +kernel
theorem dX8_write_26 : decode cX8_write 26 = .ok (.aload_n 0, 1) := by decide +kernel
theorem dX8_write_27 : decode cX8_write 27 = .ok (.getfield 28, 3) := by decide +kernel
theorem dX8_write_30 : decode cX8_write 30 = .ok (.aload_n 0, 1) := by decide +kernel
theorem dX8_write_31 : decode cX8_write 31 = .ok (.getfield 118, 3) := by decide +kernel
theorem dX8_write_34 : decode cX8_write 34 = .ok (.iload_n 1, 1) := by decide +kernel
theorem dX8_write_35 : decode cX8_write 35 = .ok (.iastore, 1) := by decide +kernel
theorem dX8_write_36 : decode cX8_write 36 = .ok (.aload_n 0, 1) := by decide +kernel
theorem dX8_write_37 : decode cX8_write 37 = .ok (.dup, 1) := by decide +kernel
theorem dX8_write_38 : decode cX8_write 38 = .ok (.getfield 118, 3) := by decide +kernel
theorem dX8_write_41 : decode cX8_write 41 = .ok (.iconst 1, 1) := by decide +kernel
theorem dX8_write_42 : decode cX8_write 42 = .ok (.iadd, 1) := by decide +kernel
theorem dX8_write_43 : decode cX8_write 43 = .ok (.putfield 118, 3) := by decide +kernel
theorem dX8_write_46 : decode cX8_write 46 = .ok (.aload_n 0, 1) := by decide +kernel
theorem dX8_write_47 : decode cX8_write 47 = .ok (.getfield 118, 3) := by decide +kernel
theorem dX8_write_50 : decode cX8_write 50 = .ok (.ireturn, 1) := by decide +kernel
theorem dX8_wipe_0 : decode cX8_wipe 0 = .ok (.aload_n 0, 1) := by decide +kernel
theorem dX8_wipe_1 : decode cX8_wipe 1 = .ok (.getfield 118, 3) := by decide +kernel
theorem dX8_wipe_4 : decode cX8_wipe 4 = .ok (.istore_n 1, 1) := by decide +kernel
theorem dX8_wipe_5 : decode cX8_wipe 5 = .ok (.aload_n 0, 1) := by decide +kernel
theorem dX8_wipe_6 : decode cX8_wipe 6 = .ok (.iconst 0, 1) := by decide +kernel
theorem dX8_wipe_7 : decode cX8_wipe 7 = .ok (.putfield 118, 3) := by decide +kernel
theorem dX8_wipe_10 : decode cX8_wipe 10 = .ok (.iload_n 1, 1) := by decide +kernel
theorem dX8_wipe_11 : decode cX8_wipe 11 = .ok (.ireturn, 1) := by decide +kernel
theorem dX8_isFigure_0 : decode cX8_isFigure 0 = .ok (.iload_n 1, 1) := by decide +kernel
theorem dX8_isFigure_1 : decode cX8_isFigure 1 = .ok (.aload_n 0, 1) := by decide +kernel
theorem dX8_isFigure_2 : decode cX8_isFigure 2 = .ok (.getfield 118, 3) := by decide +kernel
theorem dX8_isFigure_5 : decode cX8_isFigure 5 = .ok (.if_icmp .ge 23, 3) := by decide +kernel
theorem dX8_isFigure_8 : decode cX8_isFigure 8 = .ok (.aload_n 0, 1) := by decide +kernel
theorem dX8_isFigure_9 : decode cX8_isFigure 9 = .ok (.getfield 28, 3) := by decide +kernel
theorem dX8_isFigure_12 : decode cX8_isFigure 12 = .ok (.iload_n 1, 1) := by decide +kernel
theorem dX8_isFigure_13 : decode cX8_isFigure 13 = .ok (.iaload, 1) := by decide +kernel
theorem dX8_isFigure_14 : decode cX8_isFigure 14 = .ok (.bipush 48, 2) := by decide +kernel
theorem dX8_isFigure_16 : decode cX8_isFigure 16 = .ok (.bipush 57, 2) := by decide +kernel
theorem dX8_isFigure_18 : decode cX8_isFigure 18 = .ok (.invokestatic 114, 3) := by decide +kernel
theorem dX8_isFigure_21 : decode cX8_isFigure 21 = .ok (.ifCond .eq 7, 3) := by decide +kernel
theorem dX8_isFigure_24 : decode cX8_isFigure 24 = .ok (.iconst 1, 1) := by decide +kernel
theorem dX8_isFigure_25 : decode cX8_isFigure 25 = .ok (.goto 4, 3) := by decide +kernel
theorem dX8_isFigure_28 : decode cX8_isFigure 28 = .ok (.iconst 0, 1) := by decide +kernel
theorem dX8_isFigure_29 : decode cX8_isFigure 29 = .ok (.ireturn, 1) := by decide +kernel
theorem dX8_reads_0 : decode cX8_reads 0 = .ok (.aload_n 0, 1) := by decide +kernel
theorem dX8_reads_1 : decode cX8_reads 1 = .ok (.getfield 108, 3) := by decide +kernel
theorem dX8_reads_4 : decode cX8_reads 4 = .ok (.bipush 24, 2) := by decide +kernel
theorem dX8_reads_6 : decode cX8_reads 6 = .ok (.if_icmp .ne 6, 3) := by decide +kernel
theorem dX8_reads_9 : decode cX8_reads 9 = .ok (.bipush 13, 2) := by decide +kernel
theorem dX8_reads_11 : decode cX8_reads 11 = .ok (.ireturn, 1) := by decide +kernel
theorem dX8_reads_12 : decode cX8_reads 12 = .ok (.aload_n 0, 1) := by decide +kernel
theorem dX8_reads_13 : decode cX8_reads 13 = .ok (.getfield 28, 3) := by decide +kernel
theorem dX8_reads_16 : decode cX8_reads 16 = .ok (.aload_n 0, 1) := by decide +kernel
theorem dX8_reads_17 : decode cX8_reads 17 = .ok (.getfield 121, 3) := by decide +kernel
theorem dX8_reads_20 : decode cX8_reads 20 = .ok (.iaload, 1) := by decide +kernel
theorem dX8_reads_21 : decode cX8_reads 21 = .ok (.istore_n 1, 1) := by decide +kernel
theorem dX8_reads_22 : decode cX8_reads 22 = .ok (.iload_n 1, 1) := by decide +kernel
theorem dX8_reads_23 : decode cX8_reads 23 = .ok (.invokestatic 124, 3) := by decide +kernel
theorem dX8_reads_26 : decode cX8_reads 26 = .ok (.ifCond .ne 6, 3) := by decide +kernel
theorem dX8_reads_29 : decode cX8_reads 29 = .ok (.bipush 10, 2) := by decide +kernel
theorem dX8_reads_31 : decode cX8_reads 31 = .ok (.ireturn, 1) := by decide +kernel
theorem dX8_reads_32 : decode cX8_reads 32 = .ok (.iload_n 1, 1) := by decide +kernel
theorem dX8_reads_33 : decode cX8_reads 33 = .ok (.invokestatic 128, 3) := by decide +kernel
theorem dX8_reads_36 : decode cX8_reads 36 = .ok (.istore_n 2, 1) := by decide +kernel
theorem dX8_reads_37 : decode cX8_reads 37 = .ok (.iconst 0, 1) := by decide +kernel
theorem dX8_reads_38 : decode cX8_reads 38 = .ok (.istore_n 3, 1) := by decide +kernel
theorem dX8_reads_39 : decode cX8_reads 39 = .ok (.iconst 1, 1) := by decide +kernel
theorem dX8_reads_40 : decode cX8_reads 40 = .ok (.istore 4, 2) := by decide +kernel
theorem dX8_reads_42 : decode cX8_reads 42 = .ok (.iload 4, 2) := by decide +kernel
theorem dX8_reads_44 : decode cX8_reads 44 = .ok (.iload_n 2, 1) := by decide +kernel
theorem dX8_reads_45 : decode cX8_reads 45 = .ok (.if_icmp .gt 47, 3) := by decide +kernel
theorem dX8_reads_48 : decode cX8_reads 48 = .ok (.aload_n 0, 1) := by decide +kernel
theorem dX8_reads_49 : decode cX8_reads 49 = .ok (.aload_n 0, 1) := by decide +kernel
theorem dX8_reads_50 : decode cX8_reads 50 = .ok (.getfield 121, 3) := by decide +kernel
theorem dX8_reads_53 : decode cX8_reads 53 = .ok (.iload 4, 2) := by decide +kernel
theorem dX8_reads_55 : decode cX8_reads 55 = .ok (.iadd, 1) := by decide +kernel
theorem dX8_reads_56 : decode cX8_reads 56 = .ok (.invokevirtual 132, 3) := by decide +kernel
theorem dX8_reads_59 : decode cX8_reads 59 = .ok (.ifCond .ne 6, 3) := by decide +kernel
theorem dX8_reads_62 : decode cX8_reads 62 = .ok (.bipush 11, 2) := by decide +kernel
theorem dX8_reads_64 : decode cX8_reads 64 = .ok (.ireturn, 1) := by decide +kernel
theorem dX8_reads_65 : decode cX8_reads 65 = .ok (.bipush 10, 2) := by decide +kernel
theorem dX8_reads_67 : decode cX8_reads 67 = .ok (.iload_n 3, 1) := by decide +kernel
theorem dX8_reads_68 : decode cX8_reads 68 = .ok (.imul, 1) := by decide +kernel
theorem dX8_reads_69 : decode cX8_reads 69 = .ok (.aload_n 0, 1) := by decide +kernel
theorem dX8_reads_70 : decode cX8_reads 70 = .ok (.getfield 28, 3) := by decide +kernel
theorem dX8_reads_73 : decode cX8_reads 73 = .ok (.aload_n 0, 1) := by decide +kernel
theorem dX8_reads_74 : decode cX8_reads 74 = .ok (.getfield 121, 3) := by decide +kernel
theorem dX8_reads_77 : decode cX8_reads 77 = .ok (.iload 4, 2) := by decide +kernel
theorem dX8_reads_79 : decode cX8_reads 79 = .ok (.iadd, 1) := by decide +kernel
theorem dX8_reads_80 : decode cX8_reads 80 = .ok (.iaload, 1) := by decide +kernel
theorem dX8_reads_81 : decode cX8_reads 81 = .ok (.iadd, 1) := by decide +kernel
theorem dX8_reads_82 : decode cX8_reads 82 = .ok (.bipush 48, 2) := by decide +kernel
theorem dX8_reads_84 : decode cX8_reads 84 = .ok (.isub, 1) := by decide +kernel
theorem dX8_reads_85 : decode cX8_reads 85 = .ok (.istore_n 3, 1) := by decide +kernel
theorem dX8_reads_86 : decode cX8_reads 86 = .ok (.iinc 4 1, 3) := by decide +kernel
theorem dX8_reads_89 : decode cX8_reads 89 = .ok (.goto (-47), 3) := by decide +kernel
theorem dX8_reads_92 : decode cX8_reads 92 = .ok (.iload_n 2, 1) := by decide +kernel
theorem dX8_reads_93 : decode cX8_reads 93 = .ok (.iconst 1, 1) := by decide +kernel
theorem dX8_reads_94 : decode cX8_reads 94 = .ok (.if_icmp .ne 11, 3) := by decide +kernel
theorem dX8_reads_97 : decode cX8_reads 97 = .ok (.iload_n 3, 1) := by decide +kernel
theorem dX8_reads_98 : decode cX8_reads 98 = .ok (.iconst 3, 1) := by decide +kernel
theorem dX8_reads_99 : decode cX8_reads 99 = .ok (.if_icmp .le 6, 3) := by decide +kernel
theorem dX8_reads_102 : decode cX8_reads 102 = .ok (.bipush 12, 2) := by decide +kernel
theorem dX8_reads_104 : decode cX8_reads 104 = .ok (.ireturn, 1) := by decide +kernel
theorem dX8_reads_105 : decode cX8_reads 105 = .ok (.aload_n 0, 1) := by decide +kernel
theorem dX8_reads_106 : decode cX8_reads 106 = .ok (.getfield 31, 3) := by decide +kernel
theorem dX8_reads_109 : decode cX8_reads 109 = .ok (.aload_n 0, 1) := by decide +kernel
theorem dX8_reads_110 : decode cX8_reads 110 = .ok (.getfield 108, 3) := by decide +kernel
theorem dX8_reads_113 : decode cX8_reads 113 = .ok (.iload_n 1, 1) := by decide +kernel
theorem dX8_reads_114 : decode cX8_reads 114 = .ok (.iastore, 1) := by decide +kernel
theorem dX8_reads_115 : decode cX8_reads 115 = .ok (.aload_n 0, 1) := by decide +kernel
theorem dX8_reads_116 : decode cX8_reads 116 = .ok (.getfield 34, 3) := by decide +kernel
theorem dX8_reads_119 : decode cX8_reads 119 = .ok (.aload_n 0, 1) := by decide +kernel
theorem dX8_reads_120 : decode cX8_reads 120 = .ok (.getfield 108, 3) := by decide +kernel
theorem dX8_reads_123 : decode cX8_reads 123 = .ok (.iload_n 2, 1) := by decide +kernel
theorem dX8_reads_124 : decode cX8_reads 124 = .ok (.ifCond .ne 8, 3) := by decide +kernel
theorem dX8_reads_127 : decode cX8_reads 127 = .ok (.bipush (-4), 2) := by decide +kernel
theorem dX8_reads_129 : decode cX8_reads 129 = .ok (.goto 4, 3) := by decide +kernel
theorem dX8_reads_132 : decode cX8_reads 132 = .ok (.iload_n 3, 1) := by decide +kernel
theorem dX8_reads_133 : decode cX8_reads 133 = .ok (.iastore, 1) := by decide +kernel
theorem dX8_reads_134 : decode cX8_reads 134 = .ok (.aload_n 0, 1) := by decide +kernel
theorem dX8_reads_135 : decode cX8_reads 135 = .ok (.getfield 37, 3) := by decide +kernel
theorem dX8_reads_138 : decode cX8_reads 138 = .ok (.aload_n 0, 1) := by decide +kernel
theorem dX8_reads_139 : decode cX8_reads 139 = .ok (.getfield 108, 3) := by decide +kernel
theorem dX8_reads_142 : decode cX8_reads 142 = .ok (.aload_n 0, 1) := by decide +kernel
theorem dX8_reads_143 : decode cX8_reads 143 = .ok (.getfield 121, 3) := by decide +kernel
theorem dX8_reads_146 : decode cX8_reads 146 = .ok (.iastore, 1) := by decide +kernel
theorem dX8_reads_147 : decode cX8_reads 147 = .ok (.aload_n 0, 1) := by decide +kernel
theorem dX8_reads_148 : decode cX8_reads 148 = .ok (.dup, 1) := by decide +kernel
theorem dX8_reads_149 : decode cX8_reads 149 = .ok (.getfield 108, 3) := by decide +kernel
theorem dX8_reads_152 : decode cX8_reads 152 = .ok (.iconst 1, 1) := by decide +kernel
theorem dX8_reads_153 : decode cX8_reads 153 = .ok (.iadd, 1) := by decide +kernel
theorem dX8_reads_154 : decode cX8_reads 154 = .ok (.putfield 108, 3) := by decide +kernel
theorem dX8_reads_157 : decode cX8_reads 157 = .ok (.aload_n 0, 1) := by decide +kernel
theorem dX8_reads_158 : decode cX8_reads 158 = .ok (.dup, 1) := by decide +kernel
theorem dX8_reads_159 : decode cX8_reads 159 = .ok (.getfield 121, 3) := by decide +kernel
theorem dX8_reads_162 : decode cX8_reads 162 = .ok (.iload_n 2, 1) := by decide +kernel
theorem dX8_reads_163 : decode cX8_reads 163 = .ok (.iconst 1, 1) := by decide +kernel
theorem dX8_reads_164 : decode cX8_reads 164 = .ok (.iadd, 1) := by decide +kernel
theorem dX8_reads_165 : decode cX8_reads 165 = .ok (.iadd, 1) := by decide +kernel
theorem dX8_reads_166 : decode cX8_reads 166 = .ok (.putfield 121, 3) := by decide +kernel
theorem dX8_reads_169 : decode cX8_reads 169 = .ok (.iconst 0, 1) := by decide +kernel
theorem dX8_reads_170 : decode cX8_reads 170 = .ok (.ireturn, 1) := by decide +kernel
theorem dX8_refuses_0 : decode cX8_refuses 0 = .ok (.aload_n 0, 1) := by decide +kernel
theorem dX8_refuses_1 : decode cX8_refuses 1 = .ok (.getfield 40, 3) := by decide +kernel
theorem dX8_refuses_4 : decode cX8_refuses 4 = .ok (.iconst 0, 1) := by decide +kernel
theorem dX8_refuses_5 : decode cX8_refuses 5 = .ok (.iload_n 1, 1) := by decide +kernel
theorem dX8_refuses_6 : decode cX8_refuses 6 = .ok (.iastore, 1) := by decide +kernel
theorem dX8_refuses_7 : decode cX8_refuses 7 = .ok (.aload_n 0, 1) := by decide +kernel
theorem dX8_refuses_8 : decode cX8_refuses 8 = .ok (.getfield 40, 3) := by decide +kernel
theorem dX8_refuses_11 : decode cX8_refuses 11 = .ok (.iconst 1, 1) := by decide +kernel
theorem dX8_refuses_12 : decode cX8_refuses 12 = .ok (.iload_n 2, 1) := by decide +kernel
theorem dX8_refuses_13 : decode cX8_refuses 13 = .ok (.iastore, 1) := by decide +kernel
theorem dX8_refuses_14 : decode cX8_refuses 14 = .ok (.aload_n 0, 1) := by decide +kernel
theorem dX8_refuses_15 : decode cX8_refuses 15 = .ok (.getfield 40, 3) := by decide +kernel
theorem dX8_refuses_18 : decode cX8_refuses 18 = .ok (.iconst 2, 1) := by decide +kernel
theorem dX8_refuses_19 : decode cX8_refuses 19 = .ok (.iload_n 3, 1) := by decide +kernel
theorem dX8_refuses_20 : decode cX8_refuses 20 = .ok (.iastore, 1) := by decide +kernel
theorem dX8_refuses_21 : decode cX8_refuses 21 = .ok (.aload_n 0, 1) := by decide +kernel
theorem dX8_refuses_22 : decode cX8_refuses 22 = .ok (.iload_n 2, 1) := by decide +kernel
theorem dX8_refuses_23 : decode cX8_refuses 23 = .ok (.ifCond .ne 7, 3) := by decide +kernel
theorem dX8_refuses_26 : decode cX8_refuses 26 = .ok (.iconst 1, 1) := by decide +kernel
theorem dX8_refuses_27 : decode cX8_refuses 27 = .ok (.goto 12, 3) := by decide +kernel
theorem dX8_refuses_30 : decode cX8_refuses 30 = .ok (.iload_n 3, 1) := by decide +kernel
theorem dX8_refuses_31 : decode cX8_refuses 31 = .ok (.ifCond .ne 7, 3) := by decide +kernel
theorem dX8_refuses_34 : decode cX8_refuses 34 = .ok (.iconst 2, 1) := by decide +kernel
theorem dX8_refuses_35 : decode cX8_refuses 35 = .ok (.goto 4, 3) := by decide +kernel
theorem dX8_refuses_38 : decode cX8_refuses 38 = .ok (.iconst 3, 1) := by decide +kernel
theorem dX8_refuses_39 : decode cX8_refuses 39 = .ok (.putfield 135, 3) := by decide +kernel
theorem dX8_refuses_42 : decode cX8_refuses 42 = .ok (.bipush (-2), 2) := by decide +kernel
theorem dX8_refuses_44 : decode cX8_refuses 44 = .ok (.ireturn, 1) := by decide +kernel
theorem dX8_isJump_0 : decode cX8_isJump 0 = .ok (.iload_n 0, 1) := by decide +kernel
theorem dX8_isJump_1 : decode cX8_isJump 1 = .ok (.bipush 106, 2) := by decide +kernel
theorem dX8_isJump_3 : decode cX8_isJump 3 = .ok (.if_icmp .eq 9, 3) := by decide +kernel
theorem dX8_isJump_6 : decode cX8_isJump 6 = .ok (.iload_n 0, 1) := by decide +kernel
theorem dX8_isJump_7 : decode cX8_isJump 7 = .ok (.bipush 98, 2) := by decide +kernel
theorem dX8_isJump_9 : decode cX8_isJump 9 = .ok (.if_icmp .ne 7, 3) := by decide +kernel
theorem dX8_isJump_12 : decode cX8_isJump 12 = .ok (.iconst 1, 1) := by decide +kernel
theorem dX8_isJump_13 : decode cX8_isJump 13 = .ok (.goto 4, 3) := by decide +kernel
theorem dX8_isJump_16 : decode cX8_isJump 16 = .ok (.iconst 0, 1) := by decide +kernel
theorem dX8_isJump_17 : decode cX8_isJump 17 = .ok (.ireturn, 1) := by decide +kernel
theorem dX8_finds_0 : decode cX8_finds 0 = .ok (.aload_n 0, 1) := by decide +kernel
theorem dX8_finds_1 : decode cX8_finds 1 = .ok (.iconst 0, 1) := by decide +kernel
theorem dX8_finds_2 : decode cX8_finds 2 = .ok (.putfield 108, 3) := by decide +kernel
theorem dX8_finds_5 : decode cX8_finds 5 = .ok (.aload_n 0, 1) := by decide +kernel
theorem dX8_finds_6 : decode cX8_finds 6 = .ok (.iconst 0, 1) := by decide +kernel
theorem dX8_finds_7 : decode cX8_finds 7 = .ok (.putfield 121, 3) := by decide +kernel
theorem dX8_finds_10 : decode cX8_finds 10 = .ok (.aload_n 0, 1) := by decide +kernel
theorem dX8_finds_11 : decode cX8_finds 11 = .ok (.iconst 0, 1) := by decide +kernel
theorem dX8_finds_12 : decode cX8_finds 12 = .ok (.putfield 135, 3) := by decide +kernel
theorem dX8_finds_15 : decode cX8_finds 15 = .ok (.aload_n 0, 1) := by decide +kernel
theorem dX8_finds_16 : decode cX8_finds 16 = .ok (.getfield 121, 3) := by decide +kernel
theorem dX8_finds_19 : decode cX8_finds 19 = .ok (.aload_n 0, 1) := by decide +kernel
theorem dX8_finds_20 : decode cX8_finds 20 = .ok (.getfield 118, 3) := by decide +kernel
theorem dX8_finds_23 : decode cX8_finds 23 = .ok (.if_icmp .ge 28, 3) := by decide +kernel
theorem dX8_finds_26 : decode cX8_finds 26 = .ok (.aload_n 0, 1) := by decide +kernel
theorem dX8_finds_27 : decode cX8_finds 27 = .ok (.invokevirtual 138, 3) := by decide +kernel
theorem dX8_finds_30 : decode cX8_finds 30 = .ok (.istore_n 1, 1) := by decide +kernel
theorem dX8_finds_31 : decode cX8_finds 31 = .ok (.iload_n 1, 1) := by decide +kernel
theorem dX8_finds_32 : decode cX8_finds 32 = .ok (.ifCond .le 16, 3) := by decide +kernel
theorem dX8_finds_35 : decode cX8_finds 35 = .ok (.aload_n 0, 1) := by decide +kernel
theorem dX8_finds_36 : decode cX8_finds 36 = .ok (.iconst 1, 1) := by decide +kernel
theorem dX8_finds_37 : decode cX8_finds 37 = .ok (.iload_n 1, 1) := by decide +kernel
theorem dX8_finds_38 : decode cX8_finds 38 = .ok (.iconst 0, 1) := by decide +kernel
theorem dX8_finds_39 : decode cX8_finds 39 = .ok (.invokevirtual 142, 3) := by decide +kernel
theorem dX8_finds_42 : decode cX8_finds 42 = .ok (.pop, 1) := by decide +kernel
theorem dX8_finds_43 : decode cX8_finds 43 = .ok (.aload_n 0, 1) := by decide +kernel
theorem dX8_finds_44 : decode cX8_finds 44 = .ok (.getfield 121, 3) := by decide +kernel
theorem dX8_finds_47 : decode cX8_finds 47 = .ok (.ireturn, 1) := by decide +kernel
theorem dX8_finds_48 : decode cX8_finds 48 = .ok (.goto (-33), 3) := by decide +kernel
theorem dX8_finds_51 : decode cX8_finds 51 = .ok (.iconst 0, 1) := by decide +kernel
theorem dX8_finds_52 : decode cX8_finds 52 = .ok (.istore_n 1, 1) := by decide +kernel
theorem dX8_finds_53 : decode cX8_finds 53 = .ok (.iload_n 1, 1) := by decide +kernel
theorem dX8_finds_54 : decode cX8_finds 54 = .ok (.aload_n 0, 1) := by decide +kernel
theorem dX8_finds_55 : decode cX8_finds 55 = .ok (.getfield 108, 3) := by decide +kernel
theorem dX8_finds_58 : decode cX8_finds 58 = .ok (.if_icmp .ge 50, 3) := by decide +kernel
theorem dX8_finds_61 : decode cX8_finds 61 = .ok (.aload_n 0, 1) := by decide +kernel
theorem dX8_finds_62 : decode cX8_finds 62 = .ok (.getfield 31, 3) := by decide +kernel
theorem dX8_finds_65 : decode cX8_finds 65 = .ok (.iload_n 1, 1) := by decide +kernel
theorem dX8_finds_66 : decode cX8_finds 66 = .ok (.iaload, 1) := by decide +kernel
theorem dX8_finds_67 : decode cX8_finds 67 = .ok (.invokestatic 146, 3) := by decide +kernel
theorem dX8_finds_70 : decode cX8_finds 70 = .ok (.ifCond .eq 32, 3) := by decide +kernel
theorem dX8_finds_73 : decode cX8_finds 73 = .ok (.aload_n 0, 1) := by decide +kernel
theorem dX8_finds_74 : decode cX8_finds 74 = .ok (.getfield 34, 3) := by decide +kernel
theorem dX8_finds_77 : decode cX8_finds 77 = .ok (.iload_n 1, 1) := by decide +kernel
theorem dX8_finds_78 : decode cX8_finds 78 = .ok (.iaload, 1) := by decide +kernel
theorem dX8_finds_79 : decode cX8_finds 79 = .ok (.aload_n 0, 1) := by decide +kernel
theorem dX8_finds_80 : decode cX8_finds 80 = .ok (.getfield 108, 3) := by decide +kernel
theorem dX8_finds_83 : decode cX8_finds 83 = .ok (.if_icmp .lt 19, 3) := by decide +kernel
theorem dX8_finds_86 : decode cX8_finds 86 = .ok (.aload_n 0, 1) := by decide +kernel
theorem dX8_finds_87 : decode cX8_finds 87 = .ok (.iconst 1, 1) := by decide +kernel
theorem dX8_finds_88 : decode cX8_finds 88 = .ok (.bipush 14, 2) := by decide +kernel
theorem dX8_finds_90 : decode cX8_finds 90 = .ok (.iconst 0, 1) := by decide +kernel
theorem dX8_finds_91 : decode cX8_finds 91 = .ok (.invokevirtual 142, 3) := by decide +kernel
theorem dX8_finds_94 : decode cX8_finds 94 = .ok (.pop, 1) := by decide +kernel
theorem dX8_finds_95 : decode cX8_finds 95 = .ok (.aload_n 0, 1) := by decide +kernel
theorem dX8_finds_96 : decode cX8_finds 96 = .ok (.getfield 37, 3) := by decide +kernel
theorem dX8_finds_99 : decode cX8_finds 99 = .ok (.iload_n 1, 1) := by decide +kernel
theorem dX8_finds_100 : decode cX8_finds 100 = .ok (.iaload, 1) := by decide +kernel
theorem dX8_finds_101 : decode cX8_finds 101 = .ok (.ireturn, 1) := by decide +kernel
theorem dX8_finds_102 : decode cX8_finds 102 = .ok (.iinc 1 1, 3) := by decide +kernel
theorem dX8_finds_105 : decode cX8_finds 105 = .ok (.goto (-52), 3) := by decide +kernel
theorem dX8_finds_108 : decode cX8_finds 108 = .ok (.bipush (-4), 2) := by decide +kernel
theorem dX8_finds_110 : decode cX8_finds 110 = .ok (.ireturn, 1) := by decide +kernel
theorem dX8_fault_0 : decode cX8_fault 0 = .ok (.aload_n 0, 1) := by decide +kernel
theorem dX8_fault_1 : decode cX8_fault 1 = .ok (.invokevirtual 149, 3) := by decide +kernel
theorem dX8_fault_4 : decode cX8_fault 4 = .ok (.ireturn, 1) := by decide +kernel
theorem dX8_lowest_0 : decode cX8_lowest 0 = .ok (.iconst 0, 1) := by decide +kernel
theorem dX8_lowest_1 : decode cX8_lowest 1 = .ok (.istore_n 1, 1) := by decide +kernel
theorem dX8_lowest_2 : decode cX8_lowest 2 = .ok (.iload_n 1, 1) := by decide +kernel
theorem dX8_lowest_3 : decode cX8_lowest 3 = .ok (.aload_n 0, 1) := by decide +kernel
theorem dX8_lowest_4 : decode cX8_lowest 4 = .ok (.getfield 108, 3) := by decide +kernel
theorem dX8_lowest_7 : decode cX8_lowest 7 = .ok (.if_icmp .ge 30, 3) := by decide +kernel
theorem dX8_lowest_10 : decode cX8_lowest 10 = .ok (.aload_n 0, 1) := by decide +kernel
theorem dX8_lowest_11 : decode cX8_lowest 11 = .ok (.getfield 43, 3) := by decide +kernel
theorem dX8_lowest_14 : decode cX8_lowest 14 = .ok (.iload_n 1, 1) := by decide +kernel
theorem dX8_lowest_15 : decode cX8_lowest 15 = .ok (.iaload, 1) := by decide +kernel
theorem dX8_lowest_16 : decode cX8_lowest 16 = .ok (.bipush (-4), 2) := by decide +kernel
theorem dX8_lowest_18 : decode cX8_lowest 18 = .ok (.if_icmp .eq 13, 3) := by decide +kernel
theorem dX8_lowest_21 : decode cX8_lowest 21 = .ok (.aload_n 0, 1) := by decide +kernel
theorem dX8_lowest_22 : decode cX8_lowest 22 = .ok (.getfield 46, 3) := by decide +kernel
theorem dX8_lowest_25 : decode cX8_lowest 25 = .ok (.iload_n 1, 1) := by decide +kernel
theorem dX8_lowest_26 : decode cX8_lowest 26 = .ok (.iaload, 1) := by decide +kernel
theorem dX8_lowest_27 : decode cX8_lowest 27 = .ok (.iconst 1, 1) := by decide +kernel
theorem dX8_lowest_28 : decode cX8_lowest 28 = .ok (.if_icmp .ne 9, 3) := by decide +kernel
theorem dX8_lowest_31 : decode cX8_lowest 31 = .ok (.iinc 1 1, 3) := by decide +kernel
theorem dX8_lowest_34 : decode cX8_lowest 34 = .ok (.goto (-32), 3) := by decide +kernel
theorem dX8_lowest_37 : decode cX8_lowest 37 = .ok (.iload_n 1, 1) := by decide +kernel
theorem dX8_lowest_38 : decode cX8_lowest 38 = .ok (.aload_n 0, 1) := by decide +kernel
theorem dX8_lowest_39 : decode cX8_lowest 39 = .ok (.getfield 108, 3) := by decide +kernel
theorem dX8_lowest_42 : decode cX8_lowest 42 = .ok (.if_icmp .ge 7, 3) := by decide +kernel
theorem dX8_lowest_45 : decode cX8_lowest 45 = .ok (.iload_n 1, 1) := by decide +kernel
theorem dX8_lowest_46 : decode cX8_lowest 46 = .ok (.goto 5, 3) := by decide +kernel
theorem dX8_lowest_49 : decode cX8_lowest 49 = .ok (.bipush (-4), 2) := by decide +kernel
theorem dX8_lowest_51 : decode cX8_lowest 51 = .ok (.ireturn, 1) := by decide +kernel
theorem dX8_goesOn_0 : decode cX8_goesOn 0 = .ok (.iload_n 3, 1) := by decide +kernel
theorem dX8_goesOn_1 : decode cX8_goesOn 1 = .ok (.iconst 1, 1) := by decide +kernel
theorem dX8_goesOn_2 : decode cX8_goesOn 2 = .ok (.if_icmp .ne 21, 3) := by decide +kernel
theorem dX8_goesOn_5 : decode cX8_goesOn 5 = .ok (.aload_n 0, 1) := by decide +kernel
theorem dX8_goesOn_6 : decode cX8_goesOn 6 = .ok (.iload_n 2, 1) := by decide +kernel
theorem dX8_goesOn_7 : decode cX8_goesOn 7 = .ok (.iaload, 1) := by decide +kernel
theorem dX8_goesOn_8 : decode cX8_goesOn 8 = .ok (.invokestatic 146, 3) := by decide +kernel
theorem dX8_goesOn_11 : decode cX8_goesOn 11 = .ok (.ifCond .eq 9, 3) := by decide +kernel
theorem dX8_goesOn_14 : decode cX8_goesOn 14 = .ok (.aload_n 1, 1) := by decide +kernel
theorem dX8_goesOn_15 : decode cX8_goesOn 15 = .ok (.iload_n 2, 1) := by decide +kernel
theorem dX8_goesOn_16 : decode cX8_goesOn 16 = .ok (.iaload, 1) := by decide +kernel
theorem dX8_goesOn_17 : decode cX8_goesOn 17 = .ok (.goto 5, 3) := by decide +kernel
theorem dX8_goesOn_20 : decode cX8_goesOn 20 = .ok (.bipush (-4), 2) := by decide +kernel
theorem dX8_goesOn_22 : decode cX8_goesOn 22 = .ok (.ireturn, 1) := by decide +kernel
theorem dX8_goesOn_23 : decode cX8_goesOn 23 = .ok (.aload_n 0, 1) := by decide +kernel
theorem dX8_goesOn_24 : decode cX8_goesOn 24 = .ok (.iload_n 2, 1) := by decide +kernel
theorem dX8_goesOn_25 : decode cX8_goesOn 25 = .ok (.iaload, 1) := by decide +kernel
theorem dX8_goesOn_26 : decode cX8_goesOn 26 = .ok (.bipush 106, 2) := by decide +kernel
theorem dX8_goesOn_28 : decode cX8_goesOn 28 = .ok (.if_icmp .eq 19, 3) := by decide +kernel
theorem dX8_goesOn_31 : decode cX8_goesOn 31 = .ok (.aload_n 0, 1) := by decide +kernel
theorem dX8_goesOn_32 : decode cX8_goesOn 32 = .ok (.iload_n 2, 1) := by decide +kernel
theorem dX8_goesOn_33 : decode cX8_goesOn 33 = .ok (.iaload, 1) := by decide +kernel
theorem dX8_goesOn_34 : decode cX8_goesOn 34 = .ok (.bipush 104, 2) := by decide +kernel
theorem dX8_goesOn_36 : decode cX8_goesOn 36 = .ok (.if_icmp .eq 11, 3) := by decide +kernel
theorem dX8_goesOn_39 : decode cX8_goesOn 39 = .ok (.iload_n 2, 1) := by decide +kernel
theorem dX8_goesOn_40 : decode cX8_goesOn 40 = .ok (.iconst 1, 1) := by decide +kernel
theorem dX8_goesOn_41 : decode cX8_goesOn 41 = .ok (.iadd, 1) := by decide +kernel
theorem dX8_goesOn_42 : decode cX8_goesOn 42 = .ok (.iload 4, 2) := by decide +kernel
theorem dX8_goesOn_44 : decode cX8_goesOn 44 = .ok (.if_icmp .ne 8, 3) := by decide +kernel
theorem dX8_goesOn_47 : decode cX8_goesOn 47 = .ok (.bipush (-4), 2) := by decide +kernel
theorem dX8_goesOn_49 : decode cX8_goesOn 49 = .ok (.goto 6, 3) := by decide +kernel
theorem dX8_goesOn_52 : decode cX8_goesOn 52 = .ok (.iload_n 2, 1) := by decide +kernel
theorem dX8_goesOn_53 : decode cX8_goesOn 53 = .ok (.iconst 1, 1) := by decide +kernel
theorem dX8_goesOn_54 : decode cX8_goesOn 54 = .ok (.iadd, 1) := by decide +kernel
theorem dX8_goesOn_55 : decode cX8_goesOn 55 = .ok (.ireturn, 1) := by decide +kernel
theorem dX8_takesOne_0 : decode cX8_takesOne 0 = .ok (.aload_n 0, 1) := by decide +kernel
theorem dX8_takesOne_1 : decode cX8_takesOne 1 = .ok (.getfield 46, 3) := by decide +kernel
theorem dX8_takesOne_4 : decode cX8_takesOne 4 = .ok (.iload_n 1, 1) := by decide +kernel
theorem dX8_takesOne_5 : decode cX8_takesOne 5 = .ok (.iconst 1, 1) := by decide +kernel
theorem dX8_takesOne_6 : decode cX8_takesOne 6 = .ok (.iastore, 1) := by decide +kernel
theorem dX8_takesOne_7 : decode cX8_takesOne 7 = .ok (.aload_n 0, 1) := by decide +kernel
theorem dX8_takesOne_8 : decode cX8_takesOne 8 = .ok (.getfield 43, 3) := by decide +kernel
theorem dX8_takesOne_11 : decode cX8_takesOne 11 = .ok (.iload_n 1, 1) := by decide +kernel
theorem dX8_takesOne_12 : decode cX8_takesOne 12 = .ok (.iaload, 1) := by decide +kernel
theorem dX8_takesOne_13 : decode cX8_takesOne 13 = .ok (.aload_n 0, 1) := by decide +kernel
theorem dX8_takesOne_14 : decode cX8_takesOne 14 = .ok (.getfield 31, 3) := by decide +kernel
theorem dX8_takesOne_17 : decode cX8_takesOne 17 = .ok (.iload_n 1, 1) := by decide +kernel
theorem dX8_takesOne_18 : decode cX8_takesOne 18 = .ok (.iaload, 1) := by decide +kernel
theorem dX8_takesOne_19 : decode cX8_takesOne 19 = .ok (.invokestatic 152, 3) := by decide +kernel
theorem dX8_takesOne_22 : decode cX8_takesOne 22 = .ok (.isub, 1) := by decide +kernel
theorem dX8_takesOne_23 : decode cX8_takesOne 23 = .ok (.aload_n 0, 1) := by decide +kernel
theorem dX8_takesOne_24 : decode cX8_takesOne 24 = .ok (.getfield 31, 3) := by decide +kernel
theorem dX8_takesOne_27 : decode cX8_takesOne 27 = .ok (.iload_n 1, 1) := by decide +kernel
theorem dX8_takesOne_28 : decode cX8_takesOne 28 = .ok (.iaload, 1) := by decide +kernel
theorem dX8_takesOne_29 : decode cX8_takesOne 29 = .ok (.invokestatic 155, 3) := by decide +kernel
theorem dX8_takesOne_32 : decode cX8_takesOne 32 = .ok (.iadd, 1) := by decide +kernel
theorem dX8_takesOne_33 : decode cX8_takesOne 33 = .ok (.istore_n 2, 1) := by decide +kernel
theorem dX8_takesOne_34 : decode cX8_takesOne 34 = .ok (.aload_n 0, 1) := by decide +kernel
theorem dX8_takesOne_35 : decode cX8_takesOne 35 = .ok (.getfield 43, 3) := by decide +kernel
theorem dX8_takesOne_38 : decode cX8_takesOne 38 = .ok (.iload_n 1, 1) := by decide +kernel
theorem dX8_takesOne_39 : decode cX8_takesOne 39 = .ok (.iaload, 1) := by decide +kernel
theorem dX8_takesOne_40 : decode cX8_takesOne 40 = .ok (.aload_n 0, 1) := by decide +kernel
theorem dX8_takesOne_41 : decode cX8_takesOne 41 = .ok (.getfield 31, 3) := by decide +kernel
theorem dX8_takesOne_44 : decode cX8_takesOne 44 = .ok (.iload_n 1, 1) := by decide +kernel
theorem dX8_takesOne_45 : decode cX8_takesOne 45 = .ok (.iaload, 1) := by decide +kernel
theorem dX8_takesOne_46 : decode cX8_takesOne 46 = .ok (.invokestatic 152, 3) := by decide +kernel
theorem dX8_takesOne_49 : decode cX8_takesOne 49 = .ok (.if_icmp .lt 9, 3) := by decide +kernel
theorem dX8_takesOne_52 : decode cX8_takesOne 52 = .ok (.iload_n 2, 1) := by decide +kernel
theorem dX8_takesOne_53 : decode cX8_takesOne 53 = .ok (.bipush 12, 2) := by decide +kernel
theorem dX8_takesOne_55 : decode cX8_takesOne 55 = .ok (.if_icmp .le 17, 3) := by decide +kernel
theorem dX8_takesOne_58 : decode cX8_takesOne 58 = .ok (.aload_n 0, 1) := by decide +kernel
theorem dX8_takesOne_59 : decode cX8_takesOne 59 = .ok (.iconst 3, 1) := by decide +kernel
theorem dX8_takesOne_60 : decode cX8_takesOne 60 = .ok (.bipush 22, 2) := by decide +kernel
theorem dX8_takesOne_62 : decode cX8_takesOne 62 = .ok (.bipush 30, 2) := by decide +kernel
theorem dX8_takesOne_64 : decode cX8_takesOne 64 = .ok (.iload_n 1, 1) := by decide +kernel
theorem dX8_takesOne_65 : decode cX8_takesOne 65 = .ok (.iadd, 1) := by decide +kernel
theorem dX8_takesOne_66 : decode cX8_takesOne 66 = .ok (.invokevirtual 142, 3) := by decide +kernel
theorem dX8_takesOne_69 : decode cX8_takesOne 69 = .ok (.pop, 1) := by decide +kernel
theorem dX8_takesOne_70 : decode cX8_takesOne 70 = .ok (.iconst 0, 1) := by decide +kernel
theorem dX8_takesOne_71 : decode cX8_takesOne 71 = .ok (.ireturn, 1) := by decide +kernel
theorem dX8_takesOne_72 : decode cX8_takesOne 72 = .ok (.iconst 0, 1) := by decide +kernel
theorem dX8_takesOne_73 : decode cX8_takesOne 73 = .ok (.istore_n 3, 1) := by decide +kernel
theorem dX8_takesOne_74 : decode cX8_takesOne 74 = .ok (.iload_n 3, 1) := by decide +kernel
theorem dX8_takesOne_75 : decode cX8_takesOne 75 = .ok (.iconst 2, 1) := by decide +kernel
theorem dX8_takesOne_76 : decode cX8_takesOne 76 = .ok (.if_icmp .ge 111, 3) := by decide +kernel
theorem dX8_takesOne_79 : decode cX8_takesOne 79 = .ok (.aload_n 0, 1) := by decide +kernel
theorem dX8_takesOne_80 : decode cX8_takesOne 80 = .ok (.getfield 31, 3) := by decide +kernel
theorem dX8_takesOne_83 : decode cX8_takesOne 83 = .ok (.aload_n 0, 1) := by decide +kernel
theorem dX8_takesOne_84 : decode cX8_takesOne 84 = .ok (.getfield 34, 3) := by decide +kernel
theorem dX8_takesOne_87 : decode cX8_takesOne 87 = .ok (.iload_n 1, 1) := by decide +kernel
theorem dX8_takesOne_88 : decode cX8_takesOne 88 = .ok (.iload_n 3, 1) := by decide +kernel
theorem dX8_takesOne_89 : decode cX8_takesOne 89 = .ok (.aload_n 0, 1) := by decide +kernel
theorem dX8_takesOne_90 : decode cX8_takesOne 90 = .ok (.getfield 108, 3) := by decide +kernel
theorem dX8_takesOne_93 : decode cX8_takesOne 93 = .ok (.invokestatic 158, 3) := by decide +kernel
theorem dX8_takesOne_96 : decode cX8_takesOne 96 = .ok (.istore 4, 2) := by decide +kernel
theorem dX8_takesOne_98 : decode cX8_takesOne 98 = .ok (.iload 4, 2) := by decide +kernel
theorem dX8_takesOne_100 : decode cX8_takesOne 100 = .ok (.bipush (-4), 2) := by decide +kernel
theorem dX8_takesOne_102 : decode cX8_takesOne 102 = .ok (.if_icmp .eq 41, 3) := by decide +kernel
theorem dX8_takesOne_105 : decode cX8_takesOne 105 = .ok (.aload_n 0, 1) := by decide +kernel
theorem dX8_takesOne_106 : decode cX8_takesOne 106 = .ok (.getfield 43, 3) := by decide +kernel
theorem dX8_takesOne_109 : decode cX8_takesOne 109 = .ok (.iload 4, 2) := by decide +kernel
theorem dX8_takesOne_111 : decode cX8_takesOne 111 = .ok (.iaload, 1) := by decide +kernel
theorem dX8_takesOne_112 : decode cX8_takesOne 112 = .ok (.bipush (-4), 2) := by decide +kernel
theorem dX8_takesOne_114 : decode cX8_takesOne 114 = .ok (.if_icmp .eq 29, 3) := by decide +kernel
theorem dX8_takesOne_117 : decode cX8_takesOne 117 = .ok (.aload_n 0, 1) := by decide +kernel
theorem dX8_takesOne_118 : decode cX8_takesOne 118 = .ok (.getfield 43, 3) := by decide +kernel
theorem dX8_takesOne_121 : decode cX8_takesOne 121 = .ok (.iload 4, 2) := by decide +kernel
theorem dX8_takesOne_123 : decode cX8_takesOne 123 = .ok (.iaload, 1) := by decide +kernel
theorem dX8_takesOne_124 : decode cX8_takesOne 124 = .ok (.iload_n 2, 1) := by decide +kernel
theorem dX8_takesOne_125 : decode cX8_takesOne 125 = .ok (.if_icmp .eq 18, 3) := by decide +kernel
theorem dX8_takesOne_128 : decode cX8_takesOne 128 = .ok (.aload_n 0, 1) := by decide +kernel
theorem dX8_takesOne_129 : decode cX8_takesOne 129 = .ok (.iconst 3, 1) := by decide +kernel
theorem dX8_takesOne_130 : decode cX8_takesOne 130 = .ok (.bipush 21, 2) := by decide +kernel
theorem dX8_takesOne_132 : decode cX8_takesOne 132 = .ok (.bipush 30, 2) := by decide +kernel
theorem dX8_takesOne_134 : decode cX8_takesOne 134 = .ok (.iload 4, 2) := by decide +kernel
theorem dX8_takesOne_136 : decode cX8_takesOne 136 = .ok (.iadd, 1) := by decide +kernel
theorem dX8_takesOne_137 : decode cX8_takesOne 137 = .ok (.invokevirtual 142, 3) := by decide +kernel
theorem dX8_takesOne_140 : decode cX8_takesOne 140 = .ok (.pop, 1) := by decide +kernel
theorem dX8_takesOne_141 : decode cX8_takesOne 141 = .ok (.iconst 0, 1) := by decide +kernel
theorem dX8_takesOne_142 : decode cX8_takesOne 142 = .ok (.ireturn, 1) := by decide +kernel
theorem dX8_takesOne_143 : decode cX8_takesOne 143 = .ok (.iload 4, 2) := by decide +kernel
theorem dX8_takesOne_145 : decode cX8_takesOne 145 = .ok (.bipush (-4), 2) := by decide +kernel
theorem dX8_takesOne_147 : decode cX8_takesOne 147 = .ok (.if_icmp .eq 34, 3) := by decide +kernel
theorem dX8_takesOne_150 : decode cX8_takesOne 150 = .ok (.aload_n 0, 1) := by decide +kernel
theorem dX8_takesOne_151 : decode cX8_takesOne 151 = .ok (.getfield 43, 3) := by decide +kernel
theorem dX8_takesOne_154 : decode cX8_takesOne 154 = .ok (.iload 4, 2) := by decide +kernel
theorem dX8_takesOne_156 : decode cX8_takesOne 156 = .ok (.iload_n 2, 1) := by decide +kernel
theorem dX8_takesOne_157 : decode cX8_takesOne 157 = .ok (.iastore, 1) := by decide +kernel
theorem dX8_takesOne_158 : decode cX8_takesOne 158 = .ok (.aload_n 0, 1) := by decide +kernel
theorem dX8_takesOne_159 : decode cX8_takesOne 159 = .ok (.getfield 49, 3) := by decide +kernel
theorem dX8_takesOne_162 : decode cX8_takesOne 162 = .ok (.iload 4, 2) := by decide +kernel
theorem dX8_takesOne_164 : decode cX8_takesOne 164 = .ok (.iload_n 3, 1) := by decide +kernel
theorem dX8_takesOne_165 : decode cX8_takesOne 165 = .ok (.iconst 1, 1) := by decide +kernel
theorem dX8_takesOne_166 : decode cX8_takesOne 166 = .ok (.if_icmp .ne 7, 3) := by decide +kernel
theorem dX8_takesOne_169 : decode cX8_takesOne 169 = .ok (.iconst 1, 1) := by decide +kernel
theorem dX8_takesOne_170 : decode cX8_takesOne 170 = .ok (.goto 10, 3) := by decide +kernel
theorem dX8_takesOne_173 : decode cX8_takesOne 173 = .ok (.aload_n 0, 1) := by decide +kernel
theorem dX8_takesOne_174 : decode cX8_takesOne 174 = .ok (.getfield 49, 3) := by decide +kernel
theorem dX8_takesOne_177 : decode cX8_takesOne 177 = .ok (.iload 4, 2) := by decide +kernel
theorem dX8_takesOne_179 : decode cX8_takesOne 179 = .ok (.iaload, 1) := by decide +kernel
theorem dX8_takesOne_180 : decode cX8_takesOne 180 = .ok (.iastore, 1) := by decide +kernel
theorem dX8_takesOne_181 : decode cX8_takesOne 181 = .ok (.iinc 3 1, 3) := by decide +kernel
theorem dX8_takesOne_184 : decode cX8_takesOne 184 = .ok (.goto (-110), 3) := by decide +kernel
theorem dX8_takesOne_187 : decode cX8_takesOne 187 = .ok (.iconst 1, 1) := by decide +kernel
theorem dX8_takesOne_188 : decode cX8_takesOne 188 = .ok (.ireturn, 1) := by decide +kernel
theorem dX8_findsDepths_0 : decode cX8_findsDepths 0 = .ok (.iconst 0, 1) := by decide +kernel
theorem dX8_findsDepths_1 : decode cX8_findsDepths 1 = .ok (.istore_n 1, 1) := by decide +kernel
theorem dX8_findsDepths_2 : decode cX8_findsDepths 2 = .ok (.iload_n 1, 1) := by decide +kernel
theorem dX8_findsDepths_3 : decode cX8_findsDepths 3 = .ok (.bipush 24, 2) := by decide +kernel
theorem dX8_findsDepths_5 : decode cX8_findsDepths 5 = .ok (.if_icmp .ge 31, 3) := by decide +kernel
theorem dX8_findsDepths_8 : decode cX8_findsDepths 8 = .ok (.aload_n 0, 1) := by decide +kernel
theorem dX8_findsDepths_9 : decode cX8_findsDepths 9 = .ok (.getfield 43, 3) := by decide +kernel
theorem dX8_findsDepths_12 : decode cX8_findsDepths 12 = .ok (.iload_n 1, 1) := by decide +kernel
theorem dX8_findsDepths_13 : decode cX8_findsDepths 13 = .ok (.bipush (-4), 2) := by decide +kernel
theorem dX8_findsDepths_15 : decode cX8_findsDepths 15 = .ok (.iastore, 1) := by decide +kernel
theorem dX8_findsDepths_16 : decode cX8_findsDepths 16 = .ok (.aload_n 0, 1) := by decide +kernel
theorem dX8_findsDepths_17 : decode cX8_findsDepths 17 = .ok (.getfield 46, 3) := by decide +kernel
theorem dX8_findsDepths_20 : decode cX8_findsDepths 20 = .ok (.iload_n 1, 1) := by decide +kernel
theorem dX8_findsDepths_21 : decode cX8_findsDepths 21 = .ok (.iconst 0, 1) := by decide +kernel
theorem dX8_findsDepths_22 : decode cX8_findsDepths 22 = .ok (.iastore, 1) := by decide +kernel
theorem dX8_findsDepths_23 : decode cX8_findsDepths 23 = .ok (.aload_n 0, 1) := by decide +kernel
theorem dX8_findsDepths_24 : decode cX8_findsDepths 24 = .ok (.getfield 49, 3) := by decide +kernel
theorem dX8_findsDepths_27 : decode cX8_findsDepths 27 = .ok (.iload_n 1, 1) := by decide +kernel
theorem dX8_findsDepths_28 : decode cX8_findsDepths 28 = .ok (.iconst 0, 1) := by decide +kernel
theorem dX8_findsDepths_29 : decode cX8_findsDepths 29 = .ok (.iastore, 1) := by decide +kernel
theorem dX8_findsDepths_30 : decode cX8_findsDepths 30 = .ok (.iinc 1 1, 3) := by decide +kernel
theorem dX8_findsDepths_33 : decode cX8_findsDepths 33 = .ok (.goto (-31), 3) := by decide +kernel
theorem dX8_findsDepths_36 : decode cX8_findsDepths 36 = .ok (.aload_n 0, 1) := by decide +kernel
theorem dX8_findsDepths_37 : decode cX8_findsDepths 37 = .ok (.getfield 43, 3) := by decide +kernel
theorem dX8_findsDepths_40 : decode cX8_findsDepths 40 = .ok (.iconst 0, 1) := by decide +kernel
theorem dX8_findsDepths_41 : decode cX8_findsDepths 41 = .ok (.iconst 0, 1) := by decide +kernel
theorem dX8_findsDepths_42 : decode cX8_findsDepths 42 = .ok (.iastore, 1) := by decide +kernel
theorem dX8_findsDepths_43 : decode cX8_findsDepths 43 = .ok (.iconst 1, 1) := by decide +kernel
theorem dX8_findsDepths_44 : decode cX8_findsDepths 44 = .ok (.istore_n 1, 1) := by decide +kernel
theorem dX8_findsDepths_45 : decode cX8_findsDepths 45 = .ok (.aload_n 0, 1) := by decide +kernel
theorem dX8_findsDepths_46 : decode cX8_findsDepths 46 = .ok (.invokevirtual 162, 3) := by decide +kernel
theorem dX8_findsDepths_49 : decode cX8_findsDepths 49 = .ok (.istore_n 2, 1) := by decide +kernel
theorem dX8_findsDepths_50 : decode cX8_findsDepths 50 = .ok (.iload_n 2, 1) := by decide +kernel
theorem dX8_findsDepths_51 : decode cX8_findsDepths 51 = .ok (.bipush (-4), 2) := by decide +kernel
theorem dX8_findsDepths_53 : decode cX8_findsDepths 53 = .ok (.if_icmp .eq 21, 3) := by decide +kernel
theorem dX8_findsDepths_56 : decode cX8_findsDepths 56 = .ok (.iload_n 1, 1) := by decide +kernel
theorem dX8_findsDepths_57 : decode cX8_findsDepths 57 = .ok (.ifCond .eq 17, 3) := by decide +kernel
theorem dX8_findsDepths_60 : decode cX8_findsDepths 60 = .ok (.aload_n 0, 1) := by decide +kernel
theorem dX8_findsDepths_61 : decode cX8_findsDepths 61 = .ok (.iload_n 2, 1) := by decide +kernel
theorem dX8_findsDepths_62 : decode cX8_findsDepths 62 = .ok (.invokevirtual 165, 3) := by decide +kernel
theorem dX8_findsDepths_65 : decode cX8_findsDepths 65 = .ok (.istore_n 1, 1) := by decide +kernel
theorem dX8_findsDepths_66 : decode cX8_findsDepths 66 = .ok (.aload_n 0, 1) := by decide +kernel
theorem dX8_findsDepths_67 : decode cX8_findsDepths 67 = .ok (.invokevirtual 162, 3) := by decide +kernel
theorem dX8_findsDepths_70 : decode cX8_findsDepths 70 = .ok (.istore_n 2, 1) := by decide +kernel
theorem dX8_findsDepths_71 : decode cX8_findsDepths 71 = .ok (.goto (-21), 3) := by decide +kernel
theorem dX8_findsDepths_74 : decode cX8_findsDepths 74 = .ok (.iconst 0, 1) := by decide +kernel
theorem dX8_findsDepths_75 : decode cX8_findsDepths 75 = .ok (.istore_n 3, 1) := by decide +kernel
theorem dX8_findsDepths_76 : decode cX8_findsDepths 76 = .ok (.iconst 0, 1) := by decide +kernel
theorem dX8_findsDepths_77 : decode cX8_findsDepths 77 = .ok (.istore 4, 2) := by decide +kernel
theorem dX8_findsDepths_79 : decode cX8_findsDepths 79 = .ok (.iload 4, 2) := by decide +kernel
theorem dX8_findsDepths_81 : decode cX8_findsDepths 81 = .ok (.aload_n 0, 1) := by decide +kernel
theorem dX8_findsDepths_82 : decode cX8_findsDepths 82 = .ok (.getfield 108, 3) := by decide +kernel
theorem dX8_findsDepths_85 : decode cX8_findsDepths 85 = .ok (.if_icmp .ge 19, 3) := by decide +kernel
theorem dX8_findsDepths_88 : decode cX8_findsDepths 88 = .ok (.iload_n 3, 1) := by decide +kernel
theorem dX8_findsDepths_89 : decode cX8_findsDepths 89 = .ok (.aload_n 0, 1) := by decide +kernel
theorem dX8_findsDepths_90 : decode cX8_findsDepths 90 = .ok (.getfield 49, 3) := by decide +kernel
theorem dX8_findsDepths_93 : decode cX8_findsDepths 93 = .ok (.iload 4, 2) := by decide +kernel
theorem dX8_findsDepths_95 : decode cX8_findsDepths 95 = .ok (.iaload, 1) := by decide +kernel
theorem dX8_findsDepths_96 : decode cX8_findsDepths 96 = .ok (.iadd, 1) := by decide +kernel
theorem dX8_findsDepths_97 : decode cX8_findsDepths 97 = .ok (.istore_n 3, 1) := by decide +kernel
theorem dX8_findsDepths_98 : decode cX8_findsDepths 98 = .ok (.iinc 4 1, 3) := by decide +kernel
theorem dX8_findsDepths_101 : decode cX8_findsDepths 101 = .ok (.goto (-22), 3) := by decide +kernel
theorem dX8_findsDepths_104 : decode cX8_findsDepths 104 = .ok (.iload_n 1, 1) := by decide +kernel
theorem dX8_findsDepths_105 : decode cX8_findsDepths 105 = .ok (.ifCond .eq 20, 3) := by decide +kernel
theorem dX8_findsDepths_108 : decode cX8_findsDepths 108 = .ok (.iload_n 3, 1) := by decide +kernel
theorem dX8_findsDepths_109 : decode cX8_findsDepths 109 = .ok (.iconst 2, 1) := by decide +kernel
theorem dX8_findsDepths_110 : decode cX8_findsDepths 110 = .ok (.if_icmp .le 15, 3) := by decide +kernel
theorem dX8_findsDepths_113 : decode cX8_findsDepths 113 = .ok (.aload_n 0, 1) := by decide +kernel
theorem dX8_findsDepths_114 : decode cX8_findsDepths 114 = .ok (.iconst 3, 1) := by decide +kernel
theorem dX8_findsDepths_115 : decode cX8_findsDepths 115 = .ok (.bipush 23, 2) := by decide +kernel
theorem dX8_findsDepths_117 : decode cX8_findsDepths 117 = .ok (.bipush 30, 2) := by decide +kernel
theorem dX8_findsDepths_119 : decode cX8_findsDepths 119 = .ok (.iload_n 3, 1) := by decide +kernel
theorem dX8_findsDepths_120 : decode cX8_findsDepths 120 = .ok (.iadd, 1) := by decide +kernel
theorem dX8_findsDepths_121 : decode cX8_findsDepths 121 = .ok (.invokevirtual 142, 3) := by decide +kernel
theorem dX8_findsDepths_124 : decode cX8_findsDepths 124 = .ok (.pop, 1) := by decide +kernel
theorem dX8_findsDepths_125 : decode cX8_findsDepths 125 = .ok (.iload_n 1, 1) := by decide +kernel
theorem dX8_findsDepths_126 : decode cX8_findsDepths 126 = .ok (.ifCond .eq 12, 3) := by decide +kernel
theorem dX8_findsDepths_129 : decode cX8_findsDepths 129 = .ok (.iload_n 3, 1) := by decide +kernel
theorem dX8_findsDepths_130 : decode cX8_findsDepths 130 = .ok (.iconst 2, 1) := by decide +kernel
theorem dX8_findsDepths_131 : decode cX8_findsDepths 131 = .ok (.if_icmp .gt 7, 3) := by decide +kernel
theorem dX8_findsDepths_134 : decode cX8_findsDepths 134 = .ok (.iconst 1, 1) := by decide +kernel
theorem dX8_findsDepths_135 : decode cX8_findsDepths 135 = .ok (.goto 4, 3) := by decide +kernel
theorem dX8_findsDepths_138 : decode cX8_findsDepths 138 = .ok (.iconst 0, 1) := by decide +kernel
theorem dX8_findsDepths_139 : decode cX8_findsDepths 139 = .ok (.ireturn, 1) := by decide +kernel
theorem dX8_takesProgram_0 : decode cX8_takesProgram 0 = .ok (.aload_n 0, 1) := by decide +kernel
theorem dX8_takesProgram_1 : decode cX8_takesProgram 1 = .ok (.invokevirtual 168, 3) := by decide +kernel
theorem dX8_takesProgram_4 : decode cX8_takesProgram 4 = .ok (.pop, 1) := by decide +kernel
theorem dX8_takesProgram_5 : decode cX8_takesProgram 5 = .ok (.aload_n 0, 1) := by decide +kernel
theorem dX8_takesProgram_6 : decode cX8_takesProgram 6 = .ok (.aload_n 0, 1) := by decide +kernel
theorem dX8_takesProgram_7 : decode cX8_takesProgram 7 = .ok (.getfield 108, 3) := by decide +kernel
theorem dX8_takesProgram_10 : decode cX8_takesProgram 10 = .ok (.putfield 172, 3) := by decide +kernel
theorem dX8_takesProgram_13 : decode cX8_takesProgram 13 = .ok (.iconst 0, 1) := by decide +kernel
theorem dX8_takesProgram_14 : decode cX8_takesProgram 14 = .ok (.istore_n 1, 1) := by decide +kernel
theorem dX8_takesProgram_15 : decode cX8_takesProgram 15 = .ok (.iload_n 1, 1) := by decide +kernel
theorem dX8_takesProgram_16 : decode cX8_takesProgram 16 = .ok (.aload_n 0, 1) := by decide +kernel
theorem dX8_takesProgram_17 : decode cX8_takesProgram 17 = .ok (.getfield 172, 3) := by decide +kernel
theorem dX8_takesProgram_20 : decode cX8_takesProgram 20 = .ok (.if_icmp .ge 57, 3) := by decide +kernel
theorem dX8_takesProgram_23 : decode cX8_takesProgram 23 = .ok (.aload_n 0, 1) := by decide +kernel
theorem dX8_takesProgram_24 : decode cX8_takesProgram 24 = .ok (.getfield 16, 3) := by decide +kernel
theorem dX8_takesProgram_27 : decode cX8_takesProgram 27 = .ok (.iload_n 1, 1) := by decide +kernel
theorem dX8_takesProgram_28 : decode cX8_takesProgram 28 = .ok (.aload_n 0, 1) := by decide +kernel
theorem dX8_takesProgram_29 : decode cX8_takesProgram 29 = .ok (.getfield 31, 3) := by decide +kernel
theorem dX8_takesProgram_32 : decode cX8_takesProgram 32 = .ok (.iload_n 1, 1) := by decide +kernel
theorem dX8_takesProgram_33 : decode cX8_takesProgram 33 = .ok (.iaload, 1) := by decide +kernel
theorem dX8_takesProgram_34 : decode cX8_takesProgram 34 = .ok (.iastore, 1) := by decide +kernel
theorem dX8_takesProgram_35 : decode cX8_takesProgram 35 = .ok (.aload_n 0, 1) := by decide +kernel
theorem dX8_takesProgram_36 : decode cX8_takesProgram 36 = .ok (.getfield 19, 3) := by decide +kernel
theorem dX8_takesProgram_39 : decode cX8_takesProgram 39 = .ok (.iload_n 1, 1) := by decide +kernel
theorem dX8_takesProgram_40 : decode cX8_takesProgram 40 = .ok (.aload_n 0, 1) := by decide +kernel
theorem dX8_takesProgram_41 : decode cX8_takesProgram 41 = .ok (.getfield 34, 3) := by decide +kernel
theorem dX8_takesProgram_44 : decode cX8_takesProgram 44 = .ok (.iload_n 1, 1) := by decide +kernel
theorem dX8_takesProgram_45 : decode cX8_takesProgram 45 = .ok (.iaload, 1) := by decide +kernel
theorem dX8_takesProgram_46 : decode cX8_takesProgram 46 = .ok (.iastore, 1) := by decide +kernel
theorem dX8_takesProgram_47 : decode cX8_takesProgram 47 = .ok (.aload_n 0, 1) := by decide +kernel
theorem dX8_takesProgram_48 : decode cX8_takesProgram 48 = .ok (.getfield 22, 3) := by decide +kernel
theorem dX8_takesProgram_51 : decode cX8_takesProgram 51 = .ok (.iload_n 1, 1) := by decide +kernel
theorem dX8_takesProgram_52 : decode cX8_takesProgram 52 = .ok (.aload_n 0, 1) := by decide +kernel
theorem dX8_takesProgram_53 : decode cX8_takesProgram 53 = .ok (.getfield 43, 3) := by decide +kernel
theorem dX8_takesProgram_56 : decode cX8_takesProgram 56 = .ok (.iload_n 1, 1) := by decide +kernel
theorem dX8_takesProgram_57 : decode cX8_takesProgram 57 = .ok (.iaload, 1) := by decide +kernel
theorem dX8_takesProgram_58 : decode cX8_takesProgram 58 = .ok (.iastore, 1) := by decide +kernel
theorem dX8_takesProgram_59 : decode cX8_takesProgram 59 = .ok (.aload_n 0, 1) := by decide +kernel
theorem dX8_takesProgram_60 : decode cX8_takesProgram 60 = .ok (.getfield 25, 3) := by decide +kernel
theorem dX8_takesProgram_63 : decode cX8_takesProgram 63 = .ok (.iload_n 1, 1) := by decide +kernel
theorem dX8_takesProgram_64 : decode cX8_takesProgram 64 = .ok (.aload_n 0, 1) := by decide +kernel
theorem dX8_takesProgram_65 : decode cX8_takesProgram 65 = .ok (.getfield 49, 3) := by decide +kernel
theorem dX8_takesProgram_68 : decode cX8_takesProgram 68 = .ok (.iload_n 1, 1) := by decide +kernel
theorem dX8_takesProgram_69 : decode cX8_takesProgram 69 = .ok (.iaload, 1) := by decide +kernel
theorem dX8_takesProgram_70 : decode cX8_takesProgram 70 = .ok (.iastore, 1) := by decide +kernel
theorem dX8_takesProgram_71 : decode cX8_takesProgram 71 = .ok (.iinc 1 1, 3) := by decide +kernel
theorem dX8_takesProgram_74 : decode cX8_takesProgram 74 = .ok (.goto (-59), 3) := by decide +kernel
theorem dX8_takesProgram_77 : decode cX8_takesProgram 77 = .ok (.iconst 0, 1) := by decide +kernel
theorem dX8_takesProgram_78 : decode cX8_takesProgram 78 = .ok (.istore_n 1, 1) := by decide +kernel
theorem dX8_takesProgram_79 : decode cX8_takesProgram 79 = .ok (.iload_n 1, 1) := by decide +kernel
theorem dX8_takesProgram_80 : decode cX8_takesProgram 80 = .ok (.bipush 24, 2) := by decide +kernel
theorem dX8_takesProgram_82 : decode cX8_takesProgram 82 = .ok (.if_icmp .ge 18, 3) := by decide +kernel
theorem dX8_takesProgram_85 : decode cX8_takesProgram 85 = .ok (.aload_n 0, 1) := by decide +kernel
theorem dX8_takesProgram_86 : decode cX8_takesProgram 86 = .ok (.getfield 7, 3) := by decide +kernel
theorem dX8_takesProgram_89 : decode cX8_takesProgram 89 = .ok (.iconst 4, 1) := by decide +kernel
theorem dX8_takesProgram_90 : decode cX8_takesProgram 90 = .ok (.iload_n 1, 1) := by decide +kernel
theorem dX8_takesProgram_91 : decode cX8_takesProgram 91 = .ok (.iadd, 1) := by decide +kernel
theorem dX8_takesProgram_92 : decode cX8_takesProgram 92 = .ok (.iconst 1, 1) := by decide +kernel
theorem dX8_takesProgram_93 : decode cX8_takesProgram 93 = .ok (.iastore, 1) := by decide +kernel
theorem dX8_takesProgram_94 : decode cX8_takesProgram 94 = .ok (.iinc 1 1, 3) := by decide +kernel
theorem dX8_takesProgram_97 : decode cX8_takesProgram 97 = .ok (.goto (-18), 3) := by decide +kernel
theorem dX8_takesProgram_100 : decode cX8_takesProgram 100 = .ok (.aload_n 0, 1) := by decide +kernel
theorem dX8_takesProgram_101 : decode cX8_takesProgram 101 = .ok (.iconst 0, 1) := by decide +kernel
theorem dX8_takesProgram_102 : decode cX8_takesProgram 102 = .ok (.putfield 175, 3) := by decide +kernel
theorem dX8_takesProgram_105 : decode cX8_takesProgram 105 = .ok (.aload_n 0, 1) := by decide +kernel
theorem dX8_takesProgram_106 : decode cX8_takesProgram 106 = .ok (.iconst 0, 1) := by decide +kernel
theorem dX8_takesProgram_107 : decode cX8_takesProgram 107 = .ok (.putfield 178, 3) := by decide +kernel
theorem dX8_takesProgram_110 : decode cX8_takesProgram 110 = .ok (.aload_n 0, 1) := by decide +kernel
theorem dX8_takesProgram_111 : decode cX8_takesProgram 111 = .ok (.iconst 0, 1) := by decide +kernel
theorem dX8_takesProgram_112 : decode cX8_takesProgram 112 = .ok (.putfield 182, 3) := by decide +kernel
theorem dX8_takesProgram_115 : decode cX8_takesProgram 115 = .ok (.return_, 1) := by decide +kernel
theorem dX8_lay_0 : decode cX8_lay 0 = .ok (.aload_n 0, 1) := by decide +kernel
theorem dX8_lay_1 : decode cX8_lay 1 = .ok (.invokevirtual 149, 3) := by decide +kernel
theorem dX8_lay_4 : decode cX8_lay 4 = .ok (.bipush (-4), 2) := by decide +kernel
theorem dX8_lay_6 : decode cX8_lay 6 = .ok (.if_icmp .eq 6, 3) := by decide +kernel
theorem dX8_lay_9 : decode cX8_lay 9 = .ok (.bipush (-2), 2) := by decide +kernel
theorem dX8_lay_11 : decode cX8_lay 11 = .ok (.ireturn, 1) := by decide +kernel
theorem dX8_lay_12 : decode cX8_lay 12 = .ok (.aload_n 0, 1) := by decide +kernel
theorem dX8_lay_13 : decode cX8_lay 13 = .ok (.getfield 108, 3) := by decide +kernel
theorem dX8_lay_16 : decode cX8_lay 16 = .ok (.ifCond .ne 11, 3) := by decide +kernel
theorem dX8_lay_19 : decode cX8_lay 19 = .ok (.aload_n 0, 1) := by decide +kernel
theorem dX8_lay_20 : decode cX8_lay 20 = .ok (.iconst 2, 1) := by decide +kernel
theorem dX8_lay_21 : decode cX8_lay 21 = .ok (.iconst 0, 1) := by decide +kernel
theorem dX8_lay_22 : decode cX8_lay 22 = .ok (.iconst 0, 1) := by decide +kernel
theorem dX8_lay_23 : decode cX8_lay 23 = .ok (.invokevirtual 142, 3) := by decide +kernel
theorem dX8_lay_26 : decode cX8_lay 26 = .ok (.ireturn, 1) := by decide +kernel
theorem dX8_lay_27 : decode cX8_lay 27 = .ok (.aload_n 0, 1) := by decide +kernel
theorem dX8_lay_28 : decode cX8_lay 28 = .ok (.invokevirtual 168, 3) := by decide +kernel
theorem dX8_lay_31 : decode cX8_lay 31 = .ok (.ifCond .ne 6, 3) := by decide +kernel
theorem dX8_lay_34 : decode cX8_lay 34 = .ok (.bipush (-2), 2) := by decide +kernel
theorem dX8_lay_36 : decode cX8_lay 36 = .ok (.ireturn, 1) := by decide +kernel
theorem dX8_lay_37 : decode cX8_lay 37 = .ok (.aload_n 0, 1) := by decide +kernel
theorem dX8_lay_38 : decode cX8_lay 38 = .ok (.invokevirtual 111, 3) := by decide +kernel
theorem dX8_lay_41 : decode cX8_lay 41 = .ok (.aload_n 0, 1) := by decide +kernel
theorem dX8_lay_42 : decode cX8_lay 42 = .ok (.getfield 172, 3) := by decide +kernel
theorem dX8_lay_45 : decode cX8_lay 45 = .ok (.ireturn, 1) := by decide +kernel
theorem dX8_cause_0 : decode cX8_cause 0 = .ok (.iload_n 1, 1) := by decide +kernel
theorem dX8_cause_1 : decode cX8_cause 1 = .ok (.ifCond .ge 7, 3) := by decide +kernel
theorem dX8_cause_4 : decode cX8_cause 4 = .ok (.iconst (-1), 1) := by decide +kernel
theorem dX8_cause_5 : decode cX8_cause 5 = .ok (.goto 22, 3) := by decide +kernel
theorem dX8_cause_8 : decode cX8_cause 8 = .ok (.iload_n 1, 1) := by decide +kernel
theorem dX8_cause_9 : decode cX8_cause 9 = .ok (.aload_n 0, 1) := by decide +kernel
theorem dX8_cause_10 : decode cX8_cause 10 = .ok (.getfield 135, 3) := by decide +kernel
theorem dX8_cause_13 : decode cX8_cause 13 = .ok (.if_icmp .ge 12, 3) := by decide +kernel
theorem dX8_cause_16 : decode cX8_cause 16 = .ok (.aload_n 0, 1) := by decide +kernel
theorem dX8_cause_17 : decode cX8_cause 17 = .ok (.getfield 40, 3) := by decide +kernel
theorem dX8_cause_20 : decode cX8_cause 20 = .ok (.iload_n 1, 1) := by decide +kernel
theorem dX8_cause_21 : decode cX8_cause 21 = .ok (.iaload, 1) := by decide +kernel
theorem dX8_cause_22 : decode cX8_cause 22 = .ok (.goto 5, 3) := by decide +kernel
theorem dX8_cause_25 : decode cX8_cause 25 = .ok (.bipush (-4), 2) := by decide +kernel
theorem dX8_cause_27 : decode cX8_cause 27 = .ok (.ireturn, 1) := by decide +kernel
theorem dX8_isCode_0 : decode cX8_isCode 0 = .ok (.iload_n 1, 1) := by decide +kernel
theorem dX8_isCode_1 : decode cX8_isCode 1 = .ok (.iconst 0, 1) := by decide +kernel
theorem dX8_isCode_2 : decode cX8_isCode 2 = .ok (.aload_n 0, 1) := by decide +kernel
theorem dX8_isCode_3 : decode cX8_isCode 3 = .ok (.getfield 172, 3) := by decide +kernel
theorem dX8_isCode_6 : decode cX8_isCode 6 = .ok (.iconst 1, 1) := by decide +kernel
theorem dX8_isCode_7 : decode cX8_isCode 7 = .ok (.isub, 1) := by decide +kernel
theorem dX8_isCode_8 : decode cX8_isCode 8 = .ok (.invokestatic 114, 3) := by decide +kernel
theorem dX8_isCode_11 : decode cX8_isCode 11 = .ok (.ireturn, 1) := by decide +kernel
theorem dX8_code_0 : decode cX8_code 0 = .ok (.aload_n 0, 1) := by decide +kernel
theorem dX8_code_1 : decode cX8_code 1 = .ok (.iload_n 1, 1) := by decide +kernel
theorem dX8_code_2 : decode cX8_code 2 = .ok (.invokevirtual 185, 3) := by decide +kernel
theorem dX8_code_5 : decode cX8_code 5 = .ok (.ifCond .ne 5, 3) := by decide +kernel
theorem dX8_code_8 : decode cX8_code 8 = .ok (.iconst (-1), 1) := by decide +kernel
theorem dX8_code_9 : decode cX8_code 9 = .ok (.ireturn, 1) := by decide +kernel
theorem dX8_code_10 : decode cX8_code 10 = .ok (.iload_n 2, 1) := by decide +kernel
theorem dX8_code_11 : decode cX8_code 11 = .ok (.tableswitch 70 0 4 #[33, 40, 47, 54, 61], 33) := by decide +kernel
theorem dX8_code_44 : decode cX8_code 44 = .ok (.aload_n 0, 1) := by decide +kernel
theorem dX8_code_45 : decode cX8_code 45 = .ok (.getfield 16, 3) := by decide +kernel
theorem dX8_code_48 : decode cX8_code 48 = .ok (.iload_n 1, 1) := by decide +kernel
theorem dX8_code_49 : decode cX8_code 49 = .ok (.iaload, 1) := by decide +kernel
theorem dX8_code_50 : decode cX8_code 50 = .ok (.ireturn, 1) := by decide +kernel
theorem dX8_code_51 : decode cX8_code 51 = .ok (.aload_n 0, 1) := by decide +kernel
theorem dX8_code_52 : decode cX8_code 52 = .ok (.getfield 19, 3) := by decide +kernel
theorem dX8_code_55 : decode cX8_code 55 = .ok (.iload_n 1, 1) := by decide +kernel
theorem dX8_code_56 : decode cX8_code 56 = .ok (.iaload, 1) := by decide +kernel
theorem dX8_code_57 : decode cX8_code 57 = .ok (.ireturn, 1) := by decide +kernel
theorem dX8_code_58 : decode cX8_code 58 = .ok (.aload_n 0, 1) := by decide +kernel
theorem dX8_code_59 : decode cX8_code 59 = .ok (.getfield 22, 3) := by decide +kernel
theorem dX8_code_62 : decode cX8_code 62 = .ok (.iload_n 1, 1) := by decide +kernel
theorem dX8_code_63 : decode cX8_code 63 = .ok (.iaload, 1) := by decide +kernel
theorem dX8_code_64 : decode cX8_code 64 = .ok (.ireturn, 1) := by decide +kernel
theorem dX8_code_65 : decode cX8_code 65 = .ok (.aload_n 0, 1) := by decide +kernel
theorem dX8_code_66 : decode cX8_code 66 = .ok (.getfield 25, 3) := by decide +kernel
theorem dX8_code_69 : decode cX8_code 69 = .ok (.iload_n 1, 1) := by decide +kernel
theorem dX8_code_70 : decode cX8_code 70 = .ok (.iaload, 1) := by decide +kernel
theorem dX8_code_71 : decode cX8_code 71 = .ok (.ireturn, 1) := by decide +kernel
theorem dX8_code_72 : decode cX8_code 72 = .ok (.aload_n 0, 1) := by decide +kernel
theorem dX8_code_73 : decode cX8_code 73 = .ok (.getfield 7, 3) := by decide +kernel
theorem dX8_code_76 : decode cX8_code 76 = .ok (.iconst 4, 1) := by decide +kernel
theorem dX8_code_77 : decode cX8_code 77 = .ok (.iload_n 1, 1) := by decide +kernel
theorem dX8_code_78 : decode cX8_code 78 = .ok (.iadd, 1) := by decide +kernel
theorem dX8_code_79 : decode cX8_code 79 = .ok (.iaload, 1) := by decide +kernel
theorem dX8_code_80 : decode cX8_code 80 = .ok (.ireturn, 1) := by decide +kernel
theorem dX8_code_81 : decode cX8_code 81 = .ok (.iconst (-1), 1) := by decide +kernel
theorem dX8_code_82 : decode cX8_code 82 = .ok (.ireturn, 1) := by decide +kernel
theorem dX8_notes_0 : decode cX8_notes 0 = .ok (.aload_n 0, 1) := by decide +kernel
theorem dX8_notes_1 : decode cX8_notes 1 = .ok (.getfield 175, 3) := by decide +kernel
theorem dX8_notes_4 : decode cX8_notes 4 = .ok (.bipush 6, 2) := by decide +kernel
theorem dX8_notes_6 : decode cX8_notes 6 = .ok (.if_icmp .ne 44, 3) := by decide +kernel
theorem dX8_notes_9 : decode cX8_notes 9 = .ok (.bipush 28, 2) := by decide +kernel
theorem dX8_notes_11 : decode cX8_notes 11 = .ok (.istore_n 1, 1) := by decide +kernel
theorem dX8_notes_12 : decode cX8_notes 12 = .ok (.iload_n 1, 1) := by decide +kernel
theorem dX8_notes_13 : decode cX8_notes 13 = .ok (.sipush 168, 3) := by decide +kernel
theorem dX8_notes_16 : decode cX8_notes 16 = .ok (.if_icmp .ge 24, 3) := by decide +kernel
theorem dX8_notes_19 : decode cX8_notes 19 = .ok (.aload_n 0, 1) := by decide +kernel
theorem dX8_notes_20 : decode cX8_notes 20 = .ok (.getfield 13, 3) := by decide +kernel
theorem dX8_notes_23 : decode cX8_notes 23 = .ok (.iload_n 1, 1) := by decide +kernel
theorem dX8_notes_24 : decode cX8_notes 24 = .ok (.bipush 28, 2) := by decide +kernel
theorem dX8_notes_26 : decode cX8_notes 26 = .ok (.isub, 1) := by decide +kernel
theorem dX8_notes_27 : decode cX8_notes 27 = .ok (.aload_n 0, 1) := by decide +kernel
theorem dX8_notes_28 : decode cX8_notes 28 = .ok (.getfield 13, 3) := by decide +kernel
theorem dX8_notes_31 : decode cX8_notes 31 = .ok (.iload_n 1, 1) := by decide +kernel
theorem dX8_notes_32 : decode cX8_notes 32 = .ok (.iaload, 1) := by decide +kernel
theorem dX8_notes_33 : decode cX8_notes 33 = .ok (.iastore, 1) := by decide +kernel
theorem dX8_notes_34 : decode cX8_notes 34 = .ok (.iinc 1 1, 3) := by decide +kernel
theorem dX8_notes_37 : decode cX8_notes 37 = .ok (.goto (-25), 3) := by decide +kernel
theorem dX8_notes_40 : decode cX8_notes 40 = .ok (.aload_n 0, 1) := by decide +kernel
theorem dX8_notes_41 : decode cX8_notes 41 = .ok (.dup, 1) := by decide +kernel
theorem dX8_notes_42 : decode cX8_notes 42 = .ok (.getfield 175, 3) := by decide +kernel
theorem dX8_notes_45 : decode cX8_notes 45 = .ok (.iconst 1, 1) := by decide +kernel
theorem dX8_notes_46 : decode cX8_notes 46 = .ok (.isub, 1) := by decide +kernel
theorem dX8_notes_47 : decode cX8_notes 47 = .ok (.putfield 175, 3) := by decide +kernel
theorem dX8_notes_50 : decode cX8_notes 50 = .ok (.iconst 0, 1) := by decide +kernel
theorem dX8_notes_51 : decode cX8_notes 51 = .ok (.istore_n 1, 1) := by decide +kernel
theorem dX8_notes_52 : decode cX8_notes 52 = .ok (.iload_n 1, 1) := by decide +kernel
theorem dX8_notes_53 : decode cX8_notes 53 = .ok (.bipush 28, 2) := by decide +kernel
theorem dX8_notes_55 : decode cX8_notes 55 = .ok (.if_icmp .ge 29, 3) := by decide +kernel
theorem dX8_notes_58 : decode cX8_notes 58 = .ok (.aload_n 0, 1) := by decide +kernel
theorem dX8_notes_59 : decode cX8_notes 59 = .ok (.getfield 13, 3) := by decide +kernel
theorem dX8_notes_62 : decode cX8_notes 62 = .ok (.bipush 28, 2) := by decide +kernel
theorem dX8_notes_64 : decode cX8_notes 64 = .ok (.aload_n 0, 1) := by decide +kernel
theorem dX8_notes_65 : decode cX8_notes 65 = .ok (.getfield 175, 3) := by decide +kernel
theorem dX8_notes_68 : decode cX8_notes 68 = .ok (.imul, 1) := by decide +kernel
theorem dX8_notes_69 : decode cX8_notes 69 = .ok (.iload_n 1, 1) := by decide +kernel
theorem dX8_notes_70 : decode cX8_notes 70 = .ok (.iadd, 1) := by decide +kernel
theorem dX8_notes_71 : decode cX8_notes 71 = .ok (.aload_n 0, 1) := by decide +kernel
theorem dX8_notes_72 : decode cX8_notes 72 = .ok (.getfield 7, 3) := by decide +kernel
theorem dX8_notes_75 : decode cX8_notes 75 = .ok (.iload_n 1, 1) := by decide +kernel
theorem dX8_notes_76 : decode cX8_notes 76 = .ok (.iaload, 1) := by decide +kernel
theorem dX8_notes_77 : decode cX8_notes 77 = .ok (.iastore, 1) := by decide +kernel
theorem dX8_notes_78 : decode cX8_notes 78 = .ok (.iinc 1 1, 3) := by decide +kernel
theorem dX8_notes_81 : decode cX8_notes 81 = .ok (.goto (-29), 3) := by decide +kernel
theorem dX8_notes_84 : decode cX8_notes 84 = .ok (.aload_n 0, 1) := by decide +kernel
theorem dX8_notes_85 : decode cX8_notes 85 = .ok (.dup, 1) := by decide +kernel
theorem dX8_notes_86 : decode cX8_notes 86 = .ok (.getfield 175, 3) := by decide +kernel
theorem dX8_notes_89 : decode cX8_notes 89 = .ok (.iconst 1, 1) := by decide +kernel
theorem dX8_notes_90 : decode cX8_notes 90 = .ok (.iadd, 1) := by decide +kernel
theorem dX8_notes_91 : decode cX8_notes 91 = .ok (.putfield 175, 3) := by decide +kernel
theorem dX8_notes_94 : decode cX8_notes 94 = .ok (.aload_n 0, 1) := by decide +kernel
theorem dX8_notes_95 : decode cX8_notes 95 = .ok (.invokevirtual 188, 3) := by decide +kernel
theorem dX8_notes_98 : decode cX8_notes 98 = .ok (.return_, 1) := by decide +kernel
theorem dX8_forgets_0 : decode cX8_forgets 0 = .ok (.aload_n 0, 1) := by decide +kernel
theorem dX8_forgets_1 : decode cX8_forgets 1 = .ok (.iconst 0, 1) := by decide +kernel
theorem dX8_forgets_2 : decode cX8_forgets 2 = .ok (.putfield 178, 3) := by decide +kernel
theorem dX8_forgets_5 : decode cX8_forgets 5 = .ok (.aload_n 0, 1) := by decide +kernel
theorem dX8_forgets_6 : decode cX8_forgets 6 = .ok (.iconst 0, 1) := by decide +kernel
theorem dX8_forgets_7 : decode cX8_forgets 7 = .ok (.putfield 182, 3) := by decide +kernel
theorem dX8_forgets_10 : decode cX8_forgets 10 = .ok (.aload_n 0, 1) := by decide +kernel
theorem dX8_forgets_11 : decode cX8_forgets 11 = .ok (.iconst 0, 1) := by decide +kernel
theorem dX8_forgets_12 : decode cX8_forgets 12 = .ok (.putfield 191, 3) := by decide +kernel
theorem dX8_forgets_15 : decode cX8_forgets 15 = .ok (.return_, 1) := by decide +kernel
theorem dX8_registers_0 : decode cX8_registers 0 = .ok (.iload_n 1, 1) := by decide +kernel
theorem dX8_registers_1 : decode cX8_registers 1 = .ok (.iconst 1, 1) := by decide +kernel
theorem dX8_registers_2 : decode cX8_registers 2 = .ok (.iconst 3, 1) := by decide +kernel
theorem dX8_registers_3 : decode cX8_registers 3 = .ok (.invokestatic 114, 3) := by decide +kernel
theorem dX8_registers_6 : decode cX8_registers 6 = .ok (.ifCond .ne 5, 3) := by decide +kernel
theorem dX8_registers_9 : decode cX8_registers 9 = .ok (.iconst (-1), 1) := by decide +kernel
theorem dX8_registers_10 : decode cX8_registers 10 = .ok (.ireturn, 1) := by decide +kernel
theorem dX8_registers_11 : decode cX8_registers 11 = .ok (.aload_n 0, 1) := by decide +kernel
theorem dX8_registers_12 : decode cX8_registers 12 = .ok (.getfield 7, 3) := by decide +kernel
theorem dX8_registers_15 : decode cX8_registers 15 = .ok (.iconst 0, 1) := by decide +kernel
theorem dX8_registers_16 : decode cX8_registers 16 = .ok (.iaload, 1) := by decide +kernel
theorem dX8_registers_17 : decode cX8_registers 17 = .ok (.istore_n 2, 1) := by decide +kernel
theorem dX8_registers_18 : decode cX8_registers 18 = .ok (.iload_n 2, 1) := by decide +kernel
theorem dX8_registers_19 : decode cX8_registers 19 = .ok (.iload_n 1, 1) := by decide +kernel
theorem dX8_registers_20 : decode cX8_registers 20 = .ok (.if_icmp .ne 6, 3) := by decide +kernel
theorem dX8_registers_23 : decode cX8_registers 23 = .ok (.bipush (-2), 2) := by decide +kernel
theorem dX8_registers_25 : decode cX8_registers 25 = .ok (.ireturn, 1) := by decide +kernel
theorem dX8_registers_26 : decode cX8_registers 26 = .ok (.aload_n 0, 1) := by decide +kernel
theorem dX8_registers_27 : decode cX8_registers 27 = .ok (.invokevirtual 194, 3) := by decide +kernel
theorem dX8_registers_30 : decode cX8_registers 30 = .ok (.aload_n 0, 1) := by decide +kernel
theorem dX8_registers_31 : decode cX8_registers 31 = .ok (.getfield 7, 3) := by decide +kernel
theorem dX8_registers_34 : decode cX8_registers 34 = .ok (.iconst 0, 1) := by decide +kernel
theorem dX8_registers_35 : decode cX8_registers 35 = .ok (.iload_n 1, 1) := by decide +kernel
theorem dX8_registers_36 : decode cX8_registers 36 = .ok (.iastore, 1) := by decide +kernel
theorem dX8_registers_37 : decode cX8_registers 37 = .ok (.iload_n 2, 1) := by decide +kernel
theorem dX8_registers_38 : decode cX8_registers 38 = .ok (.ireturn, 1) := by decide +kernel
theorem dX8_costs_0 : decode cX8_costs 0 = .ok (.iload_n 1, 1) := by decide +kernel
theorem dX8_costs_1 : decode cX8_costs 1 = .ok (.iconst 0, 1) := by decide +kernel
theorem dX8_costs_2 : decode cX8_costs 2 = .ok (.bipush 9, 2) := by decide +kernel
theorem dX8_costs_4 : decode cX8_costs 4 = .ok (.invokestatic 114, 3) := by decide +kernel
theorem dX8_costs_7 : decode cX8_costs 7 = .ok (.ifCond .eq 23, 3) := by decide +kernel
theorem dX8_costs_10 : decode cX8_costs 10 = .ok (.iload_n 2, 1) := by decide +kernel
theorem dX8_costs_11 : decode cX8_costs 11 = .ok (.iconst 0, 1) := by decide +kernel
theorem dX8_costs_12 : decode cX8_costs 12 = .ok (.bipush 9, 2) := by decide +kernel
theorem dX8_costs_14 : decode cX8_costs 14 = .ok (.invokestatic 114, 3) := by decide +kernel
theorem dX8_costs_17 : decode cX8_costs 17 = .ok (.ifCond .eq 13, 3) := by decide +kernel
theorem dX8_costs_20 : decode cX8_costs 20 = .ok (.iload_n 3, 1) := by decide +kernel
theorem dX8_costs_21 : decode cX8_costs 21 = .ok (.iconst 0, 1) := by decide +kernel
theorem dX8_costs_22 : decode cX8_costs 22 = .ok (.bipush 9, 2) := by decide +kernel
theorem dX8_costs_24 : decode cX8_costs 24 = .ok (.invokestatic 114, 3) := by decide +kernel
theorem dX8_costs_27 : decode cX8_costs 27 = .ok (.ifCond .ne 5, 3) := by decide +kernel
theorem dX8_costs_30 : decode cX8_costs 30 = .ok (.iconst (-1), 1) := by decide +kernel
theorem dX8_costs_31 : decode cX8_costs 31 = .ok (.ireturn, 1) := by decide +kernel
theorem dX8_costs_32 : decode cX8_costs 32 = .ok (.bipush 100, 2) := by decide +kernel
theorem dX8_costs_34 : decode cX8_costs 34 = .ok (.aload_n 0, 1) := by decide +kernel
theorem dX8_costs_35 : decode cX8_costs 35 = .ok (.getfield 7, 3) := by decide +kernel
theorem dX8_costs_38 : decode cX8_costs 38 = .ok (.iconst 1, 1) := by decide +kernel
theorem dX8_costs_39 : decode cX8_costs 39 = .ok (.iaload, 1) := by decide +kernel
theorem dX8_costs_40 : decode cX8_costs 40 = .ok (.imul, 1) := by decide +kernel
theorem dX8_costs_41 : decode cX8_costs 41 = .ok (.bipush 10, 2) := by decide +kernel
theorem dX8_costs_43 : decode cX8_costs 43 = .ok (.aload_n 0, 1) := by decide +kernel
theorem dX8_costs_44 : decode cX8_costs 44 = .ok (.getfield 7, 3) := by decide +kernel
theorem dX8_costs_47 : decode cX8_costs 47 = .ok (.iconst 2, 1) := by decide +kernel
theorem dX8_costs_48 : decode cX8_costs 48 = .ok (.iaload, 1) := by decide +kernel
theorem dX8_costs_49 : decode cX8_costs 49 = .ok (.imul, 1) := by decide +kernel
theorem dX8_costs_50 : decode cX8_costs 50 = .ok (.iadd, 1) := by decide +kernel
theorem dX8_costs_51 : decode cX8_costs 51 = .ok (.aload_n 0, 1) := by decide +kernel
theorem dX8_costs_52 : decode cX8_costs 52 = .ok (.getfield 7, 3) := by decide +kernel
theorem dX8_costs_55 : decode cX8_costs 55 = .ok (.iconst 3, 1) := by decide +kernel
theorem dX8_costs_56 : decode cX8_costs 56 = .ok (.iaload, 1) := by decide +kernel
theorem dX8_costs_57 : decode cX8_costs 57 = .ok (.iadd, 1) := by decide +kernel
theorem dX8_costs_58 : decode cX8_costs 58 = .ok (.istore 4, 2) := by decide +kernel
theorem dX8_costs_60 : decode cX8_costs 60 = .ok (.iload 4, 2) := by decide +kernel
theorem dX8_costs_62 : decode cX8_costs 62 = .ok (.bipush 100, 2) := by decide +kernel
theorem dX8_costs_64 : decode cX8_costs 64 = .ok (.iload_n 1, 1) := by decide +kernel
theorem dX8_costs_65 : decode cX8_costs 65 = .ok (.imul, 1) := by decide +kernel
theorem dX8_costs_66 : decode cX8_costs 66 = .ok (.bipush 10, 2) := by decide +kernel
theorem dX8_costs_68 : decode cX8_costs 68 = .ok (.iload_n 2, 1) := by decide +kernel
theorem dX8_costs_69 : decode cX8_costs 69 = .ok (.imul, 1) := by decide +kernel
theorem dX8_costs_70 : decode cX8_costs 70 = .ok (.iadd, 1) := by decide +kernel
theorem dX8_costs_71 : decode cX8_costs 71 = .ok (.iload_n 3, 1) := by decide +kernel
theorem dX8_costs_72 : decode cX8_costs 72 = .ok (.iadd, 1) := by decide +kernel
theorem dX8_costs_73 : decode cX8_costs 73 = .ok (.if_icmp .ne 6, 3) := by decide +kernel
theorem dX8_costs_76 : decode cX8_costs 76 = .ok (.bipush (-2), 2) := by decide +kernel
theorem dX8_costs_78 : decode cX8_costs 78 = .ok (.ireturn, 1) := by decide +kernel
theorem dX8_costs_79 : decode cX8_costs 79 = .ok (.aload_n 0, 1) := by decide +kernel
theorem dX8_costs_80 : decode cX8_costs 80 = .ok (.invokevirtual 194, 3) := by decide +kernel
theorem dX8_costs_83 : decode cX8_costs 83 = .ok (.aload_n 0, 1) := by decide +kernel
theorem dX8_costs_84 : decode cX8_costs 84 = .ok (.getfield 7, 3) := by decide +kernel
theorem dX8_costs_87 : decode cX8_costs 87 = .ok (.iconst 1, 1) := by decide +kernel
theorem dX8_costs_88 : decode cX8_costs 88 = .ok (.iload_n 1, 1) := by decide +kernel
theorem dX8_costs_89 : decode cX8_costs 89 = .ok (.iastore, 1) := by decide +kernel
theorem dX8_costs_90 : decode cX8_costs 90 = .ok (.aload_n 0, 1) := by decide +kernel
theorem dX8_costs_91 : decode cX8_costs 91 = .ok (.getfield 7, 3) := by decide +kernel
theorem dX8_costs_94 : decode cX8_costs 94 = .ok (.iconst 2, 1) := by decide +kernel
theorem dX8_costs_95 : decode cX8_costs 95 = .ok (.iload_n 2, 1) := by decide +kernel
theorem dX8_costs_96 : decode cX8_costs 96 = .ok (.iastore, 1) := by decide +kernel
theorem dX8_costs_97 : decode cX8_costs 97 = .ok (.aload_n 0, 1) := by decide +kernel
theorem dX8_costs_98 : decode cX8_costs 98 = .ok (.getfield 7, 3) := by decide +kernel
theorem dX8_costs_101 : decode cX8_costs 101 = .ok (.iconst 3, 1) := by decide +kernel
theorem dX8_costs_102 : decode cX8_costs 102 = .ok (.iload_n 3, 1) := by decide +kernel
theorem dX8_costs_103 : decode cX8_costs 103 = .ok (.iastore, 1) := by decide +kernel
theorem dX8_costs_104 : decode cX8_costs 104 = .ok (.iload 4, 2) := by decide +kernel
theorem dX8_costs_106 : decode cX8_costs 106 = .ok (.ireturn, 1) := by decide +kernel
theorem dX8_weigh_0 : decode cX8_weigh 0 = .ok (.aload_n 0, 1) := by decide +kernel
theorem dX8_weigh_1 : decode cX8_weigh 1 = .ok (.iload_n 1, 1) := by decide +kernel
theorem dX8_weigh_2 : decode cX8_weigh 2 = .ok (.invokevirtual 185, 3) := by decide +kernel
theorem dX8_weigh_5 : decode cX8_weigh 5 = .ok (.ifCond .eq 14, 3) := by decide +kernel
theorem dX8_weigh_8 : decode cX8_weigh 8 = .ok (.iload_n 2, 1) := by decide +kernel
theorem dX8_weigh_9 : decode cX8_weigh 9 = .ok (.iconst 1, 1) := by decide +kernel
theorem dX8_weigh_10 : decode cX8_weigh 10 = .ok (.sipush 999, 3) := by decide +kernel
theorem dX8_weigh_13 : decode cX8_weigh 13 = .ok (.invokestatic 114, 3) := by decide +kernel
theorem dX8_weigh_16 : decode cX8_weigh 16 = .ok (.ifCond .ne 5, 3) := by decide +kernel
theorem dX8_weigh_19 : decode cX8_weigh 19 = .ok (.iconst (-1), 1) := by decide +kernel
theorem dX8_weigh_20 : decode cX8_weigh 20 = .ok (.ireturn, 1) := by decide +kernel
theorem dX8_weigh_21 : decode cX8_weigh 21 = .ok (.aload_n 0, 1) := by decide +kernel
theorem dX8_weigh_22 : decode cX8_weigh 22 = .ok (.getfield 7, 3) := by decide +kernel
theorem dX8_weigh_25 : decode cX8_weigh 25 = .ok (.iconst 4, 1) := by decide +kernel
theorem dX8_weigh_26 : decode cX8_weigh 26 = .ok (.iload_n 1, 1) := by decide +kernel
theorem dX8_weigh_27 : decode cX8_weigh 27 = .ok (.iadd, 1) := by decide +kernel
theorem dX8_weigh_28 : decode cX8_weigh 28 = .ok (.iaload, 1) := by decide +kernel
theorem dX8_weigh_29 : decode cX8_weigh 29 = .ok (.istore_n 3, 1) := by decide +kernel
theorem dX8_weigh_30 : decode cX8_weigh 30 = .ok (.iload_n 3, 1) := by decide +kernel
theorem dX8_weigh_31 : decode cX8_weigh 31 = .ok (.iload_n 2, 1) := by decide +kernel
theorem dX8_weigh_32 : decode cX8_weigh 32 = .ok (.if_icmp .ne 6, 3) := by decide +kernel
theorem dX8_weigh_35 : decode cX8_weigh 35 = .ok (.bipush (-2), 2) := by decide +kernel
theorem dX8_weigh_37 : decode cX8_weigh 37 = .ok (.ireturn, 1) := by decide +kernel
theorem dX8_weigh_38 : decode cX8_weigh 38 = .ok (.aload_n 0, 1) := by decide +kernel
theorem dX8_weigh_39 : decode cX8_weigh 39 = .ok (.invokevirtual 194, 3) := by decide +kernel
theorem dX8_weigh_42 : decode cX8_weigh 42 = .ok (.aload_n 0, 1) := by decide +kernel
theorem dX8_weigh_43 : decode cX8_weigh 43 = .ok (.getfield 7, 3) := by decide +kernel
theorem dX8_weigh_46 : decode cX8_weigh 46 = .ok (.iconst 4, 1) := by decide +kernel
theorem dX8_weigh_47 : decode cX8_weigh 47 = .ok (.iload_n 1, 1) := by decide +kernel
theorem dX8_weigh_48 : decode cX8_weigh 48 = .ok (.iadd, 1) := by decide +kernel
theorem dX8_weigh_49 : decode cX8_weigh 49 = .ok (.iload_n 2, 1) := by decide +kernel
theorem dX8_weigh_50 : decode cX8_weigh 50 = .ok (.iastore, 1) := by decide +kernel
theorem dX8_weigh_51 : decode cX8_weigh 51 = .ok (.iload_n 3, 1) := by decide +kernel
theorem dX8_weigh_52 : decode cX8_weigh 52 = .ok (.ireturn, 1) := by decide +kernel
theorem dX8_weightOf_0 : decode cX8_weightOf 0 = .ok (.iload_n 0, 1) := by decide +kernel
theorem dX8_weightOf_1 : decode cX8_weightOf 1 = .ok (.sipush 998, 3) := by decide +kernel
theorem dX8_weightOf_4 : decode cX8_weightOf 4 = .ok (.if_icmp .le 9, 3) := by decide +kernel
theorem dX8_weightOf_7 : decode cX8_weightOf 7 = .ok (.sipush 999, 3) := by decide +kernel
theorem dX8_weightOf_10 : decode cX8_weightOf 10 = .ok (.goto 6, 3) := by decide +kernel
theorem dX8_weightOf_13 : decode cX8_weightOf 13 = .ok (.iload_n 0, 1) := by decide +kernel
theorem dX8_weightOf_14 : decode cX8_weightOf 14 = .ok (.iconst 1, 1) := by decide +kernel
theorem dX8_weightOf_15 : decode cX8_weightOf 15 = .ok (.iadd, 1) := by decide +kernel
theorem dX8_weightOf_16 : decode cX8_weightOf 16 = .ok (.ireturn, 1) := by decide +kernel
theorem dX8_profile_0 : decode cX8_profile 0 = .ok (.iconst 0, 1) := by decide +kernel
theorem dX8_profile_1 : decode cX8_profile 1 = .ok (.istore_n 1, 1) := by decide +kernel
theorem dX8_profile_2 : decode cX8_profile 2 = .ok (.iconst 0, 1) := by decide +kernel
theorem dX8_profile_3 : decode cX8_profile 3 = .ok (.istore_n 2, 1) := by decide +kernel
theorem dX8_profile_4 : decode cX8_profile 4 = .ok (.iload_n 2, 1) := by decide +kernel
theorem dX8_profile_5 : decode cX8_profile 5 = .ok (.aload_n 0, 1) := by decide +kernel
theorem dX8_profile_6 : decode cX8_profile 6 = .ok (.getfield 172, 3) := by decide +kernel
theorem dX8_profile_9 : decode cX8_profile 9 = .ok (.if_icmp .ge 44, 3) := by decide +kernel
theorem dX8_profile_12 : decode cX8_profile 12 = .ok (.iload_n 1, 1) := by decide +kernel
theorem dX8_profile_13 : decode cX8_profile 13 = .ok (.aload_n 0, 1) := by decide +kernel
theorem dX8_profile_14 : decode cX8_profile 14 = .ok (.getfield 178, 3) := by decide +kernel
theorem dX8_profile_17 : decode cX8_profile 17 = .ok (.ifCond .eq 27, 3) := by decide +kernel
theorem dX8_profile_20 : decode cX8_profile 20 = .ok (.aload_n 0, 1) := by decide +kernel
theorem dX8_profile_21 : decode cX8_profile 21 = .ok (.getfield 101, 3) := by decide +kernel
theorem dX8_profile_24 : decode cX8_profile 24 = .ok (.iload_n 2, 1) := by decide +kernel
theorem dX8_profile_25 : decode cX8_profile 25 = .ok (.iaload, 1) := by decide +kernel
theorem dX8_profile_26 : decode cX8_profile 26 = .ok (.invokestatic 197, 3) := by decide +kernel
theorem dX8_profile_29 : decode cX8_profile 29 = .ok (.aload_n 0, 1) := by decide +kernel
theorem dX8_profile_30 : decode cX8_profile 30 = .ok (.getfield 7, 3) := by decide +kernel
theorem dX8_profile_33 : decode cX8_profile 33 = .ok (.iconst 4, 1) := by decide +kernel
theorem dX8_profile_34 : decode cX8_profile 34 = .ok (.iload_n 2, 1) := by decide +kernel
theorem dX8_profile_35 : decode cX8_profile 35 = .ok (.iadd, 1) := by decide +kernel
theorem dX8_profile_36 : decode cX8_profile 36 = .ok (.iaload, 1) := by decide +kernel
theorem dX8_profile_37 : decode cX8_profile 37 = .ok (.if_icmp .eq 7, 3) := by decide +kernel
theorem dX8_profile_40 : decode cX8_profile 40 = .ok (.iconst 1, 1) := by decide +kernel
theorem dX8_profile_41 : decode cX8_profile 41 = .ok (.goto 4, 3) := by decide +kernel
theorem dX8_profile_44 : decode cX8_profile 44 = .ok (.iconst 0, 1) := by decide +kernel
theorem dX8_profile_45 : decode cX8_profile 45 = .ok (.iadd, 1) := by decide +kernel
theorem dX8_profile_46 : decode cX8_profile 46 = .ok (.istore_n 1, 1) := by decide +kernel
theorem dX8_profile_47 : decode cX8_profile 47 = .ok (.iinc 2 1, 3) := by decide +kernel
theorem dX8_profile_50 : decode cX8_profile 50 = .ok (.goto (-46), 3) := by decide +kernel
theorem dX8_profile_53 : decode cX8_profile 53 = .ok (.iload_n 1, 1) := by decide +kernel
theorem dX8_profile_54 : decode cX8_profile 54 = .ok (.ifCond .ne 6, 3) := by decide +kernel
theorem dX8_profile_57 : decode cX8_profile 57 = .ok (.bipush (-2), 2) := by decide +kernel
theorem dX8_profile_59 : decode cX8_profile 59 = .ok (.ireturn, 1) := by decide +kernel
theorem dX8_profile_60 : decode cX8_profile 60 = .ok (.aload_n 0, 1) := by decide +kernel
theorem dX8_profile_61 : decode cX8_profile 61 = .ok (.invokevirtual 194, 3) := by decide +kernel
theorem dX8_profile_64 : decode cX8_profile 64 = .ok (.iconst 0, 1) := by decide +kernel
theorem dX8_profile_65 : decode cX8_profile 65 = .ok (.istore_n 2, 1) := by decide +kernel
theorem dX8_profile_66 : decode cX8_profile 66 = .ok (.iload_n 2, 1) := by decide +kernel
theorem dX8_profile_67 : decode cX8_profile 67 = .ok (.aload_n 0, 1) := by decide +kernel
theorem dX8_profile_68 : decode cX8_profile 68 = .ok (.getfield 172, 3) := by decide +kernel
theorem dX8_profile_71 : decode cX8_profile 71 = .ok (.if_icmp .ge 26, 3) := by decide +kernel
theorem dX8_profile_74 : decode cX8_profile 74 = .ok (.aload_n 0, 1) := by decide +kernel
theorem dX8_profile_75 : decode cX8_profile 75 = .ok (.getfield 7, 3) := by decide +kernel
theorem dX8_profile_78 : decode cX8_profile 78 = .ok (.iconst 4, 1) := by decide +kernel
theorem dX8_profile_79 : decode cX8_profile 79 = .ok (.iload_n 2, 1) := by decide +kernel
theorem dX8_profile_80 : decode cX8_profile 80 = .ok (.iadd, 1) := by decide +kernel
theorem dX8_profile_81 : decode cX8_profile 81 = .ok (.aload_n 0, 1) := by decide +kernel
theorem dX8_profile_82 : decode cX8_profile 82 = .ok (.getfield 101, 3) := by decide +kernel
theorem dX8_profile_85 : decode cX8_profile 85 = .ok (.iload_n 2, 1) := by decide +kernel
theorem dX8_profile_86 : decode cX8_profile 86 = .ok (.iaload, 1) := by decide +kernel
theorem dX8_profile_87 : decode cX8_profile 87 = .ok (.invokestatic 197, 3) := by decide +kernel
theorem dX8_profile_90 : decode cX8_profile 90 = .ok (.iastore, 1) := by decide +kernel
theorem dX8_profile_91 : decode cX8_profile 91 = .ok (.iinc 2 1, 3) := by decide +kernel
theorem dX8_profile_94 : decode cX8_profile 94 = .ok (.goto (-28), 3) := by decide +kernel
theorem dX8_profile_97 : decode cX8_profile 97 = .ok (.iload_n 1, 1) := by decide +kernel
theorem dX8_profile_98 : decode cX8_profile 98 = .ok (.ireturn, 1) := by decide +kernel
theorem dX8_undo_0 : decode cX8_undo 0 = .ok (.aload_n 0, 1) := by decide +kernel
theorem dX8_undo_1 : decode cX8_undo 1 = .ok (.getfield 175, 3) := by decide +kernel
theorem dX8_undo_4 : decode cX8_undo 4 = .ok (.ifCond .ne 6, 3) := by decide +kernel
theorem dX8_undo_7 : decode cX8_undo 7 = .ok (.bipush (-2), 2) := by decide +kernel
theorem dX8_undo_9 : decode cX8_undo 9 = .ok (.ireturn, 1) := by decide +kernel
theorem dX8_undo_10 : decode cX8_undo 10 = .ok (.aload_n 0, 1) := by decide +kernel
theorem dX8_undo_11 : decode cX8_undo 11 = .ok (.dup, 1) := by decide +kernel
theorem dX8_undo_12 : decode cX8_undo 12 = .ok (.getfield 175, 3) := by decide +kernel
theorem dX8_undo_15 : decode cX8_undo 15 = .ok (.iconst 1, 1) := by decide +kernel
theorem dX8_undo_16 : decode cX8_undo 16 = .ok (.isub, 1) := by decide +kernel
theorem dX8_undo_17 : decode cX8_undo 17 = .ok (.putfield 175, 3) := by decide +kernel
theorem dX8_undo_20 : decode cX8_undo 20 = .ok (.iconst 0, 1) := by decide +kernel
theorem dX8_undo_21 : decode cX8_undo 21 = .ok (.istore_n 1, 1) := by decide +kernel
theorem dX8_undo_22 : decode cX8_undo 22 = .ok (.iload_n 1, 1) := by decide +kernel
theorem dX8_undo_23 : decode cX8_undo 23 = .ok (.bipush 28, 2) := by decide +kernel
theorem dX8_undo_25 : decode cX8_undo 25 = .ok (.if_icmp .ge 29, 3) := by decide +kernel
theorem dX8_undo_28 : decode cX8_undo 28 = .ok (.aload_n 0, 1) := by decide +kernel
theorem dX8_undo_29 : decode cX8_undo 29 = .ok (.getfield 7, 3) := by decide +kernel
theorem dX8_undo_32 : decode cX8_undo 32 = .ok (.iload_n 1, 1) := by decide +kernel
theorem dX8_undo_33 : decode cX8_undo 33 = .ok (.aload_n 0, 1) := by decide +kernel
theorem dX8_undo_34 : decode cX8_undo 34 = .ok (.getfield 13, 3) := by decide +kernel
theorem dX8_undo_37 : decode cX8_undo 37 = .ok (.bipush 28, 2) := by decide +kernel
theorem dX8_undo_39 : decode cX8_undo 39 = .ok (.aload_n 0, 1) := by decide +kernel
theorem dX8_undo_40 : decode cX8_undo 40 = .ok (.getfield 175, 3) := by decide +kernel
theorem dX8_undo_43 : decode cX8_undo 43 = .ok (.imul, 1) := by decide +kernel
theorem dX8_undo_44 : decode cX8_undo 44 = .ok (.iload_n 1, 1) := by decide +kernel
theorem dX8_undo_45 : decode cX8_undo 45 = .ok (.iadd, 1) := by decide +kernel
theorem dX8_undo_46 : decode cX8_undo 46 = .ok (.iaload, 1) := by decide +kernel
theorem dX8_undo_47 : decode cX8_undo 47 = .ok (.iastore, 1) := by decide +kernel
theorem dX8_undo_48 : decode cX8_undo 48 = .ok (.iinc 1 1, 3) := by decide +kernel
theorem dX8_undo_51 : decode cX8_undo 51 = .ok (.goto (-29), 3) := by decide +kernel
theorem dX8_undo_54 : decode cX8_undo 54 = .ok (.aload_n 0, 1) := by decide +kernel
theorem dX8_undo_55 : decode cX8_undo 55 = .ok (.invokevirtual 188, 3) := by decide +kernel
theorem dX8_undo_58 : decode cX8_undo 58 = .ok (.aload_n 0, 1) := by decide +kernel
theorem dX8_undo_59 : decode cX8_undo 59 = .ok (.getfield 175, 3) := by decide +kernel
theorem dX8_undo_62 : decode cX8_undo 62 = .ok (.ireturn, 1) := by decide +kernel
theorem dX8_adds_0 : decode cX8_adds 0 = .ok (.aload_n 0, 1) := by decide +kernel
theorem dX8_adds_1 : decode cX8_adds 1 = .ok (.getfield 52, 3) := by decide +kernel
theorem dX8_adds_4 : decode cX8_adds 4 = .ok (.aload_n 0, 1) := by decide +kernel
theorem dX8_adds_5 : decode cX8_adds 5 = .ok (.getfield 200, 3) := by decide +kernel
theorem dX8_adds_8 : decode cX8_adds 8 = .ok (.iload_n 1, 1) := by decide +kernel
theorem dX8_adds_9 : decode cX8_adds 9 = .ok (.iastore, 1) := by decide +kernel
theorem dX8_adds_10 : decode cX8_adds 10 = .ok (.aload_n 0, 1) := by decide +kernel
theorem dX8_adds_11 : decode cX8_adds 11 = .ok (.getfield 55, 3) := by decide +kernel
theorem dX8_adds_14 : decode cX8_adds 14 = .ok (.iconst 3, 1) := by decide +kernel
theorem dX8_adds_15 : decode cX8_adds 15 = .ok (.aload_n 0, 1) := by decide +kernel
theorem dX8_adds_16 : decode cX8_adds 16 = .ok (.getfield 200, 3) := by decide +kernel
theorem dX8_adds_19 : decode cX8_adds 19 = .ok (.imul, 1) := by decide +kernel
theorem dX8_adds_20 : decode cX8_adds 20 = .ok (.iload_n 2, 1) := by decide +kernel
theorem dX8_adds_21 : decode cX8_adds 21 = .ok (.iastore, 1) := by decide +kernel
theorem dX8_adds_22 : decode cX8_adds 22 = .ok (.aload_n 0, 1) := by decide +kernel
theorem dX8_adds_23 : decode cX8_adds 23 = .ok (.getfield 55, 3) := by decide +kernel
theorem dX8_adds_26 : decode cX8_adds 26 = .ok (.iconst 3, 1) := by decide +kernel
theorem dX8_adds_27 : decode cX8_adds 27 = .ok (.aload_n 0, 1) := by decide +kernel
theorem dX8_adds_28 : decode cX8_adds 28 = .ok (.getfield 200, 3) := by decide +kernel
theorem dX8_adds_31 : decode cX8_adds 31 = .ok (.imul, 1) := by decide +kernel
theorem dX8_adds_32 : decode cX8_adds 32 = .ok (.iconst 1, 1) := by decide +kernel
theorem dX8_adds_33 : decode cX8_adds 33 = .ok (.iadd, 1) := by decide +kernel
theorem dX8_adds_34 : decode cX8_adds 34 = .ok (.iload_n 3, 1) := by decide +kernel
theorem dX8_adds_35 : decode cX8_adds 35 = .ok (.iastore, 1) := by decide +kernel
theorem dX8_adds_36 : decode cX8_adds 36 = .ok (.aload_n 0, 1) := by decide +kernel
theorem dX8_adds_37 : decode cX8_adds 37 = .ok (.getfield 55, 3) := by decide +kernel
theorem dX8_adds_40 : decode cX8_adds 40 = .ok (.iconst 3, 1) := by decide +kernel
theorem dX8_adds_41 : decode cX8_adds 41 = .ok (.aload_n 0, 1) := by decide +kernel
theorem dX8_adds_42 : decode cX8_adds 42 = .ok (.getfield 200, 3) := by decide +kernel
theorem dX8_adds_45 : decode cX8_adds 45 = .ok (.imul, 1) := by decide +kernel
theorem dX8_adds_46 : decode cX8_adds 46 = .ok (.iconst 2, 1) := by decide +kernel
theorem dX8_adds_47 : decode cX8_adds 47 = .ok (.iadd, 1) := by decide +kernel
theorem dX8_adds_48 : decode cX8_adds 48 = .ok (.iload 4, 2) := by decide +kernel
theorem dX8_adds_50 : decode cX8_adds 50 = .ok (.iastore, 1) := by decide +kernel
theorem dX8_adds_51 : decode cX8_adds 51 = .ok (.aload_n 0, 1) := by decide +kernel
theorem dX8_adds_52 : decode cX8_adds 52 = .ok (.dup, 1) := by decide +kernel
theorem dX8_adds_53 : decode cX8_adds 53 = .ok (.getfield 200, 3) := by decide +kernel
theorem dX8_adds_56 : decode cX8_adds 56 = .ok (.iconst 1, 1) := by decide +kernel
theorem dX8_adds_57 : decode cX8_adds 57 = .ok (.iadd, 1) := by decide +kernel
theorem dX8_adds_58 : decode cX8_adds 58 = .ok (.putfield 200, 3) := by decide +kernel
theorem dX8_adds_61 : decode cX8_adds 61 = .ok (.return_, 1) := by decide +kernel
theorem dX8_laysStates_0 : decode cX8_laysStates 0 = .ok (.aload_n 0, 1) := by decide +kernel
theorem dX8_laysStates_1 : decode cX8_laysStates 1 = .ok (.iconst 0, 1) := by decide +kernel
theorem dX8_laysStates_2 : decode cX8_laysStates 2 = .ok (.putfield 200, 3) := by decide +kernel
theorem dX8_laysStates_5 : decode cX8_laysStates 5 = .ok (.aload_n 0, 1) := by decide +kernel
theorem dX8_laysStates_6 : decode cX8_laysStates 6 = .ok (.getfield 7, 3) := by decide +kernel
theorem dX8_laysStates_9 : decode cX8_laysStates 9 = .ok (.iconst 0, 1) := by decide +kernel
theorem dX8_laysStates_10 : decode cX8_laysStates 10 = .ok (.iaload, 1) := by decide +kernel
theorem dX8_laysStates_11 : decode cX8_laysStates 11 = .ok (.istore_n 1, 1) := by decide +kernel
theorem dX8_laysStates_12 : decode cX8_laysStates 12 = .ok (.aload_n 0, 1) := by decide +kernel
theorem dX8_laysStates_13 : decode cX8_laysStates 13 = .ok (.iconst 0, 1) := by decide +kernel
theorem dX8_laysStates_14 : decode cX8_laysStates 14 = .ok (.bipush (-4), 2) := by decide +kernel
theorem dX8_laysStates_16 : decode cX8_laysStates 16 = .ok (.bipush (-4), 2) := by decide +kernel
theorem dX8_laysStates_18 : decode cX8_laysStates 18 = .ok (.bipush (-4), 2) := by decide +kernel
theorem dX8_laysStates_20 : decode cX8_laysStates 20 = .ok (.invokevirtual 203, 3) := by decide +kernel
theorem dX8_laysStates_23 : decode cX8_laysStates 23 = .ok (.iconst 0, 1) := by decide +kernel
theorem dX8_laysStates_24 : decode cX8_laysStates 24 = .ok (.istore_n 2, 1) := by decide +kernel
theorem dX8_laysStates_25 : decode cX8_laysStates 25 = .ok (.iload_n 2, 1) := by decide +kernel
theorem dX8_laysStates_26 : decode cX8_laysStates 26 = .ok (.iload_n 1, 1) := by decide +kernel
theorem dX8_laysStates_27 : decode cX8_laysStates 27 = .ok (.if_icmp .ge 19, 3) := by decide +kernel
theorem dX8_laysStates_30 : decode cX8_laysStates 30 = .ok (.aload_n 0, 1) := by decide +kernel
theorem dX8_laysStates_31 : decode cX8_laysStates 31 = .ok (.iconst 1, 1) := by decide +kernel
theorem dX8_laysStates_32 : decode cX8_laysStates 32 = .ok (.iload_n 2, 1) := by decide +kernel
theorem dX8_laysStates_33 : decode cX8_laysStates 33 = .ok (.bipush (-4), 2) := by decide +kernel
theorem dX8_laysStates_35 : decode cX8_laysStates 35 = .ok (.bipush (-4), 2) := by decide +kernel
theorem dX8_laysStates_37 : decode cX8_laysStates 37 = .ok (.invokevirtual 203, 3) := by decide +kernel
theorem dX8_laysStates_40 : decode cX8_laysStates 40 = .ok (.iinc 2 1, 3) := by decide +kernel
theorem dX8_laysStates_43 : decode cX8_laysStates 43 = .ok (.goto (-18), 3) := by decide +kernel
theorem dX8_laysStates_46 : decode cX8_laysStates 46 = .ok (.iconst 0, 1) := by decide +kernel
theorem dX8_laysStates_47 : decode cX8_laysStates 47 = .ok (.istore_n 2, 1) := by decide +kernel
theorem dX8_laysStates_48 : decode cX8_laysStates 48 = .ok (.iload_n 2, 1) := by decide +kernel
theorem dX8_laysStates_49 : decode cX8_laysStates 49 = .ok (.iload_n 1, 1) := by decide +kernel
theorem dX8_laysStates_50 : decode cX8_laysStates 50 = .ok (.if_icmp .ge 36, 3) := by decide +kernel
theorem dX8_laysStates_53 : decode cX8_laysStates 53 = .ok (.iconst 0, 1) := by decide +kernel
theorem dX8_laysStates_54 : decode cX8_laysStates 54 = .ok (.istore_n 3, 1) := by decide +kernel
theorem dX8_laysStates_55 : decode cX8_laysStates 55 = .ok (.iload_n 3, 1) := by decide +kernel
theorem dX8_laysStates_56 : decode cX8_laysStates 56 = .ok (.iload_n 1, 1) := by decide +kernel
theorem dX8_laysStates_57 : decode cX8_laysStates 57 = .ok (.if_icmp .ge 23, 3) := by decide +kernel
theorem dX8_laysStates_60 : decode cX8_laysStates 60 = .ok (.iload_n 2, 1) := by decide +kernel
theorem dX8_laysStates_61 : decode cX8_laysStates 61 = .ok (.iload_n 3, 1) := by decide +kernel
theorem dX8_laysStates_62 : decode cX8_laysStates 62 = .ok (.if_icmp .eq 12, 3) := by decide +kernel
theorem dX8_laysStates_65 : decode cX8_laysStates 65 = .ok (.aload_n 0, 1) := by decide +kernel
theorem dX8_laysStates_66 : decode cX8_laysStates 66 = .ok (.iconst 2, 1) := by decide +kernel
theorem dX8_laysStates_67 : decode cX8_laysStates 67 = .ok (.iload_n 2, 1) := by decide +kernel
theorem dX8_laysStates_68 : decode cX8_laysStates 68 = .ok (.iload_n 3, 1) := by decide +kernel
theorem dX8_laysStates_69 : decode cX8_laysStates 69 = .ok (.bipush (-4), 2) := by decide +kernel
theorem dX8_laysStates_71 : decode cX8_laysStates 71 = .ok (.invokevirtual 203, 3) := by decide +kernel
theorem dX8_laysStates_74 : decode cX8_laysStates 74 = .ok (.iinc 3 1, 3) := by decide +kernel
theorem dX8_laysStates_77 : decode cX8_laysStates 77 = .ok (.goto (-22), 3) := by decide +kernel
theorem dX8_laysStates_80 : decode cX8_laysStates 80 = .ok (.iinc 2 1, 3) := by decide +kernel
theorem dX8_laysStates_83 : decode cX8_laysStates 83 = .ok (.goto (-35), 3) := by decide +kernel
theorem dX8_laysStates_86 : decode cX8_laysStates 86 = .ok (.iconst 0, 1) := by decide +kernel
theorem dX8_laysStates_87 : decode cX8_laysStates 87 = .ok (.istore_n 2, 1) := by decide +kernel
theorem dX8_laysStates_88 : decode cX8_laysStates 88 = .ok (.iload_n 2, 1) := by decide +kernel
theorem dX8_laysStates_89 : decode cX8_laysStates 89 = .ok (.iload_n 1, 1) := by decide +kernel
theorem dX8_laysStates_90 : decode cX8_laysStates 90 = .ok (.if_icmp .ge 63, 3) := by decide +kernel
theorem dX8_laysStates_93 : decode cX8_laysStates 93 = .ok (.iconst 0, 1) := by decide +kernel
theorem dX8_laysStates_94 : decode cX8_laysStates 94 = .ok (.istore_n 3, 1) := by decide +kernel
theorem dX8_laysStates_95 : decode cX8_laysStates 95 = .ok (.iload_n 3, 1) := by decide +kernel
theorem dX8_laysStates_96 : decode cX8_laysStates 96 = .ok (.iload_n 1, 1) := by decide +kernel
theorem dX8_laysStates_97 : decode cX8_laysStates 97 = .ok (.if_icmp .ge 50, 3) := by decide +kernel
theorem dX8_laysStates_100 : decode cX8_laysStates 100 = .ok (.iconst 0, 1) := by decide +kernel
theorem dX8_laysStates_101 : decode cX8_laysStates 101 = .ok (.istore 4, 2) := by decide +kernel
theorem dX8_laysStates_103 : decode cX8_laysStates 103 = .ok (.iload 4, 2) := by decide +kernel
theorem dX8_laysStates_105 : decode cX8_laysStates 105 = .ok (.iload_n 1, 1) := by decide +kernel
theorem dX8_laysStates_106 : decode cX8_laysStates 106 = .ok (.if_icmp .ge 35, 3) := by decide +kernel
theorem dX8_laysStates_109 : decode cX8_laysStates 109 = .ok (.iload_n 2, 1) := by decide +kernel
theorem dX8_laysStates_110 : decode cX8_laysStates 110 = .ok (.iload_n 3, 1) := by decide +kernel
theorem dX8_laysStates_111 : decode cX8_laysStates 111 = .ok (.if_icmp .eq 24, 3) := by decide +kernel
theorem dX8_laysStates_114 : decode cX8_laysStates 114 = .ok (.iload_n 2, 1) := by decide +kernel
theorem dX8_laysStates_115 : decode cX8_laysStates 115 = .ok (.iload 4, 2) := by decide +kernel
theorem dX8_laysStates_117 : decode cX8_laysStates 117 = .ok (.if_icmp .eq 18, 3) := by decide +kernel
theorem dX8_laysStates_120 : decode cX8_laysStates 120 = .ok (.iload_n 3, 1) := by decide +kernel
theorem dX8_laysStates_121 : decode cX8_laysStates 121 = .ok (.iload 4, 2) := by decide +kernel
theorem dX8_laysStates_123 : decode cX8_laysStates 123 = .ok (.if_icmp .eq 12, 3) := by decide +kernel
theorem dX8_laysStates_126 : decode cX8_laysStates 126 = .ok (.aload_n 0, 1) := by decide +kernel
theorem dX8_laysStates_127 : decode cX8_laysStates 127 = .ok (.iconst 3, 1) := by decide +kernel
theorem dX8_laysStates_128 : decode cX8_laysStates 128 = .ok (.iload_n 2, 1) := by decide +kernel
theorem dX8_laysStates_129 : decode cX8_laysStates 129 = .ok (.iload_n 3, 1) := by decide +kernel
theorem dX8_laysStates_130 : decode cX8_laysStates 130 = .ok (.iload 4, 2) := by decide +kernel
theorem dX8_laysStates_132 : decode cX8_laysStates 132 = .ok (.invokevirtual 203, 3) := by decide +kernel
theorem dX8_laysStates_135 : decode cX8_laysStates 135 = .ok (.iinc 4 1, 3) := by decide +kernel
theorem dX8_laysStates_138 : decode cX8_laysStates 138 = .ok (.goto (-35), 3) := by decide +kernel
theorem dX8_laysStates_141 : decode cX8_laysStates 141 = .ok (.iinc 3 1, 3) := by decide +kernel
theorem dX8_laysStates_144 : decode cX8_laysStates 144 = .ok (.goto (-49), 3) := by decide +kernel
theorem dX8_laysStates_147 : decode cX8_laysStates 147 = .ok (.iinc 2 1, 3) := by decide +kernel
theorem dX8_laysStates_150 : decode cX8_laysStates 150 = .ok (.goto (-62), 3) := by decide +kernel
theorem dX8_laysStates_153 : decode cX8_laysStates 153 = .ok (.return_, 1) := by decide +kernel
theorem dX8_isState_0 : decode cX8_isState 0 = .ok (.aload_n 0, 1) := by decide +kernel
theorem dX8_isState_1 : decode cX8_isState 1 = .ok (.invokevirtual 207, 3) := by decide +kernel
theorem dX8_isState_4 : decode cX8_isState 4 = .ok (.iload_n 1, 1) := by decide +kernel
theorem dX8_isState_5 : decode cX8_isState 5 = .ok (.iconst 0, 1) := by decide +kernel
theorem dX8_isState_6 : decode cX8_isState 6 = .ok (.aload_n 0, 1) := by decide +kernel
theorem dX8_isState_7 : decode cX8_isState 7 = .ok (.getfield 200, 3) := by decide +kernel
theorem dX8_isState_10 : decode cX8_isState 10 = .ok (.iconst 1, 1) := by decide +kernel
theorem dX8_isState_11 : decode cX8_isState 11 = .ok (.isub, 1) := by decide +kernel
theorem dX8_isState_12 : decode cX8_isState 12 = .ok (.invokestatic 114, 3) := by decide +kernel
theorem dX8_isState_15 : decode cX8_isState 15 = .ok (.ireturn, 1) := by decide +kernel
theorem dX8_states_0 : decode cX8_states 0 = .ok (.aload_n 0, 1) := by decide +kernel
theorem dX8_states_1 : decode cX8_states 1 = .ok (.invokevirtual 207, 3) := by decide +kernel
theorem dX8_states_4 : decode cX8_states 4 = .ok (.aload_n 0, 1) := by decide +kernel
theorem dX8_states_5 : decode cX8_states 5 = .ok (.getfield 200, 3) := by decide +kernel
theorem dX8_states_8 : decode cX8_states 8 = .ok (.ireturn, 1) := by decide +kernel
theorem dX8_state_0 : decode cX8_state 0 = .ok (.aload_n 0, 1) := by decide +kernel
theorem dX8_state_1 : decode cX8_state 1 = .ok (.iload_n 1, 1) := by decide +kernel
theorem dX8_state_2 : decode cX8_state 2 = .ok (.invokevirtual 210, 3) := by decide +kernel
theorem dX8_state_5 : decode cX8_state 5 = .ok (.ifCond .eq 8, 3) := by decide +kernel
theorem dX8_state_8 : decode cX8_state 8 = .ok (.iload_n 2, 1) := by decide +kernel
theorem dX8_state_9 : decode cX8_state 9 = .ok (.iconst (-1), 1) := by decide +kernel
theorem dX8_state_10 : decode cX8_state 10 = .ok (.if_icmp .ge 5, 3) := by decide +kernel
theorem dX8_state_13 : decode cX8_state 13 = .ok (.iconst (-1), 1) := by decide +kernel
theorem dX8_state_14 : decode cX8_state 14 = .ok (.ireturn, 1) := by decide +kernel
theorem dX8_state_15 : decode cX8_state 15 = .ok (.iload_n 2, 1) := by decide +kernel
theorem dX8_state_16 : decode cX8_state 16 = .ok (.iconst (-1), 1) := by decide +kernel
theorem dX8_state_17 : decode cX8_state 17 = .ok (.if_icmp .ne 12, 3) := by decide +kernel
theorem dX8_state_20 : decode cX8_state 20 = .ok (.aload_n 0, 1) := by decide +kernel
theorem dX8_state_21 : decode cX8_state 21 = .ok (.getfield 52, 3) := by decide +kernel
theorem dX8_state_24 : decode cX8_state 24 = .ok (.iload_n 1, 1) := by decide +kernel
theorem dX8_state_25 : decode cX8_state 25 = .ok (.iaload, 1) := by decide +kernel
theorem dX8_state_26 : decode cX8_state 26 = .ok (.goto 28, 3) := by decide +kernel
theorem dX8_state_29 : decode cX8_state 29 = .ok (.iload_n 2, 1) := by decide +kernel
theorem dX8_state_30 : decode cX8_state 30 = .ok (.aload_n 0, 1) := by decide +kernel
theorem dX8_state_31 : decode cX8_state 31 = .ok (.getfield 52, 3) := by decide +kernel
theorem dX8_state_34 : decode cX8_state 34 = .ok (.iload_n 1, 1) := by decide +kernel
theorem dX8_state_35 : decode cX8_state 35 = .ok (.iaload, 1) := by decide +kernel
theorem dX8_state_36 : decode cX8_state 36 = .ok (.if_icmp .ge 16, 3) := by decide +kernel
theorem dX8_state_39 : decode cX8_state 39 = .ok (.aload_n 0, 1) := by decide +kernel
theorem dX8_state_40 : decode cX8_state 40 = .ok (.getfield 55, 3) := by decide +kernel
theorem dX8_state_43 : decode cX8_state 43 = .ok (.iconst 3, 1) := by decide +kernel
theorem dX8_state_44 : decode cX8_state 44 = .ok (.iload_n 1, 1) := by decide +kernel
theorem dX8_state_45 : decode cX8_state 45 = .ok (.imul, 1) := by decide +kernel
theorem dX8_state_46 : decode cX8_state 46 = .ok (.iload_n 2, 1) := by decide +kernel
theorem dX8_state_47 : decode cX8_state 47 = .ok (.iadd, 1) := by decide +kernel
theorem dX8_state_48 : decode cX8_state 48 = .ok (.iaload, 1) := by decide +kernel
theorem dX8_state_49 : decode cX8_state 49 = .ok (.goto 5, 3) := by decide +kernel
theorem dX8_state_52 : decode cX8_state 52 = .ok (.bipush (-4), 2) := by decide +kernel
theorem dX8_state_54 : decode cX8_state 54 = .ok (.ireturn, 1) := by decide +kernel
theorem dX8_stateOf_0 : decode cX8_stateOf 0 = .ok (.iconst 0, 1) := by decide +kernel
theorem dX8_stateOf_1 : decode cX8_stateOf 1 = .ok (.istore 5, 2) := by decide +kernel
theorem dX8_stateOf_3 : decode cX8_stateOf 3 = .ok (.aload_n 0, 1) := by decide +kernel
theorem dX8_stateOf_4 : decode cX8_stateOf 4 = .ok (.getfield 52, 3) := by decide +kernel
theorem dX8_stateOf_7 : decode cX8_stateOf 7 = .ok (.iload 5, 2) := by decide +kernel
theorem dX8_stateOf_9 : decode cX8_stateOf 9 = .ok (.iaload, 1) := by decide +kernel
theorem dX8_stateOf_10 : decode cX8_stateOf 10 = .ok (.iload_n 1, 1) := by decide +kernel
theorem dX8_stateOf_11 : decode cX8_stateOf 11 = .ok (.if_icmp .ne 61, 3) := by decide +kernel
theorem dX8_stateOf_14 : decode cX8_stateOf 14 = .ok (.iload_n 1, 1) := by decide +kernel
theorem dX8_stateOf_15 : decode cX8_stateOf 15 = .ok (.ifCond .le 16, 3) := by decide +kernel
theorem dX8_stateOf_18 : decode cX8_stateOf 18 = .ok (.aload_n 0, 1) := by decide +kernel
theorem dX8_stateOf_19 : decode cX8_stateOf 19 = .ok (.getfield 55, 3) := by decide +kernel
theorem dX8_stateOf_22 : decode cX8_stateOf 22 = .ok (.iconst 3, 1) := by decide +kernel
theorem dX8_stateOf_23 : decode cX8_stateOf 23 = .ok (.iload 5, 2) := by decide +kernel
theorem dX8_stateOf_25 : decode cX8_stateOf 25 = .ok (.imul, 1) := by decide +kernel
theorem dX8_stateOf_26 : decode cX8_stateOf 26 = .ok (.iaload, 1) := by decide +kernel
theorem dX8_stateOf_27 : decode cX8_stateOf 27 = .ok (.iload_n 2, 1) := by decide +kernel
theorem dX8_stateOf_28 : decode cX8_stateOf 28 = .ok (.if_icmp .ne 44, 3) := by decide +kernel
theorem dX8_stateOf_31 : decode cX8_stateOf 31 = .ok (.iload_n 1, 1) := by decide +kernel
theorem dX8_stateOf_32 : decode cX8_stateOf 32 = .ok (.iconst 1, 1) := by decide +kernel
theorem dX8_stateOf_33 : decode cX8_stateOf 33 = .ok (.if_icmp .le 18, 3) := by decide +kernel
theorem dX8_stateOf_36 : decode cX8_stateOf 36 = .ok (.aload_n 0, 1) := by decide +kernel
theorem dX8_stateOf_37 : decode cX8_stateOf 37 = .ok (.getfield 55, 3) := by decide +kernel
theorem dX8_stateOf_40 : decode cX8_stateOf 40 = .ok (.iconst 3, 1) := by decide +kernel
theorem dX8_stateOf_41 : decode cX8_stateOf 41 = .ok (.iload 5, 2) := by decide +kernel
theorem dX8_stateOf_43 : decode cX8_stateOf 43 = .ok (.imul, 1) := by decide +kernel
theorem dX8_stateOf_44 : decode cX8_stateOf 44 = .ok (.iconst 1, 1) := by decide +kernel
theorem dX8_stateOf_45 : decode cX8_stateOf 45 = .ok (.iadd, 1) := by decide +kernel
theorem dX8_stateOf_46 : decode cX8_stateOf 46 = .ok (.iaload, 1) := by decide +kernel
theorem dX8_stateOf_47 : decode cX8_stateOf 47 = .ok (.iload_n 3, 1) := by decide +kernel
theorem dX8_stateOf_48 : decode cX8_stateOf 48 = .ok (.if_icmp .ne 24, 3) := by decide +kernel
theorem dX8_stateOf_51 : decode cX8_stateOf 51 = .ok (.iload_n 1, 1) := by decide +kernel
theorem dX8_stateOf_52 : decode cX8_stateOf 52 = .ok (.iconst 2, 1) := by decide +kernel
theorem dX8_stateOf_53 : decode cX8_stateOf 53 = .ok (.if_icmp .le 25, 3) := by decide +kernel
theorem dX8_stateOf_56 : decode cX8_stateOf 56 = .ok (.aload_n 0, 1) := by decide +kernel
theorem dX8_stateOf_57 : decode cX8_stateOf 57 = .ok (.getfield 55, 3) := by decide +kernel
theorem dX8_stateOf_60 : decode cX8_stateOf 60 = .ok (.iconst 3, 1) := by decide +kernel
theorem dX8_stateOf_61 : decode cX8_stateOf 61 = .ok (.iload 5, 2) := by decide +kernel
theorem dX8_stateOf_63 : decode cX8_stateOf 63 = .ok (.imul, 1) := by decide +kernel
theorem dX8_stateOf_64 : decode cX8_stateOf 64 = .ok (.iconst 2, 1) := by decide +kernel
theorem dX8_stateOf_65 : decode cX8_stateOf 65 = .ok (.iadd, 1) := by decide +kernel
theorem dX8_stateOf_66 : decode cX8_stateOf 66 = .ok (.iaload, 1) := by decide +kernel
theorem dX8_stateOf_67 : decode cX8_stateOf 67 = .ok (.iload 4, 2) := by decide +kernel
theorem dX8_stateOf_69 : decode cX8_stateOf 69 = .ok (.if_icmp .eq 9, 3) := by decide +kernel
theorem dX8_stateOf_72 : decode cX8_stateOf 72 = .ok (.iinc 5 1, 3) := by decide +kernel
theorem dX8_stateOf_75 : decode cX8_stateOf 75 = .ok (.goto (-72), 3) := by decide +kernel
theorem dX8_stateOf_78 : decode cX8_stateOf 78 = .ok (.iload 5, 2) := by decide +kernel
theorem dX8_stateOf_80 : decode cX8_stateOf 80 = .ok (.ireturn, 1) := by decide +kernel
theorem dX8_freeIn_0 : decode cX8_freeIn 0 = .ok (.iconst 0, 1) := by decide +kernel
theorem dX8_freeIn_1 : decode cX8_freeIn 1 = .ok (.istore_n 2, 1) := by decide +kernel
theorem dX8_freeIn_2 : decode cX8_freeIn 2 = .ok (.iconst 0, 1) := by decide +kernel
theorem dX8_freeIn_3 : decode cX8_freeIn 3 = .ok (.istore_n 3, 1) := by decide +kernel
theorem dX8_freeIn_4 : decode cX8_freeIn 4 = .ok (.iload_n 3, 1) := by decide +kernel
theorem dX8_freeIn_5 : decode cX8_freeIn 5 = .ok (.iload_n 1, 1) := by decide +kernel
theorem dX8_freeIn_6 : decode cX8_freeIn 6 = .ok (.if_icmp .ge 43, 3) := by decide +kernel
theorem dX8_freeIn_9 : decode cX8_freeIn 9 = .ok (.iconst 0, 1) := by decide +kernel
theorem dX8_freeIn_10 : decode cX8_freeIn 10 = .ok (.istore 4, 2) := by decide +kernel
theorem dX8_freeIn_12 : decode cX8_freeIn 12 = .ok (.iload 4, 2) := by decide +kernel
theorem dX8_freeIn_14 : decode cX8_freeIn 14 = .ok (.iload_n 1, 1) := by decide +kernel
theorem dX8_freeIn_15 : decode cX8_freeIn 15 = .ok (.if_icmp .ge 28, 3) := by decide +kernel
theorem dX8_freeIn_18 : decode cX8_freeIn 18 = .ok (.iload_n 2, 1) := by decide +kernel
theorem dX8_freeIn_19 : decode cX8_freeIn 19 = .ok (.aload_n 0, 1) := by decide +kernel
theorem dX8_freeIn_20 : decode cX8_freeIn 20 = .ok (.getfield 58, 3) := by decide +kernel
theorem dX8_freeIn_23 : decode cX8_freeIn 23 = .ok (.iload 4, 2) := by decide +kernel
theorem dX8_freeIn_25 : decode cX8_freeIn 25 = .ok (.iaload, 1) := by decide +kernel
theorem dX8_freeIn_26 : decode cX8_freeIn 26 = .ok (.iload_n 2, 1) := by decide +kernel
theorem dX8_freeIn_27 : decode cX8_freeIn 27 = .ok (.if_icmp .ne 7, 3) := by decide +kernel
theorem dX8_freeIn_30 : decode cX8_freeIn 30 = .ok (.iconst 1, 1) := by decide +kernel
theorem dX8_freeIn_31 : decode cX8_freeIn 31 = .ok (.goto 4, 3) := by decide +kernel
theorem dX8_freeIn_34 : decode cX8_freeIn 34 = .ok (.iconst 0, 1) := by decide +kernel
theorem dX8_freeIn_35 : decode cX8_freeIn 35 = .ok (.iadd, 1) := by decide +kernel
theorem dX8_freeIn_36 : decode cX8_freeIn 36 = .ok (.istore_n 2, 1) := by decide +kernel
theorem dX8_freeIn_37 : decode cX8_freeIn 37 = .ok (.iinc 4 1, 3) := by decide +kernel
theorem dX8_freeIn_40 : decode cX8_freeIn 40 = .ok (.goto (-28), 3) := by decide +kernel
theorem dX8_freeIn_43 : decode cX8_freeIn 43 = .ok (.iinc 3 1, 3) := by decide +kernel
theorem dX8_freeIn_46 : decode cX8_freeIn 46 = .ok (.goto (-42), 3) := by decide +kernel
theorem dX8_freeIn_49 : decode cX8_freeIn 49 = .ok (.iload_n 2, 1) := by decide +kernel
theorem dX8_freeIn_50 : decode cX8_freeIn 50 = .ok (.ireturn, 1) := by decide +kernel
theorem dX8_leavesRest_0 : decode cX8_leavesRest 0 = .ok (.iload_n 2, 1) := by decide +kernel
theorem dX8_leavesRest_1 : decode cX8_leavesRest 1 = .ok (.ifCond .ne 33, 3) := by decide +kernel
theorem dX8_leavesRest_4 : decode cX8_leavesRest 4 = .ok (.aload_n 0, 1) := by decide +kernel
theorem dX8_leavesRest_5 : decode cX8_leavesRest 5 = .ok (.aload_n 0, 1) := by decide +kernel
theorem dX8_leavesRest_6 : decode cX8_leavesRest 6 = .ok (.iload_n 1, 1) := by decide +kernel
theorem dX8_leavesRest_7 : decode cX8_leavesRest 7 = .ok (.aload_n 0, 1) := by decide +kernel
theorem dX8_leavesRest_8 : decode cX8_leavesRest 8 = .ok (.getfield 58, 3) := by decide +kernel
theorem dX8_leavesRest_11 : decode cX8_leavesRest 11 = .ok (.iconst 0, 1) := by decide +kernel
theorem dX8_leavesRest_12 : decode cX8_leavesRest 12 = .ok (.iaload, 1) := by decide +kernel
theorem dX8_leavesRest_13 : decode cX8_leavesRest 13 = .ok (.aload_n 0, 1) := by decide +kernel
theorem dX8_leavesRest_14 : decode cX8_leavesRest 14 = .ok (.getfield 58, 3) := by decide +kernel
theorem dX8_leavesRest_17 : decode cX8_leavesRest 17 = .ok (.iconst 1, 1) := by decide +kernel
theorem dX8_leavesRest_18 : decode cX8_leavesRest 18 = .ok (.iaload, 1) := by decide +kernel
theorem dX8_leavesRest_19 : decode cX8_leavesRest 19 = .ok (.aload_n 0, 1) := by decide +kernel
theorem dX8_leavesRest_20 : decode cX8_leavesRest 20 = .ok (.getfield 58, 3) := by decide +kernel
theorem dX8_leavesRest_23 : decode cX8_leavesRest 23 = .ok (.iconst 2, 1) := by decide +kernel
theorem dX8_leavesRest_24 : decode cX8_leavesRest 24 = .ok (.iaload, 1) := by decide +kernel
theorem dX8_leavesRest_25 : decode cX8_leavesRest 25 = .ok (.invokevirtual 213, 3) := by decide +kernel
theorem dX8_leavesRest_28 : decode cX8_leavesRest 28 = .ok (.putfield 217, 3) := by decide +kernel
theorem dX8_leavesRest_31 : decode cX8_leavesRest 31 = .ok (.goto 31, 3) := by decide +kernel
theorem dX8_leavesRest_34 : decode cX8_leavesRest 34 = .ok (.aload_n 0, 1) := by decide +kernel
theorem dX8_leavesRest_35 : decode cX8_leavesRest 35 = .ok (.aload_n 0, 1) := by decide +kernel
theorem dX8_leavesRest_36 : decode cX8_leavesRest 36 = .ok (.iload_n 1, 1) := by decide +kernel
theorem dX8_leavesRest_37 : decode cX8_leavesRest 37 = .ok (.iconst 1, 1) := by decide +kernel
theorem dX8_leavesRest_38 : decode cX8_leavesRest 38 = .ok (.iadd, 1) := by decide +kernel
theorem dX8_leavesRest_39 : decode cX8_leavesRest 39 = .ok (.aload_n 0, 1) := by decide +kernel
theorem dX8_leavesRest_40 : decode cX8_leavesRest 40 = .ok (.iload_n 1, 1) := by decide +kernel
theorem dX8_leavesRest_41 : decode cX8_leavesRest 41 = .ok (.invokevirtual 220, 3) := by decide +kernel
theorem dX8_leavesRest_44 : decode cX8_leavesRest 44 = .ok (.aload_n 0, 1) := by decide +kernel
theorem dX8_leavesRest_45 : decode cX8_leavesRest 45 = .ok (.getfield 58, 3) := by decide +kernel
theorem dX8_leavesRest_48 : decode cX8_leavesRest 48 = .ok (.iconst 0, 1) := by decide +kernel
theorem dX8_leavesRest_49 : decode cX8_leavesRest 49 = .ok (.iaload, 1) := by decide +kernel
theorem dX8_leavesRest_50 : decode cX8_leavesRest 50 = .ok (.aload_n 0, 1) := by decide +kernel
theorem dX8_leavesRest_51 : decode cX8_leavesRest 51 = .ok (.getfield 58, 3) := by decide +kernel
theorem dX8_leavesRest_54 : decode cX8_leavesRest 54 = .ok (.iconst 1, 1) := by decide +kernel
theorem dX8_leavesRest_55 : decode cX8_leavesRest 55 = .ok (.iaload, 1) := by decide +kernel
theorem dX8_leavesRest_56 : decode cX8_leavesRest 56 = .ok (.invokevirtual 213, 3) := by decide +kernel
theorem dX8_leavesRest_59 : decode cX8_leavesRest 59 = .ok (.putfield 217, 3) := by decide +kernel
theorem dX8_leavesRest_62 : decode cX8_leavesRest 62 = .ok (.return_, 1) := by decide +kernel
theorem dX8_turnsRegisters_0 : decode cX8_turnsRegisters 0 = .ok (.aload_n 0, 1) := by decide +kernel
theorem dX8_turnsRegisters_1 : decode cX8_turnsRegisters 1 = .ok (.getfield 55, 3) := by decide +kernel
theorem dX8_turnsRegisters_4 : decode cX8_turnsRegisters 4 = .ok (.iconst 3, 1) := by decide +kernel
theorem dX8_turnsRegisters_5 : decode cX8_turnsRegisters 5 = .ok (.iload_n 2, 1) := by decide +kernel
theorem dX8_turnsRegisters_6 : decode cX8_turnsRegisters 6 = .ok (.imul, 1) := by decide +kernel
theorem dX8_turnsRegisters_7 : decode cX8_turnsRegisters 7 = .ok (.iaload, 1) := by decide +kernel
theorem dX8_turnsRegisters_8 : decode cX8_turnsRegisters 8 = .ok (.istore_n 3, 1) := by decide +kernel
theorem dX8_turnsRegisters_9 : decode cX8_turnsRegisters 9 = .ok (.aload_n 0, 1) := by decide +kernel
theorem dX8_turnsRegisters_10 : decode cX8_turnsRegisters 10 = .ok (.getfield 55, 3) := by decide +kernel
theorem dX8_turnsRegisters_13 : decode cX8_turnsRegisters 13 = .ok (.iconst 3, 1) := by decide +kernel
theorem dX8_turnsRegisters_14 : decode cX8_turnsRegisters 14 = .ok (.iload_n 2, 1) := by decide +kernel
theorem dX8_turnsRegisters_15 : decode cX8_turnsRegisters 15 = .ok (.imul, 1) := by decide +kernel
theorem dX8_turnsRegisters_16 : decode cX8_turnsRegisters 16 = .ok (.iconst 1, 1) := by decide +kernel
theorem dX8_turnsRegisters_17 : decode cX8_turnsRegisters 17 = .ok (.iadd, 1) := by decide +kernel
theorem dX8_turnsRegisters_18 : decode cX8_turnsRegisters 18 = .ok (.iaload, 1) := by decide +kernel
theorem dX8_turnsRegisters_19 : decode cX8_turnsRegisters 19 = .ok (.istore 4, 2) := by decide +kernel
theorem dX8_turnsRegisters_21 : decode cX8_turnsRegisters 21 = .ok (.aload_n 0, 1) := by decide +kernel
theorem dX8_turnsRegisters_22 : decode cX8_turnsRegisters 22 = .ok (.getfield 55, 3) := by decide +kernel
theorem dX8_turnsRegisters_25 : decode cX8_turnsRegisters 25 = .ok (.iconst 3, 1) := by decide +kernel
theorem dX8_turnsRegisters_26 : decode cX8_turnsRegisters 26 = .ok (.iload_n 2, 1) := by decide +kernel
theorem dX8_turnsRegisters_27 : decode cX8_turnsRegisters 27 = .ok (.imul, 1) := by decide +kernel
theorem dX8_turnsRegisters_28 : decode cX8_turnsRegisters 28 = .ok (.iconst 2, 1) := by decide +kernel
theorem dX8_turnsRegisters_29 : decode cX8_turnsRegisters 29 = .ok (.iadd, 1) := by decide +kernel
theorem dX8_turnsRegisters_30 : decode cX8_turnsRegisters 30 = .ok (.iaload, 1) := by decide +kernel
theorem dX8_turnsRegisters_31 : decode cX8_turnsRegisters 31 = .ok (.istore 5, 2) := by decide +kernel
theorem dX8_turnsRegisters_33 : decode cX8_turnsRegisters 33 = .ok (.aload_n 0, 1) := by decide +kernel
theorem dX8_turnsRegisters_34 : decode cX8_turnsRegisters 34 = .ok (.iload_n 1, 1) := by decide +kernel
theorem dX8_turnsRegisters_35 : decode cX8_turnsRegisters 35 = .ok (.bipush 120, 2) := by decide +kernel
theorem dX8_turnsRegisters_37 : decode cX8_turnsRegisters 37 = .ok (.if_icmp .ne 21, 3) := by decide +kernel
theorem dX8_turnsRegisters_40 : decode cX8_turnsRegisters 40 = .ok (.aload_n 0, 1) := by decide +kernel
theorem dX8_turnsRegisters_41 : decode cX8_turnsRegisters 41 = .ok (.aload_n 0, 1) := by decide +kernel
theorem dX8_turnsRegisters_42 : decode cX8_turnsRegisters 42 = .ok (.getfield 52, 3) := by decide +kernel
theorem dX8_turnsRegisters_45 : decode cX8_turnsRegisters 45 = .ok (.iload_n 2, 1) := by decide +kernel
theorem dX8_turnsRegisters_46 : decode cX8_turnsRegisters 46 = .ok (.iaload, 1) := by decide +kernel
theorem dX8_turnsRegisters_47 : decode cX8_turnsRegisters 47 = .ok (.iload 4, 2) := by decide +kernel
theorem dX8_turnsRegisters_49 : decode cX8_turnsRegisters 49 = .ok (.iload_n 3, 1) := by decide +kernel
theorem dX8_turnsRegisters_50 : decode cX8_turnsRegisters 50 = .ok (.iload 5, 2) := by decide +kernel
theorem dX8_turnsRegisters_52 : decode cX8_turnsRegisters 52 = .ok (.invokevirtual 213, 3) := by decide +kernel
theorem dX8_turnsRegisters_55 : decode cX8_turnsRegisters 55 = .ok (.goto 13, 3) := by decide +kernel
theorem dX8_turnsRegisters_58 : decode cX8_turnsRegisters 58 = .ok (.aload_n 0, 1) := by decide +kernel
theorem dX8_turnsRegisters_59 : decode cX8_turnsRegisters 59 = .ok (.iconst 3, 1) := by decide +kernel
theorem dX8_turnsRegisters_60 : decode cX8_turnsRegisters 60 = .ok (.iload 5, 2) := by decide +kernel
theorem dX8_turnsRegisters_62 : decode cX8_turnsRegisters 62 = .ok (.iload_n 3, 1) := by decide +kernel
theorem dX8_turnsRegisters_63 : decode cX8_turnsRegisters 63 = .ok (.iload 4, 2) := by decide +kernel
theorem dX8_turnsRegisters_65 : decode cX8_turnsRegisters 65 = .ok (.invokevirtual 213, 3) := by decide +kernel
theorem dX8_turnsRegisters_68 : decode cX8_turnsRegisters 68 = .ok (.putfield 217, 3) := by decide +kernel
theorem dX8_turnsRegisters_71 : decode cX8_turnsRegisters 71 = .ok (.return_, 1) := by decide +kernel
theorem dX8_hasVersion_0 : decode cX8_hasVersion 0 = .ok (.iload_n 1, 1) := by decide +kernel
theorem dX8_hasVersion_1 : decode cX8_hasVersion 1 = .ok (.invokestatic 152, 3) := by decide +kernel
theorem dX8_hasVersion_4 : decode cX8_hasVersion 4 = .ok (.istore_n 3, 1) := by decide +kernel
theorem dX8_hasVersion_5 : decode cX8_hasVersion 5 = .ok (.iload_n 1, 1) := by decide +kernel
theorem dX8_hasVersion_6 : decode cX8_hasVersion 6 = .ok (.invokestatic 155, 3) := by decide +kernel
theorem dX8_hasVersion_9 : decode cX8_hasVersion 9 = .ok (.istore 4, 2) := by decide +kernel
theorem dX8_hasVersion_11 : decode cX8_hasVersion 11 = .ok (.aload_n 0, 1) := by decide +kernel
theorem dX8_hasVersion_12 : decode cX8_hasVersion 12 = .ok (.getfield 52, 3) := by decide +kernel
theorem dX8_hasVersion_15 : decode cX8_hasVersion 15 = .ok (.iload_n 2, 1) := by decide +kernel
theorem dX8_hasVersion_16 : decode cX8_hasVersion 16 = .ok (.iaload, 1) := by decide +kernel
theorem dX8_hasVersion_17 : decode cX8_hasVersion 17 = .ok (.istore 5, 2) := by decide +kernel
theorem dX8_hasVersion_19 : decode cX8_hasVersion 19 = .ok (.aload_n 0, 1) := by decide +kernel
theorem dX8_hasVersion_20 : decode cX8_hasVersion 20 = .ok (.iconst 0, 1) := by decide +kernel
theorem dX8_hasVersion_21 : decode cX8_hasVersion 21 = .ok (.putfield 223, 3) := by decide +kernel
theorem dX8_hasVersion_24 : decode cX8_hasVersion 24 = .ok (.aload_n 0, 1) := by decide +kernel
theorem dX8_hasVersion_25 : decode cX8_hasVersion 25 = .ok (.iload_n 1, 1) := by decide +kernel
theorem dX8_hasVersion_26 : decode cX8_hasVersion 26 = .ok (.bipush 100, 2) := by decide +kernel
theorem dX8_hasVersion_28 : decode cX8_hasVersion 28 = .ok (.if_icmp .eq 9, 3) := by decide +kernel
theorem dX8_hasVersion_31 : decode cX8_hasVersion 31 = .ok (.iload_n 1, 1) := by decide +kernel
theorem dX8_hasVersion_32 : decode cX8_hasVersion 32 = .ok (.bipush 111, 2) := by decide +kernel
theorem dX8_hasVersion_34 : decode cX8_hasVersion 34 = .ok (.if_icmp .ne 12, 3) := by decide +kernel
theorem dX8_hasVersion_37 : decode cX8_hasVersion 37 = .ok (.aload_n 0, 1) := by decide +kernel
theorem dX8_hasVersion_38 : decode cX8_hasVersion 38 = .ok (.getfield 7, 3) := by decide +kernel
theorem dX8_hasVersion_41 : decode cX8_hasVersion 41 = .ok (.iconst 1, 1) := by decide +kernel
theorem dX8_hasVersion_42 : decode cX8_hasVersion 42 = .ok (.iaload, 1) := by decide +kernel
theorem dX8_hasVersion_43 : decode cX8_hasVersion 43 = .ok (.goto 4, 3) := by decide +kernel
theorem dX8_hasVersion_46 : decode cX8_hasVersion 46 = .ok (.iconst 0, 1) := by decide +kernel
theorem dX8_hasVersion_47 : decode cX8_hasVersion 47 = .ok (.putfield 226, 3) := by decide +kernel
theorem dX8_hasVersion_50 : decode cX8_hasVersion 50 = .ok (.iload 5, 2) := by decide +kernel
theorem dX8_hasVersion_52 : decode cX8_hasVersion 52 = .ok (.iload_n 3, 1) := by decide +kernel
theorem dX8_hasVersion_53 : decode cX8_hasVersion 53 = .ok (.if_icmp .lt 131, 3) := by decide +kernel
theorem dX8_hasVersion_56 : decode cX8_hasVersion 56 = .ok (.aload_n 0, 1) := by decide +kernel
theorem dX8_hasVersion_57 : decode cX8_hasVersion 57 = .ok (.getfield 7, 3) := by decide +kernel
theorem dX8_hasVersion_60 : decode cX8_hasVersion 60 = .ok (.iconst 0, 1) := by decide +kernel
theorem dX8_hasVersion_61 : decode cX8_hasVersion 61 = .ok (.iaload, 1) := by decide +kernel
theorem dX8_hasVersion_62 : decode cX8_hasVersion 62 = .ok (.iload 5, 2) := by decide +kernel
theorem dX8_hasVersion_64 : decode cX8_hasVersion 64 = .ok (.iload_n 3, 1) := by decide +kernel
theorem dX8_hasVersion_65 : decode cX8_hasVersion 65 = .ok (.isub, 1) := by decide +kernel
theorem dX8_hasVersion_66 : decode cX8_hasVersion 66 = .ok (.iload 4, 2) := by decide +kernel
theorem dX8_hasVersion_68 : decode cX8_hasVersion 68 = .ok (.iadd, 1) := by decide +kernel
theorem dX8_hasVersion_69 : decode cX8_hasVersion 69 = .ok (.if_icmp .lt 115, 3) := by decide +kernel
theorem dX8_hasVersion_72 : decode cX8_hasVersion 72 = .ok (.iload_n 1, 1) := by decide +kernel
theorem dX8_hasVersion_73 : decode cX8_hasVersion 73 = .ok (.bipush 100, 2) := by decide +kernel
theorem dX8_hasVersion_75 : decode cX8_hasVersion 75 = .ok (.if_icmp .eq 9, 3) := by decide +kernel
theorem dX8_hasVersion_78 : decode cX8_hasVersion 78 = .ok (.iload_n 1, 1) := by decide +kernel
theorem dX8_hasVersion_79 : decode cX8_hasVersion 79 = .ok (.bipush 111, 2) := by decide +kernel
theorem dX8_hasVersion_81 : decode cX8_hasVersion 81 = .ok (.if_icmp .ne 7, 3) := by decide +kernel
theorem dX8_hasVersion_84 : decode cX8_hasVersion 84 = .ok (.iconst 0, 1) := by decide +kernel
theorem dX8_hasVersion_85 : decode cX8_hasVersion 85 = .ok (.goto 4, 3) := by decide +kernel
theorem dX8_hasVersion_88 : decode cX8_hasVersion 88 = .ok (.iload_n 3, 1) := by decide +kernel
theorem dX8_hasVersion_89 : decode cX8_hasVersion 89 = .ok (.istore 6, 2) := by decide +kernel
theorem dX8_hasVersion_91 : decode cX8_hasVersion 91 = .ok (.iconst 0, 1) := by decide +kernel
theorem dX8_hasVersion_92 : decode cX8_hasVersion 92 = .ok (.istore 7, 2) := by decide +kernel
theorem dX8_hasVersion_94 : decode cX8_hasVersion 94 = .ok (.iload 7, 2) := by decide +kernel
theorem dX8_hasVersion_96 : decode cX8_hasVersion 96 = .ok (.iconst 3, 1) := by decide +kernel
theorem dX8_hasVersion_97 : decode cX8_hasVersion 97 = .ok (.if_icmp .ge 45, 3) := by decide +kernel
theorem dX8_hasVersion_100 : decode cX8_hasVersion 100 = .ok (.aload_n 0, 1) := by decide +kernel
theorem dX8_hasVersion_101 : decode cX8_hasVersion 101 = .ok (.getfield 58, 3) := by decide +kernel
theorem dX8_hasVersion_104 : decode cX8_hasVersion 104 = .ok (.iload 7, 2) := by decide +kernel
theorem dX8_hasVersion_106 : decode cX8_hasVersion 106 = .ok (.iload 7, 2) := by decide +kernel
theorem dX8_hasVersion_108 : decode cX8_hasVersion 108 = .ok (.iload 6, 2) := by decide +kernel
theorem dX8_hasVersion_110 : decode cX8_hasVersion 110 = .ok (.iadd, 1) := by decide +kernel
theorem dX8_hasVersion_111 : decode cX8_hasVersion 111 = .ok (.iload 5, 2) := by decide +kernel
theorem dX8_hasVersion_113 : decode cX8_hasVersion 113 = .ok (.if_icmp .ge 20, 3) := by decide +kernel
theorem dX8_hasVersion_116 : decode cX8_hasVersion 116 = .ok (.aload_n 0, 1) := by decide +kernel
theorem dX8_hasVersion_117 : decode cX8_hasVersion 117 = .ok (.getfield 55, 3) := by decide +kernel
theorem dX8_hasVersion_120 : decode cX8_hasVersion 120 = .ok (.iconst 3, 1) := by decide +kernel
theorem dX8_hasVersion_121 : decode cX8_hasVersion 121 = .ok (.iload_n 2, 1) := by decide +kernel
theorem dX8_hasVersion_122 : decode cX8_hasVersion 122 = .ok (.imul, 1) := by decide +kernel
theorem dX8_hasVersion_123 : decode cX8_hasVersion 123 = .ok (.iload 7, 2) := by decide +kernel
theorem dX8_hasVersion_125 : decode cX8_hasVersion 125 = .ok (.iadd, 1) := by decide +kernel
theorem dX8_hasVersion_126 : decode cX8_hasVersion 126 = .ok (.iload 6, 2) := by decide +kernel
theorem dX8_hasVersion_128 : decode cX8_hasVersion 128 = .ok (.iadd, 1) := by decide +kernel
theorem dX8_hasVersion_129 : decode cX8_hasVersion 129 = .ok (.iaload, 1) := by decide +kernel
theorem dX8_hasVersion_130 : decode cX8_hasVersion 130 = .ok (.goto 5, 3) := by decide +kernel
theorem dX8_hasVersion_133 : decode cX8_hasVersion 133 = .ok (.bipush (-4), 2) := by decide +kernel
theorem dX8_hasVersion_135 : decode cX8_hasVersion 135 = .ok (.iastore, 1) := by decide +kernel
theorem dX8_hasVersion_136 : decode cX8_hasVersion 136 = .ok (.iinc 7 1, 3) := by decide +kernel
theorem dX8_hasVersion_139 : decode cX8_hasVersion 139 = .ok (.goto (-45), 3) := by decide +kernel
theorem dX8_hasVersion_142 : decode cX8_hasVersion 142 = .ok (.iload_n 1, 1) := by decide +kernel
theorem dX8_hasVersion_143 : decode cX8_hasVersion 143 = .ok (.bipush 120, 2) := by decide +kernel
theorem dX8_hasVersion_145 : decode cX8_hasVersion 145 = .ok (.if_icmp .eq 9, 3) := by decide +kernel
theorem dX8_hasVersion_148 : decode cX8_hasVersion 148 = .ok (.iload_n 1, 1) := by decide +kernel
theorem dX8_hasVersion_149 : decode cX8_hasVersion 149 = .ok (.bipush 114, 2) := by decide +kernel
theorem dX8_hasVersion_151 : decode cX8_hasVersion 151 = .ok (.if_icmp .ne 12, 3) := by decide +kernel
theorem dX8_hasVersion_154 : decode cX8_hasVersion 154 = .ok (.aload_n 0, 1) := by decide +kernel
theorem dX8_hasVersion_155 : decode cX8_hasVersion 155 = .ok (.iload_n 1, 1) := by decide +kernel
theorem dX8_hasVersion_156 : decode cX8_hasVersion 156 = .ok (.iload_n 2, 1) := by decide +kernel
theorem dX8_hasVersion_157 : decode cX8_hasVersion 157 = .ok (.invokevirtual 229, 3) := by decide +kernel
theorem dX8_hasVersion_160 : decode cX8_hasVersion 160 = .ok (.goto 22, 3) := by decide +kernel
theorem dX8_hasVersion_163 : decode cX8_hasVersion 163 = .ok (.aload_n 0, 1) := by decide +kernel
theorem dX8_hasVersion_164 : decode cX8_hasVersion 164 = .ok (.iload 5, 2) := by decide +kernel
theorem dX8_hasVersion_166 : decode cX8_hasVersion 166 = .ok (.iload 6, 2) := by decide +kernel
theorem dX8_hasVersion_168 : decode cX8_hasVersion 168 = .ok (.isub, 1) := by decide +kernel
theorem dX8_hasVersion_169 : decode cX8_hasVersion 169 = .ok (.iload 4, 2) := by decide +kernel
theorem dX8_hasVersion_171 : decode cX8_hasVersion 171 = .ok (.ifCond .le 7, 3) := by decide +kernel
theorem dX8_hasVersion_174 : decode cX8_hasVersion 174 = .ok (.iconst 1, 1) := by decide +kernel
theorem dX8_hasVersion_175 : decode cX8_hasVersion 175 = .ok (.goto 4, 3) := by decide +kernel
theorem dX8_hasVersion_178 : decode cX8_hasVersion 178 = .ok (.iconst 0, 1) := by decide +kernel
theorem dX8_hasVersion_179 : decode cX8_hasVersion 179 = .ok (.invokevirtual 233, 3) := by decide +kernel
theorem dX8_hasVersion_182 : decode cX8_hasVersion 182 = .ok (.iconst 1, 1) := by decide +kernel
theorem dX8_hasVersion_183 : decode cX8_hasVersion 183 = .ok (.ireturn, 1) := by decide +kernel
theorem dX8_hasVersion_184 : decode cX8_hasVersion 184 = .ok (.aload_n 0, 1) := by decide +kernel
theorem dX8_hasVersion_185 : decode cX8_hasVersion 185 = .ok (.iload 5, 2) := by decide +kernel
theorem dX8_hasVersion_187 : decode cX8_hasVersion 187 = .ok (.ifCond .ne 13, 3) := by decide +kernel
theorem dX8_hasVersion_190 : decode cX8_hasVersion 190 = .ok (.iload_n 1, 1) := by decide +kernel
theorem dX8_hasVersion_191 : decode cX8_hasVersion 191 = .ok (.bipush 112, 2) := by decide +kernel
theorem dX8_hasVersion_193 : decode cX8_hasVersion 193 = .ok (.if_icmp .eq 7, 3) := by decide +kernel
theorem dX8_hasVersion_196 : decode cX8_hasVersion 196 = .ok (.iconst 1, 1) := by decide +kernel
theorem dX8_hasVersion_197 : decode cX8_hasVersion 197 = .ok (.goto 4, 3) := by decide +kernel
theorem dX8_hasVersion_200 : decode cX8_hasVersion 200 = .ok (.iconst 0, 1) := by decide +kernel
theorem dX8_hasVersion_201 : decode cX8_hasVersion 201 = .ok (.putfield 223, 3) := by decide +kernel
theorem dX8_hasVersion_204 : decode cX8_hasVersion 204 = .ok (.aload_n 0, 1) := by decide +kernel
theorem dX8_hasVersion_205 : decode cX8_hasVersion 205 = .ok (.aload_n 0, 1) := by decide +kernel
theorem dX8_hasVersion_206 : decode cX8_hasVersion 206 = .ok (.getfield 223, 3) := by decide +kernel
theorem dX8_hasVersion_209 : decode cX8_hasVersion 209 = .ok (.ifCond .eq 24, 3) := by decide +kernel
theorem dX8_hasVersion_212 : decode cX8_hasVersion 212 = .ok (.aload_n 0, 1) := by decide +kernel
theorem dX8_hasVersion_213 : decode cX8_hasVersion 213 = .ok (.getfield 7, 3) := by decide +kernel
theorem dX8_hasVersion_216 : decode cX8_hasVersion 216 = .ok (.iconst 2, 1) := by decide +kernel
theorem dX8_hasVersion_217 : decode cX8_hasVersion 217 = .ok (.iaload, 1) := by decide +kernel
theorem dX8_hasVersion_218 : decode cX8_hasVersion 218 = .ok (.iload_n 3, 1) := by decide +kernel
theorem dX8_hasVersion_219 : decode cX8_hasVersion 219 = .ok (.imul, 1) := by decide +kernel
theorem dX8_hasVersion_220 : decode cX8_hasVersion 220 = .ok (.aload_n 0, 1) := by decide +kernel
theorem dX8_hasVersion_221 : decode cX8_hasVersion 221 = .ok (.getfield 7, 3) := by decide +kernel
theorem dX8_hasVersion_224 : decode cX8_hasVersion 224 = .ok (.iconst 3, 1) := by decide +kernel
theorem dX8_hasVersion_225 : decode cX8_hasVersion 225 = .ok (.iaload, 1) := by decide +kernel
theorem dX8_hasVersion_226 : decode cX8_hasVersion 226 = .ok (.iload 4, 2) := by decide +kernel
theorem dX8_hasVersion_228 : decode cX8_hasVersion 228 = .ok (.imul, 1) := by decide +kernel
theorem dX8_hasVersion_229 : decode cX8_hasVersion 229 = .ok (.iadd, 1) := by decide +kernel
theorem dX8_hasVersion_230 : decode cX8_hasVersion 230 = .ok (.goto 4, 3) := by decide +kernel
theorem dX8_hasVersion_233 : decode cX8_hasVersion 233 = .ok (.iconst 0, 1) := by decide +kernel
theorem dX8_hasVersion_234 : decode cX8_hasVersion 234 = .ok (.putfield 226, 3) := by decide +kernel
theorem dX8_hasVersion_237 : decode cX8_hasVersion 237 = .ok (.aload_n 0, 1) := by decide +kernel
theorem dX8_hasVersion_238 : decode cX8_hasVersion 238 = .ok (.iconst 0, 1) := by decide +kernel
theorem dX8_hasVersion_239 : decode cX8_hasVersion 239 = .ok (.putfield 217, 3) := by decide +kernel
theorem dX8_hasVersion_242 : decode cX8_hasVersion 242 = .ok (.iload 5, 2) := by decide +kernel
theorem dX8_hasVersion_244 : decode cX8_hasVersion 244 = .ok (.ifCond .ne 7, 3) := by decide +kernel
theorem dX8_hasVersion_247 : decode cX8_hasVersion 247 = .ok (.iconst 1, 1) := by decide +kernel
theorem dX8_hasVersion_248 : decode cX8_hasVersion 248 = .ok (.goto 4, 3) := by decide +kernel
theorem dX8_hasVersion_251 : decode cX8_hasVersion 251 = .ok (.iconst 0, 1) := by decide +kernel
theorem dX8_hasVersion_252 : decode cX8_hasVersion 252 = .ok (.ireturn, 1) := by decide +kernel
theorem dX8_version_0 : decode cX8_version 0 = .ok (.aload_n 0, 1) := by decide +kernel
theorem dX8_version_1 : decode cX8_version 1 = .ok (.iload_n 1, 1) := by decide +kernel
theorem dX8_version_2 : decode cX8_version 2 = .ok (.invokevirtual 185, 3) := by decide +kernel
theorem dX8_version_5 : decode cX8_version 5 = .ok (.ifCond .eq 20, 3) := by decide +kernel
theorem dX8_version_8 : decode cX8_version 8 = .ok (.aload_n 0, 1) := by decide +kernel
theorem dX8_version_9 : decode cX8_version 9 = .ok (.iload_n 2, 1) := by decide +kernel
theorem dX8_version_10 : decode cX8_version 10 = .ok (.invokevirtual 210, 3) := by decide +kernel
theorem dX8_version_13 : decode cX8_version 13 = .ok (.ifCond .eq 12, 3) := by decide +kernel
theorem dX8_version_16 : decode cX8_version 16 = .ok (.iload_n 3, 1) := by decide +kernel
theorem dX8_version_17 : decode cX8_version 17 = .ok (.iconst 0, 1) := by decide +kernel
theorem dX8_version_18 : decode cX8_version 18 = .ok (.iconst 2, 1) := by decide +kernel
theorem dX8_version_19 : decode cX8_version 19 = .ok (.invokestatic 114, 3) := by decide +kernel
theorem dX8_version_22 : decode cX8_version 22 = .ok (.ifCond .ne 5, 3) := by decide +kernel
theorem dX8_version_25 : decode cX8_version 25 = .ok (.iconst (-1), 1) := by decide +kernel
theorem dX8_version_26 : decode cX8_version 26 = .ok (.ireturn, 1) := by decide +kernel
theorem dX8_version_27 : decode cX8_version 27 = .ok (.aload_n 0, 1) := by decide +kernel
theorem dX8_version_28 : decode cX8_version 28 = .ok (.aload_n 0, 1) := by decide +kernel
theorem dX8_version_29 : decode cX8_version 29 = .ok (.getfield 16, 3) := by decide +kernel
theorem dX8_version_32 : decode cX8_version 32 = .ok (.iload_n 1, 1) := by decide +kernel
theorem dX8_version_33 : decode cX8_version 33 = .ok (.iaload, 1) := by decide +kernel
theorem dX8_version_34 : decode cX8_version 34 = .ok (.iload_n 2, 1) := by decide +kernel
theorem dX8_version_35 : decode cX8_version 35 = .ok (.invokevirtual 236, 3) := by decide +kernel
theorem dX8_version_38 : decode cX8_version 38 = .ok (.ifCond .ne 6, 3) := by decide +kernel
theorem dX8_version_41 : decode cX8_version 41 = .ok (.bipush (-4), 2) := by decide +kernel
theorem dX8_version_43 : decode cX8_version 43 = .ok (.ireturn, 1) := by decide +kernel
theorem dX8_version_44 : decode cX8_version 44 = .ok (.iload_n 3, 1) := by decide +kernel
theorem dX8_version_45 : decode cX8_version 45 = .ok (.ifCond .ne 10, 3) := by decide +kernel
theorem dX8_version_48 : decode cX8_version 48 = .ok (.aload_n 0, 1) := by decide +kernel
theorem dX8_version_49 : decode cX8_version 49 = .ok (.getfield 217, 3) := by decide +kernel
theorem dX8_version_52 : decode cX8_version 52 = .ok (.goto 27, 3) := by decide +kernel
theorem dX8_version_55 : decode cX8_version 55 = .ok (.iload_n 3, 1) := by decide +kernel
theorem dX8_version_56 : decode cX8_version 56 = .ok (.iconst 1, 1) := by decide +kernel
theorem dX8_version_57 : decode cX8_version 57 = .ok (.if_icmp .ne 10, 3) := by decide +kernel
theorem dX8_version_60 : decode cX8_version 60 = .ok (.aload_n 0, 1) := by decide +kernel
theorem dX8_version_61 : decode cX8_version 61 = .ok (.getfield 226, 3) := by decide +kernel
theorem dX8_version_64 : decode cX8_version 64 = .ok (.goto 15, 3) := by decide +kernel
theorem dX8_version_67 : decode cX8_version 67 = .ok (.aload_n 0, 1) := by decide +kernel
theorem dX8_version_68 : decode cX8_version 68 = .ok (.getfield 223, 3) := by decide +kernel
theorem dX8_version_71 : decode cX8_version 71 = .ok (.ifCond .eq 7, 3) := by decide +kernel
theorem dX8_version_74 : decode cX8_version 74 = .ok (.iconst 1, 1) := by decide +kernel
theorem dX8_version_75 : decode cX8_version 75 = .ok (.goto 4, 3) := by decide +kernel
theorem dX8_version_78 : decode cX8_version 78 = .ok (.iconst 0, 1) := by decide +kernel
theorem dX8_version_79 : decode cX8_version 79 = .ok (.ireturn, 1) := by decide +kernel
theorem dX8_hasOf_0 : decode cX8_hasOf 0 = .ok (.iload_n 0, 1) := by decide +kernel
theorem dX8_hasOf_1 : decode cX8_hasOf 1 = .ok (.iconst 2, 1) := by decide +kernel
theorem dX8_hasOf_2 : decode cX8_hasOf 2 = .ok (.iload_n 1, 1) := by decide +kernel
theorem dX8_hasOf_3 : decode cX8_hasOf 3 = .ok (.imul, 1) := by decide +kernel
theorem dX8_hasOf_4 : decode cX8_hasOf 4 = .ok (.ishr, 1) := by decide +kernel
theorem dX8_hasOf_5 : decode cX8_hasOf 5 = .ok (.iconst 3, 1) := by decide +kernel
theorem dX8_hasOf_6 : decode cX8_hasOf 6 = .ok (.iand, 1) := by decide +kernel
theorem dX8_hasOf_7 : decode cX8_hasOf 7 = .ok (.ireturn, 1) := by decide +kernel
theorem dX8_with_0 : decode cX8_with 0 = .ok (.iload_n 0, 1) := by decide +kernel
theorem dX8_with_1 : decode cX8_with 1 = .ok (.iconst 3, 1) := by decide +kernel
theorem dX8_with_2 : decode cX8_with 2 = .ok (.iconst 2, 1) := by decide +kernel
theorem dX8_with_3 : decode cX8_with 3 = .ok (.iload_n 1, 1) := by decide +kernel
theorem dX8_with_4 : decode cX8_with 4 = .ok (.imul, 1) := by decide +kernel
theorem dX8_with_5 : decode cX8_with 5 = .ok (.ishl, 1) := by decide +kernel
theorem dX8_with_6 : decode cX8_with 6 = .ok (.iconst (-1), 1) := by decide +kernel
theorem dX8_with_7 : decode cX8_with 7 = .ok (.ixor, 1) := by decide +kernel
theorem dX8_with_8 : decode cX8_with 8 = .ok (.iand, 1) := by decide +kernel
theorem dX8_with_9 : decode cX8_with 9 = .ok (.iload_n 2, 1) := by decide +kernel
theorem dX8_with_10 : decode cX8_with 10 = .ok (.iconst 2, 1) := by decide +kernel
theorem dX8_with_11 : decode cX8_with 11 = .ok (.iload_n 1, 1) := by decide +kernel
theorem dX8_with_12 : decode cX8_with 12 = .ok (.imul, 1) := by decide +kernel
theorem dX8_with_13 : decode cX8_with 13 = .ok (.ishl, 1) := by decide +kernel
theorem dX8_with_14 : decode cX8_with 14 = .ok (.ior, 1) := by decide +kernel
theorem dX8_with_15 : decode cX8_with 15 = .ok (.ireturn, 1) := by decide +kernel
theorem dX8_nearer_0 : decode cX8_nearer 0 = .ok (.aload_n 0, 1) := by decide +kernel
theorem dX8_nearer_1 : decode cX8_nearer 1 = .ok (.getfield 64, 3) := by decide +kernel
theorem dX8_nearer_4 : decode cX8_nearer 4 = .ok (.iload_n 1, 1) := by decide +kernel
theorem dX8_nearer_5 : decode cX8_nearer 5 = .ok (.iload_n 2, 1) := by decide +kernel
theorem dX8_nearer_6 : decode cX8_nearer 6 = .ok (.aload_n 0, 1) := by decide +kernel
theorem dX8_nearer_7 : decode cX8_nearer 7 = .ok (.getfield 64, 3) := by decide +kernel
theorem dX8_nearer_10 : decode cX8_nearer 10 = .ok (.iload_n 1, 1) := by decide +kernel
theorem dX8_nearer_11 : decode cX8_nearer 11 = .ok (.iaload, 1) := by decide +kernel
theorem dX8_nearer_12 : decode cX8_nearer 12 = .ok (.if_icmp .ge 7, 3) := by decide +kernel
theorem dX8_nearer_15 : decode cX8_nearer 15 = .ok (.iload_n 2, 1) := by decide +kernel
theorem dX8_nearer_16 : decode cX8_nearer 16 = .ok (.goto 9, 3) := by decide +kernel
theorem dX8_nearer_19 : decode cX8_nearer 19 = .ok (.aload_n 0, 1) := by decide +kernel
theorem dX8_nearer_20 : decode cX8_nearer 20 = .ok (.getfield 64, 3) := by decide +kernel
theorem dX8_nearer_23 : decode cX8_nearer 23 = .ok (.iload_n 1, 1) := by decide +kernel
theorem dX8_nearer_24 : decode cX8_nearer 24 = .ok (.iaload, 1) := by decide +kernel
theorem dX8_nearer_25 : decode cX8_nearer 25 = .ok (.iastore, 1) := by decide +kernel
theorem dX8_nearer_26 : decode cX8_nearer 26 = .ok (.return_, 1) := by decide +kernel
theorem dX8_goesBehind_0 : decode cX8_goesBehind 0 = .ok (.aload_n 0, 1) := by decide +kernel
theorem dX8_goesBehind_1 : decode cX8_goesBehind 1 = .ok (.getfield 64, 3) := by decide +kernel
theorem dX8_goesBehind_4 : decode cX8_goesBehind 4 = .ok (.iload_n 1, 1) := by decide +kernel
theorem dX8_goesBehind_5 : decode cX8_goesBehind 5 = .ok (.iaload, 1) := by decide +kernel
theorem dX8_goesBehind_6 : decode cX8_goesBehind 6 = .ok (.istore_n 2, 1) := by decide +kernel
theorem dX8_goesBehind_7 : decode cX8_goesBehind 7 = .ok (.iconst 0, 1) := by decide +kernel
theorem dX8_goesBehind_8 : decode cX8_goesBehind 8 = .ok (.istore_n 3, 1) := by decide +kernel
theorem dX8_goesBehind_9 : decode cX8_goesBehind 9 = .ok (.iload_n 3, 1) := by decide +kernel
theorem dX8_goesBehind_10 : decode cX8_goesBehind 10 = .ok (.aload_n 0, 1) := by decide +kernel
theorem dX8_goesBehind_11 : decode cX8_goesBehind 11 = .ok (.getfield 7, 3) := by decide +kernel
theorem dX8_goesBehind_14 : decode cX8_goesBehind 14 = .ok (.iconst 0, 1) := by decide +kernel
theorem dX8_goesBehind_15 : decode cX8_goesBehind 15 = .ok (.iaload, 1) := by decide +kernel
theorem dX8_goesBehind_16 : decode cX8_goesBehind 16 = .ok (.if_icmp .ge 132, 3) := by decide +kernel
theorem dX8_goesBehind_19 : decode cX8_goesBehind 19 = .ok (.iconst 0, 1) := by decide +kernel
theorem dX8_goesBehind_20 : decode cX8_goesBehind 20 = .ok (.istore 4, 2) := by decide +kernel
theorem dX8_goesBehind_22 : decode cX8_goesBehind 22 = .ok (.iload 4, 2) := by decide +kernel
theorem dX8_goesBehind_24 : decode cX8_goesBehind 24 = .ok (.aload_n 0, 1) := by decide +kernel
theorem dX8_goesBehind_25 : decode cX8_goesBehind 25 = .ok (.getfield 7, 3) := by decide +kernel
theorem dX8_goesBehind_28 : decode cX8_goesBehind 28 = .ok (.iconst 0, 1) := by decide +kernel
theorem dX8_goesBehind_29 : decode cX8_goesBehind 29 = .ok (.iaload, 1) := by decide +kernel
theorem dX8_goesBehind_30 : decode cX8_goesBehind 30 = .ok (.if_icmp .ge 32, 3) := by decide +kernel
theorem dX8_goesBehind_33 : decode cX8_goesBehind 33 = .ok (.aload_n 0, 1) := by decide +kernel
theorem dX8_goesBehind_34 : decode cX8_goesBehind 34 = .ok (.iload_n 1, 1) := by decide +kernel
theorem dX8_goesBehind_35 : decode cX8_goesBehind 35 = .ok (.iload_n 3, 1) := by decide +kernel
theorem dX8_goesBehind_36 : decode cX8_goesBehind 36 = .ok (.iload_n 1, 1) := by decide +kernel
theorem dX8_goesBehind_37 : decode cX8_goesBehind 37 = .ok (.iload 4, 2) := by decide +kernel
theorem dX8_goesBehind_39 : decode cX8_goesBehind 39 = .ok (.invokestatic 240, 3) := by decide +kernel
theorem dX8_goesBehind_42 : decode cX8_goesBehind 42 = .ok (.invokestatic 244, 3) := by decide +kernel
theorem dX8_goesBehind_45 : decode cX8_goesBehind 45 = .ok (.iload_n 2, 1) := by decide +kernel
theorem dX8_goesBehind_46 : decode cX8_goesBehind 46 = .ok (.aload_n 0, 1) := by decide +kernel
theorem dX8_goesBehind_47 : decode cX8_goesBehind 47 = .ok (.getfield 7, 3) := by decide +kernel
theorem dX8_goesBehind_50 : decode cX8_goesBehind 50 = .ok (.iconst 1, 1) := by decide +kernel
theorem dX8_goesBehind_51 : decode cX8_goesBehind 51 = .ok (.iaload, 1) := by decide +kernel
theorem dX8_goesBehind_52 : decode cX8_goesBehind 52 = .ok (.iadd, 1) := by decide +kernel
theorem dX8_goesBehind_53 : decode cX8_goesBehind 53 = .ok (.invokevirtual 247, 3) := by decide +kernel
theorem dX8_goesBehind_56 : decode cX8_goesBehind 56 = .ok (.iinc 4 1, 3) := by decide +kernel
theorem dX8_goesBehind_59 : decode cX8_goesBehind 59 = .ok (.goto (-37), 3) := by decide +kernel
theorem dX8_goesBehind_62 : decode cX8_goesBehind 62 = .ok (.iconst 0, 1) := by decide +kernel
theorem dX8_goesBehind_63 : decode cX8_goesBehind 63 = .ok (.istore 4, 2) := by decide +kernel
theorem dX8_goesBehind_65 : decode cX8_goesBehind 65 = .ok (.iload 4, 2) := by decide +kernel
theorem dX8_goesBehind_67 : decode cX8_goesBehind 67 = .ok (.iconst 3, 1) := by decide +kernel
theorem dX8_goesBehind_68 : decode cX8_goesBehind 68 = .ok (.if_icmp .ge 43, 3) := by decide +kernel
theorem dX8_goesBehind_71 : decode cX8_goesBehind 71 = .ok (.iload_n 1, 1) := by decide +kernel
theorem dX8_goesBehind_72 : decode cX8_goesBehind 72 = .ok (.bipush 6, 2) := by decide +kernel
theorem dX8_goesBehind_74 : decode cX8_goesBehind 74 = .ok (.iload 4, 2) := by decide +kernel
theorem dX8_goesBehind_76 : decode cX8_goesBehind 76 = .ok (.iadd, 1) := by decide +kernel
theorem dX8_goesBehind_77 : decode cX8_goesBehind 77 = .ok (.ishr, 1) := by decide +kernel
theorem dX8_goesBehind_78 : decode cX8_goesBehind 78 = .ok (.iconst 1, 1) := by decide +kernel
theorem dX8_goesBehind_79 : decode cX8_goesBehind 79 = .ok (.iand, 1) := by decide +kernel
theorem dX8_goesBehind_80 : decode cX8_goesBehind 80 = .ok (.iconst 1, 1) := by decide +kernel
theorem dX8_goesBehind_81 : decode cX8_goesBehind 81 = .ok (.if_icmp .ne 24, 3) := by decide +kernel
theorem dX8_goesBehind_84 : decode cX8_goesBehind 84 = .ok (.aload_n 0, 1) := by decide +kernel
theorem dX8_goesBehind_85 : decode cX8_goesBehind 85 = .ok (.iload_n 1, 1) := by decide +kernel
theorem dX8_goesBehind_86 : decode cX8_goesBehind 86 = .ok (.iload_n 3, 1) := by decide +kernel
theorem dX8_goesBehind_87 : decode cX8_goesBehind 87 = .ok (.iload 4, 2) := by decide +kernel
theorem dX8_goesBehind_89 : decode cX8_goesBehind 89 = .ok (.iconst 1, 1) := by decide +kernel
theorem dX8_goesBehind_90 : decode cX8_goesBehind 90 = .ok (.iadd, 1) := by decide +kernel
theorem dX8_goesBehind_91 : decode cX8_goesBehind 91 = .ok (.invokestatic 244, 3) := by decide +kernel
theorem dX8_goesBehind_94 : decode cX8_goesBehind 94 = .ok (.iload_n 2, 1) := by decide +kernel
theorem dX8_goesBehind_95 : decode cX8_goesBehind 95 = .ok (.aload_n 0, 1) := by decide +kernel
theorem dX8_goesBehind_96 : decode cX8_goesBehind 96 = .ok (.getfield 7, 3) := by decide +kernel
theorem dX8_goesBehind_99 : decode cX8_goesBehind 99 = .ok (.iconst 2, 1) := by decide +kernel
theorem dX8_goesBehind_100 : decode cX8_goesBehind 100 = .ok (.iaload, 1) := by decide +kernel
theorem dX8_goesBehind_101 : decode cX8_goesBehind 101 = .ok (.iadd, 1) := by decide +kernel
theorem dX8_goesBehind_102 : decode cX8_goesBehind 102 = .ok (.invokevirtual 247, 3) := by decide +kernel
theorem dX8_goesBehind_105 : decode cX8_goesBehind 105 = .ok (.iinc 4 1, 3) := by decide +kernel
theorem dX8_goesBehind_108 : decode cX8_goesBehind 108 = .ok (.goto (-43), 3) := by decide +kernel
theorem dX8_goesBehind_111 : decode cX8_goesBehind 111 = .ok (.iload_n 1, 1) := by decide +kernel
theorem dX8_goesBehind_112 : decode cX8_goesBehind 112 = .ok (.iload_n 3, 1) := by decide +kernel
theorem dX8_goesBehind_113 : decode cX8_goesBehind 113 = .ok (.invokestatic 240, 3) := by decide +kernel
theorem dX8_goesBehind_116 : decode cX8_goesBehind 116 = .ok (.ifCond .le 26, 3) := by decide +kernel
theorem dX8_goesBehind_119 : decode cX8_goesBehind 119 = .ok (.aload_n 0, 1) := by decide +kernel
theorem dX8_goesBehind_120 : decode cX8_goesBehind 120 = .ok (.iload_n 1, 1) := by decide +kernel
theorem dX8_goesBehind_121 : decode cX8_goesBehind 121 = .ok (.iconst 1, 1) := by decide +kernel
theorem dX8_goesBehind_122 : decode cX8_goesBehind 122 = .ok (.iconst 5, 1) := by decide +kernel
theorem dX8_goesBehind_123 : decode cX8_goesBehind 123 = .ok (.iload_n 1, 1) := by decide +kernel
theorem dX8_goesBehind_124 : decode cX8_goesBehind 124 = .ok (.iload_n 3, 1) := by decide +kernel
theorem dX8_goesBehind_125 : decode cX8_goesBehind 125 = .ok (.invokestatic 240, 3) := by decide +kernel
theorem dX8_goesBehind_128 : decode cX8_goesBehind 128 = .ok (.iadd, 1) := by decide +kernel
theorem dX8_goesBehind_129 : decode cX8_goesBehind 129 = .ok (.ishl, 1) := by decide +kernel
theorem dX8_goesBehind_130 : decode cX8_goesBehind 130 = .ok (.ior, 1) := by decide +kernel
theorem dX8_goesBehind_131 : decode cX8_goesBehind 131 = .ok (.iload_n 2, 1) := by decide +kernel
theorem dX8_goesBehind_132 : decode cX8_goesBehind 132 = .ok (.aload_n 0, 1) := by decide +kernel
theorem dX8_goesBehind_133 : decode cX8_goesBehind 133 = .ok (.getfield 7, 3) := by decide +kernel
theorem dX8_goesBehind_136 : decode cX8_goesBehind 136 = .ok (.iconst 3, 1) := by decide +kernel
theorem dX8_goesBehind_137 : decode cX8_goesBehind 137 = .ok (.iaload, 1) := by decide +kernel
theorem dX8_goesBehind_138 : decode cX8_goesBehind 138 = .ok (.iadd, 1) := by decide +kernel
theorem dX8_goesBehind_139 : decode cX8_goesBehind 139 = .ok (.invokevirtual 247, 3) := by decide +kernel
theorem dX8_goesBehind_142 : decode cX8_goesBehind 142 = .ok (.iinc 3 1, 3) := by decide +kernel
theorem dX8_goesBehind_145 : decode cX8_goesBehind 145 = .ok (.goto (-136), 3) := by decide +kernel
theorem dX8_goesBehind_148 : decode cX8_goesBehind 148 = .ok (.return_, 1) := by decide +kernel
theorem dX8_laysFrom_0 : decode cX8_laysFrom 0 = .ok (.sipush 448, 3) := by decide +kernel
theorem dX8_laysFrom_3 : decode cX8_laysFrom 3 = .ok (.istore_n 2, 1) := by decide +kernel
theorem dX8_laysFrom_4 : decode cX8_laysFrom 4 = .ok (.iconst 0, 1) := by decide +kernel
theorem dX8_laysFrom_5 : decode cX8_laysFrom 5 = .ok (.istore_n 3, 1) := by decide +kernel
theorem dX8_laysFrom_6 : decode cX8_laysFrom 6 = .ok (.iload_n 3, 1) := by decide +kernel
theorem dX8_laysFrom_7 : decode cX8_laysFrom 7 = .ok (.aload_n 0, 1) := by decide +kernel
theorem dX8_laysFrom_8 : decode cX8_laysFrom 8 = .ok (.getfield 52, 3) := by decide +kernel
theorem dX8_laysFrom_11 : decode cX8_laysFrom 11 = .ok (.iload_n 1, 1) := by decide +kernel
theorem dX8_laysFrom_12 : decode cX8_laysFrom 12 = .ok (.iaload, 1) := by decide +kernel
theorem dX8_laysFrom_13 : decode cX8_laysFrom 13 = .ok (.if_icmp .ge 36, 3) := by decide +kernel
theorem dX8_laysFrom_16 : decode cX8_laysFrom 16 = .ok (.iload_n 2, 1) := by decide +kernel
theorem dX8_laysFrom_17 : decode cX8_laysFrom 17 = .ok (.aload_n 0, 1) := by decide +kernel
theorem dX8_laysFrom_18 : decode cX8_laysFrom 18 = .ok (.getfield 55, 3) := by decide +kernel
theorem dX8_laysFrom_21 : decode cX8_laysFrom 21 = .ok (.iconst 3, 1) := by decide +kernel
theorem dX8_laysFrom_22 : decode cX8_laysFrom 22 = .ok (.iload_n 1, 1) := by decide +kernel
theorem dX8_laysFrom_23 : decode cX8_laysFrom 23 = .ok (.imul, 1) := by decide +kernel
theorem dX8_laysFrom_24 : decode cX8_laysFrom 24 = .ok (.iload_n 3, 1) := by decide +kernel
theorem dX8_laysFrom_25 : decode cX8_laysFrom 25 = .ok (.iadd, 1) := by decide +kernel
theorem dX8_laysFrom_26 : decode cX8_laysFrom 26 = .ok (.iaload, 1) := by decide +kernel
theorem dX8_laysFrom_27 : decode cX8_laysFrom 27 = .ok (.iload_n 3, 1) := by decide +kernel
theorem dX8_laysFrom_28 : decode cX8_laysFrom 28 = .ok (.iconst 1, 1) := by decide +kernel
theorem dX8_laysFrom_29 : decode cX8_laysFrom 29 = .ok (.iadd, 1) := by decide +kernel
theorem dX8_laysFrom_30 : decode cX8_laysFrom 30 = .ok (.invokestatic 244, 3) := by decide +kernel
theorem dX8_laysFrom_33 : decode cX8_laysFrom 33 = .ok (.iconst 1, 1) := by decide +kernel
theorem dX8_laysFrom_34 : decode cX8_laysFrom 34 = .ok (.bipush 6, 2) := by decide +kernel
theorem dX8_laysFrom_36 : decode cX8_laysFrom 36 = .ok (.iload_n 3, 1) := by decide +kernel
theorem dX8_laysFrom_37 : decode cX8_laysFrom 37 = .ok (.iadd, 1) := by decide +kernel
theorem dX8_laysFrom_38 : decode cX8_laysFrom 38 = .ok (.ishl, 1) := by decide +kernel
theorem dX8_laysFrom_39 : decode cX8_laysFrom 39 = .ok (.iconst (-1), 1) := by decide +kernel
theorem dX8_laysFrom_40 : decode cX8_laysFrom 40 = .ok (.ixor, 1) := by decide +kernel
theorem dX8_laysFrom_41 : decode cX8_laysFrom 41 = .ok (.iand, 1) := by decide +kernel
theorem dX8_laysFrom_42 : decode cX8_laysFrom 42 = .ok (.istore_n 2, 1) := by decide +kernel
theorem dX8_laysFrom_43 : decode cX8_laysFrom 43 = .ok (.iinc 3 1, 3) := by decide +kernel
theorem dX8_laysFrom_46 : decode cX8_laysFrom 46 = .ok (.goto (-40), 3) := by decide +kernel
theorem dX8_laysFrom_49 : decode cX8_laysFrom 49 = .ok (.iconst 0, 1) := by decide +kernel
theorem dX8_laysFrom_50 : decode cX8_laysFrom 50 = .ok (.istore_n 3, 1) := by decide +kernel
theorem dX8_laysFrom_51 : decode cX8_laysFrom 51 = .ok (.iload_n 3, 1) := by decide +kernel
theorem dX8_laysFrom_52 : decode cX8_laysFrom 52 = .ok (.sipush 512, 3) := by decide +kernel
theorem dX8_laysFrom_55 : decode cX8_laysFrom 55 = .ok (.if_icmp .ge 33, 3) := by decide +kernel
theorem dX8_laysFrom_58 : decode cX8_laysFrom 58 = .ok (.aload_n 0, 1) := by decide +kernel
theorem dX8_laysFrom_59 : decode cX8_laysFrom 59 = .ok (.getfield 64, 3) := by decide +kernel
theorem dX8_laysFrom_62 : decode cX8_laysFrom 62 = .ok (.iload_n 3, 1) := by decide +kernel
theorem dX8_laysFrom_63 : decode cX8_laysFrom 63 = .ok (.iload_n 3, 1) := by decide +kernel
theorem dX8_laysFrom_64 : decode cX8_laysFrom 64 = .ok (.iload_n 2, 1) := by decide +kernel
theorem dX8_laysFrom_65 : decode cX8_laysFrom 65 = .ok (.if_icmp .ne 7, 3) := by decide +kernel
theorem dX8_laysFrom_68 : decode cX8_laysFrom 68 = .ok (.iconst 0, 1) := by decide +kernel
theorem dX8_laysFrom_69 : decode cX8_laysFrom 69 = .ok (.goto 5, 3) := by decide +kernel
theorem dX8_laysFrom_72 : decode cX8_laysFrom 72 = .ok (.ldc 250, 2) := by decide +kernel
theorem dX8_laysFrom_74 : decode cX8_laysFrom 74 = .ok (.iastore, 1) := by decide +kernel
theorem dX8_laysFrom_75 : decode cX8_laysFrom 75 = .ok (.aload_n 0, 1) := by decide +kernel
theorem dX8_laysFrom_76 : decode cX8_laysFrom 76 = .ok (.getfield 67, 3) := by decide +kernel
theorem dX8_laysFrom_79 : decode cX8_laysFrom 79 = .ok (.iload_n 3, 1) := by decide +kernel
theorem dX8_laysFrom_80 : decode cX8_laysFrom 80 = .ok (.iconst 0, 1) := by decide +kernel
theorem dX8_laysFrom_81 : decode cX8_laysFrom 81 = .ok (.iastore, 1) := by decide +kernel
theorem dX8_laysFrom_82 : decode cX8_laysFrom 82 = .ok (.iinc 3 1, 3) := by decide +kernel
theorem dX8_laysFrom_85 : decode cX8_laysFrom 85 = .ok (.goto (-34), 3) := by decide +kernel
theorem dX8_laysFrom_88 : decode cX8_laysFrom 88 = .ok (.iload_n 2, 1) := by decide +kernel
theorem dX8_laysFrom_89 : decode cX8_laysFrom 89 = .ok (.istore_n 3, 1) := by decide +kernel
theorem dX8_laysFrom_90 : decode cX8_laysFrom 90 = .ok (.iload_n 3, 1) := by decide +kernel
theorem dX8_laysFrom_91 : decode cX8_laysFrom 91 = .ok (.ifCond .lt 86, 3) := by decide +kernel
theorem dX8_laysFrom_94 : decode cX8_laysFrom 94 = .ok (.aload_n 0, 1) := by decide +kernel
theorem dX8_laysFrom_95 : decode cX8_laysFrom 95 = .ok (.getfield 67, 3) := by decide +kernel
theorem dX8_laysFrom_98 : decode cX8_laysFrom 98 = .ok (.iload_n 3, 1) := by decide +kernel
theorem dX8_laysFrom_99 : decode cX8_laysFrom 99 = .ok (.iconst 1, 1) := by decide +kernel
theorem dX8_laysFrom_100 : decode cX8_laysFrom 100 = .ok (.iastore, 1) := by decide +kernel
theorem dX8_laysFrom_101 : decode cX8_laysFrom 101 = .ok (.aload_n 0, 1) := by decide +kernel
theorem dX8_laysFrom_102 : decode cX8_laysFrom 102 = .ok (.iload_n 3, 1) := by decide +kernel
theorem dX8_laysFrom_103 : decode cX8_laysFrom 103 = .ok (.invokevirtual 251, 3) := by decide +kernel
theorem dX8_laysFrom_106 : decode cX8_laysFrom 106 = .ok (.iconst (-1), 1) := by decide +kernel
theorem dX8_laysFrom_107 : decode cX8_laysFrom 107 = .ok (.istore_n 3, 1) := by decide +kernel
theorem dX8_laysFrom_108 : decode cX8_laysFrom 108 = .ok (.iconst 0, 1) := by decide +kernel
theorem dX8_laysFrom_109 : decode cX8_laysFrom 109 = .ok (.istore 4, 2) := by decide +kernel
theorem dX8_laysFrom_111 : decode cX8_laysFrom 111 = .ok (.iload 4, 2) := by decide +kernel
theorem dX8_laysFrom_113 : decode cX8_laysFrom 113 = .ok (.sipush 512, 3) := by decide +kernel
theorem dX8_laysFrom_116 : decode cX8_laysFrom 116 = .ok (.if_icmp .ge 58, 3) := by decide +kernel
theorem dX8_laysFrom_119 : decode cX8_laysFrom 119 = .ok (.aload_n 0, 1) := by decide +kernel
theorem dX8_laysFrom_120 : decode cX8_laysFrom 120 = .ok (.getfield 67, 3) := by decide +kernel
theorem dX8_laysFrom_123 : decode cX8_laysFrom 123 = .ok (.iload 4, 2) := by decide +kernel
theorem dX8_laysFrom_125 : decode cX8_laysFrom 125 = .ok (.iaload, 1) := by decide +kernel
theorem dX8_laysFrom_126 : decode cX8_laysFrom 126 = .ok (.ifCond .ne 40, 3) := by decide +kernel
theorem dX8_laysFrom_129 : decode cX8_laysFrom 129 = .ok (.aload_n 0, 1) := by decide +kernel
theorem dX8_laysFrom_130 : decode cX8_laysFrom 130 = .ok (.getfield 64, 3) := by decide +kernel
theorem dX8_laysFrom_133 : decode cX8_laysFrom 133 = .ok (.iload 4, 2) := by decide +kernel
theorem dX8_laysFrom_135 : decode cX8_laysFrom 135 = .ok (.iaload, 1) := by decide +kernel
theorem dX8_laysFrom_136 : decode cX8_laysFrom 136 = .ok (.ldc 250, 2) := by decide +kernel
theorem dX8_laysFrom_138 : decode cX8_laysFrom 138 = .ok (.if_icmp .ge 28, 3) := by decide +kernel
theorem dX8_laysFrom_141 : decode cX8_laysFrom 141 = .ok (.iload_n 3, 1) := by decide +kernel
theorem dX8_laysFrom_142 : decode cX8_laysFrom 142 = .ok (.ifCond .lt 19, 3) := by decide +kernel
theorem dX8_laysFrom_145 : decode cX8_laysFrom 145 = .ok (.aload_n 0, 1) := by decide +kernel
theorem dX8_laysFrom_146 : decode cX8_laysFrom 146 = .ok (.getfield 64, 3) := by decide +kernel
theorem dX8_laysFrom_149 : decode cX8_laysFrom 149 = .ok (.iload 4, 2) := by decide +kernel
theorem dX8_laysFrom_151 : decode cX8_laysFrom 151 = .ok (.iaload, 1) := by decide +kernel
theorem dX8_laysFrom_152 : decode cX8_laysFrom 152 = .ok (.aload_n 0, 1) := by decide +kernel
theorem dX8_laysFrom_153 : decode cX8_laysFrom 153 = .ok (.getfield 64, 3) := by decide +kernel
theorem dX8_laysFrom_156 : decode cX8_laysFrom 156 = .ok (.iload_n 3, 1) := by decide +kernel
theorem dX8_laysFrom_157 : decode cX8_laysFrom 157 = .ok (.iaload, 1) := by decide +kernel
theorem dX8_laysFrom_158 : decode cX8_laysFrom 158 = .ok (.if_icmp .ge 8, 3) := by decide +kernel
theorem dX8_laysFrom_161 : decode cX8_laysFrom 161 = .ok (.iload 4, 2) := by decide +kernel
theorem dX8_laysFrom_163 : decode cX8_laysFrom 163 = .ok (.goto 4, 3) := by decide +kernel
theorem dX8_laysFrom_166 : decode cX8_laysFrom 166 = .ok (.iload_n 3, 1) := by decide +kernel
theorem dX8_laysFrom_167 : decode cX8_laysFrom 167 = .ok (.istore_n 3, 1) := by decide +kernel
theorem dX8_laysFrom_168 : decode cX8_laysFrom 168 = .ok (.iinc 4 1, 3) := by decide +kernel
theorem dX8_laysFrom_171 : decode cX8_laysFrom 171 = .ok (.goto (-60), 3) := by decide +kernel
theorem dX8_laysFrom_174 : decode cX8_laysFrom 174 = .ok (.goto (-84), 3) := by decide +kernel
theorem dX8_laysFrom_177 : decode cX8_laysFrom 177 = .ok (.return_, 1) := by decide +kernel
theorem dX8_isAt_0 : decode cX8_isAt 0 = .ok (.iconst 1, 1) := by decide +kernel
theorem dX8_isAt_1 : decode cX8_isAt 1 = .ok (.istore_n 3, 1) := by decide +kernel
theorem dX8_isAt_2 : decode cX8_isAt 2 = .ok (.iconst 0, 1) := by decide +kernel
theorem dX8_isAt_3 : decode cX8_isAt 3 = .ok (.istore 4, 2) := by decide +kernel
theorem dX8_isAt_5 : decode cX8_isAt 5 = .ok (.iload 4, 2) := by decide +kernel
theorem dX8_isAt_7 : decode cX8_isAt 7 = .ok (.iconst 3, 1) := by decide +kernel
theorem dX8_isAt_8 : decode cX8_isAt 8 = .ok (.if_icmp .ge 68, 3) := by decide +kernel
theorem dX8_isAt_11 : decode cX8_isAt 11 = .ok (.iload_n 3, 1) := by decide +kernel
theorem dX8_isAt_12 : decode cX8_isAt 12 = .ok (.ifCond .eq 56, 3) := by decide +kernel
theorem dX8_isAt_15 : decode cX8_isAt 15 = .ok (.iload 4, 2) := by decide +kernel
theorem dX8_isAt_17 : decode cX8_isAt 17 = .ok (.aload_n 0, 1) := by decide +kernel
theorem dX8_isAt_18 : decode cX8_isAt 18 = .ok (.getfield 52, 3) := by decide +kernel
theorem dX8_isAt_21 : decode cX8_isAt 21 = .ok (.iload_n 2, 1) := by decide +kernel
theorem dX8_isAt_22 : decode cX8_isAt 22 = .ok (.iaload, 1) := by decide +kernel
theorem dX8_isAt_23 : decode cX8_isAt 23 = .ok (.if_icmp .ge 28, 3) := by decide +kernel
theorem dX8_isAt_26 : decode cX8_isAt 26 = .ok (.iload_n 1, 1) := by decide +kernel
theorem dX8_isAt_27 : decode cX8_isAt 27 = .ok (.aload_n 0, 1) := by decide +kernel
theorem dX8_isAt_28 : decode cX8_isAt 28 = .ok (.getfield 55, 3) := by decide +kernel
theorem dX8_isAt_31 : decode cX8_isAt 31 = .ok (.iconst 3, 1) := by decide +kernel
theorem dX8_isAt_32 : decode cX8_isAt 32 = .ok (.iload_n 2, 1) := by decide +kernel
theorem dX8_isAt_33 : decode cX8_isAt 33 = .ok (.imul, 1) := by decide +kernel
theorem dX8_isAt_34 : decode cX8_isAt 34 = .ok (.iload 4, 2) := by decide +kernel
theorem dX8_isAt_36 : decode cX8_isAt 36 = .ok (.iadd, 1) := by decide +kernel
theorem dX8_isAt_37 : decode cX8_isAt 37 = .ok (.iaload, 1) := by decide +kernel
theorem dX8_isAt_38 : decode cX8_isAt 38 = .ok (.invokestatic 240, 3) := by decide +kernel
theorem dX8_isAt_41 : decode cX8_isAt 41 = .ok (.iload 4, 2) := by decide +kernel
theorem dX8_isAt_43 : decode cX8_isAt 43 = .ok (.iconst 1, 1) := by decide +kernel
theorem dX8_isAt_44 : decode cX8_isAt 44 = .ok (.iadd, 1) := by decide +kernel
theorem dX8_isAt_45 : decode cX8_isAt 45 = .ok (.if_icmp .ne 23, 3) := by decide +kernel
theorem dX8_isAt_48 : decode cX8_isAt 48 = .ok (.goto 16, 3) := by decide +kernel
theorem dX8_isAt_51 : decode cX8_isAt 51 = .ok (.iload_n 1, 1) := by decide +kernel
theorem dX8_isAt_52 : decode cX8_isAt 52 = .ok (.bipush 6, 2) := by decide +kernel
theorem dX8_isAt_54 : decode cX8_isAt 54 = .ok (.iload 4, 2) := by decide +kernel
theorem dX8_isAt_56 : decode cX8_isAt 56 = .ok (.iadd, 1) := by decide +kernel
theorem dX8_isAt_57 : decode cX8_isAt 57 = .ok (.ishr, 1) := by decide +kernel
theorem dX8_isAt_58 : decode cX8_isAt 58 = .ok (.iconst 1, 1) := by decide +kernel
theorem dX8_isAt_59 : decode cX8_isAt 59 = .ok (.iand, 1) := by decide +kernel
theorem dX8_isAt_60 : decode cX8_isAt 60 = .ok (.iconst 1, 1) := by decide +kernel
theorem dX8_isAt_61 : decode cX8_isAt 61 = .ok (.if_icmp .ne 7, 3) := by decide +kernel
theorem dX8_isAt_64 : decode cX8_isAt 64 = .ok (.iconst 1, 1) := by decide +kernel
theorem dX8_isAt_65 : decode cX8_isAt 65 = .ok (.goto 4, 3) := by decide +kernel
theorem dX8_isAt_68 : decode cX8_isAt 68 = .ok (.iconst 0, 1) := by decide +kernel
theorem dX8_isAt_69 : decode cX8_isAt 69 = .ok (.istore_n 3, 1) := by decide +kernel
theorem dX8_isAt_70 : decode cX8_isAt 70 = .ok (.iinc 4 1, 3) := by decide +kernel
theorem dX8_isAt_73 : decode cX8_isAt 73 = .ok (.goto (-68), 3) := by decide +kernel
theorem dX8_isAt_76 : decode cX8_isAt 76 = .ok (.iload_n 3, 1) := by decide +kernel
theorem dX8_isAt_77 : decode cX8_isAt 77 = .ok (.ireturn, 1) := by decide +kernel
theorem dX8_laysPassages_0 : decode cX8_laysPassages 0 = .ok (.aload_n 0, 1) := by decide +kernel
theorem dX8_laysPassages_1 : decode cX8_laysPassages 1 = .ok (.invokevirtual 207, 3) := by decide +kernel
theorem dX8_laysPassages_4 : decode cX8_laysPassages 4 = .ok (.aload_n 0, 1) := by decide +kernel
theorem dX8_laysPassages_5 : decode cX8_laysPassages 5 = .ok (.getfield 191, 3) := by decide +kernel
theorem dX8_laysPassages_8 : decode cX8_laysPassages 8 = .ok (.ifCond .eq 4, 3) := by decide +kernel
theorem dX8_laysPassages_11 : decode cX8_laysPassages 11 = .ok (.return_, 1) := by decide +kernel
theorem dX8_laysPassages_12 : decode cX8_laysPassages 12 = .ok (.aload_n 0, 1) := by decide +kernel
theorem dX8_laysPassages_13 : decode cX8_laysPassages 13 = .ok (.iconst 1, 1) := by decide +kernel
theorem dX8_laysPassages_14 : decode cX8_laysPassages 14 = .ok (.putfield 191, 3) := by decide +kernel
theorem dX8_laysPassages_17 : decode cX8_laysPassages 17 = .ok (.iconst 0, 1) := by decide +kernel
theorem dX8_laysPassages_18 : decode cX8_laysPassages 18 = .ok (.istore_n 1, 1) := by decide +kernel
theorem dX8_laysPassages_19 : decode cX8_laysPassages 19 = .ok (.iload_n 1, 1) := by decide +kernel
theorem dX8_laysPassages_20 : decode cX8_laysPassages 20 = .ok (.aload_n 0, 1) := by decide +kernel
theorem dX8_laysPassages_21 : decode cX8_laysPassages 21 = .ok (.getfield 200, 3) := by decide +kernel
theorem dX8_laysPassages_24 : decode cX8_laysPassages 24 = .ok (.if_icmp .ge 95, 3) := by decide +kernel
theorem dX8_laysPassages_27 : decode cX8_laysPassages 27 = .ok (.aload_n 0, 1) := by decide +kernel
theorem dX8_laysPassages_28 : decode cX8_laysPassages 28 = .ok (.iload_n 1, 1) := by decide +kernel
theorem dX8_laysPassages_29 : decode cX8_laysPassages 29 = .ok (.invokevirtual 255, 3) := by decide +kernel
theorem dX8_laysPassages_32 : decode cX8_laysPassages 32 = .ok (.iconst 0, 1) := by decide +kernel
theorem dX8_laysPassages_33 : decode cX8_laysPassages 33 = .ok (.istore_n 2, 1) := by decide +kernel
theorem dX8_laysPassages_34 : decode cX8_laysPassages 34 = .ok (.iload_n 2, 1) := by decide +kernel
theorem dX8_laysPassages_35 : decode cX8_laysPassages 35 = .ok (.aload_n 0, 1) := by decide +kernel
theorem dX8_laysPassages_36 : decode cX8_laysPassages 36 = .ok (.getfield 200, 3) := by decide +kernel
theorem dX8_laysPassages_39 : decode cX8_laysPassages 39 = .ok (.if_icmp .ge 74, 3) := by decide +kernel
theorem dX8_laysPassages_42 : decode cX8_laysPassages 42 = .ok (.ldc 250, 2) := by decide +kernel
theorem dX8_laysPassages_44 : decode cX8_laysPassages 44 = .ok (.istore_n 3, 1) := by decide +kernel
theorem dX8_laysPassages_45 : decode cX8_laysPassages 45 = .ok (.iconst 0, 1) := by decide +kernel
theorem dX8_laysPassages_46 : decode cX8_laysPassages 46 = .ok (.istore 4, 2) := by decide +kernel
theorem dX8_laysPassages_48 : decode cX8_laysPassages 48 = .ok (.iload 4, 2) := by decide +kernel
theorem dX8_laysPassages_50 : decode cX8_laysPassages 50 = .ok (.sipush 512, 3) := by decide +kernel
theorem dX8_laysPassages_53 : decode cX8_laysPassages 53 = .ok (.if_icmp .ge 42, 3) := by decide +kernel
theorem dX8_laysPassages_56 : decode cX8_laysPassages 56 = .ok (.aload_n 0, 1) := by decide +kernel
theorem dX8_laysPassages_57 : decode cX8_laysPassages 57 = .ok (.getfield 64, 3) := by decide +kernel
theorem dX8_laysPassages_60 : decode cX8_laysPassages 60 = .ok (.iload 4, 2) := by decide +kernel
theorem dX8_laysPassages_62 : decode cX8_laysPassages 62 = .ok (.iaload, 1) := by decide +kernel
theorem dX8_laysPassages_63 : decode cX8_laysPassages 63 = .ok (.iload_n 3, 1) := by decide +kernel
theorem dX8_laysPassages_64 : decode cX8_laysPassages 64 = .ok (.if_icmp .ge 23, 3) := by decide +kernel
theorem dX8_laysPassages_67 : decode cX8_laysPassages 67 = .ok (.aload_n 0, 1) := by decide +kernel
theorem dX8_laysPassages_68 : decode cX8_laysPassages 68 = .ok (.iload 4, 2) := by decide +kernel
theorem dX8_laysPassages_70 : decode cX8_laysPassages 70 = .ok (.iload_n 2, 1) := by decide +kernel
theorem dX8_laysPassages_71 : decode cX8_laysPassages 71 = .ok (.invokevirtual 258, 3) := by decide +kernel
theorem dX8_laysPassages_74 : decode cX8_laysPassages 74 = .ok (.ifCond .eq 13, 3) := by decide +kernel
theorem dX8_laysPassages_77 : decode cX8_laysPassages 77 = .ok (.aload_n 0, 1) := by decide +kernel
theorem dX8_laysPassages_78 : decode cX8_laysPassages 78 = .ok (.getfield 64, 3) := by decide +kernel
theorem dX8_laysPassages_81 : decode cX8_laysPassages 81 = .ok (.iload 4, 2) := by decide +kernel
theorem dX8_laysPassages_83 : decode cX8_laysPassages 83 = .ok (.iaload, 1) := by decide +kernel
theorem dX8_laysPassages_84 : decode cX8_laysPassages 84 = .ok (.goto 4, 3) := by decide +kernel
theorem dX8_laysPassages_87 : decode cX8_laysPassages 87 = .ok (.iload_n 3, 1) := by decide +kernel
theorem dX8_laysPassages_88 : decode cX8_laysPassages 88 = .ok (.istore_n 3, 1) := by decide +kernel
theorem dX8_laysPassages_89 : decode cX8_laysPassages 89 = .ok (.iinc 4 1, 3) := by decide +kernel
theorem dX8_laysPassages_92 : decode cX8_laysPassages 92 = .ok (.goto (-44), 3) := by decide +kernel
theorem dX8_laysPassages_95 : decode cX8_laysPassages 95 = .ok (.aload_n 0, 1) := by decide +kernel
theorem dX8_laysPassages_96 : decode cX8_laysPassages 96 = .ok (.getfield 61, 3) := by decide +kernel
theorem dX8_laysPassages_99 : decode cX8_laysPassages 99 = .ok (.bipush 16, 2) := by decide +kernel
theorem dX8_laysPassages_101 : decode cX8_laysPassages 101 = .ok (.iload_n 1, 1) := by decide +kernel
theorem dX8_laysPassages_102 : decode cX8_laysPassages 102 = .ok (.imul, 1) := by decide +kernel
theorem dX8_laysPassages_103 : decode cX8_laysPassages 103 = .ok (.iload_n 2, 1) := by decide +kernel
theorem dX8_laysPassages_104 : decode cX8_laysPassages 104 = .ok (.iadd, 1) := by decide +kernel
theorem dX8_laysPassages_105 : decode cX8_laysPassages 105 = .ok (.iload_n 3, 1) := by decide +kernel
theorem dX8_laysPassages_106 : decode cX8_laysPassages 106 = .ok (.iastore, 1) := by decide +kernel
theorem dX8_laysPassages_107 : decode cX8_laysPassages 107 = .ok (.iinc 2 1, 3) := by decide +kernel
theorem dX8_laysPassages_110 : decode cX8_laysPassages 110 = .ok (.goto (-76), 3) := by decide +kernel
theorem dX8_laysPassages_113 : decode cX8_laysPassages 113 = .ok (.iinc 1 1, 3) := by decide +kernel
theorem dX8_laysPassages_116 : decode cX8_laysPassages 116 = .ok (.goto (-97), 3) := by decide +kernel
theorem dX8_laysPassages_119 : decode cX8_laysPassages 119 = .ok (.return_, 1) := by decide +kernel
theorem dX8_passage_0 : decode cX8_passage 0 = .ok (.aload_n 0, 1) := by decide +kernel
theorem dX8_passage_1 : decode cX8_passage 1 = .ok (.iload_n 1, 1) := by decide +kernel
theorem dX8_passage_2 : decode cX8_passage 2 = .ok (.invokevirtual 210, 3) := by decide +kernel
theorem dX8_passage_5 : decode cX8_passage 5 = .ok (.ifCond .eq 11, 3) := by decide +kernel
theorem dX8_passage_8 : decode cX8_passage 8 = .ok (.aload_n 0, 1) := by decide +kernel
theorem dX8_passage_9 : decode cX8_passage 9 = .ok (.iload_n 2, 1) := by decide +kernel
theorem dX8_passage_10 : decode cX8_passage 10 = .ok (.invokevirtual 210, 3) := by decide +kernel
theorem dX8_passage_13 : decode cX8_passage 13 = .ok (.ifCond .ne 5, 3) := by decide +kernel
theorem dX8_passage_16 : decode cX8_passage 16 = .ok (.iconst (-1), 1) := by decide +kernel
theorem dX8_passage_17 : decode cX8_passage 17 = .ok (.ireturn, 1) := by decide +kernel
theorem dX8_passage_18 : decode cX8_passage 18 = .ok (.aload_n 0, 1) := by decide +kernel
theorem dX8_passage_19 : decode cX8_passage 19 = .ok (.invokevirtual 261, 3) := by decide +kernel
theorem dX8_passage_22 : decode cX8_passage 22 = .ok (.aload_n 0, 1) := by decide +kernel
theorem dX8_passage_23 : decode cX8_passage 23 = .ok (.getfield 61, 3) := by decide +kernel
theorem dX8_passage_26 : decode cX8_passage 26 = .ok (.bipush 16, 2) := by decide +kernel
theorem dX8_passage_28 : decode cX8_passage 28 = .ok (.iload_n 1, 1) := by decide +kernel
theorem dX8_passage_29 : decode cX8_passage 29 = .ok (.imul, 1) := by decide +kernel
theorem dX8_passage_30 : decode cX8_passage 30 = .ok (.iload_n 2, 1) := by decide +kernel
theorem dX8_passage_31 : decode cX8_passage 31 = .ok (.iadd, 1) := by decide +kernel
theorem dX8_passage_32 : decode cX8_passage 32 = .ok (.iaload, 1) := by decide +kernel
theorem dX8_passage_33 : decode cX8_passage 33 = .ok (.ireturn, 1) := by decide +kernel
theorem dX8_laysVersions_0 : decode cX8_laysVersions 0 = .ok (.aload_n 0, 1) := by decide +kernel
theorem dX8_laysVersions_1 : decode cX8_laysVersions 1 = .ok (.invokevirtual 261, 3) := by decide +kernel
theorem dX8_laysVersions_4 : decode cX8_laysVersions 4 = .ok (.aload_n 0, 1) := by decide +kernel
theorem dX8_laysVersions_5 : decode cX8_laysVersions 5 = .ok (.iconst 0, 1) := by decide +kernel
theorem dX8_laysVersions_6 : decode cX8_laysVersions 6 = .ok (.putfield 264, 3) := by decide +kernel
theorem dX8_laysVersions_9 : decode cX8_laysVersions 9 = .ok (.iconst 0, 1) := by decide +kernel
theorem dX8_laysVersions_10 : decode cX8_laysVersions 10 = .ok (.istore_n 1, 1) := by decide +kernel
theorem dX8_laysVersions_11 : decode cX8_laysVersions 11 = .ok (.iload_n 1, 1) := by decide +kernel
theorem dX8_laysVersions_12 : decode cX8_laysVersions 12 = .ok (.aload_n 0, 1) := by decide +kernel
theorem dX8_laysVersions_13 : decode cX8_laysVersions 13 = .ok (.getfield 172, 3) := by decide +kernel
theorem dX8_laysVersions_16 : decode cX8_laysVersions 16 = .ok (.if_icmp .ge 168, 3) := by decide +kernel
theorem dX8_laysVersions_19 : decode cX8_laysVersions 19 = .ok (.aload_n 0, 1) := by decide +kernel
theorem dX8_laysVersions_20 : decode cX8_laysVersions 20 = .ok (.getfield 25, 3) := by decide +kernel
theorem dX8_laysVersions_23 : decode cX8_laysVersions 23 = .ok (.iload_n 1, 1) := by decide +kernel
theorem dX8_laysVersions_24 : decode cX8_laysVersions 24 = .ok (.iaload, 1) := by decide +kernel
theorem dX8_laysVersions_25 : decode cX8_laysVersions 25 = .ok (.iconst 1, 1) := by decide +kernel
theorem dX8_laysVersions_26 : decode cX8_laysVersions 26 = .ok (.if_icmp .ne 23, 3) := by decide +kernel
theorem dX8_laysVersions_29 : decode cX8_laysVersions 29 = .ok (.aload_n 0, 1) := by decide +kernel
theorem dX8_laysVersions_30 : decode cX8_laysVersions 30 = .ok (.getfield 82, 3) := by decide +kernel
theorem dX8_laysVersions_33 : decode cX8_laysVersions 33 = .ok (.aload_n 0, 1) := by decide +kernel
theorem dX8_laysVersions_34 : decode cX8_laysVersions 34 = .ok (.getfield 264, 3) := by decide +kernel
theorem dX8_laysVersions_37 : decode cX8_laysVersions 37 = .ok (.iload_n 1, 1) := by decide +kernel
theorem dX8_laysVersions_38 : decode cX8_laysVersions 38 = .ok (.iastore, 1) := by decide +kernel
theorem dX8_laysVersions_39 : decode cX8_laysVersions 39 = .ok (.aload_n 0, 1) := by decide +kernel
theorem dX8_laysVersions_40 : decode cX8_laysVersions 40 = .ok (.dup, 1) := by decide +kernel
theorem dX8_laysVersions_41 : decode cX8_laysVersions 41 = .ok (.getfield 264, 3) := by decide +kernel
theorem dX8_laysVersions_44 : decode cX8_laysVersions 44 = .ok (.iconst 1, 1) := by decide +kernel
theorem dX8_laysVersions_45 : decode cX8_laysVersions 45 = .ok (.iadd, 1) := by decide +kernel
theorem dX8_laysVersions_46 : decode cX8_laysVersions 46 = .ok (.putfield 264, 3) := by decide +kernel
theorem dX8_laysVersions_49 : decode cX8_laysVersions 49 = .ok (.iconst 0, 1) := by decide +kernel
theorem dX8_laysVersions_50 : decode cX8_laysVersions 50 = .ok (.istore_n 2, 1) := by decide +kernel
theorem dX8_laysVersions_51 : decode cX8_laysVersions 51 = .ok (.iload_n 2, 1) := by decide +kernel
theorem dX8_laysVersions_52 : decode cX8_laysVersions 52 = .ok (.aload_n 0, 1) := by decide +kernel
theorem dX8_laysVersions_53 : decode cX8_laysVersions 53 = .ok (.getfield 200, 3) := by decide +kernel
theorem dX8_laysVersions_56 : decode cX8_laysVersions 56 = .ok (.if_icmp .ge 122, 3) := by decide +kernel
theorem dX8_laysVersions_59 : decode cX8_laysVersions 59 = .ok (.aload_n 0, 1) := by decide +kernel
theorem dX8_laysVersions_60 : decode cX8_laysVersions 60 = .ok (.getfield 22, 3) := by decide +kernel
theorem dX8_laysVersions_63 : decode cX8_laysVersions 63 = .ok (.iload_n 1, 1) := by decide +kernel
theorem dX8_laysVersions_64 : decode cX8_laysVersions 64 = .ok (.iaload, 1) := by decide +kernel
theorem dX8_laysVersions_65 : decode cX8_laysVersions 65 = .ok (.bipush (-4), 2) := by decide +kernel
theorem dX8_laysVersions_67 : decode cX8_laysVersions 67 = .ok (.if_icmp .eq 46, 3) := by decide +kernel
theorem dX8_laysVersions_70 : decode cX8_laysVersions 70 = .ok (.aload_n 0, 1) := by decide +kernel
theorem dX8_laysVersions_71 : decode cX8_laysVersions 71 = .ok (.getfield 52, 3) := by decide +kernel
theorem dX8_laysVersions_74 : decode cX8_laysVersions 74 = .ok (.iload_n 2, 1) := by decide +kernel
theorem dX8_laysVersions_75 : decode cX8_laysVersions 75 = .ok (.iaload, 1) := by decide +kernel
theorem dX8_laysVersions_76 : decode cX8_laysVersions 76 = .ok (.aload_n 0, 1) := by decide +kernel
theorem dX8_laysVersions_77 : decode cX8_laysVersions 77 = .ok (.getfield 22, 3) := by decide +kernel
theorem dX8_laysVersions_80 : decode cX8_laysVersions 80 = .ok (.iload_n 1, 1) := by decide +kernel
theorem dX8_laysVersions_81 : decode cX8_laysVersions 81 = .ok (.iaload, 1) := by decide +kernel
theorem dX8_laysVersions_82 : decode cX8_laysVersions 82 = .ok (.if_icmp .gt 31, 3) := by decide +kernel
theorem dX8_laysVersions_85 : decode cX8_laysVersions 85 = .ok (.iload_n 1, 1) := by decide +kernel
theorem dX8_laysVersions_86 : decode cX8_laysVersions 86 = .ok (.ifCond .gt 7, 3) := by decide +kernel
theorem dX8_laysVersions_89 : decode cX8_laysVersions 89 = .ok (.iload_n 2, 1) := by decide +kernel
theorem dX8_laysVersions_90 : decode cX8_laysVersions 90 = .ok (.ifCond .ne 23, 3) := by decide +kernel
theorem dX8_laysVersions_93 : decode cX8_laysVersions 93 = .ok (.aload_n 0, 1) := by decide +kernel
theorem dX8_laysVersions_94 : decode cX8_laysVersions 94 = .ok (.getfield 88, 3) := by decide +kernel
theorem dX8_laysVersions_97 : decode cX8_laysVersions 97 = .ok (.iload_n 1, 1) := by decide +kernel
theorem dX8_laysVersions_98 : decode cX8_laysVersions 98 = .ok (.if_icmp .ne 11, 3) := by decide +kernel
theorem dX8_laysVersions_101 : decode cX8_laysVersions 101 = .ok (.iload_n 2, 1) := by decide +kernel
theorem dX8_laysVersions_102 : decode cX8_laysVersions 102 = .ok (.aload_n 0, 1) := by decide +kernel
theorem dX8_laysVersions_103 : decode cX8_laysVersions 103 = .ok (.getfield 267, 3) := by decide +kernel
theorem dX8_laysVersions_106 : decode cX8_laysVersions 106 = .ok (.if_icmp .ne 7, 3) := by decide +kernel
theorem dX8_laysVersions_109 : decode cX8_laysVersions 109 = .ok (.iconst 1, 1) := by decide +kernel
theorem dX8_laysVersions_110 : decode cX8_laysVersions 110 = .ok (.goto 4, 3) := by decide +kernel
theorem dX8_laysVersions_113 : decode cX8_laysVersions 113 = .ok (.iconst 0, 1) := by decide +kernel
theorem dX8_laysVersions_114 : decode cX8_laysVersions 114 = .ok (.istore_n 3, 1) := by decide +kernel
theorem dX8_laysVersions_115 : decode cX8_laysVersions 115 = .ok (.aload_n 0, 1) := by decide +kernel
theorem dX8_laysVersions_116 : decode cX8_laysVersions 116 = .ok (.aload_n 0, 1) := by decide +kernel
theorem dX8_laysVersions_117 : decode cX8_laysVersions 117 = .ok (.getfield 16, 3) := by decide +kernel
theorem dX8_laysVersions_120 : decode cX8_laysVersions 120 = .ok (.iload_n 1, 1) := by decide +kernel
theorem dX8_laysVersions_121 : decode cX8_laysVersions 121 = .ok (.iaload, 1) := by decide +kernel
theorem dX8_laysVersions_122 : decode cX8_laysVersions 122 = .ok (.iload_n 2, 1) := by decide +kernel
theorem dX8_laysVersions_123 : decode cX8_laysVersions 123 = .ok (.invokevirtual 236, 3) := by decide +kernel
theorem dX8_laysVersions_126 : decode cX8_laysVersions 126 = .ok (.istore 4, 2) := by decide +kernel
theorem dX8_laysVersions_128 : decode cX8_laysVersions 128 = .ok (.aload_n 0, 1) := by decide +kernel
theorem dX8_laysVersions_129 : decode cX8_laysVersions 129 = .ok (.getfield 73, 3) := by decide +kernel
theorem dX8_laysVersions_132 : decode cX8_laysVersions 132 = .ok (.bipush 16, 2) := by decide +kernel
theorem dX8_laysVersions_134 : decode cX8_laysVersions 134 = .ok (.iload_n 1, 1) := by decide +kernel
theorem dX8_laysVersions_135 : decode cX8_laysVersions 135 = .ok (.imul, 1) := by decide +kernel
theorem dX8_laysVersions_136 : decode cX8_laysVersions 136 = .ok (.iload_n 2, 1) := by decide +kernel
theorem dX8_laysVersions_137 : decode cX8_laysVersions 137 = .ok (.iadd, 1) := by decide +kernel
theorem dX8_laysVersions_138 : decode cX8_laysVersions 138 = .ok (.iload_n 3, 1) := by decide +kernel
theorem dX8_laysVersions_139 : decode cX8_laysVersions 139 = .ok (.ifCond .eq 15, 3) := by decide +kernel
theorem dX8_laysVersions_142 : decode cX8_laysVersions 142 = .ok (.iload 4, 2) := by decide +kernel
theorem dX8_laysVersions_144 : decode cX8_laysVersions 144 = .ok (.ifCond .eq 10, 3) := by decide +kernel
theorem dX8_laysVersions_147 : decode cX8_laysVersions 147 = .ok (.aload_n 0, 1) := by decide +kernel
theorem dX8_laysVersions_148 : decode cX8_laysVersions 148 = .ok (.getfield 217, 3) := by decide +kernel
theorem dX8_laysVersions_151 : decode cX8_laysVersions 151 = .ok (.goto 5, 3) := by decide +kernel
theorem dX8_laysVersions_154 : decode cX8_laysVersions 154 = .ok (.bipush (-4), 2) := by decide +kernel
theorem dX8_laysVersions_156 : decode cX8_laysVersions 156 = .ok (.iastore, 1) := by decide +kernel
theorem dX8_laysVersions_157 : decode cX8_laysVersions 157 = .ok (.aload_n 0, 1) := by decide +kernel
theorem dX8_laysVersions_158 : decode cX8_laysVersions 158 = .ok (.getfield 76, 3) := by decide +kernel
theorem dX8_laysVersions_161 : decode cX8_laysVersions 161 = .ok (.bipush 16, 2) := by decide +kernel
theorem dX8_laysVersions_163 : decode cX8_laysVersions 163 = .ok (.iload_n 1, 1) := by decide +kernel
theorem dX8_laysVersions_164 : decode cX8_laysVersions 164 = .ok (.imul, 1) := by decide +kernel
theorem dX8_laysVersions_165 : decode cX8_laysVersions 165 = .ok (.iload_n 2, 1) := by decide +kernel
theorem dX8_laysVersions_166 : decode cX8_laysVersions 166 = .ok (.iadd, 1) := by decide +kernel
theorem dX8_laysVersions_167 : decode cX8_laysVersions 167 = .ok (.aload_n 0, 1) := by decide +kernel
theorem dX8_laysVersions_168 : decode cX8_laysVersions 168 = .ok (.getfield 226, 3) := by decide +kernel
theorem dX8_laysVersions_171 : decode cX8_laysVersions 171 = .ok (.iastore, 1) := by decide +kernel
theorem dX8_laysVersions_172 : decode cX8_laysVersions 172 = .ok (.iinc 2 1, 3) := by decide +kernel
theorem dX8_laysVersions_175 : decode cX8_laysVersions 175 = .ok (.goto (-124), 3) := by decide +kernel
theorem dX8_laysVersions_178 : decode cX8_laysVersions 178 = .ok (.iinc 1 1, 3) := by decide +kernel
theorem dX8_laysVersions_181 : decode cX8_laysVersions 181 = .ok (.goto (-170), 3) := by decide +kernel
theorem dX8_laysVersions_184 : decode cX8_laysVersions 184 = .ok (.return_, 1) := by decide +kernel
theorem dX8_onTo_0 : decode cX8_onTo 0 = .ok (.ldc 250, 2) := by decide +kernel
theorem dX8_onTo_2 : decode cX8_onTo 2 = .ok (.istore 4, 2) := by decide +kernel
theorem dX8_onTo_4 : decode cX8_onTo 4 = .ok (.aload_n 0, 1) := by decide +kernel
theorem dX8_onTo_5 : decode cX8_onTo 5 = .ok (.bipush (-4), 2) := by decide +kernel
theorem dX8_onTo_7 : decode cX8_onTo 7 = .ok (.putfield 270, 3) := by decide +kernel
theorem dX8_onTo_10 : decode cX8_onTo 10 = .ok (.iconst 0, 1) := by decide +kernel
theorem dX8_onTo_11 : decode cX8_onTo 11 = .ok (.istore 5, 2) := by decide +kernel
theorem dX8_onTo_13 : decode cX8_onTo 13 = .ok (.iload 5, 2) := by decide +kernel
theorem dX8_onTo_15 : decode cX8_onTo 15 = .ok (.aload_n 0, 1) := by decide +kernel
theorem dX8_onTo_16 : decode cX8_onTo 16 = .ok (.getfield 200, 3) := by decide +kernel
theorem dX8_onTo_19 : decode cX8_onTo 19 = .ok (.if_icmp .ge 108, 3) := by decide +kernel
theorem dX8_onTo_22 : decode cX8_onTo 22 = .ok (.aload_n 0, 1) := by decide +kernel
theorem dX8_onTo_23 : decode cX8_onTo 23 = .ok (.getfield 73, 3) := by decide +kernel
theorem dX8_onTo_26 : decode cX8_onTo 26 = .ok (.bipush 16, 2) := by decide +kernel
theorem dX8_onTo_28 : decode cX8_onTo 28 = .ok (.iload_n 1, 1) := by decide +kernel
theorem dX8_onTo_29 : decode cX8_onTo 29 = .ok (.imul, 1) := by decide +kernel
theorem dX8_onTo_30 : decode cX8_onTo 30 = .ok (.iload 5, 2) := by decide +kernel
theorem dX8_onTo_32 : decode cX8_onTo 32 = .ok (.iadd, 1) := by decide +kernel
theorem dX8_onTo_33 : decode cX8_onTo 33 = .ok (.iaload, 1) := by decide +kernel
theorem dX8_onTo_34 : decode cX8_onTo 34 = .ok (.bipush (-4), 2) := by decide +kernel
theorem dX8_onTo_36 : decode cX8_onTo 36 = .ok (.if_icmp .eq 85, 3) := by decide +kernel
theorem dX8_onTo_39 : decode cX8_onTo 39 = .ok (.aload_n 0, 1) := by decide +kernel
theorem dX8_onTo_40 : decode cX8_onTo 40 = .ok (.getfield 79, 3) := by decide +kernel
theorem dX8_onTo_43 : decode cX8_onTo 43 = .ok (.bipush 16, 2) := by decide +kernel
theorem dX8_onTo_45 : decode cX8_onTo 45 = .ok (.iload_n 1, 1) := by decide +kernel
theorem dX8_onTo_46 : decode cX8_onTo 46 = .ok (.imul, 1) := by decide +kernel
theorem dX8_onTo_47 : decode cX8_onTo 47 = .ok (.iload 5, 2) := by decide +kernel
theorem dX8_onTo_49 : decode cX8_onTo 49 = .ok (.iadd, 1) := by decide +kernel
theorem dX8_onTo_50 : decode cX8_onTo 50 = .ok (.iaload, 1) := by decide +kernel
theorem dX8_onTo_51 : decode cX8_onTo 51 = .ok (.ldc 250, 2) := by decide +kernel
theorem dX8_onTo_53 : decode cX8_onTo 53 = .ok (.if_icmp .ge 68, 3) := by decide +kernel
theorem dX8_onTo_56 : decode cX8_onTo 56 = .ok (.iload_n 3, 1) := by decide +kernel
theorem dX8_onTo_57 : decode cX8_onTo 57 = .ok (.aload_n 0, 1) := by decide +kernel
theorem dX8_onTo_58 : decode cX8_onTo 58 = .ok (.getfield 61, 3) := by decide +kernel
theorem dX8_onTo_61 : decode cX8_onTo 61 = .ok (.bipush 16, 2) := by decide +kernel
theorem dX8_onTo_63 : decode cX8_onTo 63 = .ok (.iload_n 2, 1) := by decide +kernel
theorem dX8_onTo_64 : decode cX8_onTo 64 = .ok (.imul, 1) := by decide +kernel
theorem dX8_onTo_65 : decode cX8_onTo 65 = .ok (.iload 5, 2) := by decide +kernel
theorem dX8_onTo_67 : decode cX8_onTo 67 = .ok (.iadd, 1) := by decide +kernel
theorem dX8_onTo_68 : decode cX8_onTo 68 = .ok (.iaload, 1) := by decide +kernel
theorem dX8_onTo_69 : decode cX8_onTo 69 = .ok (.imul, 1) := by decide +kernel
theorem dX8_onTo_70 : decode cX8_onTo 70 = .ok (.aload_n 0, 1) := by decide +kernel
theorem dX8_onTo_71 : decode cX8_onTo 71 = .ok (.getfield 79, 3) := by decide +kernel
theorem dX8_onTo_74 : decode cX8_onTo 74 = .ok (.bipush 16, 2) := by decide +kernel
theorem dX8_onTo_76 : decode cX8_onTo 76 = .ok (.iload_n 1, 1) := by decide +kernel
theorem dX8_onTo_77 : decode cX8_onTo 77 = .ok (.imul, 1) := by decide +kernel
theorem dX8_onTo_78 : decode cX8_onTo 78 = .ok (.iload 5, 2) := by decide +kernel
theorem dX8_onTo_80 : decode cX8_onTo 80 = .ok (.iadd, 1) := by decide +kernel
theorem dX8_onTo_81 : decode cX8_onTo 81 = .ok (.iaload, 1) := by decide +kernel
theorem dX8_onTo_82 : decode cX8_onTo 82 = .ok (.iadd, 1) := by decide +kernel
theorem dX8_onTo_83 : decode cX8_onTo 83 = .ok (.istore 6, 2) := by decide +kernel
theorem dX8_onTo_85 : decode cX8_onTo 85 = .ok (.aload_n 0, 1) := by decide +kernel
theorem dX8_onTo_86 : decode cX8_onTo 86 = .ok (.iload 6, 2) := by decide +kernel
theorem dX8_onTo_88 : decode cX8_onTo 88 = .ok (.iload 4, 2) := by decide +kernel
theorem dX8_onTo_90 : decode cX8_onTo 90 = .ok (.if_icmp .ge 8, 3) := by decide +kernel
theorem dX8_onTo_93 : decode cX8_onTo 93 = .ok (.iload 5, 2) := by decide +kernel
theorem dX8_onTo_95 : decode cX8_onTo 95 = .ok (.goto 7, 3) := by decide +kernel
theorem dX8_onTo_98 : decode cX8_onTo 98 = .ok (.aload_n 0, 1) := by decide +kernel
theorem dX8_onTo_99 : decode cX8_onTo 99 = .ok (.getfield 270, 3) := by decide +kernel
theorem dX8_onTo_102 : decode cX8_onTo 102 = .ok (.putfield 270, 3) := by decide +kernel
theorem dX8_onTo_105 : decode cX8_onTo 105 = .ok (.iload 6, 2) := by decide +kernel
theorem dX8_onTo_107 : decode cX8_onTo 107 = .ok (.iload 4, 2) := by decide +kernel
theorem dX8_onTo_109 : decode cX8_onTo 109 = .ok (.if_icmp .ge 8, 3) := by decide +kernel
theorem dX8_onTo_112 : decode cX8_onTo 112 = .ok (.iload 6, 2) := by decide +kernel
theorem dX8_onTo_114 : decode cX8_onTo 114 = .ok (.goto 5, 3) := by decide +kernel
theorem dX8_onTo_117 : decode cX8_onTo 117 = .ok (.iload 4, 2) := by decide +kernel
theorem dX8_onTo_119 : decode cX8_onTo 119 = .ok (.istore 4, 2) := by decide +kernel
theorem dX8_onTo_121 : decode cX8_onTo 121 = .ok (.iinc 5 1, 3) := by decide +kernel
theorem dX8_onTo_124 : decode cX8_onTo 124 = .ok (.goto (-111), 3) := by decide +kernel
theorem dX8_onTo_127 : decode cX8_onTo 127 = .ok (.iload 4, 2) := by decide +kernel
theorem dX8_onTo_129 : decode cX8_onTo 129 = .ok (.ireturn, 1) := by decide +kernel
theorem dX8_leastOf_0 : decode cX8_leastOf 0 = .ok (.aload_n 0, 1) := by decide +kernel
theorem dX8_leastOf_1 : decode cX8_leastOf 1 = .ok (.getfield 7, 3) := by decide +kernel
theorem dX8_leastOf_4 : decode cX8_leastOf 4 = .ok (.iconst 4, 1) := by decide +kernel
theorem dX8_leastOf_5 : decode cX8_leastOf 5 = .ok (.iload_n 1, 1) := by decide +kernel
theorem dX8_leastOf_6 : decode cX8_leastOf 6 = .ok (.iadd, 1) := by decide +kernel
theorem dX8_leastOf_7 : decode cX8_leastOf 7 = .ok (.iaload, 1) := by decide +kernel
theorem dX8_leastOf_8 : decode cX8_leastOf 8 = .ok (.istore_n 3, 1) := by decide +kernel
theorem dX8_leastOf_9 : decode cX8_leastOf 9 = .ok (.aload_n 0, 1) := by decide +kernel
theorem dX8_leastOf_10 : decode cX8_leastOf 10 = .ok (.getfield 73, 3) := by decide +kernel
theorem dX8_leastOf_13 : decode cX8_leastOf 13 = .ok (.bipush 16, 2) := by decide +kernel
theorem dX8_leastOf_15 : decode cX8_leastOf 15 = .ok (.iload_n 1, 1) := by decide +kernel
theorem dX8_leastOf_16 : decode cX8_leastOf 16 = .ok (.imul, 1) := by decide +kernel
theorem dX8_leastOf_17 : decode cX8_leastOf 17 = .ok (.iload_n 2, 1) := by decide +kernel
theorem dX8_leastOf_18 : decode cX8_leastOf 18 = .ok (.iadd, 1) := by decide +kernel
theorem dX8_leastOf_19 : decode cX8_leastOf 19 = .ok (.iaload, 1) := by decide +kernel
theorem dX8_leastOf_20 : decode cX8_leastOf 20 = .ok (.istore 4, 2) := by decide +kernel
theorem dX8_leastOf_22 : decode cX8_leastOf 22 = .ok (.iload_n 3, 1) := by decide +kernel
theorem dX8_leastOf_23 : decode cX8_leastOf 23 = .ok (.aload_n 0, 1) := by decide +kernel
theorem dX8_leastOf_24 : decode cX8_leastOf 24 = .ok (.getfield 76, 3) := by decide +kernel
theorem dX8_leastOf_27 : decode cX8_leastOf 27 = .ok (.bipush 16, 2) := by decide +kernel
theorem dX8_leastOf_29 : decode cX8_leastOf 29 = .ok (.iload_n 1, 1) := by decide +kernel
theorem dX8_leastOf_30 : decode cX8_leastOf 30 = .ok (.imul, 1) := by decide +kernel
theorem dX8_leastOf_31 : decode cX8_leastOf 31 = .ok (.iload_n 2, 1) := by decide +kernel
theorem dX8_leastOf_32 : decode cX8_leastOf 32 = .ok (.iadd, 1) := by decide +kernel
theorem dX8_leastOf_33 : decode cX8_leastOf 33 = .ok (.iaload, 1) := by decide +kernel
theorem dX8_leastOf_34 : decode cX8_leastOf 34 = .ok (.imul, 1) := by decide +kernel
theorem dX8_leastOf_35 : decode cX8_leastOf 35 = .ok (.istore 5, 2) := by decide +kernel
theorem dX8_leastOf_37 : decode cX8_leastOf 37 = .ok (.aload_n 0, 1) := by decide +kernel
theorem dX8_leastOf_38 : decode cX8_leastOf 38 = .ok (.getfield 16, 3) := by decide +kernel
theorem dX8_leastOf_41 : decode cX8_leastOf 41 = .ok (.iload_n 1, 1) := by decide +kernel
theorem dX8_leastOf_42 : decode cX8_leastOf 42 = .ok (.iaload, 1) := by decide +kernel
theorem dX8_leastOf_43 : decode cX8_leastOf 43 = .ok (.invokestatic 146, 3) := by decide +kernel
theorem dX8_leastOf_46 : decode cX8_leastOf 46 = .ok (.ifCond .eq 32, 3) := by decide +kernel
theorem dX8_leastOf_49 : decode cX8_leastOf 49 = .ok (.iload 5, 2) := by decide +kernel
theorem dX8_leastOf_51 : decode cX8_leastOf 51 = .ok (.iload_n 3, 1) := by decide +kernel
theorem dX8_leastOf_52 : decode cX8_leastOf 52 = .ok (.aload_n 0, 1) := by decide +kernel
theorem dX8_leastOf_53 : decode cX8_leastOf 53 = .ok (.getfield 61, 3) := by decide +kernel
theorem dX8_leastOf_56 : decode cX8_leastOf 56 = .ok (.bipush 16, 2) := by decide +kernel
theorem dX8_leastOf_58 : decode cX8_leastOf 58 = .ok (.iload 4, 2) := by decide +kernel
theorem dX8_leastOf_60 : decode cX8_leastOf 60 = .ok (.imul, 1) := by decide +kernel
theorem dX8_leastOf_61 : decode cX8_leastOf 61 = .ok (.aload_n 0, 1) := by decide +kernel
theorem dX8_leastOf_62 : decode cX8_leastOf 62 = .ok (.getfield 85, 3) := by decide +kernel
theorem dX8_leastOf_65 : decode cX8_leastOf 65 = .ok (.aload_n 0, 1) := by decide +kernel
theorem dX8_leastOf_66 : decode cX8_leastOf 66 = .ok (.getfield 19, 3) := by decide +kernel
theorem dX8_leastOf_69 : decode cX8_leastOf 69 = .ok (.iload_n 1, 1) := by decide +kernel
theorem dX8_leastOf_70 : decode cX8_leastOf 70 = .ok (.iaload, 1) := by decide +kernel
theorem dX8_leastOf_71 : decode cX8_leastOf 71 = .ok (.iaload, 1) := by decide +kernel
theorem dX8_leastOf_72 : decode cX8_leastOf 72 = .ok (.iadd, 1) := by decide +kernel
theorem dX8_leastOf_73 : decode cX8_leastOf 73 = .ok (.iaload, 1) := by decide +kernel
theorem dX8_leastOf_74 : decode cX8_leastOf 74 = .ok (.imul, 1) := by decide +kernel
theorem dX8_leastOf_75 : decode cX8_leastOf 75 = .ok (.iadd, 1) := by decide +kernel
theorem dX8_leastOf_76 : decode cX8_leastOf 76 = .ok (.istore 5, 2) := by decide +kernel
theorem dX8_leastOf_78 : decode cX8_leastOf 78 = .ok (.aload_n 0, 1) := by decide +kernel
theorem dX8_leastOf_79 : decode cX8_leastOf 79 = .ok (.getfield 16, 3) := by decide +kernel
theorem dX8_leastOf_82 : decode cX8_leastOf 82 = .ok (.aload_n 0, 1) := by decide +kernel
theorem dX8_leastOf_83 : decode cX8_leastOf 83 = .ok (.getfield 19, 3) := by decide +kernel
theorem dX8_leastOf_86 : decode cX8_leastOf 86 = .ok (.iload_n 1, 1) := by decide +kernel
theorem dX8_leastOf_87 : decode cX8_leastOf 87 = .ok (.iconst 0, 1) := by decide +kernel
theorem dX8_leastOf_88 : decode cX8_leastOf 88 = .ok (.aload_n 0, 1) := by decide +kernel
theorem dX8_leastOf_89 : decode cX8_leastOf 89 = .ok (.getfield 172, 3) := by decide +kernel
theorem dX8_leastOf_92 : decode cX8_leastOf 92 = .ok (.invokestatic 158, 3) := by decide +kernel
theorem dX8_leastOf_95 : decode cX8_leastOf 95 = .ok (.istore 6, 2) := by decide +kernel
theorem dX8_leastOf_97 : decode cX8_leastOf 97 = .ok (.iload 6, 2) := by decide +kernel
theorem dX8_leastOf_99 : decode cX8_leastOf 99 = .ok (.bipush (-4), 2) := by decide +kernel
theorem dX8_leastOf_101 : decode cX8_leastOf 101 = .ok (.if_icmp .ne 6, 3) := by decide +kernel
theorem dX8_leastOf_104 : decode cX8_leastOf 104 = .ok (.iload 5, 2) := by decide +kernel
theorem dX8_leastOf_106 : decode cX8_leastOf 106 = .ok (.ireturn, 1) := by decide +kernel
theorem dX8_leastOf_107 : decode cX8_leastOf 107 = .ok (.aload_n 0, 1) := by decide +kernel
theorem dX8_leastOf_108 : decode cX8_leastOf 108 = .ok (.getfield 25, 3) := by decide +kernel
theorem dX8_leastOf_111 : decode cX8_leastOf 111 = .ok (.iload 6, 2) := by decide +kernel
theorem dX8_leastOf_113 : decode cX8_leastOf 113 = .ok (.iaload, 1) := by decide +kernel
theorem dX8_leastOf_114 : decode cX8_leastOf 114 = .ok (.iconst 1, 1) := by decide +kernel
theorem dX8_leastOf_115 : decode cX8_leastOf 115 = .ok (.if_icmp .ne 27, 3) := by decide +kernel
theorem dX8_leastOf_118 : decode cX8_leastOf 118 = .ok (.iload 5, 2) := by decide +kernel
theorem dX8_leastOf_120 : decode cX8_leastOf 120 = .ok (.iload_n 3, 1) := by decide +kernel
theorem dX8_leastOf_121 : decode cX8_leastOf 121 = .ok (.aload_n 0, 1) := by decide +kernel
theorem dX8_leastOf_122 : decode cX8_leastOf 122 = .ok (.getfield 61, 3) := by decide +kernel
theorem dX8_leastOf_125 : decode cX8_leastOf 125 = .ok (.bipush 16, 2) := by decide +kernel
theorem dX8_leastOf_127 : decode cX8_leastOf 127 = .ok (.iload 4, 2) := by decide +kernel
theorem dX8_leastOf_129 : decode cX8_leastOf 129 = .ok (.imul, 1) := by decide +kernel
theorem dX8_leastOf_130 : decode cX8_leastOf 130 = .ok (.aload_n 0, 1) := by decide +kernel
theorem dX8_leastOf_131 : decode cX8_leastOf 131 = .ok (.getfield 85, 3) := by decide +kernel
theorem dX8_leastOf_134 : decode cX8_leastOf 134 = .ok (.iload 6, 2) := by decide +kernel
theorem dX8_leastOf_136 : decode cX8_leastOf 136 = .ok (.iaload, 1) := by decide +kernel
theorem dX8_leastOf_137 : decode cX8_leastOf 137 = .ok (.iadd, 1) := by decide +kernel
theorem dX8_leastOf_138 : decode cX8_leastOf 138 = .ok (.iaload, 1) := by decide +kernel
theorem dX8_leastOf_139 : decode cX8_leastOf 139 = .ok (.imul, 1) := by decide +kernel
theorem dX8_leastOf_140 : decode cX8_leastOf 140 = .ok (.iadd, 1) := by decide +kernel
theorem dX8_leastOf_141 : decode cX8_leastOf 141 = .ok (.ireturn, 1) := by decide +kernel
theorem dX8_leastOf_142 : decode cX8_leastOf 142 = .ok (.aload_n 0, 1) := by decide +kernel
theorem dX8_leastOf_143 : decode cX8_leastOf 143 = .ok (.iload 6, 2) := by decide +kernel
theorem dX8_leastOf_145 : decode cX8_leastOf 145 = .ok (.iload 4, 2) := by decide +kernel
theorem dX8_leastOf_147 : decode cX8_leastOf 147 = .ok (.iload_n 3, 1) := by decide +kernel
theorem dX8_leastOf_148 : decode cX8_leastOf 148 = .ok (.invokevirtual 273, 3) := by decide +kernel
theorem dX8_leastOf_151 : decode cX8_leastOf 151 = .ok (.istore 7, 2) := by decide +kernel
theorem dX8_leastOf_153 : decode cX8_leastOf 153 = .ok (.iload 7, 2) := by decide +kernel
theorem dX8_leastOf_155 : decode cX8_leastOf 155 = .ok (.ldc 250, 2) := by decide +kernel
theorem dX8_leastOf_157 : decode cX8_leastOf 157 = .ok (.if_icmp .ne 8, 3) := by decide +kernel
theorem dX8_leastOf_160 : decode cX8_leastOf 160 = .ok (.ldc 250, 2) := by decide +kernel
theorem dX8_leastOf_162 : decode cX8_leastOf 162 = .ok (.goto 8, 3) := by decide +kernel
theorem dX8_leastOf_165 : decode cX8_leastOf 165 = .ok (.iload 5, 2) := by decide +kernel
theorem dX8_leastOf_167 : decode cX8_leastOf 167 = .ok (.iload 7, 2) := by decide +kernel
theorem dX8_leastOf_169 : decode cX8_leastOf 169 = .ok (.iadd, 1) := by decide +kernel
theorem dX8_leastOf_170 : decode cX8_leastOf 170 = .ok (.ireturn, 1) := by decide +kernel
theorem dX8_total_0 : decode cX8_total 0 = .ok (.aload_n 0, 1) := by decide +kernel
theorem dX8_total_1 : decode cX8_total 1 = .ok (.getfield 172, 3) := by decide +kernel
theorem dX8_total_4 : decode cX8_total 4 = .ok (.iconst 1, 1) := by decide +kernel
theorem dX8_total_5 : decode cX8_total 5 = .ok (.isub, 1) := by decide +kernel
theorem dX8_total_6 : decode cX8_total 6 = .ok (.istore_n 1, 1) := by decide +kernel
theorem dX8_total_7 : decode cX8_total 7 = .ok (.iload_n 1, 1) := by decide +kernel
theorem dX8_total_8 : decode cX8_total 8 = .ok (.ifCond .lt 63, 3) := by decide +kernel
theorem dX8_total_11 : decode cX8_total 11 = .ok (.iconst 0, 1) := by decide +kernel
theorem dX8_total_12 : decode cX8_total 12 = .ok (.istore_n 2, 1) := by decide +kernel
theorem dX8_total_13 : decode cX8_total 13 = .ok (.iload_n 2, 1) := by decide +kernel
theorem dX8_total_14 : decode cX8_total 14 = .ok (.aload_n 0, 1) := by decide +kernel
theorem dX8_total_15 : decode cX8_total 15 = .ok (.getfield 200, 3) := by decide +kernel
theorem dX8_total_18 : decode cX8_total 18 = .ok (.if_icmp .ge 47, 3) := by decide +kernel
theorem dX8_total_21 : decode cX8_total 21 = .ok (.aload_n 0, 1) := by decide +kernel
theorem dX8_total_22 : decode cX8_total 22 = .ok (.getfield 79, 3) := by decide +kernel
theorem dX8_total_25 : decode cX8_total 25 = .ok (.bipush 16, 2) := by decide +kernel
theorem dX8_total_27 : decode cX8_total 27 = .ok (.iload_n 1, 1) := by decide +kernel
theorem dX8_total_28 : decode cX8_total 28 = .ok (.imul, 1) := by decide +kernel
theorem dX8_total_29 : decode cX8_total 29 = .ok (.iload_n 2, 1) := by decide +kernel
theorem dX8_total_30 : decode cX8_total 30 = .ok (.iadd, 1) := by decide +kernel
theorem dX8_total_31 : decode cX8_total 31 = .ok (.aload_n 0, 1) := by decide +kernel
theorem dX8_total_32 : decode cX8_total 32 = .ok (.getfield 73, 3) := by decide +kernel
theorem dX8_total_35 : decode cX8_total 35 = .ok (.bipush 16, 2) := by decide +kernel
theorem dX8_total_37 : decode cX8_total 37 = .ok (.iload_n 1, 1) := by decide +kernel
theorem dX8_total_38 : decode cX8_total 38 = .ok (.imul, 1) := by decide +kernel
theorem dX8_total_39 : decode cX8_total 39 = .ok (.iload_n 2, 1) := by decide +kernel
theorem dX8_total_40 : decode cX8_total 40 = .ok (.iadd, 1) := by decide +kernel
theorem dX8_total_41 : decode cX8_total 41 = .ok (.iaload, 1) := by decide +kernel
theorem dX8_total_42 : decode cX8_total 42 = .ok (.bipush (-4), 2) := by decide +kernel
theorem dX8_total_44 : decode cX8_total 44 = .ok (.if_icmp .ne 8, 3) := by decide +kernel
theorem dX8_total_47 : decode cX8_total 47 = .ok (.ldc 250, 2) := by decide +kernel
theorem dX8_total_49 : decode cX8_total 49 = .ok (.goto 9, 3) := by decide +kernel
theorem dX8_total_52 : decode cX8_total 52 = .ok (.aload_n 0, 1) := by decide +kernel
theorem dX8_total_53 : decode cX8_total 53 = .ok (.iload_n 1, 1) := by decide +kernel
theorem dX8_total_54 : decode cX8_total 54 = .ok (.iload_n 2, 1) := by decide +kernel
theorem dX8_total_55 : decode cX8_total 55 = .ok (.invokevirtual 276, 3) := by decide +kernel
theorem dX8_total_58 : decode cX8_total 58 = .ok (.iastore, 1) := by decide +kernel
theorem dX8_total_59 : decode cX8_total 59 = .ok (.iinc 2 1, 3) := by decide +kernel
theorem dX8_total_62 : decode cX8_total 62 = .ok (.goto (-49), 3) := by decide +kernel
theorem dX8_total_65 : decode cX8_total 65 = .ok (.iinc 1 (-1), 3) := by decide +kernel
theorem dX8_total_68 : decode cX8_total 68 = .ok (.goto (-61), 3) := by decide +kernel
theorem dX8_total_71 : decode cX8_total 71 = .ok (.aload_n 0, 1) := by decide +kernel
theorem dX8_total_72 : decode cX8_total 72 = .ok (.getfield 79, 3) := by decide +kernel
theorem dX8_total_75 : decode cX8_total 75 = .ok (.iconst 0, 1) := by decide +kernel
theorem dX8_total_76 : decode cX8_total 76 = .ok (.iaload, 1) := by decide +kernel
theorem dX8_total_77 : decode cX8_total 77 = .ok (.istore_n 1, 1) := by decide +kernel
theorem dX8_total_78 : decode cX8_total 78 = .ok (.iconst 0, 1) := by decide +kernel
theorem dX8_total_79 : decode cX8_total 79 = .ok (.istore_n 2, 1) := by decide +kernel
theorem dX8_total_80 : decode cX8_total 80 = .ok (.iload_n 2, 1) := by decide +kernel
theorem dX8_total_81 : decode cX8_total 81 = .ok (.aload_n 0, 1) := by decide +kernel
theorem dX8_total_82 : decode cX8_total 82 = .ok (.getfield 264, 3) := by decide +kernel
theorem dX8_total_85 : decode cX8_total 85 = .ok (.if_icmp .ge 70, 3) := by decide +kernel
theorem dX8_total_88 : decode cX8_total 88 = .ok (.aload_n 0, 1) := by decide +kernel
theorem dX8_total_89 : decode cX8_total 89 = .ok (.getfield 79, 3) := by decide +kernel
theorem dX8_total_92 : decode cX8_total 92 = .ok (.bipush 16, 2) := by decide +kernel
theorem dX8_total_94 : decode cX8_total 94 = .ok (.aload_n 0, 1) := by decide +kernel
theorem dX8_total_95 : decode cX8_total 95 = .ok (.getfield 82, 3) := by decide +kernel
theorem dX8_total_98 : decode cX8_total 98 = .ok (.iload_n 2, 1) := by decide +kernel
theorem dX8_total_99 : decode cX8_total 99 = .ok (.iaload, 1) := by decide +kernel
theorem dX8_total_100 : decode cX8_total 100 = .ok (.imul, 1) := by decide +kernel
theorem dX8_total_101 : decode cX8_total 101 = .ok (.aload_n 0, 1) := by decide +kernel
theorem dX8_total_102 : decode cX8_total 102 = .ok (.getfield 85, 3) := by decide +kernel
theorem dX8_total_105 : decode cX8_total 105 = .ok (.aload_n 0, 1) := by decide +kernel
theorem dX8_total_106 : decode cX8_total 106 = .ok (.getfield 82, 3) := by decide +kernel
theorem dX8_total_109 : decode cX8_total 109 = .ok (.iload_n 2, 1) := by decide +kernel
theorem dX8_total_110 : decode cX8_total 110 = .ok (.iaload, 1) := by decide +kernel
theorem dX8_total_111 : decode cX8_total 111 = .ok (.iaload, 1) := by decide +kernel
theorem dX8_total_112 : decode cX8_total 112 = .ok (.iadd, 1) := by decide +kernel
theorem dX8_total_113 : decode cX8_total 113 = .ok (.iaload, 1) := by decide +kernel
theorem dX8_total_114 : decode cX8_total 114 = .ok (.istore_n 3, 1) := by decide +kernel
theorem dX8_total_115 : decode cX8_total 115 = .ok (.iload_n 1, 1) := by decide +kernel
theorem dX8_total_116 : decode cX8_total 116 = .ok (.ldc 250, 2) := by decide +kernel
theorem dX8_total_118 : decode cX8_total 118 = .ok (.if_icmp .eq 9, 3) := by decide +kernel
theorem dX8_total_121 : decode cX8_total 121 = .ok (.iload_n 3, 1) := by decide +kernel
theorem dX8_total_122 : decode cX8_total 122 = .ok (.ldc 250, 2) := by decide +kernel
theorem dX8_total_124 : decode cX8_total 124 = .ok (.if_icmp .ne 8, 3) := by decide +kernel
theorem dX8_total_127 : decode cX8_total 127 = .ok (.ldc 250, 2) := by decide +kernel
theorem dX8_total_129 : decode cX8_total 129 = .ok (.goto 19, 3) := by decide +kernel
theorem dX8_total_132 : decode cX8_total 132 = .ok (.aload_n 0, 1) := by decide +kernel
theorem dX8_total_133 : decode cX8_total 133 = .ok (.getfield 82, 3) := by decide +kernel
theorem dX8_total_136 : decode cX8_total 136 = .ok (.iload_n 2, 1) := by decide +kernel
theorem dX8_total_137 : decode cX8_total 137 = .ok (.iaload, 1) := by decide +kernel
theorem dX8_total_138 : decode cX8_total 138 = .ok (.ifCond .ne 7, 3) := by decide +kernel
theorem dX8_total_141 : decode cX8_total 141 = .ok (.iload_n 1, 1) := by decide +kernel
theorem dX8_total_142 : decode cX8_total 142 = .ok (.goto 6, 3) := by decide +kernel
theorem dX8_total_145 : decode cX8_total 145 = .ok (.iload_n 1, 1) := by decide +kernel
theorem dX8_total_146 : decode cX8_total 146 = .ok (.iload_n 3, 1) := by decide +kernel
theorem dX8_total_147 : decode cX8_total 147 = .ok (.iadd, 1) := by decide +kernel
theorem dX8_total_148 : decode cX8_total 148 = .ok (.istore_n 1, 1) := by decide +kernel
theorem dX8_total_149 : decode cX8_total 149 = .ok (.iinc 2 1, 3) := by decide +kernel
theorem dX8_total_152 : decode cX8_total 152 = .ok (.goto (-72), 3) := by decide +kernel
theorem dX8_total_155 : decode cX8_total 155 = .ok (.iload_n 1, 1) := by decide +kernel
theorem dX8_total_156 : decode cX8_total 156 = .ok (.ireturn, 1) := by decide +kernel
theorem dX8_search_0 : decode cX8_search 0 = .ok (.aload_n 0, 1) := by decide +kernel
theorem dX8_search_1 : decode cX8_search 1 = .ok (.invokevirtual 279, 3) := by decide +kernel
theorem dX8_search_4 : decode cX8_search 4 = .ok (.ldc 250, 2) := by decide +kernel
theorem dX8_search_6 : decode cX8_search 6 = .ok (.istore_n 1, 1) := by decide +kernel
theorem dX8_search_7 : decode cX8_search 7 = .ok (.iconst 0, 1) := by decide +kernel
theorem dX8_search_8 : decode cX8_search 8 = .ok (.istore_n 2, 1) := by decide +kernel
theorem dX8_search_9 : decode cX8_search 9 = .ok (.iconst 0, 1) := by decide +kernel
theorem dX8_search_10 : decode cX8_search 10 = .ok (.istore_n 3, 1) := by decide +kernel
theorem dX8_search_11 : decode cX8_search 11 = .ok (.iconst 0, 1) := by decide +kernel
theorem dX8_search_12 : decode cX8_search 12 = .ok (.istore 4, 2) := by decide +kernel
theorem dX8_search_14 : decode cX8_search 14 = .ok (.iload 4, 2) := by decide +kernel
theorem dX8_search_16 : decode cX8_search 16 = .ok (.aload_n 0, 1) := by decide +kernel
theorem dX8_search_17 : decode cX8_search 17 = .ok (.getfield 264, 3) := by decide +kernel
theorem dX8_search_20 : decode cX8_search 20 = .ok (.ifCond .le 10, 3) := by decide +kernel
theorem dX8_search_23 : decode cX8_search 23 = .ok (.aload_n 0, 1) := by decide +kernel
theorem dX8_search_24 : decode cX8_search 24 = .ok (.getfield 200, 3) := by decide +kernel
theorem dX8_search_27 : decode cX8_search 27 = .ok (.goto 4, 3) := by decide +kernel
theorem dX8_search_30 : decode cX8_search 30 = .ok (.iconst 1, 1) := by decide +kernel
theorem dX8_search_31 : decode cX8_search 31 = .ok (.if_icmp .ge 201, 3) := by decide +kernel
theorem dX8_search_34 : decode cX8_search 34 = .ok (.iconst 0, 1) := by decide +kernel
theorem dX8_search_35 : decode cX8_search 35 = .ok (.istore 5, 2) := by decide +kernel
theorem dX8_search_37 : decode cX8_search 37 = .ok (.iload 5, 2) := by decide +kernel
theorem dX8_search_39 : decode cX8_search 39 = .ok (.aload_n 0, 1) := by decide +kernel
theorem dX8_search_40 : decode cX8_search 40 = .ok (.getfield 264, 3) := by decide +kernel
theorem dX8_search_43 : decode cX8_search 43 = .ok (.iconst 1, 1) := by decide +kernel
theorem dX8_search_44 : decode cX8_search 44 = .ok (.if_icmp .le 10, 3) := by decide +kernel
theorem dX8_search_47 : decode cX8_search 47 = .ok (.aload_n 0, 1) := by decide +kernel
theorem dX8_search_48 : decode cX8_search 48 = .ok (.getfield 200, 3) := by decide +kernel
theorem dX8_search_51 : decode cX8_search 51 = .ok (.goto 4, 3) := by decide +kernel
theorem dX8_search_54 : decode cX8_search 54 = .ok (.iconst 1, 1) := by decide +kernel
theorem dX8_search_55 : decode cX8_search 55 = .ok (.if_icmp .ge 171, 3) := by decide +kernel
theorem dX8_search_58 : decode cX8_search 58 = .ok (.aload_n 0, 1) := by decide +kernel
theorem dX8_search_59 : decode cX8_search 59 = .ok (.getfield 264, 3) := by decide +kernel
theorem dX8_search_62 : decode cX8_search 62 = .ok (.iconst 1, 1) := by decide +kernel
theorem dX8_search_63 : decode cX8_search 63 = .ok (.if_icmp .lt 25, 3) := by decide +kernel
theorem dX8_search_66 : decode cX8_search 66 = .ok (.aload_n 0, 1) := by decide +kernel
theorem dX8_search_67 : decode cX8_search 67 = .ok (.getfield 73, 3) := by decide +kernel
theorem dX8_search_70 : decode cX8_search 70 = .ok (.bipush 16, 2) := by decide +kernel
theorem dX8_search_72 : decode cX8_search 72 = .ok (.aload_n 0, 1) := by decide +kernel
theorem dX8_search_73 : decode cX8_search 73 = .ok (.getfield 82, 3) := by decide +kernel
theorem dX8_search_76 : decode cX8_search 76 = .ok (.iconst 0, 1) := by decide +kernel
theorem dX8_search_77 : decode cX8_search 77 = .ok (.iaload, 1) := by decide +kernel
theorem dX8_search_78 : decode cX8_search 78 = .ok (.imul, 1) := by decide +kernel
theorem dX8_search_79 : decode cX8_search 79 = .ok (.iload 4, 2) := by decide +kernel
theorem dX8_search_81 : decode cX8_search 81 = .ok (.iadd, 1) := by decide +kernel
theorem dX8_search_82 : decode cX8_search 82 = .ok (.iaload, 1) := by decide +kernel
theorem dX8_search_83 : decode cX8_search 83 = .ok (.bipush (-4), 2) := by decide +kernel
theorem dX8_search_85 : decode cX8_search 85 = .ok (.if_icmp .eq 37, 3) := by decide +kernel
theorem dX8_search_88 : decode cX8_search 88 = .ok (.aload_n 0, 1) := by decide +kernel
theorem dX8_search_89 : decode cX8_search 89 = .ok (.getfield 264, 3) := by decide +kernel
theorem dX8_search_92 : decode cX8_search 92 = .ok (.iconst 2, 1) := by decide +kernel
theorem dX8_search_93 : decode cX8_search 93 = .ok (.if_icmp .lt 25, 3) := by decide +kernel
theorem dX8_search_96 : decode cX8_search 96 = .ok (.aload_n 0, 1) := by decide +kernel
theorem dX8_search_97 : decode cX8_search 97 = .ok (.getfield 73, 3) := by decide +kernel
theorem dX8_search_100 : decode cX8_search 100 = .ok (.bipush 16, 2) := by decide +kernel
theorem dX8_search_102 : decode cX8_search 102 = .ok (.aload_n 0, 1) := by decide +kernel
theorem dX8_search_103 : decode cX8_search 103 = .ok (.getfield 82, 3) := by decide +kernel
theorem dX8_search_106 : decode cX8_search 106 = .ok (.iconst 1, 1) := by decide +kernel
theorem dX8_search_107 : decode cX8_search 107 = .ok (.iaload, 1) := by decide +kernel
theorem dX8_search_108 : decode cX8_search 108 = .ok (.imul, 1) := by decide +kernel
theorem dX8_search_109 : decode cX8_search 109 = .ok (.iload 5, 2) := by decide +kernel
theorem dX8_search_111 : decode cX8_search 111 = .ok (.iadd, 1) := by decide +kernel
theorem dX8_search_112 : decode cX8_search 112 = .ok (.iaload, 1) := by decide +kernel
theorem dX8_search_113 : decode cX8_search 113 = .ok (.bipush (-4), 2) := by decide +kernel
theorem dX8_search_115 : decode cX8_search 115 = .ok (.if_icmp .eq 7, 3) := by decide +kernel
theorem dX8_search_118 : decode cX8_search 118 = .ok (.iconst 1, 1) := by decide +kernel
theorem dX8_search_119 : decode cX8_search 119 = .ok (.goto 4, 3) := by decide +kernel
theorem dX8_search_122 : decode cX8_search 122 = .ok (.iconst 0, 1) := by decide +kernel
theorem dX8_search_123 : decode cX8_search 123 = .ok (.istore 6, 2) := by decide +kernel
theorem dX8_search_125 : decode cX8_search 125 = .ok (.iload 6, 2) := by decide +kernel
theorem dX8_search_127 : decode cX8_search 127 = .ok (.ifCond .eq 93, 3) := by decide +kernel
theorem dX8_search_130 : decode cX8_search 130 = .ok (.aload_n 0, 1) := by decide +kernel
theorem dX8_search_131 : decode cX8_search 131 = .ok (.getfield 85, 3) := by decide +kernel
theorem dX8_search_134 : decode cX8_search 134 = .ok (.aload_n 0, 1) := by decide +kernel
theorem dX8_search_135 : decode cX8_search 135 = .ok (.getfield 82, 3) := by decide +kernel
theorem dX8_search_138 : decode cX8_search 138 = .ok (.iconst 0, 1) := by decide +kernel
theorem dX8_search_139 : decode cX8_search 139 = .ok (.iaload, 1) := by decide +kernel
theorem dX8_search_140 : decode cX8_search 140 = .ok (.aload_n 0, 1) := by decide +kernel
theorem dX8_search_141 : decode cX8_search 141 = .ok (.getfield 264, 3) := by decide +kernel
theorem dX8_search_144 : decode cX8_search 144 = .ok (.ifCond .le 8, 3) := by decide +kernel
theorem dX8_search_147 : decode cX8_search 147 = .ok (.iload 4, 2) := by decide +kernel
theorem dX8_search_149 : decode cX8_search 149 = .ok (.goto 4, 3) := by decide +kernel
theorem dX8_search_152 : decode cX8_search 152 = .ok (.iconst 0, 1) := by decide +kernel
theorem dX8_search_153 : decode cX8_search 153 = .ok (.iastore, 1) := by decide +kernel
theorem dX8_search_154 : decode cX8_search 154 = .ok (.aload_n 0, 1) := by decide +kernel
theorem dX8_search_155 : decode cX8_search 155 = .ok (.getfield 264, 3) := by decide +kernel
theorem dX8_search_158 : decode cX8_search 158 = .ok (.iconst 1, 1) := by decide +kernel
theorem dX8_search_159 : decode cX8_search 159 = .ok (.if_icmp .le 16, 3) := by decide +kernel
theorem dX8_search_162 : decode cX8_search 162 = .ok (.aload_n 0, 1) := by decide +kernel
theorem dX8_search_163 : decode cX8_search 163 = .ok (.getfield 85, 3) := by decide +kernel
theorem dX8_search_166 : decode cX8_search 166 = .ok (.aload_n 0, 1) := by decide +kernel
theorem dX8_search_167 : decode cX8_search 167 = .ok (.getfield 82, 3) := by decide +kernel
theorem dX8_search_170 : decode cX8_search 170 = .ok (.iconst 1, 1) := by decide +kernel
theorem dX8_search_171 : decode cX8_search 171 = .ok (.iaload, 1) := by decide +kernel
theorem dX8_search_172 : decode cX8_search 172 = .ok (.iload 5, 2) := by decide +kernel
theorem dX8_search_174 : decode cX8_search 174 = .ok (.iastore, 1) := by decide +kernel
theorem dX8_search_175 : decode cX8_search 175 = .ok (.aload_n 0, 1) := by decide +kernel
theorem dX8_search_176 : decode cX8_search 176 = .ok (.invokevirtual 282, 3) := by decide +kernel
theorem dX8_search_179 : decode cX8_search 179 = .ok (.istore 7, 2) := by decide +kernel
theorem dX8_search_181 : decode cX8_search 181 = .ok (.iload 7, 2) := by decide +kernel
theorem dX8_search_183 : decode cX8_search 183 = .ok (.iload_n 1, 1) := by decide +kernel
theorem dX8_search_184 : decode cX8_search 184 = .ok (.if_icmp .ge 8, 3) := by decide +kernel
theorem dX8_search_187 : decode cX8_search 187 = .ok (.iload 4, 2) := by decide +kernel
theorem dX8_search_189 : decode cX8_search 189 = .ok (.goto 4, 3) := by decide +kernel
theorem dX8_search_192 : decode cX8_search 192 = .ok (.iload_n 2, 1) := by decide +kernel
theorem dX8_search_193 : decode cX8_search 193 = .ok (.istore_n 2, 1) := by decide +kernel
theorem dX8_search_194 : decode cX8_search 194 = .ok (.iload 7, 2) := by decide +kernel
theorem dX8_search_196 : decode cX8_search 196 = .ok (.iload_n 1, 1) := by decide +kernel
theorem dX8_search_197 : decode cX8_search 197 = .ok (.if_icmp .ge 8, 3) := by decide +kernel
theorem dX8_search_200 : decode cX8_search 200 = .ok (.iload 5, 2) := by decide +kernel
theorem dX8_search_202 : decode cX8_search 202 = .ok (.goto 4, 3) := by decide +kernel
theorem dX8_search_205 : decode cX8_search 205 = .ok (.iload_n 3, 1) := by decide +kernel
theorem dX8_search_206 : decode cX8_search 206 = .ok (.istore_n 3, 1) := by decide +kernel
theorem dX8_search_207 : decode cX8_search 207 = .ok (.iload 7, 2) := by decide +kernel
theorem dX8_search_209 : decode cX8_search 209 = .ok (.iload_n 1, 1) := by decide +kernel
theorem dX8_search_210 : decode cX8_search 210 = .ok (.if_icmp .ge 8, 3) := by decide +kernel
theorem dX8_search_213 : decode cX8_search 213 = .ok (.iload 7, 2) := by decide +kernel
theorem dX8_search_215 : decode cX8_search 215 = .ok (.goto 4, 3) := by decide +kernel
theorem dX8_search_218 : decode cX8_search 218 = .ok (.iload_n 1, 1) := by decide +kernel
theorem dX8_search_219 : decode cX8_search 219 = .ok (.istore_n 1, 1) := by decide +kernel
theorem dX8_search_220 : decode cX8_search 220 = .ok (.iinc 5 1, 3) := by decide +kernel
theorem dX8_search_223 : decode cX8_search 223 = .ok (.goto (-186), 3) := by decide +kernel
theorem dX8_search_226 : decode cX8_search 226 = .ok (.iinc 4 1, 3) := by decide +kernel
theorem dX8_search_229 : decode cX8_search 229 = .ok (.goto (-215), 3) := by decide +kernel
theorem dX8_search_232 : decode cX8_search 232 = .ok (.aload_n 0, 1) := by decide +kernel
theorem dX8_search_233 : decode cX8_search 233 = .ok (.getfield 264, 3) := by decide +kernel
theorem dX8_search_236 : decode cX8_search 236 = .ok (.ifCond .le 15, 3) := by decide +kernel
theorem dX8_search_239 : decode cX8_search 239 = .ok (.aload_n 0, 1) := by decide +kernel
theorem dX8_search_240 : decode cX8_search 240 = .ok (.getfield 85, 3) := by decide +kernel
theorem dX8_search_243 : decode cX8_search 243 = .ok (.aload_n 0, 1) := by decide +kernel
theorem dX8_search_244 : decode cX8_search 244 = .ok (.getfield 82, 3) := by decide +kernel
theorem dX8_search_247 : decode cX8_search 247 = .ok (.iconst 0, 1) := by decide +kernel
theorem dX8_search_248 : decode cX8_search 248 = .ok (.iaload, 1) := by decide +kernel
theorem dX8_search_249 : decode cX8_search 249 = .ok (.iload_n 2, 1) := by decide +kernel
theorem dX8_search_250 : decode cX8_search 250 = .ok (.iastore, 1) := by decide +kernel
theorem dX8_search_251 : decode cX8_search 251 = .ok (.aload_n 0, 1) := by decide +kernel
theorem dX8_search_252 : decode cX8_search 252 = .ok (.getfield 264, 3) := by decide +kernel
theorem dX8_search_255 : decode cX8_search 255 = .ok (.iconst 1, 1) := by decide +kernel
theorem dX8_search_256 : decode cX8_search 256 = .ok (.if_icmp .le 15, 3) := by decide +kernel
theorem dX8_search_259 : decode cX8_search 259 = .ok (.aload_n 0, 1) := by decide +kernel
theorem dX8_search_260 : decode cX8_search 260 = .ok (.getfield 85, 3) := by decide +kernel
theorem dX8_search_263 : decode cX8_search 263 = .ok (.aload_n 0, 1) := by decide +kernel
theorem dX8_search_264 : decode cX8_search 264 = .ok (.getfield 82, 3) := by decide +kernel
theorem dX8_search_267 : decode cX8_search 267 = .ok (.iconst 1, 1) := by decide +kernel
theorem dX8_search_268 : decode cX8_search 268 = .ok (.iaload, 1) := by decide +kernel
theorem dX8_search_269 : decode cX8_search 269 = .ok (.iload_n 3, 1) := by decide +kernel
theorem dX8_search_270 : decode cX8_search 270 = .ok (.iastore, 1) := by decide +kernel
theorem dX8_search_271 : decode cX8_search 271 = .ok (.iload_n 1, 1) := by decide +kernel
theorem dX8_search_272 : decode cX8_search 272 = .ok (.ireturn, 1) := by decide +kernel
theorem dX8_follows_0 : decode cX8_follows 0 = .ok (.iload_n 1, 1) := by decide +kernel
theorem dX8_follows_1 : decode cX8_follows 1 = .ok (.istore_n 3, 1) := by decide +kernel
theorem dX8_follows_2 : decode cX8_follows 2 = .ok (.aload_n 0, 1) := by decide +kernel
theorem dX8_follows_3 : decode cX8_follows 3 = .ok (.getfield 70, 3) := by decide +kernel
theorem dX8_follows_6 : decode cX8_follows 6 = .ok (.iload_n 3, 1) := by decide +kernel
theorem dX8_follows_7 : decode cX8_follows 7 = .ok (.iload_n 2, 1) := by decide +kernel
theorem dX8_follows_8 : decode cX8_follows 8 = .ok (.iastore, 1) := by decide +kernel
theorem dX8_follows_9 : decode cX8_follows 9 = .ok (.aload_n 0, 1) := by decide +kernel
theorem dX8_follows_10 : decode cX8_follows 10 = .ok (.getfield 16, 3) := by decide +kernel
theorem dX8_follows_13 : decode cX8_follows 13 = .ok (.aload_n 0, 1) := by decide +kernel
theorem dX8_follows_14 : decode cX8_follows 14 = .ok (.getfield 19, 3) := by decide +kernel
theorem dX8_follows_17 : decode cX8_follows 17 = .ok (.iload_n 3, 1) := by decide +kernel
theorem dX8_follows_18 : decode cX8_follows 18 = .ok (.iconst 0, 1) := by decide +kernel
theorem dX8_follows_19 : decode cX8_follows 19 = .ok (.aload_n 0, 1) := by decide +kernel
theorem dX8_follows_20 : decode cX8_follows 20 = .ok (.getfield 172, 3) := by decide +kernel
theorem dX8_follows_23 : decode cX8_follows 23 = .ok (.invokestatic 158, 3) := by decide +kernel
theorem dX8_follows_26 : decode cX8_follows 26 = .ok (.istore 4, 2) := by decide +kernel
theorem dX8_follows_28 : decode cX8_follows 28 = .ok (.iload 4, 2) := by decide +kernel
theorem dX8_follows_30 : decode cX8_follows 30 = .ok (.bipush (-4), 2) := by decide +kernel
theorem dX8_follows_32 : decode cX8_follows 32 = .ok (.if_icmp .eq 80, 3) := by decide +kernel
theorem dX8_follows_35 : decode cX8_follows 35 = .ok (.aload_n 0, 1) := by decide +kernel
theorem dX8_follows_36 : decode cX8_follows 36 = .ok (.getfield 25, 3) := by decide +kernel
theorem dX8_follows_39 : decode cX8_follows 39 = .ok (.iload 4, 2) := by decide +kernel
theorem dX8_follows_41 : decode cX8_follows 41 = .ok (.iaload, 1) := by decide +kernel
theorem dX8_follows_42 : decode cX8_follows 42 = .ok (.ifCond .ne 70, 3) := by decide +kernel
theorem dX8_follows_45 : decode cX8_follows 45 = .ok (.aload_n 0, 1) := by decide +kernel
theorem dX8_follows_46 : decode cX8_follows 46 = .ok (.iload 4, 2) := by decide +kernel
theorem dX8_follows_48 : decode cX8_follows 48 = .ok (.aload_n 0, 1) := by decide +kernel
theorem dX8_follows_49 : decode cX8_follows 49 = .ok (.getfield 73, 3) := by decide +kernel
theorem dX8_follows_52 : decode cX8_follows 52 = .ok (.bipush 16, 2) := by decide +kernel
theorem dX8_follows_54 : decode cX8_follows 54 = .ok (.iload_n 3, 1) := by decide +kernel
theorem dX8_follows_55 : decode cX8_follows 55 = .ok (.imul, 1) := by decide +kernel
theorem dX8_follows_56 : decode cX8_follows 56 = .ok (.aload_n 0, 1) := by decide +kernel
theorem dX8_follows_57 : decode cX8_follows 57 = .ok (.getfield 70, 3) := by decide +kernel
theorem dX8_follows_60 : decode cX8_follows 60 = .ok (.iload_n 3, 1) := by decide +kernel
theorem dX8_follows_61 : decode cX8_follows 61 = .ok (.iaload, 1) := by decide +kernel
theorem dX8_follows_62 : decode cX8_follows 62 = .ok (.iadd, 1) := by decide +kernel
theorem dX8_follows_63 : decode cX8_follows 63 = .ok (.iaload, 1) := by decide +kernel
theorem dX8_follows_64 : decode cX8_follows 64 = .ok (.aload_n 0, 1) := by decide +kernel
theorem dX8_follows_65 : decode cX8_follows 65 = .ok (.getfield 7, 3) := by decide +kernel
theorem dX8_follows_68 : decode cX8_follows 68 = .ok (.iconst 4, 1) := by decide +kernel
theorem dX8_follows_69 : decode cX8_follows 69 = .ok (.iload_n 3, 1) := by decide +kernel
theorem dX8_follows_70 : decode cX8_follows 70 = .ok (.iadd, 1) := by decide +kernel
theorem dX8_follows_71 : decode cX8_follows 71 = .ok (.iaload, 1) := by decide +kernel
theorem dX8_follows_72 : decode cX8_follows 72 = .ok (.invokevirtual 273, 3) := by decide +kernel
theorem dX8_follows_75 : decode cX8_follows 75 = .ok (.pop, 1) := by decide +kernel
theorem dX8_follows_76 : decode cX8_follows 76 = .ok (.aload_n 0, 1) := by decide +kernel
theorem dX8_follows_77 : decode cX8_follows 77 = .ok (.getfield 70, 3) := by decide +kernel
theorem dX8_follows_80 : decode cX8_follows 80 = .ok (.iload 4, 2) := by decide +kernel
theorem dX8_follows_82 : decode cX8_follows 82 = .ok (.aload_n 0, 1) := by decide +kernel
theorem dX8_follows_83 : decode cX8_follows 83 = .ok (.getfield 270, 3) := by decide +kernel
theorem dX8_follows_86 : decode cX8_follows 86 = .ok (.iastore, 1) := by decide +kernel
theorem dX8_follows_87 : decode cX8_follows 87 = .ok (.iload 4, 2) := by decide +kernel
theorem dX8_follows_89 : decode cX8_follows 89 = .ok (.istore_n 3, 1) := by decide +kernel
theorem dX8_follows_90 : decode cX8_follows 90 = .ok (.aload_n 0, 1) := by decide +kernel
theorem dX8_follows_91 : decode cX8_follows 91 = .ok (.getfield 16, 3) := by decide +kernel
theorem dX8_follows_94 : decode cX8_follows 94 = .ok (.aload_n 0, 1) := by decide +kernel
theorem dX8_follows_95 : decode cX8_follows 95 = .ok (.getfield 19, 3) := by decide +kernel
theorem dX8_follows_98 : decode cX8_follows 98 = .ok (.iload_n 3, 1) := by decide +kernel
theorem dX8_follows_99 : decode cX8_follows 99 = .ok (.iconst 0, 1) := by decide +kernel
theorem dX8_follows_100 : decode cX8_follows 100 = .ok (.aload_n 0, 1) := by decide +kernel
theorem dX8_follows_101 : decode cX8_follows 101 = .ok (.getfield 172, 3) := by decide +kernel
theorem dX8_follows_104 : decode cX8_follows 104 = .ok (.invokestatic 158, 3) := by decide +kernel
theorem dX8_follows_107 : decode cX8_follows 107 = .ok (.istore 4, 2) := by decide +kernel
theorem dX8_follows_109 : decode cX8_follows 109 = .ok (.goto (-81), 3) := by decide +kernel
theorem dX8_follows_112 : decode cX8_follows 112 = .ok (.return_, 1) := by decide +kernel
theorem dX8_laysBest_0 : decode cX8_laysBest 0 = .ok (.aload_n 0, 1) := by decide +kernel
theorem dX8_laysBest_1 : decode cX8_laysBest 1 = .ok (.getfield 182, 3) := by decide +kernel
theorem dX8_laysBest_4 : decode cX8_laysBest 4 = .ok (.ifCond .eq 8, 3) := by decide +kernel
theorem dX8_laysBest_7 : decode cX8_laysBest 7 = .ok (.aload_n 0, 1) := by decide +kernel
theorem dX8_laysBest_8 : decode cX8_laysBest 8 = .ok (.invokevirtual 207, 3) := by decide +kernel
theorem dX8_laysBest_11 : decode cX8_laysBest 11 = .ok (.return_, 1) := by decide +kernel
theorem dX8_laysBest_12 : decode cX8_laysBest 12 = .ok (.aload_n 0, 1) := by decide +kernel
theorem dX8_laysBest_13 : decode cX8_laysBest 13 = .ok (.aload_n 0, 1) := by decide +kernel
theorem dX8_laysBest_14 : decode cX8_laysBest 14 = .ok (.invokevirtual 285, 3) := by decide +kernel
theorem dX8_laysBest_17 : decode cX8_laysBest 17 = .ok (.putfield 288, 3) := by decide +kernel
theorem dX8_laysBest_20 : decode cX8_laysBest 20 = .ok (.aload_n 0, 1) := by decide +kernel
theorem dX8_laysBest_21 : decode cX8_laysBest 21 = .ok (.invokevirtual 282, 3) := by decide +kernel
theorem dX8_laysBest_24 : decode cX8_laysBest 24 = .ok (.pop, 1) := by decide +kernel
theorem dX8_laysBest_25 : decode cX8_laysBest 25 = .ok (.iconst 0, 1) := by decide +kernel
theorem dX8_laysBest_26 : decode cX8_laysBest 26 = .ok (.istore_n 1, 1) := by decide +kernel
theorem dX8_laysBest_27 : decode cX8_laysBest 27 = .ok (.iload_n 1, 1) := by decide +kernel
theorem dX8_laysBest_28 : decode cX8_laysBest 28 = .ok (.bipush 24, 2) := by decide +kernel
theorem dX8_laysBest_30 : decode cX8_laysBest 30 = .ok (.if_icmp .ge 17, 3) := by decide +kernel
theorem dX8_laysBest_33 : decode cX8_laysBest 33 = .ok (.aload_n 0, 1) := by decide +kernel
theorem dX8_laysBest_34 : decode cX8_laysBest 34 = .ok (.getfield 70, 3) := by decide +kernel
theorem dX8_laysBest_37 : decode cX8_laysBest 37 = .ok (.iload_n 1, 1) := by decide +kernel
theorem dX8_laysBest_38 : decode cX8_laysBest 38 = .ok (.bipush (-4), 2) := by decide +kernel
theorem dX8_laysBest_40 : decode cX8_laysBest 40 = .ok (.iastore, 1) := by decide +kernel
theorem dX8_laysBest_41 : decode cX8_laysBest 41 = .ok (.iinc 1 1, 3) := by decide +kernel
theorem dX8_laysBest_44 : decode cX8_laysBest 44 = .ok (.goto (-17), 3) := by decide +kernel
theorem dX8_laysBest_47 : decode cX8_laysBest 47 = .ok (.aload_n 0, 1) := by decide +kernel
theorem dX8_laysBest_48 : decode cX8_laysBest 48 = .ok (.iconst 0, 1) := by decide +kernel
theorem dX8_laysBest_49 : decode cX8_laysBest 49 = .ok (.iconst 0, 1) := by decide +kernel
theorem dX8_laysBest_50 : decode cX8_laysBest 50 = .ok (.invokevirtual 291, 3) := by decide +kernel
theorem dX8_laysBest_53 : decode cX8_laysBest 53 = .ok (.iconst 0, 1) := by decide +kernel
theorem dX8_laysBest_54 : decode cX8_laysBest 54 = .ok (.istore_n 1, 1) := by decide +kernel
theorem dX8_laysBest_55 : decode cX8_laysBest 55 = .ok (.iload_n 1, 1) := by decide +kernel
theorem dX8_laysBest_56 : decode cX8_laysBest 56 = .ok (.aload_n 0, 1) := by decide +kernel
theorem dX8_laysBest_57 : decode cX8_laysBest 57 = .ok (.getfield 264, 3) := by decide +kernel
theorem dX8_laysBest_60 : decode cX8_laysBest 60 = .ok (.if_icmp .ge 30, 3) := by decide +kernel
theorem dX8_laysBest_63 : decode cX8_laysBest 63 = .ok (.aload_n 0, 1) := by decide +kernel
theorem dX8_laysBest_64 : decode cX8_laysBest 64 = .ok (.aload_n 0, 1) := by decide +kernel
theorem dX8_laysBest_65 : decode cX8_laysBest 65 = .ok (.getfield 82, 3) := by decide +kernel
theorem dX8_laysBest_68 : decode cX8_laysBest 68 = .ok (.iload_n 1, 1) := by decide +kernel
theorem dX8_laysBest_69 : decode cX8_laysBest 69 = .ok (.iaload, 1) := by decide +kernel
theorem dX8_laysBest_70 : decode cX8_laysBest 70 = .ok (.aload_n 0, 1) := by decide +kernel
theorem dX8_laysBest_71 : decode cX8_laysBest 71 = .ok (.getfield 85, 3) := by decide +kernel
theorem dX8_laysBest_74 : decode cX8_laysBest 74 = .ok (.aload_n 0, 1) := by decide +kernel
theorem dX8_laysBest_75 : decode cX8_laysBest 75 = .ok (.getfield 82, 3) := by decide +kernel
theorem dX8_laysBest_78 : decode cX8_laysBest 78 = .ok (.iload_n 1, 1) := by decide +kernel
theorem dX8_laysBest_79 : decode cX8_laysBest 79 = .ok (.iaload, 1) := by decide +kernel
theorem dX8_laysBest_80 : decode cX8_laysBest 80 = .ok (.iaload, 1) := by decide +kernel
theorem dX8_laysBest_81 : decode cX8_laysBest 81 = .ok (.invokevirtual 291, 3) := by decide +kernel
theorem dX8_laysBest_84 : decode cX8_laysBest 84 = .ok (.iinc 1 1, 3) := by decide +kernel
theorem dX8_laysBest_87 : decode cX8_laysBest 87 = .ok (.goto (-32), 3) := by decide +kernel
theorem dX8_laysBest_90 : decode cX8_laysBest 90 = .ok (.aload_n 0, 1) := by decide +kernel
theorem dX8_laysBest_91 : decode cX8_laysBest 91 = .ok (.iconst 1, 1) := by decide +kernel
theorem dX8_laysBest_92 : decode cX8_laysBest 92 = .ok (.putfield 182, 3) := by decide +kernel
theorem dX8_laysBest_95 : decode cX8_laysBest 95 = .ok (.return_, 1) := by decide +kernel
theorem dX8_best_0 : decode cX8_best 0 = .ok (.aload_n 0, 1) := by decide +kernel
theorem dX8_best_1 : decode cX8_best 1 = .ok (.invokevirtual 294, 3) := by decide +kernel
theorem dX8_best_4 : decode cX8_best 4 = .ok (.aload_n 0, 1) := by decide +kernel
theorem dX8_best_5 : decode cX8_best 5 = .ok (.getfield 288, 3) := by decide +kernel
theorem dX8_best_8 : decode cX8_best 8 = .ok (.ireturn, 1) := by decide +kernel
theorem dX8_meets_0 : decode cX8_meets 0 = .ok (.aload_n 0, 1) := by decide +kernel
theorem dX8_meets_1 : decode cX8_meets 1 = .ok (.iload_n 1, 1) := by decide +kernel
theorem dX8_meets_2 : decode cX8_meets 2 = .ok (.invokevirtual 185, 3) := by decide +kernel
theorem dX8_meets_5 : decode cX8_meets 5 = .ok (.ifCond .eq 12, 3) := by decide +kernel
theorem dX8_meets_8 : decode cX8_meets 8 = .ok (.iload_n 2, 1) := by decide +kernel
theorem dX8_meets_9 : decode cX8_meets 9 = .ok (.iconst 0, 1) := by decide +kernel
theorem dX8_meets_10 : decode cX8_meets 10 = .ok (.iconst 1, 1) := by decide +kernel
theorem dX8_meets_11 : decode cX8_meets 11 = .ok (.invokestatic 114, 3) := by decide +kernel
theorem dX8_meets_14 : decode cX8_meets 14 = .ok (.ifCond .ne 5, 3) := by decide +kernel
theorem dX8_meets_17 : decode cX8_meets 17 = .ok (.iconst (-1), 1) := by decide +kernel
theorem dX8_meets_18 : decode cX8_meets 18 = .ok (.ireturn, 1) := by decide +kernel
theorem dX8_meets_19 : decode cX8_meets 19 = .ok (.aload_n 0, 1) := by decide +kernel
theorem dX8_meets_20 : decode cX8_meets 20 = .ok (.invokevirtual 294, 3) := by decide +kernel
theorem dX8_meets_23 : decode cX8_meets 23 = .ok (.aload_n 0, 1) := by decide +kernel
theorem dX8_meets_24 : decode cX8_meets 24 = .ok (.getfield 22, 3) := by decide +kernel
theorem dX8_meets_27 : decode cX8_meets 27 = .ok (.iload_n 1, 1) := by decide +kernel
theorem dX8_meets_28 : decode cX8_meets 28 = .ok (.iaload, 1) := by decide +kernel
theorem dX8_meets_29 : decode cX8_meets 29 = .ok (.bipush (-4), 2) := by decide +kernel
theorem dX8_meets_31 : decode cX8_meets 31 = .ok (.if_icmp .ne 6, 3) := by decide +kernel
theorem dX8_meets_34 : decode cX8_meets 34 = .ok (.bipush (-4), 2) := by decide +kernel
theorem dX8_meets_36 : decode cX8_meets 36 = .ok (.ireturn, 1) := by decide +kernel
theorem dX8_meets_37 : decode cX8_meets 37 = .ok (.aload_n 0, 1) := by decide +kernel
theorem dX8_meets_38 : decode cX8_meets 38 = .ok (.aload_n 0, 1) := by decide +kernel
theorem dX8_meets_39 : decode cX8_meets 39 = .ok (.getfield 16, 3) := by decide +kernel
theorem dX8_meets_42 : decode cX8_meets 42 = .ok (.iload_n 1, 1) := by decide +kernel
theorem dX8_meets_43 : decode cX8_meets 43 = .ok (.iaload, 1) := by decide +kernel
theorem dX8_meets_44 : decode cX8_meets 44 = .ok (.aload_n 0, 1) := by decide +kernel
theorem dX8_meets_45 : decode cX8_meets 45 = .ok (.getfield 70, 3) := by decide +kernel
theorem dX8_meets_48 : decode cX8_meets 48 = .ok (.iload_n 1, 1) := by decide +kernel
theorem dX8_meets_49 : decode cX8_meets 49 = .ok (.iaload, 1) := by decide +kernel
theorem dX8_meets_50 : decode cX8_meets 50 = .ok (.invokevirtual 236, 3) := by decide +kernel
theorem dX8_meets_53 : decode cX8_meets 53 = .ok (.pop, 1) := by decide +kernel
theorem dX8_meets_54 : decode cX8_meets 54 = .ok (.iload_n 2, 1) := by decide +kernel
theorem dX8_meets_55 : decode cX8_meets 55 = .ok (.ifCond .ne 12, 3) := by decide +kernel
theorem dX8_meets_58 : decode cX8_meets 58 = .ok (.aload_n 0, 1) := by decide +kernel
theorem dX8_meets_59 : decode cX8_meets 59 = .ok (.getfield 70, 3) := by decide +kernel
theorem dX8_meets_62 : decode cX8_meets 62 = .ok (.iload_n 1, 1) := by decide +kernel
theorem dX8_meets_63 : decode cX8_meets 63 = .ok (.iaload, 1) := by decide +kernel
theorem dX8_meets_64 : decode cX8_meets 64 = .ok (.goto 7, 3) := by decide +kernel
theorem dX8_meets_67 : decode cX8_meets 67 = .ok (.aload_n 0, 1) := by decide +kernel
theorem dX8_meets_68 : decode cX8_meets 68 = .ok (.getfield 217, 3) := by decide +kernel
theorem dX8_meets_71 : decode cX8_meets 71 = .ok (.ireturn, 1) := by decide +kernel
theorem dX8_ifMeets_0 : decode cX8_ifMeets 0 = .ok (.aload_n 0, 1) := by decide +kernel
theorem dX8_ifMeets_1 : decode cX8_ifMeets 1 = .ok (.iload_n 1, 1) := by decide +kernel
theorem dX8_ifMeets_2 : decode cX8_ifMeets 2 = .ok (.invokevirtual 185, 3) := by decide +kernel
theorem dX8_ifMeets_5 : decode cX8_ifMeets 5 = .ok (.ifCond .eq 11, 3) := by decide +kernel
theorem dX8_ifMeets_8 : decode cX8_ifMeets 8 = .ok (.aload_n 0, 1) := by decide +kernel
theorem dX8_ifMeets_9 : decode cX8_ifMeets 9 = .ok (.iload_n 2, 1) := by decide +kernel
theorem dX8_ifMeets_10 : decode cX8_ifMeets 10 = .ok (.invokevirtual 210, 3) := by decide +kernel
theorem dX8_ifMeets_13 : decode cX8_ifMeets 13 = .ok (.ifCond .ne 5, 3) := by decide +kernel
theorem dX8_ifMeets_16 : decode cX8_ifMeets 16 = .ok (.iconst (-1), 1) := by decide +kernel
theorem dX8_ifMeets_17 : decode cX8_ifMeets 17 = .ok (.ireturn, 1) := by decide +kernel
theorem dX8_ifMeets_18 : decode cX8_ifMeets 18 = .ok (.aload_n 0, 1) := by decide +kernel
theorem dX8_ifMeets_19 : decode cX8_ifMeets 19 = .ok (.getfield 22, 3) := by decide +kernel
theorem dX8_ifMeets_22 : decode cX8_ifMeets 22 = .ok (.iload_n 1, 1) := by decide +kernel
theorem dX8_ifMeets_23 : decode cX8_ifMeets 23 = .ok (.iaload, 1) := by decide +kernel
theorem dX8_ifMeets_24 : decode cX8_ifMeets 24 = .ok (.bipush (-4), 2) := by decide +kernel
theorem dX8_ifMeets_26 : decode cX8_ifMeets 26 = .ok (.if_icmp .ne 6, 3) := by decide +kernel
theorem dX8_ifMeets_29 : decode cX8_ifMeets 29 = .ok (.bipush (-4), 2) := by decide +kernel
theorem dX8_ifMeets_31 : decode cX8_ifMeets 31 = .ok (.ireturn, 1) := by decide +kernel
theorem dX8_ifMeets_32 : decode cX8_ifMeets 32 = .ok (.aload_n 0, 1) := by decide +kernel
theorem dX8_ifMeets_33 : decode cX8_ifMeets 33 = .ok (.iload_n 1, 1) := by decide +kernel
theorem dX8_ifMeets_34 : decode cX8_ifMeets 34 = .ok (.putfield 88, 3) := by decide +kernel
theorem dX8_ifMeets_37 : decode cX8_ifMeets 37 = .ok (.aload_n 0, 1) := by decide +kernel
theorem dX8_ifMeets_38 : decode cX8_ifMeets 38 = .ok (.iload_n 2, 1) := by decide +kernel
theorem dX8_ifMeets_39 : decode cX8_ifMeets 39 = .ok (.putfield 267, 3) := by decide +kernel
theorem dX8_ifMeets_42 : decode cX8_ifMeets 42 = .ok (.aload_n 0, 1) := by decide +kernel
theorem dX8_ifMeets_43 : decode cX8_ifMeets 43 = .ok (.invokevirtual 285, 3) := by decide +kernel
theorem dX8_ifMeets_46 : decode cX8_ifMeets 46 = .ok (.istore_n 3, 1) := by decide +kernel
theorem dX8_ifMeets_47 : decode cX8_ifMeets 47 = .ok (.aload_n 0, 1) := by decide +kernel
theorem dX8_ifMeets_48 : decode cX8_ifMeets 48 = .ok (.bipush (-4), 2) := by decide +kernel
theorem dX8_ifMeets_50 : decode cX8_ifMeets 50 = .ok (.putfield 88, 3) := by decide +kernel
theorem dX8_ifMeets_53 : decode cX8_ifMeets 53 = .ok (.iload_n 3, 1) := by decide +kernel
theorem dX8_ifMeets_54 : decode cX8_ifMeets 54 = .ok (.ldc 250, 2) := by decide +kernel
theorem dX8_ifMeets_56 : decode cX8_ifMeets 56 = .ok (.if_icmp .ne 8, 3) := by decide +kernel
theorem dX8_ifMeets_59 : decode cX8_ifMeets 59 = .ok (.bipush (-4), 2) := by decide +kernel
theorem dX8_ifMeets_61 : decode cX8_ifMeets 61 = .ok (.goto 4, 3) := by decide +kernel
theorem dX8_ifMeets_64 : decode cX8_ifMeets 64 = .ok (.iload_n 3, 1) := by decide +kernel
theorem dX8_ifMeets_65 : decode cX8_ifMeets 65 = .ok (.ireturn, 1) := by decide +kernel
theorem dX8_start_0 : decode cX8_start 0 = .ok (.aload_n 0, 1) := by decide +kernel
theorem dX8_start_1 : decode cX8_start 1 = .ok (.invokevirtual 294, 3) := by decide +kernel
theorem dX8_start_4 : decode cX8_start 4 = .ok (.aload_n 0, 1) := by decide +kernel
theorem dX8_start_5 : decode cX8_start 5 = .ok (.iconst 1, 1) := by decide +kernel
theorem dX8_start_6 : decode cX8_start 6 = .ok (.putfield 178, 3) := by decide +kernel
theorem dX8_start_9 : decode cX8_start 9 = .ok (.aload_n 0, 1) := by decide +kernel
theorem dX8_start_10 : decode cX8_start 10 = .ok (.iconst 0, 1) := by decide +kernel
theorem dX8_start_11 : decode cX8_start 11 = .ok (.putfield 297, 3) := by decide +kernel
theorem dX8_start_14 : decode cX8_start 14 = .ok (.aload_n 0, 1) := by decide +kernel
theorem dX8_start_15 : decode cX8_start 15 = .ok (.iconst 0, 1) := by decide +kernel
theorem dX8_start_16 : decode cX8_start 16 = .ok (.putfield 300, 3) := by decide +kernel
theorem dX8_start_19 : decode cX8_start 19 = .ok (.aload_n 0, 1) := by decide +kernel
theorem dX8_start_20 : decode cX8_start 20 = .ok (.iconst 0, 1) := by decide +kernel
theorem dX8_start_21 : decode cX8_start 21 = .ok (.putfield 303, 3) := by decide +kernel
theorem dX8_start_24 : decode cX8_start 24 = .ok (.aload_n 0, 1) := by decide +kernel
theorem dX8_start_25 : decode cX8_start 25 = .ok (.iconst 0, 1) := by decide +kernel
theorem dX8_start_26 : decode cX8_start 26 = .ok (.putfield 306, 3) := by decide +kernel
theorem dX8_start_29 : decode cX8_start 29 = .ok (.aload_n 0, 1) := by decide +kernel
theorem dX8_start_30 : decode cX8_start 30 = .ok (.iconst 0, 1) := by decide +kernel
theorem dX8_start_31 : decode cX8_start 31 = .ok (.putfield 309, 3) := by decide +kernel
theorem dX8_start_34 : decode cX8_start 34 = .ok (.aload_n 0, 1) := by decide +kernel
theorem dX8_start_35 : decode cX8_start 35 = .ok (.iconst 0, 1) := by decide +kernel
theorem dX8_start_36 : decode cX8_start 36 = .ok (.putfield 312, 3) := by decide +kernel
theorem dX8_start_39 : decode cX8_start 39 = .ok (.aload_n 0, 1) := by decide +kernel
theorem dX8_start_40 : decode cX8_start 40 = .ok (.iconst 0, 1) := by decide +kernel
theorem dX8_start_41 : decode cX8_start 41 = .ok (.putfield 315, 3) := by decide +kernel
theorem dX8_start_44 : decode cX8_start 44 = .ok (.iconst 0, 1) := by decide +kernel
theorem dX8_start_45 : decode cX8_start 45 = .ok (.istore_n 1, 1) := by decide +kernel
theorem dX8_start_46 : decode cX8_start 46 = .ok (.iload_n 1, 1) := by decide +kernel
theorem dX8_start_47 : decode cX8_start 47 = .ok (.iconst 4, 1) := by decide +kernel
theorem dX8_start_48 : decode cX8_start 48 = .ok (.if_icmp .ge 16, 3) := by decide +kernel
theorem dX8_start_51 : decode cX8_start 51 = .ok (.aload_n 0, 1) := by decide +kernel
theorem dX8_start_52 : decode cX8_start 52 = .ok (.getfield 98, 3) := by decide +kernel
theorem dX8_start_55 : decode cX8_start 55 = .ok (.iload_n 1, 1) := by decide +kernel
theorem dX8_start_56 : decode cX8_start 56 = .ok (.iconst 0, 1) := by decide +kernel
theorem dX8_start_57 : decode cX8_start 57 = .ok (.iastore, 1) := by decide +kernel
theorem dX8_start_58 : decode cX8_start 58 = .ok (.iinc 1 1, 3) := by decide +kernel
theorem dX8_start_61 : decode cX8_start 61 = .ok (.goto (-15), 3) := by decide +kernel
theorem dX8_start_64 : decode cX8_start 64 = .ok (.iconst 0, 1) := by decide +kernel
theorem dX8_start_65 : decode cX8_start 65 = .ok (.istore_n 1, 1) := by decide +kernel
theorem dX8_start_66 : decode cX8_start 66 = .ok (.iload_n 1, 1) := by decide +kernel
theorem dX8_start_67 : decode cX8_start 67 = .ok (.bipush 24, 2) := by decide +kernel
theorem dX8_start_69 : decode cX8_start 69 = .ok (.if_icmp .ge 16, 3) := by decide +kernel
theorem dX8_start_72 : decode cX8_start 72 = .ok (.aload_n 0, 1) := by decide +kernel
theorem dX8_start_73 : decode cX8_start 73 = .ok (.getfield 101, 3) := by decide +kernel
theorem dX8_start_76 : decode cX8_start 76 = .ok (.iload_n 1, 1) := by decide +kernel
theorem dX8_start_77 : decode cX8_start 77 = .ok (.iconst 0, 1) := by decide +kernel
theorem dX8_start_78 : decode cX8_start 78 = .ok (.iastore, 1) := by decide +kernel
theorem dX8_start_79 : decode cX8_start 79 = .ok (.iinc 1 1, 3) := by decide +kernel
theorem dX8_start_82 : decode cX8_start 82 = .ok (.goto (-16), 3) := by decide +kernel
theorem dX8_start_85 : decode cX8_start 85 = .ok (.aload_n 0, 1) := by decide +kernel
theorem dX8_start_86 : decode cX8_start 86 = .ok (.getfield 303, 3) := by decide +kernel
theorem dX8_start_89 : decode cX8_start 89 = .ok (.ireturn, 1) := by decide +kernel
theorem dX8_pops_0 : decode cX8_pops 0 = .ok (.aload_n 0, 1) := by decide +kernel
theorem dX8_pops_1 : decode cX8_pops 1 = .ok (.dup, 1) := by decide +kernel
theorem dX8_pops_2 : decode cX8_pops 2 = .ok (.getfield 306, 3) := by decide +kernel
theorem dX8_pops_5 : decode cX8_pops 5 = .ok (.iconst 1, 1) := by decide +kernel
theorem dX8_pops_6 : decode cX8_pops 6 = .ok (.isub, 1) := by decide +kernel
theorem dX8_pops_7 : decode cX8_pops 7 = .ok (.putfield 306, 3) := by decide +kernel
theorem dX8_pops_10 : decode cX8_pops 10 = .ok (.aload_n 0, 1) := by decide +kernel
theorem dX8_pops_11 : decode cX8_pops 11 = .ok (.getfield 92, 3) := by decide +kernel
theorem dX8_pops_14 : decode cX8_pops 14 = .ok (.aload_n 0, 1) := by decide +kernel
theorem dX8_pops_15 : decode cX8_pops 15 = .ok (.getfield 306, 3) := by decide +kernel
theorem dX8_pops_18 : decode cX8_pops 18 = .ok (.iaload, 1) := by decide +kernel
theorem dX8_pops_19 : decode cX8_pops 19 = .ok (.ireturn, 1) := by decide +kernel
theorem dX8_pushes_0 : decode cX8_pushes 0 = .ok (.aload_n 0, 1) := by decide +kernel
theorem dX8_pushes_1 : decode cX8_pushes 1 = .ok (.getfield 92, 3) := by decide +kernel
theorem dX8_pushes_4 : decode cX8_pushes 4 = .ok (.aload_n 0, 1) := by decide +kernel
theorem dX8_pushes_5 : decode cX8_pushes 5 = .ok (.getfield 306, 3) := by decide +kernel
theorem dX8_pushes_8 : decode cX8_pushes 8 = .ok (.iload_n 1, 1) := by decide +kernel
theorem dX8_pushes_9 : decode cX8_pushes 9 = .ok (.iastore, 1) := by decide +kernel
theorem dX8_pushes_10 : decode cX8_pushes 10 = .ok (.aload_n 0, 1) := by decide +kernel
theorem dX8_pushes_11 : decode cX8_pushes 11 = .ok (.dup, 1) := by decide +kernel
theorem dX8_pushes_12 : decode cX8_pushes 12 = .ok (.getfield 306, 3) := by decide +kernel
theorem dX8_pushes_15 : decode cX8_pushes 15 = .ok (.iconst 1, 1) := by decide +kernel
theorem dX8_pushes_16 : decode cX8_pushes 16 = .ok (.iadd, 1) := by decide +kernel
theorem dX8_pushes_17 : decode cX8_pushes 17 = .ok (.putfield 306, 3) := by decide +kernel
theorem dX8_pushes_20 : decode cX8_pushes 20 = .ok (.return_, 1) := by decide +kernel
theorem dX8_reckons_0 : decode cX8_reckons 0 = .ok (.aload_n 0, 1) := by decide +kernel
theorem dX8_reckons_1 : decode cX8_reckons 1 = .ok (.invokevirtual 318, 3) := by decide +kernel
theorem dX8_reckons_4 : decode cX8_reckons 4 = .ok (.istore_n 2, 1) := by decide +kernel
theorem dX8_reckons_5 : decode cX8_reckons 5 = .ok (.aload_n 0, 1) := by decide +kernel
theorem dX8_reckons_6 : decode cX8_reckons 6 = .ok (.invokevirtual 318, 3) := by decide +kernel
theorem dX8_reckons_9 : decode cX8_reckons 9 = .ok (.istore_n 3, 1) := by decide +kernel
theorem dX8_reckons_10 : decode cX8_reckons 10 = .ok (.aload_n 0, 1) := by decide +kernel
theorem dX8_reckons_11 : decode cX8_reckons 11 = .ok (.iload_n 1, 1) := by decide +kernel
theorem dX8_reckons_12 : decode cX8_reckons 12 = .ok (.bipush 43, 2) := by decide +kernel
theorem dX8_reckons_14 : decode cX8_reckons 14 = .ok (.if_icmp .ne 9, 3) := by decide +kernel
theorem dX8_reckons_17 : decode cX8_reckons 17 = .ok (.iload_n 3, 1) := by decide +kernel
theorem dX8_reckons_18 : decode cX8_reckons 18 = .ok (.iload_n 2, 1) := by decide +kernel
theorem dX8_reckons_19 : decode cX8_reckons 19 = .ok (.iadd, 1) := by decide +kernel
theorem dX8_reckons_20 : decode cX8_reckons 20 = .ok (.goto 18, 3) := by decide +kernel
theorem dX8_reckons_23 : decode cX8_reckons 23 = .ok (.iload_n 1, 1) := by decide +kernel
theorem dX8_reckons_24 : decode cX8_reckons 24 = .ok (.bipush 45, 2) := by decide +kernel
theorem dX8_reckons_26 : decode cX8_reckons 26 = .ok (.if_icmp .ne 9, 3) := by decide +kernel
theorem dX8_reckons_29 : decode cX8_reckons 29 = .ok (.iload_n 3, 1) := by decide +kernel
theorem dX8_reckons_30 : decode cX8_reckons 30 = .ok (.iload_n 2, 1) := by decide +kernel
theorem dX8_reckons_31 : decode cX8_reckons 31 = .ok (.isub, 1) := by decide +kernel
theorem dX8_reckons_32 : decode cX8_reckons 32 = .ok (.goto 6, 3) := by decide +kernel
theorem dX8_reckons_35 : decode cX8_reckons 35 = .ok (.iload_n 3, 1) := by decide +kernel
theorem dX8_reckons_36 : decode cX8_reckons 36 = .ok (.iload_n 2, 1) := by decide +kernel
theorem dX8_reckons_37 : decode cX8_reckons 37 = .ok (.imul, 1) := by decide +kernel
theorem dX8_reckons_38 : decode cX8_reckons 38 = .ok (.invokevirtual 321, 3) := by decide +kernel
theorem dX8_reckons_41 : decode cX8_reckons 41 = .ok (.return_, 1) := by decide +kernel
theorem dX8_rolls_0 : decode cX8_rolls 0 = .ok (.aload_n 0, 1) := by decide +kernel
theorem dX8_rolls_1 : decode cX8_rolls 1 = .ok (.getfield 306, 3) := by decide +kernel
theorem dX8_rolls_4 : decode cX8_rolls 4 = .ok (.iload_n 1, 1) := by decide +kernel
theorem dX8_rolls_5 : decode cX8_rolls 5 = .ok (.isub, 1) := by decide +kernel
theorem dX8_rolls_6 : decode cX8_rolls 6 = .ok (.istore_n 2, 1) := by decide +kernel
theorem dX8_rolls_7 : decode cX8_rolls 7 = .ok (.aload_n 0, 1) := by decide +kernel
theorem dX8_rolls_8 : decode cX8_rolls 8 = .ok (.getfield 92, 3) := by decide +kernel
theorem dX8_rolls_11 : decode cX8_rolls 11 = .ok (.iload_n 2, 1) := by decide +kernel
theorem dX8_rolls_12 : decode cX8_rolls 12 = .ok (.iaload, 1) := by decide +kernel
theorem dX8_rolls_13 : decode cX8_rolls 13 = .ok (.istore_n 3, 1) := by decide +kernel
theorem dX8_rolls_14 : decode cX8_rolls 14 = .ok (.iload_n 2, 1) := by decide +kernel
theorem dX8_rolls_15 : decode cX8_rolls 15 = .ok (.istore 4, 2) := by decide +kernel
theorem dX8_rolls_17 : decode cX8_rolls 17 = .ok (.iload 4, 2) := by decide +kernel
theorem dX8_rolls_19 : decode cX8_rolls 19 = .ok (.iconst 1, 1) := by decide +kernel
theorem dX8_rolls_20 : decode cX8_rolls 20 = .ok (.iadd, 1) := by decide +kernel
theorem dX8_rolls_21 : decode cX8_rolls 21 = .ok (.aload_n 0, 1) := by decide +kernel
theorem dX8_rolls_22 : decode cX8_rolls 22 = .ok (.getfield 306, 3) := by decide +kernel
theorem dX8_rolls_25 : decode cX8_rolls 25 = .ok (.if_icmp .ge 25, 3) := by decide +kernel
theorem dX8_rolls_28 : decode cX8_rolls 28 = .ok (.aload_n 0, 1) := by decide +kernel
theorem dX8_rolls_29 : decode cX8_rolls 29 = .ok (.getfield 92, 3) := by decide +kernel
theorem dX8_rolls_32 : decode cX8_rolls 32 = .ok (.iload 4, 2) := by decide +kernel
theorem dX8_rolls_34 : decode cX8_rolls 34 = .ok (.aload_n 0, 1) := by decide +kernel
theorem dX8_rolls_35 : decode cX8_rolls 35 = .ok (.getfield 92, 3) := by decide +kernel
theorem dX8_rolls_38 : decode cX8_rolls 38 = .ok (.iload 4, 2) := by decide +kernel
theorem dX8_rolls_40 : decode cX8_rolls 40 = .ok (.iconst 1, 1) := by decide +kernel
theorem dX8_rolls_41 : decode cX8_rolls 41 = .ok (.iadd, 1) := by decide +kernel
theorem dX8_rolls_42 : decode cX8_rolls 42 = .ok (.iaload, 1) := by decide +kernel
theorem dX8_rolls_43 : decode cX8_rolls 43 = .ok (.iastore, 1) := by decide +kernel
theorem dX8_rolls_44 : decode cX8_rolls 44 = .ok (.iinc 4 1, 3) := by decide +kernel
theorem dX8_rolls_47 : decode cX8_rolls 47 = .ok (.goto (-30), 3) := by decide +kernel
theorem dX8_rolls_50 : decode cX8_rolls 50 = .ok (.aload_n 0, 1) := by decide +kernel
theorem dX8_rolls_51 : decode cX8_rolls 51 = .ok (.getfield 92, 3) := by decide +kernel
theorem dX8_rolls_54 : decode cX8_rolls 54 = .ok (.aload_n 0, 1) := by decide +kernel
theorem dX8_rolls_55 : decode cX8_rolls 55 = .ok (.getfield 306, 3) := by decide +kernel
theorem dX8_rolls_58 : decode cX8_rolls 58 = .ok (.iconst 1, 1) := by decide +kernel
theorem dX8_rolls_59 : decode cX8_rolls 59 = .ok (.isub, 1) := by decide +kernel
theorem dX8_rolls_60 : decode cX8_rolls 60 = .ok (.iload_n 3, 1) := by decide +kernel
theorem dX8_rolls_61 : decode cX8_rolls 61 = .ok (.iastore, 1) := by decide +kernel
theorem dX8_rolls_62 : decode cX8_rolls 62 = .ok (.return_, 1) := by decide +kernel
theorem dX8_does_0 : decode cX8_does 0 = .ok (.aload_n 0, 1) := by decide +kernel
theorem dX8_does_1 : decode cX8_does 1 = .ok (.getfield 16, 3) := by decide +kernel
theorem dX8_does_4 : decode cX8_does 4 = .ok (.iload_n 1, 1) := by decide +kernel
theorem dX8_does_5 : decode cX8_does 5 = .ok (.iaload, 1) := by decide +kernel
theorem dX8_does_6 : decode cX8_does 6 = .ok (.istore_n 2, 1) := by decide +kernel
theorem dX8_does_7 : decode cX8_does 7 = .ok (.iload_n 2, 1) := by decide +kernel
theorem dX8_does_8 : decode cX8_does 8 = .ok (.lookupswitch 272 #[(42, 129), (43, 129), (45, 129), (98, 233), (100, 137), (103, 197), (110, 116), (111, 171), (112, 189), (114, 163), (115, 215), (119, 246), (120, 155)], 116) := by decide +kernel
theorem dX8_does_124 : decode cX8_does 124 = .ok (.aload_n 0, 1) := by decide +kernel
theorem dX8_does_125 : decode cX8_does 125 = .ok (.aload_n 0, 1) := by decide +kernel
theorem dX8_does_126 : decode cX8_does 126 = .ok (.getfield 19, 3) := by decide +kernel
theorem dX8_does_129 : decode cX8_does 129 = .ok (.iload_n 1, 1) := by decide +kernel
theorem dX8_does_130 : decode cX8_does 130 = .ok (.iaload, 1) := by decide +kernel
theorem dX8_does_131 : decode cX8_does 131 = .ok (.invokevirtual 321, 3) := by decide +kernel
theorem dX8_does_134 : decode cX8_does 134 = .ok (.goto 158, 3) := by decide +kernel
theorem dX8_does_137 : decode cX8_does 137 = .ok (.aload_n 0, 1) := by decide +kernel
theorem dX8_does_138 : decode cX8_does 138 = .ok (.iload_n 2, 1) := by decide +kernel
theorem dX8_does_139 : decode cX8_does 139 = .ok (.invokevirtual 324, 3) := by decide +kernel
theorem dX8_does_142 : decode cX8_does 142 = .ok (.goto 150, 3) := by decide +kernel
theorem dX8_does_145 : decode cX8_does 145 = .ok (.aload_n 0, 1) := by decide +kernel
theorem dX8_does_146 : decode cX8_does 146 = .ok (.aload_n 0, 1) := by decide +kernel
theorem dX8_does_147 : decode cX8_does 147 = .ok (.getfield 92, 3) := by decide +kernel
theorem dX8_does_150 : decode cX8_does 150 = .ok (.aload_n 0, 1) := by decide +kernel
theorem dX8_does_151 : decode cX8_does 151 = .ok (.getfield 306, 3) := by decide +kernel
theorem dX8_does_154 : decode cX8_does 154 = .ok (.iconst 1, 1) := by decide +kernel
theorem dX8_does_155 : decode cX8_does 155 = .ok (.isub, 1) := by decide +kernel
theorem dX8_does_156 : decode cX8_does 156 = .ok (.iaload, 1) := by decide +kernel
theorem dX8_does_157 : decode cX8_does 157 = .ok (.invokevirtual 321, 3) := by decide +kernel
theorem dX8_does_160 : decode cX8_does 160 = .ok (.goto 132, 3) := by decide +kernel
theorem dX8_does_163 : decode cX8_does 163 = .ok (.aload_n 0, 1) := by decide +kernel
theorem dX8_does_164 : decode cX8_does 164 = .ok (.iconst 2, 1) := by decide +kernel
theorem dX8_does_165 : decode cX8_does 165 = .ok (.invokevirtual 327, 3) := by decide +kernel
theorem dX8_does_168 : decode cX8_does 168 = .ok (.goto 124, 3) := by decide +kernel
theorem dX8_does_171 : decode cX8_does 171 = .ok (.aload_n 0, 1) := by decide +kernel
theorem dX8_does_172 : decode cX8_does 172 = .ok (.iconst 3, 1) := by decide +kernel
theorem dX8_does_173 : decode cX8_does 173 = .ok (.invokevirtual 327, 3) := by decide +kernel
theorem dX8_does_176 : decode cX8_does 176 = .ok (.goto 116, 3) := by decide +kernel
theorem dX8_does_179 : decode cX8_does 179 = .ok (.aload_n 0, 1) := by decide +kernel
theorem dX8_does_180 : decode cX8_does 180 = .ok (.aload_n 0, 1) := by decide +kernel
theorem dX8_does_181 : decode cX8_does 181 = .ok (.getfield 92, 3) := by decide +kernel
theorem dX8_does_184 : decode cX8_does 184 = .ok (.aload_n 0, 1) := by decide +kernel
theorem dX8_does_185 : decode cX8_does 185 = .ok (.getfield 306, 3) := by decide +kernel
theorem dX8_does_188 : decode cX8_does 188 = .ok (.iconst 2, 1) := by decide +kernel
theorem dX8_does_189 : decode cX8_does 189 = .ok (.isub, 1) := by decide +kernel
theorem dX8_does_190 : decode cX8_does 190 = .ok (.iaload, 1) := by decide +kernel
theorem dX8_does_191 : decode cX8_does 191 = .ok (.invokevirtual 321, 3) := by decide +kernel
theorem dX8_does_194 : decode cX8_does 194 = .ok (.goto 98, 3) := by decide +kernel
theorem dX8_does_197 : decode cX8_does 197 = .ok (.aload_n 0, 1) := by decide +kernel
theorem dX8_does_198 : decode cX8_does 198 = .ok (.invokevirtual 318, 3) := by decide +kernel
theorem dX8_does_201 : decode cX8_does 201 = .ok (.pop, 1) := by decide +kernel
theorem dX8_does_202 : decode cX8_does 202 = .ok (.goto 90, 3) := by decide +kernel
theorem dX8_does_205 : decode cX8_does 205 = .ok (.aload_n 0, 1) := by decide +kernel
theorem dX8_does_206 : decode cX8_does 206 = .ok (.aload_n 0, 1) := by decide +kernel
theorem dX8_does_207 : decode cX8_does 207 = .ok (.getfield 98, 3) := by decide +kernel
theorem dX8_does_210 : decode cX8_does 210 = .ok (.aload_n 0, 1) := by decide +kernel
theorem dX8_does_211 : decode cX8_does 211 = .ok (.getfield 19, 3) := by decide +kernel
theorem dX8_does_214 : decode cX8_does 214 = .ok (.iload_n 1, 1) := by decide +kernel
theorem dX8_does_215 : decode cX8_does 215 = .ok (.iaload, 1) := by decide +kernel
theorem dX8_does_216 : decode cX8_does 216 = .ok (.iaload, 1) := by decide +kernel
theorem dX8_does_217 : decode cX8_does 217 = .ok (.invokevirtual 321, 3) := by decide +kernel
theorem dX8_does_220 : decode cX8_does 220 = .ok (.goto 72, 3) := by decide +kernel
theorem dX8_does_223 : decode cX8_does 223 = .ok (.aload_n 0, 1) := by decide +kernel
theorem dX8_does_224 : decode cX8_does 224 = .ok (.getfield 98, 3) := by decide +kernel
theorem dX8_does_227 : decode cX8_does 227 = .ok (.aload_n 0, 1) := by decide +kernel
theorem dX8_does_228 : decode cX8_does 228 = .ok (.getfield 19, 3) := by decide +kernel
theorem dX8_does_231 : decode cX8_does 231 = .ok (.iload_n 1, 1) := by decide +kernel
theorem dX8_does_232 : decode cX8_does 232 = .ok (.iaload, 1) := by decide +kernel
theorem dX8_does_233 : decode cX8_does 233 = .ok (.aload_n 0, 1) := by decide +kernel
theorem dX8_does_234 : decode cX8_does 234 = .ok (.invokevirtual 318, 3) := by decide +kernel
theorem dX8_does_237 : decode cX8_does 237 = .ok (.iastore, 1) := by decide +kernel
theorem dX8_does_238 : decode cX8_does 238 = .ok (.goto 54, 3) := by decide +kernel
theorem dX8_does_241 : decode cX8_does 241 = .ok (.aload_n 0, 1) := by decide +kernel
theorem dX8_does_242 : decode cX8_does 242 = .ok (.invokevirtual 318, 3) := by decide +kernel
theorem dX8_does_245 : decode cX8_does 245 = .ok (.ifCond .ne 7, 3) := by decide +kernel
theorem dX8_does_248 : decode cX8_does 248 = .ok (.iconst 1, 1) := by decide +kernel
theorem dX8_does_249 : decode cX8_does 249 = .ok (.goto 4, 3) := by decide +kernel
theorem dX8_does_252 : decode cX8_does 252 = .ok (.iconst 0, 1) := by decide +kernel
theorem dX8_does_253 : decode cX8_does 253 = .ok (.ireturn, 1) := by decide +kernel
theorem dX8_does_254 : decode cX8_does 254 = .ok (.aload_n 0, 1) := by decide +kernel
theorem dX8_does_255 : decode cX8_does 255 = .ok (.getfield 95, 3) := by decide +kernel
theorem dX8_does_258 : decode cX8_does 258 = .ok (.aload_n 0, 1) := by decide +kernel
theorem dX8_does_259 : decode cX8_does 259 = .ok (.getfield 315, 3) := by decide +kernel
theorem dX8_does_262 : decode cX8_does 262 = .ok (.aload_n 0, 1) := by decide +kernel
theorem dX8_does_263 : decode cX8_does 263 = .ok (.invokevirtual 318, 3) := by decide +kernel
theorem dX8_does_266 : decode cX8_does 266 = .ok (.iastore, 1) := by decide +kernel
theorem dX8_does_267 : decode cX8_does 267 = .ok (.aload_n 0, 1) := by decide +kernel
theorem dX8_does_268 : decode cX8_does 268 = .ok (.dup, 1) := by decide +kernel
theorem dX8_does_269 : decode cX8_does 269 = .ok (.getfield 315, 3) := by decide +kernel
theorem dX8_does_272 : decode cX8_does 272 = .ok (.iconst 1, 1) := by decide +kernel
theorem dX8_does_273 : decode cX8_does 273 = .ok (.iadd, 1) := by decide +kernel
theorem dX8_does_274 : decode cX8_does 274 = .ok (.putfield 315, 3) := by decide +kernel
theorem dX8_does_277 : decode cX8_does 277 = .ok (.goto 15, 3) := by decide +kernel
theorem dX8_does_280 : decode cX8_does 280 = .ok (.iload_n 2, 1) := by decide +kernel
theorem dX8_does_281 : decode cX8_does 281 = .ok (.bipush 106, 2) := by decide +kernel
theorem dX8_does_283 : decode cX8_does 283 = .ok (.if_icmp .ne 7, 3) := by decide +kernel
theorem dX8_does_286 : decode cX8_does 286 = .ok (.iconst 1, 1) := by decide +kernel
theorem dX8_does_287 : decode cX8_does 287 = .ok (.goto 4, 3) := by decide +kernel
theorem dX8_does_290 : decode cX8_does 290 = .ok (.iconst 0, 1) := by decide +kernel
theorem dX8_does_291 : decode cX8_does 291 = .ok (.ireturn, 1) := by decide +kernel
theorem dX8_does_292 : decode cX8_does 292 = .ok (.iconst 0, 1) := by decide +kernel
theorem dX8_does_293 : decode cX8_does 293 = .ok (.ireturn, 1) := by decide +kernel
theorem dX8_stepsOnce_0 : decode cX8_stepsOnce 0 = .ok (.aload_n 0, 1) := by decide +kernel
theorem dX8_stepsOnce_1 : decode cX8_stepsOnce 1 = .ok (.getfield 300, 3) := by decide +kernel
theorem dX8_stepsOnce_4 : decode cX8_stepsOnce 4 = .ok (.istore_n 1, 1) := by decide +kernel
theorem dX8_stepsOnce_5 : decode cX8_stepsOnce 5 = .ok (.aload_n 0, 1) := by decide +kernel
theorem dX8_stepsOnce_6 : decode cX8_stepsOnce 6 = .ok (.aload_n 0, 1) := by decide +kernel
theorem dX8_stepsOnce_7 : decode cX8_stepsOnce 7 = .ok (.getfield 16, 3) := by decide +kernel
theorem dX8_stepsOnce_10 : decode cX8_stepsOnce 10 = .ok (.iload_n 1, 1) := by decide +kernel
theorem dX8_stepsOnce_11 : decode cX8_stepsOnce 11 = .ok (.iaload, 1) := by decide +kernel
theorem dX8_stepsOnce_12 : decode cX8_stepsOnce 12 = .ok (.aload_n 0, 1) := by decide +kernel
theorem dX8_stepsOnce_13 : decode cX8_stepsOnce 13 = .ok (.getfield 303, 3) := by decide +kernel
theorem dX8_stepsOnce_16 : decode cX8_stepsOnce 16 = .ok (.invokevirtual 236, 3) := by decide +kernel
theorem dX8_stepsOnce_19 : decode cX8_stepsOnce 19 = .ok (.pop, 1) := by decide +kernel
theorem dX8_stepsOnce_20 : decode cX8_stepsOnce 20 = .ok (.aload_n 0, 1) := by decide +kernel
theorem dX8_stepsOnce_21 : decode cX8_stepsOnce 21 = .ok (.getfield 217, 3) := by decide +kernel
theorem dX8_stepsOnce_24 : decode cX8_stepsOnce 24 = .ok (.istore_n 2, 1) := by decide +kernel
theorem dX8_stepsOnce_25 : decode cX8_stepsOnce 25 = .ok (.aload_n 0, 1) := by decide +kernel
theorem dX8_stepsOnce_26 : decode cX8_stepsOnce 26 = .ok (.dup, 1) := by decide +kernel
theorem dX8_stepsOnce_27 : decode cX8_stepsOnce 27 = .ok (.getfield 309, 3) := by decide +kernel
theorem dX8_stepsOnce_30 : decode cX8_stepsOnce 30 = .ok (.aload_n 0, 1) := by decide +kernel
theorem dX8_stepsOnce_31 : decode cX8_stepsOnce 31 = .ok (.getfield 226, 3) := by decide +kernel
theorem dX8_stepsOnce_34 : decode cX8_stepsOnce 34 = .ok (.iadd, 1) := by decide +kernel
theorem dX8_stepsOnce_35 : decode cX8_stepsOnce 35 = .ok (.putfield 309, 3) := by decide +kernel
theorem dX8_stepsOnce_38 : decode cX8_stepsOnce 38 = .ok (.aload_n 0, 1) := by decide +kernel
theorem dX8_stepsOnce_39 : decode cX8_stepsOnce 39 = .ok (.dup, 1) := by decide +kernel
theorem dX8_stepsOnce_40 : decode cX8_stepsOnce 40 = .ok (.getfield 312, 3) := by decide +kernel
theorem dX8_stepsOnce_43 : decode cX8_stepsOnce 43 = .ok (.iconst 1, 1) := by decide +kernel
theorem dX8_stepsOnce_44 : decode cX8_stepsOnce 44 = .ok (.iadd, 1) := by decide +kernel
theorem dX8_stepsOnce_45 : decode cX8_stepsOnce 45 = .ok (.putfield 312, 3) := by decide +kernel
theorem dX8_stepsOnce_48 : decode cX8_stepsOnce 48 = .ok (.aload_n 0, 1) := by decide +kernel
theorem dX8_stepsOnce_49 : decode cX8_stepsOnce 49 = .ok (.getfield 101, 3) := by decide +kernel
theorem dX8_stepsOnce_52 : decode cX8_stepsOnce 52 = .ok (.iload_n 1, 1) := by decide +kernel
theorem dX8_stepsOnce_53 : decode cX8_stepsOnce 53 = .ok (.dup2, 1) := by decide +kernel
theorem dX8_stepsOnce_54 : decode cX8_stepsOnce 54 = .ok (.iaload, 1) := by decide +kernel
theorem dX8_stepsOnce_55 : decode cX8_stepsOnce 55 = .ok (.iconst 1, 1) := by decide +kernel
theorem dX8_stepsOnce_56 : decode cX8_stepsOnce 56 = .ok (.iadd, 1) := by decide +kernel
theorem dX8_stepsOnce_57 : decode cX8_stepsOnce 57 = .ok (.iastore, 1) := by decide +kernel
theorem dX8_stepsOnce_58 : decode cX8_stepsOnce 58 = .ok (.aload_n 0, 1) := by decide +kernel
theorem dX8_stepsOnce_59 : decode cX8_stepsOnce 59 = .ok (.iload_n 1, 1) := by decide +kernel
theorem dX8_stepsOnce_60 : decode cX8_stepsOnce 60 = .ok (.invokevirtual 330, 3) := by decide +kernel
theorem dX8_stepsOnce_63 : decode cX8_stepsOnce 63 = .ok (.istore_n 3, 1) := by decide +kernel
theorem dX8_stepsOnce_64 : decode cX8_stepsOnce 64 = .ok (.aload_n 0, 1) := by decide +kernel
theorem dX8_stepsOnce_65 : decode cX8_stepsOnce 65 = .ok (.aload_n 0, 1) := by decide +kernel
theorem dX8_stepsOnce_66 : decode cX8_stepsOnce 66 = .ok (.getfield 16, 3) := by decide +kernel
theorem dX8_stepsOnce_69 : decode cX8_stepsOnce 69 = .ok (.aload_n 0, 1) := by decide +kernel
theorem dX8_stepsOnce_70 : decode cX8_stepsOnce 70 = .ok (.getfield 19, 3) := by decide +kernel
theorem dX8_stepsOnce_73 : decode cX8_stepsOnce 73 = .ok (.iload_n 1, 1) := by decide +kernel
theorem dX8_stepsOnce_74 : decode cX8_stepsOnce 74 = .ok (.iload_n 3, 1) := by decide +kernel
theorem dX8_stepsOnce_75 : decode cX8_stepsOnce 75 = .ok (.ifCond .eq 7, 3) := by decide +kernel
theorem dX8_stepsOnce_78 : decode cX8_stepsOnce 78 = .ok (.iconst 1, 1) := by decide +kernel
theorem dX8_stepsOnce_79 : decode cX8_stepsOnce 79 = .ok (.goto 4, 3) := by decide +kernel
theorem dX8_stepsOnce_82 : decode cX8_stepsOnce 82 = .ok (.iconst 0, 1) := by decide +kernel
theorem dX8_stepsOnce_83 : decode cX8_stepsOnce 83 = .ok (.aload_n 0, 1) := by decide +kernel
theorem dX8_stepsOnce_84 : decode cX8_stepsOnce 84 = .ok (.getfield 172, 3) := by decide +kernel
theorem dX8_stepsOnce_87 : decode cX8_stepsOnce 87 = .ok (.invokestatic 158, 3) := by decide +kernel
theorem dX8_stepsOnce_90 : decode cX8_stepsOnce 90 = .ok (.putfield 300, 3) := by decide +kernel
theorem dX8_stepsOnce_93 : decode cX8_stepsOnce 93 = .ok (.aload_n 0, 1) := by decide +kernel
theorem dX8_stepsOnce_94 : decode cX8_stepsOnce 94 = .ok (.aload_n 0, 1) := by decide +kernel
theorem dX8_stepsOnce_95 : decode cX8_stepsOnce 95 = .ok (.getfield 300, 3) := by decide +kernel
theorem dX8_stepsOnce_98 : decode cX8_stepsOnce 98 = .ok (.bipush (-4), 2) := by decide +kernel
theorem dX8_stepsOnce_100 : decode cX8_stepsOnce 100 = .ok (.if_icmp .ne 7, 3) := by decide +kernel
theorem dX8_stepsOnce_103 : decode cX8_stepsOnce 103 = .ok (.iconst 1, 1) := by decide +kernel
theorem dX8_stepsOnce_104 : decode cX8_stepsOnce 104 = .ok (.goto 4, 3) := by decide +kernel
theorem dX8_stepsOnce_107 : decode cX8_stepsOnce 107 = .ok (.iconst 0, 1) := by decide +kernel
theorem dX8_stepsOnce_108 : decode cX8_stepsOnce 108 = .ok (.putfield 297, 3) := by decide +kernel
theorem dX8_stepsOnce_111 : decode cX8_stepsOnce 111 = .ok (.aload_n 0, 1) := by decide +kernel
theorem dX8_stepsOnce_112 : decode cX8_stepsOnce 112 = .ok (.getfield 297, 3) := by decide +kernel
theorem dX8_stepsOnce_115 : decode cX8_stepsOnce 115 = .ok (.ifCond .ne 31, 3) := by decide +kernel
theorem dX8_stepsOnce_118 : decode cX8_stepsOnce 118 = .ok (.aload_n 0, 1) := by decide +kernel
theorem dX8_stepsOnce_119 : decode cX8_stepsOnce 119 = .ok (.dup, 1) := by decide +kernel
theorem dX8_stepsOnce_120 : decode cX8_stepsOnce 120 = .ok (.getfield 309, 3) := by decide +kernel
theorem dX8_stepsOnce_123 : decode cX8_stepsOnce 123 = .ok (.aload_n 0, 1) := by decide +kernel
theorem dX8_stepsOnce_124 : decode cX8_stepsOnce 124 = .ok (.getfield 61, 3) := by decide +kernel
theorem dX8_stepsOnce_127 : decode cX8_stepsOnce 127 = .ok (.bipush 16, 2) := by decide +kernel
theorem dX8_stepsOnce_129 : decode cX8_stepsOnce 129 = .ok (.iload_n 2, 1) := by decide +kernel
theorem dX8_stepsOnce_130 : decode cX8_stepsOnce 130 = .ok (.imul, 1) := by decide +kernel
theorem dX8_stepsOnce_131 : decode cX8_stepsOnce 131 = .ok (.aload_n 0, 1) := by decide +kernel
theorem dX8_stepsOnce_132 : decode cX8_stepsOnce 132 = .ok (.getfield 70, 3) := by decide +kernel
theorem dX8_stepsOnce_135 : decode cX8_stepsOnce 135 = .ok (.aload_n 0, 1) := by decide +kernel
theorem dX8_stepsOnce_136 : decode cX8_stepsOnce 136 = .ok (.getfield 300, 3) := by decide +kernel
theorem dX8_stepsOnce_139 : decode cX8_stepsOnce 139 = .ok (.iaload, 1) := by decide +kernel
theorem dX8_stepsOnce_140 : decode cX8_stepsOnce 140 = .ok (.iadd, 1) := by decide +kernel
theorem dX8_stepsOnce_141 : decode cX8_stepsOnce 141 = .ok (.iaload, 1) := by decide +kernel
theorem dX8_stepsOnce_142 : decode cX8_stepsOnce 142 = .ok (.iadd, 1) := by decide +kernel
theorem dX8_stepsOnce_143 : decode cX8_stepsOnce 143 = .ok (.putfield 309, 3) := by decide +kernel
theorem dX8_stepsOnce_146 : decode cX8_stepsOnce 146 = .ok (.aload_n 0, 1) := by decide +kernel
theorem dX8_stepsOnce_147 : decode cX8_stepsOnce 147 = .ok (.aload_n 0, 1) := by decide +kernel
theorem dX8_stepsOnce_148 : decode cX8_stepsOnce 148 = .ok (.getfield 297, 3) := by decide +kernel
theorem dX8_stepsOnce_151 : decode cX8_stepsOnce 151 = .ok (.ifCond .eq 7, 3) := by decide +kernel
theorem dX8_stepsOnce_154 : decode cX8_stepsOnce 154 = .ok (.iload_n 2, 1) := by decide +kernel
theorem dX8_stepsOnce_155 : decode cX8_stepsOnce 155 = .ok (.goto 12, 3) := by decide +kernel
theorem dX8_stepsOnce_158 : decode cX8_stepsOnce 158 = .ok (.aload_n 0, 1) := by decide +kernel
theorem dX8_stepsOnce_159 : decode cX8_stepsOnce 159 = .ok (.getfield 70, 3) := by decide +kernel
theorem dX8_stepsOnce_162 : decode cX8_stepsOnce 162 = .ok (.aload_n 0, 1) := by decide +kernel
theorem dX8_stepsOnce_163 : decode cX8_stepsOnce 163 = .ok (.getfield 300, 3) := by decide +kernel
theorem dX8_stepsOnce_166 : decode cX8_stepsOnce 166 = .ok (.iaload, 1) := by decide +kernel
theorem dX8_stepsOnce_167 : decode cX8_stepsOnce 167 = .ok (.putfield 303, 3) := by decide +kernel
theorem dX8_stepsOnce_170 : decode cX8_stepsOnce 170 = .ok (.return_, 1) := by decide +kernel
theorem dX8_step_0 : decode cX8_step 0 = .ok (.iload_n 1, 1) := by decide +kernel
theorem dX8_step_1 : decode cX8_step 1 = .ok (.iconst 1, 1) := by decide +kernel
theorem dX8_step_2 : decode cX8_step 2 = .ok (.sipush 500, 3) := by decide +kernel
theorem dX8_step_5 : decode cX8_step 5 = .ok (.invokestatic 114, 3) := by decide +kernel
theorem dX8_step_8 : decode cX8_step 8 = .ok (.ifCond .ne 5, 3) := by decide +kernel
theorem dX8_step_11 : decode cX8_step 11 = .ok (.iconst (-1), 1) := by decide +kernel
theorem dX8_step_12 : decode cX8_step 12 = .ok (.ireturn, 1) := by decide +kernel
theorem dX8_step_13 : decode cX8_step 13 = .ok (.aload_n 0, 1) := by decide +kernel
theorem dX8_step_14 : decode cX8_step 14 = .ok (.getfield 178, 3) := by decide +kernel
theorem dX8_step_17 : decode cX8_step 17 = .ok (.ifCond .eq 10, 3) := by decide +kernel
theorem dX8_step_20 : decode cX8_step 20 = .ok (.aload_n 0, 1) := by decide +kernel
theorem dX8_step_21 : decode cX8_step 21 = .ok (.getfield 297, 3) := by decide +kernel
theorem dX8_step_24 : decode cX8_step 24 = .ok (.ifCond .eq 6, 3) := by decide +kernel
theorem dX8_step_27 : decode cX8_step 27 = .ok (.bipush (-2), 2) := by decide +kernel
theorem dX8_step_29 : decode cX8_step 29 = .ok (.ireturn, 1) := by decide +kernel
theorem dX8_step_30 : decode cX8_step 30 = .ok (.aload_n 0, 1) := by decide +kernel
theorem dX8_step_31 : decode cX8_step 31 = .ok (.invokevirtual 207, 3) := by decide +kernel
theorem dX8_step_34 : decode cX8_step 34 = .ok (.iconst 0, 1) := by decide +kernel
theorem dX8_step_35 : decode cX8_step 35 = .ok (.istore_n 2, 1) := by decide +kernel
theorem dX8_step_36 : decode cX8_step 36 = .ok (.iload_n 2, 1) := by decide +kernel
theorem dX8_step_37 : decode cX8_step 37 = .ok (.iload_n 1, 1) := by decide +kernel
theorem dX8_step_38 : decode cX8_step 38 = .ok (.if_icmp .ge 57, 3) := by decide +kernel
theorem dX8_step_41 : decode cX8_step 41 = .ok (.aload_n 0, 1) := by decide +kernel
theorem dX8_step_42 : decode cX8_step 42 = .ok (.getfield 297, 3) := by decide +kernel
theorem dX8_step_45 : decode cX8_step 45 = .ok (.ifCond .ne 50, 3) := by decide +kernel
theorem dX8_step_48 : decode cX8_step 48 = .ok (.aload_n 0, 1) := by decide +kernel
theorem dX8_step_49 : decode cX8_step 49 = .ok (.getfield 16, 3) := by decide +kernel
theorem dX8_step_52 : decode cX8_step 52 = .ok (.aload_n 0, 1) := by decide +kernel
theorem dX8_step_53 : decode cX8_step 53 = .ok (.getfield 300, 3) := by decide +kernel
theorem dX8_step_56 : decode cX8_step 56 = .ok (.iaload, 1) := by decide +kernel
theorem dX8_step_57 : decode cX8_step 57 = .ok (.bipush 119, 2) := by decide +kernel
theorem dX8_step_59 : decode cX8_step 59 = .ok (.if_icmp .ne 26, 3) := by decide +kernel
theorem dX8_step_62 : decode cX8_step 62 = .ok (.aload_n 0, 1) := by decide +kernel
theorem dX8_step_63 : decode cX8_step 63 = .ok (.getfield 315, 3) := by decide +kernel
theorem dX8_step_66 : decode cX8_step 66 = .ok (.bipush 16, 2) := by decide +kernel
theorem dX8_step_68 : decode cX8_step 68 = .ok (.if_icmp .ne 17, 3) := by decide +kernel
theorem dX8_step_71 : decode cX8_step 71 = .ok (.aload_n 0, 1) := by decide +kernel
theorem dX8_step_72 : decode cX8_step 72 = .ok (.iconst 1, 1) := by decide +kernel
theorem dX8_step_73 : decode cX8_step 73 = .ok (.putfield 297, 3) := by decide +kernel
theorem dX8_step_76 : decode cX8_step 76 = .ok (.aload_n 0, 1) := by decide +kernel
theorem dX8_step_77 : decode cX8_step 77 = .ok (.bipush (-4), 2) := by decide +kernel
theorem dX8_step_79 : decode cX8_step 79 = .ok (.putfield 300, 3) := by decide +kernel
theorem dX8_step_82 : decode cX8_step 82 = .ok (.goto (-46), 3) := by decide +kernel
theorem dX8_step_85 : decode cX8_step 85 = .ok (.aload_n 0, 1) := by decide +kernel
theorem dX8_step_86 : decode cX8_step 86 = .ok (.invokevirtual 333, 3) := by decide +kernel
theorem dX8_step_89 : decode cX8_step 89 = .ok (.iinc 2 1, 3) := by decide +kernel
theorem dX8_step_92 : decode cX8_step 92 = .ok (.goto (-56), 3) := by decide +kernel
theorem dX8_step_95 : decode cX8_step 95 = .ok (.iload_n 2, 1) := by decide +kernel
theorem dX8_step_96 : decode cX8_step 96 = .ok (.ireturn, 1) := by decide +kernel
theorem dX8_now_0 : decode cX8_now 0 = .ok (.iload_n 1, 1) := by decide +kernel
theorem dX8_now_1 : decode cX8_now 1 = .ok (.iconst 0, 1) := by decide +kernel
theorem dX8_now_2 : decode cX8_now 2 = .ok (.iconst 5, 1) := by decide +kernel
theorem dX8_now_3 : decode cX8_now 3 = .ok (.invokestatic 114, 3) := by decide +kernel
theorem dX8_now_6 : decode cX8_now 6 = .ok (.ifCond .ne 5, 3) := by decide +kernel
theorem dX8_now_9 : decode cX8_now 9 = .ok (.iconst (-1), 1) := by decide +kernel
theorem dX8_now_10 : decode cX8_now 10 = .ok (.ireturn, 1) := by decide +kernel
theorem dX8_now_11 : decode cX8_now 11 = .ok (.aload_n 0, 1) := by decide +kernel
theorem dX8_now_12 : decode cX8_now 12 = .ok (.getfield 178, 3) := by decide +kernel
theorem dX8_now_15 : decode cX8_now 15 = .ok (.ifCond .ne 6, 3) := by decide +kernel
theorem dX8_now_18 : decode cX8_now 18 = .ok (.bipush (-2), 2) := by decide +kernel
theorem dX8_now_20 : decode cX8_now 20 = .ok (.ireturn, 1) := by decide +kernel
theorem dX8_now_21 : decode cX8_now 21 = .ok (.iload_n 1, 1) := by decide +kernel
theorem dX8_now_22 : decode cX8_now 22 = .ok (.tableswitch 59 0 4 #[34, 39, 44, 49, 54], 34) := by decide +kernel
theorem dX8_now_56 : decode cX8_now 56 = .ok (.aload_n 0, 1) := by decide +kernel
theorem dX8_now_57 : decode cX8_now 57 = .ok (.getfield 300, 3) := by decide +kernel
theorem dX8_now_60 : decode cX8_now 60 = .ok (.ireturn, 1) := by decide +kernel
theorem dX8_now_61 : decode cX8_now 61 = .ok (.aload_n 0, 1) := by decide +kernel
theorem dX8_now_62 : decode cX8_now 62 = .ok (.getfield 303, 3) := by decide +kernel
theorem dX8_now_65 : decode cX8_now 65 = .ok (.ireturn, 1) := by decide +kernel
theorem dX8_now_66 : decode cX8_now 66 = .ok (.aload_n 0, 1) := by decide +kernel
theorem dX8_now_67 : decode cX8_now 67 = .ok (.getfield 306, 3) := by decide +kernel
theorem dX8_now_70 : decode cX8_now 70 = .ok (.ireturn, 1) := by decide +kernel
theorem dX8_now_71 : decode cX8_now 71 = .ok (.aload_n 0, 1) := by decide +kernel
theorem dX8_now_72 : decode cX8_now 72 = .ok (.getfield 309, 3) := by decide +kernel
theorem dX8_now_75 : decode cX8_now 75 = .ok (.ireturn, 1) := by decide +kernel
theorem dX8_now_76 : decode cX8_now 76 = .ok (.aload_n 0, 1) := by decide +kernel
theorem dX8_now_77 : decode cX8_now 77 = .ok (.getfield 312, 3) := by decide +kernel
theorem dX8_now_80 : decode cX8_now 80 = .ok (.ireturn, 1) := by decide +kernel
theorem dX8_now_81 : decode cX8_now 81 = .ok (.aload_n 0, 1) := by decide +kernel
theorem dX8_now_82 : decode cX8_now 82 = .ok (.getfield 315, 3) := by decide +kernel
theorem dX8_now_85 : decode cX8_now 85 = .ok (.ireturn, 1) := by decide +kernel
theorem dX8_modulo_0 : decode cX8_modulo 0 = .ok (.iload_n 0, 1) := by decide +kernel
theorem dX8_modulo_1 : decode cX8_modulo 1 = .ok (.ldc 250, 2) := by decide +kernel
theorem dX8_modulo_3 : decode cX8_modulo 3 = .ok (.irem, 1) := by decide +kernel
theorem dX8_modulo_4 : decode cX8_modulo 4 = .ok (.istore_n 1, 1) := by decide +kernel
theorem dX8_modulo_5 : decode cX8_modulo 5 = .ok (.iload_n 1, 1) := by decide +kernel
theorem dX8_modulo_6 : decode cX8_modulo 6 = .ok (.ifCond .ge 10, 3) := by decide +kernel
theorem dX8_modulo_9 : decode cX8_modulo 9 = .ok (.iload_n 1, 1) := by decide +kernel
theorem dX8_modulo_10 : decode cX8_modulo 10 = .ok (.ldc 250, 2) := by decide +kernel
theorem dX8_modulo_12 : decode cX8_modulo 12 = .ok (.iadd, 1) := by decide +kernel
theorem dX8_modulo_13 : decode cX8_modulo 13 = .ok (.goto 4, 3) := by decide +kernel
theorem dX8_modulo_16 : decode cX8_modulo 16 = .ok (.iload_n 1, 1) := by decide +kernel
theorem dX8_modulo_17 : decode cX8_modulo 17 = .ok (.ireturn, 1) := by decide +kernel
theorem dX8_cell_0 : decode cX8_cell 0 = .ok (.iload_n 1, 1) := by decide +kernel
theorem dX8_cell_1 : decode cX8_cell 1 = .ok (.ifCond .ge 5, 3) := by decide +kernel
theorem dX8_cell_4 : decode cX8_cell 4 = .ok (.iconst (-1), 1) := by decide +kernel
theorem dX8_cell_5 : decode cX8_cell 5 = .ok (.ireturn, 1) := by decide +kernel
theorem dX8_cell_6 : decode cX8_cell 6 = .ok (.aload_n 0, 1) := by decide +kernel
theorem dX8_cell_7 : decode cX8_cell 7 = .ok (.getfield 178, 3) := by decide +kernel
theorem dX8_cell_10 : decode cX8_cell 10 = .ok (.ifCond .ne 6, 3) := by decide +kernel
theorem dX8_cell_13 : decode cX8_cell 13 = .ok (.bipush (-2), 2) := by decide +kernel
theorem dX8_cell_15 : decode cX8_cell 15 = .ok (.ireturn, 1) := by decide +kernel
theorem dX8_cell_16 : decode cX8_cell 16 = .ok (.iload_n 1, 1) := by decide +kernel
theorem dX8_cell_17 : decode cX8_cell 17 = .ok (.aload_n 0, 1) := by decide +kernel
theorem dX8_cell_18 : decode cX8_cell 18 = .ok (.getfield 306, 3) := by decide +kernel
theorem dX8_cell_21 : decode cX8_cell 21 = .ok (.if_icmp .ge 22, 3) := by decide +kernel
theorem dX8_cell_24 : decode cX8_cell 24 = .ok (.aload_n 0, 1) := by decide +kernel
theorem dX8_cell_25 : decode cX8_cell 25 = .ok (.getfield 92, 3) := by decide +kernel
theorem dX8_cell_28 : decode cX8_cell 28 = .ok (.aload_n 0, 1) := by decide +kernel
theorem dX8_cell_29 : decode cX8_cell 29 = .ok (.getfield 306, 3) := by decide +kernel
theorem dX8_cell_32 : decode cX8_cell 32 = .ok (.iconst 1, 1) := by decide +kernel
theorem dX8_cell_33 : decode cX8_cell 33 = .ok (.isub, 1) := by decide +kernel
theorem dX8_cell_34 : decode cX8_cell 34 = .ok (.iload_n 1, 1) := by decide +kernel
theorem dX8_cell_35 : decode cX8_cell 35 = .ok (.isub, 1) := by decide +kernel
theorem dX8_cell_36 : decode cX8_cell 36 = .ok (.iaload, 1) := by decide +kernel
theorem dX8_cell_37 : decode cX8_cell 37 = .ok (.invokestatic 336, 3) := by decide +kernel
theorem dX8_cell_40 : decode cX8_cell 40 = .ok (.goto 5, 3) := by decide +kernel
theorem dX8_cell_43 : decode cX8_cell 43 = .ok (.bipush (-4), 2) := by decide +kernel
theorem dX8_cell_45 : decode cX8_cell 45 = .ok (.ireturn, 1) := by decide +kernel
theorem dX8_register_0 : decode cX8_register 0 = .ok (.iload_n 1, 1) := by decide +kernel
theorem dX8_register_1 : decode cX8_register 1 = .ok (.iconst 0, 1) := by decide +kernel
theorem dX8_register_2 : decode cX8_register 2 = .ok (.aload_n 0, 1) := by decide +kernel
theorem dX8_register_3 : decode cX8_register 3 = .ok (.getfield 7, 3) := by decide +kernel
theorem dX8_register_6 : decode cX8_register 6 = .ok (.iconst 0, 1) := by decide +kernel
theorem dX8_register_7 : decode cX8_register 7 = .ok (.iaload, 1) := by decide +kernel
theorem dX8_register_8 : decode cX8_register 8 = .ok (.iconst 1, 1) := by decide +kernel
theorem dX8_register_9 : decode cX8_register 9 = .ok (.isub, 1) := by decide +kernel
theorem dX8_register_10 : decode cX8_register 10 = .ok (.invokestatic 114, 3) := by decide +kernel
theorem dX8_register_13 : decode cX8_register 13 = .ok (.ifCond .ne 5, 3) := by decide +kernel
theorem dX8_register_16 : decode cX8_register 16 = .ok (.iconst (-1), 1) := by decide +kernel
theorem dX8_register_17 : decode cX8_register 17 = .ok (.ireturn, 1) := by decide +kernel
theorem dX8_register_18 : decode cX8_register 18 = .ok (.aload_n 0, 1) := by decide +kernel
theorem dX8_register_19 : decode cX8_register 19 = .ok (.getfield 178, 3) := by decide +kernel
theorem dX8_register_22 : decode cX8_register 22 = .ok (.ifCond .ne 6, 3) := by decide +kernel
theorem dX8_register_25 : decode cX8_register 25 = .ok (.bipush (-2), 2) := by decide +kernel
theorem dX8_register_27 : decode cX8_register 27 = .ok (.ireturn, 1) := by decide +kernel
theorem dX8_register_28 : decode cX8_register 28 = .ok (.aload_n 0, 1) := by decide +kernel
theorem dX8_register_29 : decode cX8_register 29 = .ok (.invokevirtual 207, 3) := by decide +kernel
theorem dX8_register_32 : decode cX8_register 32 = .ok (.iconst 0, 1) := by decide +kernel
theorem dX8_register_33 : decode cX8_register 33 = .ok (.istore_n 2, 1) := by decide +kernel
theorem dX8_register_34 : decode cX8_register 34 = .ok (.iload_n 2, 1) := by decide +kernel
theorem dX8_register_35 : decode cX8_register 35 = .ok (.aload_n 0, 1) := by decide +kernel
theorem dX8_register_36 : decode cX8_register 36 = .ok (.getfield 52, 3) := by decide +kernel
theorem dX8_register_39 : decode cX8_register 39 = .ok (.aload_n 0, 1) := by decide +kernel
theorem dX8_register_40 : decode cX8_register 40 = .ok (.getfield 303, 3) := by decide +kernel
theorem dX8_register_43 : decode cX8_register 43 = .ok (.iaload, 1) := by decide +kernel
theorem dX8_register_44 : decode cX8_register 44 = .ok (.if_icmp .ge 43, 3) := by decide +kernel
theorem dX8_register_47 : decode cX8_register 47 = .ok (.aload_n 0, 1) := by decide +kernel
theorem dX8_register_48 : decode cX8_register 48 = .ok (.getfield 55, 3) := by decide +kernel
theorem dX8_register_51 : decode cX8_register 51 = .ok (.iconst 3, 1) := by decide +kernel
theorem dX8_register_52 : decode cX8_register 52 = .ok (.aload_n 0, 1) := by decide +kernel
theorem dX8_register_53 : decode cX8_register 53 = .ok (.getfield 303, 3) := by decide +kernel
theorem dX8_register_56 : decode cX8_register 56 = .ok (.imul, 1) := by decide +kernel
theorem dX8_register_57 : decode cX8_register 57 = .ok (.iload_n 2, 1) := by decide +kernel
theorem dX8_register_58 : decode cX8_register 58 = .ok (.iadd, 1) := by decide +kernel
theorem dX8_register_59 : decode cX8_register 59 = .ok (.iaload, 1) := by decide +kernel
theorem dX8_register_60 : decode cX8_register 60 = .ok (.iload_n 1, 1) := by decide +kernel
theorem dX8_register_61 : decode cX8_register 61 = .ok (.if_icmp .ne 20, 3) := by decide +kernel
theorem dX8_register_64 : decode cX8_register 64 = .ok (.aload_n 0, 1) := by decide +kernel
theorem dX8_register_65 : decode cX8_register 65 = .ok (.getfield 92, 3) := by decide +kernel
theorem dX8_register_68 : decode cX8_register 68 = .ok (.aload_n 0, 1) := by decide +kernel
theorem dX8_register_69 : decode cX8_register 69 = .ok (.getfield 306, 3) := by decide +kernel
theorem dX8_register_72 : decode cX8_register 72 = .ok (.iconst 1, 1) := by decide +kernel
theorem dX8_register_73 : decode cX8_register 73 = .ok (.isub, 1) := by decide +kernel
theorem dX8_register_74 : decode cX8_register 74 = .ok (.iload_n 2, 1) := by decide +kernel
theorem dX8_register_75 : decode cX8_register 75 = .ok (.isub, 1) := by decide +kernel
theorem dX8_register_76 : decode cX8_register 76 = .ok (.iaload, 1) := by decide +kernel
theorem dX8_register_77 : decode cX8_register 77 = .ok (.invokestatic 336, 3) := by decide +kernel
theorem dX8_register_80 : decode cX8_register 80 = .ok (.ireturn, 1) := by decide +kernel
theorem dX8_register_81 : decode cX8_register 81 = .ok (.iinc 2 1, 3) := by decide +kernel
theorem dX8_register_84 : decode cX8_register 84 = .ok (.goto (-50), 3) := by decide +kernel
theorem dX8_register_87 : decode cX8_register 87 = .ok (.bipush (-4), 2) := by decide +kernel
theorem dX8_register_89 : decode cX8_register 89 = .ok (.ireturn, 1) := by decide +kernel
theorem dX8_memory_0 : decode cX8_memory 0 = .ok (.iload_n 1, 1) := by decide +kernel
theorem dX8_memory_1 : decode cX8_memory 1 = .ok (.ifCond .ge 5, 3) := by decide +kernel
theorem dX8_memory_4 : decode cX8_memory 4 = .ok (.iconst (-1), 1) := by decide +kernel
theorem dX8_memory_5 : decode cX8_memory 5 = .ok (.ireturn, 1) := by decide +kernel
theorem dX8_memory_6 : decode cX8_memory 6 = .ok (.aload_n 0, 1) := by decide +kernel
theorem dX8_memory_7 : decode cX8_memory 7 = .ok (.getfield 178, 3) := by decide +kernel
theorem dX8_memory_10 : decode cX8_memory 10 = .ok (.ifCond .ne 6, 3) := by decide +kernel
theorem dX8_memory_13 : decode cX8_memory 13 = .ok (.bipush (-2), 2) := by decide +kernel
theorem dX8_memory_15 : decode cX8_memory 15 = .ok (.ireturn, 1) := by decide +kernel
theorem dX8_memory_16 : decode cX8_memory 16 = .ok (.aload_n 0, 1) := by decide +kernel
theorem dX8_memory_17 : decode cX8_memory 17 = .ok (.invokevirtual 207, 3) := by decide +kernel
theorem dX8_memory_20 : decode cX8_memory 20 = .ok (.iload_n 1, 1) := by decide +kernel
theorem dX8_memory_21 : decode cX8_memory 21 = .ok (.aload_n 0, 1) := by decide +kernel
theorem dX8_memory_22 : decode cX8_memory 22 = .ok (.getfield 306, 3) := by decide +kernel
theorem dX8_memory_25 : decode cX8_memory 25 = .ok (.aload_n 0, 1) := by decide +kernel
theorem dX8_memory_26 : decode cX8_memory 26 = .ok (.getfield 52, 3) := by decide +kernel
theorem dX8_memory_29 : decode cX8_memory 29 = .ok (.aload_n 0, 1) := by decide +kernel
theorem dX8_memory_30 : decode cX8_memory 30 = .ok (.getfield 303, 3) := by decide +kernel
theorem dX8_memory_33 : decode cX8_memory 33 = .ok (.iaload, 1) := by decide +kernel
theorem dX8_memory_34 : decode cX8_memory 34 = .ok (.isub, 1) := by decide +kernel
theorem dX8_memory_35 : decode cX8_memory 35 = .ok (.if_icmp .ge 15, 3) := by decide +kernel
theorem dX8_memory_38 : decode cX8_memory 38 = .ok (.aload_n 0, 1) := by decide +kernel
theorem dX8_memory_39 : decode cX8_memory 39 = .ok (.getfield 92, 3) := by decide +kernel
theorem dX8_memory_42 : decode cX8_memory 42 = .ok (.iload_n 1, 1) := by decide +kernel
theorem dX8_memory_43 : decode cX8_memory 43 = .ok (.iaload, 1) := by decide +kernel
theorem dX8_memory_44 : decode cX8_memory 44 = .ok (.invokestatic 336, 3) := by decide +kernel
theorem dX8_memory_47 : decode cX8_memory 47 = .ok (.goto 5, 3) := by decide +kernel
theorem dX8_memory_50 : decode cX8_memory 50 = .ok (.bipush (-4), 2) := by decide +kernel
theorem dX8_memory_52 : decode cX8_memory 52 = .ok (.ireturn, 1) := by decide +kernel
theorem dX8_variable_0 : decode cX8_variable 0 = .ok (.iload_n 1, 1) := by decide +kernel
theorem dX8_variable_1 : decode cX8_variable 1 = .ok (.iconst 0, 1) := by decide +kernel
theorem dX8_variable_2 : decode cX8_variable 2 = .ok (.iconst 3, 1) := by decide +kernel
theorem dX8_variable_3 : decode cX8_variable 3 = .ok (.invokestatic 114, 3) := by decide +kernel
theorem dX8_variable_6 : decode cX8_variable 6 = .ok (.ifCond .ne 5, 3) := by decide +kernel
theorem dX8_variable_9 : decode cX8_variable 9 = .ok (.iconst (-1), 1) := by decide +kernel
theorem dX8_variable_10 : decode cX8_variable 10 = .ok (.ireturn, 1) := by decide +kernel
theorem dX8_variable_11 : decode cX8_variable 11 = .ok (.aload_n 0, 1) := by decide +kernel
theorem dX8_variable_12 : decode cX8_variable 12 = .ok (.getfield 178, 3) := by decide +kernel
theorem dX8_variable_15 : decode cX8_variable 15 = .ok (.ifCond .eq 15, 3) := by decide +kernel
theorem dX8_variable_18 : decode cX8_variable 18 = .ok (.aload_n 0, 1) := by decide +kernel
theorem dX8_variable_19 : decode cX8_variable 19 = .ok (.getfield 98, 3) := by decide +kernel
theorem dX8_variable_22 : decode cX8_variable 22 = .ok (.iload_n 1, 1) := by decide +kernel
theorem dX8_variable_23 : decode cX8_variable 23 = .ok (.iaload, 1) := by decide +kernel
theorem dX8_variable_24 : decode cX8_variable 24 = .ok (.invokestatic 336, 3) := by decide +kernel
theorem dX8_variable_27 : decode cX8_variable 27 = .ok (.goto 5, 3) := by decide +kernel
theorem dX8_variable_30 : decode cX8_variable 30 = .ok (.bipush (-2), 2) := by decide +kernel
theorem dX8_variable_32 : decode cX8_variable 32 = .ok (.ireturn, 1) := by decide +kernel
theorem dX8_out_0 : decode cX8_out 0 = .ok (.iload_n 1, 1) := by decide +kernel
theorem dX8_out_1 : decode cX8_out 1 = .ok (.ifCond .ge 5, 3) := by decide +kernel
theorem dX8_out_4 : decode cX8_out 4 = .ok (.iconst (-1), 1) := by decide +kernel
theorem dX8_out_5 : decode cX8_out 5 = .ok (.ireturn, 1) := by decide +kernel
theorem dX8_out_6 : decode cX8_out 6 = .ok (.aload_n 0, 1) := by decide +kernel
theorem dX8_out_7 : decode cX8_out 7 = .ok (.getfield 178, 3) := by decide +kernel
theorem dX8_out_10 : decode cX8_out 10 = .ok (.ifCond .ne 6, 3) := by decide +kernel
theorem dX8_out_13 : decode cX8_out 13 = .ok (.bipush (-2), 2) := by decide +kernel
theorem dX8_out_15 : decode cX8_out 15 = .ok (.ireturn, 1) := by decide +kernel
theorem dX8_out_16 : decode cX8_out 16 = .ok (.iload_n 1, 1) := by decide +kernel
theorem dX8_out_17 : decode cX8_out 17 = .ok (.aload_n 0, 1) := by decide +kernel
theorem dX8_out_18 : decode cX8_out 18 = .ok (.getfield 315, 3) := by decide +kernel
theorem dX8_out_21 : decode cX8_out 21 = .ok (.if_icmp .ge 15, 3) := by decide +kernel
theorem dX8_out_24 : decode cX8_out 24 = .ok (.aload_n 0, 1) := by decide +kernel
theorem dX8_out_25 : decode cX8_out 25 = .ok (.getfield 95, 3) := by decide +kernel
theorem dX8_out_28 : decode cX8_out 28 = .ok (.iload_n 1, 1) := by decide +kernel
theorem dX8_out_29 : decode cX8_out 29 = .ok (.iaload, 1) := by decide +kernel
theorem dX8_out_30 : decode cX8_out 30 = .ok (.invokestatic 336, 3) := by decide +kernel
theorem dX8_out_33 : decode cX8_out 33 = .ok (.goto 5, 3) := by decide +kernel
theorem dX8_out_36 : decode cX8_out 36 = .ok (.bipush (-4), 2) := by decide +kernel
theorem dX8_out_38 : decode cX8_out 38 = .ok (.ireturn, 1) := by decide +kernel
theorem dX8_went_0 : decode cX8_went 0 = .ok (.aload_n 0, 1) := by decide +kernel
theorem dX8_went_1 : decode cX8_went 1 = .ok (.iload_n 1, 1) := by decide +kernel
theorem dX8_went_2 : decode cX8_went 2 = .ok (.invokevirtual 185, 3) := by decide +kernel
theorem dX8_went_5 : decode cX8_went 5 = .ok (.ifCond .ne 5, 3) := by decide +kernel
theorem dX8_went_8 : decode cX8_went 8 = .ok (.iconst (-1), 1) := by decide +kernel
theorem dX8_went_9 : decode cX8_went 9 = .ok (.ireturn, 1) := by decide +kernel
theorem dX8_went_10 : decode cX8_went 10 = .ok (.aload_n 0, 1) := by decide +kernel
theorem dX8_went_11 : decode cX8_went 11 = .ok (.getfield 178, 3) := by decide +kernel
theorem dX8_went_14 : decode cX8_went 14 = .ok (.ifCond .eq 12, 3) := by decide +kernel
theorem dX8_went_17 : decode cX8_went 17 = .ok (.aload_n 0, 1) := by decide +kernel
theorem dX8_went_18 : decode cX8_went 18 = .ok (.getfield 101, 3) := by decide +kernel
theorem dX8_went_21 : decode cX8_went 21 = .ok (.iload_n 1, 1) := by decide +kernel
theorem dX8_went_22 : decode cX8_went 22 = .ok (.iaload, 1) := by decide +kernel
theorem dX8_went_23 : decode cX8_went 23 = .ok (.goto 5, 3) := by decide +kernel
theorem dX8_went_26 : decode cX8_went 26 = .ok (.bipush (-2), 2) := by decide +kernel
theorem dX8_went_28 : decode cX8_went 28 = .ok (.ireturn, 1) := by decide +kernel
theorem dX8_count_0 : decode cX8_count 0 = .ok (.iconst 0, 1) := by decide +kernel
theorem dX8_count_1 : decode cX8_count 1 = .ok (.istore_n 2, 1) := by decide +kernel
theorem dX8_count_2 : decode cX8_count 2 = .ok (.iload_n 1, 1) := by decide +kernel
theorem dX8_count_3 : decode cX8_count 3 = .ok (.tableswitch 163 0 10 #[57, 62, 62, 62, 62, 71, 108, 135, 140, 145, 150], 57) := by decide +kernel
theorem dX8_count_60 : decode cX8_count 60 = .ok (.aload_n 0, 1) := by decide +kernel
theorem dX8_count_61 : decode cX8_count 61 = .ok (.getfield 172, 3) := by decide +kernel
theorem dX8_count_64 : decode cX8_count 64 = .ok (.ireturn, 1) := by decide +kernel
theorem dX8_count_65 : decode cX8_count 65 = .ok (.aload_n 0, 1) := by decide +kernel
theorem dX8_count_66 : decode cX8_count 66 = .ok (.getfield 7, 3) := by decide +kernel
theorem dX8_count_69 : decode cX8_count 69 = .ok (.iload_n 1, 1) := by decide +kernel
theorem dX8_count_70 : decode cX8_count 70 = .ok (.iconst 1, 1) := by decide +kernel
theorem dX8_count_71 : decode cX8_count 71 = .ok (.isub, 1) := by decide +kernel
theorem dX8_count_72 : decode cX8_count 72 = .ok (.iaload, 1) := by decide +kernel
theorem dX8_count_73 : decode cX8_count 73 = .ok (.ireturn, 1) := by decide +kernel
theorem dX8_count_74 : decode cX8_count 74 = .ok (.iconst 0, 1) := by decide +kernel
theorem dX8_count_75 : decode cX8_count 75 = .ok (.istore_n 3, 1) := by decide +kernel
theorem dX8_count_76 : decode cX8_count 76 = .ok (.iload_n 3, 1) := by decide +kernel
theorem dX8_count_77 : decode cX8_count 77 = .ok (.aload_n 0, 1) := by decide +kernel
theorem dX8_count_78 : decode cX8_count 78 = .ok (.getfield 172, 3) := by decide +kernel
theorem dX8_count_81 : decode cX8_count 81 = .ok (.if_icmp .ge 28, 3) := by decide +kernel
theorem dX8_count_84 : decode cX8_count 84 = .ok (.iload_n 2, 1) := by decide +kernel
theorem dX8_count_85 : decode cX8_count 85 = .ok (.aload_n 0, 1) := by decide +kernel
theorem dX8_count_86 : decode cX8_count 86 = .ok (.getfield 22, 3) := by decide +kernel
theorem dX8_count_89 : decode cX8_count 89 = .ok (.iload_n 3, 1) := by decide +kernel
theorem dX8_count_90 : decode cX8_count 90 = .ok (.iaload, 1) := by decide +kernel
theorem dX8_count_91 : decode cX8_count 91 = .ok (.bipush (-4), 2) := by decide +kernel
theorem dX8_count_93 : decode cX8_count 93 = .ok (.if_icmp .ne 7, 3) := by decide +kernel
theorem dX8_count_96 : decode cX8_count 96 = .ok (.iconst 0, 1) := by decide +kernel
theorem dX8_count_97 : decode cX8_count 97 = .ok (.goto 4, 3) := by decide +kernel
theorem dX8_count_100 : decode cX8_count 100 = .ok (.iconst 1, 1) := by decide +kernel
theorem dX8_count_101 : decode cX8_count 101 = .ok (.iadd, 1) := by decide +kernel
theorem dX8_count_102 : decode cX8_count 102 = .ok (.istore_n 2, 1) := by decide +kernel
theorem dX8_count_103 : decode cX8_count 103 = .ok (.iinc 3 1, 3) := by decide +kernel
theorem dX8_count_106 : decode cX8_count 106 = .ok (.goto (-30), 3) := by decide +kernel
theorem dX8_count_109 : decode cX8_count 109 = .ok (.iload_n 2, 1) := by decide +kernel
theorem dX8_count_110 : decode cX8_count 110 = .ok (.ireturn, 1) := by decide +kernel
theorem dX8_count_111 : decode cX8_count 111 = .ok (.iconst 0, 1) := by decide +kernel
theorem dX8_count_112 : decode cX8_count 112 = .ok (.istore_n 3, 1) := by decide +kernel
theorem dX8_count_113 : decode cX8_count 113 = .ok (.iload_n 3, 1) := by decide +kernel
theorem dX8_count_114 : decode cX8_count 114 = .ok (.aload_n 0, 1) := by decide +kernel
theorem dX8_count_115 : decode cX8_count 115 = .ok (.getfield 172, 3) := by decide +kernel
theorem dX8_count_118 : decode cX8_count 118 = .ok (.if_icmp .ge 18, 3) := by decide +kernel
theorem dX8_count_121 : decode cX8_count 121 = .ok (.iload_n 2, 1) := by decide +kernel
theorem dX8_count_122 : decode cX8_count 122 = .ok (.aload_n 0, 1) := by decide +kernel
theorem dX8_count_123 : decode cX8_count 123 = .ok (.getfield 25, 3) := by decide +kernel
theorem dX8_count_126 : decode cX8_count 126 = .ok (.iload_n 3, 1) := by decide +kernel
theorem dX8_count_127 : decode cX8_count 127 = .ok (.iaload, 1) := by decide +kernel
theorem dX8_count_128 : decode cX8_count 128 = .ok (.iadd, 1) := by decide +kernel
theorem dX8_count_129 : decode cX8_count 129 = .ok (.istore_n 2, 1) := by decide +kernel
theorem dX8_count_130 : decode cX8_count 130 = .ok (.iinc 3 1, 3) := by decide +kernel
theorem dX8_count_133 : decode cX8_count 133 = .ok (.goto (-20), 3) := by decide +kernel
theorem dX8_count_136 : decode cX8_count 136 = .ok (.iload_n 2, 1) := by decide +kernel
theorem dX8_count_137 : decode cX8_count 137 = .ok (.ireturn, 1) := by decide +kernel
theorem dX8_count_138 : decode cX8_count 138 = .ok (.aload_n 0, 1) := by decide +kernel
theorem dX8_count_139 : decode cX8_count 139 = .ok (.getfield 175, 3) := by decide +kernel
theorem dX8_count_142 : decode cX8_count 142 = .ok (.ireturn, 1) := by decide +kernel
theorem dX8_count_143 : decode cX8_count 143 = .ok (.aload_n 0, 1) := by decide +kernel
theorem dX8_count_144 : decode cX8_count 144 = .ok (.getfield 118, 3) := by decide +kernel
theorem dX8_count_147 : decode cX8_count 147 = .ok (.ireturn, 1) := by decide +kernel
theorem dX8_count_148 : decode cX8_count 148 = .ok (.aload_n 0, 1) := by decide +kernel
theorem dX8_count_149 : decode cX8_count 149 = .ok (.getfield 135, 3) := by decide +kernel
theorem dX8_count_152 : decode cX8_count 152 = .ok (.ireturn, 1) := by decide +kernel
theorem dX8_count_153 : decode cX8_count 153 = .ok (.aload_n 0, 1) := by decide +kernel
theorem dX8_count_154 : decode cX8_count 154 = .ok (.getfield 178, 3) := by decide +kernel
theorem dX8_count_157 : decode cX8_count 157 = .ok (.ifCond .eq 7, 3) := by decide +kernel
theorem dX8_count_160 : decode cX8_count 160 = .ok (.iconst 1, 1) := by decide +kernel
theorem dX8_count_161 : decode cX8_count 161 = .ok (.goto 4, 3) := by decide +kernel
theorem dX8_count_164 : decode cX8_count 164 = .ok (.iconst 0, 1) := by decide +kernel
theorem dX8_count_165 : decode cX8_count 165 = .ok (.ireturn, 1) := by decide +kernel
theorem dX8_count_166 : decode cX8_count 166 = .ok (.iconst (-1), 1) := by decide +kernel
theorem dX8_count_167 : decode cX8_count 167 = .ok (.ireturn, 1) := by decide +kernel
theorem dJ11_isValidCodePoint_9a6ad_0 : decode cJ11_isValidCodePoint_9a6ad 0 = .ok (.iload_n 0, 1) := by decide +kernel
theorem dJ11_isValidCodePoint_9a6ad_1 : decode cJ11_isValidCodePoint_9a6ad 1 = .ok (.bipush 16, 2) := by decide +kernel
theorem dJ11_isValidCodePoint_9a6ad_3 : decode cJ11_isValidCodePoint_9a6ad 3 = .ok (.iushr, 1) := by decide +kernel
theorem dJ11_isValidCodePoint_9a6ad_4 : decode cJ11_isValidCodePoint_9a6ad 4 = .ok (.istore_n 1, 1) := by decide +kernel
theorem dJ11_isValidCodePoint_9a6ad_5 : decode cJ11_isValidCodePoint_9a6ad 5 = .ok (.iload_n 1, 1) := by decide +kernel
theorem dJ11_isValidCodePoint_9a6ad_6 : decode cJ11_isValidCodePoint_9a6ad 6 = .ok (.bipush 17, 2) := by decide +kernel
theorem dJ11_isValidCodePoint_9a6ad_8 : decode cJ11_isValidCodePoint_9a6ad 8 = .ok (.if_icmp .ge 7, 3) := by decide +kernel
theorem dJ11_isValidCodePoint_9a6ad_11 : decode cJ11_isValidCodePoint_9a6ad 11 = .ok (.iconst 1, 1) := by decide +kernel
theorem dJ11_isValidCodePoint_9a6ad_12 : decode cJ11_isValidCodePoint_9a6ad 12 = .ok (.goto 4, 3) := by decide +kernel
theorem dJ11_isValidCodePoint_9a6ad_15 : decode cJ11_isValidCodePoint_9a6ad 15 = .ok (.iconst 0, 1) := by decide +kernel
theorem dJ11_isValidCodePoint_9a6ad_16 : decode cJ11_isValidCodePoint_9a6ad 16 = .ok (.ireturn, 1) := by decide +kernel
theorem dJ11_highSurrogate_5068e_0 : decode cJ11_highSurrogate_5068e 0 = .ok (.iload_n 0, 1) := by decide +kernel
theorem dJ11_highSurrogate_5068e_1 : decode cJ11_highSurrogate_5068e 1 = .ok (.bipush 10, 2) := by decide +kernel
theorem dJ11_highSurrogate_5068e_3 : decode cJ11_highSurrogate_5068e 3 = .ok (.iushr, 1) := by decide +kernel
theorem dJ11_highSurrogate_5068e_4 : decode cJ11_highSurrogate_5068e 4 = .ok (.ldc 110, 2) := by decide +kernel
theorem dJ11_highSurrogate_5068e_6 : decode cJ11_highSurrogate_5068e 6 = .ok (.iadd, 1) := by decide +kernel
theorem dJ11_highSurrogate_5068e_7 : decode cJ11_highSurrogate_5068e 7 = .ok (.i2c, 1) := by decide +kernel
theorem dJ11_highSurrogate_5068e_8 : decode cJ11_highSurrogate_5068e 8 = .ok (.ireturn, 1) := by decide +kernel
theorem dJ11_lowSurrogate_5068e_0 : decode cJ11_lowSurrogate_5068e 0 = .ok (.iload_n 0, 1) := by decide +kernel
theorem dJ11_lowSurrogate_5068e_1 : decode cJ11_lowSurrogate_5068e 1 = .ok (.sipush 1023, 3) := by decide +kernel
theorem dJ11_lowSurrogate_5068e_4 : decode cJ11_lowSurrogate_5068e 4 = .ok (.iand, 1) := by decide +kernel
theorem dJ11_lowSurrogate_5068e_5 : decode cJ11_lowSurrogate_5068e 5 = .ok (.ldc 76, 2) := by decide +kernel
theorem dJ11_lowSurrogate_5068e_7 : decode cJ11_lowSurrogate_5068e 7 = .ok (.iadd, 1) := by decide +kernel
theorem dJ11_lowSurrogate_5068e_8 : decode cJ11_lowSurrogate_5068e 8 = .ok (.i2c, 1) := by decide +kernel
theorem dJ11_lowSurrogate_5068e_9 : decode cJ11_lowSurrogate_5068e 9 = .ok (.ireturn, 1) := by decide +kernel
theorem dJ9_floorDiv_7cf53_0 : decode cJ9_floorDiv_7cf53 0 = .ok (.iload_n 0, 1) := by decide +kernel
theorem dJ9_floorDiv_7cf53_1 : decode cJ9_floorDiv_7cf53 1 = .ok (.iload_n 1, 1) := by decide +kernel
theorem dJ9_floorDiv_7cf53_2 : decode cJ9_floorDiv_7cf53 2 = .ok (.idiv, 1) := by decide +kernel
theorem dJ9_floorDiv_7cf53_3 : decode cJ9_floorDiv_7cf53 3 = .ok (.istore_n 2, 1) := by decide +kernel
theorem dJ9_floorDiv_7cf53_4 : decode cJ9_floorDiv_7cf53 4 = .ok (.iload_n 0, 1) := by decide +kernel
theorem dJ9_floorDiv_7cf53_5 : decode cJ9_floorDiv_7cf53 5 = .ok (.iload_n 1, 1) := by decide +kernel
theorem dJ9_floorDiv_7cf53_6 : decode cJ9_floorDiv_7cf53 6 = .ok (.ixor, 1) := by decide +kernel
theorem dJ9_floorDiv_7cf53_7 : decode cJ9_floorDiv_7cf53 7 = .ok (.ifCond .ge 14, 3) := by decide +kernel
theorem dJ9_floorDiv_7cf53_10 : decode cJ9_floorDiv_7cf53 10 = .ok (.iload_n 2, 1) := by decide +kernel
theorem dJ9_floorDiv_7cf53_11 : decode cJ9_floorDiv_7cf53 11 = .ok (.iload_n 1, 1) := by decide +kernel
theorem dJ9_floorDiv_7cf53_12 : decode cJ9_floorDiv_7cf53 12 = .ok (.imul, 1) := by decide +kernel
theorem dJ9_floorDiv_7cf53_13 : decode cJ9_floorDiv_7cf53 13 = .ok (.iload_n 0, 1) := by decide +kernel
theorem dJ9_floorDiv_7cf53_14 : decode cJ9_floorDiv_7cf53 14 = .ok (.if_icmp .eq 7, 3) := by decide +kernel
theorem dJ9_floorDiv_7cf53_17 : decode cJ9_floorDiv_7cf53 17 = .ok (.iload_n 2, 1) := by decide +kernel
theorem dJ9_floorDiv_7cf53_18 : decode cJ9_floorDiv_7cf53 18 = .ok (.iconst 1, 1) := by decide +kernel
theorem dJ9_floorDiv_7cf53_19 : decode cJ9_floorDiv_7cf53 19 = .ok (.isub, 1) := by decide +kernel
theorem dJ9_floorDiv_7cf53_20 : decode cJ9_floorDiv_7cf53 20 = .ok (.ireturn, 1) := by decide +kernel
theorem dJ9_floorDiv_7cf53_21 : decode cJ9_floorDiv_7cf53 21 = .ok (.iload_n 2, 1) := by decide +kernel
theorem dJ9_floorDiv_7cf53_22 : decode cJ9_floorDiv_7cf53 22 = .ok (.ireturn, 1) := by decide +kernel
theorem dJ9_floorMod_7cf53_0 : decode cJ9_floorMod_7cf53 0 = .ok (.iload_n 0, 1) := by decide +kernel
theorem dJ9_floorMod_7cf53_1 : decode cJ9_floorMod_7cf53 1 = .ok (.iload_n 1, 1) := by decide +kernel
theorem dJ9_floorMod_7cf53_2 : decode cJ9_floorMod_7cf53 2 = .ok (.irem, 1) := by decide +kernel
theorem dJ9_floorMod_7cf53_3 : decode cJ9_floorMod_7cf53 3 = .ok (.istore_n 2, 1) := by decide +kernel
theorem dJ9_floorMod_7cf53_4 : decode cJ9_floorMod_7cf53 4 = .ok (.iload_n 0, 1) := by decide +kernel
theorem dJ9_floorMod_7cf53_5 : decode cJ9_floorMod_7cf53 5 = .ok (.iload_n 1, 1) := by decide +kernel
theorem dJ9_floorMod_7cf53_6 : decode cJ9_floorMod_7cf53 6 = .ok (.ixor, 1) := by decide +kernel
theorem dJ9_floorMod_7cf53_7 : decode cJ9_floorMod_7cf53 7 = .ok (.ifCond .ge 11, 3) := by decide +kernel
theorem dJ9_floorMod_7cf53_10 : decode cJ9_floorMod_7cf53 10 = .ok (.iload_n 2, 1) := by decide +kernel
theorem dJ9_floorMod_7cf53_11 : decode cJ9_floorMod_7cf53 11 = .ok (.ifCond .eq 7, 3) := by decide +kernel
theorem dJ9_floorMod_7cf53_14 : decode cJ9_floorMod_7cf53 14 = .ok (.iload_n 2, 1) := by decide +kernel
theorem dJ9_floorMod_7cf53_15 : decode cJ9_floorMod_7cf53 15 = .ok (.iload_n 1, 1) := by decide +kernel
theorem dJ9_floorMod_7cf53_16 : decode cJ9_floorMod_7cf53 16 = .ok (.iadd, 1) := by decide +kernel
theorem dJ9_floorMod_7cf53_17 : decode cJ9_floorMod_7cf53 17 = .ok (.ireturn, 1) := by decide +kernel
theorem dJ9_floorMod_7cf53_18 : decode cJ9_floorMod_7cf53 18 = .ok (.iload_n 2, 1) := by decide +kernel
theorem dJ9_floorMod_7cf53_19 : decode cJ9_floorMod_7cf53 19 = .ok (.ireturn, 1) := by decide +kernel
theorem dJ9_max_7cf53_0 : decode cJ9_max_7cf53 0 = .ok (.iload_n 0, 1) := by decide +kernel
theorem dJ9_max_7cf53_1 : decode cJ9_max_7cf53 1 = .ok (.iload_n 1, 1) := by decide +kernel
theorem dJ9_max_7cf53_2 : decode cJ9_max_7cf53 2 = .ok (.if_icmp .lt 7, 3) := by decide +kernel
theorem dJ9_max_7cf53_5 : decode cJ9_max_7cf53 5 = .ok (.iload_n 0, 1) := by decide +kernel
theorem dJ9_max_7cf53_6 : decode cJ9_max_7cf53 6 = .ok (.goto 4, 3) := by decide +kernel
theorem dJ9_max_7cf53_9 : decode cJ9_max_7cf53 9 = .ok (.iload_n 1, 1) := by decide +kernel
theorem dJ9_max_7cf53_10 : decode cJ9_max_7cf53 10 = .ok (.ireturn, 1) := by decide +kernel
theorem dJ9_min_7cf53_0 : decode cJ9_min_7cf53 0 = .ok (.iload_n 0, 1) := by decide +kernel
theorem dJ9_min_7cf53_1 : decode cJ9_min_7cf53 1 = .ok (.iload_n 1, 1) := by decide +kernel
theorem dJ9_min_7cf53_2 : decode cJ9_min_7cf53 2 = .ok (.if_icmp .gt 7, 3) := by decide +kernel
theorem dJ9_min_7cf53_5 : decode cJ9_min_7cf53 5 = .ok (.iload_n 0, 1) := by decide +kernel
theorem dJ9_min_7cf53_6 : decode cJ9_min_7cf53 6 = .ok (.goto 4, 3) := by decide +kernel
theorem dJ9_min_7cf53_9 : decode cJ9_min_7cf53 9 = .ok (.iload_n 1, 1) := by decide +kernel
theorem dJ9_min_7cf53_10 : decode cJ9_min_7cf53 10 = .ok (.ireturn, 1) := by decide +kernel
theorem dJ0_length_8abf5_0 : decode cJ0_length_8abf5 0 = .ok (.aload_n 0, 1) := by decide +kernel
theorem dJ0_length_8abf5_1 : decode cJ0_length_8abf5 1 = .ok (.getfield 9, 3) := by decide +kernel
theorem dJ0_length_8abf5_4 : decode cJ0_length_8abf5 4 = .ok (.arraylength, 1) := by decide +kernel
theorem dJ0_length_8abf5_5 : decode cJ0_length_8abf5 5 = .ok (.aload_n 0, 1) := by decide +kernel
theorem dJ0_length_8abf5_6 : decode cJ0_length_8abf5 6 = .ok (.invokevirtual 335, 3) := by decide +kernel
theorem dJ0_length_8abf5_9 : decode cJ0_length_8abf5 9 = .ok (.ishr, 1) := by decide +kernel
theorem dJ0_length_8abf5_10 : decode cJ0_length_8abf5 10 = .ok (.ireturn, 1) := by decide +kernel
theorem dJ0_charAt_5068e_0 : decode cJ0_charAt_5068e 0 = .ok (.aload_n 0, 1) := by decide +kernel
theorem dJ0_charAt_5068e_1 : decode cJ0_charAt_5068e 1 = .ok (.invokevirtual 492, 3) := by decide +kernel
theorem dJ0_charAt_5068e_4 : decode cJ0_charAt_5068e 4 = .ok (.ifCond .eq 12, 3) := by decide +kernel
theorem dJ0_charAt_5068e_7 : decode cJ0_charAt_5068e 7 = .ok (.aload_n 0, 1) := by decide +kernel
theorem dJ0_charAt_5068e_8 : decode cJ0_charAt_5068e 8 = .ok (.getfield 9, 3) := by decide +kernel
theorem dJ0_charAt_5068e_11 : decode cJ0_charAt_5068e 11 = .ok (.iload_n 1, 1) := by decide +kernel
theorem dJ0_charAt_5068e_12 : decode cJ0_charAt_5068e 12 = .ok (.invokestatic 495, 3) := by decide +kernel
theorem dJ0_charAt_5068e_15 : decode cJ0_charAt_5068e 15 = .ok (.ireturn, 1) := by decide +kernel
theorem dJ0_charAt_5068e_16 : decode cJ0_charAt_5068e 16 = .ok (.aload_n 0, 1) := by decide +kernel
theorem dJ0_charAt_5068e_17 : decode cJ0_charAt_5068e 17 = .ok (.getfield 9, 3) := by decide +kernel
theorem dJ0_charAt_5068e_20 : decode cJ0_charAt_5068e 20 = .ok (.iload_n 1, 1) := by decide +kernel
theorem dJ0_charAt_5068e_21 : decode cJ0_charAt_5068e 21 = .ok (.invokestatic 498, 3) := by decide +kernel
theorem dJ0_charAt_5068e_24 : decode cJ0_charAt_5068e 24 = .ok (.ireturn, 1) := by decide +kernel
theorem dJ0_indexOf_0f7a4_0 : decode cJ0_indexOf_0f7a4 0 = .ok (.aload_n 0, 1) := by decide +kernel
theorem dJ0_indexOf_0f7a4_1 : decode cJ0_indexOf_0f7a4 1 = .ok (.iload_n 1, 1) := by decide +kernel
theorem dJ0_indexOf_0f7a4_2 : decode cJ0_indexOf_0f7a4 2 = .ok (.iconst 0, 1) := by decide +kernel
theorem dJ0_indexOf_0f7a4_3 : decode cJ0_indexOf_0f7a4 3 = .ok (.invokevirtual 633, 3) := by decide +kernel
theorem dJ0_indexOf_0f7a4_6 : decode cJ0_indexOf_0f7a4 6 = .ok (.ireturn, 1) := by decide +kernel
theorem dJ0_indexOf_7cf53_0 : decode cJ0_indexOf_7cf53 0 = .ok (.aload_n 0, 1) := by decide +kernel
theorem dJ0_indexOf_7cf53_1 : decode cJ0_indexOf_7cf53 1 = .ok (.invokevirtual 492, 3) := by decide +kernel
theorem dJ0_indexOf_7cf53_4 : decode cJ0_indexOf_7cf53 4 = .ok (.ifCond .eq 19, 3) := by decide +kernel
theorem dJ0_indexOf_7cf53_7 : decode cJ0_indexOf_7cf53 7 = .ok (.aload_n 0, 1) := by decide +kernel
theorem dJ0_indexOf_7cf53_8 : decode cJ0_indexOf_7cf53 8 = .ok (.getfield 9, 3) := by decide +kernel
theorem dJ0_indexOf_7cf53_11 : decode cJ0_indexOf_7cf53 11 = .ok (.iload_n 1, 1) := by decide +kernel
theorem dJ0_indexOf_7cf53_12 : decode cJ0_indexOf_7cf53 12 = .ok (.iload_n 2, 1) := by decide +kernel
theorem dJ0_indexOf_7cf53_13 : decode cJ0_indexOf_7cf53 13 = .ok (.aload_n 0, 1) := by decide +kernel
theorem dJ0_indexOf_7cf53_14 : decode cJ0_indexOf_7cf53 14 = .ok (.invokevirtual 505, 3) := by decide +kernel
theorem dJ0_indexOf_7cf53_17 : decode cJ0_indexOf_7cf53 17 = .ok (.invokestatic 637, 3) := by decide +kernel
theorem dJ0_indexOf_7cf53_20 : decode cJ0_indexOf_7cf53 20 = .ok (.goto 16, 3) := by decide +kernel
theorem dJ0_indexOf_7cf53_23 : decode cJ0_indexOf_7cf53 23 = .ok (.aload_n 0, 1) := by decide +kernel
theorem dJ0_indexOf_7cf53_24 : decode cJ0_indexOf_7cf53 24 = .ok (.getfield 9, 3) := by decide +kernel
theorem dJ0_indexOf_7cf53_27 : decode cJ0_indexOf_7cf53 27 = .ok (.iload_n 1, 1) := by decide +kernel
theorem dJ0_indexOf_7cf53_28 : decode cJ0_indexOf_7cf53 28 = .ok (.iload_n 2, 1) := by decide +kernel
theorem dJ0_indexOf_7cf53_29 : decode cJ0_indexOf_7cf53 29 = .ok (.aload_n 0, 1) := by decide +kernel
theorem dJ0_indexOf_7cf53_30 : decode cJ0_indexOf_7cf53 30 = .ok (.invokevirtual 505, 3) := by decide +kernel
theorem dJ0_indexOf_7cf53_33 : decode cJ0_indexOf_7cf53 33 = .ok (.invokestatic 640, 3) := by decide +kernel
theorem dJ0_indexOf_7cf53_36 : decode cJ0_indexOf_7cf53 36 = .ok (.ireturn, 1) := by decide +kernel
theorem dJ0_coder_7d493_0 : decode cJ0_coder_7d493 0 = .ok (.getstatic 38, 3) := by decide +kernel
theorem dJ0_coder_7d493_3 : decode cJ0_coder_7d493 3 = .ok (.ifCond .eq 10, 3) := by decide +kernel
theorem dJ0_coder_7d493_6 : decode cJ0_coder_7d493 6 = .ok (.aload_n 0, 1) := by decide +kernel
theorem dJ0_coder_7d493_7 : decode cJ0_coder_7d493 7 = .ok (.getfield 15, 3) := by decide +kernel
theorem dJ0_coder_7d493_10 : decode cJ0_coder_7d493 10 = .ok (.goto 4, 3) := by decide +kernel
theorem dJ0_coder_7d493_13 : decode cJ0_coder_7d493 13 = .ok (.iconst 1, 1) := by decide +kernel
theorem dJ0_coder_7d493_14 : decode cJ0_coder_7d493 14 = .ok (.ireturn, 1) := by decide +kernel
theorem dJ0_isLatin1_aae02_0 : decode cJ0_isLatin1_aae02 0 = .ok (.getstatic 38, 3) := by decide +kernel
theorem dJ0_isLatin1_aae02_3 : decode cJ0_isLatin1_aae02 3 = .ok (.ifCond .eq 14, 3) := by decide +kernel
theorem dJ0_isLatin1_aae02_6 : decode cJ0_isLatin1_aae02 6 = .ok (.aload_n 0, 1) := by decide +kernel
theorem dJ0_isLatin1_aae02_7 : decode cJ0_isLatin1_aae02 7 = .ok (.getfield 15, 3) := by decide +kernel
theorem dJ0_isLatin1_aae02_10 : decode cJ0_isLatin1_aae02 10 = .ok (.ifCond .ne 7, 3) := by decide +kernel
theorem dJ0_isLatin1_aae02_13 : decode cJ0_isLatin1_aae02 13 = .ok (.iconst 1, 1) := by decide +kernel
theorem dJ0_isLatin1_aae02_14 : decode cJ0_isLatin1_aae02 14 = .ok (.goto 4, 3) := by decide +kernel
theorem dJ0_isLatin1_aae02_17 : decode cJ0_isLatin1_aae02 17 = .ok (.iconst 0, 1) := by decide +kernel
theorem dJ0_isLatin1_aae02_18 : decode cJ0_isLatin1_aae02 18 = .ok (.ireturn, 1) := by decide +kernel
theorem dJ0_checkIndex_df160_0 : decode cJ0_checkIndex_df160 0 = .ok (.iload_n 0, 1) := by decide +kernel
theorem dJ0_checkIndex_df160_1 : decode cJ0_checkIndex_df160 1 = .ok (.iload_n 1, 1) := by decide +kernel
theorem dJ0_checkIndex_df160_2 : decode cJ0_checkIndex_df160 2 = .ok (.getstatic 1053, 3) := by decide +kernel
theorem dJ0_checkIndex_df160_5 : decode cJ0_checkIndex_df160 5 = .ok (.invokestatic 1059, 3) := by decide +kernel
theorem dJ0_checkIndex_df160_8 : decode cJ0_checkIndex_df160 8 = .ok (.pop, 1) := by decide +kernel
theorem dJ0_checkIndex_df160_9 : decode cJ0_checkIndex_df160 9 = .ok (.return_, 1) := by decide +kernel
theorem dJ0_checkBoundsBeginEnd_23922_0 : decode cJ0_checkBoundsBeginEnd_23922 0 = .ok (.iload_n 0, 1) := by decide +kernel
theorem dJ0_checkBoundsBeginEnd_23922_1 : decode cJ0_checkBoundsBeginEnd_23922 1 = .ok (.iload_n 1, 1) := by decide +kernel
theorem dJ0_checkBoundsBeginEnd_23922_2 : decode cJ0_checkBoundsBeginEnd_23922 2 = .ok (.iload_n 2, 1) := by decide +kernel
theorem dJ0_checkBoundsBeginEnd_23922_3 : decode cJ0_checkBoundsBeginEnd_23922 3 = .ok (.getstatic 1053, 3) := by decide +kernel
theorem dJ0_checkBoundsBeginEnd_23922_6 : decode cJ0_checkBoundsBeginEnd_23922 6 = .ok (.invokestatic 1062, 3) := by decide +kernel
theorem dJ0_checkBoundsBeginEnd_23922_9 : decode cJ0_checkBoundsBeginEnd_23922 9 = .ok (.pop, 1) := by decide +kernel
theorem dJ0_checkBoundsBeginEnd_23922_10 : decode cJ0_checkBoundsBeginEnd_23922 10 = .ok (.return_, 1) := by decide +kernel
theorem dJ1_charAt_3b067_0 : decode cJ1_charAt_3b067 0 = .ok (.iload_n 1, 1) := by decide +kernel
theorem dJ1_charAt_3b067_1 : decode cJ1_charAt_3b067 1 = .ok (.aload_n 0, 1) := by decide +kernel
theorem dJ1_charAt_3b067_2 : decode cJ1_charAt_3b067 2 = .ok (.arraylength, 1) := by decide +kernel
theorem dJ1_charAt_3b067_3 : decode cJ1_charAt_3b067 3 = .ok (.invokestatic 9, 3) := by decide +kernel
theorem dJ1_charAt_3b067_6 : decode cJ1_charAt_3b067 6 = .ok (.aload_n 0, 1) := by decide +kernel
theorem dJ1_charAt_3b067_7 : decode cJ1_charAt_3b067 7 = .ok (.iload_n 1, 1) := by decide +kernel
theorem dJ1_charAt_3b067_8 : decode cJ1_charAt_3b067 8 = .ok (.baload, 1) := by decide +kernel
theorem dJ1_charAt_3b067_9 : decode cJ1_charAt_3b067 9 = .ok (.sipush 255, 3) := by decide +kernel
theorem dJ1_charAt_3b067_12 : decode cJ1_charAt_3b067 12 = .ok (.iand, 1) := by decide +kernel
theorem dJ1_charAt_3b067_13 : decode cJ1_charAt_3b067 13 = .ok (.i2c, 1) := by decide +kernel
theorem dJ1_charAt_3b067_14 : decode cJ1_charAt_3b067 14 = .ok (.ireturn, 1) := by decide +kernel
theorem dJ1_canEncode_9a6ad_0 : decode cJ1_canEncode_9a6ad 0 = .ok (.iload_n 0, 1) := by decide +kernel
theorem dJ1_canEncode_9a6ad_1 : decode cJ1_canEncode_9a6ad 1 = .ok (.ifCond .lt 14, 3) := by decide +kernel
theorem dJ1_canEncode_9a6ad_4 : decode cJ1_canEncode_9a6ad 4 = .ok (.iload_n 0, 1) := by decide +kernel
theorem dJ1_canEncode_9a6ad_5 : decode cJ1_canEncode_9a6ad 5 = .ok (.sipush 255, 3) := by decide +kernel
theorem dJ1_canEncode_9a6ad_8 : decode cJ1_canEncode_9a6ad 8 = .ok (.if_icmp .gt 7, 3) := by decide +kernel
theorem dJ1_canEncode_9a6ad_11 : decode cJ1_canEncode_9a6ad 11 = .ok (.iconst 1, 1) := by decide +kernel
theorem dJ1_canEncode_9a6ad_12 : decode cJ1_canEncode_9a6ad 12 = .ok (.goto 4, 3) := by decide +kernel
theorem dJ1_canEncode_9a6ad_15 : decode cJ1_canEncode_9a6ad 15 = .ok (.iconst 0, 1) := by decide +kernel
theorem dJ1_canEncode_9a6ad_16 : decode cJ1_canEncode_9a6ad 16 = .ok (.ireturn, 1) := by decide +kernel
theorem dJ1_indexOf_4cfef_0 : decode cJ1_indexOf_4cfef 0 = .ok (.iload_n 1, 1) := by decide +kernel
theorem dJ1_indexOf_4cfef_1 : decode cJ1_indexOf_4cfef 1 = .ok (.invokestatic 88, 3) := by decide +kernel
theorem dJ1_indexOf_4cfef_4 : decode cJ1_indexOf_4cfef 4 = .ok (.ifCond .ne 5, 3) := by decide +kernel
theorem dJ1_indexOf_4cfef_7 : decode cJ1_indexOf_4cfef 7 = .ok (.iconst (-1), 1) := by decide +kernel
theorem dJ1_indexOf_4cfef_8 : decode cJ1_indexOf_4cfef 8 = .ok (.ireturn, 1) := by decide +kernel
theorem dJ1_indexOf_4cfef_9 : decode cJ1_indexOf_4cfef 9 = .ok (.iload_n 2, 1) := by decide +kernel
theorem dJ1_indexOf_4cfef_10 : decode cJ1_indexOf_4cfef 10 = .ok (.iconst 0, 1) := by decide +kernel
theorem dJ1_indexOf_4cfef_11 : decode cJ1_indexOf_4cfef 11 = .ok (.invokestatic 92, 3) := by decide +kernel
theorem dJ1_indexOf_4cfef_14 : decode cJ1_indexOf_4cfef 14 = .ok (.istore_n 2, 1) := by decide +kernel
theorem dJ1_indexOf_4cfef_15 : decode cJ1_indexOf_4cfef 15 = .ok (.iload_n 3, 1) := by decide +kernel
theorem dJ1_indexOf_4cfef_16 : decode cJ1_indexOf_4cfef 16 = .ok (.aload_n 0, 1) := by decide +kernel
theorem dJ1_indexOf_4cfef_17 : decode cJ1_indexOf_4cfef 17 = .ok (.arraylength, 1) := by decide +kernel
theorem dJ1_indexOf_4cfef_18 : decode cJ1_indexOf_4cfef 18 = .ok (.invokestatic 38, 3) := by decide +kernel
theorem dJ1_indexOf_4cfef_21 : decode cJ1_indexOf_4cfef 21 = .ok (.istore_n 3, 1) := by decide +kernel
theorem dJ1_indexOf_4cfef_22 : decode cJ1_indexOf_4cfef 22 = .ok (.iload_n 2, 1) := by decide +kernel
theorem dJ1_indexOf_4cfef_23 : decode cJ1_indexOf_4cfef 23 = .ok (.iload_n 3, 1) := by decide +kernel
theorem dJ1_indexOf_4cfef_24 : decode cJ1_indexOf_4cfef 24 = .ok (.if_icmp .lt 5, 3) := by decide +kernel
theorem dJ1_indexOf_4cfef_27 : decode cJ1_indexOf_4cfef 27 = .ok (.iconst (-1), 1) := by decide +kernel
theorem dJ1_indexOf_4cfef_28 : decode cJ1_indexOf_4cfef 28 = .ok (.ireturn, 1) := by decide +kernel
theorem dJ1_indexOf_4cfef_29 : decode cJ1_indexOf_4cfef 29 = .ok (.aload_n 0, 1) := by decide +kernel
theorem dJ1_indexOf_4cfef_30 : decode cJ1_indexOf_4cfef 30 = .ok (.iload_n 1, 1) := by decide +kernel
theorem dJ1_indexOf_4cfef_31 : decode cJ1_indexOf_4cfef 31 = .ok (.iload_n 2, 1) := by decide +kernel
theorem dJ1_indexOf_4cfef_32 : decode cJ1_indexOf_4cfef 32 = .ok (.iload_n 3, 1) := by decide +kernel
theorem dJ1_indexOf_4cfef_33 : decode cJ1_indexOf_4cfef 33 = .ok (.invokestatic 95, 3) := by decide +kernel
theorem dJ1_indexOf_4cfef_36 : decode cJ1_indexOf_4cfef 36 = .ok (.ireturn, 1) := by decide +kernel
theorem dJ1_indexOfChar_4cfef_0 : decode cJ1_indexOfChar_4cfef 0 = .ok (.iload_n 1, 1) := by decide +kernel
theorem dJ1_indexOfChar_4cfef_1 : decode cJ1_indexOfChar_4cfef 1 = .ok (.i2b, 1) := by decide +kernel
theorem dJ1_indexOfChar_4cfef_2 : decode cJ1_indexOfChar_4cfef 2 = .ok (.istore 4, 2) := by decide +kernel
theorem dJ1_indexOfChar_4cfef_4 : decode cJ1_indexOfChar_4cfef 4 = .ok (.iload_n 2, 1) := by decide +kernel
theorem dJ1_indexOfChar_4cfef_5 : decode cJ1_indexOfChar_4cfef 5 = .ok (.istore 5, 2) := by decide +kernel
theorem dJ1_indexOfChar_4cfef_7 : decode cJ1_indexOfChar_4cfef 7 = .ok (.iload 5, 2) := by decide +kernel
theorem dJ1_indexOfChar_4cfef_9 : decode cJ1_indexOfChar_4cfef 9 = .ok (.iload_n 3, 1) := by decide +kernel
theorem dJ1_indexOfChar_4cfef_10 : decode cJ1_indexOfChar_4cfef 10 = .ok (.if_icmp .ge 21, 3) := by decide +kernel
theorem dJ1_indexOfChar_4cfef_13 : decode cJ1_indexOfChar_4cfef 13 = .ok (.aload_n 0, 1) := by decide +kernel
theorem dJ1_indexOfChar_4cfef_14 : decode cJ1_indexOfChar_4cfef 14 = .ok (.iload 5, 2) := by decide +kernel
theorem dJ1_indexOfChar_4cfef_16 : decode cJ1_indexOfChar_4cfef 16 = .ok (.baload, 1) := by decide +kernel
theorem dJ1_indexOfChar_4cfef_17 : decode cJ1_indexOfChar_4cfef 17 = .ok (.iload 4, 2) := by decide +kernel
theorem dJ1_indexOfChar_4cfef_19 : decode cJ1_indexOfChar_4cfef 19 = .ok (.if_icmp .ne 6, 3) := by decide +kernel
theorem dJ1_indexOfChar_4cfef_22 : decode cJ1_indexOfChar_4cfef 22 = .ok (.iload 5, 2) := by decide +kernel
theorem dJ1_indexOfChar_4cfef_24 : decode cJ1_indexOfChar_4cfef 24 = .ok (.ireturn, 1) := by decide +kernel
theorem dJ1_indexOfChar_4cfef_25 : decode cJ1_indexOfChar_4cfef 25 = .ok (.iinc 5 1, 3) := by decide +kernel
theorem dJ1_indexOfChar_4cfef_28 : decode cJ1_indexOfChar_4cfef 28 = .ok (.goto (-21), 3) := by decide +kernel
theorem dJ1_indexOfChar_4cfef_31 : decode cJ1_indexOfChar_4cfef 31 = .ok (.iconst (-1), 1) := by decide +kernel
theorem dJ1_indexOfChar_4cfef_32 : decode cJ1_indexOfChar_4cfef 32 = .ok (.ireturn, 1) := by decide +kernel
theorem dJ2_getChar_3b067_0 : decode cJ2_getChar_3b067 0 = .ok (.getstatic 44, 3) := by decide +kernel
theorem dJ2_getChar_3b067_3 : decode cJ2_getChar_3b067 3 = .ok (.ifCond .ne 25, 3) := by decide +kernel
theorem dJ2_getChar_3b067_6 : decode cJ2_getChar_3b067 6 = .ok (.iload_n 1, 1) := by decide +kernel
theorem dJ2_getChar_3b067_7 : decode cJ2_getChar_3b067 7 = .ok (.ifCond .lt 11, 3) := by decide +kernel
theorem dJ2_getChar_3b067_10 : decode cJ2_getChar_3b067 10 = .ok (.iload_n 1, 1) := by decide +kernel
theorem dJ2_getChar_3b067_11 : decode cJ2_getChar_3b067 11 = .ok (.aload_n 0, 1) := by decide +kernel
theorem dJ2_getChar_3b067_12 : decode cJ2_getChar_3b067 12 = .ok (.invokestatic 48, 3) := by decide +kernel
theorem dJ2_getChar_3b067_15 : decode cJ2_getChar_3b067 15 = .ok (.if_icmp .lt 13, 3) := by decide +kernel
theorem dJ2_getChar_3b067_18 : decode cJ2_getChar_3b067 18 = .ok (.new 52, 3) := by decide +kernel
theorem dJ2_getChar_3b067_21 : decode cJ2_getChar_3b067 21 = .ok (.dup, 1) := by decide +kernel
theorem dJ2_getChar_3b067_22 : decode cJ2_getChar_3b067 22 = .ok (.ldc 54, 2) := by decide +kernel
theorem dJ2_getChar_3b067_24 : decode cJ2_getChar_3b067 24 = .ok (.invokespecial 56, 3) := by decide +kernel
theorem dJ2_getChar_3b067_27 : decode cJ2_getChar_3b067 27 = .ok (.athrow, 1) := by decide +kernel
theorem dJ2_getChar_3b067_28 : decode cJ2_getChar_3b067 28 = .ok (.iload_n 1, 1) := by decide +kernel
theorem dJ2_getChar_3b067_29 : decode cJ2_getChar_3b067 29 = .ok (.iconst 1, 1) := by decide +kernel
theorem dJ2_getChar_3b067_30 : decode cJ2_getChar_3b067 30 = .ok (.ishl, 1) := by decide +kernel
theorem dJ2_getChar_3b067_31 : decode cJ2_getChar_3b067 31 = .ok (.istore_n 1, 1) := by decide +kernel
theorem dJ2_getChar_3b067_32 : decode cJ2_getChar_3b067 32 = .ok (.aload_n 0, 1) := by decide +kernel
theorem dJ2_getChar_3b067_33 : decode cJ2_getChar_3b067 33 = .ok (.iload_n 1, 1) := by decide +kernel
theorem dJ2_getChar_3b067_34 : decode cJ2_getChar_3b067 34 = .ok (.iinc 1 1, 3) := by decide +kernel
theorem dJ2_getChar_3b067_37 : decode cJ2_getChar_3b067 37 = .ok (.baload, 1) := by decide +kernel
theorem dJ2_getChar_3b067_38 : decode cJ2_getChar_3b067 38 = .ok (.sipush 255, 3) := by decide +kernel
theorem dJ2_getChar_3b067_41 : decode cJ2_getChar_3b067 41 = .ok (.iand, 1) := by decide +kernel
theorem dJ2_getChar_3b067_42 : decode cJ2_getChar_3b067 42 = .ok (.getstatic 59, 3) := by decide +kernel
theorem dJ2_getChar_3b067_45 : decode cJ2_getChar_3b067 45 = .ok (.ishl, 1) := by decide +kernel
theorem dJ2_getChar_3b067_46 : decode cJ2_getChar_3b067 46 = .ok (.aload_n 0, 1) := by decide +kernel
theorem dJ2_getChar_3b067_47 : decode cJ2_getChar_3b067 47 = .ok (.iload_n 1, 1) := by decide +kernel
theorem dJ2_getChar_3b067_48 : decode cJ2_getChar_3b067 48 = .ok (.baload, 1) := by decide +kernel
theorem dJ2_getChar_3b067_49 : decode cJ2_getChar_3b067 49 = .ok (.sipush 255, 3) := by decide +kernel
theorem dJ2_getChar_3b067_52 : decode cJ2_getChar_3b067 52 = .ok (.iand, 1) := by decide +kernel
theorem dJ2_getChar_3b067_53 : decode cJ2_getChar_3b067 53 = .ok (.getstatic 63, 3) := by decide +kernel
theorem dJ2_getChar_3b067_56 : decode cJ2_getChar_3b067 56 = .ok (.ishl, 1) := by decide +kernel
theorem dJ2_getChar_3b067_57 : decode cJ2_getChar_3b067 57 = .ok (.ior, 1) := by decide +kernel
theorem dJ2_getChar_3b067_58 : decode cJ2_getChar_3b067 58 = .ok (.i2c, 1) := by decide +kernel
theorem dJ2_getChar_3b067_59 : decode cJ2_getChar_3b067 59 = .ok (.ireturn, 1) := by decide +kernel
theorem dJ2_length_9d52b_0 : decode cJ2_length_9d52b 0 = .ok (.aload_n 0, 1) := by decide +kernel
theorem dJ2_length_9d52b_1 : decode cJ2_length_9d52b 1 = .ok (.arraylength, 1) := by decide +kernel
theorem dJ2_length_9d52b_2 : decode cJ2_length_9d52b 2 = .ok (.iconst 1, 1) := by decide +kernel
theorem dJ2_length_9d52b_3 : decode cJ2_length_9d52b 3 = .ok (.ishr, 1) := by decide +kernel
theorem dJ2_length_9d52b_4 : decode cJ2_length_9d52b 4 = .ok (.ireturn, 1) := by decide +kernel
theorem dJ2_indexOf_4cfef_0 : decode cJ2_indexOf_4cfef 0 = .ok (.iload_n 2, 1) := by decide +kernel
theorem dJ2_indexOf_4cfef_1 : decode cJ2_indexOf_4cfef 1 = .ok (.iconst 0, 1) := by decide +kernel
theorem dJ2_indexOf_4cfef_2 : decode cJ2_indexOf_4cfef 2 = .ok (.invokestatic 224, 3) := by decide +kernel
theorem dJ2_indexOf_4cfef_5 : decode cJ2_indexOf_4cfef 5 = .ok (.istore_n 2, 1) := by decide +kernel
theorem dJ2_indexOf_4cfef_6 : decode cJ2_indexOf_4cfef 6 = .ok (.iload_n 3, 1) := by decide +kernel
theorem dJ2_indexOf_4cfef_7 : decode cJ2_indexOf_4cfef 7 = .ok (.aload_n 0, 1) := by decide +kernel
theorem dJ2_indexOf_4cfef_8 : decode cJ2_indexOf_4cfef 8 = .ok (.arraylength, 1) := by decide +kernel
theorem dJ2_indexOf_4cfef_9 : decode cJ2_indexOf_4cfef 9 = .ok (.iconst 1, 1) := by decide +kernel
theorem dJ2_indexOf_4cfef_10 : decode cJ2_indexOf_4cfef 10 = .ok (.ishr, 1) := by decide +kernel
theorem dJ2_indexOf_4cfef_11 : decode cJ2_indexOf_4cfef 11 = .ok (.invokestatic 183, 3) := by decide +kernel
theorem dJ2_indexOf_4cfef_14 : decode cJ2_indexOf_4cfef 14 = .ok (.istore_n 3, 1) := by decide +kernel
theorem dJ2_indexOf_4cfef_15 : decode cJ2_indexOf_4cfef 15 = .ok (.iload_n 2, 1) := by decide +kernel
theorem dJ2_indexOf_4cfef_16 : decode cJ2_indexOf_4cfef 16 = .ok (.iload_n 3, 1) := by decide +kernel
theorem dJ2_indexOf_4cfef_17 : decode cJ2_indexOf_4cfef 17 = .ok (.if_icmp .lt 5, 3) := by decide +kernel
theorem dJ2_indexOf_4cfef_20 : decode cJ2_indexOf_4cfef 20 = .ok (.iconst (-1), 1) := by decide +kernel
theorem dJ2_indexOf_4cfef_21 : decode cJ2_indexOf_4cfef 21 = .ok (.ireturn, 1) := by decide +kernel
theorem dJ2_indexOf_4cfef_22 : decode cJ2_indexOf_4cfef 22 = .ok (.iload_n 1, 1) := by decide +kernel
theorem dJ2_indexOf_4cfef_23 : decode cJ2_indexOf_4cfef 23 = .ok (.ldc 227, 2) := by decide +kernel
theorem dJ2_indexOf_4cfef_25 : decode cJ2_indexOf_4cfef 25 = .ok (.if_icmp .ge 11, 3) := by decide +kernel
theorem dJ2_indexOf_4cfef_28 : decode cJ2_indexOf_4cfef 28 = .ok (.aload_n 0, 1) := by decide +kernel
theorem dJ2_indexOf_4cfef_29 : decode cJ2_indexOf_4cfef 29 = .ok (.iload_n 1, 1) := by decide +kernel
theorem dJ2_indexOf_4cfef_30 : decode cJ2_indexOf_4cfef 30 = .ok (.iload_n 2, 1) := by decide +kernel
theorem dJ2_indexOf_4cfef_31 : decode cJ2_indexOf_4cfef 31 = .ok (.iload_n 3, 1) := by decide +kernel
theorem dJ2_indexOf_4cfef_32 : decode cJ2_indexOf_4cfef 32 = .ok (.invokestatic 228, 3) := by decide +kernel
theorem dJ2_indexOf_4cfef_35 : decode cJ2_indexOf_4cfef 35 = .ok (.ireturn, 1) := by decide +kernel
theorem dJ2_indexOf_4cfef_36 : decode cJ2_indexOf_4cfef 36 = .ok (.aload_n 0, 1) := by decide +kernel
theorem dJ2_indexOf_4cfef_37 : decode cJ2_indexOf_4cfef 37 = .ok (.iload_n 1, 1) := by decide +kernel
theorem dJ2_indexOf_4cfef_38 : decode cJ2_indexOf_4cfef 38 = .ok (.iload_n 2, 1) := by decide +kernel
theorem dJ2_indexOf_4cfef_39 : decode cJ2_indexOf_4cfef 39 = .ok (.iload_n 3, 1) := by decide +kernel
theorem dJ2_indexOf_4cfef_40 : decode cJ2_indexOf_4cfef 40 = .ok (.invokestatic 232, 3) := by decide +kernel
theorem dJ2_indexOf_4cfef_43 : decode cJ2_indexOf_4cfef 43 = .ok (.ireturn, 1) := by decide +kernel
theorem dJ2_indexOfChar_4cfef_0 : decode cJ2_indexOfChar_4cfef 0 = .ok (.iload_n 2, 1) := by decide +kernel
theorem dJ2_indexOfChar_4cfef_1 : decode cJ2_indexOfChar_4cfef 1 = .ok (.iload_n 3, 1) := by decide +kernel
theorem dJ2_indexOfChar_4cfef_2 : decode cJ2_indexOfChar_4cfef 2 = .ok (.aload_n 0, 1) := by decide +kernel
theorem dJ2_indexOfChar_4cfef_3 : decode cJ2_indexOfChar_4cfef 3 = .ok (.invokestatic 96, 3) := by decide +kernel
theorem dJ2_indexOfChar_4cfef_6 : decode cJ2_indexOfChar_4cfef 6 = .ok (.aload_n 0, 1) := by decide +kernel
theorem dJ2_indexOfChar_4cfef_7 : decode cJ2_indexOfChar_4cfef 7 = .ok (.iload_n 1, 1) := by decide +kernel
theorem dJ2_indexOfChar_4cfef_8 : decode cJ2_indexOfChar_4cfef 8 = .ok (.iload_n 2, 1) := by decide +kernel
theorem dJ2_indexOfChar_4cfef_9 : decode cJ2_indexOfChar_4cfef 9 = .ok (.iload_n 3, 1) := by decide +kernel
theorem dJ2_indexOfChar_4cfef_10 : decode cJ2_indexOfChar_4cfef 10 = .ok (.invokestatic 244, 3) := by decide +kernel
theorem dJ2_indexOfChar_4cfef_13 : decode cJ2_indexOfChar_4cfef 13 = .ok (.ireturn, 1) := by decide +kernel
theorem dJ2_indexOfCharUnsafe_4cfef_0 : decode cJ2_indexOfCharUnsafe_4cfef 0 = .ok (.iload_n 2, 1) := by decide +kernel
theorem dJ2_indexOfCharUnsafe_4cfef_1 : decode cJ2_indexOfCharUnsafe_4cfef 1 = .ok (.istore 4, 2) := by decide +kernel
theorem dJ2_indexOfCharUnsafe_4cfef_3 : decode cJ2_indexOfCharUnsafe_4cfef 3 = .ok (.iload 4, 2) := by decide +kernel
theorem dJ2_indexOfCharUnsafe_4cfef_5 : decode cJ2_indexOfCharUnsafe_4cfef 5 = .ok (.iload_n 3, 1) := by decide +kernel
theorem dJ2_indexOfCharUnsafe_4cfef_6 : decode cJ2_indexOfCharUnsafe_4cfef 6 = .ok (.if_icmp .ge 22, 3) := by decide +kernel
theorem dJ2_indexOfCharUnsafe_4cfef_9 : decode cJ2_indexOfCharUnsafe_4cfef 9 = .ok (.aload_n 0, 1) := by decide +kernel
theorem dJ2_indexOfCharUnsafe_4cfef_10 : decode cJ2_indexOfCharUnsafe_4cfef 10 = .ok (.iload 4, 2) := by decide +kernel
theorem dJ2_indexOfCharUnsafe_4cfef_12 : decode cJ2_indexOfCharUnsafe_4cfef 12 = .ok (.invokestatic 71, 3) := by decide +kernel
theorem dJ2_indexOfCharUnsafe_4cfef_15 : decode cJ2_indexOfCharUnsafe_4cfef 15 = .ok (.iload_n 1, 1) := by decide +kernel
theorem dJ2_indexOfCharUnsafe_4cfef_16 : decode cJ2_indexOfCharUnsafe_4cfef 16 = .ok (.if_icmp .ne 6, 3) := by decide +kernel
theorem dJ2_indexOfCharUnsafe_4cfef_19 : decode cJ2_indexOfCharUnsafe_4cfef 19 = .ok (.iload 4, 2) := by decide +kernel
theorem dJ2_indexOfCharUnsafe_4cfef_21 : decode cJ2_indexOfCharUnsafe_4cfef 21 = .ok (.ireturn, 1) := by decide +kernel
theorem dJ2_indexOfCharUnsafe_4cfef_22 : decode cJ2_indexOfCharUnsafe_4cfef 22 = .ok (.iinc 4 1, 3) := by decide +kernel
theorem dJ2_indexOfCharUnsafe_4cfef_25 : decode cJ2_indexOfCharUnsafe_4cfef 25 = .ok (.goto (-22), 3) := by decide +kernel
theorem dJ2_indexOfCharUnsafe_4cfef_28 : decode cJ2_indexOfCharUnsafe_4cfef 28 = .ok (.iconst (-1), 1) := by decide +kernel
theorem dJ2_indexOfCharUnsafe_4cfef_29 : decode cJ2_indexOfCharUnsafe_4cfef 29 = .ok (.ireturn, 1) := by decide +kernel
theorem dJ2_indexOfSupplementary_4cfef_0 : decode cJ2_indexOfSupplementary_4cfef 0 = .ok (.iload_n 1, 1) := by decide +kernel
theorem dJ2_indexOfSupplementary_4cfef_1 : decode cJ2_indexOfSupplementary_4cfef 1 = .ok (.invokestatic 164, 3) := by decide +kernel
theorem dJ2_indexOfSupplementary_4cfef_4 : decode cJ2_indexOfSupplementary_4cfef 4 = .ok (.ifCond .eq 65, 3) := by decide +kernel
theorem dJ2_indexOfSupplementary_4cfef_7 : decode cJ2_indexOfSupplementary_4cfef 7 = .ok (.iload_n 1, 1) := by decide +kernel
theorem dJ2_indexOfSupplementary_4cfef_8 : decode cJ2_indexOfSupplementary_4cfef 8 = .ok (.invokestatic 157, 3) := by decide +kernel
theorem dJ2_indexOfSupplementary_4cfef_11 : decode cJ2_indexOfSupplementary_4cfef 11 = .ok (.istore 4, 2) := by decide +kernel
theorem dJ2_indexOfSupplementary_4cfef_13 : decode cJ2_indexOfSupplementary_4cfef 13 = .ok (.iload_n 1, 1) := by decide +kernel
theorem dJ2_indexOfSupplementary_4cfef_14 : decode cJ2_indexOfSupplementary_4cfef 14 = .ok (.invokestatic 161, 3) := by decide +kernel
theorem dJ2_indexOfSupplementary_4cfef_17 : decode cJ2_indexOfSupplementary_4cfef 17 = .ok (.istore 5, 2) := by decide +kernel
theorem dJ2_indexOfSupplementary_4cfef_19 : decode cJ2_indexOfSupplementary_4cfef 19 = .ok (.iload_n 2, 1) := by decide +kernel
theorem dJ2_indexOfSupplementary_4cfef_20 : decode cJ2_indexOfSupplementary_4cfef 20 = .ok (.iload_n 3, 1) := by decide +kernel
theorem dJ2_indexOfSupplementary_4cfef_21 : decode cJ2_indexOfSupplementary_4cfef 21 = .ok (.aload_n 0, 1) := by decide +kernel
theorem dJ2_indexOfSupplementary_4cfef_22 : decode cJ2_indexOfSupplementary_4cfef 22 = .ok (.invokestatic 96, 3) := by decide +kernel
theorem dJ2_indexOfSupplementary_4cfef_25 : decode cJ2_indexOfSupplementary_4cfef 25 = .ok (.iload_n 2, 1) := by decide +kernel
theorem dJ2_indexOfSupplementary_4cfef_26 : decode cJ2_indexOfSupplementary_4cfef 26 = .ok (.istore 6, 2) := by decide +kernel
theorem dJ2_indexOfSupplementary_4cfef_28 : decode cJ2_indexOfSupplementary_4cfef 28 = .ok (.iload 6, 2) := by decide +kernel
theorem dJ2_indexOfSupplementary_4cfef_30 : decode cJ2_indexOfSupplementary_4cfef 30 = .ok (.iload_n 3, 1) := by decide +kernel
theorem dJ2_indexOfSupplementary_4cfef_31 : decode cJ2_indexOfSupplementary_4cfef 31 = .ok (.iconst 1, 1) := by decide +kernel
theorem dJ2_indexOfSupplementary_4cfef_32 : decode cJ2_indexOfSupplementary_4cfef 32 = .ok (.isub, 1) := by decide +kernel
theorem dJ2_indexOfSupplementary_4cfef_33 : decode cJ2_indexOfSupplementary_4cfef 33 = .ok (.if_icmp .ge 36, 3) := by decide +kernel
theorem dJ2_indexOfSupplementary_4cfef_36 : decode cJ2_indexOfSupplementary_4cfef 36 = .ok (.aload_n 0, 1) := by decide +kernel
theorem dJ2_indexOfSupplementary_4cfef_37 : decode cJ2_indexOfSupplementary_4cfef 37 = .ok (.iload 6, 2) := by decide +kernel
theorem dJ2_indexOfSupplementary_4cfef_39 : decode cJ2_indexOfSupplementary_4cfef 39 = .ok (.invokestatic 71, 3) := by decide +kernel
theorem dJ2_indexOfSupplementary_4cfef_42 : decode cJ2_indexOfSupplementary_4cfef 42 = .ok (.iload 4, 2) := by decide +kernel
theorem dJ2_indexOfSupplementary_4cfef_44 : decode cJ2_indexOfSupplementary_4cfef 44 = .ok (.if_icmp .ne 19, 3) := by decide +kernel
theorem dJ2_indexOfSupplementary_4cfef_47 : decode cJ2_indexOfSupplementary_4cfef 47 = .ok (.aload_n 0, 1) := by decide +kernel
theorem dJ2_indexOfSupplementary_4cfef_48 : decode cJ2_indexOfSupplementary_4cfef 48 = .ok (.iload 6, 2) := by decide +kernel
theorem dJ2_indexOfSupplementary_4cfef_50 : decode cJ2_indexOfSupplementary_4cfef 50 = .ok (.iconst 1, 1) := by decide +kernel
theorem dJ2_indexOfSupplementary_4cfef_51 : decode cJ2_indexOfSupplementary_4cfef 51 = .ok (.iadd, 1) := by decide +kernel
theorem dJ2_indexOfSupplementary_4cfef_52 : decode cJ2_indexOfSupplementary_4cfef 52 = .ok (.invokestatic 71, 3) := by decide +kernel
theorem dJ2_indexOfSupplementary_4cfef_55 : decode cJ2_indexOfSupplementary_4cfef 55 = .ok (.iload 5, 2) := by decide +kernel
theorem dJ2_indexOfSupplementary_4cfef_57 : decode cJ2_indexOfSupplementary_4cfef 57 = .ok (.if_icmp .ne 6, 3) := by decide +kernel
theorem dJ2_indexOfSupplementary_4cfef_60 : decode cJ2_indexOfSupplementary_4cfef 60 = .ok (.iload 6, 2) := by decide +kernel
theorem dJ2_indexOfSupplementary_4cfef_62 : decode cJ2_indexOfSupplementary_4cfef 62 = .ok (.ireturn, 1) := by decide +kernel
theorem dJ2_indexOfSupplementary_4cfef_63 : decode cJ2_indexOfSupplementary_4cfef 63 = .ok (.iinc 6 1, 3) := by decide +kernel
theorem dJ2_indexOfSupplementary_4cfef_66 : decode cJ2_indexOfSupplementary_4cfef 66 = .ok (.goto (-38), 3) := by decide +kernel
theorem dJ2_indexOfSupplementary_4cfef_69 : decode cJ2_indexOfSupplementary_4cfef 69 = .ok (.iconst (-1), 1) := by decide +kernel
theorem dJ2_indexOfSupplementary_4cfef_70 : decode cJ2_indexOfSupplementary_4cfef 70 = .ok (.ireturn, 1) := by decide +kernel
theorem dJ2_charAt_3b067_0 : decode cJ2_charAt_3b067 0 = .ok (.iload_n 1, 1) := by decide +kernel
theorem dJ2_charAt_3b067_1 : decode cJ2_charAt_3b067 1 = .ok (.aload_n 0, 1) := by decide +kernel
theorem dJ2_charAt_3b067_2 : decode cJ2_charAt_3b067 2 = .ok (.invokestatic 67, 3) := by decide +kernel
theorem dJ2_charAt_3b067_5 : decode cJ2_charAt_3b067 5 = .ok (.aload_n 0, 1) := by decide +kernel
theorem dJ2_charAt_3b067_6 : decode cJ2_charAt_3b067 6 = .ok (.iload_n 1, 1) := by decide +kernel
theorem dJ2_charAt_3b067_7 : decode cJ2_charAt_3b067 7 = .ok (.invokestatic 71, 3) := by decide +kernel
theorem dJ2_charAt_3b067_10 : decode cJ2_charAt_3b067 10 = .ok (.ireturn, 1) := by decide +kernel
theorem dJ2_checkIndex_2214a_0 : decode cJ2_checkIndex_2214a 0 = .ok (.iload_n 0, 1) := by decide +kernel
theorem dJ2_checkIndex_2214a_1 : decode cJ2_checkIndex_2214a 1 = .ok (.aload_n 1, 1) := by decide +kernel
theorem dJ2_checkIndex_2214a_2 : decode cJ2_checkIndex_2214a 2 = .ok (.invokestatic 48, 3) := by decide +kernel
theorem dJ2_checkIndex_2214a_5 : decode cJ2_checkIndex_2214a 5 = .ok (.invokestatic 414, 3) := by decide +kernel
theorem dJ2_checkIndex_2214a_8 : decode cJ2_checkIndex_2214a 8 = .ok (.return_, 1) := by decide +kernel
theorem dJ2_checkBoundsBeginEnd_d044e_0 : decode cJ2_checkBoundsBeginEnd_d044e 0 = .ok (.iload_n 0, 1) := by decide +kernel
theorem dJ2_checkBoundsBeginEnd_d044e_1 : decode cJ2_checkBoundsBeginEnd_d044e 1 = .ok (.iload_n 1, 1) := by decide +kernel
theorem dJ2_checkBoundsBeginEnd_d044e_2 : decode cJ2_checkBoundsBeginEnd_d044e 2 = .ok (.aload_n 2, 1) := by decide +kernel
theorem dJ2_checkBoundsBeginEnd_d044e_3 : decode cJ2_checkBoundsBeginEnd_d044e 3 = .ok (.invokestatic 48, 3) := by decide +kernel
theorem dJ2_checkBoundsBeginEnd_d044e_6 : decode cJ2_checkBoundsBeginEnd_d044e 6 = .ok (.invokestatic 241, 3) := by decide +kernel
theorem dJ2_checkBoundsBeginEnd_d044e_9 : decode cJ2_checkBoundsBeginEnd_d044e 9 = .ok (.return_, 1) := by decide +kernel
theorem dJ7_fill_53178_0 : decode cJ7_fill_53178 0 = .ok (.iconst 0, 1) := by decide +kernel
theorem dJ7_fill_53178_1 : decode cJ7_fill_53178 1 = .ok (.istore_n 2, 1) := by decide +kernel
theorem dJ7_fill_53178_2 : decode cJ7_fill_53178 2 = .ok (.aload_n 0, 1) := by decide +kernel
theorem dJ7_fill_53178_3 : decode cJ7_fill_53178 3 = .ok (.arraylength, 1) := by decide +kernel
theorem dJ7_fill_53178_4 : decode cJ7_fill_53178 4 = .ok (.istore_n 3, 1) := by decide +kernel
theorem dJ7_fill_53178_5 : decode cJ7_fill_53178 5 = .ok (.iload_n 2, 1) := by decide +kernel
theorem dJ7_fill_53178_6 : decode cJ7_fill_53178 6 = .ok (.iload_n 3, 1) := by decide +kernel
theorem dJ7_fill_53178_7 : decode cJ7_fill_53178 7 = .ok (.if_icmp .ge 13, 3) := by decide +kernel
theorem dJ7_fill_53178_10 : decode cJ7_fill_53178 10 = .ok (.aload_n 0, 1) := by decide +kernel
theorem dJ7_fill_53178_11 : decode cJ7_fill_53178 11 = .ok (.iload_n 2, 1) := by decide +kernel
theorem dJ7_fill_53178_12 : decode cJ7_fill_53178 12 = .ok (.iload_n 1, 1) := by decide +kernel
theorem dJ7_fill_53178_13 : decode cJ7_fill_53178 13 = .ok (.iastore, 1) := by decide +kernel
theorem dJ7_fill_53178_14 : decode cJ7_fill_53178 14 = .ok (.iinc 2 1, 3) := by decide +kernel
theorem dJ7_fill_53178_17 : decode cJ7_fill_53178 17 = .ok (.goto (-12), 3) := by decide +kernel
theorem dJ7_fill_53178_20 : decode cJ7_fill_53178 20 = .ok (.return_, 1) := by decide +kernel
theorem dJ3_checkIndex_8e157_0 : decode cJ3_checkIndex_8e157 0 = .ok (.iload_n 0, 1) := by decide +kernel
theorem dJ3_checkIndex_8e157_1 : decode cJ3_checkIndex_8e157 1 = .ok (.ifCond .lt 8, 3) := by decide +kernel
theorem dJ3_checkIndex_8e157_4 : decode cJ3_checkIndex_8e157 4 = .ok (.iload_n 0, 1) := by decide +kernel
theorem dJ3_checkIndex_8e157_5 : decode cJ3_checkIndex_8e157 5 = .ok (.iload_n 1, 1) := by decide +kernel
theorem dJ3_checkIndex_8e157_6 : decode cJ3_checkIndex_8e157 6 = .ok (.if_icmp .lt 10, 3) := by decide +kernel
theorem dJ3_checkIndex_8e157_9 : decode cJ3_checkIndex_8e157 9 = .ok (.aload_n 2, 1) := by decide +kernel
theorem dJ3_checkIndex_8e157_10 : decode cJ3_checkIndex_8e157 10 = .ok (.iload_n 0, 1) := by decide +kernel
theorem dJ3_checkIndex_8e157_11 : decode cJ3_checkIndex_8e157 11 = .ok (.iload_n 1, 1) := by decide +kernel
theorem dJ3_checkIndex_8e157_12 : decode cJ3_checkIndex_8e157 12 = .ok (.invokestatic 95, 3) := by decide +kernel
theorem dJ3_checkIndex_8e157_15 : decode cJ3_checkIndex_8e157 15 = .ok (.athrow, 1) := by decide +kernel
theorem dJ3_checkIndex_8e157_16 : decode cJ3_checkIndex_8e157 16 = .ok (.iload_n 0, 1) := by decide +kernel
theorem dJ3_checkIndex_8e157_17 : decode cJ3_checkIndex_8e157 17 = .ok (.ireturn, 1) := by decide +kernel
theorem dJ3_checkFromToIndex_8c36e_0 : decode cJ3_checkFromToIndex_8c36e 0 = .ok (.iload_n 0, 1) := by decide +kernel
theorem dJ3_checkFromToIndex_8c36e_1 : decode cJ3_checkFromToIndex_8c36e 1 = .ok (.ifCond .lt 13, 3) := by decide +kernel
theorem dJ3_checkFromToIndex_8c36e_4 : decode cJ3_checkFromToIndex_8c36e 4 = .ok (.iload_n 0, 1) := by decide +kernel
theorem dJ3_checkFromToIndex_8c36e_5 : decode cJ3_checkFromToIndex_8c36e 5 = .ok (.iload_n 1, 1) := by decide +kernel
theorem dJ3_checkFromToIndex_8c36e_6 : decode cJ3_checkFromToIndex_8c36e 6 = .ok (.if_icmp .gt 8, 3) := by decide +kernel
theorem dJ3_checkFromToIndex_8c36e_9 : decode cJ3_checkFromToIndex_8c36e 9 = .ok (.iload_n 1, 1) := by decide +kernel
theorem dJ3_checkFromToIndex_8c36e_10 : decode cJ3_checkFromToIndex_8c36e 10 = .ok (.iload_n 2, 1) := by decide +kernel
theorem dJ3_checkFromToIndex_8c36e_11 : decode cJ3_checkFromToIndex_8c36e 11 = .ok (.if_icmp .le 11, 3) := by decide +kernel
theorem dJ3_checkFromToIndex_8c36e_14 : decode cJ3_checkFromToIndex_8c36e 14 = .ok (.aload_n 3, 1) := by decide +kernel
theorem dJ3_checkFromToIndex_8c36e_15 : decode cJ3_checkFromToIndex_8c36e 15 = .ok (.iload_n 0, 1) := by decide +kernel
theorem dJ3_checkFromToIndex_8c36e_16 : decode cJ3_checkFromToIndex_8c36e 16 = .ok (.iload_n 1, 1) := by decide +kernel
theorem dJ3_checkFromToIndex_8c36e_17 : decode cJ3_checkFromToIndex_8c36e 17 = .ok (.iload_n 2, 1) := by decide +kernel
theorem dJ3_checkFromToIndex_8c36e_18 : decode cJ3_checkFromToIndex_8c36e 18 = .ok (.invokestatic 99, 3) := by decide +kernel
theorem dJ3_checkFromToIndex_8c36e_21 : decode cJ3_checkFromToIndex_8c36e 21 = .ok (.athrow, 1) := by decide +kernel
theorem dJ3_checkFromToIndex_8c36e_22 : decode cJ3_checkFromToIndex_8c36e 22 = .ok (.iload_n 0, 1) := by decide +kernel
theorem dJ3_checkFromToIndex_8c36e_23 : decode cJ3_checkFromToIndex_8c36e 23 = .ok (.ireturn, 1) := by decide +kernel
theorem dL_law_0 : decode cL_law 0 = .ok (.new 7, 3) := by decide +kernel
theorem dL_law_3 : decode cL_law 3 = .ok (.dup, 1) := by decide +kernel
theorem dL_law_4 : decode cL_law 4 = .ok (.invokespecial 9, 3) := by decide +kernel
theorem dL_law_7 : decode cL_law 7 = .ok (.astore_n 1, 1) := by decide +kernel
theorem dL_law_8 : decode cL_law 8 = .ok (.new 10, 3) := by decide +kernel
theorem dL_law_11 : decode cL_law 11 = .ok (.dup, 1) := by decide +kernel
theorem dL_law_12 : decode cL_law 12 = .ok (.invokespecial 12, 3) := by decide +kernel
theorem dL_law_15 : decode cL_law 15 = .ok (.astore_n 2, 1) := by decide +kernel
theorem dL_law_16 : decode cL_law 16 = .ok (.iconst 0, 1) := by decide +kernel
theorem dL_law_17 : decode cL_law 17 = .ok (.istore_n 3, 1) := by decide +kernel
theorem dL_law_18 : decode cL_law 18 = .ok (.iload_n 3, 1) := by decide +kernel
theorem dL_law_19 : decode cL_law 19 = .ok (.aload_n 0, 1) := by decide +kernel
theorem dL_law_20 : decode cL_law 20 = .ok (.arraylength, 1) := by decide +kernel
theorem dL_law_21 : decode cL_law 21 = .ok (.iconst 4, 1) := by decide +kernel
theorem dL_law_22 : decode cL_law 22 = .ok (.isub, 1) := by decide +kernel
theorem dL_law_23 : decode cL_law 23 = .ok (.if_icmp .gt 807, 3) := by decide +kernel
theorem dL_law_26 : decode cL_law 26 = .ok (.aload_n 0, 1) := by decide +kernel
theorem dL_law_27 : decode cL_law 27 = .ok (.iload_n 3, 1) := by decide +kernel
theorem dL_law_28 : decode cL_law 28 = .ok (.iaload, 1) := by decide +kernel
theorem dL_law_29 : decode cL_law 29 = .ok (.bipush 31, 2) := by decide +kernel
theorem dL_law_31 : decode cL_law 31 = .ok (.iand, 1) := by decide +kernel
theorem dL_law_32 : decode cL_law 32 = .ok (.tableswitch 792 0 27 #[128, 151, 164, 177, 190, 213, 246, 269, 312, 345, 358, 371, 384, 417, 450, 493, 506, 539, 572, 585, 608, 631, 654, 677, 700, 723, 746, 769], 128) := by decide +kernel
theorem dL_law_160 : decode cL_law 160 = .ok (.aload_n 1, 1) := by decide +kernel
theorem dL_law_161 : decode cL_law 161 = .ok (.aload_n 0, 1) := by decide +kernel
theorem dL_law_162 : decode cL_law 162 = .ok (.iload_n 3, 1) := by decide +kernel
theorem dL_law_163 : decode cL_law 163 = .ok (.iconst 1, 1) := by decide +kernel
theorem dL_law_164 : decode cL_law 164 = .ok (.iadd, 1) := by decide +kernel
theorem dL_law_165 : decode cL_law 165 = .ok (.iaload, 1) := by decide +kernel
theorem dL_law_166 : decode cL_law 166 = .ok (.invokevirtual 13, 3) := by decide +kernel
theorem dL_law_169 : decode cL_law 169 = .ok (.aload_n 2, 1) := by decide +kernel
theorem dL_law_170 : decode cL_law 170 = .ok (.aload_n 0, 1) := by decide +kernel
theorem dL_law_171 : decode cL_law 171 = .ok (.iload_n 3, 1) := by decide +kernel
theorem dL_law_172 : decode cL_law 172 = .ok (.iconst 1, 1) := by decide +kernel
theorem dL_law_173 : decode cL_law 173 = .ok (.iadd, 1) := by decide +kernel
theorem dL_law_174 : decode cL_law 174 = .ok (.iaload, 1) := by decide +kernel
theorem dL_law_175 : decode cL_law 175 = .ok (.invokevirtual 17, 3) := by decide +kernel
theorem dL_law_178 : decode cL_law 178 = .ok (.if_icmp .eq 646, 3) := by decide +kernel
theorem dL_law_181 : decode cL_law 181 = .ok (.iconst 0, 1) := by decide +kernel
theorem dL_law_182 : decode cL_law 182 = .ok (.ireturn, 1) := by decide +kernel
theorem dL_law_183 : decode cL_law 183 = .ok (.aload_n 1, 1) := by decide +kernel
theorem dL_law_184 : decode cL_law 184 = .ok (.invokevirtual 18, 3) := by decide +kernel
theorem dL_law_187 : decode cL_law 187 = .ok (.aload_n 2, 1) := by decide +kernel
theorem dL_law_188 : decode cL_law 188 = .ok (.invokevirtual 22, 3) := by decide +kernel
theorem dL_law_191 : decode cL_law 191 = .ok (.if_icmp .eq 633, 3) := by decide +kernel
theorem dL_law_194 : decode cL_law 194 = .ok (.iconst 0, 1) := by decide +kernel
theorem dL_law_195 : decode cL_law 195 = .ok (.ireturn, 1) := by decide +kernel
theorem dL_law_196 : decode cL_law 196 = .ok (.aload_n 1, 1) := by decide +kernel
theorem dL_law_197 : decode cL_law 197 = .ok (.invokevirtual 23, 3) := by decide +kernel
theorem dL_law_200 : decode cL_law 200 = .ok (.aload_n 2, 1) := by decide +kernel
theorem dL_law_201 : decode cL_law 201 = .ok (.invokevirtual 26, 3) := by decide +kernel
theorem dL_law_204 : decode cL_law 204 = .ok (.if_icmp .eq 620, 3) := by decide +kernel
theorem dL_law_207 : decode cL_law 207 = .ok (.iconst 0, 1) := by decide +kernel
theorem dL_law_208 : decode cL_law 208 = .ok (.ireturn, 1) := by decide +kernel
theorem dL_law_209 : decode cL_law 209 = .ok (.aload_n 1, 1) := by decide +kernel
theorem dL_law_210 : decode cL_law 210 = .ok (.invokevirtual 27, 3) := by decide +kernel
theorem dL_law_213 : decode cL_law 213 = .ok (.aload_n 2, 1) := by decide +kernel
theorem dL_law_214 : decode cL_law 214 = .ok (.invokevirtual 30, 3) := by decide +kernel
theorem dL_law_217 : decode cL_law 217 = .ok (.if_icmp .eq 607, 3) := by decide +kernel
theorem dL_law_220 : decode cL_law 220 = .ok (.iconst 0, 1) := by decide +kernel
theorem dL_law_221 : decode cL_law 221 = .ok (.ireturn, 1) := by decide +kernel
theorem dL_law_222 : decode cL_law 222 = .ok (.aload_n 1, 1) := by decide +kernel
theorem dL_law_223 : decode cL_law 223 = .ok (.aload_n 0, 1) := by decide +kernel
theorem dL_law_224 : decode cL_law 224 = .ok (.iload_n 3, 1) := by decide +kernel
theorem dL_law_225 : decode cL_law 225 = .ok (.iconst 1, 1) := by decide +kernel
theorem dL_law_226 : decode cL_law 226 = .ok (.iadd, 1) := by decide +kernel
theorem dL_law_227 : decode cL_law 227 = .ok (.iaload, 1) := by decide +kernel
theorem dL_law_228 : decode cL_law 228 = .ok (.invokevirtual 31, 3) := by decide +kernel
theorem dL_law_231 : decode cL_law 231 = .ok (.aload_n 2, 1) := by decide +kernel
theorem dL_law_232 : decode cL_law 232 = .ok (.aload_n 0, 1) := by decide +kernel
theorem dL_law_233 : decode cL_law 233 = .ok (.iload_n 3, 1) := by decide +kernel
theorem dL_law_234 : decode cL_law 234 = .ok (.iconst 1, 1) := by decide +kernel
theorem dL_law_235 : decode cL_law 235 = .ok (.iadd, 1) := by decide +kernel
theorem dL_law_236 : decode cL_law 236 = .ok (.iaload, 1) := by decide +kernel
theorem dL_law_237 : decode cL_law 237 = .ok (.invokevirtual 34, 3) := by decide +kernel
theorem dL_law_240 : decode cL_law 240 = .ok (.if_icmp .eq 584, 3) := by decide +kernel
theorem dL_law_243 : decode cL_law 243 = .ok (.iconst 0, 1) := by decide +kernel
theorem dL_law_244 : decode cL_law 244 = .ok (.ireturn, 1) := by decide +kernel
theorem dL_law_245 : decode cL_law 245 = .ok (.aload_n 1, 1) := by decide +kernel
theorem dL_law_246 : decode cL_law 246 = .ok (.aload_n 0, 1) := by decide +kernel
theorem dL_law_247 : decode cL_law 247 = .ok (.iload_n 3, 1) := by decide +kernel
theorem dL_law_248 : decode cL_law 248 = .ok (.iconst 1, 1) := by decide +kernel
theorem dL_law_249 : decode cL_law 249 = .ok (.iadd, 1) := by decide +kernel
theorem dL_law_250 : decode cL_law 250 = .ok (.iaload, 1) := by decide +kernel
theorem dL_law_251 : decode cL_law 251 = .ok (.aload_n 0, 1) := by decide +kernel
theorem dL_law_252 : decode cL_law 252 = .ok (.iload_n 3, 1) := by decide +kernel
theorem dL_law_253 : decode cL_law 253 = .ok (.iconst 2, 1) := by decide +kernel
theorem dL_law_254 : decode cL_law 254 = .ok (.iadd, 1) := by decide +kernel
theorem dL_law_255 : decode cL_law 255 = .ok (.iaload, 1) := by decide +kernel
theorem dL_law_256 : decode cL_law 256 = .ok (.invokevirtual 35, 3) := by decide +kernel
theorem dL_law_259 : decode cL_law 259 = .ok (.aload_n 2, 1) := by decide +kernel
theorem dL_law_260 : decode cL_law 260 = .ok (.aload_n 0, 1) := by decide +kernel
theorem dL_law_261 : decode cL_law 261 = .ok (.iload_n 3, 1) := by decide +kernel
theorem dL_law_262 : decode cL_law 262 = .ok (.iconst 1, 1) := by decide +kernel
theorem dL_law_263 : decode cL_law 263 = .ok (.iadd, 1) := by decide +kernel
theorem dL_law_264 : decode cL_law 264 = .ok (.iaload, 1) := by decide +kernel
theorem dL_law_265 : decode cL_law 265 = .ok (.aload_n 0, 1) := by decide +kernel
theorem dL_law_266 : decode cL_law 266 = .ok (.iload_n 3, 1) := by decide +kernel
theorem dL_law_267 : decode cL_law 267 = .ok (.iconst 2, 1) := by decide +kernel
theorem dL_law_268 : decode cL_law 268 = .ok (.iadd, 1) := by decide +kernel
theorem dL_law_269 : decode cL_law 269 = .ok (.iaload, 1) := by decide +kernel
theorem dL_law_270 : decode cL_law 270 = .ok (.invokevirtual 39, 3) := by decide +kernel
theorem dL_law_273 : decode cL_law 273 = .ok (.if_icmp .eq 551, 3) := by decide +kernel
theorem dL_law_276 : decode cL_law 276 = .ok (.iconst 0, 1) := by decide +kernel
theorem dL_law_277 : decode cL_law 277 = .ok (.ireturn, 1) := by decide +kernel
theorem dL_law_278 : decode cL_law 278 = .ok (.aload_n 1, 1) := by decide +kernel
theorem dL_law_279 : decode cL_law 279 = .ok (.aload_n 0, 1) := by decide +kernel
theorem dL_law_280 : decode cL_law 280 = .ok (.iload_n 3, 1) := by decide +kernel
theorem dL_law_281 : decode cL_law 281 = .ok (.iconst 1, 1) := by decide +kernel
theorem dL_law_282 : decode cL_law 282 = .ok (.iadd, 1) := by decide +kernel
theorem dL_law_283 : decode cL_law 283 = .ok (.iaload, 1) := by decide +kernel
theorem dL_law_284 : decode cL_law 284 = .ok (.invokevirtual 40, 3) := by decide +kernel
theorem dL_law_287 : decode cL_law 287 = .ok (.aload_n 2, 1) := by decide +kernel
theorem dL_law_288 : decode cL_law 288 = .ok (.aload_n 0, 1) := by decide +kernel
theorem dL_law_289 : decode cL_law 289 = .ok (.iload_n 3, 1) := by decide +kernel
theorem dL_law_290 : decode cL_law 290 = .ok (.iconst 1, 1) := by decide +kernel
theorem dL_law_291 : decode cL_law 291 = .ok (.iadd, 1) := by decide +kernel
theorem dL_law_292 : decode cL_law 292 = .ok (.iaload, 1) := by decide +kernel
theorem dL_law_293 : decode cL_law 293 = .ok (.invokevirtual 43, 3) := by decide +kernel
theorem dL_law_296 : decode cL_law 296 = .ok (.if_icmp .eq 528, 3) := by decide +kernel
theorem dL_law_299 : decode cL_law 299 = .ok (.iconst 0, 1) := by decide +kernel
theorem dL_law_300 : decode cL_law 300 = .ok (.ireturn, 1) := by decide +kernel
theorem dL_law_301 : decode cL_law 301 = .ok (.aload_n 1, 1) := by decide +kernel
theorem dL_law_302 : decode cL_law 302 = .ok (.aload_n 0, 1) := by decide +kernel
theorem dL_law_303 : decode cL_law 303 = .ok (.iload_n 3, 1) := by decide +kernel
theorem dL_law_304 : decode cL_law 304 = .ok (.iconst 1, 1) := by decide +kernel
theorem dL_law_305 : decode cL_law 305 = .ok (.iadd, 1) := by decide +kernel
theorem dL_law_306 : decode cL_law 306 = .ok (.iaload, 1) := by decide +kernel
theorem dL_law_307 : decode cL_law 307 = .ok (.aload_n 0, 1) := by decide +kernel
theorem dL_law_308 : decode cL_law 308 = .ok (.iload_n 3, 1) := by decide +kernel
theorem dL_law_309 : decode cL_law 309 = .ok (.iconst 2, 1) := by decide +kernel
theorem dL_law_310 : decode cL_law 310 = .ok (.iadd, 1) := by decide +kernel
theorem dL_law_311 : decode cL_law 311 = .ok (.iaload, 1) := by decide +kernel
theorem dL_law_312 : decode cL_law 312 = .ok (.aload_n 0, 1) := by decide +kernel
theorem dL_law_313 : decode cL_law 313 = .ok (.iload_n 3, 1) := by decide +kernel
theorem dL_law_314 : decode cL_law 314 = .ok (.iconst 3, 1) := by decide +kernel
theorem dL_law_315 : decode cL_law 315 = .ok (.iadd, 1) := by decide +kernel
theorem dL_law_316 : decode cL_law 316 = .ok (.iaload, 1) := by decide +kernel
theorem dL_law_317 : decode cL_law 317 = .ok (.invokevirtual 44, 3) := by decide +kernel
theorem dL_law_320 : decode cL_law 320 = .ok (.aload_n 2, 1) := by decide +kernel
theorem dL_law_321 : decode cL_law 321 = .ok (.aload_n 0, 1) := by decide +kernel
theorem dL_law_322 : decode cL_law 322 = .ok (.iload_n 3, 1) := by decide +kernel
theorem dL_law_323 : decode cL_law 323 = .ok (.iconst 1, 1) := by decide +kernel
theorem dL_law_324 : decode cL_law 324 = .ok (.iadd, 1) := by decide +kernel
theorem dL_law_325 : decode cL_law 325 = .ok (.iaload, 1) := by decide +kernel
theorem dL_law_326 : decode cL_law 326 = .ok (.aload_n 0, 1) := by decide +kernel
theorem dL_law_327 : decode cL_law 327 = .ok (.iload_n 3, 1) := by decide +kernel
theorem dL_law_328 : decode cL_law 328 = .ok (.iconst 2, 1) := by decide +kernel
theorem dL_law_329 : decode cL_law 329 = .ok (.iadd, 1) := by decide +kernel
theorem dL_law_330 : decode cL_law 330 = .ok (.iaload, 1) := by decide +kernel
theorem dL_law_331 : decode cL_law 331 = .ok (.aload_n 0, 1) := by decide +kernel
theorem dL_law_332 : decode cL_law 332 = .ok (.iload_n 3, 1) := by decide +kernel
theorem dL_law_333 : decode cL_law 333 = .ok (.iconst 3, 1) := by decide +kernel
theorem dL_law_334 : decode cL_law 334 = .ok (.iadd, 1) := by decide +kernel
theorem dL_law_335 : decode cL_law 335 = .ok (.iaload, 1) := by decide +kernel
theorem dL_law_336 : decode cL_law 336 = .ok (.invokevirtual 48, 3) := by decide +kernel
theorem dL_law_339 : decode cL_law 339 = .ok (.if_icmp .eq 485, 3) := by decide +kernel
theorem dL_law_342 : decode cL_law 342 = .ok (.iconst 0, 1) := by decide +kernel
theorem dL_law_343 : decode cL_law 343 = .ok (.ireturn, 1) := by decide +kernel
theorem dL_law_344 : decode cL_law 344 = .ok (.aload_n 1, 1) := by decide +kernel
theorem dL_law_345 : decode cL_law 345 = .ok (.aload_n 0, 1) := by decide +kernel
theorem dL_law_346 : decode cL_law 346 = .ok (.iload_n 3, 1) := by decide +kernel
theorem dL_law_347 : decode cL_law 347 = .ok (.iconst 1, 1) := by decide +kernel
theorem dL_law_348 : decode cL_law 348 = .ok (.iadd, 1) := by decide +kernel
theorem dL_law_349 : decode cL_law 349 = .ok (.iaload, 1) := by decide +kernel
theorem dL_law_350 : decode cL_law 350 = .ok (.aload_n 0, 1) := by decide +kernel
theorem dL_law_351 : decode cL_law 351 = .ok (.iload_n 3, 1) := by decide +kernel
theorem dL_law_352 : decode cL_law 352 = .ok (.iconst 2, 1) := by decide +kernel
theorem dL_law_353 : decode cL_law 353 = .ok (.iadd, 1) := by decide +kernel
theorem dL_law_354 : decode cL_law 354 = .ok (.iaload, 1) := by decide +kernel
theorem dL_law_355 : decode cL_law 355 = .ok (.invokevirtual 49, 3) := by decide +kernel
theorem dL_law_358 : decode cL_law 358 = .ok (.aload_n 2, 1) := by decide +kernel
theorem dL_law_359 : decode cL_law 359 = .ok (.aload_n 0, 1) := by decide +kernel
theorem dL_law_360 : decode cL_law 360 = .ok (.iload_n 3, 1) := by decide +kernel
theorem dL_law_361 : decode cL_law 361 = .ok (.iconst 1, 1) := by decide +kernel
theorem dL_law_362 : decode cL_law 362 = .ok (.iadd, 1) := by decide +kernel
theorem dL_law_363 : decode cL_law 363 = .ok (.iaload, 1) := by decide +kernel
theorem dL_law_364 : decode cL_law 364 = .ok (.aload_n 0, 1) := by decide +kernel
theorem dL_law_365 : decode cL_law 365 = .ok (.iload_n 3, 1) := by decide +kernel
theorem dL_law_366 : decode cL_law 366 = .ok (.iconst 2, 1) := by decide +kernel
theorem dL_law_367 : decode cL_law 367 = .ok (.iadd, 1) := by decide +kernel
theorem dL_law_368 : decode cL_law 368 = .ok (.iaload, 1) := by decide +kernel
theorem dL_law_369 : decode cL_law 369 = .ok (.invokevirtual 52, 3) := by decide +kernel
theorem dL_law_372 : decode cL_law 372 = .ok (.if_icmp .eq 452, 3) := by decide +kernel
theorem dL_law_375 : decode cL_law 375 = .ok (.iconst 0, 1) := by decide +kernel
theorem dL_law_376 : decode cL_law 376 = .ok (.ireturn, 1) := by decide +kernel
theorem dL_law_377 : decode cL_law 377 = .ok (.aload_n 1, 1) := by decide +kernel
theorem dL_law_378 : decode cL_law 378 = .ok (.invokevirtual 53, 3) := by decide +kernel
theorem dL_law_381 : decode cL_law 381 = .ok (.aload_n 2, 1) := by decide +kernel
theorem dL_law_382 : decode cL_law 382 = .ok (.invokevirtual 56, 3) := by decide +kernel
theorem dL_law_385 : decode cL_law 385 = .ok (.if_icmp .eq 439, 3) := by decide +kernel
theorem dL_law_388 : decode cL_law 388 = .ok (.iconst 0, 1) := by decide +kernel
theorem dL_law_389 : decode cL_law 389 = .ok (.ireturn, 1) := by decide +kernel
theorem dL_law_390 : decode cL_law 390 = .ok (.aload_n 1, 1) := by decide +kernel
theorem dL_law_391 : decode cL_law 391 = .ok (.invokevirtual 57, 3) := by decide +kernel
theorem dL_law_394 : decode cL_law 394 = .ok (.aload_n 2, 1) := by decide +kernel
theorem dL_law_395 : decode cL_law 395 = .ok (.invokevirtual 60, 3) := by decide +kernel
theorem dL_law_398 : decode cL_law 398 = .ok (.if_icmp .eq 426, 3) := by decide +kernel
theorem dL_law_401 : decode cL_law 401 = .ok (.iconst 0, 1) := by decide +kernel
theorem dL_law_402 : decode cL_law 402 = .ok (.ireturn, 1) := by decide +kernel
theorem dL_law_403 : decode cL_law 403 = .ok (.aload_n 1, 1) := by decide +kernel
theorem dL_law_404 : decode cL_law 404 = .ok (.invokevirtual 61, 3) := by decide +kernel
theorem dL_law_407 : decode cL_law 407 = .ok (.aload_n 2, 1) := by decide +kernel
theorem dL_law_408 : decode cL_law 408 = .ok (.invokevirtual 64, 3) := by decide +kernel
theorem dL_law_411 : decode cL_law 411 = .ok (.if_icmp .eq 413, 3) := by decide +kernel
theorem dL_law_414 : decode cL_law 414 = .ok (.iconst 0, 1) := by decide +kernel
theorem dL_law_415 : decode cL_law 415 = .ok (.ireturn, 1) := by decide +kernel
theorem dL_law_416 : decode cL_law 416 = .ok (.aload_n 1, 1) := by decide +kernel
theorem dL_law_417 : decode cL_law 417 = .ok (.aload_n 0, 1) := by decide +kernel
theorem dL_law_418 : decode cL_law 418 = .ok (.iload_n 3, 1) := by decide +kernel
theorem dL_law_419 : decode cL_law 419 = .ok (.iconst 1, 1) := by decide +kernel
theorem dL_law_420 : decode cL_law 420 = .ok (.iadd, 1) := by decide +kernel
theorem dL_law_421 : decode cL_law 421 = .ok (.iaload, 1) := by decide +kernel
theorem dL_law_422 : decode cL_law 422 = .ok (.aload_n 0, 1) := by decide +kernel
theorem dL_law_423 : decode cL_law 423 = .ok (.iload_n 3, 1) := by decide +kernel
theorem dL_law_424 : decode cL_law 424 = .ok (.iconst 2, 1) := by decide +kernel
theorem dL_law_425 : decode cL_law 425 = .ok (.iadd, 1) := by decide +kernel
theorem dL_law_426 : decode cL_law 426 = .ok (.iaload, 1) := by decide +kernel
theorem dL_law_427 : decode cL_law 427 = .ok (.invokevirtual 65, 3) := by decide +kernel
theorem dL_law_430 : decode cL_law 430 = .ok (.aload_n 2, 1) := by decide +kernel
theorem dL_law_431 : decode cL_law 431 = .ok (.aload_n 0, 1) := by decide +kernel
theorem dL_law_432 : decode cL_law 432 = .ok (.iload_n 3, 1) := by decide +kernel
theorem dL_law_433 : decode cL_law 433 = .ok (.iconst 1, 1) := by decide +kernel
theorem dL_law_434 : decode cL_law 434 = .ok (.iadd, 1) := by decide +kernel
theorem dL_law_435 : decode cL_law 435 = .ok (.iaload, 1) := by decide +kernel
theorem dL_law_436 : decode cL_law 436 = .ok (.aload_n 0, 1) := by decide +kernel
theorem dL_law_437 : decode cL_law 437 = .ok (.iload_n 3, 1) := by decide +kernel
theorem dL_law_438 : decode cL_law 438 = .ok (.iconst 2, 1) := by decide +kernel
theorem dL_law_439 : decode cL_law 439 = .ok (.iadd, 1) := by decide +kernel
theorem dL_law_440 : decode cL_law 440 = .ok (.iaload, 1) := by decide +kernel
theorem dL_law_441 : decode cL_law 441 = .ok (.invokevirtual 68, 3) := by decide +kernel
theorem dL_law_444 : decode cL_law 444 = .ok (.if_icmp .eq 380, 3) := by decide +kernel
theorem dL_law_447 : decode cL_law 447 = .ok (.iconst 0, 1) := by decide +kernel
theorem dL_law_448 : decode cL_law 448 = .ok (.ireturn, 1) := by decide +kernel
theorem dL_law_449 : decode cL_law 449 = .ok (.aload_n 1, 1) := by decide +kernel
theorem dL_law_450 : decode cL_law 450 = .ok (.aload_n 0, 1) := by decide +kernel
theorem dL_law_451 : decode cL_law 451 = .ok (.iload_n 3, 1) := by decide +kernel
theorem dL_law_452 : decode cL_law 452 = .ok (.iconst 1, 1) := by decide +kernel
theorem dL_law_453 : decode cL_law 453 = .ok (.iadd, 1) := by decide +kernel
theorem dL_law_454 : decode cL_law 454 = .ok (.iaload, 1) := by decide +kernel
theorem dL_law_455 : decode cL_law 455 = .ok (.aload_n 0, 1) := by decide +kernel
theorem dL_law_456 : decode cL_law 456 = .ok (.iload_n 3, 1) := by decide +kernel
theorem dL_law_457 : decode cL_law 457 = .ok (.iconst 2, 1) := by decide +kernel
theorem dL_law_458 : decode cL_law 458 = .ok (.iadd, 1) := by decide +kernel
theorem dL_law_459 : decode cL_law 459 = .ok (.iaload, 1) := by decide +kernel
theorem dL_law_460 : decode cL_law 460 = .ok (.invokevirtual 69, 3) := by decide +kernel
theorem dL_law_463 : decode cL_law 463 = .ok (.aload_n 2, 1) := by decide +kernel
theorem dL_law_464 : decode cL_law 464 = .ok (.aload_n 0, 1) := by decide +kernel
theorem dL_law_465 : decode cL_law 465 = .ok (.iload_n 3, 1) := by decide +kernel
theorem dL_law_466 : decode cL_law 466 = .ok (.iconst 1, 1) := by decide +kernel
theorem dL_law_467 : decode cL_law 467 = .ok (.iadd, 1) := by decide +kernel
theorem dL_law_468 : decode cL_law 468 = .ok (.iaload, 1) := by decide +kernel
theorem dL_law_469 : decode cL_law 469 = .ok (.aload_n 0, 1) := by decide +kernel
theorem dL_law_470 : decode cL_law 470 = .ok (.iload_n 3, 1) := by decide +kernel
theorem dL_law_471 : decode cL_law 471 = .ok (.iconst 2, 1) := by decide +kernel
theorem dL_law_472 : decode cL_law 472 = .ok (.iadd, 1) := by decide +kernel
theorem dL_law_473 : decode cL_law 473 = .ok (.iaload, 1) := by decide +kernel
theorem dL_law_474 : decode cL_law 474 = .ok (.invokevirtual 72, 3) := by decide +kernel
theorem dL_law_477 : decode cL_law 477 = .ok (.if_icmp .eq 347, 3) := by decide +kernel
theorem dL_law_480 : decode cL_law 480 = .ok (.iconst 0, 1) := by decide +kernel
theorem dL_law_481 : decode cL_law 481 = .ok (.ireturn, 1) := by decide +kernel
theorem dL_law_482 : decode cL_law 482 = .ok (.aload_n 1, 1) := by decide +kernel
theorem dL_law_483 : decode cL_law 483 = .ok (.aload_n 0, 1) := by decide +kernel
theorem dL_law_484 : decode cL_law 484 = .ok (.iload_n 3, 1) := by decide +kernel
theorem dL_law_485 : decode cL_law 485 = .ok (.iconst 1, 1) := by decide +kernel
theorem dL_law_486 : decode cL_law 486 = .ok (.iadd, 1) := by decide +kernel
theorem dL_law_487 : decode cL_law 487 = .ok (.iaload, 1) := by decide +kernel
theorem dL_law_488 : decode cL_law 488 = .ok (.aload_n 0, 1) := by decide +kernel
theorem dL_law_489 : decode cL_law 489 = .ok (.iload_n 3, 1) := by decide +kernel
theorem dL_law_490 : decode cL_law 490 = .ok (.iconst 2, 1) := by decide +kernel
theorem dL_law_491 : decode cL_law 491 = .ok (.iadd, 1) := by decide +kernel
theorem dL_law_492 : decode cL_law 492 = .ok (.iaload, 1) := by decide +kernel
theorem dL_law_493 : decode cL_law 493 = .ok (.aload_n 0, 1) := by decide +kernel
theorem dL_law_494 : decode cL_law 494 = .ok (.iload_n 3, 1) := by decide +kernel
theorem dL_law_495 : decode cL_law 495 = .ok (.iconst 3, 1) := by decide +kernel
theorem dL_law_496 : decode cL_law 496 = .ok (.iadd, 1) := by decide +kernel
theorem dL_law_497 : decode cL_law 497 = .ok (.iaload, 1) := by decide +kernel
theorem dL_law_498 : decode cL_law 498 = .ok (.invokevirtual 73, 3) := by decide +kernel
theorem dL_law_501 : decode cL_law 501 = .ok (.aload_n 2, 1) := by decide +kernel
theorem dL_law_502 : decode cL_law 502 = .ok (.aload_n 0, 1) := by decide +kernel
theorem dL_law_503 : decode cL_law 503 = .ok (.iload_n 3, 1) := by decide +kernel
theorem dL_law_504 : decode cL_law 504 = .ok (.iconst 1, 1) := by decide +kernel
theorem dL_law_505 : decode cL_law 505 = .ok (.iadd, 1) := by decide +kernel
theorem dL_law_506 : decode cL_law 506 = .ok (.iaload, 1) := by decide +kernel
theorem dL_law_507 : decode cL_law 507 = .ok (.aload_n 0, 1) := by decide +kernel
theorem dL_law_508 : decode cL_law 508 = .ok (.iload_n 3, 1) := by decide +kernel
theorem dL_law_509 : decode cL_law 509 = .ok (.iconst 2, 1) := by decide +kernel
theorem dL_law_510 : decode cL_law 510 = .ok (.iadd, 1) := by decide +kernel
theorem dL_law_511 : decode cL_law 511 = .ok (.iaload, 1) := by decide +kernel
theorem dL_law_512 : decode cL_law 512 = .ok (.aload_n 0, 1) := by decide +kernel
theorem dL_law_513 : decode cL_law 513 = .ok (.iload_n 3, 1) := by decide +kernel
theorem dL_law_514 : decode cL_law 514 = .ok (.iconst 3, 1) := by decide +kernel
theorem dL_law_515 : decode cL_law 515 = .ok (.iadd, 1) := by decide +kernel
theorem dL_law_516 : decode cL_law 516 = .ok (.iaload, 1) := by decide +kernel
theorem dL_law_517 : decode cL_law 517 = .ok (.invokevirtual 76, 3) := by decide +kernel
theorem dL_law_520 : decode cL_law 520 = .ok (.if_icmp .eq 304, 3) := by decide +kernel
theorem dL_law_523 : decode cL_law 523 = .ok (.iconst 0, 1) := by decide +kernel
theorem dL_law_524 : decode cL_law 524 = .ok (.ireturn, 1) := by decide +kernel
theorem dL_law_525 : decode cL_law 525 = .ok (.aload_n 1, 1) := by decide +kernel
theorem dL_law_526 : decode cL_law 526 = .ok (.invokevirtual 77, 3) := by decide +kernel
theorem dL_law_529 : decode cL_law 529 = .ok (.aload_n 2, 1) := by decide +kernel
theorem dL_law_530 : decode cL_law 530 = .ok (.invokevirtual 80, 3) := by decide +kernel
theorem dL_law_533 : decode cL_law 533 = .ok (.if_icmp .eq 291, 3) := by decide +kernel
theorem dL_law_536 : decode cL_law 536 = .ok (.iconst 0, 1) := by decide +kernel
theorem dL_law_537 : decode cL_law 537 = .ok (.ireturn, 1) := by decide +kernel
theorem dL_law_538 : decode cL_law 538 = .ok (.aload_n 1, 1) := by decide +kernel
theorem dL_law_539 : decode cL_law 539 = .ok (.aload_n 0, 1) := by decide +kernel
theorem dL_law_540 : decode cL_law 540 = .ok (.iload_n 3, 1) := by decide +kernel
theorem dL_law_541 : decode cL_law 541 = .ok (.iconst 1, 1) := by decide +kernel
theorem dL_law_542 : decode cL_law 542 = .ok (.iadd, 1) := by decide +kernel
theorem dL_law_543 : decode cL_law 543 = .ok (.iaload, 1) := by decide +kernel
theorem dL_law_544 : decode cL_law 544 = .ok (.aload_n 0, 1) := by decide +kernel
theorem dL_law_545 : decode cL_law 545 = .ok (.iload_n 3, 1) := by decide +kernel
theorem dL_law_546 : decode cL_law 546 = .ok (.iconst 2, 1) := by decide +kernel
theorem dL_law_547 : decode cL_law 547 = .ok (.iadd, 1) := by decide +kernel
theorem dL_law_548 : decode cL_law 548 = .ok (.iaload, 1) := by decide +kernel
theorem dL_law_549 : decode cL_law 549 = .ok (.invokevirtual 81, 3) := by decide +kernel
theorem dL_law_552 : decode cL_law 552 = .ok (.aload_n 2, 1) := by decide +kernel
theorem dL_law_553 : decode cL_law 553 = .ok (.aload_n 0, 1) := by decide +kernel
theorem dL_law_554 : decode cL_law 554 = .ok (.iload_n 3, 1) := by decide +kernel
theorem dL_law_555 : decode cL_law 555 = .ok (.iconst 1, 1) := by decide +kernel
theorem dL_law_556 : decode cL_law 556 = .ok (.iadd, 1) := by decide +kernel
theorem dL_law_557 : decode cL_law 557 = .ok (.iaload, 1) := by decide +kernel
theorem dL_law_558 : decode cL_law 558 = .ok (.aload_n 0, 1) := by decide +kernel
theorem dL_law_559 : decode cL_law 559 = .ok (.iload_n 3, 1) := by decide +kernel
theorem dL_law_560 : decode cL_law 560 = .ok (.iconst 2, 1) := by decide +kernel
theorem dL_law_561 : decode cL_law 561 = .ok (.iadd, 1) := by decide +kernel
theorem dL_law_562 : decode cL_law 562 = .ok (.iaload, 1) := by decide +kernel
theorem dL_law_563 : decode cL_law 563 = .ok (.invokevirtual 84, 3) := by decide +kernel
theorem dL_law_566 : decode cL_law 566 = .ok (.if_icmp .eq 258, 3) := by decide +kernel
theorem dL_law_569 : decode cL_law 569 = .ok (.iconst 0, 1) := by decide +kernel
theorem dL_law_570 : decode cL_law 570 = .ok (.ireturn, 1) := by decide +kernel
theorem dL_law_571 : decode cL_law 571 = .ok (.aload_n 1, 1) := by decide +kernel
theorem dL_law_572 : decode cL_law 572 = .ok (.aload_n 0, 1) := by decide +kernel
theorem dL_law_573 : decode cL_law 573 = .ok (.iload_n 3, 1) := by decide +kernel
theorem dL_law_574 : decode cL_law 574 = .ok (.iconst 1, 1) := by decide +kernel
theorem dL_law_575 : decode cL_law 575 = .ok (.iadd, 1) := by decide +kernel
theorem dL_law_576 : decode cL_law 576 = .ok (.iaload, 1) := by decide +kernel
theorem dL_law_577 : decode cL_law 577 = .ok (.aload_n 0, 1) := by decide +kernel
theorem dL_law_578 : decode cL_law 578 = .ok (.iload_n 3, 1) := by decide +kernel
theorem dL_law_579 : decode cL_law 579 = .ok (.iconst 2, 1) := by decide +kernel
theorem dL_law_580 : decode cL_law 580 = .ok (.iadd, 1) := by decide +kernel
theorem dL_law_581 : decode cL_law 581 = .ok (.iaload, 1) := by decide +kernel
theorem dL_law_582 : decode cL_law 582 = .ok (.invokevirtual 85, 3) := by decide +kernel
theorem dL_law_585 : decode cL_law 585 = .ok (.aload_n 2, 1) := by decide +kernel
theorem dL_law_586 : decode cL_law 586 = .ok (.aload_n 0, 1) := by decide +kernel
theorem dL_law_587 : decode cL_law 587 = .ok (.iload_n 3, 1) := by decide +kernel
theorem dL_law_588 : decode cL_law 588 = .ok (.iconst 1, 1) := by decide +kernel
theorem dL_law_589 : decode cL_law 589 = .ok (.iadd, 1) := by decide +kernel
theorem dL_law_590 : decode cL_law 590 = .ok (.iaload, 1) := by decide +kernel
theorem dL_law_591 : decode cL_law 591 = .ok (.aload_n 0, 1) := by decide +kernel
theorem dL_law_592 : decode cL_law 592 = .ok (.iload_n 3, 1) := by decide +kernel
theorem dL_law_593 : decode cL_law 593 = .ok (.iconst 2, 1) := by decide +kernel
theorem dL_law_594 : decode cL_law 594 = .ok (.iadd, 1) := by decide +kernel
theorem dL_law_595 : decode cL_law 595 = .ok (.iaload, 1) := by decide +kernel
theorem dL_law_596 : decode cL_law 596 = .ok (.invokevirtual 88, 3) := by decide +kernel
theorem dL_law_599 : decode cL_law 599 = .ok (.if_icmp .eq 225, 3) := by decide +kernel
theorem dL_law_602 : decode cL_law 602 = .ok (.iconst 0, 1) := by decide +kernel
theorem dL_law_603 : decode cL_law 603 = .ok (.ireturn, 1) := by decide +kernel
theorem dL_law_604 : decode cL_law 604 = .ok (.aload_n 1, 1) := by decide +kernel
theorem dL_law_605 : decode cL_law 605 = .ok (.invokevirtual 89, 3) := by decide +kernel
theorem dL_law_608 : decode cL_law 608 = .ok (.aload_n 2, 1) := by decide +kernel
theorem dL_law_609 : decode cL_law 609 = .ok (.invokevirtual 92, 3) := by decide +kernel
theorem dL_law_612 : decode cL_law 612 = .ok (.if_icmp .eq 212, 3) := by decide +kernel
theorem dL_law_615 : decode cL_law 615 = .ok (.iconst 0, 1) := by decide +kernel
theorem dL_law_616 : decode cL_law 616 = .ok (.ireturn, 1) := by decide +kernel
theorem dL_law_617 : decode cL_law 617 = .ok (.aload_n 1, 1) := by decide +kernel
theorem dL_law_618 : decode cL_law 618 = .ok (.aload_n 0, 1) := by decide +kernel
theorem dL_law_619 : decode cL_law 619 = .ok (.iload_n 3, 1) := by decide +kernel
theorem dL_law_620 : decode cL_law 620 = .ok (.iconst 1, 1) := by decide +kernel
theorem dL_law_621 : decode cL_law 621 = .ok (.iadd, 1) := by decide +kernel
theorem dL_law_622 : decode cL_law 622 = .ok (.iaload, 1) := by decide +kernel
theorem dL_law_623 : decode cL_law 623 = .ok (.invokevirtual 93, 3) := by decide +kernel
theorem dL_law_626 : decode cL_law 626 = .ok (.aload_n 2, 1) := by decide +kernel
theorem dL_law_627 : decode cL_law 627 = .ok (.aload_n 0, 1) := by decide +kernel
theorem dL_law_628 : decode cL_law 628 = .ok (.iload_n 3, 1) := by decide +kernel
theorem dL_law_629 : decode cL_law 629 = .ok (.iconst 1, 1) := by decide +kernel
theorem dL_law_630 : decode cL_law 630 = .ok (.iadd, 1) := by decide +kernel
theorem dL_law_631 : decode cL_law 631 = .ok (.iaload, 1) := by decide +kernel
theorem dL_law_632 : decode cL_law 632 = .ok (.invokevirtual 96, 3) := by decide +kernel
theorem dL_law_635 : decode cL_law 635 = .ok (.if_icmp .eq 189, 3) := by decide +kernel
theorem dL_law_638 : decode cL_law 638 = .ok (.iconst 0, 1) := by decide +kernel
theorem dL_law_639 : decode cL_law 639 = .ok (.ireturn, 1) := by decide +kernel
theorem dL_law_640 : decode cL_law 640 = .ok (.aload_n 1, 1) := by decide +kernel
theorem dL_law_641 : decode cL_law 641 = .ok (.aload_n 0, 1) := by decide +kernel
theorem dL_law_642 : decode cL_law 642 = .ok (.iload_n 3, 1) := by decide +kernel
theorem dL_law_643 : decode cL_law 643 = .ok (.iconst 1, 1) := by decide +kernel
theorem dL_law_644 : decode cL_law 644 = .ok (.iadd, 1) := by decide +kernel
theorem dL_law_645 : decode cL_law 645 = .ok (.iaload, 1) := by decide +kernel
theorem dL_law_646 : decode cL_law 646 = .ok (.invokevirtual 97, 3) := by decide +kernel
theorem dL_law_649 : decode cL_law 649 = .ok (.aload_n 2, 1) := by decide +kernel
theorem dL_law_650 : decode cL_law 650 = .ok (.aload_n 0, 1) := by decide +kernel
theorem dL_law_651 : decode cL_law 651 = .ok (.iload_n 3, 1) := by decide +kernel
theorem dL_law_652 : decode cL_law 652 = .ok (.iconst 1, 1) := by decide +kernel
theorem dL_law_653 : decode cL_law 653 = .ok (.iadd, 1) := by decide +kernel
theorem dL_law_654 : decode cL_law 654 = .ok (.iaload, 1) := by decide +kernel
theorem dL_law_655 : decode cL_law 655 = .ok (.invokevirtual 100, 3) := by decide +kernel
theorem dL_law_658 : decode cL_law 658 = .ok (.if_icmp .eq 166, 3) := by decide +kernel
theorem dL_law_661 : decode cL_law 661 = .ok (.iconst 0, 1) := by decide +kernel
theorem dL_law_662 : decode cL_law 662 = .ok (.ireturn, 1) := by decide +kernel
theorem dL_law_663 : decode cL_law 663 = .ok (.aload_n 1, 1) := by decide +kernel
theorem dL_law_664 : decode cL_law 664 = .ok (.aload_n 0, 1) := by decide +kernel
theorem dL_law_665 : decode cL_law 665 = .ok (.iload_n 3, 1) := by decide +kernel
theorem dL_law_666 : decode cL_law 666 = .ok (.iconst 1, 1) := by decide +kernel
theorem dL_law_667 : decode cL_law 667 = .ok (.iadd, 1) := by decide +kernel
theorem dL_law_668 : decode cL_law 668 = .ok (.iaload, 1) := by decide +kernel
theorem dL_law_669 : decode cL_law 669 = .ok (.invokevirtual 101, 3) := by decide +kernel
theorem dL_law_672 : decode cL_law 672 = .ok (.aload_n 2, 1) := by decide +kernel
theorem dL_law_673 : decode cL_law 673 = .ok (.aload_n 0, 1) := by decide +kernel
theorem dL_law_674 : decode cL_law 674 = .ok (.iload_n 3, 1) := by decide +kernel
theorem dL_law_675 : decode cL_law 675 = .ok (.iconst 1, 1) := by decide +kernel
theorem dL_law_676 : decode cL_law 676 = .ok (.iadd, 1) := by decide +kernel
theorem dL_law_677 : decode cL_law 677 = .ok (.iaload, 1) := by decide +kernel
theorem dL_law_678 : decode cL_law 678 = .ok (.invokevirtual 104, 3) := by decide +kernel
theorem dL_law_681 : decode cL_law 681 = .ok (.if_icmp .eq 143, 3) := by decide +kernel
theorem dL_law_684 : decode cL_law 684 = .ok (.iconst 0, 1) := by decide +kernel
theorem dL_law_685 : decode cL_law 685 = .ok (.ireturn, 1) := by decide +kernel
theorem dL_law_686 : decode cL_law 686 = .ok (.aload_n 1, 1) := by decide +kernel
theorem dL_law_687 : decode cL_law 687 = .ok (.aload_n 0, 1) := by decide +kernel
theorem dL_law_688 : decode cL_law 688 = .ok (.iload_n 3, 1) := by decide +kernel
theorem dL_law_689 : decode cL_law 689 = .ok (.iconst 1, 1) := by decide +kernel
theorem dL_law_690 : decode cL_law 690 = .ok (.iadd, 1) := by decide +kernel
theorem dL_law_691 : decode cL_law 691 = .ok (.iaload, 1) := by decide +kernel
theorem dL_law_692 : decode cL_law 692 = .ok (.invokevirtual 105, 3) := by decide +kernel
theorem dL_law_695 : decode cL_law 695 = .ok (.aload_n 2, 1) := by decide +kernel
theorem dL_law_696 : decode cL_law 696 = .ok (.aload_n 0, 1) := by decide +kernel
theorem dL_law_697 : decode cL_law 697 = .ok (.iload_n 3, 1) := by decide +kernel
theorem dL_law_698 : decode cL_law 698 = .ok (.iconst 1, 1) := by decide +kernel
theorem dL_law_699 : decode cL_law 699 = .ok (.iadd, 1) := by decide +kernel
theorem dL_law_700 : decode cL_law 700 = .ok (.iaload, 1) := by decide +kernel
theorem dL_law_701 : decode cL_law 701 = .ok (.invokevirtual 108, 3) := by decide +kernel
theorem dL_law_704 : decode cL_law 704 = .ok (.if_icmp .eq 120, 3) := by decide +kernel
theorem dL_law_707 : decode cL_law 707 = .ok (.iconst 0, 1) := by decide +kernel
theorem dL_law_708 : decode cL_law 708 = .ok (.ireturn, 1) := by decide +kernel
theorem dL_law_709 : decode cL_law 709 = .ok (.aload_n 1, 1) := by decide +kernel
theorem dL_law_710 : decode cL_law 710 = .ok (.aload_n 0, 1) := by decide +kernel
theorem dL_law_711 : decode cL_law 711 = .ok (.iload_n 3, 1) := by decide +kernel
theorem dL_law_712 : decode cL_law 712 = .ok (.iconst 1, 1) := by decide +kernel
theorem dL_law_713 : decode cL_law 713 = .ok (.iadd, 1) := by decide +kernel
theorem dL_law_714 : decode cL_law 714 = .ok (.iaload, 1) := by decide +kernel
theorem dL_law_715 : decode cL_law 715 = .ok (.invokevirtual 109, 3) := by decide +kernel
theorem dL_law_718 : decode cL_law 718 = .ok (.aload_n 2, 1) := by decide +kernel
theorem dL_law_719 : decode cL_law 719 = .ok (.aload_n 0, 1) := by decide +kernel
theorem dL_law_720 : decode cL_law 720 = .ok (.iload_n 3, 1) := by decide +kernel
theorem dL_law_721 : decode cL_law 721 = .ok (.iconst 1, 1) := by decide +kernel
theorem dL_law_722 : decode cL_law 722 = .ok (.iadd, 1) := by decide +kernel
theorem dL_law_723 : decode cL_law 723 = .ok (.iaload, 1) := by decide +kernel
theorem dL_law_724 : decode cL_law 724 = .ok (.invokevirtual 112, 3) := by decide +kernel
theorem dL_law_727 : decode cL_law 727 = .ok (.if_icmp .eq 97, 3) := by decide +kernel
theorem dL_law_730 : decode cL_law 730 = .ok (.iconst 0, 1) := by decide +kernel
theorem dL_law_731 : decode cL_law 731 = .ok (.ireturn, 1) := by decide +kernel
theorem dL_law_732 : decode cL_law 732 = .ok (.aload_n 1, 1) := by decide +kernel
theorem dL_law_733 : decode cL_law 733 = .ok (.aload_n 0, 1) := by decide +kernel
theorem dL_law_734 : decode cL_law 734 = .ok (.iload_n 3, 1) := by decide +kernel
theorem dL_law_735 : decode cL_law 735 = .ok (.iconst 1, 1) := by decide +kernel
theorem dL_law_736 : decode cL_law 736 = .ok (.iadd, 1) := by decide +kernel
theorem dL_law_737 : decode cL_law 737 = .ok (.iaload, 1) := by decide +kernel
theorem dL_law_738 : decode cL_law 738 = .ok (.invokevirtual 113, 3) := by decide +kernel
theorem dL_law_741 : decode cL_law 741 = .ok (.aload_n 2, 1) := by decide +kernel
theorem dL_law_742 : decode cL_law 742 = .ok (.aload_n 0, 1) := by decide +kernel
theorem dL_law_743 : decode cL_law 743 = .ok (.iload_n 3, 1) := by decide +kernel
theorem dL_law_744 : decode cL_law 744 = .ok (.iconst 1, 1) := by decide +kernel
theorem dL_law_745 : decode cL_law 745 = .ok (.iadd, 1) := by decide +kernel
theorem dL_law_746 : decode cL_law 746 = .ok (.iaload, 1) := by decide +kernel
theorem dL_law_747 : decode cL_law 747 = .ok (.invokevirtual 116, 3) := by decide +kernel
theorem dL_law_750 : decode cL_law 750 = .ok (.if_icmp .eq 74, 3) := by decide +kernel
theorem dL_law_753 : decode cL_law 753 = .ok (.iconst 0, 1) := by decide +kernel
theorem dL_law_754 : decode cL_law 754 = .ok (.ireturn, 1) := by decide +kernel
theorem dL_law_755 : decode cL_law 755 = .ok (.aload_n 1, 1) := by decide +kernel
theorem dL_law_756 : decode cL_law 756 = .ok (.aload_n 0, 1) := by decide +kernel
theorem dL_law_757 : decode cL_law 757 = .ok (.iload_n 3, 1) := by decide +kernel
theorem dL_law_758 : decode cL_law 758 = .ok (.iconst 1, 1) := by decide +kernel
theorem dL_law_759 : decode cL_law 759 = .ok (.iadd, 1) := by decide +kernel
theorem dL_law_760 : decode cL_law 760 = .ok (.iaload, 1) := by decide +kernel
theorem dL_law_761 : decode cL_law 761 = .ok (.invokevirtual 117, 3) := by decide +kernel
theorem dL_law_764 : decode cL_law 764 = .ok (.aload_n 2, 1) := by decide +kernel
theorem dL_law_765 : decode cL_law 765 = .ok (.aload_n 0, 1) := by decide +kernel
theorem dL_law_766 : decode cL_law 766 = .ok (.iload_n 3, 1) := by decide +kernel
theorem dL_law_767 : decode cL_law 767 = .ok (.iconst 1, 1) := by decide +kernel
theorem dL_law_768 : decode cL_law 768 = .ok (.iadd, 1) := by decide +kernel
theorem dL_law_769 : decode cL_law 769 = .ok (.iaload, 1) := by decide +kernel
theorem dL_law_770 : decode cL_law 770 = .ok (.invokevirtual 120, 3) := by decide +kernel
theorem dL_law_773 : decode cL_law 773 = .ok (.if_icmp .eq 51, 3) := by decide +kernel
theorem dL_law_776 : decode cL_law 776 = .ok (.iconst 0, 1) := by decide +kernel
theorem dL_law_777 : decode cL_law 777 = .ok (.ireturn, 1) := by decide +kernel
theorem dL_law_778 : decode cL_law 778 = .ok (.aload_n 1, 1) := by decide +kernel
theorem dL_law_779 : decode cL_law 779 = .ok (.aload_n 0, 1) := by decide +kernel
theorem dL_law_780 : decode cL_law 780 = .ok (.iload_n 3, 1) := by decide +kernel
theorem dL_law_781 : decode cL_law 781 = .ok (.iconst 1, 1) := by decide +kernel
theorem dL_law_782 : decode cL_law 782 = .ok (.iadd, 1) := by decide +kernel
theorem dL_law_783 : decode cL_law 783 = .ok (.iaload, 1) := by decide +kernel
theorem dL_law_784 : decode cL_law 784 = .ok (.invokevirtual 121, 3) := by decide +kernel
theorem dL_law_787 : decode cL_law 787 = .ok (.aload_n 2, 1) := by decide +kernel
theorem dL_law_788 : decode cL_law 788 = .ok (.aload_n 0, 1) := by decide +kernel
theorem dL_law_789 : decode cL_law 789 = .ok (.iload_n 3, 1) := by decide +kernel
theorem dL_law_790 : decode cL_law 790 = .ok (.iconst 1, 1) := by decide +kernel
theorem dL_law_791 : decode cL_law 791 = .ok (.iadd, 1) := by decide +kernel
theorem dL_law_792 : decode cL_law 792 = .ok (.iaload, 1) := by decide +kernel
theorem dL_law_793 : decode cL_law 793 = .ok (.invokevirtual 124, 3) := by decide +kernel
theorem dL_law_796 : decode cL_law 796 = .ok (.if_icmp .eq 28, 3) := by decide +kernel
theorem dL_law_799 : decode cL_law 799 = .ok (.iconst 0, 1) := by decide +kernel
theorem dL_law_800 : decode cL_law 800 = .ok (.ireturn, 1) := by decide +kernel
theorem dL_law_801 : decode cL_law 801 = .ok (.aload_n 1, 1) := by decide +kernel
theorem dL_law_802 : decode cL_law 802 = .ok (.aload_n 0, 1) := by decide +kernel
theorem dL_law_803 : decode cL_law 803 = .ok (.iload_n 3, 1) := by decide +kernel
theorem dL_law_804 : decode cL_law 804 = .ok (.iconst 1, 1) := by decide +kernel
theorem dL_law_805 : decode cL_law 805 = .ok (.iadd, 1) := by decide +kernel
theorem dL_law_806 : decode cL_law 806 = .ok (.iaload, 1) := by decide +kernel
theorem dL_law_807 : decode cL_law 807 = .ok (.invokevirtual 125, 3) := by decide +kernel
theorem dL_law_810 : decode cL_law 810 = .ok (.aload_n 2, 1) := by decide +kernel
theorem dL_law_811 : decode cL_law 811 = .ok (.aload_n 0, 1) := by decide +kernel
theorem dL_law_812 : decode cL_law 812 = .ok (.iload_n 3, 1) := by decide +kernel
theorem dL_law_813 : decode cL_law 813 = .ok (.iconst 1, 1) := by decide +kernel
theorem dL_law_814 : decode cL_law 814 = .ok (.iadd, 1) := by decide +kernel
theorem dL_law_815 : decode cL_law 815 = .ok (.iaload, 1) := by decide +kernel
theorem dL_law_816 : decode cL_law 816 = .ok (.invokevirtual 128, 3) := by decide +kernel
theorem dL_law_819 : decode cL_law 819 = .ok (.if_icmp .eq 5, 3) := by decide +kernel
theorem dL_law_822 : decode cL_law 822 = .ok (.iconst 0, 1) := by decide +kernel
theorem dL_law_823 : decode cL_law 823 = .ok (.ireturn, 1) := by decide +kernel
theorem dL_law_824 : decode cL_law 824 = .ok (.iinc 3 4, 3) := by decide +kernel
theorem dL_law_827 : decode cL_law 827 = .ok (.goto (-809), 3) := by decide +kernel
theorem dL_law_830 : decode cL_law 830 = .ok (.iconst 1, 1) := by decide +kernel
theorem dL_law_831 : decode cL_law 831 = .ok (.ireturn, 1) := by decide +kernel
end
section
/-! THE ABSTRACT LAYER: ints as Int (wrapped), cells by number, memory as a function; AW: the machine at a pc with abstract locals, stack and memory comes to Q. -/
abbrev AV : Type := Int ⊕ Nat
abbrev Mem : Type := Nat → Int → Int
abbrev Sh : Type := (Nat × Nat) ⊕ (Nat × List (Option Nat))
abbrev EE : Type := Program × Launch × Env × Room × State × MethodId × Array Value × List Frame × Method × Code × (State → Prop) × (Nat → Nat) × (Nat → ClassId) × va_G
def inR (z : Int) : Prop := -2147483648 ≤ z ∧ z < 2147483648
def wrap (z : Int) : Int := (Int32.ofInt z).toInt
theorem wrap_eq (z : Int) : wrap z = (z + 2147483648) % 4294967296 - 2147483648 := by
  unfold wrap
  rw [Int32.toInt_ofInt]
  unfold Int.bmod
  have h : ((Int32.size : Nat) : Int) = 4294967296 := by decide
  rw [h]
  dsimp only; split <;> omega
theorem wrap_inR (z : Int) : inR (wrap z) := by rw [wrap_eq]; unfold inR; omega
theorem wrap_id {z : Int} (h : inR z) : wrap z = z := by rw [wrap_eq]; unfold inR at h; omega
theorem ofInt_wrap (z : Int) : Int32.ofInt (wrap z) = Int32.ofInt z := by unfold wrap; exact Int32.ofInt_toInt _
theorem tio {z : Int} (h : inR z) : (Int32.ofInt z).toInt = z := wrap_id h
theorem of_add (x y : Int) : Int32.ofInt x + Int32.ofInt y = Int32.ofInt (wrap (x + y)) := by rw [ofInt_wrap, Int32.ofInt_add]
theorem of_sub (x y : Int) : Int32.ofInt x - Int32.ofInt y = Int32.ofInt (wrap (x - y)) := by rw [ofInt_wrap, Int32.ofInt_sub]
theorem of_mul (x y : Int) : Int32.ofInt x * Int32.ofInt y = Int32.ofInt (wrap (x * y)) := by rw [ofInt_wrap, Int32.ofInt_mul]
theorem of_lt {x y : Int} (hx : inR x) (hy : inR y) : Int32.ofInt x < Int32.ofInt y ↔ x < y := by rw [Int32.lt_iff_toInt_lt, tio hx, tio hy]
theorem of_le {x y : Int} (hx : inR x) (hy : inR y) : Int32.ofInt x ≤ Int32.ofInt y ↔ x ≤ y := by rw [Int32.le_iff_toInt_le, tio hx, tio hy]
theorem of_eq {x y : Int} (hx : inR x) (hy : inR y) : Int32.ofInt x = Int32.ofInt y ↔ x = y := by
  constructor
  · intro h
    have := congrArg Int32.toInt h
    rwa [tio hx, tio hy] at this
  · intro h; rw [h]
theorem of_clamp {z : Int} (h : inR z) : (Int32.ofInt z).toNatClampNeg = z.toNat := by
  show (Int32.ofInt z).toInt.toNat = z.toNat
  rw [tio h]
def inb (i : Int) (n : Nat) : Prop := 0 ≤ i ∧ i < n
theorem vp_in_of_inb {i : Int} {n : Nat} (hr : inR i) (h : inb i n) : vp_in (Int32.ofInt i) n := by
  rw [vp_in_iff, tio hr]; exact h
def mu (M : Mem) (c : Nat) (i v : Int) : Mem := fun d j => if d = c ∧ j = i then v else M d j
def rM (M : Mem) : Prop := ∀ c i, inR (M c i)
def rV : AV → Prop
  | .inl z => inR z
  | .inr _ => True
def rS (st : List AV) : Prop := ∀ v ∈ st, rV v
def rL (lv : List (Option AV)) : Prop := ∀ v, some v ∈ lv → rV v
theorem rM_mu {M : Mem} {c : Nat} {i v : Int} (h : rM M) (hv : inR v) : rM (mu M c i v) := by
  intro d j; unfold mu; split
  · exact hv
  · exact h d j
def cv (ad : Nat → Nat) : AV → Value
  | .inl z => .int (Int32.ofInt z)
  | .inr c => .ref (ad c)
theorem cv_cat (ad : Nat → Nat) (v : AV) : (cv ad v).category = 1 := by cases v <;> rfl
def sF (ad : Nat → Nat) (M : Mem) (c : Nat) (j : Nat) : Option Nat → Value
  | none => .int (Int32.ofInt (M c j))
  | some d => .ref (ad d)
def sE (ad : Nat → Nat) (cA : Nat → ClassId) (M : Mem) (c : Nat) : Sh → va_E
  | .inl (t, n) => .inl (cA t, n, .inl (fun i => Int32.ofInt (M c i)))
  | .inr (ci, fs) => .inr (ci, fs.mapIdx (sF ad M c))
def sW (sh : List Sh) (ad : Nat → Nat) (cA : Nat → ClassId) (M : Mem) : va_W := sh.mapIdx (fun c s => (ad c, sE ad cA M c s))
theorem sW_at {sh : List Sh} {ad : Nat → Nat} {cA : Nat → ClassId} {M : Mem} {c : Nat} {x : Sh} (h : sh[c]? = some x) : (sW sh ad cA M)[c]? = some (ad c, sE ad cA M c x) := by
  unfold sW; rw [List.getElem?_mapIdx, h]; rfl
theorem sW_inv {sh : List Sh} {ad : Nat → Nat} {cA : Nat → ClassId} {M : Mem} {k : Nat} {q : Nat × va_E} (h : (sW sh ad cA M)[k]? = some q) : ∃ x, sh[k]? = some x ∧ q = (ad k, sE ad cA M k x) := by
  unfold sW at h; rw [List.getElem?_mapIdx] at h
  cases hx : sh[k]? with
  | none => rw [hx] at h; cases h
  | some x => rw [hx] at h; exact ⟨x, rfl, (Option.some.inj h).symm⟩
def Ap (sh : List Sh) (ad : Nat → Nat) : Prop := ∀ i j, i < sh.length → j < sh.length → ad i = ad j → i = j
def aS (sh : List Sh) (ad : Nat → Nat) : Nat → Prop := fun q => ∃ k, k < sh.length ∧ q = ad k
theorem sW_D {sh : List Sh} {ad : Nat → Nat} {cA : Nat → ClassId} {M : Mem} (h : Ap sh ad) : va_D (aS sh ad) (sW sh ad cA M) := by
  refine ⟨fun i j p q hi hj e => ?_, fun k q hk => ?_⟩
  · obtain ⟨x, h1, rfl⟩ := sW_inv hi
    obtain ⟨y, h2, rfl⟩ := sW_inv hj
    exact h i j (List.getElem?_eq_some_iff.mp h1).1 (List.getElem?_eq_some_iff.mp h2).1 e
  · obtain ⟨x, h1, rfl⟩ := sW_inv hk
    exact ⟨k, (List.getElem?_eq_some_iff.mp h1).1, rfl⟩
theorem sE_off {ad : Nat → Nat} {cA : Nat → ClassId} {M : Mem} {c d : Nat} {i v : Int} {x : Sh} (h : d ≠ c) : sE ad cA (mu M c i v) d x = sE ad cA M d x := by
  have hm : ∀ j, mu M c i v d j = M d j := fun j => by unfold mu; rw [if_neg (fun q => h q.1)]
  rcases x with ⟨t, n⟩ | ⟨ci, fs⟩
  · show Sum.inl _ = Sum.inl _
    simp only [hm]
  · show Sum.inr _ = Sum.inr _
    have : sF ad (mu M c i v) d = sF ad M d := by funext j o; cases o <;> simp [sF, hm]
    rw [this]
/-- an array's store -/
theorem sW_arr {sh : List Sh} {ad : Nat → Nat} {cA : Nat → ClassId} {M : Mem} {c t n : Nat} {i v : Int} (h : sh[c]? = some (.inl (t, n))) (hi : 0 ≤ i) :
    (sW sh ad cA M).set c (ad c, .inl (cA t, n, .inl (upd (fun i => Int32.ofInt (M c i)) i.toNat (Int32.ofInt v)))) = sW sh ad cA (mu M c i v) := by
  apply List.ext_getElem?
  intro k
  have hl : c < (sW sh ad cA M).length := by unfold sW; rw [List.length_mapIdx]; exact (List.getElem?_eq_some_iff.mp h).1
  by_cases hk : k = c
  · subst hk
    rw [List.getElem?_set_self hl, sW_at h]
    refine congrArg some (congrArg (Prod.mk (ad k)) ?_)
    show Sum.inl _ = Sum.inl _
    refine congrArg Sum.inl (congrArg (Prod.mk (cA t)) (congrArg (Prod.mk n) (congrArg Sum.inl ?_)))
    funext j
    by_cases hj : j = i.toNat
    · subst hj
      rw [pk_us]
      have : ((i.toNat : Nat) : Int) = i := Int.toNat_of_nonneg hi
      rw [this]; unfold mu; rw [if_pos ⟨rfl, rfl⟩]
    · rw [pk_un hj]; unfold mu; rw [if_neg (fun q => hj (by omega))]
  · rw [List.getElem?_set_ne (Ne.symm hk)]
    cases hx : sh[k]? with
    | none => unfold sW; rw [List.getElem?_mapIdx, List.getElem?_mapIdx, hx]; rfl
    | some x => rw [sW_at hx, sW_at hx, sE_off hk]
/-- a field's store -/
theorem sW_fld {sh : List Sh} {ad : Nat → Nat} {cA : Nat → ClassId} {M : Mem} {c ci k0 : Nat} {fs : List (Option Nat)} {v : Int} (h : sh[c]? = some (.inr (ci, fs))) (hk0 : fs[k0]? = some none) :
    (sW sh ad cA M).set c (ad c, .inr (ci, (fs.mapIdx (sF ad M c)).set k0 (.int (Int32.ofInt v)))) = sW sh ad cA (mu M c k0 v) := by
  apply List.ext_getElem?
  intro k
  have hl : c < (sW sh ad cA M).length := by unfold sW; rw [List.length_mapIdx]; exact (List.getElem?_eq_some_iff.mp h).1
  by_cases hk : k = c
  · subst hk
    rw [List.getElem?_set_self hl, sW_at h]
    refine congrArg some (congrArg (Prod.mk (ad k)) ?_)
    show Sum.inr _ = Sum.inr _
    refine congrArg Sum.inr (congrArg (Prod.mk ci) ?_)
    apply List.ext_getElem?
    intro j
    have hl2 : k0 < (fs.mapIdx (sF ad M k)).length := by rw [List.length_mapIdx]; exact (List.getElem?_eq_some_iff.mp hk0).1
    by_cases hj : j = k0
    · subst hj
      rw [List.getElem?_set_self hl2, List.getElem?_mapIdx, hk0]
      show some _ = some (sF ad _ k j none)
      unfold sF mu; rw [if_pos ⟨rfl, rfl⟩]
    · rw [List.getElem?_set_ne (Ne.symm hj), List.getElem?_mapIdx, List.getElem?_mapIdx]
      cases fs[j]? with
      | none => rfl
      | some o =>
        show some _ = some _
        cases o with
        | none => unfold sF mu; rw [if_neg (fun q => hj (by omega))]
        | some d => rfl
  · rw [List.getElem?_set_ne (Ne.symm hk)]
    cases hx : sh[k]? with
    | none => unfold sW; rw [List.getElem?_mapIdx, List.getElem?_mapIdx, hx]; rfl
    | some x => rw [sW_at hx, sW_at hx, sE_off hk]
/-! locals -/
def lvl (ad : Nat → Nat) : Nat → List (Option AV) → List (Nat × Value)
  | _, [] => []
  | n, none :: t => lvl ad (n + 1) t
  | n, some v :: t => (n, cv ad v) :: lvl ad (n + 1) t
theorem lvl_mem {ad : Nat → Nat} {q : Nat × Value} : ∀ (lv : List (Option AV)) (n : Nat), q ∈ lvl ad n lv ↔ ∃ (j : Nat) (w : AV), q = (n + j, cv ad w) ∧ lv[j]? = some (some w) := by
  intro lv
  induction lv with
  | nil => intro n; simp [lvl]
  | cons o t ih =>
    intro n
    have step : (∃ (j : Nat) (w : AV), q = (n + 1 + j, cv ad w) ∧ t[j]? = some (some w)) ↔ ∃ (j : Nat) (w : AV), q = (n + (j + 1), cv ad w) ∧ (o :: t)[j + 1]? = some (some w) := by
      constructor
      · rintro ⟨j, w, h1, h2⟩; exact ⟨j, w, by rw [h1]; congr 1; omega, by simpa using h2⟩
      · rintro ⟨j, w, h1, h2⟩; exact ⟨j, w, by rw [h1]; congr 1; omega, by simpa using h2⟩
    cases o with
    | none =>
      show q ∈ lvl ad (n + 1) t ↔ _
      rw [ih (n + 1), step]
      constructor
      · rintro ⟨j, w, h⟩; exact ⟨j + 1, w, h⟩
      · rintro ⟨j, w, h1, h2⟩
        cases j with
        | zero => simp at h2
        | succ j => exact ⟨j, w, h1, h2⟩
    | some v =>
      show q ∈ (n, cv ad v) :: lvl ad (n + 1) t ↔ _
      rw [List.mem_cons, ih (n + 1), step]
      constructor
      · rintro (h | ⟨j, w, h⟩)
        · exact ⟨0, v, h, rfl⟩
        · exact ⟨j + 1, w, h⟩
      · rintro ⟨j, w, h1, h2⟩
        cases j with
        | zero =>
          have hw : v = w := by simpa using h2
          subst hw
          exact Or.inl h1
        | succ j => exact Or.inr ⟨j, w, h1, h2⟩
def LH (ad : Nat → Nat) (ls : Array Slot) (nL : Nat) (lv : List (Option AV)) : Prop := lv_has ls nL (lvl ad 0 lv)
theorem LH.at {ad : Nat → Nat} {ls : Array Slot} {nL : Nat} {lv : List (Option AV)} (h : LH ad ls nL lv) {k : Nat} {v : AV} (hk : lv[k]? = some (some v)) : ls[k]? = some (.val (cv ad v)) :=
  h.2.2 (k, cv ad v) ((lvl_mem lv 0).mpr ⟨k, v, by rw [Nat.zero_add], hk⟩)
theorem LH.put {ad : Nat → Nat} {ls : Array Slot} {nL k : Nat} {lv : List (Option AV)} {v : AV} (h : lv_has ls nL ((k, cv ad v) :: (lvl ad 0 lv).filter (fun q => !(q.1 == k) && !(q.1 + 1 == k && q.2.category == 2)))) : LH ad ls nL (lv.set k (some v)) := by
  refine ⟨h.1, h.2.1, fun q hq => ?_⟩
  obtain ⟨j, w, rfl, hj⟩ := (lvl_mem _ 0).mp hq
  rw [Nat.zero_add]
  by_cases hjk : j = k
  · subst hjk
    have hl : j < lv.length := by
      have := (List.getElem?_eq_some_iff.mp hj).1
      simpa using this
    rw [List.getElem?_set_self hl] at hj
    cases hj
    exact h.2.2 _ List.mem_cons_self
  · rw [List.getElem?_set_ne (Ne.symm hjk)] at hj
    refine h.2.2 (j, cv ad w) (List.mem_cons_of_mem _ (List.mem_filter.mpr ⟨(lvl_mem lv 0).mpr ⟨j, w, by rw [Nat.zero_add], hj⟩, ?_⟩))
    have hc : (cv ad w).category = 1 := cv_cat ad w
    simp [hjk, hc]
theorem rL_set {lv : List (Option AV)} {k : Nat} {v : AV} (h : rL lv) (hv : rV v) : rL (lv.set k (some v)) := by
  intro w hw
  rcases List.mem_or_eq_of_mem_set hw with h1 | h1
  · exact h w h1
  · cases h1; exact hv
theorem rL_at {lv : List (Option AV)} {k : Nat} {v : AV} (h : rL lv) (hk : lv[k]? = some (some v)) : rV v := h v (List.mem_of_getElem? hk)
theorem rS_cons {v : AV} {st : List AV} : rS (v :: st) ↔ rV v ∧ rS st := by
  constructor
  · intro h; exact ⟨h v List.mem_cons_self, fun w hw => h w (List.mem_cons_of_mem _ hw)⟩
  · rintro ⟨h1, h2⟩ w hw
    rcases List.mem_cons.mp hw with rfl | hw
    · exact h1
    · exact h2 w hw
end
section
/-! the words that all contracts share; what is read only; contracts; rows of the abstract layer -/
def gT : List Cond := lw_tbl.filter goodWord
theorem gI {w : Cond} (i : Nat) (h : lw_tbl[i]? = some w) (g : goodWord w = true) : w ∈ gT := List.mem_filter.mpr ⟨List.mem_of_getElem? h, g⟩
theorem gT_good {w : Cond} (h : w ∈ gT) : (w.onTables && w.keeps) = true ∨ ∃ ty, w = .arrayClass ty := good_of_word (List.mem_filter.mp h).2
def tkL : List Int := [0, 2, 2, 2, 1, 2, 1, 2, 3, 0, 1, 0, 1, 1, 0]
def cmL : List Int := [1, 1, 1, 1, 2, 2, 0, 3, 3, 1, 0, 0, 0, 0, 0]
def dgL : List Int := [2, 0, 0, 0, 0, 0, 0, 0, 0, 1, 1, 2, 2, 0, 0]
def fpL : List Int := [110, 48, 53, 115, 48, 103, 48, 98, 49, 53, 103, 48, 110, 48, 51, 42, 100, 119, 112, 103, 48, 110, 48, 49, 45, 115, 48, 106, 48, 50, 104]
def sgL : List Int := [110, 43, 45, 42, 100, 120, 112, 111, 114, 103, 115, 106, 98, 119, 104]
/-- read-only rows by the number of their cell -/
def roL (c : Nat) : List Int := if c = 100 then tkL else if c = 101 then cmL else if c = 102 then dgL else if c = 110 then fpL else sgL
def roV (c : Nat) (i : Int) : Int := (roL c).getD i.toNat 0
def roN (c : Nat) : String := if c = 100 then "TAKES" else if c = 101 then "COMES" else "DIGITS"
def isRo (c : Nat) : Prop := c = 100 ∨ c = 101 ∨ c = 102
def tmS (i : Nat) : Term := if i = 0 then .string "StackStates" 65 else .string "StackStates" 121
def lenS : List Nat := [31, 15]
def bytS : List (List Int32) := [fpL.map Int32.ofInt, sgL.map Int32.ofInt]
def RO (ad : Nat → Nat) (A : Nat → Prop) (U : State) (H : Heap) : Prop :=
  (∀ c, isRo c → va_Z "StackStates" (roN c) "[I" (.ref (ad c)) A U H ∧ va_T .int (ad c) 15 (fun j => .int (Int32.ofInt (roV c j))) A U H) ∧
  vk_S 2 lenS bytS (fun i => ad (110 + i)) (fun i => ad (120 + i)) A U H ∧
  (vk_R "StackStates" 65 "n05s0g0b15g0n03*dwpg0n01-s0j02h" (ad 110) U ∧ vk_R "StackStates" 121 "n+-*dxporgsjbwh" (ad 111) U ∧ vk_R "StackStates$Program" 68 "n+-*dxporgsjbwh" (ad 111) U) ∧
  (va_Nw (.fieldLinkNest "StackStates$Machine" 91 "StackStates" "TAKES" "[I" "StackStates") U ∧ va_Nw (.fieldLinkNest "StackStates$Machine" 94 "StackStates" "COMES" "[I" "StackStates") U ∧
   va_Nw (.fieldLinkNest "StackStates$Program" 97 "StackStates" "TAKES" "[I" "StackStates") U ∧ va_Nw (.fieldLinkNest "StackStates$Program" 100 "StackStates" "COMES" "[I" "StackStates") U ∧ va_Nw (.fieldLinkNest "StackStates$Program" 57 "StackStates" "DIGITS" "[I" "StackStates") U)
theorem RO.same {ad : Nat → Nat} {A : Nat → Prop} {u U : State} {H : Heap} (hv : U.vm = u.vm) (h : RO ad A u H) : RO ad A U H := by
  have ha : u.vm.Alike U.vm := hv ▸ Vm.Alike.refl u.vm
  obtain ⟨h1, h2, ⟨h3, h4, h5⟩, h6, h7, h8, h9, h10⟩ := h
  exact ⟨fun c hc => ⟨(h1 c hc).1.moved ha, (h1 c hc).2.moved ha⟩, h2.moved ha, ⟨h3.same hv, h4.same hv, h5.same hv⟩, va_Nw.same rfl hv.symm h6, va_Nw.same rfl hv.symm h7, va_Nw.same rfl hv.symm h8, va_Nw.same rfl hv.symm h9, va_Nw.same rfl hv.symm h10⟩
theorem RO.warm {ad : Nat → Nat} {A : Nat → Prop} {s U : State} {H : Heap} (hW : s.WarmedH U.vm) (h : RO ad A s H) : RO ad A U H := by
  have ha : s.vm.Alike U.vm := hW.alike
  obtain ⟨h1, h2, ⟨h3, h4, h5⟩, h6, h7, h8, h9, h10⟩ := h
  exact ⟨fun c hc => ⟨(h1 c hc).1.moved ha, (h1 c hc).2.moved ha⟩, h2.moved ha, ⟨h3.warm hW, h4.warm hW, h5.warm hW⟩, va_Nw.warmF hW h6, va_Nw.warmF hW h7, va_Nw.warmF hW h8, va_Nw.warmF hW h9, va_Nw.warmF hW h10⟩
theorem RO.kept {ad : Nat → Nat} {A : Nat → Prop} {U : State} {H H1 : Heap} (h : RO ad A U H) (hq : ∀ a : Nat, a < H.size → ¬ A a → H1[a]? = H[a]?) : RO ad A U H1 :=
  ⟨fun c hc => ⟨(h.1 c hc).1.kept hq, (h.1 c hc).2.kept hq⟩, h.2.1.kept hq, h.2.2⟩
theorem RO.narrow {ad : Nat → Nat} {A B : Nat → Prop} {U : State} {H : Heap} (h : RO ad A U H) (hAB : ∀ q, B q → A q) : RO ad B U H :=
  ⟨fun c hc => ⟨(h.1 c hc).1.narrow hAB, (h.1 c hc).2.narrow hAB⟩, h.2.1.narrow hAB, h.2.2⟩
def tyS (cA : Nat → ClassId) : List (ClassId × FieldType) := [(cA 0, .int), (cA 1, .boolean)]
def retV (ret : Option FieldType) (r : Int) : Option Value := match ret with
  | none => none
  | some _ => some (.int (Int32.ofInt r))
def retA (ret : Option FieldType) (r : Int) : List AV := match ret with
  | none => []
  | some _ => [.inl r]
/-- a method's start: the cells of sh hold M -/
def PX (sh : List Sh) (D : va_G) (ad : Nat → Nat) (cA : Nat → ClassId) (as : List AV) (M : Mem) : Array Value → State → Prop :=
  va_Pc (as.map (cv ad)) (fun U => va_P D vwCl (sW sh ad cA M) U.heap ∧ va_K D vwCl (tyS cA) U ∧ Ap sh ad ∧ RO ad (aS sh ad) U U.heap)
/-- a method's end -/
def QX (sh : List Sh) (D : va_G) (ad : Nat → Nat) (cA : Nat → ClassId) (ret : Option FieldType) (R' : Int → Mem → Prop) : Array Value → State → Outcome → State → Prop :=
  fun _ st oc t => ∃ (r : Int) (M' : Mem), oc = .returned (retV ret r) ∧ R' r M' ∧ inR r ∧ rM M' ∧ va_P D vwCl (sW sh ad cA M') t.heap ∧ va_F (aS sh ad) st t
/-- a contract: F is what the method does -/
def Snd (sh : List Sh) (y : MethodName) (bytes : ByteArray) (maxL : Nat) (ret : Option FieldType) (fr lo : Nat) (as : List AV) (F : Mem → (Int → Mem → Prop) → Prop) : Prop :=
  ∀ (l : Launch) (D : va_G) (ad : Nat → Nat) (cA : Nat → ClassId) (M : Mem) (R' : Int → Mem → Prop), F M R' → rM M → rS as →
    Met l y (.code y bytes maxL ret :: gT) { frames := fr, cells := 0, slots := 0, locals := lo } (PX sh D ad cA as M) (QX sh D ad cA ret R') 0 0 (aS sh ad)
def Cx (sh : List Sh) (nL : Nat) (cc : ByteArray) (own : String) (fr lo : Nat) (E : EE) : Prop := match E with
  | (p, _, _, R, s, m, args, _, meth, c, _, ad, cA, D) => p.tables.exec = Jvm.exec ∧ c.code = cc ∧ c.maxLocals = nL ∧ s.vm.findClass own = some m.cls ∧ (∀ w ∈ gT, w.before args s = true) ∧ va_K D vwCl (tyS cA) s ∧ Ap sh ad ∧ RO ad (aS sh ad) s s.heap ∧ meth.locks = false ∧ R = { frames := fr, cells := 0, slots := 0, locals := lo }
def Rx (sh : List Sh) (ret : Option FieldType) (R' : Int → Mem → Prop) (E : EE) : Prop := match E with
  | (_, _, _, _, s, _, args, below, meth, _, Q, ad, cA, D) => meth.sig.returnType = ret ∧ Q = MQ below (QX sh D ad cA ret R') args s 0 0 (aS sh ad)
def AW (sh : List Sh) (nL : Nat) (E : EE) (pc : Nat) (lv : List (Option AV)) (st : List AV) (M : Mem) : Prop := match E with
  | (p, l, e, R, s, m, args, below, meth, c, Q, ad, cA, D) => ∀ (H : Heap) (locs : List Loc) (ls : Array Slot), va_P D vwCl (sW sh ad cA M) H → va_S (aS sh ad) s.heap H locs → LH ad ls nL lv → rM M → rL lv → rS st →
      W p l e R s m args below meth c H locs 0 0 Q (F0 m pc ls (st.map (cv ad)))
section Rows
variable {sh : List Sh} {nL : Nat} {cc : ByteArray} {own : String} {fr lo : Nat} {E : EE} {pc : Nat} {lv : List (Option AV)} {st : List AV} {M : Mem}
theorem a_iconst (C : Cx sh nL cc own fr lo E) {n : Int} (hd : decode cc pc = .ok (.iconst n, 1)) (hn : inR n) (k : AW sh nL E (pc + 1) lv (.inl n :: st) M) : AW sh nL E pc lv st M := by
  obtain ⟨p, l, e, R, s, m, args, below, meth, c, Q, ad, cA, D⟩ := E
  obtain ⟨hx, hb, -⟩ := C
  intro H locs ls hP hS hL h1 h2 h3
  exact lv_iconst hx hb hd rfl (k H locs ls hP hS hL h1 h2 (rS_cons.mpr ⟨hn, h3⟩))
theorem a_bipush (C : Cx sh nL cc own fr lo E) {n : Int} (hd : decode cc pc = .ok (.bipush n, 2)) (hn : (Int8.ofInt n).toInt32 = Int32.ofInt n ∧ inR n) (k : AW sh nL E (pc + 2) lv (.inl n :: st) M) : AW sh nL E pc lv st M := by
  obtain ⟨p, l, e, R, s, m, args, below, meth, c, Q, ad, cA, D⟩ := E
  obtain ⟨hx, hb, -⟩ := C
  intro H locs ls hP hS hL h1 h2 h3
  exact lv_bipush hx hb hd hn.1 (k H locs ls hP hS hL h1 h2 (rS_cons.mpr ⟨hn.2, h3⟩))
theorem a_sipush (C : Cx sh nL cc own fr lo E) {n : Int} (hd : decode cc pc = .ok (.sipush n, 3)) (hn : (Int16.ofInt n).toInt32 = Int32.ofInt n ∧ inR n) (k : AW sh nL E (pc + 3) lv (.inl n :: st) M) : AW sh nL E pc lv st M := by
  obtain ⟨p, l, e, R, s, m, args, below, meth, c, Q, ad, cA, D⟩ := E
  obtain ⟨hx, hb, -⟩ := C
  intro H locs ls hP hS hL h1 h2 h3
  exact lv_sipush hx hb hd hn.1 (k H locs ls hP hS hL h1 h2 (rS_cons.mpr ⟨hn.2, h3⟩))
theorem a_ldc (C : Cx sh nL cc own fr lo E) {n : Int} {i : Nat} (hd : decode cc pc = .ok (.ldc i, 2)) (hw : Cond.constant own i (Int32.ofInt n) ∈ gT) (hn : inR n) (k : AW sh nL E (pc + 2) lv (.inl n :: st) M) : AW sh nL E pc lv st M := by
  obtain ⟨p, l, e, R, s, m, args, below, meth, c, Q, ad, cA, D⟩ := E
  obtain ⟨hx, hb, -, ho, ht, -⟩ := C
  intro H locs ls hP hS hL h1 h2 h3
  exact lv_ldc hx hb ho (ht _ hw) hd (k H locs ls hP hS hL h1 h2 (rS_cons.mpr ⟨hn, h3⟩))
theorem a_ldcw (C : Cx sh nL cc own fr lo E) {n : Int} {i : Nat} (hd : decode cc pc = .ok (.ldc_w i, 3)) (hw : Cond.constant own i (Int32.ofInt n) ∈ gT) (hn : inR n) (k : AW sh nL E (pc + 3) lv (.inl n :: st) M) : AW sh nL E pc lv st M := by
  obtain ⟨p, l, e, R, s, m, args, below, meth, c, Q, ad, cA, D⟩ := E
  obtain ⟨hx, hb, -, ho, ht, -⟩ := C
  intro H locs ls hP hS hL h1 h2 h3
  exact lv_ldcw hx hb ho (ht _ hw) hd (k H locs ls hP hS hL h1 h2 (rS_cons.mpr ⟨hn, h3⟩))
theorem a_iloadn (C : Cx sh nL cc own fr lo E) {k : Fin 4} {x : Int} (hd : decode cc pc = .ok (.iload_n k, 1)) (hl : lv[(k : Nat)]? = some (some (.inl x))) (kk : AW sh nL E (pc + 1) lv (.inl x :: st) M) : AW sh nL E pc lv st M := by
  obtain ⟨p, l, e, R, s, m, args, below, meth, c, Q, ad, cA, D⟩ := E
  obtain ⟨hx, hb, -⟩ := C
  intro H locs ls hP hS hL h1 h2 h3
  exact lv_iload_n hx hb hd rfl (hL.at hl) (kk H locs ls hP hS hL h1 h2 (rS_cons.mpr ⟨rL_at h2 hl, h3⟩))
theorem a_iload (C : Cx sh nL cc own fr lo E) {k : Nat} {x : Int} (hd : decode cc pc = .ok (.iload k, 2)) (hl : lv[k]? = some (some (.inl x))) (kk : AW sh nL E (pc + 2) lv (.inl x :: st) M) : AW sh nL E pc lv st M := by
  obtain ⟨p, l, e, R, s, m, args, below, meth, c, Q, ad, cA, D⟩ := E
  obtain ⟨hx, hb, -⟩ := C
  intro H locs ls hP hS hL h1 h2 h3
  exact lv_iload hx hb hd (hL.at hl) (kk H locs ls hP hS hL h1 h2 (rS_cons.mpr ⟨rL_at h2 hl, h3⟩))
theorem a_aloadn (C : Cx sh nL cc own fr lo E) {k : Fin 4} {x : Nat} (hd : decode cc pc = .ok (.aload_n k, 1)) (hl : lv[(k : Nat)]? = some (some (.inr x))) (kk : AW sh nL E (pc + 1) lv (.inr x :: st) M) : AW sh nL E pc lv st M := by
  obtain ⟨p, l, e, R, s, m, args, below, meth, c, Q, ad, cA, D⟩ := E
  obtain ⟨hx, hb, -⟩ := C
  intro H locs ls hP hS hL h1 h2 h3
  exact lv_aload_n hx hb hd rfl (hL.at hl) (kk H locs ls hP hS hL h1 h2 (rS_cons.mpr ⟨trivial, h3⟩))
theorem a_aload (C : Cx sh nL cc own fr lo E) {k : Nat} {x : Nat} (hd : decode cc pc = .ok (.aload k, 2)) (hl : lv[k]? = some (some (.inr x))) (kk : AW sh nL E (pc + 2) lv (.inr x :: st) M) : AW sh nL E pc lv st M := by
  obtain ⟨p, l, e, R, s, m, args, below, meth, c, Q, ad, cA, D⟩ := E
  obtain ⟨hx, hb, -⟩ := C
  intro H locs ls hP hS hL h1 h2 h3
  exact lv_aload hx hb hd (hL.at hl) (kk H locs ls hP hS hL h1 h2 (rS_cons.mpr ⟨trivial, h3⟩))
theorem a_istoren (C : Cx sh nL cc own fr lo E) {k : Fin 4} {x : Int} (hd : decode cc pc = .ok (.istore_n k, 1)) (hk : (k : Nat) < nL) {lv2 : List (Option AV)} (h2l : lv.set k (some (.inl x)) = lv2) (kk : AW sh nL E (pc + 1) lv2 st M) : AW sh nL E pc lv (.inl x :: st) M := by
  obtain ⟨p, l, e, R, s, m, args, below, meth, c, Q, ad, cA, D⟩ := E
  subst h2l
  obtain ⟨hx, hb, -⟩ := C
  intro H locs ls hP hS hL h1 h2 h3
  obtain ⟨h4, h5⟩ := rS_cons.mp h3
  exact lv_istore_n hx hb hd rfl hL hk rfl (fun ls' hl' => kk H locs ls' hP hS (LH.put (v := .inl x) hl') h1 (rL_set h2 h4) h5)
theorem a_istore (C : Cx sh nL cc own fr lo E) {k : Nat} {x : Int} (hd : decode cc pc = .ok (.istore k, 2)) (hk : k < nL) {lv2 : List (Option AV)} (h2l : lv.set k (some (.inl x)) = lv2) (kk : AW sh nL E (pc + 2) lv2 st M) : AW sh nL E pc lv (.inl x :: st) M := by
  obtain ⟨p, l, e, R, s, m, args, below, meth, c, Q, ad, cA, D⟩ := E
  subst h2l
  obtain ⟨hx, hb, -⟩ := C
  intro H locs ls hP hS hL h1 h2 h3
  obtain ⟨h4, h5⟩ := rS_cons.mp h3
  exact lv_istore hx hb hd hL hk rfl (fun ls' hl' => kk H locs ls' hP hS (LH.put (v := .inl x) hl') h1 (rL_set h2 h4) h5)
theorem a_astoren (C : Cx sh nL cc own fr lo E) {k : Fin 4} {x : Nat} (hd : decode cc pc = .ok (.astore_n k, 1)) (hk : (k : Nat) < nL) {lv2 : List (Option AV)} (h2l : lv.set k (some (.inr x)) = lv2) (kk : AW sh nL E (pc + 1) lv2 st M) : AW sh nL E pc lv (.inr x :: st) M := by
  obtain ⟨p, l, e, R, s, m, args, below, meth, c, Q, ad, cA, D⟩ := E
  subst h2l
  obtain ⟨hx, hb, -⟩ := C
  intro H locs ls hP hS hL h1 h2 h3
  obtain ⟨h4, h5⟩ := rS_cons.mp h3
  exact lv_astore_n hx hb hd rfl hL hk rfl (fun ls' hl' => kk H locs ls' hP hS (LH.put (v := .inr x) hl') h1 (rL_set h2 h4) h5)
theorem a_iinc (C : Cx sh nL cc own fr lo E) {k : Nat} {n x : Int} (hd : decode cc pc = .ok (.iinc k n, 3)) (hl : lv[k]? = some (some (.inl x))) (hk : k < nL) {lv2 : List (Option AV)} (h2l : lv.set k (some (.inl (wrap (x + n)))) = lv2) (kk : AW sh nL E (pc + 3) lv2 st M) : AW sh nL E pc lv st M := by
  obtain ⟨p, l, e, R, s, m, args, below, meth, c, Q, ad, cA, D⟩ := E
  subst h2l
  obtain ⟨hx, hb, -⟩ := C
  intro H locs ls hP hS hL h1 h2 h3
  obtain ⟨j, hj⟩ := List.getElem?_of_mem ((lvl_mem (ad := ad) (q := (k, cv ad (.inl x))) lv 0).mpr ⟨k, .inl x, by rw [Nat.zero_add], hl⟩)
  exact lv_iinc hx hb hd hL hj (of_add x n) hk rfl (fun ls' hl' => kk H locs ls' hP hS (LH.put (v := .inl (wrap (x + n))) hl') h1 (rL_set h2 (wrap_inR _)) h3)
theorem a_iadd (C : Cx sh nL cc own fr lo E) {x y : Int} (hd : decode cc pc = .ok (.iadd, 1)) (kk : AW sh nL E (pc + 1) lv (.inl (wrap (x + y)) :: st) M) : AW sh nL E pc lv (.inl y :: .inl x :: st) M := by
  obtain ⟨p, l, e, R, s, m, args, below, meth, c, Q, ad, cA, D⟩ := E
  obtain ⟨hx, hb, -⟩ := C
  intro H locs ls hP hS hL h1 h2 h3
  refine lv_iadd hx hb hd ?_
  rw [of_add]
  exact kk H locs ls hP hS hL h1 h2 (rS_cons.mpr ⟨wrap_inR _, (rS_cons.mp (rS_cons.mp h3).2).2⟩)
theorem a_isub (C : Cx sh nL cc own fr lo E) {x y : Int} (hd : decode cc pc = .ok (.isub, 1)) (kk : AW sh nL E (pc + 1) lv (.inl (wrap (x - y)) :: st) M) : AW sh nL E pc lv (.inl y :: .inl x :: st) M := by
  obtain ⟨p, l, e, R, s, m, args, below, meth, c, Q, ad, cA, D⟩ := E
  obtain ⟨hx, hb, -⟩ := C
  intro H locs ls hP hS hL h1 h2 h3
  refine lv_isub hx hb hd ?_
  rw [of_sub]
  exact kk H locs ls hP hS hL h1 h2 (rS_cons.mpr ⟨wrap_inR _, (rS_cons.mp (rS_cons.mp h3).2).2⟩)
theorem a_imul (C : Cx sh nL cc own fr lo E) {x y : Int} (hd : decode cc pc = .ok (.imul, 1)) (kk : AW sh nL E (pc + 1) lv (.inl (wrap (x * y)) :: st) M) : AW sh nL E pc lv (.inl y :: .inl x :: st) M := by
  obtain ⟨p, l, e, R, s, m, args, below, meth, c, Q, ad, cA, D⟩ := E
  obtain ⟨hx, hb, -⟩ := C
  intro H locs ls hP hS hL h1 h2 h3
  refine lv_imul hx hb hd ?_
  rw [of_mul]
  exact kk H locs ls hP hS hL h1 h2 (rS_cons.mpr ⟨wrap_inR _, (rS_cons.mp (rS_cons.mp h3).2).2⟩)
theorem toInt_inR (x : Int32) : inR x.toInt := by have := wrap_inR x.toInt; rwa [wrap, Int32.ofInt_toInt] at this
def b_iand (x y : Int) : Int := (Int32.ofInt x &&& Int32.ofInt y).toInt
theorem a_iand (C : Cx sh nL cc own fr lo E) {x y : Int} (hd : decode cc pc = .ok (.iand, 1)) (kk : AW sh nL E (pc + 1) lv (.inl (b_iand x y) :: st) M) : AW sh nL E pc lv (.inl y :: .inl x :: st) M := by
  obtain ⟨p, l, e, R, s, m, args, below, meth, c, Q, ad, cA, D⟩ := E
  obtain ⟨hx, hb, -⟩ := C
  intro H locs ls hP hS hL h1 h2 h3
  refine lv_iand hx hb hd ?_
  have h := kk H locs ls hP hS hL h1 h2 (rS_cons.mpr ⟨toInt_inR _, (rS_cons.mp (rS_cons.mp h3).2).2⟩)
  simp only [List.map_cons, cv, b_iand, Int32.ofInt_toInt] at h
  exact h
def b_ior (x y : Int) : Int := (Int32.ofInt x ||| Int32.ofInt y).toInt
theorem a_ior (C : Cx sh nL cc own fr lo E) {x y : Int} (hd : decode cc pc = .ok (.ior, 1)) (kk : AW sh nL E (pc + 1) lv (.inl (b_ior x y) :: st) M) : AW sh nL E pc lv (.inl y :: .inl x :: st) M := by
  obtain ⟨p, l, e, R, s, m, args, below, meth, c, Q, ad, cA, D⟩ := E
  obtain ⟨hx, hb, -⟩ := C
  intro H locs ls hP hS hL h1 h2 h3
  refine lv_ior hx hb hd ?_
  have h := kk H locs ls hP hS hL h1 h2 (rS_cons.mpr ⟨toInt_inR _, (rS_cons.mp (rS_cons.mp h3).2).2⟩)
  simp only [List.map_cons, cv, b_ior, Int32.ofInt_toInt] at h
  exact h
def b_ixor (x y : Int) : Int := (Int32.ofInt x ^^^ Int32.ofInt y).toInt
theorem a_ixor (C : Cx sh nL cc own fr lo E) {x y : Int} (hd : decode cc pc = .ok (.ixor, 1)) (kk : AW sh nL E (pc + 1) lv (.inl (b_ixor x y) :: st) M) : AW sh nL E pc lv (.inl y :: .inl x :: st) M := by
  obtain ⟨p, l, e, R, s, m, args, below, meth, c, Q, ad, cA, D⟩ := E
  obtain ⟨hx, hb, -⟩ := C
  intro H locs ls hP hS hL h1 h2 h3
  refine lv_ixor hx hb hd ?_
  have h := kk H locs ls hP hS hL h1 h2 (rS_cons.mpr ⟨toInt_inR _, (rS_cons.mp (rS_cons.mp h3).2).2⟩)
  simp only [List.map_cons, cv, b_ixor, Int32.ofInt_toInt] at h
  exact h
def b_ishl (x y : Int) : Int := (Int32.ofInt x <<< (Int32.ofInt y &&& 31)).toInt
theorem a_ishl (C : Cx sh nL cc own fr lo E) {x y : Int} (hd : decode cc pc = .ok (.ishl, 1)) (kk : AW sh nL E (pc + 1) lv (.inl (b_ishl x y) :: st) M) : AW sh nL E pc lv (.inl y :: .inl x :: st) M := by
  obtain ⟨p, l, e, R, s, m, args, below, meth, c, Q, ad, cA, D⟩ := E
  obtain ⟨hx, hb, -⟩ := C
  intro H locs ls hP hS hL h1 h2 h3
  refine lv_ishl hx hb hd ?_
  have h := kk H locs ls hP hS hL h1 h2 (rS_cons.mpr ⟨toInt_inR _, (rS_cons.mp (rS_cons.mp h3).2).2⟩)
  simp only [List.map_cons, cv, b_ishl, Int32.ofInt_toInt] at h
  exact h
def b_ishr (x y : Int) : Int := (Int32.ofInt x >>> (Int32.ofInt y &&& 31)).toInt
theorem a_ishr (C : Cx sh nL cc own fr lo E) {x y : Int} (hd : decode cc pc = .ok (.ishr, 1)) (kk : AW sh nL E (pc + 1) lv (.inl (b_ishr x y) :: st) M) : AW sh nL E pc lv (.inl y :: .inl x :: st) M := by
  obtain ⟨p, l, e, R, s, m, args, below, meth, c, Q, ad, cA, D⟩ := E
  obtain ⟨hx, hb, -⟩ := C
  intro H locs ls hP hS hL h1 h2 h3
  refine lv_ishr hx hb hd ?_
  have h := kk H locs ls hP hS hL h1 h2 (rS_cons.mpr ⟨toInt_inR _, (rS_cons.mp (rS_cons.mp h3).2).2⟩)
  simp only [List.map_cons, cv, b_ishr, Int32.ofInt_toInt] at h
  exact h
def b_idiv (x y : Int) : Int := (Int32.ofInt x / Int32.ofInt y).toInt
theorem a_idiv (C : Cx sh nL cc own fr lo E) {x y : Int} (hd : decode cc pc = .ok (.idiv, 1)) (hy : y ≠ 0) (kk : AW sh nL E (pc + 1) lv (.inl (b_idiv x y) :: st) M) : AW sh nL E pc lv (.inl y :: .inl x :: st) M := by
  obtain ⟨p, l, e, R, s, m, args, below, meth, c, Q, ad, cA, D⟩ := E
  obtain ⟨hx, hb, -⟩ := C
  intro H locs ls hP hS hL h1 h2 h3
  have hy0 : ¬ Int32.ofInt y = 0 := fun q => hy ((of_eq (y := 0) (rS_cons.mp h3).1 (by unfold inR; omega)).mp q)
  refine lv_idiv hx hb hd hy0 ?_
  have h := kk H locs ls hP hS hL h1 h2 (rS_cons.mpr ⟨toInt_inR _, (rS_cons.mp (rS_cons.mp h3).2).2⟩)
  simp only [List.map_cons, cv, b_idiv, Int32.ofInt_toInt] at h
  exact h
def b_irem (x y : Int) : Int := (Int32.ofInt x - Int32.ofInt x / Int32.ofInt y * Int32.ofInt y).toInt
theorem a_irem (C : Cx sh nL cc own fr lo E) {x y : Int} (hd : decode cc pc = .ok (.irem, 1)) (hy : y ≠ 0) (kk : AW sh nL E (pc + 1) lv (.inl (b_irem x y) :: st) M) : AW sh nL E pc lv (.inl y :: .inl x :: st) M := by
  obtain ⟨p, l, e, R, s, m, args, below, meth, c, Q, ad, cA, D⟩ := E
  obtain ⟨hx, hb, -⟩ := C
  intro H locs ls hP hS hL h1 h2 h3
  have hy0 : ¬ Int32.ofInt y = 0 := fun q => hy ((of_eq (y := 0) (rS_cons.mp h3).1 (by unfold inR; omega)).mp q)
  refine lv_irem hx hb hd hy0 ?_
  have h := kk H locs ls hP hS hL h1 h2 (rS_cons.mpr ⟨toInt_inR _, (rS_cons.mp (rS_cons.mp h3).2).2⟩)
  simp only [List.map_cons, cv, b_irem, Int32.ofInt_toInt] at h
  exact h
def b_i2c (x : Int) : Int := ((Int32.ofInt x).toUInt32 % 65536).toInt32.toInt
theorem a_i2c (C : Cx sh nL cc own fr lo E) {x : Int} (hd : decode cc pc = .ok (.i2c, 1)) (kk : AW sh nL E (pc + 1) lv (.inl (b_i2c x) :: st) M) : AW sh nL E pc lv (.inl x :: st) M := by
  obtain ⟨p, l, e, R, s, m, args, below, meth, c, Q, ad, cA, D⟩ := E
  obtain ⟨hx, hb, -⟩ := C
  intro H locs ls hP hS hL h1 h2 h3
  refine lv_i2c hx hb hd rfl ?_
  have h := kk H locs ls hP hS hL h1 h2 (rS_cons.mpr ⟨toInt_inR _, (rS_cons.mp h3).2⟩)
  simp only [List.map_cons, cv, b_i2c, Int32.ofInt_toInt] at h
  exact h
theorem a_dup (C : Cx sh nL cc own fr lo E) {va : AV} (hd : decode cc pc = .ok (.dup, 1)) (kk : AW sh nL E (pc + 1) lv (va :: va :: st) M) : AW sh nL E pc lv (va :: st) M := by
  obtain ⟨p, l, e, R, s, m, args, below, meth, c, Q, ad, cA, D⟩ := E
  obtain ⟨hx, hb, -⟩ := C
  intro H locs ls hP hS hL h1 h2 h3
  obtain ⟨g0, h3⟩ := rS_cons.mp h3
  exact lv_dup hx hb hd (cv_cat ad _) (kk H locs ls hP hS hL h1 h2 (rS_cons.mpr ⟨g0, (rS_cons.mpr ⟨g0, h3⟩)⟩))
theorem a_pop (C : Cx sh nL cc own fr lo E) {va : AV} (hd : decode cc pc = .ok (.pop, 1)) (kk : AW sh nL E (pc + 1) lv (st) M) : AW sh nL E pc lv (va :: st) M := by
  obtain ⟨p, l, e, R, s, m, args, below, meth, c, Q, ad, cA, D⟩ := E
  obtain ⟨hx, hb, -⟩ := C
  intro H locs ls hP hS hL h1 h2 h3
  obtain ⟨g0, h3⟩ := rS_cons.mp h3
  exact lv_pop hx hb hd (cv_cat ad _) (kk H locs ls hP hS hL h1 h2 h3)
theorem a_dup_x1 (C : Cx sh nL cc own fr lo E) {va vb : AV} (hd : decode cc pc = .ok (.dup_x1, 1)) (kk : AW sh nL E (pc + 1) lv (va :: vb :: va :: st) M) : AW sh nL E pc lv (va :: vb :: st) M := by
  obtain ⟨p, l, e, R, s, m, args, below, meth, c, Q, ad, cA, D⟩ := E
  obtain ⟨hx, hb, -⟩ := C
  intro H locs ls hP hS hL h1 h2 h3
  obtain ⟨g0, h3⟩ := rS_cons.mp h3
  obtain ⟨g1, h3⟩ := rS_cons.mp h3
  exact lv_dup_x1 hx hb hd (cv_cat ad _) (cv_cat ad _) (kk H locs ls hP hS hL h1 h2 (rS_cons.mpr ⟨g0, (rS_cons.mpr ⟨g1, (rS_cons.mpr ⟨g0, h3⟩)⟩)⟩))
theorem a_dup_x2 (C : Cx sh nL cc own fr lo E) {va vb vd : AV} (hd : decode cc pc = .ok (.dup_x2, 1)) (kk : AW sh nL E (pc + 1) lv (va :: vb :: vd :: va :: st) M) : AW sh nL E pc lv (va :: vb :: vd :: st) M := by
  obtain ⟨p, l, e, R, s, m, args, below, meth, c, Q, ad, cA, D⟩ := E
  obtain ⟨hx, hb, -⟩ := C
  intro H locs ls hP hS hL h1 h2 h3
  obtain ⟨g0, h3⟩ := rS_cons.mp h3
  obtain ⟨g1, h3⟩ := rS_cons.mp h3
  obtain ⟨g2, h3⟩ := rS_cons.mp h3
  exact lv_dup_x2 hx hb hd (cv_cat ad _) (cv_cat ad _) (cv_cat ad _) (kk H locs ls hP hS hL h1 h2 (rS_cons.mpr ⟨g0, (rS_cons.mpr ⟨g1, (rS_cons.mpr ⟨g2, (rS_cons.mpr ⟨g0, h3⟩)⟩)⟩)⟩))
theorem a_dup2 (C : Cx sh nL cc own fr lo E) {va vb : AV} (hd : decode cc pc = .ok (.dup2, 1)) (kk : AW sh nL E (pc + 1) lv (va :: vb :: va :: vb :: st) M) : AW sh nL E pc lv (va :: vb :: st) M := by
  obtain ⟨p, l, e, R, s, m, args, below, meth, c, Q, ad, cA, D⟩ := E
  obtain ⟨hx, hb, -⟩ := C
  intro H locs ls hP hS hL h1 h2 h3
  obtain ⟨g0, h3⟩ := rS_cons.mp h3
  obtain ⟨g1, h3⟩ := rS_cons.mp h3
  exact lv_dup2_11 hx hb hd (cv_cat ad _) (cv_cat ad _) (kk H locs ls hP hS hL h1 h2 (rS_cons.mpr ⟨g0, (rS_cons.mpr ⟨g1, (rS_cons.mpr ⟨g0, (rS_cons.mpr ⟨g1, h3⟩)⟩)⟩)⟩))
theorem a_if_eq (C : Cx sh nL cc own fr lo E) {x : Int} {off : Int} (tgt : Nat) (hd : decode cc pc = .ok (.ifCond .eq off, 3)) (ht : (pc : Int) + off = (tgt : Int)) (kt : (x = 0) → AW sh nL E tgt lv st M) (kf : ¬ (x = 0) → AW sh nL E (pc + 3) lv st M) : AW sh nL E pc lv (.inl x :: st) M := by
  obtain ⟨p, l, e, R, s, m, args, below, meth, c, Q, ad, cA, D⟩ := E
  obtain ⟨hx, hb, -⟩ := C
  intro H locs ls hP hS hL h1 h2 h3
  obtain ⟨gx, h3⟩ := rS_cons.mp h3
  have gy : inR 0 := by unfold inR; omega
  have hi := (of_eq (x := x) (y := 0) gx gy)
  exact lv_if_eq hx hb hd ht (fun q => kt (hi.mp q) H locs ls hP hS hL h1 h2 h3) (fun q => kf (fun z => q (hi.mpr z)) H locs ls hP hS hL h1 h2 h3)
theorem a_icmp_eq (C : Cx sh nL cc own fr lo E) {x y : Int} {off : Int} (tgt : Nat) (hd : decode cc pc = .ok (.if_icmp .eq off, 3)) (ht : (pc : Int) + off = (tgt : Int)) (kt : (x = y) → AW sh nL E tgt lv st M) (kf : ¬ (x = y) → AW sh nL E (pc + 3) lv st M) : AW sh nL E pc lv (.inl y :: .inl x :: st) M := by
  obtain ⟨p, l, e, R, s, m, args, below, meth, c, Q, ad, cA, D⟩ := E
  obtain ⟨hx, hb, -⟩ := C
  intro H locs ls hP hS hL h1 h2 h3
  obtain ⟨gy, h3⟩ := rS_cons.mp h3
  obtain ⟨gx, h3⟩ := rS_cons.mp h3
  have hi := (of_eq (x := x) (y := y) gx gy)
  exact lv_icmp_eq hx hb hd ht (fun q => kt (hi.mp q) H locs ls hP hS hL h1 h2 h3) (fun q => kf (fun z => q (hi.mpr z)) H locs ls hP hS hL h1 h2 h3)
theorem a_if_ne (C : Cx sh nL cc own fr lo E) {x : Int} {off : Int} (tgt : Nat) (hd : decode cc pc = .ok (.ifCond .ne off, 3)) (ht : (pc : Int) + off = (tgt : Int)) (kt : (x ≠ 0) → AW sh nL E tgt lv st M) (kf : (x = 0) → AW sh nL E (pc + 3) lv st M) : AW sh nL E pc lv (.inl x :: st) M := by
  obtain ⟨p, l, e, R, s, m, args, below, meth, c, Q, ad, cA, D⟩ := E
  obtain ⟨hx, hb, -⟩ := C
  intro H locs ls hP hS hL h1 h2 h3
  obtain ⟨gx, h3⟩ := rS_cons.mp h3
  have gy : inR 0 := by unfold inR; omega
  have hi := (of_eq (x := x) (y := 0) gx gy)
  exact lv_if_ne hx hb hd ht (fun q => kt (fun z => q (hi.mpr z)) H locs ls hP hS hL h1 h2 h3) (fun q => kf (hi.mp q) H locs ls hP hS hL h1 h2 h3)
theorem a_icmp_ne (C : Cx sh nL cc own fr lo E) {x y : Int} {off : Int} (tgt : Nat) (hd : decode cc pc = .ok (.if_icmp .ne off, 3)) (ht : (pc : Int) + off = (tgt : Int)) (kt : (x ≠ y) → AW sh nL E tgt lv st M) (kf : (x = y) → AW sh nL E (pc + 3) lv st M) : AW sh nL E pc lv (.inl y :: .inl x :: st) M := by
  obtain ⟨p, l, e, R, s, m, args, below, meth, c, Q, ad, cA, D⟩ := E
  obtain ⟨hx, hb, -⟩ := C
  intro H locs ls hP hS hL h1 h2 h3
  obtain ⟨gy, h3⟩ := rS_cons.mp h3
  obtain ⟨gx, h3⟩ := rS_cons.mp h3
  have hi := (of_eq (x := x) (y := y) gx gy)
  exact lv_icmp_ne hx hb hd ht (fun q => kt (fun z => q (hi.mpr z)) H locs ls hP hS hL h1 h2 h3) (fun q => kf (hi.mp q) H locs ls hP hS hL h1 h2 h3)
theorem a_if_lt (C : Cx sh nL cc own fr lo E) {x : Int} {off : Int} (tgt : Nat) (hd : decode cc pc = .ok (.ifCond .lt off, 3)) (ht : (pc : Int) + off = (tgt : Int)) (kt : (x < 0) → AW sh nL E tgt lv st M) (kf : ¬ (x < 0) → AW sh nL E (pc + 3) lv st M) : AW sh nL E pc lv (.inl x :: st) M := by
  obtain ⟨p, l, e, R, s, m, args, below, meth, c, Q, ad, cA, D⟩ := E
  obtain ⟨hx, hb, -⟩ := C
  intro H locs ls hP hS hL h1 h2 h3
  obtain ⟨gx, h3⟩ := rS_cons.mp h3
  have gy : inR 0 := by unfold inR; omega
  have hi := (of_lt (x := x) (y := 0) gx gy)
  exact lv_if_lt hx hb hd ht (fun q => kt (hi.mp q) H locs ls hP hS hL h1 h2 h3) (fun q => kf (fun z => q (hi.mpr z)) H locs ls hP hS hL h1 h2 h3)
theorem a_icmp_lt (C : Cx sh nL cc own fr lo E) {x y : Int} {off : Int} (tgt : Nat) (hd : decode cc pc = .ok (.if_icmp .lt off, 3)) (ht : (pc : Int) + off = (tgt : Int)) (kt : (x < y) → AW sh nL E tgt lv st M) (kf : ¬ (x < y) → AW sh nL E (pc + 3) lv st M) : AW sh nL E pc lv (.inl y :: .inl x :: st) M := by
  obtain ⟨p, l, e, R, s, m, args, below, meth, c, Q, ad, cA, D⟩ := E
  obtain ⟨hx, hb, -⟩ := C
  intro H locs ls hP hS hL h1 h2 h3
  obtain ⟨gy, h3⟩ := rS_cons.mp h3
  obtain ⟨gx, h3⟩ := rS_cons.mp h3
  have hi := (of_lt (x := x) (y := y) gx gy)
  exact lv_icmp_lt hx hb hd ht (fun q => kt (hi.mp q) H locs ls hP hS hL h1 h2 h3) (fun q => kf (fun z => q (hi.mpr z)) H locs ls hP hS hL h1 h2 h3)
theorem a_if_ge (C : Cx sh nL cc own fr lo E) {x : Int} {off : Int} (tgt : Nat) (hd : decode cc pc = .ok (.ifCond .ge off, 3)) (ht : (pc : Int) + off = (tgt : Int)) (kt : (0 ≤ x) → AW sh nL E tgt lv st M) (kf : ¬ (0 ≤ x) → AW sh nL E (pc + 3) lv st M) : AW sh nL E pc lv (.inl x :: st) M := by
  obtain ⟨p, l, e, R, s, m, args, below, meth, c, Q, ad, cA, D⟩ := E
  obtain ⟨hx, hb, -⟩ := C
  intro H locs ls hP hS hL h1 h2 h3
  obtain ⟨gx, h3⟩ := rS_cons.mp h3
  have gy : inR 0 := by unfold inR; omega
  have hi := (of_le (x := 0) (y := x) gy gx)
  exact lv_if_ge hx hb hd ht (fun q => kt (hi.mp q) H locs ls hP hS hL h1 h2 h3) (fun q => kf (fun z => q (hi.mpr z)) H locs ls hP hS hL h1 h2 h3)
theorem a_icmp_ge (C : Cx sh nL cc own fr lo E) {x y : Int} {off : Int} (tgt : Nat) (hd : decode cc pc = .ok (.if_icmp .ge off, 3)) (ht : (pc : Int) + off = (tgt : Int)) (kt : (y ≤ x) → AW sh nL E tgt lv st M) (kf : ¬ (y ≤ x) → AW sh nL E (pc + 3) lv st M) : AW sh nL E pc lv (.inl y :: .inl x :: st) M := by
  obtain ⟨p, l, e, R, s, m, args, below, meth, c, Q, ad, cA, D⟩ := E
  obtain ⟨hx, hb, -⟩ := C
  intro H locs ls hP hS hL h1 h2 h3
  obtain ⟨gy, h3⟩ := rS_cons.mp h3
  obtain ⟨gx, h3⟩ := rS_cons.mp h3
  have hi := (of_le (x := y) (y := x) gy gx)
  exact lv_icmp_ge hx hb hd ht (fun q => kt (hi.mp q) H locs ls hP hS hL h1 h2 h3) (fun q => kf (fun z => q (hi.mpr z)) H locs ls hP hS hL h1 h2 h3)
theorem a_if_gt (C : Cx sh nL cc own fr lo E) {x : Int} {off : Int} (tgt : Nat) (hd : decode cc pc = .ok (.ifCond .gt off, 3)) (ht : (pc : Int) + off = (tgt : Int)) (kt : (0 < x) → AW sh nL E tgt lv st M) (kf : ¬ (0 < x) → AW sh nL E (pc + 3) lv st M) : AW sh nL E pc lv (.inl x :: st) M := by
  obtain ⟨p, l, e, R, s, m, args, below, meth, c, Q, ad, cA, D⟩ := E
  obtain ⟨hx, hb, -⟩ := C
  intro H locs ls hP hS hL h1 h2 h3
  obtain ⟨gx, h3⟩ := rS_cons.mp h3
  have gy : inR 0 := by unfold inR; omega
  have hi := (of_lt (x := 0) (y := x) gy gx)
  exact lv_if_gt hx hb hd ht (fun q => kt (hi.mp q) H locs ls hP hS hL h1 h2 h3) (fun q => kf (fun z => q (hi.mpr z)) H locs ls hP hS hL h1 h2 h3)
theorem a_icmp_gt (C : Cx sh nL cc own fr lo E) {x y : Int} {off : Int} (tgt : Nat) (hd : decode cc pc = .ok (.if_icmp .gt off, 3)) (ht : (pc : Int) + off = (tgt : Int)) (kt : (y < x) → AW sh nL E tgt lv st M) (kf : ¬ (y < x) → AW sh nL E (pc + 3) lv st M) : AW sh nL E pc lv (.inl y :: .inl x :: st) M := by
  obtain ⟨p, l, e, R, s, m, args, below, meth, c, Q, ad, cA, D⟩ := E
  obtain ⟨hx, hb, -⟩ := C
  intro H locs ls hP hS hL h1 h2 h3
  obtain ⟨gy, h3⟩ := rS_cons.mp h3
  obtain ⟨gx, h3⟩ := rS_cons.mp h3
  have hi := (of_lt (x := y) (y := x) gy gx)
  exact lv_icmp_gt hx hb hd ht (fun q => kt (hi.mp q) H locs ls hP hS hL h1 h2 h3) (fun q => kf (fun z => q (hi.mpr z)) H locs ls hP hS hL h1 h2 h3)
theorem a_if_le (C : Cx sh nL cc own fr lo E) {x : Int} {off : Int} (tgt : Nat) (hd : decode cc pc = .ok (.ifCond .le off, 3)) (ht : (pc : Int) + off = (tgt : Int)) (kt : (x ≤ 0) → AW sh nL E tgt lv st M) (kf : ¬ (x ≤ 0) → AW sh nL E (pc + 3) lv st M) : AW sh nL E pc lv (.inl x :: st) M := by
  obtain ⟨p, l, e, R, s, m, args, below, meth, c, Q, ad, cA, D⟩ := E
  obtain ⟨hx, hb, -⟩ := C
  intro H locs ls hP hS hL h1 h2 h3
  obtain ⟨gx, h3⟩ := rS_cons.mp h3
  have gy : inR 0 := by unfold inR; omega
  have hi := (of_le (x := x) (y := 0) gx gy)
  exact lv_if_le hx hb hd ht (fun q => kt (hi.mp q) H locs ls hP hS hL h1 h2 h3) (fun q => kf (fun z => q (hi.mpr z)) H locs ls hP hS hL h1 h2 h3)
theorem a_icmp_le (C : Cx sh nL cc own fr lo E) {x y : Int} {off : Int} (tgt : Nat) (hd : decode cc pc = .ok (.if_icmp .le off, 3)) (ht : (pc : Int) + off = (tgt : Int)) (kt : (x ≤ y) → AW sh nL E tgt lv st M) (kf : ¬ (x ≤ y) → AW sh nL E (pc + 3) lv st M) : AW sh nL E pc lv (.inl y :: .inl x :: st) M := by
  obtain ⟨p, l, e, R, s, m, args, below, meth, c, Q, ad, cA, D⟩ := E
  obtain ⟨hx, hb, -⟩ := C
  intro H locs ls hP hS hL h1 h2 h3
  obtain ⟨gy, h3⟩ := rS_cons.mp h3
  obtain ⟨gx, h3⟩ := rS_cons.mp h3
  have hi := (of_le (x := x) (y := y) gx gy)
  exact lv_icmp_le hx hb hd ht (fun q => kt (hi.mp q) H locs ls hP hS hL h1 h2 h3) (fun q => kf (fun z => q (hi.mpr z)) H locs ls hP hS hL h1 h2 h3)
theorem a_goto (C : Cx sh nL cc own fr lo E) {off : Int} (tgt : Nat) (hd : decode cc pc = .ok (.goto off, 3)) (ht : (pc : Int) + off = (tgt : Int)) (kk : AW sh nL E tgt lv st M) : AW sh nL E pc lv st M := by
  obtain ⟨p, l, e, R, s, m, args, below, meth, c, Q, ad, cA, D⟩ := E
  obtain ⟨hx, hb, -⟩ := C
  intro H locs ls hP hS hL h1 h2 h3
  exact lv_goto hx hb hd ht (kk H locs ls hP hS hL h1 h2 h3)
end Rows
end
section
/-! rows of the abstract layer: fields, arrays, statics, switches, returns -/
def CI (ci : Nat) (C : String) (T : u_T) (N : Nat) (ty : Nat → FieldType) : Prop := vwCl[ci]? = some (C, T, N) ∧ (∀ w ∈ u_ws C T N, w ∈ gT) ∧ (∀ k, k < N → parseFieldDescriptor (T k).2.2.1 = some (ty k)) ∧ ∀ a, a < N → ∀ b, b < N → a ≠ b → (T a).2.1 ≠ (T b).2.1
def FL (own : String) (i ci k : Nat) : Prop := ∃ C T N ty, CI ci C T N ty ∧ k < N ∧ Cond.fieldLink own i (T k).1 (T k).2.1 (T k).2.2.1 ∈ gT
def FP (own : String) (i ci k : Nat) (t : FieldType) : Prop := ∃ C T N ty, CI ci C T N ty ∧ k < N ∧ Cond.fieldLink own i (T k).1 (T k).2.1 (T k).2.2.1 ∈ gT ∧ (T k).2.2.2 = false ∧ ty k = t
theorem b01_nar {v : Int} (h : v = 0 ∨ v = 1) : narrow .boolean (.int (Int32.ofInt v)) = .int (Int32.ofInt v) ∧ fits .boolean (.int (Int32.ofInt v)) = true ∧ vp_nar .boolean (Int32.ofInt v) = Int32.ofInt v := by
  rcases h with rfl | rfl <;> decide
section Rows
variable {sh : List Sh} {nL : Nat} {cc : ByteArray} {own : String} {fr lo : Nat} {E : EE} {pc : Nat} {lv : List (Option AV)} {st : List AV} {M : Mem}
theorem a_getI (C : Cx sh nL cc own fr lo E) {i ci k c : Nat} {kz : Int} {fs : List (Option Nat)} (hf : FL own i ci k) (hs : sh[c]? = some (.inr (ci, fs))) (hk : fs[k]? = some none) (hz : (k : Int) = kz) (hd : decode cc pc = .ok (.getfield i, 3)) (kk : AW sh nL E (pc + 3) lv (.inl (M c kz) :: st) M) : AW sh nL E pc lv (.inr c :: st) M := by
  obtain ⟨p, l, e, R, s, m, args, below, meth, c0, Q, ad, cA, D⟩ := E
  obtain ⟨hx, hb, hml, ho, ht, hK, -⟩ := C
  obtain ⟨Cn, T, N, ty, ⟨g1, g2, g3, g4⟩, g5, g6⟩ := hf
  subst hz
  intro H locs ls hP hS hL h1 h2 h3
  refine va_get (v := .int (Int32.ofInt (M c k))) hx hb ht g2 ho hK hP c (sW_at hs) g1 k g5 (ht _ g6) (fun _ h => h) ?_ hd (kk H locs ls hP hS hL h1 h2 (rS_cons.mpr ⟨h1 _ _, (rS_cons.mp h3).2⟩))
  rw [List.getElem?_mapIdx, hk]; rfl
theorem a_getR (C : Cx sh nL cc own fr lo E) {i ci k c : Nat} (d : Nat) {fs : List (Option Nat)} (hf : FL own i ci k) (hs : sh[c]? = some (.inr (ci, fs))) (hk : fs[k]? = some (some d)) (hd : decode cc pc = .ok (.getfield i, 3)) (kk : AW sh nL E (pc + 3) lv (.inr d :: st) M) : AW sh nL E pc lv (.inr c :: st) M := by
  obtain ⟨p, l, e, R, s, m, args, below, meth, c0, Q, ad, cA, D⟩ := E
  obtain ⟨hx, hb, hml, ho, ht, hK, -⟩ := C
  obtain ⟨Cn, T, N, ty, ⟨g1, g2, g3, g4⟩, g5, g6⟩ := hf
  intro H locs ls hP hS hL h1 h2 h3
  refine va_get (v := .ref (ad d)) hx hb ht g2 ho hK hP c (sW_at hs) g1 k g5 (ht _ g6) (fun _ h => h) ?_ hd (kk H locs ls hP hS hL h1 h2 (rS_cons.mpr ⟨trivial, (rS_cons.mp h3).2⟩))
  rw [List.getElem?_mapIdx, hk]; rfl
theorem a_put (C : Cx sh nL cc own fr lo E) {i ci k c : Nat} {kz v : Int} {t : FieldType} {fs : List (Option Nat)} (hf : FP own i ci k t) (hn : narrow t (.int (Int32.ofInt v)) = .int (Int32.ofInt v) ∧ fits t (.int (Int32.ofInt v)) = true) (hs : sh[c]? = some (.inr (ci, fs))) (hk : fs[k]? = some none) (hz : (k : Int) = kz) (hd : decode cc pc = .ok (.putfield i, 3)) (kk : AW sh nL E (pc + 3) lv st (mu M c kz v)) : AW sh nL E pc lv (.inl v :: .inr c :: st) M := by
  obtain ⟨p, l, e, R, s, m, args, below, meth, c0, Q, ad, cA, D⟩ := E
  obtain ⟨hx, hb, hml, ho, ht, hK, hA, -⟩ := C
  obtain ⟨Cn, T, N, ty, ⟨g1, g2, g3, g4⟩, g5, g6, g7, g8⟩ := hf
  subst hz
  intro H locs ls hP hS hL h1 h2 h3
  obtain ⟨hv, h3⟩ := rS_cons.mp h3
  obtain ⟨-, h3⟩ := rS_cons.mp h3
  refine va_put (ty := t) hx hb ht g2 ty g3 g4 ho hK hP (sW_D hA) hS c (sW_at hs) g1 k g5 (ht _ g6) (fun _ h => h) g7 (by rw [g3 k g5, g8]) hn.1 hn.2 (by rw [List.length_mapIdx]; exact (List.getElem?_eq_some_iff.mp hk).1) hd (fun H1 locs1 hP1 _ hS1 => ?_)
  have e1 := sW_fld (ad := ad) (cA := cA) (M := M) (v := v) hs hk
  exact kk H1 locs1 ls (by rw [← e1]; exact hP1) hS1 hL (rM_mu h1 hv) h2 h3
theorem a_putI (C : Cx sh nL cc own fr lo E) {i ci k c : Nat} {kz v : Int} {fs : List (Option Nat)} (hf : FP own i ci k .int) (hs : sh[c]? = some (.inr (ci, fs))) (hk : fs[k]? = some none) (hz : (k : Int) = kz) (hd : decode cc pc = .ok (.putfield i, 3)) (kk : AW sh nL E (pc + 3) lv st (mu M c kz v)) : AW sh nL E pc lv (.inl v :: .inr c :: st) M :=
  a_put C hf ⟨rfl, rfl⟩ hs hk hz hd kk
theorem a_putZ (C : Cx sh nL cc own fr lo E) {i ci k c : Nat} {kz v : Int} {fs : List (Option Nat)} (hf : FP own i ci k .boolean) (hv : v = 0 ∨ v = 1) (hs : sh[c]? = some (.inr (ci, fs))) (hk : fs[k]? = some none) (hz : (k : Int) = kz) (hd : decode cc pc = .ok (.putfield i, 3)) (kk : AW sh nL E (pc + 3) lv st (mu M c kz v)) : AW sh nL E pc lv (.inl v :: .inr c :: st) M :=
  a_put C hf ⟨(b01_nar hv).1, (b01_nar hv).2.1⟩ hs hk hz hd kk
theorem a_iald (C : Cx sh nL cc own fr lo E) {c n : Nat} {i : Int} (hs : sh[c]? = some (.inl (0, n))) (hi : inb i n) (hd : decode cc pc = .ok (.iaload, 1)) (kk : AW sh nL E (pc + 1) lv (.inl (M c i) :: st) M) : AW sh nL E pc lv (.inl i :: .inr c :: st) M := by
  obtain ⟨p, l, e, R, s, m, args, below, meth, c0, Q, ad, cA, D⟩ := E
  obtain ⟨hx, hb, hml, ho, ht, hK, hA, -⟩ := C
  intro H locs ls hP hS hL h1 h2 h3
  obtain ⟨hv, h3⟩ := rS_cons.mp h3
  obtain ⟨-, h3⟩ := rS_cons.mp h3
  have hv' : inR i := hv
  refine va_iald (n := n) hx hb hK hP c 0 (sW_at hs) rfl (vp_in_of_inb hv hi) hd ?_
  rw [of_clamp hv']
  have e1 : ((i.toNat : Nat) : Int) = i := Int.toNat_of_nonneg hi.1
  rw [e1]
  exact kk H locs ls hP hS hL h1 h2 (rS_cons.mpr ⟨h1 _ _, h3⟩)
theorem a_iast (C : Cx sh nL cc own fr lo E) {c n : Nat} {i v : Int} (hs : sh[c]? = some (.inl (0, n))) (hi : inb i n) (hd : decode cc pc = .ok (.iastore, 1)) (kk : AW sh nL E (pc + 1) lv st (mu M c i v)) : AW sh nL E pc lv (.inl v :: .inl i :: .inr c :: st) M := by
  obtain ⟨p, l, e, R, s, m, args, below, meth, c0, Q, ad, cA, D⟩ := E
  obtain ⟨hx, hb, hml, ho, ht, hK, hA, -⟩ := C
  intro H locs ls hP hS hL h1 h2 h3
  obtain ⟨hv, h3⟩ := rS_cons.mp h3
  obtain ⟨hir, h3⟩ := rS_cons.mp h3
  obtain ⟨-, h3⟩ := rS_cons.mp h3
  have hir' : inR i := hir
  refine va_iast (n := n) hx hb hK hP (sW_D hA) hS c 0 (sW_at hs) rfl (vp_in_of_inb hir hi) hd (fun H1 locs1 hP1 _ hS1 => ?_)
  rw [of_clamp hir'] at hP1
  have e1 := sW_arr (ad := ad) (cA := cA) (M := M) (v := v) hs hi.1
  exact kk H1 locs1 ls (by rw [← e1]; exact hP1) hS1 hL (rM_mu h1 hv) h2 h3
theorem a_zald (C : Cx sh nL cc own fr lo E) {c n : Nat} {i : Int} (hs : sh[c]? = some (.inl (1, n))) (hi : inb i n) (hd : decode cc pc = .ok (.baload, 1)) (kk : AW sh nL E (pc + 1) lv (.inl (M c i) :: st) M) : AW sh nL E pc lv (.inl i :: .inr c :: st) M := by
  obtain ⟨p, l, e, R, s, m, args, below, meth, c0, Q, ad, cA, D⟩ := E
  obtain ⟨hx, hb, hml, ho, ht, hK, hA, -⟩ := C
  intro H locs ls hP hS hL h1 h2 h3
  obtain ⟨hv, h3⟩ := rS_cons.mp h3
  obtain ⟨-, h3⟩ := rS_cons.mp h3
  have hv' : inR i := hv
  refine va_zald (n := n) hx hb hK hP c 1 (sW_at hs) rfl (vp_in_of_inb hv hi) hd ?_
  rw [of_clamp hv']
  have e1 : ((i.toNat : Nat) : Int) = i := Int.toNat_of_nonneg hi.1
  rw [e1]
  exact kk H locs ls hP hS hL h1 h2 (rS_cons.mpr ⟨h1 _ _, h3⟩)
theorem a_zast (C : Cx sh nL cc own fr lo E) {c n : Nat} {i v : Int} (hs : sh[c]? = some (.inl (1, n))) (hv01 : v = 0 ∨ v = 1) (hi : inb i n) (hd : decode cc pc = .ok (.bastore, 1)) (kk : AW sh nL E (pc + 1) lv st (mu M c i v)) : AW sh nL E pc lv (.inl v :: .inl i :: .inr c :: st) M := by
  obtain ⟨p, l, e, R, s, m, args, below, meth, c0, Q, ad, cA, D⟩ := E
  obtain ⟨hx, hb, hml, ho, ht, hK, hA, -⟩ := C
  intro H locs ls hP hS hL h1 h2 h3
  obtain ⟨hv, h3⟩ := rS_cons.mp h3
  obtain ⟨hir, h3⟩ := rS_cons.mp h3
  obtain ⟨-, h3⟩ := rS_cons.mp h3
  have hir' : inR i := hir
  refine va_zast (n := n) hx hb hK hP (sW_D hA) hS c 1 (sW_at hs) rfl (vp_in_of_inb hir hi) hd (fun H1 locs1 hP1 _ hS1 => ?_)
  rw [of_clamp hir', (b01_nar hv01).2.2] at hP1
  have e1 := sW_arr (ad := ad) (cA := cA) (M := M) (v := v) hs hi.1
  exact kk H1 locs1 ls (by rw [← e1]; exact hP1) hS1 hL (rM_mu h1 hv) h2 h3
theorem a_alen (C : Cx sh nL cc own fr lo E) {c t n : Nat} (nz : Int) {ty : FieldType} (hs : sh[c]? = some (.inl (t, n))) (hty : [FieldType.int, FieldType.boolean][t]? = some ty) (hz : (n : Int) = nz) (hr : inR nz) (hd : decode cc pc = .ok (.arraylength, 1)) (kk : AW sh nL E (pc + 1) lv (.inl nz :: st) M) : AW sh nL E pc lv (.inr c :: st) M := by
  obtain ⟨p, l, e, R, s, m, args, below, meth, c0, Q, ad, cA, D⟩ := E
  obtain ⟨hx, hb, hml, ho, ht, hK, hA, -⟩ := C
  subst hz
  intro H locs ls hP hS hL h1 h2 h3
  obtain ⟨-, h3⟩ := rS_cons.mp h3
  have hT : (tyS cA)[t]? = some (cA t, ty) := by
    match t, hty with
    | 0, h => cases h; rfl
    | 1, h => cases h; rfl
    | t + 2, h => simp at h
  exact va_alen hx hb hK hP c t (sW_at hs) hT rfl hd (kk H locs ls hP hS hL h1 h2 (rS_cons.mpr ⟨hr, h3⟩))
theorem roV_inR (c : Nat) (i : Int) : inR (roV c i) := by
  have key : ∀ l : List Int, (∀ z ∈ l, inR z) → inR (l.getD i.toNat 0) := by
    intro l h
    by_cases hi : i.toNat < l.length
    · rw [List.getD_eq_getElem?_getD, List.getElem?_eq_getElem hi]; exact h _ (List.getElem_mem hi)
    · rw [List.getD_eq_getElem?_getD, List.getElem?_eq_none (by omega)]; exact (by unfold inR; decide)
  unfold roV roL
  split
  · exact key _ (by unfold inR tkL; decide)
  split
  · exact key _ (by unfold inR cmL; decide)
  split
  · exact key _ (by unfold inR dgL; decide)
  split
  · exact key _ (by unfold inR fpL; decide)
  · exact key _ (by unfold inR sgL; decide)
theorem a_ti (C : Cx sh nL cc own fr lo E) {c : Nat} {i : Int} (hc : isRo c) (hi : inb i 15) (hd : decode cc pc = .ok (.iaload, 1)) (kk : AW sh nL E (pc + 1) lv (.inl (roV c i) :: st) M) : AW sh nL E pc lv (.inl i :: .inr c :: st) M := by
  obtain ⟨p, l, e, R, s, m, args, below, meth, c0, Q, ad, cA, D⟩ := E
  obtain ⟨hx, hb, hml, ho, ht, hK, hA, hRO, -⟩ := C
  intro H locs ls hP hS hL h1 h2 h3
  obtain ⟨hv, h3⟩ := rS_cons.mp h3
  obtain ⟨-, h3⟩ := rS_cons.mp h3
  have hv' : inR i := hv
  have e1 : ((i.toNat : Nat) : Int) = i := Int.toNat_of_nonneg hi.1
  refine va_ti hx hb (hRO.1 c hc).2 hS (vp_in_of_inb hv hi) (v := .int (Int32.ofInt (roV c i))) ?_ hd (kk H locs ls hP hS hL h1 h2 (rS_cons.mpr ⟨roV_inR _ _, h3⟩))
  rw [of_clamp hv', e1]
theorem a_gsN (C : Cx sh nL cc own fr lo E) {i : Nat} (c : Nat) (hc : isRo c) (hl : ∀ ad A U H, RO ad A U H → va_Nw (.fieldLinkNest own i "StackStates" (roN c) "[I" "StackStates") U) (hd : decode cc pc = .ok (.getstatic i, 3)) (kk : AW sh nL E (pc + 3) lv (.inr c :: st) M) : AW sh nL E pc lv st M := by
  obtain ⟨p, l, e, R, s, m, args, below, meth, c0, Q, ad, cA, D⟩ := E
  obtain ⟨hx, hb, hml, ho, ht, hK, hA, hRO, -⟩ := C
  intro H locs ls hP hS hL h1 h2 h3
  exact va_getsN hx hb (hRO.1 c hc).1 hS ho (va_Nw.use rfl (hl _ _ _ _ hRO)) (fun _ h => h) hd (kk H locs ls hP hS hL h1 h2 (rS_cons.mpr ⟨trivial, h3⟩))
theorem a_gsO (C : Cx sh nL cc own fr lo E) {i : Nat} (c : Nat) (hc : isRo c) (hl : Cond.fieldLink own i "StackStates" (roN c) "[I" ∈ gT) (hd : decode cc pc = .ok (.getstatic i, 3)) (kk : AW sh nL E (pc + 3) lv (.inr c :: st) M) : AW sh nL E pc lv st M := by
  obtain ⟨p, l, e, R, s, m, args, below, meth, c0, Q, ad, cA, D⟩ := E
  obtain ⟨hx, hb, hml, ho, ht, hK, hA, hRO, -⟩ := C
  intro H locs ls hP hS hL h1 h2 h3
  exact va_gets hx hb (hRO.1 c hc).1 hS ho (ht _ hl) (fun _ h => h) hd (kk H locs ls hP hS hL h1 h2 (rS_cons.mpr ⟨trivial, h3⟩))
theorem a_ldcS (C : Cx sh nL cc own fr lo E) {i : Nat} {tx : String} (c : Nat) (hl : ∀ ad A U H, RO ad A U H → vk_R own i tx (ad c) U) (hd : decode cc pc = .ok (.ldc i, 2)) (kk : AW sh nL E (pc + 2) lv (.inr c :: st) M) : AW sh nL E pc lv st M := by
  obtain ⟨p, l, e, R, s, m, args, below, meth, c0, Q, ad, cA, D⟩ := E
  obtain ⟨hx, hb, hml, ho, ht, hK, hA, hRO, -⟩ := C
  intro H locs ls hP hS hL h1 h2 h3
  exact va_ldcS hx hb ho (hl _ _ _ _ hRO) hd (kk H locs ls hP hS hL h1 h2 (rS_cons.mpr ⟨trivial, h3⟩))
theorem a_tsIn (C : Cx sh nL cc own fr lo E) {x dflt l0 h0 off : Int} {offs : Array Int} {len : Nat} (tgt : Nat) (z : Int) (hxz : x = z) (hd : decode cc pc = .ok (.tableswitch dflt l0 h0 offs, len)) (hi : ¬ z < l0 ∧ ¬ h0 < z ∧ offs[(z - l0).toNat]? = some off ∧ (pc : Int) + off = (tgt : Int)) (kk : AW sh nL E tgt lv st M) : AW sh nL E pc lv (.inl x :: st) M := by
  obtain ⟨p, l, e, R, s, m, args, below, meth, c0, Q, ad, cA, D⟩ := E
  obtain ⟨hx, hb, hml, ho, ht, hK, hA, hRO, -⟩ := C
  subst hxz
  intro H locs ls hP hS hL h1 h2 h3
  obtain ⟨hv, h3⟩ := rS_cons.mp h3
  have e1 : (Int32.ofInt x).toInt = x := tio hv
  exact lv_tableIn hx hb hd (by rw [e1]; exact hi.1) (by rw [e1]; exact hi.2.1) (by rw [e1]; exact hi.2.2.1) hi.2.2.2 (kk H locs ls hP hS hL h1 h2 h3)
theorem a_tsOut (C : Cx sh nL cc own fr lo E) {x dflt l0 h0 : Int} {offs : Array Int} {len : Nat} (tgt : Nat) (hd : decode cc pc = .ok (.tableswitch dflt l0 h0 offs, len)) (hi : x < l0 ∨ h0 < x) (htg : (pc : Int) + dflt = (tgt : Int)) (kk : AW sh nL E tgt lv st M) : AW sh nL E pc lv (.inl x :: st) M := by
  obtain ⟨p, l, e, R, s, m, args, below, meth, c0, Q, ad, cA, D⟩ := E
  obtain ⟨hx, hb, hml, ho, ht, hK, hA, hRO, -⟩ := C
  intro H locs ls hP hS hL h1 h2 h3
  obtain ⟨hv, h3⟩ := rS_cons.mp h3
  have e1 : (Int32.ofInt x).toInt = x := tio hv
  exact lv_tableOut hx hb hd (by rw [e1]; exact hi) htg (kk H locs ls hP hS hL h1 h2 h3)
theorem a_lk (C : Cx sh nL cc own fr lo E) {x dflt off : Int} {ps : Array (Int × Int)} {len : Nat} (tgt : Nat) (hd : decode cc pc = .ok (.lookupswitch dflt ps, len)) (hp : (ps.toList.zip (ps.toList.drop 1)).all (fun (a, next) => a.1 < next.1) = true) (hoff : Op.lookupswitch.offset ps.toList dflt x = off) (htg : (pc : Int) + off = (tgt : Int)) (kk : AW sh nL E tgt lv st M) : AW sh nL E pc lv (.inl x :: st) M := by
  obtain ⟨p, l, e, R, s, m, args, below, meth, c0, Q, ad, cA, D⟩ := E
  obtain ⟨hx, hb, hml, ho, ht, hK, hA, hRO, -⟩ := C
  intro H locs ls hP hS hL h1 h2 h3
  obtain ⟨hv, h3⟩ := rS_cons.mp h3
  have e1 : (Int32.ofInt x).toInt = x := tio hv
  exact lv_lookup hx hb hd hp (by rw [e1]; exact hoff) htg (kk H locs ls hP hS hL h1 h2 h3)
theorem a_iret (C : Cx sh nL cc own fr lo E) {R' : Int → Mem → Prop} (X : Rx sh (some .int) R' E) {x : Int} (hd : decode cc pc = .ok (.ireturn, 1)) (h : R' x M) : AW sh nL E pc lv [.inl x] M := by
  obtain ⟨p, l, e, R, s, m, args, below, meth, c0, Q, ad, cA, D⟩ := E
  obtain ⟨hx, hb, hml, ho, ht, hK, hA, hRO, hlk, -⟩ := C
  obtain ⟨x1, rfl⟩ := X
  intro H locs ls hP hS hL h1 h2 h3
  exact W.iret hx hb x1 (fun t htt _ => ⟨x, M, rfl, h, (rS_cons.mp h3).1, h1, by rw [htt]; exact hP, hS.F htt⟩) hS.2.2 hd hlk
theorem a_zret (C : Cx sh nL cc own fr lo E) {R' : Int → Mem → Prop} {ty : FieldType} (X : Rx sh (some ty) R' E) {x : Int} (hn : narrow ty (.int (Int32.ofInt x)) = .int (Int32.ofInt x)) (hd : decode cc pc = .ok (.ireturn, 1)) (h : R' x M) : AW sh nL E pc lv [.inl x] M := by
  obtain ⟨p, l, e, R, s, m, args, below, meth, c0, Q, ad, cA, D⟩ := E
  obtain ⟨hx, hb, hml, ho, ht, hK, hA, hRO, hlk, -⟩ := C
  obtain ⟨x1, rfl⟩ := X
  intro H locs ls hP hS hL h1 h2 h3
  exact W.zret hx hb x1 hn (fun t htt _ => ⟨x, M, rfl, h, (rS_cons.mp h3).1, h1, by rw [htt]; exact hP, hS.F htt⟩) hS.2.2 hd hlk
theorem a_bret (C : Cx sh nL cc own fr lo E) {R' : Int → Mem → Prop} (X : Rx sh (some .boolean) R' E) {x : Int} (hn : x = 0 ∨ x = 1) (hd : decode cc pc = .ok (.ireturn, 1)) (h : R' x M) : AW sh nL E pc lv [.inl x] M := a_zret C X (b01_nar hn).1 hd h
theorem a_vret (C : Cx sh nL cc own fr lo E) {R' : Int → Mem → Prop} (X : Rx sh none R' E) (hd : decode cc pc = .ok (.return_, 1)) (h : R' 0 M) : AW sh nL E pc lv [] M := by
  obtain ⟨p, l, e, R, s, m, args, below, meth, c0, Q, ad, cA, D⟩ := E
  obtain ⟨hx, hb, hml, ho, ht, hK, hA, hRO, hlk, -⟩ := C
  obtain ⟨x1, rfl⟩ := X
  intro H locs ls hP hS hL h1 h2 h3
  exact W.vret hx hb x1 (fun t htt _ => ⟨0, M, rfl, h, by unfold inR; decide, h1, by rw [htt]; exact hP, hS.F htt⟩) hS.2.2 hd hlk
end Rows
end
section
/-! contracts: entry and calls -/
theorem lvl_none (ad : Nat → Nat) : ∀ (k n : Nat), lvl ad n (List.replicate k none) = [] := by
  intro k
  induction k with
  | zero => intro n; rfl
  | succ k ih => intro n; rw [List.replicate_succ]; exact ih (n + 1)
theorem lvl_args (ad : Nat → Nat) (k : Nat) : ∀ (as : List AV) (n : Nat), lvl ad n (as.map some ++ List.replicate k none) = lv_args n (as.map (cv ad)) := by
  intro as
  induction as with
  | nil => intro n; exact lvl_none ad k n
  | cons a t ih =>
    intro n
    show (n, cv ad a) :: lvl ad (n + 1) (t.map some ++ List.replicate k none) = (n, cv ad a) :: lv_args (if (cv ad a).category = 2 then n + 2 else n + 1) (t.map (cv ad))
    rw [ih (n + 1), if_neg (by rw [cv_cat]; decide)]
theorem sl_len (ad : Nat → Nat) : ∀ as : List AV, (lg_sl (as.map (cv ad))).length = as.length := by
  intro as
  induction as with
  | nil => rfl
  | cons a t ih =>
    have h : (cv ad a).category = 1 := cv_cat ad a
    unfold lg_sl at ih ⊢
    rw [List.map_cons, List.flatMap_cons, List.length_append, ih, if_neg (by rw [h]; decide), List.length_cons, List.length_cons, List.length_nil]
    omega
theorem Snd.of {sh : List Sh} {y : MethodName} {bytes : ByteArray} {maxL : Nat} {ret : Option FieldType} {fr lo : Nat} {as : List AV} {F : Mem → (Int → Mem → Prop) → Prop} (own : String) (hy : plainName y.cls = true) (hown : y.cls = own) (hlen : as.length ≤ maxL)
    (body : ∀ (E : EE) (M : Mem) (R' : Int → Mem → Prop), F M R' → Cx sh maxL bytes own fr lo E → Rx sh ret R' E → AW sh maxL E 0 (as.map some ++ List.replicate (maxL - as.length) none) [] M) : Snd sh y bytes maxL ret fr lo as F := by
  intro l D ad cA M R' hF hM hA
  refine Met.ofW (cc := bytes) (maxL := maxL) (ret := ret) hy rfl ?_
  intro p e s m args below meth c s₁ B hml hv
  obtain ⟨rfl, hP, hK, hAp, hRO⟩ := hv
  have hts := atoms_spec (ws := .code y bytes maxL ret :: gT) B.pre
  have ho : s.vm.findClass own = some m.cls := hown ▸ findClass_of_methodNamed B.named
  have hl := lv_entry (as.map (cv ad)) (n := maxL) (by rw [sl_len]; exact hlen)
  rw [lg_entry_eq]
  generalize (lg_sl (as.map (cv ad)) ++ List.replicate (maxL - (lg_sl (as.map (cv ad))).length) Slot.unset).toArray = ls at hl ⊢
  have k := body (p, l, e, { frames := fr, cells := 0, slots := 0, locals := lo }, s, m, (as.map (cv ad)).toArray, below, meth, c, MQ below (QX sh D ad cA ret R') (as.map (cv ad)).toArray s 0 0 (aS sh ad), ad, cA, D) M R' hF
    ⟨B.exec, B.bytes, hml, ho, fun w hw => hts w (List.mem_cons_of_mem _ hw), hK, hAp, hRO, B.notSynchronized, rfl⟩ ⟨B.returns, rfl⟩
  refine k s.heap [] ls hP va_S.rf ?_ hM ?_ (fun v hv => absurd hv List.not_mem_nil)
  · unfold LH; rw [lvl_args]; exact hl
  · intro v hv
    rcases List.mem_append.mp hv with h | h
    · obtain ⟨a, h1, h2⟩ := List.mem_map.mp h
      cases h2
      exact hA _ h1
    · cases (List.eq_of_mem_replicate h)
/-- what is known of a method that is called -/
def MW (y : MethodName) (bytes : ByteArray) (maxL : Nat) (ret : Option FieldType) (n : Nat) : Prop :=
  Cond.code y bytes maxL ret ∈ gT ∧ Cond.initialized y.cls ∈ gT ∧ (y.cls ≠ "java/lang/invoke/MethodHandle" ∧ y.cls ≠ "java/lang/invoke/VarHandle") ∧ (parseMethodDescriptor y.desc).map (fun d => d.parameters.length) = some n
def MWv (y : MethodName) (bytes : ByteArray) (maxL : Nat) (ret : Option FieldType) (n : Nat) : Prop := MW y bytes maxL ret n ∧ Cond.instanceMethod y ∈ gT ∧ Cond.selects y.cls y y ∈ gT
def MWs (y : MethodName) (bytes : ByteArray) (maxL : Nat) (ret : Option FieldType) (n : Nat) : Prop := MW y bytes maxL ret n ∧ Cond.static y ∈ gT
theorem MW.cb {y : MethodName} {bytes : ByteArray} {maxL : Nat} {ret : Option FieldType} {n fr lo f2 l2 i : Nat} {own : String} {s : State} {args : Array Value} (h : MW y bytes maxL ret n) (ht : ∀ w ∈ gT, w.before args s = true) (hl : Cond.methodLink own i y ∈ gT) (hf : f2 + 1 ≤ fr) (hlo : 8 + (maxL + 11) + l2 ≤ lo) :
    CallB { frames := fr, cells := 0, slots := 0, locals := lo } s args own i y bytes maxL ret (.code y bytes maxL ret :: gT) { frames := f2, cells := 0, slots := 0, locals := l2 } 0 0 n := by
  obtain ⟨h1, h2, h3, h4⟩ := h
  refine ⟨rfl, rfl, hf, hlo, ?_, List.mem_cons_self, ht _ h1, ht _ h2, h3, fun sig hs => ?_, ht _ hl⟩
  · intro w hw a' U hW
    have hw' : w ∈ gT := (List.mem_cons.mp hw).elim (fun q => q ▸ h1) id
    exact word_at hW (gT_good hw') (ht w hw')
  · rw [hs] at h4; exact (Option.some.inj h4).symm
theorem PX.blind {sh : List Sh} {D : va_G} {ad : Nat → Nat} {cA : Nat → ClassId} {as : List AV} {M : Mem} : FrameBlind (PX sh D ad cA as M) := by
  intro a U g mk h
  obtain ⟨h0, h1, h2, h3, h4⟩ := h
  exact ⟨h0, h1, va_K.moved (u := U) (U := U.calling g mk a) (Vm.Alike.refl U.vm) h2, h3, RO.same (u := U) (U := U.calling g mk a) rfl h4⟩
theorem PX.mk {sh : List Sh} {D : va_G} {ad : Nat → Nat} {cA : Nat → ClassId} {as : List AV} {M : Mem} {s : State} {H : Heap} {locs : List Loc} (hP : va_P D vwCl (sW sh ad cA M) H) (hK : va_K D vwCl (tyS cA) s) (hA : Ap sh ad) (hRO : RO ad (aS sh ad) s s.heap) (hS : va_S (aS sh ad) s.heap H locs) : ∀ U : State, U.heap = H → s.WarmedH U.vm → PX sh D ad cA as M (as.map (cv ad)).toArray U := by
  intro U hU hW
  exact ⟨rfl, by rw [hU]; exact hP, va_K.moved hW.alike hK, hA, by rw [hU]; exact (hRO.warm hW).kept hS.2.1⟩
theorem cats_len (ad : Nat → Nat) : ∀ st : List AV, ((st.map (cv ad)).map fun v => v.category).sum = st.length := by
  intro st
  induction st with
  | nil => rfl
  | cons a t ih => rw [List.map_cons, List.map_cons, List.sum_cons, ih, cv_cat, List.length_cons]; omega
theorem ret_stack (ad : Nat → Nat) (ret : Option FieldType) (r : Int) (rest : List AV) : (retV ret r).toList ++ rest.map (cv ad) = (retA ret r ++ rest).map (cv ad) := by
  cases ret <;> rfl
section Calls
variable {p : Program} {l : Launch} {e : Env} {R : Room} {s : State} {m : MethodId} {args : Array Value} {below : List Frame} {meth : Method} {c : Code} {H : Heap} {locs : List Loc} {Q : State → Prop}
theorem a_run {sh : List Sh} {D : va_G} {ad : Nat → Nat} {cA : Nat → ClassId} {ret : Option FieldType} {Rr : Int → Mem → Prop} {a : Array Value} {pc : Nat} {ls : Array Slot} {st0 rest : List Value}
    (hr : va_Run p l e R s m args below meth c H locs 0 0 0 0 (F0 m pc ls st0) rest (QX sh D ad cA ret Rr a) (aS sh ad)) (hS : va_S (aS sh ad) s.heap H locs)
    (kk : ∀ (r : Int) (M' : Mem) (H1 : Heap) (locs1 : List Loc), Rr r M' → inR r → rM M' → va_P D vwCl (sW sh ad cA M') H1 → va_S (aS sh ad) s.heap H1 locs1 → W p l e R s m args below meth c H1 locs1 0 0 Q (F0 m (pc + 3) ls ((retV ret r).toList ++ rest))) : W p l e R s m args below meth c H locs 0 0 Q (F0 m pc ls st0) := by
  intro T hT X
  obtain ⟨v, st₀, t, T', L, h0, X', hL, e1, e2, ⟨r, M', hv, hp, hr1, hr2, hw, hz, hk⟩, st⟩ := hr T hT X
  cases hv
  rw [h0] at hz hk
  obtain ⟨t2, a1, b1⟩ := kk r M' T'.heap (locs ++ L) hp hr1 hr2 (by rw [e1]; exact hw)
    ⟨Nat.le_trans hS.1 (by rw [e1]; exact hz), fun q h1 h2 => by rw [e1, hk q (Nat.lt_of_lt_of_le h1 hS.1) h2]; exact hS.2.1 q h1 h2, fun q hq => by
      rcases List.mem_append.mp hq with h | h
      · exact hS.2.2 q h
      · exact hL q h⟩ T' rfl X'
  exact ⟨t2, st t2 a1, b1⟩
end Calls
section Rows
variable {sh : List Sh} {nL : Nat} {cc : ByteArray} {own : String} {fr lo : Nat} {E : EE} {pc : Nat} {lv : List (Option AV)} {M : Mem}
theorem a_callS (C : Cx sh nL cc own fr lo E) {y : MethodName} {bytes : ByteArray} {maxL : Nat} {ret : Option FieldType} {n i f2 l2 : Nat} {F : Mem → (Int → Mem → Prop) → Prop} (as rest : List AV) {st : List AV}
    (hd : decode cc pc = .ok (.invokestatic i, 3)) (hM : Snd sh y bytes maxL ret f2 l2 as F) (hy : MWs y bytes maxL ret n) (hl : Cond.methodLink own i y ∈ gT) (hn : as.length = n ∧ st = as.reverse ++ rest ∧ rest.length ≤ 8 ∧ f2 + 1 ≤ fr ∧ 8 + (maxL + 11) + l2 ≤ lo)
    {R1 : Int → Mem → Prop} (k : F M R1) (kk : ∀ r M', R1 r M' → AW sh nL E (pc + 3) lv (retA ret r ++ rest) M') : AW sh nL E pc lv st M := by
  obtain ⟨p, l, e, R, s, m, args, below, meth, c, Q, ad, cA, D⟩ := E
  obtain ⟨hx, hb, hml, ho, ht, hK, hA, hRO, hlk, rfl⟩ := C
  obtain ⟨n1, rfl, n2, n3, n4⟩ := hn
  intro H locs ls hP hS hL h1 h2 h3
  have ha : rS as := fun v hv => h3 v (List.mem_append_left _ (List.mem_reverse.mpr hv))
  have hr : rS rest := fun v hv => h3 v (List.mem_append_right _ hv)
  refine a_run (rest := rest.map (cv ad)) (va_runS (As := as.map (cv ad)) (Ts := gT) ⟨hx, hb, hml, ho, ht⟩ (hM l D ad cA M _ k h1 ha) ⟨hy.1.cb ht hl n3 n4, ht _ hy.2⟩ ⟨PX.blind, PX.mk hP hK hA hRO hS⟩ rfl (by rw [List.length_map]; exact n1) hL.1 (by simp) (by show 2 * 0 + _ ≤ 8; rw [cats_len]; omega) hd ⟨Nat.le_refl _, Nat.le_refl _⟩) hS (fun r M' H1 locs1 hq q1 q2 q3 q4 => ?_)
  rw [ret_stack]
  refine kk r M' hq H1 locs1 ls q3 q4 hL q2 h2 (fun v hv => ?_)
  rcases List.mem_append.mp hv with h | h
  · cases ret with
    | none => exact absurd h List.not_mem_nil
    | some t => rw [List.mem_singleton.mp h]; exact q1
  · exact hr v h
theorem a_callV (C : Cx sh nL cc own fr lo E) {y : MethodName} {bytes : ByteArray} {maxL : Nat} {ret : Option FieldType} {n i f2 l2 cell ci N : Nat} {T : u_T} {fs : List (Option Nat)} {F : Mem → (Int → Mem → Prop) → Prop} (as rest : List AV) {st : List AV}
    (hd : decode cc pc = .ok (.invokevirtual i, 3)) (hM : Snd sh y bytes maxL ret f2 l2 (.inr cell :: as) F) (hy : MWv y bytes maxL ret n) (hl : Cond.methodLink own i y ∈ gT) (hs : sh[cell]? = some (.inr (ci, fs))) (hc : vwCl[ci]? = some (y.cls, T, N)) (hn : as.length = n ∧ st = as.reverse ++ .inr cell :: rest ∧ rest.length ≤ 8 ∧ f2 + 1 ≤ fr ∧ 8 + (maxL + 11) + l2 ≤ lo)
    {R1 : Int → Mem → Prop} (k : F M R1) (kk : ∀ r M', R1 r M' → AW sh nL E (pc + 3) lv (retA ret r ++ rest) M') : AW sh nL E pc lv st M := by
  obtain ⟨p, l, e, R, s, m, args, below, meth, c, Q, ad, cA, D⟩ := E
  obtain ⟨hx, hb, hml, ho, ht, hK, hA, hRO, hlk, rfl⟩ := C
  obtain ⟨n1, rfl, n2, n3, n4⟩ := hn
  intro H locs ls hP hS hL h1 h2 h3
  have ha : rS (.inr cell :: as) := rS_cons.mpr ⟨trivial, fun v hv => h3 v (List.mem_append_left _ (List.mem_reverse.mpr hv))⟩
  have hr : rS rest := fun v hv => h3 v (List.mem_append_right _ (List.mem_cons_of_mem _ hv))
  refine a_run (rest := rest.map (cv ad)) (va_runV (C := y.cls) (b := ad cell) (As := as.map (cv ad)) (Ts := gT) ⟨hx, hb, hml, ho, ht⟩ (hM l D ad cA M _ k h1 ha) ⟨hy.1.cb ht hl n3 n4, ht _ hy.2.1, ht _ hy.2.2⟩ ⟨PX.blind, va_recv hK hP hc (sW_at hs), PX.mk hP hK hA hRO hS⟩ rfl (by rw [List.length_map]; exact n1) hL.1 (by simp [cv]) (by show 2 * 0 + _ ≤ 8; rw [cats_len]; omega) hd ⟨Nat.le_refl _, Nat.le_refl _⟩) hS (fun r M' H1 locs1 hq q1 q2 q3 q4 => ?_)
  rw [ret_stack]
  refine kk r M' hq H1 locs1 ls q3 q4 hL q2 h2 (fun v hv => ?_)
  rcases List.mem_append.mp hv with h | h
  · cases ret with
    | none => exact absurd h List.not_mem_nil
    | some t => rw [List.mem_singleton.mp h]; exact q1
  · exact hr v h
/-- a call on a String constant -/
theorem a_callK (C : Cx sh nL cc own fr lo E) {y : MethodName} {bytes : ByteArray} {maxL : Nat} {ret : Option FieldType} {n i f2 l2 : Nat} {F : Mem → (Int → Mem → Prop) → Prop} (cell : Nat) (as rest : List AV) {st : List AV}
    (hd : decode cc pc = .ok (.invokevirtual i, 3)) (hM : Snd sh y bytes maxL ret f2 l2 (.inr cell :: as) F) (hy : MWv y bytes maxL ret n) (hl : Cond.methodLink own i y ∈ gT) (hk : (cell = 110 ∨ cell = 111) ∧ y.cls = "java/lang/String") (hn : as.length = n ∧ st = as.reverse ++ .inr cell :: rest ∧ rest.length ≤ 8 ∧ f2 + 1 ≤ fr ∧ 8 + (maxL + 11) + l2 ≤ lo)
    {R1 : Int → Mem → Prop} (k : F M R1) (kk : ∀ r M', R1 r M' → AW sh nL E (pc + 3) lv (retA ret r ++ rest) M') : AW sh nL E pc lv st M := by
  obtain ⟨p, l, e, R, s, m, args, below, meth, c, Q, ad, cA, D⟩ := E
  obtain ⟨hx, hb, hml, ho, ht, hK, hA, hRO, hlk, rfl⟩ := C
  obtain ⟨n1, rfl, n2, n3, n4⟩ := hn
  intro H locs ls hP hS hL h1 h2 h3
  have ha : rS (.inr cell :: as) := rS_cons.mpr ⟨trivial, fun v hv => h3 v (List.mem_append_left _ (List.mem_reverse.mpr hv))⟩
  have hr : rS rest := fun v hv => h3 v (List.mem_append_right _ (List.mem_cons_of_mem _ hv))
  have hrec : ∃ cellB : Cell, H[ad cell]? = some cellB ∧ cellB.vm.isStatics = false ∧ s.vm.findClass y.cls = some cellB.cls := by
    rw [hk.2]
    rcases hk.1 with rfl | rfl
    · exact vk_recv (i := 0) hRO.2.1 (by decide) hS
    · exact vk_recv (i := 1) hRO.2.1 (by decide) hS
  refine a_run (rest := rest.map (cv ad)) (va_runV (C := y.cls) (b := ad cell) (As := as.map (cv ad)) (Ts := gT) ⟨hx, hb, hml, ho, ht⟩ (hM l D ad cA M _ k h1 ha) ⟨hy.1.cb ht hl n3 n4, ht _ hy.2.1, ht _ hy.2.2⟩ ⟨PX.blind, hrec, PX.mk hP hK hA hRO hS⟩ rfl (by rw [List.length_map]; exact n1) hL.1 (by simp [cv]) (by show 2 * 0 + _ ≤ 8; rw [cats_len]; omega) hd ⟨Nat.le_refl _, Nat.le_refl _⟩) hS (fun r M' H1 locs1 hq q1 q2 q3 q4 => ?_)
  rw [ret_stack]
  refine kk r M' hq H1 locs1 ls q3 q4 hL q2 h2 (fun v hv => ?_)
  rcases List.mem_append.mp hv with h | h
  · cases ret with
    | none => exact absurd h List.not_mem_nil
    | some t => rw [List.mem_singleton.mp h]; exact q1
  · exact hr v h
/-- locals that are no more needed -/
def dropL : List Bool → List (Option AV) → List (Option AV)
  | [], t => t
  | _ :: _, [] => []
  | true :: bs, o :: t => o :: dropL bs t
  | false :: bs, _ :: t => none :: dropL bs t
theorem dropL_at : ∀ (bs : List Bool) (lv : List (Option AV)) (k : Nat) (v : AV), (dropL bs lv)[k]? = some (some v) → lv[k]? = some (some v)
  | [], _, _, _, h => h
  | _ :: _, [], _, _, h => h
  | true :: bs, o :: t, 0, v, h => h
  | true :: bs, o :: t, k + 1, v, h => dropL_at bs t k v h
  | false :: bs, o :: t, 0, v, h => by simp [dropL] at h
  | false :: bs, o :: t, k + 1, v, h => dropL_at bs t k v h
theorem a_drop (bs : List Bool) {lv2 : List (Option AV)} {st : List AV} (h : dropL bs lv = lv2) (k : AW sh nL E pc lv2 st M) : AW sh nL E pc lv st M := by
  obtain ⟨p, l, e, R, s, m, args, below, meth, c, Q, ad, cA, D⟩ := E
  subst h
  intro H locs ls hP hS hL h1 h2 h3
  refine k H locs ls hP hS ⟨hL.1, hL.2.1, fun q hq => ?_⟩ h1 (fun v hv => ?_) h3
  · obtain ⟨j, w, rfl, hj⟩ := (lvl_mem _ 0).mp hq
    exact hL.2.2 _ ((lvl_mem lv 0).mpr ⟨j, w, rfl, dropL_at _ _ _ _ hj⟩)
  · obtain ⟨j, hj⟩ := List.getElem?_of_mem hv
    exact h2 v (List.mem_of_getElem? (dropL_at _ _ _ _ hj))
/-- System.arraycopy between two int arrays -/
def mcopy (M : Mem) (c0 : Nat) (sp : Int) (c1 : Nat) (dp n : Int) : Mem := fun d j => if d = c1 ∧ dp ≤ j ∧ j < dp + n then M c0 (sp + (j - dp)) else M d j
theorem a_copy (C : Cx sh nL cc own fr lo E) {i c0 c1 n0 n1 : Nat} {sp dp n : Int} {st : List AV} (hd : decode cc pc = .ok (.invokestatic i, 3)) (hl : Cond.methodLink own i arraycopyName ∈ gT) (hw : Cond.native arraycopyName ∈ gT ∧ Cond.static arraycopyName ∈ gT ∧ Cond.initialized "java/lang/System" ∈ gT)
    (hs0 : sh[c0]? = some (.inl (0, n0))) (hs1 : sh[c1]? = some (.inl (0, n1))) (hb0 : 0 ≤ sp ∧ 0 ≤ dp ∧ 0 ≤ n ∧ sp + n ≤ n0 ∧ dp + n ≤ n1) (hr : st.length ≤ 4 ∧ 1 ≤ fr ∧ 24 ≤ lo)
    (kk : AW sh nL E (pc + 3) lv st (mcopy M c0 sp c1 dp n)) : AW sh nL E pc lv (.inl n :: .inl dp :: .inr c1 :: .inl sp :: .inr c0 :: st) M := by
  obtain ⟨p, l, e, R, s, m, args, below, meth, c, Q, ad, cA, D⟩ := E
  obtain ⟨hx, hb, hml, ho, ht, hK, hA, hRO, hlk, rfl⟩ := C
  intro H locs ls hP hS hL h1 h2 h3
  obtain ⟨gn, h3⟩ := rS_cons.mp h3
  obtain ⟨gd, h3⟩ := rS_cons.mp h3
  obtain ⟨-, h3⟩ := rS_cons.mp h3
  obtain ⟨gs, h3⟩ := rS_cons.mp h3
  obtain ⟨-, h3⟩ := rS_cons.mp h3
  have gn' : inR n := gn
  have gd' : inR dp := gd
  have gs' : inR sp := gs
  have z0 : inR 0 := by unfold inR; decide
  obtain ⟨b1, b2, b3, b4, b5⟩ := hb0
  refine va_copyi hx hb (by rw [hml]; exact hL.1.symm) ho (ht _ hl) (ht _ hw.1) (ht _ hw.2.1) (ht _ hw.2.2) hK hP (sW_D hA) hS c0 c1 0 0 (sW_at hs0) (sW_at hs1) rfl rfl rfl
    (fun q => absurd ((of_lt (y := 0) gs' z0).mp q) (by omega)) (fun q => absurd ((of_lt (y := 0) gd' z0).mp q) (by omega)) (fun q => absurd ((of_lt (y := 0) gn' z0).mp q) (by omega))
    (by rw [of_clamp gs', of_clamp gn']; omega) (by rw [of_clamp gd', of_clamp gn']; omega) (fun _ _ => rfl) hr.2.1 (by rw [cats_len]; have : nativeFrameWords "java/lang/System" "arraycopy" 5 = 7 := by decide +kernel
                                                                                                                        rw [this]; show _ ≤ lo; omega) hd (fun H1 locs1 hP1 _ hS1 => ?_)
  rw [of_clamp gs', of_clamp gd', of_clamp gn'] at hP1
  have key : (sW sh ad cA M).set c1 (ad c1, .inl (cA 0, n1, .inl (va_cpy (fun i => Int32.ofInt (M c0 i)) (fun i => Int32.ofInt (M c1 i)) sp.toNat dp.toNat n.toNat))) = sW sh ad cA (mcopy M c0 sp c1 dp n) := by
    apply List.ext_getElem?
    intro k
    have hl : c1 < (sW sh ad cA M).length := by unfold sW; rw [List.length_mapIdx]; exact (List.getElem?_eq_some_iff.mp hs1).1
    by_cases hk : k = c1
    · subst hk
      rw [List.getElem?_set_self hl, sW_at hs1]
      refine congrArg some (congrArg (Prod.mk (ad k)) ?_)
      show Sum.inl _ = Sum.inl _
      refine congrArg Sum.inl (congrArg (Prod.mk (cA 0)) (congrArg (Prod.mk n1) (congrArg Sum.inl ?_)))
      funext j
      unfold va_cpy mcopy
      by_cases hj : dp.toNat ≤ j ∧ j < dp.toNat + n.toNat
      · rw [if_pos hj, if_pos ⟨rfl, by omega, by omega⟩]
        have e1 : ((sp.toNat + (j - dp.toNat) : Nat) : Int) = sp + ((j : Int) - dp) := by omega
        show Int32.ofInt (M c0 ((sp.toNat + (j - dp.toNat) : Nat) : Int)) = _
        rw [e1]
      · rw [if_neg hj, if_neg (fun q => hj ⟨by omega, by omega⟩)]
    · rw [List.getElem?_set_ne (Ne.symm hk)]
      cases hx : sh[k]? with
      | none => unfold sW; rw [List.getElem?_mapIdx, List.getElem?_mapIdx, hx]; rfl
      | some x =>
        rw [sW_at hx, sW_at hx]
        have hm : ∀ j, mcopy M c0 sp c1 dp n k j = M k j := fun j => by unfold mcopy; rw [if_neg (fun q => hk q.1)]
        refine congrArg some (congrArg (Prod.mk (ad k)) ?_)
        rcases x with ⟨t, n⟩ | ⟨ci, fs⟩
        · show Sum.inl _ = Sum.inl _
          simp only [hm]
        · show Sum.inr _ = Sum.inr _
          have : sF ad (mcopy M c0 sp c1 dp n) k = sF ad M k := by funext j o; cases o <;> simp [sF, hm]
          rw [this]
  refine kk H1 locs1 ls (by rw [← key]; exact hP1) hS1 hL (fun d j => ?_) h2 h3
  unfold mcopy; split
  · exact h1 _ _
  · exact h1 _ _
end Rows
end
