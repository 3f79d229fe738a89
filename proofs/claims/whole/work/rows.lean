section
-- ===== PART A: goes FIRST, ahead of the names: the tables' words, and 'selects' of the private methods out of them =====
/-- a private method of a class that the tables say can be made, by its rows of tables_1 -/
def lw_okq (q : MethodName × Nat) : Prop := (q.1.cls ≠ "java/lang/invoke/MethodHandle" ∧ q.1.cls ≠ "java/lang/invoke/VarHandle") ∧ Cond.instantiable q.1.cls q.2 ∈ tables_1 ∧ Cond.privateMethod q.1 ∈ tables_1 ∧ Cond.instanceMethod q.1 ∈ tables_1
theorem lw_p0 : lw_okq (⟨"StepPrograms$Tape", "takeCharacter", "(IZ)V"⟩, 9) := ⟨⟨by decide +kernel, by decide +kernel⟩, List.mem_of_getElem? (i := 32) (by decide +kernel), List.mem_of_getElem? (i := 272) (by decide +kernel), List.mem_of_getElem? (i := 273) (by decide +kernel)⟩
theorem lw_p1 : lw_okq (⟨"StepPrograms$Tape", "takeLine", "(LStepPrograms$Script;)Z"⟩, 9) := ⟨⟨by decide +kernel, by decide +kernel⟩, List.mem_of_getElem? (i := 32) (by decide +kernel), List.mem_of_getElem? (i := 276) (by decide +kernel), List.mem_of_getElem? (i := 277) (by decide +kernel)⟩
theorem lw_p2 : lw_okq (⟨"StepPrograms$Tape", "lengthOf", "(I)I"⟩, 9) := ⟨⟨by decide +kernel, by decide +kernel⟩, List.mem_of_getElem? (i := 32) (by decide +kernel), List.mem_of_getElem? (i := 280) (by decide +kernel), List.mem_of_getElem? (i := 281) (by decide +kernel)⟩
theorem lw_p3 : lw_okq (⟨"StepPrograms$Tape", "letterAt", "(II)I"⟩, 9) := ⟨⟨by decide +kernel, by decide +kernel⟩, List.mem_of_getElem? (i := 32) (by decide +kernel), List.mem_of_getElem? (i := 284) (by decide +kernel), List.mem_of_getElem? (i := 285) (by decide +kernel)⟩
theorem lw_p4 : lw_okq (⟨"StepPrograms$Tape", "isOfForm", "(LStepPrograms$Form;)Z"⟩, 9) := ⟨⟨by decide +kernel, by decide +kernel⟩, List.mem_of_getElem? (i := 32) (by decide +kernel), List.mem_of_getElem? (i := 301) (by decide +kernel), List.mem_of_getElem? (i := 302) (by decide +kernel)⟩
theorem lw_p5 : lw_okq (⟨"StepPrograms$Tape", "isWord", "(ILjava/lang/String;)Z"⟩, 9) := ⟨⟨by decide +kernel, by decide +kernel⟩, List.mem_of_getElem? (i := 32) (by decide +kernel), List.mem_of_getElem? (i := 315) (by decide +kernel), List.mem_of_getElem? (i := 316) (by decide +kernel)⟩
theorem lw_p6 : lw_okq (⟨"StepPrograms$Tape", "takeWord", "(IC)Z"⟩, 9) := ⟨⟨by decide +kernel, by decide +kernel⟩, List.mem_of_getElem? (i := 32) (by decide +kernel), List.mem_of_getElem? (i := 358) (by decide +kernel), List.mem_of_getElem? (i := 359) (by decide +kernel)⟩
theorem lw_p7 : lw_okq (⟨"StepPrograms$Tape", "onlyLetter", "(I)I"⟩, 9) := ⟨⟨by decide +kernel, by decide +kernel⟩, List.mem_of_getElem? (i := 32) (by decide +kernel), List.mem_of_getElem? (i := 362) (by decide +kernel), List.mem_of_getElem? (i := 363) (by decide +kernel)⟩
theorem lw_p8 : lw_okq (⟨"StepPrograms$Tape", "operandAt", "(I)I"⟩, 9) := ⟨⟨by decide +kernel, by decide +kernel⟩, List.mem_of_getElem? (i := 32) (by decide +kernel), List.mem_of_getElem? (i := 369) (by decide +kernel), List.mem_of_getElem? (i := 370) (by decide +kernel)⟩
theorem lw_p9 : lw_okq (⟨"java/util/ArrayList", "add", "(Ljava/lang/Object;[Ljava/lang/Object;I)V"⟩, 3) := ⟨⟨by decide +kernel, by decide +kernel⟩, List.mem_of_getElem? (i := 223) (by decide +kernel), List.mem_of_getElem? (i := 481) (by decide +kernel), List.mem_of_getElem? (i := 482) (by decide +kernel)⟩
theorem lw_p10 : lw_okq (⟨"java/util/ArrayList", "grow", "()[Ljava/lang/Object;"⟩, 3) := ⟨⟨by decide +kernel, by decide +kernel⟩, List.mem_of_getElem? (i := 223) (by decide +kernel), List.mem_of_getElem? (i := 485) (by decide +kernel), List.mem_of_getElem? (i := 486) (by decide +kernel)⟩
theorem lw_p11 : lw_okq (⟨"java/util/ArrayList", "grow", "(I)[Ljava/lang/Object;"⟩, 3) := ⟨⟨by decide +kernel, by decide +kernel⟩, List.mem_of_getElem? (i := 223) (by decide +kernel), List.mem_of_getElem? (i := 489) (by decide +kernel), List.mem_of_getElem? (i := 490) (by decide +kernel)⟩
theorem lw_p12 : lw_okq (⟨"StepPrograms$Machine", "follow", "(LStepPrograms$Script;LStepPrograms$Frame;I)I"⟩, 13) := ⟨⟨by decide +kernel, by decide +kernel⟩, List.mem_of_getElem? (i := 88) (by decide +kernel), List.mem_of_getElem? (i := 584) (by decide +kernel), List.mem_of_getElem? (i := 585) (by decide +kernel)⟩
theorem lw_p13 : lw_okq (⟨"StepPrograms$Machine", "perform", "(LStepPrograms$Statement;LStepPrograms$Script;LStepPrograms$Frame;)I"⟩, 13) := ⟨⟨by decide +kernel, by decide +kernel⟩, List.mem_of_getElem? (i := 88) (by decide +kernel), List.mem_of_getElem? (i := 598) (by decide +kernel), List.mem_of_getElem? (i := 599) (by decide +kernel)⟩
theorem lw_p14 : lw_okq (⟨"StepPrograms$Machine", "sizeFile", "(LStepPrograms$Frame;II)I"⟩, 13) := ⟨⟨by decide +kernel, by decide +kernel⟩, List.mem_of_getElem? (i := 88) (by decide +kernel), List.mem_of_getElem? (i := 637) (by decide +kernel), List.mem_of_getElem? (i := 638) (by decide +kernel)⟩
theorem lw_p15 : lw_okq (⟨"StepPrograms$Machine", "readFile", "(LStepPrograms$Frame;III)I"⟩, 13) := ⟨⟨by decide +kernel, by decide +kernel⟩, List.mem_of_getElem? (i := 88) (by decide +kernel), List.mem_of_getElem? (i := 646) (by decide +kernel), List.mem_of_getElem? (i := 647) (by decide +kernel)⟩
def lw_privs_1 : List (MethodName × Nat) := [(⟨"StepPrograms$Tape", "takeCharacter", "(IZ)V"⟩, 9), (⟨"StepPrograms$Tape", "takeLine", "(LStepPrograms$Script;)Z"⟩, 9), (⟨"StepPrograms$Tape", "lengthOf", "(I)I"⟩, 9), (⟨"StepPrograms$Tape", "letterAt", "(II)I"⟩, 9), (⟨"StepPrograms$Tape", "isOfForm", "(LStepPrograms$Form;)Z"⟩, 9), (⟨"StepPrograms$Tape", "isWord", "(ILjava/lang/String;)Z"⟩, 9), (⟨"StepPrograms$Tape", "takeWord", "(IC)Z"⟩, 9), (⟨"StepPrograms$Tape", "onlyLetter", "(I)I"⟩, 9), (⟨"StepPrograms$Tape", "operandAt", "(I)I"⟩, 9), (⟨"java/util/ArrayList", "add", "(Ljava/lang/Object;[Ljava/lang/Object;I)V"⟩, 3), (⟨"java/util/ArrayList", "grow", "()[Ljava/lang/Object;"⟩, 3), (⟨"java/util/ArrayList", "grow", "(I)[Ljava/lang/Object;"⟩, 3), (⟨"StepPrograms$Machine", "follow", "(LStepPrograms$Script;LStepPrograms$Frame;I)I"⟩, 13), (⟨"StepPrograms$Machine", "perform", "(LStepPrograms$Statement;LStepPrograms$Script;LStepPrograms$Frame;)I"⟩, 13), (⟨"StepPrograms$Machine", "sizeFile", "(LStepPrograms$Frame;II)I"⟩, 13), (⟨"StepPrograms$Machine", "readFile", "(LStepPrograms$Frame;III)I"⟩, 13)]
theorem lw_r1 : ∀ q ∈ lw_privs_1, lw_okq q := List.forall_mem_cons.mpr ⟨lw_p0, List.forall_mem_cons.mpr ⟨lw_p1, List.forall_mem_cons.mpr ⟨lw_p2, List.forall_mem_cons.mpr ⟨lw_p3, List.forall_mem_cons.mpr ⟨lw_p4, List.forall_mem_cons.mpr ⟨lw_p5, List.forall_mem_cons.mpr ⟨lw_p6, List.forall_mem_cons.mpr ⟨lw_p7, List.forall_mem_cons.mpr ⟨lw_p8, List.forall_mem_cons.mpr ⟨lw_p9, List.forall_mem_cons.mpr ⟨lw_p10, List.forall_mem_cons.mpr ⟨lw_p11, List.forall_mem_cons.mpr ⟨lw_p12, List.forall_mem_cons.mpr ⟨lw_p13, List.forall_mem_cons.mpr ⟨lw_p14, List.forall_mem_cons.mpr ⟨lw_p15, fun _ h => absurd h List.not_mem_nil⟩⟩⟩⟩⟩⟩⟩⟩⟩⟩⟩⟩⟩⟩⟩⟩
theorem lw_p16 : lw_okq (⟨"StepPrograms$Machine", "writeFile", "(II)I"⟩, 13) := ⟨⟨by decide +kernel, by decide +kernel⟩, List.mem_of_getElem? (i := 88) (by decide +kernel), List.mem_of_getElem? (i := 651) (by decide +kernel), List.mem_of_getElem? (i := 652) (by decide +kernel)⟩
theorem lw_p17 : lw_okq (⟨"StepPrograms$Machine", "dropFile", "(I)I"⟩, 13) := ⟨⟨by decide +kernel, by decide +kernel⟩, List.mem_of_getElem? (i := 88) (by decide +kernel), List.mem_of_getElem? (i := 660) (by decide +kernel), List.mem_of_getElem? (i := 661) (by decide +kernel)⟩
theorem lw_p18 : lw_okq (⟨"StepPrograms$Machine", "copyFile", "(II)I"⟩, 13) := ⟨⟨by decide +kernel, by decide +kernel⟩, List.mem_of_getElem? (i := 88) (by decide +kernel), List.mem_of_getElem? (i := 665) (by decide +kernel), List.mem_of_getElem? (i := 666) (by decide +kernel)⟩
theorem lw_p19 : lw_okq (⟨"StepPrograms$Machine", "runChild", "(LStepPrograms$Frame;III)I"⟩, 13) := ⟨⟨by decide +kernel, by decide +kernel⟩, List.mem_of_getElem? (i := 88) (by decide +kernel), List.mem_of_getElem? (i := 684) (by decide +kernel), List.mem_of_getElem? (i := 685) (by decide +kernel)⟩
theorem lw_p20 : lw_okq (⟨"StepPrograms$Machine", "ask", "(LStepPrograms$Frame;II)I"⟩, 13) := ⟨⟨by decide +kernel, by decide +kernel⟩, List.mem_of_getElem? (i := 88) (by decide +kernel), List.mem_of_getElem? (i := 689) (by decide +kernel), List.mem_of_getElem? (i := 690) (by decide +kernel)⟩
theorem lw_p21 : lw_okq (⟨"StepPrograms$Machine", "answer", "(LStepPrograms$Frame;I)I"⟩, 13) := ⟨⟨by decide +kernel, by decide +kernel⟩, List.mem_of_getElem? (i := 88) (by decide +kernel), List.mem_of_getElem? (i := 693) (by decide +kernel), List.mem_of_getElem? (i := 694) (by decide +kernel)⟩
theorem lw_p22 : lw_okq (⟨"StepProgramsModel", "layLines", "(I)V"⟩, 33) := ⟨⟨by decide +kernel, by decide +kernel⟩, List.mem_of_getElem? (i := 719) (by decide +kernel), List.mem_of_getElem? (i := 838) (by decide +kernel), List.mem_of_getElem? (i := 839) (by decide +kernel)⟩
theorem lw_p23 : lw_okq (⟨"StepProgramsModel", "ill", "()I"⟩, 33) := ⟨⟨by decide +kernel, by decide +kernel⟩, List.mem_of_getElem? (i := 719) (by decide +kernel), List.mem_of_getElem? (i := 842) (by decide +kernel), List.mem_of_getElem? (i := 843) (by decide +kernel)⟩
theorem lw_p24 : lw_okq (⟨"StepProgramsModel", "split", "(II)V"⟩, 33) := ⟨⟨by decide +kernel, by decide +kernel⟩, List.mem_of_getElem? (i := 719) (by decide +kernel), List.mem_of_getElem? (i := 846) (by decide +kernel), List.mem_of_getElem? (i := 847) (by decide +kernel)⟩
theorem lw_p25 : lw_okq (⟨"StepProgramsModel", "isLabel", "()Z"⟩, 33) := ⟨⟨by decide +kernel, by decide +kernel⟩, List.mem_of_getElem? (i := 719) (by decide +kernel), List.mem_of_getElem? (i := 851) (by decide +kernel), List.mem_of_getElem? (i := 852) (by decide +kernel)⟩
theorem lw_p26 : lw_okq (⟨"StepProgramsModel", "isStatement", "()Z"⟩, 33) := ⟨⟨by decide +kernel, by decide +kernel⟩, List.mem_of_getElem? (i := 719) (by decide +kernel), List.mem_of_getElem? (i := 858) (by decide +kernel), List.mem_of_getElem? (i := 859) (by decide +kernel)⟩
theorem lw_p27 : lw_okq (⟨"StepProgramsModel", "isSign", "(I)Z"⟩, 33) := ⟨⟨by decide +kernel, by decide +kernel⟩, List.mem_of_getElem? (i := 719) (by decide +kernel), List.mem_of_getElem? (i := 863) (by decide +kernel), List.mem_of_getElem? (i := 864) (by decide +kernel)⟩
theorem lw_p28 : lw_okq (⟨"StepProgramsModel", "isValue", "(I)Z"⟩, 33) := ⟨⟨by decide +kernel, by decide +kernel⟩, List.mem_of_getElem? (i := 719) (by decide +kernel), List.mem_of_getElem? (i := 877) (by decide +kernel), List.mem_of_getElem? (i := 878) (by decide +kernel)⟩
theorem lw_p29 : lw_okq (⟨"StepProgramsModel", "isRegister", "(I)Z"⟩, 33) := ⟨⟨by decide +kernel, by decide +kernel⟩, List.mem_of_getElem? (i := 719) (by decide +kernel), List.mem_of_getElem? (i := 881) (by decide +kernel), List.mem_of_getElem? (i := 882) (by decide +kernel)⟩
theorem lw_p30 : lw_okq (⟨"StepProgramsModel", "isNumber", "(I)Z"⟩, 33) := ⟨⟨by decide +kernel, by decide +kernel⟩, List.mem_of_getElem? (i := 719) (by decide +kernel), List.mem_of_getElem? (i := 887) (by decide +kernel), List.mem_of_getElem? (i := 888) (by decide +kernel)⟩
theorem lw_p31 : lw_okq (⟨"StepProgramsModel", "isLetter", "(I)Z"⟩, 33) := ⟨⟨by decide +kernel, by decide +kernel⟩, List.mem_of_getElem? (i := 719) (by decide +kernel), List.mem_of_getElem? (i := 905) (by decide +kernel), List.mem_of_getElem? (i := 906) (by decide +kernel)⟩
def lw_privs_2 : List (MethodName × Nat) := [(⟨"StepPrograms$Machine", "writeFile", "(II)I"⟩, 13), (⟨"StepPrograms$Machine", "dropFile", "(I)I"⟩, 13), (⟨"StepPrograms$Machine", "copyFile", "(II)I"⟩, 13), (⟨"StepPrograms$Machine", "runChild", "(LStepPrograms$Frame;III)I"⟩, 13), (⟨"StepPrograms$Machine", "ask", "(LStepPrograms$Frame;II)I"⟩, 13), (⟨"StepPrograms$Machine", "answer", "(LStepPrograms$Frame;I)I"⟩, 13), (⟨"StepProgramsModel", "layLines", "(I)V"⟩, 33), (⟨"StepProgramsModel", "ill", "()I"⟩, 33), (⟨"StepProgramsModel", "split", "(II)V"⟩, 33), (⟨"StepProgramsModel", "isLabel", "()Z"⟩, 33), (⟨"StepProgramsModel", "isStatement", "()Z"⟩, 33), (⟨"StepProgramsModel", "isSign", "(I)Z"⟩, 33), (⟨"StepProgramsModel", "isValue", "(I)Z"⟩, 33), (⟨"StepProgramsModel", "isRegister", "(I)Z"⟩, 33), (⟨"StepProgramsModel", "isNumber", "(I)Z"⟩, 33), (⟨"StepProgramsModel", "isLetter", "(I)Z"⟩, 33)]
theorem lw_r2 : ∀ q ∈ lw_privs_2, lw_okq q := List.forall_mem_cons.mpr ⟨lw_p16, List.forall_mem_cons.mpr ⟨lw_p17, List.forall_mem_cons.mpr ⟨lw_p18, List.forall_mem_cons.mpr ⟨lw_p19, List.forall_mem_cons.mpr ⟨lw_p20, List.forall_mem_cons.mpr ⟨lw_p21, List.forall_mem_cons.mpr ⟨lw_p22, List.forall_mem_cons.mpr ⟨lw_p23, List.forall_mem_cons.mpr ⟨lw_p24, List.forall_mem_cons.mpr ⟨lw_p25, List.forall_mem_cons.mpr ⟨lw_p26, List.forall_mem_cons.mpr ⟨lw_p27, List.forall_mem_cons.mpr ⟨lw_p28, List.forall_mem_cons.mpr ⟨lw_p29, List.forall_mem_cons.mpr ⟨lw_p30, List.forall_mem_cons.mpr ⟨lw_p31, fun _ h => absurd h List.not_mem_nil⟩⟩⟩⟩⟩⟩⟩⟩⟩⟩⟩⟩⟩⟩⟩⟩
theorem lw_p32 : lw_okq (⟨"StepProgramsModel", "isComparison", "(I)Z"⟩, 33) := ⟨⟨by decide +kernel, by decide +kernel⟩, List.mem_of_getElem? (i := 719) (by decide +kernel), List.mem_of_getElem? (i := 910) (by decide +kernel), List.mem_of_getElem? (i := 911) (by decide +kernel)⟩
theorem lw_p33 : lw_okq (⟨"StepProgramsModel", "goal", "()I"⟩, 33) := ⟨⟨by decide +kernel, by decide +kernel⟩, List.mem_of_getElem? (i := 719) (by decide +kernel), List.mem_of_getElem? (i := 916) (by decide +kernel), List.mem_of_getElem? (i := 917) (by decide +kernel)⟩
theorem lw_p34 : lw_okq (⟨"StepProgramsModel", "keep", "(I)V"⟩, 33) := ⟨⟨by decide +kernel, by decide +kernel⟩, List.mem_of_getElem? (i := 719) (by decide +kernel), List.mem_of_getElem? (i := 920) (by decide +kernel), List.mem_of_getElem? (i := 921) (by decide +kernel)⟩
theorem lw_p35 : lw_okq (⟨"StepProgramsModel", "append", "(II)V"⟩, 33) := ⟨⟨by decide +kernel, by decide +kernel⟩, List.mem_of_getElem? (i := 719) (by decide +kernel), List.mem_of_getElem? (i := 931) (by decide +kernel), List.mem_of_getElem? (i := 932) (by decide +kernel)⟩
theorem lw_p36 : lw_okq (⟨"StepProgramsModel", "isProgram", "(I)Z"⟩, 33) := ⟨⟨by decide +kernel, by decide +kernel⟩, List.mem_of_getElem? (i := 719) (by decide +kernel), List.mem_of_getElem? (i := 947) (by decide +kernel), List.mem_of_getElem? (i := 948) (by decide +kernel)⟩
theorem lw_p37 : lw_okq (⟨"StepProgramsModel", "begin", "(III)V"⟩, 33) := ⟨⟨by decide +kernel, by decide +kernel⟩, List.mem_of_getElem? (i := 719) (by decide +kernel), List.mem_of_getElem? (i := 951) (by decide +kernel), List.mem_of_getElem? (i := 952) (by decide +kernel)⟩
theorem lw_p38 : lw_okq (⟨"StepProgramsModel", "comesToStatement", "()Z"⟩, 33) := ⟨⟨by decide +kernel, by decide +kernel⟩, List.mem_of_getElem? (i := 719) (by decide +kernel), List.mem_of_getElem? (i := 955) (by decide +kernel), List.mem_of_getElem? (i := 956) (by decide +kernel)⟩
theorem lw_p39 : lw_okq (⟨"StepProgramsModel", "work", "(I)I"⟩, 33) := ⟨⟨by decide +kernel, by decide +kernel⟩, List.mem_of_getElem? (i := 719) (by decide +kernel), List.mem_of_getElem? (i := 959) (by decide +kernel), List.mem_of_getElem? (i := 960) (by decide +kernel)⟩
theorem lw_p40 : lw_okq (⟨"StepProgramsModel", "let", "(I)I"⟩, 33) := ⟨⟨by decide +kernel, by decide +kernel⟩, List.mem_of_getElem? (i := 719) (by decide +kernel), List.mem_of_getElem? (i := 963) (by decide +kernel), List.mem_of_getElem? (i := 964) (by decide +kernel)⟩
theorem lw_p41 : lw_okq (⟨"StepProgramsModel", "value", "(II)I"⟩, 33) := ⟨⟨by decide +kernel, by decide +kernel⟩, List.mem_of_getElem? (i := 719) (by decide +kernel), List.mem_of_getElem? (i := 967) (by decide +kernel), List.mem_of_getElem? (i := 968) (by decide +kernel)⟩
theorem lw_p42 : lw_okq (⟨"StepProgramsModel", "registerOf", "(I)I"⟩, 33) := ⟨⟨by decide +kernel, by decide +kernel⟩, List.mem_of_getElem? (i := 719) (by decide +kernel), List.mem_of_getElem? (i := 971) (by decide +kernel), List.mem_of_getElem? (i := 972) (by decide +kernel)⟩
theorem lw_p43 : lw_okq (⟨"StepProgramsModel", "gives", "(II)I"⟩, 33) := ⟨⟨by decide +kernel, by decide +kernel⟩, List.mem_of_getElem? (i := 719) (by decide +kernel), List.mem_of_getElem? (i := 975) (by decide +kernel), List.mem_of_getElem? (i := 976) (by decide +kernel)⟩
theorem lw_p44 : lw_okq (⟨"StepProgramsModel", "set", "(III)V"⟩, 33) := ⟨⟨by decide +kernel, by decide +kernel⟩, List.mem_of_getElem? (i := 719) (by decide +kernel), List.mem_of_getElem? (i := 979) (by decide +kernel), List.mem_of_getElem? (i := 980) (by decide +kernel)⟩
theorem lw_p45 : lw_okq (⟨"StepProgramsModel", "goesOn", "(I)I"⟩, 33) := ⟨⟨by decide +kernel, by decide +kernel⟩, List.mem_of_getElem? (i := 719) (by decide +kernel), List.mem_of_getElem? (i := 983) (by decide +kernel), List.mem_of_getElem? (i := 984) (by decide +kernel)⟩
theorem lw_p46 : lw_okq (⟨"StepProgramsModel", "put", "(III)I"⟩, 33) := ⟨⟨by decide +kernel, by decide +kernel⟩, List.mem_of_getElem? (i := 719) (by decide +kernel), List.mem_of_getElem? (i := 987) (by decide +kernel), List.mem_of_getElem? (i := 988) (by decide +kernel)⟩
theorem lw_p47 : lw_okq (⟨"StepProgramsModel", "withFiles", "(I)I"⟩, 33) := ⟨⟨by decide +kernel, by decide +kernel⟩, List.mem_of_getElem? (i := 719) (by decide +kernel), List.mem_of_getElem? (i := 991) (by decide +kernel), List.mem_of_getElem? (i := 992) (by decide +kernel)⟩
def lw_privs_3 : List (MethodName × Nat) := [(⟨"StepProgramsModel", "isComparison", "(I)Z"⟩, 33), (⟨"StepProgramsModel", "goal", "()I"⟩, 33), (⟨"StepProgramsModel", "keep", "(I)V"⟩, 33), (⟨"StepProgramsModel", "append", "(II)V"⟩, 33), (⟨"StepProgramsModel", "isProgram", "(I)Z"⟩, 33), (⟨"StepProgramsModel", "begin", "(III)V"⟩, 33), (⟨"StepProgramsModel", "comesToStatement", "()Z"⟩, 33), (⟨"StepProgramsModel", "work", "(I)I"⟩, 33), (⟨"StepProgramsModel", "let", "(I)I"⟩, 33), (⟨"StepProgramsModel", "value", "(II)I"⟩, 33), (⟨"StepProgramsModel", "registerOf", "(I)I"⟩, 33), (⟨"StepProgramsModel", "gives", "(II)I"⟩, 33), (⟨"StepProgramsModel", "set", "(III)V"⟩, 33), (⟨"StepProgramsModel", "goesOn", "(I)I"⟩, 33), (⟨"StepProgramsModel", "put", "(III)I"⟩, 33), (⟨"StepProgramsModel", "withFiles", "(I)I"⟩, 33)]
theorem lw_r3 : ∀ q ∈ lw_privs_3, lw_okq q := List.forall_mem_cons.mpr ⟨lw_p32, List.forall_mem_cons.mpr ⟨lw_p33, List.forall_mem_cons.mpr ⟨lw_p34, List.forall_mem_cons.mpr ⟨lw_p35, List.forall_mem_cons.mpr ⟨lw_p36, List.forall_mem_cons.mpr ⟨lw_p37, List.forall_mem_cons.mpr ⟨lw_p38, List.forall_mem_cons.mpr ⟨lw_p39, List.forall_mem_cons.mpr ⟨lw_p40, List.forall_mem_cons.mpr ⟨lw_p41, List.forall_mem_cons.mpr ⟨lw_p42, List.forall_mem_cons.mpr ⟨lw_p43, List.forall_mem_cons.mpr ⟨lw_p44, List.forall_mem_cons.mpr ⟨lw_p45, List.forall_mem_cons.mpr ⟨lw_p46, List.forall_mem_cons.mpr ⟨lw_p47, fun _ h => absurd h List.not_mem_nil⟩⟩⟩⟩⟩⟩⟩⟩⟩⟩⟩⟩⟩⟩⟩⟩
theorem lw_p48 : lw_okq (⟨"StepProgramsModel", "read", "(III)I"⟩, 33) := ⟨⟨by decide +kernel, by decide +kernel⟩, List.mem_of_getElem? (i := 719) (by decide +kernel), List.mem_of_getElem? (i := 995) (by decide +kernel), List.mem_of_getElem? (i := 996) (by decide +kernel)⟩
theorem lw_p49 : lw_okq (⟨"StepProgramsModel", "write", "(III)I"⟩, 33) := ⟨⟨by decide +kernel, by decide +kernel⟩, List.mem_of_getElem? (i := 719) (by decide +kernel), List.mem_of_getElem? (i := 999) (by decide +kernel), List.mem_of_getElem? (i := 1000) (by decide +kernel)⟩
theorem lw_p50 : lw_okq (⟨"StepProgramsModel", "copy", "(III)I"⟩, 33) := ⟨⟨by decide +kernel, by decide +kernel⟩, List.mem_of_getElem? (i := 719) (by decide +kernel), List.mem_of_getElem? (i := 1003) (by decide +kernel), List.mem_of_getElem? (i := 1004) (by decide +kernel)⟩
theorem lw_p51 : lw_okq (⟨"StepProgramsModel", "says", "(IZI)I"⟩, 33) := ⟨⟨by decide +kernel, by decide +kernel⟩, List.mem_of_getElem? (i := 719) (by decide +kernel), List.mem_of_getElem? (i := 1007) (by decide +kernel), List.mem_of_getElem? (i := 1008) (by decide +kernel)⟩
theorem lw_p52 : lw_okq (⟨"StepProgramsModel", "goesTo", "(II)I"⟩, 33) := ⟨⟨by decide +kernel, by decide +kernel⟩, List.mem_of_getElem? (i := 719) (by decide +kernel), List.mem_of_getElem? (i := 1011) (by decide +kernel), List.mem_of_getElem? (i := 1012) (by decide +kernel)⟩
theorem lw_p53 : lw_okq (⟨"StepProgramsModel", "call", "(I)I"⟩, 33) := ⟨⟨by decide +kernel, by decide +kernel⟩, List.mem_of_getElem? (i := 719) (by decide +kernel), List.mem_of_getElem? (i := 1018) (by decide +kernel), List.mem_of_getElem? (i := 1019) (by decide +kernel)⟩
theorem lw_p54 : lw_okq (⟨"StepProgramsModel", "back", "(I)I"⟩, 33) := ⟨⟨by decide +kernel, by decide +kernel⟩, List.mem_of_getElem? (i := 719) (by decide +kernel), List.mem_of_getElem? (i := 1022) (by decide +kernel), List.mem_of_getElem? (i := 1023) (by decide +kernel)⟩
theorem lw_p55 : lw_okq (⟨"StepProgramsModel", "child", "(III)I"⟩, 33) := ⟨⟨by decide +kernel, by decide +kernel⟩, List.mem_of_getElem? (i := 719) (by decide +kernel), List.mem_of_getElem? (i := 1026) (by decide +kernel), List.mem_of_getElem? (i := 1027) (by decide +kernel)⟩
theorem lw_p56 : lw_okq (⟨"StepProgramsModel", "ask", "(II)I"⟩, 33) := ⟨⟨by decide +kernel, by decide +kernel⟩, List.mem_of_getElem? (i := 719) (by decide +kernel), List.mem_of_getElem? (i := 1030) (by decide +kernel), List.mem_of_getElem? (i := 1031) (by decide +kernel)⟩
def lw_privs_4 : List (MethodName × Nat) := [(⟨"StepProgramsModel", "read", "(III)I"⟩, 33), (⟨"StepProgramsModel", "write", "(III)I"⟩, 33), (⟨"StepProgramsModel", "copy", "(III)I"⟩, 33), (⟨"StepProgramsModel", "says", "(IZI)I"⟩, 33), (⟨"StepProgramsModel", "goesTo", "(II)I"⟩, 33), (⟨"StepProgramsModel", "call", "(I)I"⟩, 33), (⟨"StepProgramsModel", "back", "(I)I"⟩, 33), (⟨"StepProgramsModel", "child", "(III)I"⟩, 33), (⟨"StepProgramsModel", "ask", "(II)I"⟩, 33)]
theorem lw_r4 : ∀ q ∈ lw_privs_4, lw_okq q := List.forall_mem_cons.mpr ⟨lw_p48, List.forall_mem_cons.mpr ⟨lw_p49, List.forall_mem_cons.mpr ⟨lw_p50, List.forall_mem_cons.mpr ⟨lw_p51, List.forall_mem_cons.mpr ⟨lw_p52, List.forall_mem_cons.mpr ⟨lw_p53, List.forall_mem_cons.mpr ⟨lw_p54, List.forall_mem_cons.mpr ⟨lw_p55, List.forall_mem_cons.mpr ⟨lw_p56, fun _ h => absurd h List.not_mem_nil⟩⟩⟩⟩⟩⟩⟩⟩⟩
def lw_privs : List (MethodName × Nat) := lw_privs_1 ++ (lw_privs_2 ++ (lw_privs_3 ++ (lw_privs_4)))
def lw_tbl : List Cond := k2_sels lw_privs ++ tables_1
theorem lw_privs_ok : ∀ q ∈ lw_privs, lw_okq q := by
  show ∀ q ∈ lw_privs_1 ++ (lw_privs_2 ++ (lw_privs_3 ++ (lw_privs_4))), lw_okq q
  exact List.forall_mem_append.mpr ⟨lw_r1, List.forall_mem_append.mpr ⟨lw_r2, List.forall_mem_append.mpr ⟨lw_r3, lw_r4⟩⟩⟩
end
section
/-! ===== the heap as a map: what lies at which address; an array's cell bears a tag in place of its class ===== -/
abbrev hE : Type := Nat → Option va_E
def h_cv (kA : Nat → ClassId) (e : va_E) : va_E := match e with
  | .inl x => .inl (kA x.1, x.2)
  | .inr o => .inr o
def hp (D : va_G) (cl : List vw_C) (kA : Nat → ClassId) (n0 : Nat) (E : hE) (H : Heap) : Prop := ∀ (a : Nat) (e : va_E), E a = some e → va_at D cl (a, h_cv kA e) H ∧ n0 ≤ a
/-! reading and writing the map -/
def gO (E : hE) (r : Option Nat) (ci : Nat) : Option (Nat × List Value) := r.bind fun a => (E a).bind fun e => match e with
  | .inr o => if o.1 = ci then some (a, o.2) else none
  | .inl _ => none
def vI (v : Value) : Option Int32 := match v with
  | .int x => some x
  | _ => none
def vR (v : Value) : Option (Option Nat) := match v with
  | .null => some none
  | .ref a => some (some a)
  | _ => none
def gI (E : hE) (r : Option Nat) (ci k : Nat) : Option Int32 := (gO E r ci).bind fun o => (o.2[k]?).bind vI
def gR (E : hE) (r : Option Nat) (ci k : Nat) : Option (Option Nat) := (gO E r ci).bind fun o => (o.2[k]?).bind vR
def sF (E : hE) (r : Option Nat) (ci k : Nat) (v : Value) : Option hE := (gO E r ci).bind fun o => if k < o.2.length then some (va_up E o.1 (some (.inr (ci, o.2.set k v)))) else none
def sI (E : hE) (r : Option Nat) (ci k : Nat) (x : Int32) : Option hE := sF E r ci k (.int x)
def sZ (E : hE) (r : Option Nat) (ci k : Nat) (x : Int32) : Option hE := if x = 0 ∨ x = 1 then sF E r ci k (.int x) else none
def sR (E : hE) (r : Option Nat) (ci k : Nat) (q : Option Nat) : Option hE := sF E r ci k (va_rf q)
def gA (E : hE) (r : Option Nat) (t : Nat) : Option (Nat × vp_A) := r.bind fun a => (E a).bind fun e => match e with
  | .inl x => if x.1 = t then some (a, x.2) else none
  | .inr _ => none
def aL (E : hE) (r : Option Nat) (t : Nat) : Option Int32 := (gA E r t).map fun o => nI o.2.1
def vAi (x : vp_A) : Option (Nat → Int32) := match x.2 with
  | .inl f => some f
  | _ => none
def vAq (x : vp_A) : Option (Nat → Option Nat) := match x.2 with
  | .inr (.inr (.inr (.inr f))) => some f
  | _ => none
def vAl (x : vp_A) : Option (Nat → Int64) := match x.2 with
  | .inr (.inl f) => some f
  | _ => none
def aJ (E : hE) (r : Option Nat) (t : Nat) (i : Int32) : Option Int64 := (gA E r t).bind fun o => (vAl o.2).bind fun f => if i < 0 ∨ o.2.1 ≤ i.toNatClampNeg then none else some (f i.toNatClampNeg)
def tJ (E : hE) (r : Option Nat) (t : Nat) (i : Int32) (x : Int64) : Option hE := (gA E r t).bind fun o => (vAl o.2).bind fun f => if i < 0 ∨ o.2.1 ≤ i.toNatClampNeg then none else some (va_up E o.1 (some (.inl (t, o.2.1, .inr (.inl (vp_updL f i.toNatClampNeg x))))))
def nJ (E : hE) (nx t : Nat) (n : Int32) (bd : Nat) : Option hE := if n < 0 ∨ bd < n.toNatClampNeg then none else some (va_up E nx (some (.inl (t, n.toNatClampNeg, .inr (.inl (fun _ => 0))))))
def aI (E : hE) (r : Option Nat) (t : Nat) (i : Int32) : Option Int32 := (gA E r t).bind fun o => (vAi o.2).bind fun f => if i < 0 ∨ o.2.1 ≤ i.toNatClampNeg then none else some (f i.toNatClampNeg)
def aQ (E : hE) (r : Option Nat) (t : Nat) (i : Int32) : Option (Option Nat) := (gA E r t).bind fun o => (vAq o.2).bind fun f => if i < 0 ∨ o.2.1 ≤ i.toNatClampNeg then none else some (f i.toNatClampNeg)
def tI (E : hE) (r : Option Nat) (t : Nat) (i x : Int32) : Option hE := (gA E r t).bind fun o => (vAi o.2).bind fun f => if i < 0 ∨ o.2.1 ≤ i.toNatClampNeg then none else some (va_up E o.1 (some (.inl (t, o.2.1, .inl (upd f i.toNatClampNeg x)))))
def tZ (E : hE) (r : Option Nat) (t : Nat) (i x : Int32) : Option hE := if x = 0 ∨ x = 1 then tI E r t i x else none
def tQ (E : hE) (r : Option Nat) (t : Nat) (i : Int32) (q : Option Nat) (ci : Nat) : Option hE := (gA E r t).bind fun o => (vAq o.2).bind fun f => if i < 0 ∨ o.2.1 ≤ i.toNatClampNeg then none else if q = none ∨ (gO E q ci).isSome = true then some (va_up E o.1 (some (.inl (t, o.2.1, .inr (.inr (.inr (.inr (va_up f i.toNatClampNeg q)))))))) else none
def bZ (x : Int32) : Option Int32 := if x = 0 ∨ x = 1 then some x else none
theorem bZ_some {x v : Int32} (h : bZ x = some v) : x = v ∧ (v = 0 ∨ v = 1) := by
  unfold bZ at h
  by_cases hv : x = 0 ∨ x = 1
  · rw [if_pos hv] at h
    cases h
    exact ⟨rfl, hv⟩
  · rw [if_neg hv] at h
    cases h
def nA (E : hE) (nx t : Nat) (n : Int32) (bd : Nat) : Option hE := if n < 0 ∨ bd < n.toNatClampNeg then none else some (va_up E nx (some (.inl (t, n.toNatClampNeg, .inl (fun _ => 0)))))
def nQ (E : hE) (nx t : Nat) (n : Int32) (bd : Nat) : Option hE := if n < 0 ∨ bd < n.toNatClampNeg ∨ 100000 < n.toNatClampNeg then none else some (va_up E nx (some (.inl (t, n.toNatClampNeg, .inr (.inr (.inr (.inr (fun _ => none))))))))
theorem gO_some {E : hE} {r : Option Nat} {ci : Nat} {o : Nat × List Value} (h : gO E r ci = some o) : r = some o.1 ∧ E o.1 = some (.inr (ci, o.2)) := by
  unfold gO at h
  obtain ⟨a, h1, hz0⟩ := Option.bind_eq_some_iff.mp h
  obtain ⟨e, h2, hz1⟩ := Option.bind_eq_some_iff.mp hz0
  cases e with
  | inl x => cases hz1
  | inr x =>
    by_cases hc : x.1 = ci
    · simp only [hc, if_true] at hz1
      cases hz1
      refine ⟨h1, ?_⟩
      rw [h2, ← hc]
    · simp only [hc, if_false] at hz1
      cases hz1
theorem gA_some {E : hE} {r : Option Nat} {t : Nat} {o : Nat × vp_A} (h : gA E r t = some o) : r = some o.1 ∧ E o.1 = some (.inl (t, o.2)) := by
  unfold gA at h
  obtain ⟨a, h1, hz0⟩ := Option.bind_eq_some_iff.mp h
  obtain ⟨e, h2, hz1⟩ := Option.bind_eq_some_iff.mp hz0
  cases e with
  | inr x => cases hz1
  | inl x =>
    by_cases hc : x.1 = t
    · simp only [hc, if_true] at hz1
      cases hz1
      refine ⟨h1, ?_⟩
      rw [h2, ← hc]
    · simp only [hc, if_false] at hz1
      cases hz1
theorem vI_some {v : Value} {x : Int32} (h : vI v = some x) : v = .int x := by
  unfold vI at h
  cases v <;> first | (cases h; rfl) | cases h
theorem vR_some {v : Value} {x : Option Nat} (h : vR v = some x) : v = va_rf x := by
  unfold vR at h
  cases v <;> first | (cases h; rfl) | cases h
theorem vAi_some {x : vp_A} {f : Nat → Int32} (h : vAi x = some f) : x = (x.1, .inl f) := by
  obtain ⟨n, g | g | g | g | g⟩ := x <;> first | (cases h; rfl) | cases h
theorem vAl_some {x : vp_A} {f : Nat → Int64} (h : vAl x = some f) : x = (x.1, .inr (.inl f)) := by
  obtain ⟨n, g | g | g | g | g⟩ := x <;> first | (cases h; rfl) | cases h
theorem vAq_some {x : vp_A} {f : Nat → Option Nat} (h : vAq x = some f) : x = (x.1, .inr (.inr (.inr (.inr f)))) := by
  obtain ⟨n, g | g | g | g | g⟩ := x <;> first | (cases h; rfl) | cases h
section HPB
variable {D : va_G} {cl : List vw_C} {kA : Nat → ClassId} {n0 : Nat} {E : hE} {H H1 : Heap} {a : Nat} {e e' : va_E}
theorem hp_one (h : hp D cl kA n0 E H) (ha : E a = some e) : va_P D cl [(a, h_cv kA e)] H := fun k q hk => by
  have hk0 : k < 1 := (List.getElem?_eq_some_iff.mp hk).1
  rw [show k = 0 by omega] at hk
  cases hk
  exact (h a e ha).1
theorem hp_lt (h : hp D cl kA n0 E H) (ha : E a = some e) : a < H.size := (h a e ha).1.lt
theorem hp_upd (h : hp D cl kA n0 E H) (ha : E a = some e) (he : va_at D cl (a, h_cv kA e') H1) (oq : ∀ q : Nat, q ≠ a → H1[q]? = H[q]?) : hp D cl kA n0 (va_up E a (some e')) H1 := by
  intro b x hb
  by_cases hba : b = a
  · subst hba
    rw [va_up_self] at hb
    cases hb
    exact ⟨he, (h b e ha).2⟩
  · rw [va_up_ne _ _ hba] at hb
    obtain ⟨h1, h2⟩ := h b x hb
    exact ⟨h1.kept (oq b hba), h2⟩
theorem hp_born (h : hp D cl kA n0 E H) (hn : n0 ≤ H.size) (he : va_at D cl (H.size, h_cv kA e) H1) (oq : ∀ q : Nat, q < H.size → H1[q]? = H[q]?) : hp D cl kA n0 (va_up E H.size (some e)) H1 := by
  intro b x hb
  by_cases hba : b = H.size
  · subst hba
    rw [va_up_self] at hb
    cases hb
    exact ⟨he, hn⟩
  · rw [va_up_ne _ _ hba] at hb
    obtain ⟨h1, h2⟩ := h b x hb
    exact ⟨h1.kept (oq b h1.lt), h2⟩
end HPB
/-! ===== what stays through a method's walk (hC), what moves (hM), a contract's start and end (hI) ===== -/
def hZk (n0 : Nat) (Z : State → Prop) : Prop := (∀ u U : State, u.WarmedH U.vm → (∀ a : Nat, a < n0 → U.heap[a]? = u.heap[a]?) → Z u → Z U) ∧ ∀ u U : State, u.vm = U.vm → u.heap = U.heap → Z u → Z U
def hC (p : Program) (s : State) (m : MethodId) (args : Array Value) (c : Code) (cc : ByteArray) (nL : Nat) (own : String) (Ts : List Cond) (D : va_G) (cl : List vw_C) (tys : List (ClassId × FieldType)) (n0 : Nat) (Z : State → Prop) : Prop :=
  p.tables.exec = Jvm.exec ∧ c.code = cc ∧ c.maxLocals = nL ∧ s.vm.findClass own = some m.cls ∧ (∀ w ∈ Ts, w.before args s = true) ∧ va_K D cl tys s ∧ n0 ≤ s.heap.size ∧ Z s ∧ hZk n0 Z
def hM (D : va_G) (cl : List vw_C) (kA : Nat → ClassId) (n0 : Nat) (s : State) (E : hE) (nx : Nat) (H : Heap) (locs : List Loc) : Prop := hp D cl kA n0 E H ∧ va_S (fun q => n0 ≤ q) s.heap H locs ∧ H.size = nx
def hI (D : va_G) (cl : List vw_C) (kA : Nat → ClassId) (tys : List (ClassId × FieldType)) (n0 : Nat) (Z : State → Prop) (u : hE × Nat) (U : State) : Prop := hp D cl kA n0 u.1 U.heap ∧ va_K D cl tys U ∧ n0 ≤ U.heap.size ∧ U.heap.size = u.2 ∧ Z U
section HCB
variable {p : Program} {l : Launch} {e : Env} {R : Room} {s : State} {m : MethodId} {args : Array Value} {below : List Frame} {meth : Method} {c : Code} {H : Heap} {locs : List Loc} {cells slots : Nat} {Q : State → Prop}
variable {cc : ByteArray} {nL pc : Nat} {own : String} {Ts : List Cond} {D : va_G} {cl : List vw_C} {kA : Nat → ClassId} {tys : List (ClassId × FieldType)} {n0 nx : Nat} {Z : State → Prop} {E E1 : hE} {ls : Array Slot} {rest : List Value} {r : Option Nat}
theorem hC.x (C : hC p s m args c cc nL own Ts D cl tys n0 Z) : p.tables.exec = Jvm.exec := C.1
theorem hC.b (C : hC p s m args c cc nL own Ts D cl tys n0 Z) : c.code = cc := C.2.1
theorem hC.ml (C : hC p s m args c cc nL own Ts D cl tys n0 Z) : c.maxLocals = nL := C.2.2.1
theorem hC.ow (C : hC p s m args c cc nL own Ts D cl tys n0 Z) : s.vm.findClass own = some m.cls := C.2.2.2.1
theorem hC.ts (C : hC p s m args c cc nL own Ts D cl tys n0 Z) : ∀ w ∈ Ts, w.before args s = true := C.2.2.2.2.1
theorem hC.K (C : hC p s m args c cc nL own Ts D cl tys n0 Z) : va_K D cl tys s := C.2.2.2.2.2.1
theorem hC.n (C : hC p s m args c cc nL own Ts D cl tys n0 Z) : n0 ≤ s.heap.size := C.2.2.2.2.2.2.1
theorem hC.z (C : hC p s m args c cc nL own Ts D cl tys n0 Z) : Z s := C.2.2.2.2.2.2.2.1
theorem hC.zk (C : hC p s m args c cc nL own Ts D cl tys n0 Z) : hZk n0 Z := C.2.2.2.2.2.2.2.2
theorem hC.fix (C : hC p s m args c cc nL own Ts D cl tys n0 Z) : CallFix p m c cc nL s args Ts own := ⟨C.x, C.b, C.ml, C.ow, C.ts⟩
theorem hM.P (M : hM D cl kA n0 s E nx H locs) : hp D cl kA n0 E H := M.1
theorem hM.S (M : hM D cl kA n0 s E nx H locs) : va_S (fun q => n0 ≤ q) s.heap H locs := M.2.1
theorem hM.z (M : hM D cl kA n0 s E nx H locs) : H.size = nx := M.2.2
theorem hM.lo (C : hC p s m args c cc nL own Ts D cl tys n0 Z) (M : hM D cl kA n0 s E nx H locs) : n0 ≤ H.size := Nat.le_trans C.n M.S.1
theorem hM.I (C : hC p s m args c cc nL own Ts D cl tys n0 Z) (M : hM D cl kA n0 s E nx H locs) (U : State) (hU : U.heap = H) (hA : s.WarmedH U.vm) : hI D cl kA tys n0 Z (E, nx) U := by
  refine ⟨by rw [hU]; exact M.1, va_K.moved hA.alike C.K, by rw [hU]; exact hM.lo C M, by rw [hU]; exact M.z, C.zk.1 s U hA (fun q hq => ?_) C.z⟩
  rw [hU]
  exact M.S.2.1 q (Nat.lt_of_lt_of_le hq C.n) (Nat.not_le.mpr hq)
theorem hI.blind {u : hE × Nat} (hz : hZk n0 Z) (av : List Value) : FrameBlind (va_Pc av (hI D cl kA tys n0 Z u)) := fun b U g mk q => by
  obtain ⟨q0, q1, q2, q3, q4, q5⟩ := q
  exact ⟨q0, q1, va_K.moved (u := U) (U := U.calling g mk b) (Vm.Alike.refl U.vm) q2, q3, q4, hz.2 U (U.calling g mk b) rfl rfl q5⟩
/-- a write to a cell that is there -/
theorem hM.upd {a : Nat} {x y : va_E} {H1 : Heap} {j : Nat} (M : hM D cl kA n0 s E nx H locs) (ha : E a = some x) (he : va_at D cl (a, h_cv kA y) H1) (z : H1.size = H.size) (oq : ∀ q : Nat, q ≠ a → H1[q]? = H[q]?) : hM D cl kA n0 s (va_up E a (some y)) nx H1 (locs ++ [⟨a, j⟩]) :=
  ⟨hp_upd M.P ha he oq, M.S.put z oq (M.P a x ha).2, z.trans M.z⟩
/-- a method's contract out of its walk -/
theorem h_met {y : MethodName} {ws ws' : List Cond} {rm : Room} {Qc : Array Value → State → Outcome → State → Prop} {mc ms : Nat} {maxL : Nat} {ret : Option FieldType} {av : List Value} (hz : hZk n0 Z)
    (hy : plainName y.cls = true) (hw : ws = Cond.code y cc maxL ret :: ws') (hlen : (lg_sl av).length ≤ maxL) {lvs : List (Nat × Value)} (hlv : lv_args 0 av = lvs)
    (body : ∀ (p : Program) (e : Env) (s : State) (m : MethodId) (below : List Frame) (meth : Method) (c : Code) (ls : Array Slot), hC p s m av.toArray c cc maxL y.cls ws D cl tys n0 Z → hM D cl kA n0 s E nx s.heap [] → meth.sig.returnType = ret → meth.locks = false → meth.name = y.name → lv_has ls maxL lvs →
      W p l e rm s m av.toArray below meth c s.heap [] 0 0 (MQ below Qc av.toArray s mc ms (fun q => n0 ≤ q)) (F0 m 0 ls [])) : Met l y ws rm (va_Pc av (hI D cl kA tys n0 Z (E, nx))) Qc mc ms (fun q => n0 ≤ q) := by
  refine Met.ofW (cc := cc) (maxL := maxL) (ret := ret) hy hw ?_
  intro p e s m args below meth c s₁ B hml hv
  obtain ⟨rfl, hP, hK, hn, hsz, hZ⟩ := hv
  have hts := atoms_spec (ws := ws) B.pre
  have hown : s.vm.findClass y.cls = some m.cls := findClass_of_methodNamed B.named
  have hin : meth.name = y.name := (name_of_methodNamed B.named B.method).1
  subst hlv
  have hl := lv_entry av hlen
  rw [lg_entry_eq]
  generalize (lg_sl av ++ List.replicate (maxL - (lg_sl av).length) Slot.unset).toArray = ls at hl ⊢
  exact body p e s m below meth c ls ⟨B.exec, B.bytes, hml, hown, hts, hK, hn, hZ, hz⟩ ⟨hP, va_S.rf, hsz⟩ B.returns B.notSynchronized hin hl
/-! fields -/
theorem w_get (C : hC p s m args c cc nL own Ts D cl tys n0 Z) (M : hM D cl kA n0 s E nx H locs) {ci k N index : Nat} {Cn ref : String} {T : u_T} {o : Nat × List Value} {v : Value} (h : gO E r ci = some o) (hv : o.2[k]? = some v) (hc : cl[ci]? = some (Cn, T, N)) (hin : ∀ w ∈ u_ws Cn T N, w ∈ Ts) (hk : k < N) (hlink : Cond.fieldLink own index ref (T k).2.1 (T k).2.2.1 ∈ Ts) (href : (T k).1 = ref) (hdg : decode cc pc = .ok (.getfield index, 3))
    (kk : W p l e R s m args below meth c H locs cells slots Q (F0 m (pc + 3) ls (v :: rest))) : W p l e R s m args below meth c H locs cells slots Q (F0 m pc ls (va_rf r :: rest)) := by
  obtain ⟨rfl, he⟩ := gO_some h
  exact va_get C.x C.b C.ts hin C.ow C.K (hp_one M.P he) 0 rfl hc k hk (C.ts _ hlink) (fun x h => by rw [← href]; exact h) hv hdg kk
theorem w_getI (C : hC p s m args c cc nL own Ts D cl tys n0 Z) (M : hM D cl kA n0 s E nx H locs) {ci k N index : Nat} {Cn ref : String} {T : u_T} {v : Int32} (h : gI E r ci k = some v) (hc : cl[ci]? = some (Cn, T, N)) (hin : ∀ w ∈ u_ws Cn T N, w ∈ Ts) (hk : k < N) (hlink : Cond.fieldLink own index ref (T k).2.1 (T k).2.2.1 ∈ Ts) (href : (T k).1 = ref) (hdg : decode cc pc = .ok (.getfield index, 3))
    (kk : W p l e R s m args below meth c H locs cells slots Q (F0 m (pc + 3) ls (.int v :: rest))) : W p l e R s m args below meth c H locs cells slots Q (F0 m pc ls (va_rf r :: rest)) := by
  obtain ⟨o, h1, hz0⟩ := Option.bind_eq_some_iff.mp h
  obtain ⟨w, h2, hz1⟩ := Option.bind_eq_some_iff.mp hz0
  have h3 := vI_some hz1
  subst h3
  exact w_get C M h1 h2 hc hin hk hlink href hdg kk
theorem w_getR (C : hC p s m args c cc nL own Ts D cl tys n0 Z) (M : hM D cl kA n0 s E nx H locs) {ci k N index : Nat} {Cn ref : String} {T : u_T} {v : Option Nat} (h : gR E r ci k = some v) (hc : cl[ci]? = some (Cn, T, N)) (hin : ∀ w ∈ u_ws Cn T N, w ∈ Ts) (hk : k < N) (hlink : Cond.fieldLink own index ref (T k).2.1 (T k).2.2.1 ∈ Ts) (href : (T k).1 = ref) (hdg : decode cc pc = .ok (.getfield index, 3))
    (kk : W p l e R s m args below meth c H locs cells slots Q (F0 m (pc + 3) ls (va_rf v :: rest))) : W p l e R s m args below meth c H locs cells slots Q (F0 m pc ls (va_rf r :: rest)) := by
  obtain ⟨o, h1, hz0⟩ := Option.bind_eq_some_iff.mp h
  obtain ⟨w, h2, hz1⟩ := Option.bind_eq_some_iff.mp hz0
  have h3 := vR_some hz1
  subst h3
  exact w_get C M h1 h2 hc hin hk hlink href hdg kk
theorem w_putV (C : hC p s m args c cc nL own Ts D cl tys n0 Z) (M : hM D cl kA n0 s E nx H locs) {ci k N index : Nat} {Cn ref : String} {T : u_T} {v : Value} {ty : FieldType} (ty0 : Nat → FieldType) (h : sF E r ci k v = some E1) (hc : cl[ci]? = some (Cn, T, N)) (hin : ∀ w ∈ u_ws Cn T N, w ∈ Ts) (hty : ∀ k, k < N → parseFieldDescriptor (T k).2.2.1 = some (ty0 k)) (hnm : ∀ a, a < N → ∀ b, b < N → a ≠ b → (T a).2.1 ≠ (T b).2.1) (hk : k < N) (hlink : Cond.fieldLink own index ref (T k).2.1 (T k).2.2.1 ∈ Ts) (href : (T k).1 = ref) (hfin : (T k).2.2.2 = false) (hd : parseFieldDescriptor (T k).2.2.1 = some ty) (hn : narrow ty v = v) (hfit : fits ty v = true) (hdg : decode cc pc = .ok (.putfield index, 3))
    (kk : ∀ (H1 : Heap) (locs1 : List Loc), hM D cl kA n0 s E1 nx H1 locs1 → W p l e R s m args below meth c H1 locs1 cells slots Q (F0 m (pc + 3) ls rest)) : W p l e R s m args below meth c H locs cells slots Q (F0 m pc ls (v :: va_rf r :: rest)) := by
  obtain ⟨⟨a, fs⟩, h1, hz0⟩ := Option.bind_eq_some_iff.mp h
  obtain ⟨rfl, he⟩ := gO_some h1
  dsimp only at hz0 he
  by_cases hl : k < fs.length
  · rw [if_pos hl] at hz0
    cases hz0
    have hap := va_apart (own := own) C.ts hin ty0 hty hnm C.K hc
    obtain ⟨r, h1, cell, q1, q2, q3, q4⟩ := (M.P _ _ he).1
    have hr : r = (Cn, T, N) := Option.some.inj (h1.symm.trans hc)
    subst hr
    obtain ⟨hS, hfc, kC, hkC, hkind⟩ := C.K.1 ci _ hc
    obtain ⟨cf, kf, fi, f, hi, hsl⟩ := hS k hk
    have hlay := C.ts _ (hin _ (u_in_lay hk))
    unfold u_lay at hlay
    rw [if_neg (by rw [hfin]; decide)] at hlay
    have hst := (u_facts hfc hkC (u_lays C.ts hin hk) hi).1
    have h6 := u_store hfc hkC hkind hlay hi hd hn hfit
    refine W.putK C.x C.b (f := f) ⟨C.ow, C.ts _ hlink, ⟨_, _, _, by rw [← href]; exact hi⟩, hst⟩ (by rw [q2]; exact h6) q1 q3 (by rw [hsl]; exact k2_hasslot (q4 k hk)) rfl rfl hdg fun H' e1 e2 e3 => ?_
    rw [hsl] at e1 ⊢
    exact kk H' _ (hM.upd M he ⟨_, hc, t_OB.to (V := updV (vp_V fs) k v) ⟨_, e1, q2, q3, t_set q4 hap hk v⟩ (fun j _ => vp_updV_set hl v j)⟩ e2 e3)
  · rw [if_neg hl] at hz0
    cases hz0
theorem w_putVF (C : hC p s m args c cc nL own Ts D cl tys n0 Z) (M : hM D cl kA n0 s E nx H locs) {ci k N index : Nat} {Cn ref : String} {T : u_T} {v : Value} {ty : FieldType} (ty0 : Nat → FieldType) (h : sF E r ci k v = some E1) (hc : cl[ci]? = some (Cn, T, N)) (hin : ∀ w ∈ u_ws Cn T N, w ∈ Ts) (hty : ∀ k, k < N → parseFieldDescriptor (T k).2.2.1 = some (ty0 k)) (hnm : ∀ a, a < N → ∀ b, b < N → a ≠ b → (T a).2.1 ≠ (T b).2.1) (hk : k < N) (hlink : Cond.fieldLink own index ref (T k).2.1 (T k).2.2.1 ∈ Ts) (href : (T k).1 = ref) (hfin : (T k).2.2.2 = true) (hin2 : meth.name = "<init>") (hdecl : (T k).1 = own) (hd : parseFieldDescriptor (T k).2.2.1 = some ty) (hn : narrow ty v = v) (hfit : fits ty v = true) (hdg : decode cc pc = .ok (.putfield index, 3))
    (kk : ∀ (H1 : Heap) (locs1 : List Loc), hM D cl kA n0 s E1 nx H1 locs1 → W p l e R s m args below meth c H1 locs1 cells slots Q (F0 m (pc + 3) ls rest)) : W p l e R s m args below meth c H locs cells slots Q (F0 m pc ls (v :: va_rf r :: rest)) := by
  obtain ⟨⟨a, fs⟩, h1, hz0⟩ := Option.bind_eq_some_iff.mp h
  obtain ⟨rfl, he⟩ := gO_some h1
  dsimp only at hz0 he
  by_cases hl : k < fs.length
  · rw [if_pos hl] at hz0
    cases hz0
    have hap := va_apart (own := own) C.ts hin ty0 hty hnm C.K hc
    obtain ⟨r, h1, cell, q1, q2, q3, q4⟩ := (M.P _ _ he).1
    have hr : r = (Cn, T, N) := Option.some.inj (h1.symm.trans hc)
    subst hr
    obtain ⟨hS, hfc, kC, hkC, hkind⟩ := C.K.1 ci _ hc
    obtain ⟨cf, kf, fi, f, hi, hsl⟩ := hS k hk
    have hlay := C.ts _ (hin _ (u_in_lay hk))
    unfold u_lay at hlay
    rw [if_pos hfin] at hlay
    have hst := (u_facts hfc hkC (u_lays C.ts hin hk) hi).1
    have hcf : m.cls = cf := by
      obtain ⟨_, _, c', _, _, _, -, -, hf', -, -, -, hown2, -⟩ := Cond.laysFinal_spec hlay
      have e1 : c' = cf := by have := hi.symm.trans hf'; simp at this; exact this.1.symm
      rw [hdecl] at hown2
      rw [← e1]; exact Option.some.inj (C.ow.symm.trans hown2)
    have h6 := u_fits hfc hkC hkind (Or.inr hlay) hi hd hn hfit
    refine W.putFinK C.x C.b C.ow (C.ts _ hlink) (by rw [← href]; exact hi) hst hcf hin2 (by rw [q2]; exact h6) q1 q3 (by rw [hsl]; exact k2_hasslot (q4 k hk)) rfl rfl hdg fun H' e1 e2 e3 => ?_
    rw [hsl] at e1 ⊢
    exact kk H' _ (hM.upd M he ⟨_, hc, t_OB.to (V := updV (vp_V fs) k v) ⟨_, e1, q2, q3, t_set q4 hap hk v⟩ (fun j _ => vp_updV_set hl v j)⟩ e2 e3)
  · rw [if_neg hl] at hz0
    cases hz0
/-! arrays -/
theorem h_in {i : Int32} {n : Nat} (h : ¬ (i < 0 ∨ n ≤ i.toNatClampNeg)) : vp_in i n := h
theorem w_iald (C : hC p s m args c cc nL own Ts D cl tys n0 Z) (M : hM D cl kA n0 s E nx H locs) {t : Nat} {i v : Int32} (h : aI E r t i = some v) (ht : tys[t]? = some (kA t, .int)) (hdg : decode cc pc = .ok (.iaload, 1))
    (kk : W p l e R s m args below meth c H locs cells slots Q (F0 m (pc + 1) ls (.int v :: rest))) : W p l e R s m args below meth c H locs cells slots Q (F0 m pc ls (.int i :: va_rf r :: rest)) := by
  obtain ⟨⟨a, x⟩, h1, hz0⟩ := Option.bind_eq_some_iff.mp h
  obtain ⟨f, h2, hz1⟩ := Option.bind_eq_some_iff.mp hz0
  obtain ⟨rfl, he⟩ := gA_some h1
  have hx := vAi_some h2
  dsimp only at hz1 he hx
  rw [hx] at he
  by_cases hi : i < 0 ∨ x.1 ≤ i.toNatClampNeg
  · rw [if_pos hi] at hz1; cases hz1
  · rw [if_neg hi] at hz1
    cases hz1
    exact va_iald C.x C.b C.K (hp_one M.P he) 0 t rfl ht (h_in hi) hdg kk
theorem w_lald (C : hC p s m args c cc nL own Ts D cl tys n0 Z) (M : hM D cl kA n0 s E nx H locs) {t : Nat} {i : Int32} {v : Int64} (h : aJ E r t i = some v) (ht : tys[t]? = some (kA t, .long)) (hdg : decode cc pc = .ok (.laload, 1))
    (kk : W p l e R s m args below meth c H locs cells slots Q (F0 m (pc + 1) ls (.long v :: rest))) : W p l e R s m args below meth c H locs cells slots Q (F0 m pc ls (.int i :: va_rf r :: rest)) := by
  obtain ⟨⟨a, x⟩, h1, hz0⟩ := Option.bind_eq_some_iff.mp h
  obtain ⟨f, h2, hz1⟩ := Option.bind_eq_some_iff.mp hz0
  obtain ⟨rfl, he⟩ := gA_some h1
  have hx := vAl_some h2
  dsimp only at hz1 he hx
  rw [hx] at he
  by_cases hi : i < 0 ∨ x.1 ≤ i.toNatClampNeg
  · rw [if_pos hi] at hz1; cases hz1
  · rw [if_neg hi] at hz1
    cases hz1
    exact va_lald C.x C.b C.K (hp_one M.P he) 0 t rfl ht (h_in hi) hdg kk
theorem w_zald (C : hC p s m args c cc nL own Ts D cl tys n0 Z) (M : hM D cl kA n0 s E nx H locs) {t : Nat} {i v : Int32} (h : aI E r t i = some v) (ht : tys[t]? = some (kA t, .boolean)) (hdg : decode cc pc = .ok (.baload, 1))
    (kk : W p l e R s m args below meth c H locs cells slots Q (F0 m (pc + 1) ls (.int v :: rest))) : W p l e R s m args below meth c H locs cells slots Q (F0 m pc ls (.int i :: va_rf r :: rest)) := by
  obtain ⟨⟨a, x⟩, h1, hz0⟩ := Option.bind_eq_some_iff.mp h
  obtain ⟨f, h2, hz1⟩ := Option.bind_eq_some_iff.mp hz0
  obtain ⟨rfl, he⟩ := gA_some h1
  have hx := vAi_some h2
  dsimp only at hz1 he hx
  rw [hx] at he
  by_cases hi : i < 0 ∨ x.1 ≤ i.toNatClampNeg
  · rw [if_pos hi] at hz1; cases hz1
  · rw [if_neg hi] at hz1
    cases hz1
    exact va_zald C.x C.b C.K (hp_one M.P he) 0 t rfl ht (h_in hi) hdg kk
theorem w_aald (C : hC p s m args c cc nL own Ts D cl tys n0 Z) (M : hM D cl kA n0 s E nx H locs) {t : Nat} {Cn : String} {i : Int32} {v : Option Nat} (h : aQ E r t i = some v) (ht : tys[t]? = some (kA t, .object Cn)) (hdg : decode cc pc = .ok (.aaload, 1))
    (kk : W p l e R s m args below meth c H locs cells slots Q (F0 m (pc + 1) ls (va_rf v :: rest))) : W p l e R s m args below meth c H locs cells slots Q (F0 m pc ls (.int i :: va_rf r :: rest)) := by
  obtain ⟨⟨a, x⟩, h1, hz0⟩ := Option.bind_eq_some_iff.mp h
  obtain ⟨f, h2, hz1⟩ := Option.bind_eq_some_iff.mp hz0
  obtain ⟨rfl, he⟩ := gA_some h1
  have hx := vAq_some h2
  dsimp only at hz1 he hx
  rw [hx] at he
  by_cases hi : i < 0 ∨ x.1 ≤ i.toNatClampNeg
  · rw [if_pos hi] at hz1; cases hz1
  · rw [if_neg hi] at hz1
    cases hz1
    exact va_aldq C.x C.b C.K (hp_one M.P he) 0 t rfl ht (h_in hi) hdg kk
theorem w_alen (C : hC p s m args c cc nL own Ts D cl tys n0 Z) (M : hM D cl kA n0 s E nx H locs) {t : Nat} {ty : FieldType} {v : Int32} (h : aL E r t = some v) (ht : tys[t]? = some (kA t, ty)) (hdg : decode cc pc = .ok (.arraylength, 1))
    (kk : W p l e R s m args below meth c H locs cells slots Q (F0 m (pc + 1) ls (.int v :: rest))) : W p l e R s m args below meth c H locs cells slots Q (F0 m pc ls (va_rf r :: rest)) := by
  obtain ⟨⟨a, x⟩, h1, h2⟩ := Option.map_eq_some_iff.mp h
  obtain ⟨rfl, he⟩ := gA_some h1
  exact va_alen C.x C.b C.K (hp_one M.P he) 0 t rfl ht h2 hdg kk
theorem w_iast (C : hC p s m args c cc nL own Ts D cl tys n0 Z) (M : hM D cl kA n0 s E nx H locs) {t : Nat} {i v : Int32} (h : tI E r t i v = some E1) (ht : tys[t]? = some (kA t, .int)) (hdg : decode cc pc = .ok (.iastore, 1))
    (kk : ∀ (H1 : Heap) (locs1 : List Loc), hM D cl kA n0 s E1 nx H1 locs1 → W p l e R s m args below meth c H1 locs1 cells slots Q (F0 m (pc + 1) ls rest)) : W p l e R s m args below meth c H locs cells slots Q (F0 m pc ls (.int v :: .int i :: va_rf r :: rest)) := by
  obtain ⟨⟨a, n, g⟩, h1, hz0⟩ := Option.bind_eq_some_iff.mp h
  obtain ⟨f, h2, hz1⟩ := Option.bind_eq_some_iff.mp hz0
  obtain ⟨rfl, he⟩ := gA_some h1
  have hx := vAi_some h2
  dsimp only at hz1 he hx
  rw [hx] at he
  by_cases hi : i < 0 ∨ n ≤ i.toNatClampNeg
  · rw [if_pos hi] at hz1; cases hz1
  · rw [if_neg hi] at hz1
    cases hz1
    refine W.iast C.x C.b (M.P _ _ he).1 ((C.K.2 t _ ht).1 n (fun j => .int (f j))) (fun q => by cases q) (by show ¬ (i < 0 ∨ (arrV _ _ _).slots.size ≤ _); rw [arrV_size]; exact hi) rfl rfl hdg fun H1 e z oq => ?_
    refine kk H1 _ (hM.upd M he ?_ z oq)
    show H1[a]? = some (vp_cell _ _)
    rw [e]
    show some ((vp_cell (kA t) (n, .inl f)).setSlot _ _) = _
    rw [vp_cell_i, vp_cell_i, arrV_store]
    congr 2
    funext q
    by_cases hq : q = i.toNatClampNeg
    · subst hq
      simp [updV, upd]
    · simp [updV, upd, hq]
theorem w_last (C : hC p s m args c cc nL own Ts D cl tys n0 Z) (M : hM D cl kA n0 s E nx H locs) {t : Nat} {i : Int32} {v : Int64} (h : tJ E r t i v = some E1) (ht : tys[t]? = some (kA t, .long)) (hdg : decode cc pc = .ok (.lastore, 1))
    (kk : ∀ (H1 : Heap) (locs1 : List Loc), hM D cl kA n0 s E1 nx H1 locs1 → W p l e R s m args below meth c H1 locs1 cells slots Q (F0 m (pc + 1) ls rest)) : W p l e R s m args below meth c H locs cells slots Q (F0 m pc ls (.long v :: .int i :: va_rf r :: rest)) := by
  obtain ⟨⟨a, n, g⟩, h1, hz0⟩ := Option.bind_eq_some_iff.mp h
  obtain ⟨f, h2, hz1⟩ := Option.bind_eq_some_iff.mp hz0
  obtain ⟨rfl, he⟩ := gA_some h1
  have hx := vAl_some h2
  dsimp only at hz1 he hx
  rw [hx] at he
  by_cases hi : i < 0 ∨ n ≤ i.toNatClampNeg
  · rw [if_pos hi] at hz1; cases hz1
  · rw [if_neg hi] at hz1
    cases hz1
    refine W.last C.x C.b (M.P _ _ he).1 ((C.K.2 t _ ht).1 n (fun j => .long (f j))) (fun q => by cases q) (by show ¬ (i < 0 ∨ (arrV _ _ _).slots.size ≤ _); rw [arrV_size]; exact hi) rfl rfl hdg fun H1 e z oq => ?_
    refine kk H1 _ (hM.upd M he ?_ z oq)
    show H1[a]? = some (vp_cell _ _)
    rw [e]
    show some ((vp_cell (kA t) (n, .inr (.inl f))).setSlot _ _) = _
    rw [vp_cell_l, vp_cell_l, arrV_store]
    congr 2
    funext q
    by_cases hq : q = i.toNatClampNeg
    · subst hq
      simp [updV, vp_updL]
    · simp [updV, vp_updL, hq]
theorem w_zast (C : hC p s m args c cc nL own Ts D cl tys n0 Z) (M : hM D cl kA n0 s E nx H locs) {t : Nat} {i v : Int32} (h : tZ E r t i v = some E1) (ht : tys[t]? = some (kA t, .boolean)) (hdg : decode cc pc = .ok (.bastore, 1))
    (kk : ∀ (H1 : Heap) (locs1 : List Loc), hM D cl kA n0 s E1 nx H1 locs1 → W p l e R s m args below meth c H1 locs1 cells slots Q (F0 m (pc + 1) ls rest)) : W p l e R s m args below meth c H locs cells slots Q (F0 m pc ls (.int v :: .int i :: va_rf r :: rest)) := by
  unfold tZ at h
  by_cases hv : v = 0 ∨ v = 1
  · rw [if_pos hv] at h
    have hvn : narrow .boolean (.int v) = .int v := by rcases hv with rfl | rfl <;> rfl
    obtain ⟨⟨a, n, g⟩, h1, hz0⟩ := Option.bind_eq_some_iff.mp h
    obtain ⟨f, h2, hz1⟩ := Option.bind_eq_some_iff.mp hz0
    obtain ⟨rfl, he⟩ := gA_some h1
    have hx := vAi_some h2
    dsimp only at hz1 he hx
    rw [hx] at he
    by_cases hi : i < 0 ∨ n ≤ i.toNatClampNeg
    · rw [if_pos hi] at hz1; cases hz1
    · rw [if_neg hi] at hz1
      cases hz1
      refine W.zast C.x C.b (M.P _ _ he).1 ((C.K.2 t _ ht).1 n (fun j => .int (f j))) (fun q => by cases q) (by show ¬ (i < 0 ∨ (arrV _ _ _).slots.size ≤ _); rw [arrV_size]; exact hi) rfl rfl hdg fun H1 e z oq => ?_
      refine kk H1 _ (hM.upd M he ?_ z oq)
      show H1[a]? = some (vp_cell _ _)
      rw [e, hvn]
      show some ((vp_cell (kA t) (n, .inl f)).setSlot _ _) = _
      rw [vp_cell_i, vp_cell_i, arrV_store]
      congr 2
      funext q
      by_cases hq : q = i.toNatClampNeg
      · subst hq
        simp [updV, upd]
      · simp [updV, upd, hq]
  · rw [if_neg hv] at h
    cases h
theorem w_aast (C : hC p s m args c cc nL own Ts D cl tys n0 Z) (M : hM D cl kA n0 s E nx H locs) {t ci : Nat} {i : Int32} {q : Option Nat} {rc : vw_C} {ac : String} (h : tQ E r t i q ci = some E1) (hc : cl[ci]? = some rc) (ht : tys[t]? = some (kA t, .object ac)) (hasg : ∀ comp c0 : ClassId, s.vm.findClass ac = some comp → s.vm.findClass rc.1 = some c0 → s.vm.assignable c0 comp = true) (hdg : decode cc pc = .ok (.aastore, 1))
    (kk : ∀ (H1 : Heap) (locs1 : List Loc), hM D cl kA n0 s E1 nx H1 locs1 → W p l e R s m args below meth c H1 locs1 cells slots Q (F0 m (pc + 1) ls rest)) : W p l e R s m args below meth c H locs cells slots Q (F0 m pc ls (va_rf q :: .int i :: va_rf r :: rest)) := by
  obtain ⟨⟨a, n, g⟩, h1, hz0⟩ := Option.bind_eq_some_iff.mp h
  obtain ⟨f, h2, hz1⟩ := Option.bind_eq_some_iff.mp hz0
  obtain ⟨rfl, he⟩ := gA_some h1
  have hx := vAq_some h2
  dsimp only at hz1 he hx
  rw [hx] at he
  by_cases hi : i < 0 ∨ n ≤ i.toNatClampNeg
  · rw [if_pos hi] at hz1; cases hz1
  · rw [if_neg hi] at hz1
    have hlt : i.toNatClampNeg < n := Nat.not_le.mp fun z => hi (Or.inr z)
    have hi0 : ¬ i < 0 := fun z => hi (Or.inl z)
    have fin : ∀ H1 : Heap, H1[a]? = some ((vp_cell (kA t) (n, .inr (.inr (.inr (.inr f))))).setSlot i.toNatClampNeg (va_rf q)) → va_at D cl (a, h_cv kA (.inl (t, n, .inr (.inr (.inr (.inr (va_up f i.toNatClampNeg q))))))) H1 := by
      intro H1 e
      show H1[a]? = some (vp_cell _ _)
      rw [e]
      rw [vp_cell_q, vp_cell_q, arrV_store]
      congr 2
      funext z
      by_cases hq : z = i.toNatClampNeg
      · subst hq
        simp [updV, va_up]
      · simp [updV, va_up, hq]
    cases q with
    | none =>
      rw [if_pos (Or.inl rfl)] at hz1
      cases hz1
      refine va_WaastN (C := ac) C.x C.b (M.P _ _ he).1 ((C.K.2 t _ ht).1 n (fun j => va_rf (f j))) (fun h => by cases h) (by show ¬ (i < 0 ∨ (arrV _ _ _).slots.size ≤ _); rw [arrV_size]; exact hi) rfl rfl hdg fun H1 e z oq => ?_
      exact kk H1 _ (hM.upd M he (fin H1 e) z oq)
    | some v =>
      by_cases hq : (some v : Option Nat) = none ∨ (gO E (some v) ci).isSome = true
      · rw [if_pos hq] at hz1
        cases hz1
        have hs : (gO E (some v) ci).isSome = true := by
          rcases hq with hq | hq
          · cases hq
          · exact hq
        obtain ⟨o, ho⟩ := Option.isSome_iff_exists.mp hs
        obtain ⟨ev, hv⟩ := gO_some ho
        have ev2 : v = o.1 := Option.some.inj ev
        rw [← ev2] at hv
        obtain ⟨r', hr', cellV, g1, g2, g3, -⟩ := (M.P _ _ hv).1
        have hcls := (C.K.1 ci rc hc).2
        obtain ⟨kB, comp, k1, k2, k3, -⟩ := (C.K.2 t _ ht).2
        obtain ⟨kE, hkE, -⟩ := Vm.findClass_spec k3
        obtain ⟨kC, hkC, -⟩ := hcls.2
        refine W.aast C.x C.b (M.P _ _ he).1 (fun q h => by cases h) (fun h => by cases h) k1 k2 rfl hkE ⟨hi0, by show _ < (arrV _ _ _).slots.size; rw [arrV_size]; exact hlt⟩ g1 (fun q h => by rw [g3] at h; cases h) (by rw [g2]; exact hkC) (by rw [g2]; exact hasg _ _ k3 hcls.1) rfl rfl hdg fun H1 e z oq => ?_
        exact kk H1 _ (hM.upd M he (fin H1 e) z oq)
      · rw [if_neg hq] at hz1
        cases hz1
/-! new objects and arrays: they come at the heap's end -/
theorem w_new (C : hC p s m args c cc nL own Ts D cl tys n0 Z) (M : hM D cl kA n0 s E nx H locs) {ci N index : Nat} {Cn : String} {T : u_T} {fs : List Value} (ty0 : Nat → FieldType) (hc : cl[ci]? = some (Cn, T, N)) (hin : ∀ w ∈ u_ws Cn T N, w ∈ Ts) (hty : ∀ k, k < N → parseFieldDescriptor (T k).2.2.1 = some (ty0 k)) (hcl : Cond.classLink own index Cn ∈ Ts) (hinst : Cond.instantiable Cn N ∈ Ts) (hini : Cond.initialized Cn ∈ Ts) (hfs : ∀ j, j < N → defaultValue (ty0 j) = vp_V fs j) (hcells : cells + 1 ≤ R.cells) (hslots : slots + N ≤ R.slots) (hdg : decode cc pc = .ok (.new index, 3))
    (kk : ∀ (H1 : Heap), hM D cl kA n0 s (va_up E nx (some (.inr (ci, fs)))) (nx + 1) H1 locs → W p l e R s m args below meth c H1 locs (cells + 1) (slots + N) Q (F0 m (pc + 3) ls (va_rf (some nx) :: rest))) : W p l e R s m args below meth c H locs cells slots Q (F0 m pc ls rest) := by
  have hKn := C.K.1 ci _ hc
  refine W.newcK C.x C.b C.ow (C.ts _ hcl) (C.ts _ hinst) (C.ts _ hini) rfl hdg hcells hslots hKn.2.1 M.z fun H1 kC hkC e1 z1 o1 => ?_
  obtain ⟨hP, hS, hz⟩ := M
  subst hz
  exact kk H1 ⟨hp_born hP (Nat.le_trans C.n hS.1) ⟨_, hc, (u_born ty0 C.ts hin hKn hkC e1 hty).to hfs⟩ o1, ⟨Nat.le_trans hS.1 (by omega), fun x h1 h2 => (o1 x (Nat.lt_of_lt_of_le h1 hS.1)).trans (hS.2.1 x h1 h2), hS.2.2⟩, z1⟩
theorem w_newa (C : hC p s m args c cc nL own Ts D cl tys n0 Z) (M : hM D cl kA n0 s E nx H locs) {t : Nat} {atype : ArrayType} {ty : FieldType} (harr : Cond.arrayClass (newarray.typeOf atype) ∈ Ts) (hty : newarray.typeOf atype = ty) (ht : tys[t]? = some (kA t, ty)) (hnm : ∀ (U : State) (x : ClassId), va_RA U x ty → U.vm.findClass ("[" ++ ty.toString) = some x) {n : Int32} {N' : Nat} {a0 : vp_A} (ha : ∀ cA : ClassId, vp_cell cA a0 = arrV cA N' (fun _ => defaultValue ty)) (hn : ¬ n < 0) (hN : n.toNatClampNeg = N') (hbytes : N' * componentBytes ty ≤ 536870912) (hcells : cells + 1 ≤ R.cells) (hslots : slots + N' ≤ R.slots) (hdg : decode cc pc = .ok (.newarray atype, 2))
    (kk : ∀ (H1 : Heap), hM D cl kA n0 s (va_up E nx (some (.inl (t, a0)))) (nx + 1) H1 locs → W p l e R s m args below meth c H1 locs (cells + 1) (slots + N') Q (F0 m (pc + 2) ls (va_rf (some nx) :: rest))) : W p l e R s m args below meth c H locs cells slots Q (F0 m pc ls (.int n :: rest)) := by
  subst hty
  refine va_newaK C.x C.b (C.ts _ harr) rfl hdg rfl hn hN hbytes hcells hslots M.z fun H1 cA e1 z1 o1 hAr hNm => ?_
  have h3 : cA = kA t := Option.some.inj (hNm.symm.trans (hnm s _ (C.K.2 t _ ht).2))
  subst h3
  obtain ⟨hP, hS, hz⟩ := M
  subst hz
  refine kk H1 ⟨hp_born hP (Nat.le_trans C.n hS.1) ?_ o1, ⟨Nat.le_trans hS.1 (by omega), fun x h1 h2 => (o1 x (Nat.lt_of_lt_of_le h1 hS.1)).trans (hS.2.1 x h1 h2), hS.2.2⟩, z1⟩
  show H1[H.size]? = some (vp_cell _ _)
  rw [ha]
  exact e1
theorem w_newq (C : hC p s m args c cc nL own Ts D cl tys n0 Z) (M : hM D cl kA n0 s E nx H locs) {t : Nat} {Cn : String} {index : Nat} (hcl : Cond.classLink own index Cn ∈ Ts) (hover : va_AO Cn s) (ht : tys[t]? = some (kA t, .object Cn)) {n : Int32} {N' : Nat} (hn : ¬ n < 0) (hN : n.toNatClampNeg = N') (hbytes : N' * 4 ≤ 536870912) (hcells : cells + 1 ≤ R.cells) (hslots : slots + N' ≤ R.slots) (hdg : decode cc pc = .ok (.anewarray index, 3))
    (kk : ∀ (H1 : Heap), hM D cl kA n0 s (va_up E nx (some (.inl (t, N', .inr (.inr (.inr (.inr (fun _ => none)))))))) (nx + 1) H1 locs → W p l e R s m args below meth c H1 locs (cells + 1) (slots + N') Q (F0 m (pc + 3) ls (va_rf (some nx) :: rest))) : W p l e R s m args below meth c H locs cells slots Q (F0 m pc ls (.int n :: rest)) := by
  subst hN
  refine W.anew C.x C.b C.ow (C.ts _ hcl) (va_AO.use hover) rfl hdg rfl hn hbytes hcells hslots fun cA kB comp f1 f2 f3 f4 => ?_
  generalize hH1 : H.push ({ cls := cA, slots := Array.replicate n.toNatClampNeg .null, vm := .none } : Cell) = H1
  have z1 : H1.size = H.size + 1 := by rw [← hH1, Array.size_push]
  have e1 : H1[H.size]? = some (arrV cA n.toNatClampNeg (fun _ => .null)) := by rw [← hH1, Array.getElem?_push_size, ← arrV_new]
  have o1 : ∀ q : Nat, q < H.size → H1[q]? = H[q]? := fun q hq => by rw [← hH1, Array.getElem?_push, if_neg (Nat.ne_of_lt hq)]
  have h3 : cA = kA t := by
    obtain ⟨_, _, _, _, _, h5⟩ := (C.K.2 t _ ht).2
    exact Option.some.inj (f1.symm.trans h5)
  subst h3
  obtain ⟨hP, hS, hz⟩ := M
  subst hz
  refine kk H1 ⟨hp_born hP (Nat.le_trans C.n hS.1) ?_ o1, ⟨Nat.le_trans hS.1 (by omega), fun x h1 h2 => (o1 x (Nat.lt_of_lt_of_le h1 hS.1)).trans (hS.2.1 x h1 h2), hS.2.2⟩, z1⟩
  show H1[H.size]? = some (vp_cell _ _)
  rw [vp_cell_q]
  exact e1
theorem w_newI (C : hC p s m args c cc nL own Ts D cl tys n0 Z) (M : hM D cl kA n0 s E nx H locs) {t bd : Nat} {n : Int32} {atype : ArrayType} {ty : FieldType} (h : nA E nx t n bd = some E1) (harr : Cond.arrayClass (newarray.typeOf atype) ∈ Ts) (hty : newarray.typeOf atype = ty) (ht : tys[t]? = some (kA t, ty)) (hnm : ∀ (U : State) (x : ClassId), va_RA U x ty → U.vm.findClass ("[" ++ ty.toString) = some x) (ha : ∀ (cA : ClassId) (N' : Nat), vp_cell cA (N', .inl (fun _ => 0)) = arrV cA N' (fun _ => defaultValue ty)) (hbd : bd * componentBytes ty ≤ 536870912) (hcells : cells + 1 ≤ R.cells) (hslots : slots + bd ≤ R.slots) (hdg : decode cc pc = .ok (.newarray atype, 2))
    (kk : ∀ (H1 : Heap), hM D cl kA n0 s E1 (nx + 1) H1 locs → W p l e R s m args below meth c H1 locs (cells + 1) (slots + bd) Q (F0 m (pc + 2) ls (va_rf (some nx) :: rest))) : W p l e R s m args below meth c H locs cells slots Q (F0 m pc ls (.int n :: rest)) := by
  unfold nA at h
  by_cases hn : n < 0 ∨ bd < n.toNatClampNeg
  · rw [if_pos hn] at h; cases h
  · rw [if_neg hn] at h
    cases h
    have h2 : n.toNatClampNeg ≤ bd := Nat.not_lt.mp fun z => hn (Or.inr z)
    refine w_newa C M harr hty ht hnm (ha := fun cA => ha cA n.toNatClampNeg) (fun z => hn (Or.inl z)) rfl (Nat.le_trans (Nat.mul_le_mul_right _ h2) hbd) hcells (Nat.le_trans (Nat.add_le_add_left h2 _) hslots) hdg (fun H1 M1 => ?_)
    exact W.widen (Nat.le_refl _) (Nat.add_le_add_left h2 _) (kk H1 M1)
theorem w_newJ (C : hC p s m args c cc nL own Ts D cl tys n0 Z) (M : hM D cl kA n0 s E nx H locs) {t bd : Nat} {n : Int32} {atype : ArrayType} {ty : FieldType} (h : nJ E nx t n bd = some E1) (harr : Cond.arrayClass (newarray.typeOf atype) ∈ Ts) (hty : newarray.typeOf atype = ty) (ht : tys[t]? = some (kA t, ty)) (hnm : ∀ (U : State) (x : ClassId), va_RA U x ty → U.vm.findClass ("[" ++ ty.toString) = some x) (ha : ∀ (cA : ClassId) (N' : Nat), vp_cell cA (N', .inr (.inl (fun _ => 0))) = arrV cA N' (fun _ => defaultValue ty)) (hbd : bd * componentBytes ty ≤ 536870912) (hcells : cells + 1 ≤ R.cells) (hslots : slots + bd ≤ R.slots) (hdg : decode cc pc = .ok (.newarray atype, 2))
    (kk : ∀ (H1 : Heap), hM D cl kA n0 s E1 (nx + 1) H1 locs → W p l e R s m args below meth c H1 locs (cells + 1) (slots + bd) Q (F0 m (pc + 2) ls (va_rf (some nx) :: rest))) : W p l e R s m args below meth c H locs cells slots Q (F0 m pc ls (.int n :: rest)) := by
  unfold nJ at h
  by_cases hn : n < 0 ∨ bd < n.toNatClampNeg
  · rw [if_pos hn] at h; cases h
  · rw [if_neg hn] at h
    cases h
    have h2 : n.toNatClampNeg ≤ bd := Nat.not_lt.mp fun z => hn (Or.inr z)
    refine w_newa C M harr hty ht hnm (ha := fun cA => ha cA n.toNatClampNeg) (fun z => hn (Or.inl z)) rfl (Nat.le_trans (Nat.mul_le_mul_right _ h2) hbd) hcells (Nat.le_trans (Nat.add_le_add_left h2 _) hslots) hdg (fun H1 M1 => ?_)
    exact W.widen (Nat.le_refl _) (Nat.add_le_add_left h2 _) (kk H1 M1)
theorem w_newO (C : hC p s m args c cc nL own Ts D cl tys n0 Z) (M : hM D cl kA n0 s E nx H locs) {t bd index : Nat} {n : Int32} {Cn : String} (h : nQ E nx t n bd = some E1) (hcl : Cond.classLink own index Cn ∈ Ts) (hover : va_AO Cn s) (ht : tys[t]? = some (kA t, .object Cn)) (hcells : cells + 1 ≤ R.cells) (hslots : slots + bd ≤ R.slots) (hdg : decode cc pc = .ok (.anewarray index, 3))
    (kk : ∀ (H1 : Heap), hM D cl kA n0 s E1 (nx + 1) H1 locs → W p l e R s m args below meth c H1 locs (cells + 1) (slots + bd) Q (F0 m (pc + 3) ls (va_rf (some nx) :: rest))) : W p l e R s m args below meth c H locs cells slots Q (F0 m pc ls (.int n :: rest)) := by
  unfold nQ at h
  by_cases hn : n < 0 ∨ bd < n.toNatClampNeg ∨ 100000 < n.toNatClampNeg
  · rw [if_pos hn] at h; cases h
  · rw [if_neg hn] at h
    cases h
    have h2 : n.toNatClampNeg ≤ bd := Nat.not_lt.mp fun z => hn (Or.inr (Or.inl z))
    have h3 : n.toNatClampNeg ≤ 100000 := Nat.not_lt.mp fun z => hn (Or.inr (Or.inr z))
    refine w_newq C M hcl hover ht (fun z => hn (Or.inl z)) rfl (by omega) hcells (Nat.le_trans (Nat.add_le_add_left h2 _) hslots) hdg (fun H1 M1 => ?_)
    exact W.widen (Nat.le_refl _) (Nat.add_le_add_left h2 _) (kk H1 M1)
/-! calls: the run, then the answer -/
variable {y : MethodName} {bytes : ByteArray} {maxL mc ms n index : Nat} {ret : Option FieldType} {ws : List Cond} {rm : Room} {Qc : Array Value → State → Outcome → State → Prop} {free : Addr → Prop} {b : Addr} {As st0 : List Value} {Cn : String}
theorem w_recv (C : hC p s m args c cc nL own Ts D cl tys n0 Z) (M : hM D cl kA n0 s E nx H locs) {ci : Nat} {rc : vw_C} {fs : List Value} (he : E b = some (.inr (ci, fs))) (hc : cl[ci]? = some rc) : ∃ cell : Cell, H[b]? = some cell ∧ cell.vm.isStatics = false ∧ s.vm.findClass rc.1 = some cell.cls := va_recv C.K (hp_one M.P he) hc (q0 := 0) rfl
theorem w_runV (C : hC p s m args c cc nL own Ts D cl tys n0 Z) (M : hM D cl kA n0 s E nx H locs) {ci : Nat} {rc : vw_C} {o : Nat × List Value} (h : gO E r ci = some o) (hc : cl[ci]? = some rc) (hMt : Met l y ws rm (va_Pc (va_rf (some o.1) :: As) (hI D cl kA tys n0 Z (E, nx))) Qc mc ms free) (cw : CallW R s args own rc.1 index y bytes maxL ret ws rm mc ms n)
    (hn : As.length = n) (hsize : ls.size = nL) (hstack : st0 = As.reverse ++ va_rf r :: rest) (hW : (rest.map fun v => v.category).sum ≤ 8) (hdg : decode cc pc = .ok (.invokevirtual index, 3)) (hf : cells + mc ≤ R.cells ∧ slots + ms ≤ R.slots) :
    va_Run p l e R s m args below meth c H locs cells slots mc ms (F0 m pc ls st0) rest (Qc (va_rf (some o.1) :: As).toArray) free := by
  obtain ⟨rfl, he⟩ := gO_some h
  exact va_runV C.fix hMt cw ⟨hI.blind C.zk _, w_recv C M he hc, fun U hU hA => ⟨rfl, hM.I C M U hU hA⟩⟩ rfl hn hsize hstack (lv_room hW) hdg hf
theorem w_runS (C : hC p s m args c cc nL own Ts D cl tys n0 Z) (M : hM D cl kA n0 s E nx H locs) (hMt : Met l y ws rm (va_Pc As (hI D cl kA tys n0 Z (E, nx))) Qc mc ms free) (cw : CallB R s args own index y bytes maxL ret ws rm mc ms n ∧ (Cond.static y).before args s = true)
    (hn : As.length = n) (hsize : ls.size = nL) (hstack : st0 = As.reverse ++ rest) (hW : (rest.map fun v => v.category).sum ≤ 8) (hdg : decode cc pc = .ok (.invokestatic index, 3)) (hf : cells + mc ≤ R.cells ∧ slots + ms ≤ R.slots) :
    va_Run p l e R s m args below meth c H locs cells slots mc ms (F0 m pc ls st0) rest (Qc As.toArray) free :=
  va_runS C.fix hMt cw ⟨hI.blind C.zk _, fun U hU hA => ⟨rfl, hM.I C M U hU hA⟩⟩ rfl hn hsize hstack (lv_room hW) hdg hf
theorem w_runI (C : hC p s m args c cc nL own Ts D cl tys n0 Z) (M : hM D cl kA n0 s E nx H locs) (hMt : Met l y ws rm (va_Pc (va_rf (some b) :: As) (hI D cl kA tys n0 Z (E, nx))) Qc mc ms free) (cw : CallB R s args own index y bytes maxL none ws rm mc ms n ∧ y.name = "<init>" ∧ (Cond.instanceMethod y).before args s = true)
    (hn : As.length = n) (hsize : ls.size = nL) (hstack : st0 = As.reverse ++ va_rf (some b) :: rest) (hW : (rest.map fun v => v.category).sum ≤ 8) (hdg : decode cc pc = .ok (.invokespecial index, 3)) (hf : cells + mc ≤ R.cells ∧ slots + ms ≤ R.slots) :
    va_Run p l e R s m args below meth c H locs cells slots mc ms (F0 m pc ls st0) rest (Qc (va_rf (some b) :: As).toArray) free :=
  va_runI C.fix hMt cw ⟨hI.blind C.zk _, fun U hU hA => ⟨rfl, hM.I C M U hU hA⟩⟩ rfl hn hsize hstack (lv_room hW) hdg hf
theorem w_runIN {host : String} (C : hC p s m args c cc nL own Ts D cl tys n0 Z) (M : hM D cl kA n0 s E nx H locs) (hMt : Met l y ws rm (va_Pc (va_rf (some b) :: As) (hI D cl kA tys n0 Z (E, nx))) Qc mc ms free) (cw : va_CN R s args own index y host bytes maxL none ws rm mc ms n ∧ y.name = "<init>" ∧ (Cond.instanceMethod y).before args s = true)
    (hn : As.length = n) (hsize : ls.size = nL) (hstack : st0 = As.reverse ++ va_rf (some b) :: rest) (hW : (rest.map fun v => v.category).sum ≤ 8) (hdg : decode cc pc = .ok (.invokespecial index, 3)) (hf : cells + mc ≤ R.cells ∧ slots + ms ≤ R.slots) :
    va_Run p l e R s m args below meth c H locs cells slots mc ms (F0 m pc ls st0) rest (Qc (va_rf (some b) :: As).toArray) free :=
  va_runIN C.fix hMt cw ⟨hI.blind C.zk _, fun U hU hA => ⟨rfl, hM.I C M U hU hA⟩⟩ rfl hn hsize hstack (lv_room hW) hdg hf
variable {aa : Array Value}
theorem w_ci {v : Int32} {E2 : hE} {nx2 : Nat} (M : hM D cl kA n0 s E nx H locs) (hr : va_Run p l e R s m args below meth c H locs cells slots mc ms (F0 m pc ls st0) rest (va_Qi (fun r w => r = v ∧ w = (E2, nx2)) (hI D cl kA tys n0 Z) (fun q => n0 ≤ q) aa) (fun q => n0 ≤ q))
    (kk : ∀ (H1 : Heap) (locs1 : List Loc), hM D cl kA n0 s E2 nx2 H1 locs1 → W p l e R s m args below meth c H1 locs1 (cells + mc) (slots + ms) Q (F0 m (pc + 3) ls (.int v :: rest))) : W p l e R s m args below meth c H locs cells slots Q (F0 m pc ls st0) :=
  va_calli hr M.S (fun _ _ h => h) (fun _ h => h) (fun r w t H1 locs1 ht _ hw hB _ _ hS => by
    obtain ⟨rfl, rfl⟩ := hw
    exact kk H1 locs1 ⟨by rw [← ht]; exact hB.1, hS, by rw [← ht]; exact hB.2.2.2.1⟩)
theorem w_cl {v : Int64} {E2 : hE} {nx2 : Nat} (M : hM D cl kA n0 s E nx H locs) (hr : va_Run p l e R s m args below meth c H locs cells slots mc ms (F0 m pc ls st0) rest (va_Ql (fun r w => r = v ∧ w = (E2, nx2)) (hI D cl kA tys n0 Z) (fun q => n0 ≤ q) aa) (fun q => n0 ≤ q))
    (kk : ∀ (H1 : Heap) (locs1 : List Loc), hM D cl kA n0 s E2 nx2 H1 locs1 → W p l e R s m args below meth c H1 locs1 (cells + mc) (slots + ms) Q (F0 m (pc + 3) ls (.long v :: rest))) : W p l e R s m args below meth c H locs cells slots Q (F0 m pc ls st0) :=
  va_calll hr M.S (fun _ _ h => h) (fun _ h => h) (fun r w t H1 locs1 ht _ hw hB _ _ hS => by
    obtain ⟨rfl, rfl⟩ := hw
    exact kk H1 locs1 ⟨by rw [← ht]; exact hB.1, hS, by rw [← ht]; exact hB.2.2.2.1⟩)
theorem w_cv {E2 : hE} {nx2 : Nat} (M : hM D cl kA n0 s E nx H locs) (hr : va_Run p l e R s m args below meth c H locs cells slots mc ms (F0 m pc ls st0) rest (va_Qv (fun w => w = (E2, nx2)) (hI D cl kA tys n0 Z) (fun q => n0 ≤ q) aa) (fun q => n0 ≤ q))
    (kk : ∀ (H1 : Heap) (locs1 : List Loc), hM D cl kA n0 s E2 nx2 H1 locs1 → W p l e R s m args below meth c H1 locs1 (cells + mc) (slots + ms) Q (F0 m (pc + 3) ls rest)) : W p l e R s m args below meth c H locs cells slots Q (F0 m pc ls st0) :=
  va_callv hr M.S (fun _ _ h => h) (fun _ h => h) (fun w t H1 locs1 ht _ hw hB _ _ hS => by
    subst hw
    exact kk H1 locs1 ⟨by rw [← ht]; exact hB.1, hS, by rw [← ht]; exact hB.2.2.2.1⟩)
theorem w_cq {v : Option Nat} {E2 : hE} {nx2 : Nat} (M : hM D cl kA n0 s E nx H locs) (hr : va_Run p l e R s m args below meth c H locs cells slots mc ms (F0 m pc ls st0) rest (va_Qq (fun r w => r = v ∧ w = (E2, nx2)) (hI D cl kA tys n0 Z) (fun q => n0 ≤ q) aa) (fun q => n0 ≤ q))
    (kk : ∀ (H1 : Heap) (locs1 : List Loc), hM D cl kA n0 s E2 nx2 H1 locs1 → W p l e R s m args below meth c H1 locs1 (cells + mc) (slots + ms) Q (F0 m (pc + 3) ls (va_rf v :: rest))) : W p l e R s m args below meth c H locs cells slots Q (F0 m pc ls st0) :=
  va_callq hr M.S (fun _ _ h => h) (fun _ h => h) (fun r w t H1 locs1 ht _ hw hB _ _ hS => by
    obtain ⟨rfl, rfl⟩ := hw
    exact kk H1 locs1 ⟨by rw [← ht]; exact hB.1, hS, by rw [← ht]; exact hB.2.2.2.1⟩)
/-! ends -/
theorem w_iret {v v' : Int32} {u : hE × Nat} (C : hC p s m args c cc nL own Ts D cl tys n0 Z) (M : hM D cl kA n0 s E nx H locs) {ty : FieldType} (hr : meth.sig.returnType = some ty) (hlocks : meth.locks = false) (hn : narrow ty (.int v) = .int v) (hc : cells ≤ mc) (hs : slots ≤ ms) (hdg : decode cc pc = .ok (.ireturn, 1)) (hv : v = v') (hu : (E, nx) = u) :
    W p l e R s m args below meth c H locs cells slots (MQ below (va_Qi (fun r w => r = v' ∧ w = u) (hI D cl kA tys n0 Z) (fun q => n0 ≤ q)) args s mc ms (fun q => n0 ≤ q)) (F0 m pc ls [.int v]) :=
  W.widen hc hs (W.zret C.x C.b hr hn (fun t ht hW => ⟨⟨v, (E, nx), rfl, ⟨hv, hu⟩, hM.I C M t ht hW⟩, M.S.F ht⟩) M.S.2.2 hdg hlocks)
theorem w_lret {v v' : Int64} {u : hE × Nat} (C : hC p s m args c cc nL own Ts D cl tys n0 Z) (M : hM D cl kA n0 s E nx H locs) (hr : meth.sig.returnType = some .long) (hlocks : meth.locks = false) (hc : cells ≤ mc) (hs : slots ≤ ms) (hdg : decode cc pc = .ok (.lreturn, 1)) (hv : v = v') (hu : (E, nx) = u) :
    W p l e R s m args below meth c H locs cells slots (MQ below (va_Ql (fun r w => r = v' ∧ w = u) (hI D cl kA tys n0 Z) (fun q => n0 ≤ q)) args s mc ms (fun q => n0 ≤ q)) (F0 m pc ls [.long v]) :=
  W.widen hc hs (W.lret C.x C.b hr (fun t ht hW => ⟨⟨v, (E, nx), rfl, ⟨hv, hu⟩, hM.I C M t ht hW⟩, M.S.F ht⟩) M.S.2.2 hdg hlocks)
theorem w_vret {u : hE × Nat} (C : hC p s m args c cc nL own Ts D cl tys n0 Z) (M : hM D cl kA n0 s E nx H locs) (hr : meth.sig.returnType = none) (hlocks : meth.locks = false) (hc : cells ≤ mc) (hs : slots ≤ ms) (hdg : decode cc pc = .ok (.return_, 1)) (hu : (E, nx) = u) :
    W p l e R s m args below meth c H locs cells slots (MQ below (va_Qv (fun w => w = u) (hI D cl kA tys n0 Z) (fun q => n0 ≤ q)) args s mc ms (fun q => n0 ≤ q)) (F0 m pc ls []) :=
  W.widen hc hs (W.vret C.x C.b hr (fun t ht hW => ⟨⟨(E, nx), rfl, hu, hM.I C M t ht hW⟩, M.S.F ht⟩) M.S.2.2 hdg hlocks)
theorem w_aret {v v' : Option Nat} {u : hE × Nat} (C : hC p s m args c cc nL own Ts D cl tys n0 Z) (M : hM D cl kA n0 s E nx H locs) {rt : FieldType} (hr : meth.sig.returnType = some rt) (hrt : (∃ n, rt = .object n) ∨ ∃ t, rt = .array t) (hlocks : meth.locks = false) (hc : cells ≤ mc) (hs : slots ≤ ms) (hdg : decode cc pc = .ok (.areturn, 1)) (hv : v = v') (hu : (E, nx) = u) :
    W p l e R s m args below meth c H locs cells slots (MQ below (va_Qq (fun r w => r = v' ∧ w = u) (hI D cl kA tys n0 Z) (fun q => n0 ≤ q)) args s mc ms (fun q => n0 ≤ q)) (F0 m pc ls [va_rf v]) :=
  W.widen hc hs (W.aret C.x C.b hr hrt (va_rf_or v) (fun t ht hW => ⟨⟨v, (E, nx), rfl, ⟨hv, hu⟩, hM.I C M t ht hW⟩, M.S.F ht⟩) M.S.2.2 hdg hlocks)
/-! references in locals and on the stack, null or not -/
theorem w_aload_n {k : Fin 4} {i : Nat} (hx : p.tables.exec = Jvm.exec) (hb : c.code = cc) (hdg : decode cc pc = .ok (.aload_n k, 1)) (hi : (k : Nat) = i) (hl : ls[i]? = some (.val (va_rf r)))
    (kk : W p l e R s m args below meth c H locs cells slots Q (F0 m (pc + 1) ls (va_rf r :: rest))) : W p l e R s m args below meth c H locs cells slots Q (F0 m pc ls rest) := by
  cases r with
  | none => exact lv_aload_nN hx hb hdg hi hl kk
  | some a => exact lv_aload_n hx hb hdg hi hl kk
theorem w_aload {i : Nat} (hx : p.tables.exec = Jvm.exec) (hb : c.code = cc) (hdg : decode cc pc = .ok (.aload i, 2)) (hl : ls[i]? = some (.val (va_rf r)))
    (kk : W p l e R s m args below meth c H locs cells slots Q (F0 m (pc + 2) ls (va_rf r :: rest))) : W p l e R s m args below meth c H locs cells slots Q (F0 m pc ls rest) := by
  cases r with
  | none => exact lv_aloadN hx hb hdg hl kk
  | some a => exact lv_aload hx hb hdg hl kk
theorem w_astore_n {k : Fin 4} {i : Nat} {lv lv' : List (Nat × Value)} (hx : p.tables.exec = Jvm.exec) (hb : c.code = cc) (hdg : decode cc pc = .ok (.astore_n k, 1)) (hi : (k : Nat) = i) (h : lv_has ls nL lv) (hn : i < nL) (hl : (i, va_rf r) :: lv.filter (fun q => !(q.1 == i) && !(q.1 + 1 == i && q.2.category == 2)) = lv')
    (kk : ∀ ls' : Array Slot, lv_has ls' nL lv' → W p l e R s m args below meth c H locs cells slots Q (F0 m (pc + 1) ls' rest)) : W p l e R s m args below meth c H locs cells slots Q (F0 m pc ls (va_rf r :: rest)) := by
  cases r with
  | none => exact lv_astore_nN hx hb hdg hi h hn hl kk
  | some a => exact lv_astore_n hx hb hdg hi h hn hl kk
theorem w_astore {i : Nat} {lv lv' : List (Nat × Value)} (hx : p.tables.exec = Jvm.exec) (hb : c.code = cc) (hdg : decode cc pc = .ok (.astore i, 2)) (h : lv_has ls nL lv) (hn : i < nL) (hl : (i, va_rf r) :: lv.filter (fun q => !(q.1 == i) && !(q.1 + 1 == i && q.2.category == 2)) = lv')
    (kk : ∀ ls' : Array Slot, lv_has ls' nL lv' → W p l e R s m args below meth c H locs cells slots Q (F0 m (pc + 2) ls' rest)) : W p l e R s m args below meth c H locs cells slots Q (F0 m pc ls (va_rf r :: rest)) := by
  cases r with
  | none => exact lv_astoreN hx hb hdg h hn hl kk
  | some a => exact lv_astore hx hb hdg h hn hl kk
theorem w_ifnull {off : Int} {tgt : Nat} (hx : p.tables.exec = Jvm.exec) (hb : c.code = cc) (hdg : decode cc pc = .ok (.ifnull off, 3)) (ht : (pc : Int) + off = (tgt : Int)) (kt : r = none → W p l e R s m args below meth c H locs cells slots Q (F0 m tgt ls rest)) (kf : ¬ r = none → W p l e R s m args below meth c H locs cells slots Q (F0 m (pc + 3) ls rest)) : W p l e R s m args below meth c H locs cells slots Q (F0 m pc ls (va_rf r :: rest)) := by
  cases r with
  | none => exact lv_ifnullN hx hb hdg ht (kt rfl)
  | some a => exact lv_ifnull hx hb hdg (kf (fun h => by cases h))
theorem w_ifnonnull {off : Int} {tgt : Nat} (hx : p.tables.exec = Jvm.exec) (hb : c.code = cc) (hdg : decode cc pc = .ok (.ifnonnull off, 3)) (ht : (pc : Int) + off = (tgt : Int)) (kt : ¬ r = none → W p l e R s m args below meth c H locs cells slots Q (F0 m tgt ls rest)) (kf : r = none → W p l e R s m args below meth c H locs cells slots Q (F0 m (pc + 3) ls rest)) : W p l e R s m args below meth c H locs cells slots Q (F0 m pc ls (va_rf r :: rest)) := by
  cases r with
  | none => exact lv_ifnonnullN hx hb hdg (kf rfl)
  | some a => exact lv_ifnonnull hx hb hdg ht (kt (fun h => by cases h))
theorem narrow_o (n : String) (q : Option Nat) : narrow (.object n) (va_rf q) = va_rf q := by cases q <;> rfl
theorem narrow_a (t : FieldType) (q : Option Nat) : narrow (.array t) (va_rf q) = va_rf q := by cases q <;> rfl
theorem fits_o (n : String) (q : Option Nat) : fits (.object n) (va_rf q) = true := by cases q <;> rfl
theorem fits_a (t : FieldType) (q : Option Nat) : fits (.array t) (va_rf q) = true := by cases q <;> rfl
theorem sZ_some {k ci : Nat} {x : Int32} (h : sZ E r ci k x = some E1) : (x = 0 ∨ x = 1) ∧ sF E r ci k (.int x) = some E1 := by
  unfold sZ at h
  by_cases hv : x = 0 ∨ x = 1
  · rw [if_pos hv] at h
    exact ⟨hv, h⟩
  · rw [if_neg hv] at h
    cases h
theorem narrow_z {x : Int32} (h : x = 0 ∨ x = 1) : narrow .boolean (.int x) = .int x := by rcases h with rfl | rfl <;> rfl
theorem fits_z {x : Int32} (h : x = 0 ∨ x = 1) : fits .boolean (.int x) = true := by rcases h with rfl | rfl <;> rfl
theorem va_rf_cat (r : Option Nat) : (va_rf r).category = 1 := by cases r <;> rfl
theorem cat_i (x : Int32) : (Value.int x).category = 1 := rfl
theorem cat_l (x : Int64) : (Value.long x).category = 2 := rfl
theorem cat_n : Value.null.category = 1 := rfl
end HCB
end
section
/-! ===== the map as a list of cells, for rows of the kit that take such a list ===== -/
def hp_wl (kA : Nat → ClassId) (E : hE) (n : Nat) : va_W := (List.range n).filterMap (fun a => (E a).map (fun e => (a, h_cv kA e)))
theorem hp_mem {kA : Nat → ClassId} {E : hE} {n a : Nat} {x : va_E} : (a, x) ∈ hp_wl kA E n ↔ a < n ∧ ∃ e, E a = some e ∧ x = h_cv kA e := by
  unfold hp_wl
  rw [List.mem_filterMap]
  constructor
  · intro h0
    obtain ⟨b, hb, h⟩ := h0
    rw [List.mem_range] at hb
    cases hq : E b with
    | none => rw [hq] at h; cases h
    | some y =>
      rw [hq] at h
      cases h
      exact ⟨hb, y, hq, rfl⟩
  · intro h0
    obtain ⟨h1, e, h2, h3⟩ := h0
    exact ⟨a, List.mem_range.mpr h1, by rw [h2, h3]; rfl⟩
theorem hp_pw (kA : Nat → ClassId) (E : hE) (n : Nat) : (hp_wl kA E n).Pairwise (fun x y => x.1 < y.1) := by
  unfold hp_wl
  refine List.Pairwise.filterMap _ ?_ (List.pairwise_lt_range (n := n))
  intro a b hab x hx y hy
  have h1 : x.1 = a := by
    cases h : E a with
    | none => rw [h] at hx; cases hx
    | some z => rw [h] at hx; cases hx; rfl
  have h2 : y.1 = b := by
    cases h : E b with
    | none => rw [h] at hy; cases hy
    | some z => rw [h] at hy; cases hy; rfl
  rw [h1, h2]
  exact hab
theorem hp_D {kA : Nat → ClassId} {E : hE} {n n0 : Nat} (h : ∀ (a : Nat) (e : va_E), E a = some e → n0 ≤ a) : va_D (fun q => n0 ≤ q) (hp_wl kA E n) := by
  refine ⟨fun i j x y hx hy hxy => ?_, fun k q hk => ?_⟩
  · obtain ⟨hi, ei⟩ := List.getElem?_eq_some_iff.mp hx
    obtain ⟨hj, ej⟩ := List.getElem?_eq_some_iff.mp hy
    have pw := List.pairwise_iff_getElem.mp (hp_pw kA E n)
    rcases Nat.lt_trichotomy i j with h1 | h1 | h1
    · have h2 := pw i j hi hj h1
      rw [ei, ej] at h2
      omega
    · exact h1
    · have h2 := pw j i hj hi h1
      rw [ei, ej] at h2
      omega
  · obtain ⟨-, e, h1, -⟩ := hp_mem.mp (List.mem_of_getElem? hk)
    exact h q.1 e h1
section HPL
variable {D : va_G} {cl : List vw_C} {kA : Nat → ClassId} {n0 : Nat} {E : hE} {H H1 : Heap} {a : Nat} {e e' : va_E}
theorem hp_P (h : hp D cl kA n0 E H) (n : Nat) : va_P D cl (hp_wl kA E n) H := fun k q hk => by
  obtain ⟨a, x⟩ := q
  obtain ⟨-, e, h1, h2⟩ := hp_mem.mp (List.mem_of_getElem? hk)
  subst h2
  exact (h a e h1).1
theorem hp_at (h : hp D cl kA n0 E H) (ha : E a = some e) : ∃ k : Nat, (hp_wl kA E H.size)[k]? = some (a, h_cv kA e) := List.getElem?_of_mem (hp_mem.mpr ⟨hp_lt h ha, e, ha, rfl⟩)
theorem hp_lset (h : hp D cl kA n0 E H) {k : Nat} (ha : E a = some e) (hk : (hp_wl kA E H.size)[k]? = some (a, h_cv kA e)) (h1 : va_P D cl ((hp_wl kA E H.size).set k (a, h_cv kA e')) H1) : hp D cl kA n0 (va_up E a (some e')) H1 := by
  intro b x hb
  by_cases hba : b = a
  · subst hba
    rw [va_up_self] at hb
    cases hb
    exact ⟨h1 k _ (List.getElem?_set_self (List.getElem?_eq_some_iff.mp hk).1), (h b e ha).2⟩
  · rw [va_up_ne _ _ hba] at hb
    obtain ⟨j, hj⟩ := hp_at h hb
    have hjk : k ≠ j := fun q => hba (by subst q; rw [hk] at hj; exact (congrArg Prod.fst (Option.some.inj hj)).symm)
    exact ⟨h1 j _ (by rw [List.getElem?_set_ne hjk]; exact hj), (h b x hb).2⟩
end HPL
/-- what the first n budgets come to -/
def sumB (bo : Nat → Nat) : Nat → Nat
  | 0 => 0
  | n + 1 => sumB bo n + bo n
theorem nQ_last {E E1 : hE} {nx t bd : Nat} {n : Int32} (h : nQ E nx t n bd = some E1) : E1 (nx + 1 - 1) = some (.inl (t, n.toNatClampNeg, .inr (.inr (.inr (.inr (fun _ => none)))))) := by
  unfold nQ at h
  split at h
  · cases h
  · cases h
    rw [Nat.add_sub_cancel]
    exact va_up_self _ _ _
def bT (ty : FieldType) (x : Int32) : Option Int32 := if vp_nar ty x = x then some x else none
theorem bT_some {ty : FieldType} {x v : Int32} (ht : ty = .byte ∨ ty = .char) (h : bT ty x = some v) : x = v ∧ narrow ty (.int v) = .int v := by
  unfold bT at h
  split at h
  · rename_i hq
    cases h
    refine ⟨rfl, ?_⟩
    rcases ht with rfl | rfl
    · show Value.int _ = _
      exact congrArg Value.int hq
    · show Value.int _ = _
      exact congrArg Value.int hq
  · cases h
/-! System.arraycopy -/
def cpI (E : hE) (r0 r1 : Option Nat) (t : Nat) (sp dp n : Int32) : Option hE := (gA E r0 t).bind fun o0 => (vAi o0.2).bind fun f => (gA E r1 t).bind fun o1 => (vAi o1.2).bind fun g =>
  if sp < 0 ∨ dp < 0 ∨ n < 0 ∨ o0.2.1 < sp.toNatClampNeg + n.toNatClampNeg ∨ o1.2.1 < dp.toNatClampNeg + n.toNatClampNeg then none else some (va_up E o1.1 (some (.inl (t, o1.2.1, .inl (va_cpy f g sp.toNatClampNeg dp.toNatClampNeg n.toNatClampNeg)))))
def cpQ (E : hE) (r0 r1 : Option Nat) (t ci : Nat) (sp dp n : Int32) : Option hE := (gA E r0 t).bind fun o0 => (vAq o0.2).bind fun f => (gA E r1 t).bind fun o1 => (vAq o1.2).bind fun g =>
  if sp < 0 ∨ dp < 0 ∨ n < 0 ∨ o0.2.1 < sp.toNatClampNeg + n.toNatClampNeg ∨ o1.2.1 < dp.toNatClampNeg + n.toNatClampNeg ∨ ¬ (∀ i, i < n.toNatClampNeg → f (sp.toNatClampNeg + i) = none ∨ (gO E (f (sp.toNatClampNeg + i)) ci).isSome = true) then none else some (va_up E o1.1 (some (.inl (t, o1.2.1, .inr (.inr (.inr (.inr (va_cpy f g sp.toNatClampNeg dp.toNatClampNeg n.toNatClampNeg))))))))
section HCC
variable {p : Program} {l : Launch} {e : Env} {R : Room} {s : State} {m : MethodId} {args : Array Value} {below : List Frame} {meth : Method} {c : Code} {H : Heap} {locs : List Loc} {cells slots : Nat} {Q : State → Prop}
variable {cc : ByteArray} {nL pc : Nat} {own : String} {Ts : List Cond} {D : va_G} {cl : List vw_C} {kA : Nat → ClassId} {tys : List (ClassId × FieldType)} {n0 nx : Nat} {Z : State → Prop} {E E1 : hE} {ls : Array Slot} {rest : List Value} {r r0 r1 : Option Nat}
/-- no more cells than the count says -/
theorem w_sized {g : JFrame} (k : H.size ≤ s.heap.size + cells → W p l e R s m args below meth c H locs cells slots Q g) : W p l e R s m args below meth c H locs cells slots Q g := by
  intro T hT X
  have h : T.heap.size ≤ s.heap.size + cells := X.same.2.2.1
  rw [hT] at h
  exact k h T hT X
theorem w_acopyI (C : hC p s m args c cc nL own Ts D cl tys n0 Z) (M : hM D cl kA n0 s E nx H locs) {t index : Nat} {sp dp n : Int32} (h : cpI E r0 r1 t sp dp n = some E1) (ht : tys[t]? = some (kA t, .int)) (hls : ls.size = nL)
    (hlink : Cond.methodLink own index arraycopyName ∈ Ts) (hnat : Cond.native arraycopyName ∈ Ts) (hstat : Cond.static arraycopyName ∈ Ts) (hini : Cond.initialized "java/lang/System" ∈ Ts) (hc0 : s.heap.size + cells ≤ nx) (hlo : nx ≤ s.heap.size ∨ ∃ x, E (nx - 1) = some x)
    (hframes : 1 ≤ R.frames) (hlocals : (rest.map fun v => v.category).sum + (nativeFrameWords "java/lang/System" "arraycopy" 5 + 11) ≤ R.locals) (hdg : decode cc pc = .ok (.invokestatic index, 3))
    (kk : ∀ (H1 : Heap) (locs1 : List Loc), hM D cl kA n0 s E1 nx H1 locs1 → W p l e R s m args below meth c H1 locs1 cells slots Q (F0 m (pc + 3) ls rest)) : W p l e R s m args below meth c H locs cells slots Q (F0 m pc ls (.int n :: .int dp :: va_rf r1 :: .int sp :: va_rf r0 :: rest)) := by
  obtain ⟨⟨a0, x0⟩, g1, hz0⟩ := Option.bind_eq_some_iff.mp h
  obtain ⟨f, g2, hz1⟩ := Option.bind_eq_some_iff.mp hz0
  obtain ⟨⟨a1, x1⟩, g3, hz2⟩ := Option.bind_eq_some_iff.mp hz1
  obtain ⟨g, g4, hz3⟩ := Option.bind_eq_some_iff.mp hz2
  obtain ⟨rfl, e0⟩ := gA_some g1
  obtain ⟨rfl, e1⟩ := gA_some g3
  have y0 := vAi_some g2
  have y1 := vAi_some g4
  dsimp only at hz3 e0 e1 y0 y1
  rw [y0] at e0
  rw [y1] at e1
  split at hz3
  · cases hz3
  · rename_i hno
    cases hz3
    obtain ⟨k0, hk0⟩ := hp_at M.P e0
    obtain ⟨k1, hk1⟩ := hp_at M.P e1
    refine va_copyi C.x C.b (C.ml.trans hls.symm) C.ow (C.ts _ hlink) (C.ts _ hnat) (C.ts _ hstat) (C.ts _ hini) C.K (hp_P M.P H.size) (hp_D (fun a e ha => (M.P a e ha).2)) M.S k0 k1 t t hk0 hk1 ht ht rfl (fun z => hno (Or.inl z)) (fun z => hno (Or.inr (Or.inl z))) (fun z => hno (Or.inr (Or.inr (Or.inl z)))) (by omega) (by omega) (fun i hi => rfl) hframes hlocals hdg (fun H1 locs1 hP1 _ hS1 => ?_)
    have hE1 := hp_lset (e' := .inl (t, x1.1, .inl (va_cpy f g sp.toNatClampNeg dp.toNatClampNeg n.toNatClampNeg))) M.P e1 hk1 hP1
    refine w_sized (fun hz => kk H1 locs1 ⟨hE1, hS1, ?_⟩)
    have hlow : nx ≤ H1.size := by
      rcases hlo with q | ⟨x, q⟩
      · exact Nat.le_trans q hS1.1
      · by_cases hq : nx - 1 = a1
        · have := hp_lt hE1 (a := a1) (va_up_self _ _ _)
          omega
        · have := hp_lt hE1 (a := nx - 1) (by rw [va_up_ne _ _ hq]; exact q)
          omega
    omega
theorem w_acopyQ (C : hC p s m args c cc nL own Ts D cl tys n0 Z) (M : hM D cl kA n0 s E nx H locs) {t ci index : Nat} {sp dp n : Int32} {rc : vw_C} {ac : String} (h : cpQ E r0 r1 t ci sp dp n = some E1) (hc : cl[ci]? = some rc) (ht : tys[t]? = some (kA t, .object ac)) (hasg : ∀ comp c0 : ClassId, s.vm.findClass ac = some comp → s.vm.findClass rc.1 = some c0 → s.vm.assignable c0 comp = true) (hls : ls.size = nL)
    (hlink : Cond.methodLink own index arraycopyName ∈ Ts) (hnat : Cond.native arraycopyName ∈ Ts) (hstat : Cond.static arraycopyName ∈ Ts) (hini : Cond.initialized "java/lang/System" ∈ Ts) (hc0 : s.heap.size + cells ≤ nx) (hlo : nx ≤ s.heap.size ∨ ∃ x, E (nx - 1) = some x)
    (hframes : 1 ≤ R.frames) (hlocals : (rest.map fun v => v.category).sum + (nativeFrameWords "java/lang/System" "arraycopy" 5 + 11) ≤ R.locals) (hdg : decode cc pc = .ok (.invokestatic index, 3))
    (kk : ∀ (H1 : Heap) (locs1 : List Loc), hM D cl kA n0 s E1 nx H1 locs1 → W p l e R s m args below meth c H1 locs1 cells slots Q (F0 m (pc + 3) ls rest)) : W p l e R s m args below meth c H locs cells slots Q (F0 m pc ls (.int n :: .int dp :: va_rf r1 :: .int sp :: va_rf r0 :: rest)) := by
  obtain ⟨⟨a0, x0⟩, g1, hz0⟩ := Option.bind_eq_some_iff.mp h
  obtain ⟨f, g2, hz1⟩ := Option.bind_eq_some_iff.mp hz0
  obtain ⟨⟨a1, x1⟩, g3, hz2⟩ := Option.bind_eq_some_iff.mp hz1
  obtain ⟨g, g4, hz3⟩ := Option.bind_eq_some_iff.mp hz2
  obtain ⟨rfl, e0⟩ := gA_some g1
  obtain ⟨rfl, e1⟩ := gA_some g3
  have y0 := vAq_some g2
  have y1 := vAq_some g4
  dsimp only at hz3 e0 e1 y0 y1
  rw [y0] at e0
  rw [y1] at e1
  split at hz3
  · cases hz3
  · rename_i hno
    cases hz3
    obtain ⟨k0, hk0⟩ := hp_at M.P e0
    obtain ⟨k1, hk1⟩ := hp_at M.P e1
    have hall : ∀ i, i < n.toNatClampNeg → f (sp.toNatClampNeg + i) = none ∨ (gO E (f (sp.toNatClampNeg + i)) ci).isSome = true := Classical.byContradiction fun z => hno (Or.inr (Or.inr (Or.inr (Or.inr (Or.inr z)))))
    refine va_copyM C.x C.b (C.ml.trans hls.symm) C.ow (C.ts _ hlink) (C.ts _ hnat) (C.ts _ hstat) (C.ts _ hini) C.K (hp_P M.P H.size) (hp_D (fun a e ha => (M.P a e ha).2)) M.S k0 k1 t t hk0 hk1 ht ht (fun z => hno (Or.inl z)) (fun z => hno (Or.inr (Or.inl z))) (fun z => hno (Or.inr (Or.inr (Or.inl z)))) (by omega) (by omega) (fun i hi y hy => ?_) hframes hlocals hdg (fun H1 locs1 hP1 _ hS1 => ?_)
    · rcases hall i hi with q | q
      · rw [hy] at q; cases q
      · rw [hy] at q
        obtain ⟨o, ho⟩ := Option.isSome_iff_exists.mp q
        obtain ⟨ev, hv⟩ := gO_some ho
        have ev2 : y = o.1 := Option.some.inj ev
        rw [← ev2] at hv
        exact va_rAny C.K (hp_one M.P hv) (q0 := 0) rfl hc hasg
    have hE1 := hp_lset (e' := .inl (t, x1.1, .inr (.inr (.inr (.inr (va_cpy f g sp.toNatClampNeg dp.toNatClampNeg n.toNatClampNeg)))))) M.P e1 hk1 hP1
    refine w_sized (fun hz => kk H1 locs1 ⟨hE1, hS1, ?_⟩)
    have hlow : nx ≤ H1.size := by
      rcases hlo with q | ⟨x, q⟩
      · exact Nat.le_trans q hS1.1
      · by_cases hq : nx - 1 = a1
        · have := hp_lt hE1 (a := a1) (va_up_self _ _ _)
          omega
        · have := hp_lt hE1 (a := nx - 1) (by rw [va_up_ne _ _ hq]; exact q)
          omega
    omega
/-! a cast to the class that the object has -/
def kC (E : hE) (r : Option Nat) (ci : Nat) : Option Unit := if r = none ∨ (gO E r ci).isSome = true then some () else none
theorem w_cast (C : hC p s m args c cc nL own Ts D cl tys n0 Z) (M : hM D cl kA n0 s E nx H locs) {ci index : Nat} {rc : vw_C} {x : Unit} (h : kC E r ci = some x) (hc : cl[ci]? = some rc) (hlink : Cond.classLink own index rc.1 ∈ Ts) (hca : va_Nw (.castable rc.1 rc.1) s) (hdg : decode cc pc = .ok (.checkcast index, 3))
    (kk : W p l e R s m args below meth c H locs cells slots Q (F0 m (pc + 3) ls (va_rf r :: rest))) : W p l e R s m args below meth c H locs cells slots Q (F0 m pc ls (va_rf r :: rest)) := by
  unfold kC at h
  split at h
  · rename_i hq
    cases r with
    | none => exact lv_castN C.x C.b hdg kk
    | some a =>
      have hs : (gO E (some a) ci).isSome = true := by
        rcases hq with q | q
        · cases q
        · exact q
      obtain ⟨o, ho⟩ := Option.isSome_iff_exists.mp hs
      obtain ⟨ev, hv⟩ := gO_some ho
      have ev2 : a = o.1 := Option.some.inj ev
      rw [← ev2] at hv
      exact va_castY C.x C.b C.ow (C.ts _ hlink) hca (w_recv C M hv hc) hdg kk
  · cases h
end HCC
/-! ===== constants that were there before: a second map S, which is only read; g names places ===== -/
def sN (c : Nat) : String := if c = 100 then "java/lang/String" else "StepPrograms$Form"
def sT (c k : Nat) : String × String × String := if c = 100 then (if k = 0 then ("java/lang/String", "value", "[B") else ("java/lang/String", "coder", "B")) else if k = 0 then ("java/lang/Enum", "ordinal", "I") else if k = 1 then ("StepPrograms$Form", "word", "Ljava/lang/String;") else ("StepPrograms$Form", "kinds", "Ljava/lang/String;")
def sA (t : Nat) : FieldType := if t = 100 then .byte else if t = 101 then .object "StepPrograms$Form" else if t = 102 then .int else .object "java/lang/Object"
/-- static fields that hold a reference -/
def sF1 (i : Nat) : String × String × String := if i = 0 then ("java/util/ArrayList", "DEFAULTCAPACITY_EMPTY_ELEMENTDATA", "[Ljava/lang/Object;") else if i = 1 then ("StepPrograms$Tape", "FORMS", "[LStepPrograms$Form;") else ("StepPrograms$1", "$SwitchMap$StepPrograms$Form", "[I")
/-- the texts that ldc asks for: pool place and text -/
def sL (i : Nat) : Nat × String := if i = 10 then (143, "+-*/%&|^<=") else if i = 11 then (149, "<=>") else (151, "go")
def gq (g : Nat → Nat) : Option Nat := if g 5 = 0 then none else some (g 4)
def zS (S : hE) (g : Nat → Nat) (n0 : Nat) (U : State) : Prop :=
  (∀ (a ci : Nat) (fs : List Value), S a = some (.inr (ci, fs)) → va_O (sN ci) a (fun q => n0 ≤ q) U U.heap ∧ ∀ (k : Nat) (v : Value), fs[k]? = some v → va_OF (sT ci k).1 (sT ci k).2.1 (sT ci k).2.2 v a (fun q => n0 ≤ q) U U.heap) ∧
  (∀ (a t n : Nat) (f : Nat → Int32), S a = some (.inl (t, n, .inl f)) → va_T (sA t) a n (fun j => .int (f j)) (fun q => n0 ≤ q) U U.heap) ∧
  (∀ (a t n : Nat) (f : Nat → Option Nat), S a = some (.inl (t, n, .inr (.inr (.inr (.inr f))))) → va_T (sA t) a n (fun j => va_rf (f j)) (fun q => n0 ≤ q) U U.heap) ∧
  (∀ i : Nat, i < 3 → va_Z (sF1 i).1 (sF1 i).2.1 (sF1 i).2.2 (va_rf (some (g i))) (fun q => n0 ≤ q) U U.heap) ∧
  va_Z "java/lang/String" "COMPACT_STRINGS" "Z" (.int 1) (fun q => n0 ≤ q) U U.heap ∧
  va_Z "jdk/internal/util/Preconditions" "SIOOBE_FORMATTER" "Ljava/util/function/BiFunction;" (va_rf (gq g)) (fun q => n0 ≤ q) U U.heap ∧
  (∀ i : Nat, 10 ≤ i → i < 13 → vk_R "StepPrograms$Tape" (sL i).1 (sL i).2 (g i) U) ∧
  va_Mi "[Ljava/lang/Object;" (g 3) U ∧ va_Dc U
theorem zS_k {S : hE} {g : Nat → Nat} {n0 : Nat} : hZk n0 (zS S g n0) := by
  have key : ∀ u U : State, u.vm.Alike U.vm → (∀ a : Nat, a < n0 → U.heap[a]? = u.heap[a]?) → (∀ (k a : Nat) (tx : String), vk_R "StepPrograms$Tape" k tx a u → vk_R "StepPrograms$Tape" k tx a U) → zS S g n0 u → zS S g n0 U := by
    intro u U hA hh hR h
    obtain ⟨h1, h2, h3, h4, h5, h6, h7, h8, h9⟩ := h
    have hq : ∀ a : Nat, a < u.heap.size → ¬ (fun q => n0 ≤ q) a → U.heap[a]? = u.heap[a]? := fun a _ h => hh a (Nat.not_le.mp h)
    exact ⟨fun a ci fs hs => ⟨((h1 a ci fs hs).1.moved hA).kept hq, fun k v hv => (((h1 a ci fs hs).2 k v hv).moved hA).kept hq⟩, fun a t n f hs => ((h2 a t n f hs).moved hA).kept hq, fun a t n f hs => ((h3 a t n f hs).moved hA).kept hq, fun i hi => ((h4 i hi).moved hA).kept hq, (h5.moved hA).kept hq, (h6.moved hA).kept hq, fun i q9 hi => hR _ _ _ (h7 i q9 hi), h8.moved hA, h9.moved hA⟩
  refine ⟨fun u U hW hh h => key u U hW.alike hh (fun k a tx hr => hr.warm hW) h, fun u U hv hh h => key u U (hv ▸ Vm.Alike.refl u.vm) (fun a _ => by rw [hh]) (fun k a tx hr => hr.same hv.symm) h⟩
section HCS
variable {p : Program} {l : Launch} {e : Env} {R : Room} {s : State} {m : MethodId} {args : Array Value} {below : List Frame} {meth : Method} {c : Code} {H : Heap} {locs : List Loc} {cells slots : Nat} {Q : State → Prop}
variable {cc : ByteArray} {nL pc : Nat} {own : String} {Ts : List Cond} {D : va_G} {cl : List vw_C} {kA : Nat → ClassId} {tys : List (ClassId × FieldType)} {n0 nx : Nat} {Z : State → Prop} {E E1 S : hE} {g : Nat → Nat} {ls : Array Slot} {rest : List Value} {r : Option Nat}
theorem w_sget (C : hC p s m args c cc nL own Ts D cl tys n0 Z) (M : hM D cl kA n0 s E nx H locs) (hz : zS S g n0 s) {ci k index : Nat} {ref : String} {o : Nat × List Value} {v : Value} (h : gO S r ci = some o) (hv : o.2[k]? = some v) (hlink : Cond.fieldLink own index ref (sT ci k).2.1 (sT ci k).2.2 ∈ Ts) (href : (sT ci k).1 = ref) (hdg : decode cc pc = .ok (.getfield index, 3))
    (kk : W p l e R s m args below meth c H locs cells slots Q (F0 m (pc + 3) ls (v :: rest))) : W p l e R s m args below meth c H locs cells slots Q (F0 m pc ls (va_rf r :: rest)) := by
  obtain ⟨rfl, he⟩ := gO_some h
  exact vk_getf C.x C.b ((hz.1 _ _ _ he).2 k v hv) M.S C.ow (C.ts _ hlink) (fun x h => by rw [← href]; exact h) hdg kk
theorem w_sgetI (C : hC p s m args c cc nL own Ts D cl tys n0 Z) (M : hM D cl kA n0 s E nx H locs) (hz : zS S g n0 s) {ci k index : Nat} {ref : String} {v : Int32} (h : gI S r ci k = some v) (hlink : Cond.fieldLink own index ref (sT ci k).2.1 (sT ci k).2.2 ∈ Ts) (href : (sT ci k).1 = ref) (hdg : decode cc pc = .ok (.getfield index, 3))
    (kk : W p l e R s m args below meth c H locs cells slots Q (F0 m (pc + 3) ls (.int v :: rest))) : W p l e R s m args below meth c H locs cells slots Q (F0 m pc ls (va_rf r :: rest)) := by
  obtain ⟨o, h1, hz1⟩ := Option.bind_eq_some_iff.mp h
  obtain ⟨w, h2, hz2⟩ := Option.bind_eq_some_iff.mp hz1
  have h3 := vI_some hz2
  subst h3
  exact w_sget C M hz h1 h2 hlink href hdg kk
theorem w_sgetR (C : hC p s m args c cc nL own Ts D cl tys n0 Z) (M : hM D cl kA n0 s E nx H locs) (hz : zS S g n0 s) {ci k index : Nat} {ref : String} {v : Option Nat} (h : gR S r ci k = some v) (hlink : Cond.fieldLink own index ref (sT ci k).2.1 (sT ci k).2.2 ∈ Ts) (href : (sT ci k).1 = ref) (hdg : decode cc pc = .ok (.getfield index, 3))
    (kk : W p l e R s m args below meth c H locs cells slots Q (F0 m (pc + 3) ls (va_rf v :: rest))) : W p l e R s m args below meth c H locs cells slots Q (F0 m pc ls (va_rf r :: rest)) := by
  obtain ⟨o, h1, hz1⟩ := Option.bind_eq_some_iff.mp h
  obtain ⟨w, h2, hz2⟩ := Option.bind_eq_some_iff.mp hz1
  have h3 := vR_some hz2
  subst h3
  exact w_sget C M hz h1 h2 hlink href hdg kk
theorem w_sarr (hz : zS S g n0 s) {t a : Nat} {x : vp_A} {f : Nat → Int32} (he : S a = some (.inl (t, x))) (hx : vAi x = some f) : va_T (sA t) a x.1 (fun j => .int (f j)) (fun q => n0 ≤ q) s s.heap := by
  have := vAi_some hx
  rw [this] at he
  exact hz.2.1 _ _ _ _ he
theorem w_saI (C : hC p s m args c cc nL own Ts D cl tys n0 Z) (M : hM D cl kA n0 s E nx H locs) (hz : zS S g n0 s) {t : Nat} {i v : Int32} (h : aI S r t i = some v) (ht : sA t = .int) (hdg : decode cc pc = .ok (.iaload, 1))
    (kk : W p l e R s m args below meth c H locs cells slots Q (F0 m (pc + 1) ls (.int v :: rest))) : W p l e R s m args below meth c H locs cells slots Q (F0 m pc ls (.int i :: va_rf r :: rest)) := by
  obtain ⟨⟨a, x⟩, h1, hz0⟩ := Option.bind_eq_some_iff.mp h
  obtain ⟨f, h2, hz1⟩ := Option.bind_eq_some_iff.mp hz0
  obtain ⟨rfl, he⟩ := gA_some h1
  have hT := w_sarr hz he h2
  rw [ht] at hT
  dsimp only at hz1
  split at hz1
  · cases hz1
  · rename_i hi
    cases hz1
    exact va_ti C.x C.b hT M.S (h_in hi) rfl hdg kk
theorem w_saB (C : hC p s m args c cc nL own Ts D cl tys n0 Z) (M : hM D cl kA n0 s E nx H locs) (hz : zS S g n0 s) {t : Nat} {i v : Int32} (h : aI S r t i = some v) (ht : sA t = .byte) (hdg : decode cc pc = .ok (.baload, 1))
    (kk : W p l e R s m args below meth c H locs cells slots Q (F0 m (pc + 1) ls (.int v :: rest))) : W p l e R s m args below meth c H locs cells slots Q (F0 m pc ls (.int i :: va_rf r :: rest)) := by
  obtain ⟨⟨a, x⟩, h1, hz0⟩ := Option.bind_eq_some_iff.mp h
  obtain ⟨f, h2, hz1⟩ := Option.bind_eq_some_iff.mp hz0
  obtain ⟨rfl, he⟩ := gA_some h1
  have hT := w_sarr hz he h2
  rw [ht] at hT
  dsimp only at hz1
  split at hz1
  · cases hz1
  · rename_i hi
    cases hz1
    exact va_tb C.x C.b hT M.S (h_in hi) rfl hdg kk
theorem w_saQ (C : hC p s m args c cc nL own Ts D cl tys n0 Z) (M : hM D cl kA n0 s E nx H locs) (hz : zS S g n0 s) {t : Nat} {Cn : String} {i : Int32} {v : Option Nat} (h : aQ S r t i = some v) (ht : sA t = .object Cn) (hdg : decode cc pc = .ok (.aaload, 1))
    (kk : W p l e R s m args below meth c H locs cells slots Q (F0 m (pc + 1) ls (va_rf v :: rest))) : W p l e R s m args below meth c H locs cells slots Q (F0 m pc ls (.int i :: va_rf r :: rest)) := by
  obtain ⟨⟨a, x⟩, h1, hz0⟩ := Option.bind_eq_some_iff.mp h
  obtain ⟨f, h2, hz1⟩ := Option.bind_eq_some_iff.mp hz0
  obtain ⟨rfl, he⟩ := gA_some h1
  have hx := vAq_some h2
  dsimp only at he hx hz1
  rw [hx] at he
  have hT := hz.2.2.1 _ _ _ _ he
  rw [ht] at hT
  split at hz1
  · cases hz1
  · rename_i hi
    cases hz1
    exact vb_tq C.x C.b hT M.S (h_in hi) rfl hdg kk
theorem w_saL (C : hC p s m args c cc nL own Ts D cl tys n0 Z) (M : hM D cl kA n0 s E nx H locs) (hz : zS S g n0 s) {t : Nat} {v : Int32} (h : aL S r t = some v) (hk : ∀ o, gA S r t = some o → (vAi o.2).isSome = true ∨ (vAq o.2).isSome = true) (hdg : decode cc pc = .ok (.arraylength, 1))
    (kk : W p l e R s m args below meth c H locs cells slots Q (F0 m (pc + 1) ls (.int v :: rest))) : W p l e R s m args below meth c H locs cells slots Q (F0 m pc ls (va_rf r :: rest)) := by
  obtain ⟨⟨a, x⟩, h1, h2⟩ := Option.map_eq_some_iff.mp h
  have hk1 := hk _ h1
  obtain ⟨rfl, he⟩ := gA_some h1
  dsimp only at hk1
  rcases hk1 with q | q
  · obtain ⟨f, hf⟩ := Option.isSome_iff_exists.mp q
    exact va_tlen C.x C.b (w_sarr hz he hf) M.S h2 hdg kk
  · obtain ⟨f, hf⟩ := Option.isSome_iff_exists.mp q
    have hx := vAq_some hf
    dsimp only at he
    rw [hx] at he
    exact va_tlen C.x C.b (hz.2.2.1 _ _ _ _ he) M.S h2 hdg kk
theorem w_gets (C : hC p s m args c cc nL own Ts D cl tys n0 Z) (M : hM D cl kA n0 s E nx H locs) (hz : zS S g n0 s) {i index : Nat} {ref : String} (hi : i < 3) (hlink : Cond.fieldLink own index ref (sF1 i).2.1 (sF1 i).2.2 ∈ Ts) (href : (sF1 i).1 = ref) (hdg : decode cc pc = .ok (.getstatic index, 3))
    (kk : W p l e R s m args below meth c H locs cells slots Q (F0 m (pc + 3) ls (va_rf (some (g i)) :: rest))) : W p l e R s m args below meth c H locs cells slots Q (F0 m pc ls rest) :=
  va_gets C.x C.b (hz.2.2.2.1 i hi) M.S C.ow (C.ts _ hlink) (fun x h => by rw [← href]; exact h) hdg kk
theorem w_getsC (C : hC p s m args c cc nL own Ts D cl tys n0 Z) (M : hM D cl kA n0 s E nx H locs) (hz : zS S g n0 s) {index : Nat} (hlink : Cond.fieldLink own index "java/lang/String" "COMPACT_STRINGS" "Z" ∈ Ts) (hdg : decode cc pc = .ok (.getstatic index, 3))
    (kk : W p l e R s m args below meth c H locs cells slots Q (F0 m (pc + 3) ls (.int 1 :: rest))) : W p l e R s m args below meth c H locs cells slots Q (F0 m pc ls rest) :=
  va_gets C.x C.b hz.2.2.2.2.1 M.S C.ow (C.ts _ hlink) (fun x h => h) hdg kk
theorem w_getsF (C : hC p s m args c cc nL own Ts D cl tys n0 Z) (M : hM D cl kA n0 s E nx H locs) (hz : zS S g n0 s) {index : Nat} (hlink : Cond.fieldLink own index "jdk/internal/util/Preconditions" "SIOOBE_FORMATTER" "Ljava/util/function/BiFunction;" ∈ Ts) (hdg : decode cc pc = .ok (.getstatic index, 3))
    (kk : W p l e R s m args below meth c H locs cells slots Q (F0 m (pc + 3) ls (va_rf (gq g) :: rest))) : W p l e R s m args below meth c H locs cells slots Q (F0 m pc ls rest) :=
  va_gets C.x C.b hz.2.2.2.2.2.1 M.S C.ow (C.ts _ hlink) (fun x h => h) hdg kk
theorem w_ldcS (C : hC p s m args c cc nL "StepPrograms$Tape" Ts D cl tys n0 Z) (hz : zS S g n0 s) (i : Nat) (h9 : 10 ≤ i) (hi : i < 13) {index : Nat} (hx : (sL i).1 = index) (hdg : decode cc pc = .ok (.ldc index, 2))
    (kk : W p l e R s m args below meth c H locs cells slots Q (F0 m (pc + 2) ls (va_rf (some (g i)) :: rest))) : W p l e R s m args below meth c H locs cells slots Q (F0 m pc ls rest) := by
  subst hx
  exact va_ldcS C.x C.b C.ow (hz.2.2.2.2.2.2.1 i h9 hi) hdg kk
theorem w_ldcM (C : hC p s m args c cc nL own Ts D cl tys n0 Z) (hz : zS S g n0 s) {index : Nat} (hlink : Cond.classLink own index "[Ljava/lang/Object;" ∈ Ts) (hdg : decode cc pc = .ok (.ldc index, 2))
    (kk : W p l e R s m args below meth c H locs cells slots Q (F0 m (pc + 2) ls (va_rf (some (g 3)) :: rest))) : W p l e R s m args below meth c H locs cells slots Q (F0 m pc ls rest) :=
  va_ldcM C.x C.b C.ow (C.ts _ hlink) hz.2.2.2.2.2.2.2.1 hdg kk
/-! lengths of arrays that may be constants -/
def sL1 (S : hE) (r : Option Nat) (t : Nat) : Option Int32 := (gA S r t).bind fun o => if (vAi o.2).isSome = true ∨ (vAq o.2).isSome = true then some (nI o.2.1) else none
theorem w_sL1 (C : hC p s m args c cc nL own Ts D cl tys n0 Z) (M : hM D cl kA n0 s E nx H locs) (hz : zS S g n0 s) {t : Nat} {v : Int32} (h : sL1 S r t = some v) (hdg : decode cc pc = .ok (.arraylength, 1))
    (kk : W p l e R s m args below meth c H locs cells slots Q (F0 m (pc + 1) ls (.int v :: rest))) : W p l e R s m args below meth c H locs cells slots Q (F0 m pc ls (va_rf r :: rest)) := by
  obtain ⟨o, h1, hz0⟩ := Option.bind_eq_some_iff.mp h
  split at hz0
  · rename_i hq
    refine w_saL C M hz (t := t) (v := v) ?_ ?_ hdg kk
    · unfold aL
      rw [h1]
      exact hz0
    · intro o2 h2
      rw [h1] at h2
      cases h2
      exact hq
  · cases hz0
def aL2 (E S : hE) (r : Option Nat) (t u : Nat) : Option Int32 := if (gA E r t).isSome = true then aL E r t else sL1 S r u
theorem w_aL2 (C : hC p s m args c cc nL own Ts D cl tys n0 Z) (M : hM D cl kA n0 s E nx H locs) (hz : zS S g n0 s) {t u : Nat} {ty : FieldType} {v : Int32} (h : aL2 E S r t u = some v) (ht : tys[t]? = some (kA t, ty)) (hdg : decode cc pc = .ok (.arraylength, 1))
    (kk : W p l e R s m args below meth c H locs cells slots Q (F0 m (pc + 1) ls (.int v :: rest))) : W p l e R s m args below meth c H locs cells slots Q (F0 m pc ls (va_rf r :: rest)) := by
  unfold aL2 at h
  split at h
  · exact w_alen C M h ht hdg kk
  · exact w_sL1 C M hz h hdg kk
theorem w_getC (C : hC p s m args c cc nL own Ts D cl tys n0 Z) (M : hM D cl kA n0 s E nx H locs) (hz : zS S g n0 s) {t index : Nat} {o : Nat × vp_A} (h : gA E r t = some o) (ht : tys[t]? = some (kA t, .object "java/lang/Object")) (hls : ls.size = nL)
    (hlink : Cond.methodLink own index ⟨"java/lang/Object", "getClass", "()Ljava/lang/Class;"⟩ ∈ Ts) (hsel : Cond.selects "[Ljava/lang/Object;" ⟨"java/lang/Object", "getClass", "()Ljava/lang/Class;"⟩ ⟨"java/lang/Object", "getClass", "()Ljava/lang/Class;"⟩ ∈ Ts) (hinst : Cond.instanceMethod ⟨"java/lang/Object", "getClass", "()Ljava/lang/Class;"⟩ ∈ Ts) (hnat : Cond.native ⟨"java/lang/Object", "getClass", "()Ljava/lang/Class;"⟩ ∈ Ts)
    (hframes : 1 ≤ R.frames) (hlocals : (rest.map fun v => v.category).sum + 14 ≤ R.locals) (hdg : decode cc pc = .ok (.invokevirtual index, 3))
    (kk : W p l e R s m args below meth c H locs cells slots Q (F0 m (pc + 3) ls (va_rf (some (g 3)) :: rest))) : W p l e R s m args below meth c H locs cells slots Q (F0 m pc ls (va_rf r :: rest)) := by
  obtain ⟨rfl, he⟩ := gA_some h
  have hcell : H[o.1]? = some (vp_cell (kA t) o.2) := (M.P _ _ he).1
  have hcls : (vp_cell (kA t) o.2).cls = kA t ∧ (vp_cell (kA t) o.2).vm.isStatics = false := by
    obtain ⟨q, n, f | f | f | f | f⟩ := o <;> exact ⟨rfl, rfl⟩
  exact va_getC C.x C.b (C.ml.trans hls.symm) C.ow (C.ts _ hlink) (va_Dc.use hz.2.2.2.2.2.2.2.2) (C.ts _ hsel) (C.ts _ hinst) (C.ts _ hnat) hz.2.2.2.2.2.2.2.1 ⟨_, hcell, hcls.2, by rw [hcls.1]; exact va_nmO (C.K.2 t _ ht).2 (by decide)⟩ hframes hlocals hdg kk
variable {y : MethodName} {bytes : ByteArray} {maxL mc ms n index : Nat} {ret : Option FieldType} {ws : List Cond} {rm : Room} {Qc : Array Value → State → Outcome → State → Prop} {free : Addr → Prop} {b : Addr} {As st0 : List Value} {Cn : String}
theorem w_srecv (M : hM D cl kA n0 s E nx H locs) (hz : zS S g n0 s) {ci : Nat} {fs : List Value} (he : S b = some (.inr (ci, fs))) : ∃ cell : Cell, H[b]? = some cell ∧ cell.vm.isStatics = false ∧ s.vm.findClass (sN ci) = some cell.cls := by
  have hO := (hz.1 _ _ _ he).1
  obtain ⟨cell, h1, h2, h3, h4⟩ := hO
  have hb : b < s.heap.size := (Array.getElem?_eq_some_iff.mp h1).1
  exact ⟨cell, by rw [M.S.2.1 b hb h4]; exact h1, h2, h3⟩
theorem w_runVs (C : hC p s m args c cc nL own Ts D cl tys n0 Z) (M : hM D cl kA n0 s E nx H locs) (hz : zS S g n0 s) {ci : Nat} {o : Nat × List Value} (h : gO S r ci = some o) (hMt : Met l y ws rm (va_Pc (va_rf (some o.1) :: As) (hI D cl kA tys n0 Z (E, nx))) Qc mc ms free) (cw : CallW R s args own (sN ci) index y bytes maxL ret ws rm mc ms n)
    (hn : As.length = n) (hsize : ls.size = nL) (hstack : st0 = As.reverse ++ va_rf r :: rest) (hW : (rest.map fun v => v.category).sum ≤ 8) (hdg : decode cc pc = .ok (.invokevirtual index, 3)) (hf : cells + mc ≤ R.cells ∧ slots + ms ≤ R.slots) :
    va_Run p l e R s m args below meth c H locs cells slots mc ms (F0 m pc ls st0) rest (Qc (va_rf (some o.1) :: As).toArray) free := by
  obtain ⟨rfl, he⟩ := gO_some h
  exact va_runV C.fix hMt cw ⟨hI.blind C.zk _, w_srecv M hz he, fun U hU hA => ⟨rfl, hM.I C M U hU hA⟩⟩ rfl hn hsize hstack (lv_room hW) hdg hf
theorem w_runUs (C : hC p s m args c cc nL own Ts D cl tys n0 Z) (M : hM D cl kA n0 s E nx H locs) (hz : zS S g n0 s) {ci : Nat} {o : Nat × List Value} {x : MethodName} {owner : String} (h : gO S r ci = some o) (hMt : Met l y ws rm (va_Pc (va_rf (some o.1) :: As) (hI D cl kA tys n0 Z (E, nx))) Qc mc ms free) (cw : va_CU R s args own (sN ci) owner index x y bytes maxL ret ws rm mc ms n)
    (hn : As.length = n) (hsize : ls.size = nL) (hstack : st0 = As.reverse ++ va_rf r :: rest) (hW : (rest.map fun v => v.category).sum ≤ 8) (hdg : decode cc pc = .ok (.invokevirtual index, 3)) (hf : cells + mc ≤ R.cells ∧ slots + ms ≤ R.slots) :
    va_Run p l e R s m args below meth c H locs cells slots mc ms (F0 m pc ls st0) rest (Qc (va_rf (some o.1) :: As).toArray) free := by
  obtain ⟨rfl, he⟩ := gO_some h
  exact va_runU C.fix hMt cw ⟨hI.blind C.zk _, w_srecv M hz he, fun U hU hA => ⟨rfl, hM.I C M U hU hA⟩⟩ rfl hn hsize hstack (lv_room hW) hdg hf
end HCS
end
section
section HCO
variable {p : Program} {l : Launch} {e : Env} {R : Room} {s : State} {m : MethodId} {args : Array Value} {below : List Frame} {meth : Method} {c : Code} {H : Heap} {locs : List Loc} {cells slots : Nat} {Q : State → Prop}
variable {cc : ByteArray} {nL pc : Nat} {own : String} {Ts : List Cond} {D : va_G} {cl : List vw_C} {kA : Nat → ClassId} {tys : List (ClassId × FieldType)} {n0 nx : Nat} {Z : State → Prop} {E E1 S : hE} {g : Nat → Nat} {ls : Array Slot} {rest : List Value} {r : Option Nat}
/-! Enum.ordinal() of a constant: its class isn't said to be initialised, so its three instructions are walked where it is called -/
theorem w_ord (C : hC p s m args c cc nL own Ts D cl tys n0 Z) (M : hM D cl kA n0 s E nx H locs) (hz : zS S g n0 s) {v : Int32} {index : Nat} {bytes : ByteArray} (h : gI S r 101 0 = some v) (hls : ls.size = nL)
    (hlink : Cond.methodLink own index ⟨"StepPrograms$Form", "ordinal", "()I"⟩ ∈ Ts) (hsame : Cond.sameMethod "StepPrograms$Form" "java/lang/Enum" "ordinal" "()I" ∈ Ts) (hsel : Cond.selects "StepPrograms$Form" ⟨"StepPrograms$Form", "ordinal", "()I"⟩ ⟨"java/lang/Enum", "ordinal", "()I"⟩ ∈ Ts) (hinst : Cond.instanceMethod ⟨"java/lang/Enum", "ordinal", "()I"⟩ ∈ Ts) (hcode : Cond.code ⟨"java/lang/Enum", "ordinal", "()I"⟩ bytes 1 (some .int) ∈ Ts) (hfl : Cond.fieldLink "java/lang/Enum" 7 "java/lang/Enum" "ordinal" "I" ∈ Ts)
    (h0 : decode bytes 0 = .ok (.aload_n 0, 1)) (h1 : decode bytes 1 = .ok (.getfield 7, 3)) (h4 : decode bytes 4 = .ok (.ireturn, 1)) (hframes : 1 ≤ R.frames) (hlocals : (rest.map fun v => v.category).sum + 12 ≤ R.locals) (hdg : decode cc pc = .ok (.invokevirtual index, 3))
    (kk : W p l e R s m args below meth c H locs cells slots Q (F0 m (pc + 3) ls (.int v :: rest))) : W p l e R s m args below meth c H locs cells slots Q (F0 m pc ls (va_rf r :: rest)) := by
  obtain ⟨o, g1, hz0⟩ := Option.bind_eq_some_iff.mp h
  obtain ⟨w, g2, hz1⟩ := Option.bind_eq_some_iff.mp hz0
  have g3 := vI_some hz1
  subst g3
  obtain ⟨rfl, he⟩ := gO_some g1
  obtain ⟨hO, hF⟩ := hz.1 _ _ _ he
  obtain ⟨cf, kf, fi, f, cell, f1, f2, f3, f4, f5, f6⟩ := hF 0 _ g2
  obtain ⟨cellB, b1, b2, b3, b4⟩ := hO
  cases f3.symm.trans b1
  intro T hT X
  have hb0 : o.1 < s.heap.size := (Array.getElem?_eq_some_iff.mp f3).1
  have hcell : T.heap[o.1]? = some cell := by rw [hT, M.S.2.1 o.1 hb0 f6]; exact f3
  obtain ⟨mk, methM, hnamed, hmethM, hstM, habM⟩ := Cond.instanceMethod_spec (C.ts _ hinst)
  obtain ⟨meth', c', hm', hc', hbytes, hml', hret', hlk', -, hsig'⟩ := Cond.code_spec hnamed (C.ts _ hcode)
  cases hmethM.symm.trans hm'
  obtain ⟨cn, ck, r1, hcn, hck, hni, hf, hn1⟩ := Cond.sameMethod_found (C.ts _ hsame)
  cases hnamed.symm.trans hn1
  obtain ⟨c2, r2, m2, q1, q2, q3, q4, kP, hkP, hkPi⟩ := Cond.selects_spec (C.ts _ hsel)
  have b3' : s.vm.findClass "StepPrograms$Form" = some cell.cls := b3
  cases b3'.symm.trans q1
  cases hf.symm.trans q2
  cases hnamed.symm.trans q3
  have hselP : selectMethod e.platform s.vm cell.cls mk = .method mk := by rw [Launch.admits_selectMethod X.admits]; exact q4
  have hlen : ([] : List Value).length = methM.sig.parameters.length := by
    have h2 : (parseMethodDescriptor "()I").map (fun d => d.parameters.length) = some 0 := by decide +kernel
    rw [hsig'] at h2
    exact (Option.some.inj h2).symm
  obtain ⟨vm₁, X₁, hstep₁⟩ := X.invokevirtualUp C.x C.ow (C.ts _ hlink) (C.ts _ hsame) (by decide) hnamed hmethM hstM (a := o.1) (cell := cell) hcell
    (fun z h => by rw [h] at b2; cases b2) hselP hmethM habM hkP hkPi (g := F0 m pc ls (va_rf (some o.1) :: rest)) rfl (argsL := []) (rest := rest) hlen rfl (by rw [C.b]; exact hdg)
  have hpl : e.platform.magicAccessors = ({} : Platform).magicAccessors := by rw [X.admits.platform]
  obtain ⟨ci', cfl, k', i', f', hi', hlinks, hright⟩ := Cond.fieldLink_spec (findClass_of_methodNamed hnamed) (C.ts _ hfl) e.platform hpl
  have f1' : s.fieldFound? "java/lang/Enum" "ordinal" "I" = some (cf, kf, fi, f) := f1
  cases f1'.symm.trans hi'
  obtain ⟨hk, hff⟩ := State.fieldFound?_spec f1'
  obtain ⟨vm', hgives, hW', hready, hfi⟩ := State.fieldEntry (e := e) X₁.warmed hlinks hright hk hff
  obtain ⟨t, a1, b1'⟩ := kk (T.setVm vm') hT (X.noted hW')
  obtain ⟨kE, hkE, hkN⟩ := className_of_methodNamed hnamed
  have hal : vm₁.Alike vm' := X₁.warmed.alike.symm.trans hW'.alike
  refine ⟨t, hstep₁ t (fun acts => ?_), b1'⟩
  refine Steps.intGetterInline (s := T.setVm vm₁) (g := F0 m pc ls rest) (c := c) (below := below) (ig := .invokevirtual index) (len := 3) (index := 7) (meth := methM) (code := c') X₁.here C.x acts
    (by rw [X₁.warmed.alike.method?]; exact hmethM) hc' hlk' ?_ hret' hml' (by rw [hbytes]; exact h0) (by rw [hbytes]; exact h1) (by rw [hbytes]; exact h4)
    ?_ (by rw [C.b]; exact hdg) (vm' := vm') (cf := cf) (i := fi) (f := f) (cell := cell) (v := v) hal hgives hready hfi f2 hcell f4 f5 a1
  · intro k hk1
    have hk2 : vm₁.classes[mk.cls]? = some k := hk1
    obtain ⟨k3, hk3, he3⟩ := X₁.warmed.alike.2.2 _ _ hkE
    cases hk2.symm.trans hk3
    have hnm : k.name = "java/lang/Enum" := by rw [he3]; exact hkN
    rw [hnm]
    rfl
  · rw [hml']
    exact X₁.notFull (g := F0 m pc ls rest) (by rw [C.ml]; exact hls) hframes (by show 2 * 0 + (rest.map fun v => v.category).sum + (1 + 11) ≤ R.locals; omega)
/-! a field by the name of a subclass -/
theorem w_getIs (C : hC p s m args c cc nL own Ts D cl tys n0 Z) (M : hM D cl kA n0 s E nx H locs) {ci k N index : Nat} {Cn ref : String} {T : u_T} {v : Int32} (h : gI E r ci k = some v) (hc : cl[ci]? = some (Cn, T, N)) (hin : ∀ w ∈ u_ws Cn T N, w ∈ Ts) (hk : k < N) (hlink : Cond.fieldLink own index ref (T k).2.1 (T k).2.2.1 ∈ Ts) (hsm : Cond.sameField ref (T k).1 (T k).2.1 (T k).2.2.1 ∈ Ts) (hdg : decode cc pc = .ok (.getfield index, 3))
    (kk : W p l e R s m args below meth c H locs cells slots Q (F0 m (pc + 3) ls (.int v :: rest))) : W p l e R s m args below meth c H locs cells slots Q (F0 m pc ls (va_rf r :: rest)) := by
  obtain ⟨o, h1, hz0⟩ := Option.bind_eq_some_iff.mp h
  obtain ⟨w, h2, hz1⟩ := Option.bind_eq_some_iff.mp hz0
  have h3 := vI_some hz1
  subst h3
  obtain ⟨rfl, he⟩ := gO_some h1
  exact va_get C.x C.b C.ts hin C.ow C.K (hp_one M.P he) 0 rfl hc k hk (C.ts _ hlink) (fun x h => u_same (C.ts _ hsm) x h) h2 hdg kk
theorem w_putVs (C : hC p s m args c cc nL own Ts D cl tys n0 Z) (M : hM D cl kA n0 s E nx H locs) {ci k N index : Nat} {Cn ref : String} {T : u_T} {v : Value} {ty : FieldType} (ty0 : Nat → FieldType) (h : sF E r ci k v = some E1) (hc : cl[ci]? = some (Cn, T, N)) (hin : ∀ w ∈ u_ws Cn T N, w ∈ Ts) (hty : ∀ k, k < N → parseFieldDescriptor (T k).2.2.1 = some (ty0 k)) (hnm : ∀ a, a < N → ∀ b, b < N → a ≠ b → (T a).2.1 ≠ (T b).2.1) (hk : k < N) (hlink : Cond.fieldLink own index ref (T k).2.1 (T k).2.2.1 ∈ Ts) (hsm : Cond.sameField ref (T k).1 (T k).2.1 (T k).2.2.1 ∈ Ts) (hfin : (T k).2.2.2 = false) (hd : parseFieldDescriptor (T k).2.2.1 = some ty) (hn : narrow ty v = v) (hfit : fits ty v = true) (hdg : decode cc pc = .ok (.putfield index, 3))
    (kk : ∀ (H1 : Heap) (locs1 : List Loc), hM D cl kA n0 s E1 nx H1 locs1 → W p l e R s m args below meth c H1 locs1 cells slots Q (F0 m (pc + 3) ls rest)) : W p l e R s m args below meth c H locs cells slots Q (F0 m pc ls (v :: va_rf r :: rest)) := by
  obtain ⟨⟨a, fs⟩, h1, hz0⟩ := Option.bind_eq_some_iff.mp h
  obtain ⟨rfl, he⟩ := gO_some h1
  dsimp only at hz0 he
  by_cases hl : k < fs.length
  · rw [if_pos hl] at hz0
    cases hz0
    have hap := va_apart (own := own) C.ts hin ty0 hty hnm C.K hc
    obtain ⟨r, h1, cell, q1, q2, q3, q4⟩ := (M.P _ _ he).1
    have hr : r = (Cn, T, N) := Option.some.inj (h1.symm.trans hc)
    subst hr
    obtain ⟨hS, hfc, kC, hkC, hkind⟩ := C.K.1 ci _ hc
    obtain ⟨cf, kf, fi, f, hi, hsl⟩ := hS k hk
    have hlay := C.ts _ (hin _ (u_in_lay hk))
    unfold u_lay at hlay
    rw [if_neg (by rw [hfin]; decide)] at hlay
    have hst := (u_facts hfc hkC (u_lays C.ts hin hk) hi).1
    have h6 := u_store hfc hkC hkind hlay hi hd hn hfit
    refine W.putK C.x C.b (f := f) ⟨C.ow, C.ts _ hlink, ⟨_, _, _, u_same (C.ts _ hsm) _ hi⟩, hst⟩ (by rw [q2]; exact h6) q1 q3 (by rw [hsl]; exact k2_hasslot (q4 k hk)) rfl rfl hdg fun H' e1 e2 e3 => ?_
    rw [hsl] at e1 ⊢
    exact kk H' _ (hM.upd M he ⟨_, hc, t_OB.to (V := updV (vp_V fs) k v) ⟨_, e1, q2, q3, t_set q4 hap hk v⟩ (fun j _ => vp_updV_set hl v j)⟩ e2 e3)
  · rw [if_neg hl] at hz0
    cases hz0
end HCO
end
