section
-- ===== PART A: goes FIRST, ahead of the names: the tables' words, and 'selects' of the private methods out of them =====
/-- a private method of a class that the tables say can be made, by its rows of tables_1 -/
def lw_okq (q : MethodName × Nat) : Prop := (q.1.cls ≠ "java/lang/invoke/MethodHandle" ∧ q.1.cls ≠ "java/lang/invoke/VarHandle") ∧ Cond.instantiable q.1.cls q.2 ∈ tables_1 ∧ Cond.privateMethod q.1 ∈ tables_1 ∧ Cond.instanceMethod q.1 ∈ tables_1
theorem lw_p0 : lw_okq (⟨"StepPrograms$Tape", "takeCharacter", "(IZ)V"⟩, 9) := ⟨⟨by decide +kernel, by decide +kernel⟩, List.mem_of_getElem? (i := 32) (by decide +kernel), List.mem_of_getElem? (i := 272) (by decide +kernel), List.mem_of_getElem? (i := 273) (by decide +kernel)⟩
theorem lw_p1 : lw_okq (⟨"StepPrograms$Tape", "takeLine", "(LStepPrograms$Script;)Z"⟩, 9) := ⟨⟨by decide +kernel, by decide +kernel⟩, List.mem_of_getElem? (i := 32) (by decide +kernel), List.mem_of_getElem? (i := 276) (by decide +kernel), List.mem_of_getElem? (i := 277) (by decide +kernel)⟩
theorem lw_p2 : lw_okq (⟨"StepPrograms$Tape", "lengthOf", "(I)I"⟩, 9) := ⟨⟨by decide +kernel, by decide +kernel⟩, List.mem_of_getElem? (i := 32) (by decide +kernel), List.mem_of_getElem? (i := 280) (by decide +kernel), List.mem_of_getElem? (i := 281) (by decide +kernel)⟩
theorem lw_p3 : lw_okq (⟨"StepPrograms$Tape", "letterAt", "(II)I"⟩, 9) := ⟨⟨by decide +kernel, by decide +kernel⟩, List.mem_of_getElem? (i := 32) (by decide +kernel), List.mem_of_getElem? (i := 284) (by decide +kernel), List.mem_of_getElem? (i := 285) (by decide +kernel)⟩
theorem lw_p4 : lw_okq (⟨"StepPrograms$Tape", "isOfForm", "(LStepPrograms$Form;)Z"⟩, 9) := ⟨⟨by decide +kernel, by decide +kernel⟩, List.mem_of_getElem? (i := 32) (by decide +kernel), List.mem_of_getElem? (i := 301) (by decide +kernel), List.mem_of_getElem? (i := 302) (by decide +kernel)⟩
theorem lw_p5 : lw_okq (⟨"StepPrograms$Tape", "isWord", "(ILjava/lang/String;)Z"⟩, 9) := ⟨⟨by decide +kernel, by decide +kernel⟩, List.mem_of_getElem? (i := 32) (by decide +kernel), List.mem_of_getElem? (i := 315) (by decide +kernel), List.mem_of_getElem? (i := 316) (by decide +kernel)⟩
theorem lw_p6 : lw_okq (⟨"StepPrograms$Tape", "takeWord", "(IC)Z"⟩, 9) := ⟨⟨by decide +kernel, by decide +kernel⟩, List.mem_of_getElem? (i := 32) (by decide +kernel), List.mem_of_getElem? (i := 358) (by decide +kernel), List.mem_of_getElem? (i := 359) (by decide +kernel)⟩
theorem lw_p7 : lw_okq (⟨"StepPrograms$Tape", "onlyLetter", "(I)I"⟩, 9) := ⟨⟨by decide +kernel, by decide +kernel⟩, List.mem_of_getElem? (i := 32) (by decide +kernel), List.mem_of_getElem? (i := 362) (by decide +kernel), List.mem_of_getElem? (i := 363) (by decide +kernel)⟩
theorem lw_p8 : lw_okq (⟨"StepPrograms$Tape", "operandAt", "(I)I"⟩, 9) := ⟨⟨by decide +kernel, by decide +kernel⟩, List.mem_of_getElem? (i := 32) (by decide +kernel), List.mem_of_getElem? (i := 369) (by decide +kernel), List.mem_of_getElem? (i := 370) (by decide +kernel)⟩
theorem lw_p9 : lw_okq (⟨"java/util/ArrayList", "add", "(Ljava/lang/Object;[Ljava/lang/Object;I)V"⟩, 3) := ⟨⟨by decide +kernel, by decide +kernel⟩, List.mem_of_getElem? (i := 223) (by decide +kernel), List.mem_of_getElem? (i := 481) (by decide +kernel), List.mem_of_getElem? (i := 482) (by decide +kernel)⟩
theorem lw_p10 : lw_okq (⟨"java/util/ArrayList", "grow", "()[Ljava/lang/Object;"⟩, 3) := ⟨⟨by decide +kernel, by decide +kernel⟩, List.mem_of_getElem? (i := 223) (by decide +kernel), List.mem_of_getElem? (i := 485) (by decide +kernel), List.mem_of_getElem? (i := 486) (by decide +kernel)⟩
theorem lw_p11 : lw_okq (⟨"java/util/ArrayList", "grow", "(I)[Ljava/lang/Object;"⟩, 3) := ⟨⟨by decide +kernel, by decide +kernel⟩, List.mem_of_getElem? (i := 223) (by decide +kernel), List.mem_of_getElem? (i := 489) (by decide +kernel), List.mem_of_getElem? (i := 490) (by decide +kernel)⟩
theorem lw_p12 : lw_okq (⟨"StepPrograms$Machine", "follow", "(LStepPrograms$Script;LStepPrograms$Frame;I)I"⟩, 13) := ⟨⟨by decide +kernel, by decide +kernel⟩, List.mem_of_getElem? (i := 88) (by decide +kernel), List.mem_of_getElem? (i := 584) (by decide +kernel), List.mem_of_getElem? (i := 585) (by decide +kernel)⟩
theorem lw_p13 : lw_okq (⟨"StepPrograms$Machine", "perform", "(LStepPrograms$Statement;LStepPrograms$Script;LStepPrograms$Frame;)I"⟩, 13) := ⟨⟨by decide +kernel, by decide +kernel⟩, List.mem_of_getElem? (i := 88) (by decide +kernel), List.mem_of_getElem? (i := 598) (by decide +kernel), List.mem_of_getElem? (i := 599) (by decide +kernel)⟩
theorem lw_p14 : lw_okq (⟨"StepPrograms$Machine", "sizeFile", "(LStepPrograms$Frame;II)I"⟩, 13) := ⟨⟨by decide +kernel, by decide +kernel⟩, List.mem_of_getElem? (i := 88) (by decide +kernel), List.mem_of_getElem? (i := 637) (by decide +kernel), List.mem_of_getElem? (i := 638) (by decide +kernel)⟩
theorem lw_p15 : lw_okq (⟨"StepPrograms$Machine", "readFile", "(LStepPrograms$Frame;III)I"⟩, 13) := ⟨⟨by decide +kernel, by decide +kernel⟩, List.mem_of_getElem? (i := 88) (by decide +kernel), List.mem_of_getElem? (i := 646) (by decide +kernel), List.mem_of_getElem? (i := 647) (by decide +kernel)⟩
def lw_privs_1 : List (MethodName × Nat) := [(⟨"StepPrograms$Tape", "takeCharacter", "(IZ)V"⟩, 9), (⟨"StepPrograms$Tape", "takeLine", "(LStepPrograms$Script;)Z"⟩, 9), (⟨"StepPrograms$Tape", "lengthOf", "(I)I"⟩, 9), (⟨"StepPrograms$Tape", "letterAt", "(II)I"⟩, 9), (⟨"StepPrograms$Tape", "isOfForm", "(LStepPrograms$Form;)Z"⟩, 9), (⟨"StepPrograms$Tape", "isWord", "(ILjava/lang/String;)Z"⟩, 9), (⟨"StepPrograms$Tape", "takeWord", "(IC)Z"⟩, 9), (⟨"StepPrograms$Tape", "onlyLetter", "(I)I"⟩, 9), (⟨"StepPrograms$Tape", "operandAt", "(I)I"⟩, 9), (⟨"java/util/ArrayList", "add", "(Ljava/lang/Object;[Ljava/lang/Object;I)V"⟩, 3), (⟨"java/util/ArrayList", "grow", "()[Ljava/lang/Object;"⟩, 3), (⟨"java/util/ArrayList", "grow", "(I)[Ljava/lang/Object;"⟩, 3), (⟨"StepPrograms$Machine", "follow", "(LStepPrograms$Script;LStepPrograms$Frame;I)I"⟩, 13), (⟨"StepPrograms$Machine", "perform", "(LStepPrograms$Statement;LStepPrograms$Script;LStepPrograms$Frame;)I"⟩, 13), (⟨"StepPrograms$Machine", "sizeFile", "(LStepPrograms$Frame;II)I"⟩, 13), (⟨"StepPrograms$Machine", "readFile", "(LStepPrograms$Frame;III)I"⟩, 13)]
theorem lw_r1 : ∀ q ∈ lw_privs_1, lw_okq q := List.forall_mem_cons.mpr ⟨lw_p0, List.forall_mem_cons.mpr ⟨lw_p1, List.forall_mem_cons.mpr ⟨lw_p2, List.forall_mem_cons.mpr ⟨lw_p3, List.forall_mem_cons.mpr ⟨lw_p4, List.forall_mem_cons.mpr ⟨lw_p5, List.forall_mem_cons.mpr ⟨lw_p6, List.forall_mem_cons.mpr ⟨lw_p7, List.forall_mem_cons.mpr ⟨lw_p8, List.forall_mem_cons.mpr ⟨lw_p9, List.forall_mem_cons.mpr ⟨lw_p10, List.forall_mem_cons.mpr ⟨lw_p11, List.forall_mem_cons.mpr ⟨lw_p12, List.forall_mem_cons.mpr ⟨lw_p13, List.forall_mem_cons.mpr ⟨lw_p14, List.forall_mem_cons.mpr ⟨lw_p15, fun _ h => absurd h List.not_mem_nil⟩⟩⟩⟩⟩⟩⟩⟩⟩⟩⟩⟩⟩⟩⟩⟩
theorem lw_p16 : lw_okq (⟨"StepPrograms$Machine", "writeFile", "(II)I"⟩, 13) := ⟨⟨by decide +kernel, by decide +kernel⟩, List.mem_of_getElem? (i := 88) (by decide +kernel), List.mem_of_getElem? (i := 651) (by decide +kernel), List.mem_of_getElem? (i := 652) (by decide +kernel)⟩
theorem lw_p17 : lw_okq (⟨"StepPrograms$Machine", "dropFile", "(I)I"⟩, 13) := ⟨⟨by decide +kernel, by decide +kernel⟩, List.mem_of_getElem? (i := 88) (by decide +kernel), List.mem_of_getElem? (i := 660) (by decide +kernel), List.mem_of_getElem? (i := 661) (by decide +kernel)⟩
theorem lw_p18 : lw_okq (⟨"StepPrograms$Machine", "copyFile", "(II)I"⟩, 13) := ⟨⟨by decide +kernel, by decide +kernel⟩, List.mem_of_getElem? (i := 88) (by decide +kernel), List.mem_of_getElem? (i := 665) (by decide +kernel), List.mem_of_getElem? (i := 666) (by decide +kernel)⟩
theorem lw_p19 : lw_okq (⟨"StepPrograms$Machine", "runChild", "(LStepPrograms$Frame;III)I"⟩, 13) := ⟨⟨by decide +kernel, by decide +kernel⟩, List.mem_of_getElem? (i := 88) (by decide +kernel), List.mem_of_getElem? (i := 684) (by decide +kernel), List.mem_of_getElem? (i := 685) (by decide +kernel)⟩
theorem lw_p20 : lw_okq (⟨"StepPrograms$Machine", "ask", "(LStepPrograms$Frame;II)I"⟩, 13) := ⟨⟨by decide +kernel, by decide +kernel⟩, List.mem_of_getElem? (i := 88) (by decide +kernel), List.mem_of_getElem? (i := 689) (by decide +kernel), List.mem_of_getElem? (i := 690) (by decide +kernel)⟩
theorem lw_p21 : lw_okq (⟨"StepPrograms$Machine", "answer", "(LStepPrograms$Frame;I)I"⟩, 13) := ⟨⟨by decide +kernel, by decide +kernel⟩, List.mem_of_getElem? (i := 88) (by decide +kernel), List.mem_of_getElem? (i := 693) (by decide +kernel), List.mem_of_getElem? (i := 694) (by decide +kernel)⟩
theorem lw_p22 : lw_okq (⟨"StepProgramsModel", "layLines", "(I)V"⟩, 33) := ⟨⟨by decide +kernel, by decide +kernel⟩, List.mem_of_getElem? (i := 719) (by decide +kernel), List.mem_of_getElem? (i := 838) (by decide +kernel), List.mem_of_getElem? (i := 839) (by decide +kernel)⟩
theorem lw_p23 : lw_okq (⟨"StepProgramsModel", "ill", "()I"⟩, 33) := ⟨⟨by decide +kernel, by decide +kernel⟩, List.mem_of_getElem? (i := 719) (by decide +kernel), List.mem_of_getElem? (i := 842) (by decide +kernel), List.mem_of_getElem? (i := 843) (by decide +kernel)⟩
theorem lw_p24 : lw_okq (⟨"StepProgramsModel", "split", "(II)V"⟩, 33) := ⟨⟨by decide +kernel, by decide +kernel⟩, List.mem_of_getElem? (i := 719) (by decide +kernel), List.mem_of_getElem? (i := 846) (by decide +kernel), List.mem_of_getElem? (i := 847) (by decide +kernel)⟩
theorem lw_p25 : lw_okq (⟨"StepProgramsModel", "isLabel", "()Z"⟩, 33) := ⟨⟨by decide +kernel, by decide +kernel⟩, List.mem_of_getElem? (i := 719) (by decide +kernel), List.mem_of_getElem? (i := 851) (by decide +kernel), List.mem_of_getElem? (i := 852) (by decide +kernel)⟩
theorem lw_p26 : lw_okq (⟨"StepProgramsModel", "isStatement", "()Z"⟩, 33) := ⟨⟨by decide +kernel, by decide +kernel⟩, List.mem_of_getElem? (i := 719) (by decide +kernel), List.mem_of_getElem? (i := 858) (by decide +kernel), List.mem_of_getElem? (i := 859) (by decide +kernel)⟩
theorem lw_p27 : lw_okq (⟨"StepProgramsModel", "isSign", "(I)Z"⟩, 33) := ⟨⟨by decide +kernel, by decide +kernel⟩, List.mem_of_getElem? (i := 719) (by decide +kernel), List.mem_of_getElem? (i := 863) (by decide +kernel), List.mem_of_getElem? (i := 864) (by decide +kernel)⟩
theorem lw_p28 : lw_okq (⟨"StepProgramsModel", "isValue", "(I)Z"⟩, 33) := ⟨⟨by decide +kernel, by decide +kernel⟩, List.mem_of_getElem? (i := 719) (by decide +kernel), List.mem_of_getElem? (i := 877) (by decide +kernel), List.mem_of_getElem? (i := 878) (by decide +kernel)⟩
theorem lw_p29 : lw_okq (⟨"StepProgramsModel", "isRegister", "(I)Z"⟩, 33) := ⟨⟨by decide +kernel, by decide +kernel⟩, List.mem_of_getElem? (i := 719) (by decide +kernel), List.mem_of_getElem? (i := 881) (by decide +kernel), List.mem_of_getElem? (i := 882) (by decide +kernel)⟩
theorem lw_p30 : lw_okq (⟨"StepProgramsModel", "isNumber", "(I)Z"⟩, 33) := ⟨⟨by decide +kernel, by decide +kernel⟩, List.mem_of_getElem? (i := 719) (by decide +kernel), List.mem_of_getElem? (i := 887) (by decide +kernel), List.mem_of_getElem? (i := 888) (by decide +kernel)⟩
theorem lw_p31 : lw_okq (⟨"StepProgramsModel", "isLetter", "(I)Z"⟩, 33) := ⟨⟨by decide +kernel, by decide +kernel⟩, List.mem_of_getElem? (i := 719) (by decide +kernel), List.mem_of_getElem? (i := 905) (by decide +kernel), List.mem_of_getElem? (i := 906) (by decide +kernel)⟩
def lw_privs_2 : List (MethodName × Nat) := [(⟨"StepPrograms$Machine", "writeFile", "(II)I"⟩, 13), (⟨"StepPrograms$Machine", "dropFile", "(I)I"⟩, 13), (⟨"StepPrograms$Machine", "copyFile", "(II)I"⟩, 13), (⟨"StepPrograms$Machine", "runChild", "(LStepPrograms$Frame;III)I"⟩, 13), (⟨"StepPrograms$Machine", "ask", "(LStepPrograms$Frame;II)I"⟩, 13), (⟨"StepPrograms$Machine", "answer", "(LStepPrograms$Frame;I)I"⟩, 13), (⟨"StepProgramsModel", "layLines", "(I)V"⟩, 33), (⟨"StepProgramsModel", "ill", "()I"⟩, 33), (⟨"StepProgramsModel", "split", "(II)V"⟩, 33), (⟨"StepProgramsModel", "isLabel", "()Z"⟩, 33), (⟨"StepProgramsModel", "isStatement", "()Z"⟩, 33), (⟨"StepProgramsModel", "isSign", "(I)Z"⟩, 33), (⟨"StepProgramsModel", "isValue", "(I)Z"⟩, 33), (⟨"StepProgramsModel", "isRegister", "(I)Z"⟩, 33), (⟨"StepProgramsModel", "isNumber", "(I)Z"⟩, 33), (⟨"StepProgramsModel", "isLetter", "(I)Z"⟩, 33)]
theorem lw_r2 : ∀ q ∈ lw_privs_2, lw_okq q := List.forall_mem_cons.mpr ⟨lw_p16, List.forall_mem_cons.mpr ⟨lw_p17, List.forall_mem_cons.mpr ⟨lw_p18, List.forall_mem_cons.mpr ⟨lw_p19, List.forall_mem_cons.mpr ⟨lw_p20, List.forall_mem_cons.mpr ⟨lw_p21, List.forall_mem_cons.mpr ⟨lw_p22, List.forall_mem_cons.mpr ⟨lw_p23, List.forall_mem_cons.mpr ⟨lw_p24, List.forall_mem_cons.mpr ⟨lw_p25, List.forall_mem_cons.mpr ⟨lw_p26, List.forall_mem_cons.mpr ⟨lw_p27, List.forall_mem_cons.mpr ⟨lw_p28, List.forall_mem_cons.mpr ⟨lw_p29, List.forall_mem_cons.mpr ⟨lw_p30, List.forall_mem_cons.mpr ⟨lw_p31, fun _ h => absurd h List.not_mem_nil⟩⟩⟩⟩⟩⟩⟩⟩⟩⟩⟩⟩⟩⟩⟩⟩
theorem lw_p32 : lw_okq (⟨"StepProgramsModel", "isComparison", "(I)Z"⟩, 33) := ⟨⟨by decide +kernel, by decide +kernel⟩, List.mem_of_getElem? (i := 719) (by decide +kernel), List.mem_of_getElem? (i := 910) (by decide +kernel), List.mem_of_getElem? (i := 911) (by decide +kernel)⟩
theorem lw_p33 : lw_okq (⟨"StepProgramsModel", "goal", "()I"⟩, 33) := ⟨⟨by decide +kernel, by decide +kernel⟩, List.mem_of_getElem? (i := 719) (by decide +kernel), List.mem_of_getElem? (i := 916) (by decide +kernel), List.mem_of_getElem? (i := 917) (by decide +kernel)⟩
theorem lw_p34 : lw_okq (⟨"StepProgramsModel", "keep", "(I)V"⟩, 33) := ⟨⟨by decide +kernel, by decide +kernel⟩, List.mem_of_getElem? (i := 719) (by decide +kernel), List.mem_of_getElem? (i := 920) (by decide +kernel), List.mem_of_getElem? (i := 921) (by decide +kernel)⟩
theorem lw_p35 : lw_okq (⟨"StepProgramsModel", "append", "(II)V"⟩, 33) := ⟨⟨by decide +kernel, by decide +kernel⟩, List.mem_of_getElem? (i := 719) (by decide +kernel), List.mem_of_getElem? (i := 931) (by decide +kernel), List.mem_of_getElem? (i := 932) (by decide +kernel)⟩
theorem lw_p36 : lw_okq (⟨"StepProgramsModel", "isProgram", "(I)Z"⟩, 33) := ⟨⟨by decide +kernel, by decide +kernel⟩, List.mem_of_getElem? (i := 719) (by decide +kernel), List.mem_of_getElem? (i := 947) (by decide +kernel), List.mem_of_getElem? (i := 948) (by decide +kernel)⟩
theorem lw_p37 : lw_okq (⟨"StepProgramsModel", "begin", "(III)V"⟩, 33) := ⟨⟨by decide +kernel, by decide +kernel⟩, List.mem_of_getElem? (i := 719) (by decide +kernel), List.mem_of_getElem? (i := 951) (by decide +kernel), List.mem_of_getElem? (i := 952) (by decide +kernel)⟩
theorem lw_p38 : lw_okq (⟨"StepProgramsModel", "comesToStatement", "()Z"⟩, 33) := ⟨⟨by decide +kernel, by decide +kernel⟩, List.mem_of_getElem? (i := 719) (by decide +kernel), List.mem_of_getElem? (i := 955) (by decide +kernel), List.mem_of_getElem? (i := 956) (by decide +kernel)⟩
theorem lw_p39 : lw_okq (⟨"StepProgramsModel", "work", "(I)I"⟩, 33) := ⟨⟨by decide +kernel, by decide +kernel⟩, List.mem_of_getElem? (i := 719) (by decide +kernel), List.mem_of_getElem? (i := 959) (by decide +kernel), List.mem_of_getElem? (i := 960) (by decide +kernel)⟩
theorem lw_p40 : lw_okq (⟨"StepProgramsModel", "let", "(I)I"⟩, 33) := ⟨⟨by decide +kernel, by decide +kernel⟩, List.mem_of_getElem? (i := 719) (by decide +kernel), List.mem_of_getElem? (i := 963) (by decide +kernel), List.mem_of_getElem? (i := 964) (by decide +kernel)⟩
theorem lw_p41 : lw_okq (⟨"StepProgramsModel", "value", "(II)I"⟩, 33) := ⟨⟨by decide +kernel, by decide +kernel⟩, List.mem_of_getElem? (i := 719) (by decide +kernel), List.mem_of_getElem? (i := 967) (by decide +kernel), List.mem_of_getElem? (i := 968) (by decide +kernel)⟩
theorem lw_p42 : lw_okq (⟨"StepProgramsModel", "registerOf", "(I)I"⟩, 33) := ⟨⟨by decide +kernel, by decide +kernel⟩, List.mem_of_getElem? (i := 719) (by decide +kernel), List.mem_of_getElem? (i := 971) (by decide +kernel), List.mem_of_getElem? (i := 972) (by decide +kernel)⟩
theorem lw_p43 : lw_okq (⟨"StepProgramsModel", "gives", "(II)I"⟩, 33) := ⟨⟨by decide +kernel, by decide +kernel⟩, List.mem_of_getElem? (i := 719) (by decide +kernel), List.mem_of_getElem? (i := 975) (by decide +kernel), List.mem_of_getElem? (i := 976) (by decide +kernel)⟩
theorem lw_p44 : lw_okq (⟨"StepProgramsModel", "set", "(III)V"⟩, 33) := ⟨⟨by decide +kernel, by decide +kernel⟩, List.mem_of_getElem? (i := 719) (by decide +kernel), List.mem_of_getElem? (i := 979) (by decide +kernel), List.mem_of_getElem? (i := 980) (by decide +kernel)⟩
theorem lw_p45 : lw_okq (⟨"StepProgramsModel", "goesOn", "(I)I"⟩, 33) := ⟨⟨by decide +kernel, by decide +kernel⟩, List.mem_of_getElem? (i := 719) (by decide +kernel), List.mem_of_getElem? (i := 983) (by decide +kernel), List.mem_of_getElem? (i := 984) (by decide +kernel)⟩
theorem lw_p46 : lw_okq (⟨"StepProgramsModel", "put", "(III)I"⟩, 33) := ⟨⟨by decide +kernel, by decide +kernel⟩, List.mem_of_getElem? (i := 719) (by decide +kernel), List.mem_of_getElem? (i := 987) (by decide +kernel), List.mem_of_getElem? (i := 988) (by decide +kernel)⟩
theorem lw_p47 : lw_okq (⟨"StepProgramsModel", "withFiles", "(I)I"⟩, 33) := ⟨⟨by decide +kernel, by decide +kernel⟩, List.mem_of_getElem? (i := 719) (by decide +kernel), List.mem_of_getElem? (i := 991) (by decide +kernel), List.mem_of_getElem? (i := 992) (by decide +kernel)⟩
def lw_privs_3 : List (MethodName × Nat) := [(⟨"StepProgramsModel", "isComparison", "(I)Z"⟩, 33), (⟨"StepProgramsModel", "goal", "()I"⟩, 33), (⟨"StepProgramsModel", "keep", "(I)V"⟩, 33), (⟨"StepProgramsModel", "append", "(II)V"⟩, 33), (⟨"StepProgramsModel", "isProgram", "(I)Z"⟩, 33), (⟨"StepProgramsModel", "begin", "(III)V"⟩, 33), (⟨"StepProgramsModel", "comesToStatement", "()Z"⟩, 33), (⟨"StepProgramsModel", "work", "(I)I"⟩, 33), (⟨"StepProgramsModel", "let", "(I)I"⟩, 33), (⟨"StepProgramsModel", "value", "(II)I"⟩, 33), (⟨"StepProgramsModel", "registerOf", "(I)I"⟩, 33), (⟨"StepProgramsModel", "gives", "(II)I"⟩, 33), (⟨"StepProgramsModel", "set", "(III)V"⟩, 33), (⟨"StepProgramsModel", "goesOn", "(I)I"⟩, 33), (⟨"StepProgramsModel", "put", "(III)I"⟩, 33), (⟨"StepProgramsModel", "withFiles", "(I)I"⟩, 33)]
theorem lw_r3 : ∀ q ∈ lw_privs_3, lw_okq q := List.forall_mem_cons.mpr ⟨lw_p32, List.forall_mem_cons.mpr ⟨lw_p33, List.forall_mem_cons.mpr ⟨lw_p34, List.forall_mem_cons.mpr ⟨lw_p35, List.forall_mem_cons.mpr ⟨lw_p36, List.forall_mem_cons.mpr ⟨lw_p37, List.forall_mem_cons.mpr ⟨lw_p38, List.forall_mem_cons.mpr ⟨lw_p39, List.forall_mem_cons.mpr ⟨lw_p40, List.forall_mem_cons.mpr ⟨lw_p41, List.forall_mem_cons.mpr ⟨lw_p42, List.forall_mem_cons.mpr ⟨lw_p43, List.forall_mem_cons.mpr ⟨lw_p44, List.forall_mem_cons.mpr ⟨lw_p45, List.forall_mem_cons.mpr ⟨lw_p46, List.forall_mem_cons.mpr ⟨lw_p47, fun _ h => absurd h List.not_mem_nil⟩⟩⟩⟩⟩⟩⟩⟩⟩⟩⟩⟩⟩⟩⟩⟩
theorem lw_p48 : lw_okq (⟨"StepProgramsModel", "read", "(III)I"⟩, 33) := ⟨⟨by decide +kernel, by decide +kernel⟩, List.mem_of_getElem? (i := 719) (by decide +kernel), List.mem_of_getElem? (i := 995) (by decide +kernel), List.mem_of_getElem? (i := 996) (by decide +kernel)⟩
theorem lw_p49 : lw_okq (⟨"StepProgramsModel", "write", "(III)I"⟩, 33) := ⟨⟨by decide +kernel, by decide +kernel⟩, List.mem_of_getElem? (i := 719) (by decide +kernel), List.mem_of_getElem? (i := 999) (by decide +kernel), List.mem_of_getElem? (i := 1000) (by decide +kernel)⟩
theorem lw_p50 : lw_okq (⟨"StepProgramsModel", "copy", "(III)I"⟩, 33) := ⟨⟨by decide +kernel, by decide +kernel⟩, List.mem_of_getElem? (i := 719) (by decide +kernel), List.mem_of_getElem? (i := 1003) (by decide +kernel), List.mem_of_getElem? (i := 1004) (by decide +kernel)⟩
theorem lw_p51 : lw_okq (⟨"StepProgramsModel", "says", "(IZI)I"⟩, 33) := ⟨⟨by decide +kernel, by decide +kernel⟩, List.mem_of_getElem? (i := 719) (by decide +kernel), List.mem_of_getElem? (i := 1007) (by decide +kernel), List.mem_of_getElem? (i := 1008) (by decide +kernel)⟩
theorem lw_p52 : lw_okq (⟨"StepProgramsModel", "goesTo", "(II)I"⟩, 33) := ⟨⟨by decide +kernel, by decide +kernel⟩, List.mem_of_getElem? (i := 719) (by decide +kernel), List.mem_of_getElem? (i := 1011) (by decide +kernel), List.mem_of_getElem? (i := 1012) (by decide +kernel)⟩
theorem lw_p53 : lw_okq (⟨"StepProgramsModel", "call", "(I)I"⟩, 33) := ⟨⟨by decide +kernel, by decide +kernel⟩, List.mem_of_getElem? (i := 719) (by decide +kernel), List.mem_of_getElem? (i := 1018) (by decide +kernel), List.mem_of_getElem? (i := 1019) (by decide +kernel)⟩
theorem lw_p54 : lw_okq (⟨"StepProgramsModel", "back", "(I)I"⟩, 33) := ⟨⟨by decide +kernel, by decide +kernel⟩, List.mem_of_getElem? (i := 719) (by decide +kernel), List.mem_of_getElem? (i := 1022) (by decide +kernel), List.mem_of_getElem? (i := 1023) (by decide +kernel)⟩
theorem lw_p55 : lw_okq (⟨"StepProgramsModel", "child", "(III)I"⟩, 33) := ⟨⟨by decide +kernel, by decide +kernel⟩, List.mem_of_getElem? (i := 719) (by decide +kernel), List.mem_of_getElem? (i := 1026) (by decide +kernel), List.mem_of_getElem? (i := 1027) (by decide +kernel)⟩
theorem lw_p56 : lw_okq (⟨"StepProgramsModel", "ask", "(II)I"⟩, 33) := ⟨⟨by decide +kernel, by decide +kernel⟩, List.mem_of_getElem? (i := 719) (by decide +kernel), List.mem_of_getElem? (i := 1030) (by decide +kernel), List.mem_of_getElem? (i := 1031) (by decide +kernel)⟩
def lw_privs_4 : List (MethodName × Nat) := [(⟨"StepProgramsModel", "read", "(III)I"⟩, 33), (⟨"StepProgramsModel", "write", "(III)I"⟩, 33), (⟨"StepProgramsModel", "copy", "(III)I"⟩, 33), (⟨"StepProgramsModel", "says", "(IZI)I"⟩, 33), (⟨"StepProgramsModel", "goesTo", "(II)I"⟩, 33), (⟨"StepProgramsModel", "call", "(I)I"⟩, 33), (⟨"StepProgramsModel", "back", "(I)I"⟩, 33), (⟨"StepProgramsModel", "child", "(III)I"⟩, 33), (⟨"StepProgramsModel", "ask", "(II)I"⟩, 33)]
theorem lw_r4 : ∀ q ∈ lw_privs_4, lw_okq q := List.forall_mem_cons.mpr ⟨lw_p48, List.forall_mem_cons.mpr ⟨lw_p49, List.forall_mem_cons.mpr ⟨lw_p50, List.forall_mem_cons.mpr ⟨lw_p51, List.forall_mem_cons.mpr ⟨lw_p52, List.forall_mem_cons.mpr ⟨lw_p53, List.forall_mem_cons.mpr ⟨lw_p54, List.forall_mem_cons.mpr ⟨lw_p55, List.forall_mem_cons.mpr ⟨lw_p56, fun _ h => absurd h List.not_mem_nil⟩⟩⟩⟩⟩⟩⟩⟩⟩
def lw_privs : List (MethodName × Nat) := lw_privs_1 ++ (lw_privs_2 ++ (lw_privs_3 ++ (lw_privs_4)))
def lw_tbl : List Cond := k2_sels lw_privs ++ tables_1
theorem lw_privs_ok : ∀ q ∈ lw_privs, lw_okq q := by
  show ∀ q ∈ lw_privs_1 ++ (lw_privs_2 ++ (lw_privs_3 ++ (lw_privs_4))), lw_okq q
  exact List.forall_mem_append.mpr ⟨lw_r1, List.forall_mem_append.mpr ⟨lw_r2, List.forall_mem_append.mpr ⟨lw_r3, lw_r4⟩⟩⟩
end
section
/-! ===== the heap as a map: what lies at which address; an array's cell bears a tag in place of its class ===== -/
abbrev hE : Type := Nat → Option va_E
def h_cv (kA : Nat → ClassId) (e : va_E) : va_E := match e with
  | .inl x => .inl (kA x.1, x.2)
  | .inr o => .inr o
def hp (D : va_G) (cl : List vw_C) (kA : Nat → ClassId) (n0 : Nat) (E : hE) (H : Heap) : Prop := ∀ (a : Nat) (e : va_E), E a = some e → va_at D cl (a, h_cv kA e) H ∧ n0 ≤ a
/-! reading and writing the map -/
def gO (E : hE) (r : Option Nat) (ci : Nat) : Option (Nat × List Value) := r.bind fun a => (E a).bind fun e => match e with
  | .inr o => if o.1 = ci then some (a, o.2) else none
  | .inl _ => none
def vI (v : Value) : Option Int32 := match v with
  | .int x => some x
  | _ => none
def vR (v : Value) : Option (Option Nat) := match v with
  | .null => some none
  | .ref a => some (some a)
  | _ => none
def gI (E : hE) (r : Option Nat) (ci k : Nat) : Option Int32 := (gO E r ci).bind fun o => (o.2[k]?).bind vI
def gR (E : hE) (r : Option Nat) (ci k : Nat) : Option (Option Nat) := (gO E r ci).bind fun o => (o.2[k]?).bind vR
def sF (E : hE) (r : Option Nat) (ci k : Nat) (v : Value) : Option hE := (gO E r ci).bind fun o => if k < o.2.length then some (va_up E o.1 (some (.inr (ci, o.2.set k v)))) else none
def sI (E : hE) (r : Option Nat) (ci k : Nat) (x : Int32) : Option hE := sF E r ci k (.int x)
def sZ (E : hE) (r : Option Nat) (ci k : Nat) (x : Int32) : Option hE := if x = 0 ∨ x = 1 then sF E r ci k (.int x) else none
def sR (E : hE) (r : Option Nat) (ci k : Nat) (q : Option Nat) : Option hE := sF E r ci k (va_rf q)
def gA (E : hE) (r : Option Nat) (t : Nat) : Option (Nat × vp_A) := r.bind fun a => (E a).bind fun e => match e with
  | .inl x => if x.1 = t then some (a, x.2) else none
  | .inr _ => none
def aL (E : hE) (r : Option Nat) (t : Nat) : Option Int32 := (gA E r t).map fun o => nI o.2.1
def vAi (x : vp_A) : Option (Nat → Int32) := match x.2 with
  | .inl f => some f
  | _ => none
def vAq (x : vp_A) : Option (Nat → Option Nat) := match x.2 with
  | .inr (.inr (.inr (.inr f))) => some f
  | _ => none
def vAl (x : vp_A) : Option (Nat → Int64) := match x.2 with
  | .inr (.inl f) => some f
  | _ => none
def aJ (E : hE) (r : Option Nat) (t : Nat) (i : Int32) : Option Int64 := (gA E r t).bind fun o => (vAl o.2).bind fun f => if i < 0 ∨ o.2.1 ≤ i.toNatClampNeg then none else some (f i.toNatClampNeg)
def tJ (E : hE) (r : Option Nat) (t : Nat) (i : Int32) (x : Int64) : Option hE := (gA E r t).bind fun o => (vAl o.2).bind fun f => if i < 0 ∨ o.2.1 ≤ i.toNatClampNeg then none else some (va_up E o.1 (some (.inl (t, o.2.1, .inr (.inl (vp_updL f i.toNatClampNeg x))))))
def nJ (E : hE) (nx t : Nat) (n : Int32) (bd : Nat) : Option hE := if n < 0 ∨ bd < n.toNatClampNeg then none else some (va_up E nx (some (.inl (t, n.toNatClampNeg, .inr (.inl (fun _ => 0))))))
def aI (E : hE) (r : Option Nat) (t : Nat) (i : Int32) : Option Int32 := (gA E r t).bind fun o => (vAi o.2).bind fun f => if i < 0 ∨ o.2.1 ≤ i.toNatClampNeg then none else some (f i.toNatClampNeg)
def aQ (E : hE) (r : Option Nat) (t : Nat) (i : Int32) : Option (Option Nat) := (gA E r t).bind fun o => (vAq o.2).bind fun f => if i < 0 ∨ o.2.1 ≤ i.toNatClampNeg then none else some (f i.toNatClampNeg)
def tI (E : hE) (r : Option Nat) (t : Nat) (i x : Int32) : Option hE := (gA E r t).bind fun o => (vAi o.2).bind fun f => if i < 0 ∨ o.2.1 ≤ i.toNatClampNeg then none else some (va_up E o.1 (some (.inl (t, o.2.1, .inl (upd f i.toNatClampNeg x)))))
def tZ (E : hE) (r : Option Nat) (t : Nat) (i x : Int32) : Option hE := if x = 0 ∨ x = 1 then tI E r t i x else none
def tQ (E : hE) (r : Option Nat) (t : Nat) (i : Int32) (q : Option Nat) (ci : Nat) : Option hE := (gA E r t).bind fun o => (vAq o.2).bind fun f => if i < 0 ∨ o.2.1 ≤ i.toNatClampNeg then none else if q = none ∨ (gO E q ci).isSome = true then some (va_up E o.1 (some (.inl (t, o.2.1, .inr (.inr (.inr (.inr (va_up f i.toNatClampNeg q)))))))) else none
def bZ (x : Int32) : Option Int32 := if x = 0 ∨ x = 1 then some x else none
theorem bZ_some {x v : Int32} (h : bZ x = some v) : x = v ∧ (v = 0 ∨ v = 1) := by
  unfold bZ at h
  by_cases hv : x = 0 ∨ x = 1
  · rw [if_pos hv] at h
    cases h
    exact ⟨rfl, hv⟩
  · rw [if_neg hv] at h
    cases h
def nA (E : hE) (nx t : Nat) (n : Int32) (bd : Nat) : Option hE := if n < 0 ∨ bd < n.toNatClampNeg then none else some (va_up E nx (some (.inl (t, n.toNatClampNeg, .inl (fun _ => 0)))))
def nQ (E : hE) (nx t : Nat) (n : Int32) (bd : Nat) : Option hE := if n < 0 ∨ bd < n.toNatClampNeg then none else some (va_up E nx (some (.inl (t, n.toNatClampNeg, .inr (.inr (.inr (.inr (fun _ => none))))))))
theorem gO_some {E : hE} {r : Option Nat} {ci : Nat} {o : Nat × List Value} (h : gO E r ci = some o) : r = some o.1 ∧ E o.1 = some (.inr (ci, o.2)) := by
  unfold gO at h
  obtain ⟨a, h1, hz0⟩ := Option.bind_eq_some_iff.mp h
  obtain ⟨e, h2, hz1⟩ := Option.bind_eq_some_iff.mp hz0
  cases e with
  | inl x => cases hz1
  | inr x =>
    by_cases hc : x.1 = ci
    · simp only [hc, if_true] at hz1
      cases hz1
      refine ⟨h1, ?_⟩
      rw [h2, ← hc]
    · simp only [hc, if_false] at hz1
      cases hz1
theorem gA_some {E : hE} {r : Option Nat} {t : Nat} {o : Nat × vp_A} (h : gA E r t = some o) : r = some o.1 ∧ E o.1 = some (.inl (t, o.2)) := by
  unfold gA at h
  obtain ⟨a, h1, hz0⟩ := Option.bind_eq_some_iff.mp h
  obtain ⟨e, h2, hz1⟩ := Option.bind_eq_some_iff.mp hz0
  cases e with
  | inr x => cases hz1
  | inl x =>
    by_cases hc : x.1 = t
    · simp only [hc, if_true] at hz1
      cases hz1
      refine ⟨h1, ?_⟩
      rw [h2, ← hc]
    · simp only [hc, if_false] at hz1
      cases hz1
theorem vI_some {v : Value} {x : Int32} (h : vI v = some x) : v = .int x := by
  unfold vI at h
  cases v <;> first | (cases h; rfl) | cases h
theorem vR_some {v : Value} {x : Option Nat} (h : vR v = some x) : v = va_rf x := by
  unfold vR at h
  cases v <;> first | (cases h; rfl) | cases h
theorem vAi_some {x : vp_A} {f : Nat → Int32} (h : vAi x = some f) : x = (x.1, .inl f) := by
  obtain ⟨n, g | g | g | g | g⟩ := x <;> first | (cases h; rfl) | cases h
theorem vAl_some {x : vp_A} {f : Nat → Int64} (h : vAl x = some f) : x = (x.1, .inr (.inl f)) := by
  obtain ⟨n, g | g | g | g | g⟩ := x <;> first | (cases h; rfl) | cases h
theorem vAq_some {x : vp_A} {f : Nat → Option Nat} (h : vAq x = some f) : x = (x.1, .inr (.inr (.inr (.inr f)))) := by
  obtain ⟨n, g | g | g | g | g⟩ := x <;> first | (cases h; rfl) | cases h
section HPB
variable {D : va_G} {cl : List vw_C} {kA : Nat → ClassId} {n0 : Nat} {E : hE} {H H1 : Heap} {a : Nat} {e e' : va_E}
theorem hp_one (h : hp D cl kA n0 E H) (ha : E a = some e) : va_P D cl [(a, h_cv kA e)] H := fun k q hk => by
  have hk0 : k < 1 := (List.getElem?_eq_some_iff.mp hk).1
  rw [show k = 0 by omega] at hk
  cases hk
  exact (h a e ha).1
theorem hp_lt (h : hp D cl kA n0 E H) (ha : E a = some e) : a < H.size := (h a e ha).1.lt
theorem hp_upd (h : hp D cl kA n0 E H) (ha : E a = some e) (he : va_at D cl (a, h_cv kA e') H1) (oq : ∀ q : Nat, q ≠ a → H1[q]? = H[q]?) : hp D cl kA n0 (va_up E a (some e')) H1 := by
  intro b x hb
  by_cases hba : b = a
  · subst hba
    rw [va_up_self] at hb
    cases hb
    exact ⟨he, (h b e ha).2⟩
  · rw [va_up_ne _ _ hba] at hb
    obtain ⟨h1, h2⟩ := h b x hb
    exact ⟨h1.kept (oq b hba), h2⟩
theorem hp_born (h : hp D cl kA n0 E H) (hn : n0 ≤ H.size) (he : va_at D cl (H.size, h_cv kA e) H1) (oq : ∀ q : Nat, q < H.size → H1[q]? = H[q]?) : hp D cl kA n0 (va_up E H.size (some e)) H1 := by
  intro b x hb
  by_cases hba : b = H.size
  · subst hba
    rw [va_up_self] at hb
    cases hb
    exact ⟨he, hn⟩
  · rw [va_up_ne _ _ hba] at hb
    obtain ⟨h1, h2⟩ := h b x hb
    exact ⟨h1.kept (oq b h1.lt), h2⟩
end HPB
/-! ===== what stays through a method's walk (hC), what moves (hM), a contract's start and end (hI) ===== -/
def hZk (n0 : Nat) (Z : State → Prop) : Prop := ∀ u U : State, u.vm.Alike U.vm → (∀ a : Nat, a < n0 → U.heap[a]? = u.heap[a]?) → Z u → Z U
def hC (p : Program) (s : State) (m : MethodId) (args : Array Value) (c : Code) (cc : ByteArray) (nL : Nat) (own : String) (Ts : List Cond) (D : va_G) (cl : List vw_C) (tys : List (ClassId × FieldType)) (n0 : Nat) (Z : State → Prop) : Prop :=
  p.tables.exec = Jvm.exec ∧ c.code = cc ∧ c.maxLocals = nL ∧ s.vm.findClass own = some m.cls ∧ (∀ w ∈ Ts, w.before args s = true) ∧ va_K D cl tys s ∧ n0 ≤ s.heap.size ∧ Z s ∧ hZk n0 Z
def hM (D : va_G) (cl : List vw_C) (kA : Nat → ClassId) (n0 : Nat) (s : State) (E : hE) (nx : Nat) (H : Heap) (locs : List Loc) : Prop := hp D cl kA n0 E H ∧ va_S (fun q => n0 ≤ q) s.heap H locs ∧ H.size = nx
def hI (D : va_G) (cl : List vw_C) (kA : Nat → ClassId) (tys : List (ClassId × FieldType)) (n0 : Nat) (Z : State → Prop) (u : hE × Nat) (U : State) : Prop := hp D cl kA n0 u.1 U.heap ∧ va_K D cl tys U ∧ n0 ≤ U.heap.size ∧ U.heap.size = u.2 ∧ Z U
section HCB
variable {p : Program} {l : Launch} {e : Env} {R : Room} {s : State} {m : MethodId} {args : Array Value} {below : List Frame} {meth : Method} {c : Code} {H : Heap} {locs : List Loc} {cells slots : Nat} {Q : State → Prop}
variable {cc : ByteArray} {nL pc : Nat} {own : String} {Ts : List Cond} {D : va_G} {cl : List vw_C} {kA : Nat → ClassId} {tys : List (ClassId × FieldType)} {n0 nx : Nat} {Z : State → Prop} {E E1 : hE} {ls : Array Slot} {rest : List Value} {r : Option Nat}
theorem hC.x (C : hC p s m args c cc nL own Ts D cl tys n0 Z) : p.tables.exec = Jvm.exec := C.1
theorem hC.b (C : hC p s m args c cc nL own Ts D cl tys n0 Z) : c.code = cc := C.2.1
theorem hC.ml (C : hC p s m args c cc nL own Ts D cl tys n0 Z) : c.maxLocals = nL := C.2.2.1
theorem hC.ow (C : hC p s m args c cc nL own Ts D cl tys n0 Z) : s.vm.findClass own = some m.cls := C.2.2.2.1
theorem hC.ts (C : hC p s m args c cc nL own Ts D cl tys n0 Z) : ∀ w ∈ Ts, w.before args s = true := C.2.2.2.2.1
theorem hC.K (C : hC p s m args c cc nL own Ts D cl tys n0 Z) : va_K D cl tys s := C.2.2.2.2.2.1
theorem hC.n (C : hC p s m args c cc nL own Ts D cl tys n0 Z) : n0 ≤ s.heap.size := C.2.2.2.2.2.2.1
theorem hC.z (C : hC p s m args c cc nL own Ts D cl tys n0 Z) : Z s := C.2.2.2.2.2.2.2.1
theorem hC.zk (C : hC p s m args c cc nL own Ts D cl tys n0 Z) : hZk n0 Z := C.2.2.2.2.2.2.2.2
theorem hC.fix (C : hC p s m args c cc nL own Ts D cl tys n0 Z) : CallFix p m c cc nL s args Ts own := ⟨C.x, C.b, C.ml, C.ow, C.ts⟩
theorem hM.P (M : hM D cl kA n0 s E nx H locs) : hp D cl kA n0 E H := M.1
theorem hM.S (M : hM D cl kA n0 s E nx H locs) : va_S (fun q => n0 ≤ q) s.heap H locs := M.2.1
theorem hM.z (M : hM D cl kA n0 s E nx H locs) : H.size = nx := M.2.2
theorem hM.lo (C : hC p s m args c cc nL own Ts D cl tys n0 Z) (M : hM D cl kA n0 s E nx H locs) : n0 ≤ H.size := Nat.le_trans C.n M.S.1
theorem hM.I (C : hC p s m args c cc nL own Ts D cl tys n0 Z) (M : hM D cl kA n0 s E nx H locs) (U : State) (hU : U.heap = H) (hA : s.vm.Alike U.vm) : hI D cl kA tys n0 Z (E, nx) U := by
  refine ⟨by rw [hU]; exact M.1, va_K.moved hA C.K, by rw [hU]; exact hM.lo C M, by rw [hU]; exact M.z, C.zk s U hA (fun q hq => ?_) C.z⟩
  rw [hU]
  exact M.S.2.1 q (Nat.lt_of_lt_of_le hq C.n) (Nat.not_le.mpr hq)
theorem hI.blind {u : hE × Nat} (hz : hZk n0 Z) (av : List Value) : FrameBlind (va_Pc av (hI D cl kA tys n0 Z u)) := fun b U g mk q => by
  obtain ⟨q0, q1, q2, q3, q4, q5⟩ := q
  exact ⟨q0, q1, va_K.moved (u := U) (U := U.calling g mk b) (Vm.Alike.refl U.vm) q2, q3, q4, hz U (U.calling g mk b) (Vm.Alike.refl U.vm) (fun _ _ => rfl) q5⟩
/-- a write to a cell that is there -/
theorem hM.upd {a : Nat} {x y : va_E} {H1 : Heap} {j : Nat} (M : hM D cl kA n0 s E nx H locs) (ha : E a = some x) (he : va_at D cl (a, h_cv kA y) H1) (z : H1.size = H.size) (oq : ∀ q : Nat, q ≠ a → H1[q]? = H[q]?) : hM D cl kA n0 s (va_up E a (some y)) nx H1 (locs ++ [⟨a, j⟩]) :=
  ⟨hp_upd M.P ha he oq, M.S.put z oq (M.P a x ha).2, z.trans M.z⟩
/-- a method's contract out of its walk -/
theorem h_met {y : MethodName} {ws ws' : List Cond} {rm : Room} {Qc : Array Value → State → Outcome → State → Prop} {mc ms : Nat} {maxL : Nat} {ret : Option FieldType} {av : List Value} (hz : hZk n0 Z)
    (hy : plainName y.cls = true) (hw : ws = Cond.code y cc maxL ret :: ws') (hlen : (lg_sl av).length ≤ maxL) {lvs : List (Nat × Value)} (hlv : lv_args 0 av = lvs)
    (body : ∀ (p : Program) (e : Env) (s : State) (m : MethodId) (below : List Frame) (meth : Method) (c : Code) (ls : Array Slot), hC p s m av.toArray c cc maxL y.cls ws D cl tys n0 Z → hM D cl kA n0 s E nx s.heap [] → meth.sig.returnType = ret → meth.locks = false → meth.name = y.name → lv_has ls maxL lvs →
      W p l e rm s m av.toArray below meth c s.heap [] 0 0 (MQ below Qc av.toArray s mc ms (fun q => n0 ≤ q)) (F0 m 0 ls [])) : Met l y ws rm (va_Pc av (hI D cl kA tys n0 Z (E, nx))) Qc mc ms (fun q => n0 ≤ q) := by
  refine Met.ofW (cc := cc) (maxL := maxL) (ret := ret) hy hw ?_
  intro p e s m args below meth c s₁ B hml hv
  obtain ⟨rfl, hP, hK, hn, hsz, hZ⟩ := hv
  have hts := atoms_spec (ws := ws) B.pre
  have hown : s.vm.findClass y.cls = some m.cls := findClass_of_methodNamed B.named
  have hin : meth.name = y.name := (name_of_methodNamed B.named B.method).1
  subst hlv
  have hl := lv_entry av hlen
  rw [lg_entry_eq]
  generalize (lg_sl av ++ List.replicate (maxL - (lg_sl av).length) Slot.unset).toArray = ls at hl ⊢
  exact body p e s m below meth c ls ⟨B.exec, B.bytes, hml, hown, hts, hK, hn, hZ, hz⟩ ⟨hP, va_S.rf, hsz⟩ B.returns B.notSynchronized hin hl
/-! fields -/
theorem w_get (C : hC p s m args c cc nL own Ts D cl tys n0 Z) (M : hM D cl kA n0 s E nx H locs) {ci k N index : Nat} {Cn ref : String} {T : u_T} {o : Nat × List Value} {v : Value} (h : gO E r ci = some o) (hv : o.2[k]? = some v) (hc : cl[ci]? = some (Cn, T, N)) (hin : ∀ w ∈ u_ws Cn T N, w ∈ Ts) (hk : k < N) (hlink : Cond.fieldLink own index ref (T k).2.1 (T k).2.2.1 ∈ Ts) (href : (T k).1 = ref) (hdg : decode cc pc = .ok (.getfield index, 3))
    (kk : W p l e R s m args below meth c H locs cells slots Q (F0 m (pc + 3) ls (v :: rest))) : W p l e R s m args below meth c H locs cells slots Q (F0 m pc ls (va_rf r :: rest)) := by
  obtain ⟨rfl, he⟩ := gO_some h
  exact va_get C.x C.b C.ts hin C.ow C.K (hp_one M.P he) 0 rfl hc k hk (C.ts _ hlink) (fun x h => by rw [← href]; exact h) hv hdg kk
theorem w_getI (C : hC p s m args c cc nL own Ts D cl tys n0 Z) (M : hM D cl kA n0 s E nx H locs) {ci k N index : Nat} {Cn ref : String} {T : u_T} {v : Int32} (h : gI E r ci k = some v) (hc : cl[ci]? = some (Cn, T, N)) (hin : ∀ w ∈ u_ws Cn T N, w ∈ Ts) (hk : k < N) (hlink : Cond.fieldLink own index ref (T k).2.1 (T k).2.2.1 ∈ Ts) (href : (T k).1 = ref) (hdg : decode cc pc = .ok (.getfield index, 3))
    (kk : W p l e R s m args below meth c H locs cells slots Q (F0 m (pc + 3) ls (.int v :: rest))) : W p l e R s m args below meth c H locs cells slots Q (F0 m pc ls (va_rf r :: rest)) := by
  obtain ⟨o, h1, hz0⟩ := Option.bind_eq_some_iff.mp h
  obtain ⟨w, h2, hz1⟩ := Option.bind_eq_some_iff.mp hz0
  have h3 := vI_some hz1
  subst h3
  exact w_get C M h1 h2 hc hin hk hlink href hdg kk
theorem w_getR (C : hC p s m args c cc nL own Ts D cl tys n0 Z) (M : hM D cl kA n0 s E nx H locs) {ci k N index : Nat} {Cn ref : String} {T : u_T} {v : Option Nat} (h : gR E r ci k = some v) (hc : cl[ci]? = some (Cn, T, N)) (hin : ∀ w ∈ u_ws Cn T N, w ∈ Ts) (hk : k < N) (hlink : Cond.fieldLink own index ref (T k).2.1 (T k).2.2.1 ∈ Ts) (href : (T k).1 = ref) (hdg : decode cc pc = .ok (.getfield index, 3))
    (kk : W p l e R s m args below meth c H locs cells slots Q (F0 m (pc + 3) ls (va_rf v :: rest))) : W p l e R s m args below meth c H locs cells slots Q (F0 m pc ls (va_rf r :: rest)) := by
  obtain ⟨o, h1, hz0⟩ := Option.bind_eq_some_iff.mp h
  obtain ⟨w, h2, hz1⟩ := Option.bind_eq_some_iff.mp hz0
  have h3 := vR_some hz1
  subst h3
  exact w_get C M h1 h2 hc hin hk hlink href hdg kk
theorem w_putV (C : hC p s m args c cc nL own Ts D cl tys n0 Z) (M : hM D cl kA n0 s E nx H locs) {ci k N index : Nat} {Cn ref : String} {T : u_T} {v : Value} {ty : FieldType} (ty0 : Nat → FieldType) (h : sF E r ci k v = some E1) (hc : cl[ci]? = some (Cn, T, N)) (hin : ∀ w ∈ u_ws Cn T N, w ∈ Ts) (hty : ∀ k, k < N → parseFieldDescriptor (T k).2.2.1 = some (ty0 k)) (hnm : ∀ a, a < N → ∀ b, b < N → a ≠ b → (T a).2.1 ≠ (T b).2.1) (hk : k < N) (hlink : Cond.fieldLink own index ref (T k).2.1 (T k).2.2.1 ∈ Ts) (href : (T k).1 = ref) (hfin : (T k).2.2.2 = false) (hd : parseFieldDescriptor (T k).2.2.1 = some ty) (hn : narrow ty v = v) (hfit : fits ty v = true) (hdg : decode cc pc = .ok (.putfield index, 3))
    (kk : ∀ (H1 : Heap) (locs1 : List Loc), hM D cl kA n0 s E1 nx H1 locs1 → W p l e R s m args below meth c H1 locs1 cells slots Q (F0 m (pc + 3) ls rest)) : W p l e R s m args below meth c H locs cells slots Q (F0 m pc ls (v :: va_rf r :: rest)) := by
  obtain ⟨⟨a, fs⟩, h1, hz0⟩ := Option.bind_eq_some_iff.mp h
  obtain ⟨rfl, he⟩ := gO_some h1
  dsimp only at hz0 he
  by_cases hl : k < fs.length
  · rw [if_pos hl] at hz0
    cases hz0
    have hap := va_apart (own := own) C.ts hin ty0 hty hnm C.K hc
    obtain ⟨r, h1, cell, q1, q2, q3, q4⟩ := (M.P _ _ he).1
    have hr : r = (Cn, T, N) := Option.some.inj (h1.symm.trans hc)
    subst hr
    obtain ⟨hS, hfc, kC, hkC, hkind⟩ := C.K.1 ci _ hc
    obtain ⟨cf, kf, fi, f, hi, hsl⟩ := hS k hk
    have hlay := C.ts _ (hin _ (u_in_lay hk))
    unfold u_lay at hlay
    rw [if_neg (by rw [hfin]; decide)] at hlay
    have hst := (u_facts hfc hkC (u_lays C.ts hin hk) hi).1
    have h6 := u_store hfc hkC hkind hlay hi hd hn hfit
    refine W.putK C.x C.b (f := f) ⟨C.ow, C.ts _ hlink, ⟨_, _, _, by rw [← href]; exact hi⟩, hst⟩ (by rw [q2]; exact h6) q1 q3 (by rw [hsl]; exact k2_hasslot (q4 k hk)) rfl rfl hdg fun H' e1 e2 e3 => ?_
    rw [hsl] at e1 ⊢
    exact kk H' _ (hM.upd M he ⟨_, hc, t_OB.to (V := updV (vp_V fs) k v) ⟨_, e1, q2, q3, t_set q4 hap hk v⟩ (fun j _ => vp_updV_set hl v j)⟩ e2 e3)
  · rw [if_neg hl] at hz0
    cases hz0
theorem w_putVF (C : hC p s m args c cc nL own Ts D cl tys n0 Z) (M : hM D cl kA n0 s E nx H locs) {ci k N index : Nat} {Cn ref : String} {T : u_T} {v : Value} {ty : FieldType} (ty0 : Nat → FieldType) (h : sF E r ci k v = some E1) (hc : cl[ci]? = some (Cn, T, N)) (hin : ∀ w ∈ u_ws Cn T N, w ∈ Ts) (hty : ∀ k, k < N → parseFieldDescriptor (T k).2.2.1 = some (ty0 k)) (hnm : ∀ a, a < N → ∀ b, b < N → a ≠ b → (T a).2.1 ≠ (T b).2.1) (hk : k < N) (hlink : Cond.fieldLink own index ref (T k).2.1 (T k).2.2.1 ∈ Ts) (href : (T k).1 = ref) (hfin : (T k).2.2.2 = true) (hin2 : meth.name = "<init>") (hdecl : (T k).1 = own) (hd : parseFieldDescriptor (T k).2.2.1 = some ty) (hn : narrow ty v = v) (hfit : fits ty v = true) (hdg : decode cc pc = .ok (.putfield index, 3))
    (kk : ∀ (H1 : Heap) (locs1 : List Loc), hM D cl kA n0 s E1 nx H1 locs1 → W p l e R s m args below meth c H1 locs1 cells slots Q (F0 m (pc + 3) ls rest)) : W p l e R s m args below meth c H locs cells slots Q (F0 m pc ls (v :: va_rf r :: rest)) := by
  obtain ⟨⟨a, fs⟩, h1, hz0⟩ := Option.bind_eq_some_iff.mp h
  obtain ⟨rfl, he⟩ := gO_some h1
  dsimp only at hz0 he
  by_cases hl : k < fs.length
  · rw [if_pos hl] at hz0
    cases hz0
    have hap := va_apart (own := own) C.ts hin ty0 hty hnm C.K hc
    obtain ⟨r, h1, cell, q1, q2, q3, q4⟩ := (M.P _ _ he).1
    have hr : r = (Cn, T, N) := Option.some.inj (h1.symm.trans hc)
    subst hr
    obtain ⟨hS, hfc, kC, hkC, hkind⟩ := C.K.1 ci _ hc
    obtain ⟨cf, kf, fi, f, hi, hsl⟩ := hS k hk
    have hlay := C.ts _ (hin _ (u_in_lay hk))
    unfold u_lay at hlay
    rw [if_pos hfin] at hlay
    have hst := (u_facts hfc hkC (u_lays C.ts hin hk) hi).1
    have hcf : m.cls = cf := by
      obtain ⟨_, _, c', _, _, _, -, -, hf', -, -, -, hown2, -⟩ := Cond.laysFinal_spec hlay
      have e1 : c' = cf := by have := hi.symm.trans hf'; simp at this; exact this.1.symm
      rw [hdecl] at hown2
      rw [← e1]; exact Option.some.inj (C.ow.symm.trans hown2)
    have h6 := u_fits hfc hkC hkind (Or.inr hlay) hi hd hn hfit
    refine W.putFinK C.x C.b C.ow (C.ts _ hlink) (by rw [← href]; exact hi) hst hcf hin2 (by rw [q2]; exact h6) q1 q3 (by rw [hsl]; exact k2_hasslot (q4 k hk)) rfl rfl hdg fun H' e1 e2 e3 => ?_
    rw [hsl] at e1 ⊢
    exact kk H' _ (hM.upd M he ⟨_, hc, t_OB.to (V := updV (vp_V fs) k v) ⟨_, e1, q2, q3, t_set q4 hap hk v⟩ (fun j _ => vp_updV_set hl v j)⟩ e2 e3)
  · rw [if_neg hl] at hz0
    cases hz0
/-! arrays -/
theorem h_in {i : Int32} {n : Nat} (h : ¬ (i < 0 ∨ n ≤ i.toNatClampNeg)) : vp_in i n := h
theorem w_iald (C : hC p s m args c cc nL own Ts D cl tys n0 Z) (M : hM D cl kA n0 s E nx H locs) {t : Nat} {i v : Int32} (h : aI E r t i = some v) (ht : tys[t]? = some (kA t, .int)) (hdg : decode cc pc = .ok (.iaload, 1))
    (kk : W p l e R s m args below meth c H locs cells slots Q (F0 m (pc + 1) ls (.int v :: rest))) : W p l e R s m args below meth c H locs cells slots Q (F0 m pc ls (.int i :: va_rf r :: rest)) := by
  obtain ⟨⟨a, x⟩, h1, hz0⟩ := Option.bind_eq_some_iff.mp h
  obtain ⟨f, h2, hz1⟩ := Option.bind_eq_some_iff.mp hz0
  obtain ⟨rfl, he⟩ := gA_some h1
  have hx := vAi_some h2
  dsimp only at hz1 he hx
  rw [hx] at he
  by_cases hi : i < 0 ∨ x.1 ≤ i.toNatClampNeg
  · rw [if_pos hi] at hz1; cases hz1
  · rw [if_neg hi] at hz1
    cases hz1
    exact va_iald C.x C.b C.K (hp_one M.P he) 0 t rfl ht (h_in hi) hdg kk
theorem w_lald (C : hC p s m args c cc nL own Ts D cl tys n0 Z) (M : hM D cl kA n0 s E nx H locs) {t : Nat} {i : Int32} {v : Int64} (h : aJ E r t i = some v) (ht : tys[t]? = some (kA t, .long)) (hdg : decode cc pc = .ok (.laload, 1))
    (kk : W p l e R s m args below meth c H locs cells slots Q (F0 m (pc + 1) ls (.long v :: rest))) : W p l e R s m args below meth c H locs cells slots Q (F0 m pc ls (.int i :: va_rf r :: rest)) := by
  obtain ⟨⟨a, x⟩, h1, hz0⟩ := Option.bind_eq_some_iff.mp h
  obtain ⟨f, h2, hz1⟩ := Option.bind_eq_some_iff.mp hz0
  obtain ⟨rfl, he⟩ := gA_some h1
  have hx := vAl_some h2
  dsimp only at hz1 he hx
  rw [hx] at he
  by_cases hi : i < 0 ∨ x.1 ≤ i.toNatClampNeg
  · rw [if_pos hi] at hz1; cases hz1
  · rw [if_neg hi] at hz1
    cases hz1
    exact va_lald C.x C.b C.K (hp_one M.P he) 0 t rfl ht (h_in hi) hdg kk
theorem w_zald (C : hC p s m args c cc nL own Ts D cl tys n0 Z) (M : hM D cl kA n0 s E nx H locs) {t : Nat} {i v : Int32} (h : aI E r t i = some v) (ht : tys[t]? = some (kA t, .boolean)) (hdg : decode cc pc = .ok (.baload, 1))
    (kk : W p l e R s m args below meth c H locs cells slots Q (F0 m (pc + 1) ls (.int v :: rest))) : W p l e R s m args below meth c H locs cells slots Q (F0 m pc ls (.int i :: va_rf r :: rest)) := by
  obtain ⟨⟨a, x⟩, h1, hz0⟩ := Option.bind_eq_some_iff.mp h
  obtain ⟨f, h2, hz1⟩ := Option.bind_eq_some_iff.mp hz0
  obtain ⟨rfl, he⟩ := gA_some h1
  have hx := vAi_some h2
  dsimp only at hz1 he hx
  rw [hx] at he
  by_cases hi : i < 0 ∨ x.1 ≤ i.toNatClampNeg
  · rw [if_pos hi] at hz1; cases hz1
  · rw [if_neg hi] at hz1
    cases hz1
    exact va_zald C.x C.b C.K (hp_one M.P he) 0 t rfl ht (h_in hi) hdg kk
theorem w_aald (C : hC p s m args c cc nL own Ts D cl tys n0 Z) (M : hM D cl kA n0 s E nx H locs) {t : Nat} {Cn : String} {i : Int32} {v : Option Nat} (h : aQ E r t i = some v) (ht : tys[t]? = some (kA t, .object Cn)) (hdg : decode cc pc = .ok (.aaload, 1))
    (kk : W p l e R s m args below meth c H locs cells slots Q (F0 m (pc + 1) ls (va_rf v :: rest))) : W p l e R s m args below meth c H locs cells slots Q (F0 m pc ls (.int i :: va_rf r :: rest)) := by
  obtain ⟨⟨a, x⟩, h1, hz0⟩ := Option.bind_eq_some_iff.mp h
  obtain ⟨f, h2, hz1⟩ := Option.bind_eq_some_iff.mp hz0
  obtain ⟨rfl, he⟩ := gA_some h1
  have hx := vAq_some h2
  dsimp only at hz1 he hx
  rw [hx] at he
  by_cases hi : i < 0 ∨ x.1 ≤ i.toNatClampNeg
  · rw [if_pos hi] at hz1; cases hz1
  · rw [if_neg hi] at hz1
    cases hz1
    exact va_aldq C.x C.b C.K (hp_one M.P he) 0 t rfl ht (h_in hi) hdg kk
theorem w_alen (C : hC p s m args c cc nL own Ts D cl tys n0 Z) (M : hM D cl kA n0 s E nx H locs) {t : Nat} {ty : FieldType} {v : Int32} (h : aL E r t = some v) (ht : tys[t]? = some (kA t, ty)) (hdg : decode cc pc = .ok (.arraylength, 1))
    (kk : W p l e R s m args below meth c H locs cells slots Q (F0 m (pc + 1) ls (.int v :: rest))) : W p l e R s m args below meth c H locs cells slots Q (F0 m pc ls (va_rf r :: rest)) := by
  obtain ⟨⟨a, x⟩, h1, h2⟩ := Option.map_eq_some_iff.mp h
  obtain ⟨rfl, he⟩ := gA_some h1
  exact va_alen C.x C.b C.K (hp_one M.P he) 0 t rfl ht h2 hdg kk
theorem w_iast (C : hC p s m args c cc nL own Ts D cl tys n0 Z) (M : hM D cl kA n0 s E nx H locs) {t : Nat} {i v : Int32} (h : tI E r t i v = some E1) (ht : tys[t]? = some (kA t, .int)) (hdg : decode cc pc = .ok (.iastore, 1))
    (kk : ∀ (H1 : Heap) (locs1 : List Loc), hM D cl kA n0 s E1 nx H1 locs1 → W p l e R s m args below meth c H1 locs1 cells slots Q (F0 m (pc + 1) ls rest)) : W p l e R s m args below meth c H locs cells slots Q (F0 m pc ls (.int v :: .int i :: va_rf r :: rest)) := by
  obtain ⟨⟨a, n, g⟩, h1, hz0⟩ := Option.bind_eq_some_iff.mp h
  obtain ⟨f, h2, hz1⟩ := Option.bind_eq_some_iff.mp hz0
  obtain ⟨rfl, he⟩ := gA_some h1
  have hx := vAi_some h2
  dsimp only at hz1 he hx
  rw [hx] at he
  by_cases hi : i < 0 ∨ n ≤ i.toNatClampNeg
  · rw [if_pos hi] at hz1; cases hz1
  · rw [if_neg hi] at hz1
    cases hz1
    refine W.iast C.x C.b (M.P _ _ he).1 ((C.K.2 t _ ht).1 n (fun j => .int (f j))) (fun q => by cases q) (by show ¬ (i < 0 ∨ (arrV _ _ _).slots.size ≤ _); rw [arrV_size]; exact hi) rfl rfl hdg fun H1 e z oq => ?_
    refine kk H1 _ (hM.upd M he ?_ z oq)
    show H1[a]? = some (vp_cell _ _)
    rw [e]
    show some ((vp_cell (kA t) (n, .inl f)).setSlot _ _) = _
    rw [vp_cell_i, vp_cell_i, arrV_store]
    congr 2
    funext q
    by_cases hq : q = i.toNatClampNeg
    · subst hq
      simp [updV, upd]
    · simp [updV, upd, hq]
theorem w_last (C : hC p s m args c cc nL own Ts D cl tys n0 Z) (M : hM D cl kA n0 s E nx H locs) {t : Nat} {i : Int32} {v : Int64} (h : tJ E r t i v = some E1) (ht : tys[t]? = some (kA t, .long)) (hdg : decode cc pc = .ok (.lastore, 1))
    (kk : ∀ (H1 : Heap) (locs1 : List Loc), hM D cl kA n0 s E1 nx H1 locs1 → W p l e R s m args below meth c H1 locs1 cells slots Q (F0 m (pc + 1) ls rest)) : W p l e R s m args below meth c H locs cells slots Q (F0 m pc ls (.long v :: .int i :: va_rf r :: rest)) := by
  obtain ⟨⟨a, n, g⟩, h1, hz0⟩ := Option.bind_eq_some_iff.mp h
  obtain ⟨f, h2, hz1⟩ := Option.bind_eq_some_iff.mp hz0
  obtain ⟨rfl, he⟩ := gA_some h1
  have hx := vAl_some h2
  dsimp only at hz1 he hx
  rw [hx] at he
  by_cases hi : i < 0 ∨ n ≤ i.toNatClampNeg
  · rw [if_pos hi] at hz1; cases hz1
  · rw [if_neg hi] at hz1
    cases hz1
    refine W.last C.x C.b (M.P _ _ he).1 ((C.K.2 t _ ht).1 n (fun j => .long (f j))) (fun q => by cases q) (by show ¬ (i < 0 ∨ (arrV _ _ _).slots.size ≤ _); rw [arrV_size]; exact hi) rfl rfl hdg fun H1 e z oq => ?_
    refine kk H1 _ (hM.upd M he ?_ z oq)
    show H1[a]? = some (vp_cell _ _)
    rw [e]
    show some ((vp_cell (kA t) (n, .inr (.inl f))).setSlot _ _) = _
    rw [vp_cell_l, vp_cell_l, arrV_store]
    congr 2
    funext q
    by_cases hq : q = i.toNatClampNeg
    · subst hq
      simp [updV, vp_updL]
    · simp [updV, vp_updL, hq]
theorem w_zast (C : hC p s m args c cc nL own Ts D cl tys n0 Z) (M : hM D cl kA n0 s E nx H locs) {t : Nat} {i v : Int32} (h : tZ E r t i v = some E1) (ht : tys[t]? = some (kA t, .boolean)) (hdg : decode cc pc = .ok (.bastore, 1))
    (kk : ∀ (H1 : Heap) (locs1 : List Loc), hM D cl kA n0 s E1 nx H1 locs1 → W p l e R s m args below meth c H1 locs1 cells slots Q (F0 m (pc + 1) ls rest)) : W p l e R s m args below meth c H locs cells slots Q (F0 m pc ls (.int v :: .int i :: va_rf r :: rest)) := by
  unfold tZ at h
  by_cases hv : v = 0 ∨ v = 1
  · rw [if_pos hv] at h
    have hvn : narrow .boolean (.int v) = .int v := by rcases hv with rfl | rfl <;> rfl
    obtain ⟨⟨a, n, g⟩, h1, hz0⟩ := Option.bind_eq_some_iff.mp h
    obtain ⟨f, h2, hz1⟩ := Option.bind_eq_some_iff.mp hz0
    obtain ⟨rfl, he⟩ := gA_some h1
    have hx := vAi_some h2
    dsimp only at hz1 he hx
    rw [hx] at he
    by_cases hi : i < 0 ∨ n ≤ i.toNatClampNeg
    · rw [if_pos hi] at hz1; cases hz1
    · rw [if_neg hi] at hz1
      cases hz1
      refine W.zast C.x C.b (M.P _ _ he).1 ((C.K.2 t _ ht).1 n (fun j => .int (f j))) (fun q => by cases q) (by show ¬ (i < 0 ∨ (arrV _ _ _).slots.size ≤ _); rw [arrV_size]; exact hi) rfl rfl hdg fun H1 e z oq => ?_
      refine kk H1 _ (hM.upd M he ?_ z oq)
      show H1[a]? = some (vp_cell _ _)
      rw [e, hvn]
      show some ((vp_cell (kA t) (n, .inl f)).setSlot _ _) = _
      rw [vp_cell_i, vp_cell_i, arrV_store]
      congr 2
      funext q
      by_cases hq : q = i.toNatClampNeg
      · subst hq
        simp [updV, upd]
      · simp [updV, upd, hq]
  · rw [if_neg hv] at h
    cases h
theorem w_aast (C : hC p s m args c cc nL own Ts D cl tys n0 Z) (M : hM D cl kA n0 s E nx H locs) {t ci : Nat} {i : Int32} {q : Option Nat} {rc : vw_C} (h : tQ E r t i q ci = some E1) (hc : cl[ci]? = some rc) (ht : tys[t]? = some (kA t, .object rc.1)) (hdg : decode cc pc = .ok (.aastore, 1))
    (kk : ∀ (H1 : Heap) (locs1 : List Loc), hM D cl kA n0 s E1 nx H1 locs1 → W p l e R s m args below meth c H1 locs1 cells slots Q (F0 m (pc + 1) ls rest)) : W p l e R s m args below meth c H locs cells slots Q (F0 m pc ls (va_rf q :: .int i :: va_rf r :: rest)) := by
  obtain ⟨⟨a, n, g⟩, h1, hz0⟩ := Option.bind_eq_some_iff.mp h
  obtain ⟨f, h2, hz1⟩ := Option.bind_eq_some_iff.mp hz0
  obtain ⟨rfl, he⟩ := gA_some h1
  have hx := vAq_some h2
  dsimp only at hz1 he hx
  rw [hx] at he
  by_cases hi : i < 0 ∨ n ≤ i.toNatClampNeg
  · rw [if_pos hi] at hz1; cases hz1
  · rw [if_neg hi] at hz1
    have hlt : i.toNatClampNeg < n := Nat.not_le.mp fun z => hi (Or.inr z)
    have hi0 : ¬ i < 0 := fun z => hi (Or.inl z)
    have fin : ∀ H1 : Heap, H1[a]? = some ((vp_cell (kA t) (n, .inr (.inr (.inr (.inr f))))).setSlot i.toNatClampNeg (va_rf q)) → va_at D cl (a, h_cv kA (.inl (t, n, .inr (.inr (.inr (.inr (va_up f i.toNatClampNeg q))))))) H1 := by
      intro H1 e
      show H1[a]? = some (vp_cell _ _)
      rw [e]
      rw [vp_cell_q, vp_cell_q, arrV_store]
      congr 2
      funext z
      by_cases hq : z = i.toNatClampNeg
      · subst hq
        simp [updV, va_up]
      · simp [updV, va_up, hq]
    cases q with
    | none =>
      rw [if_pos (Or.inl rfl)] at hz1
      cases hz1
      refine va_WaastN (C := rc.1) C.x C.b (M.P _ _ he).1 ((C.K.2 t _ ht).1 n (fun j => va_rf (f j))) (fun h => by cases h) (by show ¬ (i < 0 ∨ (arrV _ _ _).slots.size ≤ _); rw [arrV_size]; exact hi) rfl rfl hdg fun H1 e z oq => ?_
      exact kk H1 _ (hM.upd M he (fin H1 e) z oq)
    | some v =>
      by_cases hq : (some v : Option Nat) = none ∨ (gO E (some v) ci).isSome = true
      · rw [if_pos hq] at hz1
        cases hz1
        have hs : (gO E (some v) ci).isSome = true := by
          rcases hq with hq | hq
          · cases hq
          · exact hq
        obtain ⟨o, ho⟩ := Option.isSome_iff_exists.mp hs
        obtain ⟨ev, hv⟩ := gO_some ho
        have ev2 : v = o.1 := Option.some.inj ev
        rw [← ev2] at hv
        obtain ⟨r', hr', cellV, g1, g2, g3, -⟩ := (M.P _ _ hv).1
        have hcls := (C.K.1 ci rc hc).2
        obtain ⟨kB, comp, k1, k2, k3, -⟩ := (C.K.2 t _ ht).2
        have hcomp : comp = D.1 ci := Option.some.inj (k3.symm.trans hcls.1)
        subst hcomp
        obtain ⟨kC, hkC, -⟩ := hcls.2
        refine W.aast C.x C.b (M.P _ _ he).1 (fun q h => by cases h) (fun h => by cases h) k1 k2 rfl hkC ⟨hi0, by show _ < (arrV _ _ _).slots.size; rw [arrV_size]; exact hlt⟩ g1 (fun q h => by rw [g3] at h; cases h) (by rw [g2]; exact hkC) (by rw [g2]; exact va_assign hcls) rfl rfl hdg fun H1 e z oq => ?_
        exact kk H1 _ (hM.upd M he (fin H1 e) z oq)
      · rw [if_neg hq] at hz1
        cases hz1
/-! new objects and arrays: they come at the heap's end -/
theorem w_new (C : hC p s m args c cc nL own Ts D cl tys n0 Z) (M : hM D cl kA n0 s E nx H locs) {ci N index : Nat} {Cn : String} {T : u_T} {fs : List Value} (ty0 : Nat → FieldType) (hc : cl[ci]? = some (Cn, T, N)) (hin : ∀ w ∈ u_ws Cn T N, w ∈ Ts) (hty : ∀ k, k < N → parseFieldDescriptor (T k).2.2.1 = some (ty0 k)) (hcl : Cond.classLink own index Cn ∈ Ts) (hinst : Cond.instantiable Cn N ∈ Ts) (hini : Cond.initialized Cn ∈ Ts) (hfs : ∀ j, j < N → defaultValue (ty0 j) = vp_V fs j) (hcells : cells + 1 ≤ R.cells) (hslots : slots + N ≤ R.slots) (hdg : decode cc pc = .ok (.new index, 3))
    (kk : ∀ (H1 : Heap), hM D cl kA n0 s (va_up E nx (some (.inr (ci, fs)))) (nx + 1) H1 locs → W p l e R s m args below meth c H1 locs (cells + 1) (slots + N) Q (F0 m (pc + 3) ls (va_rf (some nx) :: rest))) : W p l e R s m args below meth c H locs cells slots Q (F0 m pc ls rest) := by
  have hKn := C.K.1 ci _ hc
  refine W.newcK C.x C.b C.ow (C.ts _ hcl) (C.ts _ hinst) (C.ts _ hini) rfl hdg hcells hslots hKn.2.1 M.z fun H1 kC hkC e1 z1 o1 => ?_
  obtain ⟨hP, hS, hz⟩ := M
  subst hz
  exact kk H1 ⟨hp_born hP (Nat.le_trans C.n hS.1) ⟨_, hc, (u_born ty0 C.ts hin hKn hkC e1 hty).to hfs⟩ o1, ⟨Nat.le_trans hS.1 (by omega), fun x h1 h2 => (o1 x (Nat.lt_of_lt_of_le h1 hS.1)).trans (hS.2.1 x h1 h2), hS.2.2⟩, z1⟩
theorem w_newa (C : hC p s m args c cc nL own Ts D cl tys n0 Z) (M : hM D cl kA n0 s E nx H locs) {t : Nat} {atype : ArrayType} {ty : FieldType} (harr : Cond.arrayClass (newarray.typeOf atype) ∈ Ts) (hty : newarray.typeOf atype = ty) (ht : tys[t]? = some (kA t, ty)) (hnm : ∀ (U : State) (x : ClassId), va_RA U x ty → U.vm.findClass ("[" ++ ty.toString) = some x) {n : Int32} {N' : Nat} {a0 : vp_A} (ha : ∀ cA : ClassId, vp_cell cA a0 = arrV cA N' (fun _ => defaultValue ty)) (hn : ¬ n < 0) (hN : n.toNatClampNeg = N') (hbytes : N' * componentBytes ty ≤ 536870912) (hcells : cells + 1 ≤ R.cells) (hslots : slots + N' ≤ R.slots) (hdg : decode cc pc = .ok (.newarray atype, 2))
    (kk : ∀ (H1 : Heap), hM D cl kA n0 s (va_up E nx (some (.inl (t, a0)))) (nx + 1) H1 locs → W p l e R s m args below meth c H1 locs (cells + 1) (slots + N') Q (F0 m (pc + 2) ls (va_rf (some nx) :: rest))) : W p l e R s m args below meth c H locs cells slots Q (F0 m pc ls (.int n :: rest)) := by
  subst hty
  refine va_newaK C.x C.b (C.ts _ harr) rfl hdg rfl hn hN hbytes hcells hslots M.z fun H1 cA e1 z1 o1 hAr hNm => ?_
  have h3 : cA = kA t := Option.some.inj (hNm.symm.trans (hnm s _ (C.K.2 t _ ht).2))
  subst h3
  obtain ⟨hP, hS, hz⟩ := M
  subst hz
  refine kk H1 ⟨hp_born hP (Nat.le_trans C.n hS.1) ?_ o1, ⟨Nat.le_trans hS.1 (by omega), fun x h1 h2 => (o1 x (Nat.lt_of_lt_of_le h1 hS.1)).trans (hS.2.1 x h1 h2), hS.2.2⟩, z1⟩
  show H1[H.size]? = some (vp_cell _ _)
  rw [ha]
  exact e1
theorem w_newq (C : hC p s m args c cc nL own Ts D cl tys n0 Z) (M : hM D cl kA n0 s E nx H locs) {t : Nat} {Cn : String} {index : Nat} (hcl : Cond.classLink own index Cn ∈ Ts) (hover : Cond.arrayOver (.object Cn) ∈ Ts) (ht : tys[t]? = some (kA t, .object Cn)) {n : Int32} {N' : Nat} (hn : ¬ n < 0) (hN : n.toNatClampNeg = N') (hbytes : N' * 4 ≤ 536870912) (hcells : cells + 1 ≤ R.cells) (hslots : slots + N' ≤ R.slots) (hdg : decode cc pc = .ok (.anewarray index, 3))
    (kk : ∀ (H1 : Heap), hM D cl kA n0 s (va_up E nx (some (.inl (t, N', .inr (.inr (.inr (.inr (fun _ => none)))))))) (nx + 1) H1 locs → W p l e R s m args below meth c H1 locs (cells + 1) (slots + N') Q (F0 m (pc + 3) ls (va_rf (some nx) :: rest))) : W p l e R s m args below meth c H locs cells slots Q (F0 m pc ls (.int n :: rest)) := by
  subst hN
  refine W.anew C.x C.b C.ow (C.ts _ hcl) (C.ts _ hover) rfl hdg rfl hn hbytes hcells hslots fun cA kB comp f1 f2 f3 f4 => ?_
  generalize hH1 : H.push ({ cls := cA, slots := Array.replicate n.toNatClampNeg .null, vm := .none } : Cell) = H1
  have z1 : H1.size = H.size + 1 := by rw [← hH1, Array.size_push]
  have e1 : H1[H.size]? = some (arrV cA n.toNatClampNeg (fun _ => .null)) := by rw [← hH1, Array.getElem?_push_size, ← arrV_new]
  have o1 : ∀ q : Nat, q < H.size → H1[q]? = H[q]? := fun q hq => by rw [← hH1, Array.getElem?_push, if_neg (Nat.ne_of_lt hq)]
  have h3 : cA = kA t := by
    obtain ⟨_, _, _, _, _, h5⟩ := (C.K.2 t _ ht).2
    exact Option.some.inj (f1.symm.trans h5)
  subst h3
  obtain ⟨hP, hS, hz⟩ := M
  subst hz
  refine kk H1 ⟨hp_born hP (Nat.le_trans C.n hS.1) ?_ o1, ⟨Nat.le_trans hS.1 (by omega), fun x h1 h2 => (o1 x (Nat.lt_of_lt_of_le h1 hS.1)).trans (hS.2.1 x h1 h2), hS.2.2⟩, z1⟩
  show H1[H.size]? = some (vp_cell _ _)
  rw [vp_cell_q]
  exact e1
theorem w_newI (C : hC p s m args c cc nL own Ts D cl tys n0 Z) (M : hM D cl kA n0 s E nx H locs) {t bd : Nat} {n : Int32} {atype : ArrayType} {ty : FieldType} (h : nA E nx t n bd = some E1) (harr : Cond.arrayClass (newarray.typeOf atype) ∈ Ts) (hty : newarray.typeOf atype = ty) (ht : tys[t]? = some (kA t, ty)) (hnm : ∀ (U : State) (x : ClassId), va_RA U x ty → U.vm.findClass ("[" ++ ty.toString) = some x) (ha : ∀ (cA : ClassId) (N' : Nat), vp_cell cA (N', .inl (fun _ => 0)) = arrV cA N' (fun _ => defaultValue ty)) (hbd : bd * componentBytes ty ≤ 536870912) (hcells : cells + 1 ≤ R.cells) (hslots : slots + bd ≤ R.slots) (hdg : decode cc pc = .ok (.newarray atype, 2))
    (kk : ∀ (H1 : Heap), hM D cl kA n0 s E1 (nx + 1) H1 locs → W p l e R s m args below meth c H1 locs (cells + 1) (slots + bd) Q (F0 m (pc + 2) ls (va_rf (some nx) :: rest))) : W p l e R s m args below meth c H locs cells slots Q (F0 m pc ls (.int n :: rest)) := by
  unfold nA at h
  by_cases hn : n < 0 ∨ bd < n.toNatClampNeg
  · rw [if_pos hn] at h; cases h
  · rw [if_neg hn] at h
    cases h
    have h2 : n.toNatClampNeg ≤ bd := Nat.not_lt.mp fun z => hn (Or.inr z)
    refine w_newa C M harr hty ht hnm (ha := fun cA => ha cA n.toNatClampNeg) (fun z => hn (Or.inl z)) rfl (Nat.le_trans (Nat.mul_le_mul_right _ h2) hbd) hcells (Nat.le_trans (Nat.add_le_add_left h2 _) hslots) hdg (fun H1 M1 => ?_)
    exact W.widen (Nat.le_refl _) (Nat.add_le_add_left h2 _) (kk H1 M1)
theorem w_newJ (C : hC p s m args c cc nL own Ts D cl tys n0 Z) (M : hM D cl kA n0 s E nx H locs) {t bd : Nat} {n : Int32} {atype : ArrayType} {ty : FieldType} (h : nJ E nx t n bd = some E1) (harr : Cond.arrayClass (newarray.typeOf atype) ∈ Ts) (hty : newarray.typeOf atype = ty) (ht : tys[t]? = some (kA t, ty)) (hnm : ∀ (U : State) (x : ClassId), va_RA U x ty → U.vm.findClass ("[" ++ ty.toString) = some x) (ha : ∀ (cA : ClassId) (N' : Nat), vp_cell cA (N', .inr (.inl (fun _ => 0))) = arrV cA N' (fun _ => defaultValue ty)) (hbd : bd * componentBytes ty ≤ 536870912) (hcells : cells + 1 ≤ R.cells) (hslots : slots + bd ≤ R.slots) (hdg : decode cc pc = .ok (.newarray atype, 2))
    (kk : ∀ (H1 : Heap), hM D cl kA n0 s E1 (nx + 1) H1 locs → W p l e R s m args below meth c H1 locs (cells + 1) (slots + bd) Q (F0 m (pc + 2) ls (va_rf (some nx) :: rest))) : W p l e R s m args below meth c H locs cells slots Q (F0 m pc ls (.int n :: rest)) := by
  unfold nJ at h
  by_cases hn : n < 0 ∨ bd < n.toNatClampNeg
  · rw [if_pos hn] at h; cases h
  · rw [if_neg hn] at h
    cases h
    have h2 : n.toNatClampNeg ≤ bd := Nat.not_lt.mp fun z => hn (Or.inr z)
    refine w_newa C M harr hty ht hnm (ha := fun cA => ha cA n.toNatClampNeg) (fun z => hn (Or.inl z)) rfl (Nat.le_trans (Nat.mul_le_mul_right _ h2) hbd) hcells (Nat.le_trans (Nat.add_le_add_left h2 _) hslots) hdg (fun H1 M1 => ?_)
    exact W.widen (Nat.le_refl _) (Nat.add_le_add_left h2 _) (kk H1 M1)
theorem w_newO (C : hC p s m args c cc nL own Ts D cl tys n0 Z) (M : hM D cl kA n0 s E nx H locs) {t bd index : Nat} {n : Int32} {Cn : String} (h : nQ E nx t n bd = some E1) (hcl : Cond.classLink own index Cn ∈ Ts) (hover : Cond.arrayOver (.object Cn) ∈ Ts) (ht : tys[t]? = some (kA t, .object Cn)) (hbd : bd * 4 ≤ 536870912) (hcells : cells + 1 ≤ R.cells) (hslots : slots + bd ≤ R.slots) (hdg : decode cc pc = .ok (.anewarray index, 3))
    (kk : ∀ (H1 : Heap), hM D cl kA n0 s E1 (nx + 1) H1 locs → W p l e R s m args below meth c H1 locs (cells + 1) (slots + bd) Q (F0 m (pc + 3) ls (va_rf (some nx) :: rest))) : W p l e R s m args below meth c H locs cells slots Q (F0 m pc ls (.int n :: rest)) := by
  unfold nQ at h
  by_cases hn : n < 0 ∨ bd < n.toNatClampNeg
  · rw [if_pos hn] at h; cases h
  · rw [if_neg hn] at h
    cases h
    have h2 : n.toNatClampNeg ≤ bd := Nat.not_lt.mp fun z => hn (Or.inr z)
    refine w_newq C M hcl hover ht (fun z => hn (Or.inl z)) rfl (Nat.le_trans (Nat.mul_le_mul_right _ h2) hbd) hcells (Nat.le_trans (Nat.add_le_add_left h2 _) hslots) hdg (fun H1 M1 => ?_)
    exact W.widen (Nat.le_refl _) (Nat.add_le_add_left h2 _) (kk H1 M1)
/-! calls: the run, then the answer -/
variable {y : MethodName} {bytes : ByteArray} {maxL mc ms n index : Nat} {ret : Option FieldType} {ws : List Cond} {rm : Room} {Qc : Array Value → State → Outcome → State → Prop} {free : Addr → Prop} {b : Addr} {As st0 : List Value} {Cn : String}
theorem w_recv (C : hC p s m args c cc nL own Ts D cl tys n0 Z) (M : hM D cl kA n0 s E nx H locs) {ci : Nat} {rc : vw_C} {fs : List Value} (he : E b = some (.inr (ci, fs))) (hc : cl[ci]? = some rc) : ∃ cell : Cell, H[b]? = some cell ∧ cell.vm.isStatics = false ∧ s.vm.findClass rc.1 = some cell.cls := va_recv C.K (hp_one M.P he) hc (q0 := 0) rfl
theorem w_runV (C : hC p s m args c cc nL own Ts D cl tys n0 Z) (M : hM D cl kA n0 s E nx H locs) {ci : Nat} {rc : vw_C} {o : Nat × List Value} (h : gO E r ci = some o) (hc : cl[ci]? = some rc) (hMt : Met l y ws rm (va_Pc (va_rf (some o.1) :: As) (hI D cl kA tys n0 Z (E, nx))) Qc mc ms free) (cw : CallW R s args own rc.1 index y bytes maxL ret ws rm mc ms n)
    (hn : As.length = n) (hsize : ls.size = nL) (hstack : st0 = As.reverse ++ va_rf r :: rest) (hW : (rest.map fun v => v.category).sum ≤ 8) (hdg : decode cc pc = .ok (.invokevirtual index, 3)) (hf : cells + mc ≤ R.cells ∧ slots + ms ≤ R.slots) :
    va_Run p l e R s m args below meth c H locs cells slots mc ms (F0 m pc ls st0) rest (Qc (va_rf (some o.1) :: As).toArray) free := by
  obtain ⟨rfl, he⟩ := gO_some h
  exact va_runV C.fix hMt cw ⟨hI.blind C.zk _, w_recv C M he hc, fun U hU hA => ⟨rfl, hM.I C M U hU hA.alike⟩⟩ rfl hn hsize hstack (lv_room hW) hdg hf
theorem w_runS (C : hC p s m args c cc nL own Ts D cl tys n0 Z) (M : hM D cl kA n0 s E nx H locs) (hMt : Met l y ws rm (va_Pc As (hI D cl kA tys n0 Z (E, nx))) Qc mc ms free) (cw : CallB R s args own index y bytes maxL ret ws rm mc ms n ∧ (Cond.static y).before args s = true)
    (hn : As.length = n) (hsize : ls.size = nL) (hstack : st0 = As.reverse ++ rest) (hW : (rest.map fun v => v.category).sum ≤ 8) (hdg : decode cc pc = .ok (.invokestatic index, 3)) (hf : cells + mc ≤ R.cells ∧ slots + ms ≤ R.slots) :
    va_Run p l e R s m args below meth c H locs cells slots mc ms (F0 m pc ls st0) rest (Qc As.toArray) free :=
  va_runS C.fix hMt cw ⟨hI.blind C.zk _, fun U hU hA => ⟨rfl, hM.I C M U hU hA.alike⟩⟩ rfl hn hsize hstack (lv_room hW) hdg hf
theorem w_runI (C : hC p s m args c cc nL own Ts D cl tys n0 Z) (M : hM D cl kA n0 s E nx H locs) (hMt : Met l y ws rm (va_Pc (va_rf (some b) :: As) (hI D cl kA tys n0 Z (E, nx))) Qc mc ms free) (cw : CallB R s args own index y bytes maxL none ws rm mc ms n ∧ y.name = "<init>" ∧ (Cond.instanceMethod y).before args s = true)
    (hn : As.length = n) (hsize : ls.size = nL) (hstack : st0 = As.reverse ++ va_rf (some b) :: rest) (hW : (rest.map fun v => v.category).sum ≤ 8) (hdg : decode cc pc = .ok (.invokespecial index, 3)) (hf : cells + mc ≤ R.cells ∧ slots + ms ≤ R.slots) :
    va_Run p l e R s m args below meth c H locs cells slots mc ms (F0 m pc ls st0) rest (Qc (va_rf (some b) :: As).toArray) free :=
  va_runI C.fix hMt cw ⟨hI.blind C.zk _, fun U hU hA => ⟨rfl, hM.I C M U hU hA.alike⟩⟩ rfl hn hsize hstack (lv_room hW) hdg hf
theorem w_runIN {host : String} (C : hC p s m args c cc nL own Ts D cl tys n0 Z) (M : hM D cl kA n0 s E nx H locs) (hMt : Met l y ws rm (va_Pc (va_rf (some b) :: As) (hI D cl kA tys n0 Z (E, nx))) Qc mc ms free) (cw : va_CN R s args own index y host bytes maxL none ws rm mc ms n ∧ y.name = "<init>" ∧ (Cond.instanceMethod y).before args s = true)
    (hn : As.length = n) (hsize : ls.size = nL) (hstack : st0 = As.reverse ++ va_rf (some b) :: rest) (hW : (rest.map fun v => v.category).sum ≤ 8) (hdg : decode cc pc = .ok (.invokespecial index, 3)) (hf : cells + mc ≤ R.cells ∧ slots + ms ≤ R.slots) :
    va_Run p l e R s m args below meth c H locs cells slots mc ms (F0 m pc ls st0) rest (Qc (va_rf (some b) :: As).toArray) free :=
  va_runIN C.fix hMt cw ⟨hI.blind C.zk _, fun U hU hA => ⟨rfl, hM.I C M U hU hA.alike⟩⟩ rfl hn hsize hstack (lv_room hW) hdg hf
variable {aa : Array Value}
theorem w_ci {v : Int32} {E2 : hE} {nx2 : Nat} (M : hM D cl kA n0 s E nx H locs) (hr : va_Run p l e R s m args below meth c H locs cells slots mc ms (F0 m pc ls st0) rest (va_Qi (fun r w => r = v ∧ w = (E2, nx2)) (hI D cl kA tys n0 Z) (fun q => n0 ≤ q) aa) (fun q => n0 ≤ q))
    (kk : ∀ (H1 : Heap) (locs1 : List Loc), hM D cl kA n0 s E2 nx2 H1 locs1 → W p l e R s m args below meth c H1 locs1 (cells + mc) (slots + ms) Q (F0 m (pc + 3) ls (.int v :: rest))) : W p l e R s m args below meth c H locs cells slots Q (F0 m pc ls st0) :=
  va_calli hr M.S (fun _ _ h => h) (fun _ h => h) (fun r w t H1 locs1 ht _ hw hB _ _ hS => by
    obtain ⟨rfl, rfl⟩ := hw
    exact kk H1 locs1 ⟨by rw [← ht]; exact hB.1, hS, by rw [← ht]; exact hB.2.2.2.1⟩)
theorem w_cl {v : Int64} {E2 : hE} {nx2 : Nat} (M : hM D cl kA n0 s E nx H locs) (hr : va_Run p l e R s m args below meth c H locs cells slots mc ms (F0 m pc ls st0) rest (va_Ql (fun r w => r = v ∧ w = (E2, nx2)) (hI D cl kA tys n0 Z) (fun q => n0 ≤ q) aa) (fun q => n0 ≤ q))
    (kk : ∀ (H1 : Heap) (locs1 : List Loc), hM D cl kA n0 s E2 nx2 H1 locs1 → W p l e R s m args below meth c H1 locs1 (cells + mc) (slots + ms) Q (F0 m (pc + 3) ls (.long v :: rest))) : W p l e R s m args below meth c H locs cells slots Q (F0 m pc ls st0) :=
  va_calll hr M.S (fun _ _ h => h) (fun _ h => h) (fun r w t H1 locs1 ht _ hw hB _ _ hS => by
    obtain ⟨rfl, rfl⟩ := hw
    exact kk H1 locs1 ⟨by rw [← ht]; exact hB.1, hS, by rw [← ht]; exact hB.2.2.2.1⟩)
theorem w_cv {E2 : hE} {nx2 : Nat} (M : hM D cl kA n0 s E nx H locs) (hr : va_Run p l e R s m args below meth c H locs cells slots mc ms (F0 m pc ls st0) rest (va_Qv (fun w => w = (E2, nx2)) (hI D cl kA tys n0 Z) (fun q => n0 ≤ q) aa) (fun q => n0 ≤ q))
    (kk : ∀ (H1 : Heap) (locs1 : List Loc), hM D cl kA n0 s E2 nx2 H1 locs1 → W p l e R s m args below meth c H1 locs1 (cells + mc) (slots + ms) Q (F0 m (pc + 3) ls rest)) : W p l e R s m args below meth c H locs cells slots Q (F0 m pc ls st0) :=
  va_callv hr M.S (fun _ _ h => h) (fun _ h => h) (fun w t H1 locs1 ht _ hw hB _ _ hS => by
    subst hw
    exact kk H1 locs1 ⟨by rw [← ht]; exact hB.1, hS, by rw [← ht]; exact hB.2.2.2.1⟩)
theorem w_cq {v : Option Nat} {E2 : hE} {nx2 : Nat} (M : hM D cl kA n0 s E nx H locs) (hr : va_Run p l e R s m args below meth c H locs cells slots mc ms (F0 m pc ls st0) rest (va_Qq (fun r w => r = v ∧ w = (E2, nx2)) (hI D cl kA tys n0 Z) (fun q => n0 ≤ q) aa) (fun q => n0 ≤ q))
    (kk : ∀ (H1 : Heap) (locs1 : List Loc), hM D cl kA n0 s E2 nx2 H1 locs1 → W p l e R s m args below meth c H1 locs1 (cells + mc) (slots + ms) Q (F0 m (pc + 3) ls (va_rf v :: rest))) : W p l e R s m args below meth c H locs cells slots Q (F0 m pc ls st0) :=
  va_callq hr M.S (fun _ _ h => h) (fun _ h => h) (fun r w t H1 locs1 ht _ hw hB _ _ hS => by
    obtain ⟨rfl, rfl⟩ := hw
    exact kk H1 locs1 ⟨by rw [← ht]; exact hB.1, hS, by rw [← ht]; exact hB.2.2.2.1⟩)
/-! ends -/
theorem w_iret {v v' : Int32} {u : hE × Nat} (C : hC p s m args c cc nL own Ts D cl tys n0 Z) (M : hM D cl kA n0 s E nx H locs) {ty : FieldType} (hr : meth.sig.returnType = some ty) (hlocks : meth.locks = false) (hn : narrow ty (.int v) = .int v) (hc : cells ≤ mc) (hs : slots ≤ ms) (hdg : decode cc pc = .ok (.ireturn, 1)) (hv : v = v') (hu : (E, nx) = u) :
    W p l e R s m args below meth c H locs cells slots (MQ below (va_Qi (fun r w => r = v' ∧ w = u) (hI D cl kA tys n0 Z) (fun q => n0 ≤ q)) args s mc ms (fun q => n0 ≤ q)) (F0 m pc ls [.int v]) :=
  W.widen hc hs (W.zret C.x C.b hr hn (fun t ht hW => ⟨⟨v, (E, nx), rfl, ⟨hv, hu⟩, hM.I C M t ht hW.alike⟩, M.S.F ht⟩) M.S.2.2 hdg hlocks)
theorem w_lret {v v' : Int64} {u : hE × Nat} (C : hC p s m args c cc nL own Ts D cl tys n0 Z) (M : hM D cl kA n0 s E nx H locs) (hr : meth.sig.returnType = some .long) (hlocks : meth.locks = false) (hc : cells ≤ mc) (hs : slots ≤ ms) (hdg : decode cc pc = .ok (.lreturn, 1)) (hv : v = v') (hu : (E, nx) = u) :
    W p l e R s m args below meth c H locs cells slots (MQ below (va_Ql (fun r w => r = v' ∧ w = u) (hI D cl kA tys n0 Z) (fun q => n0 ≤ q)) args s mc ms (fun q => n0 ≤ q)) (F0 m pc ls [.long v]) :=
  W.widen hc hs (W.lret C.x C.b hr (fun t ht hW => ⟨⟨v, (E, nx), rfl, ⟨hv, hu⟩, hM.I C M t ht hW.alike⟩, M.S.F ht⟩) M.S.2.2 hdg hlocks)
theorem w_vret {u : hE × Nat} (C : hC p s m args c cc nL own Ts D cl tys n0 Z) (M : hM D cl kA n0 s E nx H locs) (hr : meth.sig.returnType = none) (hlocks : meth.locks = false) (hc : cells ≤ mc) (hs : slots ≤ ms) (hdg : decode cc pc = .ok (.return_, 1)) (hu : (E, nx) = u) :
    W p l e R s m args below meth c H locs cells slots (MQ below (va_Qv (fun w => w = u) (hI D cl kA tys n0 Z) (fun q => n0 ≤ q)) args s mc ms (fun q => n0 ≤ q)) (F0 m pc ls []) :=
  W.widen hc hs (W.vret C.x C.b hr (fun t ht hW => ⟨⟨(E, nx), rfl, hu, hM.I C M t ht hW.alike⟩, M.S.F ht⟩) M.S.2.2 hdg hlocks)
theorem w_aret {v v' : Option Nat} {u : hE × Nat} (C : hC p s m args c cc nL own Ts D cl tys n0 Z) (M : hM D cl kA n0 s E nx H locs) {rt : FieldType} (hr : meth.sig.returnType = some rt) (hrt : (∃ n, rt = .object n) ∨ ∃ t, rt = .array t) (hlocks : meth.locks = false) (hc : cells ≤ mc) (hs : slots ≤ ms) (hdg : decode cc pc = .ok (.areturn, 1)) (hv : v = v') (hu : (E, nx) = u) :
    W p l e R s m args below meth c H locs cells slots (MQ below (va_Qq (fun r w => r = v' ∧ w = u) (hI D cl kA tys n0 Z) (fun q => n0 ≤ q)) args s mc ms (fun q => n0 ≤ q)) (F0 m pc ls [va_rf v]) :=
  W.widen hc hs (W.aret C.x C.b hr hrt (va_rf_or v) (fun t ht hW => ⟨⟨v, (E, nx), rfl, ⟨hv, hu⟩, hM.I C M t ht hW.alike⟩, M.S.F ht⟩) M.S.2.2 hdg hlocks)
/-! references in locals and on the stack, null or not -/
theorem w_aload_n {k : Fin 4} {i : Nat} (hx : p.tables.exec = Jvm.exec) (hb : c.code = cc) (hdg : decode cc pc = .ok (.aload_n k, 1)) (hi : (k : Nat) = i) (hl : ls[i]? = some (.val (va_rf r)))
    (kk : W p l e R s m args below meth c H locs cells slots Q (F0 m (pc + 1) ls (va_rf r :: rest))) : W p l e R s m args below meth c H locs cells slots Q (F0 m pc ls rest) := by
  cases r with
  | none => exact lv_aload_nN hx hb hdg hi hl kk
  | some a => exact lv_aload_n hx hb hdg hi hl kk
theorem w_aload {i : Nat} (hx : p.tables.exec = Jvm.exec) (hb : c.code = cc) (hdg : decode cc pc = .ok (.aload i, 2)) (hl : ls[i]? = some (.val (va_rf r)))
    (kk : W p l e R s m args below meth c H locs cells slots Q (F0 m (pc + 2) ls (va_rf r :: rest))) : W p l e R s m args below meth c H locs cells slots Q (F0 m pc ls rest) := by
  cases r with
  | none => exact lv_aloadN hx hb hdg hl kk
  | some a => exact lv_aload hx hb hdg hl kk
theorem w_astore_n {k : Fin 4} {i : Nat} {lv lv' : List (Nat × Value)} (hx : p.tables.exec = Jvm.exec) (hb : c.code = cc) (hdg : decode cc pc = .ok (.astore_n k, 1)) (hi : (k : Nat) = i) (h : lv_has ls nL lv) (hn : i < nL) (hl : (i, va_rf r) :: lv.filter (fun q => !(q.1 == i) && !(q.1 + 1 == i && q.2.category == 2)) = lv')
    (kk : ∀ ls' : Array Slot, lv_has ls' nL lv' → W p l e R s m args below meth c H locs cells slots Q (F0 m (pc + 1) ls' rest)) : W p l e R s m args below meth c H locs cells slots Q (F0 m pc ls (va_rf r :: rest)) := by
  cases r with
  | none => exact lv_astore_nN hx hb hdg hi h hn hl kk
  | some a => exact lv_astore_n hx hb hdg hi h hn hl kk
theorem w_astore {i : Nat} {lv lv' : List (Nat × Value)} (hx : p.tables.exec = Jvm.exec) (hb : c.code = cc) (hdg : decode cc pc = .ok (.astore i, 2)) (h : lv_has ls nL lv) (hn : i < nL) (hl : (i, va_rf r) :: lv.filter (fun q => !(q.1 == i) && !(q.1 + 1 == i && q.2.category == 2)) = lv')
    (kk : ∀ ls' : Array Slot, lv_has ls' nL lv' → W p l e R s m args below meth c H locs cells slots Q (F0 m (pc + 2) ls' rest)) : W p l e R s m args below meth c H locs cells slots Q (F0 m pc ls (va_rf r :: rest)) := by
  cases r with
  | none => exact lv_astoreN hx hb hdg h hn hl kk
  | some a => exact lv_astore hx hb hdg h hn hl kk
theorem w_ifnull {off : Int} {tgt : Nat} (hx : p.tables.exec = Jvm.exec) (hb : c.code = cc) (hdg : decode cc pc = .ok (.ifnull off, 3)) (ht : (pc : Int) + off = (tgt : Int)) (kt : r = none → W p l e R s m args below meth c H locs cells slots Q (F0 m tgt ls rest)) (kf : ¬ r = none → W p l e R s m args below meth c H locs cells slots Q (F0 m (pc + 3) ls rest)) : W p l e R s m args below meth c H locs cells slots Q (F0 m pc ls (va_rf r :: rest)) := by
  cases r with
  | none => exact lv_ifnullN hx hb hdg ht (kt rfl)
  | some a => exact lv_ifnull hx hb hdg (kf (fun h => by cases h))
theorem w_ifnonnull {off : Int} {tgt : Nat} (hx : p.tables.exec = Jvm.exec) (hb : c.code = cc) (hdg : decode cc pc = .ok (.ifnonnull off, 3)) (ht : (pc : Int) + off = (tgt : Int)) (kt : ¬ r = none → W p l e R s m args below meth c H locs cells slots Q (F0 m tgt ls rest)) (kf : r = none → W p l e R s m args below meth c H locs cells slots Q (F0 m (pc + 3) ls rest)) : W p l e R s m args below meth c H locs cells slots Q (F0 m pc ls (va_rf r :: rest)) := by
  cases r with
  | none => exact lv_ifnonnullN hx hb hdg (kf rfl)
  | some a => exact lv_ifnonnull hx hb hdg ht (kt (fun h => by cases h))
theorem narrow_o (n : String) (q : Option Nat) : narrow (.object n) (va_rf q) = va_rf q := by cases q <;> rfl
theorem narrow_a (t : FieldType) (q : Option Nat) : narrow (.array t) (va_rf q) = va_rf q := by cases q <;> rfl
theorem fits_o (n : String) (q : Option Nat) : fits (.object n) (va_rf q) = true := by cases q <;> rfl
theorem fits_a (t : FieldType) (q : Option Nat) : fits (.array t) (va_rf q) = true := by cases q <;> rfl
theorem sZ_some {k ci : Nat} {x : Int32} (h : sZ E r ci k x = some E1) : (x = 0 ∨ x = 1) ∧ sF E r ci k (.int x) = some E1 := by
  unfold sZ at h
  by_cases hv : x = 0 ∨ x = 1
  · rw [if_pos hv] at h
    exact ⟨hv, h⟩
  · rw [if_neg hv] at h
    cases h
theorem narrow_z {x : Int32} (h : x = 0 ∨ x = 1) : narrow .boolean (.int x) = .int x := by rcases h with rfl | rfl <;> rfl
theorem fits_z {x : Int32} (h : x = 0 ∨ x = 1) : fits .boolean (.int x) = true := by rcases h with rfl | rfl <;> rfl
theorem va_rf_cat (r : Option Nat) : (va_rf r).category = 1 := by cases r <;> rfl
theorem cat_i (x : Int32) : (Value.int x).category = 1 := rfl
theorem cat_l (x : Int64) : (Value.long x).category = 2 := rfl
theorem cat_n : Value.null.category = 1 := rfl
end HCB
end
section
/-! names, by wip/whole/gen.py -/
def lw_g : List Cond := lw_tbl.filter goodWord
def R_S : String := "StepPrograms"
def R_Frame : String := "StepPrograms$Frame"
def R_Mach : String := "StepPrograms$Machine"
def R_Row : String := "StepPrograms$Row"
def R_Script : String := "StepPrograms$Script"
def R_Stat : String := "StepPrograms$Statement"
def R_Tape : String := "StepPrograms$Tape"
def R_M : String := "StepProgramsModel"
def R_Char : String := "java/lang/Character"
def R_Math : String := "java/lang/Math"
def R_Obj : String := "java/lang/Object"
def R_Str : String := "java/lang/String"
def R_SL1 : String := "java/lang/StringLatin1"
def R_U16 : String := "java/lang/StringUTF16"
def R_ABC : String := "java/util/AbstractCollection"
def R_ABL : String := "java/util/AbstractList"
def R_AL : String := "java/util/ArrayList"
def R_Arrs : String := "java/util/Arrays"
def R_Objs : String := "java/util/Objects"
def R_AS : String := "jdk/internal/util/ArraysSupport"
def R_Pre : String := "jdk/internal/util/Preconditions"
def T_Row : u_T := fun k => match k with
  | 0 => ("StepPrograms$Row", "bytes", "[I", true)
  | 1 => ("StepPrograms$Row", "count", "I", false)
  | _ => ("StepPrograms$Row", "there", "Z", false)
def ty_Row : Nat → FieldType := fun k => match k with
  | 0 => (.array .int)
  | 1 => .int
  | _ => .boolean
theorem nm_Row : ∀ a, a < 3 → ∀ b, b < 3 → a ≠ b → (T_Row a).2.1 ≠ (T_Row b).2.1 := by decide +kernel
theorem tyok_Row : ∀ k, k < 3 → parseFieldDescriptor (T_Row k).2.2.1 = some (ty_Row k) := by decide +kernel
theorem in_Row : ∀ w ∈ u_ws R_Row T_Row 3, w ∈ lw_g := by decide +kernel
def T_Frame : u_T := fun k => match k with
  | 0 => ("StepPrograms$Frame", "depth", "I", true)
  | 1 => ("StepPrograms$Frame", "registers", "[I", true)
  | 2 => ("StepPrograms$Frame", "cells", "[I", true)
  | 3 => ("StepPrograms$Frame", "calls", "[I", true)
  | 4 => ("StepPrograms$Frame", "open", "I", false)
  | 5 => ("StepPrograms$Frame", "next", "I", false)
  | _ => ("StepPrograms$Frame", "line", "I", false)
def ty_Frame : Nat → FieldType := fun k => match k with
  | 0 => .int
  | 1 => (.array .int)
  | 2 => (.array .int)
  | 3 => (.array .int)
  | 4 => .int
  | 5 => .int
  | _ => .int
theorem nm_Frame : ∀ a, a < 7 → ∀ b, b < 7 → a ≠ b → (T_Frame a).2.1 ≠ (T_Frame b).2.1 := by decide +kernel
theorem tyok_Frame : ∀ k, k < 7 → parseFieldDescriptor (T_Frame k).2.2.1 = some (ty_Frame k) := by decide +kernel
theorem in_Frame : ∀ w ∈ u_ws R_Frame T_Frame 7, w ∈ lw_g := by decide +kernel
def T_Mach : u_T := fun k => match k with
  | 0 => ("StepPrograms$Machine", "scripts", "[LStepPrograms$Script;", true)
  | 1 => ("StepPrograms$Machine", "planted", "[Z", true)
  | 2 => ("StepPrograms$Machine", "out", "LStepPrograms$Row;", true)
  | 3 => ("StepPrograms$Machine", "err", "LStepPrograms$Row;", true)
  | 4 => ("StepPrograms$Machine", "first", "LStepPrograms$Frame;", true)
  | 5 => ("StepPrograms$Machine", "files", "[LStepPrograms$Row;", true)
  | 6 => ("StepPrograms$Machine", "children", "[LStepPrograms$Frame;", true)
  | 7 => ("StepPrograms$Machine", "hasRun", "Z", false)
  | 8 => ("StepPrograms$Machine", "steps", "I", false)
  | 9 => ("StepPrograms$Machine", "deepest", "I", false)
  | 10 => ("StepPrograms$Machine", "begun", "I", false)
  | 11 => ("StepPrograms$Machine", "bound", "I", false)
  | _ => ("StepPrograms$Machine", "beyondBound", "Z", false)
def ty_Mach : Nat → FieldType := fun k => match k with
  | 0 => (.array (.object "StepPrograms$Script"))
  | 1 => (.array .boolean)
  | 2 => (.object "StepPrograms$Row")
  | 3 => (.object "StepPrograms$Row")
  | 4 => (.object "StepPrograms$Frame")
  | 5 => (.array (.object "StepPrograms$Row"))
  | 6 => (.array (.object "StepPrograms$Frame"))
  | 7 => .boolean
  | 8 => .int
  | 9 => .int
  | 10 => .int
  | 11 => .int
  | _ => .boolean
theorem nm_Mach : ∀ a, a < 13 → ∀ b, b < 13 → a ≠ b → (T_Mach a).2.1 ≠ (T_Mach b).2.1 := by decide +kernel
theorem tyok_Mach : ∀ k, k < 13 → parseFieldDescriptor (T_Mach k).2.2.1 = some (ty_Mach k) := by decide +kernel
theorem in_Mach : ∀ w ∈ u_ws R_Mach T_Mach 13, w ∈ lw_g := by decide +kernel
def T_Script : u_T := fun k => match k with
  | 0 => ("StepPrograms$Script", "statements", "Ljava/util/ArrayList;", true)
  | 1 => ("StepPrograms$Script", "places", "[I", true)
  | _ => ("StepPrograms$Script", "lines", "I", false)
def ty_Script : Nat → FieldType := fun k => match k with
  | 0 => (.object "java/util/ArrayList")
  | 1 => (.array .int)
  | _ => .int
theorem nm_Script : ∀ a, a < 3 → ∀ b, b < 3 → a ≠ b → (T_Script a).2.1 ≠ (T_Script b).2.1 := by decide +kernel
theorem tyok_Script : ∀ k, k < 3 → parseFieldDescriptor (T_Script k).2.2.1 = some (ty_Script k) := by decide +kernel
theorem in_Script : ∀ w ∈ u_ws R_Script T_Script 3, w ∈ lw_g := by decide +kernel
def T_Stat : u_T := fun k => match k with
  | 0 => ("StepPrograms$Statement", "line", "I", true)
  | 1 => ("StepPrograms$Statement", "form", "LStepPrograms$Form;", true)
  | 2 => ("StepPrograms$Statement", "into", "I", true)
  | 3 => ("StepPrograms$Statement", "left", "I", true)
  | 4 => ("StepPrograms$Statement", "sign", "I", true)
  | 5 => ("StepPrograms$Statement", "right", "I", true)
  | _ => ("StepPrograms$Statement", "label", "I", true)
def ty_Stat : Nat → FieldType := fun k => match k with
  | 0 => .int
  | 1 => (.object "StepPrograms$Form")
  | 2 => .int
  | 3 => .int
  | 4 => .int
  | 5 => .int
  | _ => .int
theorem nm_Stat : ∀ a, a < 7 → ∀ b, b < 7 → a ≠ b → (T_Stat a).2.1 ≠ (T_Stat b).2.1 := by decide +kernel
theorem tyok_Stat : ∀ k, k < 7 → parseFieldDescriptor (T_Stat k).2.2.1 = some (ty_Stat k) := by decide +kernel
theorem in_Stat : ∀ w ∈ u_ws R_Stat T_Stat 7, w ∈ lw_g := by decide +kernel
def T_Tape : u_T := fun k => match k with
  | 0 => ("StepPrograms$Tape", "row", "LStepPrograms$Row;", true)
  | 1 => ("StepPrograms$Tape", "from", "[I", true)
  | 2 => ("StepPrograms$Tape", "to", "[I", true)
  | 3 => ("StepPrograms$Tape", "words", "I", false)
  | 4 => ("StepPrograms$Tape", "into", "I", false)
  | 5 => ("StepPrograms$Tape", "left", "I", false)
  | 6 => ("StepPrograms$Tape", "sign", "I", false)
  | 7 => ("StepPrograms$Tape", "right", "I", false)
  | _ => ("StepPrograms$Tape", "label", "I", false)
def ty_Tape : Nat → FieldType := fun k => match k with
  | 0 => (.object "StepPrograms$Row")
  | 1 => (.array .int)
  | 2 => (.array .int)
  | 3 => .int
  | 4 => .int
  | 5 => .int
  | 6 => .int
  | 7 => .int
  | _ => .int
theorem nm_Tape : ∀ a, a < 9 → ∀ b, b < 9 → a ≠ b → (T_Tape a).2.1 ≠ (T_Tape b).2.1 := by decide +kernel
theorem tyok_Tape : ∀ k, k < 9 → parseFieldDescriptor (T_Tape k).2.2.1 = some (ty_Tape k) := by decide +kernel
theorem in_Tape : ∀ w ∈ u_ws R_Tape T_Tape 9, w ∈ lw_g := by decide +kernel
def T_S : u_T := fun k => match k with
  | 0 => ("StepPrograms", "tape", "LStepPrograms$Tape;", true)
  | _ => ("StepPrograms", "machine", "LStepPrograms$Machine;", true)
def ty_S : Nat → FieldType := fun k => match k with
  | 0 => (.object "StepPrograms$Tape")
  | _ => (.object "StepPrograms$Machine")
theorem nm_S : ∀ a, a < 2 → ∀ b, b < 2 → a ≠ b → (T_S a).2.1 ≠ (T_S b).2.1 := by decide +kernel
theorem tyok_S : ∀ k, k < 2 → parseFieldDescriptor (T_S k).2.2.1 = some (ty_S k) := by decide +kernel
theorem in_S : ∀ w ∈ u_ws R_S T_S 2, w ∈ lw_g := by decide +kernel
def T_M : u_T := fun k => match k with
  | 0 => ("StepProgramsModel", "taped", "I", false)
  | 1 => ("StepProgramsModel", "tape", "[I", true)
  | 2 => ("StepProgramsModel", "text", "[I", true)
  | 3 => ("StepProgramsModel", "lineFrom", "[I", true)
  | 4 => ("StepProgramsModel", "lineTo", "[I", true)
  | 5 => ("StepProgramsModel", "lines", "[I", true)
  | 6 => ("StepProgramsModel", "isThere", "[Z", true)
  | 7 => ("StepProgramsModel", "labelAt", "[I", true)
  | 8 => ("StepProgramsModel", "words", "I", false)
  | 9 => ("StepProgramsModel", "word", "[J", true)
  | 10 => ("StepProgramsModel", "wordFrom", "[I", true)
  | 11 => ("StepProgramsModel", "wordTo", "[I", true)
  | 12 => ("StepProgramsModel", "isFileThere", "[Z", true)
  | 13 => ("StepProgramsModel", "fileSize", "[I", true)
  | 14 => ("StepProgramsModel", "bytes", "[I", true)
  | 15 => ("StepProgramsModel", "planted", "[Z", true)
  | 16 => ("StepProgramsModel", "ran", "Z", false)
  | 17 => ("StepProgramsModel", "steps", "I", false)
  | 18 => ("StepProgramsModel", "begun", "I", false)
  | 19 => ("StepProgramsModel", "deepest", "I", false)
  | 20 => ("StepProgramsModel", "endedAt", "I", false)
  | 21 => ("StepProgramsModel", "outs", "I", false)
  | 22 => ("StepProgramsModel", "errs", "I", false)
  | 23 => ("StepProgramsModel", "out", "[I", true)
  | 24 => ("StepProgramsModel", "err", "[I", true)
  | 25 => ("StepProgramsModel", "depth", "I", false)
  | 26 => ("StepProgramsModel", "program", "[I", true)
  | 27 => ("StepProgramsModel", "line", "[I", true)
  | 28 => ("StepProgramsModel", "takes", "[I", true)
  | 29 => ("StepProgramsModel", "registers", "[I", true)
  | 30 => ("StepProgramsModel", "cells", "[I", true)
  | 31 => ("StepProgramsModel", "calls", "[I", true)
  | _ => ("StepProgramsModel", "backTo", "[I", true)
def ty_M : Nat → FieldType := fun k => match k with
  | 0 => .int
  | 1 => (.array .int)
  | 2 => (.array .int)
  | 3 => (.array .int)
  | 4 => (.array .int)
  | 5 => (.array .int)
  | 6 => (.array .boolean)
  | 7 => (.array .int)
  | 8 => .int
  | 9 => (.array .long)
  | 10 => (.array .int)
  | 11 => (.array .int)
  | 12 => (.array .boolean)
  | 13 => (.array .int)
  | 14 => (.array .int)
  | 15 => (.array .boolean)
  | 16 => .boolean
  | 17 => .int
  | 18 => .int
  | 19 => .int
  | 20 => .int
  | 21 => .int
  | 22 => .int
  | 23 => (.array .int)
  | 24 => (.array .int)
  | 25 => .int
  | 26 => (.array .int)
  | 27 => (.array .int)
  | 28 => (.array .int)
  | 29 => (.array .int)
  | 30 => (.array .int)
  | 31 => (.array .int)
  | _ => (.array .int)
theorem nm_M : ∀ a, a < 33 → ∀ b, b < 33 → a ≠ b → (T_M a).2.1 ≠ (T_M b).2.1 := by decide +kernel
theorem tyok_M : ∀ k, k < 33 → parseFieldDescriptor (T_M k).2.2.1 = some (ty_M k) := by decide +kernel
theorem in_M : ∀ w ∈ u_ws R_M T_M 33, w ∈ lw_g := by decide +kernel
def T_AL : u_T := fun k => match k with
  | 0 => ("java/util/ArrayList", "elementData", "[Ljava/lang/Object;", false)
  | 1 => ("java/util/ArrayList", "size", "I", false)
  | _ => ("java/util/AbstractList", "modCount", "I", false)
def ty_AL : Nat → FieldType := fun k => match k with
  | 0 => (.array (.object "java/lang/Object"))
  | 1 => .int
  | _ => .int
theorem nm_AL : ∀ a, a < 3 → ∀ b, b < 3 → a ≠ b → (T_AL a).2.1 ≠ (T_AL b).2.1 := by decide +kernel
theorem tyok_AL : ∀ k, k < 3 → parseFieldDescriptor (T_AL k).2.2.1 = some (ty_AL k) := by decide +kernel
theorem in_AL : ∀ w ∈ u_ws R_AL T_AL 3, w ∈ lw_g := by decide +kernel
abbrev hCl : List vw_C := [(R_Row, T_Row, 3), (R_Frame, T_Frame, 7), (R_Mach, T_Mach, 13), (R_Script, T_Script, 3), (R_Stat, T_Stat, 7), (R_Tape, T_Tape, 9), (R_S, T_S, 2), (R_M, T_M, 33), (R_AL, T_AL, 3)]
abbrev hTys (kA : Nat → ClassId) : List (ClassId × FieldType) := [(kA 0, .int), (kA 1, .boolean), (kA 2, .long), (kA 3, .object "StepPrograms$Row"), (kA 4, .object "StepPrograms$Frame"), (kA 5, .object "StepPrograms$Script"), (kA 6, .object "java/lang/Object")]
theorem hm_in {A : List Cond} {w0 : Cond} (h : ∀ w ∈ A, w ∈ lw_g) : ∀ w ∈ A, w ∈ w0 :: lw_g := fun w hw => List.mem_cons_of_mem _ (h w hw)
theorem hg1 {w0 w : Cond} (h : w ∈ lw_g) : w ∈ w0 :: lw_g ∧ ((w.onTables && w.keeps) = true ∨ ∃ ty, w = .arrayClass ty) := ⟨List.mem_cons_of_mem _ h, good_of_word (List.mem_filter.mp h).2⟩
theorem hgC {w0 : Cond} {y : MethodName} {cc : ByteArray} {n : Nat} {r : Option FieldType} (h : Cond.code y cc n r ∈ lw_g) : GoodIn (w0 :: lw_g) (.code y cc n r :: lw_g) := fun w hw => (List.mem_cons.mp hw).elim (fun e => by rw [e]; exact hg1 h) (fun h => hg1 h)
theorem hgL {w0 : Cond} {A B : List Cond} (ha : ∀ w ∈ A, w ∈ lw_g) (hb : GoodIn (w0 :: lw_g) B) : GoodIn (w0 :: lw_g) (A ++ B) := fun w hw => (List.mem_append.mp hw).elim (fun h => hg1 (ha w h)) (fun h => hb w h)
theorem hgV {w0 : Cond} {y : MethodName} {own C : String} {i : Nat} {cc : ByteArray} {n : Nat} {r : Option FieldType} (h1 : Cond.methodLink own i y ∈ lw_g) (h2 : Cond.instanceMethod y ∈ lw_g) (h3 : Cond.selects C y y ∈ lw_g) (h4 : Cond.initialized C ∈ lw_g) (h : Cond.code y cc n r ∈ lw_g) : GoodIn (w0 :: lw_g) (wsV own i C y (.code y cc n r :: lw_g)) :=
  hgL (fun w hw => by simp at hw; rcases hw with rfl | rfl | rfl | rfl <;> assumption) (hgC h)
theorem hgS {w0 : Cond} {y : MethodName} {own : String} {i : Nat} {cc : ByteArray} {n : Nat} {r : Option FieldType} (h1 : Cond.methodLink own i y ∈ lw_g) (h2 : Cond.static y ∈ lw_g) (h4 : Cond.initialized own ∈ lw_g) (h : Cond.code y cc n r ∈ lw_g) : GoodIn (w0 :: lw_g) (wsS own i y (.code y cc n r :: lw_g)) :=
  hgL (fun w hw => by simp at hw; rcases hw with rfl | rfl | rfl <;> assumption) (hgC h)
theorem hgT {w0 : Cond} {y : MethodName} {own : String} {i : Nat} {cc : ByteArray} {n : Nat} {r : Option FieldType} (h1 : Cond.methodLink own i y ∈ lw_g) (h2 : Cond.static y ∈ lw_g) (h4 : Cond.initialized y.cls ∈ lw_g) (h : Cond.code y cc n r ∈ lw_g) : GoodIn (w0 :: lw_g) (va_wsS own i y (.code y cc n r :: lw_g)) :=
  hgL (fun w hw => by simp at hw; rcases hw with rfl | rfl | rfl <;> assumption) (hgC h)
theorem wt {w : Cond} (h : w ∈ tables_1) (hg : goodWord w = true) : w ∈ lw_g := List.mem_filter.mpr ⟨List.mem_append_right _ h, hg⟩
theorem ws_sel {w : Cond} (h : w ∈ k2_sels lw_privs) (hg : goodWord w = true) : w ∈ lw_g := List.mem_filter.mpr ⟨List.mem_append_left _ h, hg⟩
/-! what holds of the constants that were there before: nothing yet -/
def zZ (S : hE) (g : Nat → Nat) (n0 : Nat) (U : State) : Prop := True
theorem zZ_k {S : hE} {g : Nat → Nat} {n0 : Nat} : hZk n0 (zZ S g n0) := fun _ _ _ _ h => h
abbrev hX (p : Program) (s : State) (m : MethodId) (args : Array Value) (c : Code) (cc : ByteArray) (nL : Nat) (own : String) (Ts : List Cond) (D : va_G) (kA : Nat → ClassId) (S : hE) (g : Nat → Nat) (n0 : Nat) : Prop := hC p s m args c cc nL own Ts D hCl (hTys kA) n0 (zZ S g n0)
abbrev hY (D : va_G) (kA : Nat → ClassId) (n0 : Nat) (s : State) (E : hE) (nx : Nat) (H : Heap) (locs : List Loc) : Prop := hM D hCl kA n0 s E nx H locs
abbrev hJ (D : va_G) (kA : Nat → ClassId) (S : hE) (g : Nat → Nat) (n0 : Nat) : hE × Nat → State → Prop := hI D hCl kA (hTys kA) n0 (zZ S g n0)
def y_Row_init : MethodName := ⟨R_Row, "<init>", "(I)V"⟩
abbrev ws_Row_init : List Cond := .code y_Row_init prog_6_method_1_code 2 none :: lw_g
def y_Row_hasRoomFor : MethodName := ⟨R_Row, "hasRoomFor", "(I)Z"⟩
abbrev ws_Row_hasRoomFor : List Cond := .code y_Row_hasRoomFor prog_6_method_2_code 2 (some .boolean) :: lw_g
def y_Row_add : MethodName := ⟨R_Row, "add", "(I)V"⟩
abbrev ws_Row_add : List Cond := .code y_Row_add prog_6_method_3_code 2 none :: lw_g
def y_Row_makeEmpty : MethodName := ⟨R_Row, "makeEmpty", "()V"⟩
abbrev ws_Row_makeEmpty : List Cond := .code y_Row_makeEmpty prog_6_method_4_code 1 none :: lw_g
def y_Row_remove : MethodName := ⟨R_Row, "remove", "()V"⟩
abbrev ws_Row_remove : List Cond := .code y_Row_remove prog_6_method_5_code 1 none :: lw_g
def y_Row_at : MethodName := ⟨R_Row, "at", "(I)I"⟩
abbrev ws_Row_at : List Cond := .code y_Row_at prog_6_method_7_code 2 (some .int) :: lw_g
def y_Row_countIfThere : MethodName := ⟨R_Row, "countIfThere", "()I"⟩
abbrev ws_Row_countIfThere : List Cond := .code y_Row_countIfThere prog_6_method_8_code 1 (some .int) :: lw_g
def y_Arrs_fill : MethodName := ⟨R_Arrs, "fill", "([II)V"⟩
abbrev ws_Arrs_fill : List Cond := .code y_Arrs_fill prog_25_method_103_code 4 none :: lw_g
theorem wm_29 : (Cond.instanceMethod ({ cls := "java/lang/Object", name := "<init>", desc := "()V" } : MethodName)) ∈ lw_g := wt (List.mem_of_getElem? (i := 29) (by decide +kernel)) rfl
theorem wm_30 : (Cond.code ({ cls := "java/lang/Object", name := "<init>", desc := "()V" } : MethodName) object_method_1_code (1 : Nat) (Option.none : Option FieldType)) ∈ lw_g := wt (List.mem_of_getElem? (i := 30) rfl) rfl
theorem wm_42 : (Cond.methodLink "StepPrograms$Row" (3 : Nat) ({ cls := "java/lang/Object", name := "<init>", desc := "()V" } : MethodName)) ∈ lw_g := wt (List.mem_of_getElem? (i := 42) (by decide +kernel)) rfl
theorem wm_43 : (Cond.fieldLink "StepPrograms$Row" (9 : Nat) "StepPrograms$Row" "bytes" "[I") ∈ lw_g := wt (List.mem_of_getElem? (i := 43) (by decide +kernel)) rfl
theorem wm_45 : (Cond.fieldLink "StepPrograms$Row" (15 : Nat) "StepPrograms$Row" "count" "I") ∈ lw_g := wt (List.mem_of_getElem? (i := 45) (by decide +kernel)) rfl
theorem wm_48 : (Cond.fieldLink "StepPrograms$Row" (19 : Nat) "StepPrograms$Row" "there" "Z") ∈ lw_g := wt (List.mem_of_getElem? (i := 48) (by decide +kernel)) rfl
theorem wm_57 : (Cond.arrayClass FieldType.int) ∈ lw_g := wt (List.mem_of_getElem? (i := 57) (by decide +kernel)) rfl
end
section
/-! row: by wip/whole/gen.py -/
theorem dRow_init_0 : decode prog_6_method_1_code 0 = .ok (.aload_n 0, 1) := by decide +kernel
theorem dRow_init_1 : decode prog_6_method_1_code 1 = .ok (.invokespecial 3, 3) := by decide +kernel
theorem dRow_init_4 : decode prog_6_method_1_code 4 = .ok (.aload_n 0, 1) := by decide +kernel
theorem dRow_init_5 : decode prog_6_method_1_code 5 = .ok (.iload_n 1, 1) := by decide +kernel
theorem dRow_init_6 : decode prog_6_method_1_code 6 = .ok (.newarray .int, 2) := by decide +kernel
theorem dRow_init_8 : decode prog_6_method_1_code 8 = .ok (.putfield 9, 3) := by decide +kernel
theorem dRow_init_11 : decode prog_6_method_1_code 11 = .ok (.return_, 1) := by decide +kernel
abbrev rm_Row_init : Room := { frames := 1, cells := 1, slots := 400, locals := 20 }
def f_Row_init  (x0 : Nat) (x1 : Int32) (E : hE) (nx : Nat) : Option (hE × Nat) := (
  (nA E nx 0 x1 400).bind fun E6 =>
  (sR E6 (some x0) 0 0 (some nx)).bind fun E8 =>
  some (E8, nx + 1))
set_option maxHeartbeats 4000000 in
set_option maxRecDepth 100000 in
theorem c_Row_init {l : Launch} {D : va_G} {kA : Nat → ClassId} {S : hE} {g : Nat → Nat} {n0 nx : Nat} {x0 : Nat} {x1 : Int32} {E : hE} {res : hE × Nat} (hf : f_Row_init x0 x1 E nx = some res) : Met l y_Row_init ws_Row_init rm_Row_init (va_Pc [va_rf (some x0), .int x1] (hJ D kA S g n0 (E, nx))) (va_Qv (fun w => w = res) (hJ D kA S g n0) (fun q => n0 ≤ q)) 1 400 (fun q => n0 ≤ q) := by
  refine h_met (cc := prog_6_method_1_code) (maxL := 2) (ret := none) (lvs := [(0, va_rf (some x0)), (1, .int x1)]) zZ_k (by decide) rfl (by simp [lg_sl, va_rf_cat, cat_i, cat_l, cat_n]) (by simp [lv_args, va_rf_cat, cat_i, cat_l, cat_n]) ?_
  intro p e s m below meth c ls C M hr hlk hnm hl
  unfold f_Row_init at hf
  refine w_aload_n C.x C.b dRow_init_0 rfl (lv_at hl 0 rfl) ?_
  refine W.objInit C.x C.b C.ow (C.ts (.methodLink R_Row 3 objectInit) (List.mem_cons_of_mem _ wm_42)) (C.ts (.instanceMethod objectInit) (List.mem_cons_of_mem _ wm_29)) (C.ts _ (List.mem_cons_of_mem _ wm_30)) rfl (by rw [C.ml]; exact hl.1) rfl dRow_init_1 (Nat.le_of_ble_eq_true rfl) (Nat.le_of_ble_eq_true rfl) ?_
  refine W.eq (g2 := F0 m 4 ls []) rfl ?_
  refine w_aload_n C.x C.b dRow_init_4 rfl (lv_at hl 0 rfl) ?_
  refine lv_iload_n C.x C.b dRow_init_5 rfl (lv_at hl 1 rfl) ?_
  obtain ⟨E6, h6, hf⟩ := Option.bind_eq_some_iff.mp hf
  refine w_newI (atype := .int) (ty := .int) C M h6 (List.mem_cons_of_mem _ wm_57) rfl rfl (fun _ _ h => h) (fun _ _ => rfl) (by decide) (by show _ ≤ 1; omega) (by show _ ≤ 400; omega) dRow_init_6 (fun H M => ?_)
  obtain ⟨E8, h8, hf⟩ := Option.bind_eq_some_iff.mp hf
  refine w_putVF (ty := (.array .int)) C M ty_Row h8 rfl (hm_in in_Row) tyok_Row nm_Row (by decide) (List.mem_cons_of_mem _ wm_43) rfl rfl hnm rfl (by decide +kernel) (narrow_a _ _) (fits_a _ _) dRow_init_8 (fun H locs M => ?_)
  cases hf
  exact w_vret C M hr hlk (by omega) (by omega) dRow_init_11 rfl
theorem dRow_hasRoomFor_0 : decode prog_6_method_2_code 0 = .ok (.iload_n 1, 1) := by decide +kernel
theorem dRow_hasRoomFor_1 : decode prog_6_method_2_code 1 = .ok (.aload_n 0, 1) := by decide +kernel
theorem dRow_hasRoomFor_2 : decode prog_6_method_2_code 2 = .ok (.getfield 9, 3) := by decide +kernel
theorem dRow_hasRoomFor_5 : decode prog_6_method_2_code 5 = .ok (.arraylength, 1) := by decide +kernel
theorem dRow_hasRoomFor_6 : decode prog_6_method_2_code 6 = .ok (.aload_n 0, 1) := by decide +kernel
theorem dRow_hasRoomFor_7 : decode prog_6_method_2_code 7 = .ok (.getfield 15, 3) := by decide +kernel
theorem dRow_hasRoomFor_10 : decode prog_6_method_2_code 10 = .ok (.isub, 1) := by decide +kernel
theorem dRow_hasRoomFor_11 : decode prog_6_method_2_code 11 = .ok (.if_icmp .gt 7, 3) := by decide +kernel
theorem dRow_hasRoomFor_14 : decode prog_6_method_2_code 14 = .ok (.iconst 1, 1) := by decide +kernel
theorem dRow_hasRoomFor_15 : decode prog_6_method_2_code 15 = .ok (.goto 4, 3) := by decide +kernel
theorem dRow_hasRoomFor_18 : decode prog_6_method_2_code 18 = .ok (.iconst 0, 1) := by decide +kernel
theorem dRow_hasRoomFor_19 : decode prog_6_method_2_code 19 = .ok (.ireturn, 1) := by decide +kernel
abbrev rm_Row_hasRoomFor : Room := { frames := 0, cells := 0, slots := 0, locals := 0 }
def f_Row_hasRoomFor_b19 (E : hE) (t0 : Int32) : Option (Int32) := (
  (bZ t0).bind fun v19 =>
  some v19)
set_option maxHeartbeats 4000000 in
set_option maxRecDepth 100000 in
theorem b_Row_hasRoomFor_19 {p : Program} {l : Launch} {e : Env} {s : State} {m : MethodId} {args : Array Value} {below : List Frame} {meth : Method} {c : Code} {D : va_G} {kA : Nat → ClassId} {S : hE} {g : Nat → Nat} {n0 nx : Nat} {E : hE} {res : Int32} (C : hX p s m args c prog_6_method_2_code 2 R_Row ws_Row_hasRoomFor D kA S g n0) (hr : meth.sig.returnType = (some .boolean)) (hlk : meth.locks = false) (hnm : meth.name = "hasRoomFor") : ∀ (t0 : Int32) (H : Heap) (locs : List Loc) (ls : Array Slot), hY D kA n0 s E nx H locs → lv_has ls 2 [] → f_Row_hasRoomFor_b19 E  t0 = some res → W p l e rm_Row_hasRoomFor s m args below meth c H locs 0 0 (MQ below (va_Qi (fun r w => r = res ∧ w = (E, nx)) (hJ D kA S g n0) (fun q => n0 ≤ q)) args s 0 0 (fun q => n0 ≤ q)) (F0 m 19 ls [.int t0]) := by
  intro t0 H locs ls M hl hf
  unfold f_Row_hasRoomFor_b19 at hf
  obtain ⟨v19, h19, hf⟩ := Option.bind_eq_some_iff.mp hf
  obtain ⟨rfl, g19⟩ := bZ_some h19
  cases hf
  exact w_iret C M hr hlk (narrow_z g19) (Nat.le_refl _) (Nat.le_refl _) dRow_hasRoomFor_19 rfl rfl
def f_Row_hasRoomFor (E : hE) (x0 : Nat) (x1 : Int32) : Option (Int32) := (
  (gR E (some x0) 0 0).bind fun v2 =>
  (aL E v2 0).bind fun v5 =>
  (gI E (some x0) 0 1).bind fun v7 =>
  if (v5 - v7) < x1 then (
  f_Row_hasRoomFor_b19 E 0
  ) else (
  f_Row_hasRoomFor_b19 E 1
  ))
set_option maxHeartbeats 4000000 in
set_option maxRecDepth 100000 in
theorem c_Row_hasRoomFor {l : Launch} {D : va_G} {kA : Nat → ClassId} {S : hE} {g : Nat → Nat} {n0 nx : Nat} {x0 : Nat} {x1 : Int32} {E : hE} {res : Int32} (hf : f_Row_hasRoomFor E x0 x1 = some res) : Met l y_Row_hasRoomFor ws_Row_hasRoomFor rm_Row_hasRoomFor (va_Pc [va_rf (some x0), .int x1] (hJ D kA S g n0 (E, nx))) (va_Qi (fun r w => r = res ∧ w = (E, nx)) (hJ D kA S g n0) (fun q => n0 ≤ q)) 0 0 (fun q => n0 ≤ q) := by
  refine h_met (cc := prog_6_method_2_code) (maxL := 2) (ret := (some .boolean)) (lvs := [(0, va_rf (some x0)), (1, .int x1)]) zZ_k (by decide) rfl (by simp [lg_sl, va_rf_cat, cat_i, cat_l, cat_n]) (by simp [lv_args, va_rf_cat, cat_i, cat_l, cat_n]) ?_
  intro p e s m below meth c ls C M hr hlk hnm hl
  unfold f_Row_hasRoomFor at hf
  refine lv_iload_n C.x C.b dRow_hasRoomFor_0 rfl (lv_at hl 1 rfl) ?_
  refine w_aload_n C.x C.b dRow_hasRoomFor_1 rfl (lv_at hl 0 rfl) ?_
  obtain ⟨v2, h2, hf⟩ := Option.bind_eq_some_iff.mp hf
  refine w_getR C M h2 rfl (hm_in in_Row) (by decide) (List.mem_cons_of_mem _ wm_43) rfl dRow_hasRoomFor_2 ?_
  obtain ⟨v5, h5, hf⟩ := Option.bind_eq_some_iff.mp hf
  refine w_alen C M h5 rfl dRow_hasRoomFor_5 ?_
  refine w_aload_n C.x C.b dRow_hasRoomFor_6 rfl (lv_at hl 0 rfl) ?_
  obtain ⟨v7, h7, hf⟩ := Option.bind_eq_some_iff.mp hf
  refine w_getI C M h7 rfl (hm_in in_Row) (by decide) (List.mem_cons_of_mem _ wm_45) rfl dRow_hasRoomFor_7 ?_
  refine lv_isub C.x C.b dRow_hasRoomFor_10 ?_
  refine lv_icmp_gt (tgt := 18) C.x C.b dRow_hasRoomFor_11 (by decide) (fun c11 => ?_) (fun c11 => ?_)
  · rw [if_pos c11] at hf
    refine lv_iconst (v := 0) C.x C.b dRow_hasRoomFor_18 (by decide) ?_
    exact b_Row_hasRoomFor_19 C hr hlk hnm _ _ _ _ M (lv_sub hl [] rfl) hf
  · rw [if_neg c11] at hf
    refine lv_iconst (v := 1) C.x C.b dRow_hasRoomFor_14 (by decide) ?_
    refine lv_goto (tgt := 19) C.x C.b dRow_hasRoomFor_15 (by decide) ?_
    exact b_Row_hasRoomFor_19 C hr hlk hnm _ _ _ _ M (lv_sub hl [] rfl) hf
theorem dRow_add_0 : decode prog_6_method_3_code 0 = .ok (.aload_n 0, 1) := by decide +kernel
theorem dRow_add_1 : decode prog_6_method_3_code 1 = .ok (.getfield 15, 3) := by decide +kernel
theorem dRow_add_4 : decode prog_6_method_3_code 4 = .ok (.aload_n 0, 1) := by decide +kernel
theorem dRow_add_5 : decode prog_6_method_3_code 5 = .ok (.getfield 9, 3) := by decide +kernel
theorem dRow_add_8 : decode prog_6_method_3_code 8 = .ok (.arraylength, 1) := by decide +kernel
theorem dRow_add_9 : decode prog_6_method_3_code 9 = .ok (.if_icmp .ge 32, 3) := by decide +kernel
theorem dRow_add_12 : decode prog_6_method_3_code 12 = .ok (.aload_n 0, 1) := by decide +kernel
theorem dRow_add_13 : decode prog_6_method_3_code 13 = .ok (.getfield 9, 3) := by decide +kernel
theorem dRow_add_16 : decode prog_6_method_3_code 16 = .ok (.aload_n 0, 1) := by decide +kernel
theorem dRow_add_17 : decode prog_6_method_3_code 17 = .ok (.getfield 15, 3) := by decide +kernel
theorem dRow_add_20 : decode prog_6_method_3_code 20 = .ok (.iload_n 1, 1) := by decide +kernel
theorem dRow_add_21 : decode prog_6_method_3_code 21 = .ok (.sipush 255, 3) := by decide +kernel
theorem dRow_add_24 : decode prog_6_method_3_code 24 = .ok (.iand, 1) := by decide +kernel
theorem dRow_add_25 : decode prog_6_method_3_code 25 = .ok (.iastore, 1) := by decide +kernel
theorem dRow_add_26 : decode prog_6_method_3_code 26 = .ok (.aload_n 0, 1) := by decide +kernel
theorem dRow_add_27 : decode prog_6_method_3_code 27 = .ok (.dup, 1) := by decide +kernel
theorem dRow_add_28 : decode prog_6_method_3_code 28 = .ok (.getfield 15, 3) := by decide +kernel
theorem dRow_add_31 : decode prog_6_method_3_code 31 = .ok (.iconst 1, 1) := by decide +kernel
theorem dRow_add_32 : decode prog_6_method_3_code 32 = .ok (.iadd, 1) := by decide +kernel
theorem dRow_add_33 : decode prog_6_method_3_code 33 = .ok (.putfield 15, 3) := by decide +kernel
theorem dRow_add_36 : decode prog_6_method_3_code 36 = .ok (.aload_n 0, 1) := by decide +kernel
theorem dRow_add_37 : decode prog_6_method_3_code 37 = .ok (.iconst 1, 1) := by decide +kernel
theorem dRow_add_38 : decode prog_6_method_3_code 38 = .ok (.putfield 19, 3) := by decide +kernel
theorem dRow_add_41 : decode prog_6_method_3_code 41 = .ok (.return_, 1) := by decide +kernel
abbrev rm_Row_add : Room := { frames := 0, cells := 0, slots := 0, locals := 0 }
def f_Row_add_b41  (E : hE) : Option (hE) := (
  some E)
set_option maxHeartbeats 4000000 in
set_option maxRecDepth 100000 in
theorem b_Row_add_41 {p : Program} {l : Launch} {e : Env} {s : State} {m : MethodId} {args : Array Value} {below : List Frame} {meth : Method} {c : Code} {D : va_G} {kA : Nat → ClassId} {S : hE} {g : Nat → Nat} {n0 nx : Nat} {res : hE} (C : hX p s m args c prog_6_method_3_code 2 R_Row ws_Row_add D kA S g n0) (hr : meth.sig.returnType = none) (hlk : meth.locks = false) (hnm : meth.name = "add") : ∀  (E : hE) (H : Heap) (locs : List Loc) (ls : Array Slot), hY D kA n0 s E nx H locs → lv_has ls 2 [] → f_Row_add_b41  E = some res → W p l e rm_Row_add s m args below meth c H locs 0 0 (MQ below (va_Qv (fun w => w = (res, nx)) (hJ D kA S g n0) (fun q => n0 ≤ q)) args s 0 0 (fun q => n0 ≤ q)) (F0 m 41 ls []) := by
  intro E H locs ls M hl hf
  unfold f_Row_add_b41 at hf
  cases hf
  exact w_vret C M hr hlk (Nat.le_refl _) (Nat.le_refl _) dRow_add_41 rfl
def f_Row_add  (x0 : Nat) (x1 : Int32) (E : hE) : Option (hE) := (
  (gI E (some x0) 0 1).bind fun v1 =>
  (gR E (some x0) 0 0).bind fun v5 =>
  (aL E v5 0).bind fun v8 =>
  if v8 ≤ v1 then (
  f_Row_add_b41 E
  ) else (
  (gR E (some x0) 0 0).bind fun v13 =>
  (gI E (some x0) 0 1).bind fun v17 =>
  (tI E v13 0 v17 (x1 &&& 255)).bind fun E25 =>
  (gI E25 (some x0) 0 1).bind fun v28 =>
  (sI E25 (some x0) 0 1 (v28 + 1)).bind fun E33 =>
  (sZ E33 (some x0) 0 2 1).bind fun E38 =>
  f_Row_add_b41 E38
  ))
set_option maxHeartbeats 4000000 in
set_option maxRecDepth 100000 in
theorem c_Row_add {l : Launch} {D : va_G} {kA : Nat → ClassId} {S : hE} {g : Nat → Nat} {n0 nx : Nat} {x0 : Nat} {x1 : Int32} {E : hE} {res : hE} (hf : f_Row_add x0 x1 E = some res) : Met l y_Row_add ws_Row_add rm_Row_add (va_Pc [va_rf (some x0), .int x1] (hJ D kA S g n0 (E, nx))) (va_Qv (fun w => w = (res, nx)) (hJ D kA S g n0) (fun q => n0 ≤ q)) 0 0 (fun q => n0 ≤ q) := by
  refine h_met (cc := prog_6_method_3_code) (maxL := 2) (ret := none) (lvs := [(0, va_rf (some x0)), (1, .int x1)]) zZ_k (by decide) rfl (by simp [lg_sl, va_rf_cat, cat_i, cat_l, cat_n]) (by simp [lv_args, va_rf_cat, cat_i, cat_l, cat_n]) ?_
  intro p e s m below meth c ls C M hr hlk hnm hl
  unfold f_Row_add at hf
  refine w_aload_n C.x C.b dRow_add_0 rfl (lv_at hl 0 rfl) ?_
  obtain ⟨v1, h1, hf⟩ := Option.bind_eq_some_iff.mp hf
  refine w_getI C M h1 rfl (hm_in in_Row) (by decide) (List.mem_cons_of_mem _ wm_45) rfl dRow_add_1 ?_
  refine w_aload_n C.x C.b dRow_add_4 rfl (lv_at hl 0 rfl) ?_
  obtain ⟨v5, h5, hf⟩ := Option.bind_eq_some_iff.mp hf
  refine w_getR C M h5 rfl (hm_in in_Row) (by decide) (List.mem_cons_of_mem _ wm_43) rfl dRow_add_5 ?_
  obtain ⟨v8, h8, hf⟩ := Option.bind_eq_some_iff.mp hf
  refine w_alen C M h8 rfl dRow_add_8 ?_
  refine lv_icmp_ge (tgt := 41) C.x C.b dRow_add_9 (by decide) (fun c9 => ?_) (fun c9 => ?_)
  · rw [if_pos c9] at hf
    exact b_Row_add_41 C hr hlk hnm _ _ _ _ M (lv_sub hl [] rfl) hf
  · rw [if_neg c9] at hf
    refine w_aload_n C.x C.b dRow_add_12 rfl (lv_at hl 0 rfl) ?_
    obtain ⟨v13, h13, hf⟩ := Option.bind_eq_some_iff.mp hf
    refine w_getR C M h13 rfl (hm_in in_Row) (by decide) (List.mem_cons_of_mem _ wm_43) rfl dRow_add_13 ?_
    refine w_aload_n C.x C.b dRow_add_16 rfl (lv_at hl 0 rfl) ?_
    obtain ⟨v17, h17, hf⟩ := Option.bind_eq_some_iff.mp hf
    refine w_getI C M h17 rfl (hm_in in_Row) (by decide) (List.mem_cons_of_mem _ wm_45) rfl dRow_add_17 ?_
    refine lv_iload_n C.x C.b dRow_add_20 rfl (lv_at hl 1 rfl) ?_
    refine lv_sipush (v := 255) C.x C.b dRow_add_21 (by decide) ?_
    refine lv_iand C.x C.b dRow_add_24 ?_
    obtain ⟨E25, h25, hf⟩ := Option.bind_eq_some_iff.mp hf
    refine w_iast C M h25 rfl dRow_add_25 (fun H locs M => ?_)
    refine w_aload_n C.x C.b dRow_add_26 rfl (lv_at hl 0 rfl) ?_
    refine lv_dup C.x C.b dRow_add_27 (va_rf_cat _) ?_
    obtain ⟨v28, h28, hf⟩ := Option.bind_eq_some_iff.mp hf
    refine w_getI C M h28 rfl (hm_in in_Row) (by decide) (List.mem_cons_of_mem _ wm_45) rfl dRow_add_28 ?_
    refine lv_iconst (v := 1) C.x C.b dRow_add_31 (by decide) ?_
    refine lv_iadd C.x C.b dRow_add_32 ?_
    obtain ⟨E33, h33, hf⟩ := Option.bind_eq_some_iff.mp hf
    refine w_putV (ty := .int) C M ty_Row h33 rfl (hm_in in_Row) tyok_Row nm_Row (by decide) (List.mem_cons_of_mem _ wm_45) rfl rfl (by decide +kernel) rfl rfl dRow_add_33 (fun H locs M => ?_)
    refine w_aload_n C.x C.b dRow_add_36 rfl (lv_at hl 0 rfl) ?_
    refine lv_iconst (v := 1) C.x C.b dRow_add_37 (by decide) ?_
    obtain ⟨E38, h38, hf⟩ := Option.bind_eq_some_iff.mp hf
    refine w_putV (ty := .boolean) C M ty_Row (sZ_some h38).2 rfl (hm_in in_Row) tyok_Row nm_Row (by decide) (List.mem_cons_of_mem _ wm_48) rfl rfl (by decide +kernel) (narrow_z (sZ_some h38).1) (fits_z (sZ_some h38).1) dRow_add_38 (fun H locs M => ?_)
    exact b_Row_add_41 C hr hlk hnm _ _ _ _ M (lv_sub hl [] rfl) hf
theorem dRow_makeEmpty_0 : decode prog_6_method_4_code 0 = .ok (.aload_n 0, 1) := by decide +kernel
theorem dRow_makeEmpty_1 : decode prog_6_method_4_code 1 = .ok (.iconst 0, 1) := by decide +kernel
theorem dRow_makeEmpty_2 : decode prog_6_method_4_code 2 = .ok (.putfield 15, 3) := by decide +kernel
theorem dRow_makeEmpty_5 : decode prog_6_method_4_code 5 = .ok (.aload_n 0, 1) := by decide +kernel
theorem dRow_makeEmpty_6 : decode prog_6_method_4_code 6 = .ok (.iconst 1, 1) := by decide +kernel
theorem dRow_makeEmpty_7 : decode prog_6_method_4_code 7 = .ok (.putfield 19, 3) := by decide +kernel
theorem dRow_makeEmpty_10 : decode prog_6_method_4_code 10 = .ok (.return_, 1) := by decide +kernel
abbrev rm_Row_makeEmpty : Room := { frames := 0, cells := 0, slots := 0, locals := 0 }
def f_Row_makeEmpty  (x0 : Nat) (E : hE) : Option (hE) := (
  (sI E (some x0) 0 1 0).bind fun E2 =>
  (sZ E2 (some x0) 0 2 1).bind fun E7 =>
  some E7)
set_option maxHeartbeats 4000000 in
set_option maxRecDepth 100000 in
theorem c_Row_makeEmpty {l : Launch} {D : va_G} {kA : Nat → ClassId} {S : hE} {g : Nat → Nat} {n0 nx : Nat} {x0 : Nat} {E : hE} {res : hE} (hf : f_Row_makeEmpty x0 E = some res) : Met l y_Row_makeEmpty ws_Row_makeEmpty rm_Row_makeEmpty (va_Pc [va_rf (some x0)] (hJ D kA S g n0 (E, nx))) (va_Qv (fun w => w = (res, nx)) (hJ D kA S g n0) (fun q => n0 ≤ q)) 0 0 (fun q => n0 ≤ q) := by
  refine h_met (cc := prog_6_method_4_code) (maxL := 1) (ret := none) (lvs := [(0, va_rf (some x0))]) zZ_k (by decide) rfl (by simp [lg_sl, va_rf_cat, cat_i, cat_l, cat_n]) (by simp [lv_args, va_rf_cat, cat_i, cat_l, cat_n]) ?_
  intro p e s m below meth c ls C M hr hlk hnm hl
  unfold f_Row_makeEmpty at hf
  refine w_aload_n C.x C.b dRow_makeEmpty_0 rfl (lv_at hl 0 rfl) ?_
  refine lv_iconst (v := 0) C.x C.b dRow_makeEmpty_1 (by decide) ?_
  obtain ⟨E2, h2, hf⟩ := Option.bind_eq_some_iff.mp hf
  refine w_putV (ty := .int) C M ty_Row h2 rfl (hm_in in_Row) tyok_Row nm_Row (by decide) (List.mem_cons_of_mem _ wm_45) rfl rfl (by decide +kernel) rfl rfl dRow_makeEmpty_2 (fun H locs M => ?_)
  refine w_aload_n C.x C.b dRow_makeEmpty_5 rfl (lv_at hl 0 rfl) ?_
  refine lv_iconst (v := 1) C.x C.b dRow_makeEmpty_6 (by decide) ?_
  obtain ⟨E7, h7, hf⟩ := Option.bind_eq_some_iff.mp hf
  refine w_putV (ty := .boolean) C M ty_Row (sZ_some h7).2 rfl (hm_in in_Row) tyok_Row nm_Row (by decide) (List.mem_cons_of_mem _ wm_48) rfl rfl (by decide +kernel) (narrow_z (sZ_some h7).1) (fits_z (sZ_some h7).1) dRow_makeEmpty_7 (fun H locs M => ?_)
  cases hf
  exact w_vret C M hr hlk (Nat.le_refl _) (Nat.le_refl _) dRow_makeEmpty_10 rfl
theorem dRow_remove_0 : decode prog_6_method_5_code 0 = .ok (.aload_n 0, 1) := by decide +kernel
theorem dRow_remove_1 : decode prog_6_method_5_code 1 = .ok (.iconst 0, 1) := by decide +kernel
theorem dRow_remove_2 : decode prog_6_method_5_code 2 = .ok (.putfield 15, 3) := by decide +kernel
theorem dRow_remove_5 : decode prog_6_method_5_code 5 = .ok (.aload_n 0, 1) := by decide +kernel
theorem dRow_remove_6 : decode prog_6_method_5_code 6 = .ok (.iconst 0, 1) := by decide +kernel
theorem dRow_remove_7 : decode prog_6_method_5_code 7 = .ok (.putfield 19, 3) := by decide +kernel
theorem dRow_remove_10 : decode prog_6_method_5_code 10 = .ok (.return_, 1) := by decide +kernel
abbrev rm_Row_remove : Room := { frames := 0, cells := 0, slots := 0, locals := 0 }
def f_Row_remove  (x0 : Nat) (E : hE) : Option (hE) := (
  (sI E (some x0) 0 1 0).bind fun E2 =>
  (sZ E2 (some x0) 0 2 0).bind fun E7 =>
  some E7)
set_option maxHeartbeats 4000000 in
set_option maxRecDepth 100000 in
theorem c_Row_remove {l : Launch} {D : va_G} {kA : Nat → ClassId} {S : hE} {g : Nat → Nat} {n0 nx : Nat} {x0 : Nat} {E : hE} {res : hE} (hf : f_Row_remove x0 E = some res) : Met l y_Row_remove ws_Row_remove rm_Row_remove (va_Pc [va_rf (some x0)] (hJ D kA S g n0 (E, nx))) (va_Qv (fun w => w = (res, nx)) (hJ D kA S g n0) (fun q => n0 ≤ q)) 0 0 (fun q => n0 ≤ q) := by
  refine h_met (cc := prog_6_method_5_code) (maxL := 1) (ret := none) (lvs := [(0, va_rf (some x0))]) zZ_k (by decide) rfl (by simp [lg_sl, va_rf_cat, cat_i, cat_l, cat_n]) (by simp [lv_args, va_rf_cat, cat_i, cat_l, cat_n]) ?_
  intro p e s m below meth c ls C M hr hlk hnm hl
  unfold f_Row_remove at hf
  refine w_aload_n C.x C.b dRow_remove_0 rfl (lv_at hl 0 rfl) ?_
  refine lv_iconst (v := 0) C.x C.b dRow_remove_1 (by decide) ?_
  obtain ⟨E2, h2, hf⟩ := Option.bind_eq_some_iff.mp hf
  refine w_putV (ty := .int) C M ty_Row h2 rfl (hm_in in_Row) tyok_Row nm_Row (by decide) (List.mem_cons_of_mem _ wm_45) rfl rfl (by decide +kernel) rfl rfl dRow_remove_2 (fun H locs M => ?_)
  refine w_aload_n C.x C.b dRow_remove_5 rfl (lv_at hl 0 rfl) ?_
  refine lv_iconst (v := 0) C.x C.b dRow_remove_6 (by decide) ?_
  obtain ⟨E7, h7, hf⟩ := Option.bind_eq_some_iff.mp hf
  refine w_putV (ty := .boolean) C M ty_Row (sZ_some h7).2 rfl (hm_in in_Row) tyok_Row nm_Row (by decide) (List.mem_cons_of_mem _ wm_48) rfl rfl (by decide +kernel) (narrow_z (sZ_some h7).1) (fits_z (sZ_some h7).1) dRow_remove_7 (fun H locs M => ?_)
  cases hf
  exact w_vret C M hr hlk (Nat.le_refl _) (Nat.le_refl _) dRow_remove_10 rfl
theorem dRow_at_0 : decode prog_6_method_7_code 0 = .ok (.iload_n 1, 1) := by decide +kernel
theorem dRow_at_1 : decode prog_6_method_7_code 1 = .ok (.ifCond .lt 20, 3) := by decide +kernel
theorem dRow_at_4 : decode prog_6_method_7_code 4 = .ok (.iload_n 1, 1) := by decide +kernel
theorem dRow_at_5 : decode prog_6_method_7_code 5 = .ok (.aload_n 0, 1) := by decide +kernel
theorem dRow_at_6 : decode prog_6_method_7_code 6 = .ok (.getfield 15, 3) := by decide +kernel
theorem dRow_at_9 : decode prog_6_method_7_code 9 = .ok (.if_icmp .ge 12, 3) := by decide +kernel
theorem dRow_at_12 : decode prog_6_method_7_code 12 = .ok (.aload_n 0, 1) := by decide +kernel
theorem dRow_at_13 : decode prog_6_method_7_code 13 = .ok (.getfield 9, 3) := by decide +kernel
theorem dRow_at_16 : decode prog_6_method_7_code 16 = .ok (.iload_n 1, 1) := by decide +kernel
theorem dRow_at_17 : decode prog_6_method_7_code 17 = .ok (.iaload, 1) := by decide +kernel
theorem dRow_at_18 : decode prog_6_method_7_code 18 = .ok (.goto 4, 3) := by decide +kernel
theorem dRow_at_21 : decode prog_6_method_7_code 21 = .ok (.iconst (-1), 1) := by decide +kernel
theorem dRow_at_22 : decode prog_6_method_7_code 22 = .ok (.ireturn, 1) := by decide +kernel
abbrev rm_Row_at : Room := { frames := 0, cells := 0, slots := 0, locals := 0 }
def f_Row_at_b22 (E : hE) (t0 : Int32) : Option (Int32) := (
  some t0)
set_option maxHeartbeats 4000000 in
set_option maxRecDepth 100000 in
theorem b_Row_at_22 {p : Program} {l : Launch} {e : Env} {s : State} {m : MethodId} {args : Array Value} {below : List Frame} {meth : Method} {c : Code} {D : va_G} {kA : Nat → ClassId} {S : hE} {g : Nat → Nat} {n0 nx : Nat} {E : hE} {res : Int32} (C : hX p s m args c prog_6_method_7_code 2 R_Row ws_Row_at D kA S g n0) (hr : meth.sig.returnType = (some .int)) (hlk : meth.locks = false) (hnm : meth.name = "at") : ∀ (t0 : Int32) (H : Heap) (locs : List Loc) (ls : Array Slot), hY D kA n0 s E nx H locs → lv_has ls 2 [] → f_Row_at_b22 E  t0 = some res → W p l e rm_Row_at s m args below meth c H locs 0 0 (MQ below (va_Qi (fun r w => r = res ∧ w = (E, nx)) (hJ D kA S g n0) (fun q => n0 ≤ q)) args s 0 0 (fun q => n0 ≤ q)) (F0 m 22 ls [.int t0]) := by
  intro t0 H locs ls M hl hf
  unfold f_Row_at_b22 at hf
  cases hf
  exact w_iret C M hr hlk rfl (Nat.le_refl _) (Nat.le_refl _) dRow_at_22 rfl rfl
def f_Row_at_b21 (E : hE) : Option (Int32) := (
  f_Row_at_b22 E (-1))
set_option maxHeartbeats 4000000 in
set_option maxRecDepth 100000 in
theorem b_Row_at_21 {p : Program} {l : Launch} {e : Env} {s : State} {m : MethodId} {args : Array Value} {below : List Frame} {meth : Method} {c : Code} {D : va_G} {kA : Nat → ClassId} {S : hE} {g : Nat → Nat} {n0 nx : Nat} {E : hE} {res : Int32} (C : hX p s m args c prog_6_method_7_code 2 R_Row ws_Row_at D kA S g n0) (hr : meth.sig.returnType = (some .int)) (hlk : meth.locks = false) (hnm : meth.name = "at") : ∀  (H : Heap) (locs : List Loc) (ls : Array Slot), hY D kA n0 s E nx H locs → lv_has ls 2 [] → f_Row_at_b21 E   = some res → W p l e rm_Row_at s m args below meth c H locs 0 0 (MQ below (va_Qi (fun r w => r = res ∧ w = (E, nx)) (hJ D kA S g n0) (fun q => n0 ≤ q)) args s 0 0 (fun q => n0 ≤ q)) (F0 m 21 ls []) := by
  intro  H locs ls M hl hf
  unfold f_Row_at_b21 at hf
  refine lv_iconst (v := (-1)) C.x C.b dRow_at_21 (by decide) ?_
  exact b_Row_at_22 C hr hlk hnm _ _ _ _ M (lv_sub hl [] rfl) hf
def f_Row_at (E : hE) (x0 : Nat) (x1 : Int32) : Option (Int32) := (
  if x1 < 0 then (
  f_Row_at_b21 E 
  ) else (
  (gI E (some x0) 0 1).bind fun v6 =>
  if v6 ≤ x1 then (
  f_Row_at_b21 E 
  ) else (
  (gR E (some x0) 0 0).bind fun v13 =>
  (aI E v13 0 x1).bind fun v17 =>
  f_Row_at_b22 E v17
  )
  ))
set_option maxHeartbeats 4000000 in
set_option maxRecDepth 100000 in
theorem c_Row_at {l : Launch} {D : va_G} {kA : Nat → ClassId} {S : hE} {g : Nat → Nat} {n0 nx : Nat} {x0 : Nat} {x1 : Int32} {E : hE} {res : Int32} (hf : f_Row_at E x0 x1 = some res) : Met l y_Row_at ws_Row_at rm_Row_at (va_Pc [va_rf (some x0), .int x1] (hJ D kA S g n0 (E, nx))) (va_Qi (fun r w => r = res ∧ w = (E, nx)) (hJ D kA S g n0) (fun q => n0 ≤ q)) 0 0 (fun q => n0 ≤ q) := by
  refine h_met (cc := prog_6_method_7_code) (maxL := 2) (ret := (some .int)) (lvs := [(0, va_rf (some x0)), (1, .int x1)]) zZ_k (by decide) rfl (by simp [lg_sl, va_rf_cat, cat_i, cat_l, cat_n]) (by simp [lv_args, va_rf_cat, cat_i, cat_l, cat_n]) ?_
  intro p e s m below meth c ls C M hr hlk hnm hl
  unfold f_Row_at at hf
  refine lv_iload_n C.x C.b dRow_at_0 rfl (lv_at hl 1 rfl) ?_
  refine lv_if_lt (tgt := 21) C.x C.b dRow_at_1 (by decide) (fun c1 => ?_) (fun c1 => ?_)
  · rw [if_pos c1] at hf
    exact b_Row_at_21 C hr hlk hnm _ _ _ M (lv_sub hl [] rfl) hf
  · rw [if_neg c1] at hf
    refine lv_iload_n C.x C.b dRow_at_4 rfl (lv_at hl 1 rfl) ?_
    refine w_aload_n C.x C.b dRow_at_5 rfl (lv_at hl 0 rfl) ?_
    obtain ⟨v6, h6, hf⟩ := Option.bind_eq_some_iff.mp hf
    refine w_getI C M h6 rfl (hm_in in_Row) (by decide) (List.mem_cons_of_mem _ wm_45) rfl dRow_at_6 ?_
    refine lv_icmp_ge (tgt := 21) C.x C.b dRow_at_9 (by decide) (fun c9 => ?_) (fun c9 => ?_)
    · rw [if_pos c9] at hf
      exact b_Row_at_21 C hr hlk hnm _ _ _ M (lv_sub hl [] rfl) hf
    · rw [if_neg c9] at hf
      refine w_aload_n C.x C.b dRow_at_12 rfl (lv_at hl 0 rfl) ?_
      obtain ⟨v13, h13, hf⟩ := Option.bind_eq_some_iff.mp hf
      refine w_getR C M h13 rfl (hm_in in_Row) (by decide) (List.mem_cons_of_mem _ wm_43) rfl dRow_at_13 ?_
      refine lv_iload_n C.x C.b dRow_at_16 rfl (lv_at hl 1 rfl) ?_
      obtain ⟨v17, h17, hf⟩ := Option.bind_eq_some_iff.mp hf
      refine w_iald C M h17 rfl dRow_at_17 ?_
      refine lv_goto (tgt := 22) C.x C.b dRow_at_18 (by decide) ?_
      exact b_Row_at_22 C hr hlk hnm _ _ _ _ M (lv_sub hl [] rfl) hf
theorem dRow_countIfThere_0 : decode prog_6_method_8_code 0 = .ok (.aload_n 0, 1) := by decide +kernel
theorem dRow_countIfThere_1 : decode prog_6_method_8_code 1 = .ok (.getfield 19, 3) := by decide +kernel
theorem dRow_countIfThere_4 : decode prog_6_method_8_code 4 = .ok (.ifCond .eq 10, 3) := by decide +kernel
theorem dRow_countIfThere_7 : decode prog_6_method_8_code 7 = .ok (.aload_n 0, 1) := by decide +kernel
theorem dRow_countIfThere_8 : decode prog_6_method_8_code 8 = .ok (.getfield 15, 3) := by decide +kernel
theorem dRow_countIfThere_11 : decode prog_6_method_8_code 11 = .ok (.goto 4, 3) := by decide +kernel
theorem dRow_countIfThere_14 : decode prog_6_method_8_code 14 = .ok (.iconst (-1), 1) := by decide +kernel
theorem dRow_countIfThere_15 : decode prog_6_method_8_code 15 = .ok (.ireturn, 1) := by decide +kernel
abbrev rm_Row_countIfThere : Room := { frames := 0, cells := 0, slots := 0, locals := 0 }
def f_Row_countIfThere_b15 (E : hE) (t0 : Int32) : Option (Int32) := (
  some t0)
set_option maxHeartbeats 4000000 in
set_option maxRecDepth 100000 in
theorem b_Row_countIfThere_15 {p : Program} {l : Launch} {e : Env} {s : State} {m : MethodId} {args : Array Value} {below : List Frame} {meth : Method} {c : Code} {D : va_G} {kA : Nat → ClassId} {S : hE} {g : Nat → Nat} {n0 nx : Nat} {E : hE} {res : Int32} (C : hX p s m args c prog_6_method_8_code 1 R_Row ws_Row_countIfThere D kA S g n0) (hr : meth.sig.returnType = (some .int)) (hlk : meth.locks = false) (hnm : meth.name = "countIfThere") : ∀ (t0 : Int32) (H : Heap) (locs : List Loc) (ls : Array Slot), hY D kA n0 s E nx H locs → lv_has ls 1 [] → f_Row_countIfThere_b15 E  t0 = some res → W p l e rm_Row_countIfThere s m args below meth c H locs 0 0 (MQ below (va_Qi (fun r w => r = res ∧ w = (E, nx)) (hJ D kA S g n0) (fun q => n0 ≤ q)) args s 0 0 (fun q => n0 ≤ q)) (F0 m 15 ls [.int t0]) := by
  intro t0 H locs ls M hl hf
  unfold f_Row_countIfThere_b15 at hf
  cases hf
  exact w_iret C M hr hlk rfl (Nat.le_refl _) (Nat.le_refl _) dRow_countIfThere_15 rfl rfl
def f_Row_countIfThere (E : hE) (x0 : Nat) : Option (Int32) := (
  (gI E (some x0) 0 2).bind fun v1 =>
  if v1 = 0 then (
  f_Row_countIfThere_b15 E (-1)
  ) else (
  (gI E (some x0) 0 1).bind fun v8 =>
  f_Row_countIfThere_b15 E v8
  ))
set_option maxHeartbeats 4000000 in
set_option maxRecDepth 100000 in
theorem c_Row_countIfThere {l : Launch} {D : va_G} {kA : Nat → ClassId} {S : hE} {g : Nat → Nat} {n0 nx : Nat} {x0 : Nat} {E : hE} {res : Int32} (hf : f_Row_countIfThere E x0 = some res) : Met l y_Row_countIfThere ws_Row_countIfThere rm_Row_countIfThere (va_Pc [va_rf (some x0)] (hJ D kA S g n0 (E, nx))) (va_Qi (fun r w => r = res ∧ w = (E, nx)) (hJ D kA S g n0) (fun q => n0 ≤ q)) 0 0 (fun q => n0 ≤ q) := by
  refine h_met (cc := prog_6_method_8_code) (maxL := 1) (ret := (some .int)) (lvs := [(0, va_rf (some x0))]) zZ_k (by decide) rfl (by simp [lg_sl, va_rf_cat, cat_i, cat_l, cat_n]) (by simp [lv_args, va_rf_cat, cat_i, cat_l, cat_n]) ?_
  intro p e s m below meth c ls C M hr hlk hnm hl
  unfold f_Row_countIfThere at hf
  refine w_aload_n C.x C.b dRow_countIfThere_0 rfl (lv_at hl 0 rfl) ?_
  obtain ⟨v1, h1, hf⟩ := Option.bind_eq_some_iff.mp hf
  refine w_getI C M h1 rfl (hm_in in_Row) (by decide) (List.mem_cons_of_mem _ wm_48) rfl dRow_countIfThere_1 ?_
  refine lv_if_eq (tgt := 14) C.x C.b dRow_countIfThere_4 (by decide) (fun c4 => ?_) (fun c4 => ?_)
  · rw [if_pos c4] at hf
    refine lv_iconst (v := (-1)) C.x C.b dRow_countIfThere_14 (by decide) ?_
    exact b_Row_countIfThere_15 C hr hlk hnm _ _ _ _ M (lv_sub hl [] rfl) hf
  · rw [if_neg c4] at hf
    refine w_aload_n C.x C.b dRow_countIfThere_7 rfl (lv_at hl 0 rfl) ?_
    obtain ⟨v8, h8, hf⟩ := Option.bind_eq_some_iff.mp hf
    refine w_getI C M h8 rfl (hm_in in_Row) (by decide) (List.mem_cons_of_mem _ wm_45) rfl dRow_countIfThere_8 ?_
    refine lv_goto (tgt := 15) C.x C.b dRow_countIfThere_11 (by decide) ?_
    exact b_Row_countIfThere_15 C hr hlk hnm _ _ _ _ M (lv_sub hl [] rfl) hf
theorem dArrs_fill_0 : decode prog_25_method_103_code 0 = .ok (.iconst 0, 1) := by decide +kernel
theorem dArrs_fill_1 : decode prog_25_method_103_code 1 = .ok (.istore_n 2, 1) := by decide +kernel
theorem dArrs_fill_2 : decode prog_25_method_103_code 2 = .ok (.aload_n 0, 1) := by decide +kernel
theorem dArrs_fill_3 : decode prog_25_method_103_code 3 = .ok (.arraylength, 1) := by decide +kernel
theorem dArrs_fill_4 : decode prog_25_method_103_code 4 = .ok (.istore_n 3, 1) := by decide +kernel
theorem dArrs_fill_5 : decode prog_25_method_103_code 5 = .ok (.iload_n 2, 1) := by decide +kernel
theorem dArrs_fill_6 : decode prog_25_method_103_code 6 = .ok (.iload_n 3, 1) := by decide +kernel
theorem dArrs_fill_7 : decode prog_25_method_103_code 7 = .ok (.if_icmp .ge 13, 3) := by decide +kernel
theorem dArrs_fill_10 : decode prog_25_method_103_code 10 = .ok (.aload_n 0, 1) := by decide +kernel
theorem dArrs_fill_11 : decode prog_25_method_103_code 11 = .ok (.iload_n 2, 1) := by decide +kernel
theorem dArrs_fill_12 : decode prog_25_method_103_code 12 = .ok (.iload_n 1, 1) := by decide +kernel
theorem dArrs_fill_13 : decode prog_25_method_103_code 13 = .ok (.iastore, 1) := by decide +kernel
theorem dArrs_fill_14 : decode prog_25_method_103_code 14 = .ok (.iinc 2 1, 3) := by decide +kernel
theorem dArrs_fill_17 : decode prog_25_method_103_code 17 = .ok (.goto (-12), 3) := by decide +kernel
theorem dArrs_fill_20 : decode prog_25_method_103_code 20 = .ok (.return_, 1) := by decide +kernel
abbrev rm_Arrs_fill : Room := { frames := 0, cells := 0, slots := 0, locals := 0 }
def f_Arrs_fill_b5 (N : Nat) : Nat → Option Nat → Int32 → Int32 → Int32 → hE → Option (hE)
  | 0, _, _, _, _, _ => none
  | n + 1, y0, y1, y2, y3, E => (
  if y3 ≤ y2 then (
  some E
  ) else (
  (tI E y0 0 y2 y1).bind fun E13 =>
  f_Arrs_fill_b5 N n y0 y1 (y2 + 1) y3 E13
  ))
set_option maxHeartbeats 4000000 in
set_option maxRecDepth 100000 in
theorem b_Arrs_fill_5 {p : Program} {l : Launch} {e : Env} {s : State} {m : MethodId} {args : Array Value} {below : List Frame} {meth : Method} {c : Code} {D : va_G} {kA : Nat → ClassId} {S : hE} {g : Nat → Nat} {n0 nx : Nat} {N : Nat} {res : hE} (C : hX p s m args c prog_25_method_103_code 4 R_Arrs ws_Arrs_fill D kA S g n0) (hr : meth.sig.returnType = none) (hlk : meth.locks = false) (hnm : meth.name = "fill") : ∀ n : Nat, ∀ (y0 : Option Nat) (y1 : Int32) (y2 : Int32) (y3 : Int32) (E : hE) (H : Heap) (locs : List Loc) (ls : Array Slot), hY D kA n0 s E nx H locs → lv_has ls 4 [(0, va_rf y0), (1, .int y1), (2, .int y2), (3, .int y3)] → f_Arrs_fill_b5 N n y0 y1 y2 y3 E = some res → W p l e rm_Arrs_fill s m args below meth c H locs 0 0 (MQ below (va_Qv (fun w => w = (res, nx)) (hJ D kA S g n0) (fun q => n0 ≤ q)) args s 0 0 (fun q => n0 ≤ q)) (F0 m 5 ls []) := by
  intro n
  induction n with
  | zero =>
    intro y0 y1 y2 y3 E H locs ls M hl hf
    simp [f_Arrs_fill_b5] at hf
  | succ n ih =>
    intro y0 y1 y2 y3 E H locs ls M hl hf
    rw [f_Arrs_fill_b5] at hf
    refine lv_iload_n C.x C.b dArrs_fill_5 rfl (lv_at hl 2 rfl) ?_
    refine lv_iload_n C.x C.b dArrs_fill_6 rfl (lv_at hl 3 rfl) ?_
    refine lv_icmp_ge (tgt := 20) C.x C.b dArrs_fill_7 (by decide) (fun c7 => ?_) (fun c7 => ?_)
    · rw [if_pos c7] at hf
      cases hf
      exact w_vret C M hr hlk (Nat.le_refl _) (Nat.le_refl _) dArrs_fill_20 rfl
    · rw [if_neg c7] at hf
      refine w_aload_n C.x C.b dArrs_fill_10 rfl (lv_at hl 0 rfl) ?_
      refine lv_iload_n C.x C.b dArrs_fill_11 rfl (lv_at hl 2 rfl) ?_
      refine lv_iload_n C.x C.b dArrs_fill_12 rfl (lv_at hl 1 rfl) ?_
      obtain ⟨E13, h13, hf⟩ := Option.bind_eq_some_iff.mp hf
      refine w_iast C M h13 rfl dArrs_fill_13 (fun H locs M => ?_)
      refine lv_iinc (v := y2 + 1) (lv' := [(2, .int (y2 + 1)), (0, va_rf y0), (1, .int y1), (3, .int y3)]) C.x C.b dArrs_fill_14 hl (k := 2) rfl rfl (by decide) rfl (fun ls hl => ?_)
      refine lv_goto (tgt := 5) C.x C.b dArrs_fill_17 (by decide) ?_
      exact ih _ _ _ _ _ _ _ _ M (lv_sub hl [1, 2, 0, 3] rfl) hf
def f_Arrs_fill (N : Nat) (x0 : Option Nat) (x1 : Int32) (E : hE) : Option (hE) := (
  (aL E x0 0).bind fun v3 =>
  f_Arrs_fill_b5 N N x0 x1 0 v3 E)
set_option maxHeartbeats 4000000 in
set_option maxRecDepth 100000 in
theorem c_Arrs_fill {l : Launch} {D : va_G} {kA : Nat → ClassId} {S : hE} {g : Nat → Nat} {n0 nx : Nat} {N : Nat} {x0 : Option Nat} {x1 : Int32} {E : hE} {res : hE} (hf : f_Arrs_fill N x0 x1 E = some res) : Met l y_Arrs_fill ws_Arrs_fill rm_Arrs_fill (va_Pc [va_rf x0, .int x1] (hJ D kA S g n0 (E, nx))) (va_Qv (fun w => w = (res, nx)) (hJ D kA S g n0) (fun q => n0 ≤ q)) 0 0 (fun q => n0 ≤ q) := by
  refine h_met (cc := prog_25_method_103_code) (maxL := 4) (ret := none) (lvs := [(0, va_rf x0), (1, .int x1)]) zZ_k (by decide) rfl (by simp [lg_sl, va_rf_cat, cat_i, cat_l, cat_n]) (by simp [lv_args, va_rf_cat, cat_i, cat_l, cat_n]) ?_
  intro p e s m below meth c ls C M hr hlk hnm hl
  unfold f_Arrs_fill at hf
  refine lv_iconst (v := 0) C.x C.b dArrs_fill_0 (by decide) ?_
  refine lv_istore_n (lv' := [(2, .int 0), (0, va_rf x0), (1, .int x1)]) C.x C.b dArrs_fill_1 rfl hl (by decide) rfl (fun ls hl => ?_)
  refine w_aload_n C.x C.b dArrs_fill_2 rfl (lv_at hl 1 rfl) ?_
  obtain ⟨v3, h3, hf⟩ := Option.bind_eq_some_iff.mp hf
  refine w_alen C M h3 rfl dArrs_fill_3 ?_
  refine lv_istore_n (lv' := [(3, .int v3), (2, .int 0), (0, va_rf x0), (1, .int x1)]) C.x C.b dArrs_fill_4 rfl hl (by decide) rfl (fun ls hl => ?_)
  exact b_Arrs_fill_5 C hr hlk hnm N _ _ _ _ _ _ _ _ M (lv_sub hl [2, 3, 1, 0] rfl) hf
end
