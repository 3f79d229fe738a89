theorem wm_1 : (Cond.initialized "StepPrograms") ∈ lw_g := wt (List.mem_of_getElem? (i := 1) (by decide +kernel)) rfl
theorem wm_2 : (Cond.initialized "StepPrograms$Tape") ∈ lw_g := wt (List.mem_of_getElem? (i := 2) (by decide +kernel)) rfl
theorem wm_3 : (Cond.initialized "StepPrograms$Row") ∈ lw_g := wt (List.mem_of_getElem? (i := 3) (by decide +kernel)) rfl
theorem wm_4 : (Cond.initialized "StepPrograms$Machine") ∈ lw_g := wt (List.mem_of_getElem? (i := 4) (by decide +kernel)) rfl
theorem wm_5 : (Cond.initialized "StepPrograms$Frame") ∈ lw_g := wt (List.mem_of_getElem? (i := 5) (by decide +kernel)) rfl
theorem wm_6 : (Cond.initialized "StepProgramsModel") ∈ lw_g := wt (List.mem_of_getElem? (i := 6) (by decide +kernel)) rfl
theorem wm_7 : (Cond.initialized "StepPrograms$Script") ∈ lw_g := wt (List.mem_of_getElem? (i := 7) (by decide +kernel)) rfl
theorem wm_8 : (Cond.initialized "java/util/AbstractCollection") ∈ lw_g := wt (List.mem_of_getElem? (i := 8) (by decide +kernel)) rfl
theorem wm_9 : (Cond.initialized "java/util/AbstractList") ∈ lw_g := wt (List.mem_of_getElem? (i := 9) (by decide +kernel)) rfl
theorem wm_10 : (Cond.initialized "java/util/ArrayList") ∈ lw_g := wt (List.mem_of_getElem? (i := 10) (by decide +kernel)) rfl
theorem wm_11 : (Cond.initialized "java/util/Arrays") ∈ lw_g := wt (List.mem_of_getElem? (i := 11) (by decide +kernel)) rfl
theorem wm_12 : (Cond.initialized "java/lang/String") ∈ lw_g := wt (List.mem_of_getElem? (i := 12) (by decide +kernel)) rfl
theorem wm_13 : (Cond.initialized "java/lang/StringLatin1") ∈ lw_g := wt (List.mem_of_getElem? (i := 13) (by decide +kernel)) rfl
theorem wm_14 : (Cond.initialized "jdk/internal/util/Preconditions") ∈ lw_g := wt (List.mem_of_getElem? (i := 14) (by decide +kernel)) rfl
theorem wm_16 : (Cond.initialized "java/lang/Math") ∈ lw_g := wt (List.mem_of_getElem? (i := 16) (by decide +kernel)) rfl
theorem wm_18 : (Cond.initialized "StepPrograms$Statement") ∈ lw_g := wt (List.mem_of_getElem? (i := 18) (by decide +kernel)) rfl
theorem wm_19 : (Cond.initialized "jdk/internal/util/ArraysSupport") ∈ lw_g := wt (List.mem_of_getElem? (i := 19) (by decide +kernel)) rfl
theorem wm_20 : (Cond.initialized "java/lang/System") ∈ lw_g := wt (List.mem_of_getElem? (i := 20) (by decide +kernel)) rfl
theorem wm_21 : (Cond.initialized "java/util/Objects") ∈ lw_g := wt (List.mem_of_getElem? (i := 21) (by decide +kernel)) rfl
theorem wm_28 : (Cond.methodLink "StepPrograms" (1 : Nat) ({ cls := "java/lang/Object", name := "<init>", desc := "()V" } : MethodName)) ∈ lw_g := wt (List.mem_of_getElem? (i := 28) (by decide +kernel)) rfl
theorem wm_29 : (Cond.instanceMethod ({ cls := "java/lang/Object", name := "<init>", desc := "()V" } : MethodName)) ∈ lw_g := wt (List.mem_of_getElem? (i := 29) (by decide +kernel)) rfl
set_option maxRecDepth 100000 in
theorem wm_30 : (Cond.code ({ cls := "java/lang/Object", name := "<init>", desc := "()V" } : MethodName) object_method_1_code (1 : Nat) (Option.none : Option FieldType)) ∈ lw_g := wt (List.mem_of_getElem? (i := 30) rfl) rfl
theorem wm_31 : (Cond.classLink "StepPrograms" (7 : Nat) "StepPrograms$Tape") ∈ lw_g := wt (List.mem_of_getElem? (i := 31) (by decide +kernel)) rfl
theorem wm_32 : (Cond.instantiable "StepPrograms$Tape" (9 : Nat)) ∈ lw_g := wt (List.mem_of_getElem? (i := 32) (by decide +kernel)) rfl
theorem wm_34 : (Cond.instanceMethod ({ cls := "StepPrograms$Tape", name := "<init>", desc := "()V" } : MethodName)) ∈ lw_g := wt (List.mem_of_getElem? (i := 34) (by decide +kernel)) rfl
set_option maxRecDepth 100000 in
theorem wm_35 : (Cond.code ({ cls := "StepPrograms$Tape", name := "<init>", desc := "()V" } : MethodName) prog_9_method_1_code (1 : Nat) (Option.none : Option FieldType)) ∈ lw_g := wt (List.mem_of_getElem? (i := 35) rfl) rfl
theorem wm_36 : (Cond.methodLink "StepPrograms$Tape" (3 : Nat) ({ cls := "java/lang/Object", name := "<init>", desc := "()V" } : MethodName)) ∈ lw_g := wt (List.mem_of_getElem? (i := 36) (by decide +kernel)) rfl
theorem wm_37 : (Cond.classLink "StepPrograms$Tape" (9 : Nat) "StepPrograms$Row") ∈ lw_g := wt (List.mem_of_getElem? (i := 37) (by decide +kernel)) rfl
theorem wm_38 : (Cond.instantiable "StepPrograms$Row" (3 : Nat)) ∈ lw_g := wt (List.mem_of_getElem? (i := 38) (by decide +kernel)) rfl
theorem wm_39 : (Cond.methodLink "StepPrograms$Tape" (11 : Nat) ({ cls := "StepPrograms$Row", name := "<init>", desc := "(I)V" } : MethodName)) ∈ lw_g := wt (List.mem_of_getElem? (i := 39) (by decide +kernel)) rfl
theorem wm_40 : (Cond.instanceMethod ({ cls := "StepPrograms$Row", name := "<init>", desc := "(I)V" } : MethodName)) ∈ lw_g := wt (List.mem_of_getElem? (i := 40) (by decide +kernel)) rfl
set_option maxRecDepth 100000 in
theorem wm_41 : (Cond.code ({ cls := "StepPrograms$Row", name := "<init>", desc := "(I)V" } : MethodName) prog_6_method_1_code (2 : Nat) (Option.none : Option FieldType)) ∈ lw_g := wt (List.mem_of_getElem? (i := 41) rfl) rfl
theorem wm_42 : (Cond.methodLink "StepPrograms$Row" (3 : Nat) ({ cls := "java/lang/Object", name := "<init>", desc := "()V" } : MethodName)) ∈ lw_g := wt (List.mem_of_getElem? (i := 42) (by decide +kernel)) rfl
theorem wm_43 : (Cond.fieldLink "StepPrograms$Row" (9 : Nat) "StepPrograms$Row" "bytes" "[I") ∈ lw_g := wt (List.mem_of_getElem? (i := 43) (by decide +kernel)) rfl
theorem wm_44 : (Cond.fieldLink "StepPrograms$Tape" (153 : Nat) "StepPrograms$Row" "bytes" "[I") ∈ lw_g := wt (List.mem_of_getElem? (i := 44) (by decide +kernel)) rfl
theorem wm_45 : (Cond.fieldLink "StepPrograms$Row" (15 : Nat) "StepPrograms$Row" "count" "I") ∈ lw_g := wt (List.mem_of_getElem? (i := 45) (by decide +kernel)) rfl
theorem wm_46 : (Cond.fieldLink "StepPrograms$Tape" (31 : Nat) "StepPrograms$Row" "count" "I") ∈ lw_g := wt (List.mem_of_getElem? (i := 46) (by decide +kernel)) rfl
theorem wm_47 : (Cond.fieldLink "StepPrograms" (88 : Nat) "StepPrograms$Row" "count" "I") ∈ lw_g := wt (List.mem_of_getElem? (i := 47) (by decide +kernel)) rfl
theorem wm_48 : (Cond.fieldLink "StepPrograms$Row" (19 : Nat) "StepPrograms$Row" "there" "Z") ∈ lw_g := wt (List.mem_of_getElem? (i := 48) (by decide +kernel)) rfl
theorem wm_49 : (Cond.fieldLink "StepPrograms$Machine" (215 : Nat) "StepPrograms$Row" "there" "Z") ∈ lw_g := wt (List.mem_of_getElem? (i := 49) (by decide +kernel)) rfl
theorem wm_57 : (Cond.arrayClass FieldType.int) ∈ lw_g := wt (List.mem_of_getElem? (i := 57) (by decide +kernel)) rfl
theorem wm_58 : (Cond.fieldLink "StepPrograms$Tape" (14 : Nat) "StepPrograms$Tape" "row" "LStepPrograms$Row;") ∈ lw_g := wt (List.mem_of_getElem? (i := 58) (by decide +kernel)) rfl
theorem wm_59 : (Cond.fieldLink "StepPrograms" (31 : Nat) "StepPrograms$Tape" "row" "LStepPrograms$Row;") ∈ lw_g := wt (List.mem_of_getElem? (i := 59) (by decide +kernel)) rfl
theorem wm_60 : (Cond.fieldLink "StepPrograms$Tape" (20 : Nat) "StepPrograms$Tape" "from" "[I") ∈ lw_g := wt (List.mem_of_getElem? (i := 60) (by decide +kernel)) rfl
theorem wm_61 : (Cond.fieldLink "StepPrograms$Tape" (24 : Nat) "StepPrograms$Tape" "to" "[I") ∈ lw_g := wt (List.mem_of_getElem? (i := 61) (by decide +kernel)) rfl
theorem wm_62 : (Cond.fieldLink "StepPrograms$Tape" (27 : Nat) "StepPrograms$Tape" "words" "I") ∈ lw_g := wt (List.mem_of_getElem? (i := 62) (by decide +kernel)) rfl
theorem wm_63 : (Cond.fieldLink "StepPrograms$Tape" (83 : Nat) "StepPrograms$Tape" "into" "I") ∈ lw_g := wt (List.mem_of_getElem? (i := 63) (by decide +kernel)) rfl
theorem wm_64 : (Cond.fieldLink "StepPrograms$Tape" (86 : Nat) "StepPrograms$Tape" "left" "I") ∈ lw_g := wt (List.mem_of_getElem? (i := 64) (by decide +kernel)) rfl
theorem wm_65 : (Cond.fieldLink "StepPrograms$Tape" (89 : Nat) "StepPrograms$Tape" "sign" "I") ∈ lw_g := wt (List.mem_of_getElem? (i := 65) (by decide +kernel)) rfl
theorem wm_66 : (Cond.fieldLink "StepPrograms$Tape" (92 : Nat) "StepPrograms$Tape" "right" "I") ∈ lw_g := wt (List.mem_of_getElem? (i := 66) (by decide +kernel)) rfl
theorem wm_67 : (Cond.fieldLink "StepPrograms$Tape" (95 : Nat) "StepPrograms$Tape" "label" "I") ∈ lw_g := wt (List.mem_of_getElem? (i := 67) (by decide +kernel)) rfl
theorem wm_87 : (Cond.classLink "StepPrograms" (16 : Nat) "StepPrograms$Machine") ∈ lw_g := wt (List.mem_of_getElem? (i := 87) (by decide +kernel)) rfl
theorem wm_88 : (Cond.instantiable "StepPrograms$Machine" (13 : Nat)) ∈ lw_g := wt (List.mem_of_getElem? (i := 88) (by decide +kernel)) rfl
theorem wm_89 : (Cond.methodLink "StepPrograms" (18 : Nat) ({ cls := "StepPrograms$Machine", name := "<init>", desc := "()V" } : MethodName)) ∈ lw_g := wt (List.mem_of_getElem? (i := 89) (by decide +kernel)) rfl
theorem wm_90 : (Cond.instanceMethod ({ cls := "StepPrograms$Machine", name := "<init>", desc := "()V" } : MethodName)) ∈ lw_g := wt (List.mem_of_getElem? (i := 90) (by decide +kernel)) rfl
set_option maxRecDepth 100000 in
theorem wm_91 : (Cond.code ({ cls := "StepPrograms$Machine", name := "<init>", desc := "()V" } : MethodName) prog_5_method_1_code (2 : Nat) (Option.none : Option FieldType)) ∈ lw_g := wt (List.mem_of_getElem? (i := 91) rfl) rfl
theorem wm_92 : (Cond.methodLink "StepPrograms$Machine" (3 : Nat) ({ cls := "java/lang/Object", name := "<init>", desc := "()V" } : MethodName)) ∈ lw_g := wt (List.mem_of_getElem? (i := 92) (by decide +kernel)) rfl
theorem wm_93 : (Cond.classLink "StepPrograms$Machine" (9 : Nat) "StepPrograms$Script") ∈ lw_g := wt (List.mem_of_getElem? (i := 93) (by decide +kernel)) rfl
theorem wm_95 : (Cond.classLink "StepPrograms$Machine" (21 : Nat) "StepPrograms$Row") ∈ lw_g := wt (List.mem_of_getElem? (i := 95) (by decide +kernel)) rfl
theorem wm_96 : (Cond.methodLink "StepPrograms$Machine" (23 : Nat) ({ cls := "StepPrograms$Row", name := "<init>", desc := "(I)V" } : MethodName)) ∈ lw_g := wt (List.mem_of_getElem? (i := 96) (by decide +kernel)) rfl
theorem wm_97 : (Cond.classLink "StepPrograms$Machine" (33 : Nat) "StepPrograms$Frame") ∈ lw_g := wt (List.mem_of_getElem? (i := 97) (by decide +kernel)) rfl
theorem wm_98 : (Cond.instantiable "StepPrograms$Frame" (7 : Nat)) ∈ lw_g := wt (List.mem_of_getElem? (i := 98) (by decide +kernel)) rfl
theorem wm_99 : (Cond.methodLink "StepPrograms$Machine" (35 : Nat) ({ cls := "StepPrograms$Frame", name := "<init>", desc := "(I)V" } : MethodName)) ∈ lw_g := wt (List.mem_of_getElem? (i := 99) (by decide +kernel)) rfl
theorem wm_100 : (Cond.instanceMethod ({ cls := "StepPrograms$Frame", name := "<init>", desc := "(I)V" } : MethodName)) ∈ lw_g := wt (List.mem_of_getElem? (i := 100) (by decide +kernel)) rfl
set_option maxRecDepth 100000 in
theorem wm_101 : (Cond.code ({ cls := "StepPrograms$Frame", name := "<init>", desc := "(I)V" } : MethodName) prog_4_method_1_code (2 : Nat) (Option.none : Option FieldType)) ∈ lw_g := wt (List.mem_of_getElem? (i := 101) rfl) rfl
theorem wm_102 : (Cond.methodLink "StepPrograms$Frame" (3 : Nat) ({ cls := "java/lang/Object", name := "<init>", desc := "()V" } : MethodName)) ∈ lw_g := wt (List.mem_of_getElem? (i := 102) (by decide +kernel)) rfl
theorem wm_103 : (Cond.fieldLink "StepPrograms$Frame" (21 : Nat) "StepPrograms$Frame" "depth" "I") ∈ lw_g := wt (List.mem_of_getElem? (i := 103) (by decide +kernel)) rfl
theorem wm_104 : (Cond.fieldLink "StepPrograms$Machine" (78 : Nat) "StepPrograms$Frame" "depth" "I") ∈ lw_g := wt (List.mem_of_getElem? (i := 104) (by decide +kernel)) rfl
theorem wm_105 : (Cond.fieldLink "StepPrograms$Frame" (9 : Nat) "StepPrograms$Frame" "registers" "[I") ∈ lw_g := wt (List.mem_of_getElem? (i := 105) (by decide +kernel)) rfl
theorem wm_106 : (Cond.fieldLink "StepPrograms" (113 : Nat) "StepPrograms$Frame" "registers" "[I") ∈ lw_g := wt (List.mem_of_getElem? (i := 106) (by decide +kernel)) rfl
theorem wm_107 : (Cond.fieldLink "StepPrograms$Frame" (15 : Nat) "StepPrograms$Frame" "cells" "[I") ∈ lw_g := wt (List.mem_of_getElem? (i := 107) (by decide +kernel)) rfl
theorem wm_108 : (Cond.fieldLink "StepPrograms$Machine" (205 : Nat) "StepPrograms$Frame" "cells" "[I") ∈ lw_g := wt (List.mem_of_getElem? (i := 108) (by decide +kernel)) rfl
theorem wm_109 : (Cond.fieldLink "StepPrograms$Frame" (18 : Nat) "StepPrograms$Frame" "calls" "[I") ∈ lw_g := wt (List.mem_of_getElem? (i := 109) (by decide +kernel)) rfl
theorem wm_110 : (Cond.fieldLink "StepPrograms$Frame" (31 : Nat) "StepPrograms$Frame" "open" "I") ∈ lw_g := wt (List.mem_of_getElem? (i := 110) (by decide +kernel)) rfl
theorem wm_111 : (Cond.fieldLink "StepPrograms$Frame" (34 : Nat) "StepPrograms$Frame" "next" "I") ∈ lw_g := wt (List.mem_of_getElem? (i := 111) (by decide +kernel)) rfl
theorem wm_112 : (Cond.fieldLink "StepPrograms$Machine" (87 : Nat) "StepPrograms$Frame" "next" "I") ∈ lw_g := wt (List.mem_of_getElem? (i := 112) (by decide +kernel)) rfl
theorem wm_113 : (Cond.fieldLink "StepPrograms$Machine" (97 : Nat) "StepPrograms$Frame" "line" "I") ∈ lw_g := wt (List.mem_of_getElem? (i := 113) (by decide +kernel)) rfl
theorem wm_114 : (Cond.fieldLink "StepPrograms" (101 : Nat) "StepPrograms$Frame" "line" "I") ∈ lw_g := wt (List.mem_of_getElem? (i := 114) (by decide +kernel)) rfl
theorem wm_130 : (Cond.arrayClass FieldType.boolean) ∈ lw_g := wt (List.mem_of_getElem? (i := 130) (by decide +kernel)) rfl
theorem wm_133 : (Cond.fieldLink "StepPrograms$Machine" (11 : Nat) "StepPrograms$Machine" "scripts" "[LStepPrograms$Script;") ∈ lw_g := wt (List.mem_of_getElem? (i := 133) (by decide +kernel)) rfl
theorem wm_134 : (Cond.fieldLink "StepPrograms" (54 : Nat) "StepPrograms$Machine" "scripts" "[LStepPrograms$Script;") ∈ lw_g := wt (List.mem_of_getElem? (i := 134) (by decide +kernel)) rfl
theorem wm_135 : (Cond.fieldLink "StepPrograms$Machine" (17 : Nat) "StepPrograms$Machine" "planted" "[Z") ∈ lw_g := wt (List.mem_of_getElem? (i := 135) (by decide +kernel)) rfl
theorem wm_136 : (Cond.fieldLink "StepPrograms" (65 : Nat) "StepPrograms$Machine" "planted" "[Z") ∈ lw_g := wt (List.mem_of_getElem? (i := 136) (by decide +kernel)) rfl
theorem wm_137 : (Cond.fieldLink "StepPrograms$Machine" (26 : Nat) "StepPrograms$Machine" "out" "LStepPrograms$Row;") ∈ lw_g := wt (List.mem_of_getElem? (i := 137) (by decide +kernel)) rfl
theorem wm_138 : (Cond.fieldLink "StepPrograms" (85 : Nat) "StepPrograms$Machine" "out" "LStepPrograms$Row;") ∈ lw_g := wt (List.mem_of_getElem? (i := 138) (by decide +kernel)) rfl
theorem wm_139 : (Cond.fieldLink "StepPrograms$Machine" (30 : Nat) "StepPrograms$Machine" "err" "LStepPrograms$Row;") ∈ lw_g := wt (List.mem_of_getElem? (i := 139) (by decide +kernel)) rfl
theorem wm_140 : (Cond.fieldLink "StepPrograms" (91 : Nat) "StepPrograms$Machine" "err" "LStepPrograms$Row;") ∈ lw_g := wt (List.mem_of_getElem? (i := 140) (by decide +kernel)) rfl
theorem wm_141 : (Cond.fieldLink "StepPrograms$Machine" (36 : Nat) "StepPrograms$Machine" "first" "LStepPrograms$Frame;") ∈ lw_g := wt (List.mem_of_getElem? (i := 141) (by decide +kernel)) rfl
theorem wm_142 : (Cond.fieldLink "StepPrograms" (97 : Nat) "StepPrograms$Machine" "first" "LStepPrograms$Frame;") ∈ lw_g := wt (List.mem_of_getElem? (i := 142) (by decide +kernel)) rfl
theorem wm_143 : (Cond.fieldLink "StepPrograms$Machine" (40 : Nat) "StepPrograms$Machine" "files" "[LStepPrograms$Row;") ∈ lw_g := wt (List.mem_of_getElem? (i := 143) (by decide +kernel)) rfl
theorem wm_144 : (Cond.fieldLink "StepPrograms$Machine" (44 : Nat) "StepPrograms$Machine" "children" "[LStepPrograms$Frame;") ∈ lw_g := wt (List.mem_of_getElem? (i := 144) (by decide +kernel)) rfl
theorem wm_145 : (Cond.fieldLink "StepPrograms$Machine" (52 : Nat) "StepPrograms$Machine" "hasRun" "Z") ∈ lw_g := wt (List.mem_of_getElem? (i := 145) (by decide +kernel)) rfl
theorem wm_146 : (Cond.fieldLink "StepPrograms" (77 : Nat) "StepPrograms$Machine" "hasRun" "Z") ∈ lw_g := wt (List.mem_of_getElem? (i := 146) (by decide +kernel)) rfl
theorem wm_147 : (Cond.fieldLink "StepPrograms$Machine" (56 : Nat) "StepPrograms$Machine" "steps" "I") ∈ lw_g := wt (List.mem_of_getElem? (i := 147) (by decide +kernel)) rfl
theorem wm_148 : (Cond.fieldLink "StepPrograms" (81 : Nat) "StepPrograms$Machine" "steps" "I") ∈ lw_g := wt (List.mem_of_getElem? (i := 148) (by decide +kernel)) rfl
theorem wm_149 : (Cond.fieldLink "StepPrograms$Machine" (59 : Nat) "StepPrograms$Machine" "deepest" "I") ∈ lw_g := wt (List.mem_of_getElem? (i := 149) (by decide +kernel)) rfl
theorem wm_150 : (Cond.fieldLink "StepPrograms" (94 : Nat) "StepPrograms$Machine" "deepest" "I") ∈ lw_g := wt (List.mem_of_getElem? (i := 150) (by decide +kernel)) rfl
theorem wm_151 : (Cond.fieldLink "StepPrograms$Machine" (62 : Nat) "StepPrograms$Machine" "begun" "I") ∈ lw_g := wt (List.mem_of_getElem? (i := 151) (by decide +kernel)) rfl
theorem wm_152 : (Cond.fieldLink "StepPrograms" (106 : Nat) "StepPrograms$Machine" "begun" "I") ∈ lw_g := wt (List.mem_of_getElem? (i := 152) (by decide +kernel)) rfl
theorem wm_153 : (Cond.fieldLink "StepPrograms$Machine" (48 : Nat) "StepPrograms$Machine" "bound" "I") ∈ lw_g := wt (List.mem_of_getElem? (i := 153) (by decide +kernel)) rfl
theorem wm_154 : (Cond.fieldLink "StepPrograms$Machine" (65 : Nat) "StepPrograms$Machine" "beyondBound" "Z") ∈ lw_g := wt (List.mem_of_getElem? (i := 154) (by decide +kernel)) rfl
theorem wm_182 : (Cond.fieldLink "StepPrograms" (10 : Nat) "StepPrograms" "tape" "LStepPrograms$Tape;") ∈ lw_g := wt (List.mem_of_getElem? (i := 182) (by decide +kernel)) rfl
theorem wm_183 : (Cond.fieldLink "StepPrograms" (19 : Nat) "StepPrograms" "machine" "LStepPrograms$Machine;") ∈ lw_g := wt (List.mem_of_getElem? (i := 183) (by decide +kernel)) rfl
theorem wm_193 : (Cond.methodLink "StepPrograms" (23 : Nat) ({ cls := "StepPrograms", name := "byteAt", desc := "(JI)I" } : MethodName)) ∈ lw_g := wt (List.mem_of_getElem? (i := 193) (by decide +kernel)) rfl
theorem wm_194 : (Cond.static ({ cls := "StepPrograms", name := "byteAt", desc := "(JI)I" } : MethodName)) ∈ lw_g := wt (List.mem_of_getElem? (i := 194) (by decide +kernel)) rfl
set_option maxRecDepth 100000 in
theorem wm_195 : (Cond.code ({ cls := "StepPrograms", name := "byteAt", desc := "(JI)I" } : MethodName) prog_1_method_13_code (3 : Nat) (Option.some FieldType.int)) ∈ lw_g := wt (List.mem_of_getElem? (i := 195) rfl) rfl
theorem wm_196 : (Cond.methodLink "StepPrograms" (27 : Nat) ({ cls := "StepPrograms", name := "isCharacter", desc := "(I)Z" } : MethodName)) ∈ lw_g := wt (List.mem_of_getElem? (i := 196) (by decide +kernel)) rfl
theorem wm_197 : (Cond.static ({ cls := "StepPrograms", name := "isCharacter", desc := "(I)Z" } : MethodName)) ∈ lw_g := wt (List.mem_of_getElem? (i := 197) (by decide +kernel)) rfl
set_option maxRecDepth 100000 in
theorem wm_198 : (Cond.code ({ cls := "StepPrograms", name := "isCharacter", desc := "(I)Z" } : MethodName) prog_1_method_14_code (1 : Nat) (Option.some FieldType.boolean)) ∈ lw_g := wt (List.mem_of_getElem? (i := 198) rfl) rfl
theorem wm_199 : (Cond.methodLink "StepPrograms" (35 : Nat) ({ cls := "StepPrograms$Row", name := "hasRoomFor", desc := "(I)Z" } : MethodName)) ∈ lw_g := wt (List.mem_of_getElem? (i := 199) (by decide +kernel)) rfl
theorem wm_200 : (Cond.instanceMethod ({ cls := "StepPrograms$Row", name := "hasRoomFor", desc := "(I)Z" } : MethodName)) ∈ lw_g := wt (List.mem_of_getElem? (i := 200) (by decide +kernel)) rfl
theorem wm_201 : (Cond.selects "StepPrograms$Row" ({ cls := "StepPrograms$Row", name := "hasRoomFor", desc := "(I)Z" } : MethodName) ({ cls := "StepPrograms$Row", name := "hasRoomFor", desc := "(I)Z" } : MethodName)) ∈ lw_g := wt (List.mem_of_getElem? (i := 201) (by decide +kernel)) rfl
set_option maxRecDepth 100000 in
theorem wm_202 : (Cond.code ({ cls := "StepPrograms$Row", name := "hasRoomFor", desc := "(I)Z" } : MethodName) prog_6_method_2_code (2 : Nat) (Option.some FieldType.boolean)) ∈ lw_g := wt (List.mem_of_getElem? (i := 202) rfl) rfl
theorem wm_203 : (Cond.methodLink "StepPrograms" (40 : Nat) ({ cls := "StepPrograms$Row", name := "add", desc := "(I)V" } : MethodName)) ∈ lw_g := wt (List.mem_of_getElem? (i := 203) (by decide +kernel)) rfl
theorem wm_204 : (Cond.instanceMethod ({ cls := "StepPrograms$Row", name := "add", desc := "(I)V" } : MethodName)) ∈ lw_g := wt (List.mem_of_getElem? (i := 204) (by decide +kernel)) rfl
theorem wm_205 : (Cond.selects "StepPrograms$Row" ({ cls := "StepPrograms$Row", name := "add", desc := "(I)V" } : MethodName) ({ cls := "StepPrograms$Row", name := "add", desc := "(I)V" } : MethodName)) ∈ lw_g := wt (List.mem_of_getElem? (i := 205) (by decide +kernel)) rfl
set_option maxRecDepth 100000 in
theorem wm_206 : (Cond.code ({ cls := "StepPrograms$Row", name := "add", desc := "(I)V" } : MethodName) prog_6_method_3_code (2 : Nat) (Option.none : Option FieldType)) ∈ lw_g := wt (List.mem_of_getElem? (i := 206) rfl) rfl
theorem wm_211 : (Cond.methodLink "StepPrograms" (44 : Nat) ({ cls := "StepPrograms$Row", name := "makeEmpty", desc := "()V" } : MethodName)) ∈ lw_g := wt (List.mem_of_getElem? (i := 211) (by decide +kernel)) rfl
theorem wm_212 : (Cond.instanceMethod ({ cls := "StepPrograms$Row", name := "makeEmpty", desc := "()V" } : MethodName)) ∈ lw_g := wt (List.mem_of_getElem? (i := 212) (by decide +kernel)) rfl
theorem wm_213 : (Cond.selects "StepPrograms$Row" ({ cls := "StepPrograms$Row", name := "makeEmpty", desc := "()V" } : MethodName) ({ cls := "StepPrograms$Row", name := "makeEmpty", desc := "()V" } : MethodName)) ∈ lw_g := wt (List.mem_of_getElem? (i := 213) (by decide +kernel)) rfl
set_option maxRecDepth 100000 in
theorem wm_214 : (Cond.code ({ cls := "StepPrograms$Row", name := "makeEmpty", desc := "()V" } : MethodName) prog_6_method_4_code (1 : Nat) (Option.none : Option FieldType)) ∈ lw_g := wt (List.mem_of_getElem? (i := 214) rfl) rfl
theorem wm_215 : (Cond.classLink "StepPrograms" (47 : Nat) "StepPrograms$Script") ∈ lw_g := wt (List.mem_of_getElem? (i := 215) (by decide +kernel)) rfl
theorem wm_216 : (Cond.instantiable "StepPrograms$Script" (3 : Nat)) ∈ lw_g := wt (List.mem_of_getElem? (i := 216) (by decide +kernel)) rfl
theorem wm_217 : (Cond.methodLink "StepPrograms" (49 : Nat) ({ cls := "StepPrograms$Script", name := "<init>", desc := "()V" } : MethodName)) ∈ lw_g := wt (List.mem_of_getElem? (i := 217) (by decide +kernel)) rfl
theorem wm_218 : (Cond.instanceMethod ({ cls := "StepPrograms$Script", name := "<init>", desc := "()V" } : MethodName)) ∈ lw_g := wt (List.mem_of_getElem? (i := 218) (by decide +kernel)) rfl
set_option maxRecDepth 100000 in
theorem wm_219 : (Cond.code ({ cls := "StepPrograms$Script", name := "<init>", desc := "()V" } : MethodName) prog_7_method_1_code (1 : Nat) (Option.none : Option FieldType)) ∈ lw_g := wt (List.mem_of_getElem? (i := 219) rfl) rfl
theorem wm_220 : (Cond.methodLink "StepPrograms$Script" (3 : Nat) ({ cls := "java/lang/Object", name := "<init>", desc := "()V" } : MethodName)) ∈ lw_g := wt (List.mem_of_getElem? (i := 220) (by decide +kernel)) rfl
theorem wm_221 : (Cond.classLink "StepPrograms$Script" (9 : Nat) "java/util/ArrayList") ∈ lw_g := wt (List.mem_of_getElem? (i := 221) (by decide +kernel)) rfl
theorem wm_222 : (Cond.instantiable "java/util/ArrayList" (3 : Nat)) ∈ lw_g := wt (List.mem_of_getElem? (i := 222) (by decide +kernel)) rfl
theorem wm_223 : (Cond.methodLink "StepPrograms$Script" (11 : Nat) ({ cls := "java/util/ArrayList", name := "<init>", desc := "()V" } : MethodName)) ∈ lw_g := wt (List.mem_of_getElem? (i := 223) (by decide +kernel)) rfl
theorem wm_224 : (Cond.instanceMethod ({ cls := "java/util/ArrayList", name := "<init>", desc := "()V" } : MethodName)) ∈ lw_g := wt (List.mem_of_getElem? (i := 224) (by decide +kernel)) rfl
set_option maxRecDepth 100000 in
theorem wm_225 : (Cond.code ({ cls := "java/util/ArrayList", name := "<init>", desc := "()V" } : MethodName) prog_24_method_2_code (1 : Nat) (Option.none : Option FieldType)) ∈ lw_g := wt (List.mem_of_getElem? (i := 225) rfl) rfl
theorem wm_226 : (Cond.methodLink "java/util/ArrayList" (1 : Nat) ({ cls := "java/util/AbstractList", name := "<init>", desc := "()V" } : MethodName)) ∈ lw_g := wt (List.mem_of_getElem? (i := 226) (by decide +kernel)) rfl
theorem wm_227 : (Cond.instanceMethod ({ cls := "java/util/AbstractList", name := "<init>", desc := "()V" } : MethodName)) ∈ lw_g := wt (List.mem_of_getElem? (i := 227) (by decide +kernel)) rfl
set_option maxRecDepth 100000 in
theorem wm_228 : (Cond.code ({ cls := "java/util/AbstractList", name := "<init>", desc := "()V" } : MethodName) prog_23_method_1_code (1 : Nat) (Option.none : Option FieldType)) ∈ lw_g := wt (List.mem_of_getElem? (i := 228) rfl) rfl
theorem wm_229 : (Cond.methodLink "java/util/AbstractList" (1 : Nat) ({ cls := "java/util/AbstractCollection", name := "<init>", desc := "()V" } : MethodName)) ∈ lw_g := wt (List.mem_of_getElem? (i := 229) (by decide +kernel)) rfl
theorem wm_230 : (Cond.instanceMethod ({ cls := "java/util/AbstractCollection", name := "<init>", desc := "()V" } : MethodName)) ∈ lw_g := wt (List.mem_of_getElem? (i := 230) (by decide +kernel)) rfl
set_option maxRecDepth 100000 in
theorem wm_231 : (Cond.code ({ cls := "java/util/AbstractCollection", name := "<init>", desc := "()V" } : MethodName) prog_22_method_1_code (1 : Nat) (Option.none : Option FieldType)) ∈ lw_g := wt (List.mem_of_getElem? (i := 231) rfl) rfl
theorem wm_232 : (Cond.methodLink "java/util/AbstractCollection" (1 : Nat) ({ cls := "java/lang/Object", name := "<init>", desc := "()V" } : MethodName)) ∈ lw_g := wt (List.mem_of_getElem? (i := 232) (by decide +kernel)) rfl
theorem wm_233 : (Cond.fieldLink "java/util/ArrayList" (39 : Nat) "java/util/ArrayList" "DEFAULTCAPACITY_EMPTY_ELEMENTDATA" "[Ljava/lang/Object;") ∈ lw_g := wt (List.mem_of_getElem? (i := 233) (by decide +kernel)) rfl
theorem wm_235 : (Cond.fieldLink "java/util/ArrayList" (9 : Nat) "java/util/ArrayList" "elementData" "[Ljava/lang/Object;") ∈ lw_g := wt (List.mem_of_getElem? (i := 235) (by decide +kernel)) rfl
theorem wm_236 : (Cond.fieldLink "java/util/ArrayList" (48 : Nat) "java/util/ArrayList" "size" "I") ∈ lw_g := wt (List.mem_of_getElem? (i := 236) (by decide +kernel)) rfl
theorem wm_237 : (Cond.fieldLink "java/util/AbstractList" (7 : Nat) "java/util/AbstractList" "modCount" "I") ∈ lw_g := wt (List.mem_of_getElem? (i := 237) (by decide +kernel)) rfl
theorem wm_238 : (Cond.fieldLink "java/util/ArrayList" (63 : Nat) "java/util/ArrayList" "modCount" "I") ∈ lw_g := wt (List.mem_of_getElem? (i := 238) (by decide +kernel)) rfl
theorem wm_239 : (Cond.sameField "java/util/ArrayList" "java/util/AbstractList" "modCount" "I") ∈ lw_g := wt (List.mem_of_getElem? (i := 239) (by decide +kernel)) rfl
theorem wm_247 : (Cond.methodLink "StepPrograms$Script" (22 : Nat) ({ cls := "java/util/Arrays", name := "fill", desc := "([II)V" } : MethodName)) ∈ lw_g := wt (List.mem_of_getElem? (i := 247) (by decide +kernel)) rfl
theorem wm_248 : (Cond.static ({ cls := "java/util/Arrays", name := "fill", desc := "([II)V" } : MethodName)) ∈ lw_g := wt (List.mem_of_getElem? (i := 248) (by decide +kernel)) rfl
set_option maxRecDepth 100000 in
theorem wm_249 : (Cond.code ({ cls := "java/util/Arrays", name := "fill", desc := "([II)V" } : MethodName) prog_25_method_103_code (4 : Nat) (Option.none : Option FieldType)) ∈ lw_g := wt (List.mem_of_getElem? (i := 249) rfl) rfl
theorem wm_250 : (Cond.fieldLink "StepPrograms$Script" (12 : Nat) "StepPrograms$Script" "statements" "Ljava/util/ArrayList;") ∈ lw_g := wt (List.mem_of_getElem? (i := 250) (by decide +kernel)) rfl
theorem wm_251 : (Cond.fieldLink "StepPrograms$Tape" (77 : Nat) "StepPrograms$Script" "statements" "Ljava/util/ArrayList;") ∈ lw_g := wt (List.mem_of_getElem? (i := 251) (by decide +kernel)) rfl
theorem wm_252 : (Cond.fieldLink "StepPrograms$Script" (18 : Nat) "StepPrograms$Script" "places" "[I") ∈ lw_g := wt (List.mem_of_getElem? (i := 252) (by decide +kernel)) rfl
theorem wm_253 : (Cond.fieldLink "StepPrograms$Tape" (46 : Nat) "StepPrograms$Script" "lines" "I") ∈ lw_g := wt (List.mem_of_getElem? (i := 253) (by decide +kernel)) rfl
theorem wm_254 : (Cond.fieldLink "StepPrograms$Machine" (94 : Nat) "StepPrograms$Script" "lines" "I") ∈ lw_g := wt (List.mem_of_getElem? (i := 254) (by decide +kernel)) rfl
theorem wm_262 : (Cond.methodLink "StepPrograms" (50 : Nat) ({ cls := "StepPrograms$Tape", name := "check", desc := "(LStepPrograms$Script;)I" } : MethodName)) ∈ lw_g := wt (List.mem_of_getElem? (i := 262) (by decide +kernel)) rfl
theorem wm_263 : (Cond.instanceMethod ({ cls := "StepPrograms$Tape", name := "check", desc := "(LStepPrograms$Script;)I" } : MethodName)) ∈ lw_g := wt (List.mem_of_getElem? (i := 263) (by decide +kernel)) rfl
theorem wm_264 : (Cond.selects "StepPrograms$Tape" ({ cls := "StepPrograms$Tape", name := "check", desc := "(LStepPrograms$Script;)I" } : MethodName) ({ cls := "StepPrograms$Tape", name := "check", desc := "(LStepPrograms$Script;)I" } : MethodName)) ∈ lw_g := wt (List.mem_of_getElem? (i := 264) (by decide +kernel)) rfl
set_option maxRecDepth 100000 in
theorem wm_265 : (Cond.code ({ cls := "StepPrograms$Tape", name := "check", desc := "(LStepPrograms$Script;)I" } : MethodName) prog_9_method_2_code (6 : Nat) (Option.some FieldType.int)) ∈ lw_g := wt (List.mem_of_getElem? (i := 265) rfl) rfl
theorem wm_266 : (Cond.methodLink "StepPrograms$Tape" (34 : Nat) ({ cls := "StepPrograms$Row", name := "at", desc := "(I)I" } : MethodName)) ∈ lw_g := wt (List.mem_of_getElem? (i := 266) (by decide +kernel)) rfl
theorem wm_267 : (Cond.instanceMethod ({ cls := "StepPrograms$Row", name := "at", desc := "(I)I" } : MethodName)) ∈ lw_g := wt (List.mem_of_getElem? (i := 267) (by decide +kernel)) rfl
theorem wm_268 : (Cond.selects "StepPrograms$Row" ({ cls := "StepPrograms$Row", name := "at", desc := "(I)I" } : MethodName) ({ cls := "StepPrograms$Row", name := "at", desc := "(I)I" } : MethodName)) ∈ lw_g := wt (List.mem_of_getElem? (i := 268) (by decide +kernel)) rfl
set_option maxRecDepth 100000 in
theorem wm_269 : (Cond.code ({ cls := "StepPrograms$Row", name := "at", desc := "(I)I" } : MethodName) prog_6_method_7_code (2 : Nat) (Option.some FieldType.int)) ∈ lw_g := wt (List.mem_of_getElem? (i := 269) rfl) rfl
theorem wm_270 : (Cond.methodLink "StepPrograms$Tape" (38 : Nat) ({ cls := "StepPrograms$Tape", name := "takeCharacter", desc := "(IZ)V" } : MethodName)) ∈ lw_g := wt (List.mem_of_getElem? (i := 270) (by decide +kernel)) rfl
theorem wm_272 : (Cond.instanceMethod ({ cls := "StepPrograms$Tape", name := "takeCharacter", desc := "(IZ)V" } : MethodName)) ∈ lw_g := wt (List.mem_of_getElem? (i := 272) (by decide +kernel)) rfl
set_option maxRecDepth 100000 in
theorem wm_273 : (Cond.code ({ cls := "StepPrograms$Tape", name := "takeCharacter", desc := "(IZ)V" } : MethodName) prog_9_method_3_code (4 : Nat) (Option.none : Option FieldType)) ∈ lw_g := wt (List.mem_of_getElem? (i := 273) rfl) rfl
theorem wm_274 : (Cond.methodLink "StepPrograms$Tape" (42 : Nat) ({ cls := "StepPrograms$Tape", name := "takeLine", desc := "(LStepPrograms$Script;)Z" } : MethodName)) ∈ lw_g := wt (List.mem_of_getElem? (i := 274) (by decide +kernel)) rfl
theorem wm_276 : (Cond.instanceMethod ({ cls := "StepPrograms$Tape", name := "takeLine", desc := "(LStepPrograms$Script;)Z" } : MethodName)) ∈ lw_g := wt (List.mem_of_getElem? (i := 276) (by decide +kernel)) rfl
set_option maxRecDepth 100000 in
theorem wm_277 : (Cond.code ({ cls := "StepPrograms$Tape", name := "takeLine", desc := "(LStepPrograms$Script;)Z" } : MethodName) prog_9_method_4_code (3 : Nat) (Option.some FieldType.boolean)) ∈ lw_g := wt (List.mem_of_getElem? (i := 277) rfl) rfl
theorem wm_278 : (Cond.methodLink "StepPrograms$Tape" (55 : Nat) ({ cls := "StepPrograms$Tape", name := "lengthOf", desc := "(I)I" } : MethodName)) ∈ lw_g := wt (List.mem_of_getElem? (i := 278) (by decide +kernel)) rfl
theorem wm_280 : (Cond.instanceMethod ({ cls := "StepPrograms$Tape", name := "lengthOf", desc := "(I)I" } : MethodName)) ∈ lw_g := wt (List.mem_of_getElem? (i := 280) (by decide +kernel)) rfl
set_option maxRecDepth 100000 in
theorem wm_281 : (Cond.code ({ cls := "StepPrograms$Tape", name := "lengthOf", desc := "(I)I" } : MethodName) prog_9_method_7_code (3 : Nat) (Option.some FieldType.int)) ∈ lw_g := wt (List.mem_of_getElem? (i := 281) rfl) rfl
theorem wm_282 : (Cond.methodLink "StepPrograms$Tape" (58 : Nat) ({ cls := "StepPrograms$Tape", name := "letterAt", desc := "(II)I" } : MethodName)) ∈ lw_g := wt (List.mem_of_getElem? (i := 282) (by decide +kernel)) rfl
theorem wm_284 : (Cond.instanceMethod ({ cls := "StepPrograms$Tape", name := "letterAt", desc := "(II)I" } : MethodName)) ∈ lw_g := wt (List.mem_of_getElem? (i := 284) (by decide +kernel)) rfl
set_option maxRecDepth 100000 in
theorem wm_285 : (Cond.code ({ cls := "StepPrograms$Tape", name := "letterAt", desc := "(II)I" } : MethodName) prog_9_method_8_code (5 : Nat) (Option.some FieldType.int)) ∈ lw_g := wt (List.mem_of_getElem? (i := 285) rfl) rfl
theorem wm_286 : (Cond.methodLink "StepPrograms$Tape" (62 : Nat) ({ cls := "StepPrograms$Tape", name := "labelNamed", desc := "(I)I" } : MethodName)) ∈ lw_g := wt (List.mem_of_getElem? (i := 286) (by decide +kernel)) rfl
theorem wm_287 : (Cond.static ({ cls := "StepPrograms$Tape", name := "labelNamed", desc := "(I)I" } : MethodName)) ∈ lw_g := wt (List.mem_of_getElem? (i := 287) (by decide +kernel)) rfl
set_option maxRecDepth 100000 in
theorem wm_288 : (Cond.code ({ cls := "StepPrograms$Tape", name := "labelNamed", desc := "(I)I" } : MethodName) prog_9_method_13_code (1 : Nat) (Option.some FieldType.int)) ∈ lw_g := wt (List.mem_of_getElem? (i := 288) rfl) rfl
theorem wm_289 : (Cond.methodLink "StepPrograms$Tape" (65 : Nat) ({ cls := "StepPrograms$Script", name := "addLabel", desc := "(I)Z" } : MethodName)) ∈ lw_g := wt (List.mem_of_getElem? (i := 289) (by decide +kernel)) rfl
theorem wm_290 : (Cond.instanceMethod ({ cls := "StepPrograms$Script", name := "addLabel", desc := "(I)Z" } : MethodName)) ∈ lw_g := wt (List.mem_of_getElem? (i := 290) (by decide +kernel)) rfl
theorem wm_291 : (Cond.selects "StepPrograms$Script" ({ cls := "StepPrograms$Script", name := "addLabel", desc := "(I)Z" } : MethodName) ({ cls := "StepPrograms$Script", name := "addLabel", desc := "(I)Z" } : MethodName)) ∈ lw_g := wt (List.mem_of_getElem? (i := 291) (by decide +kernel)) rfl
set_option maxRecDepth 100000 in
theorem wm_292 : (Cond.code ({ cls := "StepPrograms$Script", name := "addLabel", desc := "(I)Z" } : MethodName) prog_7_method_4_code (2 : Nat) (Option.some FieldType.boolean)) ∈ lw_g := wt (List.mem_of_getElem? (i := 292) rfl) rfl
theorem wm_293 : (Cond.methodLink "StepPrograms$Script" (28 : Nat) ({ cls := "java/util/ArrayList", name := "size", desc := "()I" } : MethodName)) ∈ lw_g := wt (List.mem_of_getElem? (i := 293) (by decide +kernel)) rfl
theorem wm_294 : (Cond.instanceMethod ({ cls := "java/util/ArrayList", name := "size", desc := "()I" } : MethodName)) ∈ lw_g := wt (List.mem_of_getElem? (i := 294) (by decide +kernel)) rfl
theorem wm_295 : (Cond.selects "java/util/ArrayList" ({ cls := "java/util/ArrayList", name := "size", desc := "()I" } : MethodName) ({ cls := "java/util/ArrayList", name := "size", desc := "()I" } : MethodName)) ∈ lw_g := wt (List.mem_of_getElem? (i := 295) (by decide +kernel)) rfl
set_option maxRecDepth 100000 in
theorem wm_296 : (Cond.code ({ cls := "java/util/ArrayList", name := "size", desc := "()I" } : MethodName) prog_24_method_8_code (1 : Nat) (Option.some FieldType.int)) ∈ lw_g := wt (List.mem_of_getElem? (i := 296) rfl) rfl
theorem wm_297 : (Cond.fieldLink "StepPrograms$Tape" (69 : Nat) "StepPrograms$Tape" "FORMS" "[LStepPrograms$Form;") ∈ lw_g := wt (List.mem_of_getElem? (i := 297) (by decide +kernel)) rfl
theorem wm_299 : (Cond.methodLink "StepPrograms$Tape" (73 : Nat) ({ cls := "StepPrograms$Tape", name := "isOfForm", desc := "(LStepPrograms$Form;)Z" } : MethodName)) ∈ lw_g := wt (List.mem_of_getElem? (i := 299) (by decide +kernel)) rfl
theorem wm_301 : (Cond.instanceMethod ({ cls := "StepPrograms$Tape", name := "isOfForm", desc := "(LStepPrograms$Form;)Z" } : MethodName)) ∈ lw_g := wt (List.mem_of_getElem? (i := 301) (by decide +kernel)) rfl
set_option maxRecDepth 100000 in
theorem wm_302 : (Cond.code ({ cls := "StepPrograms$Tape", name := "isOfForm", desc := "(LStepPrograms$Form;)Z" } : MethodName) prog_9_method_5_code (3 : Nat) (Option.some FieldType.boolean)) ∈ lw_g := wt (List.mem_of_getElem? (i := 302) rfl) rfl
theorem wm_303 : (Cond.methodLink "StepPrograms$Tape" (113 : Nat) ({ cls := "java/lang/String", name := "length", desc := "()I" } : MethodName)) ∈ lw_g := wt (List.mem_of_getElem? (i := 303) (by decide +kernel)) rfl
theorem wm_304 : (Cond.instanceMethod ({ cls := "java/lang/String", name := "length", desc := "()I" } : MethodName)) ∈ lw_g := wt (List.mem_of_getElem? (i := 304) (by decide +kernel)) rfl
theorem wm_305 : (Cond.selects "java/lang/String" ({ cls := "java/lang/String", name := "length", desc := "()I" } : MethodName) ({ cls := "java/lang/String", name := "length", desc := "()I" } : MethodName)) ∈ lw_g := wt (List.mem_of_getElem? (i := 305) (by decide +kernel)) rfl
set_option maxRecDepth 100000 in
theorem wm_306 : (Cond.code ({ cls := "java/lang/String", name := "length", desc := "()I" } : MethodName) prog_18_method_54_code (1 : Nat) (Option.some FieldType.int)) ∈ lw_g := wt (List.mem_of_getElem? (i := 306) rfl) rfl
theorem wm_307 : (Cond.methodLink "java/lang/String" (335 : Nat) ({ cls := "java/lang/String", name := "coder", desc := "()B" } : MethodName)) ∈ lw_g := wt (List.mem_of_getElem? (i := 307) (by decide +kernel)) rfl
theorem wm_308 : (Cond.instanceMethod ({ cls := "java/lang/String", name := "coder", desc := "()B" } : MethodName)) ∈ lw_g := wt (List.mem_of_getElem? (i := 308) (by decide +kernel)) rfl
theorem wm_309 : (Cond.selects "java/lang/String" ({ cls := "java/lang/String", name := "coder", desc := "()B" } : MethodName) ({ cls := "java/lang/String", name := "coder", desc := "()B" } : MethodName)) ∈ lw_g := wt (List.mem_of_getElem? (i := 309) (by decide +kernel)) rfl
set_option maxRecDepth 100000 in
theorem wm_310 : (Cond.code ({ cls := "java/lang/String", name := "coder", desc := "()B" } : MethodName) prog_18_method_152_code (1 : Nat) (Option.some FieldType.byte)) ∈ lw_g := wt (List.mem_of_getElem? (i := 310) rfl) rfl
theorem wm_311 : (Cond.fieldLink "java/lang/String" (38 : Nat) "java/lang/String" "COMPACT_STRINGS" "Z") ∈ lw_g := wt (List.mem_of_getElem? (i := 311) (by decide +kernel)) rfl
theorem wm_313 : (Cond.methodLink "StepPrograms$Tape" (121 : Nat) ({ cls := "StepPrograms$Tape", name := "isWord", desc := "(ILjava/lang/String;)Z" } : MethodName)) ∈ lw_g := wt (List.mem_of_getElem? (i := 313) (by decide +kernel)) rfl
theorem wm_315 : (Cond.instanceMethod ({ cls := "StepPrograms$Tape", name := "isWord", desc := "(ILjava/lang/String;)Z" } : MethodName)) ∈ lw_g := wt (List.mem_of_getElem? (i := 315) (by decide +kernel)) rfl
set_option maxRecDepth 100000 in
theorem wm_316 : (Cond.code ({ cls := "StepPrograms$Tape", name := "isWord", desc := "(ILjava/lang/String;)Z" } : MethodName) prog_9_method_10_code (4 : Nat) (Option.some FieldType.boolean)) ∈ lw_g := wt (List.mem_of_getElem? (i := 316) rfl) rfl
theorem wm_317 : (Cond.methodLink "StepPrograms$Tape" (126 : Nat) ({ cls := "java/lang/String", name := "charAt", desc := "(I)C" } : MethodName)) ∈ lw_g := wt (List.mem_of_getElem? (i := 317) (by decide +kernel)) rfl
theorem wm_318 : (Cond.instanceMethod ({ cls := "java/lang/String", name := "charAt", desc := "(I)C" } : MethodName)) ∈ lw_g := wt (List.mem_of_getElem? (i := 318) (by decide +kernel)) rfl
theorem wm_319 : (Cond.selects "java/lang/String" ({ cls := "java/lang/String", name := "charAt", desc := "(I)C" } : MethodName) ({ cls := "java/lang/String", name := "charAt", desc := "(I)C" } : MethodName)) ∈ lw_g := wt (List.mem_of_getElem? (i := 319) (by decide +kernel)) rfl
set_option maxRecDepth 100000 in
theorem wm_320 : (Cond.code ({ cls := "java/lang/String", name := "charAt", desc := "(I)C" } : MethodName) prog_18_method_56_code (2 : Nat) (Option.some FieldType.char)) ∈ lw_g := wt (List.mem_of_getElem? (i := 320) rfl) rfl
theorem wm_321 : (Cond.methodLink "java/lang/String" (492 : Nat) ({ cls := "java/lang/String", name := "isLatin1", desc := "()Z" } : MethodName)) ∈ lw_g := wt (List.mem_of_getElem? (i := 321) (by decide +kernel)) rfl
theorem wm_322 : (Cond.instanceMethod ({ cls := "java/lang/String", name := "isLatin1", desc := "()Z" } : MethodName)) ∈ lw_g := wt (List.mem_of_getElem? (i := 322) (by decide +kernel)) rfl
theorem wm_323 : (Cond.selects "java/lang/String" ({ cls := "java/lang/String", name := "isLatin1", desc := "()Z" } : MethodName) ({ cls := "java/lang/String", name := "isLatin1", desc := "()Z" } : MethodName)) ∈ lw_g := wt (List.mem_of_getElem? (i := 323) (by decide +kernel)) rfl
set_option maxRecDepth 100000 in
theorem wm_324 : (Cond.code ({ cls := "java/lang/String", name := "isLatin1", desc := "()Z" } : MethodName) prog_18_method_154_code (1 : Nat) (Option.some FieldType.boolean)) ∈ lw_g := wt (List.mem_of_getElem? (i := 324) rfl) rfl
theorem wm_325 : (Cond.methodLink "java/lang/String" (495 : Nat) ({ cls := "java/lang/StringLatin1", name := "charAt", desc := "([BI)C" } : MethodName)) ∈ lw_g := wt (List.mem_of_getElem? (i := 325) (by decide +kernel)) rfl
theorem wm_326 : (Cond.static ({ cls := "java/lang/StringLatin1", name := "charAt", desc := "([BI)C" } : MethodName)) ∈ lw_g := wt (List.mem_of_getElem? (i := 326) (by decide +kernel)) rfl
set_option maxRecDepth 100000 in
theorem wm_327 : (Cond.code ({ cls := "java/lang/StringLatin1", name := "charAt", desc := "([BI)C" } : MethodName) prog_19_method_2_code (2 : Nat) (Option.some FieldType.char)) ∈ lw_g := wt (List.mem_of_getElem? (i := 327) rfl) rfl
theorem wm_328 : (Cond.methodLink "java/lang/StringLatin1" (9 : Nat) ({ cls := "java/lang/String", name := "checkIndex", desc := "(II)V" } : MethodName)) ∈ lw_g := wt (List.mem_of_getElem? (i := 328) (by decide +kernel)) rfl
theorem wm_329 : (Cond.static ({ cls := "java/lang/String", name := "checkIndex", desc := "(II)V" } : MethodName)) ∈ lw_g := wt (List.mem_of_getElem? (i := 329) (by decide +kernel)) rfl
set_option maxRecDepth 100000 in
theorem wm_330 : (Cond.code ({ cls := "java/lang/String", name := "checkIndex", desc := "(II)V" } : MethodName) prog_18_method_155_code (2 : Nat) (Option.none : Option FieldType)) ∈ lw_g := wt (List.mem_of_getElem? (i := 330) rfl) rfl
theorem wm_331 : (Cond.fieldLink "java/lang/String" (1053 : Nat) "jdk/internal/util/Preconditions" "SIOOBE_FORMATTER" "Ljava/util/function/BiFunction;") ∈ lw_g := wt (List.mem_of_getElem? (i := 331) (by decide +kernel)) rfl
theorem wm_333 : (Cond.methodLink "java/lang/String" (1059 : Nat) ({ cls := "jdk/internal/util/Preconditions", name := "checkIndex", desc := "(IILjava/util/function/BiFunction;)I" } : MethodName)) ∈ lw_g := wt (List.mem_of_getElem? (i := 333) (by decide +kernel)) rfl
theorem wm_334 : (Cond.static ({ cls := "jdk/internal/util/Preconditions", name := "checkIndex", desc := "(IILjava/util/function/BiFunction;)I" } : MethodName)) ∈ lw_g := wt (List.mem_of_getElem? (i := 334) (by decide +kernel)) rfl
set_option maxRecDepth 100000 in
theorem wm_335 : (Cond.code ({ cls := "jdk/internal/util/Preconditions", name := "checkIndex", desc := "(IILjava/util/function/BiFunction;)I" } : MethodName) prog_32_method_11_code (3 : Nat) (Option.some FieldType.int)) ∈ lw_g := wt (List.mem_of_getElem? (i := 335) rfl) rfl
theorem wm_355 : (Cond.constant "StepPrograms$Tape" (125 : Nat) (-1000000 : Int32)) ∈ lw_g := wt (List.mem_of_getElem? (i := 355) (by decide +kernel)) rfl
theorem wm_356 : (Cond.methodLink "StepPrograms$Tape" (130 : Nat) ({ cls := "StepPrograms$Tape", name := "takeWord", desc := "(IC)Z" } : MethodName)) ∈ lw_g := wt (List.mem_of_getElem? (i := 356) (by decide +kernel)) rfl
theorem wm_358 : (Cond.instanceMethod ({ cls := "StepPrograms$Tape", name := "takeWord", desc := "(IC)Z" } : MethodName)) ∈ lw_g := wt (List.mem_of_getElem? (i := 358) (by decide +kernel)) rfl
set_option maxRecDepth 100000 in
theorem wm_359 : (Cond.code ({ cls := "StepPrograms$Tape", name := "takeWord", desc := "(IC)Z" } : MethodName) prog_9_method_6_code (3 : Nat) (Option.some FieldType.boolean)) ∈ lw_g := wt (List.mem_of_getElem? (i := 359) rfl) rfl
theorem wm_360 : (Cond.methodLink "StepPrograms$Tape" (134 : Nat) ({ cls := "StepPrograms$Tape", name := "onlyLetter", desc := "(I)I" } : MethodName)) ∈ lw_g := wt (List.mem_of_getElem? (i := 360) (by decide +kernel)) rfl
theorem wm_362 : (Cond.instanceMethod ({ cls := "StepPrograms$Tape", name := "onlyLetter", desc := "(I)I" } : MethodName)) ∈ lw_g := wt (List.mem_of_getElem? (i := 362) (by decide +kernel)) rfl
set_option maxRecDepth 100000 in
theorem wm_363 : (Cond.code ({ cls := "StepPrograms$Tape", name := "onlyLetter", desc := "(I)I" } : MethodName) prog_9_method_9_code (2 : Nat) (Option.some FieldType.int)) ∈ lw_g := wt (List.mem_of_getElem? (i := 363) rfl) rfl
theorem wm_364 : (Cond.methodLink "StepPrograms$Tape" (137 : Nat) ({ cls := "StepPrograms$Tape", name := "registerNamed", desc := "(I)I" } : MethodName)) ∈ lw_g := wt (List.mem_of_getElem? (i := 364) (by decide +kernel)) rfl
theorem wm_365 : (Cond.static ({ cls := "StepPrograms$Tape", name := "registerNamed", desc := "(I)I" } : MethodName)) ∈ lw_g := wt (List.mem_of_getElem? (i := 365) (by decide +kernel)) rfl
set_option maxRecDepth 100000 in
theorem wm_366 : (Cond.code ({ cls := "StepPrograms$Tape", name := "registerNamed", desc := "(I)I" } : MethodName) prog_9_method_12_code (1 : Nat) (Option.some FieldType.int)) ∈ lw_g := wt (List.mem_of_getElem? (i := 366) rfl) rfl
theorem wm_367 : (Cond.methodLink "StepPrograms$Tape" (140 : Nat) ({ cls := "StepPrograms$Tape", name := "operandAt", desc := "(I)I" } : MethodName)) ∈ lw_g := wt (List.mem_of_getElem? (i := 367) (by decide +kernel)) rfl
theorem wm_369 : (Cond.instanceMethod ({ cls := "StepPrograms$Tape", name := "operandAt", desc := "(I)I" } : MethodName)) ∈ lw_g := wt (List.mem_of_getElem? (i := 369) (by decide +kernel)) rfl
set_option maxRecDepth 100000 in
theorem wm_370 : (Cond.code ({ cls := "StepPrograms$Tape", name := "operandAt", desc := "(I)I" } : MethodName) prog_9_method_11_code (9 : Nat) (Option.some FieldType.int)) ∈ lw_g := wt (List.mem_of_getElem? (i := 370) rfl) rfl
theorem wm_371 : (Cond.constant "StepPrograms$Tape" (156 : Nat) (1000000 : Int32)) ∈ lw_g := wt (List.mem_of_getElem? (i := 371) (by decide +kernel)) rfl
theorem wm_373 : (Cond.methodLink "StepPrograms$Tape" (145 : Nat) ({ cls := "StepPrograms$Tape", name := "signAmong", desc := "(Ljava/lang/String;I)I" } : MethodName)) ∈ lw_g := wt (List.mem_of_getElem? (i := 373) (by decide +kernel)) rfl
theorem wm_374 : (Cond.static ({ cls := "StepPrograms$Tape", name := "signAmong", desc := "(Ljava/lang/String;I)I" } : MethodName)) ∈ lw_g := wt (List.mem_of_getElem? (i := 374) (by decide +kernel)) rfl
set_option maxRecDepth 100000 in
theorem wm_375 : (Cond.code ({ cls := "StepPrograms$Tape", name := "signAmong", desc := "(Ljava/lang/String;I)I" } : MethodName) prog_9_method_14_code (2 : Nat) (Option.some FieldType.int)) ∈ lw_g := wt (List.mem_of_getElem? (i := 375) rfl) rfl
theorem wm_376 : (Cond.methodLink "StepPrograms$Tape" (157 : Nat) ({ cls := "java/lang/String", name := "indexOf", desc := "(I)I" } : MethodName)) ∈ lw_g := wt (List.mem_of_getElem? (i := 376) (by decide +kernel)) rfl
theorem wm_377 : (Cond.instanceMethod ({ cls := "java/lang/String", name := "indexOf", desc := "(I)I" } : MethodName)) ∈ lw_g := wt (List.mem_of_getElem? (i := 377) (by decide +kernel)) rfl
theorem wm_378 : (Cond.selects "java/lang/String" ({ cls := "java/lang/String", name := "indexOf", desc := "(I)I" } : MethodName) ({ cls := "java/lang/String", name := "indexOf", desc := "(I)I" } : MethodName)) ∈ lw_g := wt (List.mem_of_getElem? (i := 378) (by decide +kernel)) rfl
set_option maxRecDepth 100000 in
theorem wm_379 : (Cond.code ({ cls := "java/lang/String", name := "indexOf", desc := "(I)I" } : MethodName) prog_18_method_79_code (2 : Nat) (Option.some FieldType.int)) ∈ lw_g := wt (List.mem_of_getElem? (i := 379) rfl) rfl
theorem wm_380 : (Cond.methodLink "java/lang/String" (633 : Nat) ({ cls := "java/lang/String", name := "indexOf", desc := "(II)I" } : MethodName)) ∈ lw_g := wt (List.mem_of_getElem? (i := 380) (by decide +kernel)) rfl
theorem wm_381 : (Cond.instanceMethod ({ cls := "java/lang/String", name := "indexOf", desc := "(II)I" } : MethodName)) ∈ lw_g := wt (List.mem_of_getElem? (i := 381) (by decide +kernel)) rfl
theorem wm_382 : (Cond.selects "java/lang/String" ({ cls := "java/lang/String", name := "indexOf", desc := "(II)I" } : MethodName) ({ cls := "java/lang/String", name := "indexOf", desc := "(II)I" } : MethodName)) ∈ lw_g := wt (List.mem_of_getElem? (i := 382) (by decide +kernel)) rfl
set_option maxRecDepth 100000 in
theorem wm_383 : (Cond.code ({ cls := "java/lang/String", name := "indexOf", desc := "(II)I" } : MethodName) prog_18_method_80_code (3 : Nat) (Option.some FieldType.int)) ∈ lw_g := wt (List.mem_of_getElem? (i := 383) rfl) rfl
theorem wm_384 : (Cond.methodLink "java/lang/String" (505 : Nat) ({ cls := "java/lang/String", name := "length", desc := "()I" } : MethodName)) ∈ lw_g := wt (List.mem_of_getElem? (i := 384) (by decide +kernel)) rfl
theorem wm_385 : (Cond.methodLink "java/lang/String" (637 : Nat) ({ cls := "java/lang/StringLatin1", name := "indexOf", desc := "([BIII)I" } : MethodName)) ∈ lw_g := wt (List.mem_of_getElem? (i := 385) (by decide +kernel)) rfl
theorem wm_386 : (Cond.static ({ cls := "java/lang/StringLatin1", name := "indexOf", desc := "([BIII)I" } : MethodName)) ∈ lw_g := wt (List.mem_of_getElem? (i := 386) (by decide +kernel)) rfl
set_option maxRecDepth 100000 in
theorem wm_387 : (Cond.code ({ cls := "java/lang/StringLatin1", name := "indexOf", desc := "([BIII)I" } : MethodName) prog_19_method_22_code (4 : Nat) (Option.some FieldType.int)) ∈ lw_g := wt (List.mem_of_getElem? (i := 387) rfl) rfl
theorem wm_388 : (Cond.methodLink "java/lang/StringLatin1" (88 : Nat) ({ cls := "java/lang/StringLatin1", name := "canEncode", desc := "(I)Z" } : MethodName)) ∈ lw_g := wt (List.mem_of_getElem? (i := 388) (by decide +kernel)) rfl
theorem wm_389 : (Cond.static ({ cls := "java/lang/StringLatin1", name := "canEncode", desc := "(I)Z" } : MethodName)) ∈ lw_g := wt (List.mem_of_getElem? (i := 389) (by decide +kernel)) rfl
set_option maxRecDepth 100000 in
theorem wm_390 : (Cond.code ({ cls := "java/lang/StringLatin1", name := "canEncode", desc := "(I)Z" } : MethodName) prog_19_method_4_code (1 : Nat) (Option.some FieldType.boolean)) ∈ lw_g := wt (List.mem_of_getElem? (i := 390) rfl) rfl
theorem wm_391 : (Cond.methodLink "java/lang/StringLatin1" (92 : Nat) ({ cls := "java/lang/Math", name := "max", desc := "(II)I" } : MethodName)) ∈ lw_g := wt (List.mem_of_getElem? (i := 391) (by decide +kernel)) rfl
theorem wm_392 : (Cond.static ({ cls := "java/lang/Math", name := "max", desc := "(II)I" } : MethodName)) ∈ lw_g := wt (List.mem_of_getElem? (i := 392) (by decide +kernel)) rfl
set_option maxRecDepth 100000 in
theorem wm_393 : (Cond.code ({ cls := "java/lang/Math", name := "max", desc := "(II)I" } : MethodName) prog_17_method_65_code (2 : Nat) (Option.some FieldType.int)) ∈ lw_g := wt (List.mem_of_getElem? (i := 393) rfl) rfl
theorem wm_394 : (Cond.methodLink "java/lang/StringLatin1" (38 : Nat) ({ cls := "java/lang/Math", name := "min", desc := "(II)I" } : MethodName)) ∈ lw_g := wt (List.mem_of_getElem? (i := 394) (by decide +kernel)) rfl
theorem wm_395 : (Cond.static ({ cls := "java/lang/Math", name := "min", desc := "(II)I" } : MethodName)) ∈ lw_g := wt (List.mem_of_getElem? (i := 395) (by decide +kernel)) rfl
set_option maxRecDepth 100000 in
theorem wm_396 : (Cond.code ({ cls := "java/lang/Math", name := "min", desc := "(II)I" } : MethodName) prog_17_method_69_code (2 : Nat) (Option.some FieldType.int)) ∈ lw_g := wt (List.mem_of_getElem? (i := 396) rfl) rfl
theorem wm_397 : (Cond.methodLink "java/lang/StringLatin1" (95 : Nat) ({ cls := "java/lang/StringLatin1", name := "indexOfChar", desc := "([BIII)I" } : MethodName)) ∈ lw_g := wt (List.mem_of_getElem? (i := 397) (by decide +kernel)) rfl
theorem wm_398 : (Cond.static ({ cls := "java/lang/StringLatin1", name := "indexOfChar", desc := "([BIII)I" } : MethodName)) ∈ lw_g := wt (List.mem_of_getElem? (i := 398) (by decide +kernel)) rfl
set_option maxRecDepth 100000 in
theorem wm_399 : (Cond.code ({ cls := "java/lang/StringLatin1", name := "indexOfChar", desc := "([BIII)I" } : MethodName) prog_19_method_23_code (6 : Nat) (Option.some FieldType.int)) ∈ lw_g := wt (List.mem_of_getElem? (i := 399) rfl) rfl
theorem wm_437 : (Cond.classLink "StepPrograms$Tape" (81 : Nat) "StepPrograms$Statement") ∈ lw_g := wt (List.mem_of_getElem? (i := 437) (by decide +kernel)) rfl
theorem wm_438 : (Cond.instantiable "StepPrograms$Statement" (7 : Nat)) ∈ lw_g := wt (List.mem_of_getElem? (i := 438) (by decide +kernel)) rfl
theorem wm_439 : (Cond.methodLink "StepPrograms$Tape" (98 : Nat) ({ cls := "StepPrograms$Statement", name := "<init>", desc := "(ILStepPrograms$Form;IIIII)V" } : MethodName)) ∈ lw_g := wt (List.mem_of_getElem? (i := 439) (by decide +kernel)) rfl
theorem wm_440 : (Cond.instanceMethod ({ cls := "StepPrograms$Statement", name := "<init>", desc := "(ILStepPrograms$Form;IIIII)V" } : MethodName)) ∈ lw_g := wt (List.mem_of_getElem? (i := 440) (by decide +kernel)) rfl
set_option maxRecDepth 100000 in
theorem wm_441 : (Cond.code ({ cls := "StepPrograms$Statement", name := "<init>", desc := "(ILStepPrograms$Form;IIIII)V" } : MethodName) prog_8_method_1_code (8 : Nat) (Option.none : Option FieldType)) ∈ lw_g := wt (List.mem_of_getElem? (i := 441) rfl) rfl
theorem wm_442 : (Cond.methodLink "StepPrograms$Statement" (1 : Nat) ({ cls := "java/lang/Object", name := "<init>", desc := "()V" } : MethodName)) ∈ lw_g := wt (List.mem_of_getElem? (i := 442) (by decide +kernel)) rfl
theorem wm_443 : (Cond.fieldLink "StepPrograms$Statement" (7 : Nat) "StepPrograms$Statement" "line" "I") ∈ lw_g := wt (List.mem_of_getElem? (i := 443) (by decide +kernel)) rfl
theorem wm_444 : (Cond.fieldLink "StepPrograms$Script" (46 : Nat) "StepPrograms$Statement" "line" "I") ∈ lw_g := wt (List.mem_of_getElem? (i := 444) (by decide +kernel)) rfl
theorem wm_445 : (Cond.fieldLink "StepPrograms$Machine" (100 : Nat) "StepPrograms$Statement" "line" "I") ∈ lw_g := wt (List.mem_of_getElem? (i := 445) (by decide +kernel)) rfl
theorem wm_446 : (Cond.fieldLink "StepPrograms$Statement" (13 : Nat) "StepPrograms$Statement" "form" "LStepPrograms$Form;") ∈ lw_g := wt (List.mem_of_getElem? (i := 446) (by decide +kernel)) rfl
theorem wm_447 : (Cond.fieldLink "StepPrograms$Machine" (123 : Nat) "StepPrograms$Statement" "form" "LStepPrograms$Form;") ∈ lw_g := wt (List.mem_of_getElem? (i := 447) (by decide +kernel)) rfl
theorem wm_448 : (Cond.fieldLink "StepPrograms$Statement" (17 : Nat) "StepPrograms$Statement" "into" "I") ∈ lw_g := wt (List.mem_of_getElem? (i := 448) (by decide +kernel)) rfl
theorem wm_449 : (Cond.fieldLink "StepPrograms$Machine" (133 : Nat) "StepPrograms$Statement" "into" "I") ∈ lw_g := wt (List.mem_of_getElem? (i := 449) (by decide +kernel)) rfl
theorem wm_450 : (Cond.fieldLink "StepPrograms$Statement" (20 : Nat) "StepPrograms$Statement" "left" "I") ∈ lw_g := wt (List.mem_of_getElem? (i := 450) (by decide +kernel)) rfl
theorem wm_451 : (Cond.fieldLink "StepPrograms$Machine" (107 : Nat) "StepPrograms$Statement" "left" "I") ∈ lw_g := wt (List.mem_of_getElem? (i := 451) (by decide +kernel)) rfl
theorem wm_452 : (Cond.fieldLink "StepPrograms$Statement" (23 : Nat) "StepPrograms$Statement" "sign" "I") ∈ lw_g := wt (List.mem_of_getElem? (i := 452) (by decide +kernel)) rfl
theorem wm_453 : (Cond.fieldLink "StepPrograms$Machine" (177 : Nat) "StepPrograms$Statement" "sign" "I") ∈ lw_g := wt (List.mem_of_getElem? (i := 453) (by decide +kernel)) rfl
theorem wm_454 : (Cond.fieldLink "StepPrograms$Statement" (26 : Nat) "StepPrograms$Statement" "right" "I") ∈ lw_g := wt (List.mem_of_getElem? (i := 454) (by decide +kernel)) rfl
theorem wm_455 : (Cond.fieldLink "StepPrograms$Machine" (114 : Nat) "StepPrograms$Statement" "right" "I") ∈ lw_g := wt (List.mem_of_getElem? (i := 455) (by decide +kernel)) rfl
theorem wm_456 : (Cond.fieldLink "StepPrograms$Statement" (29 : Nat) "StepPrograms$Statement" "label" "I") ∈ lw_g := wt (List.mem_of_getElem? (i := 456) (by decide +kernel)) rfl
theorem wm_457 : (Cond.fieldLink "StepPrograms$Script" (38 : Nat) "StepPrograms$Statement" "label" "I") ∈ lw_g := wt (List.mem_of_getElem? (i := 457) (by decide +kernel)) rfl
theorem wm_458 : (Cond.fieldLink "StepPrograms$Machine" (171 : Nat) "StepPrograms$Statement" "label" "I") ∈ lw_g := wt (List.mem_of_getElem? (i := 458) (by decide +kernel)) rfl
theorem wm_475 : (Cond.methodLink "StepPrograms$Tape" (101 : Nat) ({ cls := "java/util/ArrayList", name := "add", desc := "(Ljava/lang/Object;)Z" } : MethodName)) ∈ lw_g := wt (List.mem_of_getElem? (i := 475) (by decide +kernel)) rfl
theorem wm_476 : (Cond.instanceMethod ({ cls := "java/util/ArrayList", name := "add", desc := "(Ljava/lang/Object;)Z" } : MethodName)) ∈ lw_g := wt (List.mem_of_getElem? (i := 476) (by decide +kernel)) rfl
theorem wm_477 : (Cond.selects "java/util/ArrayList" ({ cls := "java/util/ArrayList", name := "add", desc := "(Ljava/lang/Object;)Z" } : MethodName) ({ cls := "java/util/ArrayList", name := "add", desc := "(Ljava/lang/Object;)Z" } : MethodName)) ∈ lw_g := wt (List.mem_of_getElem? (i := 477) (by decide +kernel)) rfl
set_option maxRecDepth 100000 in
theorem wm_478 : (Cond.code ({ cls := "java/util/ArrayList", name := "add", desc := "(Ljava/lang/Object;)Z" } : MethodName) prog_24_method_25_code (2 : Nat) (Option.some FieldType.boolean)) ∈ lw_g := wt (List.mem_of_getElem? (i := 478) rfl) rfl
theorem wm_479 : (Cond.methodLink "java/util/ArrayList" (131 : Nat) ({ cls := "java/util/ArrayList", name := "add", desc := "(Ljava/lang/Object;[Ljava/lang/Object;I)V" } : MethodName)) ∈ lw_g := wt (List.mem_of_getElem? (i := 479) (by decide +kernel)) rfl
theorem wm_481 : (Cond.instanceMethod ({ cls := "java/util/ArrayList", name := "add", desc := "(Ljava/lang/Object;[Ljava/lang/Object;I)V" } : MethodName)) ∈ lw_g := wt (List.mem_of_getElem? (i := 481) (by decide +kernel)) rfl
set_option maxRecDepth 100000 in
theorem wm_482 : (Cond.code ({ cls := "java/util/ArrayList", name := "add", desc := "(Ljava/lang/Object;[Ljava/lang/Object;I)V" } : MethodName) prog_24_method_24_code (4 : Nat) (Option.none : Option FieldType)) ∈ lw_g := wt (List.mem_of_getElem? (i := 482) rfl) rfl
theorem wm_483 : (Cond.methodLink "java/util/ArrayList" (129 : Nat) ({ cls := "java/util/ArrayList", name := "grow", desc := "()[Ljava/lang/Object;" } : MethodName)) ∈ lw_g := wt (List.mem_of_getElem? (i := 483) (by decide +kernel)) rfl
theorem wm_485 : (Cond.instanceMethod ({ cls := "java/util/ArrayList", name := "grow", desc := "()[Ljava/lang/Object;" } : MethodName)) ∈ lw_g := wt (List.mem_of_getElem? (i := 485) (by decide +kernel)) rfl
set_option maxRecDepth 100000 in
theorem wm_486 : (Cond.code ({ cls := "java/util/ArrayList", name := "grow", desc := "()[Ljava/lang/Object;" } : MethodName) prog_24_method_7_code (1 : Nat) (Option.some (FieldType.array (FieldType.object "java/lang/Object")))) ∈ lw_g := wt (List.mem_of_getElem? (i := 486) rfl) rfl
theorem wm_487 : (Cond.methodLink "java/util/ArrayList" (69 : Nat) ({ cls := "java/util/ArrayList", name := "grow", desc := "(I)[Ljava/lang/Object;" } : MethodName)) ∈ lw_g := wt (List.mem_of_getElem? (i := 487) (by decide +kernel)) rfl
theorem wm_489 : (Cond.instanceMethod ({ cls := "java/util/ArrayList", name := "grow", desc := "(I)[Ljava/lang/Object;" } : MethodName)) ∈ lw_g := wt (List.mem_of_getElem? (i := 489) (by decide +kernel)) rfl
set_option maxRecDepth 100000 in
theorem wm_490 : (Cond.code ({ cls := "java/util/ArrayList", name := "grow", desc := "(I)[Ljava/lang/Object;" } : MethodName) prog_24_method_6_code (4 : Nat) (Option.some (FieldType.array (FieldType.object "java/lang/Object")))) ∈ lw_g := wt (List.mem_of_getElem? (i := 490) rfl) rfl
theorem wm_491 : (Cond.methodLink "java/util/ArrayList" (73 : Nat) ({ cls := "jdk/internal/util/ArraysSupport", name := "newLength", desc := "(III)I" } : MethodName)) ∈ lw_g := wt (List.mem_of_getElem? (i := 491) (by decide +kernel)) rfl
theorem wm_492 : (Cond.static ({ cls := "jdk/internal/util/ArraysSupport", name := "newLength", desc := "(III)I" } : MethodName)) ∈ lw_g := wt (List.mem_of_getElem? (i := 492) (by decide +kernel)) rfl
set_option maxRecDepth 100000 in
theorem wm_493 : (Cond.code ({ cls := "jdk/internal/util/ArraysSupport", name := "newLength", desc := "(III)I" } : MethodName) prog_31_method_27_code (4 : Nat) (Option.some FieldType.int)) ∈ lw_g := wt (List.mem_of_getElem? (i := 493) rfl) rfl
theorem wm_494 : (Cond.methodLink "jdk/internal/util/ArraysSupport" (194 : Nat) ({ cls := "java/lang/Math", name := "max", desc := "(II)I" } : MethodName)) ∈ lw_g := wt (List.mem_of_getElem? (i := 494) (by decide +kernel)) rfl
theorem wm_495 : (Cond.constant "jdk/internal/util/ArraysSupport" (200 : Nat) (2147483639 : Int32)) ∈ lw_g := wt (List.mem_of_getElem? (i := 495) (by decide +kernel)) rfl
theorem wm_499 : (Cond.methodLink "java/util/ArrayList" (66 : Nat) ({ cls := "java/util/Arrays", name := "copyOf", desc := "([Ljava/lang/Object;I)[Ljava/lang/Object;" } : MethodName)) ∈ lw_g := wt (List.mem_of_getElem? (i := 499) (by decide +kernel)) rfl
theorem wm_500 : (Cond.static ({ cls := "java/util/Arrays", name := "copyOf", desc := "([Ljava/lang/Object;I)[Ljava/lang/Object;" } : MethodName)) ∈ lw_g := wt (List.mem_of_getElem? (i := 500) (by decide +kernel)) rfl
set_option maxRecDepth 100000 in
theorem wm_501 : (Cond.code ({ cls := "java/util/Arrays", name := "copyOf", desc := "([Ljava/lang/Object;I)[Ljava/lang/Object;" } : MethodName) prog_25_method_119_code (2 : Nat) (Option.some (FieldType.array (FieldType.object "java/lang/Object")))) ∈ lw_g := wt (List.mem_of_getElem? (i := 501) rfl) rfl
theorem wm_502 : (Cond.methodLink "java/util/Arrays" (86 : Nat) ({ cls := "java/lang/Object", name := "getClass", desc := "()Ljava/lang/Class;" } : MethodName)) ∈ lw_g := wt (List.mem_of_getElem? (i := 502) (by decide +kernel)) rfl
theorem wm_503 : (Cond.instanceMethod ({ cls := "java/lang/Object", name := "getClass", desc := "()Ljava/lang/Class;" } : MethodName)) ∈ lw_g := wt (List.mem_of_getElem? (i := 503) (by decide +kernel)) rfl
theorem wm_515 : (Cond.native ({ cls := "java/lang/Object", name := "getClass", desc := "()Ljava/lang/Class;" } : MethodName)) ∈ lw_g := wt (List.mem_of_getElem? (i := 515) (by decide +kernel)) rfl
theorem wm_516 : (Cond.methodLink "java/util/Arrays" (300 : Nat) ({ cls := "java/util/Arrays", name := "copyOf", desc := "([Ljava/lang/Object;ILjava/lang/Class;)[Ljava/lang/Object;" } : MethodName)) ∈ lw_g := wt (List.mem_of_getElem? (i := 516) (by decide +kernel)) rfl
theorem wm_517 : (Cond.static ({ cls := "java/util/Arrays", name := "copyOf", desc := "([Ljava/lang/Object;ILjava/lang/Class;)[Ljava/lang/Object;" } : MethodName)) ∈ lw_g := wt (List.mem_of_getElem? (i := 517) (by decide +kernel)) rfl
set_option maxRecDepth 100000 in
theorem wm_518 : (Cond.code ({ cls := "java/util/Arrays", name := "copyOf", desc := "([Ljava/lang/Object;ILjava/lang/Class;)[Ljava/lang/Object;" } : MethodName) prog_25_method_120_code (4 : Nat) (Option.some (FieldType.array (FieldType.object "java/lang/Object")))) ∈ lw_g := wt (List.mem_of_getElem? (i := 518) rfl) rfl
theorem wm_519 : (Cond.classLink "java/util/Arrays" (110 : Nat) "[Ljava/lang/Object;") ∈ lw_g := wt (List.mem_of_getElem? (i := 519) (by decide +kernel)) rfl
theorem wm_521 : (Cond.classLink "java/util/Arrays" (2 : Nat) "java/lang/Object") ∈ lw_g := wt (List.mem_of_getElem? (i := 521) (by decide +kernel)) rfl
theorem wm_522 : (Cond.methodLink "java/util/Arrays" (304 : Nat) ({ cls := "java/lang/Math", name := "min", desc := "(II)I" } : MethodName)) ∈ lw_g := wt (List.mem_of_getElem? (i := 522) (by decide +kernel)) rfl
theorem wm_523 : (Cond.methodLink "java/util/Arrays" (150 : Nat) ({ cls := "java/lang/System", name := "arraycopy", desc := "(Ljava/lang/Object;ILjava/lang/Object;II)V" } : MethodName)) ∈ lw_g := wt (List.mem_of_getElem? (i := 523) (by decide +kernel)) rfl
theorem wm_524 : (Cond.static ({ cls := "java/lang/System", name := "arraycopy", desc := "(Ljava/lang/Object;ILjava/lang/Object;II)V" } : MethodName)) ∈ lw_g := wt (List.mem_of_getElem? (i := 524) (by decide +kernel)) rfl
theorem wm_525 : (Cond.native ({ cls := "java/lang/System", name := "arraycopy", desc := "(Ljava/lang/Object;ILjava/lang/Object;II)V" } : MethodName)) ∈ lw_g := wt (List.mem_of_getElem? (i := 525) (by decide +kernel)) rfl
theorem wm_526 : (Cond.methodLink "java/util/ArrayList" (79 : Nat) ({ cls := "java/lang/Math", name := "max", desc := "(II)I" } : MethodName)) ∈ lw_g := wt (List.mem_of_getElem? (i := 526) (by decide +kernel)) rfl
theorem wm_527 : (Cond.classLink "java/util/ArrayList" (7 : Nat) "java/lang/Object") ∈ lw_g := wt (List.mem_of_getElem? (i := 527) (by decide +kernel)) rfl
theorem wm_528 : (Cond.methodLink "StepPrograms$Tape" (51 : Nat) ({ cls := "StepPrograms$Script", name := "lineOfMissingLabel", desc := "()I" } : MethodName)) ∈ lw_g := wt (List.mem_of_getElem? (i := 528) (by decide +kernel)) rfl
theorem wm_529 : (Cond.instanceMethod ({ cls := "StepPrograms$Script", name := "lineOfMissingLabel", desc := "()I" } : MethodName)) ∈ lw_g := wt (List.mem_of_getElem? (i := 529) (by decide +kernel)) rfl
theorem wm_530 : (Cond.selects "StepPrograms$Script" ({ cls := "StepPrograms$Script", name := "lineOfMissingLabel", desc := "()I" } : MethodName) ({ cls := "StepPrograms$Script", name := "lineOfMissingLabel", desc := "()I" } : MethodName)) ∈ lw_g := wt (List.mem_of_getElem? (i := 530) (by decide +kernel)) rfl
set_option maxRecDepth 100000 in
theorem wm_531 : (Cond.code ({ cls := "StepPrograms$Script", name := "lineOfMissingLabel", desc := "()I" } : MethodName) prog_7_method_5_code (3 : Nat) (Option.some FieldType.int)) ∈ lw_g := wt (List.mem_of_getElem? (i := 531) rfl) rfl
theorem wm_532 : (Cond.methodLink "StepPrograms$Script" (32 : Nat) ({ cls := "java/util/ArrayList", name := "get", desc := "(I)Ljava/lang/Object;" } : MethodName)) ∈ lw_g := wt (List.mem_of_getElem? (i := 532) (by decide +kernel)) rfl
theorem wm_533 : (Cond.instanceMethod ({ cls := "java/util/ArrayList", name := "get", desc := "(I)Ljava/lang/Object;" } : MethodName)) ∈ lw_g := wt (List.mem_of_getElem? (i := 533) (by decide +kernel)) rfl
theorem wm_534 : (Cond.selects "java/util/ArrayList" ({ cls := "java/util/ArrayList", name := "get", desc := "(I)Ljava/lang/Object;" } : MethodName) ({ cls := "java/util/ArrayList", name := "get", desc := "(I)Ljava/lang/Object;" } : MethodName)) ∈ lw_g := wt (List.mem_of_getElem? (i := 534) (by decide +kernel)) rfl
set_option maxRecDepth 100000 in
theorem wm_535 : (Cond.code ({ cls := "java/util/ArrayList", name := "get", desc := "(I)Ljava/lang/Object;" } : MethodName) prog_24_method_20_code (2 : Nat) (Option.some (FieldType.object "java/lang/Object"))) ∈ lw_g := wt (List.mem_of_getElem? (i := 535) rfl) rfl
theorem wm_536 : (Cond.methodLink "java/util/ArrayList" (118 : Nat) ({ cls := "java/util/Objects", name := "checkIndex", desc := "(II)I" } : MethodName)) ∈ lw_g := wt (List.mem_of_getElem? (i := 536) (by decide +kernel)) rfl
theorem wm_537 : (Cond.static ({ cls := "java/util/Objects", name := "checkIndex", desc := "(II)I" } : MethodName)) ∈ lw_g := wt (List.mem_of_getElem? (i := 537) (by decide +kernel)) rfl
set_option maxRecDepth 100000 in
theorem wm_538 : (Cond.code ({ cls := "java/util/Objects", name := "checkIndex", desc := "(II)I" } : MethodName) prog_28_method_17_code (2 : Nat) (Option.some FieldType.int)) ∈ lw_g := wt (List.mem_of_getElem? (i := 538) rfl) rfl
theorem wm_539 : (Cond.methodLink "java/util/Objects" (105 : Nat) ({ cls := "jdk/internal/util/Preconditions", name := "checkIndex", desc := "(IILjava/util/function/BiFunction;)I" } : MethodName)) ∈ lw_g := wt (List.mem_of_getElem? (i := 539) (by decide +kernel)) rfl
theorem wm_540 : (Cond.methodLink "java/util/ArrayList" (123 : Nat) ({ cls := "java/util/ArrayList", name := "elementData", desc := "(I)Ljava/lang/Object;" } : MethodName)) ∈ lw_g := wt (List.mem_of_getElem? (i := 540) (by decide +kernel)) rfl
theorem wm_541 : (Cond.instanceMethod ({ cls := "java/util/ArrayList", name := "elementData", desc := "(I)Ljava/lang/Object;" } : MethodName)) ∈ lw_g := wt (List.mem_of_getElem? (i := 541) (by decide +kernel)) rfl
theorem wm_542 : (Cond.selects "java/util/ArrayList" ({ cls := "java/util/ArrayList", name := "elementData", desc := "(I)Ljava/lang/Object;" } : MethodName) ({ cls := "java/util/ArrayList", name := "elementData", desc := "(I)Ljava/lang/Object;" } : MethodName)) ∈ lw_g := wt (List.mem_of_getElem? (i := 542) (by decide +kernel)) rfl
set_option maxRecDepth 100000 in
theorem wm_543 : (Cond.code ({ cls := "java/util/ArrayList", name := "elementData", desc := "(I)Ljava/lang/Object;" } : MethodName) prog_24_method_18_code (2 : Nat) (Option.some (FieldType.object "java/lang/Object"))) ∈ lw_g := wt (List.mem_of_getElem? (i := 543) rfl) rfl
theorem wm_544 : (Cond.classLink "StepPrograms$Script" (36 : Nat) "StepPrograms$Statement") ∈ lw_g := wt (List.mem_of_getElem? (i := 544) (by decide +kernel)) rfl
theorem wm_545 : (Cond.methodLink "StepPrograms$Script" (42 : Nat) ({ cls := "StepPrograms$Script", name := "placeOf", desc := "(I)I" } : MethodName)) ∈ lw_g := wt (List.mem_of_getElem? (i := 545) (by decide +kernel)) rfl
theorem wm_546 : (Cond.instanceMethod ({ cls := "StepPrograms$Script", name := "placeOf", desc := "(I)I" } : MethodName)) ∈ lw_g := wt (List.mem_of_getElem? (i := 546) (by decide +kernel)) rfl
theorem wm_547 : (Cond.selects "StepPrograms$Script" ({ cls := "StepPrograms$Script", name := "placeOf", desc := "(I)I" } : MethodName) ({ cls := "StepPrograms$Script", name := "placeOf", desc := "(I)I" } : MethodName)) ∈ lw_g := wt (List.mem_of_getElem? (i := 547) (by decide +kernel)) rfl
set_option maxRecDepth 100000 in
theorem wm_548 : (Cond.code ({ cls := "StepPrograms$Script", name := "placeOf", desc := "(I)I" } : MethodName) prog_7_method_3_code (2 : Nat) (Option.some FieldType.int)) ∈ lw_g := wt (List.mem_of_getElem? (i := 548) rfl) rfl
theorem wm_553 : (Cond.methodLink "StepPrograms" (58 : Nat) ({ cls := "StepPrograms$Machine", name := "fileAt", desc := "(I)LStepPrograms$Row;" } : MethodName)) ∈ lw_g := wt (List.mem_of_getElem? (i := 553) (by decide +kernel)) rfl
theorem wm_554 : (Cond.instanceMethod ({ cls := "StepPrograms$Machine", name := "fileAt", desc := "(I)LStepPrograms$Row;" } : MethodName)) ∈ lw_g := wt (List.mem_of_getElem? (i := 554) (by decide +kernel)) rfl
theorem wm_555 : (Cond.selects "StepPrograms$Machine" ({ cls := "StepPrograms$Machine", name := "fileAt", desc := "(I)LStepPrograms$Row;" } : MethodName) ({ cls := "StepPrograms$Machine", name := "fileAt", desc := "(I)LStepPrograms$Row;" } : MethodName)) ∈ lw_g := wt (List.mem_of_getElem? (i := 555) (by decide +kernel)) rfl
set_option maxRecDepth 100000 in
theorem wm_556 : (Cond.code ({ cls := "StepPrograms$Machine", name := "fileAt", desc := "(I)LStepPrograms$Row;" } : MethodName) prog_5_method_2_code (2 : Nat) (Option.some (FieldType.object "StepPrograms$Row"))) ∈ lw_g := wt (List.mem_of_getElem? (i := 556) rfl) rfl
theorem wm_561 : (Cond.methodLink "StepPrograms" (62 : Nat) ({ cls := "StepPrograms$Row", name := "remove", desc := "()V" } : MethodName)) ∈ lw_g := wt (List.mem_of_getElem? (i := 561) (by decide +kernel)) rfl
theorem wm_562 : (Cond.instanceMethod ({ cls := "StepPrograms$Row", name := "remove", desc := "()V" } : MethodName)) ∈ lw_g := wt (List.mem_of_getElem? (i := 562) (by decide +kernel)) rfl
theorem wm_563 : (Cond.selects "StepPrograms$Row" ({ cls := "StepPrograms$Row", name := "remove", desc := "()V" } : MethodName) ({ cls := "StepPrograms$Row", name := "remove", desc := "()V" } : MethodName)) ∈ lw_g := wt (List.mem_of_getElem? (i := 563) (by decide +kernel)) rfl
set_option maxRecDepth 100000 in
theorem wm_564 : (Cond.code ({ cls := "StepPrograms$Row", name := "remove", desc := "()V" } : MethodName) prog_6_method_5_code (1 : Nat) (Option.none : Option FieldType)) ∈ lw_g := wt (List.mem_of_getElem? (i := 564) rfl) rfl
theorem wm_573 : (Cond.methodLink "StepPrograms" (69 : Nat) ({ cls := "StepPrograms$Machine", name := "scriptAt", desc := "(I)LStepPrograms$Script;" } : MethodName)) ∈ lw_g := wt (List.mem_of_getElem? (i := 573) (by decide +kernel)) rfl
theorem wm_574 : (Cond.instanceMethod ({ cls := "StepPrograms$Machine", name := "scriptAt", desc := "(I)LStepPrograms$Script;" } : MethodName)) ∈ lw_g := wt (List.mem_of_getElem? (i := 574) (by decide +kernel)) rfl
theorem wm_575 : (Cond.selects "StepPrograms$Machine" ({ cls := "StepPrograms$Machine", name := "scriptAt", desc := "(I)LStepPrograms$Script;" } : MethodName) ({ cls := "StepPrograms$Machine", name := "scriptAt", desc := "(I)LStepPrograms$Script;" } : MethodName)) ∈ lw_g := wt (List.mem_of_getElem? (i := 575) (by decide +kernel)) rfl
set_option maxRecDepth 100000 in
theorem wm_576 : (Cond.code ({ cls := "StepPrograms$Machine", name := "scriptAt", desc := "(I)LStepPrograms$Script;" } : MethodName) prog_5_method_3_code (2 : Nat) (Option.some (FieldType.object "StepPrograms$Script"))) ∈ lw_g := wt (List.mem_of_getElem? (i := 576) rfl) rfl
theorem wm_577 : (Cond.methodLink "StepPrograms" (73 : Nat) ({ cls := "StepPrograms$Machine", name := "start", desc := "(LStepPrograms$Script;II)I" } : MethodName)) ∈ lw_g := wt (List.mem_of_getElem? (i := 577) (by decide +kernel)) rfl
theorem wm_578 : (Cond.instanceMethod ({ cls := "StepPrograms$Machine", name := "start", desc := "(LStepPrograms$Script;II)I" } : MethodName)) ∈ lw_g := wt (List.mem_of_getElem? (i := 578) (by decide +kernel)) rfl
theorem wm_579 : (Cond.selects "StepPrograms$Machine" ({ cls := "StepPrograms$Machine", name := "start", desc := "(LStepPrograms$Script;II)I" } : MethodName) ({ cls := "StepPrograms$Machine", name := "start", desc := "(LStepPrograms$Script;II)I" } : MethodName)) ∈ lw_g := wt (List.mem_of_getElem? (i := 579) (by decide +kernel)) rfl
set_option maxRecDepth 100000 in
theorem wm_580 : (Cond.code ({ cls := "StepPrograms$Machine", name := "start", desc := "(LStepPrograms$Script;II)I" } : MethodName) prog_5_method_4_code (4 : Nat) (Option.some FieldType.int)) ∈ lw_g := wt (List.mem_of_getElem? (i := 580) rfl) rfl
theorem wm_581 : (Cond.methodLink "StepPrograms$Machine" (68 : Nat) ({ cls := "StepPrograms$Row", name := "makeEmpty", desc := "()V" } : MethodName)) ∈ lw_g := wt (List.mem_of_getElem? (i := 581) (by decide +kernel)) rfl
theorem wm_582 : (Cond.methodLink "StepPrograms$Machine" (71 : Nat) ({ cls := "StepPrograms$Machine", name := "follow", desc := "(LStepPrograms$Script;LStepPrograms$Frame;I)I" } : MethodName)) ∈ lw_g := wt (List.mem_of_getElem? (i := 582) (by decide +kernel)) rfl
theorem wm_584 : (Cond.instanceMethod ({ cls := "StepPrograms$Machine", name := "follow", desc := "(LStepPrograms$Script;LStepPrograms$Frame;I)I" } : MethodName)) ∈ lw_g := wt (List.mem_of_getElem? (i := 584) (by decide +kernel)) rfl
set_option maxRecDepth 100000 in
theorem wm_585 : (Cond.code ({ cls := "StepPrograms$Machine", name := "follow", desc := "(LStepPrograms$Script;LStepPrograms$Frame;I)I" } : MethodName) prog_5_method_5_code (7 : Nat) (Option.some FieldType.int)) ∈ lw_g := wt (List.mem_of_getElem? (i := 585) rfl) rfl
theorem wm_586 : (Cond.methodLink "StepPrograms$Machine" (75 : Nat) ({ cls := "StepPrograms$Frame", name := "begin", desc := "(I)V" } : MethodName)) ∈ lw_g := wt (List.mem_of_getElem? (i := 586) (by decide +kernel)) rfl
theorem wm_587 : (Cond.instanceMethod ({ cls := "StepPrograms$Frame", name := "begin", desc := "(I)V" } : MethodName)) ∈ lw_g := wt (List.mem_of_getElem? (i := 587) (by decide +kernel)) rfl
theorem wm_588 : (Cond.selects "StepPrograms$Frame" ({ cls := "StepPrograms$Frame", name := "begin", desc := "(I)V" } : MethodName) ({ cls := "StepPrograms$Frame", name := "begin", desc := "(I)V" } : MethodName)) ∈ lw_g := wt (List.mem_of_getElem? (i := 588) (by decide +kernel)) rfl
set_option maxRecDepth 100000 in
theorem wm_589 : (Cond.code ({ cls := "StepPrograms$Frame", name := "begin", desc := "(I)V" } : MethodName) prog_4_method_2_code (2 : Nat) (Option.none : Option FieldType)) ∈ lw_g := wt (List.mem_of_getElem? (i := 589) rfl) rfl
theorem wm_590 : (Cond.methodLink "StepPrograms$Frame" (25 : Nat) ({ cls := "java/util/Arrays", name := "fill", desc := "([II)V" } : MethodName)) ∈ lw_g := wt (List.mem_of_getElem? (i := 590) (by decide +kernel)) rfl
theorem wm_591 : (Cond.methodLink "StepPrograms$Machine" (81 : Nat) ({ cls := "java/lang/Math", name := "max", desc := "(II)I" } : MethodName)) ∈ lw_g := wt (List.mem_of_getElem? (i := 591) (by decide +kernel)) rfl
theorem wm_592 : (Cond.methodLink "StepPrograms$Machine" (90 : Nat) ({ cls := "StepPrograms$Script", name := "at", desc := "(I)LStepPrograms$Statement;" } : MethodName)) ∈ lw_g := wt (List.mem_of_getElem? (i := 592) (by decide +kernel)) rfl
theorem wm_593 : (Cond.instanceMethod ({ cls := "StepPrograms$Script", name := "at", desc := "(I)LStepPrograms$Statement;" } : MethodName)) ∈ lw_g := wt (List.mem_of_getElem? (i := 593) (by decide +kernel)) rfl
theorem wm_594 : (Cond.selects "StepPrograms$Script" ({ cls := "StepPrograms$Script", name := "at", desc := "(I)LStepPrograms$Statement;" } : MethodName) ({ cls := "StepPrograms$Script", name := "at", desc := "(I)LStepPrograms$Statement;" } : MethodName)) ∈ lw_g := wt (List.mem_of_getElem? (i := 594) (by decide +kernel)) rfl
set_option maxRecDepth 100000 in
theorem wm_595 : (Cond.code ({ cls := "StepPrograms$Script", name := "at", desc := "(I)LStepPrograms$Statement;" } : MethodName) prog_7_method_2_code (2 : Nat) (Option.some (FieldType.object "StepPrograms$Statement"))) ∈ lw_g := wt (List.mem_of_getElem? (i := 595) rfl) rfl
theorem wm_596 : (Cond.methodLink "StepPrograms$Machine" (103 : Nat) ({ cls := "StepPrograms$Machine", name := "perform", desc := "(LStepPrograms$Statement;LStepPrograms$Script;LStepPrograms$Frame;)I" } : MethodName)) ∈ lw_g := wt (List.mem_of_getElem? (i := 596) (by decide +kernel)) rfl
theorem wm_598 : (Cond.instanceMethod ({ cls := "StepPrograms$Machine", name := "perform", desc := "(LStepPrograms$Statement;LStepPrograms$Script;LStepPrograms$Frame;)I" } : MethodName)) ∈ lw_g := wt (List.mem_of_getElem? (i := 598) (by decide +kernel)) rfl
set_option maxRecDepth 100000 in
theorem wm_599 : (Cond.code ({ cls := "StepPrograms$Machine", name := "perform", desc := "(LStepPrograms$Statement;LStepPrograms$Script;LStepPrograms$Frame;)I" } : MethodName) prog_5_method_6_code (6 : Nat) (Option.some FieldType.int)) ∈ lw_g := wt (List.mem_of_getElem? (i := 599) rfl) rfl
theorem wm_600 : (Cond.methodLink "StepPrograms$Machine" (110 : Nat) ({ cls := "StepPrograms$Frame", name := "valueOf", desc := "(I)I" } : MethodName)) ∈ lw_g := wt (List.mem_of_getElem? (i := 600) (by decide +kernel)) rfl
theorem wm_601 : (Cond.instanceMethod ({ cls := "StepPrograms$Frame", name := "valueOf", desc := "(I)I" } : MethodName)) ∈ lw_g := wt (List.mem_of_getElem? (i := 601) (by decide +kernel)) rfl
theorem wm_602 : (Cond.selects "StepPrograms$Frame" ({ cls := "StepPrograms$Frame", name := "valueOf", desc := "(I)I" } : MethodName) ({ cls := "StepPrograms$Frame", name := "valueOf", desc := "(I)I" } : MethodName)) ∈ lw_g := wt (List.mem_of_getElem? (i := 602) (by decide +kernel)) rfl
set_option maxRecDepth 100000 in
theorem wm_603 : (Cond.code ({ cls := "StepPrograms$Frame", name := "valueOf", desc := "(I)I" } : MethodName) prog_4_method_3_code (3 : Nat) (Option.some FieldType.int)) ∈ lw_g := wt (List.mem_of_getElem? (i := 603) rfl) rfl
theorem wm_604 : (Cond.constant "StepPrograms$Frame" (37 : Nat) (1000000 : Int32)) ∈ lw_g := wt (List.mem_of_getElem? (i := 604) (by decide +kernel)) rfl
theorem wm_605 : (Cond.fieldLink "StepPrograms$Machine" (117 : Nat) "StepPrograms$1" "$SwitchMap$StepPrograms$Form" "[I") ∈ lw_g := wt (List.mem_of_getElem? (i := 605) (by decide +kernel)) rfl
theorem wm_607 : (Cond.methodLink "StepPrograms$Machine" (127 : Nat) ({ cls := "StepPrograms$Form", name := "ordinal", desc := "()I" } : MethodName)) ∈ lw_g := wt (List.mem_of_getElem? (i := 607) (by decide +kernel)) rfl
theorem wm_608 : (Cond.sameMethod "StepPrograms$Form" "java/lang/Enum" "ordinal" "()I") ∈ lw_g := wt (List.mem_of_getElem? (i := 608) (by decide +kernel)) rfl
theorem wm_610 : (Cond.selects "StepPrograms$Form" ({ cls := "StepPrograms$Form", name := "ordinal", desc := "()I" } : MethodName) ({ cls := "java/lang/Enum", name := "ordinal", desc := "()I" } : MethodName)) ∈ lw_g := wt (List.mem_of_getElem? (i := 610) (by decide +kernel)) rfl
theorem wm_611 : (Cond.instanceMethod ({ cls := "java/lang/Enum", name := "ordinal", desc := "()I" } : MethodName)) ∈ lw_g := wt (List.mem_of_getElem? (i := 611) (by decide +kernel)) rfl
set_option maxRecDepth 100000 in
theorem wm_612 : (Cond.code ({ cls := "java/lang/Enum", name := "ordinal", desc := "()I" } : MethodName) prog_15_method_2_code (1 : Nat) (Option.some FieldType.int)) ∈ lw_g := wt (List.mem_of_getElem? (i := 612) rfl) rfl
theorem wm_613 : (Cond.methodLink "StepPrograms$Machine" (136 : Nat) ({ cls := "StepPrograms$Frame", name := "set", desc := "(II)V" } : MethodName)) ∈ lw_g := wt (List.mem_of_getElem? (i := 613) (by decide +kernel)) rfl
theorem wm_614 : (Cond.instanceMethod ({ cls := "StepPrograms$Frame", name := "set", desc := "(II)V" } : MethodName)) ∈ lw_g := wt (List.mem_of_getElem? (i := 614) (by decide +kernel)) rfl
theorem wm_615 : (Cond.selects "StepPrograms$Frame" ({ cls := "StepPrograms$Frame", name := "set", desc := "(II)V" } : MethodName) ({ cls := "StepPrograms$Frame", name := "set", desc := "(II)V" } : MethodName)) ∈ lw_g := wt (List.mem_of_getElem? (i := 615) (by decide +kernel)) rfl
set_option maxRecDepth 100000 in
theorem wm_616 : (Cond.code ({ cls := "StepPrograms$Frame", name := "set", desc := "(II)V" } : MethodName) prog_4_method_4_code (3 : Nat) (Option.none : Option FieldType)) ∈ lw_g := wt (List.mem_of_getElem? (i := 616) rfl) rfl
theorem wm_617 : (Cond.methodLink "StepPrograms$Machine" (140 : Nat) ({ cls := "StepPrograms$Machine", name := "calculate", desc := "(LStepPrograms$Frame;LStepPrograms$Statement;II)I" } : MethodName)) ∈ lw_g := wt (List.mem_of_getElem? (i := 617) (by decide +kernel)) rfl
theorem wm_618 : (Cond.static ({ cls := "StepPrograms$Machine", name := "calculate", desc := "(LStepPrograms$Frame;LStepPrograms$Statement;II)I" } : MethodName)) ∈ lw_g := wt (List.mem_of_getElem? (i := 618) (by decide +kernel)) rfl
set_option maxRecDepth 100000 in
theorem wm_619 : (Cond.code ({ cls := "StepPrograms$Machine", name := "calculate", desc := "(LStepPrograms$Frame;LStepPrograms$Statement;II)I" } : MethodName) prog_5_method_7_code (5 : Nat) (Option.some FieldType.int)) ∈ lw_g := wt (List.mem_of_getElem? (i := 619) rfl) rfl
theorem wm_620 : (Cond.methodLink "StepPrograms$Machine" (198 : Nat) ({ cls := "StepPrograms$Machine", name := "divided", desc := "(III)I" } : MethodName)) ∈ lw_g := wt (List.mem_of_getElem? (i := 620) (by decide +kernel)) rfl
theorem wm_621 : (Cond.static ({ cls := "StepPrograms$Machine", name := "divided", desc := "(III)I" } : MethodName)) ∈ lw_g := wt (List.mem_of_getElem? (i := 621) (by decide +kernel)) rfl
set_option maxRecDepth 100000 in
theorem wm_622 : (Cond.code ({ cls := "StepPrograms$Machine", name := "divided", desc := "(III)I" } : MethodName) prog_5_method_8_code (3 : Nat) (Option.some FieldType.int)) ∈ lw_g := wt (List.mem_of_getElem? (i := 622) rfl) rfl
theorem wm_623 : (Cond.methodLink "StepPrograms$Machine" (202 : Nat) ({ cls := "StepPrograms$Machine", name := "combined", desc := "(III)I" } : MethodName)) ∈ lw_g := wt (List.mem_of_getElem? (i := 623) (by decide +kernel)) rfl
theorem wm_624 : (Cond.static ({ cls := "StepPrograms$Machine", name := "combined", desc := "(III)I" } : MethodName)) ∈ lw_g := wt (List.mem_of_getElem? (i := 624) (by decide +kernel)) rfl
set_option maxRecDepth 100000 in
theorem wm_625 : (Cond.code ({ cls := "StepPrograms$Machine", name := "combined", desc := "(III)I" } : MethodName) prog_5_method_9_code (3 : Nat) (Option.some FieldType.int)) ∈ lw_g := wt (List.mem_of_getElem? (i := 625) rfl) rfl
theorem wm_626 : (Cond.methodLink "StepPrograms$Machine" (180 : Nat) ({ cls := "StepPrograms$Machine", name := "holds", desc := "(III)Z" } : MethodName)) ∈ lw_g := wt (List.mem_of_getElem? (i := 626) (by decide +kernel)) rfl
theorem wm_627 : (Cond.static ({ cls := "StepPrograms$Machine", name := "holds", desc := "(III)Z" } : MethodName)) ∈ lw_g := wt (List.mem_of_getElem? (i := 627) (by decide +kernel)) rfl
set_option maxRecDepth 100000 in
theorem wm_628 : (Cond.code ({ cls := "StepPrograms$Machine", name := "holds", desc := "(III)Z" } : MethodName) prog_5_method_10_code (3 : Nat) (Option.some FieldType.boolean)) ∈ lw_g := wt (List.mem_of_getElem? (i := 628) rfl) rfl
theorem wm_629 : (Cond.methodLink "StepPrograms$Machine" (144 : Nat) ({ cls := "StepPrograms$Machine", name := "getCell", desc := "(LStepPrograms$Frame;II)I" } : MethodName)) ∈ lw_g := wt (List.mem_of_getElem? (i := 629) (by decide +kernel)) rfl
theorem wm_630 : (Cond.static ({ cls := "StepPrograms$Machine", name := "getCell", desc := "(LStepPrograms$Frame;II)I" } : MethodName)) ∈ lw_g := wt (List.mem_of_getElem? (i := 630) (by decide +kernel)) rfl
set_option maxRecDepth 100000 in
theorem wm_631 : (Cond.code ({ cls := "StepPrograms$Machine", name := "getCell", desc := "(LStepPrograms$Frame;II)I" } : MethodName) prog_5_method_11_code (3 : Nat) (Option.some FieldType.int)) ∈ lw_g := wt (List.mem_of_getElem? (i := 631) rfl) rfl
theorem wm_632 : (Cond.methodLink "StepPrograms$Machine" (148 : Nat) ({ cls := "StepPrograms$Machine", name := "putCell", desc := "(LStepPrograms$Frame;II)I" } : MethodName)) ∈ lw_g := wt (List.mem_of_getElem? (i := 632) (by decide +kernel)) rfl
theorem wm_633 : (Cond.static ({ cls := "StepPrograms$Machine", name := "putCell", desc := "(LStepPrograms$Frame;II)I" } : MethodName)) ∈ lw_g := wt (List.mem_of_getElem? (i := 633) (by decide +kernel)) rfl
set_option maxRecDepth 100000 in
theorem wm_634 : (Cond.code ({ cls := "StepPrograms$Machine", name := "putCell", desc := "(LStepPrograms$Frame;II)I" } : MethodName) prog_5_method_12_code (3 : Nat) (Option.some FieldType.int)) ∈ lw_g := wt (List.mem_of_getElem? (i := 634) rfl) rfl
theorem wm_635 : (Cond.methodLink "StepPrograms$Machine" (151 : Nat) ({ cls := "StepPrograms$Machine", name := "sizeFile", desc := "(LStepPrograms$Frame;II)I" } : MethodName)) ∈ lw_g := wt (List.mem_of_getElem? (i := 635) (by decide +kernel)) rfl
theorem wm_637 : (Cond.instanceMethod ({ cls := "StepPrograms$Machine", name := "sizeFile", desc := "(LStepPrograms$Frame;II)I" } : MethodName)) ∈ lw_g := wt (List.mem_of_getElem? (i := 637) (by decide +kernel)) rfl
set_option maxRecDepth 100000 in
theorem wm_638 : (Cond.code ({ cls := "StepPrograms$Machine", name := "sizeFile", desc := "(LStepPrograms$Frame;II)I" } : MethodName) prog_5_method_13_code (5 : Nat) (Option.some FieldType.int)) ∈ lw_g := wt (List.mem_of_getElem? (i := 638) rfl) rfl
theorem wm_639 : (Cond.methodLink "StepPrograms$Machine" (208 : Nat) ({ cls := "StepPrograms$Machine", name := "fileAt", desc := "(I)LStepPrograms$Row;" } : MethodName)) ∈ lw_g := wt (List.mem_of_getElem? (i := 639) (by decide +kernel)) rfl
theorem wm_640 : (Cond.methodLink "StepPrograms$Machine" (212 : Nat) ({ cls := "StepPrograms$Row", name := "countIfThere", desc := "()I" } : MethodName)) ∈ lw_g := wt (List.mem_of_getElem? (i := 640) (by decide +kernel)) rfl
theorem wm_641 : (Cond.instanceMethod ({ cls := "StepPrograms$Row", name := "countIfThere", desc := "()I" } : MethodName)) ∈ lw_g := wt (List.mem_of_getElem? (i := 641) (by decide +kernel)) rfl
theorem wm_642 : (Cond.selects "StepPrograms$Row" ({ cls := "StepPrograms$Row", name := "countIfThere", desc := "()I" } : MethodName) ({ cls := "StepPrograms$Row", name := "countIfThere", desc := "()I" } : MethodName)) ∈ lw_g := wt (List.mem_of_getElem? (i := 642) (by decide +kernel)) rfl
set_option maxRecDepth 100000 in
theorem wm_643 : (Cond.code ({ cls := "StepPrograms$Row", name := "countIfThere", desc := "()I" } : MethodName) prog_6_method_8_code (1 : Nat) (Option.some FieldType.int)) ∈ lw_g := wt (List.mem_of_getElem? (i := 643) rfl) rfl
theorem wm_644 : (Cond.methodLink "StepPrograms$Machine" (154 : Nat) ({ cls := "StepPrograms$Machine", name := "readFile", desc := "(LStepPrograms$Frame;III)I" } : MethodName)) ∈ lw_g := wt (List.mem_of_getElem? (i := 644) (by decide +kernel)) rfl
theorem wm_646 : (Cond.instanceMethod ({ cls := "StepPrograms$Machine", name := "readFile", desc := "(LStepPrograms$Frame;III)I" } : MethodName)) ∈ lw_g := wt (List.mem_of_getElem? (i := 646) (by decide +kernel)) rfl
set_option maxRecDepth 100000 in
theorem wm_647 : (Cond.code ({ cls := "StepPrograms$Machine", name := "readFile", desc := "(LStepPrograms$Frame;III)I" } : MethodName) prog_5_method_14_code (7 : Nat) (Option.some FieldType.int)) ∈ lw_g := wt (List.mem_of_getElem? (i := 647) rfl) rfl
theorem wm_648 : (Cond.methodLink "StepPrograms$Machine" (218 : Nat) ({ cls := "StepPrograms$Row", name := "at", desc := "(I)I" } : MethodName)) ∈ lw_g := wt (List.mem_of_getElem? (i := 648) (by decide +kernel)) rfl
theorem wm_649 : (Cond.methodLink "StepPrograms$Machine" (158 : Nat) ({ cls := "StepPrograms$Machine", name := "writeFile", desc := "(II)I" } : MethodName)) ∈ lw_g := wt (List.mem_of_getElem? (i := 649) (by decide +kernel)) rfl
theorem wm_651 : (Cond.instanceMethod ({ cls := "StepPrograms$Machine", name := "writeFile", desc := "(II)I" } : MethodName)) ∈ lw_g := wt (List.mem_of_getElem? (i := 651) (by decide +kernel)) rfl
set_option maxRecDepth 100000 in
theorem wm_652 : (Cond.code ({ cls := "StepPrograms$Machine", name := "writeFile", desc := "(II)I" } : MethodName) prog_5_method_15_code (4 : Nat) (Option.some FieldType.int)) ∈ lw_g := wt (List.mem_of_getElem? (i := 652) rfl) rfl
theorem wm_653 : (Cond.methodLink "StepPrograms$Machine" (167 : Nat) ({ cls := "StepPrograms$Machine", name := "speak", desc := "(LStepPrograms$Row;I)I" } : MethodName)) ∈ lw_g := wt (List.mem_of_getElem? (i := 653) (by decide +kernel)) rfl
theorem wm_654 : (Cond.static ({ cls := "StepPrograms$Machine", name := "speak", desc := "(LStepPrograms$Row;I)I" } : MethodName)) ∈ lw_g := wt (List.mem_of_getElem? (i := 654) (by decide +kernel)) rfl
set_option maxRecDepth 100000 in
theorem wm_655 : (Cond.code ({ cls := "StepPrograms$Machine", name := "speak", desc := "(LStepPrograms$Row;I)I" } : MethodName) prog_5_method_18_code (2 : Nat) (Option.some FieldType.int)) ∈ lw_g := wt (List.mem_of_getElem? (i := 655) rfl) rfl
theorem wm_656 : (Cond.methodLink "StepPrograms$Machine" (227 : Nat) ({ cls := "StepPrograms$Row", name := "hasRoomFor", desc := "(I)Z" } : MethodName)) ∈ lw_g := wt (List.mem_of_getElem? (i := 656) (by decide +kernel)) rfl
theorem wm_657 : (Cond.methodLink "StepPrograms$Machine" (230 : Nat) ({ cls := "StepPrograms$Row", name := "add", desc := "(I)V" } : MethodName)) ∈ lw_g := wt (List.mem_of_getElem? (i := 657) (by decide +kernel)) rfl
theorem wm_658 : (Cond.methodLink "StepPrograms$Machine" (161 : Nat) ({ cls := "StepPrograms$Machine", name := "dropFile", desc := "(I)I" } : MethodName)) ∈ lw_g := wt (List.mem_of_getElem? (i := 658) (by decide +kernel)) rfl
theorem wm_660 : (Cond.instanceMethod ({ cls := "StepPrograms$Machine", name := "dropFile", desc := "(I)I" } : MethodName)) ∈ lw_g := wt (List.mem_of_getElem? (i := 660) (by decide +kernel)) rfl
set_option maxRecDepth 100000 in
theorem wm_661 : (Cond.code ({ cls := "StepPrograms$Machine", name := "dropFile", desc := "(I)I" } : MethodName) prog_5_method_16_code (3 : Nat) (Option.some FieldType.int)) ∈ lw_g := wt (List.mem_of_getElem? (i := 661) rfl) rfl
theorem wm_662 : (Cond.methodLink "StepPrograms$Machine" (220 : Nat) ({ cls := "StepPrograms$Row", name := "remove", desc := "()V" } : MethodName)) ∈ lw_g := wt (List.mem_of_getElem? (i := 662) (by decide +kernel)) rfl
theorem wm_663 : (Cond.methodLink "StepPrograms$Machine" (164 : Nat) ({ cls := "StepPrograms$Machine", name := "copyFile", desc := "(II)I" } : MethodName)) ∈ lw_g := wt (List.mem_of_getElem? (i := 663) (by decide +kernel)) rfl
theorem wm_665 : (Cond.instanceMethod ({ cls := "StepPrograms$Machine", name := "copyFile", desc := "(II)I" } : MethodName)) ∈ lw_g := wt (List.mem_of_getElem? (i := 665) (by decide +kernel)) rfl
set_option maxRecDepth 100000 in
theorem wm_666 : (Cond.code ({ cls := "StepPrograms$Machine", name := "copyFile", desc := "(II)I" } : MethodName) prog_5_method_17_code (5 : Nat) (Option.some FieldType.int)) ∈ lw_g := wt (List.mem_of_getElem? (i := 666) rfl) rfl
theorem wm_667 : (Cond.methodLink "StepPrograms$Machine" (223 : Nat) ({ cls := "StepPrograms$Row", name := "become", desc := "(LStepPrograms$Row;)V" } : MethodName)) ∈ lw_g := wt (List.mem_of_getElem? (i := 667) (by decide +kernel)) rfl
theorem wm_668 : (Cond.instanceMethod ({ cls := "StepPrograms$Row", name := "become", desc := "(LStepPrograms$Row;)V" } : MethodName)) ∈ lw_g := wt (List.mem_of_getElem? (i := 668) (by decide +kernel)) rfl
theorem wm_669 : (Cond.selects "StepPrograms$Row" ({ cls := "StepPrograms$Row", name := "become", desc := "(LStepPrograms$Row;)V" } : MethodName) ({ cls := "StepPrograms$Row", name := "become", desc := "(LStepPrograms$Row;)V" } : MethodName)) ∈ lw_g := wt (List.mem_of_getElem? (i := 669) (by decide +kernel)) rfl
set_option maxRecDepth 100000 in
theorem wm_670 : (Cond.code ({ cls := "StepPrograms$Row", name := "become", desc := "(LStepPrograms$Row;)V" } : MethodName) prog_6_method_6_code (3 : Nat) (Option.none : Option FieldType)) ∈ lw_g := wt (List.mem_of_getElem? (i := 670) rfl) rfl
theorem wm_671 : (Cond.methodLink "StepPrograms$Row" (23 : Nat) ({ cls := "java/lang/Math", name := "min", desc := "(II)I" } : MethodName)) ∈ lw_g := wt (List.mem_of_getElem? (i := 671) (by decide +kernel)) rfl
theorem wm_672 : (Cond.methodLink "StepPrograms$Row" (29 : Nat) ({ cls := "java/lang/System", name := "arraycopy", desc := "(Ljava/lang/Object;ILjava/lang/Object;II)V" } : MethodName)) ∈ lw_g := wt (List.mem_of_getElem? (i := 672) (by decide +kernel)) rfl
theorem wm_673 : (Cond.methodLink "StepPrograms$Machine" (174 : Nat) ({ cls := "StepPrograms$Script", name := "placeOf", desc := "(I)I" } : MethodName)) ∈ lw_g := wt (List.mem_of_getElem? (i := 673) (by decide +kernel)) rfl
theorem wm_674 : (Cond.methodLink "StepPrograms$Machine" (184 : Nat) ({ cls := "StepPrograms$Frame", name := "call", desc := "(I)Z" } : MethodName)) ∈ lw_g := wt (List.mem_of_getElem? (i := 674) (by decide +kernel)) rfl
theorem wm_675 : (Cond.instanceMethod ({ cls := "StepPrograms$Frame", name := "call", desc := "(I)Z" } : MethodName)) ∈ lw_g := wt (List.mem_of_getElem? (i := 675) (by decide +kernel)) rfl
theorem wm_676 : (Cond.selects "StepPrograms$Frame" ({ cls := "StepPrograms$Frame", name := "call", desc := "(I)Z" } : MethodName) ({ cls := "StepPrograms$Frame", name := "call", desc := "(I)Z" } : MethodName)) ∈ lw_g := wt (List.mem_of_getElem? (i := 676) (by decide +kernel)) rfl
set_option maxRecDepth 100000 in
theorem wm_677 : (Cond.code ({ cls := "StepPrograms$Frame", name := "call", desc := "(I)Z" } : MethodName) prog_4_method_5_code (2 : Nat) (Option.some FieldType.boolean)) ∈ lw_g := wt (List.mem_of_getElem? (i := 677) rfl) rfl
theorem wm_678 : (Cond.methodLink "StepPrograms$Machine" (188 : Nat) ({ cls := "StepPrograms$Frame", name := "comeBack", desc := "()Z" } : MethodName)) ∈ lw_g := wt (List.mem_of_getElem? (i := 678) (by decide +kernel)) rfl
theorem wm_679 : (Cond.instanceMethod ({ cls := "StepPrograms$Frame", name := "comeBack", desc := "()Z" } : MethodName)) ∈ lw_g := wt (List.mem_of_getElem? (i := 679) (by decide +kernel)) rfl
theorem wm_680 : (Cond.selects "StepPrograms$Frame" ({ cls := "StepPrograms$Frame", name := "comeBack", desc := "()Z" } : MethodName) ({ cls := "StepPrograms$Frame", name := "comeBack", desc := "()Z" } : MethodName)) ∈ lw_g := wt (List.mem_of_getElem? (i := 680) (by decide +kernel)) rfl
set_option maxRecDepth 100000 in
theorem wm_681 : (Cond.code ({ cls := "StepPrograms$Frame", name := "comeBack", desc := "()Z" } : MethodName) prog_4_method_6_code (1 : Nat) (Option.some FieldType.boolean)) ∈ lw_g := wt (List.mem_of_getElem? (i := 681) rfl) rfl
theorem wm_682 : (Cond.methodLink "StepPrograms$Machine" (192 : Nat) ({ cls := "StepPrograms$Machine", name := "runChild", desc := "(LStepPrograms$Frame;III)I" } : MethodName)) ∈ lw_g := wt (List.mem_of_getElem? (i := 682) (by decide +kernel)) rfl
theorem wm_684 : (Cond.instanceMethod ({ cls := "StepPrograms$Machine", name := "runChild", desc := "(LStepPrograms$Frame;III)I" } : MethodName)) ∈ lw_g := wt (List.mem_of_getElem? (i := 684) (by decide +kernel)) rfl
set_option maxRecDepth 100000 in
theorem wm_685 : (Cond.code ({ cls := "StepPrograms$Machine", name := "runChild", desc := "(LStepPrograms$Frame;III)I" } : MethodName) prog_5_method_19_code (8 : Nat) (Option.some FieldType.int)) ∈ lw_g := wt (List.mem_of_getElem? (i := 685) rfl) rfl
theorem wm_686 : (Cond.methodLink "StepPrograms$Machine" (233 : Nat) ({ cls := "StepPrograms$Machine", name := "scriptAt", desc := "(I)LStepPrograms$Script;" } : MethodName)) ∈ lw_g := wt (List.mem_of_getElem? (i := 686) (by decide +kernel)) rfl
theorem wm_687 : (Cond.methodLink "StepPrograms$Machine" (195 : Nat) ({ cls := "StepPrograms$Machine", name := "ask", desc := "(LStepPrograms$Frame;II)I" } : MethodName)) ∈ lw_g := wt (List.mem_of_getElem? (i := 687) (by decide +kernel)) rfl
theorem wm_689 : (Cond.instanceMethod ({ cls := "StepPrograms$Machine", name := "ask", desc := "(LStepPrograms$Frame;II)I" } : MethodName)) ∈ lw_g := wt (List.mem_of_getElem? (i := 689) (by decide +kernel)) rfl
set_option maxRecDepth 100000 in
theorem wm_690 : (Cond.code ({ cls := "StepPrograms$Machine", name := "ask", desc := "(LStepPrograms$Frame;II)I" } : MethodName) prog_5_method_20_code (4 : Nat) (Option.some FieldType.int)) ∈ lw_g := wt (List.mem_of_getElem? (i := 690) rfl) rfl
theorem wm_691 : (Cond.methodLink "StepPrograms$Machine" (237 : Nat) ({ cls := "StepPrograms$Machine", name := "answer", desc := "(LStepPrograms$Frame;I)I" } : MethodName)) ∈ lw_g := wt (List.mem_of_getElem? (i := 691) (by decide +kernel)) rfl
theorem wm_693 : (Cond.instanceMethod ({ cls := "StepPrograms$Machine", name := "answer", desc := "(LStepPrograms$Frame;I)I" } : MethodName)) ∈ lw_g := wt (List.mem_of_getElem? (i := 693) (by decide +kernel)) rfl
set_option maxRecDepth 100000 in
theorem wm_694 : (Cond.code ({ cls := "StepPrograms$Machine", name := "answer", desc := "(LStepPrograms$Frame;I)I" } : MethodName) prog_5_method_21_code (3 : Nat) (Option.some FieldType.int)) ∈ lw_g := wt (List.mem_of_getElem? (i := 694) rfl) rfl
theorem wm_703 : (Cond.methodLink "StepPrograms" (109 : Nat) ({ cls := "StepPrograms$Row", name := "at", desc := "(I)I" } : MethodName)) ∈ lw_g := wt (List.mem_of_getElem? (i := 703) (by decide +kernel)) rfl
theorem wm_712 : (Cond.methodLink "StepPrograms" (117 : Nat) ({ cls := "StepPrograms$Row", name := "countIfThere", desc := "()I" } : MethodName)) ∈ lw_g := wt (List.mem_of_getElem? (i := 712) (by decide +kernel)) rfl
theorem wm_722 : (Cond.methodLink "StepProgramsModel" (1 : Nat) ({ cls := "java/lang/Object", name := "<init>", desc := "()V" } : MethodName)) ∈ lw_g := wt (List.mem_of_getElem? (i := 722) (by decide +kernel)) rfl
theorem wm_723 : (Cond.fieldLink "StepProgramsModel" (87 : Nat) "StepProgramsModel" "taped" "I") ∈ lw_g := wt (List.mem_of_getElem? (i := 723) (by decide +kernel)) rfl
theorem wm_724 : (Cond.fieldLink "StepProgramsModel" (7 : Nat) "StepProgramsModel" "tape" "[I") ∈ lw_g := wt (List.mem_of_getElem? (i := 724) (by decide +kernel)) rfl
theorem wm_725 : (Cond.fieldLink "StepProgramsModel" (13 : Nat) "StepProgramsModel" "text" "[I") ∈ lw_g := wt (List.mem_of_getElem? (i := 725) (by decide +kernel)) rfl
theorem wm_726 : (Cond.fieldLink "StepProgramsModel" (16 : Nat) "StepProgramsModel" "lineFrom" "[I") ∈ lw_g := wt (List.mem_of_getElem? (i := 726) (by decide +kernel)) rfl
theorem wm_727 : (Cond.fieldLink "StepProgramsModel" (19 : Nat) "StepProgramsModel" "lineTo" "[I") ∈ lw_g := wt (List.mem_of_getElem? (i := 727) (by decide +kernel)) rfl
theorem wm_728 : (Cond.fieldLink "StepProgramsModel" (22 : Nat) "StepProgramsModel" "lines" "[I") ∈ lw_g := wt (List.mem_of_getElem? (i := 728) (by decide +kernel)) rfl
theorem wm_729 : (Cond.fieldLink "StepProgramsModel" (25 : Nat) "StepProgramsModel" "isThere" "[Z") ∈ lw_g := wt (List.mem_of_getElem? (i := 729) (by decide +kernel)) rfl
theorem wm_730 : (Cond.fieldLink "StepProgramsModel" (29 : Nat) "StepProgramsModel" "labelAt" "[I") ∈ lw_g := wt (List.mem_of_getElem? (i := 730) (by decide +kernel)) rfl
theorem wm_731 : (Cond.fieldLink "StepProgramsModel" (102 : Nat) "StepProgramsModel" "words" "I") ∈ lw_g := wt (List.mem_of_getElem? (i := 731) (by decide +kernel)) rfl
theorem wm_732 : (Cond.fieldLink "StepProgramsModel" (32 : Nat) "StepProgramsModel" "word" "[J") ∈ lw_g := wt (List.mem_of_getElem? (i := 732) (by decide +kernel)) rfl
theorem wm_733 : (Cond.fieldLink "StepProgramsModel" (36 : Nat) "StepProgramsModel" "wordFrom" "[I") ∈ lw_g := wt (List.mem_of_getElem? (i := 733) (by decide +kernel)) rfl
theorem wm_734 : (Cond.fieldLink "StepProgramsModel" (39 : Nat) "StepProgramsModel" "wordTo" "[I") ∈ lw_g := wt (List.mem_of_getElem? (i := 734) (by decide +kernel)) rfl
theorem wm_735 : (Cond.fieldLink "StepProgramsModel" (42 : Nat) "StepProgramsModel" "isFileThere" "[Z") ∈ lw_g := wt (List.mem_of_getElem? (i := 735) (by decide +kernel)) rfl
theorem wm_736 : (Cond.fieldLink "StepProgramsModel" (45 : Nat) "StepProgramsModel" "fileSize" "[I") ∈ lw_g := wt (List.mem_of_getElem? (i := 736) (by decide +kernel)) rfl
theorem wm_737 : (Cond.fieldLink "StepProgramsModel" (48 : Nat) "StepProgramsModel" "bytes" "[I") ∈ lw_g := wt (List.mem_of_getElem? (i := 737) (by decide +kernel)) rfl
theorem wm_738 : (Cond.fieldLink "StepProgramsModel" (51 : Nat) "StepProgramsModel" "planted" "[Z") ∈ lw_g := wt (List.mem_of_getElem? (i := 738) (by decide +kernel)) rfl
theorem wm_739 : (Cond.fieldLink "StepProgramsModel" (215 : Nat) "StepProgramsModel" "ran" "Z") ∈ lw_g := wt (List.mem_of_getElem? (i := 739) (by decide +kernel)) rfl
theorem wm_740 : (Cond.fieldLink "StepProgramsModel" (219 : Nat) "StepProgramsModel" "steps" "I") ∈ lw_g := wt (List.mem_of_getElem? (i := 740) (by decide +kernel)) rfl
theorem wm_741 : (Cond.fieldLink "StepProgramsModel" (222 : Nat) "StepProgramsModel" "begun" "I") ∈ lw_g := wt (List.mem_of_getElem? (i := 741) (by decide +kernel)) rfl
theorem wm_742 : (Cond.fieldLink "StepProgramsModel" (225 : Nat) "StepProgramsModel" "deepest" "I") ∈ lw_g := wt (List.mem_of_getElem? (i := 742) (by decide +kernel)) rfl
theorem wm_743 : (Cond.fieldLink "StepProgramsModel" (251 : Nat) "StepProgramsModel" "endedAt" "I") ∈ lw_g := wt (List.mem_of_getElem? (i := 743) (by decide +kernel)) rfl
theorem wm_744 : (Cond.fieldLink "StepProgramsModel" (228 : Nat) "StepProgramsModel" "outs" "I") ∈ lw_g := wt (List.mem_of_getElem? (i := 744) (by decide +kernel)) rfl
theorem wm_745 : (Cond.fieldLink "StepProgramsModel" (231 : Nat) "StepProgramsModel" "errs" "I") ∈ lw_g := wt (List.mem_of_getElem? (i := 745) (by decide +kernel)) rfl
theorem wm_746 : (Cond.fieldLink "StepProgramsModel" (54 : Nat) "StepProgramsModel" "out" "[I") ∈ lw_g := wt (List.mem_of_getElem? (i := 746) (by decide +kernel)) rfl
theorem wm_747 : (Cond.fieldLink "StepProgramsModel" (57 : Nat) "StepProgramsModel" "err" "[I") ∈ lw_g := wt (List.mem_of_getElem? (i := 747) (by decide +kernel)) rfl
theorem wm_748 : (Cond.fieldLink "StepProgramsModel" (238 : Nat) "StepProgramsModel" "depth" "I") ∈ lw_g := wt (List.mem_of_getElem? (i := 748) (by decide +kernel)) rfl
theorem wm_749 : (Cond.fieldLink "StepProgramsModel" (60 : Nat) "StepProgramsModel" "program" "[I") ∈ lw_g := wt (List.mem_of_getElem? (i := 749) (by decide +kernel)) rfl
theorem wm_750 : (Cond.fieldLink "StepProgramsModel" (63 : Nat) "StepProgramsModel" "line" "[I") ∈ lw_g := wt (List.mem_of_getElem? (i := 750) (by decide +kernel)) rfl
theorem wm_751 : (Cond.fieldLink "StepProgramsModel" (66 : Nat) "StepProgramsModel" "takes" "[I") ∈ lw_g := wt (List.mem_of_getElem? (i := 751) (by decide +kernel)) rfl
theorem wm_752 : (Cond.fieldLink "StepProgramsModel" (69 : Nat) "StepProgramsModel" "registers" "[I") ∈ lw_g := wt (List.mem_of_getElem? (i := 752) (by decide +kernel)) rfl
theorem wm_753 : (Cond.fieldLink "StepProgramsModel" (72 : Nat) "StepProgramsModel" "cells" "[I") ∈ lw_g := wt (List.mem_of_getElem? (i := 753) (by decide +kernel)) rfl
theorem wm_754 : (Cond.fieldLink "StepProgramsModel" (75 : Nat) "StepProgramsModel" "calls" "[I") ∈ lw_g := wt (List.mem_of_getElem? (i := 754) (by decide +kernel)) rfl
theorem wm_755 : (Cond.fieldLink "StepProgramsModel" (78 : Nat) "StepProgramsModel" "backTo" "[I") ∈ lw_g := wt (List.mem_of_getElem? (i := 755) (by decide +kernel)) rfl
theorem wm_823 : (Cond.arrayClass FieldType.long) ∈ lw_g := wt (List.mem_of_getElem? (i := 823) (by decide +kernel)) rfl
theorem wm_828 : (Cond.constantLong "StepProgramsModel" (81 : Nat) (255 : Int64)) ∈ lw_g := wt (List.mem_of_getElem? (i := 828) (by decide +kernel)) rfl
theorem wm_829 : (Cond.methodLink "StepProgramsModel" (83 : Nat) ({ cls := "StepProgramsModel", name := "in", desc := "(III)Z" } : MethodName)) ∈ lw_g := wt (List.mem_of_getElem? (i := 829) (by decide +kernel)) rfl
theorem wm_830 : (Cond.static ({ cls := "StepProgramsModel", name := "in", desc := "(III)Z" } : MethodName)) ∈ lw_g := wt (List.mem_of_getElem? (i := 830) (by decide +kernel)) rfl
set_option maxRecDepth 100000 in
theorem wm_831 : (Cond.code ({ cls := "StepProgramsModel", name := "in", desc := "(III)Z" } : MethodName) prog_11_method_2_code (3 : Nat) (Option.some FieldType.boolean)) ∈ lw_g := wt (List.mem_of_getElem? (i := 831) rfl) rfl
theorem wm_836 : (Cond.methodLink "StepProgramsModel" (91 : Nat) ({ cls := "StepProgramsModel", name := "layLines", desc := "(I)V" } : MethodName)) ∈ lw_g := wt (List.mem_of_getElem? (i := 836) (by decide +kernel)) rfl
theorem wm_838 : (Cond.instanceMethod ({ cls := "StepProgramsModel", name := "layLines", desc := "(I)V" } : MethodName)) ∈ lw_g := wt (List.mem_of_getElem? (i := 838) (by decide +kernel)) rfl
set_option maxRecDepth 100000 in
theorem wm_839 : (Cond.code ({ cls := "StepProgramsModel", name := "layLines", desc := "(I)V" } : MethodName) prog_11_method_5_code (6 : Nat) (Option.none : Option FieldType)) ∈ lw_g := wt (List.mem_of_getElem? (i := 839) rfl) rfl
theorem wm_840 : (Cond.methodLink "StepProgramsModel" (95 : Nat) ({ cls := "StepProgramsModel", name := "ill", desc := "()I" } : MethodName)) ∈ lw_g := wt (List.mem_of_getElem? (i := 840) (by decide +kernel)) rfl
theorem wm_842 : (Cond.instanceMethod ({ cls := "StepProgramsModel", name := "ill", desc := "()I" } : MethodName)) ∈ lw_g := wt (List.mem_of_getElem? (i := 842) (by decide +kernel)) rfl
set_option maxRecDepth 100000 in
theorem wm_843 : (Cond.code ({ cls := "StepProgramsModel", name := "ill", desc := "()I" } : MethodName) prog_11_method_17_code (4 : Nat) (Option.some FieldType.int)) ∈ lw_g := wt (List.mem_of_getElem? (i := 843) rfl) rfl
theorem wm_844 : (Cond.methodLink "StepProgramsModel" (192 : Nat) ({ cls := "StepProgramsModel", name := "split", desc := "(II)V" } : MethodName)) ∈ lw_g := wt (List.mem_of_getElem? (i := 844) (by decide +kernel)) rfl
theorem wm_846 : (Cond.instanceMethod ({ cls := "StepProgramsModel", name := "split", desc := "(II)V" } : MethodName)) ∈ lw_g := wt (List.mem_of_getElem? (i := 846) (by decide +kernel)) rfl
set_option maxRecDepth 100000 in
theorem wm_847 : (Cond.code ({ cls := "StepProgramsModel", name := "split", desc := "(II)V" } : MethodName) prog_11_method_7_code (9 : Nat) (Option.none : Option FieldType)) ∈ lw_g := wt (List.mem_of_getElem? (i := 847) rfl) rfl
theorem wm_848 : (Cond.constantLong "StepProgramsModel" (105 : Nat) (-1 : Int64)) ∈ lw_g := wt (List.mem_of_getElem? (i := 848) (by decide +kernel)) rfl
theorem wm_849 : (Cond.methodLink "StepProgramsModel" (196 : Nat) ({ cls := "StepProgramsModel", name := "isLabel", desc := "()Z" } : MethodName)) ∈ lw_g := wt (List.mem_of_getElem? (i := 849) (by decide +kernel)) rfl
theorem wm_851 : (Cond.instanceMethod ({ cls := "StepProgramsModel", name := "isLabel", desc := "()Z" } : MethodName)) ∈ lw_g := wt (List.mem_of_getElem? (i := 851) (by decide +kernel)) rfl
set_option maxRecDepth 100000 in
theorem wm_852 : (Cond.code ({ cls := "StepProgramsModel", name := "isLabel", desc := "()Z" } : MethodName) prog_11_method_14_code (1 : Nat) (Option.some FieldType.boolean)) ∈ lw_g := wt (List.mem_of_getElem? (i := 852) rfl) rfl
theorem wm_853 : (Cond.constantLong "StepProgramsModel" (144 : Nat) (58 : Int64)) ∈ lw_g := wt (List.mem_of_getElem? (i := 853) (by decide +kernel)) rfl
theorem wm_854 : (Cond.constantLong "StepProgramsModel" (111 : Nat) (65 : Int64)) ∈ lw_g := wt (List.mem_of_getElem? (i := 854) (by decide +kernel)) rfl
theorem wm_855 : (Cond.constantLong "StepProgramsModel" (113 : Nat) (90 : Int64)) ∈ lw_g := wt (List.mem_of_getElem? (i := 855) (by decide +kernel)) rfl
theorem wm_856 : (Cond.methodLink "StepProgramsModel" (200 : Nat) ({ cls := "StepProgramsModel", name := "isStatement", desc := "()Z" } : MethodName)) ∈ lw_g := wt (List.mem_of_getElem? (i := 856) (by decide +kernel)) rfl
theorem wm_858 : (Cond.instanceMethod ({ cls := "StepProgramsModel", name := "isStatement", desc := "()Z" } : MethodName)) ∈ lw_g := wt (List.mem_of_getElem? (i := 858) (by decide +kernel)) rfl
set_option maxRecDepth 100000 in
theorem wm_859 : (Cond.code ({ cls := "StepProgramsModel", name := "isStatement", desc := "()Z" } : MethodName) prog_11_method_15_code (3 : Nat) (Option.some FieldType.boolean)) ∈ lw_g := wt (List.mem_of_getElem? (i := 859) rfl) rfl
theorem wm_860 : (Cond.constantLong "StepProgramsModel" (146 : Nat) (7103860 : Int64)) ∈ lw_g := wt (List.mem_of_getElem? (i := 860) (by decide +kernel)) rfl
theorem wm_861 : (Cond.methodLink "StepProgramsModel" (148 : Nat) ({ cls := "StepProgramsModel", name := "isSign", desc := "(I)Z" } : MethodName)) ∈ lw_g := wt (List.mem_of_getElem? (i := 861) (by decide +kernel)) rfl
theorem wm_863 : (Cond.instanceMethod ({ cls := "StepProgramsModel", name := "isSign", desc := "(I)Z" } : MethodName)) ∈ lw_g := wt (List.mem_of_getElem? (i := 863) (by decide +kernel)) rfl
set_option maxRecDepth 100000 in
theorem wm_864 : (Cond.code ({ cls := "StepProgramsModel", name := "isSign", desc := "(I)Z" } : MethodName) prog_11_method_12_code (4 : Nat) (Option.some FieldType.boolean)) ∈ lw_g := wt (List.mem_of_getElem? (i := 864) rfl) rfl
theorem wm_865 : (Cond.constantLong "StepProgramsModel" (122 : Nat) (43 : Int64)) ∈ lw_g := wt (List.mem_of_getElem? (i := 865) (by decide +kernel)) rfl
theorem wm_866 : (Cond.constantLong "StepProgramsModel" (124 : Nat) (45 : Int64)) ∈ lw_g := wt (List.mem_of_getElem? (i := 866) (by decide +kernel)) rfl
theorem wm_867 : (Cond.constantLong "StepProgramsModel" (126 : Nat) (42 : Int64)) ∈ lw_g := wt (List.mem_of_getElem? (i := 867) (by decide +kernel)) rfl
theorem wm_868 : (Cond.constantLong "StepProgramsModel" (128 : Nat) (47 : Int64)) ∈ lw_g := wt (List.mem_of_getElem? (i := 868) (by decide +kernel)) rfl
theorem wm_869 : (Cond.constantLong "StepProgramsModel" (130 : Nat) (37 : Int64)) ∈ lw_g := wt (List.mem_of_getElem? (i := 869) (by decide +kernel)) rfl
theorem wm_870 : (Cond.constantLong "StepProgramsModel" (132 : Nat) (38 : Int64)) ∈ lw_g := wt (List.mem_of_getElem? (i := 870) (by decide +kernel)) rfl
theorem wm_871 : (Cond.constantLong "StepProgramsModel" (134 : Nat) (124 : Int64)) ∈ lw_g := wt (List.mem_of_getElem? (i := 871) (by decide +kernel)) rfl
theorem wm_872 : (Cond.constantLong "StepProgramsModel" (136 : Nat) (94 : Int64)) ∈ lw_g := wt (List.mem_of_getElem? (i := 872) (by decide +kernel)) rfl
theorem wm_873 : (Cond.constantLong "StepProgramsModel" (138 : Nat) (60 : Int64)) ∈ lw_g := wt (List.mem_of_getElem? (i := 873) (by decide +kernel)) rfl
theorem wm_874 : (Cond.constantLong "StepProgramsModel" (140 : Nat) (61 : Int64)) ∈ lw_g := wt (List.mem_of_getElem? (i := 874) (by decide +kernel)) rfl
theorem wm_875 : (Cond.methodLink "StepProgramsModel" (151 : Nat) ({ cls := "StepProgramsModel", name := "isValue", desc := "(I)Z" } : MethodName)) ∈ lw_g := wt (List.mem_of_getElem? (i := 875) (by decide +kernel)) rfl
theorem wm_877 : (Cond.instanceMethod ({ cls := "StepProgramsModel", name := "isValue", desc := "(I)Z" } : MethodName)) ∈ lw_g := wt (List.mem_of_getElem? (i := 877) (by decide +kernel)) rfl
set_option maxRecDepth 100000 in
theorem wm_878 : (Cond.code ({ cls := "StepProgramsModel", name := "isValue", desc := "(I)Z" } : MethodName) prog_11_method_11_code (2 : Nat) (Option.some FieldType.boolean)) ∈ lw_g := wt (List.mem_of_getElem? (i := 878) rfl) rfl
theorem wm_879 : (Cond.methodLink "StepProgramsModel" (115 : Nat) ({ cls := "StepProgramsModel", name := "isRegister", desc := "(I)Z" } : MethodName)) ∈ lw_g := wt (List.mem_of_getElem? (i := 879) (by decide +kernel)) rfl
theorem wm_881 : (Cond.instanceMethod ({ cls := "StepProgramsModel", name := "isRegister", desc := "(I)Z" } : MethodName)) ∈ lw_g := wt (List.mem_of_getElem? (i := 881) (by decide +kernel)) rfl
set_option maxRecDepth 100000 in
theorem wm_882 : (Cond.code ({ cls := "StepProgramsModel", name := "isRegister", desc := "(I)Z" } : MethodName) prog_11_method_8_code (2 : Nat) (Option.some FieldType.boolean)) ∈ lw_g := wt (List.mem_of_getElem? (i := 882) rfl) rfl
theorem wm_883 : (Cond.constantLong "StepProgramsModel" (107 : Nat) (97 : Int64)) ∈ lw_g := wt (List.mem_of_getElem? (i := 883) (by decide +kernel)) rfl
theorem wm_884 : (Cond.constantLong "StepProgramsModel" (109 : Nat) (104 : Int64)) ∈ lw_g := wt (List.mem_of_getElem? (i := 884) (by decide +kernel)) rfl
theorem wm_885 : (Cond.methodLink "StepProgramsModel" (119 : Nat) ({ cls := "StepProgramsModel", name := "isNumber", desc := "(I)Z" } : MethodName)) ∈ lw_g := wt (List.mem_of_getElem? (i := 885) (by decide +kernel)) rfl
theorem wm_887 : (Cond.instanceMethod ({ cls := "StepProgramsModel", name := "isNumber", desc := "(I)Z" } : MethodName)) ∈ lw_g := wt (List.mem_of_getElem? (i := 887) (by decide +kernel)) rfl
set_option maxRecDepth 100000 in
theorem wm_888 : (Cond.code ({ cls := "StepProgramsModel", name := "isNumber", desc := "(I)Z" } : MethodName) prog_11_method_10_code (4 : Nat) (Option.some FieldType.boolean)) ∈ lw_g := wt (List.mem_of_getElem? (i := 888) rfl) rfl
theorem wm_889 : (Cond.constantLong "StepProgramsModel" (154 : Nat) (6776180 : Int64)) ∈ lw_g := wt (List.mem_of_getElem? (i := 889) (by decide +kernel)) rfl
theorem wm_890 : (Cond.constantLong "StepProgramsModel" (156 : Nat) (1936292453 : Int64)) ∈ lw_g := wt (List.mem_of_getElem? (i := 890) (by decide +kernel)) rfl
theorem wm_891 : (Cond.constantLong "StepProgramsModel" (158 : Nat) (6386539 : Int64)) ∈ lw_g := wt (List.mem_of_getElem? (i := 891) (by decide +kernel)) rfl
theorem wm_892 : (Cond.constantLong "StepProgramsModel" (160 : Nat) (7370100 : Int64)) ∈ lw_g := wt (List.mem_of_getElem? (i := 892) (by decide +kernel)) rfl
theorem wm_893 : (Cond.constantLong "StepProgramsModel" (162 : Nat) (513020621925 : Int64)) ∈ lw_g := wt (List.mem_of_getElem? (i := 893) (by decide +kernel)) rfl
theorem wm_894 : (Cond.constantLong "StepProgramsModel" (164 : Nat) (1668247673 : Int64)) ∈ lw_g := wt (List.mem_of_getElem? (i := 894) (by decide +kernel)) rfl
theorem wm_895 : (Cond.constantLong "StepProgramsModel" (166 : Nat) (1919246692 : Int64)) ∈ lw_g := wt (List.mem_of_getElem? (i := 895) (by decide +kernel)) rfl
theorem wm_896 : (Cond.constantLong "StepProgramsModel" (168 : Nat) (7501166 : Int64)) ∈ lw_g := wt (List.mem_of_getElem? (i := 896) (by decide +kernel)) rfl
theorem wm_897 : (Cond.constantLong "StepProgramsModel" (170 : Nat) (1685221232 : Int64)) ∈ lw_g := wt (List.mem_of_getElem? (i := 897) (by decide +kernel)) rfl
theorem wm_898 : (Cond.constantLong "StepProgramsModel" (172 : Nat) (7304564 : Int64)) ∈ lw_g := wt (List.mem_of_getElem? (i := 898) (by decide +kernel)) rfl
theorem wm_899 : (Cond.constantLong "StepProgramsModel" (174 : Nat) (6648434 : Int64)) ∈ lw_g := wt (List.mem_of_getElem? (i := 899) (by decide +kernel)) rfl
theorem wm_900 : (Cond.constantLong "StepProgramsModel" (176 : Nat) (1702390132 : Int64)) ∈ lw_g := wt (List.mem_of_getElem? (i := 900) (by decide +kernel)) rfl
theorem wm_901 : (Cond.constantLong "StepProgramsModel" (178 : Nat) (26479 : Int64)) ∈ lw_g := wt (List.mem_of_getElem? (i := 901) (by decide +kernel)) rfl
theorem wm_902 : (Cond.constantLong "StepProgramsModel" (180 : Nat) (1667329132 : Int64)) ∈ lw_g := wt (List.mem_of_getElem? (i := 902) (by decide +kernel)) rfl
theorem wm_903 : (Cond.methodLink "StepProgramsModel" (182 : Nat) ({ cls := "StepProgramsModel", name := "isLetter", desc := "(I)Z" } : MethodName)) ∈ lw_g := wt (List.mem_of_getElem? (i := 903) (by decide +kernel)) rfl
theorem wm_905 : (Cond.instanceMethod ({ cls := "StepProgramsModel", name := "isLetter", desc := "(I)Z" } : MethodName)) ∈ lw_g := wt (List.mem_of_getElem? (i := 905) (by decide +kernel)) rfl
set_option maxRecDepth 100000 in
theorem wm_906 : (Cond.code ({ cls := "StepProgramsModel", name := "isLetter", desc := "(I)Z" } : MethodName) prog_11_method_9_code (2 : Nat) (Option.some FieldType.boolean)) ∈ lw_g := wt (List.mem_of_getElem? (i := 906) rfl) rfl
theorem wm_907 : (Cond.constantLong "StepProgramsModel" (185 : Nat) (26982 : Int64)) ∈ lw_g := wt (List.mem_of_getElem? (i := 907) (by decide +kernel)) rfl
theorem wm_908 : (Cond.methodLink "StepProgramsModel" (187 : Nat) ({ cls := "StepProgramsModel", name := "isComparison", desc := "(I)Z" } : MethodName)) ∈ lw_g := wt (List.mem_of_getElem? (i := 908) (by decide +kernel)) rfl
theorem wm_910 : (Cond.instanceMethod ({ cls := "StepProgramsModel", name := "isComparison", desc := "(I)Z" } : MethodName)) ∈ lw_g := wt (List.mem_of_getElem? (i := 910) (by decide +kernel)) rfl
set_option maxRecDepth 100000 in
theorem wm_911 : (Cond.code ({ cls := "StepProgramsModel", name := "isComparison", desc := "(I)Z" } : MethodName) prog_11_method_13_code (2 : Nat) (Option.some FieldType.boolean)) ∈ lw_g := wt (List.mem_of_getElem? (i := 911) rfl) rfl
theorem wm_912 : (Cond.constantLong "StepProgramsModel" (142 : Nat) (62 : Int64)) ∈ lw_g := wt (List.mem_of_getElem? (i := 912) (by decide +kernel)) rfl
theorem wm_913 : (Cond.constantLong "StepProgramsModel" (190 : Nat) (1650549611 : Int64)) ∈ lw_g := wt (List.mem_of_getElem? (i := 913) (by decide +kernel)) rfl
theorem wm_914 : (Cond.methodLink "StepProgramsModel" (203 : Nat) ({ cls := "StepProgramsModel", name := "goal", desc := "()I" } : MethodName)) ∈ lw_g := wt (List.mem_of_getElem? (i := 914) (by decide +kernel)) rfl
theorem wm_916 : (Cond.instanceMethod ({ cls := "StepProgramsModel", name := "goal", desc := "()I" } : MethodName)) ∈ lw_g := wt (List.mem_of_getElem? (i := 916) (by decide +kernel)) rfl
set_option maxRecDepth 100000 in
theorem wm_917 : (Cond.code ({ cls := "StepProgramsModel", name := "goal", desc := "()I" } : MethodName) prog_11_method_16_code (1 : Nat) (Option.some FieldType.int)) ∈ lw_g := wt (List.mem_of_getElem? (i := 917) rfl) rfl
theorem wm_918 : (Cond.methodLink "StepProgramsModel" (99 : Nat) ({ cls := "StepProgramsModel", name := "keep", desc := "(I)V" } : MethodName)) ∈ lw_g := wt (List.mem_of_getElem? (i := 918) (by decide +kernel)) rfl
theorem wm_920 : (Cond.instanceMethod ({ cls := "StepProgramsModel", name := "keep", desc := "(I)V" } : MethodName)) ∈ lw_g := wt (List.mem_of_getElem? (i := 920) (by decide +kernel)) rfl
set_option maxRecDepth 100000 in
theorem wm_921 : (Cond.code ({ cls := "StepProgramsModel", name := "keep", desc := "(I)V" } : MethodName) prog_11_method_6_code (3 : Nat) (Option.none : Option FieldType)) ∈ lw_g := wt (List.mem_of_getElem? (i := 921) rfl) rfl
theorem wm_926 : (Cond.methodLink "StepProgramsModel" (206 : Nat) ({ cls := "StepProgramsModel", name := "isFile", desc := "(I)Z" } : MethodName)) ∈ lw_g := wt (List.mem_of_getElem? (i := 926) (by decide +kernel)) rfl
theorem wm_927 : (Cond.static ({ cls := "StepProgramsModel", name := "isFile", desc := "(I)Z" } : MethodName)) ∈ lw_g := wt (List.mem_of_getElem? (i := 927) (by decide +kernel)) rfl
set_option maxRecDepth 100000 in
theorem wm_928 : (Cond.code ({ cls := "StepProgramsModel", name := "isFile", desc := "(I)Z" } : MethodName) prog_11_method_18_code (1 : Nat) (Option.some FieldType.boolean)) ∈ lw_g := wt (List.mem_of_getElem? (i := 928) rfl) rfl
theorem wm_929 : (Cond.methodLink "StepProgramsModel" (209 : Nat) ({ cls := "StepProgramsModel", name := "append", desc := "(II)V" } : MethodName)) ∈ lw_g := wt (List.mem_of_getElem? (i := 929) (by decide +kernel)) rfl
theorem wm_931 : (Cond.instanceMethod ({ cls := "StepProgramsModel", name := "append", desc := "(II)V" } : MethodName)) ∈ lw_g := wt (List.mem_of_getElem? (i := 931) (by decide +kernel)) rfl
set_option maxRecDepth 100000 in
theorem wm_932 : (Cond.code ({ cls := "StepProgramsModel", name := "append", desc := "(II)V" } : MethodName) prog_11_method_20_code (3 : Nat) (Option.none : Option FieldType)) ∈ lw_g := wt (List.mem_of_getElem? (i := 932) rfl) rfl
theorem wm_945 : (Cond.methodLink "StepProgramsModel" (212 : Nat) ({ cls := "StepProgramsModel", name := "isProgram", desc := "(I)Z" } : MethodName)) ∈ lw_g := wt (List.mem_of_getElem? (i := 945) (by decide +kernel)) rfl
theorem wm_947 : (Cond.instanceMethod ({ cls := "StepProgramsModel", name := "isProgram", desc := "(I)Z" } : MethodName)) ∈ lw_g := wt (List.mem_of_getElem? (i := 947) (by decide +kernel)) rfl
set_option maxRecDepth 100000 in
theorem wm_948 : (Cond.code ({ cls := "StepProgramsModel", name := "isProgram", desc := "(I)Z" } : MethodName) prog_11_method_23_code (2 : Nat) (Option.some FieldType.boolean)) ∈ lw_g := wt (List.mem_of_getElem? (i := 948) rfl) rfl
theorem wm_949 : (Cond.methodLink "StepProgramsModel" (234 : Nat) ({ cls := "StepProgramsModel", name := "begin", desc := "(III)V" } : MethodName)) ∈ lw_g := wt (List.mem_of_getElem? (i := 949) (by decide +kernel)) rfl
theorem wm_951 : (Cond.instanceMethod ({ cls := "StepProgramsModel", name := "begin", desc := "(III)V" } : MethodName)) ∈ lw_g := wt (List.mem_of_getElem? (i := 951) (by decide +kernel)) rfl
set_option maxRecDepth 100000 in
theorem wm_952 : (Cond.code ({ cls := "StepProgramsModel", name := "begin", desc := "(III)V" } : MethodName) prog_11_method_25_code (5 : Nat) (Option.none : Option FieldType)) ∈ lw_g := wt (List.mem_of_getElem? (i := 952) rfl) rfl
theorem wm_953 : (Cond.methodLink "StepProgramsModel" (241 : Nat) ({ cls := "StepProgramsModel", name := "comesToStatement", desc := "()Z" } : MethodName)) ∈ lw_g := wt (List.mem_of_getElem? (i := 953) (by decide +kernel)) rfl
theorem wm_955 : (Cond.instanceMethod ({ cls := "StepProgramsModel", name := "comesToStatement", desc := "()Z" } : MethodName)) ∈ lw_g := wt (List.mem_of_getElem? (i := 955) (by decide +kernel)) rfl
set_option maxRecDepth 100000 in
theorem wm_956 : (Cond.code ({ cls := "StepProgramsModel", name := "comesToStatement", desc := "()Z" } : MethodName) prog_11_method_26_code (2 : Nat) (Option.some FieldType.boolean)) ∈ lw_g := wt (List.mem_of_getElem? (i := 956) rfl) rfl
theorem wm_957 : (Cond.methodLink "StepProgramsModel" (244 : Nat) ({ cls := "StepProgramsModel", name := "work", desc := "(I)I" } : MethodName)) ∈ lw_g := wt (List.mem_of_getElem? (i := 957) (by decide +kernel)) rfl
theorem wm_959 : (Cond.instanceMethod ({ cls := "StepProgramsModel", name := "work", desc := "(I)I" } : MethodName)) ∈ lw_g := wt (List.mem_of_getElem? (i := 959) (by decide +kernel)) rfl
set_option maxRecDepth 100000 in
theorem wm_960 : (Cond.code ({ cls := "StepProgramsModel", name := "work", desc := "(I)I" } : MethodName) prog_11_method_33_code (4 : Nat) (Option.some FieldType.int)) ∈ lw_g := wt (List.mem_of_getElem? (i := 960) rfl) rfl
theorem wm_961 : (Cond.methodLink "StepProgramsModel" (260 : Nat) ({ cls := "StepProgramsModel", name := "let", desc := "(I)I" } : MethodName)) ∈ lw_g := wt (List.mem_of_getElem? (i := 961) (by decide +kernel)) rfl
theorem wm_963 : (Cond.instanceMethod ({ cls := "StepProgramsModel", name := "let", desc := "(I)I" } : MethodName)) ∈ lw_g := wt (List.mem_of_getElem? (i := 963) (by decide +kernel)) rfl
set_option maxRecDepth 100000 in
theorem wm_964 : (Cond.code ({ cls := "StepProgramsModel", name := "let", desc := "(I)I" } : MethodName) prog_11_method_35_code (5 : Nat) (Option.some FieldType.int)) ∈ lw_g := wt (List.mem_of_getElem? (i := 964) rfl) rfl
theorem wm_965 : (Cond.methodLink "StepProgramsModel" (263 : Nat) ({ cls := "StepProgramsModel", name := "value", desc := "(II)I" } : MethodName)) ∈ lw_g := wt (List.mem_of_getElem? (i := 965) (by decide +kernel)) rfl
theorem wm_967 : (Cond.instanceMethod ({ cls := "StepProgramsModel", name := "value", desc := "(II)I" } : MethodName)) ∈ lw_g := wt (List.mem_of_getElem? (i := 967) (by decide +kernel)) rfl
set_option maxRecDepth 100000 in
theorem wm_968 : (Cond.code ({ cls := "StepProgramsModel", name := "value", desc := "(II)I" } : MethodName) prog_11_method_29_code (6 : Nat) (Option.some FieldType.int)) ∈ lw_g := wt (List.mem_of_getElem? (i := 968) rfl) rfl
theorem wm_969 : (Cond.methodLink "StepProgramsModel" (254 : Nat) ({ cls := "StepProgramsModel", name := "registerOf", desc := "(I)I" } : MethodName)) ∈ lw_g := wt (List.mem_of_getElem? (i := 969) (by decide +kernel)) rfl
theorem wm_971 : (Cond.instanceMethod ({ cls := "StepProgramsModel", name := "registerOf", desc := "(I)I" } : MethodName)) ∈ lw_g := wt (List.mem_of_getElem? (i := 971) (by decide +kernel)) rfl
set_option maxRecDepth 100000 in
theorem wm_972 : (Cond.code ({ cls := "StepProgramsModel", name := "registerOf", desc := "(I)I" } : MethodName) prog_11_method_27_code (2 : Nat) (Option.some FieldType.int)) ∈ lw_g := wt (List.mem_of_getElem? (i := 972) rfl) rfl
theorem wm_973 : (Cond.methodLink "StepProgramsModel" (267 : Nat) ({ cls := "StepProgramsModel", name := "gives", desc := "(II)I" } : MethodName)) ∈ lw_g := wt (List.mem_of_getElem? (i := 973) (by decide +kernel)) rfl
theorem wm_975 : (Cond.instanceMethod ({ cls := "StepProgramsModel", name := "gives", desc := "(II)I" } : MethodName)) ∈ lw_g := wt (List.mem_of_getElem? (i := 975) (by decide +kernel)) rfl
set_option maxRecDepth 100000 in
theorem wm_976 : (Cond.code ({ cls := "StepProgramsModel", name := "gives", desc := "(II)I" } : MethodName) prog_11_method_30_code (3 : Nat) (Option.some FieldType.int)) ∈ lw_g := wt (List.mem_of_getElem? (i := 976) rfl) rfl
theorem wm_977 : (Cond.methodLink "StepProgramsModel" (248 : Nat) ({ cls := "StepProgramsModel", name := "set", desc := "(III)V" } : MethodName)) ∈ lw_g := wt (List.mem_of_getElem? (i := 977) (by decide +kernel)) rfl
theorem wm_979 : (Cond.instanceMethod ({ cls := "StepProgramsModel", name := "set", desc := "(III)V" } : MethodName)) ∈ lw_g := wt (List.mem_of_getElem? (i := 979) (by decide +kernel)) rfl
set_option maxRecDepth 100000 in
theorem wm_980 : (Cond.code ({ cls := "StepProgramsModel", name := "set", desc := "(III)V" } : MethodName) prog_11_method_28_code (4 : Nat) (Option.none : Option FieldType)) ∈ lw_g := wt (List.mem_of_getElem? (i := 980) rfl) rfl
theorem wm_981 : (Cond.methodLink "StepProgramsModel" (257 : Nat) ({ cls := "StepProgramsModel", name := "goesOn", desc := "(I)I" } : MethodName)) ∈ lw_g := wt (List.mem_of_getElem? (i := 981) (by decide +kernel)) rfl
theorem wm_983 : (Cond.instanceMethod ({ cls := "StepProgramsModel", name := "goesOn", desc := "(I)I" } : MethodName)) ∈ lw_g := wt (List.mem_of_getElem? (i := 983) (by decide +kernel)) rfl
set_option maxRecDepth 100000 in
theorem wm_984 : (Cond.code ({ cls := "StepProgramsModel", name := "goesOn", desc := "(I)I" } : MethodName) prog_11_method_31_code (2 : Nat) (Option.some FieldType.int)) ∈ lw_g := wt (List.mem_of_getElem? (i := 984) rfl) rfl
theorem wm_985 : (Cond.methodLink "StepProgramsModel" (270 : Nat) ({ cls := "StepProgramsModel", name := "put", desc := "(III)I" } : MethodName)) ∈ lw_g := wt (List.mem_of_getElem? (i := 985) (by decide +kernel)) rfl
theorem wm_987 : (Cond.instanceMethod ({ cls := "StepProgramsModel", name := "put", desc := "(III)I" } : MethodName)) ∈ lw_g := wt (List.mem_of_getElem? (i := 987) (by decide +kernel)) rfl
set_option maxRecDepth 100000 in
theorem wm_988 : (Cond.code ({ cls := "StepProgramsModel", name := "put", desc := "(III)I" } : MethodName) prog_11_method_36_code (4 : Nat) (Option.some FieldType.int)) ∈ lw_g := wt (List.mem_of_getElem? (i := 988) rfl) rfl
theorem wm_989 : (Cond.methodLink "StepProgramsModel" (274 : Nat) ({ cls := "StepProgramsModel", name := "withFiles", desc := "(I)I" } : MethodName)) ∈ lw_g := wt (List.mem_of_getElem? (i := 989) (by decide +kernel)) rfl
theorem wm_991 : (Cond.instanceMethod ({ cls := "StepProgramsModel", name := "withFiles", desc := "(I)I" } : MethodName)) ∈ lw_g := wt (List.mem_of_getElem? (i := 991) (by decide +kernel)) rfl
set_option maxRecDepth 100000 in
theorem wm_992 : (Cond.code ({ cls := "StepProgramsModel", name := "withFiles", desc := "(I)I" } : MethodName) prog_11_method_37_code (5 : Nat) (Option.some FieldType.int)) ∈ lw_g := wt (List.mem_of_getElem? (i := 992) rfl) rfl
theorem wm_993 : (Cond.methodLink "StepProgramsModel" (299 : Nat) ({ cls := "StepProgramsModel", name := "read", desc := "(III)I" } : MethodName)) ∈ lw_g := wt (List.mem_of_getElem? (i := 993) (by decide +kernel)) rfl
theorem wm_995 : (Cond.instanceMethod ({ cls := "StepProgramsModel", name := "read", desc := "(III)I" } : MethodName)) ∈ lw_g := wt (List.mem_of_getElem? (i := 995) (by decide +kernel)) rfl
set_option maxRecDepth 100000 in
theorem wm_996 : (Cond.code ({ cls := "StepProgramsModel", name := "read", desc := "(III)I" } : MethodName) prog_11_method_38_code (4 : Nat) (Option.some FieldType.int)) ∈ lw_g := wt (List.mem_of_getElem? (i := 996) rfl) rfl
theorem wm_997 : (Cond.methodLink "StepProgramsModel" (302 : Nat) ({ cls := "StepProgramsModel", name := "write", desc := "(III)I" } : MethodName)) ∈ lw_g := wt (List.mem_of_getElem? (i := 997) (by decide +kernel)) rfl
theorem wm_999 : (Cond.instanceMethod ({ cls := "StepProgramsModel", name := "write", desc := "(III)I" } : MethodName)) ∈ lw_g := wt (List.mem_of_getElem? (i := 999) (by decide +kernel)) rfl
set_option maxRecDepth 100000 in
theorem wm_1000 : (Cond.code ({ cls := "StepProgramsModel", name := "write", desc := "(III)I" } : MethodName) prog_11_method_39_code (4 : Nat) (Option.some FieldType.int)) ∈ lw_g := wt (List.mem_of_getElem? (i := 1000) rfl) rfl
theorem wm_1001 : (Cond.methodLink "StepProgramsModel" (305 : Nat) ({ cls := "StepProgramsModel", name := "copy", desc := "(III)I" } : MethodName)) ∈ lw_g := wt (List.mem_of_getElem? (i := 1001) (by decide +kernel)) rfl
theorem wm_1003 : (Cond.instanceMethod ({ cls := "StepProgramsModel", name := "copy", desc := "(III)I" } : MethodName)) ∈ lw_g := wt (List.mem_of_getElem? (i := 1003) (by decide +kernel)) rfl
set_option maxRecDepth 100000 in
theorem wm_1004 : (Cond.code ({ cls := "StepProgramsModel", name := "copy", desc := "(III)I" } : MethodName) prog_11_method_40_code (5 : Nat) (Option.some FieldType.int)) ∈ lw_g := wt (List.mem_of_getElem? (i := 1004) rfl) rfl
theorem wm_1005 : (Cond.methodLink "StepProgramsModel" (277 : Nat) ({ cls := "StepProgramsModel", name := "says", desc := "(IZI)I" } : MethodName)) ∈ lw_g := wt (List.mem_of_getElem? (i := 1005) (by decide +kernel)) rfl
theorem wm_1007 : (Cond.instanceMethod ({ cls := "StepProgramsModel", name := "says", desc := "(IZI)I" } : MethodName)) ∈ lw_g := wt (List.mem_of_getElem? (i := 1007) (by decide +kernel)) rfl
set_option maxRecDepth 100000 in
theorem wm_1008 : (Cond.code ({ cls := "StepProgramsModel", name := "says", desc := "(IZI)I" } : MethodName) prog_11_method_41_code (4 : Nat) (Option.some FieldType.int)) ∈ lw_g := wt (List.mem_of_getElem? (i := 1008) rfl) rfl
theorem wm_1009 : (Cond.methodLink "StepProgramsModel" (281 : Nat) ({ cls := "StepProgramsModel", name := "goesTo", desc := "(II)I" } : MethodName)) ∈ lw_g := wt (List.mem_of_getElem? (i := 1009) (by decide +kernel)) rfl
theorem wm_1011 : (Cond.instanceMethod ({ cls := "StepProgramsModel", name := "goesTo", desc := "(II)I" } : MethodName)) ∈ lw_g := wt (List.mem_of_getElem? (i := 1011) (by decide +kernel)) rfl
set_option maxRecDepth 100000 in
theorem wm_1012 : (Cond.code ({ cls := "StepProgramsModel", name := "goesTo", desc := "(II)I" } : MethodName) prog_11_method_32_code (3 : Nat) (Option.some FieldType.int)) ∈ lw_g := wt (List.mem_of_getElem? (i := 1012) rfl) rfl
theorem wm_1013 : (Cond.methodLink "StepProgramsModel" (284 : Nat) ({ cls := "StepProgramsModel", name := "isSo", desc := "(III)Z" } : MethodName)) ∈ lw_g := wt (List.mem_of_getElem? (i := 1013) (by decide +kernel)) rfl
theorem wm_1014 : (Cond.static ({ cls := "StepProgramsModel", name := "isSo", desc := "(III)Z" } : MethodName)) ∈ lw_g := wt (List.mem_of_getElem? (i := 1014) (by decide +kernel)) rfl
set_option maxRecDepth 100000 in
theorem wm_1015 : (Cond.code ({ cls := "StepProgramsModel", name := "isSo", desc := "(III)Z" } : MethodName) prog_11_method_34_code (3 : Nat) (Option.some FieldType.boolean)) ∈ lw_g := wt (List.mem_of_getElem? (i := 1015) rfl) rfl
theorem wm_1016 : (Cond.methodLink "StepProgramsModel" (287 : Nat) ({ cls := "StepProgramsModel", name := "call", desc := "(I)I" } : MethodName)) ∈ lw_g := wt (List.mem_of_getElem? (i := 1016) (by decide +kernel)) rfl
theorem wm_1018 : (Cond.instanceMethod ({ cls := "StepProgramsModel", name := "call", desc := "(I)I" } : MethodName)) ∈ lw_g := wt (List.mem_of_getElem? (i := 1018) (by decide +kernel)) rfl
set_option maxRecDepth 100000 in
theorem wm_1019 : (Cond.code ({ cls := "StepProgramsModel", name := "call", desc := "(I)I" } : MethodName) prog_11_method_42_code (2 : Nat) (Option.some FieldType.int)) ∈ lw_g := wt (List.mem_of_getElem? (i := 1019) rfl) rfl
theorem wm_1020 : (Cond.methodLink "StepProgramsModel" (290 : Nat) ({ cls := "StepProgramsModel", name := "back", desc := "(I)I" } : MethodName)) ∈ lw_g := wt (List.mem_of_getElem? (i := 1020) (by decide +kernel)) rfl
theorem wm_1022 : (Cond.instanceMethod ({ cls := "StepProgramsModel", name := "back", desc := "(I)I" } : MethodName)) ∈ lw_g := wt (List.mem_of_getElem? (i := 1022) (by decide +kernel)) rfl
set_option maxRecDepth 100000 in
theorem wm_1023 : (Cond.code ({ cls := "StepProgramsModel", name := "back", desc := "(I)I" } : MethodName) prog_11_method_43_code (2 : Nat) (Option.some FieldType.int)) ∈ lw_g := wt (List.mem_of_getElem? (i := 1023) rfl) rfl
theorem wm_1024 : (Cond.methodLink "StepProgramsModel" (293 : Nat) ({ cls := "StepProgramsModel", name := "child", desc := "(III)I" } : MethodName)) ∈ lw_g := wt (List.mem_of_getElem? (i := 1024) (by decide +kernel)) rfl
theorem wm_1026 : (Cond.instanceMethod ({ cls := "StepProgramsModel", name := "child", desc := "(III)I" } : MethodName)) ∈ lw_g := wt (List.mem_of_getElem? (i := 1026) (by decide +kernel)) rfl
set_option maxRecDepth 100000 in
theorem wm_1027 : (Cond.code ({ cls := "StepProgramsModel", name := "child", desc := "(III)I" } : MethodName) prog_11_method_44_code (4 : Nat) (Option.some FieldType.int)) ∈ lw_g := wt (List.mem_of_getElem? (i := 1027) rfl) rfl
theorem wm_1028 : (Cond.methodLink "StepProgramsModel" (296 : Nat) ({ cls := "StepProgramsModel", name := "ask", desc := "(II)I" } : MethodName)) ∈ lw_g := wt (List.mem_of_getElem? (i := 1028) (by decide +kernel)) rfl
theorem wm_1030 : (Cond.instanceMethod ({ cls := "StepProgramsModel", name := "ask", desc := "(II)I" } : MethodName)) ∈ lw_g := wt (List.mem_of_getElem? (i := 1030) (by decide +kernel)) rfl
set_option maxRecDepth 100000 in
theorem wm_1031 : (Cond.code ({ cls := "StepProgramsModel", name := "ask", desc := "(II)I" } : MethodName) prog_11_method_45_code (3 : Nat) (Option.some FieldType.int)) ∈ lw_g := wt (List.mem_of_getElem? (i := 1031) rfl) rfl
theorem wm_1055 : (Cond.selects "[Ljava/lang/Object;" ({ cls := "java/lang/Object", name := "getClass", desc := "()Ljava/lang/Class;" } : MethodName) ({ cls := "java/lang/Object", name := "getClass", desc := "()Ljava/lang/Class;" } : MethodName)) ∈ lw_g := wt (List.mem_of_getElem? (i := 1055) (by decide +kernel)) rfl
theorem wm_1067 : (Cond.fieldLink "StepPrograms$Tape" (107 : Nat) "StepPrograms$Form" "kinds" "Ljava/lang/String;") ∈ lw_g := wt (List.mem_of_getElem? (i := 1067) (by decide +kernel)) rfl
theorem wm_1068 : (Cond.fieldLink "java/lang/String" (9 : Nat) "java/lang/String" "value" "[B") ∈ lw_g := wt (List.mem_of_getElem? (i := 1068) (by decide +kernel)) rfl
theorem wm_1069 : (Cond.fieldLink "java/lang/String" (15 : Nat) "java/lang/String" "coder" "B") ∈ lw_g := wt (List.mem_of_getElem? (i := 1069) (by decide +kernel)) rfl
theorem wm_1070 : (Cond.fieldLink "StepPrograms$Tape" (118 : Nat) "StepPrograms$Form" "word" "Ljava/lang/String;") ∈ lw_g := wt (List.mem_of_getElem? (i := 1070) (by decide +kernel)) rfl
theorem wm_1071 : (Cond.fieldLink "java/lang/Enum" (7 : Nat) "java/lang/Enum" "ordinal" "I") ∈ lw_g := wt (List.mem_of_getElem? (i := 1071) (by decide +kernel)) rfl
theorem sel_M_isRegister : Cond.selects R_M y_M_isRegister y_M_isRegister ∈ lw_g := ws_sel (by decide +kernel) rfl
theorem sel_M_isNumber : Cond.selects R_M y_M_isNumber y_M_isNumber ∈ lw_g := ws_sel (by decide +kernel) rfl
theorem sel_M_isLetter : Cond.selects R_M y_M_isLetter y_M_isLetter ∈ lw_g := ws_sel (by decide +kernel) rfl
theorem sel_M_isValue : Cond.selects R_M y_M_isValue y_M_isValue ∈ lw_g := ws_sel (by decide +kernel) rfl
theorem sel_M_isComparison : Cond.selects R_M y_M_isComparison y_M_isComparison ∈ lw_g := ws_sel (by decide +kernel) rfl
theorem sel_M_isSign : Cond.selects R_M y_M_isSign y_M_isSign ∈ lw_g := ws_sel (by decide +kernel) rfl
theorem sel_M_split : Cond.selects R_M y_M_split y_M_split ∈ lw_g := ws_sel (by decide +kernel) rfl
theorem sel_M_isLabel : Cond.selects R_M y_M_isLabel y_M_isLabel ∈ lw_g := ws_sel (by decide +kernel) rfl
theorem sel_M_goal : Cond.selects R_M y_M_goal y_M_goal ∈ lw_g := ws_sel (by decide +kernel) rfl
theorem sel_M_isStatement : Cond.selects R_M y_M_isStatement y_M_isStatement ∈ lw_g := ws_sel (by decide +kernel) rfl
theorem sel_M_layLines : Cond.selects R_M y_M_layLines y_M_layLines ∈ lw_g := ws_sel (by decide +kernel) rfl
theorem sel_M_ill : Cond.selects R_M y_M_ill y_M_ill ∈ lw_g := ws_sel (by decide +kernel) rfl
theorem sel_M_keep : Cond.selects R_M y_M_keep y_M_keep ∈ lw_g := ws_sel (by decide +kernel) rfl
theorem sel_M_append : Cond.selects R_M y_M_append y_M_append ∈ lw_g := ws_sel (by decide +kernel) rfl
theorem sel_M_registerOf : Cond.selects R_M y_M_registerOf y_M_registerOf ∈ lw_g := ws_sel (by decide +kernel) rfl
theorem sel_M_set : Cond.selects R_M y_M_set y_M_set ∈ lw_g := ws_sel (by decide +kernel) rfl
theorem sel_M_goesOn : Cond.selects R_M y_M_goesOn y_M_goesOn ∈ lw_g := ws_sel (by decide +kernel) rfl
theorem sel_M_gives : Cond.selects R_M y_M_gives y_M_gives ∈ lw_g := ws_sel (by decide +kernel) rfl
theorem sel_M_value : Cond.selects R_M y_M_value y_M_value ∈ lw_g := ws_sel (by decide +kernel) rfl
theorem sel_M_copy : Cond.selects R_M y_M_copy y_M_copy ∈ lw_g := ws_sel (by decide +kernel) rfl
theorem sel_M_write : Cond.selects R_M y_M_write y_M_write ∈ lw_g := ws_sel (by decide +kernel) rfl
theorem sel_M_read : Cond.selects R_M y_M_read y_M_read ∈ lw_g := ws_sel (by decide +kernel) rfl
theorem sel_M_goesTo : Cond.selects R_M y_M_goesTo y_M_goesTo ∈ lw_g := ws_sel (by decide +kernel) rfl
theorem sel_M_isProgram : Cond.selects R_M y_M_isProgram y_M_isProgram ∈ lw_g := ws_sel (by decide +kernel) rfl
theorem sel_M_begin : Cond.selects R_M y_M_begin y_M_begin ∈ lw_g := ws_sel (by decide +kernel) rfl
theorem sel_M_back : Cond.selects R_M y_M_back y_M_back ∈ lw_g := ws_sel (by decide +kernel) rfl
theorem sel_M_call : Cond.selects R_M y_M_call y_M_call ∈ lw_g := ws_sel (by decide +kernel) rfl
theorem sel_M_says : Cond.selects R_M y_M_says y_M_says ∈ lw_g := ws_sel (by decide +kernel) rfl
theorem sel_M_withFiles : Cond.selects R_M y_M_withFiles y_M_withFiles ∈ lw_g := ws_sel (by decide +kernel) rfl
theorem sel_M_ask : Cond.selects R_M y_M_ask y_M_ask ∈ lw_g := ws_sel (by decide +kernel) rfl
theorem sel_M_child : Cond.selects R_M y_M_child y_M_child ∈ lw_g := ws_sel (by decide +kernel) rfl
theorem sel_M_put : Cond.selects R_M y_M_put y_M_put ∈ lw_g := ws_sel (by decide +kernel) rfl
theorem sel_M_let : Cond.selects R_M y_M_let y_M_let ∈ lw_g := ws_sel (by decide +kernel) rfl
theorem sel_M_comesToStatement : Cond.selects R_M y_M_comesToStatement y_M_comesToStatement ∈ lw_g := ws_sel (by decide +kernel) rfl
theorem sel_M_work : Cond.selects R_M y_M_work y_M_work ∈ lw_g := ws_sel (by decide +kernel) rfl
theorem sel_Mach_follow : Cond.selects R_Mach y_Mach_follow y_Mach_follow ∈ lw_g := ws_sel (by decide +kernel) rfl
theorem sel_Mach_answer : Cond.selects R_Mach y_Mach_answer y_Mach_answer ∈ lw_g := ws_sel (by decide +kernel) rfl
theorem sel_Mach_sizeFile : Cond.selects R_Mach y_Mach_sizeFile y_Mach_sizeFile ∈ lw_g := ws_sel (by decide +kernel) rfl
theorem sel_Mach_readFile : Cond.selects R_Mach y_Mach_readFile y_Mach_readFile ∈ lw_g := ws_sel (by decide +kernel) rfl
theorem sel_Mach_writeFile : Cond.selects R_Mach y_Mach_writeFile y_Mach_writeFile ∈ lw_g := ws_sel (by decide +kernel) rfl
theorem sel_Mach_dropFile : Cond.selects R_Mach y_Mach_dropFile y_Mach_dropFile ∈ lw_g := ws_sel (by decide +kernel) rfl
theorem sel_Mach_copyFile : Cond.selects R_Mach y_Mach_copyFile y_Mach_copyFile ∈ lw_g := ws_sel (by decide +kernel) rfl
theorem sel_Mach_runChild : Cond.selects R_Mach y_Mach_runChild y_Mach_runChild ∈ lw_g := ws_sel (by decide +kernel) rfl
theorem sel_Mach_ask : Cond.selects R_Mach y_Mach_ask y_Mach_ask ∈ lw_g := ws_sel (by decide +kernel) rfl
theorem sel_Mach_perform : Cond.selects R_Mach y_Mach_perform y_Mach_perform ∈ lw_g := ws_sel (by decide +kernel) rfl
theorem sel_Tape_letterAt : Cond.selects R_Tape y_Tape_letterAt y_Tape_letterAt ∈ lw_g := ws_sel (by decide +kernel) rfl
theorem sel_Tape_lengthOf : Cond.selects R_Tape y_Tape_lengthOf y_Tape_lengthOf ∈ lw_g := ws_sel (by decide +kernel) rfl
theorem sel_Tape_onlyLetter : Cond.selects R_Tape y_Tape_onlyLetter y_Tape_onlyLetter ∈ lw_g := ws_sel (by decide +kernel) rfl
theorem sel_Tape_operandAt : Cond.selects R_Tape y_Tape_operandAt y_Tape_operandAt ∈ lw_g := ws_sel (by decide +kernel) rfl
theorem sel_Tape_isWord : Cond.selects R_Tape y_Tape_isWord y_Tape_isWord ∈ lw_g := ws_sel (by decide +kernel) rfl
theorem sel_Tape_takeWord : Cond.selects R_Tape y_Tape_takeWord y_Tape_takeWord ∈ lw_g := ws_sel (by decide +kernel) rfl
theorem sel_AL_grow1 : Cond.selects R_AL y_AL_grow1 y_AL_grow1 ∈ lw_g := ws_sel (by decide +kernel) rfl
theorem sel_AL_grow0 : Cond.selects R_AL y_AL_grow0 y_AL_grow0 ∈ lw_g := ws_sel (by decide +kernel) rfl
theorem sel_AL_add3 : Cond.selects R_AL y_AL_add3 y_AL_add3 ∈ lw_g := ws_sel (by decide +kernel) rfl
theorem sel_Tape_isOfForm : Cond.selects R_Tape y_Tape_isOfForm y_Tape_isOfForm ∈ lw_g := ws_sel (by decide +kernel) rfl
theorem sel_Tape_takeLine : Cond.selects R_Tape y_Tape_takeLine y_Tape_takeLine ∈ lw_g := ws_sel (by decide +kernel) rfl
theorem sel_Tape_takeCharacter : Cond.selects R_Tape y_Tape_takeCharacter y_Tape_takeCharacter ∈ lw_g := ws_sel (by decide +kernel) rfl
