/-! the law, by wip/whole/law.py -/
theorem wm_23 : (Cond.classLink "StepProgramsLaw" (7 : Nat) "StepPrograms") ∈ lw_g := wt (List.mem_of_getElem? (i := 23) (by decide +kernel)) rfl
theorem wm_24 : (Cond.instantiable "StepPrograms" (2 : Nat)) ∈ lw_g := wt (List.mem_of_getElem? (i := 24) (by decide +kernel)) rfl
theorem wm_25 : (Cond.methodLink "StepProgramsLaw" (9 : Nat) ({ cls := "StepPrograms", name := "<init>", desc := "()V" } : MethodName)) ∈ lw_g := wt (List.mem_of_getElem? (i := 25) (by decide +kernel)) rfl
theorem wm_26 : (Cond.instanceMethod ({ cls := "StepPrograms", name := "<init>", desc := "()V" } : MethodName)) ∈ lw_g := wt (List.mem_of_getElem? (i := 26) (by decide +kernel)) rfl
set_option maxRecDepth 100000 in
theorem wm_27 : (Cond.code ({ cls := "StepPrograms", name := "<init>", desc := "()V" } : MethodName) prog_1_method_1_code (1 : Nat) (Option.none : Option FieldType)) ∈ lw_g := wt (List.mem_of_getElem? (i := 27) rfl) rfl
theorem wm_189 : (Cond.methodLink "StepProgramsLaw" (15 : Nat) ({ cls := "StepPrograms", name := "text", desc := "(J)Z" } : MethodName)) ∈ lw_g := wt (List.mem_of_getElem? (i := 189) (by decide +kernel)) rfl
theorem wm_190 : (Cond.instanceMethod ({ cls := "StepPrograms", name := "text", desc := "(J)Z" } : MethodName)) ∈ lw_g := wt (List.mem_of_getElem? (i := 190) (by decide +kernel)) rfl
theorem wm_191 : (Cond.selects "StepPrograms" ({ cls := "StepPrograms", name := "text", desc := "(J)Z" } : MethodName) ({ cls := "StepPrograms", name := "text", desc := "(J)Z" } : MethodName)) ∈ lw_g := wt (List.mem_of_getElem? (i := 191) (by decide +kernel)) rfl
set_option maxRecDepth 100000 in
theorem wm_192 : (Cond.code ({ cls := "StepPrograms", name := "text", desc := "(J)Z" } : MethodName) prog_1_method_2_code (6 : Nat) (Option.some FieldType.boolean)) ∈ lw_g := wt (List.mem_of_getElem? (i := 192) rfl) rfl
theorem wm_207 : (Cond.methodLink "StepProgramsLaw" (20 : Nat) ({ cls := "StepPrograms", name := "load", desc := "(I)I" } : MethodName)) ∈ lw_g := wt (List.mem_of_getElem? (i := 207) (by decide +kernel)) rfl
theorem wm_208 : (Cond.instanceMethod ({ cls := "StepPrograms", name := "load", desc := "(I)I" } : MethodName)) ∈ lw_g := wt (List.mem_of_getElem? (i := 208) (by decide +kernel)) rfl
theorem wm_209 : (Cond.selects "StepPrograms" ({ cls := "StepPrograms", name := "load", desc := "(I)I" } : MethodName) ({ cls := "StepPrograms", name := "load", desc := "(I)I" } : MethodName)) ∈ lw_g := wt (List.mem_of_getElem? (i := 209) (by decide +kernel)) rfl
set_option maxRecDepth 100000 in
theorem wm_210 : (Cond.code ({ cls := "StepPrograms", name := "load", desc := "(I)I" } : MethodName) prog_1_method_3_code (4 : Nat) (Option.some FieldType.int)) ∈ lw_g := wt (List.mem_of_getElem? (i := 210) rfl) rfl
theorem wm_549 : (Cond.methodLink "StepProgramsLaw" (25 : Nat) ({ cls := "StepPrograms", name := "file", desc := "(IJI)Z" } : MethodName)) ∈ lw_g := wt (List.mem_of_getElem? (i := 549) (by decide +kernel)) rfl
theorem wm_550 : (Cond.instanceMethod ({ cls := "StepPrograms", name := "file", desc := "(IJI)Z" } : MethodName)) ∈ lw_g := wt (List.mem_of_getElem? (i := 550) (by decide +kernel)) rfl
theorem wm_551 : (Cond.selects "StepPrograms" ({ cls := "StepPrograms", name := "file", desc := "(IJI)Z" } : MethodName) ({ cls := "StepPrograms", name := "file", desc := "(IJI)Z" } : MethodName)) ∈ lw_g := wt (List.mem_of_getElem? (i := 551) (by decide +kernel)) rfl
set_option maxRecDepth 100000 in
theorem wm_552 : (Cond.code ({ cls := "StepPrograms", name := "file", desc := "(IJI)Z" } : MethodName) prog_1_method_4_code (7 : Nat) (Option.some FieldType.boolean)) ∈ lw_g := wt (List.mem_of_getElem? (i := 552) rfl) rfl
theorem wm_557 : (Cond.methodLink "StepProgramsLaw" (30 : Nat) ({ cls := "StepPrograms", name := "clear", desc := "(IZ)Z" } : MethodName)) ∈ lw_g := wt (List.mem_of_getElem? (i := 557) (by decide +kernel)) rfl
theorem wm_558 : (Cond.instanceMethod ({ cls := "StepPrograms", name := "clear", desc := "(IZ)Z" } : MethodName)) ∈ lw_g := wt (List.mem_of_getElem? (i := 558) (by decide +kernel)) rfl
theorem wm_559 : (Cond.selects "StepPrograms" ({ cls := "StepPrograms", name := "clear", desc := "(IZ)Z" } : MethodName) ({ cls := "StepPrograms", name := "clear", desc := "(IZ)Z" } : MethodName)) ∈ lw_g := wt (List.mem_of_getElem? (i := 559) (by decide +kernel)) rfl
set_option maxRecDepth 100000 in
theorem wm_560 : (Cond.code ({ cls := "StepPrograms", name := "clear", desc := "(IZ)Z" } : MethodName) prog_1_method_5_code (4 : Nat) (Option.some FieldType.boolean)) ∈ lw_g := wt (List.mem_of_getElem? (i := 560) rfl) rfl
theorem wm_565 : (Cond.methodLink "StepProgramsLaw" (35 : Nat) ({ cls := "StepPrograms", name := "plant", desc := "(IZ)Z" } : MethodName)) ∈ lw_g := wt (List.mem_of_getElem? (i := 565) (by decide +kernel)) rfl
theorem wm_566 : (Cond.instanceMethod ({ cls := "StepPrograms", name := "plant", desc := "(IZ)Z" } : MethodName)) ∈ lw_g := wt (List.mem_of_getElem? (i := 566) (by decide +kernel)) rfl
theorem wm_567 : (Cond.selects "StepPrograms" ({ cls := "StepPrograms", name := "plant", desc := "(IZ)Z" } : MethodName) ({ cls := "StepPrograms", name := "plant", desc := "(IZ)Z" } : MethodName)) ∈ lw_g := wt (List.mem_of_getElem? (i := 567) (by decide +kernel)) rfl
set_option maxRecDepth 100000 in
theorem wm_568 : (Cond.code ({ cls := "StepPrograms", name := "plant", desc := "(IZ)Z" } : MethodName) prog_1_method_6_code (3 : Nat) (Option.some FieldType.boolean)) ∈ lw_g := wt (List.mem_of_getElem? (i := 568) rfl) rfl
theorem wm_569 : (Cond.methodLink "StepProgramsLaw" (39 : Nat) ({ cls := "StepPrograms", name := "run", desc := "(III)I" } : MethodName)) ∈ lw_g := wt (List.mem_of_getElem? (i := 569) (by decide +kernel)) rfl
theorem wm_570 : (Cond.instanceMethod ({ cls := "StepPrograms", name := "run", desc := "(III)I" } : MethodName)) ∈ lw_g := wt (List.mem_of_getElem? (i := 570) (by decide +kernel)) rfl
theorem wm_571 : (Cond.selects "StepPrograms" ({ cls := "StepPrograms", name := "run", desc := "(III)I" } : MethodName) ({ cls := "StepPrograms", name := "run", desc := "(III)I" } : MethodName)) ∈ lw_g := wt (List.mem_of_getElem? (i := 571) (by decide +kernel)) rfl
set_option maxRecDepth 100000 in
theorem wm_572 : (Cond.code ({ cls := "StepPrograms", name := "run", desc := "(III)I" } : MethodName) prog_1_method_7_code (5 : Nat) (Option.some FieldType.int)) ∈ lw_g := wt (List.mem_of_getElem? (i := 572) rfl) rfl
theorem wm_695 : (Cond.methodLink "StepProgramsLaw" (44 : Nat) ({ cls := "StepPrograms", name := "about", desc := "(I)I" } : MethodName)) ∈ lw_g := wt (List.mem_of_getElem? (i := 695) (by decide +kernel)) rfl
theorem wm_696 : (Cond.instanceMethod ({ cls := "StepPrograms", name := "about", desc := "(I)I" } : MethodName)) ∈ lw_g := wt (List.mem_of_getElem? (i := 696) (by decide +kernel)) rfl
theorem wm_697 : (Cond.selects "StepPrograms" ({ cls := "StepPrograms", name := "about", desc := "(I)I" } : MethodName) ({ cls := "StepPrograms", name := "about", desc := "(I)I" } : MethodName)) ∈ lw_g := wt (List.mem_of_getElem? (i := 697) (by decide +kernel)) rfl
set_option maxRecDepth 100000 in
theorem wm_698 : (Cond.code ({ cls := "StepPrograms", name := "about", desc := "(I)I" } : MethodName) prog_1_method_8_code (2 : Nat) (Option.some FieldType.int)) ∈ lw_g := wt (List.mem_of_getElem? (i := 698) rfl) rfl
theorem wm_699 : (Cond.methodLink "StepProgramsLaw" (48 : Nat) ({ cls := "StepPrograms", name := "said", desc := "(II)I" } : MethodName)) ∈ lw_g := wt (List.mem_of_getElem? (i := 699) (by decide +kernel)) rfl
theorem wm_700 : (Cond.instanceMethod ({ cls := "StepPrograms", name := "said", desc := "(II)I" } : MethodName)) ∈ lw_g := wt (List.mem_of_getElem? (i := 700) (by decide +kernel)) rfl
theorem wm_701 : (Cond.selects "StepPrograms" ({ cls := "StepPrograms", name := "said", desc := "(II)I" } : MethodName) ({ cls := "StepPrograms", name := "said", desc := "(II)I" } : MethodName)) ∈ lw_g := wt (List.mem_of_getElem? (i := 701) (by decide +kernel)) rfl
set_option maxRecDepth 100000 in
theorem wm_702 : (Cond.code ({ cls := "StepPrograms", name := "said", desc := "(II)I" } : MethodName) prog_1_method_9_code (3 : Nat) (Option.some FieldType.int)) ∈ lw_g := wt (List.mem_of_getElem? (i := 702) rfl) rfl
theorem wm_704 : (Cond.methodLink "StepProgramsLaw" (53 : Nat) ({ cls := "StepPrograms", name := "register", desc := "(I)I" } : MethodName)) ∈ lw_g := wt (List.mem_of_getElem? (i := 704) (by decide +kernel)) rfl
theorem wm_705 : (Cond.instanceMethod ({ cls := "StepPrograms", name := "register", desc := "(I)I" } : MethodName)) ∈ lw_g := wt (List.mem_of_getElem? (i := 705) (by decide +kernel)) rfl
theorem wm_706 : (Cond.selects "StepPrograms" ({ cls := "StepPrograms", name := "register", desc := "(I)I" } : MethodName) ({ cls := "StepPrograms", name := "register", desc := "(I)I" } : MethodName)) ∈ lw_g := wt (List.mem_of_getElem? (i := 706) (by decide +kernel)) rfl
set_option maxRecDepth 100000 in
theorem wm_707 : (Cond.code ({ cls := "StepPrograms", name := "register", desc := "(I)I" } : MethodName) prog_1_method_10_code (2 : Nat) (Option.some FieldType.int)) ∈ lw_g := wt (List.mem_of_getElem? (i := 707) rfl) rfl
theorem wm_708 : (Cond.methodLink "StepProgramsLaw" (57 : Nat) ({ cls := "StepPrograms", name := "size", desc := "(I)I" } : MethodName)) ∈ lw_g := wt (List.mem_of_getElem? (i := 708) (by decide +kernel)) rfl
theorem wm_709 : (Cond.instanceMethod ({ cls := "StepPrograms", name := "size", desc := "(I)I" } : MethodName)) ∈ lw_g := wt (List.mem_of_getElem? (i := 709) (by decide +kernel)) rfl
theorem wm_710 : (Cond.selects "StepPrograms" ({ cls := "StepPrograms", name := "size", desc := "(I)I" } : MethodName) ({ cls := "StepPrograms", name := "size", desc := "(I)I" } : MethodName)) ∈ lw_g := wt (List.mem_of_getElem? (i := 710) (by decide +kernel)) rfl
set_option maxRecDepth 100000 in
theorem wm_711 : (Cond.code ({ cls := "StepPrograms", name := "size", desc := "(I)I" } : MethodName) prog_1_method_11_code (3 : Nat) (Option.some FieldType.int)) ∈ lw_g := wt (List.mem_of_getElem? (i := 711) rfl) rfl
theorem wm_713 : (Cond.methodLink "StepProgramsLaw" (61 : Nat) ({ cls := "StepPrograms", name := "byteOf", desc := "(II)I" } : MethodName)) ∈ lw_g := wt (List.mem_of_getElem? (i := 713) (by decide +kernel)) rfl
theorem wm_714 : (Cond.instanceMethod ({ cls := "StepPrograms", name := "byteOf", desc := "(II)I" } : MethodName)) ∈ lw_g := wt (List.mem_of_getElem? (i := 714) (by decide +kernel)) rfl
theorem wm_715 : (Cond.selects "StepPrograms" ({ cls := "StepPrograms", name := "byteOf", desc := "(II)I" } : MethodName) ({ cls := "StepPrograms", name := "byteOf", desc := "(II)I" } : MethodName)) ∈ lw_g := wt (List.mem_of_getElem? (i := 715) (by decide +kernel)) rfl
set_option maxRecDepth 100000 in
theorem wm_716 : (Cond.code ({ cls := "StepPrograms", name := "byteOf", desc := "(II)I" } : MethodName) prog_1_method_12_code (4 : Nat) (Option.some FieldType.int)) ∈ lw_g := wt (List.mem_of_getElem? (i := 716) rfl) rfl
theorem wm_717 : (Cond.classLink "StepProgramsLaw" (10 : Nat) "StepProgramsModel") ∈ lw_g := wt (List.mem_of_getElem? (i := 717) (by decide +kernel)) rfl
theorem wm_718 : (Cond.instantiable "StepProgramsModel" (33 : Nat)) ∈ lw_g := wt (List.mem_of_getElem? (i := 718) (by decide +kernel)) rfl
theorem wm_719 : (Cond.methodLink "StepProgramsLaw" (12 : Nat) ({ cls := "StepProgramsModel", name := "<init>", desc := "()V" } : MethodName)) ∈ lw_g := wt (List.mem_of_getElem? (i := 719) (by decide +kernel)) rfl
theorem wm_720 : (Cond.instanceMethod ({ cls := "StepProgramsModel", name := "<init>", desc := "()V" } : MethodName)) ∈ lw_g := wt (List.mem_of_getElem? (i := 720) (by decide +kernel)) rfl
set_option maxRecDepth 100000 in
theorem wm_721 : (Cond.code ({ cls := "StepProgramsModel", name := "<init>", desc := "()V" } : MethodName) prog_11_method_1_code (1 : Nat) (Option.none : Option FieldType)) ∈ lw_g := wt (List.mem_of_getElem? (i := 721) rfl) rfl
theorem wm_824 : (Cond.methodLink "StepProgramsLaw" (19 : Nat) ({ cls := "StepProgramsModel", name := "text", desc := "(J)Z" } : MethodName)) ∈ lw_g := wt (List.mem_of_getElem? (i := 824) (by decide +kernel)) rfl
theorem wm_825 : (Cond.instanceMethod ({ cls := "StepProgramsModel", name := "text", desc := "(J)Z" } : MethodName)) ∈ lw_g := wt (List.mem_of_getElem? (i := 825) (by decide +kernel)) rfl
theorem wm_826 : (Cond.selects "StepProgramsModel" ({ cls := "StepProgramsModel", name := "text", desc := "(J)Z" } : MethodName) ({ cls := "StepProgramsModel", name := "text", desc := "(J)Z" } : MethodName)) ∈ lw_g := wt (List.mem_of_getElem? (i := 826) (by decide +kernel)) rfl
set_option maxRecDepth 100000 in
theorem wm_827 : (Cond.code ({ cls := "StepProgramsModel", name := "text", desc := "(J)Z" } : MethodName) prog_11_method_3_code (6 : Nat) (Option.some FieldType.boolean)) ∈ lw_g := wt (List.mem_of_getElem? (i := 827) rfl) rfl
theorem wm_832 : (Cond.methodLink "StepProgramsLaw" (24 : Nat) ({ cls := "StepProgramsModel", name := "load", desc := "(I)I" } : MethodName)) ∈ lw_g := wt (List.mem_of_getElem? (i := 832) (by decide +kernel)) rfl
theorem wm_833 : (Cond.instanceMethod ({ cls := "StepProgramsModel", name := "load", desc := "(I)I" } : MethodName)) ∈ lw_g := wt (List.mem_of_getElem? (i := 833) (by decide +kernel)) rfl
theorem wm_834 : (Cond.selects "StepProgramsModel" ({ cls := "StepProgramsModel", name := "load", desc := "(I)I" } : MethodName) ({ cls := "StepProgramsModel", name := "load", desc := "(I)I" } : MethodName)) ∈ lw_g := wt (List.mem_of_getElem? (i := 834) (by decide +kernel)) rfl
set_option maxRecDepth 100000 in
theorem wm_835 : (Cond.code ({ cls := "StepProgramsModel", name := "load", desc := "(I)I" } : MethodName) prog_11_method_4_code (4 : Nat) (Option.some FieldType.int)) ∈ lw_g := wt (List.mem_of_getElem? (i := 835) rfl) rfl
theorem wm_922 : (Cond.methodLink "StepProgramsLaw" (29 : Nat) ({ cls := "StepProgramsModel", name := "file", desc := "(IJI)Z" } : MethodName)) ∈ lw_g := wt (List.mem_of_getElem? (i := 922) (by decide +kernel)) rfl
theorem wm_923 : (Cond.instanceMethod ({ cls := "StepProgramsModel", name := "file", desc := "(IJI)Z" } : MethodName)) ∈ lw_g := wt (List.mem_of_getElem? (i := 923) (by decide +kernel)) rfl
theorem wm_924 : (Cond.selects "StepProgramsModel" ({ cls := "StepProgramsModel", name := "file", desc := "(IJI)Z" } : MethodName) ({ cls := "StepProgramsModel", name := "file", desc := "(IJI)Z" } : MethodName)) ∈ lw_g := wt (List.mem_of_getElem? (i := 924) (by decide +kernel)) rfl
set_option maxRecDepth 100000 in
theorem wm_925 : (Cond.code ({ cls := "StepProgramsModel", name := "file", desc := "(IJI)Z" } : MethodName) prog_11_method_19_code (6 : Nat) (Option.some FieldType.boolean)) ∈ lw_g := wt (List.mem_of_getElem? (i := 925) rfl) rfl
theorem wm_933 : (Cond.methodLink "StepProgramsLaw" (34 : Nat) ({ cls := "StepProgramsModel", name := "clear", desc := "(IZ)Z" } : MethodName)) ∈ lw_g := wt (List.mem_of_getElem? (i := 933) (by decide +kernel)) rfl
theorem wm_934 : (Cond.instanceMethod ({ cls := "StepProgramsModel", name := "clear", desc := "(IZ)Z" } : MethodName)) ∈ lw_g := wt (List.mem_of_getElem? (i := 934) (by decide +kernel)) rfl
theorem wm_935 : (Cond.selects "StepProgramsModel" ({ cls := "StepProgramsModel", name := "clear", desc := "(IZ)Z" } : MethodName) ({ cls := "StepProgramsModel", name := "clear", desc := "(IZ)Z" } : MethodName)) ∈ lw_g := wt (List.mem_of_getElem? (i := 935) (by decide +kernel)) rfl
set_option maxRecDepth 100000 in
theorem wm_936 : (Cond.code ({ cls := "StepProgramsModel", name := "clear", desc := "(IZ)Z" } : MethodName) prog_11_method_21_code (3 : Nat) (Option.some FieldType.boolean)) ∈ lw_g := wt (List.mem_of_getElem? (i := 936) rfl) rfl
theorem wm_937 : (Cond.methodLink "StepProgramsLaw" (38 : Nat) ({ cls := "StepProgramsModel", name := "plant", desc := "(IZ)Z" } : MethodName)) ∈ lw_g := wt (List.mem_of_getElem? (i := 937) (by decide +kernel)) rfl
theorem wm_938 : (Cond.instanceMethod ({ cls := "StepProgramsModel", name := "plant", desc := "(IZ)Z" } : MethodName)) ∈ lw_g := wt (List.mem_of_getElem? (i := 938) (by decide +kernel)) rfl
theorem wm_939 : (Cond.selects "StepProgramsModel" ({ cls := "StepProgramsModel", name := "plant", desc := "(IZ)Z" } : MethodName) ({ cls := "StepProgramsModel", name := "plant", desc := "(IZ)Z" } : MethodName)) ∈ lw_g := wt (List.mem_of_getElem? (i := 939) (by decide +kernel)) rfl
set_option maxRecDepth 100000 in
theorem wm_940 : (Cond.code ({ cls := "StepProgramsModel", name := "plant", desc := "(IZ)Z" } : MethodName) prog_11_method_22_code (3 : Nat) (Option.some FieldType.boolean)) ∈ lw_g := wt (List.mem_of_getElem? (i := 940) rfl) rfl
theorem wm_941 : (Cond.methodLink "StepProgramsLaw" (43 : Nat) ({ cls := "StepProgramsModel", name := "run", desc := "(III)I" } : MethodName)) ∈ lw_g := wt (List.mem_of_getElem? (i := 941) (by decide +kernel)) rfl
theorem wm_942 : (Cond.instanceMethod ({ cls := "StepProgramsModel", name := "run", desc := "(III)I" } : MethodName)) ∈ lw_g := wt (List.mem_of_getElem? (i := 942) (by decide +kernel)) rfl
theorem wm_943 : (Cond.selects "StepProgramsModel" ({ cls := "StepProgramsModel", name := "run", desc := "(III)I" } : MethodName) ({ cls := "StepProgramsModel", name := "run", desc := "(III)I" } : MethodName)) ∈ lw_g := wt (List.mem_of_getElem? (i := 943) (by decide +kernel)) rfl
set_option maxRecDepth 100000 in
theorem wm_944 : (Cond.code ({ cls := "StepProgramsModel", name := "run", desc := "(III)I" } : MethodName) prog_11_method_24_code (7 : Nat) (Option.some FieldType.int)) ∈ lw_g := wt (List.mem_of_getElem? (i := 944) rfl) rfl
theorem wm_1032 : (Cond.methodLink "StepProgramsLaw" (47 : Nat) ({ cls := "StepProgramsModel", name := "about", desc := "(I)I" } : MethodName)) ∈ lw_g := wt (List.mem_of_getElem? (i := 1032) (by decide +kernel)) rfl
theorem wm_1033 : (Cond.instanceMethod ({ cls := "StepProgramsModel", name := "about", desc := "(I)I" } : MethodName)) ∈ lw_g := wt (List.mem_of_getElem? (i := 1033) (by decide +kernel)) rfl
theorem wm_1034 : (Cond.selects "StepProgramsModel" ({ cls := "StepProgramsModel", name := "about", desc := "(I)I" } : MethodName) ({ cls := "StepProgramsModel", name := "about", desc := "(I)I" } : MethodName)) ∈ lw_g := wt (List.mem_of_getElem? (i := 1034) (by decide +kernel)) rfl
set_option maxRecDepth 100000 in
theorem wm_1035 : (Cond.code ({ cls := "StepProgramsModel", name := "about", desc := "(I)I" } : MethodName) prog_11_method_46_code (2 : Nat) (Option.some FieldType.int)) ∈ lw_g := wt (List.mem_of_getElem? (i := 1035) rfl) rfl
theorem wm_1036 : (Cond.methodLink "StepProgramsLaw" (52 : Nat) ({ cls := "StepProgramsModel", name := "said", desc := "(II)I" } : MethodName)) ∈ lw_g := wt (List.mem_of_getElem? (i := 1036) (by decide +kernel)) rfl
theorem wm_1037 : (Cond.instanceMethod ({ cls := "StepProgramsModel", name := "said", desc := "(II)I" } : MethodName)) ∈ lw_g := wt (List.mem_of_getElem? (i := 1037) (by decide +kernel)) rfl
theorem wm_1038 : (Cond.selects "StepProgramsModel" ({ cls := "StepProgramsModel", name := "said", desc := "(II)I" } : MethodName) ({ cls := "StepProgramsModel", name := "said", desc := "(II)I" } : MethodName)) ∈ lw_g := wt (List.mem_of_getElem? (i := 1038) (by decide +kernel)) rfl
set_option maxRecDepth 100000 in
theorem wm_1039 : (Cond.code ({ cls := "StepProgramsModel", name := "said", desc := "(II)I" } : MethodName) prog_11_method_47_code (3 : Nat) (Option.some FieldType.int)) ∈ lw_g := wt (List.mem_of_getElem? (i := 1039) rfl) rfl
theorem wm_1040 : (Cond.methodLink "StepProgramsLaw" (56 : Nat) ({ cls := "StepProgramsModel", name := "register", desc := "(I)I" } : MethodName)) ∈ lw_g := wt (List.mem_of_getElem? (i := 1040) (by decide +kernel)) rfl
theorem wm_1041 : (Cond.instanceMethod ({ cls := "StepProgramsModel", name := "register", desc := "(I)I" } : MethodName)) ∈ lw_g := wt (List.mem_of_getElem? (i := 1041) (by decide +kernel)) rfl
theorem wm_1042 : (Cond.selects "StepProgramsModel" ({ cls := "StepProgramsModel", name := "register", desc := "(I)I" } : MethodName) ({ cls := "StepProgramsModel", name := "register", desc := "(I)I" } : MethodName)) ∈ lw_g := wt (List.mem_of_getElem? (i := 1042) (by decide +kernel)) rfl
set_option maxRecDepth 100000 in
theorem wm_1043 : (Cond.code ({ cls := "StepProgramsModel", name := "register", desc := "(I)I" } : MethodName) prog_11_method_48_code (2 : Nat) (Option.some FieldType.int)) ∈ lw_g := wt (List.mem_of_getElem? (i := 1043) rfl) rfl
theorem wm_1044 : (Cond.methodLink "StepProgramsLaw" (60 : Nat) ({ cls := "StepProgramsModel", name := "size", desc := "(I)I" } : MethodName)) ∈ lw_g := wt (List.mem_of_getElem? (i := 1044) (by decide +kernel)) rfl
theorem wm_1045 : (Cond.instanceMethod ({ cls := "StepProgramsModel", name := "size", desc := "(I)I" } : MethodName)) ∈ lw_g := wt (List.mem_of_getElem? (i := 1045) (by decide +kernel)) rfl
theorem wm_1046 : (Cond.selects "StepProgramsModel" ({ cls := "StepProgramsModel", name := "size", desc := "(I)I" } : MethodName) ({ cls := "StepProgramsModel", name := "size", desc := "(I)I" } : MethodName)) ∈ lw_g := wt (List.mem_of_getElem? (i := 1046) (by decide +kernel)) rfl
set_option maxRecDepth 100000 in
theorem wm_1047 : (Cond.code ({ cls := "StepProgramsModel", name := "size", desc := "(I)I" } : MethodName) prog_11_method_49_code (2 : Nat) (Option.some FieldType.int)) ∈ lw_g := wt (List.mem_of_getElem? (i := 1047) rfl) rfl
theorem wm_1048 : (Cond.methodLink "StepProgramsLaw" (64 : Nat) ({ cls := "StepProgramsModel", name := "byteOf", desc := "(II)I" } : MethodName)) ∈ lw_g := wt (List.mem_of_getElem? (i := 1048) (by decide +kernel)) rfl
theorem wm_1049 : (Cond.instanceMethod ({ cls := "StepProgramsModel", name := "byteOf", desc := "(II)I" } : MethodName)) ∈ lw_g := wt (List.mem_of_getElem? (i := 1049) (by decide +kernel)) rfl
theorem wm_1050 : (Cond.selects "StepProgramsModel" ({ cls := "StepProgramsModel", name := "byteOf", desc := "(II)I" } : MethodName) ({ cls := "StepProgramsModel", name := "byteOf", desc := "(II)I" } : MethodName)) ∈ lw_g := wt (List.mem_of_getElem? (i := 1050) (by decide +kernel)) rfl
set_option maxRecDepth 100000 in
theorem wm_1051 : (Cond.code ({ cls := "StepProgramsModel", name := "byteOf", desc := "(II)I" } : MethodName) prog_11_method_50_code (3 : Nat) (Option.some FieldType.int)) ∈ lw_g := wt (List.mem_of_getElem? (i := 1051) rfl) rfl
theorem wm_1052 : (Cond.constantLong "StepProgramsLaw" (13 : Nat) (4294967295 : Int64)) ∈ lw_g := wt (List.mem_of_getElem? (i := 1052) (by decide +kernel)) rfl
/-! THE CLAIM OUT OF ONE WALK OF THE LAW'S BODY. Your part is whole_start (and what it stands on); all else here is the same for every law, but numbers. -/
def R_law : String := "StepProgramsLaw"
def lw_P (b : Addr) (xs : List Int32) (args : Array Value) (s : State) : Prop := args = #[.ref b] ∧ s.IntsAt b xs ∧ xs.length ≤ 2560 ∧ (Jvm.Cond.and given_1 narrow_1).before args s = true
def lw_Q (_ : Array Value) (s : State) (o : Outcome) (t : State) : Prop := o = .returned (some (.int 1)) ∧ Framed s o t [] 600000 7302250
def lw_Z (below : List Frame) (a : Array Value) (s : State) : State → Prop := fun t => ∃ o, t.status = .running ∧ Ended t below o ∧ lw_Q a s o t
/-- the law's own end, with 1 on the stack, nothing written that was there before, its room as the claim has it -/
theorem lw_ret {p : Program} {l : Launch} {e : Env} {s : State} {m : MethodId} {below : List Frame} {meth : Method} {c : Code} {b : Nat} (hx : p.tables.exec = Jvm.exec) (hb : c.code = code) (hr : meth.sig.returnType = ret) (hlocks : meth.locks = false) {pc : Nat} {H : Heap} {ls : Array Slot} (hdg : decode code pc = .ok (.ireturn, 1)) : W p l e room_1 s m #[Value.ref b] below meth c H [] 600000 7302250 (lw_Z below #[Value.ref b] s) (F0 m pc ls [.int 1]) := by
  intro T hT X
  obtain ⟨fs, hret, hrun, hended, hW, hframe⟩ := X.leave (v := some (.int 1)) (hlocks := hlocks) (fun h => by rw [hr] at h; cases h)
  have hmeth' : T.vm.method? m = some meth := X.method'
  refine ⟨T.setFrames fs, ?_, .returned (some (.int 1)), hrun, hended, rfl, ⟨_, rfl⟩, hW, hframe⟩
  jvm_step X.here [X.here.top, hx, hb, hdg, hmeth', hr, ret, narrow_b1]
  (try refine ⟨rfl, ?_⟩); (try refine ⟨rfl, ?_⟩)
  first | (intro acts; rw [hret _ acts rfl rfl rfl]) | rw [hret _ _ rfl rfl rfl]
  exact Steps.refl _
/-- what holds at the law's entry: the machine, the code, the tables' words (any of lw_tbl by 'hts w (by decide +kernel)'), the script of L ints xs at the cell b, what the Statement gives of the start (any of its parts by flat_of_before) -/
def lw_At (p : Program) (s : State) (m : MethodId) (meth : Method) (c : Code) (b L : Nat) (xs : Nat → Int32) : Prop :=
  p.tables.exec = Jvm.exec ∧ c.code = code ∧ meth.sig.returnType = ret ∧ c.maxLocals = 4 ∧ s.vm.findClass R_law = some m.cls ∧ (∀ w ∈ lw_tbl, w.before #[Value.ref b] s = true) ∧ va_X b L xs s s.heap ∧ b < s.heap.size ∧ meth.locks = false ∧ (Jvm.Cond.and given_1 narrow_1).before #[Value.ref b] s = true
abbrev lw_ts : List Cond := Cond.initialized "StepPrograms" :: lw_g
def xA (b L : Nat) (xs : Nat → Int32) (r : Option Nat) (i : Int32) : Option Int32 := if r = some b then (if i < 0 ∨ L ≤ i.toNatClampNeg then none else some (xs i.toNatClampNeg)) else none
def xL (b L : Nat) (r : Option Nat) : Option Int32 := if r = some b then some (nI L) else none
section LAW0
variable {p : Program} {l : Launch} {e : Env} {s : State} {m : MethodId} {below : List Frame} {meth : Method} {c : Code} {D : va_G} {kA : Nat → ClassId} {S : hE} {g : Nat → Nat} {n0 nx : Nat} {b L : Nat} {xs : Nat → Int32} {R : Room} {E : hE} {H : Heap} {locs : List Loc} {cells slots pc : Nat} {Q : State → Prop} {ls : Array Slot} {rest : List Value} {r : Option Nat} {i v : Int32} {cl : List vw_C} {tys : List (ClassId × FieldType)} {Z : State → Prop} {cc : ByteArray} {nL : Nat} {own : String} {Ts : List Cond} {args : Array Value}
theorem w_sld (C : hC p s m args c cc nL own Ts D cl tys n0 Z) (M : hM D cl kA n0 s E nx H locs) (hn : n0 = s.heap.size ∧ va_X b L xs s s.heap ∧ b < s.heap.size) (h : xA b L xs r i = some v) (hdg : decode cc pc = .ok (.iaload, 1))
    (kk : W p l e R s m args below meth c H locs cells slots Q (F0 m (pc + 1) ls (.int v :: rest))) : W p l e R s m args below meth c H locs cells slots Q (F0 m pc ls (.int i :: va_rf r :: rest)) := by
  unfold xA at h
  by_cases hr : r = some b
  · rw [if_pos hr] at h
    subst hr
    by_cases hi : i < 0 ∨ L ≤ i.toNatClampNeg
    · rw [if_pos hi] at h
      cases h
    · rw [if_neg hi] at h
      cases h
      exact va_sld C.x C.b hn.2.1 hn.2.2 (by rw [hn.1]; exact Nat.not_le.mpr hn.2.2) M.S hi hdg kk
  · rw [if_neg hr] at h
    cases h
theorem w_slen (C : hC p s m args c cc nL own Ts D cl tys n0 Z) (M : hM D cl kA n0 s E nx H locs) (hn : n0 = s.heap.size ∧ va_X b L xs s s.heap ∧ b < s.heap.size) (h : xL b L r = some v) (hdg : decode cc pc = .ok (.arraylength, 1))
    (kk : W p l e R s m args below meth c H locs cells slots Q (F0 m (pc + 1) ls (.int v :: rest))) : W p l e R s m args below meth c H locs cells slots Q (F0 m pc ls (va_rf r :: rest)) := by
  unfold xL at h
  by_cases hr : r = some b
  · rw [if_pos hr] at h
    subst hr
    cases h
    exact va_slen C.x C.b hn.2.1 hn.2.2 (by rw [hn.1]; exact Nat.not_le.mpr hn.2.2) M.S hdg kk
  · rw [if_neg hr] at h
    cases h
theorem w_lret0 (C : hC p s m #[Value.ref b] c code nL own Ts D cl tys n0 Z) (M : hM D cl kA n0 s E nx H locs) (hr : meth.sig.returnType = ret) (hlk : meth.locks = false) (hn : n0 = s.heap.size ∧ va_X b L xs s s.heap ∧ b < s.heap.size) (h1 : cells ≤ 600000) (h2 : slots ≤ 7302250) (hdg : decode code pc = .ok (.ireturn, 1)) : W p l e room_1 s m #[Value.ref b] below meth c H locs cells slots (lw_Z below #[Value.ref b] s) (F0 m pc ls [.int 1]) := by
  refine va_forget (fun q hq => ?_) (W.widen h1 h2 (lw_ret C.x C.b hr hlk hdg))
  have h : n0 ≤ q.base := M.S.2.2 q hq
  rw [hn.1] at h
  exact h
end LAW0
theorem dlaw_0 : decode code 0 = .ok (.new 7, 3) := by decide +kernel
theorem dlaw_3 : decode code 3 = .ok (.dup, 1) := by decide +kernel
theorem dlaw_4 : decode code 4 = .ok (.invokespecial 9, 3) := by decide +kernel
theorem dlaw_7 : decode code 7 = .ok (.astore_n 1, 1) := by decide +kernel
theorem dlaw_8 : decode code 8 = .ok (.new 10, 3) := by decide +kernel
theorem dlaw_11 : decode code 11 = .ok (.dup, 1) := by decide +kernel
theorem dlaw_12 : decode code 12 = .ok (.invokespecial 12, 3) := by decide +kernel
theorem dlaw_15 : decode code 15 = .ok (.astore_n 2, 1) := by decide +kernel
theorem dlaw_16 : decode code 16 = .ok (.iconst 0, 1) := by decide +kernel
theorem dlaw_17 : decode code 17 = .ok (.istore_n 3, 1) := by decide +kernel
theorem dlaw_18 : decode code 18 = .ok (.iload_n 3, 1) := by decide +kernel
theorem dlaw_19 : decode code 19 = .ok (.aload_n 0, 1) := by decide +kernel
theorem dlaw_20 : decode code 20 = .ok (.arraylength, 1) := by decide +kernel
theorem dlaw_21 : decode code 21 = .ok (.iconst 5, 1) := by decide +kernel
theorem dlaw_22 : decode code 22 = .ok (.isub, 1) := by decide +kernel
theorem dlaw_23 : decode code 23 = .ok (.if_icmp .gt 500, 3) := by decide +kernel
theorem dlaw_26 : decode code 26 = .ok (.aload_n 0, 1) := by decide +kernel
theorem dlaw_27 : decode code 27 = .ok (.iload_n 3, 1) := by decide +kernel
theorem dlaw_28 : decode code 28 = .ok (.iaload, 1) := by decide +kernel
theorem dlaw_29 : decode code 29 = .ok (.bipush 15, 2) := by decide +kernel
theorem dlaw_31 : decode code 31 = .ok (.iand, 1) := by decide +kernel
theorem dlaw_32 : decode code 32 = .ok (.tableswitch 485 0 10 #[60, 113, 136, 209, 258, 307, 350, 373, 406, 429, 452], 60) := by decide +kernel
theorem dlaw_92 : decode code 92 = .ok (.aload_n 1, 1) := by decide +kernel
theorem dlaw_93 : decode code 93 = .ok (.aload_n 0, 1) := by decide +kernel
theorem dlaw_94 : decode code 94 = .ok (.iload_n 3, 1) := by decide +kernel
theorem dlaw_95 : decode code 95 = .ok (.iconst 1, 1) := by decide +kernel
theorem dlaw_96 : decode code 96 = .ok (.iadd, 1) := by decide +kernel
theorem dlaw_97 : decode code 97 = .ok (.iaload, 1) := by decide +kernel
theorem dlaw_98 : decode code 98 = .ok (.i2l, 1) := by decide +kernel
theorem dlaw_99 : decode code 99 = .ok (.bipush 32, 2) := by decide +kernel
theorem dlaw_101 : decode code 101 = .ok (.lshl, 1) := by decide +kernel
theorem dlaw_102 : decode code 102 = .ok (.aload_n 0, 1) := by decide +kernel
theorem dlaw_103 : decode code 103 = .ok (.iload_n 3, 1) := by decide +kernel
theorem dlaw_104 : decode code 104 = .ok (.iconst 2, 1) := by decide +kernel
theorem dlaw_105 : decode code 105 = .ok (.iadd, 1) := by decide +kernel
theorem dlaw_106 : decode code 106 = .ok (.iaload, 1) := by decide +kernel
theorem dlaw_107 : decode code 107 = .ok (.i2l, 1) := by decide +kernel
theorem dlaw_108 : decode code 108 = .ok (.ldc2_w 13, 3) := by decide +kernel
theorem dlaw_111 : decode code 111 = .ok (.land, 1) := by decide +kernel
theorem dlaw_112 : decode code 112 = .ok (.lor, 1) := by decide +kernel
theorem dlaw_113 : decode code 113 = .ok (.invokevirtual 15, 3) := by decide +kernel
theorem dlaw_116 : decode code 116 = .ok (.aload_n 2, 1) := by decide +kernel
theorem dlaw_117 : decode code 117 = .ok (.aload_n 0, 1) := by decide +kernel
theorem dlaw_118 : decode code 118 = .ok (.iload_n 3, 1) := by decide +kernel
theorem dlaw_119 : decode code 119 = .ok (.iconst 1, 1) := by decide +kernel
theorem dlaw_120 : decode code 120 = .ok (.iadd, 1) := by decide +kernel
theorem dlaw_121 : decode code 121 = .ok (.iaload, 1) := by decide +kernel
theorem dlaw_122 : decode code 122 = .ok (.i2l, 1) := by decide +kernel
theorem dlaw_123 : decode code 123 = .ok (.bipush 32, 2) := by decide +kernel
theorem dlaw_125 : decode code 125 = .ok (.lshl, 1) := by decide +kernel
theorem dlaw_126 : decode code 126 = .ok (.aload_n 0, 1) := by decide +kernel
theorem dlaw_127 : decode code 127 = .ok (.iload_n 3, 1) := by decide +kernel
theorem dlaw_128 : decode code 128 = .ok (.iconst 2, 1) := by decide +kernel
theorem dlaw_129 : decode code 129 = .ok (.iadd, 1) := by decide +kernel
theorem dlaw_130 : decode code 130 = .ok (.iaload, 1) := by decide +kernel
theorem dlaw_131 : decode code 131 = .ok (.i2l, 1) := by decide +kernel
theorem dlaw_132 : decode code 132 = .ok (.ldc2_w 13, 3) := by decide +kernel
theorem dlaw_135 : decode code 135 = .ok (.land, 1) := by decide +kernel
theorem dlaw_136 : decode code 136 = .ok (.lor, 1) := by decide +kernel
theorem dlaw_137 : decode code 137 = .ok (.invokevirtual 19, 3) := by decide +kernel
theorem dlaw_140 : decode code 140 = .ok (.if_icmp .eq 377, 3) := by decide +kernel
theorem dlaw_145 : decode code 145 = .ok (.aload_n 1, 1) := by decide +kernel
theorem dlaw_146 : decode code 146 = .ok (.aload_n 0, 1) := by decide +kernel
theorem dlaw_147 : decode code 147 = .ok (.iload_n 3, 1) := by decide +kernel
theorem dlaw_148 : decode code 148 = .ok (.iconst 1, 1) := by decide +kernel
theorem dlaw_149 : decode code 149 = .ok (.iadd, 1) := by decide +kernel
theorem dlaw_150 : decode code 150 = .ok (.iaload, 1) := by decide +kernel
theorem dlaw_151 : decode code 151 = .ok (.invokevirtual 20, 3) := by decide +kernel
theorem dlaw_154 : decode code 154 = .ok (.aload_n 2, 1) := by decide +kernel
theorem dlaw_155 : decode code 155 = .ok (.aload_n 0, 1) := by decide +kernel
theorem dlaw_156 : decode code 156 = .ok (.iload_n 3, 1) := by decide +kernel
theorem dlaw_157 : decode code 157 = .ok (.iconst 1, 1) := by decide +kernel
theorem dlaw_158 : decode code 158 = .ok (.iadd, 1) := by decide +kernel
theorem dlaw_159 : decode code 159 = .ok (.iaload, 1) := by decide +kernel
theorem dlaw_160 : decode code 160 = .ok (.invokevirtual 24, 3) := by decide +kernel
theorem dlaw_163 : decode code 163 = .ok (.if_icmp .eq 354, 3) := by decide +kernel
theorem dlaw_168 : decode code 168 = .ok (.aload_n 1, 1) := by decide +kernel
theorem dlaw_169 : decode code 169 = .ok (.aload_n 0, 1) := by decide +kernel
theorem dlaw_170 : decode code 170 = .ok (.iload_n 3, 1) := by decide +kernel
theorem dlaw_171 : decode code 171 = .ok (.iconst 1, 1) := by decide +kernel
theorem dlaw_172 : decode code 172 = .ok (.iadd, 1) := by decide +kernel
theorem dlaw_173 : decode code 173 = .ok (.iaload, 1) := by decide +kernel
theorem dlaw_174 : decode code 174 = .ok (.aload_n 0, 1) := by decide +kernel
theorem dlaw_175 : decode code 175 = .ok (.iload_n 3, 1) := by decide +kernel
theorem dlaw_176 : decode code 176 = .ok (.iconst 2, 1) := by decide +kernel
theorem dlaw_177 : decode code 177 = .ok (.iadd, 1) := by decide +kernel
theorem dlaw_178 : decode code 178 = .ok (.iaload, 1) := by decide +kernel
theorem dlaw_179 : decode code 179 = .ok (.i2l, 1) := by decide +kernel
theorem dlaw_180 : decode code 180 = .ok (.bipush 32, 2) := by decide +kernel
theorem dlaw_182 : decode code 182 = .ok (.lshl, 1) := by decide +kernel
theorem dlaw_183 : decode code 183 = .ok (.aload_n 0, 1) := by decide +kernel
theorem dlaw_184 : decode code 184 = .ok (.iload_n 3, 1) := by decide +kernel
theorem dlaw_185 : decode code 185 = .ok (.iconst 3, 1) := by decide +kernel
theorem dlaw_186 : decode code 186 = .ok (.iadd, 1) := by decide +kernel
theorem dlaw_187 : decode code 187 = .ok (.iaload, 1) := by decide +kernel
theorem dlaw_188 : decode code 188 = .ok (.i2l, 1) := by decide +kernel
theorem dlaw_189 : decode code 189 = .ok (.ldc2_w 13, 3) := by decide +kernel
theorem dlaw_192 : decode code 192 = .ok (.land, 1) := by decide +kernel
theorem dlaw_193 : decode code 193 = .ok (.lor, 1) := by decide +kernel
theorem dlaw_194 : decode code 194 = .ok (.aload_n 0, 1) := by decide +kernel
theorem dlaw_195 : decode code 195 = .ok (.iload_n 3, 1) := by decide +kernel
theorem dlaw_196 : decode code 196 = .ok (.iconst 4, 1) := by decide +kernel
theorem dlaw_197 : decode code 197 = .ok (.iadd, 1) := by decide +kernel
theorem dlaw_198 : decode code 198 = .ok (.iaload, 1) := by decide +kernel
theorem dlaw_199 : decode code 199 = .ok (.invokevirtual 25, 3) := by decide +kernel
theorem dlaw_202 : decode code 202 = .ok (.aload_n 2, 1) := by decide +kernel
theorem dlaw_203 : decode code 203 = .ok (.aload_n 0, 1) := by decide +kernel
theorem dlaw_204 : decode code 204 = .ok (.iload_n 3, 1) := by decide +kernel
theorem dlaw_205 : decode code 205 = .ok (.iconst 1, 1) := by decide +kernel
theorem dlaw_206 : decode code 206 = .ok (.iadd, 1) := by decide +kernel
theorem dlaw_207 : decode code 207 = .ok (.iaload, 1) := by decide +kernel
theorem dlaw_208 : decode code 208 = .ok (.aload_n 0, 1) := by decide +kernel
theorem dlaw_209 : decode code 209 = .ok (.iload_n 3, 1) := by decide +kernel
theorem dlaw_210 : decode code 210 = .ok (.iconst 2, 1) := by decide +kernel
theorem dlaw_211 : decode code 211 = .ok (.iadd, 1) := by decide +kernel
theorem dlaw_212 : decode code 212 = .ok (.iaload, 1) := by decide +kernel
theorem dlaw_213 : decode code 213 = .ok (.i2l, 1) := by decide +kernel
theorem dlaw_214 : decode code 214 = .ok (.bipush 32, 2) := by decide +kernel
theorem dlaw_216 : decode code 216 = .ok (.lshl, 1) := by decide +kernel
theorem dlaw_217 : decode code 217 = .ok (.aload_n 0, 1) := by decide +kernel
theorem dlaw_218 : decode code 218 = .ok (.iload_n 3, 1) := by decide +kernel
theorem dlaw_219 : decode code 219 = .ok (.iconst 3, 1) := by decide +kernel
theorem dlaw_220 : decode code 220 = .ok (.iadd, 1) := by decide +kernel
theorem dlaw_221 : decode code 221 = .ok (.iaload, 1) := by decide +kernel
theorem dlaw_222 : decode code 222 = .ok (.i2l, 1) := by decide +kernel
theorem dlaw_223 : decode code 223 = .ok (.ldc2_w 13, 3) := by decide +kernel
theorem dlaw_226 : decode code 226 = .ok (.land, 1) := by decide +kernel
theorem dlaw_227 : decode code 227 = .ok (.lor, 1) := by decide +kernel
theorem dlaw_228 : decode code 228 = .ok (.aload_n 0, 1) := by decide +kernel
theorem dlaw_229 : decode code 229 = .ok (.iload_n 3, 1) := by decide +kernel
theorem dlaw_230 : decode code 230 = .ok (.iconst 4, 1) := by decide +kernel
theorem dlaw_231 : decode code 231 = .ok (.iadd, 1) := by decide +kernel
theorem dlaw_232 : decode code 232 = .ok (.iaload, 1) := by decide +kernel
theorem dlaw_233 : decode code 233 = .ok (.invokevirtual 29, 3) := by decide +kernel
theorem dlaw_236 : decode code 236 = .ok (.if_icmp .eq 281, 3) := by decide +kernel
theorem dlaw_241 : decode code 241 = .ok (.aload_n 1, 1) := by decide +kernel
theorem dlaw_242 : decode code 242 = .ok (.aload_n 0, 1) := by decide +kernel
theorem dlaw_243 : decode code 243 = .ok (.iload_n 3, 1) := by decide +kernel
theorem dlaw_244 : decode code 244 = .ok (.iconst 1, 1) := by decide +kernel
theorem dlaw_245 : decode code 245 = .ok (.iadd, 1) := by decide +kernel
theorem dlaw_246 : decode code 246 = .ok (.iaload, 1) := by decide +kernel
theorem dlaw_247 : decode code 247 = .ok (.aload_n 0, 1) := by decide +kernel
theorem dlaw_248 : decode code 248 = .ok (.iload_n 3, 1) := by decide +kernel
theorem dlaw_249 : decode code 249 = .ok (.iconst 2, 1) := by decide +kernel
theorem dlaw_250 : decode code 250 = .ok (.iadd, 1) := by decide +kernel
theorem dlaw_251 : decode code 251 = .ok (.iaload, 1) := by decide +kernel
theorem dlaw_252 : decode code 252 = .ok (.ifCond .eq 7, 3) := by decide +kernel
theorem dlaw_255 : decode code 255 = .ok (.iconst 1, 1) := by decide +kernel
theorem dlaw_256 : decode code 256 = .ok (.goto 4, 3) := by decide +kernel
theorem dlaw_259 : decode code 259 = .ok (.iconst 0, 1) := by decide +kernel
theorem dlaw_260 : decode code 260 = .ok (.invokevirtual 30, 3) := by decide +kernel
theorem dlaw_263 : decode code 263 = .ok (.aload_n 2, 1) := by decide +kernel
theorem dlaw_264 : decode code 264 = .ok (.aload_n 0, 1) := by decide +kernel
theorem dlaw_265 : decode code 265 = .ok (.iload_n 3, 1) := by decide +kernel
theorem dlaw_266 : decode code 266 = .ok (.iconst 1, 1) := by decide +kernel
theorem dlaw_267 : decode code 267 = .ok (.iadd, 1) := by decide +kernel
theorem dlaw_268 : decode code 268 = .ok (.iaload, 1) := by decide +kernel
theorem dlaw_269 : decode code 269 = .ok (.aload_n 0, 1) := by decide +kernel
theorem dlaw_270 : decode code 270 = .ok (.iload_n 3, 1) := by decide +kernel
theorem dlaw_271 : decode code 271 = .ok (.iconst 2, 1) := by decide +kernel
theorem dlaw_272 : decode code 272 = .ok (.iadd, 1) := by decide +kernel
theorem dlaw_273 : decode code 273 = .ok (.iaload, 1) := by decide +kernel
theorem dlaw_274 : decode code 274 = .ok (.ifCond .eq 7, 3) := by decide +kernel
theorem dlaw_277 : decode code 277 = .ok (.iconst 1, 1) := by decide +kernel
theorem dlaw_278 : decode code 278 = .ok (.goto 4, 3) := by decide +kernel
theorem dlaw_281 : decode code 281 = .ok (.iconst 0, 1) := by decide +kernel
theorem dlaw_282 : decode code 282 = .ok (.invokevirtual 34, 3) := by decide +kernel
theorem dlaw_285 : decode code 285 = .ok (.if_icmp .eq 232, 3) := by decide +kernel
theorem dlaw_290 : decode code 290 = .ok (.aload_n 1, 1) := by decide +kernel
theorem dlaw_291 : decode code 291 = .ok (.aload_n 0, 1) := by decide +kernel
theorem dlaw_292 : decode code 292 = .ok (.iload_n 3, 1) := by decide +kernel
theorem dlaw_293 : decode code 293 = .ok (.iconst 1, 1) := by decide +kernel
theorem dlaw_294 : decode code 294 = .ok (.iadd, 1) := by decide +kernel
theorem dlaw_295 : decode code 295 = .ok (.iaload, 1) := by decide +kernel
theorem dlaw_296 : decode code 296 = .ok (.aload_n 0, 1) := by decide +kernel
theorem dlaw_297 : decode code 297 = .ok (.iload_n 3, 1) := by decide +kernel
theorem dlaw_298 : decode code 298 = .ok (.iconst 2, 1) := by decide +kernel
theorem dlaw_299 : decode code 299 = .ok (.iadd, 1) := by decide +kernel
theorem dlaw_300 : decode code 300 = .ok (.iaload, 1) := by decide +kernel
theorem dlaw_301 : decode code 301 = .ok (.ifCond .eq 7, 3) := by decide +kernel
theorem dlaw_304 : decode code 304 = .ok (.iconst 1, 1) := by decide +kernel
theorem dlaw_305 : decode code 305 = .ok (.goto 4, 3) := by decide +kernel
theorem dlaw_308 : decode code 308 = .ok (.iconst 0, 1) := by decide +kernel
theorem dlaw_309 : decode code 309 = .ok (.invokevirtual 35, 3) := by decide +kernel
theorem dlaw_312 : decode code 312 = .ok (.aload_n 2, 1) := by decide +kernel
theorem dlaw_313 : decode code 313 = .ok (.aload_n 0, 1) := by decide +kernel
theorem dlaw_314 : decode code 314 = .ok (.iload_n 3, 1) := by decide +kernel
theorem dlaw_315 : decode code 315 = .ok (.iconst 1, 1) := by decide +kernel
theorem dlaw_316 : decode code 316 = .ok (.iadd, 1) := by decide +kernel
theorem dlaw_317 : decode code 317 = .ok (.iaload, 1) := by decide +kernel
theorem dlaw_318 : decode code 318 = .ok (.aload_n 0, 1) := by decide +kernel
theorem dlaw_319 : decode code 319 = .ok (.iload_n 3, 1) := by decide +kernel
theorem dlaw_320 : decode code 320 = .ok (.iconst 2, 1) := by decide +kernel
theorem dlaw_321 : decode code 321 = .ok (.iadd, 1) := by decide +kernel
theorem dlaw_322 : decode code 322 = .ok (.iaload, 1) := by decide +kernel
theorem dlaw_323 : decode code 323 = .ok (.ifCond .eq 7, 3) := by decide +kernel
theorem dlaw_326 : decode code 326 = .ok (.iconst 1, 1) := by decide +kernel
theorem dlaw_327 : decode code 327 = .ok (.goto 4, 3) := by decide +kernel
theorem dlaw_330 : decode code 330 = .ok (.iconst 0, 1) := by decide +kernel
theorem dlaw_331 : decode code 331 = .ok (.invokevirtual 38, 3) := by decide +kernel
theorem dlaw_334 : decode code 334 = .ok (.if_icmp .eq 183, 3) := by decide +kernel
theorem dlaw_339 : decode code 339 = .ok (.aload_n 1, 1) := by decide +kernel
theorem dlaw_340 : decode code 340 = .ok (.aload_n 0, 1) := by decide +kernel
theorem dlaw_341 : decode code 341 = .ok (.iload_n 3, 1) := by decide +kernel
theorem dlaw_342 : decode code 342 = .ok (.iconst 1, 1) := by decide +kernel
theorem dlaw_343 : decode code 343 = .ok (.iadd, 1) := by decide +kernel
theorem dlaw_344 : decode code 344 = .ok (.iaload, 1) := by decide +kernel
theorem dlaw_345 : decode code 345 = .ok (.aload_n 0, 1) := by decide +kernel
theorem dlaw_346 : decode code 346 = .ok (.iload_n 3, 1) := by decide +kernel
theorem dlaw_347 : decode code 347 = .ok (.iconst 2, 1) := by decide +kernel
theorem dlaw_348 : decode code 348 = .ok (.iadd, 1) := by decide +kernel
theorem dlaw_349 : decode code 349 = .ok (.iaload, 1) := by decide +kernel
theorem dlaw_350 : decode code 350 = .ok (.aload_n 0, 1) := by decide +kernel
theorem dlaw_351 : decode code 351 = .ok (.iload_n 3, 1) := by decide +kernel
theorem dlaw_352 : decode code 352 = .ok (.iconst 3, 1) := by decide +kernel
theorem dlaw_353 : decode code 353 = .ok (.iadd, 1) := by decide +kernel
theorem dlaw_354 : decode code 354 = .ok (.iaload, 1) := by decide +kernel
theorem dlaw_355 : decode code 355 = .ok (.invokevirtual 39, 3) := by decide +kernel
theorem dlaw_358 : decode code 358 = .ok (.aload_n 2, 1) := by decide +kernel
theorem dlaw_359 : decode code 359 = .ok (.aload_n 0, 1) := by decide +kernel
theorem dlaw_360 : decode code 360 = .ok (.iload_n 3, 1) := by decide +kernel
theorem dlaw_361 : decode code 361 = .ok (.iconst 1, 1) := by decide +kernel
theorem dlaw_362 : decode code 362 = .ok (.iadd, 1) := by decide +kernel
theorem dlaw_363 : decode code 363 = .ok (.iaload, 1) := by decide +kernel
theorem dlaw_364 : decode code 364 = .ok (.aload_n 0, 1) := by decide +kernel
theorem dlaw_365 : decode code 365 = .ok (.iload_n 3, 1) := by decide +kernel
theorem dlaw_366 : decode code 366 = .ok (.iconst 2, 1) := by decide +kernel
theorem dlaw_367 : decode code 367 = .ok (.iadd, 1) := by decide +kernel
theorem dlaw_368 : decode code 368 = .ok (.iaload, 1) := by decide +kernel
theorem dlaw_369 : decode code 369 = .ok (.aload_n 0, 1) := by decide +kernel
theorem dlaw_370 : decode code 370 = .ok (.iload_n 3, 1) := by decide +kernel
theorem dlaw_371 : decode code 371 = .ok (.iconst 3, 1) := by decide +kernel
theorem dlaw_372 : decode code 372 = .ok (.iadd, 1) := by decide +kernel
theorem dlaw_373 : decode code 373 = .ok (.iaload, 1) := by decide +kernel
theorem dlaw_374 : decode code 374 = .ok (.invokevirtual 43, 3) := by decide +kernel
theorem dlaw_377 : decode code 377 = .ok (.if_icmp .eq 140, 3) := by decide +kernel
theorem dlaw_382 : decode code 382 = .ok (.aload_n 1, 1) := by decide +kernel
theorem dlaw_383 : decode code 383 = .ok (.aload_n 0, 1) := by decide +kernel
theorem dlaw_384 : decode code 384 = .ok (.iload_n 3, 1) := by decide +kernel
theorem dlaw_385 : decode code 385 = .ok (.iconst 1, 1) := by decide +kernel
theorem dlaw_386 : decode code 386 = .ok (.iadd, 1) := by decide +kernel
theorem dlaw_387 : decode code 387 = .ok (.iaload, 1) := by decide +kernel
theorem dlaw_388 : decode code 388 = .ok (.invokevirtual 44, 3) := by decide +kernel
theorem dlaw_391 : decode code 391 = .ok (.aload_n 2, 1) := by decide +kernel
theorem dlaw_392 : decode code 392 = .ok (.aload_n 0, 1) := by decide +kernel
theorem dlaw_393 : decode code 393 = .ok (.iload_n 3, 1) := by decide +kernel
theorem dlaw_394 : decode code 394 = .ok (.iconst 1, 1) := by decide +kernel
theorem dlaw_395 : decode code 395 = .ok (.iadd, 1) := by decide +kernel
theorem dlaw_396 : decode code 396 = .ok (.iaload, 1) := by decide +kernel
theorem dlaw_397 : decode code 397 = .ok (.invokevirtual 47, 3) := by decide +kernel
theorem dlaw_400 : decode code 400 = .ok (.if_icmp .eq 117, 3) := by decide +kernel
theorem dlaw_405 : decode code 405 = .ok (.aload_n 1, 1) := by decide +kernel
theorem dlaw_406 : decode code 406 = .ok (.aload_n 0, 1) := by decide +kernel
theorem dlaw_407 : decode code 407 = .ok (.iload_n 3, 1) := by decide +kernel
theorem dlaw_408 : decode code 408 = .ok (.iconst 1, 1) := by decide +kernel
theorem dlaw_409 : decode code 409 = .ok (.iadd, 1) := by decide +kernel
theorem dlaw_410 : decode code 410 = .ok (.iaload, 1) := by decide +kernel
theorem dlaw_411 : decode code 411 = .ok (.aload_n 0, 1) := by decide +kernel
theorem dlaw_412 : decode code 412 = .ok (.iload_n 3, 1) := by decide +kernel
theorem dlaw_413 : decode code 413 = .ok (.iconst 2, 1) := by decide +kernel
theorem dlaw_414 : decode code 414 = .ok (.iadd, 1) := by decide +kernel
theorem dlaw_415 : decode code 415 = .ok (.iaload, 1) := by decide +kernel
theorem dlaw_416 : decode code 416 = .ok (.invokevirtual 48, 3) := by decide +kernel
theorem dlaw_419 : decode code 419 = .ok (.aload_n 2, 1) := by decide +kernel
theorem dlaw_420 : decode code 420 = .ok (.aload_n 0, 1) := by decide +kernel
theorem dlaw_421 : decode code 421 = .ok (.iload_n 3, 1) := by decide +kernel
theorem dlaw_422 : decode code 422 = .ok (.iconst 1, 1) := by decide +kernel
theorem dlaw_423 : decode code 423 = .ok (.iadd, 1) := by decide +kernel
theorem dlaw_424 : decode code 424 = .ok (.iaload, 1) := by decide +kernel
theorem dlaw_425 : decode code 425 = .ok (.aload_n 0, 1) := by decide +kernel
theorem dlaw_426 : decode code 426 = .ok (.iload_n 3, 1) := by decide +kernel
theorem dlaw_427 : decode code 427 = .ok (.iconst 2, 1) := by decide +kernel
theorem dlaw_428 : decode code 428 = .ok (.iadd, 1) := by decide +kernel
theorem dlaw_429 : decode code 429 = .ok (.iaload, 1) := by decide +kernel
theorem dlaw_430 : decode code 430 = .ok (.invokevirtual 52, 3) := by decide +kernel
theorem dlaw_433 : decode code 433 = .ok (.if_icmp .eq 84, 3) := by decide +kernel
theorem dlaw_438 : decode code 438 = .ok (.aload_n 1, 1) := by decide +kernel
theorem dlaw_439 : decode code 439 = .ok (.aload_n 0, 1) := by decide +kernel
theorem dlaw_440 : decode code 440 = .ok (.iload_n 3, 1) := by decide +kernel
theorem dlaw_441 : decode code 441 = .ok (.iconst 1, 1) := by decide +kernel
theorem dlaw_442 : decode code 442 = .ok (.iadd, 1) := by decide +kernel
theorem dlaw_443 : decode code 443 = .ok (.iaload, 1) := by decide +kernel
theorem dlaw_444 : decode code 444 = .ok (.invokevirtual 53, 3) := by decide +kernel
theorem dlaw_447 : decode code 447 = .ok (.aload_n 2, 1) := by decide +kernel
theorem dlaw_448 : decode code 448 = .ok (.aload_n 0, 1) := by decide +kernel
theorem dlaw_449 : decode code 449 = .ok (.iload_n 3, 1) := by decide +kernel
theorem dlaw_450 : decode code 450 = .ok (.iconst 1, 1) := by decide +kernel
theorem dlaw_451 : decode code 451 = .ok (.iadd, 1) := by decide +kernel
theorem dlaw_452 : decode code 452 = .ok (.iaload, 1) := by decide +kernel
theorem dlaw_453 : decode code 453 = .ok (.invokevirtual 56, 3) := by decide +kernel
theorem dlaw_456 : decode code 456 = .ok (.if_icmp .eq 61, 3) := by decide +kernel
theorem dlaw_461 : decode code 461 = .ok (.aload_n 1, 1) := by decide +kernel
theorem dlaw_462 : decode code 462 = .ok (.aload_n 0, 1) := by decide +kernel
theorem dlaw_463 : decode code 463 = .ok (.iload_n 3, 1) := by decide +kernel
theorem dlaw_464 : decode code 464 = .ok (.iconst 1, 1) := by decide +kernel
theorem dlaw_465 : decode code 465 = .ok (.iadd, 1) := by decide +kernel
theorem dlaw_466 : decode code 466 = .ok (.iaload, 1) := by decide +kernel
theorem dlaw_467 : decode code 467 = .ok (.invokevirtual 57, 3) := by decide +kernel
theorem dlaw_470 : decode code 470 = .ok (.aload_n 2, 1) := by decide +kernel
theorem dlaw_471 : decode code 471 = .ok (.aload_n 0, 1) := by decide +kernel
theorem dlaw_472 : decode code 472 = .ok (.iload_n 3, 1) := by decide +kernel
theorem dlaw_473 : decode code 473 = .ok (.iconst 1, 1) := by decide +kernel
theorem dlaw_474 : decode code 474 = .ok (.iadd, 1) := by decide +kernel
theorem dlaw_475 : decode code 475 = .ok (.iaload, 1) := by decide +kernel
theorem dlaw_476 : decode code 476 = .ok (.invokevirtual 60, 3) := by decide +kernel
theorem dlaw_479 : decode code 479 = .ok (.if_icmp .eq 38, 3) := by decide +kernel
theorem dlaw_484 : decode code 484 = .ok (.aload_n 1, 1) := by decide +kernel
theorem dlaw_485 : decode code 485 = .ok (.aload_n 0, 1) := by decide +kernel
theorem dlaw_486 : decode code 486 = .ok (.iload_n 3, 1) := by decide +kernel
theorem dlaw_487 : decode code 487 = .ok (.iconst 1, 1) := by decide +kernel
theorem dlaw_488 : decode code 488 = .ok (.iadd, 1) := by decide +kernel
theorem dlaw_489 : decode code 489 = .ok (.iaload, 1) := by decide +kernel
theorem dlaw_490 : decode code 490 = .ok (.aload_n 0, 1) := by decide +kernel
theorem dlaw_491 : decode code 491 = .ok (.iload_n 3, 1) := by decide +kernel
theorem dlaw_492 : decode code 492 = .ok (.iconst 2, 1) := by decide +kernel
theorem dlaw_493 : decode code 493 = .ok (.iadd, 1) := by decide +kernel
theorem dlaw_494 : decode code 494 = .ok (.iaload, 1) := by decide +kernel
theorem dlaw_495 : decode code 495 = .ok (.invokevirtual 61, 3) := by decide +kernel
theorem dlaw_498 : decode code 498 = .ok (.aload_n 2, 1) := by decide +kernel
theorem dlaw_499 : decode code 499 = .ok (.aload_n 0, 1) := by decide +kernel
theorem dlaw_500 : decode code 500 = .ok (.iload_n 3, 1) := by decide +kernel
theorem dlaw_501 : decode code 501 = .ok (.iconst 1, 1) := by decide +kernel
theorem dlaw_502 : decode code 502 = .ok (.iadd, 1) := by decide +kernel
theorem dlaw_503 : decode code 503 = .ok (.iaload, 1) := by decide +kernel
theorem dlaw_504 : decode code 504 = .ok (.aload_n 0, 1) := by decide +kernel
theorem dlaw_505 : decode code 505 = .ok (.iload_n 3, 1) := by decide +kernel
theorem dlaw_506 : decode code 506 = .ok (.iconst 2, 1) := by decide +kernel
theorem dlaw_507 : decode code 507 = .ok (.iadd, 1) := by decide +kernel
theorem dlaw_508 : decode code 508 = .ok (.iaload, 1) := by decide +kernel
theorem dlaw_509 : decode code 509 = .ok (.invokevirtual 64, 3) := by decide +kernel
theorem dlaw_512 : decode code 512 = .ok (.if_icmp .eq 5, 3) := by decide +kernel
theorem dlaw_517 : decode code 517 = .ok (.iinc 3 5, 3) := by decide +kernel
theorem dlaw_520 : decode code 520 = .ok (.goto (-502), 3) := by decide +kernel
theorem dlaw_523 : decode code 523 = .ok (.iconst 1, 1) := by decide +kernel
theorem dlaw_524 : decode code 524 = .ok (.ireturn, 1) := by decide +kernel
def f_law_b517 (S : hE) (g : Nat → Nat) (N : Nat) (fol : Nat → Option Nat → Option Nat → Int32 → hE → Option (Int32 × hE)) (bq : Nat → Nat → Nat) (b L : Nat) (xs : Nat → Int32) (k18 : Option Nat → Option Nat → Option Nat → Int32 → hE → Nat → Option (Unit)) (y0 : Option Nat) (y1 : Option Nat) (y2 : Option Nat) (y3 : Int32) (E : hE) (nx : Nat) : Option (Unit) := (
  k18 y0 y1 y2 (y3 + 5) E nx)
set_option maxHeartbeats 4000000 in
set_option maxRecDepth 100000 in
theorem b_law_517 {p : Program} {l : Launch} {e : Env} {s : State} {m : MethodId} {below : List Frame} {meth : Method} {c : Code} {D : va_G} {kA : Nat → ClassId} {S : hE} {g : Nat → Nat} {n0 : Nat} {N : Nat} {bq : Nat → Nat → Nat} {b L : Nat} {xs : Nat → Int32} {fol : Nat → Option Nat → Option Nat → Int32 → hE → Option (Int32 × hE)} {res : Unit} (C : hX p s m #[Value.ref b] c code 4 R_law lw_ts D kA S g n0) (hr : meth.sig.returnType = ret) (hlk : meth.locks = false) (hnm : n0 = s.heap.size ∧ va_X b L xs s s.heap ∧ b < s.heap.size) (hfol : ∀ {nx x0 : Nat} {x1 x2 : Option Nat} {x3 : Int32} {E : hE} {res : Int32 × hE}, fol x0 x1 x2 x3 E = some res → Met l y_Mach_follow ws_Mach_follow { frames := 16, cells := 0, slots := 0, locals := 444 } (va_Pc [va_rf (some x0), va_rf x1, va_rf x2, .int x3] (hJ D kA S g n0 (E, nx))) (va_Qi (fun r w => r = res.1 ∧ w = (res.2, nx)) (hJ D kA S g n0) (fun q => n0 ≤ q)) 0 0 (fun q => n0 ≤ q)) {n18 : Nat} (k18 : Option Nat → Option Nat → Option Nat → Int32 → hE → Nat → Option (Unit)) (hk18 : ∀ (y0 : Option Nat) (y1 : Option Nat) (y2 : Option Nat) (y3 : Int32) (E : hE) (nx : Nat) (H : Heap) (locs : List Loc) (ls : Array Slot) (cells slots : Nat), hY D kA n0 s E nx H locs → lv_has ls 4 [(0, va_rf y0), (1, va_rf y1), (2, va_rf y2), (3, .int y3)] → cells + (n18 * 807 + 0) ≤ 600000 → slots + (n18 * 5000 + 0) ≤ 7302250 → k18 y0 y1 y2 y3 E nx = some res → W p l e room_1 s m #[Value.ref b] below meth c H locs cells slots (lw_Z below #[Value.ref b] s) (F0 m 18 ls [])) : ∀ (y0 : Option Nat) (y1 : Option Nat) (y2 : Option Nat) (y3 : Int32) (E : hE) (nx : Nat) (H : Heap) (locs : List Loc) (ls : Array Slot) (cells slots : Nat), hY D kA n0 s E nx H locs → lv_has ls 4 [(0, va_rf y0), (1, va_rf y1), (2, va_rf y2), (3, .int y3)] → cells + (0 + (n18 * 807 + 0)) ≤ 600000 → slots + (0 + (n18 * 5000 + 0)) ≤ 7302250 → f_law_b517 S g N fol bq b L xs k18 y0 y1 y2 y3 E nx = some res → W p l e room_1 s m #[Value.ref b] below meth c H locs cells slots (lw_Z below #[Value.ref b] s) (F0 m 517 ls []) := by
  intro y0 y1 y2 y3 E nx H locs ls cells slots M hl hcb hsb hf
  unfold f_law_b517 at hf
  refine lv_iinc (v := y3 + 5) (lv' := [(3, .int (y3 + 5)), (0, va_rf y0), (1, va_rf y1), (2, va_rf y2)]) C.x C.b dlaw_517 hl (k := 3) rfl rfl (by decide) (by simp only [List.filter, va_rf_cat] <;> rfl) (fun ls hl => ?_)
  refine lv_goto (tgt := 18) C.x C.b dlaw_520 (by decide) ?_
  exact hk18 _ _ _ _ _ _ _ _ _ _ _ M (lv_sub hl [1, 2, 3, 0] rfl) (by omega) (by omega) hf
def f_law_b331 (S : hE) (g : Nat → Nat) (N : Nat) (fol : Nat → Option Nat → Option Nat → Int32 → hE → Option (Int32 × hE)) (bq : Nat → Nat → Nat) (b L : Nat) (xs : Nat → Int32) (k18 : Option Nat → Option Nat → Option Nat → Int32 → hE → Nat → Option (Unit)) (y0 : Option Nat) (y1 : Option Nat) (y2 : Option Nat) (y3 : Int32) (t0 : Int32) (t1 : Option Nat) (t2 : Int32) (t3 : Int32) (E : hE) (nx : Nat) : Option (Unit) := (
  (gO E t1 7).bind fun o331 =>
  (f_M_plant o331.1 t2 t3 E).bind fun v331 =>
  if t0 = v331.1 then (
  f_law_b517 S g N fol bq b L xs k18 y0 y1 y2 y3 v331.2 nx
  ) else (
  none
  ))
set_option maxHeartbeats 4000000 in
set_option maxRecDepth 100000 in
theorem b_law_331 {p : Program} {l : Launch} {e : Env} {s : State} {m : MethodId} {below : List Frame} {meth : Method} {c : Code} {D : va_G} {kA : Nat → ClassId} {S : hE} {g : Nat → Nat} {n0 : Nat} {N : Nat} {bq : Nat → Nat → Nat} {b L : Nat} {xs : Nat → Int32} {fol : Nat → Option Nat → Option Nat → Int32 → hE → Option (Int32 × hE)} {res : Unit} (C : hX p s m #[Value.ref b] c code 4 R_law lw_ts D kA S g n0) (hr : meth.sig.returnType = ret) (hlk : meth.locks = false) (hnm : n0 = s.heap.size ∧ va_X b L xs s s.heap ∧ b < s.heap.size) (hfol : ∀ {nx x0 : Nat} {x1 x2 : Option Nat} {x3 : Int32} {E : hE} {res : Int32 × hE}, fol x0 x1 x2 x3 E = some res → Met l y_Mach_follow ws_Mach_follow { frames := 16, cells := 0, slots := 0, locals := 444 } (va_Pc [va_rf (some x0), va_rf x1, va_rf x2, .int x3] (hJ D kA S g n0 (E, nx))) (va_Qi (fun r w => r = res.1 ∧ w = (res.2, nx)) (hJ D kA S g n0) (fun q => n0 ≤ q)) 0 0 (fun q => n0 ≤ q)) {n18 : Nat} (k18 : Option Nat → Option Nat → Option Nat → Int32 → hE → Nat → Option (Unit)) (hk18 : ∀ (y0 : Option Nat) (y1 : Option Nat) (y2 : Option Nat) (y3 : Int32) (E : hE) (nx : Nat) (H : Heap) (locs : List Loc) (ls : Array Slot) (cells slots : Nat), hY D kA n0 s E nx H locs → lv_has ls 4 [(0, va_rf y0), (1, va_rf y1), (2, va_rf y2), (3, .int y3)] → cells + (n18 * 807 + 0) ≤ 600000 → slots + (n18 * 5000 + 0) ≤ 7302250 → k18 y0 y1 y2 y3 E nx = some res → W p l e room_1 s m #[Value.ref b] below meth c H locs cells slots (lw_Z below #[Value.ref b] s) (F0 m 18 ls [])) : ∀ (y0 : Option Nat) (y1 : Option Nat) (y2 : Option Nat) (y3 : Int32) (t0 : Int32) (t1 : Option Nat) (t2 : Int32) (t3 : Int32) (E : hE) (nx : Nat) (H : Heap) (locs : List Loc) (ls : Array Slot) (cells slots : Nat), hY D kA n0 s E nx H locs → lv_has ls 4 [(0, va_rf y0), (1, va_rf y1), (2, va_rf y2), (3, .int y3)] → cells + (0 + (n18 * 807 + 0)) ≤ 600000 → slots + (0 + (n18 * 5000 + 0)) ≤ 7302250 → f_law_b331 S g N fol bq b L xs k18 y0 y1 y2 y3 t0 t1 t2 t3 E nx = some res → W p l e room_1 s m #[Value.ref b] below meth c H locs cells slots (lw_Z below #[Value.ref b] s) (F0 m 331 ls [.int t3, .int t2, va_rf t1, .int t0]) := by
  intro y0 y1 y2 y3 t0 t1 t2 t3 E nx H locs ls cells slots M hl hcb hsb hf
  unfold f_law_b331 at hf
  obtain ⟨o331, g331, hf⟩ := Option.bind_eq_some_iff.mp hf
  obtain ⟨v331, h331, hf⟩ := Option.bind_eq_some_iff.mp hf
  refine w_ci M (w_runV C M g331 rfl (c_M_plant h331) (cwV 2 C.ts (hgV wm_937 wm_938 wm_939 wm_6 wm_940) rfl rfl rfl (by decide +kernel) ⟨Nat.le_of_ble_eq_true rfl, Nat.le_of_ble_eq_true rfl⟩) rfl hl.1 rfl (by simp [va_rf_cat, cat_i, cat_l, cat_n]) dlaw_331 ⟨by show _ ≤ 600000; omega, by show _ ≤ 7302250; omega⟩) (fun H locs M => ?_)
  refine lv_icmp_eq (tgt := 517) C.x C.b dlaw_334 (by decide) (fun c334 => ?_) (fun c334 => ?_)
  · rw [if_pos c334] at hf
    exact b_law_517 C hr hlk hnm hfol k18 hk18 _ _ _ _ _ _ _ _ _ _ _ M (lv_sub hl [0, 1, 2, 3] rfl) (by omega) (by omega) hf
  · rw [if_neg c334] at hf
    cases hf
def f_law_b309 (S : hE) (g : Nat → Nat) (N : Nat) (fol : Nat → Option Nat → Option Nat → Int32 → hE → Option (Int32 × hE)) (bq : Nat → Nat → Nat) (b L : Nat) (xs : Nat → Int32) (k18 : Option Nat → Option Nat → Option Nat → Int32 → hE → Nat → Option (Unit)) (y0 : Option Nat) (y1 : Option Nat) (y2 : Option Nat) (y3 : Int32) (t0 : Option Nat) (t1 : Int32) (t2 : Int32) (E : hE) (nx : Nat) : Option (Unit) := (
  (gO E t0 6).bind fun o309 =>
  (f_S_plant o309.1 t1 t2 E).bind fun v309 =>
  (xA b L xs y0 (y3 + 1)).bind fun v317 =>
  (xA b L xs y0 (y3 + 2)).bind fun v322 =>
  if v322 = 0 then (
  f_law_b331 S g N fol bq b L xs k18 y0 y1 y2 y3 v309.1 y2 v317 0 v309.2 nx
  ) else (
  f_law_b331 S g N fol bq b L xs k18 y0 y1 y2 y3 v309.1 y2 v317 1 v309.2 nx
  ))
set_option maxHeartbeats 4000000 in
set_option maxRecDepth 100000 in
theorem b_law_309 {p : Program} {l : Launch} {e : Env} {s : State} {m : MethodId} {below : List Frame} {meth : Method} {c : Code} {D : va_G} {kA : Nat → ClassId} {S : hE} {g : Nat → Nat} {n0 : Nat} {N : Nat} {bq : Nat → Nat → Nat} {b L : Nat} {xs : Nat → Int32} {fol : Nat → Option Nat → Option Nat → Int32 → hE → Option (Int32 × hE)} {res : Unit} (C : hX p s m #[Value.ref b] c code 4 R_law lw_ts D kA S g n0) (hr : meth.sig.returnType = ret) (hlk : meth.locks = false) (hnm : n0 = s.heap.size ∧ va_X b L xs s s.heap ∧ b < s.heap.size) (hfol : ∀ {nx x0 : Nat} {x1 x2 : Option Nat} {x3 : Int32} {E : hE} {res : Int32 × hE}, fol x0 x1 x2 x3 E = some res → Met l y_Mach_follow ws_Mach_follow { frames := 16, cells := 0, slots := 0, locals := 444 } (va_Pc [va_rf (some x0), va_rf x1, va_rf x2, .int x3] (hJ D kA S g n0 (E, nx))) (va_Qi (fun r w => r = res.1 ∧ w = (res.2, nx)) (hJ D kA S g n0) (fun q => n0 ≤ q)) 0 0 (fun q => n0 ≤ q)) {n18 : Nat} (k18 : Option Nat → Option Nat → Option Nat → Int32 → hE → Nat → Option (Unit)) (hk18 : ∀ (y0 : Option Nat) (y1 : Option Nat) (y2 : Option Nat) (y3 : Int32) (E : hE) (nx : Nat) (H : Heap) (locs : List Loc) (ls : Array Slot) (cells slots : Nat), hY D kA n0 s E nx H locs → lv_has ls 4 [(0, va_rf y0), (1, va_rf y1), (2, va_rf y2), (3, .int y3)] → cells + (n18 * 807 + 0) ≤ 600000 → slots + (n18 * 5000 + 0) ≤ 7302250 → k18 y0 y1 y2 y3 E nx = some res → W p l e room_1 s m #[Value.ref b] below meth c H locs cells slots (lw_Z below #[Value.ref b] s) (F0 m 18 ls [])) : ∀ (y0 : Option Nat) (y1 : Option Nat) (y2 : Option Nat) (y3 : Int32) (t0 : Option Nat) (t1 : Int32) (t2 : Int32) (E : hE) (nx : Nat) (H : Heap) (locs : List Loc) (ls : Array Slot) (cells slots : Nat), hY D kA n0 s E nx H locs → lv_has ls 4 [(0, va_rf y0), (1, va_rf y1), (2, va_rf y2), (3, .int y3)] → cells + (0 + (n18 * 807 + 0)) ≤ 600000 → slots + (0 + (n18 * 5000 + 0)) ≤ 7302250 → f_law_b309 S g N fol bq b L xs k18 y0 y1 y2 y3 t0 t1 t2 E nx = some res → W p l e room_1 s m #[Value.ref b] below meth c H locs cells slots (lw_Z below #[Value.ref b] s) (F0 m 309 ls [.int t2, .int t1, va_rf t0]) := by
  intro y0 y1 y2 y3 t0 t1 t2 E nx H locs ls cells slots M hl hcb hsb hf
  unfold f_law_b309 at hf
  obtain ⟨o309, g309, hf⟩ := Option.bind_eq_some_iff.mp hf
  obtain ⟨v309, h309, hf⟩ := Option.bind_eq_some_iff.mp hf
  refine w_ci M (w_runV C M g309 rfl (c_S_plant h309) (cwV 2 C.ts (hgV wm_565 wm_566 wm_567 wm_1 wm_568) rfl rfl rfl (by decide +kernel) ⟨Nat.le_of_ble_eq_true rfl, Nat.le_of_ble_eq_true rfl⟩) rfl hl.1 rfl (Nat.zero_le _) dlaw_309 ⟨by show _ ≤ 600000; omega, by show _ ≤ 7302250; omega⟩) (fun H locs M => ?_)
  refine w_aload_n C.x C.b dlaw_312 rfl (lv_at hl 2 rfl) ?_
  refine w_aload_n C.x C.b dlaw_313 rfl (lv_at hl 0 rfl) ?_
  refine lv_iload_n C.x C.b dlaw_314 rfl (lv_at hl 3 rfl) ?_
  refine lv_iconst (v := 1) C.x C.b dlaw_315 (by decide) ?_
  refine lv_iadd C.x C.b dlaw_316 ?_
  obtain ⟨v317, h317, hf⟩ := Option.bind_eq_some_iff.mp hf
  refine w_sld C M hnm h317 dlaw_317 ?_
  refine w_aload_n C.x C.b dlaw_318 rfl (lv_at hl 0 rfl) ?_
  refine lv_iload_n C.x C.b dlaw_319 rfl (lv_at hl 3 rfl) ?_
  refine lv_iconst (v := 2) C.x C.b dlaw_320 (by decide) ?_
  refine lv_iadd C.x C.b dlaw_321 ?_
  obtain ⟨v322, h322, hf⟩ := Option.bind_eq_some_iff.mp hf
  refine w_sld C M hnm h322 dlaw_322 ?_
  refine lv_if_eq (tgt := 330) C.x C.b dlaw_323 (by decide) (fun c323 => ?_) (fun c323 => ?_)
  · rw [if_pos c323] at hf
    refine lv_iconst (v := 0) C.x C.b dlaw_330 (by decide) ?_
    exact b_law_331 C hr hlk hnm hfol k18 hk18 _ _ _ _ _ _ _ _ _ _ _ _ _ _ _ M (lv_sub hl [0, 1, 2, 3] rfl) (by omega) (by omega) hf
  · rw [if_neg c323] at hf
    refine lv_iconst (v := 1) C.x C.b dlaw_326 (by decide) ?_
    refine lv_goto (tgt := 331) C.x C.b dlaw_327 (by decide) ?_
    exact b_law_331 C hr hlk hnm hfol k18 hk18 _ _ _ _ _ _ _ _ _ _ _ _ _ _ _ M (lv_sub hl [0, 1, 2, 3] rfl) (by omega) (by omega) hf
def f_law_b282 (S : hE) (g : Nat → Nat) (N : Nat) (fol : Nat → Option Nat → Option Nat → Int32 → hE → Option (Int32 × hE)) (bq : Nat → Nat → Nat) (b L : Nat) (xs : Nat → Int32) (k18 : Option Nat → Option Nat → Option Nat → Int32 → hE → Nat → Option (Unit)) (y0 : Option Nat) (y1 : Option Nat) (y2 : Option Nat) (y3 : Int32) (t0 : Int32) (t1 : Option Nat) (t2 : Int32) (t3 : Int32) (E : hE) (nx : Nat) : Option (Unit) := (
  (gO E t1 7).bind fun o282 =>
  (f_M_clear o282.1 t2 t3 E).bind fun v282 =>
  if t0 = v282.1 then (
  f_law_b517 S g N fol bq b L xs k18 y0 y1 y2 y3 v282.2 nx
  ) else (
  none
  ))
set_option maxHeartbeats 4000000 in
set_option maxRecDepth 100000 in
theorem b_law_282 {p : Program} {l : Launch} {e : Env} {s : State} {m : MethodId} {below : List Frame} {meth : Method} {c : Code} {D : va_G} {kA : Nat → ClassId} {S : hE} {g : Nat → Nat} {n0 : Nat} {N : Nat} {bq : Nat → Nat → Nat} {b L : Nat} {xs : Nat → Int32} {fol : Nat → Option Nat → Option Nat → Int32 → hE → Option (Int32 × hE)} {res : Unit} (C : hX p s m #[Value.ref b] c code 4 R_law lw_ts D kA S g n0) (hr : meth.sig.returnType = ret) (hlk : meth.locks = false) (hnm : n0 = s.heap.size ∧ va_X b L xs s s.heap ∧ b < s.heap.size) (hfol : ∀ {nx x0 : Nat} {x1 x2 : Option Nat} {x3 : Int32} {E : hE} {res : Int32 × hE}, fol x0 x1 x2 x3 E = some res → Met l y_Mach_follow ws_Mach_follow { frames := 16, cells := 0, slots := 0, locals := 444 } (va_Pc [va_rf (some x0), va_rf x1, va_rf x2, .int x3] (hJ D kA S g n0 (E, nx))) (va_Qi (fun r w => r = res.1 ∧ w = (res.2, nx)) (hJ D kA S g n0) (fun q => n0 ≤ q)) 0 0 (fun q => n0 ≤ q)) {n18 : Nat} (k18 : Option Nat → Option Nat → Option Nat → Int32 → hE → Nat → Option (Unit)) (hk18 : ∀ (y0 : Option Nat) (y1 : Option Nat) (y2 : Option Nat) (y3 : Int32) (E : hE) (nx : Nat) (H : Heap) (locs : List Loc) (ls : Array Slot) (cells slots : Nat), hY D kA n0 s E nx H locs → lv_has ls 4 [(0, va_rf y0), (1, va_rf y1), (2, va_rf y2), (3, .int y3)] → cells + (n18 * 807 + 0) ≤ 600000 → slots + (n18 * 5000 + 0) ≤ 7302250 → k18 y0 y1 y2 y3 E nx = some res → W p l e room_1 s m #[Value.ref b] below meth c H locs cells slots (lw_Z below #[Value.ref b] s) (F0 m 18 ls [])) : ∀ (y0 : Option Nat) (y1 : Option Nat) (y2 : Option Nat) (y3 : Int32) (t0 : Int32) (t1 : Option Nat) (t2 : Int32) (t3 : Int32) (E : hE) (nx : Nat) (H : Heap) (locs : List Loc) (ls : Array Slot) (cells slots : Nat), hY D kA n0 s E nx H locs → lv_has ls 4 [(0, va_rf y0), (1, va_rf y1), (2, va_rf y2), (3, .int y3)] → cells + (0 + (n18 * 807 + 0)) ≤ 600000 → slots + (0 + (n18 * 5000 + 0)) ≤ 7302250 → f_law_b282 S g N fol bq b L xs k18 y0 y1 y2 y3 t0 t1 t2 t3 E nx = some res → W p l e room_1 s m #[Value.ref b] below meth c H locs cells slots (lw_Z below #[Value.ref b] s) (F0 m 282 ls [.int t3, .int t2, va_rf t1, .int t0]) := by
  intro y0 y1 y2 y3 t0 t1 t2 t3 E nx H locs ls cells slots M hl hcb hsb hf
  unfold f_law_b282 at hf
  obtain ⟨o282, g282, hf⟩ := Option.bind_eq_some_iff.mp hf
  obtain ⟨v282, h282, hf⟩ := Option.bind_eq_some_iff.mp hf
  refine w_ci M (w_runV C M g282 rfl (c_M_clear h282) (cwV 2 C.ts (hgV wm_933 wm_934 wm_935 wm_6 wm_936) rfl rfl rfl (by decide +kernel) ⟨Nat.le_of_ble_eq_true rfl, Nat.le_of_ble_eq_true rfl⟩) rfl hl.1 rfl (by simp [va_rf_cat, cat_i, cat_l, cat_n]) dlaw_282 ⟨by show _ ≤ 600000; omega, by show _ ≤ 7302250; omega⟩) (fun H locs M => ?_)
  refine lv_icmp_eq (tgt := 517) C.x C.b dlaw_285 (by decide) (fun c285 => ?_) (fun c285 => ?_)
  · rw [if_pos c285] at hf
    exact b_law_517 C hr hlk hnm hfol k18 hk18 _ _ _ _ _ _ _ _ _ _ _ M (lv_sub hl [0, 1, 2, 3] rfl) (by omega) (by omega) hf
  · rw [if_neg c285] at hf
    cases hf
def f_law_b260 (S : hE) (g : Nat → Nat) (N : Nat) (fol : Nat → Option Nat → Option Nat → Int32 → hE → Option (Int32 × hE)) (bq : Nat → Nat → Nat) (b L : Nat) (xs : Nat → Int32) (k18 : Option Nat → Option Nat → Option Nat → Int32 → hE → Nat → Option (Unit)) (y0 : Option Nat) (y1 : Option Nat) (y2 : Option Nat) (y3 : Int32) (t0 : Option Nat) (t1 : Int32) (t2 : Int32) (E : hE) (nx : Nat) : Option (Unit) := (
  (gO E t0 6).bind fun o260 =>
  (f_S_clear o260.1 t1 t2 E).bind fun v260 =>
  (xA b L xs y0 (y3 + 1)).bind fun v268 =>
  (xA b L xs y0 (y3 + 2)).bind fun v273 =>
  if v273 = 0 then (
  f_law_b282 S g N fol bq b L xs k18 y0 y1 y2 y3 v260.1 y2 v268 0 v260.2 nx
  ) else (
  f_law_b282 S g N fol bq b L xs k18 y0 y1 y2 y3 v260.1 y2 v268 1 v260.2 nx
  ))
set_option maxHeartbeats 4000000 in
set_option maxRecDepth 100000 in
theorem b_law_260 {p : Program} {l : Launch} {e : Env} {s : State} {m : MethodId} {below : List Frame} {meth : Method} {c : Code} {D : va_G} {kA : Nat → ClassId} {S : hE} {g : Nat → Nat} {n0 : Nat} {N : Nat} {bq : Nat → Nat → Nat} {b L : Nat} {xs : Nat → Int32} {fol : Nat → Option Nat → Option Nat → Int32 → hE → Option (Int32 × hE)} {res : Unit} (C : hX p s m #[Value.ref b] c code 4 R_law lw_ts D kA S g n0) (hr : meth.sig.returnType = ret) (hlk : meth.locks = false) (hnm : n0 = s.heap.size ∧ va_X b L xs s s.heap ∧ b < s.heap.size) (hfol : ∀ {nx x0 : Nat} {x1 x2 : Option Nat} {x3 : Int32} {E : hE} {res : Int32 × hE}, fol x0 x1 x2 x3 E = some res → Met l y_Mach_follow ws_Mach_follow { frames := 16, cells := 0, slots := 0, locals := 444 } (va_Pc [va_rf (some x0), va_rf x1, va_rf x2, .int x3] (hJ D kA S g n0 (E, nx))) (va_Qi (fun r w => r = res.1 ∧ w = (res.2, nx)) (hJ D kA S g n0) (fun q => n0 ≤ q)) 0 0 (fun q => n0 ≤ q)) {n18 : Nat} (k18 : Option Nat → Option Nat → Option Nat → Int32 → hE → Nat → Option (Unit)) (hk18 : ∀ (y0 : Option Nat) (y1 : Option Nat) (y2 : Option Nat) (y3 : Int32) (E : hE) (nx : Nat) (H : Heap) (locs : List Loc) (ls : Array Slot) (cells slots : Nat), hY D kA n0 s E nx H locs → lv_has ls 4 [(0, va_rf y0), (1, va_rf y1), (2, va_rf y2), (3, .int y3)] → cells + (n18 * 807 + 0) ≤ 600000 → slots + (n18 * 5000 + 0) ≤ 7302250 → k18 y0 y1 y2 y3 E nx = some res → W p l e room_1 s m #[Value.ref b] below meth c H locs cells slots (lw_Z below #[Value.ref b] s) (F0 m 18 ls [])) : ∀ (y0 : Option Nat) (y1 : Option Nat) (y2 : Option Nat) (y3 : Int32) (t0 : Option Nat) (t1 : Int32) (t2 : Int32) (E : hE) (nx : Nat) (H : Heap) (locs : List Loc) (ls : Array Slot) (cells slots : Nat), hY D kA n0 s E nx H locs → lv_has ls 4 [(0, va_rf y0), (1, va_rf y1), (2, va_rf y2), (3, .int y3)] → cells + (0 + (n18 * 807 + 0)) ≤ 600000 → slots + (0 + (n18 * 5000 + 0)) ≤ 7302250 → f_law_b260 S g N fol bq b L xs k18 y0 y1 y2 y3 t0 t1 t2 E nx = some res → W p l e room_1 s m #[Value.ref b] below meth c H locs cells slots (lw_Z below #[Value.ref b] s) (F0 m 260 ls [.int t2, .int t1, va_rf t0]) := by
  intro y0 y1 y2 y3 t0 t1 t2 E nx H locs ls cells slots M hl hcb hsb hf
  unfold f_law_b260 at hf
  obtain ⟨o260, g260, hf⟩ := Option.bind_eq_some_iff.mp hf
  obtain ⟨v260, h260, hf⟩ := Option.bind_eq_some_iff.mp hf
  refine w_ci M (w_runV C M g260 rfl (c_S_clear h260) (cwV 2 C.ts (hgV wm_557 wm_558 wm_559 wm_1 wm_560) rfl rfl rfl (by decide +kernel) ⟨Nat.le_of_ble_eq_true rfl, Nat.le_of_ble_eq_true rfl⟩) rfl hl.1 rfl (Nat.zero_le _) dlaw_260 ⟨by show _ ≤ 600000; omega, by show _ ≤ 7302250; omega⟩) (fun H locs M => ?_)
  refine w_aload_n C.x C.b dlaw_263 rfl (lv_at hl 2 rfl) ?_
  refine w_aload_n C.x C.b dlaw_264 rfl (lv_at hl 0 rfl) ?_
  refine lv_iload_n C.x C.b dlaw_265 rfl (lv_at hl 3 rfl) ?_
  refine lv_iconst (v := 1) C.x C.b dlaw_266 (by decide) ?_
  refine lv_iadd C.x C.b dlaw_267 ?_
  obtain ⟨v268, h268, hf⟩ := Option.bind_eq_some_iff.mp hf
  refine w_sld C M hnm h268 dlaw_268 ?_
  refine w_aload_n C.x C.b dlaw_269 rfl (lv_at hl 0 rfl) ?_
  refine lv_iload_n C.x C.b dlaw_270 rfl (lv_at hl 3 rfl) ?_
  refine lv_iconst (v := 2) C.x C.b dlaw_271 (by decide) ?_
  refine lv_iadd C.x C.b dlaw_272 ?_
  obtain ⟨v273, h273, hf⟩ := Option.bind_eq_some_iff.mp hf
  refine w_sld C M hnm h273 dlaw_273 ?_
  refine lv_if_eq (tgt := 281) C.x C.b dlaw_274 (by decide) (fun c274 => ?_) (fun c274 => ?_)
  · rw [if_pos c274] at hf
    refine lv_iconst (v := 0) C.x C.b dlaw_281 (by decide) ?_
    exact b_law_282 C hr hlk hnm hfol k18 hk18 _ _ _ _ _ _ _ _ _ _ _ _ _ _ _ M (lv_sub hl [0, 1, 2, 3] rfl) (by omega) (by omega) hf
  · rw [if_neg c274] at hf
    refine lv_iconst (v := 1) C.x C.b dlaw_277 (by decide) ?_
    refine lv_goto (tgt := 282) C.x C.b dlaw_278 (by decide) ?_
    exact b_law_282 C hr hlk hnm hfol k18 hk18 _ _ _ _ _ _ _ _ _ _ _ _ _ _ _ M (lv_sub hl [0, 1, 2, 3] rfl) (by omega) (by omega) hf
def f_law_b18 (S : hE) (g : Nat → Nat) (N : Nat) (fol : Nat → Option Nat → Option Nat → Int32 → hE → Option (Int32 × hE)) (bq : Nat → Nat → Nat) (b L : Nat) (xs : Nat → Int32) : Nat → Option Nat → Option Nat → Option Nat → Int32 → hE → Nat → Option (Unit)
  | 0, _, _, _, _, _, _ => none
  | n + 1, y0, y1, y2, y3, E, nx => (
  (xL b L y0).bind fun v20 =>
  if (v20 - 5) < y3 then (
  some ()
  ) else (
  (xA b L xs y0 y3).bind fun v28 =>
  if (v28 &&& 15) = 0 then (
  (xA b L xs y0 (y3 + 1)).bind fun v97 =>
  (xA b L xs y0 (y3 + 2)).bind fun v106 =>
  (gO E y1 6).bind fun o113 =>
  (f_S_text N o113.1 ((v97.toInt64 <<< ((32 : Int32).toInt64 &&& 63)) ||| (v106.toInt64 &&& 4294967295)) E).bind fun v113 =>
  (xA b L xs y0 (y3 + 1)).bind fun v121 =>
  (xA b L xs y0 (y3 + 2)).bind fun v130 =>
  (gO v113.2 y2 7).bind fun o137 =>
  (f_M_text N o137.1 ((v121.toInt64 <<< ((32 : Int32).toInt64 &&& 63)) ||| (v130.toInt64 &&& 4294967295)) v113.2).bind fun v137 =>
  if v113.1 = v137.1 then (
  f_law_b517 S g N fol bq b L xs (f_law_b18 S g N fol bq b L xs n) y0 y1 y2 y3 v137.2 nx
  ) else (
  none
  )
  ) else (
  if (v28 &&& 15) = 1 then (
  (xA b L xs y0 (y3 + 1)).bind fun v150 =>
  if sumB (bq n) 401 ≤ 2154 then (
  (gO E y1 6).bind fun o151 =>
  (f_S_load S g N (bq n) o151.1 v150 E nx).bind fun v151 =>
  (xA b L xs y0 (y3 + 1)).bind fun v159 =>
  (gO v151.2.1 y2 7).bind fun o160 =>
  (f_M_load N o160.1 v159 v151.2.1).bind fun v160 =>
  if v151.1 = v160.1 then (
  f_law_b517 S g N fol bq b L xs (f_law_b18 S g N fol bq b L xs n) y0 y1 y2 y3 v160.2 v151.2.2
  ) else (
  none
  )
  ) else none
  ) else (
  if (v28 &&& 15) = 2 then (
  (xA b L xs y0 (y3 + 1)).bind fun v173 =>
  (xA b L xs y0 (y3 + 2)).bind fun v178 =>
  (xA b L xs y0 (y3 + 3)).bind fun v187 =>
  (xA b L xs y0 (y3 + 4)).bind fun v198 =>
  (gO E y1 6).bind fun o199 =>
  (f_S_file N o199.1 v173 ((v178.toInt64 <<< ((32 : Int32).toInt64 &&& 63)) ||| (v187.toInt64 &&& 4294967295)) v198 E).bind fun v199 =>
  (xA b L xs y0 (y3 + 1)).bind fun v207 =>
  (xA b L xs y0 (y3 + 2)).bind fun v212 =>
  (xA b L xs y0 (y3 + 3)).bind fun v221 =>
  (xA b L xs y0 (y3 + 4)).bind fun v232 =>
  (gO v199.2 y2 7).bind fun o233 =>
  (f_M_file N o233.1 v207 ((v212.toInt64 <<< ((32 : Int32).toInt64 &&& 63)) ||| (v221.toInt64 &&& 4294967295)) v232 v199.2).bind fun v233 =>
  if v199.1 = v233.1 then (
  f_law_b517 S g N fol bq b L xs (f_law_b18 S g N fol bq b L xs n) y0 y1 y2 y3 v233.2 nx
  ) else (
  none
  )
  ) else (
  if (v28 &&& 15) = 3 then (
  (xA b L xs y0 (y3 + 1)).bind fun v246 =>
  (xA b L xs y0 (y3 + 2)).bind fun v251 =>
  if v251 = 0 then (
  f_law_b260 S g N fol bq b L xs (f_law_b18 S g N fol bq b L xs n) y0 y1 y2 y3 y1 v246 0 E nx
  ) else (
  f_law_b260 S g N fol bq b L xs (f_law_b18 S g N fol bq b L xs n) y0 y1 y2 y3 y1 v246 1 E nx
  )
  ) else (
  if (v28 &&& 15) = 4 then (
  (xA b L xs y0 (y3 + 1)).bind fun v295 =>
  (xA b L xs y0 (y3 + 2)).bind fun v300 =>
  if v300 = 0 then (
  f_law_b309 S g N fol bq b L xs (f_law_b18 S g N fol bq b L xs n) y0 y1 y2 y3 y1 v295 0 E nx
  ) else (
  f_law_b309 S g N fol bq b L xs (f_law_b18 S g N fol bq b L xs n) y0 y1 y2 y3 y1 v295 1 E nx
  )
  ) else (
  if (v28 &&& 15) = 5 then (
  (xA b L xs y0 (y3 + 1)).bind fun v344 =>
  (xA b L xs y0 (y3 + 2)).bind fun v349 =>
  (xA b L xs y0 (y3 + 3)).bind fun v354 =>
  (gO E y1 6).bind fun o355 =>
  (f_S_run N fol o355.1 v344 v349 v354 E).bind fun v355 =>
  (xA b L xs y0 (y3 + 1)).bind fun v363 =>
  (xA b L xs y0 (y3 + 2)).bind fun v368 =>
  (xA b L xs y0 (y3 + 3)).bind fun v373 =>
  (gO v355.2 y2 7).bind fun o374 =>
  (f_M_run N o374.1 v363 v368 v373 v355.2).bind fun v374 =>
  if v355.1 = v374.1 then (
  f_law_b517 S g N fol bq b L xs (f_law_b18 S g N fol bq b L xs n) y0 y1 y2 y3 v374.2 nx
  ) else (
  none
  )
  ) else (
  if (v28 &&& 15) = 6 then (
  (xA b L xs y0 (y3 + 1)).bind fun v387 =>
  (gO E y1 6).bind fun o388 =>
  (f_S_about E o388.1 v387).bind fun v388 =>
  (xA b L xs y0 (y3 + 1)).bind fun v396 =>
  (gO E y2 7).bind fun o397 =>
  (f_M_about E o397.1 v396).bind fun v397 =>
  if v388 = v397 then (
  f_law_b517 S g N fol bq b L xs (f_law_b18 S g N fol bq b L xs n) y0 y1 y2 y3 E nx
  ) else (
  none
  )
  ) else (
  if (v28 &&& 15) = 7 then (
  (xA b L xs y0 (y3 + 1)).bind fun v410 =>
  (xA b L xs y0 (y3 + 2)).bind fun v415 =>
  (gO E y1 6).bind fun o416 =>
  (f_S_said E o416.1 v410 v415).bind fun v416 =>
  (xA b L xs y0 (y3 + 1)).bind fun v424 =>
  (xA b L xs y0 (y3 + 2)).bind fun v429 =>
  (gO E y2 7).bind fun o430 =>
  (f_M_said E o430.1 v424 v429).bind fun v430 =>
  if v416 = v430 then (
  f_law_b517 S g N fol bq b L xs (f_law_b18 S g N fol bq b L xs n) y0 y1 y2 y3 E nx
  ) else (
  none
  )
  ) else (
  if (v28 &&& 15) = 8 then (
  (xA b L xs y0 (y3 + 1)).bind fun v443 =>
  (gO E y1 6).bind fun o444 =>
  (f_S_register E o444.1 v443).bind fun v444 =>
  (xA b L xs y0 (y3 + 1)).bind fun v452 =>
  (gO E y2 7).bind fun o453 =>
  (f_M_register E o453.1 v452).bind fun v453 =>
  if v444 = v453 then (
  f_law_b517 S g N fol bq b L xs (f_law_b18 S g N fol bq b L xs n) y0 y1 y2 y3 E nx
  ) else (
  none
  )
  ) else (
  if (v28 &&& 15) = 9 then (
  (xA b L xs y0 (y3 + 1)).bind fun v466 =>
  (gO E y1 6).bind fun o467 =>
  (f_S_size E o467.1 v466).bind fun v467 =>
  (xA b L xs y0 (y3 + 1)).bind fun v475 =>
  (gO E y2 7).bind fun o476 =>
  (f_M_size E o476.1 v475).bind fun v476 =>
  if v467 = v476 then (
  f_law_b517 S g N fol bq b L xs (f_law_b18 S g N fol bq b L xs n) y0 y1 y2 y3 E nx
  ) else (
  none
  )
  ) else (
  if (v28 &&& 15) = 10 then (
  (xA b L xs y0 (y3 + 1)).bind fun v489 =>
  (xA b L xs y0 (y3 + 2)).bind fun v494 =>
  (gO E y1 6).bind fun o495 =>
  (f_S_byteOf E o495.1 v489 v494).bind fun v495 =>
  (xA b L xs y0 (y3 + 1)).bind fun v503 =>
  (xA b L xs y0 (y3 + 2)).bind fun v508 =>
  (gO E y2 7).bind fun o509 =>
  (f_M_byteOf E o509.1 v503 v508).bind fun v509 =>
  if v495 = v509 then (
  f_law_b517 S g N fol bq b L xs (f_law_b18 S g N fol bq b L xs n) y0 y1 y2 y3 E nx
  ) else (
  none
  )
  ) else (
  f_law_b517 S g N fol bq b L xs (f_law_b18 S g N fol bq b L xs n) y0 y1 y2 y3 E nx
  )))))))))))
  ))
set_option maxHeartbeats 4000000 in
set_option maxRecDepth 100000 in
theorem b_law_18 {p : Program} {l : Launch} {e : Env} {s : State} {m : MethodId} {below : List Frame} {meth : Method} {c : Code} {D : va_G} {kA : Nat → ClassId} {S : hE} {g : Nat → Nat} {n0 : Nat} {N : Nat} {bq : Nat → Nat → Nat} {b L : Nat} {xs : Nat → Int32} {fol : Nat → Option Nat → Option Nat → Int32 → hE → Option (Int32 × hE)} {res : Unit} (C : hX p s m #[Value.ref b] c code 4 R_law lw_ts D kA S g n0) (hr : meth.sig.returnType = ret) (hlk : meth.locks = false) (hnm : n0 = s.heap.size ∧ va_X b L xs s s.heap ∧ b < s.heap.size) (hfol : ∀ {nx x0 : Nat} {x1 x2 : Option Nat} {x3 : Int32} {E : hE} {res : Int32 × hE}, fol x0 x1 x2 x3 E = some res → Met l y_Mach_follow ws_Mach_follow { frames := 16, cells := 0, slots := 0, locals := 444 } (va_Pc [va_rf (some x0), va_rf x1, va_rf x2, .int x3] (hJ D kA S g n0 (E, nx))) (va_Qi (fun r w => r = res.1 ∧ w = (res.2, nx)) (hJ D kA S g n0) (fun q => n0 ≤ q)) 0 0 (fun q => n0 ≤ q)) : ∀ n : Nat, ∀ (y0 : Option Nat) (y1 : Option Nat) (y2 : Option Nat) (y3 : Int32) (E : hE) (nx : Nat) (H : Heap) (locs : List Loc) (ls : Array Slot) (cells slots : Nat), hY D kA n0 s E nx H locs → lv_has ls 4 [(0, va_rf y0), (1, va_rf y1), (2, va_rf y2), (3, .int y3)] → cells + (n * 807 + 0) ≤ 600000 → slots + (n * 5000 + 0) ≤ 7302250 → f_law_b18 S g N fol bq b L xs n y0 y1 y2 y3 E nx = some res → W p l e room_1 s m #[Value.ref b] below meth c H locs cells slots (lw_Z below #[Value.ref b] s) (F0 m 18 ls []) := by
  intro n
  induction n with
  | zero =>
    intro y0 y1 y2 y3 E nx H locs ls cells slots M hl hcb hsb hf
    simp [f_law_b18] at hf
  | succ n ih =>
    intro y0 y1 y2 y3 E nx H locs ls cells slots M hl hcb hsb hf
    rw [f_law_b18] at hf
    refine lv_iload_n C.x C.b dlaw_18 rfl (lv_at hl 3 rfl) ?_
    refine w_aload_n C.x C.b dlaw_19 rfl (lv_at hl 0 rfl) ?_
    obtain ⟨v20, h20, hf⟩ := Option.bind_eq_some_iff.mp hf
    refine w_slen C M hnm h20 dlaw_20 ?_
    refine lv_iconst (v := 5) C.x C.b dlaw_21 (by decide) ?_
    refine lv_isub C.x C.b dlaw_22 ?_
    refine lv_icmp_gt (tgt := 523) C.x C.b dlaw_23 (by decide) (fun c23 => ?_) (fun c23 => ?_)
    · rw [if_pos c23] at hf
      refine lv_iconst (v := 1) C.x C.b dlaw_523 (by decide) ?_
      exact w_lret0 C M hr hlk hnm (by omega) (by omega) dlaw_524
    · rw [if_neg c23] at hf
      refine w_aload_n C.x C.b dlaw_26 rfl (lv_at hl 0 rfl) ?_
      refine lv_iload_n C.x C.b dlaw_27 rfl (lv_at hl 3 rfl) ?_
      obtain ⟨v28, h28, hf⟩ := Option.bind_eq_some_iff.mp hf
      refine w_sld C M hnm h28 dlaw_28 ?_
      refine lv_bipush (v := 15) C.x C.b dlaw_29 (by decide) ?_
      refine lv_iand C.x C.b dlaw_31 ?_
      by_cases c32_0 : (v28 &&& 15) = 0
      · rw [if_pos c32_0] at hf
        refine lv_tableIn (tgt := 92) C.x C.b dlaw_32 (by rw [c32_0]; decide) (by rw [c32_0]; decide) (by rw [c32_0]; rfl) (by decide) ?_
        refine w_aload_n C.x C.b dlaw_92 rfl (lv_at hl 1 rfl) ?_
        refine w_aload_n C.x C.b dlaw_93 rfl (lv_at hl 0 rfl) ?_
        refine lv_iload_n C.x C.b dlaw_94 rfl (lv_at hl 3 rfl) ?_
        refine lv_iconst (v := 1) C.x C.b dlaw_95 (by decide) ?_
        refine lv_iadd C.x C.b dlaw_96 ?_
        obtain ⟨v97, h97, hf⟩ := Option.bind_eq_some_iff.mp hf
        refine w_sld C M hnm h97 dlaw_97 ?_
        refine lv_i2l C.x C.b dlaw_98 rfl ?_
        refine lv_bipush (v := 32) C.x C.b dlaw_99 (by decide) ?_
        refine lv_lshl C.x C.b dlaw_101 rfl ?_
        refine w_aload_n C.x C.b dlaw_102 rfl (lv_at hl 0 rfl) ?_
        refine lv_iload_n C.x C.b dlaw_103 rfl (lv_at hl 3 rfl) ?_
        refine lv_iconst (v := 2) C.x C.b dlaw_104 (by decide) ?_
        refine lv_iadd C.x C.b dlaw_105 ?_
        obtain ⟨v106, h106, hf⟩ := Option.bind_eq_some_iff.mp hf
        refine w_sld C M hnm h106 dlaw_106 ?_
        refine lv_i2l C.x C.b dlaw_107 rfl ?_
        refine lv_ldc2 (v := 4294967295) C.x C.b C.ow (C.ts (.constantLong R_law 13 4294967295) (List.mem_cons_of_mem _ wm_1052)) dlaw_108 ?_
        refine lv_land C.x C.b dlaw_111 ?_
        refine lv_lor C.x C.b dlaw_112 ?_
        obtain ⟨o113, g113, hf⟩ := Option.bind_eq_some_iff.mp hf
        obtain ⟨v113, h113, hf⟩ := Option.bind_eq_some_iff.mp hf
        refine w_ci M (w_runV C M g113 rfl (c_S_text h113) (cwV 1 C.ts (hgV wm_189 wm_190 wm_191 wm_1 wm_192) rfl rfl rfl (by decide +kernel) ⟨Nat.le_of_ble_eq_true rfl, Nat.le_of_ble_eq_true rfl⟩) rfl hl.1 rfl (Nat.zero_le _) dlaw_113 ⟨by show _ ≤ 600000; omega, by show _ ≤ 7302250; omega⟩) (fun H locs M => ?_)
        refine w_aload_n C.x C.b dlaw_116 rfl (lv_at hl 2 rfl) ?_
        refine w_aload_n C.x C.b dlaw_117 rfl (lv_at hl 0 rfl) ?_
        refine lv_iload_n C.x C.b dlaw_118 rfl (lv_at hl 3 rfl) ?_
        refine lv_iconst (v := 1) C.x C.b dlaw_119 (by decide) ?_
        refine lv_iadd C.x C.b dlaw_120 ?_
        obtain ⟨v121, h121, hf⟩ := Option.bind_eq_some_iff.mp hf
        refine w_sld C M hnm h121 dlaw_121 ?_
        refine lv_i2l C.x C.b dlaw_122 rfl ?_
        refine lv_bipush (v := 32) C.x C.b dlaw_123 (by decide) ?_
        refine lv_lshl C.x C.b dlaw_125 rfl ?_
        refine w_aload_n C.x C.b dlaw_126 rfl (lv_at hl 0 rfl) ?_
        refine lv_iload_n C.x C.b dlaw_127 rfl (lv_at hl 3 rfl) ?_
        refine lv_iconst (v := 2) C.x C.b dlaw_128 (by decide) ?_
        refine lv_iadd C.x C.b dlaw_129 ?_
        obtain ⟨v130, h130, hf⟩ := Option.bind_eq_some_iff.mp hf
        refine w_sld C M hnm h130 dlaw_130 ?_
        refine lv_i2l C.x C.b dlaw_131 rfl ?_
        refine lv_ldc2 (v := 4294967295) C.x C.b C.ow (C.ts (.constantLong R_law 13 4294967295) (List.mem_cons_of_mem _ wm_1052)) dlaw_132 ?_
        refine lv_land C.x C.b dlaw_135 ?_
        refine lv_lor C.x C.b dlaw_136 ?_
        obtain ⟨o137, g137, hf⟩ := Option.bind_eq_some_iff.mp hf
        obtain ⟨v137, h137, hf⟩ := Option.bind_eq_some_iff.mp hf
        refine w_ci M (w_runV C M g137 rfl (c_M_text h137) (cwV 1 C.ts (hgV wm_824 wm_825 wm_826 wm_6 wm_827) rfl rfl rfl (by decide +kernel) ⟨Nat.le_of_ble_eq_true rfl, Nat.le_of_ble_eq_true rfl⟩) rfl hl.1 rfl (by simp [va_rf_cat, cat_i, cat_l, cat_n]) dlaw_137 ⟨by show _ ≤ 600000; omega, by show _ ≤ 7302250; omega⟩) (fun H locs M => ?_)
        refine lv_icmp_eq (tgt := 517) C.x C.b dlaw_140 (by decide) (fun c140 => ?_) (fun c140 => ?_)
        · rw [if_pos c140] at hf
          exact b_law_517 C hr hlk hnm hfol (f_law_b18 S g N fol bq b L xs n) ih _ _ _ _ _ _ _ _ _ _ _ M (lv_sub hl [0, 1, 2, 3] rfl) (by omega) (by omega) hf
        · rw [if_neg c140] at hf
          cases hf
      · rw [if_neg c32_0] at hf
        by_cases c32_1 : (v28 &&& 15) = 1
        · rw [if_pos c32_1] at hf
          refine lv_tableIn (tgt := 145) C.x C.b dlaw_32 (by rw [c32_1]; decide) (by rw [c32_1]; decide) (by rw [c32_1]; rfl) (by decide) ?_
          refine w_aload_n C.x C.b dlaw_145 rfl (lv_at hl 1 rfl) ?_
          refine w_aload_n C.x C.b dlaw_146 rfl (lv_at hl 0 rfl) ?_
          refine lv_iload_n C.x C.b dlaw_147 rfl (lv_at hl 3 rfl) ?_
          refine lv_iconst (v := 1) C.x C.b dlaw_148 (by decide) ?_
          refine lv_iadd C.x C.b dlaw_149 ?_
          obtain ⟨v150, h150, hf⟩ := Option.bind_eq_some_iff.mp hf
          refine w_sld C M hnm h150 dlaw_150 ?_
          have hB151 : sumB (bq n) 401 ≤ 2154 := Decidable.by_contra fun z => by rw [if_neg z] at hf; cases hf
          rw [if_pos hB151] at hf
          obtain ⟨o151, g151, hf⟩ := Option.bind_eq_some_iff.mp hf
          obtain ⟨v151, h151, hf⟩ := Option.bind_eq_some_iff.mp hf
          refine w_ci M (w_runV C M g151 rfl (c_S_load h151) (cwV 1 C.ts (hgV wm_207 wm_208 wm_209 wm_1 wm_210) rfl rfl rfl (by decide +kernel) ⟨Nat.le_of_ble_eq_true rfl, Nat.le_of_ble_eq_true rfl⟩) rfl hl.1 rfl (Nat.zero_le _) dlaw_151 ⟨by show _ ≤ 600000; omega, by show _ ≤ 7302250; omega⟩) (fun H locs M => ?_)
          refine w_aload_n C.x C.b dlaw_154 rfl (lv_at hl 2 rfl) ?_
          refine w_aload_n C.x C.b dlaw_155 rfl (lv_at hl 0 rfl) ?_
          refine lv_iload_n C.x C.b dlaw_156 rfl (lv_at hl 3 rfl) ?_
          refine lv_iconst (v := 1) C.x C.b dlaw_157 (by decide) ?_
          refine lv_iadd C.x C.b dlaw_158 ?_
          obtain ⟨v159, h159, hf⟩ := Option.bind_eq_some_iff.mp hf
          refine w_sld C M hnm h159 dlaw_159 ?_
          obtain ⟨o160, g160, hf⟩ := Option.bind_eq_some_iff.mp hf
          obtain ⟨v160, h160, hf⟩ := Option.bind_eq_some_iff.mp hf
          refine w_ci M (w_runV C M g160 rfl (c_M_load h160) (cwV 1 C.ts (hgV wm_832 wm_833 wm_834 wm_6 wm_835) rfl rfl rfl (by decide +kernel) ⟨Nat.le_of_ble_eq_true rfl, Nat.le_of_ble_eq_true rfl⟩) rfl hl.1 rfl (by simp [va_rf_cat, cat_i, cat_l, cat_n]) dlaw_160 ⟨by show _ ≤ 600000; omega, by show _ ≤ 7302250; omega⟩) (fun H locs M => ?_)
          refine lv_icmp_eq (tgt := 517) C.x C.b dlaw_163 (by decide) (fun c163 => ?_) (fun c163 => ?_)
          · rw [if_pos c163] at hf
            exact b_law_517 C hr hlk hnm hfol (f_law_b18 S g N fol bq b L xs n) ih _ _ _ _ _ _ _ _ _ _ _ M (lv_sub hl [0, 1, 2, 3] rfl) (by omega) (by omega) hf
          · rw [if_neg c163] at hf
            cases hf
        · rw [if_neg c32_1] at hf
          by_cases c32_2 : (v28 &&& 15) = 2
          · rw [if_pos c32_2] at hf
            refine lv_tableIn (tgt := 168) C.x C.b dlaw_32 (by rw [c32_2]; decide) (by rw [c32_2]; decide) (by rw [c32_2]; rfl) (by decide) ?_
            refine w_aload_n C.x C.b dlaw_168 rfl (lv_at hl 1 rfl) ?_
            refine w_aload_n C.x C.b dlaw_169 rfl (lv_at hl 0 rfl) ?_
            refine lv_iload_n C.x C.b dlaw_170 rfl (lv_at hl 3 rfl) ?_
            refine lv_iconst (v := 1) C.x C.b dlaw_171 (by decide) ?_
            refine lv_iadd C.x C.b dlaw_172 ?_
            obtain ⟨v173, h173, hf⟩ := Option.bind_eq_some_iff.mp hf
            refine w_sld C M hnm h173 dlaw_173 ?_
            refine w_aload_n C.x C.b dlaw_174 rfl (lv_at hl 0 rfl) ?_
            refine lv_iload_n C.x C.b dlaw_175 rfl (lv_at hl 3 rfl) ?_
            refine lv_iconst (v := 2) C.x C.b dlaw_176 (by decide) ?_
            refine lv_iadd C.x C.b dlaw_177 ?_
            obtain ⟨v178, h178, hf⟩ := Option.bind_eq_some_iff.mp hf
            refine w_sld C M hnm h178 dlaw_178 ?_
            refine lv_i2l C.x C.b dlaw_179 rfl ?_
            refine lv_bipush (v := 32) C.x C.b dlaw_180 (by decide) ?_
            refine lv_lshl C.x C.b dlaw_182 rfl ?_
            refine w_aload_n C.x C.b dlaw_183 rfl (lv_at hl 0 rfl) ?_
            refine lv_iload_n C.x C.b dlaw_184 rfl (lv_at hl 3 rfl) ?_
            refine lv_iconst (v := 3) C.x C.b dlaw_185 (by decide) ?_
            refine lv_iadd C.x C.b dlaw_186 ?_
            obtain ⟨v187, h187, hf⟩ := Option.bind_eq_some_iff.mp hf
            refine w_sld C M hnm h187 dlaw_187 ?_
            refine lv_i2l C.x C.b dlaw_188 rfl ?_
            refine lv_ldc2 (v := 4294967295) C.x C.b C.ow (C.ts (.constantLong R_law 13 4294967295) (List.mem_cons_of_mem _ wm_1052)) dlaw_189 ?_
            refine lv_land C.x C.b dlaw_192 ?_
            refine lv_lor C.x C.b dlaw_193 ?_
            refine w_aload_n C.x C.b dlaw_194 rfl (lv_at hl 0 rfl) ?_
            refine lv_iload_n C.x C.b dlaw_195 rfl (lv_at hl 3 rfl) ?_
            refine lv_iconst (v := 4) C.x C.b dlaw_196 (by decide) ?_
            refine lv_iadd C.x C.b dlaw_197 ?_
            obtain ⟨v198, h198, hf⟩ := Option.bind_eq_some_iff.mp hf
            refine w_sld C M hnm h198 dlaw_198 ?_
            obtain ⟨o199, g199, hf⟩ := Option.bind_eq_some_iff.mp hf
            obtain ⟨v199, h199, hf⟩ := Option.bind_eq_some_iff.mp hf
            refine w_ci M (w_runV C M g199 rfl (c_S_file h199) (cwV 3 C.ts (hgV wm_549 wm_550 wm_551 wm_1 wm_552) rfl rfl rfl (by decide +kernel) ⟨Nat.le_of_ble_eq_true rfl, Nat.le_of_ble_eq_true rfl⟩) rfl hl.1 rfl (Nat.zero_le _) dlaw_199 ⟨by show _ ≤ 600000; omega, by show _ ≤ 7302250; omega⟩) (fun H locs M => ?_)
            refine w_aload_n C.x C.b dlaw_202 rfl (lv_at hl 2 rfl) ?_
            refine w_aload_n C.x C.b dlaw_203 rfl (lv_at hl 0 rfl) ?_
            refine lv_iload_n C.x C.b dlaw_204 rfl (lv_at hl 3 rfl) ?_
            refine lv_iconst (v := 1) C.x C.b dlaw_205 (by decide) ?_
            refine lv_iadd C.x C.b dlaw_206 ?_
            obtain ⟨v207, h207, hf⟩ := Option.bind_eq_some_iff.mp hf
            refine w_sld C M hnm h207 dlaw_207 ?_
            refine w_aload_n C.x C.b dlaw_208 rfl (lv_at hl 0 rfl) ?_
            refine lv_iload_n C.x C.b dlaw_209 rfl (lv_at hl 3 rfl) ?_
            refine lv_iconst (v := 2) C.x C.b dlaw_210 (by decide) ?_
            refine lv_iadd C.x C.b dlaw_211 ?_
            obtain ⟨v212, h212, hf⟩ := Option.bind_eq_some_iff.mp hf
            refine w_sld C M hnm h212 dlaw_212 ?_
            refine lv_i2l C.x C.b dlaw_213 rfl ?_
            refine lv_bipush (v := 32) C.x C.b dlaw_214 (by decide) ?_
            refine lv_lshl C.x C.b dlaw_216 rfl ?_
            refine w_aload_n C.x C.b dlaw_217 rfl (lv_at hl 0 rfl) ?_
            refine lv_iload_n C.x C.b dlaw_218 rfl (lv_at hl 3 rfl) ?_
            refine lv_iconst (v := 3) C.x C.b dlaw_219 (by decide) ?_
            refine lv_iadd C.x C.b dlaw_220 ?_
            obtain ⟨v221, h221, hf⟩ := Option.bind_eq_some_iff.mp hf
            refine w_sld C M hnm h221 dlaw_221 ?_
            refine lv_i2l C.x C.b dlaw_222 rfl ?_
            refine lv_ldc2 (v := 4294967295) C.x C.b C.ow (C.ts (.constantLong R_law 13 4294967295) (List.mem_cons_of_mem _ wm_1052)) dlaw_223 ?_
            refine lv_land C.x C.b dlaw_226 ?_
            refine lv_lor C.x C.b dlaw_227 ?_
            refine w_aload_n C.x C.b dlaw_228 rfl (lv_at hl 0 rfl) ?_
            refine lv_iload_n C.x C.b dlaw_229 rfl (lv_at hl 3 rfl) ?_
            refine lv_iconst (v := 4) C.x C.b dlaw_230 (by decide) ?_
            refine lv_iadd C.x C.b dlaw_231 ?_
            obtain ⟨v232, h232, hf⟩ := Option.bind_eq_some_iff.mp hf
            refine w_sld C M hnm h232 dlaw_232 ?_
            obtain ⟨o233, g233, hf⟩ := Option.bind_eq_some_iff.mp hf
            obtain ⟨v233, h233, hf⟩ := Option.bind_eq_some_iff.mp hf
            refine w_ci M (w_runV C M g233 rfl (c_M_file h233) (cwV 3 C.ts (hgV wm_922 wm_923 wm_924 wm_6 wm_925) rfl rfl rfl (by decide +kernel) ⟨Nat.le_of_ble_eq_true rfl, Nat.le_of_ble_eq_true rfl⟩) rfl hl.1 rfl (by simp [va_rf_cat, cat_i, cat_l, cat_n]) dlaw_233 ⟨by show _ ≤ 600000; omega, by show _ ≤ 7302250; omega⟩) (fun H locs M => ?_)
            refine lv_icmp_eq (tgt := 517) C.x C.b dlaw_236 (by decide) (fun c236 => ?_) (fun c236 => ?_)
            · rw [if_pos c236] at hf
              exact b_law_517 C hr hlk hnm hfol (f_law_b18 S g N fol bq b L xs n) ih _ _ _ _ _ _ _ _ _ _ _ M (lv_sub hl [0, 1, 2, 3] rfl) (by omega) (by omega) hf
            · rw [if_neg c236] at hf
              cases hf
          · rw [if_neg c32_2] at hf
            by_cases c32_3 : (v28 &&& 15) = 3
            · rw [if_pos c32_3] at hf
              refine lv_tableIn (tgt := 241) C.x C.b dlaw_32 (by rw [c32_3]; decide) (by rw [c32_3]; decide) (by rw [c32_3]; rfl) (by decide) ?_
              refine w_aload_n C.x C.b dlaw_241 rfl (lv_at hl 1 rfl) ?_
              refine w_aload_n C.x C.b dlaw_242 rfl (lv_at hl 0 rfl) ?_
              refine lv_iload_n C.x C.b dlaw_243 rfl (lv_at hl 3 rfl) ?_
              refine lv_iconst (v := 1) C.x C.b dlaw_244 (by decide) ?_
              refine lv_iadd C.x C.b dlaw_245 ?_
              obtain ⟨v246, h246, hf⟩ := Option.bind_eq_some_iff.mp hf
              refine w_sld C M hnm h246 dlaw_246 ?_
              refine w_aload_n C.x C.b dlaw_247 rfl (lv_at hl 0 rfl) ?_
              refine lv_iload_n C.x C.b dlaw_248 rfl (lv_at hl 3 rfl) ?_
              refine lv_iconst (v := 2) C.x C.b dlaw_249 (by decide) ?_
              refine lv_iadd C.x C.b dlaw_250 ?_
              obtain ⟨v251, h251, hf⟩ := Option.bind_eq_some_iff.mp hf
              refine w_sld C M hnm h251 dlaw_251 ?_
              refine lv_if_eq (tgt := 259) C.x C.b dlaw_252 (by decide) (fun c252 => ?_) (fun c252 => ?_)
              · rw [if_pos c252] at hf
                refine lv_iconst (v := 0) C.x C.b dlaw_259 (by decide) ?_
                exact b_law_260 C hr hlk hnm hfol (f_law_b18 S g N fol bq b L xs n) ih _ _ _ _ _ _ _ _ _ _ _ _ _ _ M (lv_sub hl [0, 1, 2, 3] rfl) (by omega) (by omega) hf
              · rw [if_neg c252] at hf
                refine lv_iconst (v := 1) C.x C.b dlaw_255 (by decide) ?_
                refine lv_goto (tgt := 260) C.x C.b dlaw_256 (by decide) ?_
                exact b_law_260 C hr hlk hnm hfol (f_law_b18 S g N fol bq b L xs n) ih _ _ _ _ _ _ _ _ _ _ _ _ _ _ M (lv_sub hl [0, 1, 2, 3] rfl) (by omega) (by omega) hf
            · rw [if_neg c32_3] at hf
              by_cases c32_4 : (v28 &&& 15) = 4
              · rw [if_pos c32_4] at hf
                refine lv_tableIn (tgt := 290) C.x C.b dlaw_32 (by rw [c32_4]; decide) (by rw [c32_4]; decide) (by rw [c32_4]; rfl) (by decide) ?_
                refine w_aload_n C.x C.b dlaw_290 rfl (lv_at hl 1 rfl) ?_
                refine w_aload_n C.x C.b dlaw_291 rfl (lv_at hl 0 rfl) ?_
                refine lv_iload_n C.x C.b dlaw_292 rfl (lv_at hl 3 rfl) ?_
                refine lv_iconst (v := 1) C.x C.b dlaw_293 (by decide) ?_
                refine lv_iadd C.x C.b dlaw_294 ?_
                obtain ⟨v295, h295, hf⟩ := Option.bind_eq_some_iff.mp hf
                refine w_sld C M hnm h295 dlaw_295 ?_
                refine w_aload_n C.x C.b dlaw_296 rfl (lv_at hl 0 rfl) ?_
                refine lv_iload_n C.x C.b dlaw_297 rfl (lv_at hl 3 rfl) ?_
                refine lv_iconst (v := 2) C.x C.b dlaw_298 (by decide) ?_
                refine lv_iadd C.x C.b dlaw_299 ?_
                obtain ⟨v300, h300, hf⟩ := Option.bind_eq_some_iff.mp hf
                refine w_sld C M hnm h300 dlaw_300 ?_
                refine lv_if_eq (tgt := 308) C.x C.b dlaw_301 (by decide) (fun c301 => ?_) (fun c301 => ?_)
                · rw [if_pos c301] at hf
                  refine lv_iconst (v := 0) C.x C.b dlaw_308 (by decide) ?_
                  exact b_law_309 C hr hlk hnm hfol (f_law_b18 S g N fol bq b L xs n) ih _ _ _ _ _ _ _ _ _ _ _ _ _ _ M (lv_sub hl [0, 1, 2, 3] rfl) (by omega) (by omega) hf
                · rw [if_neg c301] at hf
                  refine lv_iconst (v := 1) C.x C.b dlaw_304 (by decide) ?_
                  refine lv_goto (tgt := 309) C.x C.b dlaw_305 (by decide) ?_
                  exact b_law_309 C hr hlk hnm hfol (f_law_b18 S g N fol bq b L xs n) ih _ _ _ _ _ _ _ _ _ _ _ _ _ _ M (lv_sub hl [0, 1, 2, 3] rfl) (by omega) (by omega) hf
              · rw [if_neg c32_4] at hf
                by_cases c32_5 : (v28 &&& 15) = 5
                · rw [if_pos c32_5] at hf
                  refine lv_tableIn (tgt := 339) C.x C.b dlaw_32 (by rw [c32_5]; decide) (by rw [c32_5]; decide) (by rw [c32_5]; rfl) (by decide) ?_
                  refine w_aload_n C.x C.b dlaw_339 rfl (lv_at hl 1 rfl) ?_
                  refine w_aload_n C.x C.b dlaw_340 rfl (lv_at hl 0 rfl) ?_
                  refine lv_iload_n C.x C.b dlaw_341 rfl (lv_at hl 3 rfl) ?_
                  refine lv_iconst (v := 1) C.x C.b dlaw_342 (by decide) ?_
                  refine lv_iadd C.x C.b dlaw_343 ?_
                  obtain ⟨v344, h344, hf⟩ := Option.bind_eq_some_iff.mp hf
                  refine w_sld C M hnm h344 dlaw_344 ?_
                  refine w_aload_n C.x C.b dlaw_345 rfl (lv_at hl 0 rfl) ?_
                  refine lv_iload_n C.x C.b dlaw_346 rfl (lv_at hl 3 rfl) ?_
                  refine lv_iconst (v := 2) C.x C.b dlaw_347 (by decide) ?_
                  refine lv_iadd C.x C.b dlaw_348 ?_
                  obtain ⟨v349, h349, hf⟩ := Option.bind_eq_some_iff.mp hf
                  refine w_sld C M hnm h349 dlaw_349 ?_
                  refine w_aload_n C.x C.b dlaw_350 rfl (lv_at hl 0 rfl) ?_
                  refine lv_iload_n C.x C.b dlaw_351 rfl (lv_at hl 3 rfl) ?_
                  refine lv_iconst (v := 3) C.x C.b dlaw_352 (by decide) ?_
                  refine lv_iadd C.x C.b dlaw_353 ?_
                  obtain ⟨v354, h354, hf⟩ := Option.bind_eq_some_iff.mp hf
                  refine w_sld C M hnm h354 dlaw_354 ?_
                  obtain ⟨o355, g355, hf⟩ := Option.bind_eq_some_iff.mp hf
                  obtain ⟨v355, h355, hf⟩ := Option.bind_eq_some_iff.mp hf
                  refine w_ci M (w_runV C M g355 rfl (c_S_run hfol h355) (cwV 3 C.ts (hgV wm_569 wm_570 wm_571 wm_1 wm_572) rfl rfl rfl (by decide +kernel) ⟨Nat.le_of_ble_eq_true rfl, Nat.le_of_ble_eq_true rfl⟩) rfl hl.1 rfl (Nat.zero_le _) dlaw_355 ⟨by show _ ≤ 600000; omega, by show _ ≤ 7302250; omega⟩) (fun H locs M => ?_)
                  refine w_aload_n C.x C.b dlaw_358 rfl (lv_at hl 2 rfl) ?_
                  refine w_aload_n C.x C.b dlaw_359 rfl (lv_at hl 0 rfl) ?_
                  refine lv_iload_n C.x C.b dlaw_360 rfl (lv_at hl 3 rfl) ?_
                  refine lv_iconst (v := 1) C.x C.b dlaw_361 (by decide) ?_
                  refine lv_iadd C.x C.b dlaw_362 ?_
                  obtain ⟨v363, h363, hf⟩ := Option.bind_eq_some_iff.mp hf
                  refine w_sld C M hnm h363 dlaw_363 ?_
                  refine w_aload_n C.x C.b dlaw_364 rfl (lv_at hl 0 rfl) ?_
                  refine lv_iload_n C.x C.b dlaw_365 rfl (lv_at hl 3 rfl) ?_
                  refine lv_iconst (v := 2) C.x C.b dlaw_366 (by decide) ?_
                  refine lv_iadd C.x C.b dlaw_367 ?_
                  obtain ⟨v368, h368, hf⟩ := Option.bind_eq_some_iff.mp hf
                  refine w_sld C M hnm h368 dlaw_368 ?_
                  refine w_aload_n C.x C.b dlaw_369 rfl (lv_at hl 0 rfl) ?_
                  refine lv_iload_n C.x C.b dlaw_370 rfl (lv_at hl 3 rfl) ?_
                  refine lv_iconst (v := 3) C.x C.b dlaw_371 (by decide) ?_
                  refine lv_iadd C.x C.b dlaw_372 ?_
                  obtain ⟨v373, h373, hf⟩ := Option.bind_eq_some_iff.mp hf
                  refine w_sld C M hnm h373 dlaw_373 ?_
                  obtain ⟨o374, g374, hf⟩ := Option.bind_eq_some_iff.mp hf
                  obtain ⟨v374, h374, hf⟩ := Option.bind_eq_some_iff.mp hf
                  refine w_ci M (w_runV C M g374 rfl (c_M_run h374) (cwV 3 C.ts (hgV wm_941 wm_942 wm_943 wm_6 wm_944) rfl rfl rfl (by decide +kernel) ⟨Nat.le_of_ble_eq_true rfl, Nat.le_of_ble_eq_true rfl⟩) rfl hl.1 rfl (by simp [va_rf_cat, cat_i, cat_l, cat_n]) dlaw_374 ⟨by show _ ≤ 600000; omega, by show _ ≤ 7302250; omega⟩) (fun H locs M => ?_)
                  refine lv_icmp_eq (tgt := 517) C.x C.b dlaw_377 (by decide) (fun c377 => ?_) (fun c377 => ?_)
                  · rw [if_pos c377] at hf
                    exact b_law_517 C hr hlk hnm hfol (f_law_b18 S g N fol bq b L xs n) ih _ _ _ _ _ _ _ _ _ _ _ M (lv_sub hl [0, 1, 2, 3] rfl) (by omega) (by omega) hf
                  · rw [if_neg c377] at hf
                    cases hf
                · rw [if_neg c32_5] at hf
                  by_cases c32_6 : (v28 &&& 15) = 6
                  · rw [if_pos c32_6] at hf
                    refine lv_tableIn (tgt := 382) C.x C.b dlaw_32 (by rw [c32_6]; decide) (by rw [c32_6]; decide) (by rw [c32_6]; rfl) (by decide) ?_
                    refine w_aload_n C.x C.b dlaw_382 rfl (lv_at hl 1 rfl) ?_
                    refine w_aload_n C.x C.b dlaw_383 rfl (lv_at hl 0 rfl) ?_
                    refine lv_iload_n C.x C.b dlaw_384 rfl (lv_at hl 3 rfl) ?_
                    refine lv_iconst (v := 1) C.x C.b dlaw_385 (by decide) ?_
                    refine lv_iadd C.x C.b dlaw_386 ?_
                    obtain ⟨v387, h387, hf⟩ := Option.bind_eq_some_iff.mp hf
                    refine w_sld C M hnm h387 dlaw_387 ?_
                    obtain ⟨o388, g388, hf⟩ := Option.bind_eq_some_iff.mp hf
                    obtain ⟨v388, h388, hf⟩ := Option.bind_eq_some_iff.mp hf
                    refine w_ci M (w_runV C M g388 rfl (c_S_about h388) (cwV 1 C.ts (hgV wm_695 wm_696 wm_697 wm_1 wm_698) rfl rfl rfl (by decide +kernel) ⟨Nat.le_of_ble_eq_true rfl, Nat.le_of_ble_eq_true rfl⟩) rfl hl.1 rfl (Nat.zero_le _) dlaw_388 ⟨by show _ ≤ 600000; omega, by show _ ≤ 7302250; omega⟩) (fun H locs M => ?_)
                    refine w_aload_n C.x C.b dlaw_391 rfl (lv_at hl 2 rfl) ?_
                    refine w_aload_n C.x C.b dlaw_392 rfl (lv_at hl 0 rfl) ?_
                    refine lv_iload_n C.x C.b dlaw_393 rfl (lv_at hl 3 rfl) ?_
                    refine lv_iconst (v := 1) C.x C.b dlaw_394 (by decide) ?_
                    refine lv_iadd C.x C.b dlaw_395 ?_
                    obtain ⟨v396, h396, hf⟩ := Option.bind_eq_some_iff.mp hf
                    refine w_sld C M hnm h396 dlaw_396 ?_
                    obtain ⟨o397, g397, hf⟩ := Option.bind_eq_some_iff.mp hf
                    obtain ⟨v397, h397, hf⟩ := Option.bind_eq_some_iff.mp hf
                    refine w_ci M (w_runV C M g397 rfl (c_M_about h397) (cwV 1 C.ts (hgV wm_1032 wm_1033 wm_1034 wm_6 wm_1035) rfl rfl rfl (by decide +kernel) ⟨Nat.le_of_ble_eq_true rfl, Nat.le_of_ble_eq_true rfl⟩) rfl hl.1 rfl (by simp [va_rf_cat, cat_i, cat_l, cat_n]) dlaw_397 ⟨by show _ ≤ 600000; omega, by show _ ≤ 7302250; omega⟩) (fun H locs M => ?_)
                    refine lv_icmp_eq (tgt := 517) C.x C.b dlaw_400 (by decide) (fun c400 => ?_) (fun c400 => ?_)
                    · rw [if_pos c400] at hf
                      exact b_law_517 C hr hlk hnm hfol (f_law_b18 S g N fol bq b L xs n) ih _ _ _ _ _ _ _ _ _ _ _ M (lv_sub hl [0, 1, 2, 3] rfl) (by omega) (by omega) hf
                    · rw [if_neg c400] at hf
                      cases hf
                  · rw [if_neg c32_6] at hf
                    by_cases c32_7 : (v28 &&& 15) = 7
                    · rw [if_pos c32_7] at hf
                      refine lv_tableIn (tgt := 405) C.x C.b dlaw_32 (by rw [c32_7]; decide) (by rw [c32_7]; decide) (by rw [c32_7]; rfl) (by decide) ?_
                      refine w_aload_n C.x C.b dlaw_405 rfl (lv_at hl 1 rfl) ?_
                      refine w_aload_n C.x C.b dlaw_406 rfl (lv_at hl 0 rfl) ?_
                      refine lv_iload_n C.x C.b dlaw_407 rfl (lv_at hl 3 rfl) ?_
                      refine lv_iconst (v := 1) C.x C.b dlaw_408 (by decide) ?_
                      refine lv_iadd C.x C.b dlaw_409 ?_
                      obtain ⟨v410, h410, hf⟩ := Option.bind_eq_some_iff.mp hf
                      refine w_sld C M hnm h410 dlaw_410 ?_
                      refine w_aload_n C.x C.b dlaw_411 rfl (lv_at hl 0 rfl) ?_
                      refine lv_iload_n C.x C.b dlaw_412 rfl (lv_at hl 3 rfl) ?_
                      refine lv_iconst (v := 2) C.x C.b dlaw_413 (by decide) ?_
                      refine lv_iadd C.x C.b dlaw_414 ?_
                      obtain ⟨v415, h415, hf⟩ := Option.bind_eq_some_iff.mp hf
                      refine w_sld C M hnm h415 dlaw_415 ?_
                      obtain ⟨o416, g416, hf⟩ := Option.bind_eq_some_iff.mp hf
                      obtain ⟨v416, h416, hf⟩ := Option.bind_eq_some_iff.mp hf
                      refine w_ci M (w_runV C M g416 rfl (c_S_said h416) (cwV 2 C.ts (hgV wm_699 wm_700 wm_701 wm_1 wm_702) rfl rfl rfl (by decide +kernel) ⟨Nat.le_of_ble_eq_true rfl, Nat.le_of_ble_eq_true rfl⟩) rfl hl.1 rfl (Nat.zero_le _) dlaw_416 ⟨by show _ ≤ 600000; omega, by show _ ≤ 7302250; omega⟩) (fun H locs M => ?_)
                      refine w_aload_n C.x C.b dlaw_419 rfl (lv_at hl 2 rfl) ?_
                      refine w_aload_n C.x C.b dlaw_420 rfl (lv_at hl 0 rfl) ?_
                      refine lv_iload_n C.x C.b dlaw_421 rfl (lv_at hl 3 rfl) ?_
                      refine lv_iconst (v := 1) C.x C.b dlaw_422 (by decide) ?_
                      refine lv_iadd C.x C.b dlaw_423 ?_
                      obtain ⟨v424, h424, hf⟩ := Option.bind_eq_some_iff.mp hf
                      refine w_sld C M hnm h424 dlaw_424 ?_
                      refine w_aload_n C.x C.b dlaw_425 rfl (lv_at hl 0 rfl) ?_
                      refine lv_iload_n C.x C.b dlaw_426 rfl (lv_at hl 3 rfl) ?_
                      refine lv_iconst (v := 2) C.x C.b dlaw_427 (by decide) ?_
                      refine lv_iadd C.x C.b dlaw_428 ?_
                      obtain ⟨v429, h429, hf⟩ := Option.bind_eq_some_iff.mp hf
                      refine w_sld C M hnm h429 dlaw_429 ?_
                      obtain ⟨o430, g430, hf⟩ := Option.bind_eq_some_iff.mp hf
                      obtain ⟨v430, h430, hf⟩ := Option.bind_eq_some_iff.mp hf
                      refine w_ci M (w_runV C M g430 rfl (c_M_said h430) (cwV 2 C.ts (hgV wm_1036 wm_1037 wm_1038 wm_6 wm_1039) rfl rfl rfl (by decide +kernel) ⟨Nat.le_of_ble_eq_true rfl, Nat.le_of_ble_eq_true rfl⟩) rfl hl.1 rfl (by simp [va_rf_cat, cat_i, cat_l, cat_n]) dlaw_430 ⟨by show _ ≤ 600000; omega, by show _ ≤ 7302250; omega⟩) (fun H locs M => ?_)
                      refine lv_icmp_eq (tgt := 517) C.x C.b dlaw_433 (by decide) (fun c433 => ?_) (fun c433 => ?_)
                      · rw [if_pos c433] at hf
                        exact b_law_517 C hr hlk hnm hfol (f_law_b18 S g N fol bq b L xs n) ih _ _ _ _ _ _ _ _ _ _ _ M (lv_sub hl [0, 1, 2, 3] rfl) (by omega) (by omega) hf
                      · rw [if_neg c433] at hf
                        cases hf
                    · rw [if_neg c32_7] at hf
                      by_cases c32_8 : (v28 &&& 15) = 8
                      · rw [if_pos c32_8] at hf
                        refine lv_tableIn (tgt := 438) C.x C.b dlaw_32 (by rw [c32_8]; decide) (by rw [c32_8]; decide) (by rw [c32_8]; rfl) (by decide) ?_
                        refine w_aload_n C.x C.b dlaw_438 rfl (lv_at hl 1 rfl) ?_
                        refine w_aload_n C.x C.b dlaw_439 rfl (lv_at hl 0 rfl) ?_
                        refine lv_iload_n C.x C.b dlaw_440 rfl (lv_at hl 3 rfl) ?_
                        refine lv_iconst (v := 1) C.x C.b dlaw_441 (by decide) ?_
                        refine lv_iadd C.x C.b dlaw_442 ?_
                        obtain ⟨v443, h443, hf⟩ := Option.bind_eq_some_iff.mp hf
                        refine w_sld C M hnm h443 dlaw_443 ?_
                        obtain ⟨o444, g444, hf⟩ := Option.bind_eq_some_iff.mp hf
                        obtain ⟨v444, h444, hf⟩ := Option.bind_eq_some_iff.mp hf
                        refine w_ci M (w_runV C M g444 rfl (c_S_register h444) (cwV 1 C.ts (hgV wm_704 wm_705 wm_706 wm_1 wm_707) rfl rfl rfl (by decide +kernel) ⟨Nat.le_of_ble_eq_true rfl, Nat.le_of_ble_eq_true rfl⟩) rfl hl.1 rfl (Nat.zero_le _) dlaw_444 ⟨by show _ ≤ 600000; omega, by show _ ≤ 7302250; omega⟩) (fun H locs M => ?_)
                        refine w_aload_n C.x C.b dlaw_447 rfl (lv_at hl 2 rfl) ?_
                        refine w_aload_n C.x C.b dlaw_448 rfl (lv_at hl 0 rfl) ?_
                        refine lv_iload_n C.x C.b dlaw_449 rfl (lv_at hl 3 rfl) ?_
                        refine lv_iconst (v := 1) C.x C.b dlaw_450 (by decide) ?_
                        refine lv_iadd C.x C.b dlaw_451 ?_
                        obtain ⟨v452, h452, hf⟩ := Option.bind_eq_some_iff.mp hf
                        refine w_sld C M hnm h452 dlaw_452 ?_
                        obtain ⟨o453, g453, hf⟩ := Option.bind_eq_some_iff.mp hf
                        obtain ⟨v453, h453, hf⟩ := Option.bind_eq_some_iff.mp hf
                        refine w_ci M (w_runV C M g453 rfl (c_M_register h453) (cwV 1 C.ts (hgV wm_1040 wm_1041 wm_1042 wm_6 wm_1043) rfl rfl rfl (by decide +kernel) ⟨Nat.le_of_ble_eq_true rfl, Nat.le_of_ble_eq_true rfl⟩) rfl hl.1 rfl (by simp [va_rf_cat, cat_i, cat_l, cat_n]) dlaw_453 ⟨by show _ ≤ 600000; omega, by show _ ≤ 7302250; omega⟩) (fun H locs M => ?_)
                        refine lv_icmp_eq (tgt := 517) C.x C.b dlaw_456 (by decide) (fun c456 => ?_) (fun c456 => ?_)
                        · rw [if_pos c456] at hf
                          exact b_law_517 C hr hlk hnm hfol (f_law_b18 S g N fol bq b L xs n) ih _ _ _ _ _ _ _ _ _ _ _ M (lv_sub hl [0, 1, 2, 3] rfl) (by omega) (by omega) hf
                        · rw [if_neg c456] at hf
                          cases hf
                      · rw [if_neg c32_8] at hf
                        by_cases c32_9 : (v28 &&& 15) = 9
                        · rw [if_pos c32_9] at hf
                          refine lv_tableIn (tgt := 461) C.x C.b dlaw_32 (by rw [c32_9]; decide) (by rw [c32_9]; decide) (by rw [c32_9]; rfl) (by decide) ?_
                          refine w_aload_n C.x C.b dlaw_461 rfl (lv_at hl 1 rfl) ?_
                          refine w_aload_n C.x C.b dlaw_462 rfl (lv_at hl 0 rfl) ?_
                          refine lv_iload_n C.x C.b dlaw_463 rfl (lv_at hl 3 rfl) ?_
                          refine lv_iconst (v := 1) C.x C.b dlaw_464 (by decide) ?_
                          refine lv_iadd C.x C.b dlaw_465 ?_
                          obtain ⟨v466, h466, hf⟩ := Option.bind_eq_some_iff.mp hf
                          refine w_sld C M hnm h466 dlaw_466 ?_
                          obtain ⟨o467, g467, hf⟩ := Option.bind_eq_some_iff.mp hf
                          obtain ⟨v467, h467, hf⟩ := Option.bind_eq_some_iff.mp hf
                          refine w_ci M (w_runV C M g467 rfl (c_S_size h467) (cwV 1 C.ts (hgV wm_708 wm_709 wm_710 wm_1 wm_711) rfl rfl rfl (by decide +kernel) ⟨Nat.le_of_ble_eq_true rfl, Nat.le_of_ble_eq_true rfl⟩) rfl hl.1 rfl (Nat.zero_le _) dlaw_467 ⟨by show _ ≤ 600000; omega, by show _ ≤ 7302250; omega⟩) (fun H locs M => ?_)
                          refine w_aload_n C.x C.b dlaw_470 rfl (lv_at hl 2 rfl) ?_
                          refine w_aload_n C.x C.b dlaw_471 rfl (lv_at hl 0 rfl) ?_
                          refine lv_iload_n C.x C.b dlaw_472 rfl (lv_at hl 3 rfl) ?_
                          refine lv_iconst (v := 1) C.x C.b dlaw_473 (by decide) ?_
                          refine lv_iadd C.x C.b dlaw_474 ?_
                          obtain ⟨v475, h475, hf⟩ := Option.bind_eq_some_iff.mp hf
                          refine w_sld C M hnm h475 dlaw_475 ?_
                          obtain ⟨o476, g476, hf⟩ := Option.bind_eq_some_iff.mp hf
                          obtain ⟨v476, h476, hf⟩ := Option.bind_eq_some_iff.mp hf
                          refine w_ci M (w_runV C M g476 rfl (c_M_size h476) (cwV 1 C.ts (hgV wm_1044 wm_1045 wm_1046 wm_6 wm_1047) rfl rfl rfl (by decide +kernel) ⟨Nat.le_of_ble_eq_true rfl, Nat.le_of_ble_eq_true rfl⟩) rfl hl.1 rfl (by simp [va_rf_cat, cat_i, cat_l, cat_n]) dlaw_476 ⟨by show _ ≤ 600000; omega, by show _ ≤ 7302250; omega⟩) (fun H locs M => ?_)
                          refine lv_icmp_eq (tgt := 517) C.x C.b dlaw_479 (by decide) (fun c479 => ?_) (fun c479 => ?_)
                          · rw [if_pos c479] at hf
                            exact b_law_517 C hr hlk hnm hfol (f_law_b18 S g N fol bq b L xs n) ih _ _ _ _ _ _ _ _ _ _ _ M (lv_sub hl [0, 1, 2, 3] rfl) (by omega) (by omega) hf
                          · rw [if_neg c479] at hf
                            cases hf
                        · rw [if_neg c32_9] at hf
                          by_cases c32_10 : (v28 &&& 15) = 10
                          · rw [if_pos c32_10] at hf
                            refine lv_tableIn (tgt := 484) C.x C.b dlaw_32 (by rw [c32_10]; decide) (by rw [c32_10]; decide) (by rw [c32_10]; rfl) (by decide) ?_
                            refine w_aload_n C.x C.b dlaw_484 rfl (lv_at hl 1 rfl) ?_
                            refine w_aload_n C.x C.b dlaw_485 rfl (lv_at hl 0 rfl) ?_
                            refine lv_iload_n C.x C.b dlaw_486 rfl (lv_at hl 3 rfl) ?_
                            refine lv_iconst (v := 1) C.x C.b dlaw_487 (by decide) ?_
                            refine lv_iadd C.x C.b dlaw_488 ?_
                            obtain ⟨v489, h489, hf⟩ := Option.bind_eq_some_iff.mp hf
                            refine w_sld C M hnm h489 dlaw_489 ?_
                            refine w_aload_n C.x C.b dlaw_490 rfl (lv_at hl 0 rfl) ?_
                            refine lv_iload_n C.x C.b dlaw_491 rfl (lv_at hl 3 rfl) ?_
                            refine lv_iconst (v := 2) C.x C.b dlaw_492 (by decide) ?_
                            refine lv_iadd C.x C.b dlaw_493 ?_
                            obtain ⟨v494, h494, hf⟩ := Option.bind_eq_some_iff.mp hf
                            refine w_sld C M hnm h494 dlaw_494 ?_
                            obtain ⟨o495, g495, hf⟩ := Option.bind_eq_some_iff.mp hf
                            obtain ⟨v495, h495, hf⟩ := Option.bind_eq_some_iff.mp hf
                            refine w_ci M (w_runV C M g495 rfl (c_S_byteOf h495) (cwV 2 C.ts (hgV wm_713 wm_714 wm_715 wm_1 wm_716) rfl rfl rfl (by decide +kernel) ⟨Nat.le_of_ble_eq_true rfl, Nat.le_of_ble_eq_true rfl⟩) rfl hl.1 rfl (Nat.zero_le _) dlaw_495 ⟨by show _ ≤ 600000; omega, by show _ ≤ 7302250; omega⟩) (fun H locs M => ?_)
                            refine w_aload_n C.x C.b dlaw_498 rfl (lv_at hl 2 rfl) ?_
                            refine w_aload_n C.x C.b dlaw_499 rfl (lv_at hl 0 rfl) ?_
                            refine lv_iload_n C.x C.b dlaw_500 rfl (lv_at hl 3 rfl) ?_
                            refine lv_iconst (v := 1) C.x C.b dlaw_501 (by decide) ?_
                            refine lv_iadd C.x C.b dlaw_502 ?_
                            obtain ⟨v503, h503, hf⟩ := Option.bind_eq_some_iff.mp hf
                            refine w_sld C M hnm h503 dlaw_503 ?_
                            refine w_aload_n C.x C.b dlaw_504 rfl (lv_at hl 0 rfl) ?_
                            refine lv_iload_n C.x C.b dlaw_505 rfl (lv_at hl 3 rfl) ?_
                            refine lv_iconst (v := 2) C.x C.b dlaw_506 (by decide) ?_
                            refine lv_iadd C.x C.b dlaw_507 ?_
                            obtain ⟨v508, h508, hf⟩ := Option.bind_eq_some_iff.mp hf
                            refine w_sld C M hnm h508 dlaw_508 ?_
                            obtain ⟨o509, g509, hf⟩ := Option.bind_eq_some_iff.mp hf
                            obtain ⟨v509, h509, hf⟩ := Option.bind_eq_some_iff.mp hf
                            refine w_ci M (w_runV C M g509 rfl (c_M_byteOf h509) (cwV 2 C.ts (hgV wm_1048 wm_1049 wm_1050 wm_6 wm_1051) rfl rfl rfl (by decide +kernel) ⟨Nat.le_of_ble_eq_true rfl, Nat.le_of_ble_eq_true rfl⟩) rfl hl.1 rfl (by simp [va_rf_cat, cat_i, cat_l, cat_n]) dlaw_509 ⟨by show _ ≤ 600000; omega, by show _ ≤ 7302250; omega⟩) (fun H locs M => ?_)
                            refine lv_icmp_eq (tgt := 517) C.x C.b dlaw_512 (by decide) (fun c512 => ?_) (fun c512 => ?_)
                            · rw [if_pos c512] at hf
                              exact b_law_517 C hr hlk hnm hfol (f_law_b18 S g N fol bq b L xs n) ih _ _ _ _ _ _ _ _ _ _ _ M (lv_sub hl [0, 1, 2, 3] rfl) (by omega) (by omega) hf
                            · rw [if_neg c512] at hf
                              cases hf
                          · rw [if_neg c32_10] at hf
                            have z32_0 := lv_neT c32_0 (a := 0) (by decide)
                            have z32_1 := lv_neT c32_1 (a := 1) (by decide)
                            have z32_2 := lv_neT c32_2 (a := 2) (by decide)
                            have z32_3 := lv_neT c32_3 (a := 3) (by decide)
                            have z32_4 := lv_neT c32_4 (a := 4) (by decide)
                            have z32_5 := lv_neT c32_5 (a := 5) (by decide)
                            have z32_6 := lv_neT c32_6 (a := 6) (by decide)
                            have z32_7 := lv_neT c32_7 (a := 7) (by decide)
                            have z32_8 := lv_neT c32_8 (a := 8) (by decide)
                            have z32_9 := lv_neT c32_9 (a := 9) (by decide)
                            have z32_10 := lv_neT c32_10 (a := 10) (by decide)
                            refine lv_tableOut (tgt := 517) C.x C.b dlaw_32 (by omega) (by decide) ?_
                            exact b_law_517 C hr hlk hnm hfol (f_law_b18 S g N fol bq b L xs n) ih _ _ _ _ _ _ _ _ _ _ _ M (lv_sub hl [0, 1, 2, 3] rfl) (by omega) (by omega) hf
def f_law (S : hE) (g : Nat → Nat) (N : Nat) (fol : Nat → Option Nat → Option Nat → Int32 → hE → Option (Int32 × hE)) (bq : Nat → Nat → Nat) (b L : Nat) (xs : Nat → Int32) (E : hE) (nx : Nat) : Option (Unit) := (
  (some (va_up E nx (some (.inr (6, [.null, .null]))))).bind fun E0 =>
  (f_S_init N nx E0 (nx + 1)).bind fun v4 =>
  (some (va_up v4.1 v4.2 (some (.inr (7, [.int 0, .null, .null, .null, .null, .null, .null, .null, .int 0, .null, .null, .null, .null, .null, .null, .null, .int 0, .int 0, .int 0, .int 0, .int 0, .int 0, .int 0, .null, .null, .int 0, .null, .null, .null, .null, .null, .null, .null]))))).bind fun E8 =>
  (f_M_init v4.2 E8 (v4.2 + 1)).bind fun v12 =>
  f_law_b18 S g N fol bq b L xs 513 (some b) (some nx) (some v4.2) 0 v12.1 v12.2)
set_option maxHeartbeats 4000000 in
set_option maxRecDepth 100000 in
theorem law_start {p : Program} {l : Launch} {e : Env} {s : State} {m : MethodId} {below : List Frame} {meth : Method} {c : Code} {D : va_G} {kA : Nat → ClassId} {S : hE} {g : Nat → Nat} {n0 : Nat} {N : Nat} {bq : Nat → Nat → Nat} {b L : Nat} {xs : Nat → Int32} {fol : Nat → Option Nat → Option Nat → Int32 → hE → Option (Int32 × hE)} {res : Unit} (C : hX p s m #[Value.ref b] c code 4 R_law lw_ts D kA S g n0) (hr : meth.sig.returnType = ret) (hlk : meth.locks = false) (hnm : n0 = s.heap.size ∧ va_X b L xs s s.heap ∧ b < s.heap.size) (hfol : ∀ {nx x0 : Nat} {x1 x2 : Option Nat} {x3 : Int32} {E : hE} {res : Int32 × hE}, fol x0 x1 x2 x3 E = some res → Met l y_Mach_follow ws_Mach_follow { frames := 16, cells := 0, slots := 0, locals := 444 } (va_Pc [va_rf (some x0), va_rf x1, va_rf x2, .int x3] (hJ D kA S g n0 (E, nx))) (va_Qi (fun r w => r = res.1 ∧ w = (res.2, nx)) (hJ D kA S g n0) (fun q => n0 ≤ q)) 0 0 (fun q => n0 ≤ q)) {E : hE} {nx : Nat} {ls : Array Slot} (M : hY D kA n0 s E nx s.heap []) (hl : lv_has ls 4 [(0, va_rf (some b))]) (hf : f_law S g N fol bq b L xs E nx = some res) : W p l e room_1 s m #[Value.ref b] below meth c s.heap [] 0 0 (lw_Z below #[Value.ref b] s) (F0 m 0 ls []) := by
  have hw0 : (0 : Nat) ≤ 0 := Nat.le_refl _
  unfold f_law at hf
  obtain ⟨E0, h0, hf⟩ := Option.bind_eq_some_iff.mp hf
  have h0 := Option.some.inj h0
  refine w_new (ci := 6) C M (fs := [.null, .null]) ty_S rfl (hm_in in_S) tyok_S (List.mem_cons_of_mem _ wm_23) (List.mem_cons_of_mem _ wm_24) (List.mem_cons_of_mem _ wm_1) (fun j hj => by rcases (show j = 0 ∨ j = 1 by omega) with rfl | rfl <;> rfl) (by show _ ≤ 600000; omega) (by show _ ≤ 7302250; omega) dlaw_0 (fun H M => ?_)
  rw [h0] at M
  refine lv_dup C.x C.b dlaw_3 (va_rf_cat _) ?_
  obtain ⟨v4, h4, hf⟩ := Option.bind_eq_some_iff.mp hf
  refine w_cv M (w_runI C M (c_S_init h4) (cwI 0 C.ts (hgC wm_27) rfl rfl rfl (C.ts (.initialized R_S) (List.mem_cons_of_mem _ wm_1)) (C.ts (.methodLink R_law 9 y_S_init) (List.mem_cons_of_mem _ wm_25)) (C.ts (.instanceMethod y_S_init) (List.mem_cons_of_mem _ wm_26)) rfl (by decide +kernel) ⟨Nat.le_of_ble_eq_true rfl, Nat.le_of_ble_eq_true rfl⟩) rfl hl.1 rfl (by simp [va_rf_cat, cat_i, cat_l, cat_n]) dlaw_4 ⟨by show _ ≤ 600000; omega, by show _ ≤ 7302250; omega⟩) (fun H locs M => ?_)
  refine w_astore_n (lv' := [(1, va_rf (some nx)), (0, va_rf (some b))]) C.x C.b dlaw_7 rfl hl (by decide) rfl (fun ls hl => ?_)
  obtain ⟨E8, h8, hf⟩ := Option.bind_eq_some_iff.mp hf
  have h8 := Option.some.inj h8
  refine w_new (ci := 7) C M (fs := [.int 0, .null, .null, .null, .null, .null, .null, .null, .int 0, .null, .null, .null, .null, .null, .null, .null, .int 0, .int 0, .int 0, .int 0, .int 0, .int 0, .int 0, .null, .null, .int 0, .null, .null, .null, .null, .null, .null, .null]) ty_M rfl (hm_in in_M) tyok_M (List.mem_cons_of_mem _ wm_717) (List.mem_cons_of_mem _ wm_718) (List.mem_cons_of_mem _ wm_6) (fun j hj => by rcases (show j = 0 ∨ j = 1 ∨ j = 2 ∨ j = 3 ∨ j = 4 ∨ j = 5 ∨ j = 6 ∨ j = 7 ∨ j = 8 ∨ j = 9 ∨ j = 10 ∨ j = 11 ∨ j = 12 ∨ j = 13 ∨ j = 14 ∨ j = 15 ∨ j = 16 ∨ j = 17 ∨ j = 18 ∨ j = 19 ∨ j = 20 ∨ j = 21 ∨ j = 22 ∨ j = 23 ∨ j = 24 ∨ j = 25 ∨ j = 26 ∨ j = 27 ∨ j = 28 ∨ j = 29 ∨ j = 30 ∨ j = 31 ∨ j = 32 by omega) with rfl | rfl | rfl | rfl | rfl | rfl | rfl | rfl | rfl | rfl | rfl | rfl | rfl | rfl | rfl | rfl | rfl | rfl | rfl | rfl | rfl | rfl | rfl | rfl | rfl | rfl | rfl | rfl | rfl | rfl | rfl | rfl | rfl <;> rfl) (by show _ ≤ 600000; omega) (by show _ ≤ 7302250; omega) dlaw_8 (fun H M => ?_)
  rw [h8] at M
  refine lv_dup C.x C.b dlaw_11 (va_rf_cat _) ?_
  obtain ⟨v12, h12, hf⟩ := Option.bind_eq_some_iff.mp hf
  refine w_cv M (w_runI C M (c_M_init h12) (cwI 0 C.ts (hgC wm_721) rfl rfl rfl (C.ts (.initialized R_M) (List.mem_cons_of_mem _ wm_6)) (C.ts (.methodLink R_law 12 y_M_init) (List.mem_cons_of_mem _ wm_719)) (C.ts (.instanceMethod y_M_init) (List.mem_cons_of_mem _ wm_720)) rfl (by decide +kernel) ⟨Nat.le_of_ble_eq_true rfl, Nat.le_of_ble_eq_true rfl⟩) rfl hl.1 rfl (by simp [va_rf_cat, cat_i, cat_l, cat_n]) dlaw_12 ⟨by show _ ≤ 600000; omega, by show _ ≤ 7302250; omega⟩) (fun H locs M => ?_)
  refine w_astore_n (lv' := [(2, va_rf (some v4.2)), (1, va_rf (some nx)), (0, va_rf (some b))]) C.x C.b dlaw_15 rfl hl (by decide) rfl (fun ls hl => ?_)
  refine lv_iconst (v := 0) C.x C.b dlaw_16 (by decide) ?_
  refine lv_istore_n (lv' := [(3, .int 0), (2, va_rf (some v4.2)), (1, va_rf (some nx)), (0, va_rf (some b))]) C.x C.b dlaw_17 rfl hl (by decide) rfl (fun ls hl => ?_)
  exact b_law_18 C hr hlk hnm hfol 513 _ _ _ _ _ _ _ _ _ _ _ M (lv_sub hl [3, 2, 1, 0] rfl) (by omega) (by omega) hf
