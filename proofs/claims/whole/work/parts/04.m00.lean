/-! m00: by wip/whole/gen.py -/
theorem dM_init_0 : decode prog_11_method_1_code 0 = .ok (.aload_n 0, 1) := by decide +kernel
theorem dM_init_1 : decode prog_11_method_1_code 1 = .ok (.invokespecial 1, 3) := by decide +kernel
theorem dM_init_4 : decode prog_11_method_1_code 4 = .ok (.aload_n 0, 1) := by decide +kernel
theorem dM_init_5 : decode prog_11_method_1_code 5 = .ok (.sipush 400, 3) := by decide +kernel
theorem dM_init_8 : decode prog_11_method_1_code 8 = .ok (.newarray .int, 2) := by decide +kernel
theorem dM_init_10 : decode prog_11_method_1_code 10 = .ok (.putfield 7, 3) := by decide +kernel
theorem dM_init_13 : decode prog_11_method_1_code 13 = .ok (.aload_n 0, 1) := by decide +kernel
theorem dM_init_14 : decode prog_11_method_1_code 14 = .ok (.sipush 2000, 3) := by decide +kernel
theorem dM_init_17 : decode prog_11_method_1_code 17 = .ok (.newarray .int, 2) := by decide +kernel
theorem dM_init_19 : decode prog_11_method_1_code 19 = .ok (.putfield 13, 3) := by decide +kernel
theorem dM_init_22 : decode prog_11_method_1_code 22 = .ok (.aload_n 0, 1) := by decide +kernel
theorem dM_init_23 : decode prog_11_method_1_code 23 = .ok (.sipush 2000, 3) := by decide +kernel
theorem dM_init_26 : decode prog_11_method_1_code 26 = .ok (.newarray .int, 2) := by decide +kernel
theorem dM_init_28 : decode prog_11_method_1_code 28 = .ok (.putfield 16, 3) := by decide +kernel
theorem dM_init_31 : decode prog_11_method_1_code 31 = .ok (.aload_n 0, 1) := by decide +kernel
theorem dM_init_32 : decode prog_11_method_1_code 32 = .ok (.sipush 2000, 3) := by decide +kernel
theorem dM_init_35 : decode prog_11_method_1_code 35 = .ok (.newarray .int, 2) := by decide +kernel
theorem dM_init_37 : decode prog_11_method_1_code 37 = .ok (.putfield 19, 3) := by decide +kernel
theorem dM_init_40 : decode prog_11_method_1_code 40 = .ok (.aload_n 0, 1) := by decide +kernel
theorem dM_init_41 : decode prog_11_method_1_code 41 = .ok (.iconst 5, 1) := by decide +kernel
theorem dM_init_42 : decode prog_11_method_1_code 42 = .ok (.newarray .int, 2) := by decide +kernel
theorem dM_init_44 : decode prog_11_method_1_code 44 = .ok (.putfield 22, 3) := by decide +kernel
theorem dM_init_47 : decode prog_11_method_1_code 47 = .ok (.aload_n 0, 1) := by decide +kernel
theorem dM_init_48 : decode prog_11_method_1_code 48 = .ok (.iconst 5, 1) := by decide +kernel
theorem dM_init_49 : decode prog_11_method_1_code 49 = .ok (.newarray .boolean, 2) := by decide +kernel
theorem dM_init_51 : decode prog_11_method_1_code 51 = .ok (.putfield 25, 3) := by decide +kernel
theorem dM_init_54 : decode prog_11_method_1_code 54 = .ok (.aload_n 0, 1) := by decide +kernel
theorem dM_init_55 : decode prog_11_method_1_code 55 = .ok (.sipush 130, 3) := by decide +kernel
theorem dM_init_58 : decode prog_11_method_1_code 58 = .ok (.newarray .int, 2) := by decide +kernel
theorem dM_init_60 : decode prog_11_method_1_code 60 = .ok (.putfield 29, 3) := by decide +kernel
theorem dM_init_63 : decode prog_11_method_1_code 63 = .ok (.aload_n 0, 1) := by decide +kernel
theorem dM_init_64 : decode prog_11_method_1_code 64 = .ok (.bipush 7, 2) := by decide +kernel
theorem dM_init_66 : decode prog_11_method_1_code 66 = .ok (.newarray .long, 2) := by decide +kernel
theorem dM_init_68 : decode prog_11_method_1_code 68 = .ok (.putfield 32, 3) := by decide +kernel
theorem dM_init_71 : decode prog_11_method_1_code 71 = .ok (.aload_n 0, 1) := by decide +kernel
theorem dM_init_72 : decode prog_11_method_1_code 72 = .ok (.bipush 7, 2) := by decide +kernel
theorem dM_init_74 : decode prog_11_method_1_code 74 = .ok (.newarray .int, 2) := by decide +kernel
theorem dM_init_76 : decode prog_11_method_1_code 76 = .ok (.putfield 36, 3) := by decide +kernel
theorem dM_init_79 : decode prog_11_method_1_code 79 = .ok (.aload_n 0, 1) := by decide +kernel
theorem dM_init_80 : decode prog_11_method_1_code 80 = .ok (.bipush 7, 2) := by decide +kernel
theorem dM_init_82 : decode prog_11_method_1_code 82 = .ok (.newarray .int, 2) := by decide +kernel
theorem dM_init_84 : decode prog_11_method_1_code 84 = .ok (.putfield 39, 3) := by decide +kernel
theorem dM_init_87 : decode prog_11_method_1_code 87 = .ok (.aload_n 0, 1) := by decide +kernel
theorem dM_init_88 : decode prog_11_method_1_code 88 = .ok (.bipush 10, 2) := by decide +kernel
theorem dM_init_90 : decode prog_11_method_1_code 90 = .ok (.newarray .boolean, 2) := by decide +kernel
theorem dM_init_92 : decode prog_11_method_1_code 92 = .ok (.putfield 42, 3) := by decide +kernel
theorem dM_init_95 : decode prog_11_method_1_code 95 = .ok (.aload_n 0, 1) := by decide +kernel
theorem dM_init_96 : decode prog_11_method_1_code 96 = .ok (.bipush 10, 2) := by decide +kernel
theorem dM_init_98 : decode prog_11_method_1_code 98 = .ok (.newarray .int, 2) := by decide +kernel
theorem dM_init_100 : decode prog_11_method_1_code 100 = .ok (.putfield 45, 3) := by decide +kernel
theorem dM_init_103 : decode prog_11_method_1_code 103 = .ok (.aload_n 0, 1) := by decide +kernel
theorem dM_init_104 : decode prog_11_method_1_code 104 = .ok (.sipush 400, 3) := by decide +kernel
theorem dM_init_107 : decode prog_11_method_1_code 107 = .ok (.newarray .int, 2) := by decide +kernel
theorem dM_init_109 : decode prog_11_method_1_code 109 = .ok (.putfield 48, 3) := by decide +kernel
theorem dM_init_112 : decode prog_11_method_1_code 112 = .ok (.aload_n 0, 1) := by decide +kernel
theorem dM_init_113 : decode prog_11_method_1_code 113 = .ok (.iconst 3, 1) := by decide +kernel
theorem dM_init_114 : decode prog_11_method_1_code 114 = .ok (.newarray .boolean, 2) := by decide +kernel
theorem dM_init_116 : decode prog_11_method_1_code 116 = .ok (.putfield 51, 3) := by decide +kernel
theorem dM_init_119 : decode prog_11_method_1_code 119 = .ok (.aload_n 0, 1) := by decide +kernel
theorem dM_init_120 : decode prog_11_method_1_code 120 = .ok (.bipush 60, 2) := by decide +kernel
theorem dM_init_122 : decode prog_11_method_1_code 122 = .ok (.newarray .int, 2) := by decide +kernel
theorem dM_init_124 : decode prog_11_method_1_code 124 = .ok (.putfield 54, 3) := by decide +kernel
theorem dM_init_127 : decode prog_11_method_1_code 127 = .ok (.aload_n 0, 1) := by decide +kernel
theorem dM_init_128 : decode prog_11_method_1_code 128 = .ok (.bipush 60, 2) := by decide +kernel
theorem dM_init_130 : decode prog_11_method_1_code 130 = .ok (.newarray .int, 2) := by decide +kernel
theorem dM_init_132 : decode prog_11_method_1_code 132 = .ok (.putfield 57, 3) := by decide +kernel
theorem dM_init_135 : decode prog_11_method_1_code 135 = .ok (.aload_n 0, 1) := by decide +kernel
theorem dM_init_136 : decode prog_11_method_1_code 136 = .ok (.iconst 4, 1) := by decide +kernel
theorem dM_init_137 : decode prog_11_method_1_code 137 = .ok (.newarray .int, 2) := by decide +kernel
theorem dM_init_139 : decode prog_11_method_1_code 139 = .ok (.putfield 60, 3) := by decide +kernel
theorem dM_init_142 : decode prog_11_method_1_code 142 = .ok (.aload_n 0, 1) := by decide +kernel
theorem dM_init_143 : decode prog_11_method_1_code 143 = .ok (.iconst 4, 1) := by decide +kernel
theorem dM_init_144 : decode prog_11_method_1_code 144 = .ok (.newarray .int, 2) := by decide +kernel
theorem dM_init_146 : decode prog_11_method_1_code 146 = .ok (.putfield 63, 3) := by decide +kernel
theorem dM_init_149 : decode prog_11_method_1_code 149 = .ok (.aload_n 0, 1) := by decide +kernel
theorem dM_init_150 : decode prog_11_method_1_code 150 = .ok (.iconst 4, 1) := by decide +kernel
theorem dM_init_151 : decode prog_11_method_1_code 151 = .ok (.newarray .int, 2) := by decide +kernel
theorem dM_init_153 : decode prog_11_method_1_code 153 = .ok (.putfield 66, 3) := by decide +kernel
theorem dM_init_156 : decode prog_11_method_1_code 156 = .ok (.aload_n 0, 1) := by decide +kernel
theorem dM_init_157 : decode prog_11_method_1_code 157 = .ok (.bipush 32, 2) := by decide +kernel
theorem dM_init_159 : decode prog_11_method_1_code 159 = .ok (.newarray .int, 2) := by decide +kernel
theorem dM_init_161 : decode prog_11_method_1_code 161 = .ok (.putfield 69, 3) := by decide +kernel
theorem dM_init_164 : decode prog_11_method_1_code 164 = .ok (.aload_n 0, 1) := by decide +kernel
theorem dM_init_165 : decode prog_11_method_1_code 165 = .ok (.sipush 128, 3) := by decide +kernel
theorem dM_init_168 : decode prog_11_method_1_code 168 = .ok (.newarray .int, 2) := by decide +kernel
theorem dM_init_170 : decode prog_11_method_1_code 170 = .ok (.putfield 72, 3) := by decide +kernel
theorem dM_init_173 : decode prog_11_method_1_code 173 = .ok (.aload_n 0, 1) := by decide +kernel
theorem dM_init_174 : decode prog_11_method_1_code 174 = .ok (.iconst 4, 1) := by decide +kernel
theorem dM_init_175 : decode prog_11_method_1_code 175 = .ok (.newarray .int, 2) := by decide +kernel
theorem dM_init_177 : decode prog_11_method_1_code 177 = .ok (.putfield 75, 3) := by decide +kernel
theorem dM_init_180 : decode prog_11_method_1_code 180 = .ok (.aload_n 0, 1) := by decide +kernel
theorem dM_init_181 : decode prog_11_method_1_code 181 = .ok (.bipush 32, 2) := by decide +kernel
theorem dM_init_183 : decode prog_11_method_1_code 183 = .ok (.newarray .int, 2) := by decide +kernel
theorem dM_init_185 : decode prog_11_method_1_code 185 = .ok (.putfield 78, 3) := by decide +kernel
theorem dM_init_188 : decode prog_11_method_1_code 188 = .ok (.return_, 1) := by decide +kernel
abbrev rm_M_init : Room := { frames := 1, cells := 23, slots := 7312, locals := 40 }
def f_M_init  (x0 : Nat) (E : hE) (nx : Nat) : Option (hE × Nat) := (
  (nA E nx 0 400 400).bind fun E8 =>
  (sR E8 (some x0) 7 1 (some nx)).bind fun E10 =>
  (nA E10 (nx + 1) 0 2000 2000).bind fun E17 =>
  (sR E17 (some x0) 7 2 (some (nx + 1))).bind fun E19 =>
  (nA E19 (nx + 1 + 1) 0 2000 2000).bind fun E26 =>
  (sR E26 (some x0) 7 3 (some (nx + 1 + 1))).bind fun E28 =>
  (nA E28 (nx + 1 + 1 + 1) 0 2000 2000).bind fun E35 =>
  (sR E35 (some x0) 7 4 (some (nx + 1 + 1 + 1))).bind fun E37 =>
  (nA E37 (nx + 1 + 1 + 1 + 1) 0 5 5).bind fun E42 =>
  (sR E42 (some x0) 7 5 (some (nx + 1 + 1 + 1 + 1))).bind fun E44 =>
  (nA E44 (nx + 1 + 1 + 1 + 1 + 1) 1 5 5).bind fun E49 =>
  (sR E49 (some x0) 7 6 (some (nx + 1 + 1 + 1 + 1 + 1))).bind fun E51 =>
  (nA E51 (nx + 1 + 1 + 1 + 1 + 1 + 1) 0 130 130).bind fun E58 =>
  (sR E58 (some x0) 7 7 (some (nx + 1 + 1 + 1 + 1 + 1 + 1))).bind fun E60 =>
  (nJ E60 (nx + 1 + 1 + 1 + 1 + 1 + 1 + 1) 2 7 7).bind fun E66 =>
  (sR E66 (some x0) 7 9 (some (nx + 1 + 1 + 1 + 1 + 1 + 1 + 1))).bind fun E68 =>
  (nA E68 (nx + 1 + 1 + 1 + 1 + 1 + 1 + 1 + 1) 0 7 7).bind fun E74 =>
  (sR E74 (some x0) 7 10 (some (nx + 1 + 1 + 1 + 1 + 1 + 1 + 1 + 1))).bind fun E76 =>
  (nA E76 (nx + 1 + 1 + 1 + 1 + 1 + 1 + 1 + 1 + 1) 0 7 7).bind fun E82 =>
  (sR E82 (some x0) 7 11 (some (nx + 1 + 1 + 1 + 1 + 1 + 1 + 1 + 1 + 1))).bind fun E84 =>
  (nA E84 (nx + 1 + 1 + 1 + 1 + 1 + 1 + 1 + 1 + 1 + 1) 1 10 10).bind fun E90 =>
  (sR E90 (some x0) 7 12 (some (nx + 1 + 1 + 1 + 1 + 1 + 1 + 1 + 1 + 1 + 1))).bind fun E92 =>
  (nA E92 (nx + 1 + 1 + 1 + 1 + 1 + 1 + 1 + 1 + 1 + 1 + 1) 0 10 10).bind fun E98 =>
  (sR E98 (some x0) 7 13 (some (nx + 1 + 1 + 1 + 1 + 1 + 1 + 1 + 1 + 1 + 1 + 1))).bind fun E100 =>
  (nA E100 (nx + 1 + 1 + 1 + 1 + 1 + 1 + 1 + 1 + 1 + 1 + 1 + 1) 0 400 400).bind fun E107 =>
  (sR E107 (some x0) 7 14 (some (nx + 1 + 1 + 1 + 1 + 1 + 1 + 1 + 1 + 1 + 1 + 1 + 1))).bind fun E109 =>
  (nA E109 (nx + 1 + 1 + 1 + 1 + 1 + 1 + 1 + 1 + 1 + 1 + 1 + 1 + 1) 1 3 3).bind fun E114 =>
  (sR E114 (some x0) 7 15 (some (nx + 1 + 1 + 1 + 1 + 1 + 1 + 1 + 1 + 1 + 1 + 1 + 1 + 1))).bind fun E116 =>
  (nA E116 (nx + 1 + 1 + 1 + 1 + 1 + 1 + 1 + 1 + 1 + 1 + 1 + 1 + 1 + 1) 0 60 60).bind fun E122 =>
  (sR E122 (some x0) 7 23 (some (nx + 1 + 1 + 1 + 1 + 1 + 1 + 1 + 1 + 1 + 1 + 1 + 1 + 1 + 1))).bind fun E124 =>
  (nA E124 (nx + 1 + 1 + 1 + 1 + 1 + 1 + 1 + 1 + 1 + 1 + 1 + 1 + 1 + 1 + 1) 0 60 60).bind fun E130 =>
  (sR E130 (some x0) 7 24 (some (nx + 1 + 1 + 1 + 1 + 1 + 1 + 1 + 1 + 1 + 1 + 1 + 1 + 1 + 1 + 1))).bind fun E132 =>
  (nA E132 (nx + 1 + 1 + 1 + 1 + 1 + 1 + 1 + 1 + 1 + 1 + 1 + 1 + 1 + 1 + 1 + 1) 0 4 4).bind fun E137 =>
  (sR E137 (some x0) 7 26 (some (nx + 1 + 1 + 1 + 1 + 1 + 1 + 1 + 1 + 1 + 1 + 1 + 1 + 1 + 1 + 1 + 1))).bind fun E139 =>
  (nA E139 (nx + 1 + 1 + 1 + 1 + 1 + 1 + 1 + 1 + 1 + 1 + 1 + 1 + 1 + 1 + 1 + 1 + 1) 0 4 4).bind fun E144 =>
  (sR E144 (some x0) 7 27 (some (nx + 1 + 1 + 1 + 1 + 1 + 1 + 1 + 1 + 1 + 1 + 1 + 1 + 1 + 1 + 1 + 1 + 1))).bind fun E146 =>
  (nA E146 (nx + 1 + 1 + 1 + 1 + 1 + 1 + 1 + 1 + 1 + 1 + 1 + 1 + 1 + 1 + 1 + 1 + 1 + 1) 0 4 4).bind fun E151 =>
  (sR E151 (some x0) 7 28 (some (nx + 1 + 1 + 1 + 1 + 1 + 1 + 1 + 1 + 1 + 1 + 1 + 1 + 1 + 1 + 1 + 1 + 1 + 1))).bind fun E153 =>
  (nA E153 (nx + 1 + 1 + 1 + 1 + 1 + 1 + 1 + 1 + 1 + 1 + 1 + 1 + 1 + 1 + 1 + 1 + 1 + 1 + 1) 0 32 32).bind fun E159 =>
  (sR E159 (some x0) 7 29 (some (nx + 1 + 1 + 1 + 1 + 1 + 1 + 1 + 1 + 1 + 1 + 1 + 1 + 1 + 1 + 1 + 1 + 1 + 1 + 1))).bind fun E161 =>
  (nA E161 (nx + 1 + 1 + 1 + 1 + 1 + 1 + 1 + 1 + 1 + 1 + 1 + 1 + 1 + 1 + 1 + 1 + 1 + 1 + 1 + 1) 0 128 128).bind fun E168 =>
  (sR E168 (some x0) 7 30 (some (nx + 1 + 1 + 1 + 1 + 1 + 1 + 1 + 1 + 1 + 1 + 1 + 1 + 1 + 1 + 1 + 1 + 1 + 1 + 1 + 1))).bind fun E170 =>
  (nA E170 (nx + 1 + 1 + 1 + 1 + 1 + 1 + 1 + 1 + 1 + 1 + 1 + 1 + 1 + 1 + 1 + 1 + 1 + 1 + 1 + 1 + 1) 0 4 4).bind fun E175 =>
  (sR E175 (some x0) 7 31 (some (nx + 1 + 1 + 1 + 1 + 1 + 1 + 1 + 1 + 1 + 1 + 1 + 1 + 1 + 1 + 1 + 1 + 1 + 1 + 1 + 1 + 1))).bind fun E177 =>
  (nA E177 (nx + 1 + 1 + 1 + 1 + 1 + 1 + 1 + 1 + 1 + 1 + 1 + 1 + 1 + 1 + 1 + 1 + 1 + 1 + 1 + 1 + 1 + 1) 0 32 32).bind fun E183 =>
  (sR E183 (some x0) 7 32 (some (nx + 1 + 1 + 1 + 1 + 1 + 1 + 1 + 1 + 1 + 1 + 1 + 1 + 1 + 1 + 1 + 1 + 1 + 1 + 1 + 1 + 1 + 1))).bind fun E185 =>
  some (E185, nx + 1 + 1 + 1 + 1 + 1 + 1 + 1 + 1 + 1 + 1 + 1 + 1 + 1 + 1 + 1 + 1 + 1 + 1 + 1 + 1 + 1 + 1 + 1))
set_option maxHeartbeats 4000000 in
set_option maxRecDepth 100000 in
theorem c_M_init {l : Launch} {D : va_G} {kA : Nat → ClassId} {S : hE} {g : Nat → Nat} {n0 nx : Nat} {x0 : Nat} {E : hE} {res : hE × Nat} (hf : f_M_init x0 E nx = some res) : Met l y_M_init ws_M_init rm_M_init (va_Pc [va_rf (some x0)] (hJ D kA S g n0 (E, nx))) (va_Qv (fun w => w = res) (hJ D kA S g n0) (fun q => n0 ≤ q)) 23 7312 (fun q => n0 ≤ q) := by
  refine h_met (cc := prog_11_method_1_code) (maxL := 1) (ret := none) (lvs := [(0, va_rf (some x0))]) zZ_k (by decide) rfl (by simp [lg_sl, va_rf_cat, cat_i, cat_l, cat_n]) (by simp [lv_args, va_rf_cat, cat_i, cat_l, cat_n]) ?_
  intro p e s m below meth c ls C M hr hlk hnm hl
  unfold f_M_init at hf
  refine w_aload_n C.x C.b dM_init_0 rfl (lv_at hl 0 rfl) ?_
  refine W.objInit C.x C.b C.ow (C.ts (.methodLink R_M 1 objectInit) (List.mem_cons_of_mem _ wm_722)) (C.ts (.instanceMethod objectInit) (List.mem_cons_of_mem _ wm_29)) (C.ts _ (List.mem_cons_of_mem _ wm_30)) rfl (by rw [C.ml]; exact hl.1) rfl dM_init_1 (Nat.le_of_ble_eq_true rfl) (Nat.le_of_ble_eq_true rfl) ?_
  refine W.eq (g2 := F0 m 4 ls []) rfl ?_
  refine w_aload_n C.x C.b dM_init_4 rfl (lv_at hl 0 rfl) ?_
  refine lv_sipush (v := 400) C.x C.b dM_init_5 (by decide) ?_
  obtain ⟨E8, h8, hf⟩ := Option.bind_eq_some_iff.mp hf
  refine w_newI (atype := .int) (ty := .int) C M h8 (List.mem_cons_of_mem _ wm_57) rfl rfl (fun _ _ h => h) (fun _ _ => rfl) (by decide) (by show _ ≤ 23; omega) (by show _ ≤ 7312; omega) dM_init_8 (fun H M => ?_)
  obtain ⟨E10, h10, hf⟩ := Option.bind_eq_some_iff.mp hf
  refine w_putVF (ty := (.array .int)) C M ty_M h10 rfl (hm_in in_M) tyok_M nm_M (by decide) (List.mem_cons_of_mem _ wm_724) rfl rfl hnm rfl (by decide +kernel) (narrow_a _ _) (fits_a _ _) dM_init_10 (fun H locs M => ?_)
  refine w_aload_n C.x C.b dM_init_13 rfl (lv_at hl 0 rfl) ?_
  refine lv_sipush (v := 2000) C.x C.b dM_init_14 (by decide) ?_
  obtain ⟨E17, h17, hf⟩ := Option.bind_eq_some_iff.mp hf
  refine w_newI (atype := .int) (ty := .int) C M h17 (List.mem_cons_of_mem _ wm_57) rfl rfl (fun _ _ h => h) (fun _ _ => rfl) (by decide) (by show _ ≤ 23; omega) (by show _ ≤ 7312; omega) dM_init_17 (fun H M => ?_)
  obtain ⟨E19, h19, hf⟩ := Option.bind_eq_some_iff.mp hf
  refine w_putVF (ty := (.array .int)) C M ty_M h19 rfl (hm_in in_M) tyok_M nm_M (by decide) (List.mem_cons_of_mem _ wm_725) rfl rfl hnm rfl (by decide +kernel) (narrow_a _ _) (fits_a _ _) dM_init_19 (fun H locs M => ?_)
  refine w_aload_n C.x C.b dM_init_22 rfl (lv_at hl 0 rfl) ?_
  refine lv_sipush (v := 2000) C.x C.b dM_init_23 (by decide) ?_
  obtain ⟨E26, h26, hf⟩ := Option.bind_eq_some_iff.mp hf
  refine w_newI (atype := .int) (ty := .int) C M h26 (List.mem_cons_of_mem _ wm_57) rfl rfl (fun _ _ h => h) (fun _ _ => rfl) (by decide) (by show _ ≤ 23; omega) (by show _ ≤ 7312; omega) dM_init_26 (fun H M => ?_)
  obtain ⟨E28, h28, hf⟩ := Option.bind_eq_some_iff.mp hf
  refine w_putVF (ty := (.array .int)) C M ty_M h28 rfl (hm_in in_M) tyok_M nm_M (by decide) (List.mem_cons_of_mem _ wm_726) rfl rfl hnm rfl (by decide +kernel) (narrow_a _ _) (fits_a _ _) dM_init_28 (fun H locs M => ?_)
  refine w_aload_n C.x C.b dM_init_31 rfl (lv_at hl 0 rfl) ?_
  refine lv_sipush (v := 2000) C.x C.b dM_init_32 (by decide) ?_
  obtain ⟨E35, h35, hf⟩ := Option.bind_eq_some_iff.mp hf
  refine w_newI (atype := .int) (ty := .int) C M h35 (List.mem_cons_of_mem _ wm_57) rfl rfl (fun _ _ h => h) (fun _ _ => rfl) (by decide) (by show _ ≤ 23; omega) (by show _ ≤ 7312; omega) dM_init_35 (fun H M => ?_)
  obtain ⟨E37, h37, hf⟩ := Option.bind_eq_some_iff.mp hf
  refine w_putVF (ty := (.array .int)) C M ty_M h37 rfl (hm_in in_M) tyok_M nm_M (by decide) (List.mem_cons_of_mem _ wm_727) rfl rfl hnm rfl (by decide +kernel) (narrow_a _ _) (fits_a _ _) dM_init_37 (fun H locs M => ?_)
  refine w_aload_n C.x C.b dM_init_40 rfl (lv_at hl 0 rfl) ?_
  refine lv_iconst (v := 5) C.x C.b dM_init_41 (by decide) ?_
  obtain ⟨E42, h42, hf⟩ := Option.bind_eq_some_iff.mp hf
  refine w_newI (atype := .int) (ty := .int) C M h42 (List.mem_cons_of_mem _ wm_57) rfl rfl (fun _ _ h => h) (fun _ _ => rfl) (by decide) (by show _ ≤ 23; omega) (by show _ ≤ 7312; omega) dM_init_42 (fun H M => ?_)
  obtain ⟨E44, h44, hf⟩ := Option.bind_eq_some_iff.mp hf
  refine w_putVF (ty := (.array .int)) C M ty_M h44 rfl (hm_in in_M) tyok_M nm_M (by decide) (List.mem_cons_of_mem _ wm_728) rfl rfl hnm rfl (by decide +kernel) (narrow_a _ _) (fits_a _ _) dM_init_44 (fun H locs M => ?_)
  refine w_aload_n C.x C.b dM_init_47 rfl (lv_at hl 0 rfl) ?_
  refine lv_iconst (v := 5) C.x C.b dM_init_48 (by decide) ?_
  obtain ⟨E49, h49, hf⟩ := Option.bind_eq_some_iff.mp hf
  refine w_newI (atype := .boolean) (ty := .boolean) C M h49 (List.mem_cons_of_mem _ wm_130) rfl rfl (fun _ _ h => h) (fun _ _ => rfl) (by decide) (by show _ ≤ 23; omega) (by show _ ≤ 7312; omega) dM_init_49 (fun H M => ?_)
  obtain ⟨E51, h51, hf⟩ := Option.bind_eq_some_iff.mp hf
  refine w_putVF (ty := (.array .boolean)) C M ty_M h51 rfl (hm_in in_M) tyok_M nm_M (by decide) (List.mem_cons_of_mem _ wm_729) rfl rfl hnm rfl (by decide +kernel) (narrow_a _ _) (fits_a _ _) dM_init_51 (fun H locs M => ?_)
  refine w_aload_n C.x C.b dM_init_54 rfl (lv_at hl 0 rfl) ?_
  refine lv_sipush (v := 130) C.x C.b dM_init_55 (by decide) ?_
  obtain ⟨E58, h58, hf⟩ := Option.bind_eq_some_iff.mp hf
  refine w_newI (atype := .int) (ty := .int) C M h58 (List.mem_cons_of_mem _ wm_57) rfl rfl (fun _ _ h => h) (fun _ _ => rfl) (by decide) (by show _ ≤ 23; omega) (by show _ ≤ 7312; omega) dM_init_58 (fun H M => ?_)
  obtain ⟨E60, h60, hf⟩ := Option.bind_eq_some_iff.mp hf
  refine w_putVF (ty := (.array .int)) C M ty_M h60 rfl (hm_in in_M) tyok_M nm_M (by decide) (List.mem_cons_of_mem _ wm_730) rfl rfl hnm rfl (by decide +kernel) (narrow_a _ _) (fits_a _ _) dM_init_60 (fun H locs M => ?_)
  refine w_aload_n C.x C.b dM_init_63 rfl (lv_at hl 0 rfl) ?_
  refine lv_bipush (v := 7) C.x C.b dM_init_64 (by decide) ?_
  obtain ⟨E66, h66, hf⟩ := Option.bind_eq_some_iff.mp hf
  refine w_newJ (atype := .long) (ty := .long) C M h66 (List.mem_cons_of_mem _ wm_823) rfl rfl (fun _ _ h => h) (fun _ _ => rfl) (by decide) (by show _ ≤ 23; omega) (by show _ ≤ 7312; omega) dM_init_66 (fun H M => ?_)
  obtain ⟨E68, h68, hf⟩ := Option.bind_eq_some_iff.mp hf
  refine w_putVF (ty := (.array .long)) C M ty_M h68 rfl (hm_in in_M) tyok_M nm_M (by decide) (List.mem_cons_of_mem _ wm_732) rfl rfl hnm rfl (by decide +kernel) (narrow_a _ _) (fits_a _ _) dM_init_68 (fun H locs M => ?_)
  refine w_aload_n C.x C.b dM_init_71 rfl (lv_at hl 0 rfl) ?_
  refine lv_bipush (v := 7) C.x C.b dM_init_72 (by decide) ?_
  obtain ⟨E74, h74, hf⟩ := Option.bind_eq_some_iff.mp hf
  refine w_newI (atype := .int) (ty := .int) C M h74 (List.mem_cons_of_mem _ wm_57) rfl rfl (fun _ _ h => h) (fun _ _ => rfl) (by decide) (by show _ ≤ 23; omega) (by show _ ≤ 7312; omega) dM_init_74 (fun H M => ?_)
  obtain ⟨E76, h76, hf⟩ := Option.bind_eq_some_iff.mp hf
  refine w_putVF (ty := (.array .int)) C M ty_M h76 rfl (hm_in in_M) tyok_M nm_M (by decide) (List.mem_cons_of_mem _ wm_733) rfl rfl hnm rfl (by decide +kernel) (narrow_a _ _) (fits_a _ _) dM_init_76 (fun H locs M => ?_)
  refine w_aload_n C.x C.b dM_init_79 rfl (lv_at hl 0 rfl) ?_
  refine lv_bipush (v := 7) C.x C.b dM_init_80 (by decide) ?_
  obtain ⟨E82, h82, hf⟩ := Option.bind_eq_some_iff.mp hf
  refine w_newI (atype := .int) (ty := .int) C M h82 (List.mem_cons_of_mem _ wm_57) rfl rfl (fun _ _ h => h) (fun _ _ => rfl) (by decide) (by show _ ≤ 23; omega) (by show _ ≤ 7312; omega) dM_init_82 (fun H M => ?_)
  obtain ⟨E84, h84, hf⟩ := Option.bind_eq_some_iff.mp hf
  refine w_putVF (ty := (.array .int)) C M ty_M h84 rfl (hm_in in_M) tyok_M nm_M (by decide) (List.mem_cons_of_mem _ wm_734) rfl rfl hnm rfl (by decide +kernel) (narrow_a _ _) (fits_a _ _) dM_init_84 (fun H locs M => ?_)
  refine w_aload_n C.x C.b dM_init_87 rfl (lv_at hl 0 rfl) ?_
  refine lv_bipush (v := 10) C.x C.b dM_init_88 (by decide) ?_
  obtain ⟨E90, h90, hf⟩ := Option.bind_eq_some_iff.mp hf
  refine w_newI (atype := .boolean) (ty := .boolean) C M h90 (List.mem_cons_of_mem _ wm_130) rfl rfl (fun _ _ h => h) (fun _ _ => rfl) (by decide) (by show _ ≤ 23; omega) (by show _ ≤ 7312; omega) dM_init_90 (fun H M => ?_)
  obtain ⟨E92, h92, hf⟩ := Option.bind_eq_some_iff.mp hf
  refine w_putVF (ty := (.array .boolean)) C M ty_M h92 rfl (hm_in in_M) tyok_M nm_M (by decide) (List.mem_cons_of_mem _ wm_735) rfl rfl hnm rfl (by decide +kernel) (narrow_a _ _) (fits_a _ _) dM_init_92 (fun H locs M => ?_)
  refine w_aload_n C.x C.b dM_init_95 rfl (lv_at hl 0 rfl) ?_
  refine lv_bipush (v := 10) C.x C.b dM_init_96 (by decide) ?_
  obtain ⟨E98, h98, hf⟩ := Option.bind_eq_some_iff.mp hf
  refine w_newI (atype := .int) (ty := .int) C M h98 (List.mem_cons_of_mem _ wm_57) rfl rfl (fun _ _ h => h) (fun _ _ => rfl) (by decide) (by show _ ≤ 23; omega) (by show _ ≤ 7312; omega) dM_init_98 (fun H M => ?_)
  obtain ⟨E100, h100, hf⟩ := Option.bind_eq_some_iff.mp hf
  refine w_putVF (ty := (.array .int)) C M ty_M h100 rfl (hm_in in_M) tyok_M nm_M (by decide) (List.mem_cons_of_mem _ wm_736) rfl rfl hnm rfl (by decide +kernel) (narrow_a _ _) (fits_a _ _) dM_init_100 (fun H locs M => ?_)
  refine w_aload_n C.x C.b dM_init_103 rfl (lv_at hl 0 rfl) ?_
  refine lv_sipush (v := 400) C.x C.b dM_init_104 (by decide) ?_
  obtain ⟨E107, h107, hf⟩ := Option.bind_eq_some_iff.mp hf
  refine w_newI (atype := .int) (ty := .int) C M h107 (List.mem_cons_of_mem _ wm_57) rfl rfl (fun _ _ h => h) (fun _ _ => rfl) (by decide) (by show _ ≤ 23; omega) (by show _ ≤ 7312; omega) dM_init_107 (fun H M => ?_)
  obtain ⟨E109, h109, hf⟩ := Option.bind_eq_some_iff.mp hf
  refine w_putVF (ty := (.array .int)) C M ty_M h109 rfl (hm_in in_M) tyok_M nm_M (by decide) (List.mem_cons_of_mem _ wm_737) rfl rfl hnm rfl (by decide +kernel) (narrow_a _ _) (fits_a _ _) dM_init_109 (fun H locs M => ?_)
  refine w_aload_n C.x C.b dM_init_112 rfl (lv_at hl 0 rfl) ?_
  refine lv_iconst (v := 3) C.x C.b dM_init_113 (by decide) ?_
  obtain ⟨E114, h114, hf⟩ := Option.bind_eq_some_iff.mp hf
  refine w_newI (atype := .boolean) (ty := .boolean) C M h114 (List.mem_cons_of_mem _ wm_130) rfl rfl (fun _ _ h => h) (fun _ _ => rfl) (by decide) (by show _ ≤ 23; omega) (by show _ ≤ 7312; omega) dM_init_114 (fun H M => ?_)
  obtain ⟨E116, h116, hf⟩ := Option.bind_eq_some_iff.mp hf
  refine w_putVF (ty := (.array .boolean)) C M ty_M h116 rfl (hm_in in_M) tyok_M nm_M (by decide) (List.mem_cons_of_mem _ wm_738) rfl rfl hnm rfl (by decide +kernel) (narrow_a _ _) (fits_a _ _) dM_init_116 (fun H locs M => ?_)
  refine w_aload_n C.x C.b dM_init_119 rfl (lv_at hl 0 rfl) ?_
  refine lv_bipush (v := 60) C.x C.b dM_init_120 (by decide) ?_
  obtain ⟨E122, h122, hf⟩ := Option.bind_eq_some_iff.mp hf
  refine w_newI (atype := .int) (ty := .int) C M h122 (List.mem_cons_of_mem _ wm_57) rfl rfl (fun _ _ h => h) (fun _ _ => rfl) (by decide) (by show _ ≤ 23; omega) (by show _ ≤ 7312; omega) dM_init_122 (fun H M => ?_)
  obtain ⟨E124, h124, hf⟩ := Option.bind_eq_some_iff.mp hf
  refine w_putVF (ty := (.array .int)) C M ty_M h124 rfl (hm_in in_M) tyok_M nm_M (by decide) (List.mem_cons_of_mem _ wm_746) rfl rfl hnm rfl (by decide +kernel) (narrow_a _ _) (fits_a _ _) dM_init_124 (fun H locs M => ?_)
  refine w_aload_n C.x C.b dM_init_127 rfl (lv_at hl 0 rfl) ?_
  refine lv_bipush (v := 60) C.x C.b dM_init_128 (by decide) ?_
  obtain ⟨E130, h130, hf⟩ := Option.bind_eq_some_iff.mp hf
  refine w_newI (atype := .int) (ty := .int) C M h130 (List.mem_cons_of_mem _ wm_57) rfl rfl (fun _ _ h => h) (fun _ _ => rfl) (by decide) (by show _ ≤ 23; omega) (by show _ ≤ 7312; omega) dM_init_130 (fun H M => ?_)
  obtain ⟨E132, h132, hf⟩ := Option.bind_eq_some_iff.mp hf
  refine w_putVF (ty := (.array .int)) C M ty_M h132 rfl (hm_in in_M) tyok_M nm_M (by decide) (List.mem_cons_of_mem _ wm_747) rfl rfl hnm rfl (by decide +kernel) (narrow_a _ _) (fits_a _ _) dM_init_132 (fun H locs M => ?_)
  refine w_aload_n C.x C.b dM_init_135 rfl (lv_at hl 0 rfl) ?_
  refine lv_iconst (v := 4) C.x C.b dM_init_136 (by decide) ?_
  obtain ⟨E137, h137, hf⟩ := Option.bind_eq_some_iff.mp hf
  refine w_newI (atype := .int) (ty := .int) C M h137 (List.mem_cons_of_mem _ wm_57) rfl rfl (fun _ _ h => h) (fun _ _ => rfl) (by decide) (by show _ ≤ 23; omega) (by show _ ≤ 7312; omega) dM_init_137 (fun H M => ?_)
  obtain ⟨E139, h139, hf⟩ := Option.bind_eq_some_iff.mp hf
  refine w_putVF (ty := (.array .int)) C M ty_M h139 rfl (hm_in in_M) tyok_M nm_M (by decide) (List.mem_cons_of_mem _ wm_749) rfl rfl hnm rfl (by decide +kernel) (narrow_a _ _) (fits_a _ _) dM_init_139 (fun H locs M => ?_)
  refine w_aload_n C.x C.b dM_init_142 rfl (lv_at hl 0 rfl) ?_
  refine lv_iconst (v := 4) C.x C.b dM_init_143 (by decide) ?_
  obtain ⟨E144, h144, hf⟩ := Option.bind_eq_some_iff.mp hf
  refine w_newI (atype := .int) (ty := .int) C M h144 (List.mem_cons_of_mem _ wm_57) rfl rfl (fun _ _ h => h) (fun _ _ => rfl) (by decide) (by show _ ≤ 23; omega) (by show _ ≤ 7312; omega) dM_init_144 (fun H M => ?_)
  obtain ⟨E146, h146, hf⟩ := Option.bind_eq_some_iff.mp hf
  refine w_putVF (ty := (.array .int)) C M ty_M h146 rfl (hm_in in_M) tyok_M nm_M (by decide) (List.mem_cons_of_mem _ wm_750) rfl rfl hnm rfl (by decide +kernel) (narrow_a _ _) (fits_a _ _) dM_init_146 (fun H locs M => ?_)
  refine w_aload_n C.x C.b dM_init_149 rfl (lv_at hl 0 rfl) ?_
  refine lv_iconst (v := 4) C.x C.b dM_init_150 (by decide) ?_
  obtain ⟨E151, h151, hf⟩ := Option.bind_eq_some_iff.mp hf
  refine w_newI (atype := .int) (ty := .int) C M h151 (List.mem_cons_of_mem _ wm_57) rfl rfl (fun _ _ h => h) (fun _ _ => rfl) (by decide) (by show _ ≤ 23; omega) (by show _ ≤ 7312; omega) dM_init_151 (fun H M => ?_)
  obtain ⟨E153, h153, hf⟩ := Option.bind_eq_some_iff.mp hf
  refine w_putVF (ty := (.array .int)) C M ty_M h153 rfl (hm_in in_M) tyok_M nm_M (by decide) (List.mem_cons_of_mem _ wm_751) rfl rfl hnm rfl (by decide +kernel) (narrow_a _ _) (fits_a _ _) dM_init_153 (fun H locs M => ?_)
  refine w_aload_n C.x C.b dM_init_156 rfl (lv_at hl 0 rfl) ?_
  refine lv_bipush (v := 32) C.x C.b dM_init_157 (by decide) ?_
  obtain ⟨E159, h159, hf⟩ := Option.bind_eq_some_iff.mp hf
  refine w_newI (atype := .int) (ty := .int) C M h159 (List.mem_cons_of_mem _ wm_57) rfl rfl (fun _ _ h => h) (fun _ _ => rfl) (by decide) (by show _ ≤ 23; omega) (by show _ ≤ 7312; omega) dM_init_159 (fun H M => ?_)
  obtain ⟨E161, h161, hf⟩ := Option.bind_eq_some_iff.mp hf
  refine w_putVF (ty := (.array .int)) C M ty_M h161 rfl (hm_in in_M) tyok_M nm_M (by decide) (List.mem_cons_of_mem _ wm_752) rfl rfl hnm rfl (by decide +kernel) (narrow_a _ _) (fits_a _ _) dM_init_161 (fun H locs M => ?_)
  refine w_aload_n C.x C.b dM_init_164 rfl (lv_at hl 0 rfl) ?_
  refine lv_sipush (v := 128) C.x C.b dM_init_165 (by decide) ?_
  obtain ⟨E168, h168, hf⟩ := Option.bind_eq_some_iff.mp hf
  refine w_newI (atype := .int) (ty := .int) C M h168 (List.mem_cons_of_mem _ wm_57) rfl rfl (fun _ _ h => h) (fun _ _ => rfl) (by decide) (by show _ ≤ 23; omega) (by show _ ≤ 7312; omega) dM_init_168 (fun H M => ?_)
  obtain ⟨E170, h170, hf⟩ := Option.bind_eq_some_iff.mp hf
  refine w_putVF (ty := (.array .int)) C M ty_M h170 rfl (hm_in in_M) tyok_M nm_M (by decide) (List.mem_cons_of_mem _ wm_753) rfl rfl hnm rfl (by decide +kernel) (narrow_a _ _) (fits_a _ _) dM_init_170 (fun H locs M => ?_)
  refine w_aload_n C.x C.b dM_init_173 rfl (lv_at hl 0 rfl) ?_
  refine lv_iconst (v := 4) C.x C.b dM_init_174 (by decide) ?_
  obtain ⟨E175, h175, hf⟩ := Option.bind_eq_some_iff.mp hf
  refine w_newI (atype := .int) (ty := .int) C M h175 (List.mem_cons_of_mem _ wm_57) rfl rfl (fun _ _ h => h) (fun _ _ => rfl) (by decide) (by show _ ≤ 23; omega) (by show _ ≤ 7312; omega) dM_init_175 (fun H M => ?_)
  obtain ⟨E177, h177, hf⟩ := Option.bind_eq_some_iff.mp hf
  refine w_putVF (ty := (.array .int)) C M ty_M h177 rfl (hm_in in_M) tyok_M nm_M (by decide) (List.mem_cons_of_mem _ wm_754) rfl rfl hnm rfl (by decide +kernel) (narrow_a _ _) (fits_a _ _) dM_init_177 (fun H locs M => ?_)
  refine w_aload_n C.x C.b dM_init_180 rfl (lv_at hl 0 rfl) ?_
  refine lv_bipush (v := 32) C.x C.b dM_init_181 (by decide) ?_
  obtain ⟨E183, h183, hf⟩ := Option.bind_eq_some_iff.mp hf
  refine w_newI (atype := .int) (ty := .int) C M h183 (List.mem_cons_of_mem _ wm_57) rfl rfl (fun _ _ h => h) (fun _ _ => rfl) (by decide) (by show _ ≤ 23; omega) (by show _ ≤ 7312; omega) dM_init_183 (fun H M => ?_)
  obtain ⟨E185, h185, hf⟩ := Option.bind_eq_some_iff.mp hf
  refine w_putVF (ty := (.array .int)) C M ty_M h185 rfl (hm_in in_M) tyok_M nm_M (by decide) (List.mem_cons_of_mem _ wm_755) rfl rfl hnm rfl (by decide +kernel) (narrow_a _ _) (fits_a _ _) dM_init_185 (fun H locs M => ?_)
  cases hf
  exact w_vret C M hr hlk (by omega) (by omega) dM_init_188 rfl
theorem dM_in_0 : decode prog_11_method_2_code 0 = .ok (.iload_n 0, 1) := by decide +kernel
theorem dM_in_1 : decode prog_11_method_2_code 1 = .ok (.iload_n 1, 1) := by decide +kernel
theorem dM_in_2 : decode prog_11_method_2_code 2 = .ok (.if_icmp .lt 12, 3) := by decide +kernel
theorem dM_in_5 : decode prog_11_method_2_code 5 = .ok (.iload_n 0, 1) := by decide +kernel
theorem dM_in_6 : decode prog_11_method_2_code 6 = .ok (.iload_n 2, 1) := by decide +kernel
theorem dM_in_7 : decode prog_11_method_2_code 7 = .ok (.if_icmp .gt 7, 3) := by decide +kernel
theorem dM_in_10 : decode prog_11_method_2_code 10 = .ok (.iconst 1, 1) := by decide +kernel
theorem dM_in_11 : decode prog_11_method_2_code 11 = .ok (.goto 4, 3) := by decide +kernel
theorem dM_in_14 : decode prog_11_method_2_code 14 = .ok (.iconst 0, 1) := by decide +kernel
theorem dM_in_15 : decode prog_11_method_2_code 15 = .ok (.ireturn, 1) := by decide +kernel
abbrev rm_M_in : Room := { frames := 0, cells := 0, slots := 0, locals := 0 }
def f_M_in_b15 (E : hE) (t0 : Int32) : Option (Int32) := (
  (bZ t0).bind fun v15 =>
  some v15)
set_option maxHeartbeats 4000000 in
set_option maxRecDepth 100000 in
theorem b_M_in_15 {p : Program} {l : Launch} {e : Env} {s : State} {m : MethodId} {args : Array Value} {below : List Frame} {meth : Method} {c : Code} {D : va_G} {kA : Nat → ClassId} {S : hE} {g : Nat → Nat} {n0 nx : Nat} {E : hE} {res : Int32} (C : hX p s m args c prog_11_method_2_code 3 R_M ws_M_in D kA S g n0) (hr : meth.sig.returnType = (some .boolean)) (hlk : meth.locks = false) (hnm : meth.name = "in") : ∀ (t0 : Int32) (H : Heap) (locs : List Loc) (ls : Array Slot), hY D kA n0 s E nx H locs → lv_has ls 3 [] → f_M_in_b15 E  t0 = some res → W p l e rm_M_in s m args below meth c H locs 0 0 (MQ below (va_Qi (fun r w => r = res ∧ w = (E, nx)) (hJ D kA S g n0) (fun q => n0 ≤ q)) args s 0 0 (fun q => n0 ≤ q)) (F0 m 15 ls [.int t0]) := by
  intro t0 H locs ls M hl hf
  unfold f_M_in_b15 at hf
  obtain ⟨v15, h15, hf⟩ := Option.bind_eq_some_iff.mp hf
  obtain ⟨rfl, g15⟩ := bZ_some h15
  cases hf
  exact w_iret C M hr hlk (narrow_z g15) (Nat.le_refl _) (Nat.le_refl _) dM_in_15 rfl rfl
def f_M_in_b14 (E : hE) : Option (Int32) := (
  f_M_in_b15 E 0)
set_option maxHeartbeats 4000000 in
set_option maxRecDepth 100000 in
theorem b_M_in_14 {p : Program} {l : Launch} {e : Env} {s : State} {m : MethodId} {args : Array Value} {below : List Frame} {meth : Method} {c : Code} {D : va_G} {kA : Nat → ClassId} {S : hE} {g : Nat → Nat} {n0 nx : Nat} {E : hE} {res : Int32} (C : hX p s m args c prog_11_method_2_code 3 R_M ws_M_in D kA S g n0) (hr : meth.sig.returnType = (some .boolean)) (hlk : meth.locks = false) (hnm : meth.name = "in") : ∀  (H : Heap) (locs : List Loc) (ls : Array Slot), hY D kA n0 s E nx H locs → lv_has ls 3 [] → f_M_in_b14 E   = some res → W p l e rm_M_in s m args below meth c H locs 0 0 (MQ below (va_Qi (fun r w => r = res ∧ w = (E, nx)) (hJ D kA S g n0) (fun q => n0 ≤ q)) args s 0 0 (fun q => n0 ≤ q)) (F0 m 14 ls []) := by
  intro  H locs ls M hl hf
  unfold f_M_in_b14 at hf
  refine lv_iconst (v := 0) C.x C.b dM_in_14 (by decide) ?_
  exact b_M_in_15 C hr hlk hnm _ _ _ _ M (lv_sub hl [] rfl) hf
def f_M_in (E : hE) (x0 : Int32) (x1 : Int32) (x2 : Int32) : Option (Int32) := (
  if x0 < x1 then (
  f_M_in_b14 E 
  ) else (
  if x2 < x0 then (
  f_M_in_b14 E 
  ) else (
  f_M_in_b15 E 1
  )
  ))
set_option maxHeartbeats 4000000 in
set_option maxRecDepth 100000 in
theorem c_M_in {l : Launch} {D : va_G} {kA : Nat → ClassId} {S : hE} {g : Nat → Nat} {n0 nx : Nat} {x0 : Int32} {x1 : Int32} {x2 : Int32} {E : hE} {res : Int32} (hf : f_M_in E x0 x1 x2 = some res) : Met l y_M_in ws_M_in rm_M_in (va_Pc [.int x0, .int x1, .int x2] (hJ D kA S g n0 (E, nx))) (va_Qi (fun r w => r = res ∧ w = (E, nx)) (hJ D kA S g n0) (fun q => n0 ≤ q)) 0 0 (fun q => n0 ≤ q) := by
  refine h_met (cc := prog_11_method_2_code) (maxL := 3) (ret := (some .boolean)) (lvs := [(0, .int x0), (1, .int x1), (2, .int x2)]) zZ_k (by decide) rfl (by simp [lg_sl, va_rf_cat, cat_i, cat_l, cat_n]) (by simp [lv_args, va_rf_cat, cat_i, cat_l, cat_n]) ?_
  intro p e s m below meth c ls C M hr hlk hnm hl
  unfold f_M_in at hf
  refine lv_iload_n C.x C.b dM_in_0 rfl (lv_at hl 0 rfl) ?_
  refine lv_iload_n C.x C.b dM_in_1 rfl (lv_at hl 1 rfl) ?_
  refine lv_icmp_lt (tgt := 14) C.x C.b dM_in_2 (by decide) (fun c2 => ?_) (fun c2 => ?_)
  · rw [if_pos c2] at hf
    exact b_M_in_14 C hr hlk hnm _ _ _ M (lv_sub hl [] rfl) hf
  · rw [if_neg c2] at hf
    refine lv_iload_n C.x C.b dM_in_5 rfl (lv_at hl 0 rfl) ?_
    refine lv_iload_n C.x C.b dM_in_6 rfl (lv_at hl 2 rfl) ?_
    refine lv_icmp_gt (tgt := 14) C.x C.b dM_in_7 (by decide) (fun c7 => ?_) (fun c7 => ?_)
    · rw [if_pos c7] at hf
      exact b_M_in_14 C hr hlk hnm _ _ _ M (lv_sub hl [] rfl) hf
    · rw [if_neg c7] at hf
      refine lv_iconst (v := 1) C.x C.b dM_in_10 (by decide) ?_
      refine lv_goto (tgt := 15) C.x C.b dM_in_11 (by decide) ?_
      exact b_M_in_15 C hr hlk hnm _ _ _ _ M (lv_sub hl [] rfl) hf
theorem dM_text_0 : decode prog_11_method_3_code 0 = .ok (.iconst 0, 1) := by decide +kernel
theorem dM_text_1 : decode prog_11_method_3_code 1 = .ok (.istore_n 3, 1) := by decide +kernel
theorem dM_text_2 : decode prog_11_method_3_code 2 = .ok (.bipush 56, 2) := by decide +kernel
theorem dM_text_4 : decode prog_11_method_3_code 4 = .ok (.istore 4, 2) := by decide +kernel
theorem dM_text_6 : decode prog_11_method_3_code 6 = .ok (.iload 4, 2) := by decide +kernel
theorem dM_text_8 : decode prog_11_method_3_code 8 = .ok (.ifCond .lt 52, 3) := by decide +kernel
theorem dM_text_11 : decode prog_11_method_3_code 11 = .ok (.lload_n 1, 1) := by decide +kernel
theorem dM_text_12 : decode prog_11_method_3_code 12 = .ok (.iload 4, 2) := by decide +kernel
theorem dM_text_14 : decode prog_11_method_3_code 14 = .ok (.lushr, 1) := by decide +kernel
theorem dM_text_15 : decode prog_11_method_3_code 15 = .ok (.ldc2_w 81, 3) := by decide +kernel
theorem dM_text_18 : decode prog_11_method_3_code 18 = .ok (.land, 1) := by decide +kernel
theorem dM_text_19 : decode prog_11_method_3_code 19 = .ok (.l2i, 1) := by decide +kernel
theorem dM_text_20 : decode prog_11_method_3_code 20 = .ok (.istore 5, 2) := by decide +kernel
theorem dM_text_22 : decode prog_11_method_3_code 22 = .ok (.iload 5, 2) := by decide +kernel
theorem dM_text_24 : decode prog_11_method_3_code 24 = .ok (.ifCond .ne 6, 3) := by decide +kernel
theorem dM_text_27 : decode prog_11_method_3_code 27 = .ok (.goto 27, 3) := by decide +kernel
theorem dM_text_30 : decode prog_11_method_3_code 30 = .ok (.iload 5, 2) := by decide +kernel
theorem dM_text_32 : decode prog_11_method_3_code 32 = .ok (.bipush 10, 2) := by decide +kernel
theorem dM_text_34 : decode prog_11_method_3_code 34 = .ok (.if_icmp .eq 17, 3) := by decide +kernel
theorem dM_text_37 : decode prog_11_method_3_code 37 = .ok (.iload 5, 2) := by decide +kernel
theorem dM_text_39 : decode prog_11_method_3_code 39 = .ok (.bipush 32, 2) := by decide +kernel
theorem dM_text_41 : decode prog_11_method_3_code 41 = .ok (.bipush 126, 2) := by decide +kernel
theorem dM_text_43 : decode prog_11_method_3_code 43 = .ok (.invokestatic 83, 3) := by decide +kernel
theorem dM_text_46 : decode prog_11_method_3_code 46 = .ok (.ifCond .ne 5, 3) := by decide +kernel
theorem dM_text_49 : decode prog_11_method_3_code 49 = .ok (.iconst 0, 1) := by decide +kernel
theorem dM_text_50 : decode prog_11_method_3_code 50 = .ok (.ireturn, 1) := by decide +kernel
theorem dM_text_51 : decode prog_11_method_3_code 51 = .ok (.iinc 3 1, 3) := by decide +kernel
theorem dM_text_54 : decode prog_11_method_3_code 54 = .ok (.iinc 4 (-8), 3) := by decide +kernel
theorem dM_text_57 : decode prog_11_method_3_code 57 = .ok (.goto (-51), 3) := by decide +kernel
theorem dM_text_60 : decode prog_11_method_3_code 60 = .ok (.aload_n 0, 1) := by decide +kernel
theorem dM_text_61 : decode prog_11_method_3_code 61 = .ok (.getfield 87, 3) := by decide +kernel
theorem dM_text_64 : decode prog_11_method_3_code 64 = .ok (.iload_n 3, 1) := by decide +kernel
theorem dM_text_65 : decode prog_11_method_3_code 65 = .ok (.iadd, 1) := by decide +kernel
theorem dM_text_66 : decode prog_11_method_3_code 66 = .ok (.sipush 400, 3) := by decide +kernel
theorem dM_text_69 : decode prog_11_method_3_code 69 = .ok (.if_icmp .le 5, 3) := by decide +kernel
theorem dM_text_72 : decode prog_11_method_3_code 72 = .ok (.iconst 0, 1) := by decide +kernel
theorem dM_text_73 : decode prog_11_method_3_code 73 = .ok (.ireturn, 1) := by decide +kernel
theorem dM_text_74 : decode prog_11_method_3_code 74 = .ok (.bipush 56, 2) := by decide +kernel
theorem dM_text_76 : decode prog_11_method_3_code 76 = .ok (.istore 4, 2) := by decide +kernel
theorem dM_text_78 : decode prog_11_method_3_code 78 = .ok (.iload 4, 2) := by decide +kernel
theorem dM_text_80 : decode prog_11_method_3_code 80 = .ok (.ifCond .lt 49, 3) := by decide +kernel
theorem dM_text_83 : decode prog_11_method_3_code 83 = .ok (.lload_n 1, 1) := by decide +kernel
theorem dM_text_84 : decode prog_11_method_3_code 84 = .ok (.iload 4, 2) := by decide +kernel
theorem dM_text_86 : decode prog_11_method_3_code 86 = .ok (.lushr, 1) := by decide +kernel
theorem dM_text_87 : decode prog_11_method_3_code 87 = .ok (.ldc2_w 81, 3) := by decide +kernel
theorem dM_text_90 : decode prog_11_method_3_code 90 = .ok (.land, 1) := by decide +kernel
theorem dM_text_91 : decode prog_11_method_3_code 91 = .ok (.l2i, 1) := by decide +kernel
theorem dM_text_92 : decode prog_11_method_3_code 92 = .ok (.istore 5, 2) := by decide +kernel
theorem dM_text_94 : decode prog_11_method_3_code 94 = .ok (.iload 5, 2) := by decide +kernel
theorem dM_text_96 : decode prog_11_method_3_code 96 = .ok (.ifCond .ne 6, 3) := by decide +kernel
theorem dM_text_99 : decode prog_11_method_3_code 99 = .ok (.goto 24, 3) := by decide +kernel
theorem dM_text_102 : decode prog_11_method_3_code 102 = .ok (.aload_n 0, 1) := by decide +kernel
theorem dM_text_103 : decode prog_11_method_3_code 103 = .ok (.getfield 7, 3) := by decide +kernel
theorem dM_text_106 : decode prog_11_method_3_code 106 = .ok (.aload_n 0, 1) := by decide +kernel
theorem dM_text_107 : decode prog_11_method_3_code 107 = .ok (.getfield 87, 3) := by decide +kernel
theorem dM_text_110 : decode prog_11_method_3_code 110 = .ok (.iload 5, 2) := by decide +kernel
theorem dM_text_112 : decode prog_11_method_3_code 112 = .ok (.iastore, 1) := by decide +kernel
theorem dM_text_113 : decode prog_11_method_3_code 113 = .ok (.aload_n 0, 1) := by decide +kernel
theorem dM_text_114 : decode prog_11_method_3_code 114 = .ok (.dup, 1) := by decide +kernel
theorem dM_text_115 : decode prog_11_method_3_code 115 = .ok (.getfield 87, 3) := by decide +kernel
theorem dM_text_118 : decode prog_11_method_3_code 118 = .ok (.iconst 1, 1) := by decide +kernel
theorem dM_text_119 : decode prog_11_method_3_code 119 = .ok (.iadd, 1) := by decide +kernel
theorem dM_text_120 : decode prog_11_method_3_code 120 = .ok (.putfield 87, 3) := by decide +kernel
theorem dM_text_123 : decode prog_11_method_3_code 123 = .ok (.iinc 4 (-8), 3) := by decide +kernel
theorem dM_text_126 : decode prog_11_method_3_code 126 = .ok (.goto (-48), 3) := by decide +kernel
theorem dM_text_129 : decode prog_11_method_3_code 129 = .ok (.iconst 1, 1) := by decide +kernel
theorem dM_text_130 : decode prog_11_method_3_code 130 = .ok (.ireturn, 1) := by decide +kernel
abbrev rm_M_text : Room := { frames := 1, cells := 0, slots := 0, locals := 22 }
def f_M_text_b123 (N : Nat) (k78 : Option Nat → Int64 → Int32 → hE → Option (Int32 × hE)) (y0 : Option Nat) (y1 : Int64) (y4 : Int32) (E : hE) : Option (Int32 × hE) := (
  k78 y0 y1 (y4 + (-8)) E)
set_option maxHeartbeats 4000000 in
set_option maxRecDepth 100000 in
theorem b_M_text_123 {p : Program} {l : Launch} {e : Env} {s : State} {m : MethodId} {args : Array Value} {below : List Frame} {meth : Method} {c : Code} {D : va_G} {kA : Nat → ClassId} {S : hE} {g : Nat → Nat} {n0 nx : Nat} {N : Nat} {res : Int32 × hE} (C : hX p s m args c prog_11_method_3_code 6 R_M ws_M_text D kA S g n0) (hr : meth.sig.returnType = (some .boolean)) (hlk : meth.locks = false) (hnm : meth.name = "text") (k78 : Option Nat → Int64 → Int32 → hE → Option (Int32 × hE)) (hk78 : ∀ (y0 : Option Nat) (y1 : Int64) (y4 : Int32) (E : hE) (H : Heap) (locs : List Loc) (ls : Array Slot), hY D kA n0 s E nx H locs → lv_has ls 6 [(0, va_rf y0), (1, .long y1), (4, .int y4)] → k78 y0 y1 y4 E = some res → W p l e rm_M_text s m args below meth c H locs 0 0 (MQ below (va_Qi (fun r w => r = res.1 ∧ w = (res.2, nx)) (hJ D kA S g n0) (fun q => n0 ≤ q)) args s 0 0 (fun q => n0 ≤ q)) (F0 m 78 ls [])) : ∀ (y0 : Option Nat) (y1 : Int64) (y4 : Int32) (E : hE) (H : Heap) (locs : List Loc) (ls : Array Slot), hY D kA n0 s E nx H locs → lv_has ls 6 [(0, va_rf y0), (1, .long y1), (4, .int y4)] → f_M_text_b123 N k78 y0 y1 y4 E = some res → W p l e rm_M_text s m args below meth c H locs 0 0 (MQ below (va_Qi (fun r w => r = res.1 ∧ w = (res.2, nx)) (hJ D kA S g n0) (fun q => n0 ≤ q)) args s 0 0 (fun q => n0 ≤ q)) (F0 m 123 ls []) := by
  intro y0 y1 y4 E H locs ls M hl hf
  unfold f_M_text_b123 at hf
  refine lv_iinc (v := y4 + (-8)) (lv' := [(4, .int (y4 + (-8))), (0, va_rf y0), (1, .long y1)]) C.x C.b dM_text_123 hl (k := 2) rfl rfl (by decide) rfl (fun ls hl => ?_)
  refine lv_goto (tgt := 78) C.x C.b dM_text_126 (by decide) ?_
  exact hk78 _ _ _ _ _ _ _ M (lv_sub hl [1, 2, 0] rfl) hf
def f_M_text_b78 (N : Nat) : Nat → Option Nat → Int64 → Int32 → hE → Option (Int32 × hE)
  | 0, _, _, _, _ => none
  | n + 1, y0, y1, y4, E => (
  if y4 < 0 then (
  some (1, E)
  ) else (
  if ((((y1.toUInt64 >>> (y4.toInt64.toUInt64 &&& Int64.toUInt64 63)).toInt64) &&& 255).toInt32) = 0 then (
  f_M_text_b123 N (f_M_text_b78 N n) y0 y1 y4 E
  ) else (
  (gR E y0 7 1).bind fun v103 =>
  (gI E y0 7 0).bind fun v107 =>
  (tI E v103 0 v107 ((((y1.toUInt64 >>> (y4.toInt64.toUInt64 &&& Int64.toUInt64 63)).toInt64) &&& 255).toInt32)).bind fun E112 =>
  (gI E112 y0 7 0).bind fun v115 =>
  (sI E112 y0 7 0 (v115 + 1)).bind fun E120 =>
  f_M_text_b123 N (f_M_text_b78 N n) y0 y1 y4 E120
  )
  ))
set_option maxHeartbeats 4000000 in
set_option maxRecDepth 100000 in
theorem b_M_text_78 {p : Program} {l : Launch} {e : Env} {s : State} {m : MethodId} {args : Array Value} {below : List Frame} {meth : Method} {c : Code} {D : va_G} {kA : Nat → ClassId} {S : hE} {g : Nat → Nat} {n0 nx : Nat} {N : Nat} {res : Int32 × hE} (C : hX p s m args c prog_11_method_3_code 6 R_M ws_M_text D kA S g n0) (hr : meth.sig.returnType = (some .boolean)) (hlk : meth.locks = false) (hnm : meth.name = "text") : ∀ n : Nat, ∀ (y0 : Option Nat) (y1 : Int64) (y4 : Int32) (E : hE) (H : Heap) (locs : List Loc) (ls : Array Slot), hY D kA n0 s E nx H locs → lv_has ls 6 [(0, va_rf y0), (1, .long y1), (4, .int y4)] → f_M_text_b78 N n y0 y1 y4 E = some res → W p l e rm_M_text s m args below meth c H locs 0 0 (MQ below (va_Qi (fun r w => r = res.1 ∧ w = (res.2, nx)) (hJ D kA S g n0) (fun q => n0 ≤ q)) args s 0 0 (fun q => n0 ≤ q)) (F0 m 78 ls []) := by
  intro n
  induction n with
  | zero =>
    intro y0 y1 y4 E H locs ls M hl hf
    simp [f_M_text_b78] at hf
  | succ n ih =>
    intro y0 y1 y4 E H locs ls M hl hf
    rw [f_M_text_b78] at hf
    refine lv_iload C.x C.b dM_text_78 (lv_at hl 2 rfl) ?_
    refine lv_if_lt (tgt := 129) C.x C.b dM_text_80 (by decide) (fun c80 => ?_) (fun c80 => ?_)
    · rw [if_pos c80] at hf
      refine lv_iconst (v := 1) C.x C.b dM_text_129 (by decide) ?_
      cases hf
      exact w_iret C M hr hlk rfl (Nat.le_refl _) (Nat.le_refl _) dM_text_130 rfl rfl
    · rw [if_neg c80] at hf
      refine lv_lload_n C.x C.b dM_text_83 rfl (lv_at hl 1 rfl) ?_
      refine lv_iload C.x C.b dM_text_84 (lv_at hl 2 rfl) ?_
      refine lv_lushr C.x C.b dM_text_86 rfl ?_
      refine lv_ldc2 (v := 255) C.x C.b C.ow (C.ts (.constantLong R_M 81 255) (List.mem_cons_of_mem _ wm_828)) dM_text_87 ?_
      refine lv_land C.x C.b dM_text_90 ?_
      refine lv_l2i C.x C.b dM_text_91 rfl ?_
      refine lv_istore (lv' := [(5, .int ((((y1.toUInt64 >>> (y4.toInt64.toUInt64 &&& Int64.toUInt64 63)).toInt64) &&& 255).toInt32)), (0, va_rf y0), (1, .long y1), (4, .int y4)]) C.x C.b dM_text_92 hl (by decide) rfl (fun ls hl => ?_)
      refine lv_iload C.x C.b dM_text_94 (lv_at hl 0 rfl) ?_
      refine lv_if_ne (tgt := 102) C.x C.b dM_text_96 (by decide) (fun c96 => ?_) (fun c96 => ?_)
      · rw [if_neg c96] at hf
        refine w_aload_n C.x C.b dM_text_102 rfl (lv_at hl 1 rfl) ?_
        obtain ⟨v103, h103, hf⟩ := Option.bind_eq_some_iff.mp hf
        refine w_getR C M h103 rfl (hm_in in_M) (by decide) (List.mem_cons_of_mem _ wm_724) rfl dM_text_103 ?_
        refine w_aload_n C.x C.b dM_text_106 rfl (lv_at hl 1 rfl) ?_
        obtain ⟨v107, h107, hf⟩ := Option.bind_eq_some_iff.mp hf
        refine w_getI C M h107 rfl (hm_in in_M) (by decide) (List.mem_cons_of_mem _ wm_723) rfl dM_text_107 ?_
        refine lv_iload C.x C.b dM_text_110 (lv_at hl 0 rfl) ?_
        obtain ⟨E112, h112, hf⟩ := Option.bind_eq_some_iff.mp hf
        refine w_iast C M h112 rfl dM_text_112 (fun H locs M => ?_)
        refine w_aload_n C.x C.b dM_text_113 rfl (lv_at hl 1 rfl) ?_
        refine lv_dup C.x C.b dM_text_114 (va_rf_cat _) ?_
        obtain ⟨v115, h115, hf⟩ := Option.bind_eq_some_iff.mp hf
        refine w_getI C M h115 rfl (hm_in in_M) (by decide) (List.mem_cons_of_mem _ wm_723) rfl dM_text_115 ?_
        refine lv_iconst (v := 1) C.x C.b dM_text_118 (by decide) ?_
        refine lv_iadd C.x C.b dM_text_119 ?_
        obtain ⟨E120, h120, hf⟩ := Option.bind_eq_some_iff.mp hf
        refine w_putV (ty := .int) C M ty_M h120 rfl (hm_in in_M) tyok_M nm_M (by decide) (List.mem_cons_of_mem _ wm_723) rfl rfl (by decide +kernel) rfl rfl dM_text_120 (fun H locs M => ?_)
        exact b_M_text_123 C hr hlk hnm (f_M_text_b78 N n) ih _ _ _ _ _ _ _ M (lv_sub hl [1, 2, 3] rfl) hf
      · rw [if_pos c96] at hf
        refine lv_goto (tgt := 123) C.x C.b dM_text_99 (by decide) ?_
        exact b_M_text_123 C hr hlk hnm (f_M_text_b78 N n) ih _ _ _ _ _ _ _ M (lv_sub hl [1, 2, 3] rfl) hf
def f_M_text_b54 (N : Nat) (k6 : Option Nat → Int64 → Int32 → Int32 → hE → Option (Int32 × hE)) (y0 : Option Nat) (y1 : Int64) (y3 : Int32) (y4 : Int32) (E : hE) : Option (Int32 × hE) := (
  k6 y0 y1 y3 (y4 + (-8)) E)
set_option maxHeartbeats 4000000 in
set_option maxRecDepth 100000 in
theorem b_M_text_54 {p : Program} {l : Launch} {e : Env} {s : State} {m : MethodId} {args : Array Value} {below : List Frame} {meth : Method} {c : Code} {D : va_G} {kA : Nat → ClassId} {S : hE} {g : Nat → Nat} {n0 nx : Nat} {N : Nat} {res : Int32 × hE} (C : hX p s m args c prog_11_method_3_code 6 R_M ws_M_text D kA S g n0) (hr : meth.sig.returnType = (some .boolean)) (hlk : meth.locks = false) (hnm : meth.name = "text") (k6 : Option Nat → Int64 → Int32 → Int32 → hE → Option (Int32 × hE)) (hk6 : ∀ (y0 : Option Nat) (y1 : Int64) (y3 : Int32) (y4 : Int32) (E : hE) (H : Heap) (locs : List Loc) (ls : Array Slot), hY D kA n0 s E nx H locs → lv_has ls 6 [(0, va_rf y0), (1, .long y1), (3, .int y3), (4, .int y4)] → k6 y0 y1 y3 y4 E = some res → W p l e rm_M_text s m args below meth c H locs 0 0 (MQ below (va_Qi (fun r w => r = res.1 ∧ w = (res.2, nx)) (hJ D kA S g n0) (fun q => n0 ≤ q)) args s 0 0 (fun q => n0 ≤ q)) (F0 m 6 ls [])) : ∀ (y0 : Option Nat) (y1 : Int64) (y3 : Int32) (y4 : Int32) (E : hE) (H : Heap) (locs : List Loc) (ls : Array Slot), hY D kA n0 s E nx H locs → lv_has ls 6 [(0, va_rf y0), (1, .long y1), (3, .int y3), (4, .int y4)] → f_M_text_b54 N k6 y0 y1 y3 y4 E = some res → W p l e rm_M_text s m args below meth c H locs 0 0 (MQ below (va_Qi (fun r w => r = res.1 ∧ w = (res.2, nx)) (hJ D kA S g n0) (fun q => n0 ≤ q)) args s 0 0 (fun q => n0 ≤ q)) (F0 m 54 ls []) := by
  intro y0 y1 y3 y4 E H locs ls M hl hf
  unfold f_M_text_b54 at hf
  refine lv_iinc (v := y4 + (-8)) (lv' := [(4, .int (y4 + (-8))), (0, va_rf y0), (1, .long y1), (3, .int y3)]) C.x C.b dM_text_54 hl (k := 3) rfl rfl (by decide) rfl (fun ls hl => ?_)
  refine lv_goto (tgt := 6) C.x C.b dM_text_57 (by decide) ?_
  exact hk6 _ _ _ _ _ _ _ _ M (lv_sub hl [1, 2, 3, 0] rfl) hf
def f_M_text_b51 (N : Nat) (k6 : Option Nat → Int64 → Int32 → Int32 → hE → Option (Int32 × hE)) (y0 : Option Nat) (y1 : Int64) (y3 : Int32) (y4 : Int32) (E : hE) : Option (Int32 × hE) := (
  f_M_text_b54 N k6 y0 y1 (y3 + 1) y4 E)
set_option maxHeartbeats 4000000 in
set_option maxRecDepth 100000 in
theorem b_M_text_51 {p : Program} {l : Launch} {e : Env} {s : State} {m : MethodId} {args : Array Value} {below : List Frame} {meth : Method} {c : Code} {D : va_G} {kA : Nat → ClassId} {S : hE} {g : Nat → Nat} {n0 nx : Nat} {N : Nat} {res : Int32 × hE} (C : hX p s m args c prog_11_method_3_code 6 R_M ws_M_text D kA S g n0) (hr : meth.sig.returnType = (some .boolean)) (hlk : meth.locks = false) (hnm : meth.name = "text") (k6 : Option Nat → Int64 → Int32 → Int32 → hE → Option (Int32 × hE)) (hk6 : ∀ (y0 : Option Nat) (y1 : Int64) (y3 : Int32) (y4 : Int32) (E : hE) (H : Heap) (locs : List Loc) (ls : Array Slot), hY D kA n0 s E nx H locs → lv_has ls 6 [(0, va_rf y0), (1, .long y1), (3, .int y3), (4, .int y4)] → k6 y0 y1 y3 y4 E = some res → W p l e rm_M_text s m args below meth c H locs 0 0 (MQ below (va_Qi (fun r w => r = res.1 ∧ w = (res.2, nx)) (hJ D kA S g n0) (fun q => n0 ≤ q)) args s 0 0 (fun q => n0 ≤ q)) (F0 m 6 ls [])) : ∀ (y0 : Option Nat) (y1 : Int64) (y3 : Int32) (y4 : Int32) (E : hE) (H : Heap) (locs : List Loc) (ls : Array Slot), hY D kA n0 s E nx H locs → lv_has ls 6 [(0, va_rf y0), (1, .long y1), (3, .int y3), (4, .int y4)] → f_M_text_b51 N k6 y0 y1 y3 y4 E = some res → W p l e rm_M_text s m args below meth c H locs 0 0 (MQ below (va_Qi (fun r w => r = res.1 ∧ w = (res.2, nx)) (hJ D kA S g n0) (fun q => n0 ≤ q)) args s 0 0 (fun q => n0 ≤ q)) (F0 m 51 ls []) := by
  intro y0 y1 y3 y4 E H locs ls M hl hf
  unfold f_M_text_b51 at hf
  refine lv_iinc (v := y3 + 1) (lv' := [(3, .int (y3 + 1)), (0, va_rf y0), (1, .long y1), (4, .int y4)]) C.x C.b dM_text_51 hl (k := 2) rfl rfl (by decide) rfl (fun ls hl => ?_)
  exact b_M_text_54 C hr hlk hnm k6 hk6 _ _ _ _ _ _ _ _ M (lv_sub hl [1, 2, 0, 3] rfl) hf
def f_M_text_b6 (N : Nat) : Nat → Option Nat → Int64 → Int32 → Int32 → hE → Option (Int32 × hE)
  | 0, _, _, _, _, _ => none
  | n + 1, y0, y1, y3, y4, E => (
  if y4 < 0 then (
  (gI E y0 7 0).bind fun v61 =>
  if (v61 + y3) ≤ 400 then (
  f_M_text_b78 N N y0 y1 56 E
  ) else (
  some (0, E)
  )
  ) else (
  if ((((y1.toUInt64 >>> (y4.toInt64.toUInt64 &&& Int64.toUInt64 63)).toInt64) &&& 255).toInt32) = 0 then (
  f_M_text_b54 N (f_M_text_b6 N n) y0 y1 y3 y4 E
  ) else (
  if ((((y1.toUInt64 >>> (y4.toInt64.toUInt64 &&& Int64.toUInt64 63)).toInt64) &&& 255).toInt32) = 10 then (
  f_M_text_b51 N (f_M_text_b6 N n) y0 y1 y3 y4 E
  ) else (
  (f_M_in E ((((y1.toUInt64 >>> (y4.toInt64.toUInt64 &&& Int64.toUInt64 63)).toInt64) &&& 255).toInt32) 32 126).bind fun v43 =>
  if v43 = 0 then (
  some (0, E)
  ) else (
  f_M_text_b51 N (f_M_text_b6 N n) y0 y1 y3 y4 E
  )
  )
  )
  ))
set_option maxHeartbeats 4000000 in
set_option maxRecDepth 100000 in
theorem b_M_text_6 {p : Program} {l : Launch} {e : Env} {s : State} {m : MethodId} {args : Array Value} {below : List Frame} {meth : Method} {c : Code} {D : va_G} {kA : Nat → ClassId} {S : hE} {g : Nat → Nat} {n0 nx : Nat} {N : Nat} {res : Int32 × hE} (C : hX p s m args c prog_11_method_3_code 6 R_M ws_M_text D kA S g n0) (hr : meth.sig.returnType = (some .boolean)) (hlk : meth.locks = false) (hnm : meth.name = "text") : ∀ n : Nat, ∀ (y0 : Option Nat) (y1 : Int64) (y3 : Int32) (y4 : Int32) (E : hE) (H : Heap) (locs : List Loc) (ls : Array Slot), hY D kA n0 s E nx H locs → lv_has ls 6 [(0, va_rf y0), (1, .long y1), (3, .int y3), (4, .int y4)] → f_M_text_b6 N n y0 y1 y3 y4 E = some res → W p l e rm_M_text s m args below meth c H locs 0 0 (MQ below (va_Qi (fun r w => r = res.1 ∧ w = (res.2, nx)) (hJ D kA S g n0) (fun q => n0 ≤ q)) args s 0 0 (fun q => n0 ≤ q)) (F0 m 6 ls []) := by
  intro n
  induction n with
  | zero =>
    intro y0 y1 y3 y4 E H locs ls M hl hf
    simp [f_M_text_b6] at hf
  | succ n ih =>
    intro y0 y1 y3 y4 E H locs ls M hl hf
    rw [f_M_text_b6] at hf
    refine lv_iload C.x C.b dM_text_6 (lv_at hl 3 rfl) ?_
    refine lv_if_lt (tgt := 60) C.x C.b dM_text_8 (by decide) (fun c8 => ?_) (fun c8 => ?_)
    · rw [if_pos c8] at hf
      refine w_aload_n C.x C.b dM_text_60 rfl (lv_at hl 0 rfl) ?_
      obtain ⟨v61, h61, hf⟩ := Option.bind_eq_some_iff.mp hf
      refine w_getI C M h61 rfl (hm_in in_M) (by decide) (List.mem_cons_of_mem _ wm_723) rfl dM_text_61 ?_
      refine lv_iload_n C.x C.b dM_text_64 rfl (lv_at hl 2 rfl) ?_
      refine lv_iadd C.x C.b dM_text_65 ?_
      refine lv_sipush (v := 400) C.x C.b dM_text_66 (by decide) ?_
      refine lv_icmp_le (tgt := 74) C.x C.b dM_text_69 (by decide) (fun c69 => ?_) (fun c69 => ?_)
      · rw [if_pos c69] at hf
        refine lv_bipush (v := 56) C.x C.b dM_text_74 (by decide) ?_
        refine lv_istore (lv' := [(4, .int 56), (0, va_rf y0), (1, .long y1), (3, .int y3)]) C.x C.b dM_text_76 hl (by decide) rfl (fun ls hl => ?_)
        exact b_M_text_78 C hr hlk hnm N _ _ _ _ _ _ _ M (lv_sub hl [1, 2, 0] rfl) hf
      · rw [if_neg c69] at hf
        refine lv_iconst (v := 0) C.x C.b dM_text_72 (by decide) ?_
        cases hf
        exact w_iret C M hr hlk rfl (Nat.le_refl _) (Nat.le_refl _) dM_text_73 rfl rfl
    · rw [if_neg c8] at hf
      refine lv_lload_n C.x C.b dM_text_11 rfl (lv_at hl 1 rfl) ?_
      refine lv_iload C.x C.b dM_text_12 (lv_at hl 3 rfl) ?_
      refine lv_lushr C.x C.b dM_text_14 rfl ?_
      refine lv_ldc2 (v := 255) C.x C.b C.ow (C.ts (.constantLong R_M 81 255) (List.mem_cons_of_mem _ wm_828)) dM_text_15 ?_
      refine lv_land C.x C.b dM_text_18 ?_
      refine lv_l2i C.x C.b dM_text_19 rfl ?_
      refine lv_istore (lv' := [(5, .int ((((y1.toUInt64 >>> (y4.toInt64.toUInt64 &&& Int64.toUInt64 63)).toInt64) &&& 255).toInt32)), (0, va_rf y0), (1, .long y1), (3, .int y3), (4, .int y4)]) C.x C.b dM_text_20 hl (by decide) rfl (fun ls hl => ?_)
      refine lv_iload C.x C.b dM_text_22 (lv_at hl 0 rfl) ?_
      refine lv_if_ne (tgt := 30) C.x C.b dM_text_24 (by decide) (fun c24 => ?_) (fun c24 => ?_)
      · rw [if_neg c24] at hf
        refine lv_iload C.x C.b dM_text_30 (lv_at hl 0 rfl) ?_
        refine lv_bipush (v := 10) C.x C.b dM_text_32 (by decide) ?_
        refine lv_icmp_eq (tgt := 51) C.x C.b dM_text_34 (by decide) (fun c34 => ?_) (fun c34 => ?_)
        · rw [if_pos c34] at hf
          exact b_M_text_51 C hr hlk hnm (f_M_text_b6 N n) ih _ _ _ _ _ _ _ _ M (lv_sub hl [1, 2, 3, 4] rfl) hf
        · rw [if_neg c34] at hf
          refine lv_iload C.x C.b dM_text_37 (lv_at hl 0 rfl) ?_
          refine lv_bipush (v := 32) C.x C.b dM_text_39 (by decide) ?_
          refine lv_bipush (v := 126) C.x C.b dM_text_41 (by decide) ?_
          obtain ⟨v43, h43, hf⟩ := Option.bind_eq_some_iff.mp hf
          refine w_ci M (w_runS C M (c_M_in h43) (cwS 3 C.ts (hgS wm_829 wm_830 wm_6 wm_831) rfl rfl rfl (by decide +kernel) ⟨Nat.le_of_ble_eq_true rfl, Nat.le_of_ble_eq_true rfl⟩) rfl hl.1 rfl (Nat.zero_le _) dM_text_43 ⟨Nat.le_refl _, Nat.le_refl _⟩) (fun H locs M => ?_)
          refine lv_if_ne (tgt := 51) C.x C.b dM_text_46 (by decide) (fun c46 => ?_) (fun c46 => ?_)
          · rw [if_neg c46] at hf
            exact b_M_text_51 C hr hlk hnm (f_M_text_b6 N n) ih _ _ _ _ _ _ _ _ M (lv_sub hl [1, 2, 3, 4] rfl) hf
          · rw [if_pos c46] at hf
            refine lv_iconst (v := 0) C.x C.b dM_text_49 (by decide) ?_
            cases hf
            exact w_iret C M hr hlk rfl (Nat.le_refl _) (Nat.le_refl _) dM_text_50 rfl rfl
      · rw [if_pos c24] at hf
        refine lv_goto (tgt := 54) C.x C.b dM_text_27 (by decide) ?_
        exact b_M_text_54 C hr hlk hnm (f_M_text_b6 N n) ih _ _ _ _ _ _ _ _ M (lv_sub hl [1, 2, 3, 4] rfl) hf
def f_M_text (N : Nat) (x0 : Nat) (x1 : Int64) (E : hE) : Option (Int32 × hE) := (
  f_M_text_b6 N N (some x0) x1 0 56 E)
set_option maxHeartbeats 4000000 in
set_option maxRecDepth 100000 in
theorem c_M_text {l : Launch} {D : va_G} {kA : Nat → ClassId} {S : hE} {g : Nat → Nat} {n0 nx : Nat} {N : Nat} {x0 : Nat} {x1 : Int64} {E : hE} {res : Int32 × hE} (hf : f_M_text N x0 x1 E = some res) : Met l y_M_text ws_M_text rm_M_text (va_Pc [va_rf (some x0), .long x1] (hJ D kA S g n0 (E, nx))) (va_Qi (fun r w => r = res.1 ∧ w = (res.2, nx)) (hJ D kA S g n0) (fun q => n0 ≤ q)) 0 0 (fun q => n0 ≤ q) := by
  refine h_met (cc := prog_11_method_3_code) (maxL := 6) (ret := (some .boolean)) (lvs := [(0, va_rf (some x0)), (1, .long x1)]) zZ_k (by decide) rfl (by simp [lg_sl, va_rf_cat, cat_i, cat_l, cat_n]) (by simp [lv_args, va_rf_cat, cat_i, cat_l, cat_n]) ?_
  intro p e s m below meth c ls C M hr hlk hnm hl
  unfold f_M_text at hf
  refine lv_iconst (v := 0) C.x C.b dM_text_0 (by decide) ?_
  refine lv_istore_n (lv' := [(3, .int 0), (0, va_rf (some x0)), (1, .long x1)]) C.x C.b dM_text_1 rfl hl (by decide) rfl (fun ls hl => ?_)
  refine lv_bipush (v := 56) C.x C.b dM_text_2 (by decide) ?_
  refine lv_istore (lv' := [(4, .int 56), (3, .int 0), (0, va_rf (some x0)), (1, .long x1)]) C.x C.b dM_text_4 hl (by decide) rfl (fun ls hl => ?_)
  exact b_M_text_6 C hr hlk hnm N _ _ _ _ _ _ _ _ M (lv_sub hl [2, 3, 1, 0] rfl) hf
theorem dM_layLines_0 : decode prog_11_method_5_code 0 = .ok (.sipush 1600, 3) := by decide +kernel
theorem dM_layLines_3 : decode prog_11_method_5_code 3 = .ok (.istore_n 2, 1) := by decide +kernel
theorem dM_layLines_4 : decode prog_11_method_5_code 4 = .ok (.iconst 0, 1) := by decide +kernel
theorem dM_layLines_5 : decode prog_11_method_5_code 5 = .ok (.istore_n 3, 1) := by decide +kernel
theorem dM_layLines_6 : decode prog_11_method_5_code 6 = .ok (.iconst 0, 1) := by decide +kernel
theorem dM_layLines_7 : decode prog_11_method_5_code 7 = .ok (.istore 4, 2) := by decide +kernel
theorem dM_layLines_9 : decode prog_11_method_5_code 9 = .ok (.iconst 0, 1) := by decide +kernel
theorem dM_layLines_10 : decode prog_11_method_5_code 10 = .ok (.istore 5, 2) := by decide +kernel
theorem dM_layLines_12 : decode prog_11_method_5_code 12 = .ok (.iload 5, 2) := by decide +kernel
theorem dM_layLines_14 : decode prog_11_method_5_code 14 = .ok (.iload_n 1, 1) := by decide +kernel
theorem dM_layLines_15 : decode prog_11_method_5_code 15 = .ok (.if_icmp .ge 55, 3) := by decide +kernel
theorem dM_layLines_18 : decode prog_11_method_5_code 18 = .ok (.aload_n 0, 1) := by decide +kernel
theorem dM_layLines_19 : decode prog_11_method_5_code 19 = .ok (.getfield 13, 3) := by decide +kernel
theorem dM_layLines_22 : decode prog_11_method_5_code 22 = .ok (.iload_n 2, 1) := by decide +kernel
theorem dM_layLines_23 : decode prog_11_method_5_code 23 = .ok (.iload 5, 2) := by decide +kernel
theorem dM_layLines_25 : decode prog_11_method_5_code 25 = .ok (.iadd, 1) := by decide +kernel
theorem dM_layLines_26 : decode prog_11_method_5_code 26 = .ok (.iaload, 1) := by decide +kernel
theorem dM_layLines_27 : decode prog_11_method_5_code 27 = .ok (.bipush 10, 2) := by decide +kernel
theorem dM_layLines_29 : decode prog_11_method_5_code 29 = .ok (.if_icmp .eq 6, 3) := by decide +kernel
theorem dM_layLines_32 : decode prog_11_method_5_code 32 = .ok (.goto 32, 3) := by decide +kernel
theorem dM_layLines_35 : decode prog_11_method_5_code 35 = .ok (.aload_n 0, 1) := by decide +kernel
theorem dM_layLines_36 : decode prog_11_method_5_code 36 = .ok (.getfield 16, 3) := by decide +kernel
theorem dM_layLines_39 : decode prog_11_method_5_code 39 = .ok (.iload_n 2, 1) := by decide +kernel
theorem dM_layLines_40 : decode prog_11_method_5_code 40 = .ok (.iload_n 3, 1) := by decide +kernel
theorem dM_layLines_41 : decode prog_11_method_5_code 41 = .ok (.iadd, 1) := by decide +kernel
theorem dM_layLines_42 : decode prog_11_method_5_code 42 = .ok (.iload 4, 2) := by decide +kernel
theorem dM_layLines_44 : decode prog_11_method_5_code 44 = .ok (.iastore, 1) := by decide +kernel
theorem dM_layLines_45 : decode prog_11_method_5_code 45 = .ok (.aload_n 0, 1) := by decide +kernel
theorem dM_layLines_46 : decode prog_11_method_5_code 46 = .ok (.getfield 19, 3) := by decide +kernel
theorem dM_layLines_49 : decode prog_11_method_5_code 49 = .ok (.iload_n 2, 1) := by decide +kernel
theorem dM_layLines_50 : decode prog_11_method_5_code 50 = .ok (.iload_n 3, 1) := by decide +kernel
theorem dM_layLines_51 : decode prog_11_method_5_code 51 = .ok (.iadd, 1) := by decide +kernel
theorem dM_layLines_52 : decode prog_11_method_5_code 52 = .ok (.iload 5, 2) := by decide +kernel
theorem dM_layLines_54 : decode prog_11_method_5_code 54 = .ok (.iastore, 1) := by decide +kernel
theorem dM_layLines_55 : decode prog_11_method_5_code 55 = .ok (.iinc 3 1, 3) := by decide +kernel
theorem dM_layLines_58 : decode prog_11_method_5_code 58 = .ok (.iload 5, 2) := by decide +kernel
theorem dM_layLines_60 : decode prog_11_method_5_code 60 = .ok (.iconst 1, 1) := by decide +kernel
theorem dM_layLines_61 : decode prog_11_method_5_code 61 = .ok (.iadd, 1) := by decide +kernel
theorem dM_layLines_62 : decode prog_11_method_5_code 62 = .ok (.istore 4, 2) := by decide +kernel
theorem dM_layLines_64 : decode prog_11_method_5_code 64 = .ok (.iinc 5 1, 3) := by decide +kernel
theorem dM_layLines_67 : decode prog_11_method_5_code 67 = .ok (.goto (-55), 3) := by decide +kernel
theorem dM_layLines_70 : decode prog_11_method_5_code 70 = .ok (.iload 4, 2) := by decide +kernel
theorem dM_layLines_72 : decode prog_11_method_5_code 72 = .ok (.iload_n 1, 1) := by decide +kernel
theorem dM_layLines_73 : decode prog_11_method_5_code 73 = .ok (.if_icmp .ge 25, 3) := by decide +kernel
theorem dM_layLines_76 : decode prog_11_method_5_code 76 = .ok (.aload_n 0, 1) := by decide +kernel
theorem dM_layLines_77 : decode prog_11_method_5_code 77 = .ok (.getfield 16, 3) := by decide +kernel
theorem dM_layLines_80 : decode prog_11_method_5_code 80 = .ok (.iload_n 2, 1) := by decide +kernel
theorem dM_layLines_81 : decode prog_11_method_5_code 81 = .ok (.iload_n 3, 1) := by decide +kernel
theorem dM_layLines_82 : decode prog_11_method_5_code 82 = .ok (.iadd, 1) := by decide +kernel
theorem dM_layLines_83 : decode prog_11_method_5_code 83 = .ok (.iload 4, 2) := by decide +kernel
theorem dM_layLines_85 : decode prog_11_method_5_code 85 = .ok (.iastore, 1) := by decide +kernel
theorem dM_layLines_86 : decode prog_11_method_5_code 86 = .ok (.aload_n 0, 1) := by decide +kernel
theorem dM_layLines_87 : decode prog_11_method_5_code 87 = .ok (.getfield 19, 3) := by decide +kernel
theorem dM_layLines_90 : decode prog_11_method_5_code 90 = .ok (.iload_n 2, 1) := by decide +kernel
theorem dM_layLines_91 : decode prog_11_method_5_code 91 = .ok (.iload_n 3, 1) := by decide +kernel
theorem dM_layLines_92 : decode prog_11_method_5_code 92 = .ok (.iadd, 1) := by decide +kernel
theorem dM_layLines_93 : decode prog_11_method_5_code 93 = .ok (.iload_n 1, 1) := by decide +kernel
theorem dM_layLines_94 : decode prog_11_method_5_code 94 = .ok (.iastore, 1) := by decide +kernel
theorem dM_layLines_95 : decode prog_11_method_5_code 95 = .ok (.iinc 3 1, 3) := by decide +kernel
theorem dM_layLines_98 : decode prog_11_method_5_code 98 = .ok (.aload_n 0, 1) := by decide +kernel
theorem dM_layLines_99 : decode prog_11_method_5_code 99 = .ok (.getfield 22, 3) := by decide +kernel
theorem dM_layLines_102 : decode prog_11_method_5_code 102 = .ok (.iconst 4, 1) := by decide +kernel
theorem dM_layLines_103 : decode prog_11_method_5_code 103 = .ok (.iload_n 3, 1) := by decide +kernel
theorem dM_layLines_104 : decode prog_11_method_5_code 104 = .ok (.iastore, 1) := by decide +kernel
theorem dM_layLines_105 : decode prog_11_method_5_code 105 = .ok (.return_, 1) := by decide +kernel
abbrev rm_M_layLines : Room := { frames := 0, cells := 0, slots := 0, locals := 0 }
def f_M_layLines_b98 (N : Nat) (y0 : Option Nat) (y3 : Int32) (E : hE) : Option (hE) := (
  (gR E y0 7 5).bind fun v99 =>
  (tI E v99 0 4 y3).bind fun E104 =>
  some E104)
set_option maxHeartbeats 4000000 in
set_option maxRecDepth 100000 in
theorem b_M_layLines_98 {p : Program} {l : Launch} {e : Env} {s : State} {m : MethodId} {args : Array Value} {below : List Frame} {meth : Method} {c : Code} {D : va_G} {kA : Nat → ClassId} {S : hE} {g : Nat → Nat} {n0 nx : Nat} {N : Nat} {res : hE} (C : hX p s m args c prog_11_method_5_code 6 R_M ws_M_layLines D kA S g n0) (hr : meth.sig.returnType = none) (hlk : meth.locks = false) (hnm : meth.name = "layLines") : ∀ (y0 : Option Nat) (y3 : Int32) (E : hE) (H : Heap) (locs : List Loc) (ls : Array Slot), hY D kA n0 s E nx H locs → lv_has ls 6 [(0, va_rf y0), (3, .int y3)] → f_M_layLines_b98 N  y0 y3 E = some res → W p l e rm_M_layLines s m args below meth c H locs 0 0 (MQ below (va_Qv (fun w => w = (res, nx)) (hJ D kA S g n0) (fun q => n0 ≤ q)) args s 0 0 (fun q => n0 ≤ q)) (F0 m 98 ls []) := by
  intro y0 y3 E H locs ls M hl hf
  unfold f_M_layLines_b98 at hf
  refine w_aload_n C.x C.b dM_layLines_98 rfl (lv_at hl 0 rfl) ?_
  obtain ⟨v99, h99, hf⟩ := Option.bind_eq_some_iff.mp hf
  refine w_getR C M h99 rfl (hm_in in_M) (by decide) (List.mem_cons_of_mem _ wm_728) rfl dM_layLines_99 ?_
  refine lv_iconst (v := 4) C.x C.b dM_layLines_102 (by decide) ?_
  refine lv_iload_n C.x C.b dM_layLines_103 rfl (lv_at hl 1 rfl) ?_
  obtain ⟨E104, h104, hf⟩ := Option.bind_eq_some_iff.mp hf
  refine w_iast C M h104 rfl dM_layLines_104 (fun H locs M => ?_)
  cases hf
  exact w_vret C M hr hlk (Nat.le_refl _) (Nat.le_refl _) dM_layLines_105 rfl
def f_M_layLines_b64 (N : Nat) (k12 : Option Nat → Int32 → Int32 → Int32 → Int32 → Int32 → hE → Option (hE)) (y0 : Option Nat) (y1 : Int32) (y2 : Int32) (y3 : Int32) (y4 : Int32) (y5 : Int32) (E : hE) : Option (hE) := (
  k12 y0 y1 y2 y3 y4 (y5 + 1) E)
set_option maxHeartbeats 4000000 in
set_option maxRecDepth 100000 in
theorem b_M_layLines_64 {p : Program} {l : Launch} {e : Env} {s : State} {m : MethodId} {args : Array Value} {below : List Frame} {meth : Method} {c : Code} {D : va_G} {kA : Nat → ClassId} {S : hE} {g : Nat → Nat} {n0 nx : Nat} {N : Nat} {res : hE} (C : hX p s m args c prog_11_method_5_code 6 R_M ws_M_layLines D kA S g n0) (hr : meth.sig.returnType = none) (hlk : meth.locks = false) (hnm : meth.name = "layLines") (k12 : Option Nat → Int32 → Int32 → Int32 → Int32 → Int32 → hE → Option (hE)) (hk12 : ∀ (y0 : Option Nat) (y1 : Int32) (y2 : Int32) (y3 : Int32) (y4 : Int32) (y5 : Int32) (E : hE) (H : Heap) (locs : List Loc) (ls : Array Slot), hY D kA n0 s E nx H locs → lv_has ls 6 [(0, va_rf y0), (1, .int y1), (2, .int y2), (3, .int y3), (4, .int y4), (5, .int y5)] → k12 y0 y1 y2 y3 y4 y5 E = some res → W p l e rm_M_layLines s m args below meth c H locs 0 0 (MQ below (va_Qv (fun w => w = (res, nx)) (hJ D kA S g n0) (fun q => n0 ≤ q)) args s 0 0 (fun q => n0 ≤ q)) (F0 m 12 ls [])) : ∀ (y0 : Option Nat) (y1 : Int32) (y2 : Int32) (y3 : Int32) (y4 : Int32) (y5 : Int32) (E : hE) (H : Heap) (locs : List Loc) (ls : Array Slot), hY D kA n0 s E nx H locs → lv_has ls 6 [(0, va_rf y0), (1, .int y1), (2, .int y2), (3, .int y3), (4, .int y4), (5, .int y5)] → f_M_layLines_b64 N k12 y0 y1 y2 y3 y4 y5 E = some res → W p l e rm_M_layLines s m args below meth c H locs 0 0 (MQ below (va_Qv (fun w => w = (res, nx)) (hJ D kA S g n0) (fun q => n0 ≤ q)) args s 0 0 (fun q => n0 ≤ q)) (F0 m 64 ls []) := by
  intro y0 y1 y2 y3 y4 y5 E H locs ls M hl hf
  unfold f_M_layLines_b64 at hf
  refine lv_iinc (v := y5 + 1) (lv' := [(5, .int (y5 + 1)), (0, va_rf y0), (1, .int y1), (2, .int y2), (3, .int y3), (4, .int y4)]) C.x C.b dM_layLines_64 hl (k := 5) rfl rfl (by decide) rfl (fun ls hl => ?_)
  refine lv_goto (tgt := 12) C.x C.b dM_layLines_67 (by decide) ?_
  exact hk12 _ _ _ _ _ _ _ _ _ _ M (lv_sub hl [1, 2, 3, 4, 5, 0] rfl) hf
def f_M_layLines_b12 (N : Nat) : Nat → Option Nat → Int32 → Int32 → Int32 → Int32 → Int32 → hE → Option (hE)
  | 0, _, _, _, _, _, _, _ => none
  | n + 1, y0, y1, y2, y3, y4, y5, E => (
  if y1 ≤ y5 then (
  if y1 ≤ y4 then (
  f_M_layLines_b98 N y0 y3 E
  ) else (
  (gR E y0 7 3).bind fun v77 =>
  (tI E v77 0 (y2 + y3) y4).bind fun E85 =>
  (gR E85 y0 7 4).bind fun v87 =>
  (tI E85 v87 0 (y2 + y3) y1).bind fun E94 =>
  f_M_layLines_b98 N y0 (y3 + 1) E94
  )
  ) else (
  (gR E y0 7 2).bind fun v19 =>
  (aI E v19 0 (y2 + y5)).bind fun v26 =>
  if v26 = 10 then (
  (gR E y0 7 3).bind fun v36 =>
  (tI E v36 0 (y2 + y3) y4).bind fun E44 =>
  (gR E44 y0 7 4).bind fun v46 =>
  (tI E44 v46 0 (y2 + y3) y5).bind fun E54 =>
  f_M_layLines_b64 N (f_M_layLines_b12 N n) y0 y1 y2 (y3 + 1) (y5 + 1) y5 E54
  ) else (
  f_M_layLines_b64 N (f_M_layLines_b12 N n) y0 y1 y2 y3 y4 y5 E
  )
  ))
set_option maxHeartbeats 4000000 in
set_option maxRecDepth 100000 in
theorem b_M_layLines_12 {p : Program} {l : Launch} {e : Env} {s : State} {m : MethodId} {args : Array Value} {below : List Frame} {meth : Method} {c : Code} {D : va_G} {kA : Nat → ClassId} {S : hE} {g : Nat → Nat} {n0 nx : Nat} {N : Nat} {res : hE} (C : hX p s m args c prog_11_method_5_code 6 R_M ws_M_layLines D kA S g n0) (hr : meth.sig.returnType = none) (hlk : meth.locks = false) (hnm : meth.name = "layLines") : ∀ n : Nat, ∀ (y0 : Option Nat) (y1 : Int32) (y2 : Int32) (y3 : Int32) (y4 : Int32) (y5 : Int32) (E : hE) (H : Heap) (locs : List Loc) (ls : Array Slot), hY D kA n0 s E nx H locs → lv_has ls 6 [(0, va_rf y0), (1, .int y1), (2, .int y2), (3, .int y3), (4, .int y4), (5, .int y5)] → f_M_layLines_b12 N n y0 y1 y2 y3 y4 y5 E = some res → W p l e rm_M_layLines s m args below meth c H locs 0 0 (MQ below (va_Qv (fun w => w = (res, nx)) (hJ D kA S g n0) (fun q => n0 ≤ q)) args s 0 0 (fun q => n0 ≤ q)) (F0 m 12 ls []) := by
  intro n
  induction n with
  | zero =>
    intro y0 y1 y2 y3 y4 y5 E H locs ls M hl hf
    simp [f_M_layLines_b12] at hf
  | succ n ih =>
    intro y0 y1 y2 y3 y4 y5 E H locs ls M hl hf
    rw [f_M_layLines_b12] at hf
    refine lv_iload C.x C.b dM_layLines_12 (lv_at hl 5 rfl) ?_
    refine lv_iload_n C.x C.b dM_layLines_14 rfl (lv_at hl 1 rfl) ?_
    refine lv_icmp_ge (tgt := 70) C.x C.b dM_layLines_15 (by decide) (fun c15 => ?_) (fun c15 => ?_)
    · rw [if_pos c15] at hf
      refine lv_iload C.x C.b dM_layLines_70 (lv_at hl 4 rfl) ?_
      refine lv_iload_n C.x C.b dM_layLines_72 rfl (lv_at hl 1 rfl) ?_
      refine lv_icmp_ge (tgt := 98) C.x C.b dM_layLines_73 (by decide) (fun c73 => ?_) (fun c73 => ?_)
      · rw [if_pos c73] at hf
        exact b_M_layLines_98 C hr hlk hnm _ _ _ _ _ _ M (lv_sub hl [0, 3] rfl) hf
      · rw [if_neg c73] at hf
        refine w_aload_n C.x C.b dM_layLines_76 rfl (lv_at hl 0 rfl) ?_
        obtain ⟨v77, h77, hf⟩ := Option.bind_eq_some_iff.mp hf
        refine w_getR C M h77 rfl (hm_in in_M) (by decide) (List.mem_cons_of_mem _ wm_726) rfl dM_layLines_77 ?_
        refine lv_iload_n C.x C.b dM_layLines_80 rfl (lv_at hl 2 rfl) ?_
        refine lv_iload_n C.x C.b dM_layLines_81 rfl (lv_at hl 3 rfl) ?_
        refine lv_iadd C.x C.b dM_layLines_82 ?_
        refine lv_iload C.x C.b dM_layLines_83 (lv_at hl 4 rfl) ?_
        obtain ⟨E85, h85, hf⟩ := Option.bind_eq_some_iff.mp hf
        refine w_iast C M h85 rfl dM_layLines_85 (fun H locs M => ?_)
        refine w_aload_n C.x C.b dM_layLines_86 rfl (lv_at hl 0 rfl) ?_
        obtain ⟨v87, h87, hf⟩ := Option.bind_eq_some_iff.mp hf
        refine w_getR C M h87 rfl (hm_in in_M) (by decide) (List.mem_cons_of_mem _ wm_727) rfl dM_layLines_87 ?_
        refine lv_iload_n C.x C.b dM_layLines_90 rfl (lv_at hl 2 rfl) ?_
        refine lv_iload_n C.x C.b dM_layLines_91 rfl (lv_at hl 3 rfl) ?_
        refine lv_iadd C.x C.b dM_layLines_92 ?_
        refine lv_iload_n C.x C.b dM_layLines_93 rfl (lv_at hl 1 rfl) ?_
        obtain ⟨E94, h94, hf⟩ := Option.bind_eq_some_iff.mp hf
        refine w_iast C M h94 rfl dM_layLines_94 (fun H locs M => ?_)
        refine lv_iinc (v := y3 + 1) (lv' := [(3, .int (y3 + 1)), (0, va_rf y0), (1, .int y1), (2, .int y2), (4, .int y4), (5, .int y5)]) C.x C.b dM_layLines_95 hl (k := 3) rfl rfl (by decide) rfl (fun ls hl => ?_)
        exact b_M_layLines_98 C hr hlk hnm _ _ _ _ _ _ M (lv_sub hl [1, 0] rfl) hf
    · rw [if_neg c15] at hf
      refine w_aload_n C.x C.b dM_layLines_18 rfl (lv_at hl 0 rfl) ?_
      obtain ⟨v19, h19, hf⟩ := Option.bind_eq_some_iff.mp hf
      refine w_getR C M h19 rfl (hm_in in_M) (by decide) (List.mem_cons_of_mem _ wm_725) rfl dM_layLines_19 ?_
      refine lv_iload_n C.x C.b dM_layLines_22 rfl (lv_at hl 2 rfl) ?_
      refine lv_iload C.x C.b dM_layLines_23 (lv_at hl 5 rfl) ?_
      refine lv_iadd C.x C.b dM_layLines_25 ?_
      obtain ⟨v26, h26, hf⟩ := Option.bind_eq_some_iff.mp hf
      refine w_iald C M h26 rfl dM_layLines_26 ?_
      refine lv_bipush (v := 10) C.x C.b dM_layLines_27 (by decide) ?_
      refine lv_icmp_eq (tgt := 35) C.x C.b dM_layLines_29 (by decide) (fun c29 => ?_) (fun c29 => ?_)
      · rw [if_pos c29] at hf
        refine w_aload_n C.x C.b dM_layLines_35 rfl (lv_at hl 0 rfl) ?_
        obtain ⟨v36, h36, hf⟩ := Option.bind_eq_some_iff.mp hf
        refine w_getR C M h36 rfl (hm_in in_M) (by decide) (List.mem_cons_of_mem _ wm_726) rfl dM_layLines_36 ?_
        refine lv_iload_n C.x C.b dM_layLines_39 rfl (lv_at hl 2 rfl) ?_
        refine lv_iload_n C.x C.b dM_layLines_40 rfl (lv_at hl 3 rfl) ?_
        refine lv_iadd C.x C.b dM_layLines_41 ?_
        refine lv_iload C.x C.b dM_layLines_42 (lv_at hl 4 rfl) ?_
        obtain ⟨E44, h44, hf⟩ := Option.bind_eq_some_iff.mp hf
        refine w_iast C M h44 rfl dM_layLines_44 (fun H locs M => ?_)
        refine w_aload_n C.x C.b dM_layLines_45 rfl (lv_at hl 0 rfl) ?_
        obtain ⟨v46, h46, hf⟩ := Option.bind_eq_some_iff.mp hf
        refine w_getR C M h46 rfl (hm_in in_M) (by decide) (List.mem_cons_of_mem _ wm_727) rfl dM_layLines_46 ?_
        refine lv_iload_n C.x C.b dM_layLines_49 rfl (lv_at hl 2 rfl) ?_
        refine lv_iload_n C.x C.b dM_layLines_50 rfl (lv_at hl 3 rfl) ?_
        refine lv_iadd C.x C.b dM_layLines_51 ?_
        refine lv_iload C.x C.b dM_layLines_52 (lv_at hl 5 rfl) ?_
        obtain ⟨E54, h54, hf⟩ := Option.bind_eq_some_iff.mp hf
        refine w_iast C M h54 rfl dM_layLines_54 (fun H locs M => ?_)
        refine lv_iinc (v := y3 + 1) (lv' := [(3, .int (y3 + 1)), (0, va_rf y0), (1, .int y1), (2, .int y2), (4, .int y4), (5, .int y5)]) C.x C.b dM_layLines_55 hl (k := 3) rfl rfl (by decide) rfl (fun ls hl => ?_)
        refine lv_iload C.x C.b dM_layLines_58 (lv_at hl 5 rfl) ?_
        refine lv_iconst (v := 1) C.x C.b dM_layLines_60 (by decide) ?_
        refine lv_iadd C.x C.b dM_layLines_61 ?_
        refine lv_istore (lv' := [(4, .int (y5 + 1)), (3, .int (y3 + 1)), (0, va_rf y0), (1, .int y1), (2, .int y2), (5, .int y5)]) C.x C.b dM_layLines_62 hl (by decide) rfl (fun ls hl => ?_)
        exact b_M_layLines_64 C hr hlk hnm (f_M_layLines_b12 N n) ih _ _ _ _ _ _ _ _ _ _ M (lv_sub hl [2, 3, 4, 1, 0, 5] rfl) hf
      · rw [if_neg c29] at hf
        refine lv_goto (tgt := 64) C.x C.b dM_layLines_32 (by decide) ?_
        exact b_M_layLines_64 C hr hlk hnm (f_M_layLines_b12 N n) ih _ _ _ _ _ _ _ _ _ _ M (lv_sub hl [0, 1, 2, 3, 4, 5] rfl) hf
def f_M_layLines (N : Nat) (x0 : Nat) (x1 : Int32) (E : hE) : Option (hE) := (
  f_M_layLines_b12 N N (some x0) x1 1600 0 0 0 E)
set_option maxHeartbeats 4000000 in
set_option maxRecDepth 100000 in
theorem c_M_layLines {l : Launch} {D : va_G} {kA : Nat → ClassId} {S : hE} {g : Nat → Nat} {n0 nx : Nat} {N : Nat} {x0 : Nat} {x1 : Int32} {E : hE} {res : hE} (hf : f_M_layLines N x0 x1 E = some res) : Met l y_M_layLines ws_M_layLines rm_M_layLines (va_Pc [va_rf (some x0), .int x1] (hJ D kA S g n0 (E, nx))) (va_Qv (fun w => w = (res, nx)) (hJ D kA S g n0) (fun q => n0 ≤ q)) 0 0 (fun q => n0 ≤ q) := by
  refine h_met (cc := prog_11_method_5_code) (maxL := 6) (ret := none) (lvs := [(0, va_rf (some x0)), (1, .int x1)]) zZ_k (by decide) rfl (by simp [lg_sl, va_rf_cat, cat_i, cat_l, cat_n]) (by simp [lv_args, va_rf_cat, cat_i, cat_l, cat_n]) ?_
  intro p e s m below meth c ls C M hr hlk hnm hl
  unfold f_M_layLines at hf
  refine lv_sipush (v := 1600) C.x C.b dM_layLines_0 (by decide) ?_
  refine lv_istore_n (lv' := [(2, .int 1600), (0, va_rf (some x0)), (1, .int x1)]) C.x C.b dM_layLines_3 rfl hl (by decide) rfl (fun ls hl => ?_)
  refine lv_iconst (v := 0) C.x C.b dM_layLines_4 (by decide) ?_
  refine lv_istore_n (lv' := [(3, .int 0), (2, .int 1600), (0, va_rf (some x0)), (1, .int x1)]) C.x C.b dM_layLines_5 rfl hl (by decide) rfl (fun ls hl => ?_)
  refine lv_iconst (v := 0) C.x C.b dM_layLines_6 (by decide) ?_
  refine lv_istore (lv' := [(4, .int 0), (3, .int 0), (2, .int 1600), (0, va_rf (some x0)), (1, .int x1)]) C.x C.b dM_layLines_7 hl (by decide) rfl (fun ls hl => ?_)
  refine lv_iconst (v := 0) C.x C.b dM_layLines_9 (by decide) ?_
  refine lv_istore (lv' := [(5, .int 0), (4, .int 0), (3, .int 0), (2, .int 1600), (0, va_rf (some x0)), (1, .int x1)]) C.x C.b dM_layLines_10 hl (by decide) rfl (fun ls hl => ?_)
  exact b_M_layLines_12 C hr hlk hnm N _ _ _ _ _ _ _ _ _ _ M (lv_sub hl [4, 5, 3, 2, 1, 0] rfl) hf
theorem dM_split_0 : decode prog_11_method_7_code 0 = .ok (.aload_n 0, 1) := by decide +kernel
theorem dM_split_1 : decode prog_11_method_7_code 1 = .ok (.iconst 0, 1) := by decide +kernel
theorem dM_split_2 : decode prog_11_method_7_code 2 = .ok (.putfield 102, 3) := by decide +kernel
theorem dM_split_5 : decode prog_11_method_7_code 5 = .ok (.sipush 400, 3) := by decide +kernel
theorem dM_split_8 : decode prog_11_method_7_code 8 = .ok (.iload_n 1, 1) := by decide +kernel
theorem dM_split_9 : decode prog_11_method_7_code 9 = .ok (.imul, 1) := by decide +kernel
theorem dM_split_10 : decode prog_11_method_7_code 10 = .ok (.istore_n 3, 1) := by decide +kernel
theorem dM_split_11 : decode prog_11_method_7_code 11 = .ok (.aload_n 0, 1) := by decide +kernel
theorem dM_split_12 : decode prog_11_method_7_code 12 = .ok (.getfield 16, 3) := by decide +kernel
theorem dM_split_15 : decode prog_11_method_7_code 15 = .ok (.iload_n 3, 1) := by decide +kernel
theorem dM_split_16 : decode prog_11_method_7_code 16 = .ok (.iload_n 2, 1) := by decide +kernel
theorem dM_split_17 : decode prog_11_method_7_code 17 = .ok (.iadd, 1) := by decide +kernel
theorem dM_split_18 : decode prog_11_method_7_code 18 = .ok (.iaload, 1) := by decide +kernel
theorem dM_split_19 : decode prog_11_method_7_code 19 = .ok (.istore 4, 2) := by decide +kernel
theorem dM_split_21 : decode prog_11_method_7_code 21 = .ok (.aload_n 0, 1) := by decide +kernel
theorem dM_split_22 : decode prog_11_method_7_code 22 = .ok (.getfield 19, 3) := by decide +kernel
theorem dM_split_25 : decode prog_11_method_7_code 25 = .ok (.iload_n 3, 1) := by decide +kernel
theorem dM_split_26 : decode prog_11_method_7_code 26 = .ok (.iload_n 2, 1) := by decide +kernel
theorem dM_split_27 : decode prog_11_method_7_code 27 = .ok (.iadd, 1) := by decide +kernel
theorem dM_split_28 : decode prog_11_method_7_code 28 = .ok (.iaload, 1) := by decide +kernel
theorem dM_split_29 : decode prog_11_method_7_code 29 = .ok (.istore 5, 2) := by decide +kernel
theorem dM_split_31 : decode prog_11_method_7_code 31 = .ok (.iload 4, 2) := by decide +kernel
theorem dM_split_33 : decode prog_11_method_7_code 33 = .ok (.iload 5, 2) := by decide +kernel
theorem dM_split_35 : decode prog_11_method_7_code 35 = .ok (.if_icmp .ge 150, 3) := by decide +kernel
theorem dM_split_38 : decode prog_11_method_7_code 38 = .ok (.aload_n 0, 1) := by decide +kernel
theorem dM_split_39 : decode prog_11_method_7_code 39 = .ok (.getfield 13, 3) := by decide +kernel
theorem dM_split_42 : decode prog_11_method_7_code 42 = .ok (.iload_n 3, 1) := by decide +kernel
theorem dM_split_43 : decode prog_11_method_7_code 43 = .ok (.iload 4, 2) := by decide +kernel
theorem dM_split_45 : decode prog_11_method_7_code 45 = .ok (.iadd, 1) := by decide +kernel
theorem dM_split_46 : decode prog_11_method_7_code 46 = .ok (.iaload, 1) := by decide +kernel
theorem dM_split_47 : decode prog_11_method_7_code 47 = .ok (.bipush 32, 2) := by decide +kernel
theorem dM_split_49 : decode prog_11_method_7_code 49 = .ok (.if_icmp .ne 9, 3) := by decide +kernel
theorem dM_split_52 : decode prog_11_method_7_code 52 = .ok (.iinc 4 1, 3) := by decide +kernel
theorem dM_split_55 : decode prog_11_method_7_code 55 = .ok (.goto (-24), 3) := by decide +kernel
theorem dM_split_58 : decode prog_11_method_7_code 58 = .ok (.iload 4, 2) := by decide +kernel
theorem dM_split_60 : decode prog_11_method_7_code 60 = .ok (.istore 6, 2) := by decide +kernel
theorem dM_split_62 : decode prog_11_method_7_code 62 = .ok (.lconst 0, 1) := by decide +kernel
theorem dM_split_63 : decode prog_11_method_7_code 63 = .ok (.lstore 7, 2) := by decide +kernel
theorem dM_split_65 : decode prog_11_method_7_code 65 = .ok (.iload 4, 2) := by decide +kernel
theorem dM_split_67 : decode prog_11_method_7_code 67 = .ok (.iload 5, 2) := by decide +kernel
theorem dM_split_69 : decode prog_11_method_7_code 69 = .ok (.if_icmp .ge 57, 3) := by decide +kernel
theorem dM_split_72 : decode prog_11_method_7_code 72 = .ok (.aload_n 0, 1) := by decide +kernel
theorem dM_split_73 : decode prog_11_method_7_code 73 = .ok (.getfield 13, 3) := by decide +kernel
theorem dM_split_76 : decode prog_11_method_7_code 76 = .ok (.iload_n 3, 1) := by decide +kernel
theorem dM_split_77 : decode prog_11_method_7_code 77 = .ok (.iload 4, 2) := by decide +kernel
theorem dM_split_79 : decode prog_11_method_7_code 79 = .ok (.iadd, 1) := by decide +kernel
theorem dM_split_80 : decode prog_11_method_7_code 80 = .ok (.iaload, 1) := by decide +kernel
theorem dM_split_81 : decode prog_11_method_7_code 81 = .ok (.bipush 32, 2) := by decide +kernel
theorem dM_split_83 : decode prog_11_method_7_code 83 = .ok (.if_icmp .eq 43, 3) := by decide +kernel
theorem dM_split_86 : decode prog_11_method_7_code 86 = .ok (.iload 4, 2) := by decide +kernel
theorem dM_split_88 : decode prog_11_method_7_code 88 = .ok (.iload 6, 2) := by decide +kernel
theorem dM_split_90 : decode prog_11_method_7_code 90 = .ok (.isub, 1) := by decide +kernel
theorem dM_split_91 : decode prog_11_method_7_code 91 = .ok (.bipush 7, 2) := by decide +kernel
theorem dM_split_93 : decode prog_11_method_7_code 93 = .ok (.if_icmp .ge 22, 3) := by decide +kernel
theorem dM_split_96 : decode prog_11_method_7_code 96 = .ok (.lload 7, 2) := by decide +kernel
theorem dM_split_98 : decode prog_11_method_7_code 98 = .ok (.bipush 8, 2) := by decide +kernel
theorem dM_split_100 : decode prog_11_method_7_code 100 = .ok (.lshl, 1) := by decide +kernel
theorem dM_split_101 : decode prog_11_method_7_code 101 = .ok (.aload_n 0, 1) := by decide +kernel
theorem dM_split_102 : decode prog_11_method_7_code 102 = .ok (.getfield 13, 3) := by decide +kernel
theorem dM_split_105 : decode prog_11_method_7_code 105 = .ok (.iload_n 3, 1) := by decide +kernel
theorem dM_split_106 : decode prog_11_method_7_code 106 = .ok (.iload 4, 2) := by decide +kernel
theorem dM_split_108 : decode prog_11_method_7_code 108 = .ok (.iadd, 1) := by decide +kernel
theorem dM_split_109 : decode prog_11_method_7_code 109 = .ok (.iaload, 1) := by decide +kernel
theorem dM_split_110 : decode prog_11_method_7_code 110 = .ok (.i2l, 1) := by decide +kernel
theorem dM_split_111 : decode prog_11_method_7_code 111 = .ok (.lor, 1) := by decide +kernel
theorem dM_split_112 : decode prog_11_method_7_code 112 = .ok (.goto 6, 3) := by decide +kernel
theorem dM_split_115 : decode prog_11_method_7_code 115 = .ok (.ldc2_w 105, 3) := by decide +kernel
theorem dM_split_118 : decode prog_11_method_7_code 118 = .ok (.lstore 7, 2) := by decide +kernel
theorem dM_split_120 : decode prog_11_method_7_code 120 = .ok (.iinc 4 1, 3) := by decide +kernel
theorem dM_split_123 : decode prog_11_method_7_code 123 = .ok (.goto (-58), 3) := by decide +kernel
theorem dM_split_126 : decode prog_11_method_7_code 126 = .ok (.aload_n 0, 1) := by decide +kernel
theorem dM_split_127 : decode prog_11_method_7_code 127 = .ok (.getfield 102, 3) := by decide +kernel
theorem dM_split_130 : decode prog_11_method_7_code 130 = .ok (.bipush 7, 2) := by decide +kernel
theorem dM_split_132 : decode prog_11_method_7_code 132 = .ok (.if_icmp .ge 40, 3) := by decide +kernel
theorem dM_split_135 : decode prog_11_method_7_code 135 = .ok (.aload_n 0, 1) := by decide +kernel
theorem dM_split_136 : decode prog_11_method_7_code 136 = .ok (.getfield 32, 3) := by decide +kernel
theorem dM_split_139 : decode prog_11_method_7_code 139 = .ok (.aload_n 0, 1) := by decide +kernel
theorem dM_split_140 : decode prog_11_method_7_code 140 = .ok (.getfield 102, 3) := by decide +kernel
theorem dM_split_143 : decode prog_11_method_7_code 143 = .ok (.lload 7, 2) := by decide +kernel
theorem dM_split_145 : decode prog_11_method_7_code 145 = .ok (.lastore, 1) := by decide +kernel
theorem dM_split_146 : decode prog_11_method_7_code 146 = .ok (.aload_n 0, 1) := by decide +kernel
theorem dM_split_147 : decode prog_11_method_7_code 147 = .ok (.getfield 36, 3) := by decide +kernel
theorem dM_split_150 : decode prog_11_method_7_code 150 = .ok (.aload_n 0, 1) := by decide +kernel
theorem dM_split_151 : decode prog_11_method_7_code 151 = .ok (.getfield 102, 3) := by decide +kernel
theorem dM_split_154 : decode prog_11_method_7_code 154 = .ok (.iload_n 3, 1) := by decide +kernel
theorem dM_split_155 : decode prog_11_method_7_code 155 = .ok (.iload 6, 2) := by decide +kernel
theorem dM_split_157 : decode prog_11_method_7_code 157 = .ok (.iadd, 1) := by decide +kernel
theorem dM_split_158 : decode prog_11_method_7_code 158 = .ok (.iastore, 1) := by decide +kernel
theorem dM_split_159 : decode prog_11_method_7_code 159 = .ok (.aload_n 0, 1) := by decide +kernel
theorem dM_split_160 : decode prog_11_method_7_code 160 = .ok (.getfield 39, 3) := by decide +kernel
theorem dM_split_163 : decode prog_11_method_7_code 163 = .ok (.aload_n 0, 1) := by decide +kernel
theorem dM_split_164 : decode prog_11_method_7_code 164 = .ok (.getfield 102, 3) := by decide +kernel
theorem dM_split_167 : decode prog_11_method_7_code 167 = .ok (.iload_n 3, 1) := by decide +kernel
theorem dM_split_168 : decode prog_11_method_7_code 168 = .ok (.iload 4, 2) := by decide +kernel
theorem dM_split_170 : decode prog_11_method_7_code 170 = .ok (.iadd, 1) := by decide +kernel
theorem dM_split_171 : decode prog_11_method_7_code 171 = .ok (.iastore, 1) := by decide +kernel
theorem dM_split_172 : decode prog_11_method_7_code 172 = .ok (.aload_n 0, 1) := by decide +kernel
theorem dM_split_173 : decode prog_11_method_7_code 173 = .ok (.dup, 1) := by decide +kernel
theorem dM_split_174 : decode prog_11_method_7_code 174 = .ok (.getfield 102, 3) := by decide +kernel
theorem dM_split_177 : decode prog_11_method_7_code 177 = .ok (.iconst 1, 1) := by decide +kernel
theorem dM_split_178 : decode prog_11_method_7_code 178 = .ok (.iadd, 1) := by decide +kernel
theorem dM_split_179 : decode prog_11_method_7_code 179 = .ok (.putfield 102, 3) := by decide +kernel
theorem dM_split_182 : decode prog_11_method_7_code 182 = .ok (.goto (-151), 3) := by decide +kernel
theorem dM_split_185 : decode prog_11_method_7_code 185 = .ok (.return_, 1) := by decide +kernel
abbrev rm_M_split : Room := { frames := 0, cells := 0, slots := 0, locals := 0 }
def f_M_split_b172 (N : Nat) (k31 : Option Nat → Int32 → Int32 → Int32 → hE → Option (hE)) (y0 : Option Nat) (y3 : Int32) (y4 : Int32) (y5 : Int32) (E : hE) : Option (hE) := (
  (gI E y0 7 8).bind fun v174 =>
  (sI E y0 7 8 (v174 + 1)).bind fun E179 =>
  k31 y0 y3 y4 y5 E179)
set_option maxHeartbeats 4000000 in
set_option maxRecDepth 100000 in
theorem b_M_split_172 {p : Program} {l : Launch} {e : Env} {s : State} {m : MethodId} {args : Array Value} {below : List Frame} {meth : Method} {c : Code} {D : va_G} {kA : Nat → ClassId} {S : hE} {g : Nat → Nat} {n0 nx : Nat} {N : Nat} {res : hE} (C : hX p s m args c prog_11_method_7_code 9 R_M ws_M_split D kA S g n0) (hr : meth.sig.returnType = none) (hlk : meth.locks = false) (hnm : meth.name = "split") (k31 : Option Nat → Int32 → Int32 → Int32 → hE → Option (hE)) (hk31 : ∀ (y0 : Option Nat) (y3 : Int32) (y4 : Int32) (y5 : Int32) (E : hE) (H : Heap) (locs : List Loc) (ls : Array Slot), hY D kA n0 s E nx H locs → lv_has ls 9 [(0, va_rf y0), (3, .int y3), (4, .int y4), (5, .int y5)] → k31 y0 y3 y4 y5 E = some res → W p l e rm_M_split s m args below meth c H locs 0 0 (MQ below (va_Qv (fun w => w = (res, nx)) (hJ D kA S g n0) (fun q => n0 ≤ q)) args s 0 0 (fun q => n0 ≤ q)) (F0 m 31 ls [])) : ∀ (y0 : Option Nat) (y3 : Int32) (y4 : Int32) (y5 : Int32) (E : hE) (H : Heap) (locs : List Loc) (ls : Array Slot), hY D kA n0 s E nx H locs → lv_has ls 9 [(0, va_rf y0), (3, .int y3), (4, .int y4), (5, .int y5)] → f_M_split_b172 N k31 y0 y3 y4 y5 E = some res → W p l e rm_M_split s m args below meth c H locs 0 0 (MQ below (va_Qv (fun w => w = (res, nx)) (hJ D kA S g n0) (fun q => n0 ≤ q)) args s 0 0 (fun q => n0 ≤ q)) (F0 m 172 ls []) := by
  intro y0 y3 y4 y5 E H locs ls M hl hf
  unfold f_M_split_b172 at hf
  refine w_aload_n C.x C.b dM_split_172 rfl (lv_at hl 0 rfl) ?_
  refine lv_dup C.x C.b dM_split_173 (va_rf_cat _) ?_
  obtain ⟨v174, h174, hf⟩ := Option.bind_eq_some_iff.mp hf
  refine w_getI C M h174 rfl (hm_in in_M) (by decide) (List.mem_cons_of_mem _ wm_731) rfl dM_split_174 ?_
  refine lv_iconst (v := 1) C.x C.b dM_split_177 (by decide) ?_
  refine lv_iadd C.x C.b dM_split_178 ?_
  obtain ⟨E179, h179, hf⟩ := Option.bind_eq_some_iff.mp hf
  refine w_putV (ty := .int) C M ty_M h179 rfl (hm_in in_M) tyok_M nm_M (by decide) (List.mem_cons_of_mem _ wm_731) rfl rfl (by decide +kernel) rfl rfl dM_split_179 (fun H locs M => ?_)
  refine lv_goto (tgt := 31) C.x C.b dM_split_182 (by decide) ?_
  exact hk31 _ _ _ _ _ _ _ _ M (lv_sub hl [0, 1, 2, 3] rfl) hf
def f_M_split_b126 (N : Nat) (k31 : Option Nat → Int32 → Int32 → Int32 → hE → Option (hE)) (y0 : Option Nat) (y3 : Int32) (y4 : Int32) (y5 : Int32) (y6 : Int32) (y7 : Int64) (E : hE) : Option (hE) := (
  (gI E y0 7 8).bind fun v127 =>
  if 7 ≤ v127 then (
  f_M_split_b172 N k31 y0 y3 y4 y5 E
  ) else (
  (gR E y0 7 9).bind fun v136 =>
  (gI E y0 7 8).bind fun v140 =>
  (tJ E v136 2 v140 y7).bind fun E145 =>
  (gR E145 y0 7 10).bind fun v147 =>
  (gI E145 y0 7 8).bind fun v151 =>
  (tI E145 v147 0 v151 (y3 + y6)).bind fun E158 =>
  (gR E158 y0 7 11).bind fun v160 =>
  (gI E158 y0 7 8).bind fun v164 =>
  (tI E158 v160 0 v164 (y3 + y4)).bind fun E171 =>
  f_M_split_b172 N k31 y0 y3 y4 y5 E171
  ))
set_option maxHeartbeats 4000000 in
set_option maxRecDepth 100000 in
theorem b_M_split_126 {p : Program} {l : Launch} {e : Env} {s : State} {m : MethodId} {args : Array Value} {below : List Frame} {meth : Method} {c : Code} {D : va_G} {kA : Nat → ClassId} {S : hE} {g : Nat → Nat} {n0 nx : Nat} {N : Nat} {res : hE} (C : hX p s m args c prog_11_method_7_code 9 R_M ws_M_split D kA S g n0) (hr : meth.sig.returnType = none) (hlk : meth.locks = false) (hnm : meth.name = "split") (k31 : Option Nat → Int32 → Int32 → Int32 → hE → Option (hE)) (hk31 : ∀ (y0 : Option Nat) (y3 : Int32) (y4 : Int32) (y5 : Int32) (E : hE) (H : Heap) (locs : List Loc) (ls : Array Slot), hY D kA n0 s E nx H locs → lv_has ls 9 [(0, va_rf y0), (3, .int y3), (4, .int y4), (5, .int y5)] → k31 y0 y3 y4 y5 E = some res → W p l e rm_M_split s m args below meth c H locs 0 0 (MQ below (va_Qv (fun w => w = (res, nx)) (hJ D kA S g n0) (fun q => n0 ≤ q)) args s 0 0 (fun q => n0 ≤ q)) (F0 m 31 ls [])) : ∀ (y0 : Option Nat) (y3 : Int32) (y4 : Int32) (y5 : Int32) (y6 : Int32) (y7 : Int64) (E : hE) (H : Heap) (locs : List Loc) (ls : Array Slot), hY D kA n0 s E nx H locs → lv_has ls 9 [(0, va_rf y0), (3, .int y3), (4, .int y4), (5, .int y5), (6, .int y6), (7, .long y7)] → f_M_split_b126 N k31 y0 y3 y4 y5 y6 y7 E = some res → W p l e rm_M_split s m args below meth c H locs 0 0 (MQ below (va_Qv (fun w => w = (res, nx)) (hJ D kA S g n0) (fun q => n0 ≤ q)) args s 0 0 (fun q => n0 ≤ q)) (F0 m 126 ls []) := by
  intro y0 y3 y4 y5 y6 y7 E H locs ls M hl hf
  unfold f_M_split_b126 at hf
  refine w_aload_n C.x C.b dM_split_126 rfl (lv_at hl 0 rfl) ?_
  obtain ⟨v127, h127, hf⟩ := Option.bind_eq_some_iff.mp hf
  refine w_getI C M h127 rfl (hm_in in_M) (by decide) (List.mem_cons_of_mem _ wm_731) rfl dM_split_127 ?_
  refine lv_bipush (v := 7) C.x C.b dM_split_130 (by decide) ?_
  refine lv_icmp_ge (tgt := 172) C.x C.b dM_split_132 (by decide) (fun c132 => ?_) (fun c132 => ?_)
  · rw [if_pos c132] at hf
    exact b_M_split_172 C hr hlk hnm k31 hk31 _ _ _ _ _ _ _ _ M (lv_sub hl [0, 1, 2, 3] rfl) hf
  · rw [if_neg c132] at hf
    refine w_aload_n C.x C.b dM_split_135 rfl (lv_at hl 0 rfl) ?_
    obtain ⟨v136, h136, hf⟩ := Option.bind_eq_some_iff.mp hf
    refine w_getR C M h136 rfl (hm_in in_M) (by decide) (List.mem_cons_of_mem _ wm_732) rfl dM_split_136 ?_
    refine w_aload_n C.x C.b dM_split_139 rfl (lv_at hl 0 rfl) ?_
    obtain ⟨v140, h140, hf⟩ := Option.bind_eq_some_iff.mp hf
    refine w_getI C M h140 rfl (hm_in in_M) (by decide) (List.mem_cons_of_mem _ wm_731) rfl dM_split_140 ?_
    refine lv_lload C.x C.b dM_split_143 (lv_at hl 5 rfl) ?_
    obtain ⟨E145, h145, hf⟩ := Option.bind_eq_some_iff.mp hf
    refine w_last C M h145 rfl dM_split_145 (fun H locs M => ?_)
    refine w_aload_n C.x C.b dM_split_146 rfl (lv_at hl 0 rfl) ?_
    obtain ⟨v147, h147, hf⟩ := Option.bind_eq_some_iff.mp hf
    refine w_getR C M h147 rfl (hm_in in_M) (by decide) (List.mem_cons_of_mem _ wm_733) rfl dM_split_147 ?_
    refine w_aload_n C.x C.b dM_split_150 rfl (lv_at hl 0 rfl) ?_
    obtain ⟨v151, h151, hf⟩ := Option.bind_eq_some_iff.mp hf
    refine w_getI C M h151 rfl (hm_in in_M) (by decide) (List.mem_cons_of_mem _ wm_731) rfl dM_split_151 ?_
    refine lv_iload_n C.x C.b dM_split_154 rfl (lv_at hl 1 rfl) ?_
    refine lv_iload C.x C.b dM_split_155 (lv_at hl 4 rfl) ?_
    refine lv_iadd C.x C.b dM_split_157 ?_
    obtain ⟨E158, h158, hf⟩ := Option.bind_eq_some_iff.mp hf
    refine w_iast C M h158 rfl dM_split_158 (fun H locs M => ?_)
    refine w_aload_n C.x C.b dM_split_159 rfl (lv_at hl 0 rfl) ?_
    obtain ⟨v160, h160, hf⟩ := Option.bind_eq_some_iff.mp hf
    refine w_getR C M h160 rfl (hm_in in_M) (by decide) (List.mem_cons_of_mem _ wm_734) rfl dM_split_160 ?_
    refine w_aload_n C.x C.b dM_split_163 rfl (lv_at hl 0 rfl) ?_
    obtain ⟨v164, h164, hf⟩ := Option.bind_eq_some_iff.mp hf
    refine w_getI C M h164 rfl (hm_in in_M) (by decide) (List.mem_cons_of_mem _ wm_731) rfl dM_split_164 ?_
    refine lv_iload_n C.x C.b dM_split_167 rfl (lv_at hl 1 rfl) ?_
    refine lv_iload C.x C.b dM_split_168 (lv_at hl 2 rfl) ?_
    refine lv_iadd C.x C.b dM_split_170 ?_
    obtain ⟨E171, h171, hf⟩ := Option.bind_eq_some_iff.mp hf
    refine w_iast C M h171 rfl dM_split_171 (fun H locs M => ?_)
    exact b_M_split_172 C hr hlk hnm k31 hk31 _ _ _ _ _ _ _ _ M (lv_sub hl [0, 1, 2, 3] rfl) hf
def f_M_split_b118 (N : Nat) (k65 : Option Nat → Int32 → Int32 → Int32 → Int32 → Int64 → hE → Option (hE)) (y0 : Option Nat) (y3 : Int32) (y4 : Int32) (y5 : Int32) (y6 : Int32) (t0 : Int64) (E : hE) : Option (hE) := (
  k65 y0 y3 (y4 + 1) y5 y6 t0 E)
set_option maxHeartbeats 4000000 in
set_option maxRecDepth 100000 in
theorem b_M_split_118 {p : Program} {l : Launch} {e : Env} {s : State} {m : MethodId} {args : Array Value} {below : List Frame} {meth : Method} {c : Code} {D : va_G} {kA : Nat → ClassId} {S : hE} {g : Nat → Nat} {n0 nx : Nat} {N : Nat} {res : hE} (C : hX p s m args c prog_11_method_7_code 9 R_M ws_M_split D kA S g n0) (hr : meth.sig.returnType = none) (hlk : meth.locks = false) (hnm : meth.name = "split") (k65 : Option Nat → Int32 → Int32 → Int32 → Int32 → Int64 → hE → Option (hE)) (hk65 : ∀ (y0 : Option Nat) (y3 : Int32) (y4 : Int32) (y5 : Int32) (y6 : Int32) (y7 : Int64) (E : hE) (H : Heap) (locs : List Loc) (ls : Array Slot), hY D kA n0 s E nx H locs → lv_has ls 9 [(0, va_rf y0), (3, .int y3), (4, .int y4), (5, .int y5), (6, .int y6), (7, .long y7)] → k65 y0 y3 y4 y5 y6 y7 E = some res → W p l e rm_M_split s m args below meth c H locs 0 0 (MQ below (va_Qv (fun w => w = (res, nx)) (hJ D kA S g n0) (fun q => n0 ≤ q)) args s 0 0 (fun q => n0 ≤ q)) (F0 m 65 ls [])) : ∀ (y0 : Option Nat) (y3 : Int32) (y4 : Int32) (y5 : Int32) (y6 : Int32) (t0 : Int64) (E : hE) (H : Heap) (locs : List Loc) (ls : Array Slot), hY D kA n0 s E nx H locs → lv_has ls 9 [(0, va_rf y0), (3, .int y3), (4, .int y4), (5, .int y5), (6, .int y6)] → f_M_split_b118 N k65 y0 y3 y4 y5 y6 t0 E = some res → W p l e rm_M_split s m args below meth c H locs 0 0 (MQ below (va_Qv (fun w => w = (res, nx)) (hJ D kA S g n0) (fun q => n0 ≤ q)) args s 0 0 (fun q => n0 ≤ q)) (F0 m 118 ls [.long t0]) := by
  intro y0 y3 y4 y5 y6 t0 E H locs ls M hl hf
  unfold f_M_split_b118 at hf
  refine lv_lstore (lv' := [(7, .long t0), (0, va_rf y0), (3, .int y3), (4, .int y4), (5, .int y5), (6, .int y6)]) C.x C.b dM_split_118 hl (by decide) rfl (fun ls hl => ?_)
  refine lv_iinc (v := y4 + 1) (lv' := [(4, .int (y4 + 1)), (7, .long t0), (0, va_rf y0), (3, .int y3), (5, .int y5), (6, .int y6)]) C.x C.b dM_split_120 hl (k := 3) rfl rfl (by decide) rfl (fun ls hl => ?_)
  refine lv_goto (tgt := 65) C.x C.b dM_split_123 (by decide) ?_
  exact hk65 _ _ _ _ _ _ _ _ _ _ M (lv_sub hl [2, 3, 0, 4, 5, 1] rfl) hf
def f_M_split_b65 (N : Nat) (k31 : Option Nat → Int32 → Int32 → Int32 → hE → Option (hE)) : Nat → Option Nat → Int32 → Int32 → Int32 → Int32 → Int64 → hE → Option (hE)
  | 0, _, _, _, _, _, _, _ => none
  | n + 1, y0, y3, y4, y5, y6, y7, E => (
  if y5 ≤ y4 then (
  f_M_split_b126 N k31 y0 y3 y4 y5 y6 y7 E
  ) else (
  (gR E y0 7 2).bind fun v73 =>
  (aI E v73 0 (y3 + y4)).bind fun v80 =>
  if v80 = 32 then (
  f_M_split_b126 N k31 y0 y3 y4 y5 y6 y7 E
  ) else (
  if 7 ≤ (y4 - y6) then (
  f_M_split_b118 N (f_M_split_b65 N k31 n) y0 y3 y4 y5 y6 (-1) E
  ) else (
  (gR E y0 7 2).bind fun v102 =>
  (aI E v102 0 (y3 + y4)).bind fun v109 =>
  f_M_split_b118 N (f_M_split_b65 N k31 n) y0 y3 y4 y5 y6 ((y7 <<< ((8 : Int32).toInt64 &&& 63)) ||| v109.toInt64) E
  )
  )
  ))
set_option maxHeartbeats 4000000 in
set_option maxRecDepth 100000 in
theorem b_M_split_65 {p : Program} {l : Launch} {e : Env} {s : State} {m : MethodId} {args : Array Value} {below : List Frame} {meth : Method} {c : Code} {D : va_G} {kA : Nat → ClassId} {S : hE} {g : Nat → Nat} {n0 nx : Nat} {N : Nat} {res : hE} (C : hX p s m args c prog_11_method_7_code 9 R_M ws_M_split D kA S g n0) (hr : meth.sig.returnType = none) (hlk : meth.locks = false) (hnm : meth.name = "split") (k31 : Option Nat → Int32 → Int32 → Int32 → hE → Option (hE)) (hk31 : ∀ (y0 : Option Nat) (y3 : Int32) (y4 : Int32) (y5 : Int32) (E : hE) (H : Heap) (locs : List Loc) (ls : Array Slot), hY D kA n0 s E nx H locs → lv_has ls 9 [(0, va_rf y0), (3, .int y3), (4, .int y4), (5, .int y5)] → k31 y0 y3 y4 y5 E = some res → W p l e rm_M_split s m args below meth c H locs 0 0 (MQ below (va_Qv (fun w => w = (res, nx)) (hJ D kA S g n0) (fun q => n0 ≤ q)) args s 0 0 (fun q => n0 ≤ q)) (F0 m 31 ls [])) : ∀ n : Nat, ∀ (y0 : Option Nat) (y3 : Int32) (y4 : Int32) (y5 : Int32) (y6 : Int32) (y7 : Int64) (E : hE) (H : Heap) (locs : List Loc) (ls : Array Slot), hY D kA n0 s E nx H locs → lv_has ls 9 [(0, va_rf y0), (3, .int y3), (4, .int y4), (5, .int y5), (6, .int y6), (7, .long y7)] → f_M_split_b65 N k31 n y0 y3 y4 y5 y6 y7 E = some res → W p l e rm_M_split s m args below meth c H locs 0 0 (MQ below (va_Qv (fun w => w = (res, nx)) (hJ D kA S g n0) (fun q => n0 ≤ q)) args s 0 0 (fun q => n0 ≤ q)) (F0 m 65 ls []) := by
  intro n
  induction n with
  | zero =>
    intro y0 y3 y4 y5 y6 y7 E H locs ls M hl hf
    simp [f_M_split_b65] at hf
  | succ n ih =>
    intro y0 y3 y4 y5 y6 y7 E H locs ls M hl hf
    rw [f_M_split_b65] at hf
    refine lv_iload C.x C.b dM_split_65 (lv_at hl 2 rfl) ?_
    refine lv_iload C.x C.b dM_split_67 (lv_at hl 3 rfl) ?_
    refine lv_icmp_ge (tgt := 126) C.x C.b dM_split_69 (by decide) (fun c69 => ?_) (fun c69 => ?_)
    · rw [if_pos c69] at hf
      exact b_M_split_126 C hr hlk hnm k31 hk31 _ _ _ _ _ _ _ _ _ _ M (lv_sub hl [0, 1, 2, 3, 4, 5] rfl) hf
    · rw [if_neg c69] at hf
      refine w_aload_n C.x C.b dM_split_72 rfl (lv_at hl 0 rfl) ?_
      obtain ⟨v73, h73, hf⟩ := Option.bind_eq_some_iff.mp hf
      refine w_getR C M h73 rfl (hm_in in_M) (by decide) (List.mem_cons_of_mem _ wm_725) rfl dM_split_73 ?_
      refine lv_iload_n C.x C.b dM_split_76 rfl (lv_at hl 1 rfl) ?_
      refine lv_iload C.x C.b dM_split_77 (lv_at hl 2 rfl) ?_
      refine lv_iadd C.x C.b dM_split_79 ?_
      obtain ⟨v80, h80, hf⟩ := Option.bind_eq_some_iff.mp hf
      refine w_iald C M h80 rfl dM_split_80 ?_
      refine lv_bipush (v := 32) C.x C.b dM_split_81 (by decide) ?_
      refine lv_icmp_eq (tgt := 126) C.x C.b dM_split_83 (by decide) (fun c83 => ?_) (fun c83 => ?_)
      · rw [if_pos c83] at hf
        exact b_M_split_126 C hr hlk hnm k31 hk31 _ _ _ _ _ _ _ _ _ _ M (lv_sub hl [0, 1, 2, 3, 4, 5] rfl) hf
      · rw [if_neg c83] at hf
        refine lv_iload C.x C.b dM_split_86 (lv_at hl 2 rfl) ?_
        refine lv_iload C.x C.b dM_split_88 (lv_at hl 4 rfl) ?_
        refine lv_isub C.x C.b dM_split_90 ?_
        refine lv_bipush (v := 7) C.x C.b dM_split_91 (by decide) ?_
        refine lv_icmp_ge (tgt := 115) C.x C.b dM_split_93 (by decide) (fun c93 => ?_) (fun c93 => ?_)
        · rw [if_pos c93] at hf
          refine lv_ldc2 (v := (-1)) C.x C.b C.ow (C.ts (.constantLong R_M 105 (-1)) (List.mem_cons_of_mem _ wm_848)) dM_split_115 ?_
          exact b_M_split_118 C hr hlk hnm (f_M_split_b65 N k31 n) ih _ _ _ _ _ _ _ _ _ _ M (lv_sub hl [0, 1, 2, 3, 4] rfl) hf
        · rw [if_neg c93] at hf
          refine lv_lload C.x C.b dM_split_96 (lv_at hl 5 rfl) ?_
          refine lv_bipush (v := 8) C.x C.b dM_split_98 (by decide) ?_
          refine lv_lshl C.x C.b dM_split_100 rfl ?_
          refine w_aload_n C.x C.b dM_split_101 rfl (lv_at hl 0 rfl) ?_
          obtain ⟨v102, h102, hf⟩ := Option.bind_eq_some_iff.mp hf
          refine w_getR C M h102 rfl (hm_in in_M) (by decide) (List.mem_cons_of_mem _ wm_725) rfl dM_split_102 ?_
          refine lv_iload_n C.x C.b dM_split_105 rfl (lv_at hl 1 rfl) ?_
          refine lv_iload C.x C.b dM_split_106 (lv_at hl 2 rfl) ?_
          refine lv_iadd C.x C.b dM_split_108 ?_
          obtain ⟨v109, h109, hf⟩ := Option.bind_eq_some_iff.mp hf
          refine w_iald C M h109 rfl dM_split_109 ?_
          refine lv_i2l C.x C.b dM_split_110 rfl ?_
          refine lv_lor C.x C.b dM_split_111 ?_
          refine lv_goto (tgt := 118) C.x C.b dM_split_112 (by decide) ?_
          exact b_M_split_118 C hr hlk hnm (f_M_split_b65 N k31 n) ih _ _ _ _ _ _ _ _ _ _ M (lv_sub hl [0, 1, 2, 3, 4] rfl) hf
def f_M_split_b31 (N : Nat) : Nat → Option Nat → Int32 → Int32 → Int32 → hE → Option (hE)
  | 0, _, _, _, _, _ => none
  | n + 1, y0, y3, y4, y5, E => (
  if y5 ≤ y4 then (
  some E
  ) else (
  (gR E y0 7 2).bind fun v39 =>
  (aI E v39 0 (y3 + y4)).bind fun v46 =>
  if v46 = 32 then (
  f_M_split_b31 N n y0 y3 (y4 + 1) y5 E
  ) else (
  f_M_split_b65 N (f_M_split_b31 N n) N y0 y3 y4 y5 y4 0 E
  )
  ))
set_option maxHeartbeats 4000000 in
set_option maxRecDepth 100000 in
theorem b_M_split_31 {p : Program} {l : Launch} {e : Env} {s : State} {m : MethodId} {args : Array Value} {below : List Frame} {meth : Method} {c : Code} {D : va_G} {kA : Nat → ClassId} {S : hE} {g : Nat → Nat} {n0 nx : Nat} {N : Nat} {res : hE} (C : hX p s m args c prog_11_method_7_code 9 R_M ws_M_split D kA S g n0) (hr : meth.sig.returnType = none) (hlk : meth.locks = false) (hnm : meth.name = "split") : ∀ n : Nat, ∀ (y0 : Option Nat) (y3 : Int32) (y4 : Int32) (y5 : Int32) (E : hE) (H : Heap) (locs : List Loc) (ls : Array Slot), hY D kA n0 s E nx H locs → lv_has ls 9 [(0, va_rf y0), (3, .int y3), (4, .int y4), (5, .int y5)] → f_M_split_b31 N n y0 y3 y4 y5 E = some res → W p l e rm_M_split s m args below meth c H locs 0 0 (MQ below (va_Qv (fun w => w = (res, nx)) (hJ D kA S g n0) (fun q => n0 ≤ q)) args s 0 0 (fun q => n0 ≤ q)) (F0 m 31 ls []) := by
  intro n
  induction n with
  | zero =>
    intro y0 y3 y4 y5 E H locs ls M hl hf
    simp [f_M_split_b31] at hf
  | succ n ih =>
    intro y0 y3 y4 y5 E H locs ls M hl hf
    rw [f_M_split_b31] at hf
    refine lv_iload C.x C.b dM_split_31 (lv_at hl 2 rfl) ?_
    refine lv_iload C.x C.b dM_split_33 (lv_at hl 3 rfl) ?_
    refine lv_icmp_ge (tgt := 185) C.x C.b dM_split_35 (by decide) (fun c35 => ?_) (fun c35 => ?_)
    · rw [if_pos c35] at hf
      cases hf
      exact w_vret C M hr hlk (Nat.le_refl _) (Nat.le_refl _) dM_split_185 rfl
    · rw [if_neg c35] at hf
      refine w_aload_n C.x C.b dM_split_38 rfl (lv_at hl 0 rfl) ?_
      obtain ⟨v39, h39, hf⟩ := Option.bind_eq_some_iff.mp hf
      refine w_getR C M h39 rfl (hm_in in_M) (by decide) (List.mem_cons_of_mem _ wm_725) rfl dM_split_39 ?_
      refine lv_iload_n C.x C.b dM_split_42 rfl (lv_at hl 1 rfl) ?_
      refine lv_iload C.x C.b dM_split_43 (lv_at hl 2 rfl) ?_
      refine lv_iadd C.x C.b dM_split_45 ?_
      obtain ⟨v46, h46, hf⟩ := Option.bind_eq_some_iff.mp hf
      refine w_iald C M h46 rfl dM_split_46 ?_
      refine lv_bipush (v := 32) C.x C.b dM_split_47 (by decide) ?_
      refine lv_icmp_ne (tgt := 58) C.x C.b dM_split_49 (by decide) (fun c49 => ?_) (fun c49 => ?_)
      · rw [if_neg c49] at hf
        refine lv_iload C.x C.b dM_split_58 (lv_at hl 2 rfl) ?_
        refine lv_istore (lv' := [(6, .int y4), (0, va_rf y0), (3, .int y3), (4, .int y4), (5, .int y5)]) C.x C.b dM_split_60 hl (by decide) rfl (fun ls hl => ?_)
        refine lv_lconst (v := 0) C.x C.b dM_split_62 (by decide) ?_
        refine lv_lstore (lv' := [(7, .long 0), (6, .int y4), (0, va_rf y0), (3, .int y3), (4, .int y4), (5, .int y5)]) C.x C.b dM_split_63 hl (by decide) rfl (fun ls hl => ?_)
        exact b_M_split_65 C hr hlk hnm (f_M_split_b31 N n) ih N _ _ _ _ _ _ _ _ _ _ M (lv_sub hl [2, 3, 4, 5, 1, 0] rfl) hf
      · rw [if_pos c49] at hf
        refine lv_iinc (v := y4 + 1) (lv' := [(4, .int (y4 + 1)), (0, va_rf y0), (3, .int y3), (5, .int y5)]) C.x C.b dM_split_52 hl (k := 2) rfl rfl (by decide) rfl (fun ls hl => ?_)
        refine lv_goto (tgt := 31) C.x C.b dM_split_55 (by decide) ?_
        exact ih _ _ _ _ _ _ _ _ M (lv_sub hl [1, 2, 0, 3] rfl) hf
def f_M_split (N : Nat) (x0 : Nat) (x1 : Int32) (x2 : Int32) (E : hE) : Option (hE) := (
  (sI E (some x0) 7 8 0).bind fun E2 =>
  (gR E2 (some x0) 7 3).bind fun v12 =>
  (aI E2 v12 0 ((400 * x1) + x2)).bind fun v18 =>
  (gR E2 (some x0) 7 4).bind fun v22 =>
  (aI E2 v22 0 ((400 * x1) + x2)).bind fun v28 =>
  f_M_split_b31 N N (some x0) (400 * x1) v18 v28 E2)
set_option maxHeartbeats 4000000 in
set_option maxRecDepth 100000 in
theorem c_M_split {l : Launch} {D : va_G} {kA : Nat → ClassId} {S : hE} {g : Nat → Nat} {n0 nx : Nat} {N : Nat} {x0 : Nat} {x1 : Int32} {x2 : Int32} {E : hE} {res : hE} (hf : f_M_split N x0 x1 x2 E = some res) : Met l y_M_split ws_M_split rm_M_split (va_Pc [va_rf (some x0), .int x1, .int x2] (hJ D kA S g n0 (E, nx))) (va_Qv (fun w => w = (res, nx)) (hJ D kA S g n0) (fun q => n0 ≤ q)) 0 0 (fun q => n0 ≤ q) := by
  refine h_met (cc := prog_11_method_7_code) (maxL := 9) (ret := none) (lvs := [(0, va_rf (some x0)), (1, .int x1), (2, .int x2)]) zZ_k (by decide) rfl (by simp [lg_sl, va_rf_cat, cat_i, cat_l, cat_n]) (by simp [lv_args, va_rf_cat, cat_i, cat_l, cat_n]) ?_
  intro p e s m below meth c ls C M hr hlk hnm hl
  unfold f_M_split at hf
  refine w_aload_n C.x C.b dM_split_0 rfl (lv_at hl 0 rfl) ?_
  refine lv_iconst (v := 0) C.x C.b dM_split_1 (by decide) ?_
  obtain ⟨E2, h2, hf⟩ := Option.bind_eq_some_iff.mp hf
  refine w_putV (ty := .int) C M ty_M h2 rfl (hm_in in_M) tyok_M nm_M (by decide) (List.mem_cons_of_mem _ wm_731) rfl rfl (by decide +kernel) rfl rfl dM_split_2 (fun H locs M => ?_)
  refine lv_sipush (v := 400) C.x C.b dM_split_5 (by decide) ?_
  refine lv_iload_n C.x C.b dM_split_8 rfl (lv_at hl 1 rfl) ?_
  refine lv_imul C.x C.b dM_split_9 ?_
  refine lv_istore_n (lv' := [(3, .int (400 * x1)), (0, va_rf (some x0)), (1, .int x1), (2, .int x2)]) C.x C.b dM_split_10 rfl hl (by decide) rfl (fun ls hl => ?_)
  refine w_aload_n C.x C.b dM_split_11 rfl (lv_at hl 1 rfl) ?_
  obtain ⟨v12, h12, hf⟩ := Option.bind_eq_some_iff.mp hf
  refine w_getR C M h12 rfl (hm_in in_M) (by decide) (List.mem_cons_of_mem _ wm_726) rfl dM_split_12 ?_
  refine lv_iload_n C.x C.b dM_split_15 rfl (lv_at hl 0 rfl) ?_
  refine lv_iload_n C.x C.b dM_split_16 rfl (lv_at hl 3 rfl) ?_
  refine lv_iadd C.x C.b dM_split_17 ?_
  obtain ⟨v18, h18, hf⟩ := Option.bind_eq_some_iff.mp hf
  refine w_iald C M h18 rfl dM_split_18 ?_
  refine lv_istore (lv' := [(4, .int v18), (3, .int (400 * x1)), (0, va_rf (some x0)), (1, .int x1), (2, .int x2)]) C.x C.b dM_split_19 hl (by decide) rfl (fun ls hl => ?_)
  refine w_aload_n C.x C.b dM_split_21 rfl (lv_at hl 2 rfl) ?_
  obtain ⟨v22, h22, hf⟩ := Option.bind_eq_some_iff.mp hf
  refine w_getR C M h22 rfl (hm_in in_M) (by decide) (List.mem_cons_of_mem _ wm_727) rfl dM_split_22 ?_
  refine lv_iload_n C.x C.b dM_split_25 rfl (lv_at hl 1 rfl) ?_
  refine lv_iload_n C.x C.b dM_split_26 rfl (lv_at hl 4 rfl) ?_
  refine lv_iadd C.x C.b dM_split_27 ?_
  obtain ⟨v28, h28, hf⟩ := Option.bind_eq_some_iff.mp hf
  refine w_iald C M h28 rfl dM_split_28 ?_
  refine lv_istore (lv' := [(5, .int v28), (4, .int v18), (3, .int (400 * x1)), (0, va_rf (some x0)), (1, .int x1), (2, .int x2)]) C.x C.b dM_split_29 hl (by decide) rfl (fun ls hl => ?_)
  exact b_M_split_31 C hr hlk hnm N _ _ _ _ _ _ _ _ M (lv_sub hl [3, 2, 1, 0] rfl) hf
theorem dM_isLabel_0 : decode prog_11_method_14_code 0 = .ok (.aload_n 0, 1) := by decide +kernel
theorem dM_isLabel_1 : decode prog_11_method_14_code 1 = .ok (.getfield 102, 3) := by decide +kernel
theorem dM_isLabel_4 : decode prog_11_method_14_code 4 = .ok (.iconst 1, 1) := by decide +kernel
theorem dM_isLabel_5 : decode prog_11_method_14_code 5 = .ok (.if_icmp .ne 56, 3) := by decide +kernel
theorem dM_isLabel_8 : decode prog_11_method_14_code 8 = .ok (.aload_n 0, 1) := by decide +kernel
theorem dM_isLabel_9 : decode prog_11_method_14_code 9 = .ok (.getfield 32, 3) := by decide +kernel
theorem dM_isLabel_12 : decode prog_11_method_14_code 12 = .ok (.iconst 0, 1) := by decide +kernel
theorem dM_isLabel_13 : decode prog_11_method_14_code 13 = .ok (.laload, 1) := by decide +kernel
theorem dM_isLabel_14 : decode prog_11_method_14_code 14 = .ok (.ldc2_w 81, 3) := by decide +kernel
theorem dM_isLabel_17 : decode prog_11_method_14_code 17 = .ok (.land, 1) := by decide +kernel
theorem dM_isLabel_18 : decode prog_11_method_14_code 18 = .ok (.ldc2_w 144, 3) := by decide +kernel
theorem dM_isLabel_21 : decode prog_11_method_14_code 21 = .ok (.lcmp, 1) := by decide +kernel
theorem dM_isLabel_22 : decode prog_11_method_14_code 22 = .ok (.ifCond .ne 39, 3) := by decide +kernel
theorem dM_isLabel_25 : decode prog_11_method_14_code 25 = .ok (.aload_n 0, 1) := by decide +kernel
theorem dM_isLabel_26 : decode prog_11_method_14_code 26 = .ok (.getfield 32, 3) := by decide +kernel
theorem dM_isLabel_29 : decode prog_11_method_14_code 29 = .ok (.iconst 0, 1) := by decide +kernel
theorem dM_isLabel_30 : decode prog_11_method_14_code 30 = .ok (.laload, 1) := by decide +kernel
theorem dM_isLabel_31 : decode prog_11_method_14_code 31 = .ok (.bipush 8, 2) := by decide +kernel
theorem dM_isLabel_33 : decode prog_11_method_14_code 33 = .ok (.lshr, 1) := by decide +kernel
theorem dM_isLabel_34 : decode prog_11_method_14_code 34 = .ok (.ldc2_w 111, 3) := by decide +kernel
theorem dM_isLabel_37 : decode prog_11_method_14_code 37 = .ok (.lcmp, 1) := by decide +kernel
theorem dM_isLabel_38 : decode prog_11_method_14_code 38 = .ok (.ifCond .lt 23, 3) := by decide +kernel
theorem dM_isLabel_41 : decode prog_11_method_14_code 41 = .ok (.aload_n 0, 1) := by decide +kernel
theorem dM_isLabel_42 : decode prog_11_method_14_code 42 = .ok (.getfield 32, 3) := by decide +kernel
theorem dM_isLabel_45 : decode prog_11_method_14_code 45 = .ok (.iconst 0, 1) := by decide +kernel
theorem dM_isLabel_46 : decode prog_11_method_14_code 46 = .ok (.laload, 1) := by decide +kernel
theorem dM_isLabel_47 : decode prog_11_method_14_code 47 = .ok (.bipush 8, 2) := by decide +kernel
theorem dM_isLabel_49 : decode prog_11_method_14_code 49 = .ok (.lshr, 1) := by decide +kernel
theorem dM_isLabel_50 : decode prog_11_method_14_code 50 = .ok (.ldc2_w 113, 3) := by decide +kernel
theorem dM_isLabel_53 : decode prog_11_method_14_code 53 = .ok (.lcmp, 1) := by decide +kernel
theorem dM_isLabel_54 : decode prog_11_method_14_code 54 = .ok (.ifCond .gt 7, 3) := by decide +kernel
theorem dM_isLabel_57 : decode prog_11_method_14_code 57 = .ok (.iconst 1, 1) := by decide +kernel
theorem dM_isLabel_58 : decode prog_11_method_14_code 58 = .ok (.goto 4, 3) := by decide +kernel
theorem dM_isLabel_61 : decode prog_11_method_14_code 61 = .ok (.iconst 0, 1) := by decide +kernel
theorem dM_isLabel_62 : decode prog_11_method_14_code 62 = .ok (.ireturn, 1) := by decide +kernel
abbrev rm_M_isLabel : Room := { frames := 0, cells := 0, slots := 0, locals := 0 }
def f_M_isLabel_b62 (E : hE) (t0 : Int32) : Option (Int32) := (
  (bZ t0).bind fun v62 =>
  some v62)
set_option maxHeartbeats 4000000 in
set_option maxRecDepth 100000 in
theorem b_M_isLabel_62 {p : Program} {l : Launch} {e : Env} {s : State} {m : MethodId} {args : Array Value} {below : List Frame} {meth : Method} {c : Code} {D : va_G} {kA : Nat → ClassId} {S : hE} {g : Nat → Nat} {n0 nx : Nat} {E : hE} {res : Int32} (C : hX p s m args c prog_11_method_14_code 1 R_M ws_M_isLabel D kA S g n0) (hr : meth.sig.returnType = (some .boolean)) (hlk : meth.locks = false) (hnm : meth.name = "isLabel") : ∀ (t0 : Int32) (H : Heap) (locs : List Loc) (ls : Array Slot), hY D kA n0 s E nx H locs → lv_has ls 1 [] → f_M_isLabel_b62 E  t0 = some res → W p l e rm_M_isLabel s m args below meth c H locs 0 0 (MQ below (va_Qi (fun r w => r = res ∧ w = (E, nx)) (hJ D kA S g n0) (fun q => n0 ≤ q)) args s 0 0 (fun q => n0 ≤ q)) (F0 m 62 ls [.int t0]) := by
  intro t0 H locs ls M hl hf
  unfold f_M_isLabel_b62 at hf
  obtain ⟨v62, h62, hf⟩ := Option.bind_eq_some_iff.mp hf
  obtain ⟨rfl, g62⟩ := bZ_some h62
  cases hf
  exact w_iret C M hr hlk (narrow_z g62) (Nat.le_refl _) (Nat.le_refl _) dM_isLabel_62 rfl rfl
def f_M_isLabel_b61 (E : hE) : Option (Int32) := (
  f_M_isLabel_b62 E 0)
set_option maxHeartbeats 4000000 in
set_option maxRecDepth 100000 in
theorem b_M_isLabel_61 {p : Program} {l : Launch} {e : Env} {s : State} {m : MethodId} {args : Array Value} {below : List Frame} {meth : Method} {c : Code} {D : va_G} {kA : Nat → ClassId} {S : hE} {g : Nat → Nat} {n0 nx : Nat} {E : hE} {res : Int32} (C : hX p s m args c prog_11_method_14_code 1 R_M ws_M_isLabel D kA S g n0) (hr : meth.sig.returnType = (some .boolean)) (hlk : meth.locks = false) (hnm : meth.name = "isLabel") : ∀  (H : Heap) (locs : List Loc) (ls : Array Slot), hY D kA n0 s E nx H locs → lv_has ls 1 [] → f_M_isLabel_b61 E   = some res → W p l e rm_M_isLabel s m args below meth c H locs 0 0 (MQ below (va_Qi (fun r w => r = res ∧ w = (E, nx)) (hJ D kA S g n0) (fun q => n0 ≤ q)) args s 0 0 (fun q => n0 ≤ q)) (F0 m 61 ls []) := by
  intro  H locs ls M hl hf
  unfold f_M_isLabel_b61 at hf
  refine lv_iconst (v := 0) C.x C.b dM_isLabel_61 (by decide) ?_
  exact b_M_isLabel_62 C hr hlk hnm _ _ _ _ M (lv_sub hl [] rfl) hf
def f_M_isLabel (E : hE) (x0 : Nat) : Option (Int32) := (
  (gI E (some x0) 7 8).bind fun v1 =>
  if v1 = 1 then (
  (gR E (some x0) 7 9).bind fun v9 =>
  (aJ E v9 2 0).bind fun v13 =>
  if (lg_cmp (v13 &&& 255) 58) = 0 then (
  (gR E (some x0) 7 9).bind fun v26 =>
  (aJ E v26 2 0).bind fun v30 =>
  if (lg_cmp (v30 >>> ((8 : Int32).toInt64 &&& 63)) 65) < 0 then (
  f_M_isLabel_b61 E 
  ) else (
  (gR E (some x0) 7 9).bind fun v42 =>
  (aJ E v42 2 0).bind fun v46 =>
  if 0 < (lg_cmp (v46 >>> ((8 : Int32).toInt64 &&& 63)) 90) then (
  f_M_isLabel_b61 E 
  ) else (
  f_M_isLabel_b62 E 1
  )
  )
  ) else (
  f_M_isLabel_b61 E 
  )
  ) else (
  f_M_isLabel_b61 E 
  ))
set_option maxHeartbeats 4000000 in
set_option maxRecDepth 100000 in
theorem c_M_isLabel {l : Launch} {D : va_G} {kA : Nat → ClassId} {S : hE} {g : Nat → Nat} {n0 nx : Nat} {x0 : Nat} {E : hE} {res : Int32} (hf : f_M_isLabel E x0 = some res) : Met l y_M_isLabel ws_M_isLabel rm_M_isLabel (va_Pc [va_rf (some x0)] (hJ D kA S g n0 (E, nx))) (va_Qi (fun r w => r = res ∧ w = (E, nx)) (hJ D kA S g n0) (fun q => n0 ≤ q)) 0 0 (fun q => n0 ≤ q) := by
  refine h_met (cc := prog_11_method_14_code) (maxL := 1) (ret := (some .boolean)) (lvs := [(0, va_rf (some x0))]) zZ_k (by decide) rfl (by simp [lg_sl, va_rf_cat, cat_i, cat_l, cat_n]) (by simp [lv_args, va_rf_cat, cat_i, cat_l, cat_n]) ?_
  intro p e s m below meth c ls C M hr hlk hnm hl
  unfold f_M_isLabel at hf
  refine w_aload_n C.x C.b dM_isLabel_0 rfl (lv_at hl 0 rfl) ?_
  obtain ⟨v1, h1, hf⟩ := Option.bind_eq_some_iff.mp hf
  refine w_getI C M h1 rfl (hm_in in_M) (by decide) (List.mem_cons_of_mem _ wm_731) rfl dM_isLabel_1 ?_
  refine lv_iconst (v := 1) C.x C.b dM_isLabel_4 (by decide) ?_
  refine lv_icmp_ne (tgt := 61) C.x C.b dM_isLabel_5 (by decide) (fun c5 => ?_) (fun c5 => ?_)
  · rw [if_neg c5] at hf
    exact b_M_isLabel_61 C hr hlk hnm _ _ _ M (lv_sub hl [] rfl) hf
  · rw [if_pos c5] at hf
    refine w_aload_n C.x C.b dM_isLabel_8 rfl (lv_at hl 0 rfl) ?_
    obtain ⟨v9, h9, hf⟩ := Option.bind_eq_some_iff.mp hf
    refine w_getR C M h9 rfl (hm_in in_M) (by decide) (List.mem_cons_of_mem _ wm_732) rfl dM_isLabel_9 ?_
    refine lv_iconst (v := 0) C.x C.b dM_isLabel_12 (by decide) ?_
    obtain ⟨v13, h13, hf⟩ := Option.bind_eq_some_iff.mp hf
    refine w_lald C M h13 rfl dM_isLabel_13 ?_
    refine lv_ldc2 (v := 255) C.x C.b C.ow (C.ts (.constantLong R_M 81 255) (List.mem_cons_of_mem _ wm_828)) dM_isLabel_14 ?_
    refine lv_land C.x C.b dM_isLabel_17 ?_
    refine lv_ldc2 (v := 58) C.x C.b C.ow (C.ts (.constantLong R_M 144 58) (List.mem_cons_of_mem _ wm_853)) dM_isLabel_18 ?_
    refine W.lcmp C.x C.b dM_isLabel_21 ?_
    refine lv_if_ne (tgt := 61) C.x C.b dM_isLabel_22 (by decide) (fun c22 => ?_) (fun c22 => ?_)
    · rw [if_neg c22] at hf
      exact b_M_isLabel_61 C hr hlk hnm _ _ _ M (lv_sub hl [] rfl) hf
    · rw [if_pos c22] at hf
      refine w_aload_n C.x C.b dM_isLabel_25 rfl (lv_at hl 0 rfl) ?_
      obtain ⟨v26, h26, hf⟩ := Option.bind_eq_some_iff.mp hf
      refine w_getR C M h26 rfl (hm_in in_M) (by decide) (List.mem_cons_of_mem _ wm_732) rfl dM_isLabel_26 ?_
      refine lv_iconst (v := 0) C.x C.b dM_isLabel_29 (by decide) ?_
      obtain ⟨v30, h30, hf⟩ := Option.bind_eq_some_iff.mp hf
      refine w_lald C M h30 rfl dM_isLabel_30 ?_
      refine lv_bipush (v := 8) C.x C.b dM_isLabel_31 (by decide) ?_
      refine lv_lshr C.x C.b dM_isLabel_33 rfl ?_
      refine lv_ldc2 (v := 65) C.x C.b C.ow (C.ts (.constantLong R_M 111 65) (List.mem_cons_of_mem _ wm_854)) dM_isLabel_34 ?_
      refine W.lcmp C.x C.b dM_isLabel_37 ?_
      refine lv_if_lt (tgt := 61) C.x C.b dM_isLabel_38 (by decide) (fun c38 => ?_) (fun c38 => ?_)
      · rw [if_pos c38] at hf
        exact b_M_isLabel_61 C hr hlk hnm _ _ _ M (lv_sub hl [] rfl) hf
      · rw [if_neg c38] at hf
        refine w_aload_n C.x C.b dM_isLabel_41 rfl (lv_at hl 0 rfl) ?_
        obtain ⟨v42, h42, hf⟩ := Option.bind_eq_some_iff.mp hf
        refine w_getR C M h42 rfl (hm_in in_M) (by decide) (List.mem_cons_of_mem _ wm_732) rfl dM_isLabel_42 ?_
        refine lv_iconst (v := 0) C.x C.b dM_isLabel_45 (by decide) ?_
        obtain ⟨v46, h46, hf⟩ := Option.bind_eq_some_iff.mp hf
        refine w_lald C M h46 rfl dM_isLabel_46 ?_
        refine lv_bipush (v := 8) C.x C.b dM_isLabel_47 (by decide) ?_
        refine lv_lshr C.x C.b dM_isLabel_49 rfl ?_
        refine lv_ldc2 (v := 90) C.x C.b C.ow (C.ts (.constantLong R_M 113 90) (List.mem_cons_of_mem _ wm_855)) dM_isLabel_50 ?_
        refine W.lcmp C.x C.b dM_isLabel_53 ?_
        refine lv_if_gt (tgt := 61) C.x C.b dM_isLabel_54 (by decide) (fun c54 => ?_) (fun c54 => ?_)
        · rw [if_pos c54] at hf
          exact b_M_isLabel_61 C hr hlk hnm _ _ _ M (lv_sub hl [] rfl) hf
        · rw [if_neg c54] at hf
          refine lv_iconst (v := 1) C.x C.b dM_isLabel_57 (by decide) ?_
          refine lv_goto (tgt := 62) C.x C.b dM_isLabel_58 (by decide) ?_
          exact b_M_isLabel_62 C hr hlk hnm _ _ _ _ M (lv_sub hl [] rfl) hf
