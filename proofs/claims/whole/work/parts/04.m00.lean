/-! m00: by wip/whole/gen.py -/
theorem dRow_init_0 : decode prog_6_method_1_code 0 = .ok (.aload_n 0, 1) := by decide +kernel
theorem dRow_init_1 : decode prog_6_method_1_code 1 = .ok (.invokespecial 3, 3) := by decide +kernel
theorem dRow_init_4 : decode prog_6_method_1_code 4 = .ok (.aload_n 0, 1) := by decide +kernel
theorem dRow_init_5 : decode prog_6_method_1_code 5 = .ok (.iload_n 1, 1) := by decide +kernel
theorem dRow_init_6 : decode prog_6_method_1_code 6 = .ok (.newarray .int, 2) := by decide +kernel
theorem dRow_init_8 : decode prog_6_method_1_code 8 = .ok (.putfield 9, 3) := by decide +kernel
theorem dRow_init_11 : decode prog_6_method_1_code 11 = .ok (.return_, 1) := by decide +kernel
abbrev rm_Row_init : Room := { frames := 1, cells := 1, slots := 400, locals := 20 }
def f_Row_init  (x0 : Nat) (x1 : Int32) (E : hE) (nx : Nat) : Option (hE × Nat) := (
  (nA E nx 0 x1 400).bind fun E6 =>
  (sR E6 (some x0) 0 0 (some nx)).bind fun E8 =>
  some (E8, nx + 1))
set_option maxHeartbeats 4000000 in
set_option maxRecDepth 100000 in
theorem c_Row_init {l : Launch} {D : va_G} {kA : Nat → ClassId} {S : hE} {g : Nat → Nat} {n0 nx : Nat} {x0 : Nat} {x1 : Int32} {E : hE} {res : hE × Nat} (hf : f_Row_init x0 x1 E nx = some res) : Met l y_Row_init ws_Row_init rm_Row_init (va_Pc [va_rf (some x0), .int x1] (hJ D kA S g n0 (E, nx))) (va_Qv (fun w => w = res) (hJ D kA S g n0) (fun q => n0 ≤ q)) 1 400 (fun q => n0 ≤ q) := by
  refine h_met (cc := prog_6_method_1_code) (maxL := 2) (ret := none) (lvs := [(0, va_rf (some x0)), (1, .int x1)]) zZ_k (by decide) rfl (by simp [lg_sl, va_rf_cat, cat_i, cat_l, cat_n]) (by simp [lv_args, va_rf_cat, cat_i, cat_l, cat_n]) ?_
  intro p e s m below meth c ls C M hr hlk hnm hl
  unfold f_Row_init at hf
  refine w_aload_n C.x C.b dRow_init_0 rfl (lv_at hl 0 rfl) ?_
  refine W.objInit C.x C.b C.ow (C.ts (.methodLink R_Row 3 objectInit) (List.mem_cons_of_mem _ wm_42)) (C.ts (.instanceMethod objectInit) (List.mem_cons_of_mem _ wm_29)) (C.ts _ (List.mem_cons_of_mem _ wm_30)) rfl (by rw [C.ml]; exact hl.1) rfl dRow_init_1 (Nat.le_of_ble_eq_true rfl) (Nat.le_of_ble_eq_true rfl) ?_
  refine W.eq (g2 := F0 m 4 ls []) rfl ?_
  refine w_aload_n C.x C.b dRow_init_4 rfl (lv_at hl 0 rfl) ?_
  refine lv_iload_n C.x C.b dRow_init_5 rfl (lv_at hl 1 rfl) ?_
  obtain ⟨E6, h6, hf⟩ := Option.bind_eq_some_iff.mp hf
  refine w_newI (atype := .int) (ty := .int) C M h6 (List.mem_cons_of_mem _ wm_57) rfl rfl (fun _ _ h => h) (fun _ _ => rfl) (by decide) (by show _ ≤ 1; omega) (by show _ ≤ 400; omega) dRow_init_6 (fun H M => ?_)
  obtain ⟨E8, h8, hf⟩ := Option.bind_eq_some_iff.mp hf
  refine w_putVF (ty := (.array .int)) C M ty_Row h8 rfl (hm_in in_Row) tyok_Row nm_Row (by decide) (List.mem_cons_of_mem _ wm_43) rfl rfl hnm rfl (by decide +kernel) (narrow_a _ _) (fits_a _ _) dRow_init_8 (fun H locs M => ?_)
  cases hf
  exact w_vret C M hr hlk (by omega) (by omega) dRow_init_11 rfl
theorem dTape_init_0 : decode prog_9_method_1_code 0 = .ok (.aload_n 0, 1) := by decide +kernel
theorem dTape_init_1 : decode prog_9_method_1_code 1 = .ok (.invokespecial 3, 3) := by decide +kernel
theorem dTape_init_4 : decode prog_9_method_1_code 4 = .ok (.aload_n 0, 1) := by decide +kernel
theorem dTape_init_5 : decode prog_9_method_1_code 5 = .ok (.new 9, 3) := by decide +kernel
theorem dTape_init_8 : decode prog_9_method_1_code 8 = .ok (.dup, 1) := by decide +kernel
theorem dTape_init_9 : decode prog_9_method_1_code 9 = .ok (.sipush 400, 3) := by decide +kernel
theorem dTape_init_12 : decode prog_9_method_1_code 12 = .ok (.invokespecial 11, 3) := by decide +kernel
theorem dTape_init_15 : decode prog_9_method_1_code 15 = .ok (.putfield 14, 3) := by decide +kernel
theorem dTape_init_18 : decode prog_9_method_1_code 18 = .ok (.aload_n 0, 1) := by decide +kernel
theorem dTape_init_19 : decode prog_9_method_1_code 19 = .ok (.bipush 6, 2) := by decide +kernel
theorem dTape_init_21 : decode prog_9_method_1_code 21 = .ok (.newarray .int, 2) := by decide +kernel
theorem dTape_init_23 : decode prog_9_method_1_code 23 = .ok (.putfield 20, 3) := by decide +kernel
theorem dTape_init_26 : decode prog_9_method_1_code 26 = .ok (.aload_n 0, 1) := by decide +kernel
theorem dTape_init_27 : decode prog_9_method_1_code 27 = .ok (.bipush 6, 2) := by decide +kernel
theorem dTape_init_29 : decode prog_9_method_1_code 29 = .ok (.newarray .int, 2) := by decide +kernel
theorem dTape_init_31 : decode prog_9_method_1_code 31 = .ok (.putfield 24, 3) := by decide +kernel
theorem dTape_init_34 : decode prog_9_method_1_code 34 = .ok (.return_, 1) := by decide +kernel
abbrev rm_Tape_init : Room := { frames := 2, cells := 4, slots := 415, locals := 41 }
def f_Tape_init  (x0 : Nat) (E : hE) (nx : Nat) : Option (hE × Nat) := (
  (some (va_up E nx (some (.inr (0, [.null, .int 0, .int 0]))))).bind fun E5 =>
  (f_Row_init nx 400 E5 (nx + 1)).bind fun v12 =>
  (sR v12.1 (some x0) 5 0 (some nx)).bind fun E15 =>
  (nA E15 v12.2 0 6 6).bind fun E21 =>
  (sR E21 (some x0) 5 1 (some v12.2)).bind fun E23 =>
  (nA E23 (v12.2 + 1) 0 6 6).bind fun E29 =>
  (sR E29 (some x0) 5 2 (some (v12.2 + 1))).bind fun E31 =>
  some (E31, v12.2 + 1 + 1))
set_option maxHeartbeats 4000000 in
set_option maxRecDepth 100000 in
theorem c_Tape_init {l : Launch} {D : va_G} {kA : Nat → ClassId} {S : hE} {g : Nat → Nat} {n0 nx : Nat} {x0 : Nat} {E : hE} {res : hE × Nat} (hf : f_Tape_init x0 E nx = some res) : Met l y_Tape_init ws_Tape_init rm_Tape_init (va_Pc [va_rf (some x0)] (hJ D kA S g n0 (E, nx))) (va_Qv (fun w => w = res) (hJ D kA S g n0) (fun q => n0 ≤ q)) 4 415 (fun q => n0 ≤ q) := by
  refine h_met (cc := prog_9_method_1_code) (maxL := 1) (ret := none) (lvs := [(0, va_rf (some x0))]) zZ_k (by decide) rfl (by simp [lg_sl, va_rf_cat, cat_i, cat_l, cat_n]) (by simp [lv_args, va_rf_cat, cat_i, cat_l, cat_n]) ?_
  intro p e s m below meth c ls C M hr hlk hnm hl
  unfold f_Tape_init at hf
  refine w_aload_n C.x C.b dTape_init_0 rfl (lv_at hl 0 rfl) ?_
  refine W.objInit C.x C.b C.ow (C.ts (.methodLink R_Tape 3 objectInit) (List.mem_cons_of_mem _ wm_36)) (C.ts (.instanceMethod objectInit) (List.mem_cons_of_mem _ wm_29)) (C.ts _ (List.mem_cons_of_mem _ wm_30)) rfl (by rw [C.ml]; exact hl.1) rfl dTape_init_1 (Nat.le_of_ble_eq_true rfl) (Nat.le_of_ble_eq_true rfl) ?_
  refine W.eq (g2 := F0 m 4 ls []) rfl ?_
  refine w_aload_n C.x C.b dTape_init_4 rfl (lv_at hl 0 rfl) ?_
  obtain ⟨E5, h5, hf⟩ := Option.bind_eq_some_iff.mp hf
  have h5 := Option.some.inj h5
  refine w_new (ci := 0) C M (fs := [.null, .int 0, .int 0]) ty_Row rfl (hm_in in_Row) tyok_Row (List.mem_cons_of_mem _ wm_37) (List.mem_cons_of_mem _ wm_38) (List.mem_cons_of_mem _ wm_3) (fun j hj => by rcases (show j = 0 ∨ j = 1 ∨ j = 2 by omega) with rfl | rfl | rfl <;> rfl) (by show _ ≤ 4; omega) (by show _ ≤ 415; omega) dTape_init_5 (fun H M => ?_)
  rw [h5] at M
  refine lv_dup C.x C.b dTape_init_8 (va_rf_cat _) ?_
  refine lv_sipush (v := 400) C.x C.b dTape_init_9 (by decide) ?_
  obtain ⟨v12, h12, hf⟩ := Option.bind_eq_some_iff.mp hf
  refine w_cv M (w_runI C M (c_Row_init h12) (cwI 1 C.ts (hgC wm_41) rfl rfl rfl (C.ts (.initialized R_Row) (List.mem_cons_of_mem _ wm_3)) (C.ts (.methodLink R_Tape 11 y_Row_init) (List.mem_cons_of_mem _ wm_39)) (C.ts (.instanceMethod y_Row_init) (List.mem_cons_of_mem _ wm_40)) rfl (by decide +kernel) ⟨Nat.le_of_ble_eq_true rfl, Nat.le_of_ble_eq_true rfl⟩) rfl hl.1 rfl (by simp [va_rf_cat, cat_i, cat_l, cat_n]) dTape_init_12 ⟨by show _ ≤ 4; omega, by show _ ≤ 415; omega⟩) (fun H locs M => ?_)
  obtain ⟨E15, h15, hf⟩ := Option.bind_eq_some_iff.mp hf
  refine w_putVF (ty := .object "StepPrograms$Row") C M ty_Tape h15 rfl (hm_in in_Tape) tyok_Tape nm_Tape (by decide) (List.mem_cons_of_mem _ wm_58) rfl rfl hnm rfl (by decide +kernel) (narrow_o _ _) (fits_o _ _) dTape_init_15 (fun H locs M => ?_)
  refine w_aload_n C.x C.b dTape_init_18 rfl (lv_at hl 0 rfl) ?_
  refine lv_bipush (v := 6) C.x C.b dTape_init_19 (by decide) ?_
  obtain ⟨E21, h21, hf⟩ := Option.bind_eq_some_iff.mp hf
  refine w_newI (atype := .int) (ty := .int) C M h21 (List.mem_cons_of_mem _ wm_57) rfl rfl (fun _ _ h => h) (fun _ _ => rfl) (by decide) (by show _ ≤ 4; omega) (by show _ ≤ 415; omega) dTape_init_21 (fun H M => ?_)
  obtain ⟨E23, h23, hf⟩ := Option.bind_eq_some_iff.mp hf
  refine w_putVF (ty := (.array .int)) C M ty_Tape h23 rfl (hm_in in_Tape) tyok_Tape nm_Tape (by decide) (List.mem_cons_of_mem _ wm_60) rfl rfl hnm rfl (by decide +kernel) (narrow_a _ _) (fits_a _ _) dTape_init_23 (fun H locs M => ?_)
  refine w_aload_n C.x C.b dTape_init_26 rfl (lv_at hl 0 rfl) ?_
  refine lv_bipush (v := 6) C.x C.b dTape_init_27 (by decide) ?_
  obtain ⟨E29, h29, hf⟩ := Option.bind_eq_some_iff.mp hf
  refine w_newI (atype := .int) (ty := .int) C M h29 (List.mem_cons_of_mem _ wm_57) rfl rfl (fun _ _ h => h) (fun _ _ => rfl) (by decide) (by show _ ≤ 4; omega) (by show _ ≤ 415; omega) dTape_init_29 (fun H M => ?_)
  obtain ⟨E31, h31, hf⟩ := Option.bind_eq_some_iff.mp hf
  refine w_putVF (ty := (.array .int)) C M ty_Tape h31 rfl (hm_in in_Tape) tyok_Tape nm_Tape (by decide) (List.mem_cons_of_mem _ wm_61) rfl rfl hnm rfl (by decide +kernel) (narrow_a _ _) (fits_a _ _) dTape_init_31 (fun H locs M => ?_)
  cases hf
  exact w_vret C M hr hlk (by omega) (by omega) dTape_init_34 rfl
theorem dFrame_init_0 : decode prog_4_method_1_code 0 = .ok (.aload_n 0, 1) := by decide +kernel
theorem dFrame_init_1 : decode prog_4_method_1_code 1 = .ok (.invokespecial 3, 3) := by decide +kernel
theorem dFrame_init_4 : decode prog_4_method_1_code 4 = .ok (.aload_n 0, 1) := by decide +kernel
theorem dFrame_init_5 : decode prog_4_method_1_code 5 = .ok (.bipush 8, 2) := by decide +kernel
theorem dFrame_init_7 : decode prog_4_method_1_code 7 = .ok (.newarray .int, 2) := by decide +kernel
theorem dFrame_init_9 : decode prog_4_method_1_code 9 = .ok (.putfield 9, 3) := by decide +kernel
theorem dFrame_init_12 : decode prog_4_method_1_code 12 = .ok (.aload_n 0, 1) := by decide +kernel
theorem dFrame_init_13 : decode prog_4_method_1_code 13 = .ok (.bipush 32, 2) := by decide +kernel
theorem dFrame_init_15 : decode prog_4_method_1_code 15 = .ok (.newarray .int, 2) := by decide +kernel
theorem dFrame_init_17 : decode prog_4_method_1_code 17 = .ok (.putfield 15, 3) := by decide +kernel
theorem dFrame_init_20 : decode prog_4_method_1_code 20 = .ok (.aload_n 0, 1) := by decide +kernel
theorem dFrame_init_21 : decode prog_4_method_1_code 21 = .ok (.bipush 8, 2) := by decide +kernel
theorem dFrame_init_23 : decode prog_4_method_1_code 23 = .ok (.newarray .int, 2) := by decide +kernel
theorem dFrame_init_25 : decode prog_4_method_1_code 25 = .ok (.putfield 18, 3) := by decide +kernel
theorem dFrame_init_28 : decode prog_4_method_1_code 28 = .ok (.aload_n 0, 1) := by decide +kernel
theorem dFrame_init_29 : decode prog_4_method_1_code 29 = .ok (.iload_n 1, 1) := by decide +kernel
theorem dFrame_init_30 : decode prog_4_method_1_code 30 = .ok (.putfield 21, 3) := by decide +kernel
theorem dFrame_init_33 : decode prog_4_method_1_code 33 = .ok (.return_, 1) := by decide +kernel
abbrev rm_Frame_init : Room := { frames := 1, cells := 3, slots := 48, locals := 20 }
def f_Frame_init  (x0 : Nat) (x1 : Int32) (E : hE) (nx : Nat) : Option (hE × Nat) := (
  (nA E nx 0 8 8).bind fun E7 =>
  (sR E7 (some x0) 1 1 (some nx)).bind fun E9 =>
  (nA E9 (nx + 1) 0 32 32).bind fun E15 =>
  (sR E15 (some x0) 1 2 (some (nx + 1))).bind fun E17 =>
  (nA E17 (nx + 1 + 1) 0 8 8).bind fun E23 =>
  (sR E23 (some x0) 1 3 (some (nx + 1 + 1))).bind fun E25 =>
  (sI E25 (some x0) 1 0 x1).bind fun E30 =>
  some (E30, nx + 1 + 1 + 1))
set_option maxHeartbeats 4000000 in
set_option maxRecDepth 100000 in
theorem c_Frame_init {l : Launch} {D : va_G} {kA : Nat → ClassId} {S : hE} {g : Nat → Nat} {n0 nx : Nat} {x0 : Nat} {x1 : Int32} {E : hE} {res : hE × Nat} (hf : f_Frame_init x0 x1 E nx = some res) : Met l y_Frame_init ws_Frame_init rm_Frame_init (va_Pc [va_rf (some x0), .int x1] (hJ D kA S g n0 (E, nx))) (va_Qv (fun w => w = res) (hJ D kA S g n0) (fun q => n0 ≤ q)) 3 48 (fun q => n0 ≤ q) := by
  refine h_met (cc := prog_4_method_1_code) (maxL := 2) (ret := none) (lvs := [(0, va_rf (some x0)), (1, .int x1)]) zZ_k (by decide) rfl (by simp [lg_sl, va_rf_cat, cat_i, cat_l, cat_n]) (by simp [lv_args, va_rf_cat, cat_i, cat_l, cat_n]) ?_
  intro p e s m below meth c ls C M hr hlk hnm hl
  unfold f_Frame_init at hf
  refine w_aload_n C.x C.b dFrame_init_0 rfl (lv_at hl 0 rfl) ?_
  refine W.objInit C.x C.b C.ow (C.ts (.methodLink R_Frame 3 objectInit) (List.mem_cons_of_mem _ wm_102)) (C.ts (.instanceMethod objectInit) (List.mem_cons_of_mem _ wm_29)) (C.ts _ (List.mem_cons_of_mem _ wm_30)) rfl (by rw [C.ml]; exact hl.1) rfl dFrame_init_1 (Nat.le_of_ble_eq_true rfl) (Nat.le_of_ble_eq_true rfl) ?_
  refine W.eq (g2 := F0 m 4 ls []) rfl ?_
  refine w_aload_n C.x C.b dFrame_init_4 rfl (lv_at hl 0 rfl) ?_
  refine lv_bipush (v := 8) C.x C.b dFrame_init_5 (by decide) ?_
  obtain ⟨E7, h7, hf⟩ := Option.bind_eq_some_iff.mp hf
  refine w_newI (atype := .int) (ty := .int) C M h7 (List.mem_cons_of_mem _ wm_57) rfl rfl (fun _ _ h => h) (fun _ _ => rfl) (by decide) (by show _ ≤ 3; omega) (by show _ ≤ 48; omega) dFrame_init_7 (fun H M => ?_)
  obtain ⟨E9, h9, hf⟩ := Option.bind_eq_some_iff.mp hf
  refine w_putVF (ty := (.array .int)) C M ty_Frame h9 rfl (hm_in in_Frame) tyok_Frame nm_Frame (by decide) (List.mem_cons_of_mem _ wm_105) rfl rfl hnm rfl (by decide +kernel) (narrow_a _ _) (fits_a _ _) dFrame_init_9 (fun H locs M => ?_)
  refine w_aload_n C.x C.b dFrame_init_12 rfl (lv_at hl 0 rfl) ?_
  refine lv_bipush (v := 32) C.x C.b dFrame_init_13 (by decide) ?_
  obtain ⟨E15, h15, hf⟩ := Option.bind_eq_some_iff.mp hf
  refine w_newI (atype := .int) (ty := .int) C M h15 (List.mem_cons_of_mem _ wm_57) rfl rfl (fun _ _ h => h) (fun _ _ => rfl) (by decide) (by show _ ≤ 3; omega) (by show _ ≤ 48; omega) dFrame_init_15 (fun H M => ?_)
  obtain ⟨E17, h17, hf⟩ := Option.bind_eq_some_iff.mp hf
  refine w_putVF (ty := (.array .int)) C M ty_Frame h17 rfl (hm_in in_Frame) tyok_Frame nm_Frame (by decide) (List.mem_cons_of_mem _ wm_107) rfl rfl hnm rfl (by decide +kernel) (narrow_a _ _) (fits_a _ _) dFrame_init_17 (fun H locs M => ?_)
  refine w_aload_n C.x C.b dFrame_init_20 rfl (lv_at hl 0 rfl) ?_
  refine lv_bipush (v := 8) C.x C.b dFrame_init_21 (by decide) ?_
  obtain ⟨E23, h23, hf⟩ := Option.bind_eq_some_iff.mp hf
  refine w_newI (atype := .int) (ty := .int) C M h23 (List.mem_cons_of_mem _ wm_57) rfl rfl (fun _ _ h => h) (fun _ _ => rfl) (by decide) (by show _ ≤ 3; omega) (by show _ ≤ 48; omega) dFrame_init_23 (fun H M => ?_)
  obtain ⟨E25, h25, hf⟩ := Option.bind_eq_some_iff.mp hf
  refine w_putVF (ty := (.array .int)) C M ty_Frame h25 rfl (hm_in in_Frame) tyok_Frame nm_Frame (by decide) (List.mem_cons_of_mem _ wm_109) rfl rfl hnm rfl (by decide +kernel) (narrow_a _ _) (fits_a _ _) dFrame_init_25 (fun H locs M => ?_)
  refine w_aload_n C.x C.b dFrame_init_28 rfl (lv_at hl 0 rfl) ?_
  refine lv_iload_n C.x C.b dFrame_init_29 rfl (lv_at hl 1 rfl) ?_
  obtain ⟨E30, h30, hf⟩ := Option.bind_eq_some_iff.mp hf
  refine w_putVF (ty := .int) C M ty_Frame h30 rfl (hm_in in_Frame) tyok_Frame nm_Frame (by decide) (List.mem_cons_of_mem _ wm_103) rfl rfl hnm rfl (by decide +kernel) rfl rfl dFrame_init_30 (fun H locs M => ?_)
  cases hf
  exact w_vret C M hr hlk (by omega) (by omega) dFrame_init_33 rfl
theorem dMach_init_0 : decode prog_5_method_1_code 0 = .ok (.aload_n 0, 1) := by decide +kernel
theorem dMach_init_1 : decode prog_5_method_1_code 1 = .ok (.invokespecial 3, 3) := by decide +kernel
theorem dMach_init_4 : decode prog_5_method_1_code 4 = .ok (.aload_n 0, 1) := by decide +kernel
theorem dMach_init_5 : decode prog_5_method_1_code 5 = .ok (.iconst 4, 1) := by decide +kernel
theorem dMach_init_6 : decode prog_5_method_1_code 6 = .ok (.anewarray 9, 3) := by decide +kernel
theorem dMach_init_9 : decode prog_5_method_1_code 9 = .ok (.putfield 11, 3) := by decide +kernel
theorem dMach_init_12 : decode prog_5_method_1_code 12 = .ok (.aload_n 0, 1) := by decide +kernel
theorem dMach_init_13 : decode prog_5_method_1_code 13 = .ok (.iconst 3, 1) := by decide +kernel
theorem dMach_init_14 : decode prog_5_method_1_code 14 = .ok (.newarray .boolean, 2) := by decide +kernel
theorem dMach_init_16 : decode prog_5_method_1_code 16 = .ok (.putfield 17, 3) := by decide +kernel
theorem dMach_init_19 : decode prog_5_method_1_code 19 = .ok (.aload_n 0, 1) := by decide +kernel
theorem dMach_init_20 : decode prog_5_method_1_code 20 = .ok (.new 21, 3) := by decide +kernel
theorem dMach_init_23 : decode prog_5_method_1_code 23 = .ok (.dup, 1) := by decide +kernel
theorem dMach_init_24 : decode prog_5_method_1_code 24 = .ok (.bipush 60, 2) := by decide +kernel
theorem dMach_init_26 : decode prog_5_method_1_code 26 = .ok (.invokespecial 23, 3) := by decide +kernel
theorem dMach_init_29 : decode prog_5_method_1_code 29 = .ok (.putfield 26, 3) := by decide +kernel
theorem dMach_init_32 : decode prog_5_method_1_code 32 = .ok (.aload_n 0, 1) := by decide +kernel
theorem dMach_init_33 : decode prog_5_method_1_code 33 = .ok (.new 21, 3) := by decide +kernel
theorem dMach_init_36 : decode prog_5_method_1_code 36 = .ok (.dup, 1) := by decide +kernel
theorem dMach_init_37 : decode prog_5_method_1_code 37 = .ok (.bipush 60, 2) := by decide +kernel
theorem dMach_init_39 : decode prog_5_method_1_code 39 = .ok (.invokespecial 23, 3) := by decide +kernel
theorem dMach_init_42 : decode prog_5_method_1_code 42 = .ok (.putfield 30, 3) := by decide +kernel
theorem dMach_init_45 : decode prog_5_method_1_code 45 = .ok (.aload_n 0, 1) := by decide +kernel
theorem dMach_init_46 : decode prog_5_method_1_code 46 = .ok (.new 33, 3) := by decide +kernel
theorem dMach_init_49 : decode prog_5_method_1_code 49 = .ok (.dup, 1) := by decide +kernel
theorem dMach_init_50 : decode prog_5_method_1_code 50 = .ok (.iconst 0, 1) := by decide +kernel
theorem dMach_init_51 : decode prog_5_method_1_code 51 = .ok (.invokespecial 35, 3) := by decide +kernel
theorem dMach_init_54 : decode prog_5_method_1_code 54 = .ok (.putfield 36, 3) := by decide +kernel
theorem dMach_init_57 : decode prog_5_method_1_code 57 = .ok (.aload_n 0, 1) := by decide +kernel
theorem dMach_init_58 : decode prog_5_method_1_code 58 = .ok (.bipush 10, 2) := by decide +kernel
theorem dMach_init_60 : decode prog_5_method_1_code 60 = .ok (.anewarray 21, 3) := by decide +kernel
theorem dMach_init_63 : decode prog_5_method_1_code 63 = .ok (.putfield 40, 3) := by decide +kernel
theorem dMach_init_66 : decode prog_5_method_1_code 66 = .ok (.aload_n 0, 1) := by decide +kernel
theorem dMach_init_67 : decode prog_5_method_1_code 67 = .ok (.iconst 3, 1) := by decide +kernel
theorem dMach_init_68 : decode prog_5_method_1_code 68 = .ok (.anewarray 33, 3) := by decide +kernel
theorem dMach_init_71 : decode prog_5_method_1_code 71 = .ok (.putfield 44, 3) := by decide +kernel
theorem dMach_init_74 : decode prog_5_method_1_code 74 = .ok (.iconst 0, 1) := by decide +kernel
theorem dMach_init_75 : decode prog_5_method_1_code 75 = .ok (.istore_n 1, 1) := by decide +kernel
theorem dMach_init_76 : decode prog_5_method_1_code 76 = .ok (.iload_n 1, 1) := by decide +kernel
theorem dMach_init_77 : decode prog_5_method_1_code 77 = .ok (.bipush 10, 2) := by decide +kernel
theorem dMach_init_79 : decode prog_5_method_1_code 79 = .ok (.if_icmp .ge 24, 3) := by decide +kernel
theorem dMach_init_82 : decode prog_5_method_1_code 82 = .ok (.aload_n 0, 1) := by decide +kernel
theorem dMach_init_83 : decode prog_5_method_1_code 83 = .ok (.getfield 40, 3) := by decide +kernel
theorem dMach_init_86 : decode prog_5_method_1_code 86 = .ok (.iload_n 1, 1) := by decide +kernel
theorem dMach_init_87 : decode prog_5_method_1_code 87 = .ok (.new 21, 3) := by decide +kernel
theorem dMach_init_90 : decode prog_5_method_1_code 90 = .ok (.dup, 1) := by decide +kernel
theorem dMach_init_91 : decode prog_5_method_1_code 91 = .ok (.bipush 40, 2) := by decide +kernel
theorem dMach_init_93 : decode prog_5_method_1_code 93 = .ok (.invokespecial 23, 3) := by decide +kernel
theorem dMach_init_96 : decode prog_5_method_1_code 96 = .ok (.aastore, 1) := by decide +kernel
theorem dMach_init_97 : decode prog_5_method_1_code 97 = .ok (.iinc 1 1, 3) := by decide +kernel
theorem dMach_init_100 : decode prog_5_method_1_code 100 = .ok (.goto (-24), 3) := by decide +kernel
theorem dMach_init_103 : decode prog_5_method_1_code 103 = .ok (.iconst 0, 1) := by decide +kernel
theorem dMach_init_104 : decode prog_5_method_1_code 104 = .ok (.istore_n 1, 1) := by decide +kernel
theorem dMach_init_105 : decode prog_5_method_1_code 105 = .ok (.iload_n 1, 1) := by decide +kernel
theorem dMach_init_106 : decode prog_5_method_1_code 106 = .ok (.iconst 3, 1) := by decide +kernel
theorem dMach_init_107 : decode prog_5_method_1_code 107 = .ok (.if_icmp .ge 25, 3) := by decide +kernel
theorem dMach_init_110 : decode prog_5_method_1_code 110 = .ok (.aload_n 0, 1) := by decide +kernel
theorem dMach_init_111 : decode prog_5_method_1_code 111 = .ok (.getfield 44, 3) := by decide +kernel
theorem dMach_init_114 : decode prog_5_method_1_code 114 = .ok (.iload_n 1, 1) := by decide +kernel
theorem dMach_init_115 : decode prog_5_method_1_code 115 = .ok (.new 33, 3) := by decide +kernel
theorem dMach_init_118 : decode prog_5_method_1_code 118 = .ok (.dup, 1) := by decide +kernel
theorem dMach_init_119 : decode prog_5_method_1_code 119 = .ok (.iload_n 1, 1) := by decide +kernel
theorem dMach_init_120 : decode prog_5_method_1_code 120 = .ok (.iconst 1, 1) := by decide +kernel
theorem dMach_init_121 : decode prog_5_method_1_code 121 = .ok (.iadd, 1) := by decide +kernel
theorem dMach_init_122 : decode prog_5_method_1_code 122 = .ok (.invokespecial 35, 3) := by decide +kernel
theorem dMach_init_125 : decode prog_5_method_1_code 125 = .ok (.aastore, 1) := by decide +kernel
theorem dMach_init_126 : decode prog_5_method_1_code 126 = .ok (.iinc 1 1, 3) := by decide +kernel
theorem dMach_init_129 : decode prog_5_method_1_code 129 = .ok (.goto (-24), 3) := by decide +kernel
theorem dMach_init_132 : decode prog_5_method_1_code 132 = .ok (.return_, 1) := by decide +kernel
abbrev rm_Mach_init : Room := { frames := 2, cells := 252, slots := 5717, locals := 41 }
def f_Mach_init_b105 (N : Nat) : Nat → Option Nat → Int32 → hE → Nat → Option (hE × Nat)
  | 0, _, _, _, _ => none
  | n + 1, y0, y1, E, nx => (
  if 3 ≤ y1 then (
  some (E, nx)
  ) else (
  (gR E y0 2 6).bind fun v111 =>
  (some (va_up E nx (some (.inr (1, [.int 0, .null, .null, .null, .int 0, .int 0, .int 0]))))).bind fun E115 =>
  (f_Frame_init nx (y1 + 1) E115 (nx + 1)).bind fun v122 =>
  (tQ v122.1 v111 4 y1 (some nx) 1).bind fun E125 =>
  f_Mach_init_b105 N n y0 (y1 + 1) E125 v122.2
  ))
set_option maxHeartbeats 4000000 in
set_option maxRecDepth 100000 in
theorem b_Mach_init_105 {p : Program} {l : Launch} {e : Env} {s : State} {m : MethodId} {args : Array Value} {below : List Frame} {meth : Method} {c : Code} {D : va_G} {kA : Nat → ClassId} {S : hE} {g : Nat → Nat} {n0 : Nat} {N : Nat} {res : hE × Nat} (C : hX p s m args c prog_5_method_1_code 2 R_Mach ws_Mach_init D kA S g n0) (hr : meth.sig.returnType = none) (hlk : meth.locks = false) (hnm : meth.name = "<init>") : ∀ n : Nat, ∀ (y0 : Option Nat) (y1 : Int32) (E : hE) (nx : Nat) (H : Heap) (locs : List Loc) (ls : Array Slot) (cells slots : Nat), hY D kA n0 s E nx H locs → lv_has ls 2 [(0, va_rf y0), (1, .int y1)] → cells + (n * 4 + 4) ≤ 252 → slots + (n * 55 + 55) ≤ 5717 → f_Mach_init_b105 N n y0 y1 E nx = some res → W p l e rm_Mach_init s m args below meth c H locs cells slots (MQ below (va_Qv (fun w => w = res) (hJ D kA S g n0) (fun q => n0 ≤ q)) args s 252 5717 (fun q => n0 ≤ q)) (F0 m 105 ls []) := by
  intro n
  induction n with
  | zero =>
    intro y0 y1 E nx H locs ls cells slots M hl hcb hsb hf
    simp [f_Mach_init_b105] at hf
  | succ n ih =>
    intro y0 y1 E nx H locs ls cells slots M hl hcb hsb hf
    rw [f_Mach_init_b105] at hf
    refine lv_iload_n C.x C.b dMach_init_105 rfl (lv_at hl 1 rfl) ?_
    refine lv_iconst (v := 3) C.x C.b dMach_init_106 (by decide) ?_
    refine lv_icmp_ge (tgt := 132) C.x C.b dMach_init_107 (by decide) (fun c107 => ?_) (fun c107 => ?_)
    · rw [if_pos c107] at hf
      cases hf
      exact w_vret C M hr hlk (by omega) (by omega) dMach_init_132 rfl
    · rw [if_neg c107] at hf
      refine w_aload_n C.x C.b dMach_init_110 rfl (lv_at hl 0 rfl) ?_
      obtain ⟨v111, h111, hf⟩ := Option.bind_eq_some_iff.mp hf
      refine w_getR C M h111 rfl (hm_in in_Mach) (by decide) (List.mem_cons_of_mem _ wm_145) rfl dMach_init_111 ?_
      refine lv_iload_n C.x C.b dMach_init_114 rfl (lv_at hl 1 rfl) ?_
      obtain ⟨E115, h115, hf⟩ := Option.bind_eq_some_iff.mp hf
      have h115 := Option.some.inj h115
      refine w_new (ci := 1) C M (fs := [.int 0, .null, .null, .null, .int 0, .int 0, .int 0]) ty_Frame rfl (hm_in in_Frame) tyok_Frame (List.mem_cons_of_mem _ wm_97) (List.mem_cons_of_mem _ wm_98) (List.mem_cons_of_mem _ wm_5) (fun j hj => by rcases (show j = 0 ∨ j = 1 ∨ j = 2 ∨ j = 3 ∨ j = 4 ∨ j = 5 ∨ j = 6 by omega) with rfl | rfl | rfl | rfl | rfl | rfl | rfl <;> rfl) (by show _ ≤ 252; omega) (by show _ ≤ 5717; omega) dMach_init_115 (fun H M => ?_)
      rw [h115] at M
      refine lv_dup C.x C.b dMach_init_118 (va_rf_cat _) ?_
      refine lv_iload_n C.x C.b dMach_init_119 rfl (lv_at hl 1 rfl) ?_
      refine lv_iconst (v := 1) C.x C.b dMach_init_120 (by decide) ?_
      refine lv_iadd C.x C.b dMach_init_121 ?_
      obtain ⟨v122, h122, hf⟩ := Option.bind_eq_some_iff.mp hf
      refine w_cv M (w_runI C M (c_Frame_init h122) (cwI 1 C.ts (hgC wm_101) rfl rfl rfl (C.ts (.initialized R_Frame) (List.mem_cons_of_mem _ wm_5)) (C.ts (.methodLink R_Mach 35 y_Frame_init) (List.mem_cons_of_mem _ wm_99)) (C.ts (.instanceMethod y_Frame_init) (List.mem_cons_of_mem _ wm_100)) rfl (by decide +kernel) ⟨Nat.le_of_ble_eq_true rfl, Nat.le_of_ble_eq_true rfl⟩) rfl hl.1 rfl (by simp [va_rf_cat, cat_i, cat_l, cat_n]) dMach_init_122 ⟨by show _ ≤ 252; omega, by show _ ≤ 5717; omega⟩) (fun H locs M => ?_)
      obtain ⟨E125, h125, hf⟩ := Option.bind_eq_some_iff.mp hf
      refine w_aast C M h125 rfl rfl dMach_init_125 (fun H locs M => ?_)
      refine lv_iinc (v := y1 + 1) (lv' := [(1, .int (y1 + 1)), (0, va_rf y0)]) C.x C.b dMach_init_126 hl (k := 1) rfl rfl (by decide) (by simp [va_rf_cat]) (fun ls hl => ?_)
      refine lv_goto (tgt := 105) C.x C.b dMach_init_129 (by decide) ?_
      exact ih _ _ _ _ _ _ _ _ _ M (lv_sub hl [1, 0] rfl) (by omega) (by omega) hf
def f_Mach_init_b76 (N : Nat) : Nat → Option Nat → Int32 → hE → Nat → Option (hE × Nat)
  | 0, _, _, _, _ => none
  | n + 1, y0, y1, E, nx => (
  if 10 ≤ y1 then (
  f_Mach_init_b105 N 4 y0 0 E nx
  ) else (
  (gR E y0 2 5).bind fun v83 =>
  (some (va_up E nx (some (.inr (0, [.null, .int 0, .int 0]))))).bind fun E87 =>
  (f_Row_init nx 40 E87 (nx + 1)).bind fun v93 =>
  (tQ v93.1 v83 3 y1 (some nx) 0).bind fun E96 =>
  f_Mach_init_b76 N n y0 (y1 + 1) E96 v93.2
  ))
set_option maxHeartbeats 4000000 in
set_option maxRecDepth 100000 in
theorem b_Mach_init_76 {p : Program} {l : Launch} {e : Env} {s : State} {m : MethodId} {args : Array Value} {below : List Frame} {meth : Method} {c : Code} {D : va_G} {kA : Nat → ClassId} {S : hE} {g : Nat → Nat} {n0 : Nat} {N : Nat} {res : hE × Nat} (C : hX p s m args c prog_5_method_1_code 2 R_Mach ws_Mach_init D kA S g n0) (hr : meth.sig.returnType = none) (hlk : meth.locks = false) (hnm : meth.name = "<init>") : ∀ n : Nat, ∀ (y0 : Option Nat) (y1 : Int32) (E : hE) (nx : Nat) (H : Heap) (locs : List Loc) (ls : Array Slot) (cells slots : Nat), hY D kA n0 s E nx H locs → lv_has ls 2 [(0, va_rf y0), (1, .int y1)] → cells + (n * 20 + 20) ≤ 252 → slots + (n * 403 + 403) ≤ 5717 → f_Mach_init_b76 N n y0 y1 E nx = some res → W p l e rm_Mach_init s m args below meth c H locs cells slots (MQ below (va_Qv (fun w => w = res) (hJ D kA S g n0) (fun q => n0 ≤ q)) args s 252 5717 (fun q => n0 ≤ q)) (F0 m 76 ls []) := by
  intro n
  induction n with
  | zero =>
    intro y0 y1 E nx H locs ls cells slots M hl hcb hsb hf
    simp [f_Mach_init_b76] at hf
  | succ n ih =>
    intro y0 y1 E nx H locs ls cells slots M hl hcb hsb hf
    rw [f_Mach_init_b76] at hf
    refine lv_iload_n C.x C.b dMach_init_76 rfl (lv_at hl 1 rfl) ?_
    refine lv_bipush (v := 10) C.x C.b dMach_init_77 (by decide) ?_
    refine lv_icmp_ge (tgt := 103) C.x C.b dMach_init_79 (by decide) (fun c79 => ?_) (fun c79 => ?_)
    · rw [if_pos c79] at hf
      refine lv_iconst (v := 0) C.x C.b dMach_init_103 (by decide) ?_
      refine lv_istore_n (lv' := [(1, .int 0), (0, va_rf y0)]) C.x C.b dMach_init_104 rfl hl (by decide) (by simp [va_rf_cat]) (fun ls hl => ?_)
      exact b_Mach_init_105 C hr hlk hnm 4 _ _ _ _ _ _ _ _ _ M (lv_sub hl [1, 0] rfl) (by omega) (by omega) hf
    · rw [if_neg c79] at hf
      refine w_aload_n C.x C.b dMach_init_82 rfl (lv_at hl 0 rfl) ?_
      obtain ⟨v83, h83, hf⟩ := Option.bind_eq_some_iff.mp hf
      refine w_getR C M h83 rfl (hm_in in_Mach) (by decide) (List.mem_cons_of_mem _ wm_144) rfl dMach_init_83 ?_
      refine lv_iload_n C.x C.b dMach_init_86 rfl (lv_at hl 1 rfl) ?_
      obtain ⟨E87, h87, hf⟩ := Option.bind_eq_some_iff.mp hf
      have h87 := Option.some.inj h87
      refine w_new (ci := 0) C M (fs := [.null, .int 0, .int 0]) ty_Row rfl (hm_in in_Row) tyok_Row (List.mem_cons_of_mem _ wm_95) (List.mem_cons_of_mem _ wm_38) (List.mem_cons_of_mem _ wm_3) (fun j hj => by rcases (show j = 0 ∨ j = 1 ∨ j = 2 by omega) with rfl | rfl | rfl <;> rfl) (by show _ ≤ 252; omega) (by show _ ≤ 5717; omega) dMach_init_87 (fun H M => ?_)
      rw [h87] at M
      refine lv_dup C.x C.b dMach_init_90 (va_rf_cat _) ?_
      refine lv_bipush (v := 40) C.x C.b dMach_init_91 (by decide) ?_
      obtain ⟨v93, h93, hf⟩ := Option.bind_eq_some_iff.mp hf
      refine w_cv M (w_runI C M (c_Row_init h93) (cwI 1 C.ts (hgC wm_41) rfl rfl rfl (C.ts (.initialized R_Row) (List.mem_cons_of_mem _ wm_3)) (C.ts (.methodLink R_Mach 23 y_Row_init) (List.mem_cons_of_mem _ wm_96)) (C.ts (.instanceMethod y_Row_init) (List.mem_cons_of_mem _ wm_40)) rfl (by decide +kernel) ⟨Nat.le_of_ble_eq_true rfl, Nat.le_of_ble_eq_true rfl⟩) rfl hl.1 rfl (by simp [va_rf_cat, cat_i, cat_l, cat_n]) dMach_init_93 ⟨by show _ ≤ 252; omega, by show _ ≤ 5717; omega⟩) (fun H locs M => ?_)
      obtain ⟨E96, h96, hf⟩ := Option.bind_eq_some_iff.mp hf
      refine w_aast C M h96 rfl rfl dMach_init_96 (fun H locs M => ?_)
      refine lv_iinc (v := y1 + 1) (lv' := [(1, .int (y1 + 1)), (0, va_rf y0)]) C.x C.b dMach_init_97 hl (k := 1) rfl rfl (by decide) (by simp [va_rf_cat]) (fun ls hl => ?_)
      refine lv_goto (tgt := 76) C.x C.b dMach_init_100 (by decide) ?_
      exact ih _ _ _ _ _ _ _ _ _ M (lv_sub hl [1, 0] rfl) (by omega) (by omega) hf
def f_Mach_init (N : Nat) (x0 : Nat) (E : hE) (nx : Nat) : Option (hE × Nat) := (
  (nQ E nx 5 4 4).bind fun E6 =>
  (sR E6 (some x0) 2 0 (some nx)).bind fun E9 =>
  (nA E9 (nx + 1) 1 3 3).bind fun E14 =>
  (sR E14 (some x0) 2 1 (some (nx + 1))).bind fun E16 =>
  (some (va_up E16 (nx + 1 + 1) (some (.inr (0, [.null, .int 0, .int 0]))))).bind fun E20 =>
  (f_Row_init (nx + 1 + 1) 60 E20 (nx + 1 + 1 + 1)).bind fun v26 =>
  (sR v26.1 (some x0) 2 2 (some (nx + 1 + 1))).bind fun E29 =>
  (some (va_up E29 v26.2 (some (.inr (0, [.null, .int 0, .int 0]))))).bind fun E33 =>
  (f_Row_init v26.2 60 E33 (v26.2 + 1)).bind fun v39 =>
  (sR v39.1 (some x0) 2 3 (some v26.2)).bind fun E42 =>
  (some (va_up E42 v39.2 (some (.inr (1, [.int 0, .null, .null, .null, .int 0, .int 0, .int 0]))))).bind fun E46 =>
  (f_Frame_init v39.2 0 E46 (v39.2 + 1)).bind fun v51 =>
  (sR v51.1 (some x0) 2 4 (some v39.2)).bind fun E54 =>
  (nQ E54 v51.2 3 10 10).bind fun E60 =>
  (sR E60 (some x0) 2 5 (some v51.2)).bind fun E63 =>
  (nQ E63 (v51.2 + 1) 4 3 3).bind fun E68 =>
  (sR E68 (some x0) 2 6 (some (v51.2 + 1))).bind fun E71 =>
  f_Mach_init_b76 N 11 (some x0) 0 E71 (v51.2 + 1 + 1))
set_option maxHeartbeats 4000000 in
set_option maxRecDepth 100000 in
theorem c_Mach_init {l : Launch} {D : va_G} {kA : Nat → ClassId} {S : hE} {g : Nat → Nat} {n0 nx : Nat} {N : Nat} {x0 : Nat} {E : hE} {res : hE × Nat} (hf : f_Mach_init N x0 E nx = some res) : Met l y_Mach_init ws_Mach_init rm_Mach_init (va_Pc [va_rf (some x0)] (hJ D kA S g n0 (E, nx))) (va_Qv (fun w => w = res) (hJ D kA S g n0) (fun q => n0 ≤ q)) 252 5717 (fun q => n0 ≤ q) := by
  refine h_met (cc := prog_5_method_1_code) (maxL := 2) (ret := none) (lvs := [(0, va_rf (some x0))]) zZ_k (by decide) rfl (by simp [lg_sl, va_rf_cat, cat_i, cat_l, cat_n]) (by simp [lv_args, va_rf_cat, cat_i, cat_l, cat_n]) ?_
  intro p e s m below meth c ls C M hr hlk hnm hl
  unfold f_Mach_init at hf
  refine w_aload_n C.x C.b dMach_init_0 rfl (lv_at hl 0 rfl) ?_
  refine W.objInit C.x C.b C.ow (C.ts (.methodLink R_Mach 3 objectInit) (List.mem_cons_of_mem _ wm_92)) (C.ts (.instanceMethod objectInit) (List.mem_cons_of_mem _ wm_29)) (C.ts _ (List.mem_cons_of_mem _ wm_30)) rfl (by rw [C.ml]; exact hl.1) rfl dMach_init_1 (Nat.le_of_ble_eq_true rfl) (Nat.le_of_ble_eq_true rfl) ?_
  refine W.eq (g2 := F0 m 4 ls []) rfl ?_
  refine w_aload_n C.x C.b dMach_init_4 rfl (lv_at hl 0 rfl) ?_
  refine lv_iconst (v := 4) C.x C.b dMach_init_5 (by decide) ?_
  obtain ⟨E6, h6, hf⟩ := Option.bind_eq_some_iff.mp hf
  refine w_newO C M h6 (List.mem_cons_of_mem _ wm_93) (zZ_Script C.z) rfl (by decide) (by show _ ≤ 252; omega) (by show _ ≤ 5717; omega) dMach_init_6 (fun H M => ?_)
  obtain ⟨E9, h9, hf⟩ := Option.bind_eq_some_iff.mp hf
  refine w_putVF (ty := (.array (.object "StepPrograms$Script"))) C M ty_Mach h9 rfl (hm_in in_Mach) tyok_Mach nm_Mach (by decide) (List.mem_cons_of_mem _ wm_134) rfl rfl hnm rfl (by decide +kernel) (narrow_a _ _) (fits_a _ _) dMach_init_9 (fun H locs M => ?_)
  refine w_aload_n C.x C.b dMach_init_12 rfl (lv_at hl 0 rfl) ?_
  refine lv_iconst (v := 3) C.x C.b dMach_init_13 (by decide) ?_
  obtain ⟨E14, h14, hf⟩ := Option.bind_eq_some_iff.mp hf
  refine w_newI (atype := .boolean) (ty := .boolean) C M h14 (List.mem_cons_of_mem _ wm_131) rfl rfl (fun _ _ h => h) (fun _ _ => rfl) (by decide) (by show _ ≤ 252; omega) (by show _ ≤ 5717; omega) dMach_init_14 (fun H M => ?_)
  obtain ⟨E16, h16, hf⟩ := Option.bind_eq_some_iff.mp hf
  refine w_putVF (ty := (.array .boolean)) C M ty_Mach h16 rfl (hm_in in_Mach) tyok_Mach nm_Mach (by decide) (List.mem_cons_of_mem _ wm_136) rfl rfl hnm rfl (by decide +kernel) (narrow_a _ _) (fits_a _ _) dMach_init_16 (fun H locs M => ?_)
  refine w_aload_n C.x C.b dMach_init_19 rfl (lv_at hl 0 rfl) ?_
  obtain ⟨E20, h20, hf⟩ := Option.bind_eq_some_iff.mp hf
  have h20 := Option.some.inj h20
  refine w_new (ci := 0) C M (fs := [.null, .int 0, .int 0]) ty_Row rfl (hm_in in_Row) tyok_Row (List.mem_cons_of_mem _ wm_95) (List.mem_cons_of_mem _ wm_38) (List.mem_cons_of_mem _ wm_3) (fun j hj => by rcases (show j = 0 ∨ j = 1 ∨ j = 2 by omega) with rfl | rfl | rfl <;> rfl) (by show _ ≤ 252; omega) (by show _ ≤ 5717; omega) dMach_init_20 (fun H M => ?_)
  rw [h20] at M
  refine lv_dup C.x C.b dMach_init_23 (va_rf_cat _) ?_
  refine lv_bipush (v := 60) C.x C.b dMach_init_24 (by decide) ?_
  obtain ⟨v26, h26, hf⟩ := Option.bind_eq_some_iff.mp hf
  refine w_cv M (w_runI C M (c_Row_init h26) (cwI 1 C.ts (hgC wm_41) rfl rfl rfl (C.ts (.initialized R_Row) (List.mem_cons_of_mem _ wm_3)) (C.ts (.methodLink R_Mach 23 y_Row_init) (List.mem_cons_of_mem _ wm_96)) (C.ts (.instanceMethod y_Row_init) (List.mem_cons_of_mem _ wm_40)) rfl (by decide +kernel) ⟨Nat.le_of_ble_eq_true rfl, Nat.le_of_ble_eq_true rfl⟩) rfl hl.1 rfl (by simp [va_rf_cat, cat_i, cat_l, cat_n]) dMach_init_26 ⟨by show _ ≤ 252; omega, by show _ ≤ 5717; omega⟩) (fun H locs M => ?_)
  obtain ⟨E29, h29, hf⟩ := Option.bind_eq_some_iff.mp hf
  refine w_putVF (ty := .object "StepPrograms$Row") C M ty_Mach h29 rfl (hm_in in_Mach) tyok_Mach nm_Mach (by decide) (List.mem_cons_of_mem _ wm_138) rfl rfl hnm rfl (by decide +kernel) (narrow_o _ _) (fits_o _ _) dMach_init_29 (fun H locs M => ?_)
  refine w_aload_n C.x C.b dMach_init_32 rfl (lv_at hl 0 rfl) ?_
  obtain ⟨E33, h33, hf⟩ := Option.bind_eq_some_iff.mp hf
  have h33 := Option.some.inj h33
  refine w_new (ci := 0) C M (fs := [.null, .int 0, .int 0]) ty_Row rfl (hm_in in_Row) tyok_Row (List.mem_cons_of_mem _ wm_95) (List.mem_cons_of_mem _ wm_38) (List.mem_cons_of_mem _ wm_3) (fun j hj => by rcases (show j = 0 ∨ j = 1 ∨ j = 2 by omega) with rfl | rfl | rfl <;> rfl) (by show _ ≤ 252; omega) (by show _ ≤ 5717; omega) dMach_init_33 (fun H M => ?_)
  rw [h33] at M
  refine lv_dup C.x C.b dMach_init_36 (va_rf_cat _) ?_
  refine lv_bipush (v := 60) C.x C.b dMach_init_37 (by decide) ?_
  obtain ⟨v39, h39, hf⟩ := Option.bind_eq_some_iff.mp hf
  refine w_cv M (w_runI C M (c_Row_init h39) (cwI 1 C.ts (hgC wm_41) rfl rfl rfl (C.ts (.initialized R_Row) (List.mem_cons_of_mem _ wm_3)) (C.ts (.methodLink R_Mach 23 y_Row_init) (List.mem_cons_of_mem _ wm_96)) (C.ts (.instanceMethod y_Row_init) (List.mem_cons_of_mem _ wm_40)) rfl (by decide +kernel) ⟨Nat.le_of_ble_eq_true rfl, Nat.le_of_ble_eq_true rfl⟩) rfl hl.1 rfl (by simp [va_rf_cat, cat_i, cat_l, cat_n]) dMach_init_39 ⟨by show _ ≤ 252; omega, by show _ ≤ 5717; omega⟩) (fun H locs M => ?_)
  obtain ⟨E42, h42, hf⟩ := Option.bind_eq_some_iff.mp hf
  refine w_putVF (ty := .object "StepPrograms$Row") C M ty_Mach h42 rfl (hm_in in_Mach) tyok_Mach nm_Mach (by decide) (List.mem_cons_of_mem _ wm_140) rfl rfl hnm rfl (by decide +kernel) (narrow_o _ _) (fits_o _ _) dMach_init_42 (fun H locs M => ?_)
  refine w_aload_n C.x C.b dMach_init_45 rfl (lv_at hl 0 rfl) ?_
  obtain ⟨E46, h46, hf⟩ := Option.bind_eq_some_iff.mp hf
  have h46 := Option.some.inj h46
  refine w_new (ci := 1) C M (fs := [.int 0, .null, .null, .null, .int 0, .int 0, .int 0]) ty_Frame rfl (hm_in in_Frame) tyok_Frame (List.mem_cons_of_mem _ wm_97) (List.mem_cons_of_mem _ wm_98) (List.mem_cons_of_mem _ wm_5) (fun j hj => by rcases (show j = 0 ∨ j = 1 ∨ j = 2 ∨ j = 3 ∨ j = 4 ∨ j = 5 ∨ j = 6 by omega) with rfl | rfl | rfl | rfl | rfl | rfl | rfl <;> rfl) (by show _ ≤ 252; omega) (by show _ ≤ 5717; omega) dMach_init_46 (fun H M => ?_)
  rw [h46] at M
  refine lv_dup C.x C.b dMach_init_49 (va_rf_cat _) ?_
  refine lv_iconst (v := 0) C.x C.b dMach_init_50 (by decide) ?_
  obtain ⟨v51, h51, hf⟩ := Option.bind_eq_some_iff.mp hf
  refine w_cv M (w_runI C M (c_Frame_init h51) (cwI 1 C.ts (hgC wm_101) rfl rfl rfl (C.ts (.initialized R_Frame) (List.mem_cons_of_mem _ wm_5)) (C.ts (.methodLink R_Mach 35 y_Frame_init) (List.mem_cons_of_mem _ wm_99)) (C.ts (.instanceMethod y_Frame_init) (List.mem_cons_of_mem _ wm_100)) rfl (by decide +kernel) ⟨Nat.le_of_ble_eq_true rfl, Nat.le_of_ble_eq_true rfl⟩) rfl hl.1 rfl (by simp [va_rf_cat, cat_i, cat_l, cat_n]) dMach_init_51 ⟨by show _ ≤ 252; omega, by show _ ≤ 5717; omega⟩) (fun H locs M => ?_)
  obtain ⟨E54, h54, hf⟩ := Option.bind_eq_some_iff.mp hf
  refine w_putVF (ty := .object "StepPrograms$Frame") C M ty_Mach h54 rfl (hm_in in_Mach) tyok_Mach nm_Mach (by decide) (List.mem_cons_of_mem _ wm_142) rfl rfl hnm rfl (by decide +kernel) (narrow_o _ _) (fits_o _ _) dMach_init_54 (fun H locs M => ?_)
  refine w_aload_n C.x C.b dMach_init_57 rfl (lv_at hl 0 rfl) ?_
  refine lv_bipush (v := 10) C.x C.b dMach_init_58 (by decide) ?_
  obtain ⟨E60, h60, hf⟩ := Option.bind_eq_some_iff.mp hf
  refine w_newO C M h60 (List.mem_cons_of_mem _ wm_95) (zZ_Row C.z) rfl (by decide) (by show _ ≤ 252; omega) (by show _ ≤ 5717; omega) dMach_init_60 (fun H M => ?_)
  obtain ⟨E63, h63, hf⟩ := Option.bind_eq_some_iff.mp hf
  refine w_putVF (ty := (.array (.object "StepPrograms$Row"))) C M ty_Mach h63 rfl (hm_in in_Mach) tyok_Mach nm_Mach (by decide) (List.mem_cons_of_mem _ wm_144) rfl rfl hnm rfl (by decide +kernel) (narrow_a _ _) (fits_a _ _) dMach_init_63 (fun H locs M => ?_)
  refine w_aload_n C.x C.b dMach_init_66 rfl (lv_at hl 0 rfl) ?_
  refine lv_iconst (v := 3) C.x C.b dMach_init_67 (by decide) ?_
  obtain ⟨E68, h68, hf⟩ := Option.bind_eq_some_iff.mp hf
  refine w_newO C M h68 (List.mem_cons_of_mem _ wm_97) (zZ_Frame C.z) rfl (by decide) (by show _ ≤ 252; omega) (by show _ ≤ 5717; omega) dMach_init_68 (fun H M => ?_)
  obtain ⟨E71, h71, hf⟩ := Option.bind_eq_some_iff.mp hf
  refine w_putVF (ty := (.array (.object "StepPrograms$Frame"))) C M ty_Mach h71 rfl (hm_in in_Mach) tyok_Mach nm_Mach (by decide) (List.mem_cons_of_mem _ wm_145) rfl rfl hnm rfl (by decide +kernel) (narrow_a _ _) (fits_a _ _) dMach_init_71 (fun H locs M => ?_)
  refine lv_iconst (v := 0) C.x C.b dMach_init_74 (by decide) ?_
  refine lv_istore_n (lv' := [(1, .int 0), (0, va_rf (some x0))]) C.x C.b dMach_init_75 rfl hl (by decide) rfl (fun ls hl => ?_)
  exact b_Mach_init_76 C hr hlk hnm 11 _ _ _ _ _ _ _ _ _ M (lv_sub hl [1, 0] rfl) (by omega) (by omega) hf
theorem dS_init_0 : decode prog_1_method_1_code 0 = .ok (.aload_n 0, 1) := by decide +kernel
theorem dS_init_1 : decode prog_1_method_1_code 1 = .ok (.invokespecial 1, 3) := by decide +kernel
theorem dS_init_4 : decode prog_1_method_1_code 4 = .ok (.aload_n 0, 1) := by decide +kernel
theorem dS_init_5 : decode prog_1_method_1_code 5 = .ok (.new 7, 3) := by decide +kernel
theorem dS_init_8 : decode prog_1_method_1_code 8 = .ok (.dup, 1) := by decide +kernel
theorem dS_init_9 : decode prog_1_method_1_code 9 = .ok (.invokespecial 9, 3) := by decide +kernel
theorem dS_init_12 : decode prog_1_method_1_code 12 = .ok (.putfield 10, 3) := by decide +kernel
theorem dS_init_15 : decode prog_1_method_1_code 15 = .ok (.aload_n 0, 1) := by decide +kernel
theorem dS_init_16 : decode prog_1_method_1_code 16 = .ok (.new 16, 3) := by decide +kernel
theorem dS_init_19 : decode prog_1_method_1_code 19 = .ok (.dup, 1) := by decide +kernel
theorem dS_init_20 : decode prog_1_method_1_code 20 = .ok (.invokespecial 18, 3) := by decide +kernel
theorem dS_init_23 : decode prog_1_method_1_code 23 = .ok (.putfield 19, 3) := by decide +kernel
theorem dS_init_26 : decode prog_1_method_1_code 26 = .ok (.return_, 1) := by decide +kernel
abbrev rm_S_init : Room := { frames := 3, cells := 258, slots := 6154, locals := 62 }
def f_S_init (N : Nat) (x0 : Nat) (E : hE) (nx : Nat) : Option (hE × Nat) := (
  (some (va_up E nx (some (.inr (5, [.null, .null, .null, .int 0, .int 0, .int 0, .int 0, .int 0, .int 0]))))).bind fun E5 =>
  (f_Tape_init nx E5 (nx + 1)).bind fun v9 =>
  (sR v9.1 (some x0) 6 0 (some nx)).bind fun E12 =>
  (some (va_up E12 v9.2 (some (.inr (2, [.null, .null, .null, .null, .null, .null, .null, .int 0, .int 0, .int 0, .int 0, .int 0, .int 0]))))).bind fun E16 =>
  (f_Mach_init N v9.2 E16 (v9.2 + 1)).bind fun v20 =>
  (sR v20.1 (some x0) 6 1 (some v9.2)).bind fun E23 =>
  some (E23, v20.2))
set_option maxHeartbeats 4000000 in
set_option maxRecDepth 100000 in
theorem c_S_init {l : Launch} {D : va_G} {kA : Nat → ClassId} {S : hE} {g : Nat → Nat} {n0 nx : Nat} {N : Nat} {x0 : Nat} {E : hE} {res : hE × Nat} (hf : f_S_init N x0 E nx = some res) : Met l y_S_init ws_S_init rm_S_init (va_Pc [va_rf (some x0)] (hJ D kA S g n0 (E, nx))) (va_Qv (fun w => w = res) (hJ D kA S g n0) (fun q => n0 ≤ q)) 258 6154 (fun q => n0 ≤ q) := by
  refine h_met (cc := prog_1_method_1_code) (maxL := 1) (ret := none) (lvs := [(0, va_rf (some x0))]) zZ_k (by decide) rfl (by simp [lg_sl, va_rf_cat, cat_i, cat_l, cat_n]) (by simp [lv_args, va_rf_cat, cat_i, cat_l, cat_n]) ?_
  intro p e s m below meth c ls C M hr hlk hnm hl
  unfold f_S_init at hf
  refine w_aload_n C.x C.b dS_init_0 rfl (lv_at hl 0 rfl) ?_
  refine W.objInit C.x C.b C.ow (C.ts (.methodLink R_S 1 objectInit) (List.mem_cons_of_mem _ wm_28)) (C.ts (.instanceMethod objectInit) (List.mem_cons_of_mem _ wm_29)) (C.ts _ (List.mem_cons_of_mem _ wm_30)) rfl (by rw [C.ml]; exact hl.1) rfl dS_init_1 (Nat.le_of_ble_eq_true rfl) (Nat.le_of_ble_eq_true rfl) ?_
  refine W.eq (g2 := F0 m 4 ls []) rfl ?_
  refine w_aload_n C.x C.b dS_init_4 rfl (lv_at hl 0 rfl) ?_
  obtain ⟨E5, h5, hf⟩ := Option.bind_eq_some_iff.mp hf
  have h5 := Option.some.inj h5
  refine w_new (ci := 5) C M (fs := [.null, .null, .null, .int 0, .int 0, .int 0, .int 0, .int 0, .int 0]) ty_Tape rfl (hm_in in_Tape) tyok_Tape (List.mem_cons_of_mem _ wm_31) (List.mem_cons_of_mem _ wm_32) (List.mem_cons_of_mem _ wm_2) (fun j hj => by rcases (show j = 0 ∨ j = 1 ∨ j = 2 ∨ j = 3 ∨ j = 4 ∨ j = 5 ∨ j = 6 ∨ j = 7 ∨ j = 8 by omega) with rfl | rfl | rfl | rfl | rfl | rfl | rfl | rfl | rfl <;> rfl) (by show _ ≤ 258; omega) (by show _ ≤ 6154; omega) dS_init_5 (fun H M => ?_)
  rw [h5] at M
  refine lv_dup C.x C.b dS_init_8 (va_rf_cat _) ?_
  obtain ⟨v9, h9, hf⟩ := Option.bind_eq_some_iff.mp hf
  refine w_cv M (w_runIN C M (c_Tape_init h9) ⟨va_cnB 0 C.ts (hgC wm_35) rfl rfl rfl (zZ_nest C.z) (C.ts (.initialized R_Tape) (List.mem_cons_of_mem _ wm_2)) (by decide +kernel) ⟨Nat.le_of_ble_eq_true rfl, Nat.le_of_ble_eq_true rfl⟩, rfl, C.ts (.instanceMethod y_Tape_init) (List.mem_cons_of_mem _ wm_34)⟩ rfl hl.1 rfl (by simp [va_rf_cat, cat_i, cat_l, cat_n]) dS_init_9 ⟨by show _ ≤ 258; omega, by show _ ≤ 6154; omega⟩) (fun H locs M => ?_)
  obtain ⟨E12, h12, hf⟩ := Option.bind_eq_some_iff.mp hf
  refine w_putVF (ty := .object "StepPrograms$Tape") C M ty_S h12 rfl (hm_in in_S) tyok_S nm_S (by decide) (List.mem_cons_of_mem _ wm_183) rfl rfl hnm rfl (by decide +kernel) (narrow_o _ _) (fits_o _ _) dS_init_12 (fun H locs M => ?_)
  refine w_aload_n C.x C.b dS_init_15 rfl (lv_at hl 0 rfl) ?_
  obtain ⟨E16, h16, hf⟩ := Option.bind_eq_some_iff.mp hf
  have h16 := Option.some.inj h16
  refine w_new (ci := 2) C M (fs := [.null, .null, .null, .null, .null, .null, .null, .int 0, .int 0, .int 0, .int 0, .int 0, .int 0]) ty_Mach rfl (hm_in in_Mach) tyok_Mach (List.mem_cons_of_mem _ wm_87) (List.mem_cons_of_mem _ wm_88) (List.mem_cons_of_mem _ wm_4) (fun j hj => by rcases (show j = 0 ∨ j = 1 ∨ j = 2 ∨ j = 3 ∨ j = 4 ∨ j = 5 ∨ j = 6 ∨ j = 7 ∨ j = 8 ∨ j = 9 ∨ j = 10 ∨ j = 11 ∨ j = 12 by omega) with rfl | rfl | rfl | rfl | rfl | rfl | rfl | rfl | rfl | rfl | rfl | rfl | rfl <;> rfl) (by show _ ≤ 258; omega) (by show _ ≤ 6154; omega) dS_init_16 (fun H M => ?_)
  rw [h16] at M
  refine lv_dup C.x C.b dS_init_19 (va_rf_cat _) ?_
  obtain ⟨v20, h20, hf⟩ := Option.bind_eq_some_iff.mp hf
  refine w_cv M (w_runI C M (c_Mach_init h20) (cwI 0 C.ts (hgC wm_91) rfl rfl rfl (C.ts (.initialized R_Mach) (List.mem_cons_of_mem _ wm_4)) (C.ts (.methodLink R_S 18 y_Mach_init) (List.mem_cons_of_mem _ wm_89)) (C.ts (.instanceMethod y_Mach_init) (List.mem_cons_of_mem _ wm_90)) rfl (by decide +kernel) ⟨Nat.le_of_ble_eq_true rfl, Nat.le_of_ble_eq_true rfl⟩) rfl hl.1 rfl (by simp [va_rf_cat, cat_i, cat_l, cat_n]) dS_init_20 ⟨by show _ ≤ 258; omega, by show _ ≤ 6154; omega⟩) (fun H locs M => ?_)
  obtain ⟨E23, h23, hf⟩ := Option.bind_eq_some_iff.mp hf
  refine w_putVF (ty := .object "StepPrograms$Machine") C M ty_S h23 rfl (hm_in in_S) tyok_S nm_S (by decide) (List.mem_cons_of_mem _ wm_184) rfl rfl hnm rfl (by decide +kernel) (narrow_o _ _) (fits_o _ _) dS_init_23 (fun H locs M => ?_)
  cases hf
  exact w_vret C M hr hlk (by omega) (by omega) dS_init_26 rfl
theorem dS_byteAt_0 : decode prog_1_method_13_code 0 = .ok (.lload_n 0, 1) := by decide +kernel
theorem dS_byteAt_1 : decode prog_1_method_13_code 1 = .ok (.bipush 8, 2) := by decide +kernel
theorem dS_byteAt_3 : decode prog_1_method_13_code 3 = .ok (.iload_n 2, 1) := by decide +kernel
theorem dS_byteAt_4 : decode prog_1_method_13_code 4 = .ok (.imul, 1) := by decide +kernel
theorem dS_byteAt_5 : decode prog_1_method_13_code 5 = .ok (.lushr, 1) := by decide +kernel
theorem dS_byteAt_6 : decode prog_1_method_13_code 6 = .ok (.l2i, 1) := by decide +kernel
theorem dS_byteAt_7 : decode prog_1_method_13_code 7 = .ok (.sipush 255, 3) := by decide +kernel
theorem dS_byteAt_10 : decode prog_1_method_13_code 10 = .ok (.iand, 1) := by decide +kernel
theorem dS_byteAt_11 : decode prog_1_method_13_code 11 = .ok (.ireturn, 1) := by decide +kernel
abbrev rm_S_byteAt : Room := { frames := 0, cells := 0, slots := 0, locals := 0 }
def f_S_byteAt (E : hE) (x0 : Int64) (x2 : Int32) : Option (Int32) := (
  some ((((x0.toUInt64 >>> ((8 * x2).toInt64.toUInt64 &&& Int64.toUInt64 63)).toInt64).toInt32) &&& 255))
set_option maxHeartbeats 4000000 in
set_option maxRecDepth 100000 in
theorem c_S_byteAt {l : Launch} {D : va_G} {kA : Nat → ClassId} {S : hE} {g : Nat → Nat} {n0 nx : Nat} {x0 : Int64} {x2 : Int32} {E : hE} {res : Int32} (hf : f_S_byteAt E x0 x2 = some res) : Met l y_S_byteAt ws_S_byteAt rm_S_byteAt (va_Pc [.long x0, .int x2] (hJ D kA S g n0 (E, nx))) (va_Qi (fun r w => r = res ∧ w = (E, nx)) (hJ D kA S g n0) (fun q => n0 ≤ q)) 0 0 (fun q => n0 ≤ q) := by
  refine h_met (cc := prog_1_method_13_code) (maxL := 3) (ret := (some .int)) (lvs := [(0, .long x0), (2, .int x2)]) zZ_k (by decide) rfl (by simp [lg_sl, va_rf_cat, cat_i, cat_l, cat_n]) (by simp [lv_args, va_rf_cat, cat_i, cat_l, cat_n]) ?_
  intro p e s m below meth c ls C M hr hlk hnm hl
  unfold f_S_byteAt at hf
  refine lv_lload_n C.x C.b dS_byteAt_0 rfl (lv_at hl 0 rfl) ?_
  refine lv_bipush (v := 8) C.x C.b dS_byteAt_1 (by decide) ?_
  refine lv_iload_n C.x C.b dS_byteAt_3 rfl (lv_at hl 1 rfl) ?_
  refine lv_imul C.x C.b dS_byteAt_4 ?_
  refine lv_lushr C.x C.b dS_byteAt_5 rfl ?_
  refine lv_l2i C.x C.b dS_byteAt_6 rfl ?_
  refine lv_sipush (v := 255) C.x C.b dS_byteAt_7 (by decide) ?_
  refine lv_iand C.x C.b dS_byteAt_10 ?_
  cases hf
  exact w_iret C M hr hlk rfl (Nat.le_refl _) (Nat.le_refl _) dS_byteAt_11 rfl rfl
theorem dS_isCharacter_0 : decode prog_1_method_14_code 0 = .ok (.iload_n 0, 1) := by decide +kernel
theorem dS_isCharacter_1 : decode prog_1_method_14_code 1 = .ok (.bipush 10, 2) := by decide +kernel
theorem dS_isCharacter_3 : decode prog_1_method_14_code 3 = .ok (.if_icmp .eq 15, 3) := by decide +kernel
theorem dS_isCharacter_6 : decode prog_1_method_14_code 6 = .ok (.iload_n 0, 1) := by decide +kernel
theorem dS_isCharacter_7 : decode prog_1_method_14_code 7 = .ok (.bipush 32, 2) := by decide +kernel
theorem dS_isCharacter_9 : decode prog_1_method_14_code 9 = .ok (.if_icmp .lt 13, 3) := by decide +kernel
theorem dS_isCharacter_12 : decode prog_1_method_14_code 12 = .ok (.iload_n 0, 1) := by decide +kernel
theorem dS_isCharacter_13 : decode prog_1_method_14_code 13 = .ok (.bipush 126, 2) := by decide +kernel
theorem dS_isCharacter_15 : decode prog_1_method_14_code 15 = .ok (.if_icmp .gt 7, 3) := by decide +kernel
theorem dS_isCharacter_18 : decode prog_1_method_14_code 18 = .ok (.iconst 1, 1) := by decide +kernel
theorem dS_isCharacter_19 : decode prog_1_method_14_code 19 = .ok (.goto 4, 3) := by decide +kernel
theorem dS_isCharacter_22 : decode prog_1_method_14_code 22 = .ok (.iconst 0, 1) := by decide +kernel
theorem dS_isCharacter_23 : decode prog_1_method_14_code 23 = .ok (.ireturn, 1) := by decide +kernel
abbrev rm_S_isCharacter : Room := { frames := 0, cells := 0, slots := 0, locals := 0 }
def f_S_isCharacter_b23 (E : hE) (t0 : Int32) : Option (Int32) := (
  (bZ t0).bind fun v23 =>
  some v23)
set_option maxHeartbeats 4000000 in
set_option maxRecDepth 100000 in
theorem b_S_isCharacter_23 {p : Program} {l : Launch} {e : Env} {s : State} {m : MethodId} {args : Array Value} {below : List Frame} {meth : Method} {c : Code} {D : va_G} {kA : Nat → ClassId} {S : hE} {g : Nat → Nat} {n0 nx : Nat} {E : hE} {res : Int32} (C : hX p s m args c prog_1_method_14_code 1 R_S ws_S_isCharacter D kA S g n0) (hr : meth.sig.returnType = (some .boolean)) (hlk : meth.locks = false) (hnm : meth.name = "isCharacter") : ∀ (t0 : Int32) (H : Heap) (locs : List Loc) (ls : Array Slot), hY D kA n0 s E nx H locs → lv_has ls 1 [] → f_S_isCharacter_b23 E  t0 = some res → W p l e rm_S_isCharacter s m args below meth c H locs 0 0 (MQ below (va_Qi (fun r w => r = res ∧ w = (E, nx)) (hJ D kA S g n0) (fun q => n0 ≤ q)) args s 0 0 (fun q => n0 ≤ q)) (F0 m 23 ls [.int t0]) := by
  intro t0 H locs ls M hl hf
  unfold f_S_isCharacter_b23 at hf
  obtain ⟨v23, h23, hf⟩ := Option.bind_eq_some_iff.mp hf
  obtain ⟨rfl, g23⟩ := bZ_some h23
  cases hf
  exact w_iret C M hr hlk (narrow_z g23) (Nat.le_refl _) (Nat.le_refl _) dS_isCharacter_23 rfl rfl
def f_S_isCharacter_b22 (E : hE) : Option (Int32) := (
  f_S_isCharacter_b23 E 0)
set_option maxHeartbeats 4000000 in
set_option maxRecDepth 100000 in
theorem b_S_isCharacter_22 {p : Program} {l : Launch} {e : Env} {s : State} {m : MethodId} {args : Array Value} {below : List Frame} {meth : Method} {c : Code} {D : va_G} {kA : Nat → ClassId} {S : hE} {g : Nat → Nat} {n0 nx : Nat} {E : hE} {res : Int32} (C : hX p s m args c prog_1_method_14_code 1 R_S ws_S_isCharacter D kA S g n0) (hr : meth.sig.returnType = (some .boolean)) (hlk : meth.locks = false) (hnm : meth.name = "isCharacter") : ∀  (H : Heap) (locs : List Loc) (ls : Array Slot), hY D kA n0 s E nx H locs → lv_has ls 1 [] → f_S_isCharacter_b22 E   = some res → W p l e rm_S_isCharacter s m args below meth c H locs 0 0 (MQ below (va_Qi (fun r w => r = res ∧ w = (E, nx)) (hJ D kA S g n0) (fun q => n0 ≤ q)) args s 0 0 (fun q => n0 ≤ q)) (F0 m 22 ls []) := by
  intro  H locs ls M hl hf
  unfold f_S_isCharacter_b22 at hf
  refine lv_iconst (v := 0) C.x C.b dS_isCharacter_22 (by decide) ?_
  exact b_S_isCharacter_23 C hr hlk hnm _ _ _ _ M (lv_sub hl [] rfl) hf
def f_S_isCharacter_b18 (E : hE) : Option (Int32) := (
  f_S_isCharacter_b23 E 1)
set_option maxHeartbeats 4000000 in
set_option maxRecDepth 100000 in
theorem b_S_isCharacter_18 {p : Program} {l : Launch} {e : Env} {s : State} {m : MethodId} {args : Array Value} {below : List Frame} {meth : Method} {c : Code} {D : va_G} {kA : Nat → ClassId} {S : hE} {g : Nat → Nat} {n0 nx : Nat} {E : hE} {res : Int32} (C : hX p s m args c prog_1_method_14_code 1 R_S ws_S_isCharacter D kA S g n0) (hr : meth.sig.returnType = (some .boolean)) (hlk : meth.locks = false) (hnm : meth.name = "isCharacter") : ∀  (H : Heap) (locs : List Loc) (ls : Array Slot), hY D kA n0 s E nx H locs → lv_has ls 1 [] → f_S_isCharacter_b18 E   = some res → W p l e rm_S_isCharacter s m args below meth c H locs 0 0 (MQ below (va_Qi (fun r w => r = res ∧ w = (E, nx)) (hJ D kA S g n0) (fun q => n0 ≤ q)) args s 0 0 (fun q => n0 ≤ q)) (F0 m 18 ls []) := by
  intro  H locs ls M hl hf
  unfold f_S_isCharacter_b18 at hf
  refine lv_iconst (v := 1) C.x C.b dS_isCharacter_18 (by decide) ?_
  refine lv_goto (tgt := 23) C.x C.b dS_isCharacter_19 (by decide) ?_
  exact b_S_isCharacter_23 C hr hlk hnm _ _ _ _ M (lv_sub hl [] rfl) hf
def f_S_isCharacter (E : hE) (x0 : Int32) : Option (Int32) := (
  if x0 = 10 then (
  f_S_isCharacter_b18 E 
  ) else (
  if x0 < 32 then (
  f_S_isCharacter_b22 E 
  ) else (
  if 126 < x0 then (
  f_S_isCharacter_b22 E 
  ) else (
  f_S_isCharacter_b18 E 
  )
  )
  ))
set_option maxHeartbeats 4000000 in
set_option maxRecDepth 100000 in
theorem c_S_isCharacter {l : Launch} {D : va_G} {kA : Nat → ClassId} {S : hE} {g : Nat → Nat} {n0 nx : Nat} {x0 : Int32} {E : hE} {res : Int32} (hf : f_S_isCharacter E x0 = some res) : Met l y_S_isCharacter ws_S_isCharacter rm_S_isCharacter (va_Pc [.int x0] (hJ D kA S g n0 (E, nx))) (va_Qi (fun r w => r = res ∧ w = (E, nx)) (hJ D kA S g n0) (fun q => n0 ≤ q)) 0 0 (fun q => n0 ≤ q) := by
  refine h_met (cc := prog_1_method_14_code) (maxL := 1) (ret := (some .boolean)) (lvs := [(0, .int x0)]) zZ_k (by decide) rfl (by simp [lg_sl, va_rf_cat, cat_i, cat_l, cat_n]) (by simp [lv_args, va_rf_cat, cat_i, cat_l, cat_n]) ?_
  intro p e s m below meth c ls C M hr hlk hnm hl
  unfold f_S_isCharacter at hf
  refine lv_iload_n C.x C.b dS_isCharacter_0 rfl (lv_at hl 0 rfl) ?_
  refine lv_bipush (v := 10) C.x C.b dS_isCharacter_1 (by decide) ?_
  refine lv_icmp_eq (tgt := 18) C.x C.b dS_isCharacter_3 (by decide) (fun c3 => ?_) (fun c3 => ?_)
  · rw [if_pos c3] at hf
    exact b_S_isCharacter_18 C hr hlk hnm _ _ _ M (lv_sub hl [] rfl) hf
  · rw [if_neg c3] at hf
    refine lv_iload_n C.x C.b dS_isCharacter_6 rfl (lv_at hl 0 rfl) ?_
    refine lv_bipush (v := 32) C.x C.b dS_isCharacter_7 (by decide) ?_
    refine lv_icmp_lt (tgt := 22) C.x C.b dS_isCharacter_9 (by decide) (fun c9 => ?_) (fun c9 => ?_)
    · rw [if_pos c9] at hf
      exact b_S_isCharacter_22 C hr hlk hnm _ _ _ M (lv_sub hl [] rfl) hf
    · rw [if_neg c9] at hf
      refine lv_iload_n C.x C.b dS_isCharacter_12 rfl (lv_at hl 0 rfl) ?_
      refine lv_bipush (v := 126) C.x C.b dS_isCharacter_13 (by decide) ?_
      refine lv_icmp_gt (tgt := 22) C.x C.b dS_isCharacter_15 (by decide) (fun c15 => ?_) (fun c15 => ?_)
      · rw [if_pos c15] at hf
        exact b_S_isCharacter_22 C hr hlk hnm _ _ _ M (lv_sub hl [] rfl) hf
      · rw [if_neg c15] at hf
        exact b_S_isCharacter_18 C hr hlk hnm _ _ _ M (lv_sub hl [] rfl) hf
theorem dRow_hasRoomFor_0 : decode prog_6_method_2_code 0 = .ok (.iload_n 1, 1) := by decide +kernel
theorem dRow_hasRoomFor_1 : decode prog_6_method_2_code 1 = .ok (.aload_n 0, 1) := by decide +kernel
theorem dRow_hasRoomFor_2 : decode prog_6_method_2_code 2 = .ok (.getfield 9, 3) := by decide +kernel
theorem dRow_hasRoomFor_5 : decode prog_6_method_2_code 5 = .ok (.arraylength, 1) := by decide +kernel
theorem dRow_hasRoomFor_6 : decode prog_6_method_2_code 6 = .ok (.aload_n 0, 1) := by decide +kernel
theorem dRow_hasRoomFor_7 : decode prog_6_method_2_code 7 = .ok (.getfield 15, 3) := by decide +kernel
theorem dRow_hasRoomFor_10 : decode prog_6_method_2_code 10 = .ok (.isub, 1) := by decide +kernel
theorem dRow_hasRoomFor_11 : decode prog_6_method_2_code 11 = .ok (.if_icmp .gt 7, 3) := by decide +kernel
theorem dRow_hasRoomFor_14 : decode prog_6_method_2_code 14 = .ok (.iconst 1, 1) := by decide +kernel
theorem dRow_hasRoomFor_15 : decode prog_6_method_2_code 15 = .ok (.goto 4, 3) := by decide +kernel
theorem dRow_hasRoomFor_18 : decode prog_6_method_2_code 18 = .ok (.iconst 0, 1) := by decide +kernel
theorem dRow_hasRoomFor_19 : decode prog_6_method_2_code 19 = .ok (.ireturn, 1) := by decide +kernel
abbrev rm_Row_hasRoomFor : Room := { frames := 0, cells := 0, slots := 0, locals := 0 }
def f_Row_hasRoomFor_b19 (E : hE) (t0 : Int32) : Option (Int32) := (
  (bZ t0).bind fun v19 =>
  some v19)
set_option maxHeartbeats 4000000 in
set_option maxRecDepth 100000 in
theorem b_Row_hasRoomFor_19 {p : Program} {l : Launch} {e : Env} {s : State} {m : MethodId} {args : Array Value} {below : List Frame} {meth : Method} {c : Code} {D : va_G} {kA : Nat → ClassId} {S : hE} {g : Nat → Nat} {n0 nx : Nat} {E : hE} {res : Int32} (C : hX p s m args c prog_6_method_2_code 2 R_Row ws_Row_hasRoomFor D kA S g n0) (hr : meth.sig.returnType = (some .boolean)) (hlk : meth.locks = false) (hnm : meth.name = "hasRoomFor") : ∀ (t0 : Int32) (H : Heap) (locs : List Loc) (ls : Array Slot), hY D kA n0 s E nx H locs → lv_has ls 2 [] → f_Row_hasRoomFor_b19 E  t0 = some res → W p l e rm_Row_hasRoomFor s m args below meth c H locs 0 0 (MQ below (va_Qi (fun r w => r = res ∧ w = (E, nx)) (hJ D kA S g n0) (fun q => n0 ≤ q)) args s 0 0 (fun q => n0 ≤ q)) (F0 m 19 ls [.int t0]) := by
  intro t0 H locs ls M hl hf
  unfold f_Row_hasRoomFor_b19 at hf
  obtain ⟨v19, h19, hf⟩ := Option.bind_eq_some_iff.mp hf
  obtain ⟨rfl, g19⟩ := bZ_some h19
  cases hf
  exact w_iret C M hr hlk (narrow_z g19) (Nat.le_refl _) (Nat.le_refl _) dRow_hasRoomFor_19 rfl rfl
def f_Row_hasRoomFor (E : hE) (x0 : Nat) (x1 : Int32) : Option (Int32) := (
  (gR E (some x0) 0 0).bind fun v2 =>
  (aL E v2 0).bind fun v5 =>
  (gI E (some x0) 0 1).bind fun v7 =>
  if (v5 - v7) < x1 then (
  f_Row_hasRoomFor_b19 E 0
  ) else (
  f_Row_hasRoomFor_b19 E 1
  ))
set_option maxHeartbeats 4000000 in
set_option maxRecDepth 100000 in
theorem c_Row_hasRoomFor {l : Launch} {D : va_G} {kA : Nat → ClassId} {S : hE} {g : Nat → Nat} {n0 nx : Nat} {x0 : Nat} {x1 : Int32} {E : hE} {res : Int32} (hf : f_Row_hasRoomFor E x0 x1 = some res) : Met l y_Row_hasRoomFor ws_Row_hasRoomFor rm_Row_hasRoomFor (va_Pc [va_rf (some x0), .int x1] (hJ D kA S g n0 (E, nx))) (va_Qi (fun r w => r = res ∧ w = (E, nx)) (hJ D kA S g n0) (fun q => n0 ≤ q)) 0 0 (fun q => n0 ≤ q) := by
  refine h_met (cc := prog_6_method_2_code) (maxL := 2) (ret := (some .boolean)) (lvs := [(0, va_rf (some x0)), (1, .int x1)]) zZ_k (by decide) rfl (by simp [lg_sl, va_rf_cat, cat_i, cat_l, cat_n]) (by simp [lv_args, va_rf_cat, cat_i, cat_l, cat_n]) ?_
  intro p e s m below meth c ls C M hr hlk hnm hl
  unfold f_Row_hasRoomFor at hf
  refine lv_iload_n C.x C.b dRow_hasRoomFor_0 rfl (lv_at hl 1 rfl) ?_
  refine w_aload_n C.x C.b dRow_hasRoomFor_1 rfl (lv_at hl 0 rfl) ?_
  obtain ⟨v2, h2, hf⟩ := Option.bind_eq_some_iff.mp hf
  refine w_getR C M h2 rfl (hm_in in_Row) (by decide) (List.mem_cons_of_mem _ wm_43) rfl dRow_hasRoomFor_2 ?_
  obtain ⟨v5, h5, hf⟩ := Option.bind_eq_some_iff.mp hf
  refine w_alen C M h5 rfl dRow_hasRoomFor_5 ?_
  refine w_aload_n C.x C.b dRow_hasRoomFor_6 rfl (lv_at hl 0 rfl) ?_
  obtain ⟨v7, h7, hf⟩ := Option.bind_eq_some_iff.mp hf
  refine w_getI C M h7 rfl (hm_in in_Row) (by decide) (List.mem_cons_of_mem _ wm_45) rfl dRow_hasRoomFor_7 ?_
  refine lv_isub C.x C.b dRow_hasRoomFor_10 ?_
  refine lv_icmp_gt (tgt := 18) C.x C.b dRow_hasRoomFor_11 (by decide) (fun c11 => ?_) (fun c11 => ?_)
  · rw [if_pos c11] at hf
    refine lv_iconst (v := 0) C.x C.b dRow_hasRoomFor_18 (by decide) ?_
    exact b_Row_hasRoomFor_19 C hr hlk hnm _ _ _ _ M (lv_sub hl [] rfl) hf
  · rw [if_neg c11] at hf
    refine lv_iconst (v := 1) C.x C.b dRow_hasRoomFor_14 (by decide) ?_
    refine lv_goto (tgt := 19) C.x C.b dRow_hasRoomFor_15 (by decide) ?_
    exact b_Row_hasRoomFor_19 C hr hlk hnm _ _ _ _ M (lv_sub hl [] rfl) hf
theorem dRow_add_0 : decode prog_6_method_3_code 0 = .ok (.aload_n 0, 1) := by decide +kernel
theorem dRow_add_1 : decode prog_6_method_3_code 1 = .ok (.getfield 15, 3) := by decide +kernel
theorem dRow_add_4 : decode prog_6_method_3_code 4 = .ok (.aload_n 0, 1) := by decide +kernel
theorem dRow_add_5 : decode prog_6_method_3_code 5 = .ok (.getfield 9, 3) := by decide +kernel
theorem dRow_add_8 : decode prog_6_method_3_code 8 = .ok (.arraylength, 1) := by decide +kernel
theorem dRow_add_9 : decode prog_6_method_3_code 9 = .ok (.if_icmp .ge 32, 3) := by decide +kernel
theorem dRow_add_12 : decode prog_6_method_3_code 12 = .ok (.aload_n 0, 1) := by decide +kernel
theorem dRow_add_13 : decode prog_6_method_3_code 13 = .ok (.getfield 9, 3) := by decide +kernel
theorem dRow_add_16 : decode prog_6_method_3_code 16 = .ok (.aload_n 0, 1) := by decide +kernel
theorem dRow_add_17 : decode prog_6_method_3_code 17 = .ok (.getfield 15, 3) := by decide +kernel
theorem dRow_add_20 : decode prog_6_method_3_code 20 = .ok (.iload_n 1, 1) := by decide +kernel
theorem dRow_add_21 : decode prog_6_method_3_code 21 = .ok (.sipush 255, 3) := by decide +kernel
theorem dRow_add_24 : decode prog_6_method_3_code 24 = .ok (.iand, 1) := by decide +kernel
theorem dRow_add_25 : decode prog_6_method_3_code 25 = .ok (.iastore, 1) := by decide +kernel
theorem dRow_add_26 : decode prog_6_method_3_code 26 = .ok (.aload_n 0, 1) := by decide +kernel
theorem dRow_add_27 : decode prog_6_method_3_code 27 = .ok (.dup, 1) := by decide +kernel
theorem dRow_add_28 : decode prog_6_method_3_code 28 = .ok (.getfield 15, 3) := by decide +kernel
theorem dRow_add_31 : decode prog_6_method_3_code 31 = .ok (.iconst 1, 1) := by decide +kernel
theorem dRow_add_32 : decode prog_6_method_3_code 32 = .ok (.iadd, 1) := by decide +kernel
theorem dRow_add_33 : decode prog_6_method_3_code 33 = .ok (.putfield 15, 3) := by decide +kernel
theorem dRow_add_36 : decode prog_6_method_3_code 36 = .ok (.aload_n 0, 1) := by decide +kernel
theorem dRow_add_37 : decode prog_6_method_3_code 37 = .ok (.iconst 1, 1) := by decide +kernel
theorem dRow_add_38 : decode prog_6_method_3_code 38 = .ok (.putfield 19, 3) := by decide +kernel
theorem dRow_add_41 : decode prog_6_method_3_code 41 = .ok (.return_, 1) := by decide +kernel
abbrev rm_Row_add : Room := { frames := 0, cells := 0, slots := 0, locals := 0 }
def f_Row_add_b41  (E : hE) : Option (hE) := (
  some E)
set_option maxHeartbeats 4000000 in
set_option maxRecDepth 100000 in
theorem b_Row_add_41 {p : Program} {l : Launch} {e : Env} {s : State} {m : MethodId} {args : Array Value} {below : List Frame} {meth : Method} {c : Code} {D : va_G} {kA : Nat → ClassId} {S : hE} {g : Nat → Nat} {n0 nx : Nat} {res : hE} (C : hX p s m args c prog_6_method_3_code 2 R_Row ws_Row_add D kA S g n0) (hr : meth.sig.returnType = none) (hlk : meth.locks = false) (hnm : meth.name = "add") : ∀  (E : hE) (H : Heap) (locs : List Loc) (ls : Array Slot), hY D kA n0 s E nx H locs → lv_has ls 2 [] → f_Row_add_b41  E = some res → W p l e rm_Row_add s m args below meth c H locs 0 0 (MQ below (va_Qv (fun w => w = (res, nx)) (hJ D kA S g n0) (fun q => n0 ≤ q)) args s 0 0 (fun q => n0 ≤ q)) (F0 m 41 ls []) := by
  intro E H locs ls M hl hf
  unfold f_Row_add_b41 at hf
  cases hf
  exact w_vret C M hr hlk (Nat.le_refl _) (Nat.le_refl _) dRow_add_41 rfl
def f_Row_add  (x0 : Nat) (x1 : Int32) (E : hE) : Option (hE) := (
  (gI E (some x0) 0 1).bind fun v1 =>
  (gR E (some x0) 0 0).bind fun v5 =>
  (aL E v5 0).bind fun v8 =>
  if v8 ≤ v1 then (
  f_Row_add_b41 E
  ) else (
  (gR E (some x0) 0 0).bind fun v13 =>
  (gI E (some x0) 0 1).bind fun v17 =>
  (tI E v13 0 v17 (x1 &&& 255)).bind fun E25 =>
  (gI E25 (some x0) 0 1).bind fun v28 =>
  (sI E25 (some x0) 0 1 (v28 + 1)).bind fun E33 =>
  (sZ E33 (some x0) 0 2 1).bind fun E38 =>
  f_Row_add_b41 E38
  ))
set_option maxHeartbeats 4000000 in
set_option maxRecDepth 100000 in
theorem c_Row_add {l : Launch} {D : va_G} {kA : Nat → ClassId} {S : hE} {g : Nat → Nat} {n0 nx : Nat} {x0 : Nat} {x1 : Int32} {E : hE} {res : hE} (hf : f_Row_add x0 x1 E = some res) : Met l y_Row_add ws_Row_add rm_Row_add (va_Pc [va_rf (some x0), .int x1] (hJ D kA S g n0 (E, nx))) (va_Qv (fun w => w = (res, nx)) (hJ D kA S g n0) (fun q => n0 ≤ q)) 0 0 (fun q => n0 ≤ q) := by
  refine h_met (cc := prog_6_method_3_code) (maxL := 2) (ret := none) (lvs := [(0, va_rf (some x0)), (1, .int x1)]) zZ_k (by decide) rfl (by simp [lg_sl, va_rf_cat, cat_i, cat_l, cat_n]) (by simp [lv_args, va_rf_cat, cat_i, cat_l, cat_n]) ?_
  intro p e s m below meth c ls C M hr hlk hnm hl
  unfold f_Row_add at hf
  refine w_aload_n C.x C.b dRow_add_0 rfl (lv_at hl 0 rfl) ?_
  obtain ⟨v1, h1, hf⟩ := Option.bind_eq_some_iff.mp hf
  refine w_getI C M h1 rfl (hm_in in_Row) (by decide) (List.mem_cons_of_mem _ wm_45) rfl dRow_add_1 ?_
  refine w_aload_n C.x C.b dRow_add_4 rfl (lv_at hl 0 rfl) ?_
  obtain ⟨v5, h5, hf⟩ := Option.bind_eq_some_iff.mp hf
  refine w_getR C M h5 rfl (hm_in in_Row) (by decide) (List.mem_cons_of_mem _ wm_43) rfl dRow_add_5 ?_
  obtain ⟨v8, h8, hf⟩ := Option.bind_eq_some_iff.mp hf
  refine w_alen C M h8 rfl dRow_add_8 ?_
  refine lv_icmp_ge (tgt := 41) C.x C.b dRow_add_9 (by decide) (fun c9 => ?_) (fun c9 => ?_)
  · rw [if_pos c9] at hf
    exact b_Row_add_41 C hr hlk hnm _ _ _ _ M (lv_sub hl [] rfl) hf
  · rw [if_neg c9] at hf
    refine w_aload_n C.x C.b dRow_add_12 rfl (lv_at hl 0 rfl) ?_
    obtain ⟨v13, h13, hf⟩ := Option.bind_eq_some_iff.mp hf
    refine w_getR C M h13 rfl (hm_in in_Row) (by decide) (List.mem_cons_of_mem _ wm_43) rfl dRow_add_13 ?_
    refine w_aload_n C.x C.b dRow_add_16 rfl (lv_at hl 0 rfl) ?_
    obtain ⟨v17, h17, hf⟩ := Option.bind_eq_some_iff.mp hf
    refine w_getI C M h17 rfl (hm_in in_Row) (by decide) (List.mem_cons_of_mem _ wm_45) rfl dRow_add_17 ?_
    refine lv_iload_n C.x C.b dRow_add_20 rfl (lv_at hl 1 rfl) ?_
    refine lv_sipush (v := 255) C.x C.b dRow_add_21 (by decide) ?_
    refine lv_iand C.x C.b dRow_add_24 ?_
    obtain ⟨E25, h25, hf⟩ := Option.bind_eq_some_iff.mp hf
    refine w_iast C M h25 rfl dRow_add_25 (fun H locs M => ?_)
    refine w_aload_n C.x C.b dRow_add_26 rfl (lv_at hl 0 rfl) ?_
    refine lv_dup C.x C.b dRow_add_27 (va_rf_cat _) ?_
    obtain ⟨v28, h28, hf⟩ := Option.bind_eq_some_iff.mp hf
    refine w_getI C M h28 rfl (hm_in in_Row) (by decide) (List.mem_cons_of_mem _ wm_45) rfl dRow_add_28 ?_
    refine lv_iconst (v := 1) C.x C.b dRow_add_31 (by decide) ?_
    refine lv_iadd C.x C.b dRow_add_32 ?_
    obtain ⟨E33, h33, hf⟩ := Option.bind_eq_some_iff.mp hf
    refine w_putV (ty := .int) C M ty_Row h33 rfl (hm_in in_Row) tyok_Row nm_Row (by decide) (List.mem_cons_of_mem _ wm_45) rfl rfl (by decide +kernel) rfl rfl dRow_add_33 (fun H locs M => ?_)
    refine w_aload_n C.x C.b dRow_add_36 rfl (lv_at hl 0 rfl) ?_
    refine lv_iconst (v := 1) C.x C.b dRow_add_37 (by decide) ?_
    obtain ⟨E38, h38, hf⟩ := Option.bind_eq_some_iff.mp hf
    refine w_putV (ty := .boolean) C M ty_Row (sZ_some h38).2 rfl (hm_in in_Row) tyok_Row nm_Row (by decide) (List.mem_cons_of_mem _ wm_48) rfl rfl (by decide +kernel) (narrow_z (sZ_some h38).1) (fits_z (sZ_some h38).1) dRow_add_38 (fun H locs M => ?_)
    exact b_Row_add_41 C hr hlk hnm _ _ _ _ M (lv_sub hl [] rfl) hf
theorem dS_text_0 : decode prog_1_method_2_code 0 = .ok (.iconst 0, 1) := by decide +kernel
theorem dS_text_1 : decode prog_1_method_2_code 1 = .ok (.istore_n 3, 1) := by decide +kernel
theorem dS_text_2 : decode prog_1_method_2_code 2 = .ok (.bipush 7, 2) := by decide +kernel
theorem dS_text_4 : decode prog_1_method_2_code 4 = .ok (.istore 4, 2) := by decide +kernel
theorem dS_text_6 : decode prog_1_method_2_code 6 = .ok (.iload 4, 2) := by decide +kernel
theorem dS_text_8 : decode prog_1_method_2_code 8 = .ok (.ifCond .lt 35, 3) := by decide +kernel
theorem dS_text_11 : decode prog_1_method_2_code 11 = .ok (.lload_n 1, 1) := by decide +kernel
theorem dS_text_12 : decode prog_1_method_2_code 12 = .ok (.iload 4, 2) := by decide +kernel
theorem dS_text_14 : decode prog_1_method_2_code 14 = .ok (.invokestatic 23, 3) := by decide +kernel
theorem dS_text_17 : decode prog_1_method_2_code 17 = .ok (.istore 5, 2) := by decide +kernel
theorem dS_text_19 : decode prog_1_method_2_code 19 = .ok (.iload 5, 2) := by decide +kernel
theorem dS_text_21 : decode prog_1_method_2_code 21 = .ok (.ifCond .eq 16, 3) := by decide +kernel
theorem dS_text_24 : decode prog_1_method_2_code 24 = .ok (.iload 5, 2) := by decide +kernel
theorem dS_text_26 : decode prog_1_method_2_code 26 = .ok (.invokestatic 27, 3) := by decide +kernel
theorem dS_text_29 : decode prog_1_method_2_code 29 = .ok (.ifCond .ne 5, 3) := by decide +kernel
theorem dS_text_32 : decode prog_1_method_2_code 32 = .ok (.iconst 0, 1) := by decide +kernel
theorem dS_text_33 : decode prog_1_method_2_code 33 = .ok (.ireturn, 1) := by decide +kernel
theorem dS_text_34 : decode prog_1_method_2_code 34 = .ok (.iinc 3 1, 3) := by decide +kernel
theorem dS_text_37 : decode prog_1_method_2_code 37 = .ok (.iinc 4 (-1), 3) := by decide +kernel
theorem dS_text_40 : decode prog_1_method_2_code 40 = .ok (.goto (-34), 3) := by decide +kernel
theorem dS_text_43 : decode prog_1_method_2_code 43 = .ok (.aload_n 0, 1) := by decide +kernel
theorem dS_text_44 : decode prog_1_method_2_code 44 = .ok (.getfield 10, 3) := by decide +kernel
theorem dS_text_47 : decode prog_1_method_2_code 47 = .ok (.getfield 31, 3) := by decide +kernel
theorem dS_text_50 : decode prog_1_method_2_code 50 = .ok (.iload_n 3, 1) := by decide +kernel
theorem dS_text_51 : decode prog_1_method_2_code 51 = .ok (.invokevirtual 35, 3) := by decide +kernel
theorem dS_text_54 : decode prog_1_method_2_code 54 = .ok (.ifCond .ne 5, 3) := by decide +kernel
theorem dS_text_57 : decode prog_1_method_2_code 57 = .ok (.iconst 0, 1) := by decide +kernel
theorem dS_text_58 : decode prog_1_method_2_code 58 = .ok (.ireturn, 1) := by decide +kernel
theorem dS_text_59 : decode prog_1_method_2_code 59 = .ok (.bipush 7, 2) := by decide +kernel
theorem dS_text_61 : decode prog_1_method_2_code 61 = .ok (.istore 4, 2) := by decide +kernel
theorem dS_text_63 : decode prog_1_method_2_code 63 = .ok (.iload 4, 2) := by decide +kernel
theorem dS_text_65 : decode prog_1_method_2_code 65 = .ok (.ifCond .lt 34, 3) := by decide +kernel
theorem dS_text_68 : decode prog_1_method_2_code 68 = .ok (.lload_n 1, 1) := by decide +kernel
theorem dS_text_69 : decode prog_1_method_2_code 69 = .ok (.iload 4, 2) := by decide +kernel
theorem dS_text_71 : decode prog_1_method_2_code 71 = .ok (.invokestatic 23, 3) := by decide +kernel
theorem dS_text_74 : decode prog_1_method_2_code 74 = .ok (.istore 5, 2) := by decide +kernel
theorem dS_text_76 : decode prog_1_method_2_code 76 = .ok (.iload 5, 2) := by decide +kernel
theorem dS_text_78 : decode prog_1_method_2_code 78 = .ok (.ifCond .eq 15, 3) := by decide +kernel
theorem dS_text_81 : decode prog_1_method_2_code 81 = .ok (.aload_n 0, 1) := by decide +kernel
theorem dS_text_82 : decode prog_1_method_2_code 82 = .ok (.getfield 10, 3) := by decide +kernel
theorem dS_text_85 : decode prog_1_method_2_code 85 = .ok (.getfield 31, 3) := by decide +kernel
theorem dS_text_88 : decode prog_1_method_2_code 88 = .ok (.iload 5, 2) := by decide +kernel
theorem dS_text_90 : decode prog_1_method_2_code 90 = .ok (.invokevirtual 40, 3) := by decide +kernel
theorem dS_text_93 : decode prog_1_method_2_code 93 = .ok (.iinc 4 (-1), 3) := by decide +kernel
theorem dS_text_96 : decode prog_1_method_2_code 96 = .ok (.goto (-33), 3) := by decide +kernel
theorem dS_text_99 : decode prog_1_method_2_code 99 = .ok (.iconst 1, 1) := by decide +kernel
theorem dS_text_100 : decode prog_1_method_2_code 100 = .ok (.ireturn, 1) := by decide +kernel
abbrev rm_S_text : Room := { frames := 1, cells := 0, slots := 0, locals := 22 }
def f_S_text_b93 (N : Nat) (k63 : Option Nat → Int64 → Int32 → hE → Option (Int32 × hE)) (y0 : Option Nat) (y1 : Int64) (y4 : Int32) (E : hE) : Option (Int32 × hE) := (
  k63 y0 y1 (y4 + (-1)) E)
set_option maxHeartbeats 4000000 in
set_option maxRecDepth 100000 in
theorem b_S_text_93 {p : Program} {l : Launch} {e : Env} {s : State} {m : MethodId} {args : Array Value} {below : List Frame} {meth : Method} {c : Code} {D : va_G} {kA : Nat → ClassId} {S : hE} {g : Nat → Nat} {n0 nx : Nat} {N : Nat} {res : Int32 × hE} (C : hX p s m args c prog_1_method_2_code 6 R_S ws_S_text D kA S g n0) (hr : meth.sig.returnType = (some .boolean)) (hlk : meth.locks = false) (hnm : meth.name = "text") (k63 : Option Nat → Int64 → Int32 → hE → Option (Int32 × hE)) (hk63 : ∀ (y0 : Option Nat) (y1 : Int64) (y4 : Int32) (E : hE) (H : Heap) (locs : List Loc) (ls : Array Slot), hY D kA n0 s E nx H locs → lv_has ls 6 [(0, va_rf y0), (1, .long y1), (4, .int y4)] → k63 y0 y1 y4 E = some res → W p l e rm_S_text s m args below meth c H locs 0 0 (MQ below (va_Qi (fun r w => r = res.1 ∧ w = (res.2, nx)) (hJ D kA S g n0) (fun q => n0 ≤ q)) args s 0 0 (fun q => n0 ≤ q)) (F0 m 63 ls [])) : ∀ (y0 : Option Nat) (y1 : Int64) (y4 : Int32) (E : hE) (H : Heap) (locs : List Loc) (ls : Array Slot), hY D kA n0 s E nx H locs → lv_has ls 6 [(0, va_rf y0), (1, .long y1), (4, .int y4)] → f_S_text_b93 N k63 y0 y1 y4 E = some res → W p l e rm_S_text s m args below meth c H locs 0 0 (MQ below (va_Qi (fun r w => r = res.1 ∧ w = (res.2, nx)) (hJ D kA S g n0) (fun q => n0 ≤ q)) args s 0 0 (fun q => n0 ≤ q)) (F0 m 93 ls []) := by
  intro y0 y1 y4 E H locs ls M hl hf
  unfold f_S_text_b93 at hf
  refine lv_iinc (v := y4 + (-1)) (lv' := [(4, .int (y4 + (-1))), (0, va_rf y0), (1, .long y1)]) C.x C.b dS_text_93 hl (k := 2) rfl rfl (by decide) rfl (fun ls hl => ?_)
  refine lv_goto (tgt := 63) C.x C.b dS_text_96 (by decide) ?_
  exact hk63 _ _ _ _ _ _ _ M (lv_sub hl [1, 2, 0] rfl) hf
def f_S_text_b63 (N : Nat) : Nat → Option Nat → Int64 → Int32 → hE → Option (Int32 × hE)
  | 0, _, _, _, _ => none
  | n + 1, y0, y1, y4, E => (
  if y4 < 0 then (
  some (1, E)
  ) else (
  (f_S_byteAt E y1 y4).bind fun v71 =>
  if v71 = 0 then (
  f_S_text_b93 N (f_S_text_b63 N n) y0 y1 y4 E
  ) else (
  (gR E y0 6 0).bind fun v82 =>
  (gR E v82 5 0).bind fun v85 =>
  (gO E v85 0).bind fun o90 =>
  (f_Row_add o90.1 v71 E).bind fun v90 =>
  f_S_text_b93 N (f_S_text_b63 N n) y0 y1 y4 v90
  )
  ))
set_option maxHeartbeats 4000000 in
set_option maxRecDepth 100000 in
theorem b_S_text_63 {p : Program} {l : Launch} {e : Env} {s : State} {m : MethodId} {args : Array Value} {below : List Frame} {meth : Method} {c : Code} {D : va_G} {kA : Nat → ClassId} {S : hE} {g : Nat → Nat} {n0 nx : Nat} {N : Nat} {res : Int32 × hE} (C : hX p s m args c prog_1_method_2_code 6 R_S ws_S_text D kA S g n0) (hr : meth.sig.returnType = (some .boolean)) (hlk : meth.locks = false) (hnm : meth.name = "text") : ∀ n : Nat, ∀ (y0 : Option Nat) (y1 : Int64) (y4 : Int32) (E : hE) (H : Heap) (locs : List Loc) (ls : Array Slot), hY D kA n0 s E nx H locs → lv_has ls 6 [(0, va_rf y0), (1, .long y1), (4, .int y4)] → f_S_text_b63 N n y0 y1 y4 E = some res → W p l e rm_S_text s m args below meth c H locs 0 0 (MQ below (va_Qi (fun r w => r = res.1 ∧ w = (res.2, nx)) (hJ D kA S g n0) (fun q => n0 ≤ q)) args s 0 0 (fun q => n0 ≤ q)) (F0 m 63 ls []) := by
  intro n
  induction n with
  | zero =>
    intro y0 y1 y4 E H locs ls M hl hf
    simp [f_S_text_b63] at hf
  | succ n ih =>
    intro y0 y1 y4 E H locs ls M hl hf
    rw [f_S_text_b63] at hf
    refine lv_iload C.x C.b dS_text_63 (lv_at hl 2 rfl) ?_
    refine lv_if_lt (tgt := 99) C.x C.b dS_text_65 (by decide) (fun c65 => ?_) (fun c65 => ?_)
    · rw [if_pos c65] at hf
      refine lv_iconst (v := 1) C.x C.b dS_text_99 (by decide) ?_
      cases hf
      exact w_iret C M hr hlk rfl (Nat.le_refl _) (Nat.le_refl _) dS_text_100 rfl rfl
    · rw [if_neg c65] at hf
      refine lv_lload_n C.x C.b dS_text_68 rfl (lv_at hl 1 rfl) ?_
      refine lv_iload C.x C.b dS_text_69 (lv_at hl 2 rfl) ?_
      obtain ⟨v71, h71, hf⟩ := Option.bind_eq_some_iff.mp hf
      refine w_ci M (w_runS C M (c_S_byteAt h71) (cwS 2 C.ts (hgS wm_194 wm_195 wm_1 wm_196) rfl rfl rfl (by decide +kernel) ⟨Nat.le_of_ble_eq_true rfl, Nat.le_of_ble_eq_true rfl⟩) rfl hl.1 rfl (Nat.zero_le _) dS_text_71 ⟨Nat.le_refl _, Nat.le_refl _⟩) (fun H locs M => ?_)
      refine lv_istore (lv' := [(5, .int v71), (0, va_rf y0), (1, .long y1), (4, .int y4)]) C.x C.b dS_text_74 hl (by decide) rfl (fun ls hl => ?_)
      refine lv_iload C.x C.b dS_text_76 (lv_at hl 0 rfl) ?_
      refine lv_if_eq (tgt := 93) C.x C.b dS_text_78 (by decide) (fun c78 => ?_) (fun c78 => ?_)
      · rw [if_pos c78] at hf
        exact b_S_text_93 C hr hlk hnm (f_S_text_b63 N n) ih _ _ _ _ _ _ _ M (lv_sub hl [1, 2, 3] rfl) hf
      · rw [if_neg c78] at hf
        refine w_aload_n C.x C.b dS_text_81 rfl (lv_at hl 1 rfl) ?_
        obtain ⟨v82, h82, hf⟩ := Option.bind_eq_some_iff.mp hf
        refine w_getR C M h82 rfl (hm_in in_S) (by decide) (List.mem_cons_of_mem _ wm_183) rfl dS_text_82 ?_
        obtain ⟨v85, h85, hf⟩ := Option.bind_eq_some_iff.mp hf
        refine w_getR C M h85 rfl (hm_in in_Tape) (by decide) (List.mem_cons_of_mem _ wm_59) rfl dS_text_85 ?_
        refine lv_iload C.x C.b dS_text_88 (lv_at hl 0 rfl) ?_
        obtain ⟨o90, g90, hf⟩ := Option.bind_eq_some_iff.mp hf
        obtain ⟨v90, h90, hf⟩ := Option.bind_eq_some_iff.mp hf
        refine w_cv M (w_runV C M g90 rfl (c_Row_add h90) (cwV 1 C.ts (hgV wm_204 wm_205 wm_206 wm_3 wm_207) rfl rfl rfl (by decide +kernel) ⟨Nat.le_of_ble_eq_true rfl, Nat.le_of_ble_eq_true rfl⟩) rfl hl.1 rfl (Nat.zero_le _) dS_text_90 ⟨Nat.le_refl _, Nat.le_refl _⟩) (fun H locs M => ?_)
        exact b_S_text_93 C hr hlk hnm (f_S_text_b63 N n) ih _ _ _ _ _ _ _ M (lv_sub hl [1, 2, 3] rfl) hf
def f_S_text_b37 (N : Nat) (k6 : Option Nat → Int64 → Int32 → Int32 → hE → Option (Int32 × hE)) (y0 : Option Nat) (y1 : Int64) (y3 : Int32) (y4 : Int32) (E : hE) : Option (Int32 × hE) := (
  k6 y0 y1 y3 (y4 + (-1)) E)
set_option maxHeartbeats 4000000 in
set_option maxRecDepth 100000 in
theorem b_S_text_37 {p : Program} {l : Launch} {e : Env} {s : State} {m : MethodId} {args : Array Value} {below : List Frame} {meth : Method} {c : Code} {D : va_G} {kA : Nat → ClassId} {S : hE} {g : Nat → Nat} {n0 nx : Nat} {N : Nat} {res : Int32 × hE} (C : hX p s m args c prog_1_method_2_code 6 R_S ws_S_text D kA S g n0) (hr : meth.sig.returnType = (some .boolean)) (hlk : meth.locks = false) (hnm : meth.name = "text") (k6 : Option Nat → Int64 → Int32 → Int32 → hE → Option (Int32 × hE)) (hk6 : ∀ (y0 : Option Nat) (y1 : Int64) (y3 : Int32) (y4 : Int32) (E : hE) (H : Heap) (locs : List Loc) (ls : Array Slot), hY D kA n0 s E nx H locs → lv_has ls 6 [(0, va_rf y0), (1, .long y1), (3, .int y3), (4, .int y4)] → k6 y0 y1 y3 y4 E = some res → W p l e rm_S_text s m args below meth c H locs 0 0 (MQ below (va_Qi (fun r w => r = res.1 ∧ w = (res.2, nx)) (hJ D kA S g n0) (fun q => n0 ≤ q)) args s 0 0 (fun q => n0 ≤ q)) (F0 m 6 ls [])) : ∀ (y0 : Option Nat) (y1 : Int64) (y3 : Int32) (y4 : Int32) (E : hE) (H : Heap) (locs : List Loc) (ls : Array Slot), hY D kA n0 s E nx H locs → lv_has ls 6 [(0, va_rf y0), (1, .long y1), (3, .int y3), (4, .int y4)] → f_S_text_b37 N k6 y0 y1 y3 y4 E = some res → W p l e rm_S_text s m args below meth c H locs 0 0 (MQ below (va_Qi (fun r w => r = res.1 ∧ w = (res.2, nx)) (hJ D kA S g n0) (fun q => n0 ≤ q)) args s 0 0 (fun q => n0 ≤ q)) (F0 m 37 ls []) := by
  intro y0 y1 y3 y4 E H locs ls M hl hf
  unfold f_S_text_b37 at hf
  refine lv_iinc (v := y4 + (-1)) (lv' := [(4, .int (y4 + (-1))), (0, va_rf y0), (1, .long y1), (3, .int y3)]) C.x C.b dS_text_37 hl (k := 3) rfl rfl (by decide) rfl (fun ls hl => ?_)
  refine lv_goto (tgt := 6) C.x C.b dS_text_40 (by decide) ?_
  exact hk6 _ _ _ _ _ _ _ _ M (lv_sub hl [1, 2, 3, 0] rfl) hf
def f_S_text_b6 (N : Nat) : Nat → Option Nat → Int64 → Int32 → Int32 → hE → Option (Int32 × hE)
  | 0, _, _, _, _, _ => none
  | n + 1, y0, y1, y3, y4, E => (
  if y4 < 0 then (
  (gR E y0 6 0).bind fun v44 =>
  (gR E v44 5 0).bind fun v47 =>
  (gO E v47 0).bind fun o51 =>
  (f_Row_hasRoomFor E o51.1 y3).bind fun v51 =>
  if v51 = 0 then (
  some (0, E)
  ) else (
  f_S_text_b63 N N y0 y1 7 E
  )
  ) else (
  (f_S_byteAt E y1 y4).bind fun v14 =>
  if v14 = 0 then (
  f_S_text_b37 N (f_S_text_b6 N n) y0 y1 y3 y4 E
  ) else (
  (f_S_isCharacter E v14).bind fun v26 =>
  if v26 = 0 then (
  some (0, E)
  ) else (
  f_S_text_b37 N (f_S_text_b6 N n) y0 y1 (y3 + 1) y4 E
  )
  )
  ))
set_option maxHeartbeats 4000000 in
set_option maxRecDepth 100000 in
theorem b_S_text_6 {p : Program} {l : Launch} {e : Env} {s : State} {m : MethodId} {args : Array Value} {below : List Frame} {meth : Method} {c : Code} {D : va_G} {kA : Nat → ClassId} {S : hE} {g : Nat → Nat} {n0 nx : Nat} {N : Nat} {res : Int32 × hE} (C : hX p s m args c prog_1_method_2_code 6 R_S ws_S_text D kA S g n0) (hr : meth.sig.returnType = (some .boolean)) (hlk : meth.locks = false) (hnm : meth.name = "text") : ∀ n : Nat, ∀ (y0 : Option Nat) (y1 : Int64) (y3 : Int32) (y4 : Int32) (E : hE) (H : Heap) (locs : List Loc) (ls : Array Slot), hY D kA n0 s E nx H locs → lv_has ls 6 [(0, va_rf y0), (1, .long y1), (3, .int y3), (4, .int y4)] → f_S_text_b6 N n y0 y1 y3 y4 E = some res → W p l e rm_S_text s m args below meth c H locs 0 0 (MQ below (va_Qi (fun r w => r = res.1 ∧ w = (res.2, nx)) (hJ D kA S g n0) (fun q => n0 ≤ q)) args s 0 0 (fun q => n0 ≤ q)) (F0 m 6 ls []) := by
  intro n
  induction n with
  | zero =>
    intro y0 y1 y3 y4 E H locs ls M hl hf
    simp [f_S_text_b6] at hf
  | succ n ih =>
    intro y0 y1 y3 y4 E H locs ls M hl hf
    rw [f_S_text_b6] at hf
    refine lv_iload C.x C.b dS_text_6 (lv_at hl 3 rfl) ?_
    refine lv_if_lt (tgt := 43) C.x C.b dS_text_8 (by decide) (fun c8 => ?_) (fun c8 => ?_)
    · rw [if_pos c8] at hf
      refine w_aload_n C.x C.b dS_text_43 rfl (lv_at hl 0 rfl) ?_
      obtain ⟨v44, h44, hf⟩ := Option.bind_eq_some_iff.mp hf
      refine w_getR C M h44 rfl (hm_in in_S) (by decide) (List.mem_cons_of_mem _ wm_183) rfl dS_text_44 ?_
      obtain ⟨v47, h47, hf⟩ := Option.bind_eq_some_iff.mp hf
      refine w_getR C M h47 rfl (hm_in in_Tape) (by decide) (List.mem_cons_of_mem _ wm_59) rfl dS_text_47 ?_
      refine lv_iload_n C.x C.b dS_text_50 rfl (lv_at hl 2 rfl) ?_
      obtain ⟨o51, g51, hf⟩ := Option.bind_eq_some_iff.mp hf
      obtain ⟨v51, h51, hf⟩ := Option.bind_eq_some_iff.mp hf
      refine w_ci M (w_runV C M g51 rfl (c_Row_hasRoomFor h51) (cwV 1 C.ts (hgV wm_200 wm_201 wm_202 wm_3 wm_203) rfl rfl rfl (by decide +kernel) ⟨Nat.le_of_ble_eq_true rfl, Nat.le_of_ble_eq_true rfl⟩) rfl hl.1 rfl (Nat.zero_le _) dS_text_51 ⟨Nat.le_refl _, Nat.le_refl _⟩) (fun H locs M => ?_)
      refine lv_if_ne (tgt := 59) C.x C.b dS_text_54 (by decide) (fun c54 => ?_) (fun c54 => ?_)
      · rw [if_neg c54] at hf
        refine lv_bipush (v := 7) C.x C.b dS_text_59 (by decide) ?_
        refine lv_istore (lv' := [(4, .int 7), (0, va_rf y0), (1, .long y1), (3, .int y3)]) C.x C.b dS_text_61 hl (by decide) rfl (fun ls hl => ?_)
        exact b_S_text_63 C hr hlk hnm N _ _ _ _ _ _ _ M (lv_sub hl [1, 2, 0] rfl) hf
      · rw [if_pos c54] at hf
        refine lv_iconst (v := 0) C.x C.b dS_text_57 (by decide) ?_
        cases hf
        exact w_iret C M hr hlk rfl (Nat.le_refl _) (Nat.le_refl _) dS_text_58 rfl rfl
    · rw [if_neg c8] at hf
      refine lv_lload_n C.x C.b dS_text_11 rfl (lv_at hl 1 rfl) ?_
      refine lv_iload C.x C.b dS_text_12 (lv_at hl 3 rfl) ?_
      obtain ⟨v14, h14, hf⟩ := Option.bind_eq_some_iff.mp hf
      refine w_ci M (w_runS C M (c_S_byteAt h14) (cwS 2 C.ts (hgS wm_194 wm_195 wm_1 wm_196) rfl rfl rfl (by decide +kernel) ⟨Nat.le_of_ble_eq_true rfl, Nat.le_of_ble_eq_true rfl⟩) rfl hl.1 rfl (Nat.zero_le _) dS_text_14 ⟨Nat.le_refl _, Nat.le_refl _⟩) (fun H locs M => ?_)
      refine lv_istore (lv' := [(5, .int v14), (0, va_rf y0), (1, .long y1), (3, .int y3), (4, .int y4)]) C.x C.b dS_text_17 hl (by decide) rfl (fun ls hl => ?_)
      refine lv_iload C.x C.b dS_text_19 (lv_at hl 0 rfl) ?_
      refine lv_if_eq (tgt := 37) C.x C.b dS_text_21 (by decide) (fun c21 => ?_) (fun c21 => ?_)
      · rw [if_pos c21] at hf
        exact b_S_text_37 C hr hlk hnm (f_S_text_b6 N n) ih _ _ _ _ _ _ _ _ M (lv_sub hl [1, 2, 3, 4] rfl) hf
      · rw [if_neg c21] at hf
        refine lv_iload C.x C.b dS_text_24 (lv_at hl 0 rfl) ?_
        obtain ⟨v26, h26, hf⟩ := Option.bind_eq_some_iff.mp hf
        refine w_ci M (w_runS C M (c_S_isCharacter h26) (cwS 1 C.ts (hgS wm_197 wm_198 wm_1 wm_199) rfl rfl rfl (by decide +kernel) ⟨Nat.le_of_ble_eq_true rfl, Nat.le_of_ble_eq_true rfl⟩) rfl hl.1 rfl (Nat.zero_le _) dS_text_26 ⟨Nat.le_refl _, Nat.le_refl _⟩) (fun H locs M => ?_)
        refine lv_if_ne (tgt := 34) C.x C.b dS_text_29 (by decide) (fun c29 => ?_) (fun c29 => ?_)
        · rw [if_neg c29] at hf
          refine lv_iinc (v := y3 + 1) (lv' := [(3, .int (y3 + 1)), (5, .int v14), (0, va_rf y0), (1, .long y1), (4, .int y4)]) C.x C.b dS_text_34 hl (k := 3) rfl rfl (by decide) rfl (fun ls hl => ?_)
          exact b_S_text_37 C hr hlk hnm (f_S_text_b6 N n) ih _ _ _ _ _ _ _ _ M (lv_sub hl [2, 3, 0, 4] rfl) hf
        · rw [if_pos c29] at hf
          refine lv_iconst (v := 0) C.x C.b dS_text_32 (by decide) ?_
          cases hf
          exact w_iret C M hr hlk rfl (Nat.le_refl _) (Nat.le_refl _) dS_text_33 rfl rfl
def f_S_text (N : Nat) (x0 : Nat) (x1 : Int64) (E : hE) : Option (Int32 × hE) := (
  f_S_text_b6 N N (some x0) x1 0 7 E)
set_option maxHeartbeats 4000000 in
set_option maxRecDepth 100000 in
theorem c_S_text {l : Launch} {D : va_G} {kA : Nat → ClassId} {S : hE} {g : Nat → Nat} {n0 nx : Nat} {N : Nat} {x0 : Nat} {x1 : Int64} {E : hE} {res : Int32 × hE} (hf : f_S_text N x0 x1 E = some res) : Met l y_S_text ws_S_text rm_S_text (va_Pc [va_rf (some x0), .long x1] (hJ D kA S g n0 (E, nx))) (va_Qi (fun r w => r = res.1 ∧ w = (res.2, nx)) (hJ D kA S g n0) (fun q => n0 ≤ q)) 0 0 (fun q => n0 ≤ q) := by
  refine h_met (cc := prog_1_method_2_code) (maxL := 6) (ret := (some .boolean)) (lvs := [(0, va_rf (some x0)), (1, .long x1)]) zZ_k (by decide) rfl (by simp [lg_sl, va_rf_cat, cat_i, cat_l, cat_n]) (by simp [lv_args, va_rf_cat, cat_i, cat_l, cat_n]) ?_
  intro p e s m below meth c ls C M hr hlk hnm hl
  unfold f_S_text at hf
  refine lv_iconst (v := 0) C.x C.b dS_text_0 (by decide) ?_
  refine lv_istore_n (lv' := [(3, .int 0), (0, va_rf (some x0)), (1, .long x1)]) C.x C.b dS_text_1 rfl hl (by decide) rfl (fun ls hl => ?_)
  refine lv_bipush (v := 7) C.x C.b dS_text_2 (by decide) ?_
  refine lv_istore (lv' := [(4, .int 7), (3, .int 0), (0, va_rf (some x0)), (1, .long x1)]) C.x C.b dS_text_4 hl (by decide) rfl (fun ls hl => ?_)
  exact b_S_text_6 C hr hlk hnm N _ _ _ _ _ _ _ _ M (lv_sub hl [2, 3, 1, 0] rfl) hf
theorem dMach_fileAt_0 : decode prog_5_method_2_code 0 = .ok (.iload_n 1, 1) := by decide +kernel
theorem dMach_fileAt_1 : decode prog_5_method_2_code 1 = .ok (.ifCond .lt 18, 3) := by decide +kernel
theorem dMach_fileAt_4 : decode prog_5_method_2_code 4 = .ok (.iload_n 1, 1) := by decide +kernel
theorem dMach_fileAt_5 : decode prog_5_method_2_code 5 = .ok (.bipush 10, 2) := by decide +kernel
theorem dMach_fileAt_7 : decode prog_5_method_2_code 7 = .ok (.if_icmp .ge 12, 3) := by decide +kernel
theorem dMach_fileAt_10 : decode prog_5_method_2_code 10 = .ok (.aload_n 0, 1) := by decide +kernel
theorem dMach_fileAt_11 : decode prog_5_method_2_code 11 = .ok (.getfield 40, 3) := by decide +kernel
theorem dMach_fileAt_14 : decode prog_5_method_2_code 14 = .ok (.iload_n 1, 1) := by decide +kernel
theorem dMach_fileAt_15 : decode prog_5_method_2_code 15 = .ok (.aaload, 1) := by decide +kernel
theorem dMach_fileAt_16 : decode prog_5_method_2_code 16 = .ok (.goto 4, 3) := by decide +kernel
theorem dMach_fileAt_19 : decode prog_5_method_2_code 19 = .ok (.aconst_null, 1) := by decide +kernel
theorem dMach_fileAt_20 : decode prog_5_method_2_code 20 = .ok (.areturn, 1) := by decide +kernel
abbrev rm_Mach_fileAt : Room := { frames := 0, cells := 0, slots := 0, locals := 0 }
def f_Mach_fileAt_b20 (E : hE) (t0 : Option Nat) : Option (Option Nat) := (
  some t0)
set_option maxHeartbeats 4000000 in
set_option maxRecDepth 100000 in
theorem b_Mach_fileAt_20 {p : Program} {l : Launch} {e : Env} {s : State} {m : MethodId} {args : Array Value} {below : List Frame} {meth : Method} {c : Code} {D : va_G} {kA : Nat → ClassId} {S : hE} {g : Nat → Nat} {n0 nx : Nat} {E : hE} {res : Option Nat} (C : hX p s m args c prog_5_method_2_code 2 R_Mach ws_Mach_fileAt D kA S g n0) (hr : meth.sig.returnType = (some (.object "StepPrograms$Row"))) (hlk : meth.locks = false) (hnm : meth.name = "fileAt") : ∀ (t0 : Option Nat) (H : Heap) (locs : List Loc) (ls : Array Slot), hY D kA n0 s E nx H locs → lv_has ls 2 [] → f_Mach_fileAt_b20 E  t0 = some res → W p l e rm_Mach_fileAt s m args below meth c H locs 0 0 (MQ below (va_Qq (fun r w => r = res ∧ w = (E, nx)) (hJ D kA S g n0) (fun q => n0 ≤ q)) args s 0 0 (fun q => n0 ≤ q)) (F0 m 20 ls [va_rf t0]) := by
  intro t0 H locs ls M hl hf
  unfold f_Mach_fileAt_b20 at hf
  cases hf
  exact w_aret C M hr (Or.inl ⟨_, rfl⟩) hlk (Nat.le_refl _) (Nat.le_refl _) dMach_fileAt_20 rfl rfl
def f_Mach_fileAt_b19 (E : hE) : Option (Option Nat) := (
  f_Mach_fileAt_b20 E none)
set_option maxHeartbeats 4000000 in
set_option maxRecDepth 100000 in
theorem b_Mach_fileAt_19 {p : Program} {l : Launch} {e : Env} {s : State} {m : MethodId} {args : Array Value} {below : List Frame} {meth : Method} {c : Code} {D : va_G} {kA : Nat → ClassId} {S : hE} {g : Nat → Nat} {n0 nx : Nat} {E : hE} {res : Option Nat} (C : hX p s m args c prog_5_method_2_code 2 R_Mach ws_Mach_fileAt D kA S g n0) (hr : meth.sig.returnType = (some (.object "StepPrograms$Row"))) (hlk : meth.locks = false) (hnm : meth.name = "fileAt") : ∀  (H : Heap) (locs : List Loc) (ls : Array Slot), hY D kA n0 s E nx H locs → lv_has ls 2 [] → f_Mach_fileAt_b19 E   = some res → W p l e rm_Mach_fileAt s m args below meth c H locs 0 0 (MQ below (va_Qq (fun r w => r = res ∧ w = (E, nx)) (hJ D kA S g n0) (fun q => n0 ≤ q)) args s 0 0 (fun q => n0 ≤ q)) (F0 m 19 ls []) := by
  intro  H locs ls M hl hf
  unfold f_Mach_fileAt_b19 at hf
  refine lv_null C.x C.b dMach_fileAt_19 ?_
  exact b_Mach_fileAt_20 C hr hlk hnm _ _ _ _ M (lv_sub hl [] rfl) hf
def f_Mach_fileAt (E : hE) (x0 : Nat) (x1 : Int32) : Option (Option Nat) := (
  if x1 < 0 then (
  f_Mach_fileAt_b19 E 
  ) else (
  if 10 ≤ x1 then (
  f_Mach_fileAt_b19 E 
  ) else (
  (gR E (some x0) 2 5).bind fun v11 =>
  (aQ E v11 3 x1).bind fun v15 =>
  f_Mach_fileAt_b20 E v15
  )
  ))
set_option maxHeartbeats 4000000 in
set_option maxRecDepth 100000 in
theorem c_Mach_fileAt {l : Launch} {D : va_G} {kA : Nat → ClassId} {S : hE} {g : Nat → Nat} {n0 nx : Nat} {x0 : Nat} {x1 : Int32} {E : hE} {res : Option Nat} (hf : f_Mach_fileAt E x0 x1 = some res) : Met l y_Mach_fileAt ws_Mach_fileAt rm_Mach_fileAt (va_Pc [va_rf (some x0), .int x1] (hJ D kA S g n0 (E, nx))) (va_Qq (fun r w => r = res ∧ w = (E, nx)) (hJ D kA S g n0) (fun q => n0 ≤ q)) 0 0 (fun q => n0 ≤ q) := by
  refine h_met (cc := prog_5_method_2_code) (maxL := 2) (ret := (some (.object "StepPrograms$Row"))) (lvs := [(0, va_rf (some x0)), (1, .int x1)]) zZ_k (by decide) rfl (by simp [lg_sl, va_rf_cat, cat_i, cat_l, cat_n]) (by simp [lv_args, va_rf_cat, cat_i, cat_l, cat_n]) ?_
  intro p e s m below meth c ls C M hr hlk hnm hl
  unfold f_Mach_fileAt at hf
  refine lv_iload_n C.x C.b dMach_fileAt_0 rfl (lv_at hl 1 rfl) ?_
  refine lv_if_lt (tgt := 19) C.x C.b dMach_fileAt_1 (by decide) (fun c1 => ?_) (fun c1 => ?_)
  · rw [if_pos c1] at hf
    exact b_Mach_fileAt_19 C hr hlk hnm _ _ _ M (lv_sub hl [] rfl) hf
  · rw [if_neg c1] at hf
    refine lv_iload_n C.x C.b dMach_fileAt_4 rfl (lv_at hl 1 rfl) ?_
    refine lv_bipush (v := 10) C.x C.b dMach_fileAt_5 (by decide) ?_
    refine lv_icmp_ge (tgt := 19) C.x C.b dMach_fileAt_7 (by decide) (fun c7 => ?_) (fun c7 => ?_)
    · rw [if_pos c7] at hf
      exact b_Mach_fileAt_19 C hr hlk hnm _ _ _ M (lv_sub hl [] rfl) hf
    · rw [if_neg c7] at hf
      refine w_aload_n C.x C.b dMach_fileAt_10 rfl (lv_at hl 0 rfl) ?_
      obtain ⟨v11, h11, hf⟩ := Option.bind_eq_some_iff.mp hf
      refine w_getR C M h11 rfl (hm_in in_Mach) (by decide) (List.mem_cons_of_mem _ wm_144) rfl dMach_fileAt_11 ?_
      refine lv_iload_n C.x C.b dMach_fileAt_14 rfl (lv_at hl 1 rfl) ?_
      obtain ⟨v15, h15, hf⟩ := Option.bind_eq_some_iff.mp hf
      refine w_aald C M h15 rfl dMach_fileAt_15 ?_
      refine lv_goto (tgt := 20) C.x C.b dMach_fileAt_16 (by decide) ?_
      exact b_Mach_fileAt_20 C hr hlk hnm _ _ _ _ M (lv_sub hl [] rfl) hf
theorem dS_file_0 : decode prog_1_method_4_code 0 = .ok (.aload_n 0, 1) := by decide +kernel
theorem dS_file_1 : decode prog_1_method_4_code 1 = .ok (.getfield 19, 3) := by decide +kernel
theorem dS_file_4 : decode prog_1_method_4_code 4 = .ok (.iload_n 1, 1) := by decide +kernel
theorem dS_file_5 : decode prog_1_method_4_code 5 = .ok (.invokevirtual 58, 3) := by decide +kernel
theorem dS_file_8 : decode prog_1_method_4_code 8 = .ok (.astore 5, 2) := by decide +kernel
theorem dS_file_10 : decode prog_1_method_4_code 10 = .ok (.aload 5, 2) := by decide +kernel
theorem dS_file_12 : decode prog_1_method_4_code 12 = .ok (.ifnull 26, 3) := by decide +kernel
theorem dS_file_15 : decode prog_1_method_4_code 15 = .ok (.iload 4, 2) := by decide +kernel
theorem dS_file_17 : decode prog_1_method_4_code 17 = .ok (.iconst 1, 1) := by decide +kernel
theorem dS_file_18 : decode prog_1_method_4_code 18 = .ok (.if_icmp .lt 20, 3) := by decide +kernel
theorem dS_file_21 : decode prog_1_method_4_code 21 = .ok (.iload 4, 2) := by decide +kernel
theorem dS_file_23 : decode prog_1_method_4_code 23 = .ok (.bipush 8, 2) := by decide +kernel
theorem dS_file_25 : decode prog_1_method_4_code 25 = .ok (.if_icmp .gt 13, 3) := by decide +kernel
theorem dS_file_28 : decode prog_1_method_4_code 28 = .ok (.aload 5, 2) := by decide +kernel
theorem dS_file_30 : decode prog_1_method_4_code 30 = .ok (.iload 4, 2) := by decide +kernel
theorem dS_file_32 : decode prog_1_method_4_code 32 = .ok (.invokevirtual 35, 3) := by decide +kernel
theorem dS_file_35 : decode prog_1_method_4_code 35 = .ok (.ifCond .ne 5, 3) := by decide +kernel
theorem dS_file_38 : decode prog_1_method_4_code 38 = .ok (.iconst 0, 1) := by decide +kernel
theorem dS_file_39 : decode prog_1_method_4_code 39 = .ok (.ireturn, 1) := by decide +kernel
theorem dS_file_40 : decode prog_1_method_4_code 40 = .ok (.iload 4, 2) := by decide +kernel
theorem dS_file_42 : decode prog_1_method_4_code 42 = .ok (.iconst 1, 1) := by decide +kernel
theorem dS_file_43 : decode prog_1_method_4_code 43 = .ok (.isub, 1) := by decide +kernel
theorem dS_file_44 : decode prog_1_method_4_code 44 = .ok (.istore 6, 2) := by decide +kernel
theorem dS_file_46 : decode prog_1_method_4_code 46 = .ok (.iload 6, 2) := by decide +kernel
theorem dS_file_48 : decode prog_1_method_4_code 48 = .ok (.ifCond .lt 20, 3) := by decide +kernel
theorem dS_file_51 : decode prog_1_method_4_code 51 = .ok (.aload 5, 2) := by decide +kernel
theorem dS_file_53 : decode prog_1_method_4_code 53 = .ok (.lload_n 2, 1) := by decide +kernel
theorem dS_file_54 : decode prog_1_method_4_code 54 = .ok (.iload 6, 2) := by decide +kernel
theorem dS_file_56 : decode prog_1_method_4_code 56 = .ok (.invokestatic 23, 3) := by decide +kernel
theorem dS_file_59 : decode prog_1_method_4_code 59 = .ok (.invokevirtual 40, 3) := by decide +kernel
theorem dS_file_62 : decode prog_1_method_4_code 62 = .ok (.iinc 6 (-1), 3) := by decide +kernel
theorem dS_file_65 : decode prog_1_method_4_code 65 = .ok (.goto (-19), 3) := by decide +kernel
theorem dS_file_68 : decode prog_1_method_4_code 68 = .ok (.iconst 1, 1) := by decide +kernel
theorem dS_file_69 : decode prog_1_method_4_code 69 = .ok (.ireturn, 1) := by decide +kernel
abbrev rm_S_file : Room := { frames := 1, cells := 0, slots := 0, locals := 22 }
def f_S_file_b46 (N : Nat) : Nat → Int64 → Option Nat → Int32 → hE → Option (Int32 × hE)
  | 0, _, _, _, _ => none
  | n + 1, y2, y5, y6, E => (
  if y6 < 0 then (
  some (1, E)
  ) else (
  (f_S_byteAt E y2 y6).bind fun v56 =>
  (gO E y5 0).bind fun o59 =>
  (f_Row_add o59.1 v56 E).bind fun v59 =>
  f_S_file_b46 N n y2 y5 (y6 + (-1)) v59
  ))
set_option maxHeartbeats 4000000 in
set_option maxRecDepth 100000 in
theorem b_S_file_46 {p : Program} {l : Launch} {e : Env} {s : State} {m : MethodId} {args : Array Value} {below : List Frame} {meth : Method} {c : Code} {D : va_G} {kA : Nat → ClassId} {S : hE} {g : Nat → Nat} {n0 nx : Nat} {N : Nat} {res : Int32 × hE} (C : hX p s m args c prog_1_method_4_code 7 R_S ws_S_file D kA S g n0) (hr : meth.sig.returnType = (some .boolean)) (hlk : meth.locks = false) (hnm : meth.name = "file") : ∀ n : Nat, ∀ (y2 : Int64) (y5 : Option Nat) (y6 : Int32) (E : hE) (H : Heap) (locs : List Loc) (ls : Array Slot), hY D kA n0 s E nx H locs → lv_has ls 7 [(2, .long y2), (5, va_rf y5), (6, .int y6)] → f_S_file_b46 N n y2 y5 y6 E = some res → W p l e rm_S_file s m args below meth c H locs 0 0 (MQ below (va_Qi (fun r w => r = res.1 ∧ w = (res.2, nx)) (hJ D kA S g n0) (fun q => n0 ≤ q)) args s 0 0 (fun q => n0 ≤ q)) (F0 m 46 ls []) := by
  intro n
  induction n with
  | zero =>
    intro y2 y5 y6 E H locs ls M hl hf
    simp [f_S_file_b46] at hf
  | succ n ih =>
    intro y2 y5 y6 E H locs ls M hl hf
    rw [f_S_file_b46] at hf
    refine lv_iload C.x C.b dS_file_46 (lv_at hl 2 rfl) ?_
    refine lv_if_lt (tgt := 68) C.x C.b dS_file_48 (by decide) (fun c48 => ?_) (fun c48 => ?_)
    · rw [if_pos c48] at hf
      refine lv_iconst (v := 1) C.x C.b dS_file_68 (by decide) ?_
      cases hf
      exact w_iret C M hr hlk rfl (Nat.le_refl _) (Nat.le_refl _) dS_file_69 rfl rfl
    · rw [if_neg c48] at hf
      refine w_aload C.x C.b dS_file_51 (lv_at hl 1 rfl) ?_
      refine lv_lload_n C.x C.b dS_file_53 rfl (lv_at hl 0 rfl) ?_
      refine lv_iload C.x C.b dS_file_54 (lv_at hl 2 rfl) ?_
      obtain ⟨v56, h56, hf⟩ := Option.bind_eq_some_iff.mp hf
      refine w_ci M (w_runS C M (c_S_byteAt h56) (cwS 2 C.ts (hgS wm_194 wm_195 wm_1 wm_196) rfl rfl rfl (by decide +kernel) ⟨Nat.le_of_ble_eq_true rfl, Nat.le_of_ble_eq_true rfl⟩) rfl hl.1 rfl (by simp [va_rf_cat, cat_i, cat_l, cat_n]) dS_file_56 ⟨Nat.le_refl _, Nat.le_refl _⟩) (fun H locs M => ?_)
      obtain ⟨o59, g59, hf⟩ := Option.bind_eq_some_iff.mp hf
      obtain ⟨v59, h59, hf⟩ := Option.bind_eq_some_iff.mp hf
      refine w_cv M (w_runV C M g59 rfl (c_Row_add h59) (cwV 1 C.ts (hgV wm_204 wm_205 wm_206 wm_3 wm_207) rfl rfl rfl (by decide +kernel) ⟨Nat.le_of_ble_eq_true rfl, Nat.le_of_ble_eq_true rfl⟩) rfl hl.1 rfl (Nat.zero_le _) dS_file_59 ⟨Nat.le_refl _, Nat.le_refl _⟩) (fun H locs M => ?_)
      refine lv_iinc (v := y6 + (-1)) (lv' := [(6, .int (y6 + (-1))), (2, .long y2), (5, va_rf y5)]) C.x C.b dS_file_62 hl (k := 2) rfl rfl (by decide) (by simp [va_rf_cat]) (fun ls hl => ?_)
      refine lv_goto (tgt := 46) C.x C.b dS_file_65 (by decide) ?_
      exact ih _ _ _ _ _ _ _ M (lv_sub hl [1, 2, 0] rfl) hf
def f_S_file_b38 (N : Nat) (E : hE) : Option (Int32 × hE) := (
  some (0, E))
set_option maxHeartbeats 4000000 in
set_option maxRecDepth 100000 in
theorem b_S_file_38 {p : Program} {l : Launch} {e : Env} {s : State} {m : MethodId} {args : Array Value} {below : List Frame} {meth : Method} {c : Code} {D : va_G} {kA : Nat → ClassId} {S : hE} {g : Nat → Nat} {n0 nx : Nat} {N : Nat} {res : Int32 × hE} (C : hX p s m args c prog_1_method_4_code 7 R_S ws_S_file D kA S g n0) (hr : meth.sig.returnType = (some .boolean)) (hlk : meth.locks = false) (hnm : meth.name = "file") : ∀  (E : hE) (H : Heap) (locs : List Loc) (ls : Array Slot), hY D kA n0 s E nx H locs → lv_has ls 7 [] → f_S_file_b38 N  E = some res → W p l e rm_S_file s m args below meth c H locs 0 0 (MQ below (va_Qi (fun r w => r = res.1 ∧ w = (res.2, nx)) (hJ D kA S g n0) (fun q => n0 ≤ q)) args s 0 0 (fun q => n0 ≤ q)) (F0 m 38 ls []) := by
  intro E H locs ls M hl hf
  unfold f_S_file_b38 at hf
  refine lv_iconst (v := 0) C.x C.b dS_file_38 (by decide) ?_
  cases hf
  exact w_iret C M hr hlk rfl (Nat.le_refl _) (Nat.le_refl _) dS_file_39 rfl rfl
def f_S_file (N : Nat) (x0 : Nat) (x1 : Int32) (x2 : Int64) (x4 : Int32) (E : hE) : Option (Int32 × hE) := (
  (gR E (some x0) 6 1).bind fun v1 =>
  (gO E v1 2).bind fun o5 =>
  (f_Mach_fileAt E o5.1 x1).bind fun v5 =>
  if v5 = none then (
  f_S_file_b38 N E
  ) else (
  if x4 < 1 then (
  f_S_file_b38 N E
  ) else (
  if 8 < x4 then (
  f_S_file_b38 N E
  ) else (
  (gO E v5 0).bind fun o32 =>
  (f_Row_hasRoomFor E o32.1 x4).bind fun v32 =>
  if v32 = 0 then (
  f_S_file_b38 N E
  ) else (
  f_S_file_b46 N N x2 v5 (x4 - 1) E
  )
  )
  )
  ))
set_option maxHeartbeats 4000000 in
set_option maxRecDepth 100000 in
theorem c_S_file {l : Launch} {D : va_G} {kA : Nat → ClassId} {S : hE} {g : Nat → Nat} {n0 nx : Nat} {N : Nat} {x0 : Nat} {x1 : Int32} {x2 : Int64} {x4 : Int32} {E : hE} {res : Int32 × hE} (hf : f_S_file N x0 x1 x2 x4 E = some res) : Met l y_S_file ws_S_file rm_S_file (va_Pc [va_rf (some x0), .int x1, .long x2, .int x4] (hJ D kA S g n0 (E, nx))) (va_Qi (fun r w => r = res.1 ∧ w = (res.2, nx)) (hJ D kA S g n0) (fun q => n0 ≤ q)) 0 0 (fun q => n0 ≤ q) := by
  refine h_met (cc := prog_1_method_4_code) (maxL := 7) (ret := (some .boolean)) (lvs := [(0, va_rf (some x0)), (1, .int x1), (2, .long x2), (4, .int x4)]) zZ_k (by decide) rfl (by simp [lg_sl, va_rf_cat, cat_i, cat_l, cat_n]) (by simp [lv_args, va_rf_cat, cat_i, cat_l, cat_n]) ?_
  intro p e s m below meth c ls C M hr hlk hnm hl
  unfold f_S_file at hf
  refine w_aload_n C.x C.b dS_file_0 rfl (lv_at hl 0 rfl) ?_
  obtain ⟨v1, h1, hf⟩ := Option.bind_eq_some_iff.mp hf
  refine w_getR C M h1 rfl (hm_in in_S) (by decide) (List.mem_cons_of_mem _ wm_184) rfl dS_file_1 ?_
  refine lv_iload_n C.x C.b dS_file_4 rfl (lv_at hl 1 rfl) ?_
  obtain ⟨o5, g5, hf⟩ := Option.bind_eq_some_iff.mp hf
  obtain ⟨v5, h5, hf⟩ := Option.bind_eq_some_iff.mp hf
  refine w_cq M (w_runV C M g5 rfl (c_Mach_fileAt h5) (cwV 1 C.ts (hgV wm_554 wm_555 wm_556 wm_4 wm_557) rfl rfl rfl (by decide +kernel) ⟨Nat.le_of_ble_eq_true rfl, Nat.le_of_ble_eq_true rfl⟩) rfl hl.1 rfl (Nat.zero_le _) dS_file_5 ⟨Nat.le_refl _, Nat.le_refl _⟩) (fun H locs M => ?_)
  refine w_astore (lv' := [(5, va_rf v5), (0, va_rf (some x0)), (1, .int x1), (2, .long x2), (4, .int x4)]) C.x C.b dS_file_8 hl (by decide) rfl (fun ls hl => ?_)
  refine w_aload C.x C.b dS_file_10 (lv_at hl 0 rfl) ?_
  refine w_ifnull (tgt := 38) C.x C.b dS_file_12 (by decide) (fun c12 => ?_) (fun c12 => ?_)
  · rw [if_pos c12] at hf
    exact b_S_file_38 C hr hlk hnm _ _ _ _ M (lv_sub hl [] rfl) hf
  · rw [if_neg c12] at hf
    refine lv_iload C.x C.b dS_file_15 (lv_at hl 4 rfl) ?_
    refine lv_iconst (v := 1) C.x C.b dS_file_17 (by decide) ?_
    refine lv_icmp_lt (tgt := 38) C.x C.b dS_file_18 (by decide) (fun c18 => ?_) (fun c18 => ?_)
    · rw [if_pos c18] at hf
      exact b_S_file_38 C hr hlk hnm _ _ _ _ M (lv_sub hl [] rfl) hf
    · rw [if_neg c18] at hf
      refine lv_iload C.x C.b dS_file_21 (lv_at hl 4 rfl) ?_
      refine lv_bipush (v := 8) C.x C.b dS_file_23 (by decide) ?_
      refine lv_icmp_gt (tgt := 38) C.x C.b dS_file_25 (by decide) (fun c25 => ?_) (fun c25 => ?_)
      · rw [if_pos c25] at hf
        exact b_S_file_38 C hr hlk hnm _ _ _ _ M (lv_sub hl [] rfl) hf
      · rw [if_neg c25] at hf
        refine w_aload C.x C.b dS_file_28 (lv_at hl 0 rfl) ?_
        refine lv_iload C.x C.b dS_file_30 (lv_at hl 4 rfl) ?_
        obtain ⟨o32, g32, hf⟩ := Option.bind_eq_some_iff.mp hf
        obtain ⟨v32, h32, hf⟩ := Option.bind_eq_some_iff.mp hf
        refine w_ci M (w_runV C M g32 rfl (c_Row_hasRoomFor h32) (cwV 1 C.ts (hgV wm_200 wm_201 wm_202 wm_3 wm_203) rfl rfl rfl (by decide +kernel) ⟨Nat.le_of_ble_eq_true rfl, Nat.le_of_ble_eq_true rfl⟩) rfl hl.1 rfl (Nat.zero_le _) dS_file_32 ⟨Nat.le_refl _, Nat.le_refl _⟩) (fun H locs M => ?_)
        refine lv_if_ne (tgt := 40) C.x C.b dS_file_35 (by decide) (fun c35 => ?_) (fun c35 => ?_)
        · rw [if_neg c35] at hf
          refine lv_iload C.x C.b dS_file_40 (lv_at hl 4 rfl) ?_
          refine lv_iconst (v := 1) C.x C.b dS_file_42 (by decide) ?_
          refine lv_isub C.x C.b dS_file_43 ?_
          refine lv_istore (lv' := [(6, .int (x4 - 1)), (5, va_rf v5), (0, va_rf (some x0)), (1, .int x1), (2, .long x2), (4, .int x4)]) C.x C.b dS_file_44 hl (by decide) (by simp [va_rf_cat]) (fun ls hl => ?_)
          exact b_S_file_46 C hr hlk hnm N _ _ _ _ _ _ _ M (lv_sub hl [4, 1, 0] rfl) hf
        · rw [if_pos c35] at hf
          exact b_S_file_38 C hr hlk hnm _ _ _ _ M (lv_sub hl [] rfl) hf
theorem dRow_makeEmpty_0 : decode prog_6_method_4_code 0 = .ok (.aload_n 0, 1) := by decide +kernel
theorem dRow_makeEmpty_1 : decode prog_6_method_4_code 1 = .ok (.iconst 0, 1) := by decide +kernel
theorem dRow_makeEmpty_2 : decode prog_6_method_4_code 2 = .ok (.putfield 15, 3) := by decide +kernel
theorem dRow_makeEmpty_5 : decode prog_6_method_4_code 5 = .ok (.aload_n 0, 1) := by decide +kernel
theorem dRow_makeEmpty_6 : decode prog_6_method_4_code 6 = .ok (.iconst 1, 1) := by decide +kernel
theorem dRow_makeEmpty_7 : decode prog_6_method_4_code 7 = .ok (.putfield 19, 3) := by decide +kernel
theorem dRow_makeEmpty_10 : decode prog_6_method_4_code 10 = .ok (.return_, 1) := by decide +kernel
abbrev rm_Row_makeEmpty : Room := { frames := 0, cells := 0, slots := 0, locals := 0 }
def f_Row_makeEmpty  (x0 : Nat) (E : hE) : Option (hE) := (
  (sI E (some x0) 0 1 0).bind fun E2 =>
  (sZ E2 (some x0) 0 2 1).bind fun E7 =>
  some E7)
set_option maxHeartbeats 4000000 in
set_option maxRecDepth 100000 in
theorem c_Row_makeEmpty {l : Launch} {D : va_G} {kA : Nat → ClassId} {S : hE} {g : Nat → Nat} {n0 nx : Nat} {x0 : Nat} {E : hE} {res : hE} (hf : f_Row_makeEmpty x0 E = some res) : Met l y_Row_makeEmpty ws_Row_makeEmpty rm_Row_makeEmpty (va_Pc [va_rf (some x0)] (hJ D kA S g n0 (E, nx))) (va_Qv (fun w => w = (res, nx)) (hJ D kA S g n0) (fun q => n0 ≤ q)) 0 0 (fun q => n0 ≤ q) := by
  refine h_met (cc := prog_6_method_4_code) (maxL := 1) (ret := none) (lvs := [(0, va_rf (some x0))]) zZ_k (by decide) rfl (by simp [lg_sl, va_rf_cat, cat_i, cat_l, cat_n]) (by simp [lv_args, va_rf_cat, cat_i, cat_l, cat_n]) ?_
  intro p e s m below meth c ls C M hr hlk hnm hl
  unfold f_Row_makeEmpty at hf
  refine w_aload_n C.x C.b dRow_makeEmpty_0 rfl (lv_at hl 0 rfl) ?_
  refine lv_iconst (v := 0) C.x C.b dRow_makeEmpty_1 (by decide) ?_
  obtain ⟨E2, h2, hf⟩ := Option.bind_eq_some_iff.mp hf
  refine w_putV (ty := .int) C M ty_Row h2 rfl (hm_in in_Row) tyok_Row nm_Row (by decide) (List.mem_cons_of_mem _ wm_45) rfl rfl (by decide +kernel) rfl rfl dRow_makeEmpty_2 (fun H locs M => ?_)
  refine w_aload_n C.x C.b dRow_makeEmpty_5 rfl (lv_at hl 0 rfl) ?_
  refine lv_iconst (v := 1) C.x C.b dRow_makeEmpty_6 (by decide) ?_
  obtain ⟨E7, h7, hf⟩ := Option.bind_eq_some_iff.mp hf
  refine w_putV (ty := .boolean) C M ty_Row (sZ_some h7).2 rfl (hm_in in_Row) tyok_Row nm_Row (by decide) (List.mem_cons_of_mem _ wm_48) rfl rfl (by decide +kernel) (narrow_z (sZ_some h7).1) (fits_z (sZ_some h7).1) dRow_makeEmpty_7 (fun H locs M => ?_)
  cases hf
  exact w_vret C M hr hlk (Nat.le_refl _) (Nat.le_refl _) dRow_makeEmpty_10 rfl
theorem dRow_remove_0 : decode prog_6_method_5_code 0 = .ok (.aload_n 0, 1) := by decide +kernel
theorem dRow_remove_1 : decode prog_6_method_5_code 1 = .ok (.iconst 0, 1) := by decide +kernel
theorem dRow_remove_2 : decode prog_6_method_5_code 2 = .ok (.putfield 15, 3) := by decide +kernel
theorem dRow_remove_5 : decode prog_6_method_5_code 5 = .ok (.aload_n 0, 1) := by decide +kernel
theorem dRow_remove_6 : decode prog_6_method_5_code 6 = .ok (.iconst 0, 1) := by decide +kernel
theorem dRow_remove_7 : decode prog_6_method_5_code 7 = .ok (.putfield 19, 3) := by decide +kernel
theorem dRow_remove_10 : decode prog_6_method_5_code 10 = .ok (.return_, 1) := by decide +kernel
abbrev rm_Row_remove : Room := { frames := 0, cells := 0, slots := 0, locals := 0 }
def f_Row_remove  (x0 : Nat) (E : hE) : Option (hE) := (
  (sI E (some x0) 0 1 0).bind fun E2 =>
  (sZ E2 (some x0) 0 2 0).bind fun E7 =>
  some E7)
set_option maxHeartbeats 4000000 in
set_option maxRecDepth 100000 in
theorem c_Row_remove {l : Launch} {D : va_G} {kA : Nat → ClassId} {S : hE} {g : Nat → Nat} {n0 nx : Nat} {x0 : Nat} {E : hE} {res : hE} (hf : f_Row_remove x0 E = some res) : Met l y_Row_remove ws_Row_remove rm_Row_remove (va_Pc [va_rf (some x0)] (hJ D kA S g n0 (E, nx))) (va_Qv (fun w => w = (res, nx)) (hJ D kA S g n0) (fun q => n0 ≤ q)) 0 0 (fun q => n0 ≤ q) := by
  refine h_met (cc := prog_6_method_5_code) (maxL := 1) (ret := none) (lvs := [(0, va_rf (some x0))]) zZ_k (by decide) rfl (by simp [lg_sl, va_rf_cat, cat_i, cat_l, cat_n]) (by simp [lv_args, va_rf_cat, cat_i, cat_l, cat_n]) ?_
  intro p e s m below meth c ls C M hr hlk hnm hl
  unfold f_Row_remove at hf
  refine w_aload_n C.x C.b dRow_remove_0 rfl (lv_at hl 0 rfl) ?_
  refine lv_iconst (v := 0) C.x C.b dRow_remove_1 (by decide) ?_
  obtain ⟨E2, h2, hf⟩ := Option.bind_eq_some_iff.mp hf
  refine w_putV (ty := .int) C M ty_Row h2 rfl (hm_in in_Row) tyok_Row nm_Row (by decide) (List.mem_cons_of_mem _ wm_45) rfl rfl (by decide +kernel) rfl rfl dRow_remove_2 (fun H locs M => ?_)
  refine w_aload_n C.x C.b dRow_remove_5 rfl (lv_at hl 0 rfl) ?_
  refine lv_iconst (v := 0) C.x C.b dRow_remove_6 (by decide) ?_
  obtain ⟨E7, h7, hf⟩ := Option.bind_eq_some_iff.mp hf
  refine w_putV (ty := .boolean) C M ty_Row (sZ_some h7).2 rfl (hm_in in_Row) tyok_Row nm_Row (by decide) (List.mem_cons_of_mem _ wm_48) rfl rfl (by decide +kernel) (narrow_z (sZ_some h7).1) (fits_z (sZ_some h7).1) dRow_remove_7 (fun H locs M => ?_)
  cases hf
  exact w_vret C M hr hlk (Nat.le_refl _) (Nat.le_refl _) dRow_remove_10 rfl
theorem dS_clear_0 : decode prog_1_method_5_code 0 = .ok (.aload_n 0, 1) := by decide +kernel
theorem dS_clear_1 : decode prog_1_method_5_code 1 = .ok (.getfield 19, 3) := by decide +kernel
theorem dS_clear_4 : decode prog_1_method_5_code 4 = .ok (.iload_n 1, 1) := by decide +kernel
theorem dS_clear_5 : decode prog_1_method_5_code 5 = .ok (.invokevirtual 58, 3) := by decide +kernel
theorem dS_clear_8 : decode prog_1_method_5_code 8 = .ok (.astore_n 3, 1) := by decide +kernel
theorem dS_clear_9 : decode prog_1_method_5_code 9 = .ok (.aload_n 3, 1) := by decide +kernel
theorem dS_clear_10 : decode prog_1_method_5_code 10 = .ok (.ifnonnull 5, 3) := by decide +kernel
theorem dS_clear_13 : decode prog_1_method_5_code 13 = .ok (.iconst 0, 1) := by decide +kernel
theorem dS_clear_14 : decode prog_1_method_5_code 14 = .ok (.ireturn, 1) := by decide +kernel
theorem dS_clear_15 : decode prog_1_method_5_code 15 = .ok (.iload_n 2, 1) := by decide +kernel
theorem dS_clear_16 : decode prog_1_method_5_code 16 = .ok (.ifCond .eq 10, 3) := by decide +kernel
theorem dS_clear_19 : decode prog_1_method_5_code 19 = .ok (.aload_n 3, 1) := by decide +kernel
theorem dS_clear_20 : decode prog_1_method_5_code 20 = .ok (.invokevirtual 44, 3) := by decide +kernel
theorem dS_clear_23 : decode prog_1_method_5_code 23 = .ok (.goto 7, 3) := by decide +kernel
theorem dS_clear_26 : decode prog_1_method_5_code 26 = .ok (.aload_n 3, 1) := by decide +kernel
theorem dS_clear_27 : decode prog_1_method_5_code 27 = .ok (.invokevirtual 62, 3) := by decide +kernel
theorem dS_clear_30 : decode prog_1_method_5_code 30 = .ok (.iconst 1, 1) := by decide +kernel
theorem dS_clear_31 : decode prog_1_method_5_code 31 = .ok (.ireturn, 1) := by decide +kernel
abbrev rm_S_clear : Room := { frames := 1, cells := 0, slots := 0, locals := 21 }
def f_S_clear_b30  (E : hE) : Option (Int32 × hE) := (
  some (1, E))
set_option maxHeartbeats 4000000 in
set_option maxRecDepth 100000 in
theorem b_S_clear_30 {p : Program} {l : Launch} {e : Env} {s : State} {m : MethodId} {args : Array Value} {below : List Frame} {meth : Method} {c : Code} {D : va_G} {kA : Nat → ClassId} {S : hE} {g : Nat → Nat} {n0 nx : Nat} {res : Int32 × hE} (C : hX p s m args c prog_1_method_5_code 4 R_S ws_S_clear D kA S g n0) (hr : meth.sig.returnType = (some .boolean)) (hlk : meth.locks = false) (hnm : meth.name = "clear") : ∀  (E : hE) (H : Heap) (locs : List Loc) (ls : Array Slot), hY D kA n0 s E nx H locs → lv_has ls 4 [] → f_S_clear_b30  E = some res → W p l e rm_S_clear s m args below meth c H locs 0 0 (MQ below (va_Qi (fun r w => r = res.1 ∧ w = (res.2, nx)) (hJ D kA S g n0) (fun q => n0 ≤ q)) args s 0 0 (fun q => n0 ≤ q)) (F0 m 30 ls []) := by
  intro E H locs ls M hl hf
  unfold f_S_clear_b30 at hf
  refine lv_iconst (v := 1) C.x C.b dS_clear_30 (by decide) ?_
  cases hf
  exact w_iret C M hr hlk rfl (Nat.le_refl _) (Nat.le_refl _) dS_clear_31 rfl rfl
def f_S_clear  (x0 : Nat) (x1 : Int32) (x2 : Int32) (E : hE) : Option (Int32 × hE) := (
  (gR E (some x0) 6 1).bind fun v1 =>
  (gO E v1 2).bind fun o5 =>
  (f_Mach_fileAt E o5.1 x1).bind fun v5 =>
  if v5 = none then (
  some (0, E)
  ) else (
  if x2 = 0 then (
  (gO E v5 0).bind fun o27 =>
  (f_Row_remove o27.1 E).bind fun v27 =>
  f_S_clear_b30 v27
  ) else (
  (gO E v5 0).bind fun o20 =>
  (f_Row_makeEmpty o20.1 E).bind fun v20 =>
  f_S_clear_b30 v20
  )
  ))
set_option maxHeartbeats 4000000 in
set_option maxRecDepth 100000 in
theorem c_S_clear {l : Launch} {D : va_G} {kA : Nat → ClassId} {S : hE} {g : Nat → Nat} {n0 nx : Nat} {x0 : Nat} {x1 : Int32} {x2 : Int32} {E : hE} {res : Int32 × hE} (hf : f_S_clear x0 x1 x2 E = some res) : Met l y_S_clear ws_S_clear rm_S_clear (va_Pc [va_rf (some x0), .int x1, .int x2] (hJ D kA S g n0 (E, nx))) (va_Qi (fun r w => r = res.1 ∧ w = (res.2, nx)) (hJ D kA S g n0) (fun q => n0 ≤ q)) 0 0 (fun q => n0 ≤ q) := by
  refine h_met (cc := prog_1_method_5_code) (maxL := 4) (ret := (some .boolean)) (lvs := [(0, va_rf (some x0)), (1, .int x1), (2, .int x2)]) zZ_k (by decide) rfl (by simp [lg_sl, va_rf_cat, cat_i, cat_l, cat_n]) (by simp [lv_args, va_rf_cat, cat_i, cat_l, cat_n]) ?_
  intro p e s m below meth c ls C M hr hlk hnm hl
  unfold f_S_clear at hf
  refine w_aload_n C.x C.b dS_clear_0 rfl (lv_at hl 0 rfl) ?_
  obtain ⟨v1, h1, hf⟩ := Option.bind_eq_some_iff.mp hf
  refine w_getR C M h1 rfl (hm_in in_S) (by decide) (List.mem_cons_of_mem _ wm_184) rfl dS_clear_1 ?_
  refine lv_iload_n C.x C.b dS_clear_4 rfl (lv_at hl 1 rfl) ?_
  obtain ⟨o5, g5, hf⟩ := Option.bind_eq_some_iff.mp hf
  obtain ⟨v5, h5, hf⟩ := Option.bind_eq_some_iff.mp hf
  refine w_cq M (w_runV C M g5 rfl (c_Mach_fileAt h5) (cwV 1 C.ts (hgV wm_554 wm_555 wm_556 wm_4 wm_557) rfl rfl rfl (by decide +kernel) ⟨Nat.le_of_ble_eq_true rfl, Nat.le_of_ble_eq_true rfl⟩) rfl hl.1 rfl (Nat.zero_le _) dS_clear_5 ⟨Nat.le_refl _, Nat.le_refl _⟩) (fun H locs M => ?_)
  refine w_astore_n (lv' := [(3, va_rf v5), (0, va_rf (some x0)), (1, .int x1), (2, .int x2)]) C.x C.b dS_clear_8 rfl hl (by decide) rfl (fun ls hl => ?_)
  refine w_aload_n C.x C.b dS_clear_9 rfl (lv_at hl 0 rfl) ?_
  refine w_ifnonnull (tgt := 15) C.x C.b dS_clear_10 (by decide) (fun c10 => ?_) (fun c10 => ?_)
  · rw [if_neg c10] at hf
    refine lv_iload_n C.x C.b dS_clear_15 rfl (lv_at hl 3 rfl) ?_
    refine lv_if_eq (tgt := 26) C.x C.b dS_clear_16 (by decide) (fun c16 => ?_) (fun c16 => ?_)
    · rw [if_pos c16] at hf
      refine w_aload_n C.x C.b dS_clear_26 rfl (lv_at hl 0 rfl) ?_
      obtain ⟨o27, g27, hf⟩ := Option.bind_eq_some_iff.mp hf
      obtain ⟨v27, h27, hf⟩ := Option.bind_eq_some_iff.mp hf
      refine w_cv M (w_runV C M g27 rfl (c_Row_remove h27) (cwV 0 C.ts (hgV wm_562 wm_563 wm_564 wm_3 wm_565) rfl rfl rfl (by decide +kernel) ⟨Nat.le_of_ble_eq_true rfl, Nat.le_of_ble_eq_true rfl⟩) rfl hl.1 rfl (Nat.zero_le _) dS_clear_27 ⟨Nat.le_refl _, Nat.le_refl _⟩) (fun H locs M => ?_)
      exact b_S_clear_30 C hr hlk hnm _ _ _ _ M (lv_sub hl [] rfl) hf
    · rw [if_neg c16] at hf
      refine w_aload_n C.x C.b dS_clear_19 rfl (lv_at hl 0 rfl) ?_
      obtain ⟨o20, g20, hf⟩ := Option.bind_eq_some_iff.mp hf
      obtain ⟨v20, h20, hf⟩ := Option.bind_eq_some_iff.mp hf
      refine w_cv M (w_runV C M g20 rfl (c_Row_makeEmpty h20) (cwV 0 C.ts (hgV wm_212 wm_213 wm_214 wm_3 wm_215) rfl rfl rfl (by decide +kernel) ⟨Nat.le_of_ble_eq_true rfl, Nat.le_of_ble_eq_true rfl⟩) rfl hl.1 rfl (Nat.zero_le _) dS_clear_20 ⟨Nat.le_refl _, Nat.le_refl _⟩) (fun H locs M => ?_)
      refine lv_goto (tgt := 30) C.x C.b dS_clear_23 (by decide) ?_
      exact b_S_clear_30 C hr hlk hnm _ _ _ _ M (lv_sub hl [] rfl) hf
  · rw [if_pos c10] at hf
    refine lv_iconst (v := 0) C.x C.b dS_clear_13 (by decide) ?_
    cases hf
    exact w_iret C M hr hlk rfl (Nat.le_refl _) (Nat.le_refl _) dS_clear_14 rfl rfl
theorem dS_plant_0 : decode prog_1_method_6_code 0 = .ok (.iload_n 1, 1) := by decide +kernel
theorem dS_plant_1 : decode prog_1_method_6_code 1 = .ok (.ifCond .lt 8, 3) := by decide +kernel
theorem dS_plant_4 : decode prog_1_method_6_code 4 = .ok (.iload_n 1, 1) := by decide +kernel
theorem dS_plant_5 : decode prog_1_method_6_code 5 = .ok (.iconst 3, 1) := by decide +kernel
theorem dS_plant_6 : decode prog_1_method_6_code 6 = .ok (.if_icmp .lt 5, 3) := by decide +kernel
theorem dS_plant_9 : decode prog_1_method_6_code 9 = .ok (.iconst 0, 1) := by decide +kernel
theorem dS_plant_10 : decode prog_1_method_6_code 10 = .ok (.ireturn, 1) := by decide +kernel
theorem dS_plant_11 : decode prog_1_method_6_code 11 = .ok (.aload_n 0, 1) := by decide +kernel
theorem dS_plant_12 : decode prog_1_method_6_code 12 = .ok (.getfield 19, 3) := by decide +kernel
theorem dS_plant_15 : decode prog_1_method_6_code 15 = .ok (.getfield 65, 3) := by decide +kernel
theorem dS_plant_18 : decode prog_1_method_6_code 18 = .ok (.iload_n 1, 1) := by decide +kernel
theorem dS_plant_19 : decode prog_1_method_6_code 19 = .ok (.iload_n 2, 1) := by decide +kernel
theorem dS_plant_20 : decode prog_1_method_6_code 20 = .ok (.bastore, 1) := by decide +kernel
theorem dS_plant_21 : decode prog_1_method_6_code 21 = .ok (.iconst 1, 1) := by decide +kernel
theorem dS_plant_22 : decode prog_1_method_6_code 22 = .ok (.ireturn, 1) := by decide +kernel
abbrev rm_S_plant : Room := { frames := 0, cells := 0, slots := 0, locals := 0 }
def f_S_plant_b9  (E : hE) : Option (Int32 × hE) := (
  some (0, E))
set_option maxHeartbeats 4000000 in
set_option maxRecDepth 100000 in
theorem b_S_plant_9 {p : Program} {l : Launch} {e : Env} {s : State} {m : MethodId} {args : Array Value} {below : List Frame} {meth : Method} {c : Code} {D : va_G} {kA : Nat → ClassId} {S : hE} {g : Nat → Nat} {n0 nx : Nat} {res : Int32 × hE} (C : hX p s m args c prog_1_method_6_code 3 R_S ws_S_plant D kA S g n0) (hr : meth.sig.returnType = (some .boolean)) (hlk : meth.locks = false) (hnm : meth.name = "plant") : ∀  (E : hE) (H : Heap) (locs : List Loc) (ls : Array Slot), hY D kA n0 s E nx H locs → lv_has ls 3 [] → f_S_plant_b9  E = some res → W p l e rm_S_plant s m args below meth c H locs 0 0 (MQ below (va_Qi (fun r w => r = res.1 ∧ w = (res.2, nx)) (hJ D kA S g n0) (fun q => n0 ≤ q)) args s 0 0 (fun q => n0 ≤ q)) (F0 m 9 ls []) := by
  intro E H locs ls M hl hf
  unfold f_S_plant_b9 at hf
  refine lv_iconst (v := 0) C.x C.b dS_plant_9 (by decide) ?_
  cases hf
  exact w_iret C M hr hlk rfl (Nat.le_refl _) (Nat.le_refl _) dS_plant_10 rfl rfl
def f_S_plant  (x0 : Nat) (x1 : Int32) (x2 : Int32) (E : hE) : Option (Int32 × hE) := (
  if x1 < 0 then (
  f_S_plant_b9 E
  ) else (
  if x1 < 3 then (
  (gR E (some x0) 6 1).bind fun v12 =>
  (gR E v12 2 1).bind fun v15 =>
  (tZ E v15 1 x1 x2).bind fun E20 =>
  some (1, E20)
  ) else (
  f_S_plant_b9 E
  )
  ))
set_option maxHeartbeats 4000000 in
set_option maxRecDepth 100000 in
theorem c_S_plant {l : Launch} {D : va_G} {kA : Nat → ClassId} {S : hE} {g : Nat → Nat} {n0 nx : Nat} {x0 : Nat} {x1 : Int32} {x2 : Int32} {E : hE} {res : Int32 × hE} (hf : f_S_plant x0 x1 x2 E = some res) : Met l y_S_plant ws_S_plant rm_S_plant (va_Pc [va_rf (some x0), .int x1, .int x2] (hJ D kA S g n0 (E, nx))) (va_Qi (fun r w => r = res.1 ∧ w = (res.2, nx)) (hJ D kA S g n0) (fun q => n0 ≤ q)) 0 0 (fun q => n0 ≤ q) := by
  refine h_met (cc := prog_1_method_6_code) (maxL := 3) (ret := (some .boolean)) (lvs := [(0, va_rf (some x0)), (1, .int x1), (2, .int x2)]) zZ_k (by decide) rfl (by simp [lg_sl, va_rf_cat, cat_i, cat_l, cat_n]) (by simp [lv_args, va_rf_cat, cat_i, cat_l, cat_n]) ?_
  intro p e s m below meth c ls C M hr hlk hnm hl
  unfold f_S_plant at hf
  refine lv_iload_n C.x C.b dS_plant_0 rfl (lv_at hl 1 rfl) ?_
  refine lv_if_lt (tgt := 9) C.x C.b dS_plant_1 (by decide) (fun c1 => ?_) (fun c1 => ?_)
  · rw [if_pos c1] at hf
    exact b_S_plant_9 C hr hlk hnm _ _ _ _ M (lv_sub hl [] rfl) hf
  · rw [if_neg c1] at hf
    refine lv_iload_n C.x C.b dS_plant_4 rfl (lv_at hl 1 rfl) ?_
    refine lv_iconst (v := 3) C.x C.b dS_plant_5 (by decide) ?_
    refine lv_icmp_lt (tgt := 11) C.x C.b dS_plant_6 (by decide) (fun c6 => ?_) (fun c6 => ?_)
    · rw [if_pos c6] at hf
      refine w_aload_n C.x C.b dS_plant_11 rfl (lv_at hl 0 rfl) ?_
      obtain ⟨v12, h12, hf⟩ := Option.bind_eq_some_iff.mp hf
      refine w_getR C M h12 rfl (hm_in in_S) (by decide) (List.mem_cons_of_mem _ wm_184) rfl dS_plant_12 ?_
      obtain ⟨v15, h15, hf⟩ := Option.bind_eq_some_iff.mp hf
      refine w_getR C M h15 rfl (hm_in in_Mach) (by decide) (List.mem_cons_of_mem _ wm_137) rfl dS_plant_15 ?_
      refine lv_iload_n C.x C.b dS_plant_18 rfl (lv_at hl 1 rfl) ?_
      refine lv_iload_n C.x C.b dS_plant_19 rfl (lv_at hl 2 rfl) ?_
      obtain ⟨E20, h20, hf⟩ := Option.bind_eq_some_iff.mp hf
      refine w_zast C M h20 rfl dS_plant_20 (fun H locs M => ?_)
      refine lv_iconst (v := 1) C.x C.b dS_plant_21 (by decide) ?_
      cases hf
      exact w_iret C M hr hlk rfl (Nat.le_refl _) (Nat.le_refl _) dS_plant_22 rfl rfl
    · rw [if_neg c6] at hf
      exact b_S_plant_9 C hr hlk hnm _ _ _ _ M (lv_sub hl [] rfl) hf
theorem dS_about_0 : decode prog_1_method_8_code 0 = .ok (.aload_n 0, 1) := by decide +kernel
theorem dS_about_1 : decode prog_1_method_8_code 1 = .ok (.getfield 19, 3) := by decide +kernel
theorem dS_about_4 : decode prog_1_method_8_code 4 = .ok (.getfield 77, 3) := by decide +kernel
theorem dS_about_7 : decode prog_1_method_8_code 7 = .ok (.ifCond .ne 5, 3) := by decide +kernel
theorem dS_about_10 : decode prog_1_method_8_code 10 = .ok (.iconst (-1), 1) := by decide +kernel
theorem dS_about_11 : decode prog_1_method_8_code 11 = .ok (.ireturn, 1) := by decide +kernel
theorem dS_about_12 : decode prog_1_method_8_code 12 = .ok (.iload_n 1, 1) := by decide +kernel
theorem dS_about_13 : decode prog_1_method_8_code 13 = .ok (.tableswitch 96 0 5 #[39, 47, 58, 69, 77, 88], 39) := by decide +kernel
theorem dS_about_52 : decode prog_1_method_8_code 52 = .ok (.aload_n 0, 1) := by decide +kernel
theorem dS_about_53 : decode prog_1_method_8_code 53 = .ok (.getfield 19, 3) := by decide +kernel
theorem dS_about_56 : decode prog_1_method_8_code 56 = .ok (.getfield 81, 3) := by decide +kernel
theorem dS_about_59 : decode prog_1_method_8_code 59 = .ok (.ireturn, 1) := by decide +kernel
theorem dS_about_60 : decode prog_1_method_8_code 60 = .ok (.aload_n 0, 1) := by decide +kernel
theorem dS_about_61 : decode prog_1_method_8_code 61 = .ok (.getfield 19, 3) := by decide +kernel
theorem dS_about_64 : decode prog_1_method_8_code 64 = .ok (.getfield 85, 3) := by decide +kernel
theorem dS_about_67 : decode prog_1_method_8_code 67 = .ok (.getfield 88, 3) := by decide +kernel
theorem dS_about_70 : decode prog_1_method_8_code 70 = .ok (.ireturn, 1) := by decide +kernel
theorem dS_about_71 : decode prog_1_method_8_code 71 = .ok (.aload_n 0, 1) := by decide +kernel
theorem dS_about_72 : decode prog_1_method_8_code 72 = .ok (.getfield 19, 3) := by decide +kernel
theorem dS_about_75 : decode prog_1_method_8_code 75 = .ok (.getfield 91, 3) := by decide +kernel
theorem dS_about_78 : decode prog_1_method_8_code 78 = .ok (.getfield 88, 3) := by decide +kernel
theorem dS_about_81 : decode prog_1_method_8_code 81 = .ok (.ireturn, 1) := by decide +kernel
theorem dS_about_82 : decode prog_1_method_8_code 82 = .ok (.aload_n 0, 1) := by decide +kernel
theorem dS_about_83 : decode prog_1_method_8_code 83 = .ok (.getfield 19, 3) := by decide +kernel
theorem dS_about_86 : decode prog_1_method_8_code 86 = .ok (.getfield 94, 3) := by decide +kernel
theorem dS_about_89 : decode prog_1_method_8_code 89 = .ok (.ireturn, 1) := by decide +kernel
theorem dS_about_90 : decode prog_1_method_8_code 90 = .ok (.aload_n 0, 1) := by decide +kernel
theorem dS_about_91 : decode prog_1_method_8_code 91 = .ok (.getfield 19, 3) := by decide +kernel
theorem dS_about_94 : decode prog_1_method_8_code 94 = .ok (.getfield 97, 3) := by decide +kernel
theorem dS_about_97 : decode prog_1_method_8_code 97 = .ok (.getfield 101, 3) := by decide +kernel
theorem dS_about_100 : decode prog_1_method_8_code 100 = .ok (.ireturn, 1) := by decide +kernel
theorem dS_about_101 : decode prog_1_method_8_code 101 = .ok (.aload_n 0, 1) := by decide +kernel
theorem dS_about_102 : decode prog_1_method_8_code 102 = .ok (.getfield 19, 3) := by decide +kernel
theorem dS_about_105 : decode prog_1_method_8_code 105 = .ok (.getfield 106, 3) := by decide +kernel
theorem dS_about_108 : decode prog_1_method_8_code 108 = .ok (.ireturn, 1) := by decide +kernel
theorem dS_about_109 : decode prog_1_method_8_code 109 = .ok (.iconst (-1), 1) := by decide +kernel
theorem dS_about_110 : decode prog_1_method_8_code 110 = .ok (.ireturn, 1) := by decide +kernel
abbrev rm_S_about : Room := { frames := 0, cells := 0, slots := 0, locals := 0 }
def f_S_about (E : hE) (x0 : Nat) (x1 : Int32) : Option (Int32) := (
  (gR E (some x0) 6 1).bind fun v1 =>
  (gI E v1 2 7).bind fun v4 =>
  if v4 = 0 then (
  some (-1)
  ) else (
  if x1 = 0 then (
  (gR E (some x0) 6 1).bind fun v53 =>
  (gI E v53 2 8).bind fun v56 =>
  some v56
  ) else (
  if x1 = 1 then (
  (gR E (some x0) 6 1).bind fun v61 =>
  (gR E v61 2 2).bind fun v64 =>
  (gI E v64 0 1).bind fun v67 =>
  some v67
  ) else (
  if x1 = 2 then (
  (gR E (some x0) 6 1).bind fun v72 =>
  (gR E v72 2 3).bind fun v75 =>
  (gI E v75 0 1).bind fun v78 =>
  some v78
  ) else (
  if x1 = 3 then (
  (gR E (some x0) 6 1).bind fun v83 =>
  (gI E v83 2 9).bind fun v86 =>
  some v86
  ) else (
  if x1 = 4 then (
  (gR E (some x0) 6 1).bind fun v91 =>
  (gR E v91 2 4).bind fun v94 =>
  (gI E v94 1 6).bind fun v97 =>
  some v97
  ) else (
  if x1 = 5 then (
  (gR E (some x0) 6 1).bind fun v102 =>
  (gI E v102 2 10).bind fun v105 =>
  some v105
  ) else (
  some (-1)
  ))))))
  ))
set_option maxHeartbeats 4000000 in
set_option maxRecDepth 100000 in
theorem c_S_about {l : Launch} {D : va_G} {kA : Nat → ClassId} {S : hE} {g : Nat → Nat} {n0 nx : Nat} {x0 : Nat} {x1 : Int32} {E : hE} {res : Int32} (hf : f_S_about E x0 x1 = some res) : Met l y_S_about ws_S_about rm_S_about (va_Pc [va_rf (some x0), .int x1] (hJ D kA S g n0 (E, nx))) (va_Qi (fun r w => r = res ∧ w = (E, nx)) (hJ D kA S g n0) (fun q => n0 ≤ q)) 0 0 (fun q => n0 ≤ q) := by
  refine h_met (cc := prog_1_method_8_code) (maxL := 2) (ret := (some .int)) (lvs := [(0, va_rf (some x0)), (1, .int x1)]) zZ_k (by decide) rfl (by simp [lg_sl, va_rf_cat, cat_i, cat_l, cat_n]) (by simp [lv_args, va_rf_cat, cat_i, cat_l, cat_n]) ?_
  intro p e s m below meth c ls C M hr hlk hnm hl
  unfold f_S_about at hf
  refine w_aload_n C.x C.b dS_about_0 rfl (lv_at hl 0 rfl) ?_
  obtain ⟨v1, h1, hf⟩ := Option.bind_eq_some_iff.mp hf
  refine w_getR C M h1 rfl (hm_in in_S) (by decide) (List.mem_cons_of_mem _ wm_184) rfl dS_about_1 ?_
  obtain ⟨v4, h4, hf⟩ := Option.bind_eq_some_iff.mp hf
  refine w_getI C M h4 rfl (hm_in in_Mach) (by decide) (List.mem_cons_of_mem _ wm_147) rfl dS_about_4 ?_
  refine lv_if_ne (tgt := 12) C.x C.b dS_about_7 (by decide) (fun c7 => ?_) (fun c7 => ?_)
  · rw [if_neg c7] at hf
    refine lv_iload_n C.x C.b dS_about_12 rfl (lv_at hl 1 rfl) ?_
    by_cases c13_0 : x1 = 0
    · rw [if_pos c13_0] at hf
      refine lv_tableIn (tgt := 52) C.x C.b dS_about_13 (by rw [c13_0]; decide) (by rw [c13_0]; decide) (by rw [c13_0]; rfl) (by decide) ?_
      refine w_aload_n C.x C.b dS_about_52 rfl (lv_at hl 0 rfl) ?_
      obtain ⟨v53, h53, hf⟩ := Option.bind_eq_some_iff.mp hf
      refine w_getR C M h53 rfl (hm_in in_S) (by decide) (List.mem_cons_of_mem _ wm_184) rfl dS_about_53 ?_
      obtain ⟨v56, h56, hf⟩ := Option.bind_eq_some_iff.mp hf
      refine w_getI C M h56 rfl (hm_in in_Mach) (by decide) (List.mem_cons_of_mem _ wm_149) rfl dS_about_56 ?_
      cases hf
      exact w_iret C M hr hlk rfl (Nat.le_refl _) (Nat.le_refl _) dS_about_59 rfl rfl
    · rw [if_neg c13_0] at hf
      by_cases c13_1 : x1 = 1
      · rw [if_pos c13_1] at hf
        refine lv_tableIn (tgt := 60) C.x C.b dS_about_13 (by rw [c13_1]; decide) (by rw [c13_1]; decide) (by rw [c13_1]; rfl) (by decide) ?_
        refine w_aload_n C.x C.b dS_about_60 rfl (lv_at hl 0 rfl) ?_
        obtain ⟨v61, h61, hf⟩ := Option.bind_eq_some_iff.mp hf
        refine w_getR C M h61 rfl (hm_in in_S) (by decide) (List.mem_cons_of_mem _ wm_184) rfl dS_about_61 ?_
        obtain ⟨v64, h64, hf⟩ := Option.bind_eq_some_iff.mp hf
        refine w_getR C M h64 rfl (hm_in in_Mach) (by decide) (List.mem_cons_of_mem _ wm_139) rfl dS_about_64 ?_
        obtain ⟨v67, h67, hf⟩ := Option.bind_eq_some_iff.mp hf
        refine w_getI C M h67 rfl (hm_in in_Row) (by decide) (List.mem_cons_of_mem _ wm_47) rfl dS_about_67 ?_
        cases hf
        exact w_iret C M hr hlk rfl (Nat.le_refl _) (Nat.le_refl _) dS_about_70 rfl rfl
      · rw [if_neg c13_1] at hf
        by_cases c13_2 : x1 = 2
        · rw [if_pos c13_2] at hf
          refine lv_tableIn (tgt := 71) C.x C.b dS_about_13 (by rw [c13_2]; decide) (by rw [c13_2]; decide) (by rw [c13_2]; rfl) (by decide) ?_
          refine w_aload_n C.x C.b dS_about_71 rfl (lv_at hl 0 rfl) ?_
          obtain ⟨v72, h72, hf⟩ := Option.bind_eq_some_iff.mp hf
          refine w_getR C M h72 rfl (hm_in in_S) (by decide) (List.mem_cons_of_mem _ wm_184) rfl dS_about_72 ?_
          obtain ⟨v75, h75, hf⟩ := Option.bind_eq_some_iff.mp hf
          refine w_getR C M h75 rfl (hm_in in_Mach) (by decide) (List.mem_cons_of_mem _ wm_141) rfl dS_about_75 ?_
          obtain ⟨v78, h78, hf⟩ := Option.bind_eq_some_iff.mp hf
          refine w_getI C M h78 rfl (hm_in in_Row) (by decide) (List.mem_cons_of_mem _ wm_47) rfl dS_about_78 ?_
          cases hf
          exact w_iret C M hr hlk rfl (Nat.le_refl _) (Nat.le_refl _) dS_about_81 rfl rfl
        · rw [if_neg c13_2] at hf
          by_cases c13_3 : x1 = 3
          · rw [if_pos c13_3] at hf
            refine lv_tableIn (tgt := 82) C.x C.b dS_about_13 (by rw [c13_3]; decide) (by rw [c13_3]; decide) (by rw [c13_3]; rfl) (by decide) ?_
            refine w_aload_n C.x C.b dS_about_82 rfl (lv_at hl 0 rfl) ?_
            obtain ⟨v83, h83, hf⟩ := Option.bind_eq_some_iff.mp hf
            refine w_getR C M h83 rfl (hm_in in_S) (by decide) (List.mem_cons_of_mem _ wm_184) rfl dS_about_83 ?_
            obtain ⟨v86, h86, hf⟩ := Option.bind_eq_some_iff.mp hf
            refine w_getI C M h86 rfl (hm_in in_Mach) (by decide) (List.mem_cons_of_mem _ wm_151) rfl dS_about_86 ?_
            cases hf
            exact w_iret C M hr hlk rfl (Nat.le_refl _) (Nat.le_refl _) dS_about_89 rfl rfl
          · rw [if_neg c13_3] at hf
            by_cases c13_4 : x1 = 4
            · rw [if_pos c13_4] at hf
              refine lv_tableIn (tgt := 90) C.x C.b dS_about_13 (by rw [c13_4]; decide) (by rw [c13_4]; decide) (by rw [c13_4]; rfl) (by decide) ?_
              refine w_aload_n C.x C.b dS_about_90 rfl (lv_at hl 0 rfl) ?_
              obtain ⟨v91, h91, hf⟩ := Option.bind_eq_some_iff.mp hf
              refine w_getR C M h91 rfl (hm_in in_S) (by decide) (List.mem_cons_of_mem _ wm_184) rfl dS_about_91 ?_
              obtain ⟨v94, h94, hf⟩ := Option.bind_eq_some_iff.mp hf
              refine w_getR C M h94 rfl (hm_in in_Mach) (by decide) (List.mem_cons_of_mem _ wm_143) rfl dS_about_94 ?_
              obtain ⟨v97, h97, hf⟩ := Option.bind_eq_some_iff.mp hf
              refine w_getI C M h97 rfl (hm_in in_Frame) (by decide) (List.mem_cons_of_mem _ wm_115) rfl dS_about_97 ?_
              cases hf
              exact w_iret C M hr hlk rfl (Nat.le_refl _) (Nat.le_refl _) dS_about_100 rfl rfl
            · rw [if_neg c13_4] at hf
              by_cases c13_5 : x1 = 5
              · rw [if_pos c13_5] at hf
                refine lv_tableIn (tgt := 101) C.x C.b dS_about_13 (by rw [c13_5]; decide) (by rw [c13_5]; decide) (by rw [c13_5]; rfl) (by decide) ?_
                refine w_aload_n C.x C.b dS_about_101 rfl (lv_at hl 0 rfl) ?_
                obtain ⟨v102, h102, hf⟩ := Option.bind_eq_some_iff.mp hf
                refine w_getR C M h102 rfl (hm_in in_S) (by decide) (List.mem_cons_of_mem _ wm_184) rfl dS_about_102 ?_
                obtain ⟨v105, h105, hf⟩ := Option.bind_eq_some_iff.mp hf
                refine w_getI C M h105 rfl (hm_in in_Mach) (by decide) (List.mem_cons_of_mem _ wm_153) rfl dS_about_105 ?_
                cases hf
                exact w_iret C M hr hlk rfl (Nat.le_refl _) (Nat.le_refl _) dS_about_108 rfl rfl
              · rw [if_neg c13_5] at hf
                have z13_0 := lv_neT c13_0 (a := 0) (by decide)
                have z13_1 := lv_neT c13_1 (a := 1) (by decide)
                have z13_2 := lv_neT c13_2 (a := 2) (by decide)
                have z13_3 := lv_neT c13_3 (a := 3) (by decide)
                have z13_4 := lv_neT c13_4 (a := 4) (by decide)
                have z13_5 := lv_neT c13_5 (a := 5) (by decide)
                refine lv_tableOut (tgt := 109) C.x C.b dS_about_13 (by omega) (by decide) ?_
                refine lv_iconst (v := (-1)) C.x C.b dS_about_109 (by decide) ?_
                cases hf
                exact w_iret C M hr hlk rfl (Nat.le_refl _) (Nat.le_refl _) dS_about_110 rfl rfl
  · rw [if_pos c7] at hf
    refine lv_iconst (v := (-1)) C.x C.b dS_about_10 (by decide) ?_
    cases hf
    exact w_iret C M hr hlk rfl (Nat.le_refl _) (Nat.le_refl _) dS_about_11 rfl rfl
theorem dRow_at_0 : decode prog_6_method_7_code 0 = .ok (.iload_n 1, 1) := by decide +kernel
theorem dRow_at_1 : decode prog_6_method_7_code 1 = .ok (.ifCond .lt 20, 3) := by decide +kernel
theorem dRow_at_4 : decode prog_6_method_7_code 4 = .ok (.iload_n 1, 1) := by decide +kernel
theorem dRow_at_5 : decode prog_6_method_7_code 5 = .ok (.aload_n 0, 1) := by decide +kernel
theorem dRow_at_6 : decode prog_6_method_7_code 6 = .ok (.getfield 15, 3) := by decide +kernel
theorem dRow_at_9 : decode prog_6_method_7_code 9 = .ok (.if_icmp .ge 12, 3) := by decide +kernel
theorem dRow_at_12 : decode prog_6_method_7_code 12 = .ok (.aload_n 0, 1) := by decide +kernel
theorem dRow_at_13 : decode prog_6_method_7_code 13 = .ok (.getfield 9, 3) := by decide +kernel
theorem dRow_at_16 : decode prog_6_method_7_code 16 = .ok (.iload_n 1, 1) := by decide +kernel
theorem dRow_at_17 : decode prog_6_method_7_code 17 = .ok (.iaload, 1) := by decide +kernel
theorem dRow_at_18 : decode prog_6_method_7_code 18 = .ok (.goto 4, 3) := by decide +kernel
theorem dRow_at_21 : decode prog_6_method_7_code 21 = .ok (.iconst (-1), 1) := by decide +kernel
theorem dRow_at_22 : decode prog_6_method_7_code 22 = .ok (.ireturn, 1) := by decide +kernel
abbrev rm_Row_at : Room := { frames := 0, cells := 0, slots := 0, locals := 0 }
def f_Row_at_b22 (E : hE) (t0 : Int32) : Option (Int32) := (
  some t0)
set_option maxHeartbeats 4000000 in
set_option maxRecDepth 100000 in
theorem b_Row_at_22 {p : Program} {l : Launch} {e : Env} {s : State} {m : MethodId} {args : Array Value} {below : List Frame} {meth : Method} {c : Code} {D : va_G} {kA : Nat → ClassId} {S : hE} {g : Nat → Nat} {n0 nx : Nat} {E : hE} {res : Int32} (C : hX p s m args c prog_6_method_7_code 2 R_Row ws_Row_at D kA S g n0) (hr : meth.sig.returnType = (some .int)) (hlk : meth.locks = false) (hnm : meth.name = "at") : ∀ (t0 : Int32) (H : Heap) (locs : List Loc) (ls : Array Slot), hY D kA n0 s E nx H locs → lv_has ls 2 [] → f_Row_at_b22 E  t0 = some res → W p l e rm_Row_at s m args below meth c H locs 0 0 (MQ below (va_Qi (fun r w => r = res ∧ w = (E, nx)) (hJ D kA S g n0) (fun q => n0 ≤ q)) args s 0 0 (fun q => n0 ≤ q)) (F0 m 22 ls [.int t0]) := by
  intro t0 H locs ls M hl hf
  unfold f_Row_at_b22 at hf
  cases hf
  exact w_iret C M hr hlk rfl (Nat.le_refl _) (Nat.le_refl _) dRow_at_22 rfl rfl
def f_Row_at_b21 (E : hE) : Option (Int32) := (
  f_Row_at_b22 E (-1))
set_option maxHeartbeats 4000000 in
set_option maxRecDepth 100000 in
theorem b_Row_at_21 {p : Program} {l : Launch} {e : Env} {s : State} {m : MethodId} {args : Array Value} {below : List Frame} {meth : Method} {c : Code} {D : va_G} {kA : Nat → ClassId} {S : hE} {g : Nat → Nat} {n0 nx : Nat} {E : hE} {res : Int32} (C : hX p s m args c prog_6_method_7_code 2 R_Row ws_Row_at D kA S g n0) (hr : meth.sig.returnType = (some .int)) (hlk : meth.locks = false) (hnm : meth.name = "at") : ∀  (H : Heap) (locs : List Loc) (ls : Array Slot), hY D kA n0 s E nx H locs → lv_has ls 2 [] → f_Row_at_b21 E   = some res → W p l e rm_Row_at s m args below meth c H locs 0 0 (MQ below (va_Qi (fun r w => r = res ∧ w = (E, nx)) (hJ D kA S g n0) (fun q => n0 ≤ q)) args s 0 0 (fun q => n0 ≤ q)) (F0 m 21 ls []) := by
  intro  H locs ls M hl hf
  unfold f_Row_at_b21 at hf
  refine lv_iconst (v := (-1)) C.x C.b dRow_at_21 (by decide) ?_
  exact b_Row_at_22 C hr hlk hnm _ _ _ _ M (lv_sub hl [] rfl) hf
def f_Row_at (E : hE) (x0 : Nat) (x1 : Int32) : Option (Int32) := (
  if x1 < 0 then (
  f_Row_at_b21 E 
  ) else (
  (gI E (some x0) 0 1).bind fun v6 =>
  if v6 ≤ x1 then (
  f_Row_at_b21 E 
  ) else (
  (gR E (some x0) 0 0).bind fun v13 =>
  (aI E v13 0 x1).bind fun v17 =>
  f_Row_at_b22 E v17
  )
  ))
set_option maxHeartbeats 4000000 in
set_option maxRecDepth 100000 in
theorem c_Row_at {l : Launch} {D : va_G} {kA : Nat → ClassId} {S : hE} {g : Nat → Nat} {n0 nx : Nat} {x0 : Nat} {x1 : Int32} {E : hE} {res : Int32} (hf : f_Row_at E x0 x1 = some res) : Met l y_Row_at ws_Row_at rm_Row_at (va_Pc [va_rf (some x0), .int x1] (hJ D kA S g n0 (E, nx))) (va_Qi (fun r w => r = res ∧ w = (E, nx)) (hJ D kA S g n0) (fun q => n0 ≤ q)) 0 0 (fun q => n0 ≤ q) := by
  refine h_met (cc := prog_6_method_7_code) (maxL := 2) (ret := (some .int)) (lvs := [(0, va_rf (some x0)), (1, .int x1)]) zZ_k (by decide) rfl (by simp [lg_sl, va_rf_cat, cat_i, cat_l, cat_n]) (by simp [lv_args, va_rf_cat, cat_i, cat_l, cat_n]) ?_
  intro p e s m below meth c ls C M hr hlk hnm hl
  unfold f_Row_at at hf
  refine lv_iload_n C.x C.b dRow_at_0 rfl (lv_at hl 1 rfl) ?_
  refine lv_if_lt (tgt := 21) C.x C.b dRow_at_1 (by decide) (fun c1 => ?_) (fun c1 => ?_)
  · rw [if_pos c1] at hf
    exact b_Row_at_21 C hr hlk hnm _ _ _ M (lv_sub hl [] rfl) hf
  · rw [if_neg c1] at hf
    refine lv_iload_n C.x C.b dRow_at_4 rfl (lv_at hl 1 rfl) ?_
    refine w_aload_n C.x C.b dRow_at_5 rfl (lv_at hl 0 rfl) ?_
    obtain ⟨v6, h6, hf⟩ := Option.bind_eq_some_iff.mp hf
    refine w_getI C M h6 rfl (hm_in in_Row) (by decide) (List.mem_cons_of_mem _ wm_45) rfl dRow_at_6 ?_
    refine lv_icmp_ge (tgt := 21) C.x C.b dRow_at_9 (by decide) (fun c9 => ?_) (fun c9 => ?_)
    · rw [if_pos c9] at hf
      exact b_Row_at_21 C hr hlk hnm _ _ _ M (lv_sub hl [] rfl) hf
    · rw [if_neg c9] at hf
      refine w_aload_n C.x C.b dRow_at_12 rfl (lv_at hl 0 rfl) ?_
      obtain ⟨v13, h13, hf⟩ := Option.bind_eq_some_iff.mp hf
      refine w_getR C M h13 rfl (hm_in in_Row) (by decide) (List.mem_cons_of_mem _ wm_43) rfl dRow_at_13 ?_
      refine lv_iload_n C.x C.b dRow_at_16 rfl (lv_at hl 1 rfl) ?_
      obtain ⟨v17, h17, hf⟩ := Option.bind_eq_some_iff.mp hf
      refine w_iald C M h17 rfl dRow_at_17 ?_
      refine lv_goto (tgt := 22) C.x C.b dRow_at_18 (by decide) ?_
      exact b_Row_at_22 C hr hlk hnm _ _ _ _ M (lv_sub hl [] rfl) hf
theorem dS_said_0 : decode prog_1_method_9_code 0 = .ok (.iload_n 1, 1) := by decide +kernel
theorem dS_said_1 : decode prog_1_method_9_code 1 = .ok (.ifCond .ne 15, 3) := by decide +kernel
theorem dS_said_4 : decode prog_1_method_9_code 4 = .ok (.aload_n 0, 1) := by decide +kernel
theorem dS_said_5 : decode prog_1_method_9_code 5 = .ok (.getfield 19, 3) := by decide +kernel
theorem dS_said_8 : decode prog_1_method_9_code 8 = .ok (.getfield 85, 3) := by decide +kernel
theorem dS_said_11 : decode prog_1_method_9_code 11 = .ok (.iload_n 2, 1) := by decide +kernel
theorem dS_said_12 : decode prog_1_method_9_code 12 = .ok (.invokevirtual 109, 3) := by decide +kernel
theorem dS_said_15 : decode prog_1_method_9_code 15 = .ok (.ireturn, 1) := by decide +kernel
theorem dS_said_16 : decode prog_1_method_9_code 16 = .ok (.iload_n 1, 1) := by decide +kernel
theorem dS_said_17 : decode prog_1_method_9_code 17 = .ok (.iconst 1, 1) := by decide +kernel
theorem dS_said_18 : decode prog_1_method_9_code 18 = .ok (.if_icmp .ne 17, 3) := by decide +kernel
theorem dS_said_21 : decode prog_1_method_9_code 21 = .ok (.aload_n 0, 1) := by decide +kernel
theorem dS_said_22 : decode prog_1_method_9_code 22 = .ok (.getfield 19, 3) := by decide +kernel
theorem dS_said_25 : decode prog_1_method_9_code 25 = .ok (.getfield 91, 3) := by decide +kernel
theorem dS_said_28 : decode prog_1_method_9_code 28 = .ok (.iload_n 2, 1) := by decide +kernel
theorem dS_said_29 : decode prog_1_method_9_code 29 = .ok (.invokevirtual 109, 3) := by decide +kernel
theorem dS_said_32 : decode prog_1_method_9_code 32 = .ok (.goto 4, 3) := by decide +kernel
theorem dS_said_35 : decode prog_1_method_9_code 35 = .ok (.iconst (-1), 1) := by decide +kernel
theorem dS_said_36 : decode prog_1_method_9_code 36 = .ok (.ireturn, 1) := by decide +kernel
abbrev rm_S_said : Room := { frames := 1, cells := 0, slots := 0, locals := 21 }
def f_S_said_b36 (E : hE) (t0 : Int32) : Option (Int32) := (
  some t0)
set_option maxHeartbeats 4000000 in
set_option maxRecDepth 100000 in
theorem b_S_said_36 {p : Program} {l : Launch} {e : Env} {s : State} {m : MethodId} {args : Array Value} {below : List Frame} {meth : Method} {c : Code} {D : va_G} {kA : Nat → ClassId} {S : hE} {g : Nat → Nat} {n0 nx : Nat} {E : hE} {res : Int32} (C : hX p s m args c prog_1_method_9_code 3 R_S ws_S_said D kA S g n0) (hr : meth.sig.returnType = (some .int)) (hlk : meth.locks = false) (hnm : meth.name = "said") : ∀ (t0 : Int32) (H : Heap) (locs : List Loc) (ls : Array Slot), hY D kA n0 s E nx H locs → lv_has ls 3 [] → f_S_said_b36 E  t0 = some res → W p l e rm_S_said s m args below meth c H locs 0 0 (MQ below (va_Qi (fun r w => r = res ∧ w = (E, nx)) (hJ D kA S g n0) (fun q => n0 ≤ q)) args s 0 0 (fun q => n0 ≤ q)) (F0 m 36 ls [.int t0]) := by
  intro t0 H locs ls M hl hf
  unfold f_S_said_b36 at hf
  cases hf
  exact w_iret C M hr hlk rfl (Nat.le_refl _) (Nat.le_refl _) dS_said_36 rfl rfl
def f_S_said (E : hE) (x0 : Nat) (x1 : Int32) (x2 : Int32) : Option (Int32) := (
  if x1 = 0 then (
  (gR E (some x0) 6 1).bind fun v5 =>
  (gR E v5 2 2).bind fun v8 =>
  (gO E v8 0).bind fun o12 =>
  (f_Row_at E o12.1 x2).bind fun v12 =>
  some v12
  ) else (
  if x1 = 1 then (
  (gR E (some x0) 6 1).bind fun v22 =>
  (gR E v22 2 3).bind fun v25 =>
  (gO E v25 0).bind fun o29 =>
  (f_Row_at E o29.1 x2).bind fun v29 =>
  f_S_said_b36 E v29
  ) else (
  f_S_said_b36 E (-1)
  )
  ))
set_option maxHeartbeats 4000000 in
set_option maxRecDepth 100000 in
theorem c_S_said {l : Launch} {D : va_G} {kA : Nat → ClassId} {S : hE} {g : Nat → Nat} {n0 nx : Nat} {x0 : Nat} {x1 : Int32} {x2 : Int32} {E : hE} {res : Int32} (hf : f_S_said E x0 x1 x2 = some res) : Met l y_S_said ws_S_said rm_S_said (va_Pc [va_rf (some x0), .int x1, .int x2] (hJ D kA S g n0 (E, nx))) (va_Qi (fun r w => r = res ∧ w = (E, nx)) (hJ D kA S g n0) (fun q => n0 ≤ q)) 0 0 (fun q => n0 ≤ q) := by
  refine h_met (cc := prog_1_method_9_code) (maxL := 3) (ret := (some .int)) (lvs := [(0, va_rf (some x0)), (1, .int x1), (2, .int x2)]) zZ_k (by decide) rfl (by simp [lg_sl, va_rf_cat, cat_i, cat_l, cat_n]) (by simp [lv_args, va_rf_cat, cat_i, cat_l, cat_n]) ?_
  intro p e s m below meth c ls C M hr hlk hnm hl
  unfold f_S_said at hf
  refine lv_iload_n C.x C.b dS_said_0 rfl (lv_at hl 1 rfl) ?_
  refine lv_if_ne (tgt := 16) C.x C.b dS_said_1 (by decide) (fun c1 => ?_) (fun c1 => ?_)
  · rw [if_neg c1] at hf
    refine lv_iload_n C.x C.b dS_said_16 rfl (lv_at hl 1 rfl) ?_
    refine lv_iconst (v := 1) C.x C.b dS_said_17 (by decide) ?_
    refine lv_icmp_ne (tgt := 35) C.x C.b dS_said_18 (by decide) (fun c18 => ?_) (fun c18 => ?_)
    · rw [if_neg c18] at hf
      refine lv_iconst (v := (-1)) C.x C.b dS_said_35 (by decide) ?_
      exact b_S_said_36 C hr hlk hnm _ _ _ _ M (lv_sub hl [] rfl) hf
    · rw [if_pos c18] at hf
      refine w_aload_n C.x C.b dS_said_21 rfl (lv_at hl 0 rfl) ?_
      obtain ⟨v22, h22, hf⟩ := Option.bind_eq_some_iff.mp hf
      refine w_getR C M h22 rfl (hm_in in_S) (by decide) (List.mem_cons_of_mem _ wm_184) rfl dS_said_22 ?_
      obtain ⟨v25, h25, hf⟩ := Option.bind_eq_some_iff.mp hf
      refine w_getR C M h25 rfl (hm_in in_Mach) (by decide) (List.mem_cons_of_mem _ wm_141) rfl dS_said_25 ?_
      refine lv_iload_n C.x C.b dS_said_28 rfl (lv_at hl 2 rfl) ?_
      obtain ⟨o29, g29, hf⟩ := Option.bind_eq_some_iff.mp hf
      obtain ⟨v29, h29, hf⟩ := Option.bind_eq_some_iff.mp hf
      refine w_ci M (w_runV C M g29 rfl (c_Row_at h29) (cwV 1 C.ts (hgV wm_704 wm_268 wm_269 wm_3 wm_270) rfl rfl rfl (by decide +kernel) ⟨Nat.le_of_ble_eq_true rfl, Nat.le_of_ble_eq_true rfl⟩) rfl hl.1 rfl (Nat.zero_le _) dS_said_29 ⟨Nat.le_refl _, Nat.le_refl _⟩) (fun H locs M => ?_)
      refine lv_goto (tgt := 36) C.x C.b dS_said_32 (by decide) ?_
      exact b_S_said_36 C hr hlk hnm _ _ _ _ M (lv_sub hl [] rfl) hf
  · rw [if_pos c1] at hf
    refine w_aload_n C.x C.b dS_said_4 rfl (lv_at hl 0 rfl) ?_
    obtain ⟨v5, h5, hf⟩ := Option.bind_eq_some_iff.mp hf
    refine w_getR C M h5 rfl (hm_in in_S) (by decide) (List.mem_cons_of_mem _ wm_184) rfl dS_said_5 ?_
    obtain ⟨v8, h8, hf⟩ := Option.bind_eq_some_iff.mp hf
    refine w_getR C M h8 rfl (hm_in in_Mach) (by decide) (List.mem_cons_of_mem _ wm_139) rfl dS_said_8 ?_
    refine lv_iload_n C.x C.b dS_said_11 rfl (lv_at hl 2 rfl) ?_
    obtain ⟨o12, g12, hf⟩ := Option.bind_eq_some_iff.mp hf
    obtain ⟨v12, h12, hf⟩ := Option.bind_eq_some_iff.mp hf
    refine w_ci M (w_runV C M g12 rfl (c_Row_at h12) (cwV 1 C.ts (hgV wm_704 wm_268 wm_269 wm_3 wm_270) rfl rfl rfl (by decide +kernel) ⟨Nat.le_of_ble_eq_true rfl, Nat.le_of_ble_eq_true rfl⟩) rfl hl.1 rfl (Nat.zero_le _) dS_said_12 ⟨Nat.le_refl _, Nat.le_refl _⟩) (fun H locs M => ?_)
    cases hf
    exact w_iret C M hr hlk rfl (Nat.le_refl _) (Nat.le_refl _) dS_said_15 rfl rfl
theorem dS_register_0 : decode prog_1_method_10_code 0 = .ok (.iload_n 1, 1) := by decide +kernel
theorem dS_register_1 : decode prog_1_method_10_code 1 = .ok (.ifCond .lt 24, 3) := by decide +kernel
theorem dS_register_4 : decode prog_1_method_10_code 4 = .ok (.iload_n 1, 1) := by decide +kernel
theorem dS_register_5 : decode prog_1_method_10_code 5 = .ok (.bipush 8, 2) := by decide +kernel
theorem dS_register_7 : decode prog_1_method_10_code 7 = .ok (.if_icmp .ge 18, 3) := by decide +kernel
theorem dS_register_10 : decode prog_1_method_10_code 10 = .ok (.aload_n 0, 1) := by decide +kernel
theorem dS_register_11 : decode prog_1_method_10_code 11 = .ok (.getfield 19, 3) := by decide +kernel
theorem dS_register_14 : decode prog_1_method_10_code 14 = .ok (.getfield 97, 3) := by decide +kernel
theorem dS_register_17 : decode prog_1_method_10_code 17 = .ok (.getfield 113, 3) := by decide +kernel
theorem dS_register_20 : decode prog_1_method_10_code 20 = .ok (.iload_n 1, 1) := by decide +kernel
theorem dS_register_21 : decode prog_1_method_10_code 21 = .ok (.iaload, 1) := by decide +kernel
theorem dS_register_22 : decode prog_1_method_10_code 22 = .ok (.goto 4, 3) := by decide +kernel
theorem dS_register_25 : decode prog_1_method_10_code 25 = .ok (.iconst 0, 1) := by decide +kernel
theorem dS_register_26 : decode prog_1_method_10_code 26 = .ok (.ireturn, 1) := by decide +kernel
abbrev rm_S_register : Room := { frames := 0, cells := 0, slots := 0, locals := 0 }
def f_S_register_b26 (E : hE) (t0 : Int32) : Option (Int32) := (
  some t0)
set_option maxHeartbeats 4000000 in
set_option maxRecDepth 100000 in
theorem b_S_register_26 {p : Program} {l : Launch} {e : Env} {s : State} {m : MethodId} {args : Array Value} {below : List Frame} {meth : Method} {c : Code} {D : va_G} {kA : Nat → ClassId} {S : hE} {g : Nat → Nat} {n0 nx : Nat} {E : hE} {res : Int32} (C : hX p s m args c prog_1_method_10_code 2 R_S ws_S_register D kA S g n0) (hr : meth.sig.returnType = (some .int)) (hlk : meth.locks = false) (hnm : meth.name = "register") : ∀ (t0 : Int32) (H : Heap) (locs : List Loc) (ls : Array Slot), hY D kA n0 s E nx H locs → lv_has ls 2 [] → f_S_register_b26 E  t0 = some res → W p l e rm_S_register s m args below meth c H locs 0 0 (MQ below (va_Qi (fun r w => r = res ∧ w = (E, nx)) (hJ D kA S g n0) (fun q => n0 ≤ q)) args s 0 0 (fun q => n0 ≤ q)) (F0 m 26 ls [.int t0]) := by
  intro t0 H locs ls M hl hf
  unfold f_S_register_b26 at hf
  cases hf
  exact w_iret C M hr hlk rfl (Nat.le_refl _) (Nat.le_refl _) dS_register_26 rfl rfl
def f_S_register_b25 (E : hE) : Option (Int32) := (
  f_S_register_b26 E 0)
set_option maxHeartbeats 4000000 in
set_option maxRecDepth 100000 in
theorem b_S_register_25 {p : Program} {l : Launch} {e : Env} {s : State} {m : MethodId} {args : Array Value} {below : List Frame} {meth : Method} {c : Code} {D : va_G} {kA : Nat → ClassId} {S : hE} {g : Nat → Nat} {n0 nx : Nat} {E : hE} {res : Int32} (C : hX p s m args c prog_1_method_10_code 2 R_S ws_S_register D kA S g n0) (hr : meth.sig.returnType = (some .int)) (hlk : meth.locks = false) (hnm : meth.name = "register") : ∀  (H : Heap) (locs : List Loc) (ls : Array Slot), hY D kA n0 s E nx H locs → lv_has ls 2 [] → f_S_register_b25 E   = some res → W p l e rm_S_register s m args below meth c H locs 0 0 (MQ below (va_Qi (fun r w => r = res ∧ w = (E, nx)) (hJ D kA S g n0) (fun q => n0 ≤ q)) args s 0 0 (fun q => n0 ≤ q)) (F0 m 25 ls []) := by
  intro  H locs ls M hl hf
  unfold f_S_register_b25 at hf
  refine lv_iconst (v := 0) C.x C.b dS_register_25 (by decide) ?_
  exact b_S_register_26 C hr hlk hnm _ _ _ _ M (lv_sub hl [] rfl) hf
def f_S_register (E : hE) (x0 : Nat) (x1 : Int32) : Option (Int32) := (
  if x1 < 0 then (
  f_S_register_b25 E 
  ) else (
  if 8 ≤ x1 then (
  f_S_register_b25 E 
  ) else (
  (gR E (some x0) 6 1).bind fun v11 =>
  (gR E v11 2 4).bind fun v14 =>
  (gR E v14 1 1).bind fun v17 =>
  (aI E v17 0 x1).bind fun v21 =>
  f_S_register_b26 E v21
  )
  ))
set_option maxHeartbeats 4000000 in
set_option maxRecDepth 100000 in
theorem c_S_register {l : Launch} {D : va_G} {kA : Nat → ClassId} {S : hE} {g : Nat → Nat} {n0 nx : Nat} {x0 : Nat} {x1 : Int32} {E : hE} {res : Int32} (hf : f_S_register E x0 x1 = some res) : Met l y_S_register ws_S_register rm_S_register (va_Pc [va_rf (some x0), .int x1] (hJ D kA S g n0 (E, nx))) (va_Qi (fun r w => r = res ∧ w = (E, nx)) (hJ D kA S g n0) (fun q => n0 ≤ q)) 0 0 (fun q => n0 ≤ q) := by
  refine h_met (cc := prog_1_method_10_code) (maxL := 2) (ret := (some .int)) (lvs := [(0, va_rf (some x0)), (1, .int x1)]) zZ_k (by decide) rfl (by simp [lg_sl, va_rf_cat, cat_i, cat_l, cat_n]) (by simp [lv_args, va_rf_cat, cat_i, cat_l, cat_n]) ?_
  intro p e s m below meth c ls C M hr hlk hnm hl
  unfold f_S_register at hf
  refine lv_iload_n C.x C.b dS_register_0 rfl (lv_at hl 1 rfl) ?_
  refine lv_if_lt (tgt := 25) C.x C.b dS_register_1 (by decide) (fun c1 => ?_) (fun c1 => ?_)
  · rw [if_pos c1] at hf
    exact b_S_register_25 C hr hlk hnm _ _ _ M (lv_sub hl [] rfl) hf
  · rw [if_neg c1] at hf
    refine lv_iload_n C.x C.b dS_register_4 rfl (lv_at hl 1 rfl) ?_
    refine lv_bipush (v := 8) C.x C.b dS_register_5 (by decide) ?_
    refine lv_icmp_ge (tgt := 25) C.x C.b dS_register_7 (by decide) (fun c7 => ?_) (fun c7 => ?_)
    · rw [if_pos c7] at hf
      exact b_S_register_25 C hr hlk hnm _ _ _ M (lv_sub hl [] rfl) hf
    · rw [if_neg c7] at hf
      refine w_aload_n C.x C.b dS_register_10 rfl (lv_at hl 0 rfl) ?_
      obtain ⟨v11, h11, hf⟩ := Option.bind_eq_some_iff.mp hf
      refine w_getR C M h11 rfl (hm_in in_S) (by decide) (List.mem_cons_of_mem _ wm_184) rfl dS_register_11 ?_
      obtain ⟨v14, h14, hf⟩ := Option.bind_eq_some_iff.mp hf
      refine w_getR C M h14 rfl (hm_in in_Mach) (by decide) (List.mem_cons_of_mem _ wm_143) rfl dS_register_14 ?_
      obtain ⟨v17, h17, hf⟩ := Option.bind_eq_some_iff.mp hf
      refine w_getR C M h17 rfl (hm_in in_Frame) (by decide) (List.mem_cons_of_mem _ wm_106) rfl dS_register_17 ?_
      refine lv_iload_n C.x C.b dS_register_20 rfl (lv_at hl 1 rfl) ?_
      obtain ⟨v21, h21, hf⟩ := Option.bind_eq_some_iff.mp hf
      refine w_iald C M h21 rfl dS_register_21 ?_
      refine lv_goto (tgt := 26) C.x C.b dS_register_22 (by decide) ?_
      exact b_S_register_26 C hr hlk hnm _ _ _ _ M (lv_sub hl [] rfl) hf
theorem dRow_countIfThere_0 : decode prog_6_method_8_code 0 = .ok (.aload_n 0, 1) := by decide +kernel
theorem dRow_countIfThere_1 : decode prog_6_method_8_code 1 = .ok (.getfield 19, 3) := by decide +kernel
theorem dRow_countIfThere_4 : decode prog_6_method_8_code 4 = .ok (.ifCond .eq 10, 3) := by decide +kernel
theorem dRow_countIfThere_7 : decode prog_6_method_8_code 7 = .ok (.aload_n 0, 1) := by decide +kernel
theorem dRow_countIfThere_8 : decode prog_6_method_8_code 8 = .ok (.getfield 15, 3) := by decide +kernel
theorem dRow_countIfThere_11 : decode prog_6_method_8_code 11 = .ok (.goto 4, 3) := by decide +kernel
theorem dRow_countIfThere_14 : decode prog_6_method_8_code 14 = .ok (.iconst (-1), 1) := by decide +kernel
theorem dRow_countIfThere_15 : decode prog_6_method_8_code 15 = .ok (.ireturn, 1) := by decide +kernel
abbrev rm_Row_countIfThere : Room := { frames := 0, cells := 0, slots := 0, locals := 0 }
def f_Row_countIfThere_b15 (E : hE) (t0 : Int32) : Option (Int32) := (
  some t0)
set_option maxHeartbeats 4000000 in
set_option maxRecDepth 100000 in
theorem b_Row_countIfThere_15 {p : Program} {l : Launch} {e : Env} {s : State} {m : MethodId} {args : Array Value} {below : List Frame} {meth : Method} {c : Code} {D : va_G} {kA : Nat → ClassId} {S : hE} {g : Nat → Nat} {n0 nx : Nat} {E : hE} {res : Int32} (C : hX p s m args c prog_6_method_8_code 1 R_Row ws_Row_countIfThere D kA S g n0) (hr : meth.sig.returnType = (some .int)) (hlk : meth.locks = false) (hnm : meth.name = "countIfThere") : ∀ (t0 : Int32) (H : Heap) (locs : List Loc) (ls : Array Slot), hY D kA n0 s E nx H locs → lv_has ls 1 [] → f_Row_countIfThere_b15 E  t0 = some res → W p l e rm_Row_countIfThere s m args below meth c H locs 0 0 (MQ below (va_Qi (fun r w => r = res ∧ w = (E, nx)) (hJ D kA S g n0) (fun q => n0 ≤ q)) args s 0 0 (fun q => n0 ≤ q)) (F0 m 15 ls [.int t0]) := by
  intro t0 H locs ls M hl hf
  unfold f_Row_countIfThere_b15 at hf
  cases hf
  exact w_iret C M hr hlk rfl (Nat.le_refl _) (Nat.le_refl _) dRow_countIfThere_15 rfl rfl
def f_Row_countIfThere (E : hE) (x0 : Nat) : Option (Int32) := (
  (gI E (some x0) 0 2).bind fun v1 =>
  if v1 = 0 then (
  f_Row_countIfThere_b15 E (-1)
  ) else (
  (gI E (some x0) 0 1).bind fun v8 =>
  f_Row_countIfThere_b15 E v8
  ))
set_option maxHeartbeats 4000000 in
set_option maxRecDepth 100000 in
theorem c_Row_countIfThere {l : Launch} {D : va_G} {kA : Nat → ClassId} {S : hE} {g : Nat → Nat} {n0 nx : Nat} {x0 : Nat} {E : hE} {res : Int32} (hf : f_Row_countIfThere E x0 = some res) : Met l y_Row_countIfThere ws_Row_countIfThere rm_Row_countIfThere (va_Pc [va_rf (some x0)] (hJ D kA S g n0 (E, nx))) (va_Qi (fun r w => r = res ∧ w = (E, nx)) (hJ D kA S g n0) (fun q => n0 ≤ q)) 0 0 (fun q => n0 ≤ q) := by
  refine h_met (cc := prog_6_method_8_code) (maxL := 1) (ret := (some .int)) (lvs := [(0, va_rf (some x0))]) zZ_k (by decide) rfl (by simp [lg_sl, va_rf_cat, cat_i, cat_l, cat_n]) (by simp [lv_args, va_rf_cat, cat_i, cat_l, cat_n]) ?_
  intro p e s m below meth c ls C M hr hlk hnm hl
  unfold f_Row_countIfThere at hf
  refine w_aload_n C.x C.b dRow_countIfThere_0 rfl (lv_at hl 0 rfl) ?_
  obtain ⟨v1, h1, hf⟩ := Option.bind_eq_some_iff.mp hf
  refine w_getI C M h1 rfl (hm_in in_Row) (by decide) (List.mem_cons_of_mem _ wm_48) rfl dRow_countIfThere_1 ?_
  refine lv_if_eq (tgt := 14) C.x C.b dRow_countIfThere_4 (by decide) (fun c4 => ?_) (fun c4 => ?_)
  · rw [if_pos c4] at hf
    refine lv_iconst (v := (-1)) C.x C.b dRow_countIfThere_14 (by decide) ?_
    exact b_Row_countIfThere_15 C hr hlk hnm _ _ _ _ M (lv_sub hl [] rfl) hf
  · rw [if_neg c4] at hf
    refine w_aload_n C.x C.b dRow_countIfThere_7 rfl (lv_at hl 0 rfl) ?_
    obtain ⟨v8, h8, hf⟩ := Option.bind_eq_some_iff.mp hf
    refine w_getI C M h8 rfl (hm_in in_Row) (by decide) (List.mem_cons_of_mem _ wm_45) rfl dRow_countIfThere_8 ?_
    refine lv_goto (tgt := 15) C.x C.b dRow_countIfThere_11 (by decide) ?_
    exact b_Row_countIfThere_15 C hr hlk hnm _ _ _ _ M (lv_sub hl [] rfl) hf
