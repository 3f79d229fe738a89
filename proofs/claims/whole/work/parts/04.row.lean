/-! row: by wip/whole/gen.py -/
theorem dRow_init_0 : decode prog_6_method_1_code 0 = .ok (.aload_n 0, 1) := by decide +kernel
theorem dRow_init_1 : decode prog_6_method_1_code 1 = .ok (.invokespecial 3, 3) := by decide +kernel
theorem dRow_init_4 : decode prog_6_method_1_code 4 = .ok (.aload_n 0, 1) := by decide +kernel
theorem dRow_init_5 : decode prog_6_method_1_code 5 = .ok (.iload_n 1, 1) := by decide +kernel
theorem dRow_init_6 : decode prog_6_method_1_code 6 = .ok (.newarray .int, 2) := by decide +kernel
theorem dRow_init_8 : decode prog_6_method_1_code 8 = .ok (.putfield 9, 3) := by decide +kernel
theorem dRow_init_11 : decode prog_6_method_1_code 11 = .ok (.return_, 1) := by decide +kernel
abbrev rm_Row_init : Room := { frames := 1, cells := 1, slots := 400, locals := 20 }
def f_Row_init  (x0 : Nat) (x1 : Int32) (E : hE) (nx : Nat) : Option (hE × Nat) := (
  (nA E nx 0 x1 400).bind fun E6 =>
  (sR E6 (some x0) 0 0 (some nx)).bind fun E8 =>
  some (E8, nx + 1))
set_option maxHeartbeats 4000000 in
set_option maxRecDepth 100000 in
theorem c_Row_init {l : Launch} {D : va_G} {kA : Nat → ClassId} {S : hE} {g : Nat → Nat} {n0 nx : Nat} {x0 : Nat} {x1 : Int32} {E : hE} {res : hE × Nat} (hf : f_Row_init x0 x1 E nx = some res) : Met l y_Row_init ws_Row_init rm_Row_init (va_Pc [va_rf (some x0), .int x1] (hJ D kA S g n0 (E, nx))) (va_Qv (fun w => w = res) (hJ D kA S g n0) (fun q => n0 ≤ q)) 1 400 (fun q => n0 ≤ q) := by
  refine h_met (cc := prog_6_method_1_code) (maxL := 2) (ret := none) (lvs := [(0, va_rf (some x0)), (1, .int x1)]) zZ_k (by decide) rfl (by simp [lg_sl, va_rf_cat, cat_i, cat_l, cat_n]) (by simp [lv_args, va_rf_cat, cat_i, cat_l, cat_n]) ?_
  intro p e s m below meth c ls C M hr hlk hnm hl
  unfold f_Row_init at hf
  refine w_aload_n C.x C.b dRow_init_0 rfl (lv_at hl 0 rfl) ?_
  refine W.objInit C.x C.b C.ow (C.ts (.methodLink R_Row 3 objectInit) (List.mem_cons_of_mem _ wm_42)) (C.ts (.instanceMethod objectInit) (List.mem_cons_of_mem _ wm_29)) (C.ts _ (List.mem_cons_of_mem _ wm_30)) rfl (by rw [C.ml]; exact hl.1) rfl dRow_init_1 (Nat.le_of_ble_eq_true rfl) (Nat.le_of_ble_eq_true rfl) ?_
  refine W.eq (g2 := F0 m 4 ls []) rfl ?_
  refine w_aload_n C.x C.b dRow_init_4 rfl (lv_at hl 0 rfl) ?_
  refine lv_iload_n C.x C.b dRow_init_5 rfl (lv_at hl 1 rfl) ?_
  obtain ⟨E6, h6, hf⟩ := Option.bind_eq_some_iff.mp hf
  refine w_newI (atype := .int) (ty := .int) C M h6 (List.mem_cons_of_mem _ wm_57) rfl rfl (fun _ _ h => h) (fun _ _ => rfl) (by decide) (by show _ ≤ 1; omega) (by show _ ≤ 400; omega) dRow_init_6 (fun H M => ?_)
  obtain ⟨E8, h8, hf⟩ := Option.bind_eq_some_iff.mp hf
  refine w_putVF (ty := (.array .int)) C M ty_Row h8 rfl (hm_in in_Row) tyok_Row nm_Row (by decide) (List.mem_cons_of_mem _ wm_43) rfl rfl hnm rfl (by decide +kernel) (narrow_a _ _) (fits_a _ _) dRow_init_8 (fun H locs M => ?_)
  cases hf
  exact w_vret C M hr hlk (by omega) (by omega) dRow_init_11 rfl
theorem dRow_hasRoomFor_0 : decode prog_6_method_2_code 0 = .ok (.iload_n 1, 1) := by decide +kernel
theorem dRow_hasRoomFor_1 : decode prog_6_method_2_code 1 = .ok (.aload_n 0, 1) := by decide +kernel
theorem dRow_hasRoomFor_2 : decode prog_6_method_2_code 2 = .ok (.getfield 9, 3) := by decide +kernel
theorem dRow_hasRoomFor_5 : decode prog_6_method_2_code 5 = .ok (.arraylength, 1) := by decide +kernel
theorem dRow_hasRoomFor_6 : decode prog_6_method_2_code 6 = .ok (.aload_n 0, 1) := by decide +kernel
theorem dRow_hasRoomFor_7 : decode prog_6_method_2_code 7 = .ok (.getfield 15, 3) := by decide +kernel
theorem dRow_hasRoomFor_10 : decode prog_6_method_2_code 10 = .ok (.isub, 1) := by decide +kernel
theorem dRow_hasRoomFor_11 : decode prog_6_method_2_code 11 = .ok (.if_icmp .gt 7, 3) := by decide +kernel
theorem dRow_hasRoomFor_14 : decode prog_6_method_2_code 14 = .ok (.iconst 1, 1) := by decide +kernel
theorem dRow_hasRoomFor_15 : decode prog_6_method_2_code 15 = .ok (.goto 4, 3) := by decide +kernel
theorem dRow_hasRoomFor_18 : decode prog_6_method_2_code 18 = .ok (.iconst 0, 1) := by decide +kernel
theorem dRow_hasRoomFor_19 : decode prog_6_method_2_code 19 = .ok (.ireturn, 1) := by decide +kernel
abbrev rm_Row_hasRoomFor : Room := { frames := 0, cells := 0, slots := 0, locals := 0 }
def f_Row_hasRoomFor_b19 (E : hE) (t0 : Int32) : Option (Int32) := (
  (bZ t0).bind fun v19 =>
  some v19)
set_option maxHeartbeats 4000000 in
set_option maxRecDepth 100000 in
theorem b_Row_hasRoomFor_19 {p : Program} {l : Launch} {e : Env} {s : State} {m : MethodId} {args : Array Value} {below : List Frame} {meth : Method} {c : Code} {D : va_G} {kA : Nat → ClassId} {S : hE} {g : Nat → Nat} {n0 nx : Nat} {E : hE} {res : Int32} (C : hX p s m args c prog_6_method_2_code 2 R_Row ws_Row_hasRoomFor D kA S g n0) (hr : meth.sig.returnType = (some .boolean)) (hlk : meth.locks = false) (hnm : meth.name = "hasRoomFor") : ∀ (t0 : Int32) (H : Heap) (locs : List Loc) (ls : Array Slot), hY D kA n0 s E nx H locs → lv_has ls 2 [] → f_Row_hasRoomFor_b19 E  t0 = some res → W p l e rm_Row_hasRoomFor s m args below meth c H locs 0 0 (MQ below (va_Qi (fun r w => r = res ∧ w = (E, nx)) (hJ D kA S g n0) (fun q => n0 ≤ q)) args s 0 0 (fun q => n0 ≤ q)) (F0 m 19 ls [.int t0]) := by
  intro t0 H locs ls M hl hf
  unfold f_Row_hasRoomFor_b19 at hf
  obtain ⟨v19, h19, hf⟩ := Option.bind_eq_some_iff.mp hf
  obtain ⟨rfl, g19⟩ := bZ_some h19
  cases hf
  exact w_iret C M hr hlk (narrow_z g19) (Nat.le_refl _) (Nat.le_refl _) dRow_hasRoomFor_19 rfl rfl
def f_Row_hasRoomFor (E : hE) (x0 : Nat) (x1 : Int32) : Option (Int32) := (
  (gR E (some x0) 0 0).bind fun v2 =>
  (aL E v2 0).bind fun v5 =>
  (gI E (some x0) 0 1).bind fun v7 =>
  if (v5 - v7) < x1 then (
  f_Row_hasRoomFor_b19 E 0
  ) else (
  f_Row_hasRoomFor_b19 E 1
  ))
set_option maxHeartbeats 4000000 in
set_option maxRecDepth 100000 in
theorem c_Row_hasRoomFor {l : Launch} {D : va_G} {kA : Nat → ClassId} {S : hE} {g : Nat → Nat} {n0 nx : Nat} {x0 : Nat} {x1 : Int32} {E : hE} {res : Int32} (hf : f_Row_hasRoomFor E x0 x1 = some res) : Met l y_Row_hasRoomFor ws_Row_hasRoomFor rm_Row_hasRoomFor (va_Pc [va_rf (some x0), .int x1] (hJ D kA S g n0 (E, nx))) (va_Qi (fun r w => r = res ∧ w = (E, nx)) (hJ D kA S g n0) (fun q => n0 ≤ q)) 0 0 (fun q => n0 ≤ q) := by
  refine h_met (cc := prog_6_method_2_code) (maxL := 2) (ret := (some .boolean)) (lvs := [(0, va_rf (some x0)), (1, .int x1)]) zZ_k (by decide) rfl (by simp [lg_sl, va_rf_cat, cat_i, cat_l, cat_n]) (by simp [lv_args, va_rf_cat, cat_i, cat_l, cat_n]) ?_
  intro p e s m below meth c ls C M hr hlk hnm hl
  unfold f_Row_hasRoomFor at hf
  refine lv_iload_n C.x C.b dRow_hasRoomFor_0 rfl (lv_at hl 1 rfl) ?_
  refine w_aload_n C.x C.b dRow_hasRoomFor_1 rfl (lv_at hl 0 rfl) ?_
  obtain ⟨v2, h2, hf⟩ := Option.bind_eq_some_iff.mp hf
  refine w_getR C M h2 rfl (hm_in in_Row) (by decide) (List.mem_cons_of_mem _ wm_43) rfl dRow_hasRoomFor_2 ?_
  obtain ⟨v5, h5, hf⟩ := Option.bind_eq_some_iff.mp hf
  refine w_alen C M h5 rfl dRow_hasRoomFor_5 ?_
  refine w_aload_n C.x C.b dRow_hasRoomFor_6 rfl (lv_at hl 0 rfl) ?_
  obtain ⟨v7, h7, hf⟩ := Option.bind_eq_some_iff.mp hf
  refine w_getI C M h7 rfl (hm_in in_Row) (by decide) (List.mem_cons_of_mem _ wm_45) rfl dRow_hasRoomFor_7 ?_
  refine lv_isub C.x C.b dRow_hasRoomFor_10 ?_
  refine lv_icmp_gt (tgt := 18) C.x C.b dRow_hasRoomFor_11 (by decide) (fun c11 => ?_) (fun c11 => ?_)
  · rw [if_pos c11] at hf
    refine lv_iconst (v := 0) C.x C.b dRow_hasRoomFor_18 (by decide) ?_
    exact b_Row_hasRoomFor_19 C hr hlk hnm _ _ _ _ M (lv_sub hl [] rfl) hf
  · rw [if_neg c11] at hf
    refine lv_iconst (v := 1) C.x C.b dRow_hasRoomFor_14 (by decide) ?_
    refine lv_goto (tgt := 19) C.x C.b dRow_hasRoomFor_15 (by decide) ?_
    exact b_Row_hasRoomFor_19 C hr hlk hnm _ _ _ _ M (lv_sub hl [] rfl) hf
theorem dRow_add_0 : decode prog_6_method_3_code 0 = .ok (.aload_n 0, 1) := by decide +kernel
theorem dRow_add_1 : decode prog_6_method_3_code 1 = .ok (.getfield 15, 3) := by decide +kernel
theorem dRow_add_4 : decode prog_6_method_3_code 4 = .ok (.aload_n 0, 1) := by decide +kernel
theorem dRow_add_5 : decode prog_6_method_3_code 5 = .ok (.getfield 9, 3) := by decide +kernel
theorem dRow_add_8 : decode prog_6_method_3_code 8 = .ok (.arraylength, 1) := by decide +kernel
theorem dRow_add_9 : decode prog_6_method_3_code 9 = .ok (.if_icmp .ge 32, 3) := by decide +kernel
theorem dRow_add_12 : decode prog_6_method_3_code 12 = .ok (.aload_n 0, 1) := by decide +kernel
theorem dRow_add_13 : decode prog_6_method_3_code 13 = .ok (.getfield 9, 3) := by decide +kernel
theorem dRow_add_16 : decode prog_6_method_3_code 16 = .ok (.aload_n 0, 1) := by decide +kernel
theorem dRow_add_17 : decode prog_6_method_3_code 17 = .ok (.getfield 15, 3) := by decide +kernel
theorem dRow_add_20 : decode prog_6_method_3_code 20 = .ok (.iload_n 1, 1) := by decide +kernel
theorem dRow_add_21 : decode prog_6_method_3_code 21 = .ok (.sipush 255, 3) := by decide +kernel
theorem dRow_add_24 : decode prog_6_method_3_code 24 = .ok (.iand, 1) := by decide +kernel
theorem dRow_add_25 : decode prog_6_method_3_code 25 = .ok (.iastore, 1) := by decide +kernel
theorem dRow_add_26 : decode prog_6_method_3_code 26 = .ok (.aload_n 0, 1) := by decide +kernel
theorem dRow_add_27 : decode prog_6_method_3_code 27 = .ok (.dup, 1) := by decide +kernel
theorem dRow_add_28 : decode prog_6_method_3_code 28 = .ok (.getfield 15, 3) := by decide +kernel
theorem dRow_add_31 : decode prog_6_method_3_code 31 = .ok (.iconst 1, 1) := by decide +kernel
theorem dRow_add_32 : decode prog_6_method_3_code 32 = .ok (.iadd, 1) := by decide +kernel
theorem dRow_add_33 : decode prog_6_method_3_code 33 = .ok (.putfield 15, 3) := by decide +kernel
theorem dRow_add_36 : decode prog_6_method_3_code 36 = .ok (.aload_n 0, 1) := by decide +kernel
theorem dRow_add_37 : decode prog_6_method_3_code 37 = .ok (.iconst 1, 1) := by decide +kernel
theorem dRow_add_38 : decode prog_6_method_3_code 38 = .ok (.putfield 19, 3) := by decide +kernel
theorem dRow_add_41 : decode prog_6_method_3_code 41 = .ok (.return_, 1) := by decide +kernel
abbrev rm_Row_add : Room := { frames := 0, cells := 0, slots := 0, locals := 0 }
def f_Row_add_b41  (E : hE) : Option (hE) := (
  some E)
set_option maxHeartbeats 4000000 in
set_option maxRecDepth 100000 in
theorem b_Row_add_41 {p : Program} {l : Launch} {e : Env} {s : State} {m : MethodId} {args : Array Value} {below : List Frame} {meth : Method} {c : Code} {D : va_G} {kA : Nat → ClassId} {S : hE} {g : Nat → Nat} {n0 nx : Nat} {res : hE} (C : hX p s m args c prog_6_method_3_code 2 R_Row ws_Row_add D kA S g n0) (hr : meth.sig.returnType = none) (hlk : meth.locks = false) (hnm : meth.name = "add") : ∀  (E : hE) (H : Heap) (locs : List Loc) (ls : Array Slot), hY D kA n0 s E nx H locs → lv_has ls 2 [] → f_Row_add_b41  E = some res → W p l e rm_Row_add s m args below meth c H locs 0 0 (MQ below (va_Qv (fun w => w = (res, nx)) (hJ D kA S g n0) (fun q => n0 ≤ q)) args s 0 0 (fun q => n0 ≤ q)) (F0 m 41 ls []) := by
  intro E H locs ls M hl hf
  unfold f_Row_add_b41 at hf
  cases hf
  exact w_vret C M hr hlk (Nat.le_refl _) (Nat.le_refl _) dRow_add_41 rfl
def f_Row_add  (x0 : Nat) (x1 : Int32) (E : hE) : Option (hE) := (
  (gI E (some x0) 0 1).bind fun v1 =>
  (gR E (some x0) 0 0).bind fun v5 =>
  (aL E v5 0).bind fun v8 =>
  if v8 ≤ v1 then (
  f_Row_add_b41 E
  ) else (
  (gR E (some x0) 0 0).bind fun v13 =>
  (gI E (some x0) 0 1).bind fun v17 =>
  (tI E v13 0 v17 (x1 &&& 255)).bind fun E25 =>
  (gI E25 (some x0) 0 1).bind fun v28 =>
  (sI E25 (some x0) 0 1 (v28 + 1)).bind fun E33 =>
  (sZ E33 (some x0) 0 2 1).bind fun E38 =>
  f_Row_add_b41 E38
  ))
set_option maxHeartbeats 4000000 in
set_option maxRecDepth 100000 in
theorem c_Row_add {l : Launch} {D : va_G} {kA : Nat → ClassId} {S : hE} {g : Nat → Nat} {n0 nx : Nat} {x0 : Nat} {x1 : Int32} {E : hE} {res : hE} (hf : f_Row_add x0 x1 E = some res) : Met l y_Row_add ws_Row_add rm_Row_add (va_Pc [va_rf (some x0), .int x1] (hJ D kA S g n0 (E, nx))) (va_Qv (fun w => w = (res, nx)) (hJ D kA S g n0) (fun q => n0 ≤ q)) 0 0 (fun q => n0 ≤ q) := by
  refine h_met (cc := prog_6_method_3_code) (maxL := 2) (ret := none) (lvs := [(0, va_rf (some x0)), (1, .int x1)]) zZ_k (by decide) rfl (by simp [lg_sl, va_rf_cat, cat_i, cat_l, cat_n]) (by simp [lv_args, va_rf_cat, cat_i, cat_l, cat_n]) ?_
  intro p e s m below meth c ls C M hr hlk hnm hl
  unfold f_Row_add at hf
  refine w_aload_n C.x C.b dRow_add_0 rfl (lv_at hl 0 rfl) ?_
  obtain ⟨v1, h1, hf⟩ := Option.bind_eq_some_iff.mp hf
  refine w_getI C M h1 rfl (hm_in in_Row) (by decide) (List.mem_cons_of_mem _ wm_45) rfl dRow_add_1 ?_
  refine w_aload_n C.x C.b dRow_add_4 rfl (lv_at hl 0 rfl) ?_
  obtain ⟨v5, h5, hf⟩ := Option.bind_eq_some_iff.mp hf
  refine w_getR C M h5 rfl (hm_in in_Row) (by decide) (List.mem_cons_of_mem _ wm_43) rfl dRow_add_5 ?_
  obtain ⟨v8, h8, hf⟩ := Option.bind_eq_some_iff.mp hf
  refine w_alen C M h8 rfl dRow_add_8 ?_
  refine lv_icmp_ge (tgt := 41) C.x C.b dRow_add_9 (by decide) (fun c9 => ?_) (fun c9 => ?_)
  · rw [if_pos c9] at hf
    exact b_Row_add_41 C hr hlk hnm _ _ _ _ M (lv_sub hl [] rfl) hf
  · rw [if_neg c9] at hf
    refine w_aload_n C.x C.b dRow_add_12 rfl (lv_at hl 0 rfl) ?_
    obtain ⟨v13, h13, hf⟩ := Option.bind_eq_some_iff.mp hf
    refine w_getR C M h13 rfl (hm_in in_Row) (by decide) (List.mem_cons_of_mem _ wm_43) rfl dRow_add_13 ?_
    refine w_aload_n C.x C.b dRow_add_16 rfl (lv_at hl 0 rfl) ?_
    obtain ⟨v17, h17, hf⟩ := Option.bind_eq_some_iff.mp hf
    refine w_getI C M h17 rfl (hm_in in_Row) (by decide) (List.mem_cons_of_mem _ wm_45) rfl dRow_add_17 ?_
    refine lv_iload_n C.x C.b dRow_add_20 rfl (lv_at hl 1 rfl) ?_
    refine lv_sipush (v := 255) C.x C.b dRow_add_21 (by decide) ?_
    refine lv_iand C.x C.b dRow_add_24 ?_
    obtain ⟨E25, h25, hf⟩ := Option.bind_eq_some_iff.mp hf
    refine w_iast C M h25 rfl dRow_add_25 (fun H locs M => ?_)
    refine w_aload_n C.x C.b dRow_add_26 rfl (lv_at hl 0 rfl) ?_
    refine lv_dup C.x C.b dRow_add_27 (va_rf_cat _) ?_
    obtain ⟨v28, h28, hf⟩ := Option.bind_eq_some_iff.mp hf
    refine w_getI C M h28 rfl (hm_in in_Row) (by decide) (List.mem_cons_of_mem _ wm_45) rfl dRow_add_28 ?_
    refine lv_iconst (v := 1) C.x C.b dRow_add_31 (by decide) ?_
    refine lv_iadd C.x C.b dRow_add_32 ?_
    obtain ⟨E33, h33, hf⟩ := Option.bind_eq_some_iff.mp hf
    refine w_putV (ty := .int) C M ty_Row h33 rfl (hm_in in_Row) tyok_Row nm_Row (by decide) (List.mem_cons_of_mem _ wm_45) rfl rfl (by decide +kernel) rfl rfl dRow_add_33 (fun H locs M => ?_)
    refine w_aload_n C.x C.b dRow_add_36 rfl (lv_at hl 0 rfl) ?_
    refine lv_iconst (v := 1) C.x C.b dRow_add_37 (by decide) ?_
    obtain ⟨E38, h38, hf⟩ := Option.bind_eq_some_iff.mp hf
    refine w_putV (ty := .boolean) C M ty_Row (sZ_some h38).2 rfl (hm_in in_Row) tyok_Row nm_Row (by decide) (List.mem_cons_of_mem _ wm_48) rfl rfl (by decide +kernel) (narrow_z (sZ_some h38).1) (fits_z (sZ_some h38).1) dRow_add_38 (fun H locs M => ?_)
    exact b_Row_add_41 C hr hlk hnm _ _ _ _ M (lv_sub hl [] rfl) hf
theorem dRow_makeEmpty_0 : decode prog_6_method_4_code 0 = .ok (.aload_n 0, 1) := by decide +kernel
theorem dRow_makeEmpty_1 : decode prog_6_method_4_code 1 = .ok (.iconst 0, 1) := by decide +kernel
theorem dRow_makeEmpty_2 : decode prog_6_method_4_code 2 = .ok (.putfield 15, 3) := by decide +kernel
theorem dRow_makeEmpty_5 : decode prog_6_method_4_code 5 = .ok (.aload_n 0, 1) := by decide +kernel
theorem dRow_makeEmpty_6 : decode prog_6_method_4_code 6 = .ok (.iconst 1, 1) := by decide +kernel
theorem dRow_makeEmpty_7 : decode prog_6_method_4_code 7 = .ok (.putfield 19, 3) := by decide +kernel
theorem dRow_makeEmpty_10 : decode prog_6_method_4_code 10 = .ok (.return_, 1) := by decide +kernel
abbrev rm_Row_makeEmpty : Room := { frames := 0, cells := 0, slots := 0, locals := 0 }
def f_Row_makeEmpty  (x0 : Nat) (E : hE) : Option (hE) := (
  (sI E (some x0) 0 1 0).bind fun E2 =>
  (sZ E2 (some x0) 0 2 1).bind fun E7 =>
  some E7)
set_option maxHeartbeats 4000000 in
set_option maxRecDepth 100000 in
theorem c_Row_makeEmpty {l : Launch} {D : va_G} {kA : Nat → ClassId} {S : hE} {g : Nat → Nat} {n0 nx : Nat} {x0 : Nat} {E : hE} {res : hE} (hf : f_Row_makeEmpty x0 E = some res) : Met l y_Row_makeEmpty ws_Row_makeEmpty rm_Row_makeEmpty (va_Pc [va_rf (some x0)] (hJ D kA S g n0 (E, nx))) (va_Qv (fun w => w = (res, nx)) (hJ D kA S g n0) (fun q => n0 ≤ q)) 0 0 (fun q => n0 ≤ q) := by
  refine h_met (cc := prog_6_method_4_code) (maxL := 1) (ret := none) (lvs := [(0, va_rf (some x0))]) zZ_k (by decide) rfl (by simp [lg_sl, va_rf_cat, cat_i, cat_l, cat_n]) (by simp [lv_args, va_rf_cat, cat_i, cat_l, cat_n]) ?_
  intro p e s m below meth c ls C M hr hlk hnm hl
  unfold f_Row_makeEmpty at hf
  refine w_aload_n C.x C.b dRow_makeEmpty_0 rfl (lv_at hl 0 rfl) ?_
  refine lv_iconst (v := 0) C.x C.b dRow_makeEmpty_1 (by decide) ?_
  obtain ⟨E2, h2, hf⟩ := Option.bind_eq_some_iff.mp hf
  refine w_putV (ty := .int) C M ty_Row h2 rfl (hm_in in_Row) tyok_Row nm_Row (by decide) (List.mem_cons_of_mem _ wm_45) rfl rfl (by decide +kernel) rfl rfl dRow_makeEmpty_2 (fun H locs M => ?_)
  refine w_aload_n C.x C.b dRow_makeEmpty_5 rfl (lv_at hl 0 rfl) ?_
  refine lv_iconst (v := 1) C.x C.b dRow_makeEmpty_6 (by decide) ?_
  obtain ⟨E7, h7, hf⟩ := Option.bind_eq_some_iff.mp hf
  refine w_putV (ty := .boolean) C M ty_Row (sZ_some h7).2 rfl (hm_in in_Row) tyok_Row nm_Row (by decide) (List.mem_cons_of_mem _ wm_48) rfl rfl (by decide +kernel) (narrow_z (sZ_some h7).1) (fits_z (sZ_some h7).1) dRow_makeEmpty_7 (fun H locs M => ?_)
  cases hf
  exact w_vret C M hr hlk (Nat.le_refl _) (Nat.le_refl _) dRow_makeEmpty_10 rfl
theorem dRow_remove_0 : decode prog_6_method_5_code 0 = .ok (.aload_n 0, 1) := by decide +kernel
theorem dRow_remove_1 : decode prog_6_method_5_code 1 = .ok (.iconst 0, 1) := by decide +kernel
theorem dRow_remove_2 : decode prog_6_method_5_code 2 = .ok (.putfield 15, 3) := by decide +kernel
theorem dRow_remove_5 : decode prog_6_method_5_code 5 = .ok (.aload_n 0, 1) := by decide +kernel
theorem dRow_remove_6 : decode prog_6_method_5_code 6 = .ok (.iconst 0, 1) := by decide +kernel
theorem dRow_remove_7 : decode prog_6_method_5_code 7 = .ok (.putfield 19, 3) := by decide +kernel
theorem dRow_remove_10 : decode prog_6_method_5_code 10 = .ok (.return_, 1) := by decide +kernel
abbrev rm_Row_remove : Room := { frames := 0, cells := 0, slots := 0, locals := 0 }
def f_Row_remove  (x0 : Nat) (E : hE) : Option (hE) := (
  (sI E (some x0) 0 1 0).bind fun E2 =>
  (sZ E2 (some x0) 0 2 0).bind fun E7 =>
  some E7)
set_option maxHeartbeats 4000000 in
set_option maxRecDepth 100000 in
theorem c_Row_remove {l : Launch} {D : va_G} {kA : Nat → ClassId} {S : hE} {g : Nat → Nat} {n0 nx : Nat} {x0 : Nat} {E : hE} {res : hE} (hf : f_Row_remove x0 E = some res) : Met l y_Row_remove ws_Row_remove rm_Row_remove (va_Pc [va_rf (some x0)] (hJ D kA S g n0 (E, nx))) (va_Qv (fun w => w = (res, nx)) (hJ D kA S g n0) (fun q => n0 ≤ q)) 0 0 (fun q => n0 ≤ q) := by
  refine h_met (cc := prog_6_method_5_code) (maxL := 1) (ret := none) (lvs := [(0, va_rf (some x0))]) zZ_k (by decide) rfl (by simp [lg_sl, va_rf_cat, cat_i, cat_l, cat_n]) (by simp [lv_args, va_rf_cat, cat_i, cat_l, cat_n]) ?_
  intro p e s m below meth c ls C M hr hlk hnm hl
  unfold f_Row_remove at hf
  refine w_aload_n C.x C.b dRow_remove_0 rfl (lv_at hl 0 rfl) ?_
  refine lv_iconst (v := 0) C.x C.b dRow_remove_1 (by decide) ?_
  obtain ⟨E2, h2, hf⟩ := Option.bind_eq_some_iff.mp hf
  refine w_putV (ty := .int) C M ty_Row h2 rfl (hm_in in_Row) tyok_Row nm_Row (by decide) (List.mem_cons_of_mem _ wm_45) rfl rfl (by decide +kernel) rfl rfl dRow_remove_2 (fun H locs M => ?_)
  refine w_aload_n C.x C.b dRow_remove_5 rfl (lv_at hl 0 rfl) ?_
  refine lv_iconst (v := 0) C.x C.b dRow_remove_6 (by decide) ?_
  obtain ⟨E7, h7, hf⟩ := Option.bind_eq_some_iff.mp hf
  refine w_putV (ty := .boolean) C M ty_Row (sZ_some h7).2 rfl (hm_in in_Row) tyok_Row nm_Row (by decide) (List.mem_cons_of_mem _ wm_48) rfl rfl (by decide +kernel) (narrow_z (sZ_some h7).1) (fits_z (sZ_some h7).1) dRow_remove_7 (fun H locs M => ?_)
  cases hf
  exact w_vret C M hr hlk (Nat.le_refl _) (Nat.le_refl _) dRow_remove_10 rfl
theorem dRow_at_0 : decode prog_6_method_7_code 0 = .ok (.iload_n 1, 1) := by decide +kernel
theorem dRow_at_1 : decode prog_6_method_7_code 1 = .ok (.ifCond .lt 20, 3) := by decide +kernel
theorem dRow_at_4 : decode prog_6_method_7_code 4 = .ok (.iload_n 1, 1) := by decide +kernel
theorem dRow_at_5 : decode prog_6_method_7_code 5 = .ok (.aload_n 0, 1) := by decide +kernel
theorem dRow_at_6 : decode prog_6_method_7_code 6 = .ok (.getfield 15, 3) := by decide +kernel
theorem dRow_at_9 : decode prog_6_method_7_code 9 = .ok (.if_icmp .ge 12, 3) := by decide +kernel
theorem dRow_at_12 : decode prog_6_method_7_code 12 = .ok (.aload_n 0, 1) := by decide +kernel
theorem dRow_at_13 : decode prog_6_method_7_code 13 = .ok (.getfield 9, 3) := by decide +kernel
theorem dRow_at_16 : decode prog_6_method_7_code 16 = .ok (.iload_n 1, 1) := by decide +kernel
theorem dRow_at_17 : decode prog_6_method_7_code 17 = .ok (.iaload, 1) := by decide +kernel
theorem dRow_at_18 : decode prog_6_method_7_code 18 = .ok (.goto 4, 3) := by decide +kernel
theorem dRow_at_21 : decode prog_6_method_7_code 21 = .ok (.iconst (-1), 1) := by decide +kernel
theorem dRow_at_22 : decode prog_6_method_7_code 22 = .ok (.ireturn, 1) := by decide +kernel
abbrev rm_Row_at : Room := { frames := 0, cells := 0, slots := 0, locals := 0 }
def f_Row_at_b22 (E : hE) (t0 : Int32) : Option (Int32) := (
  some t0)
set_option maxHeartbeats 4000000 in
set_option maxRecDepth 100000 in
theorem b_Row_at_22 {p : Program} {l : Launch} {e : Env} {s : State} {m : MethodId} {args : Array Value} {below : List Frame} {meth : Method} {c : Code} {D : va_G} {kA : Nat → ClassId} {S : hE} {g : Nat → Nat} {n0 nx : Nat} {E : hE} {res : Int32} (C : hX p s m args c prog_6_method_7_code 2 R_Row ws_Row_at D kA S g n0) (hr : meth.sig.returnType = (some .int)) (hlk : meth.locks = false) (hnm : meth.name = "at") : ∀ (t0 : Int32) (H : Heap) (locs : List Loc) (ls : Array Slot), hY D kA n0 s E nx H locs → lv_has ls 2 [] → f_Row_at_b22 E  t0 = some res → W p l e rm_Row_at s m args below meth c H locs 0 0 (MQ below (va_Qi (fun r w => r = res ∧ w = (E, nx)) (hJ D kA S g n0) (fun q => n0 ≤ q)) args s 0 0 (fun q => n0 ≤ q)) (F0 m 22 ls [.int t0]) := by
  intro t0 H locs ls M hl hf
  unfold f_Row_at_b22 at hf
  cases hf
  exact w_iret C M hr hlk rfl (Nat.le_refl _) (Nat.le_refl _) dRow_at_22 rfl rfl
def f_Row_at_b21 (E : hE) : Option (Int32) := (
  f_Row_at_b22 E (-1))
set_option maxHeartbeats 4000000 in
set_option maxRecDepth 100000 in
theorem b_Row_at_21 {p : Program} {l : Launch} {e : Env} {s : State} {m : MethodId} {args : Array Value} {below : List Frame} {meth : Method} {c : Code} {D : va_G} {kA : Nat → ClassId} {S : hE} {g : Nat → Nat} {n0 nx : Nat} {E : hE} {res : Int32} (C : hX p s m args c prog_6_method_7_code 2 R_Row ws_Row_at D kA S g n0) (hr : meth.sig.returnType = (some .int)) (hlk : meth.locks = false) (hnm : meth.name = "at") : ∀  (H : Heap) (locs : List Loc) (ls : Array Slot), hY D kA n0 s E nx H locs → lv_has ls 2 [] → f_Row_at_b21 E   = some res → W p l e rm_Row_at s m args below meth c H locs 0 0 (MQ below (va_Qi (fun r w => r = res ∧ w = (E, nx)) (hJ D kA S g n0) (fun q => n0 ≤ q)) args s 0 0 (fun q => n0 ≤ q)) (F0 m 21 ls []) := by
  intro  H locs ls M hl hf
  unfold f_Row_at_b21 at hf
  refine lv_iconst (v := (-1)) C.x C.b dRow_at_21 (by decide) ?_
  exact b_Row_at_22 C hr hlk hnm _ _ _ _ M (lv_sub hl [] rfl) hf
def f_Row_at (E : hE) (x0 : Nat) (x1 : Int32) : Option (Int32) := (
  if x1 < 0 then (
  f_Row_at_b21 E 
  ) else (
  (gI E (some x0) 0 1).bind fun v6 =>
  if v6 ≤ x1 then (
  f_Row_at_b21 E 
  ) else (
  (gR E (some x0) 0 0).bind fun v13 =>
  (aI E v13 0 x1).bind fun v17 =>
  f_Row_at_b22 E v17
  )
  ))
set_option maxHeartbeats 4000000 in
set_option maxRecDepth 100000 in
theorem c_Row_at {l : Launch} {D : va_G} {kA : Nat → ClassId} {S : hE} {g : Nat → Nat} {n0 nx : Nat} {x0 : Nat} {x1 : Int32} {E : hE} {res : Int32} (hf : f_Row_at E x0 x1 = some res) : Met l y_Row_at ws_Row_at rm_Row_at (va_Pc [va_rf (some x0), .int x1] (hJ D kA S g n0 (E, nx))) (va_Qi (fun r w => r = res ∧ w = (E, nx)) (hJ D kA S g n0) (fun q => n0 ≤ q)) 0 0 (fun q => n0 ≤ q) := by
  refine h_met (cc := prog_6_method_7_code) (maxL := 2) (ret := (some .int)) (lvs := [(0, va_rf (some x0)), (1, .int x1)]) zZ_k (by decide) rfl (by simp [lg_sl, va_rf_cat, cat_i, cat_l, cat_n]) (by simp [lv_args, va_rf_cat, cat_i, cat_l, cat_n]) ?_
  intro p e s m below meth c ls C M hr hlk hnm hl
  unfold f_Row_at at hf
  refine lv_iload_n C.x C.b dRow_at_0 rfl (lv_at hl 1 rfl) ?_
  refine lv_if_lt (tgt := 21) C.x C.b dRow_at_1 (by decide) (fun c1 => ?_) (fun c1 => ?_)
  · rw [if_pos c1] at hf
    exact b_Row_at_21 C hr hlk hnm _ _ _ M (lv_sub hl [] rfl) hf
  · rw [if_neg c1] at hf
    refine lv_iload_n C.x C.b dRow_at_4 rfl (lv_at hl 1 rfl) ?_
    refine w_aload_n C.x C.b dRow_at_5 rfl (lv_at hl 0 rfl) ?_
    obtain ⟨v6, h6, hf⟩ := Option.bind_eq_some_iff.mp hf
    refine w_getI C M h6 rfl (hm_in in_Row) (by decide) (List.mem_cons_of_mem _ wm_45) rfl dRow_at_6 ?_
    refine lv_icmp_ge (tgt := 21) C.x C.b dRow_at_9 (by decide) (fun c9 => ?_) (fun c9 => ?_)
    · rw [if_pos c9] at hf
      exact b_Row_at_21 C hr hlk hnm _ _ _ M (lv_sub hl [] rfl) hf
    · rw [if_neg c9] at hf
      refine w_aload_n C.x C.b dRow_at_12 rfl (lv_at hl 0 rfl) ?_
      obtain ⟨v13, h13, hf⟩ := Option.bind_eq_some_iff.mp hf
      refine w_getR C M h13 rfl (hm_in in_Row) (by decide) (List.mem_cons_of_mem _ wm_43) rfl dRow_at_13 ?_
      refine lv_iload_n C.x C.b dRow_at_16 rfl (lv_at hl 1 rfl) ?_
      obtain ⟨v17, h17, hf⟩ := Option.bind_eq_some_iff.mp hf
      refine w_iald C M h17 rfl dRow_at_17 ?_
      refine lv_goto (tgt := 22) C.x C.b dRow_at_18 (by decide) ?_
      exact b_Row_at_22 C hr hlk hnm _ _ _ _ M (lv_sub hl [] rfl) hf
theorem dRow_countIfThere_0 : decode prog_6_method_8_code 0 = .ok (.aload_n 0, 1) := by decide +kernel
theorem dRow_countIfThere_1 : decode prog_6_method_8_code 1 = .ok (.getfield 19, 3) := by decide +kernel
theorem dRow_countIfThere_4 : decode prog_6_method_8_code 4 = .ok (.ifCond .eq 10, 3) := by decide +kernel
theorem dRow_countIfThere_7 : decode prog_6_method_8_code 7 = .ok (.aload_n 0, 1) := by decide +kernel
theorem dRow_countIfThere_8 : decode prog_6_method_8_code 8 = .ok (.getfield 15, 3) := by decide +kernel
theorem dRow_countIfThere_11 : decode prog_6_method_8_code 11 = .ok (.goto 4, 3) := by decide +kernel
theorem dRow_countIfThere_14 : decode prog_6_method_8_code 14 = .ok (.iconst (-1), 1) := by decide +kernel
theorem dRow_countIfThere_15 : decode prog_6_method_8_code 15 = .ok (.ireturn, 1) := by decide +kernel
abbrev rm_Row_countIfThere : Room := { frames := 0, cells := 0, slots := 0, locals := 0 }
def f_Row_countIfThere_b15 (E : hE) (t0 : Int32) : Option (Int32) := (
  some t0)
set_option maxHeartbeats 4000000 in
set_option maxRecDepth 100000 in
theorem b_Row_countIfThere_15 {p : Program} {l : Launch} {e : Env} {s : State} {m : MethodId} {args : Array Value} {below : List Frame} {meth : Method} {c : Code} {D : va_G} {kA : Nat → ClassId} {S : hE} {g : Nat → Nat} {n0 nx : Nat} {E : hE} {res : Int32} (C : hX p s m args c prog_6_method_8_code 1 R_Row ws_Row_countIfThere D kA S g n0) (hr : meth.sig.returnType = (some .int)) (hlk : meth.locks = false) (hnm : meth.name = "countIfThere") : ∀ (t0 : Int32) (H : Heap) (locs : List Loc) (ls : Array Slot), hY D kA n0 s E nx H locs → lv_has ls 1 [] → f_Row_countIfThere_b15 E  t0 = some res → W p l e rm_Row_countIfThere s m args below meth c H locs 0 0 (MQ below (va_Qi (fun r w => r = res ∧ w = (E, nx)) (hJ D kA S g n0) (fun q => n0 ≤ q)) args s 0 0 (fun q => n0 ≤ q)) (F0 m 15 ls [.int t0]) := by
  intro t0 H locs ls M hl hf
  unfold f_Row_countIfThere_b15 at hf
  cases hf
  exact w_iret C M hr hlk rfl (Nat.le_refl _) (Nat.le_refl _) dRow_countIfThere_15 rfl rfl
def f_Row_countIfThere (E : hE) (x0 : Nat) : Option (Int32) := (
  (gI E (some x0) 0 2).bind fun v1 =>
  if v1 = 0 then (
  f_Row_countIfThere_b15 E (-1)
  ) else (
  (gI E (some x0) 0 1).bind fun v8 =>
  f_Row_countIfThere_b15 E v8
  ))
set_option maxHeartbeats 4000000 in
set_option maxRecDepth 100000 in
theorem c_Row_countIfThere {l : Launch} {D : va_G} {kA : Nat → ClassId} {S : hE} {g : Nat → Nat} {n0 nx : Nat} {x0 : Nat} {E : hE} {res : Int32} (hf : f_Row_countIfThere E x0 = some res) : Met l y_Row_countIfThere ws_Row_countIfThere rm_Row_countIfThere (va_Pc [va_rf (some x0)] (hJ D kA S g n0 (E, nx))) (va_Qi (fun r w => r = res ∧ w = (E, nx)) (hJ D kA S g n0) (fun q => n0 ≤ q)) 0 0 (fun q => n0 ≤ q) := by
  refine h_met (cc := prog_6_method_8_code) (maxL := 1) (ret := (some .int)) (lvs := [(0, va_rf (some x0))]) zZ_k (by decide) rfl (by simp [lg_sl, va_rf_cat, cat_i, cat_l, cat_n]) (by simp [lv_args, va_rf_cat, cat_i, cat_l, cat_n]) ?_
  intro p e s m below meth c ls C M hr hlk hnm hl
  unfold f_Row_countIfThere at hf
  refine w_aload_n C.x C.b dRow_countIfThere_0 rfl (lv_at hl 0 rfl) ?_
  obtain ⟨v1, h1, hf⟩ := Option.bind_eq_some_iff.mp hf
  refine w_getI C M h1 rfl (hm_in in_Row) (by decide) (List.mem_cons_of_mem _ wm_48) rfl dRow_countIfThere_1 ?_
  refine lv_if_eq (tgt := 14) C.x C.b dRow_countIfThere_4 (by decide) (fun c4 => ?_) (fun c4 => ?_)
  · rw [if_pos c4] at hf
    refine lv_iconst (v := (-1)) C.x C.b dRow_countIfThere_14 (by decide) ?_
    exact b_Row_countIfThere_15 C hr hlk hnm _ _ _ _ M (lv_sub hl [] rfl) hf
  · rw [if_neg c4] at hf
    refine w_aload_n C.x C.b dRow_countIfThere_7 rfl (lv_at hl 0 rfl) ?_
    obtain ⟨v8, h8, hf⟩ := Option.bind_eq_some_iff.mp hf
    refine w_getI C M h8 rfl (hm_in in_Row) (by decide) (List.mem_cons_of_mem _ wm_45) rfl dRow_countIfThere_8 ?_
    refine lv_goto (tgt := 15) C.x C.b dRow_countIfThere_11 (by decide) ?_
    exact b_Row_countIfThere_15 C hr hlk hnm _ _ _ _ M (lv_sub hl [] rfl) hf
theorem dArrs_fill_0 : decode prog_25_method_103_code 0 = .ok (.iconst 0, 1) := by decide +kernel
theorem dArrs_fill_1 : decode prog_25_method_103_code 1 = .ok (.istore_n 2, 1) := by decide +kernel
theorem dArrs_fill_2 : decode prog_25_method_103_code 2 = .ok (.aload_n 0, 1) := by decide +kernel
theorem dArrs_fill_3 : decode prog_25_method_103_code 3 = .ok (.arraylength, 1) := by decide +kernel
theorem dArrs_fill_4 : decode prog_25_method_103_code 4 = .ok (.istore_n 3, 1) := by decide +kernel
theorem dArrs_fill_5 : decode prog_25_method_103_code 5 = .ok (.iload_n 2, 1) := by decide +kernel
theorem dArrs_fill_6 : decode prog_25_method_103_code 6 = .ok (.iload_n 3, 1) := by decide +kernel
theorem dArrs_fill_7 : decode prog_25_method_103_code 7 = .ok (.if_icmp .ge 13, 3) := by decide +kernel
theorem dArrs_fill_10 : decode prog_25_method_103_code 10 = .ok (.aload_n 0, 1) := by decide +kernel
theorem dArrs_fill_11 : decode prog_25_method_103_code 11 = .ok (.iload_n 2, 1) := by decide +kernel
theorem dArrs_fill_12 : decode prog_25_method_103_code 12 = .ok (.iload_n 1, 1) := by decide +kernel
theorem dArrs_fill_13 : decode prog_25_method_103_code 13 = .ok (.iastore, 1) := by decide +kernel
theorem dArrs_fill_14 : decode prog_25_method_103_code 14 = .ok (.iinc 2 1, 3) := by decide +kernel
theorem dArrs_fill_17 : decode prog_25_method_103_code 17 = .ok (.goto (-12), 3) := by decide +kernel
theorem dArrs_fill_20 : decode prog_25_method_103_code 20 = .ok (.return_, 1) := by decide +kernel
abbrev rm_Arrs_fill : Room := { frames := 0, cells := 0, slots := 0, locals := 0 }
def f_Arrs_fill_b5 (N : Nat) : Nat → Option Nat → Int32 → Int32 → Int32 → hE → Option (hE)
  | 0, _, _, _, _, _ => none
  | n + 1, y0, y1, y2, y3, E => (
  if y3 ≤ y2 then (
  some E
  ) else (
  (tI E y0 0 y2 y1).bind fun E13 =>
  f_Arrs_fill_b5 N n y0 y1 (y2 + 1) y3 E13
  ))
set_option maxHeartbeats 4000000 in
set_option maxRecDepth 100000 in
theorem b_Arrs_fill_5 {p : Program} {l : Launch} {e : Env} {s : State} {m : MethodId} {args : Array Value} {below : List Frame} {meth : Method} {c : Code} {D : va_G} {kA : Nat → ClassId} {S : hE} {g : Nat → Nat} {n0 nx : Nat} {N : Nat} {res : hE} (C : hX p s m args c prog_25_method_103_code 4 R_Arrs ws_Arrs_fill D kA S g n0) (hr : meth.sig.returnType = none) (hlk : meth.locks = false) (hnm : meth.name = "fill") : ∀ n : Nat, ∀ (y0 : Option Nat) (y1 : Int32) (y2 : Int32) (y3 : Int32) (E : hE) (H : Heap) (locs : List Loc) (ls : Array Slot), hY D kA n0 s E nx H locs → lv_has ls 4 [(0, va_rf y0), (1, .int y1), (2, .int y2), (3, .int y3)] → f_Arrs_fill_b5 N n y0 y1 y2 y3 E = some res → W p l e rm_Arrs_fill s m args below meth c H locs 0 0 (MQ below (va_Qv (fun w => w = (res, nx)) (hJ D kA S g n0) (fun q => n0 ≤ q)) args s 0 0 (fun q => n0 ≤ q)) (F0 m 5 ls []) := by
  intro n
  induction n with
  | zero =>
    intro y0 y1 y2 y3 E H locs ls M hl hf
    simp [f_Arrs_fill_b5] at hf
  | succ n ih =>
    intro y0 y1 y2 y3 E H locs ls M hl hf
    rw [f_Arrs_fill_b5] at hf
    refine lv_iload_n C.x C.b dArrs_fill_5 rfl (lv_at hl 2 rfl) ?_
    refine lv_iload_n C.x C.b dArrs_fill_6 rfl (lv_at hl 3 rfl) ?_
    refine lv_icmp_ge (tgt := 20) C.x C.b dArrs_fill_7 (by decide) (fun c7 => ?_) (fun c7 => ?_)
    · rw [if_pos c7] at hf
      cases hf
      exact w_vret C M hr hlk (Nat.le_refl _) (Nat.le_refl _) dArrs_fill_20 rfl
    · rw [if_neg c7] at hf
      refine w_aload_n C.x C.b dArrs_fill_10 rfl (lv_at hl 0 rfl) ?_
      refine lv_iload_n C.x C.b dArrs_fill_11 rfl (lv_at hl 2 rfl) ?_
      refine lv_iload_n C.x C.b dArrs_fill_12 rfl (lv_at hl 1 rfl) ?_
      obtain ⟨E13, h13, hf⟩ := Option.bind_eq_some_iff.mp hf
      refine w_iast C M h13 rfl dArrs_fill_13 (fun H locs M => ?_)
      refine lv_iinc (v := y2 + 1) (lv' := [(2, .int (y2 + 1)), (0, va_rf y0), (1, .int y1), (3, .int y3)]) C.x C.b dArrs_fill_14 hl (k := 2) rfl rfl (by decide) rfl (fun ls hl => ?_)
      refine lv_goto (tgt := 5) C.x C.b dArrs_fill_17 (by decide) ?_
      exact ih _ _ _ _ _ _ _ _ M (lv_sub hl [1, 2, 0, 3] rfl) hf
def f_Arrs_fill (N : Nat) (x0 : Option Nat) (x1 : Int32) (E : hE) : Option (hE) := (
  (aL E x0 0).bind fun v3 =>
  f_Arrs_fill_b5 N N x0 x1 0 v3 E)
set_option maxHeartbeats 4000000 in
set_option maxRecDepth 100000 in
theorem c_Arrs_fill {l : Launch} {D : va_G} {kA : Nat → ClassId} {S : hE} {g : Nat → Nat} {n0 nx : Nat} {N : Nat} {x0 : Option Nat} {x1 : Int32} {E : hE} {res : hE} (hf : f_Arrs_fill N x0 x1 E = some res) : Met l y_Arrs_fill ws_Arrs_fill rm_Arrs_fill (va_Pc [va_rf x0, .int x1] (hJ D kA S g n0 (E, nx))) (va_Qv (fun w => w = (res, nx)) (hJ D kA S g n0) (fun q => n0 ≤ q)) 0 0 (fun q => n0 ≤ q) := by
  refine h_met (cc := prog_25_method_103_code) (maxL := 4) (ret := none) (lvs := [(0, va_rf x0), (1, .int x1)]) zZ_k (by decide) rfl (by simp [lg_sl, va_rf_cat, cat_i, cat_l, cat_n]) (by simp [lv_args, va_rf_cat, cat_i, cat_l, cat_n]) ?_
  intro p e s m below meth c ls C M hr hlk hnm hl
  unfold f_Arrs_fill at hf
  refine lv_iconst (v := 0) C.x C.b dArrs_fill_0 (by decide) ?_
  refine lv_istore_n (lv' := [(2, .int 0), (0, va_rf x0), (1, .int x1)]) C.x C.b dArrs_fill_1 rfl hl (by decide) rfl (fun ls hl => ?_)
  refine w_aload_n C.x C.b dArrs_fill_2 rfl (lv_at hl 1 rfl) ?_
  obtain ⟨v3, h3, hf⟩ := Option.bind_eq_some_iff.mp hf
  refine w_alen C M h3 rfl dArrs_fill_3 ?_
  refine lv_istore_n (lv' := [(3, .int v3), (2, .int 0), (0, va_rf x0), (1, .int x1)]) C.x C.b dArrs_fill_4 rfl hl (by decide) rfl (fun ls hl => ?_)
  exact b_Arrs_fill_5 C hr hlk hnm N _ _ _ _ _ _ _ _ M (lv_sub hl [2, 3, 1, 0] rfl) hf
