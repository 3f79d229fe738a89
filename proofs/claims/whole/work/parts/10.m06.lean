/-! m06: by wip/whole/gen.py -/
theorem dM_byteOf_0 : decode prog_11_method_50_code 0 = .ok (.iload_n 1, 1) := by decide +kernel
theorem dM_byteOf_1 : decode prog_11_method_50_code 1 = .ok (.invokestatic 206, 3) := by decide +kernel
theorem dM_byteOf_4 : decode prog_11_method_50_code 4 = .ok (.ifCond .eq 42, 3) := by decide +kernel
theorem dM_byteOf_7 : decode prog_11_method_50_code 7 = .ok (.aload_n 0, 1) := by decide +kernel
theorem dM_byteOf_8 : decode prog_11_method_50_code 8 = .ok (.getfield 42, 3) := by decide +kernel
theorem dM_byteOf_11 : decode prog_11_method_50_code 11 = .ok (.iload_n 1, 1) := by decide +kernel
theorem dM_byteOf_12 : decode prog_11_method_50_code 12 = .ok (.baload, 1) := by decide +kernel
theorem dM_byteOf_13 : decode prog_11_method_50_code 13 = .ok (.ifCond .eq 33, 3) := by decide +kernel
theorem dM_byteOf_16 : decode prog_11_method_50_code 16 = .ok (.iload_n 2, 1) := by decide +kernel
theorem dM_byteOf_17 : decode prog_11_method_50_code 17 = .ok (.iconst 0, 1) := by decide +kernel
theorem dM_byteOf_18 : decode prog_11_method_50_code 18 = .ok (.aload_n 0, 1) := by decide +kernel
theorem dM_byteOf_19 : decode prog_11_method_50_code 19 = .ok (.getfield 45, 3) := by decide +kernel
theorem dM_byteOf_22 : decode prog_11_method_50_code 22 = .ok (.iload_n 1, 1) := by decide +kernel
theorem dM_byteOf_23 : decode prog_11_method_50_code 23 = .ok (.iaload, 1) := by decide +kernel
theorem dM_byteOf_24 : decode prog_11_method_50_code 24 = .ok (.iconst 1, 1) := by decide +kernel
theorem dM_byteOf_25 : decode prog_11_method_50_code 25 = .ok (.isub, 1) := by decide +kernel
theorem dM_byteOf_26 : decode prog_11_method_50_code 26 = .ok (.invokestatic 83, 3) := by decide +kernel
theorem dM_byteOf_29 : decode prog_11_method_50_code 29 = .ok (.ifCond .eq 17, 3) := by decide +kernel
theorem dM_byteOf_32 : decode prog_11_method_50_code 32 = .ok (.aload_n 0, 1) := by decide +kernel
theorem dM_byteOf_33 : decode prog_11_method_50_code 33 = .ok (.getfield 48, 3) := by decide +kernel
theorem dM_byteOf_36 : decode prog_11_method_50_code 36 = .ok (.bipush 40, 2) := by decide +kernel
theorem dM_byteOf_38 : decode prog_11_method_50_code 38 = .ok (.iload_n 1, 1) := by decide +kernel
theorem dM_byteOf_39 : decode prog_11_method_50_code 39 = .ok (.imul, 1) := by decide +kernel
theorem dM_byteOf_40 : decode prog_11_method_50_code 40 = .ok (.iload_n 2, 1) := by decide +kernel
theorem dM_byteOf_41 : decode prog_11_method_50_code 41 = .ok (.iadd, 1) := by decide +kernel
theorem dM_byteOf_42 : decode prog_11_method_50_code 42 = .ok (.iaload, 1) := by decide +kernel
theorem dM_byteOf_43 : decode prog_11_method_50_code 43 = .ok (.goto 4, 3) := by decide +kernel
theorem dM_byteOf_46 : decode prog_11_method_50_code 46 = .ok (.iconst (-1), 1) := by decide +kernel
theorem dM_byteOf_47 : decode prog_11_method_50_code 47 = .ok (.ireturn, 1) := by decide +kernel
abbrev rm_M_byteOf : Room := { frames := 2, cells := 0, slots := 0, locals := 42 }
def f_M_byteOf_b47 (E : hE) (t0 : Int32) : Option (Int32) := (
  some t0)
set_option maxHeartbeats 4000000 in
set_option maxRecDepth 100000 in
theorem b_M_byteOf_47 {p : Program} {l : Launch} {e : Env} {s : State} {m : MethodId} {args : Array Value} {below : List Frame} {meth : Method} {c : Code} {D : va_G} {kA : Nat → ClassId} {S : hE} {g : Nat → Nat} {n0 nx : Nat} {E : hE} {res : Int32} (C : hX p s m args c prog_11_method_50_code 3 R_M ws_M_byteOf D kA S g n0) (hr : meth.sig.returnType = (some .int)) (hlk : meth.locks = false) (hnm : meth.name = "byteOf") : ∀ (t0 : Int32) (H : Heap) (locs : List Loc) (ls : Array Slot), hY D kA n0 s E nx H locs → lv_has ls 3 [] → f_M_byteOf_b47 E  t0 = some res → W p l e rm_M_byteOf s m args below meth c H locs 0 0 (MQ below (va_Qi (fun r w => r = res ∧ w = (E, nx)) (hJ D kA S g n0) (fun q => n0 ≤ q)) args s 0 0 (fun q => n0 ≤ q)) (F0 m 47 ls [.int t0]) := by
  intro t0 H locs ls M hl hf
  unfold f_M_byteOf_b47 at hf
  cases hf
  exact w_iret C M hr hlk rfl (Nat.le_refl _) (Nat.le_refl _) dM_byteOf_47 rfl rfl
def f_M_byteOf_b46 (E : hE) : Option (Int32) := (
  f_M_byteOf_b47 E (-1))
set_option maxHeartbeats 4000000 in
set_option maxRecDepth 100000 in
theorem b_M_byteOf_46 {p : Program} {l : Launch} {e : Env} {s : State} {m : MethodId} {args : Array Value} {below : List Frame} {meth : Method} {c : Code} {D : va_G} {kA : Nat → ClassId} {S : hE} {g : Nat → Nat} {n0 nx : Nat} {E : hE} {res : Int32} (C : hX p s m args c prog_11_method_50_code 3 R_M ws_M_byteOf D kA S g n0) (hr : meth.sig.returnType = (some .int)) (hlk : meth.locks = false) (hnm : meth.name = "byteOf") : ∀  (H : Heap) (locs : List Loc) (ls : Array Slot), hY D kA n0 s E nx H locs → lv_has ls 3 [] → f_M_byteOf_b46 E   = some res → W p l e rm_M_byteOf s m args below meth c H locs 0 0 (MQ below (va_Qi (fun r w => r = res ∧ w = (E, nx)) (hJ D kA S g n0) (fun q => n0 ≤ q)) args s 0 0 (fun q => n0 ≤ q)) (F0 m 46 ls []) := by
  intro  H locs ls M hl hf
  unfold f_M_byteOf_b46 at hf
  refine lv_iconst (v := (-1)) C.x C.b dM_byteOf_46 (by decide) ?_
  exact b_M_byteOf_47 C hr hlk hnm _ _ _ _ M (lv_sub hl [] rfl) hf
def f_M_byteOf (E : hE) (x0 : Nat) (x1 : Int32) (x2 : Int32) : Option (Int32) := (
  (f_M_isFile E x1).bind fun v1 =>
  if v1 = 0 then (
  f_M_byteOf_b46 E 
  ) else (
  (gR E (some x0) 7 12).bind fun v8 =>
  (aI E v8 1 x1).bind fun v12 =>
  if v12 = 0 then (
  f_M_byteOf_b46 E 
  ) else (
  (gR E (some x0) 7 13).bind fun v19 =>
  (aI E v19 0 x1).bind fun v23 =>
  (f_M_in E x2 0 (v23 - 1)).bind fun v26 =>
  if v26 = 0 then (
  f_M_byteOf_b46 E 
  ) else (
  (gR E (some x0) 7 14).bind fun v33 =>
  (aI E v33 0 ((40 * x1) + x2)).bind fun v42 =>
  f_M_byteOf_b47 E v42
  )
  )
  ))
set_option maxHeartbeats 4000000 in
set_option maxRecDepth 100000 in
theorem c_M_byteOf {l : Launch} {D : va_G} {kA : Nat → ClassId} {S : hE} {g : Nat → Nat} {n0 nx : Nat} {x0 : Nat} {x1 : Int32} {x2 : Int32} {E : hE} {res : Int32} (hf : f_M_byteOf E x0 x1 x2 = some res) : Met l y_M_byteOf ws_M_byteOf rm_M_byteOf (va_Pc [va_rf (some x0), .int x1, .int x2] (hJ D kA S g n0 (E, nx))) (va_Qi (fun r w => r = res ∧ w = (E, nx)) (hJ D kA S g n0) (fun q => n0 ≤ q)) 0 0 (fun q => n0 ≤ q) := by
  refine h_met (cc := prog_11_method_50_code) (maxL := 3) (ret := (some .int)) (lvs := [(0, va_rf (some x0)), (1, .int x1), (2, .int x2)]) zZ_k (by decide) rfl (by simp [lg_sl, va_rf_cat, cat_i, cat_l, cat_n]) (by simp [lv_args, va_rf_cat, cat_i, cat_l, cat_n]) ?_
  intro p e s m below meth c ls C M hr hlk hnm hl
  unfold f_M_byteOf at hf
  refine lv_iload_n C.x C.b dM_byteOf_0 rfl (lv_at hl 1 rfl) ?_
  obtain ⟨v1, h1, hf⟩ := Option.bind_eq_some_iff.mp hf
  refine w_ci M (w_runS C M (c_M_isFile h1) (cwS 1 C.ts (hgS wm_926 wm_927 wm_6 wm_928) rfl rfl rfl (by decide +kernel) ⟨Nat.le_of_ble_eq_true rfl, Nat.le_of_ble_eq_true rfl⟩) rfl hl.1 rfl (Nat.zero_le _) dM_byteOf_1 ⟨Nat.le_refl _, Nat.le_refl _⟩) (fun H locs M => ?_)
  refine lv_if_eq (tgt := 46) C.x C.b dM_byteOf_4 (by decide) (fun c4 => ?_) (fun c4 => ?_)
  · rw [if_pos c4] at hf
    exact b_M_byteOf_46 C hr hlk hnm _ _ _ M (lv_sub hl [] rfl) hf
  · rw [if_neg c4] at hf
    refine w_aload_n C.x C.b dM_byteOf_7 rfl (lv_at hl 0 rfl) ?_
    obtain ⟨v8, h8, hf⟩ := Option.bind_eq_some_iff.mp hf
    refine w_getR C M h8 rfl (hm_in in_M) (by decide) (List.mem_cons_of_mem _ wm_735) rfl dM_byteOf_8 ?_
    refine lv_iload_n C.x C.b dM_byteOf_11 rfl (lv_at hl 1 rfl) ?_
    obtain ⟨v12, h12, hf⟩ := Option.bind_eq_some_iff.mp hf
    refine w_zald C M h12 rfl dM_byteOf_12 ?_
    refine lv_if_eq (tgt := 46) C.x C.b dM_byteOf_13 (by decide) (fun c13 => ?_) (fun c13 => ?_)
    · rw [if_pos c13] at hf
      exact b_M_byteOf_46 C hr hlk hnm _ _ _ M (lv_sub hl [] rfl) hf
    · rw [if_neg c13] at hf
      refine lv_iload_n C.x C.b dM_byteOf_16 rfl (lv_at hl 2 rfl) ?_
      refine lv_iconst (v := 0) C.x C.b dM_byteOf_17 (by decide) ?_
      refine w_aload_n C.x C.b dM_byteOf_18 rfl (lv_at hl 0 rfl) ?_
      obtain ⟨v19, h19, hf⟩ := Option.bind_eq_some_iff.mp hf
      refine w_getR C M h19 rfl (hm_in in_M) (by decide) (List.mem_cons_of_mem _ wm_736) rfl dM_byteOf_19 ?_
      refine lv_iload_n C.x C.b dM_byteOf_22 rfl (lv_at hl 1 rfl) ?_
      obtain ⟨v23, h23, hf⟩ := Option.bind_eq_some_iff.mp hf
      refine w_iald C M h23 rfl dM_byteOf_23 ?_
      refine lv_iconst (v := 1) C.x C.b dM_byteOf_24 (by decide) ?_
      refine lv_isub C.x C.b dM_byteOf_25 ?_
      obtain ⟨v26, h26, hf⟩ := Option.bind_eq_some_iff.mp hf
      refine w_ci M (w_runS C M (c_M_in h26) (cwS 3 C.ts (hgS wm_829 wm_830 wm_6 wm_831) rfl rfl rfl (by decide +kernel) ⟨Nat.le_of_ble_eq_true rfl, Nat.le_of_ble_eq_true rfl⟩) rfl hl.1 rfl (Nat.zero_le _) dM_byteOf_26 ⟨Nat.le_refl _, Nat.le_refl _⟩) (fun H locs M => ?_)
      refine lv_if_eq (tgt := 46) C.x C.b dM_byteOf_29 (by decide) (fun c29 => ?_) (fun c29 => ?_)
      · rw [if_pos c29] at hf
        exact b_M_byteOf_46 C hr hlk hnm _ _ _ M (lv_sub hl [] rfl) hf
      · rw [if_neg c29] at hf
        refine w_aload_n C.x C.b dM_byteOf_32 rfl (lv_at hl 0 rfl) ?_
        obtain ⟨v33, h33, hf⟩ := Option.bind_eq_some_iff.mp hf
        refine w_getR C M h33 rfl (hm_in in_M) (by decide) (List.mem_cons_of_mem _ wm_737) rfl dM_byteOf_33 ?_
        refine lv_bipush (v := 40) C.x C.b dM_byteOf_36 (by decide) ?_
        refine lv_iload_n C.x C.b dM_byteOf_38 rfl (lv_at hl 1 rfl) ?_
        refine lv_imul C.x C.b dM_byteOf_39 ?_
        refine lv_iload_n C.x C.b dM_byteOf_40 rfl (lv_at hl 2 rfl) ?_
        refine lv_iadd C.x C.b dM_byteOf_41 ?_
        obtain ⟨v42, h42, hf⟩ := Option.bind_eq_some_iff.mp hf
        refine w_iald C M h42 rfl dM_byteOf_42 ?_
        refine lv_goto (tgt := 47) C.x C.b dM_byteOf_43 (by decide) ?_
        exact b_M_byteOf_47 C hr hlk hnm _ _ _ _ M (lv_sub hl [] rfl) hf
theorem dRow_init_0 : decode prog_6_method_1_code 0 = .ok (.aload_n 0, 1) := by decide +kernel
theorem dRow_init_1 : decode prog_6_method_1_code 1 = .ok (.invokespecial 3, 3) := by decide +kernel
theorem dRow_init_4 : decode prog_6_method_1_code 4 = .ok (.aload_n 0, 1) := by decide +kernel
theorem dRow_init_5 : decode prog_6_method_1_code 5 = .ok (.iload_n 1, 1) := by decide +kernel
theorem dRow_init_6 : decode prog_6_method_1_code 6 = .ok (.newarray .int, 2) := by decide +kernel
theorem dRow_init_8 : decode prog_6_method_1_code 8 = .ok (.putfield 9, 3) := by decide +kernel
theorem dRow_init_11 : decode prog_6_method_1_code 11 = .ok (.return_, 1) := by decide +kernel
abbrev rm_Row_init : Room := { frames := 1, cells := 1, slots := 400, locals := 40 }
def f_Row_init  (x0 : Nat) (x1 : Int32) (E : hE) (nx : Nat) : Option (hE × Nat) := (
  (nA E nx 0 x1 400).bind fun E6 =>
  (sR E6 (some x0) 0 0 (some nx)).bind fun E8 =>
  some (E8, nx + 1))
set_option maxHeartbeats 4000000 in
set_option maxRecDepth 100000 in
theorem c_Row_init {l : Launch} {D : va_G} {kA : Nat → ClassId} {S : hE} {g : Nat → Nat} {n0 nx : Nat} {x0 : Nat} {x1 : Int32} {E : hE} {res : hE × Nat} (hf : f_Row_init x0 x1 E nx = some res) : Met l y_Row_init ws_Row_init rm_Row_init (va_Pc [va_rf (some x0), .int x1] (hJ D kA S g n0 (E, nx))) (va_Qv (fun w => w = res) (hJ D kA S g n0) (fun q => n0 ≤ q)) 1 400 (fun q => n0 ≤ q) := by
  refine h_met (cc := prog_6_method_1_code) (maxL := 2) (ret := none) (lvs := [(0, va_rf (some x0)), (1, .int x1)]) zZ_k (by decide) rfl (by simp [lg_sl, va_rf_cat, cat_i, cat_l, cat_n]) (by simp [lv_args, va_rf_cat, cat_i, cat_l, cat_n]) ?_
  intro p e s m below meth c ls C M hr hlk hnm hl
  unfold f_Row_init at hf
  refine w_aload_n C.x C.b dRow_init_0 rfl (lv_at hl 0 rfl) ?_
  refine W.objInit C.x C.b C.ow (C.ts (.methodLink R_Row 3 objectInit) (List.mem_cons_of_mem _ wm_42)) (C.ts (.instanceMethod objectInit) (List.mem_cons_of_mem _ wm_29)) (C.ts _ (List.mem_cons_of_mem _ wm_30)) rfl (by rw [C.ml]; exact hl.1) rfl dRow_init_1 (Nat.le_of_ble_eq_true rfl) (Nat.le_of_ble_eq_true rfl) ?_
  refine W.eq (g2 := F0 m 4 ls []) rfl ?_
  refine w_aload_n C.x C.b dRow_init_4 rfl (lv_at hl 0 rfl) ?_
  refine lv_iload_n C.x C.b dRow_init_5 rfl (lv_at hl 1 rfl) ?_
  obtain ⟨E6, h6, hf⟩ := Option.bind_eq_some_iff.mp hf
  refine w_newI (atype := .int) (ty := .int) C M h6 (List.mem_cons_of_mem _ wm_57) rfl rfl (fun _ _ h => h) (fun _ _ => rfl) (by decide) (by show _ ≤ 1; omega) (by show _ ≤ 400; omega) dRow_init_6 (fun H M => ?_)
  obtain ⟨E8, h8, hf⟩ := Option.bind_eq_some_iff.mp hf
  refine w_putVF (ty := (.array .int)) C M ty_Row h8 rfl (hm_in in_Row) tyok_Row nm_Row (by decide) (List.mem_cons_of_mem _ wm_43) rfl rfl hnm rfl (by decide +kernel) (narrow_a _ _) (fits_a _ _) dRow_init_8 (fun H locs M => ?_)
  cases hf
  exact w_vret C M hr hlk (by omega) (by omega) dRow_init_11 rfl
theorem dRow_hasRoomFor_0 : decode prog_6_method_2_code 0 = .ok (.iload_n 1, 1) := by decide +kernel
theorem dRow_hasRoomFor_1 : decode prog_6_method_2_code 1 = .ok (.aload_n 0, 1) := by decide +kernel
theorem dRow_hasRoomFor_2 : decode prog_6_method_2_code 2 = .ok (.getfield 9, 3) := by decide +kernel
theorem dRow_hasRoomFor_5 : decode prog_6_method_2_code 5 = .ok (.arraylength, 1) := by decide +kernel
theorem dRow_hasRoomFor_6 : decode prog_6_method_2_code 6 = .ok (.aload_n 0, 1) := by decide +kernel
theorem dRow_hasRoomFor_7 : decode prog_6_method_2_code 7 = .ok (.getfield 15, 3) := by decide +kernel
theorem dRow_hasRoomFor_10 : decode prog_6_method_2_code 10 = .ok (.isub, 1) := by decide +kernel
theorem dRow_hasRoomFor_11 : decode prog_6_method_2_code 11 = .ok (.if_icmp .gt 7, 3) := by decide +kernel
theorem dRow_hasRoomFor_14 : decode prog_6_method_2_code 14 = .ok (.iconst 1, 1) := by decide +kernel
theorem dRow_hasRoomFor_15 : decode prog_6_method_2_code 15 = .ok (.goto 4, 3) := by decide +kernel
theorem dRow_hasRoomFor_18 : decode prog_6_method_2_code 18 = .ok (.iconst 0, 1) := by decide +kernel
theorem dRow_hasRoomFor_19 : decode prog_6_method_2_code 19 = .ok (.ireturn, 1) := by decide +kernel
abbrev rm_Row_hasRoomFor : Room := { frames := 0, cells := 0, slots := 0, locals := 0 }
def f_Row_hasRoomFor_b19 (E : hE) (t0 : Int32) : Option (Int32) := (
  (bZ t0).bind fun v19 =>
  some v19)
set_option maxHeartbeats 4000000 in
set_option maxRecDepth 100000 in
theorem b_Row_hasRoomFor_19 {p : Program} {l : Launch} {e : Env} {s : State} {m : MethodId} {args : Array Value} {below : List Frame} {meth : Method} {c : Code} {D : va_G} {kA : Nat → ClassId} {S : hE} {g : Nat → Nat} {n0 nx : Nat} {E : hE} {res : Int32} (C : hX p s m args c prog_6_method_2_code 2 R_Row ws_Row_hasRoomFor D kA S g n0) (hr : meth.sig.returnType = (some .boolean)) (hlk : meth.locks = false) (hnm : meth.name = "hasRoomFor") : ∀ (t0 : Int32) (H : Heap) (locs : List Loc) (ls : Array Slot), hY D kA n0 s E nx H locs → lv_has ls 2 [] → f_Row_hasRoomFor_b19 E  t0 = some res → W p l e rm_Row_hasRoomFor s m args below meth c H locs 0 0 (MQ below (va_Qi (fun r w => r = res ∧ w = (E, nx)) (hJ D kA S g n0) (fun q => n0 ≤ q)) args s 0 0 (fun q => n0 ≤ q)) (F0 m 19 ls [.int t0]) := by
  intro t0 H locs ls M hl hf
  unfold f_Row_hasRoomFor_b19 at hf
  obtain ⟨v19, h19, hf⟩ := Option.bind_eq_some_iff.mp hf
  obtain ⟨rfl, g19⟩ := bZ_some h19
  cases hf
  exact w_iret C M hr hlk (narrow_z g19) (Nat.le_refl _) (Nat.le_refl _) dRow_hasRoomFor_19 rfl rfl
def f_Row_hasRoomFor (E : hE) (x0 : Nat) (x1 : Int32) : Option (Int32) := (
  (gR E (some x0) 0 0).bind fun v2 =>
  (aL E v2 0).bind fun v5 =>
  (gI E (some x0) 0 1).bind fun v7 =>
  if (v5 - v7) < x1 then (
  f_Row_hasRoomFor_b19 E 0
  ) else (
  f_Row_hasRoomFor_b19 E 1
  ))
set_option maxHeartbeats 4000000 in
set_option maxRecDepth 100000 in
theorem c_Row_hasRoomFor {l : Launch} {D : va_G} {kA : Nat → ClassId} {S : hE} {g : Nat → Nat} {n0 nx : Nat} {x0 : Nat} {x1 : Int32} {E : hE} {res : Int32} (hf : f_Row_hasRoomFor E x0 x1 = some res) : Met l y_Row_hasRoomFor ws_Row_hasRoomFor rm_Row_hasRoomFor (va_Pc [va_rf (some x0), .int x1] (hJ D kA S g n0 (E, nx))) (va_Qi (fun r w => r = res ∧ w = (E, nx)) (hJ D kA S g n0) (fun q => n0 ≤ q)) 0 0 (fun q => n0 ≤ q) := by
  refine h_met (cc := prog_6_method_2_code) (maxL := 2) (ret := (some .boolean)) (lvs := [(0, va_rf (some x0)), (1, .int x1)]) zZ_k (by decide) rfl (by simp [lg_sl, va_rf_cat, cat_i, cat_l, cat_n]) (by simp [lv_args, va_rf_cat, cat_i, cat_l, cat_n]) ?_
  intro p e s m below meth c ls C M hr hlk hnm hl
  unfold f_Row_hasRoomFor at hf
  refine lv_iload_n C.x C.b dRow_hasRoomFor_0 rfl (lv_at hl 1 rfl) ?_
  refine w_aload_n C.x C.b dRow_hasRoomFor_1 rfl (lv_at hl 0 rfl) ?_
  obtain ⟨v2, h2, hf⟩ := Option.bind_eq_some_iff.mp hf
  refine w_getR C M h2 rfl (hm_in in_Row) (by decide) (List.mem_cons_of_mem _ wm_43) rfl dRow_hasRoomFor_2 ?_
  obtain ⟨v5, h5, hf⟩ := Option.bind_eq_some_iff.mp hf
  refine w_alen C M h5 rfl dRow_hasRoomFor_5 ?_
  refine w_aload_n C.x C.b dRow_hasRoomFor_6 rfl (lv_at hl 0 rfl) ?_
  obtain ⟨v7, h7, hf⟩ := Option.bind_eq_some_iff.mp hf
  refine w_getI C M h7 rfl (hm_in in_Row) (by decide) (List.mem_cons_of_mem _ wm_45) rfl dRow_hasRoomFor_7 ?_
  refine lv_isub C.x C.b dRow_hasRoomFor_10 ?_
  refine lv_icmp_gt (tgt := 18) C.x C.b dRow_hasRoomFor_11 (by decide) (fun c11 => ?_) (fun c11 => ?_)
  · rw [if_pos c11] at hf
    refine lv_iconst (v := 0) C.x C.b dRow_hasRoomFor_18 (by decide) ?_
    exact b_Row_hasRoomFor_19 C hr hlk hnm _ _ _ _ M (lv_sub hl [] rfl) hf
  · rw [if_neg c11] at hf
    refine lv_iconst (v := 1) C.x C.b dRow_hasRoomFor_14 (by decide) ?_
    refine lv_goto (tgt := 19) C.x C.b dRow_hasRoomFor_15 (by decide) ?_
    exact b_Row_hasRoomFor_19 C hr hlk hnm _ _ _ _ M (lv_sub hl [] rfl) hf
theorem dRow_add_0 : decode prog_6_method_3_code 0 = .ok (.aload_n 0, 1) := by decide +kernel
theorem dRow_add_1 : decode prog_6_method_3_code 1 = .ok (.getfield 15, 3) := by decide +kernel
theorem dRow_add_4 : decode prog_6_method_3_code 4 = .ok (.aload_n 0, 1) := by decide +kernel
theorem dRow_add_5 : decode prog_6_method_3_code 5 = .ok (.getfield 9, 3) := by decide +kernel
theorem dRow_add_8 : decode prog_6_method_3_code 8 = .ok (.arraylength, 1) := by decide +kernel
theorem dRow_add_9 : decode prog_6_method_3_code 9 = .ok (.if_icmp .ge 32, 3) := by decide +kernel
theorem dRow_add_12 : decode prog_6_method_3_code 12 = .ok (.aload_n 0, 1) := by decide +kernel
theorem dRow_add_13 : decode prog_6_method_3_code 13 = .ok (.getfield 9, 3) := by decide +kernel
theorem dRow_add_16 : decode prog_6_method_3_code 16 = .ok (.aload_n 0, 1) := by decide +kernel
theorem dRow_add_17 : decode prog_6_method_3_code 17 = .ok (.getfield 15, 3) := by decide +kernel
theorem dRow_add_20 : decode prog_6_method_3_code 20 = .ok (.iload_n 1, 1) := by decide +kernel
theorem dRow_add_21 : decode prog_6_method_3_code 21 = .ok (.sipush 255, 3) := by decide +kernel
theorem dRow_add_24 : decode prog_6_method_3_code 24 = .ok (.iand, 1) := by decide +kernel
theorem dRow_add_25 : decode prog_6_method_3_code 25 = .ok (.iastore, 1) := by decide +kernel
theorem dRow_add_26 : decode prog_6_method_3_code 26 = .ok (.aload_n 0, 1) := by decide +kernel
theorem dRow_add_27 : decode prog_6_method_3_code 27 = .ok (.dup, 1) := by decide +kernel
theorem dRow_add_28 : decode prog_6_method_3_code 28 = .ok (.getfield 15, 3) := by decide +kernel
theorem dRow_add_31 : decode prog_6_method_3_code 31 = .ok (.iconst 1, 1) := by decide +kernel
theorem dRow_add_32 : decode prog_6_method_3_code 32 = .ok (.iadd, 1) := by decide +kernel
theorem dRow_add_33 : decode prog_6_method_3_code 33 = .ok (.putfield 15, 3) := by decide +kernel
theorem dRow_add_36 : decode prog_6_method_3_code 36 = .ok (.aload_n 0, 1) := by decide +kernel
theorem dRow_add_37 : decode prog_6_method_3_code 37 = .ok (.iconst 1, 1) := by decide +kernel
theorem dRow_add_38 : decode prog_6_method_3_code 38 = .ok (.putfield 19, 3) := by decide +kernel
theorem dRow_add_41 : decode prog_6_method_3_code 41 = .ok (.return_, 1) := by decide +kernel
abbrev rm_Row_add : Room := { frames := 0, cells := 0, slots := 0, locals := 0 }
def f_Row_add_b41  (E : hE) : Option (hE) := (
  some E)
set_option maxHeartbeats 4000000 in
set_option maxRecDepth 100000 in
theorem b_Row_add_41 {p : Program} {l : Launch} {e : Env} {s : State} {m : MethodId} {args : Array Value} {below : List Frame} {meth : Method} {c : Code} {D : va_G} {kA : Nat → ClassId} {S : hE} {g : Nat → Nat} {n0 nx : Nat} {res : hE} (C : hX p s m args c prog_6_method_3_code 2 R_Row ws_Row_add D kA S g n0) (hr : meth.sig.returnType = none) (hlk : meth.locks = false) (hnm : meth.name = "add") : ∀  (E : hE) (H : Heap) (locs : List Loc) (ls : Array Slot), hY D kA n0 s E nx H locs → lv_has ls 2 [] → f_Row_add_b41  E = some res → W p l e rm_Row_add s m args below meth c H locs 0 0 (MQ below (va_Qv (fun w => w = (res, nx)) (hJ D kA S g n0) (fun q => n0 ≤ q)) args s 0 0 (fun q => n0 ≤ q)) (F0 m 41 ls []) := by
  intro E H locs ls M hl hf
  unfold f_Row_add_b41 at hf
  cases hf
  exact w_vret C M hr hlk (Nat.le_refl _) (Nat.le_refl _) dRow_add_41 rfl
def f_Row_add  (x0 : Nat) (x1 : Int32) (E : hE) : Option (hE) := (
  (gI E (some x0) 0 1).bind fun v1 =>
  (gR E (some x0) 0 0).bind fun v5 =>
  (aL E v5 0).bind fun v8 =>
  if v8 ≤ v1 then (
  f_Row_add_b41 E
  ) else (
  (gR E (some x0) 0 0).bind fun v13 =>
  (gI E (some x0) 0 1).bind fun v17 =>
  (tI E v13 0 v17 (x1 &&& 255)).bind fun E25 =>
  (gI E25 (some x0) 0 1).bind fun v28 =>
  (sI E25 (some x0) 0 1 (v28 + 1)).bind fun E33 =>
  (sZ E33 (some x0) 0 2 1).bind fun E38 =>
  f_Row_add_b41 E38
  ))
set_option maxHeartbeats 4000000 in
set_option maxRecDepth 100000 in
theorem c_Row_add {l : Launch} {D : va_G} {kA : Nat → ClassId} {S : hE} {g : Nat → Nat} {n0 nx : Nat} {x0 : Nat} {x1 : Int32} {E : hE} {res : hE} (hf : f_Row_add x0 x1 E = some res) : Met l y_Row_add ws_Row_add rm_Row_add (va_Pc [va_rf (some x0), .int x1] (hJ D kA S g n0 (E, nx))) (va_Qv (fun w => w = (res, nx)) (hJ D kA S g n0) (fun q => n0 ≤ q)) 0 0 (fun q => n0 ≤ q) := by
  refine h_met (cc := prog_6_method_3_code) (maxL := 2) (ret := none) (lvs := [(0, va_rf (some x0)), (1, .int x1)]) zZ_k (by decide) rfl (by simp [lg_sl, va_rf_cat, cat_i, cat_l, cat_n]) (by simp [lv_args, va_rf_cat, cat_i, cat_l, cat_n]) ?_
  intro p e s m below meth c ls C M hr hlk hnm hl
  unfold f_Row_add at hf
  refine w_aload_n C.x C.b dRow_add_0 rfl (lv_at hl 0 rfl) ?_
  obtain ⟨v1, h1, hf⟩ := Option.bind_eq_some_iff.mp hf
  refine w_getI C M h1 rfl (hm_in in_Row) (by decide) (List.mem_cons_of_mem _ wm_45) rfl dRow_add_1 ?_
  refine w_aload_n C.x C.b dRow_add_4 rfl (lv_at hl 0 rfl) ?_
  obtain ⟨v5, h5, hf⟩ := Option.bind_eq_some_iff.mp hf
  refine w_getR C M h5 rfl (hm_in in_Row) (by decide) (List.mem_cons_of_mem _ wm_43) rfl dRow_add_5 ?_
  obtain ⟨v8, h8, hf⟩ := Option.bind_eq_some_iff.mp hf
  refine w_alen C M h8 rfl dRow_add_8 ?_
  refine lv_icmp_ge (tgt := 41) C.x C.b dRow_add_9 (by decide) (fun c9 => ?_) (fun c9 => ?_)
  · rw [if_pos c9] at hf
    exact b_Row_add_41 C hr hlk hnm _ _ _ _ M (lv_sub hl [] rfl) hf
  · rw [if_neg c9] at hf
    refine w_aload_n C.x C.b dRow_add_12 rfl (lv_at hl 0 rfl) ?_
    obtain ⟨v13, h13, hf⟩ := Option.bind_eq_some_iff.mp hf
    refine w_getR C M h13 rfl (hm_in in_Row) (by decide) (List.mem_cons_of_mem _ wm_43) rfl dRow_add_13 ?_
    refine w_aload_n C.x C.b dRow_add_16 rfl (lv_at hl 0 rfl) ?_
    obtain ⟨v17, h17, hf⟩ := Option.bind_eq_some_iff.mp hf
    refine w_getI C M h17 rfl (hm_in in_Row) (by decide) (List.mem_cons_of_mem _ wm_45) rfl dRow_add_17 ?_
    refine lv_iload_n C.x C.b dRow_add_20 rfl (lv_at hl 1 rfl) ?_
    refine lv_sipush (v := 255) C.x C.b dRow_add_21 (by decide) ?_
    refine lv_iand C.x C.b dRow_add_24 ?_
    obtain ⟨E25, h25, hf⟩ := Option.bind_eq_some_iff.mp hf
    refine w_iast C M h25 rfl dRow_add_25 (fun H locs M => ?_)
    refine w_aload_n C.x C.b dRow_add_26 rfl (lv_at hl 0 rfl) ?_
    refine lv_dup C.x C.b dRow_add_27 (va_rf_cat _) ?_
    obtain ⟨v28, h28, hf⟩ := Option.bind_eq_some_iff.mp hf
    refine w_getI C M h28 rfl (hm_in in_Row) (by decide) (List.mem_cons_of_mem _ wm_45) rfl dRow_add_28 ?_
    refine lv_iconst (v := 1) C.x C.b dRow_add_31 (by decide) ?_
    refine lv_iadd C.x C.b dRow_add_32 ?_
    obtain ⟨E33, h33, hf⟩ := Option.bind_eq_some_iff.mp hf
    refine w_putV (ty := .int) C M ty_Row h33 rfl (hm_in in_Row) tyok_Row nm_Row (by decide) (List.mem_cons_of_mem _ wm_45) rfl rfl (by decide +kernel) rfl rfl dRow_add_33 (fun H locs M => ?_)
    refine w_aload_n C.x C.b dRow_add_36 rfl (lv_at hl 0 rfl) ?_
    refine lv_iconst (v := 1) C.x C.b dRow_add_37 (by decide) ?_
    obtain ⟨E38, h38, hf⟩ := Option.bind_eq_some_iff.mp hf
    refine w_putV (ty := .boolean) C M ty_Row (sZ_some h38).2 rfl (hm_in in_Row) tyok_Row nm_Row (by decide) (List.mem_cons_of_mem _ wm_48) rfl rfl (by decide +kernel) (narrow_z (sZ_some h38).1) (fits_z (sZ_some h38).1) dRow_add_38 (fun H locs M => ?_)
    exact b_Row_add_41 C hr hlk hnm _ _ _ _ M (lv_sub hl [] rfl) hf
theorem dRow_makeEmpty_0 : decode prog_6_method_4_code 0 = .ok (.aload_n 0, 1) := by decide +kernel
theorem dRow_makeEmpty_1 : decode prog_6_method_4_code 1 = .ok (.iconst 0, 1) := by decide +kernel
theorem dRow_makeEmpty_2 : decode prog_6_method_4_code 2 = .ok (.putfield 15, 3) := by decide +kernel
theorem dRow_makeEmpty_5 : decode prog_6_method_4_code 5 = .ok (.aload_n 0, 1) := by decide +kernel
theorem dRow_makeEmpty_6 : decode prog_6_method_4_code 6 = .ok (.iconst 1, 1) := by decide +kernel
theorem dRow_makeEmpty_7 : decode prog_6_method_4_code 7 = .ok (.putfield 19, 3) := by decide +kernel
theorem dRow_makeEmpty_10 : decode prog_6_method_4_code 10 = .ok (.return_, 1) := by decide +kernel
abbrev rm_Row_makeEmpty : Room := { frames := 0, cells := 0, slots := 0, locals := 0 }
def f_Row_makeEmpty  (x0 : Nat) (E : hE) : Option (hE) := (
  (sI E (some x0) 0 1 0).bind fun E2 =>
  (sZ E2 (some x0) 0 2 1).bind fun E7 =>
  some E7)
set_option maxHeartbeats 4000000 in
set_option maxRecDepth 100000 in
theorem c_Row_makeEmpty {l : Launch} {D : va_G} {kA : Nat → ClassId} {S : hE} {g : Nat → Nat} {n0 nx : Nat} {x0 : Nat} {E : hE} {res : hE} (hf : f_Row_makeEmpty x0 E = some res) : Met l y_Row_makeEmpty ws_Row_makeEmpty rm_Row_makeEmpty (va_Pc [va_rf (some x0)] (hJ D kA S g n0 (E, nx))) (va_Qv (fun w => w = (res, nx)) (hJ D kA S g n0) (fun q => n0 ≤ q)) 0 0 (fun q => n0 ≤ q) := by
  refine h_met (cc := prog_6_method_4_code) (maxL := 1) (ret := none) (lvs := [(0, va_rf (some x0))]) zZ_k (by decide) rfl (by simp [lg_sl, va_rf_cat, cat_i, cat_l, cat_n]) (by simp [lv_args, va_rf_cat, cat_i, cat_l, cat_n]) ?_
  intro p e s m below meth c ls C M hr hlk hnm hl
  unfold f_Row_makeEmpty at hf
  refine w_aload_n C.x C.b dRow_makeEmpty_0 rfl (lv_at hl 0 rfl) ?_
  refine lv_iconst (v := 0) C.x C.b dRow_makeEmpty_1 (by decide) ?_
  obtain ⟨E2, h2, hf⟩ := Option.bind_eq_some_iff.mp hf
  refine w_putV (ty := .int) C M ty_Row h2 rfl (hm_in in_Row) tyok_Row nm_Row (by decide) (List.mem_cons_of_mem _ wm_45) rfl rfl (by decide +kernel) rfl rfl dRow_makeEmpty_2 (fun H locs M => ?_)
  refine w_aload_n C.x C.b dRow_makeEmpty_5 rfl (lv_at hl 0 rfl) ?_
  refine lv_iconst (v := 1) C.x C.b dRow_makeEmpty_6 (by decide) ?_
  obtain ⟨E7, h7, hf⟩ := Option.bind_eq_some_iff.mp hf
  refine w_putV (ty := .boolean) C M ty_Row (sZ_some h7).2 rfl (hm_in in_Row) tyok_Row nm_Row (by decide) (List.mem_cons_of_mem _ wm_48) rfl rfl (by decide +kernel) (narrow_z (sZ_some h7).1) (fits_z (sZ_some h7).1) dRow_makeEmpty_7 (fun H locs M => ?_)
  cases hf
  exact w_vret C M hr hlk (Nat.le_refl _) (Nat.le_refl _) dRow_makeEmpty_10 rfl
theorem dRow_remove_0 : decode prog_6_method_5_code 0 = .ok (.aload_n 0, 1) := by decide +kernel
theorem dRow_remove_1 : decode prog_6_method_5_code 1 = .ok (.iconst 0, 1) := by decide +kernel
theorem dRow_remove_2 : decode prog_6_method_5_code 2 = .ok (.putfield 15, 3) := by decide +kernel
theorem dRow_remove_5 : decode prog_6_method_5_code 5 = .ok (.aload_n 0, 1) := by decide +kernel
theorem dRow_remove_6 : decode prog_6_method_5_code 6 = .ok (.iconst 0, 1) := by decide +kernel
theorem dRow_remove_7 : decode prog_6_method_5_code 7 = .ok (.putfield 19, 3) := by decide +kernel
theorem dRow_remove_10 : decode prog_6_method_5_code 10 = .ok (.return_, 1) := by decide +kernel
abbrev rm_Row_remove : Room := { frames := 0, cells := 0, slots := 0, locals := 0 }
def f_Row_remove  (x0 : Nat) (E : hE) : Option (hE) := (
  (sI E (some x0) 0 1 0).bind fun E2 =>
  (sZ E2 (some x0) 0 2 0).bind fun E7 =>
  some E7)
set_option maxHeartbeats 4000000 in
set_option maxRecDepth 100000 in
theorem c_Row_remove {l : Launch} {D : va_G} {kA : Nat → ClassId} {S : hE} {g : Nat → Nat} {n0 nx : Nat} {x0 : Nat} {E : hE} {res : hE} (hf : f_Row_remove x0 E = some res) : Met l y_Row_remove ws_Row_remove rm_Row_remove (va_Pc [va_rf (some x0)] (hJ D kA S g n0 (E, nx))) (va_Qv (fun w => w = (res, nx)) (hJ D kA S g n0) (fun q => n0 ≤ q)) 0 0 (fun q => n0 ≤ q) := by
  refine h_met (cc := prog_6_method_5_code) (maxL := 1) (ret := none) (lvs := [(0, va_rf (some x0))]) zZ_k (by decide) rfl (by simp [lg_sl, va_rf_cat, cat_i, cat_l, cat_n]) (by simp [lv_args, va_rf_cat, cat_i, cat_l, cat_n]) ?_
  intro p e s m below meth c ls C M hr hlk hnm hl
  unfold f_Row_remove at hf
  refine w_aload_n C.x C.b dRow_remove_0 rfl (lv_at hl 0 rfl) ?_
  refine lv_iconst (v := 0) C.x C.b dRow_remove_1 (by decide) ?_
  obtain ⟨E2, h2, hf⟩ := Option.bind_eq_some_iff.mp hf
  refine w_putV (ty := .int) C M ty_Row h2 rfl (hm_in in_Row) tyok_Row nm_Row (by decide) (List.mem_cons_of_mem _ wm_45) rfl rfl (by decide +kernel) rfl rfl dRow_remove_2 (fun H locs M => ?_)
  refine w_aload_n C.x C.b dRow_remove_5 rfl (lv_at hl 0 rfl) ?_
  refine lv_iconst (v := 0) C.x C.b dRow_remove_6 (by decide) ?_
  obtain ⟨E7, h7, hf⟩ := Option.bind_eq_some_iff.mp hf
  refine w_putV (ty := .boolean) C M ty_Row (sZ_some h7).2 rfl (hm_in in_Row) tyok_Row nm_Row (by decide) (List.mem_cons_of_mem _ wm_48) rfl rfl (by decide +kernel) (narrow_z (sZ_some h7).1) (fits_z (sZ_some h7).1) dRow_remove_7 (fun H locs M => ?_)
  cases hf
  exact w_vret C M hr hlk (Nat.le_refl _) (Nat.le_refl _) dRow_remove_10 rfl
theorem dRow_become_0 : decode prog_6_method_6_code 0 = .ok (.aload_n 1, 1) := by decide +kernel
theorem dRow_become_1 : decode prog_6_method_6_code 1 = .ok (.getfield 15, 3) := by decide +kernel
theorem dRow_become_4 : decode prog_6_method_6_code 4 = .ok (.aload_n 0, 1) := by decide +kernel
theorem dRow_become_5 : decode prog_6_method_6_code 5 = .ok (.getfield 9, 3) := by decide +kernel
theorem dRow_become_8 : decode prog_6_method_6_code 8 = .ok (.arraylength, 1) := by decide +kernel
theorem dRow_become_9 : decode prog_6_method_6_code 9 = .ok (.invokestatic 23, 3) := by decide +kernel
theorem dRow_become_12 : decode prog_6_method_6_code 12 = .ok (.istore_n 2, 1) := by decide +kernel
theorem dRow_become_13 : decode prog_6_method_6_code 13 = .ok (.aload_n 1, 1) := by decide +kernel
theorem dRow_become_14 : decode prog_6_method_6_code 14 = .ok (.getfield 9, 3) := by decide +kernel
theorem dRow_become_17 : decode prog_6_method_6_code 17 = .ok (.iconst 0, 1) := by decide +kernel
theorem dRow_become_18 : decode prog_6_method_6_code 18 = .ok (.aload_n 0, 1) := by decide +kernel
theorem dRow_become_19 : decode prog_6_method_6_code 19 = .ok (.getfield 9, 3) := by decide +kernel
theorem dRow_become_22 : decode prog_6_method_6_code 22 = .ok (.iconst 0, 1) := by decide +kernel
theorem dRow_become_23 : decode prog_6_method_6_code 23 = .ok (.iload_n 2, 1) := by decide +kernel
theorem dRow_become_24 : decode prog_6_method_6_code 24 = .ok (.invokestatic 29, 3) := by decide +kernel
theorem dRow_become_27 : decode prog_6_method_6_code 27 = .ok (.aload_n 0, 1) := by decide +kernel
theorem dRow_become_28 : decode prog_6_method_6_code 28 = .ok (.iload_n 2, 1) := by decide +kernel
theorem dRow_become_29 : decode prog_6_method_6_code 29 = .ok (.putfield 15, 3) := by decide +kernel
theorem dRow_become_32 : decode prog_6_method_6_code 32 = .ok (.aload_n 0, 1) := by decide +kernel
theorem dRow_become_33 : decode prog_6_method_6_code 33 = .ok (.aload_n 1, 1) := by decide +kernel
theorem dRow_become_34 : decode prog_6_method_6_code 34 = .ok (.getfield 19, 3) := by decide +kernel
theorem dRow_become_37 : decode prog_6_method_6_code 37 = .ok (.putfield 19, 3) := by decide +kernel
theorem dRow_become_40 : decode prog_6_method_6_code 40 = .ok (.return_, 1) := by decide +kernel
abbrev rm_Row_become : Room := { frames := 1, cells := 0, slots := 0, locals := 40 }
def f_Row_become  (x0 : Nat) (x1 : Option Nat) (E : hE) : Option (hE) := (
  (gI E x1 0 1).bind fun v1 =>
  (gR E (some x0) 0 0).bind fun v5 =>
  (aL E v5 0).bind fun v8 =>
  (gR E x1 0 0).bind fun v14 =>
  (gR E (some x0) 0 0).bind fun v19 =>
  (cpI E v14 v19 0 0 0 (if v8 < v1 then v8 else v1)).bind fun E24 =>
  (sI E24 (some x0) 0 1 (if v8 < v1 then v8 else v1)).bind fun E29 =>
  (gI E29 x1 0 2).bind fun v34 =>
  (sZ E29 (some x0) 0 2 v34).bind fun E37 =>
  some E37)
set_option maxHeartbeats 4000000 in
set_option maxRecDepth 100000 in
theorem c_Row_become {l : Launch} {D : va_G} {kA : Nat → ClassId} {S : hE} {g : Nat → Nat} {n0 nx : Nat} {x0 : Nat} {x1 : Option Nat} {E : hE} {res : hE} (hf : f_Row_become x0 x1 E = some res) : Met l y_Row_become ws_Row_become rm_Row_become (va_Pc [va_rf (some x0), va_rf x1] (hJ D kA S g n0 (E, nx))) (va_Qv (fun w => w = (res, nx)) (hJ D kA S g n0) (fun q => n0 ≤ q)) 0 0 (fun q => n0 ≤ q) := by
  refine h_met (cc := prog_6_method_6_code) (maxL := 3) (ret := none) (lvs := [(0, va_rf (some x0)), (1, va_rf x1)]) zZ_k (by decide) rfl (by simp [lg_sl, va_rf_cat, cat_i, cat_l, cat_n]) (by simp [lv_args, va_rf_cat, cat_i, cat_l, cat_n]) ?_
  intro p e s m below meth c ls C M hr hlk hnm hl
  have hz0 := M.z
  unfold f_Row_become at hf
  refine w_aload_n C.x C.b dRow_become_0 rfl (lv_at hl 1 rfl) ?_
  obtain ⟨v1, h1, hf⟩ := Option.bind_eq_some_iff.mp hf
  refine w_getI C M h1 rfl (hm_in in_Row) (by decide) (List.mem_cons_of_mem _ wm_45) rfl dRow_become_1 ?_
  refine w_aload_n C.x C.b dRow_become_4 rfl (lv_at hl 0 rfl) ?_
  obtain ⟨v5, h5, hf⟩ := Option.bind_eq_some_iff.mp hf
  refine w_getR C M h5 rfl (hm_in in_Row) (by decide) (List.mem_cons_of_mem _ wm_43) rfl dRow_become_5 ?_
  obtain ⟨v8, h8, hf⟩ := Option.bind_eq_some_iff.mp hf
  refine w_alen C M h8 rfl dRow_become_8 ?_
  refine va_mmin C.x C.b (C.ml.trans hl.1.symm) C.ow (C.ts (.methodLink R_Row 23 Lib.Math.min.name) (List.mem_cons_of_mem _ wm_671)) (C.ts (.static Lib.Math.min.name) (List.mem_cons_of_mem _ wm_395)) (C.ts (.initialized "java/lang/Math") (List.mem_cons_of_mem _ wm_16)) (C.ts (.code Lib.Math.min.name Lib.Math.min.code 2 (some .int)) (List.mem_cons_of_mem _ wm_396)) (Nat.le_of_ble_eq_true rfl) (Nat.le_of_ble_eq_true rfl) (Nat.zero_le _) (Nat.zero_le _) dRow_become_9 ?_
  refine lv_istore_n (lv' := [(2, .int (if v8 < v1 then v8 else v1)), (0, va_rf (some x0)), (1, va_rf x1)]) C.x C.b dRow_become_12 rfl hl (by decide) (by simp only [List.filter, va_rf_cat] <;> rfl) (fun ls hl => ?_)
  refine w_aload_n C.x C.b dRow_become_13 rfl (lv_at hl 2 rfl) ?_
  obtain ⟨v14, h14, hf⟩ := Option.bind_eq_some_iff.mp hf
  refine w_getR C M h14 rfl (hm_in in_Row) (by decide) (List.mem_cons_of_mem _ wm_43) rfl dRow_become_14 ?_
  refine lv_iconst (v := 0) C.x C.b dRow_become_17 (by decide) ?_
  refine w_aload_n C.x C.b dRow_become_18 rfl (lv_at hl 1 rfl) ?_
  obtain ⟨v19, h19, hf⟩ := Option.bind_eq_some_iff.mp hf
  refine w_getR C M h19 rfl (hm_in in_Row) (by decide) (List.mem_cons_of_mem _ wm_43) rfl dRow_become_19 ?_
  refine lv_iconst (v := 0) C.x C.b dRow_become_22 (by decide) ?_
  refine lv_iload_n C.x C.b dRow_become_23 rfl (lv_at hl 0 rfl) ?_
  obtain ⟨E24, h24, hf⟩ := Option.bind_eq_some_iff.mp hf
  refine w_acopyI C M h24 rfl hl.1 (List.mem_cons_of_mem _ wm_672) (List.mem_cons_of_mem _ wm_525) (List.mem_cons_of_mem _ wm_524) (List.mem_cons_of_mem _ wm_20) (by have q1 := M.S.1; have q2 := M.z; omega) (Or.inl (Nat.le_of_eq hz0.symm)) (Nat.le_of_ble_eq_true rfl) (Nat.le_of_ble_eq_true rfl) dRow_become_24 (fun H locs M => ?_)
  refine w_aload_n C.x C.b dRow_become_27 rfl (lv_at hl 1 rfl) ?_
  refine lv_iload_n C.x C.b dRow_become_28 rfl (lv_at hl 0 rfl) ?_
  obtain ⟨E29, h29, hf⟩ := Option.bind_eq_some_iff.mp hf
  refine w_putV (ty := .int) C M ty_Row h29 rfl (hm_in in_Row) tyok_Row nm_Row (by decide) (List.mem_cons_of_mem _ wm_45) rfl rfl (by decide +kernel) rfl rfl dRow_become_29 (fun H locs M => ?_)
  refine w_aload_n C.x C.b dRow_become_32 rfl (lv_at hl 1 rfl) ?_
  refine w_aload_n C.x C.b dRow_become_33 rfl (lv_at hl 2 rfl) ?_
  obtain ⟨v34, h34, hf⟩ := Option.bind_eq_some_iff.mp hf
  refine w_getI C M h34 rfl (hm_in in_Row) (by decide) (List.mem_cons_of_mem _ wm_48) rfl dRow_become_34 ?_
  obtain ⟨E37, h37, hf⟩ := Option.bind_eq_some_iff.mp hf
  refine w_putV (ty := .boolean) C M ty_Row (sZ_some h37).2 rfl (hm_in in_Row) tyok_Row nm_Row (by decide) (List.mem_cons_of_mem _ wm_48) rfl rfl (by decide +kernel) (narrow_z (sZ_some h37).1) (fits_z (sZ_some h37).1) dRow_become_37 (fun H locs M => ?_)
  cases hf
  exact w_vret C M hr hlk (Nat.le_refl _) (Nat.le_refl _) dRow_become_40 rfl
theorem dRow_at_0 : decode prog_6_method_7_code 0 = .ok (.iload_n 1, 1) := by decide +kernel
theorem dRow_at_1 : decode prog_6_method_7_code 1 = .ok (.ifCond .lt 20, 3) := by decide +kernel
theorem dRow_at_4 : decode prog_6_method_7_code 4 = .ok (.iload_n 1, 1) := by decide +kernel
theorem dRow_at_5 : decode prog_6_method_7_code 5 = .ok (.aload_n 0, 1) := by decide +kernel
theorem dRow_at_6 : decode prog_6_method_7_code 6 = .ok (.getfield 15, 3) := by decide +kernel
theorem dRow_at_9 : decode prog_6_method_7_code 9 = .ok (.if_icmp .ge 12, 3) := by decide +kernel
theorem dRow_at_12 : decode prog_6_method_7_code 12 = .ok (.aload_n 0, 1) := by decide +kernel
theorem dRow_at_13 : decode prog_6_method_7_code 13 = .ok (.getfield 9, 3) := by decide +kernel
theorem dRow_at_16 : decode prog_6_method_7_code 16 = .ok (.iload_n 1, 1) := by decide +kernel
theorem dRow_at_17 : decode prog_6_method_7_code 17 = .ok (.iaload, 1) := by decide +kernel
theorem dRow_at_18 : decode prog_6_method_7_code 18 = .ok (.goto 4, 3) := by decide +kernel
theorem dRow_at_21 : decode prog_6_method_7_code 21 = .ok (.iconst (-1), 1) := by decide +kernel
theorem dRow_at_22 : decode prog_6_method_7_code 22 = .ok (.ireturn, 1) := by decide +kernel
abbrev rm_Row_at : Room := { frames := 0, cells := 0, slots := 0, locals := 0 }
def f_Row_at_b22 (E : hE) (t0 : Int32) : Option (Int32) := (
  some t0)
set_option maxHeartbeats 4000000 in
set_option maxRecDepth 100000 in
theorem b_Row_at_22 {p : Program} {l : Launch} {e : Env} {s : State} {m : MethodId} {args : Array Value} {below : List Frame} {meth : Method} {c : Code} {D : va_G} {kA : Nat → ClassId} {S : hE} {g : Nat → Nat} {n0 nx : Nat} {E : hE} {res : Int32} (C : hX p s m args c prog_6_method_7_code 2 R_Row ws_Row_at D kA S g n0) (hr : meth.sig.returnType = (some .int)) (hlk : meth.locks = false) (hnm : meth.name = "at") : ∀ (t0 : Int32) (H : Heap) (locs : List Loc) (ls : Array Slot), hY D kA n0 s E nx H locs → lv_has ls 2 [] → f_Row_at_b22 E  t0 = some res → W p l e rm_Row_at s m args below meth c H locs 0 0 (MQ below (va_Qi (fun r w => r = res ∧ w = (E, nx)) (hJ D kA S g n0) (fun q => n0 ≤ q)) args s 0 0 (fun q => n0 ≤ q)) (F0 m 22 ls [.int t0]) := by
  intro t0 H locs ls M hl hf
  unfold f_Row_at_b22 at hf
  cases hf
  exact w_iret C M hr hlk rfl (Nat.le_refl _) (Nat.le_refl _) dRow_at_22 rfl rfl
def f_Row_at_b21 (E : hE) : Option (Int32) := (
  f_Row_at_b22 E (-1))
set_option maxHeartbeats 4000000 in
set_option maxRecDepth 100000 in
theorem b_Row_at_21 {p : Program} {l : Launch} {e : Env} {s : State} {m : MethodId} {args : Array Value} {below : List Frame} {meth : Method} {c : Code} {D : va_G} {kA : Nat → ClassId} {S : hE} {g : Nat → Nat} {n0 nx : Nat} {E : hE} {res : Int32} (C : hX p s m args c prog_6_method_7_code 2 R_Row ws_Row_at D kA S g n0) (hr : meth.sig.returnType = (some .int)) (hlk : meth.locks = false) (hnm : meth.name = "at") : ∀  (H : Heap) (locs : List Loc) (ls : Array Slot), hY D kA n0 s E nx H locs → lv_has ls 2 [] → f_Row_at_b21 E   = some res → W p l e rm_Row_at s m args below meth c H locs 0 0 (MQ below (va_Qi (fun r w => r = res ∧ w = (E, nx)) (hJ D kA S g n0) (fun q => n0 ≤ q)) args s 0 0 (fun q => n0 ≤ q)) (F0 m 21 ls []) := by
  intro  H locs ls M hl hf
  unfold f_Row_at_b21 at hf
  refine lv_iconst (v := (-1)) C.x C.b dRow_at_21 (by decide) ?_
  exact b_Row_at_22 C hr hlk hnm _ _ _ _ M (lv_sub hl [] rfl) hf
def f_Row_at (E : hE) (x0 : Nat) (x1 : Int32) : Option (Int32) := (
  if x1 < 0 then (
  f_Row_at_b21 E 
  ) else (
  (gI E (some x0) 0 1).bind fun v6 =>
  if v6 ≤ x1 then (
  f_Row_at_b21 E 
  ) else (
  (gR E (some x0) 0 0).bind fun v13 =>
  (aI E v13 0 x1).bind fun v17 =>
  f_Row_at_b22 E v17
  )
  ))
set_option maxHeartbeats 4000000 in
set_option maxRecDepth 100000 in
theorem c_Row_at {l : Launch} {D : va_G} {kA : Nat → ClassId} {S : hE} {g : Nat → Nat} {n0 nx : Nat} {x0 : Nat} {x1 : Int32} {E : hE} {res : Int32} (hf : f_Row_at E x0 x1 = some res) : Met l y_Row_at ws_Row_at rm_Row_at (va_Pc [va_rf (some x0), .int x1] (hJ D kA S g n0 (E, nx))) (va_Qi (fun r w => r = res ∧ w = (E, nx)) (hJ D kA S g n0) (fun q => n0 ≤ q)) 0 0 (fun q => n0 ≤ q) := by
  refine h_met (cc := prog_6_method_7_code) (maxL := 2) (ret := (some .int)) (lvs := [(0, va_rf (some x0)), (1, .int x1)]) zZ_k (by decide) rfl (by simp [lg_sl, va_rf_cat, cat_i, cat_l, cat_n]) (by simp [lv_args, va_rf_cat, cat_i, cat_l, cat_n]) ?_
  intro p e s m below meth c ls C M hr hlk hnm hl
  unfold f_Row_at at hf
  refine lv_iload_n C.x C.b dRow_at_0 rfl (lv_at hl 1 rfl) ?_
  refine lv_if_lt (tgt := 21) C.x C.b dRow_at_1 (by decide) (fun c1 => ?_) (fun c1 => ?_)
  · rw [if_pos c1] at hf
    exact b_Row_at_21 C hr hlk hnm _ _ _ M (lv_sub hl [] rfl) hf
  · rw [if_neg c1] at hf
    refine lv_iload_n C.x C.b dRow_at_4 rfl (lv_at hl 1 rfl) ?_
    refine w_aload_n C.x C.b dRow_at_5 rfl (lv_at hl 0 rfl) ?_
    obtain ⟨v6, h6, hf⟩ := Option.bind_eq_some_iff.mp hf
    refine w_getI C M h6 rfl (hm_in in_Row) (by decide) (List.mem_cons_of_mem _ wm_45) rfl dRow_at_6 ?_
    refine lv_icmp_ge (tgt := 21) C.x C.b dRow_at_9 (by decide) (fun c9 => ?_) (fun c9 => ?_)
    · rw [if_pos c9] at hf
      exact b_Row_at_21 C hr hlk hnm _ _ _ M (lv_sub hl [] rfl) hf
    · rw [if_neg c9] at hf
      refine w_aload_n C.x C.b dRow_at_12 rfl (lv_at hl 0 rfl) ?_
      obtain ⟨v13, h13, hf⟩ := Option.bind_eq_some_iff.mp hf
      refine w_getR C M h13 rfl (hm_in in_Row) (by decide) (List.mem_cons_of_mem _ wm_43) rfl dRow_at_13 ?_
      refine lv_iload_n C.x C.b dRow_at_16 rfl (lv_at hl 1 rfl) ?_
      obtain ⟨v17, h17, hf⟩ := Option.bind_eq_some_iff.mp hf
      refine w_iald C M h17 rfl dRow_at_17 ?_
      refine lv_goto (tgt := 22) C.x C.b dRow_at_18 (by decide) ?_
      exact b_Row_at_22 C hr hlk hnm _ _ _ _ M (lv_sub hl [] rfl) hf
theorem dRow_countIfThere_0 : decode prog_6_method_8_code 0 = .ok (.aload_n 0, 1) := by decide +kernel
theorem dRow_countIfThere_1 : decode prog_6_method_8_code 1 = .ok (.getfield 19, 3) := by decide +kernel
theorem dRow_countIfThere_4 : decode prog_6_method_8_code 4 = .ok (.ifCond .eq 10, 3) := by decide +kernel
theorem dRow_countIfThere_7 : decode prog_6_method_8_code 7 = .ok (.aload_n 0, 1) := by decide +kernel
theorem dRow_countIfThere_8 : decode prog_6_method_8_code 8 = .ok (.getfield 15, 3) := by decide +kernel
theorem dRow_countIfThere_11 : decode prog_6_method_8_code 11 = .ok (.goto 4, 3) := by decide +kernel
theorem dRow_countIfThere_14 : decode prog_6_method_8_code 14 = .ok (.iconst (-1), 1) := by decide +kernel
theorem dRow_countIfThere_15 : decode prog_6_method_8_code 15 = .ok (.ireturn, 1) := by decide +kernel
abbrev rm_Row_countIfThere : Room := { frames := 0, cells := 0, slots := 0, locals := 0 }
def f_Row_countIfThere_b15 (E : hE) (t0 : Int32) : Option (Int32) := (
  some t0)
set_option maxHeartbeats 4000000 in
set_option maxRecDepth 100000 in
theorem b_Row_countIfThere_15 {p : Program} {l : Launch} {e : Env} {s : State} {m : MethodId} {args : Array Value} {below : List Frame} {meth : Method} {c : Code} {D : va_G} {kA : Nat → ClassId} {S : hE} {g : Nat → Nat} {n0 nx : Nat} {E : hE} {res : Int32} (C : hX p s m args c prog_6_method_8_code 1 R_Row ws_Row_countIfThere D kA S g n0) (hr : meth.sig.returnType = (some .int)) (hlk : meth.locks = false) (hnm : meth.name = "countIfThere") : ∀ (t0 : Int32) (H : Heap) (locs : List Loc) (ls : Array Slot), hY D kA n0 s E nx H locs → lv_has ls 1 [] → f_Row_countIfThere_b15 E  t0 = some res → W p l e rm_Row_countIfThere s m args below meth c H locs 0 0 (MQ below (va_Qi (fun r w => r = res ∧ w = (E, nx)) (hJ D kA S g n0) (fun q => n0 ≤ q)) args s 0 0 (fun q => n0 ≤ q)) (F0 m 15 ls [.int t0]) := by
  intro t0 H locs ls M hl hf
  unfold f_Row_countIfThere_b15 at hf
  cases hf
  exact w_iret C M hr hlk rfl (Nat.le_refl _) (Nat.le_refl _) dRow_countIfThere_15 rfl rfl
def f_Row_countIfThere (E : hE) (x0 : Nat) : Option (Int32) := (
  (gI E (some x0) 0 2).bind fun v1 =>
  if v1 = 0 then (
  f_Row_countIfThere_b15 E (-1)
  ) else (
  (gI E (some x0) 0 1).bind fun v8 =>
  f_Row_countIfThere_b15 E v8
  ))
set_option maxHeartbeats 4000000 in
set_option maxRecDepth 100000 in
theorem c_Row_countIfThere {l : Launch} {D : va_G} {kA : Nat → ClassId} {S : hE} {g : Nat → Nat} {n0 nx : Nat} {x0 : Nat} {E : hE} {res : Int32} (hf : f_Row_countIfThere E x0 = some res) : Met l y_Row_countIfThere ws_Row_countIfThere rm_Row_countIfThere (va_Pc [va_rf (some x0)] (hJ D kA S g n0 (E, nx))) (va_Qi (fun r w => r = res ∧ w = (E, nx)) (hJ D kA S g n0) (fun q => n0 ≤ q)) 0 0 (fun q => n0 ≤ q) := by
  refine h_met (cc := prog_6_method_8_code) (maxL := 1) (ret := (some .int)) (lvs := [(0, va_rf (some x0))]) zZ_k (by decide) rfl (by simp [lg_sl, va_rf_cat, cat_i, cat_l, cat_n]) (by simp [lv_args, va_rf_cat, cat_i, cat_l, cat_n]) ?_
  intro p e s m below meth c ls C M hr hlk hnm hl
  unfold f_Row_countIfThere at hf
  refine w_aload_n C.x C.b dRow_countIfThere_0 rfl (lv_at hl 0 rfl) ?_
  obtain ⟨v1, h1, hf⟩ := Option.bind_eq_some_iff.mp hf
  refine w_getI C M h1 rfl (hm_in in_Row) (by decide) (List.mem_cons_of_mem _ wm_48) rfl dRow_countIfThere_1 ?_
  refine lv_if_eq (tgt := 14) C.x C.b dRow_countIfThere_4 (by decide) (fun c4 => ?_) (fun c4 => ?_)
  · rw [if_pos c4] at hf
    refine lv_iconst (v := (-1)) C.x C.b dRow_countIfThere_14 (by decide) ?_
    exact b_Row_countIfThere_15 C hr hlk hnm _ _ _ _ M (lv_sub hl [] rfl) hf
  · rw [if_neg c4] at hf
    refine w_aload_n C.x C.b dRow_countIfThere_7 rfl (lv_at hl 0 rfl) ?_
    obtain ⟨v8, h8, hf⟩ := Option.bind_eq_some_iff.mp hf
    refine w_getI C M h8 rfl (hm_in in_Row) (by decide) (List.mem_cons_of_mem _ wm_45) rfl dRow_countIfThere_8 ?_
    refine lv_goto (tgt := 15) C.x C.b dRow_countIfThere_11 (by decide) ?_
    exact b_Row_countIfThere_15 C hr hlk hnm _ _ _ _ M (lv_sub hl [] rfl) hf
theorem dFrame_init_0 : decode prog_4_method_1_code 0 = .ok (.aload_n 0, 1) := by decide +kernel
theorem dFrame_init_1 : decode prog_4_method_1_code 1 = .ok (.invokespecial 3, 3) := by decide +kernel
theorem dFrame_init_4 : decode prog_4_method_1_code 4 = .ok (.aload_n 0, 1) := by decide +kernel
theorem dFrame_init_5 : decode prog_4_method_1_code 5 = .ok (.bipush 8, 2) := by decide +kernel
theorem dFrame_init_7 : decode prog_4_method_1_code 7 = .ok (.newarray .int, 2) := by decide +kernel
theorem dFrame_init_9 : decode prog_4_method_1_code 9 = .ok (.putfield 9, 3) := by decide +kernel
theorem dFrame_init_12 : decode prog_4_method_1_code 12 = .ok (.aload_n 0, 1) := by decide +kernel
theorem dFrame_init_13 : decode prog_4_method_1_code 13 = .ok (.bipush 32, 2) := by decide +kernel
theorem dFrame_init_15 : decode prog_4_method_1_code 15 = .ok (.newarray .int, 2) := by decide +kernel
theorem dFrame_init_17 : decode prog_4_method_1_code 17 = .ok (.putfield 15, 3) := by decide +kernel
theorem dFrame_init_20 : decode prog_4_method_1_code 20 = .ok (.aload_n 0, 1) := by decide +kernel
theorem dFrame_init_21 : decode prog_4_method_1_code 21 = .ok (.bipush 8, 2) := by decide +kernel
theorem dFrame_init_23 : decode prog_4_method_1_code 23 = .ok (.newarray .int, 2) := by decide +kernel
theorem dFrame_init_25 : decode prog_4_method_1_code 25 = .ok (.putfield 18, 3) := by decide +kernel
theorem dFrame_init_28 : decode prog_4_method_1_code 28 = .ok (.aload_n 0, 1) := by decide +kernel
theorem dFrame_init_29 : decode prog_4_method_1_code 29 = .ok (.iload_n 1, 1) := by decide +kernel
theorem dFrame_init_30 : decode prog_4_method_1_code 30 = .ok (.putfield 21, 3) := by decide +kernel
theorem dFrame_init_33 : decode prog_4_method_1_code 33 = .ok (.return_, 1) := by decide +kernel
abbrev rm_Frame_init : Room := { frames := 1, cells := 3, slots := 48, locals := 40 }
def f_Frame_init  (x0 : Nat) (x1 : Int32) (E : hE) (nx : Nat) : Option (hE × Nat) := (
  (nA E nx 0 8 8).bind fun E7 =>
  (sR E7 (some x0) 1 1 (some nx)).bind fun E9 =>
  (nA E9 (nx + 1) 0 32 32).bind fun E15 =>
  (sR E15 (some x0) 1 2 (some (nx + 1))).bind fun E17 =>
  (nA E17 (nx + 1 + 1) 0 8 8).bind fun E23 =>
  (sR E23 (some x0) 1 3 (some (nx + 1 + 1))).bind fun E25 =>
  (sI E25 (some x0) 1 0 x1).bind fun E30 =>
  some (E30, nx + 1 + 1 + 1))
set_option maxHeartbeats 4000000 in
set_option maxRecDepth 100000 in
theorem c_Frame_init {l : Launch} {D : va_G} {kA : Nat → ClassId} {S : hE} {g : Nat → Nat} {n0 nx : Nat} {x0 : Nat} {x1 : Int32} {E : hE} {res : hE × Nat} (hf : f_Frame_init x0 x1 E nx = some res) : Met l y_Frame_init ws_Frame_init rm_Frame_init (va_Pc [va_rf (some x0), .int x1] (hJ D kA S g n0 (E, nx))) (va_Qv (fun w => w = res) (hJ D kA S g n0) (fun q => n0 ≤ q)) 3 48 (fun q => n0 ≤ q) := by
  refine h_met (cc := prog_4_method_1_code) (maxL := 2) (ret := none) (lvs := [(0, va_rf (some x0)), (1, .int x1)]) zZ_k (by decide) rfl (by simp [lg_sl, va_rf_cat, cat_i, cat_l, cat_n]) (by simp [lv_args, va_rf_cat, cat_i, cat_l, cat_n]) ?_
  intro p e s m below meth c ls C M hr hlk hnm hl
  unfold f_Frame_init at hf
  refine w_aload_n C.x C.b dFrame_init_0 rfl (lv_at hl 0 rfl) ?_
  refine W.objInit C.x C.b C.ow (C.ts (.methodLink R_Frame 3 objectInit) (List.mem_cons_of_mem _ wm_102)) (C.ts (.instanceMethod objectInit) (List.mem_cons_of_mem _ wm_29)) (C.ts _ (List.mem_cons_of_mem _ wm_30)) rfl (by rw [C.ml]; exact hl.1) rfl dFrame_init_1 (Nat.le_of_ble_eq_true rfl) (Nat.le_of_ble_eq_true rfl) ?_
  refine W.eq (g2 := F0 m 4 ls []) rfl ?_
  refine w_aload_n C.x C.b dFrame_init_4 rfl (lv_at hl 0 rfl) ?_
  refine lv_bipush (v := 8) C.x C.b dFrame_init_5 (by decide) ?_
  obtain ⟨E7, h7, hf⟩ := Option.bind_eq_some_iff.mp hf
  refine w_newI (atype := .int) (ty := .int) C M h7 (List.mem_cons_of_mem _ wm_57) rfl rfl (fun _ _ h => h) (fun _ _ => rfl) (by decide) (by show _ ≤ 3; omega) (by show _ ≤ 48; omega) dFrame_init_7 (fun H M => ?_)
  obtain ⟨E9, h9, hf⟩ := Option.bind_eq_some_iff.mp hf
  refine w_putVF (ty := (.array .int)) C M ty_Frame h9 rfl (hm_in in_Frame) tyok_Frame nm_Frame (by decide) (List.mem_cons_of_mem _ wm_105) rfl rfl hnm rfl (by decide +kernel) (narrow_a _ _) (fits_a _ _) dFrame_init_9 (fun H locs M => ?_)
  refine w_aload_n C.x C.b dFrame_init_12 rfl (lv_at hl 0 rfl) ?_
  refine lv_bipush (v := 32) C.x C.b dFrame_init_13 (by decide) ?_
  obtain ⟨E15, h15, hf⟩ := Option.bind_eq_some_iff.mp hf
  refine w_newI (atype := .int) (ty := .int) C M h15 (List.mem_cons_of_mem _ wm_57) rfl rfl (fun _ _ h => h) (fun _ _ => rfl) (by decide) (by show _ ≤ 3; omega) (by show _ ≤ 48; omega) dFrame_init_15 (fun H M => ?_)
  obtain ⟨E17, h17, hf⟩ := Option.bind_eq_some_iff.mp hf
  refine w_putVF (ty := (.array .int)) C M ty_Frame h17 rfl (hm_in in_Frame) tyok_Frame nm_Frame (by decide) (List.mem_cons_of_mem _ wm_107) rfl rfl hnm rfl (by decide +kernel) (narrow_a _ _) (fits_a _ _) dFrame_init_17 (fun H locs M => ?_)
  refine w_aload_n C.x C.b dFrame_init_20 rfl (lv_at hl 0 rfl) ?_
  refine lv_bipush (v := 8) C.x C.b dFrame_init_21 (by decide) ?_
  obtain ⟨E23, h23, hf⟩ := Option.bind_eq_some_iff.mp hf
  refine w_newI (atype := .int) (ty := .int) C M h23 (List.mem_cons_of_mem _ wm_57) rfl rfl (fun _ _ h => h) (fun _ _ => rfl) (by decide) (by show _ ≤ 3; omega) (by show _ ≤ 48; omega) dFrame_init_23 (fun H M => ?_)
  obtain ⟨E25, h25, hf⟩ := Option.bind_eq_some_iff.mp hf
  refine w_putVF (ty := (.array .int)) C M ty_Frame h25 rfl (hm_in in_Frame) tyok_Frame nm_Frame (by decide) (List.mem_cons_of_mem _ wm_109) rfl rfl hnm rfl (by decide +kernel) (narrow_a _ _) (fits_a _ _) dFrame_init_25 (fun H locs M => ?_)
  refine w_aload_n C.x C.b dFrame_init_28 rfl (lv_at hl 0 rfl) ?_
  refine lv_iload_n C.x C.b dFrame_init_29 rfl (lv_at hl 1 rfl) ?_
  obtain ⟨E30, h30, hf⟩ := Option.bind_eq_some_iff.mp hf
  refine w_putVF (ty := .int) C M ty_Frame h30 rfl (hm_in in_Frame) tyok_Frame nm_Frame (by decide) (List.mem_cons_of_mem _ wm_103) rfl rfl hnm rfl (by decide +kernel) rfl rfl dFrame_init_30 (fun H locs M => ?_)
  cases hf
  exact w_vret C M hr hlk (by omega) (by omega) dFrame_init_33 rfl
theorem dArrs_fill_0 : decode prog_25_method_103_code 0 = .ok (.iconst 0, 1) := by decide +kernel
theorem dArrs_fill_1 : decode prog_25_method_103_code 1 = .ok (.istore_n 2, 1) := by decide +kernel
theorem dArrs_fill_2 : decode prog_25_method_103_code 2 = .ok (.aload_n 0, 1) := by decide +kernel
theorem dArrs_fill_3 : decode prog_25_method_103_code 3 = .ok (.arraylength, 1) := by decide +kernel
theorem dArrs_fill_4 : decode prog_25_method_103_code 4 = .ok (.istore_n 3, 1) := by decide +kernel
theorem dArrs_fill_5 : decode prog_25_method_103_code 5 = .ok (.iload_n 2, 1) := by decide +kernel
theorem dArrs_fill_6 : decode prog_25_method_103_code 6 = .ok (.iload_n 3, 1) := by decide +kernel
theorem dArrs_fill_7 : decode prog_25_method_103_code 7 = .ok (.if_icmp .ge 13, 3) := by decide +kernel
theorem dArrs_fill_10 : decode prog_25_method_103_code 10 = .ok (.aload_n 0, 1) := by decide +kernel
theorem dArrs_fill_11 : decode prog_25_method_103_code 11 = .ok (.iload_n 2, 1) := by decide +kernel
theorem dArrs_fill_12 : decode prog_25_method_103_code 12 = .ok (.iload_n 1, 1) := by decide +kernel
theorem dArrs_fill_13 : decode prog_25_method_103_code 13 = .ok (.iastore, 1) := by decide +kernel
theorem dArrs_fill_14 : decode prog_25_method_103_code 14 = .ok (.iinc 2 1, 3) := by decide +kernel
theorem dArrs_fill_17 : decode prog_25_method_103_code 17 = .ok (.goto (-12), 3) := by decide +kernel
theorem dArrs_fill_20 : decode prog_25_method_103_code 20 = .ok (.return_, 1) := by decide +kernel
abbrev rm_Arrs_fill : Room := { frames := 0, cells := 0, slots := 0, locals := 0 }
def f_Arrs_fill_b5 (N : Nat) : Nat → Option Nat → Int32 → Int32 → Int32 → hE → Option (hE)
  | 0, _, _, _, _, _ => none
  | n + 1, y0, y1, y2, y3, E => (
  if y3 ≤ y2 then (
  some E
  ) else (
  (tI E y0 0 y2 y1).bind fun E13 =>
  f_Arrs_fill_b5 N n y0 y1 (y2 + 1) y3 E13
  ))
set_option maxHeartbeats 4000000 in
set_option maxRecDepth 100000 in
theorem b_Arrs_fill_5 {p : Program} {l : Launch} {e : Env} {s : State} {m : MethodId} {args : Array Value} {below : List Frame} {meth : Method} {c : Code} {D : va_G} {kA : Nat → ClassId} {S : hE} {g : Nat → Nat} {n0 nx : Nat} {N : Nat} {res : hE} (C : hX p s m args c prog_25_method_103_code 4 R_Arrs ws_Arrs_fill D kA S g n0) (hr : meth.sig.returnType = none) (hlk : meth.locks = false) (hnm : meth.name = "fill") : ∀ n : Nat, ∀ (y0 : Option Nat) (y1 : Int32) (y2 : Int32) (y3 : Int32) (E : hE) (H : Heap) (locs : List Loc) (ls : Array Slot), hY D kA n0 s E nx H locs → lv_has ls 4 [(0, va_rf y0), (1, .int y1), (2, .int y2), (3, .int y3)] → f_Arrs_fill_b5 N n y0 y1 y2 y3 E = some res → W p l e rm_Arrs_fill s m args below meth c H locs 0 0 (MQ below (va_Qv (fun w => w = (res, nx)) (hJ D kA S g n0) (fun q => n0 ≤ q)) args s 0 0 (fun q => n0 ≤ q)) (F0 m 5 ls []) := by
  intro n
  induction n with
  | zero =>
    intro y0 y1 y2 y3 E H locs ls M hl hf
    simp [f_Arrs_fill_b5] at hf
  | succ n ih =>
    intro y0 y1 y2 y3 E H locs ls M hl hf
    rw [f_Arrs_fill_b5] at hf
    refine lv_iload_n C.x C.b dArrs_fill_5 rfl (lv_at hl 2 rfl) ?_
    refine lv_iload_n C.x C.b dArrs_fill_6 rfl (lv_at hl 3 rfl) ?_
    refine lv_icmp_ge (tgt := 20) C.x C.b dArrs_fill_7 (by decide) (fun c7 => ?_) (fun c7 => ?_)
    · rw [if_pos c7] at hf
      cases hf
      exact w_vret C M hr hlk (Nat.le_refl _) (Nat.le_refl _) dArrs_fill_20 rfl
    · rw [if_neg c7] at hf
      refine w_aload_n C.x C.b dArrs_fill_10 rfl (lv_at hl 0 rfl) ?_
      refine lv_iload_n C.x C.b dArrs_fill_11 rfl (lv_at hl 2 rfl) ?_
      refine lv_iload_n C.x C.b dArrs_fill_12 rfl (lv_at hl 1 rfl) ?_
      obtain ⟨E13, h13, hf⟩ := Option.bind_eq_some_iff.mp hf
      refine w_iast C M h13 rfl dArrs_fill_13 (fun H locs M => ?_)
      refine lv_iinc (v := y2 + 1) (lv' := [(2, .int (y2 + 1)), (0, va_rf y0), (1, .int y1), (3, .int y3)]) C.x C.b dArrs_fill_14 hl (k := 2) rfl rfl (by decide) rfl (fun ls hl => ?_)
      refine lv_goto (tgt := 5) C.x C.b dArrs_fill_17 (by decide) ?_
      exact ih _ _ _ _ _ _ _ _ M (lv_sub hl [1, 2, 0, 3] rfl) hf
def f_Arrs_fill (N : Nat) (x0 : Option Nat) (x1 : Int32) (E : hE) : Option (hE) := (
  (aL E x0 0).bind fun v3 =>
  f_Arrs_fill_b5 N N x0 x1 0 v3 E)
set_option maxHeartbeats 4000000 in
set_option maxRecDepth 100000 in
theorem c_Arrs_fill {l : Launch} {D : va_G} {kA : Nat → ClassId} {S : hE} {g : Nat → Nat} {n0 nx : Nat} {N : Nat} {x0 : Option Nat} {x1 : Int32} {E : hE} {res : hE} (hf : f_Arrs_fill N x0 x1 E = some res) : Met l y_Arrs_fill ws_Arrs_fill rm_Arrs_fill (va_Pc [va_rf x0, .int x1] (hJ D kA S g n0 (E, nx))) (va_Qv (fun w => w = (res, nx)) (hJ D kA S g n0) (fun q => n0 ≤ q)) 0 0 (fun q => n0 ≤ q) := by
  refine h_met (cc := prog_25_method_103_code) (maxL := 4) (ret := none) (lvs := [(0, va_rf x0), (1, .int x1)]) zZ_k (by decide) rfl (by simp [lg_sl, va_rf_cat, cat_i, cat_l, cat_n]) (by simp [lv_args, va_rf_cat, cat_i, cat_l, cat_n]) ?_
  intro p e s m below meth c ls C M hr hlk hnm hl
  unfold f_Arrs_fill at hf
  refine lv_iconst (v := 0) C.x C.b dArrs_fill_0 (by decide) ?_
  refine lv_istore_n (lv' := [(2, .int 0), (0, va_rf x0), (1, .int x1)]) C.x C.b dArrs_fill_1 rfl hl (by decide) rfl (fun ls hl => ?_)
  refine w_aload_n C.x C.b dArrs_fill_2 rfl (lv_at hl 1 rfl) ?_
  obtain ⟨v3, h3, hf⟩ := Option.bind_eq_some_iff.mp hf
  refine w_alen C M h3 rfl dArrs_fill_3 ?_
  refine lv_istore_n (lv' := [(3, .int v3), (2, .int 0), (0, va_rf x0), (1, .int x1)]) C.x C.b dArrs_fill_4 rfl hl (by decide) rfl (fun ls hl => ?_)
  exact b_Arrs_fill_5 C hr hlk hnm N _ _ _ _ _ _ _ _ M (lv_sub hl [2, 3, 1, 0] rfl) hf
theorem dFrame_begin_0 : decode prog_4_method_2_code 0 = .ok (.aload_n 0, 1) := by decide +kernel
theorem dFrame_begin_1 : decode prog_4_method_2_code 1 = .ok (.getfield 9, 3) := by decide +kernel
theorem dFrame_begin_4 : decode prog_4_method_2_code 4 = .ok (.iconst 0, 1) := by decide +kernel
theorem dFrame_begin_5 : decode prog_4_method_2_code 5 = .ok (.invokestatic 25, 3) := by decide +kernel
theorem dFrame_begin_8 : decode prog_4_method_2_code 8 = .ok (.aload_n 0, 1) := by decide +kernel
theorem dFrame_begin_9 : decode prog_4_method_2_code 9 = .ok (.getfield 15, 3) := by decide +kernel
theorem dFrame_begin_12 : decode prog_4_method_2_code 12 = .ok (.iconst 0, 1) := by decide +kernel
theorem dFrame_begin_13 : decode prog_4_method_2_code 13 = .ok (.invokestatic 25, 3) := by decide +kernel
theorem dFrame_begin_16 : decode prog_4_method_2_code 16 = .ok (.aload_n 0, 1) := by decide +kernel
theorem dFrame_begin_17 : decode prog_4_method_2_code 17 = .ok (.getfield 9, 3) := by decide +kernel
theorem dFrame_begin_20 : decode prog_4_method_2_code 20 = .ok (.iconst 0, 1) := by decide +kernel
theorem dFrame_begin_21 : decode prog_4_method_2_code 21 = .ok (.iload_n 1, 1) := by decide +kernel
theorem dFrame_begin_22 : decode prog_4_method_2_code 22 = .ok (.iastore, 1) := by decide +kernel
theorem dFrame_begin_23 : decode prog_4_method_2_code 23 = .ok (.aload_n 0, 1) := by decide +kernel
theorem dFrame_begin_24 : decode prog_4_method_2_code 24 = .ok (.iconst 0, 1) := by decide +kernel
theorem dFrame_begin_25 : decode prog_4_method_2_code 25 = .ok (.putfield 31, 3) := by decide +kernel
theorem dFrame_begin_28 : decode prog_4_method_2_code 28 = .ok (.aload_n 0, 1) := by decide +kernel
theorem dFrame_begin_29 : decode prog_4_method_2_code 29 = .ok (.iconst 0, 1) := by decide +kernel
theorem dFrame_begin_30 : decode prog_4_method_2_code 30 = .ok (.putfield 34, 3) := by decide +kernel
theorem dFrame_begin_33 : decode prog_4_method_2_code 33 = .ok (.return_, 1) := by decide +kernel
abbrev rm_Frame_begin : Room := { frames := 1, cells := 0, slots := 0, locals := 23 }
def f_Frame_begin (N : Nat) (x0 : Nat) (x1 : Int32) (E : hE) : Option (hE) := (
  (gR E (some x0) 1 1).bind fun v1 =>
  (f_Arrs_fill N v1 0 E).bind fun v5 =>
  (gR v5 (some x0) 1 2).bind fun v9 =>
  (f_Arrs_fill N v9 0 v5).bind fun v13 =>
  (gR v13 (some x0) 1 1).bind fun v17 =>
  (tI v13 v17 0 0 x1).bind fun E22 =>
  (sI E22 (some x0) 1 4 0).bind fun E25 =>
  (sI E25 (some x0) 1 5 0).bind fun E30 =>
  some E30)
set_option maxHeartbeats 4000000 in
set_option maxRecDepth 100000 in
theorem c_Frame_begin {l : Launch} {D : va_G} {kA : Nat → ClassId} {S : hE} {g : Nat → Nat} {n0 nx : Nat} {N : Nat} {x0 : Nat} {x1 : Int32} {E : hE} {res : hE} (hf : f_Frame_begin N x0 x1 E = some res) : Met l y_Frame_begin ws_Frame_begin rm_Frame_begin (va_Pc [va_rf (some x0), .int x1] (hJ D kA S g n0 (E, nx))) (va_Qv (fun w => w = (res, nx)) (hJ D kA S g n0) (fun q => n0 ≤ q)) 0 0 (fun q => n0 ≤ q) := by
  refine h_met (cc := prog_4_method_2_code) (maxL := 2) (ret := none) (lvs := [(0, va_rf (some x0)), (1, .int x1)]) zZ_k (by decide) rfl (by simp [lg_sl, va_rf_cat, cat_i, cat_l, cat_n]) (by simp [lv_args, va_rf_cat, cat_i, cat_l, cat_n]) ?_
  intro p e s m below meth c ls C M hr hlk hnm hl
  unfold f_Frame_begin at hf
  refine w_aload_n C.x C.b dFrame_begin_0 rfl (lv_at hl 0 rfl) ?_
  obtain ⟨v1, h1, hf⟩ := Option.bind_eq_some_iff.mp hf
  refine w_getR C M h1 rfl (hm_in in_Frame) (by decide) (List.mem_cons_of_mem _ wm_105) rfl dFrame_begin_1 ?_
  refine lv_iconst (v := 0) C.x C.b dFrame_begin_4 (by decide) ?_
  obtain ⟨v5, h5, hf⟩ := Option.bind_eq_some_iff.mp hf
  refine w_cv M (w_runS C M (c_Arrs_fill h5) (va_cwS 2 C.ts (hgT wm_590 wm_248 wm_11 wm_249) rfl rfl rfl (by decide +kernel) ⟨Nat.le_of_ble_eq_true rfl, Nat.le_of_ble_eq_true rfl⟩) rfl hl.1 rfl (Nat.zero_le _) dFrame_begin_5 ⟨Nat.le_refl _, Nat.le_refl _⟩) (fun H locs M => ?_)
  refine w_aload_n C.x C.b dFrame_begin_8 rfl (lv_at hl 0 rfl) ?_
  obtain ⟨v9, h9, hf⟩ := Option.bind_eq_some_iff.mp hf
  refine w_getR C M h9 rfl (hm_in in_Frame) (by decide) (List.mem_cons_of_mem _ wm_107) rfl dFrame_begin_9 ?_
  refine lv_iconst (v := 0) C.x C.b dFrame_begin_12 (by decide) ?_
  obtain ⟨v13, h13, hf⟩ := Option.bind_eq_some_iff.mp hf
  refine w_cv M (w_runS C M (c_Arrs_fill h13) (va_cwS 2 C.ts (hgT wm_590 wm_248 wm_11 wm_249) rfl rfl rfl (by decide +kernel) ⟨Nat.le_of_ble_eq_true rfl, Nat.le_of_ble_eq_true rfl⟩) rfl hl.1 rfl (Nat.zero_le _) dFrame_begin_13 ⟨Nat.le_refl _, Nat.le_refl _⟩) (fun H locs M => ?_)
  refine w_aload_n C.x C.b dFrame_begin_16 rfl (lv_at hl 0 rfl) ?_
  obtain ⟨v17, h17, hf⟩ := Option.bind_eq_some_iff.mp hf
  refine w_getR C M h17 rfl (hm_in in_Frame) (by decide) (List.mem_cons_of_mem _ wm_105) rfl dFrame_begin_17 ?_
  refine lv_iconst (v := 0) C.x C.b dFrame_begin_20 (by decide) ?_
  refine lv_iload_n C.x C.b dFrame_begin_21 rfl (lv_at hl 1 rfl) ?_
  obtain ⟨E22, h22, hf⟩ := Option.bind_eq_some_iff.mp hf
  refine w_iast C M h22 rfl dFrame_begin_22 (fun H locs M => ?_)
  refine w_aload_n C.x C.b dFrame_begin_23 rfl (lv_at hl 0 rfl) ?_
  refine lv_iconst (v := 0) C.x C.b dFrame_begin_24 (by decide) ?_
  obtain ⟨E25, h25, hf⟩ := Option.bind_eq_some_iff.mp hf
  refine w_putV (ty := .int) C M ty_Frame h25 rfl (hm_in in_Frame) tyok_Frame nm_Frame (by decide) (List.mem_cons_of_mem _ wm_110) rfl rfl (by decide +kernel) rfl rfl dFrame_begin_25 (fun H locs M => ?_)
  refine w_aload_n C.x C.b dFrame_begin_28 rfl (lv_at hl 0 rfl) ?_
  refine lv_iconst (v := 0) C.x C.b dFrame_begin_29 (by decide) ?_
  obtain ⟨E30, h30, hf⟩ := Option.bind_eq_some_iff.mp hf
  refine w_putV (ty := .int) C M ty_Frame h30 rfl (hm_in in_Frame) tyok_Frame nm_Frame (by decide) (List.mem_cons_of_mem _ wm_111) rfl rfl (by decide +kernel) rfl rfl dFrame_begin_30 (fun H locs M => ?_)
  cases hf
  exact w_vret C M hr hlk (Nat.le_refl _) (Nat.le_refl _) dFrame_begin_33 rfl
theorem dFrame_valueOf_0 : decode prog_4_method_3_code 0 = .ok (.iload_n 1, 1) := by decide +kernel
theorem dFrame_valueOf_1 : decode prog_4_method_3_code 1 = .ok (.ldc 37, 2) := by decide +kernel
theorem dFrame_valueOf_3 : decode prog_4_method_3_code 3 = .ok (.isub, 1) := by decide +kernel
theorem dFrame_valueOf_4 : decode prog_4_method_3_code 4 = .ok (.istore_n 2, 1) := by decide +kernel
theorem dFrame_valueOf_5 : decode prog_4_method_3_code 5 = .ok (.iload_n 2, 1) := by decide +kernel
theorem dFrame_valueOf_6 : decode prog_4_method_3_code 6 = .ok (.ifCond .lt 18, 3) := by decide +kernel
theorem dFrame_valueOf_9 : decode prog_4_method_3_code 9 = .ok (.iload_n 2, 1) := by decide +kernel
theorem dFrame_valueOf_10 : decode prog_4_method_3_code 10 = .ok (.bipush 8, 2) := by decide +kernel
theorem dFrame_valueOf_12 : decode prog_4_method_3_code 12 = .ok (.if_icmp .ge 12, 3) := by decide +kernel
theorem dFrame_valueOf_15 : decode prog_4_method_3_code 15 = .ok (.aload_n 0, 1) := by decide +kernel
theorem dFrame_valueOf_16 : decode prog_4_method_3_code 16 = .ok (.getfield 9, 3) := by decide +kernel
theorem dFrame_valueOf_19 : decode prog_4_method_3_code 19 = .ok (.iload_n 2, 1) := by decide +kernel
theorem dFrame_valueOf_20 : decode prog_4_method_3_code 20 = .ok (.iaload, 1) := by decide +kernel
theorem dFrame_valueOf_21 : decode prog_4_method_3_code 21 = .ok (.goto 4, 3) := by decide +kernel
theorem dFrame_valueOf_24 : decode prog_4_method_3_code 24 = .ok (.iload_n 1, 1) := by decide +kernel
theorem dFrame_valueOf_25 : decode prog_4_method_3_code 25 = .ok (.ireturn, 1) := by decide +kernel
abbrev rm_Frame_valueOf : Room := { frames := 0, cells := 0, slots := 0, locals := 0 }
def f_Frame_valueOf_b25 (E : hE) (t0 : Int32) : Option (Int32) := (
  some t0)
set_option maxHeartbeats 4000000 in
set_option maxRecDepth 100000 in
theorem b_Frame_valueOf_25 {p : Program} {l : Launch} {e : Env} {s : State} {m : MethodId} {args : Array Value} {below : List Frame} {meth : Method} {c : Code} {D : va_G} {kA : Nat → ClassId} {S : hE} {g : Nat → Nat} {n0 nx : Nat} {E : hE} {res : Int32} (C : hX p s m args c prog_4_method_3_code 3 R_Frame ws_Frame_valueOf D kA S g n0) (hr : meth.sig.returnType = (some .int)) (hlk : meth.locks = false) (hnm : meth.name = "valueOf") : ∀ (t0 : Int32) (H : Heap) (locs : List Loc) (ls : Array Slot), hY D kA n0 s E nx H locs → lv_has ls 3 [] → f_Frame_valueOf_b25 E  t0 = some res → W p l e rm_Frame_valueOf s m args below meth c H locs 0 0 (MQ below (va_Qi (fun r w => r = res ∧ w = (E, nx)) (hJ D kA S g n0) (fun q => n0 ≤ q)) args s 0 0 (fun q => n0 ≤ q)) (F0 m 25 ls [.int t0]) := by
  intro t0 H locs ls M hl hf
  unfold f_Frame_valueOf_b25 at hf
  cases hf
  exact w_iret C M hr hlk rfl (Nat.le_refl _) (Nat.le_refl _) dFrame_valueOf_25 rfl rfl
def f_Frame_valueOf_b24 (E : hE) (y1 : Int32) : Option (Int32) := (
  f_Frame_valueOf_b25 E y1)
set_option maxHeartbeats 4000000 in
set_option maxRecDepth 100000 in
theorem b_Frame_valueOf_24 {p : Program} {l : Launch} {e : Env} {s : State} {m : MethodId} {args : Array Value} {below : List Frame} {meth : Method} {c : Code} {D : va_G} {kA : Nat → ClassId} {S : hE} {g : Nat → Nat} {n0 nx : Nat} {E : hE} {res : Int32} (C : hX p s m args c prog_4_method_3_code 3 R_Frame ws_Frame_valueOf D kA S g n0) (hr : meth.sig.returnType = (some .int)) (hlk : meth.locks = false) (hnm : meth.name = "valueOf") : ∀ (y1 : Int32) (H : Heap) (locs : List Loc) (ls : Array Slot), hY D kA n0 s E nx H locs → lv_has ls 3 [(1, .int y1)] → f_Frame_valueOf_b24 E  y1 = some res → W p l e rm_Frame_valueOf s m args below meth c H locs 0 0 (MQ below (va_Qi (fun r w => r = res ∧ w = (E, nx)) (hJ D kA S g n0) (fun q => n0 ≤ q)) args s 0 0 (fun q => n0 ≤ q)) (F0 m 24 ls []) := by
  intro y1 H locs ls M hl hf
  unfold f_Frame_valueOf_b24 at hf
  refine lv_iload_n C.x C.b dFrame_valueOf_24 rfl (lv_at hl 0 rfl) ?_
  exact b_Frame_valueOf_25 C hr hlk hnm _ _ _ _ M (lv_sub hl [] rfl) hf
def f_Frame_valueOf (E : hE) (x0 : Nat) (x1 : Int32) : Option (Int32) := (
  if (x1 - 1000000) < 0 then (
  f_Frame_valueOf_b24 E x1
  ) else (
  if 8 ≤ (x1 - 1000000) then (
  f_Frame_valueOf_b24 E x1
  ) else (
  (gR E (some x0) 1 1).bind fun v16 =>
  (aI E v16 0 (x1 - 1000000)).bind fun v20 =>
  f_Frame_valueOf_b25 E v20
  )
  ))
set_option maxHeartbeats 4000000 in
set_option maxRecDepth 100000 in
theorem c_Frame_valueOf {l : Launch} {D : va_G} {kA : Nat → ClassId} {S : hE} {g : Nat → Nat} {n0 nx : Nat} {x0 : Nat} {x1 : Int32} {E : hE} {res : Int32} (hf : f_Frame_valueOf E x0 x1 = some res) : Met l y_Frame_valueOf ws_Frame_valueOf rm_Frame_valueOf (va_Pc [va_rf (some x0), .int x1] (hJ D kA S g n0 (E, nx))) (va_Qi (fun r w => r = res ∧ w = (E, nx)) (hJ D kA S g n0) (fun q => n0 ≤ q)) 0 0 (fun q => n0 ≤ q) := by
  refine h_met (cc := prog_4_method_3_code) (maxL := 3) (ret := (some .int)) (lvs := [(0, va_rf (some x0)), (1, .int x1)]) zZ_k (by decide) rfl (by simp [lg_sl, va_rf_cat, cat_i, cat_l, cat_n]) (by simp [lv_args, va_rf_cat, cat_i, cat_l, cat_n]) ?_
  intro p e s m below meth c ls C M hr hlk hnm hl
  unfold f_Frame_valueOf at hf
  refine lv_iload_n C.x C.b dFrame_valueOf_0 rfl (lv_at hl 1 rfl) ?_
  refine lv_ldc (v := 1000000) C.x C.b C.ow (C.ts (.constant R_Frame 37 1000000) (List.mem_cons_of_mem _ wm_604)) dFrame_valueOf_1 ?_
  refine lv_isub C.x C.b dFrame_valueOf_3 ?_
  refine lv_istore_n (lv' := [(2, .int (x1 - 1000000)), (0, va_rf (some x0)), (1, .int x1)]) C.x C.b dFrame_valueOf_4 rfl hl (by decide) rfl (fun ls hl => ?_)
  refine lv_iload_n C.x C.b dFrame_valueOf_5 rfl (lv_at hl 0 rfl) ?_
  refine lv_if_lt (tgt := 24) C.x C.b dFrame_valueOf_6 (by decide) (fun c6 => ?_) (fun c6 => ?_)
  · rw [if_pos c6] at hf
    exact b_Frame_valueOf_24 C hr hlk hnm _ _ _ _ M (lv_sub hl [2] rfl) hf
  · rw [if_neg c6] at hf
    refine lv_iload_n C.x C.b dFrame_valueOf_9 rfl (lv_at hl 0 rfl) ?_
    refine lv_bipush (v := 8) C.x C.b dFrame_valueOf_10 (by decide) ?_
    refine lv_icmp_ge (tgt := 24) C.x C.b dFrame_valueOf_12 (by decide) (fun c12 => ?_) (fun c12 => ?_)
    · rw [if_pos c12] at hf
      exact b_Frame_valueOf_24 C hr hlk hnm _ _ _ _ M (lv_sub hl [2] rfl) hf
    · rw [if_neg c12] at hf
      refine w_aload_n C.x C.b dFrame_valueOf_15 rfl (lv_at hl 1 rfl) ?_
      obtain ⟨v16, h16, hf⟩ := Option.bind_eq_some_iff.mp hf
      refine w_getR C M h16 rfl (hm_in in_Frame) (by decide) (List.mem_cons_of_mem _ wm_105) rfl dFrame_valueOf_16 ?_
      refine lv_iload_n C.x C.b dFrame_valueOf_19 rfl (lv_at hl 0 rfl) ?_
      obtain ⟨v20, h20, hf⟩ := Option.bind_eq_some_iff.mp hf
      refine w_iald C M h20 rfl dFrame_valueOf_20 ?_
      refine lv_goto (tgt := 25) C.x C.b dFrame_valueOf_21 (by decide) ?_
      exact b_Frame_valueOf_25 C hr hlk hnm _ _ _ _ M (lv_sub hl [] rfl) hf
theorem dFrame_set_0 : decode prog_4_method_4_code 0 = .ok (.iload_n 1, 1) := by decide +kernel
theorem dFrame_set_1 : decode prog_4_method_4_code 1 = .ok (.ifCond .lt 16, 3) := by decide +kernel
theorem dFrame_set_4 : decode prog_4_method_4_code 4 = .ok (.iload_n 1, 1) := by decide +kernel
theorem dFrame_set_5 : decode prog_4_method_4_code 5 = .ok (.bipush 8, 2) := by decide +kernel
theorem dFrame_set_7 : decode prog_4_method_4_code 7 = .ok (.if_icmp .ge 10, 3) := by decide +kernel
theorem dFrame_set_10 : decode prog_4_method_4_code 10 = .ok (.aload_n 0, 1) := by decide +kernel
theorem dFrame_set_11 : decode prog_4_method_4_code 11 = .ok (.getfield 9, 3) := by decide +kernel
theorem dFrame_set_14 : decode prog_4_method_4_code 14 = .ok (.iload_n 1, 1) := by decide +kernel
theorem dFrame_set_15 : decode prog_4_method_4_code 15 = .ok (.iload_n 2, 1) := by decide +kernel
theorem dFrame_set_16 : decode prog_4_method_4_code 16 = .ok (.iastore, 1) := by decide +kernel
theorem dFrame_set_17 : decode prog_4_method_4_code 17 = .ok (.return_, 1) := by decide +kernel
abbrev rm_Frame_set : Room := { frames := 0, cells := 0, slots := 0, locals := 0 }
def f_Frame_set_b17  (E : hE) : Option (hE) := (
  some E)
set_option maxHeartbeats 4000000 in
set_option maxRecDepth 100000 in
theorem b_Frame_set_17 {p : Program} {l : Launch} {e : Env} {s : State} {m : MethodId} {args : Array Value} {below : List Frame} {meth : Method} {c : Code} {D : va_G} {kA : Nat → ClassId} {S : hE} {g : Nat → Nat} {n0 nx : Nat} {res : hE} (C : hX p s m args c prog_4_method_4_code 3 R_Frame ws_Frame_set D kA S g n0) (hr : meth.sig.returnType = none) (hlk : meth.locks = false) (hnm : meth.name = "set") : ∀  (E : hE) (H : Heap) (locs : List Loc) (ls : Array Slot), hY D kA n0 s E nx H locs → lv_has ls 3 [] → f_Frame_set_b17  E = some res → W p l e rm_Frame_set s m args below meth c H locs 0 0 (MQ below (va_Qv (fun w => w = (res, nx)) (hJ D kA S g n0) (fun q => n0 ≤ q)) args s 0 0 (fun q => n0 ≤ q)) (F0 m 17 ls []) := by
  intro E H locs ls M hl hf
  unfold f_Frame_set_b17 at hf
  cases hf
  exact w_vret C M hr hlk (Nat.le_refl _) (Nat.le_refl _) dFrame_set_17 rfl
def f_Frame_set  (x0 : Nat) (x1 : Int32) (x2 : Int32) (E : hE) : Option (hE) := (
  if x1 < 0 then (
  f_Frame_set_b17 E
  ) else (
  if 8 ≤ x1 then (
  f_Frame_set_b17 E
  ) else (
  (gR E (some x0) 1 1).bind fun v11 =>
  (tI E v11 0 x1 x2).bind fun E16 =>
  f_Frame_set_b17 E16
  )
  ))
set_option maxHeartbeats 4000000 in
set_option maxRecDepth 100000 in
theorem c_Frame_set {l : Launch} {D : va_G} {kA : Nat → ClassId} {S : hE} {g : Nat → Nat} {n0 nx : Nat} {x0 : Nat} {x1 : Int32} {x2 : Int32} {E : hE} {res : hE} (hf : f_Frame_set x0 x1 x2 E = some res) : Met l y_Frame_set ws_Frame_set rm_Frame_set (va_Pc [va_rf (some x0), .int x1, .int x2] (hJ D kA S g n0 (E, nx))) (va_Qv (fun w => w = (res, nx)) (hJ D kA S g n0) (fun q => n0 ≤ q)) 0 0 (fun q => n0 ≤ q) := by
  refine h_met (cc := prog_4_method_4_code) (maxL := 3) (ret := none) (lvs := [(0, va_rf (some x0)), (1, .int x1), (2, .int x2)]) zZ_k (by decide) rfl (by simp [lg_sl, va_rf_cat, cat_i, cat_l, cat_n]) (by simp [lv_args, va_rf_cat, cat_i, cat_l, cat_n]) ?_
  intro p e s m below meth c ls C M hr hlk hnm hl
  unfold f_Frame_set at hf
  refine lv_iload_n C.x C.b dFrame_set_0 rfl (lv_at hl 1 rfl) ?_
  refine lv_if_lt (tgt := 17) C.x C.b dFrame_set_1 (by decide) (fun c1 => ?_) (fun c1 => ?_)
  · rw [if_pos c1] at hf
    exact b_Frame_set_17 C hr hlk hnm _ _ _ _ M (lv_sub hl [] rfl) hf
  · rw [if_neg c1] at hf
    refine lv_iload_n C.x C.b dFrame_set_4 rfl (lv_at hl 1 rfl) ?_
    refine lv_bipush (v := 8) C.x C.b dFrame_set_5 (by decide) ?_
    refine lv_icmp_ge (tgt := 17) C.x C.b dFrame_set_7 (by decide) (fun c7 => ?_) (fun c7 => ?_)
    · rw [if_pos c7] at hf
      exact b_Frame_set_17 C hr hlk hnm _ _ _ _ M (lv_sub hl [] rfl) hf
    · rw [if_neg c7] at hf
      refine w_aload_n C.x C.b dFrame_set_10 rfl (lv_at hl 0 rfl) ?_
      obtain ⟨v11, h11, hf⟩ := Option.bind_eq_some_iff.mp hf
      refine w_getR C M h11 rfl (hm_in in_Frame) (by decide) (List.mem_cons_of_mem _ wm_105) rfl dFrame_set_11 ?_
      refine lv_iload_n C.x C.b dFrame_set_14 rfl (lv_at hl 1 rfl) ?_
      refine lv_iload_n C.x C.b dFrame_set_15 rfl (lv_at hl 2 rfl) ?_
      obtain ⟨E16, h16, hf⟩ := Option.bind_eq_some_iff.mp hf
      refine w_iast C M h16 rfl dFrame_set_16 (fun H locs M => ?_)
      exact b_Frame_set_17 C hr hlk hnm _ _ _ _ M (lv_sub hl [] rfl) hf
theorem dFrame_call_0 : decode prog_4_method_5_code 0 = .ok (.aload_n 0, 1) := by decide +kernel
theorem dFrame_call_1 : decode prog_4_method_5_code 1 = .ok (.getfield 31, 3) := by decide +kernel
theorem dFrame_call_4 : decode prog_4_method_5_code 4 = .ok (.ifCond .lt 12, 3) := by decide +kernel
theorem dFrame_call_7 : decode prog_4_method_5_code 7 = .ok (.aload_n 0, 1) := by decide +kernel
theorem dFrame_call_8 : decode prog_4_method_5_code 8 = .ok (.getfield 31, 3) := by decide +kernel
theorem dFrame_call_11 : decode prog_4_method_5_code 11 = .ok (.bipush 8, 2) := by decide +kernel
theorem dFrame_call_13 : decode prog_4_method_5_code 13 = .ok (.if_icmp .lt 5, 3) := by decide +kernel
theorem dFrame_call_16 : decode prog_4_method_5_code 16 = .ok (.iconst 0, 1) := by decide +kernel
theorem dFrame_call_17 : decode prog_4_method_5_code 17 = .ok (.ireturn, 1) := by decide +kernel
theorem dFrame_call_18 : decode prog_4_method_5_code 18 = .ok (.aload_n 0, 1) := by decide +kernel
theorem dFrame_call_19 : decode prog_4_method_5_code 19 = .ok (.getfield 18, 3) := by decide +kernel
theorem dFrame_call_22 : decode prog_4_method_5_code 22 = .ok (.aload_n 0, 1) := by decide +kernel
theorem dFrame_call_23 : decode prog_4_method_5_code 23 = .ok (.getfield 31, 3) := by decide +kernel
theorem dFrame_call_26 : decode prog_4_method_5_code 26 = .ok (.aload_n 0, 1) := by decide +kernel
theorem dFrame_call_27 : decode prog_4_method_5_code 27 = .ok (.getfield 34, 3) := by decide +kernel
theorem dFrame_call_30 : decode prog_4_method_5_code 30 = .ok (.iastore, 1) := by decide +kernel
theorem dFrame_call_31 : decode prog_4_method_5_code 31 = .ok (.aload_n 0, 1) := by decide +kernel
theorem dFrame_call_32 : decode prog_4_method_5_code 32 = .ok (.dup, 1) := by decide +kernel
theorem dFrame_call_33 : decode prog_4_method_5_code 33 = .ok (.getfield 31, 3) := by decide +kernel
theorem dFrame_call_36 : decode prog_4_method_5_code 36 = .ok (.iconst 1, 1) := by decide +kernel
theorem dFrame_call_37 : decode prog_4_method_5_code 37 = .ok (.iadd, 1) := by decide +kernel
theorem dFrame_call_38 : decode prog_4_method_5_code 38 = .ok (.putfield 31, 3) := by decide +kernel
theorem dFrame_call_41 : decode prog_4_method_5_code 41 = .ok (.aload_n 0, 1) := by decide +kernel
theorem dFrame_call_42 : decode prog_4_method_5_code 42 = .ok (.iload_n 1, 1) := by decide +kernel
theorem dFrame_call_43 : decode prog_4_method_5_code 43 = .ok (.putfield 34, 3) := by decide +kernel
theorem dFrame_call_46 : decode prog_4_method_5_code 46 = .ok (.iconst 1, 1) := by decide +kernel
theorem dFrame_call_47 : decode prog_4_method_5_code 47 = .ok (.ireturn, 1) := by decide +kernel
abbrev rm_Frame_call : Room := { frames := 0, cells := 0, slots := 0, locals := 0 }
def f_Frame_call_b16  (E : hE) : Option (Int32 × hE) := (
  some (0, E))
set_option maxHeartbeats 4000000 in
set_option maxRecDepth 100000 in
theorem b_Frame_call_16 {p : Program} {l : Launch} {e : Env} {s : State} {m : MethodId} {args : Array Value} {below : List Frame} {meth : Method} {c : Code} {D : va_G} {kA : Nat → ClassId} {S : hE} {g : Nat → Nat} {n0 nx : Nat} {res : Int32 × hE} (C : hX p s m args c prog_4_method_5_code 2 R_Frame ws_Frame_call D kA S g n0) (hr : meth.sig.returnType = (some .boolean)) (hlk : meth.locks = false) (hnm : meth.name = "call") : ∀  (E : hE) (H : Heap) (locs : List Loc) (ls : Array Slot), hY D kA n0 s E nx H locs → lv_has ls 2 [] → f_Frame_call_b16  E = some res → W p l e rm_Frame_call s m args below meth c H locs 0 0 (MQ below (va_Qi (fun r w => r = res.1 ∧ w = (res.2, nx)) (hJ D kA S g n0) (fun q => n0 ≤ q)) args s 0 0 (fun q => n0 ≤ q)) (F0 m 16 ls []) := by
  intro E H locs ls M hl hf
  unfold f_Frame_call_b16 at hf
  refine lv_iconst (v := 0) C.x C.b dFrame_call_16 (by decide) ?_
  cases hf
  exact w_iret C M hr hlk rfl (Nat.le_refl _) (Nat.le_refl _) dFrame_call_17 rfl rfl
def f_Frame_call  (x0 : Nat) (x1 : Int32) (E : hE) : Option (Int32 × hE) := (
  (gI E (some x0) 1 4).bind fun v1 =>
  if v1 < 0 then (
  f_Frame_call_b16 E
  ) else (
  (gI E (some x0) 1 4).bind fun v8 =>
  if v8 < 8 then (
  (gR E (some x0) 1 3).bind fun v19 =>
  (gI E (some x0) 1 4).bind fun v23 =>
  (gI E (some x0) 1 5).bind fun v27 =>
  (tI E v19 0 v23 v27).bind fun E30 =>
  (gI E30 (some x0) 1 4).bind fun v33 =>
  (sI E30 (some x0) 1 4 (v33 + 1)).bind fun E38 =>
  (sI E38 (some x0) 1 5 x1).bind fun E43 =>
  some (1, E43)
  ) else (
  f_Frame_call_b16 E
  )
  ))
set_option maxHeartbeats 4000000 in
set_option maxRecDepth 100000 in
theorem c_Frame_call {l : Launch} {D : va_G} {kA : Nat → ClassId} {S : hE} {g : Nat → Nat} {n0 nx : Nat} {x0 : Nat} {x1 : Int32} {E : hE} {res : Int32 × hE} (hf : f_Frame_call x0 x1 E = some res) : Met l y_Frame_call ws_Frame_call rm_Frame_call (va_Pc [va_rf (some x0), .int x1] (hJ D kA S g n0 (E, nx))) (va_Qi (fun r w => r = res.1 ∧ w = (res.2, nx)) (hJ D kA S g n0) (fun q => n0 ≤ q)) 0 0 (fun q => n0 ≤ q) := by
  refine h_met (cc := prog_4_method_5_code) (maxL := 2) (ret := (some .boolean)) (lvs := [(0, va_rf (some x0)), (1, .int x1)]) zZ_k (by decide) rfl (by simp [lg_sl, va_rf_cat, cat_i, cat_l, cat_n]) (by simp [lv_args, va_rf_cat, cat_i, cat_l, cat_n]) ?_
  intro p e s m below meth c ls C M hr hlk hnm hl
  unfold f_Frame_call at hf
  refine w_aload_n C.x C.b dFrame_call_0 rfl (lv_at hl 0 rfl) ?_
  obtain ⟨v1, h1, hf⟩ := Option.bind_eq_some_iff.mp hf
  refine w_getI C M h1 rfl (hm_in in_Frame) (by decide) (List.mem_cons_of_mem _ wm_110) rfl dFrame_call_1 ?_
  refine lv_if_lt (tgt := 16) C.x C.b dFrame_call_4 (by decide) (fun c4 => ?_) (fun c4 => ?_)
  · rw [if_pos c4] at hf
    exact b_Frame_call_16 C hr hlk hnm _ _ _ _ M (lv_sub hl [] rfl) hf
  · rw [if_neg c4] at hf
    refine w_aload_n C.x C.b dFrame_call_7 rfl (lv_at hl 0 rfl) ?_
    obtain ⟨v8, h8, hf⟩ := Option.bind_eq_some_iff.mp hf
    refine w_getI C M h8 rfl (hm_in in_Frame) (by decide) (List.mem_cons_of_mem _ wm_110) rfl dFrame_call_8 ?_
    refine lv_bipush (v := 8) C.x C.b dFrame_call_11 (by decide) ?_
    refine lv_icmp_lt (tgt := 18) C.x C.b dFrame_call_13 (by decide) (fun c13 => ?_) (fun c13 => ?_)
    · rw [if_pos c13] at hf
      refine w_aload_n C.x C.b dFrame_call_18 rfl (lv_at hl 0 rfl) ?_
      obtain ⟨v19, h19, hf⟩ := Option.bind_eq_some_iff.mp hf
      refine w_getR C M h19 rfl (hm_in in_Frame) (by decide) (List.mem_cons_of_mem _ wm_109) rfl dFrame_call_19 ?_
      refine w_aload_n C.x C.b dFrame_call_22 rfl (lv_at hl 0 rfl) ?_
      obtain ⟨v23, h23, hf⟩ := Option.bind_eq_some_iff.mp hf
      refine w_getI C M h23 rfl (hm_in in_Frame) (by decide) (List.mem_cons_of_mem _ wm_110) rfl dFrame_call_23 ?_
      refine w_aload_n C.x C.b dFrame_call_26 rfl (lv_at hl 0 rfl) ?_
      obtain ⟨v27, h27, hf⟩ := Option.bind_eq_some_iff.mp hf
      refine w_getI C M h27 rfl (hm_in in_Frame) (by decide) (List.mem_cons_of_mem _ wm_111) rfl dFrame_call_27 ?_
      obtain ⟨E30, h30, hf⟩ := Option.bind_eq_some_iff.mp hf
      refine w_iast C M h30 rfl dFrame_call_30 (fun H locs M => ?_)
      refine w_aload_n C.x C.b dFrame_call_31 rfl (lv_at hl 0 rfl) ?_
      refine lv_dup C.x C.b dFrame_call_32 (va_rf_cat _) ?_
      obtain ⟨v33, h33, hf⟩ := Option.bind_eq_some_iff.mp hf
      refine w_getI C M h33 rfl (hm_in in_Frame) (by decide) (List.mem_cons_of_mem _ wm_110) rfl dFrame_call_33 ?_
      refine lv_iconst (v := 1) C.x C.b dFrame_call_36 (by decide) ?_
      refine lv_iadd C.x C.b dFrame_call_37 ?_
      obtain ⟨E38, h38, hf⟩ := Option.bind_eq_some_iff.mp hf
      refine w_putV (ty := .int) C M ty_Frame h38 rfl (hm_in in_Frame) tyok_Frame nm_Frame (by decide) (List.mem_cons_of_mem _ wm_110) rfl rfl (by decide +kernel) rfl rfl dFrame_call_38 (fun H locs M => ?_)
      refine w_aload_n C.x C.b dFrame_call_41 rfl (lv_at hl 0 rfl) ?_
      refine lv_iload_n C.x C.b dFrame_call_42 rfl (lv_at hl 1 rfl) ?_
      obtain ⟨E43, h43, hf⟩ := Option.bind_eq_some_iff.mp hf
      refine w_putV (ty := .int) C M ty_Frame h43 rfl (hm_in in_Frame) tyok_Frame nm_Frame (by decide) (List.mem_cons_of_mem _ wm_111) rfl rfl (by decide +kernel) rfl rfl dFrame_call_43 (fun H locs M => ?_)
      refine lv_iconst (v := 1) C.x C.b dFrame_call_46 (by decide) ?_
      cases hf
      exact w_iret C M hr hlk rfl (Nat.le_refl _) (Nat.le_refl _) dFrame_call_47 rfl rfl
    · rw [if_neg c13] at hf
      exact b_Frame_call_16 C hr hlk hnm _ _ _ _ M (lv_sub hl [] rfl) hf
theorem dFrame_comeBack_0 : decode prog_4_method_6_code 0 = .ok (.aload_n 0, 1) := by decide +kernel
theorem dFrame_comeBack_1 : decode prog_4_method_6_code 1 = .ok (.getfield 31, 3) := by decide +kernel
theorem dFrame_comeBack_4 : decode prog_4_method_6_code 4 = .ok (.iconst 1, 1) := by decide +kernel
theorem dFrame_comeBack_5 : decode prog_4_method_6_code 5 = .ok (.if_icmp .lt 12, 3) := by decide +kernel
theorem dFrame_comeBack_8 : decode prog_4_method_6_code 8 = .ok (.aload_n 0, 1) := by decide +kernel
theorem dFrame_comeBack_9 : decode prog_4_method_6_code 9 = .ok (.getfield 31, 3) := by decide +kernel
theorem dFrame_comeBack_12 : decode prog_4_method_6_code 12 = .ok (.bipush 8, 2) := by decide +kernel
theorem dFrame_comeBack_14 : decode prog_4_method_6_code 14 = .ok (.if_icmp .le 5, 3) := by decide +kernel
theorem dFrame_comeBack_17 : decode prog_4_method_6_code 17 = .ok (.iconst 0, 1) := by decide +kernel
theorem dFrame_comeBack_18 : decode prog_4_method_6_code 18 = .ok (.ireturn, 1) := by decide +kernel
theorem dFrame_comeBack_19 : decode prog_4_method_6_code 19 = .ok (.aload_n 0, 1) := by decide +kernel
theorem dFrame_comeBack_20 : decode prog_4_method_6_code 20 = .ok (.dup, 1) := by decide +kernel
theorem dFrame_comeBack_21 : decode prog_4_method_6_code 21 = .ok (.getfield 31, 3) := by decide +kernel
theorem dFrame_comeBack_24 : decode prog_4_method_6_code 24 = .ok (.iconst 1, 1) := by decide +kernel
theorem dFrame_comeBack_25 : decode prog_4_method_6_code 25 = .ok (.isub, 1) := by decide +kernel
theorem dFrame_comeBack_26 : decode prog_4_method_6_code 26 = .ok (.putfield 31, 3) := by decide +kernel
theorem dFrame_comeBack_29 : decode prog_4_method_6_code 29 = .ok (.aload_n 0, 1) := by decide +kernel
theorem dFrame_comeBack_30 : decode prog_4_method_6_code 30 = .ok (.aload_n 0, 1) := by decide +kernel
theorem dFrame_comeBack_31 : decode prog_4_method_6_code 31 = .ok (.getfield 18, 3) := by decide +kernel
theorem dFrame_comeBack_34 : decode prog_4_method_6_code 34 = .ok (.aload_n 0, 1) := by decide +kernel
theorem dFrame_comeBack_35 : decode prog_4_method_6_code 35 = .ok (.getfield 31, 3) := by decide +kernel
theorem dFrame_comeBack_38 : decode prog_4_method_6_code 38 = .ok (.iaload, 1) := by decide +kernel
theorem dFrame_comeBack_39 : decode prog_4_method_6_code 39 = .ok (.putfield 34, 3) := by decide +kernel
theorem dFrame_comeBack_42 : decode prog_4_method_6_code 42 = .ok (.iconst 1, 1) := by decide +kernel
theorem dFrame_comeBack_43 : decode prog_4_method_6_code 43 = .ok (.ireturn, 1) := by decide +kernel
abbrev rm_Frame_comeBack : Room := { frames := 0, cells := 0, slots := 0, locals := 0 }
def f_Frame_comeBack_b17  (E : hE) : Option (Int32 × hE) := (
  some (0, E))
set_option maxHeartbeats 4000000 in
set_option maxRecDepth 100000 in
theorem b_Frame_comeBack_17 {p : Program} {l : Launch} {e : Env} {s : State} {m : MethodId} {args : Array Value} {below : List Frame} {meth : Method} {c : Code} {D : va_G} {kA : Nat → ClassId} {S : hE} {g : Nat → Nat} {n0 nx : Nat} {res : Int32 × hE} (C : hX p s m args c prog_4_method_6_code 1 R_Frame ws_Frame_comeBack D kA S g n0) (hr : meth.sig.returnType = (some .boolean)) (hlk : meth.locks = false) (hnm : meth.name = "comeBack") : ∀  (E : hE) (H : Heap) (locs : List Loc) (ls : Array Slot), hY D kA n0 s E nx H locs → lv_has ls 1 [] → f_Frame_comeBack_b17  E = some res → W p l e rm_Frame_comeBack s m args below meth c H locs 0 0 (MQ below (va_Qi (fun r w => r = res.1 ∧ w = (res.2, nx)) (hJ D kA S g n0) (fun q => n0 ≤ q)) args s 0 0 (fun q => n0 ≤ q)) (F0 m 17 ls []) := by
  intro E H locs ls M hl hf
  unfold f_Frame_comeBack_b17 at hf
  refine lv_iconst (v := 0) C.x C.b dFrame_comeBack_17 (by decide) ?_
  cases hf
  exact w_iret C M hr hlk rfl (Nat.le_refl _) (Nat.le_refl _) dFrame_comeBack_18 rfl rfl
def f_Frame_comeBack  (x0 : Nat) (E : hE) : Option (Int32 × hE) := (
  (gI E (some x0) 1 4).bind fun v1 =>
  if v1 < 1 then (
  f_Frame_comeBack_b17 E
  ) else (
  (gI E (some x0) 1 4).bind fun v9 =>
  if v9 ≤ 8 then (
  (gI E (some x0) 1 4).bind fun v21 =>
  (sI E (some x0) 1 4 (v21 - 1)).bind fun E26 =>
  (gR E26 (some x0) 1 3).bind fun v31 =>
  (gI E26 (some x0) 1 4).bind fun v35 =>
  (aI E26 v31 0 v35).bind fun v38 =>
  (sI E26 (some x0) 1 5 v38).bind fun E39 =>
  some (1, E39)
  ) else (
  f_Frame_comeBack_b17 E
  )
  ))
set_option maxHeartbeats 4000000 in
set_option maxRecDepth 100000 in
theorem c_Frame_comeBack {l : Launch} {D : va_G} {kA : Nat → ClassId} {S : hE} {g : Nat → Nat} {n0 nx : Nat} {x0 : Nat} {E : hE} {res : Int32 × hE} (hf : f_Frame_comeBack x0 E = some res) : Met l y_Frame_comeBack ws_Frame_comeBack rm_Frame_comeBack (va_Pc [va_rf (some x0)] (hJ D kA S g n0 (E, nx))) (va_Qi (fun r w => r = res.1 ∧ w = (res.2, nx)) (hJ D kA S g n0) (fun q => n0 ≤ q)) 0 0 (fun q => n0 ≤ q) := by
  refine h_met (cc := prog_4_method_6_code) (maxL := 1) (ret := (some .boolean)) (lvs := [(0, va_rf (some x0))]) zZ_k (by decide) rfl (by simp [lg_sl, va_rf_cat, cat_i, cat_l, cat_n]) (by simp [lv_args, va_rf_cat, cat_i, cat_l, cat_n]) ?_
  intro p e s m below meth c ls C M hr hlk hnm hl
  unfold f_Frame_comeBack at hf
  refine w_aload_n C.x C.b dFrame_comeBack_0 rfl (lv_at hl 0 rfl) ?_
  obtain ⟨v1, h1, hf⟩ := Option.bind_eq_some_iff.mp hf
  refine w_getI C M h1 rfl (hm_in in_Frame) (by decide) (List.mem_cons_of_mem _ wm_110) rfl dFrame_comeBack_1 ?_
  refine lv_iconst (v := 1) C.x C.b dFrame_comeBack_4 (by decide) ?_
  refine lv_icmp_lt (tgt := 17) C.x C.b dFrame_comeBack_5 (by decide) (fun c5 => ?_) (fun c5 => ?_)
  · rw [if_pos c5] at hf
    exact b_Frame_comeBack_17 C hr hlk hnm _ _ _ _ M (lv_sub hl [] rfl) hf
  · rw [if_neg c5] at hf
    refine w_aload_n C.x C.b dFrame_comeBack_8 rfl (lv_at hl 0 rfl) ?_
    obtain ⟨v9, h9, hf⟩ := Option.bind_eq_some_iff.mp hf
    refine w_getI C M h9 rfl (hm_in in_Frame) (by decide) (List.mem_cons_of_mem _ wm_110) rfl dFrame_comeBack_9 ?_
    refine lv_bipush (v := 8) C.x C.b dFrame_comeBack_12 (by decide) ?_
    refine lv_icmp_le (tgt := 19) C.x C.b dFrame_comeBack_14 (by decide) (fun c14 => ?_) (fun c14 => ?_)
    · rw [if_pos c14] at hf
      refine w_aload_n C.x C.b dFrame_comeBack_19 rfl (lv_at hl 0 rfl) ?_
      refine lv_dup C.x C.b dFrame_comeBack_20 (va_rf_cat _) ?_
      obtain ⟨v21, h21, hf⟩ := Option.bind_eq_some_iff.mp hf
      refine w_getI C M h21 rfl (hm_in in_Frame) (by decide) (List.mem_cons_of_mem _ wm_110) rfl dFrame_comeBack_21 ?_
      refine lv_iconst (v := 1) C.x C.b dFrame_comeBack_24 (by decide) ?_
      refine lv_isub C.x C.b dFrame_comeBack_25 ?_
      obtain ⟨E26, h26, hf⟩ := Option.bind_eq_some_iff.mp hf
      refine w_putV (ty := .int) C M ty_Frame h26 rfl (hm_in in_Frame) tyok_Frame nm_Frame (by decide) (List.mem_cons_of_mem _ wm_110) rfl rfl (by decide +kernel) rfl rfl dFrame_comeBack_26 (fun H locs M => ?_)
      refine w_aload_n C.x C.b dFrame_comeBack_29 rfl (lv_at hl 0 rfl) ?_
      refine w_aload_n C.x C.b dFrame_comeBack_30 rfl (lv_at hl 0 rfl) ?_
      obtain ⟨v31, h31, hf⟩ := Option.bind_eq_some_iff.mp hf
      refine w_getR C M h31 rfl (hm_in in_Frame) (by decide) (List.mem_cons_of_mem _ wm_109) rfl dFrame_comeBack_31 ?_
      refine w_aload_n C.x C.b dFrame_comeBack_34 rfl (lv_at hl 0 rfl) ?_
      obtain ⟨v35, h35, hf⟩ := Option.bind_eq_some_iff.mp hf
      refine w_getI C M h35 rfl (hm_in in_Frame) (by decide) (List.mem_cons_of_mem _ wm_110) rfl dFrame_comeBack_35 ?_
      obtain ⟨v38, h38, hf⟩ := Option.bind_eq_some_iff.mp hf
      refine w_iald C M h38 rfl dFrame_comeBack_38 ?_
      obtain ⟨E39, h39, hf⟩ := Option.bind_eq_some_iff.mp hf
      refine w_putV (ty := .int) C M ty_Frame h39 rfl (hm_in in_Frame) tyok_Frame nm_Frame (by decide) (List.mem_cons_of_mem _ wm_111) rfl rfl (by decide +kernel) rfl rfl dFrame_comeBack_39 (fun H locs M => ?_)
      refine lv_iconst (v := 1) C.x C.b dFrame_comeBack_42 (by decide) ?_
      cases hf
      exact w_iret C M hr hlk rfl (Nat.le_refl _) (Nat.le_refl _) dFrame_comeBack_43 rfl rfl
    · rw [if_neg c14] at hf
      exact b_Frame_comeBack_17 C hr hlk hnm _ _ _ _ M (lv_sub hl [] rfl) hf
theorem dMach_init_0 : decode prog_5_method_1_code 0 = .ok (.aload_n 0, 1) := by decide +kernel
theorem dMach_init_1 : decode prog_5_method_1_code 1 = .ok (.invokespecial 3, 3) := by decide +kernel
theorem dMach_init_4 : decode prog_5_method_1_code 4 = .ok (.aload_n 0, 1) := by decide +kernel
theorem dMach_init_5 : decode prog_5_method_1_code 5 = .ok (.iconst 4, 1) := by decide +kernel
theorem dMach_init_6 : decode prog_5_method_1_code 6 = .ok (.anewarray 9, 3) := by decide +kernel
theorem dMach_init_9 : decode prog_5_method_1_code 9 = .ok (.putfield 11, 3) := by decide +kernel
theorem dMach_init_12 : decode prog_5_method_1_code 12 = .ok (.aload_n 0, 1) := by decide +kernel
theorem dMach_init_13 : decode prog_5_method_1_code 13 = .ok (.iconst 3, 1) := by decide +kernel
theorem dMach_init_14 : decode prog_5_method_1_code 14 = .ok (.newarray .boolean, 2) := by decide +kernel
theorem dMach_init_16 : decode prog_5_method_1_code 16 = .ok (.putfield 17, 3) := by decide +kernel
theorem dMach_init_19 : decode prog_5_method_1_code 19 = .ok (.aload_n 0, 1) := by decide +kernel
theorem dMach_init_20 : decode prog_5_method_1_code 20 = .ok (.new 21, 3) := by decide +kernel
theorem dMach_init_23 : decode prog_5_method_1_code 23 = .ok (.dup, 1) := by decide +kernel
theorem dMach_init_24 : decode prog_5_method_1_code 24 = .ok (.bipush 60, 2) := by decide +kernel
theorem dMach_init_26 : decode prog_5_method_1_code 26 = .ok (.invokespecial 23, 3) := by decide +kernel
theorem dMach_init_29 : decode prog_5_method_1_code 29 = .ok (.putfield 26, 3) := by decide +kernel
theorem dMach_init_32 : decode prog_5_method_1_code 32 = .ok (.aload_n 0, 1) := by decide +kernel
theorem dMach_init_33 : decode prog_5_method_1_code 33 = .ok (.new 21, 3) := by decide +kernel
theorem dMach_init_36 : decode prog_5_method_1_code 36 = .ok (.dup, 1) := by decide +kernel
theorem dMach_init_37 : decode prog_5_method_1_code 37 = .ok (.bipush 60, 2) := by decide +kernel
theorem dMach_init_39 : decode prog_5_method_1_code 39 = .ok (.invokespecial 23, 3) := by decide +kernel
theorem dMach_init_42 : decode prog_5_method_1_code 42 = .ok (.putfield 30, 3) := by decide +kernel
theorem dMach_init_45 : decode prog_5_method_1_code 45 = .ok (.aload_n 0, 1) := by decide +kernel
theorem dMach_init_46 : decode prog_5_method_1_code 46 = .ok (.new 33, 3) := by decide +kernel
theorem dMach_init_49 : decode prog_5_method_1_code 49 = .ok (.dup, 1) := by decide +kernel
theorem dMach_init_50 : decode prog_5_method_1_code 50 = .ok (.iconst 0, 1) := by decide +kernel
theorem dMach_init_51 : decode prog_5_method_1_code 51 = .ok (.invokespecial 35, 3) := by decide +kernel
theorem dMach_init_54 : decode prog_5_method_1_code 54 = .ok (.putfield 36, 3) := by decide +kernel
theorem dMach_init_57 : decode prog_5_method_1_code 57 = .ok (.aload_n 0, 1) := by decide +kernel
theorem dMach_init_58 : decode prog_5_method_1_code 58 = .ok (.bipush 10, 2) := by decide +kernel
theorem dMach_init_60 : decode prog_5_method_1_code 60 = .ok (.anewarray 21, 3) := by decide +kernel
theorem dMach_init_63 : decode prog_5_method_1_code 63 = .ok (.putfield 40, 3) := by decide +kernel
theorem dMach_init_66 : decode prog_5_method_1_code 66 = .ok (.aload_n 0, 1) := by decide +kernel
theorem dMach_init_67 : decode prog_5_method_1_code 67 = .ok (.iconst 3, 1) := by decide +kernel
theorem dMach_init_68 : decode prog_5_method_1_code 68 = .ok (.anewarray 33, 3) := by decide +kernel
theorem dMach_init_71 : decode prog_5_method_1_code 71 = .ok (.putfield 44, 3) := by decide +kernel
theorem dMach_init_74 : decode prog_5_method_1_code 74 = .ok (.iconst 0, 1) := by decide +kernel
theorem dMach_init_75 : decode prog_5_method_1_code 75 = .ok (.istore_n 1, 1) := by decide +kernel
theorem dMach_init_76 : decode prog_5_method_1_code 76 = .ok (.iload_n 1, 1) := by decide +kernel
theorem dMach_init_77 : decode prog_5_method_1_code 77 = .ok (.bipush 10, 2) := by decide +kernel
theorem dMach_init_79 : decode prog_5_method_1_code 79 = .ok (.if_icmp .ge 24, 3) := by decide +kernel
theorem dMach_init_82 : decode prog_5_method_1_code 82 = .ok (.aload_n 0, 1) := by decide +kernel
theorem dMach_init_83 : decode prog_5_method_1_code 83 = .ok (.getfield 40, 3) := by decide +kernel
theorem dMach_init_86 : decode prog_5_method_1_code 86 = .ok (.iload_n 1, 1) := by decide +kernel
theorem dMach_init_87 : decode prog_5_method_1_code 87 = .ok (.new 21, 3) := by decide +kernel
theorem dMach_init_90 : decode prog_5_method_1_code 90 = .ok (.dup, 1) := by decide +kernel
theorem dMach_init_91 : decode prog_5_method_1_code 91 = .ok (.bipush 40, 2) := by decide +kernel
theorem dMach_init_93 : decode prog_5_method_1_code 93 = .ok (.invokespecial 23, 3) := by decide +kernel
theorem dMach_init_96 : decode prog_5_method_1_code 96 = .ok (.aastore, 1) := by decide +kernel
theorem dMach_init_97 : decode prog_5_method_1_code 97 = .ok (.iinc 1 1, 3) := by decide +kernel
theorem dMach_init_100 : decode prog_5_method_1_code 100 = .ok (.goto (-24), 3) := by decide +kernel
theorem dMach_init_103 : decode prog_5_method_1_code 103 = .ok (.iconst 0, 1) := by decide +kernel
theorem dMach_init_104 : decode prog_5_method_1_code 104 = .ok (.istore_n 1, 1) := by decide +kernel
theorem dMach_init_105 : decode prog_5_method_1_code 105 = .ok (.iload_n 1, 1) := by decide +kernel
theorem dMach_init_106 : decode prog_5_method_1_code 106 = .ok (.iconst 3, 1) := by decide +kernel
theorem dMach_init_107 : decode prog_5_method_1_code 107 = .ok (.if_icmp .ge 25, 3) := by decide +kernel
theorem dMach_init_110 : decode prog_5_method_1_code 110 = .ok (.aload_n 0, 1) := by decide +kernel
theorem dMach_init_111 : decode prog_5_method_1_code 111 = .ok (.getfield 44, 3) := by decide +kernel
theorem dMach_init_114 : decode prog_5_method_1_code 114 = .ok (.iload_n 1, 1) := by decide +kernel
theorem dMach_init_115 : decode prog_5_method_1_code 115 = .ok (.new 33, 3) := by decide +kernel
theorem dMach_init_118 : decode prog_5_method_1_code 118 = .ok (.dup, 1) := by decide +kernel
theorem dMach_init_119 : decode prog_5_method_1_code 119 = .ok (.iload_n 1, 1) := by decide +kernel
theorem dMach_init_120 : decode prog_5_method_1_code 120 = .ok (.iconst 1, 1) := by decide +kernel
theorem dMach_init_121 : decode prog_5_method_1_code 121 = .ok (.iadd, 1) := by decide +kernel
theorem dMach_init_122 : decode prog_5_method_1_code 122 = .ok (.invokespecial 35, 3) := by decide +kernel
theorem dMach_init_125 : decode prog_5_method_1_code 125 = .ok (.aastore, 1) := by decide +kernel
theorem dMach_init_126 : decode prog_5_method_1_code 126 = .ok (.iinc 1 1, 3) := by decide +kernel
theorem dMach_init_129 : decode prog_5_method_1_code 129 = .ok (.goto (-24), 3) := by decide +kernel
theorem dMach_init_132 : decode prog_5_method_1_code 132 = .ok (.return_, 1) := by decide +kernel
abbrev rm_Mach_init : Room := { frames := 2, cells := 50, slots := 5534, locals := 61 }
def f_Mach_init_b105 (N : Nat) : Nat → Option Nat → Int32 → hE → Nat → Option (hE × Nat)
  | 0, _, _, _, _ => none
  | n + 1, y0, y1, E, nx => (
  if 3 ≤ y1 then (
  some (E, nx)
  ) else (
  (gR E y0 2 6).bind fun v111 =>
  (some (va_up E nx (some (.inr (1, [.int 0, .null, .null, .null, .int 0, .int 0, .int 0]))))).bind fun E115 =>
  (f_Frame_init nx (y1 + 1) E115 (nx + 1)).bind fun v122 =>
  (tQ v122.1 v111 4 y1 (some nx) 1).bind fun E125 =>
  f_Mach_init_b105 N n y0 (y1 + 1) E125 v122.2
  ))
set_option maxHeartbeats 4000000 in
set_option maxRecDepth 100000 in
theorem b_Mach_init_105 {p : Program} {l : Launch} {e : Env} {s : State} {m : MethodId} {args : Array Value} {below : List Frame} {meth : Method} {c : Code} {D : va_G} {kA : Nat → ClassId} {S : hE} {g : Nat → Nat} {n0 : Nat} {N : Nat} {res : hE × Nat} (C : hX p s m args c prog_5_method_1_code 2 R_Mach ws_Mach_init D kA S g n0) (hr : meth.sig.returnType = none) (hlk : meth.locks = false) (hnm : meth.name = "<init>") : ∀ n : Nat, ∀ (y0 : Option Nat) (y1 : Int32) (E : hE) (nx : Nat) (H : Heap) (locs : List Loc) (ls : Array Slot) (cells slots : Nat), hY D kA n0 s E nx H locs → lv_has ls 2 [(0, va_rf y0), (1, .int y1)] → cells + (n * 4 + 0) ≤ 50 → slots + (n * 55 + 0) ≤ 5534 → f_Mach_init_b105 N n y0 y1 E nx = some res → W p l e rm_Mach_init s m args below meth c H locs cells slots (MQ below (va_Qv (fun w => w = res) (hJ D kA S g n0) (fun q => n0 ≤ q)) args s 50 5534 (fun q => n0 ≤ q)) (F0 m 105 ls []) := by
  intro n
  induction n with
  | zero =>
    intro y0 y1 E nx H locs ls cells slots M hl hcb hsb hf
    simp [f_Mach_init_b105] at hf
  | succ n ih =>
    intro y0 y1 E nx H locs ls cells slots M hl hcb hsb hf
    rw [f_Mach_init_b105] at hf
    refine lv_iload_n C.x C.b dMach_init_105 rfl (lv_at hl 1 rfl) ?_
    refine lv_iconst (v := 3) C.x C.b dMach_init_106 (by decide) ?_
    refine lv_icmp_ge (tgt := 132) C.x C.b dMach_init_107 (by decide) (fun c107 => ?_) (fun c107 => ?_)
    · rw [if_pos c107] at hf
      cases hf
      exact w_vret C M hr hlk (by omega) (by omega) dMach_init_132 rfl
    · rw [if_neg c107] at hf
      refine w_aload_n C.x C.b dMach_init_110 rfl (lv_at hl 0 rfl) ?_
      obtain ⟨v111, h111, hf⟩ := Option.bind_eq_some_iff.mp hf
      refine w_getR C M h111 rfl (hm_in in_Mach) (by decide) (List.mem_cons_of_mem _ wm_144) rfl dMach_init_111 ?_
      refine lv_iload_n C.x C.b dMach_init_114 rfl (lv_at hl 1 rfl) ?_
      obtain ⟨E115, h115, hf⟩ := Option.bind_eq_some_iff.mp hf
      have h115 := Option.some.inj h115
      refine w_new (ci := 1) C M (fs := [.int 0, .null, .null, .null, .int 0, .int 0, .int 0]) ty_Frame rfl (hm_in in_Frame) tyok_Frame (List.mem_cons_of_mem _ wm_97) (List.mem_cons_of_mem _ wm_98) (List.mem_cons_of_mem _ wm_5) (fun j hj => by rcases (show j = 0 ∨ j = 1 ∨ j = 2 ∨ j = 3 ∨ j = 4 ∨ j = 5 ∨ j = 6 by omega) with rfl | rfl | rfl | rfl | rfl | rfl | rfl <;> rfl) (by show _ ≤ 50; omega) (by show _ ≤ 5534; omega) dMach_init_115 (fun H M => ?_)
      rw [h115] at M
      refine lv_dup C.x C.b dMach_init_118 (va_rf_cat _) ?_
      refine lv_iload_n C.x C.b dMach_init_119 rfl (lv_at hl 1 rfl) ?_
      refine lv_iconst (v := 1) C.x C.b dMach_init_120 (by decide) ?_
      refine lv_iadd C.x C.b dMach_init_121 ?_
      obtain ⟨v122, h122, hf⟩ := Option.bind_eq_some_iff.mp hf
      refine w_cv M (w_runI C M (c_Frame_init h122) (cwI 1 C.ts (hgC wm_101) rfl rfl rfl (C.ts (.initialized R_Frame) (List.mem_cons_of_mem _ wm_5)) (C.ts (.methodLink R_Mach 35 y_Frame_init) (List.mem_cons_of_mem _ wm_99)) (C.ts (.instanceMethod y_Frame_init) (List.mem_cons_of_mem _ wm_100)) rfl (by decide +kernel) ⟨Nat.le_of_ble_eq_true rfl, Nat.le_of_ble_eq_true rfl⟩) rfl hl.1 rfl (by simp [va_rf_cat, cat_i, cat_l, cat_n]) dMach_init_122 ⟨by show _ ≤ 50; omega, by show _ ≤ 5534; omega⟩) (fun H locs M => ?_)
      obtain ⟨E125, h125, hf⟩ := Option.bind_eq_some_iff.mp hf
      refine w_aast C M h125 rfl rfl vb_asgS dMach_init_125 (fun H locs M => ?_)
      refine lv_iinc (v := y1 + 1) (lv' := [(1, .int (y1 + 1)), (0, va_rf y0)]) C.x C.b dMach_init_126 hl (k := 1) rfl rfl (by decide) (by simp only [List.filter, va_rf_cat] <;> rfl) (fun ls hl => ?_)
      refine lv_goto (tgt := 105) C.x C.b dMach_init_129 (by decide) ?_
      exact ih _ _ _ _ _ _ _ _ _ M (lv_sub hl [1, 0] rfl) (by omega) (by omega) hf
def f_Mach_init_b76 (N : Nat) : Nat → Option Nat → Int32 → hE → Nat → Option (hE × Nat)
  | 0, _, _, _, _ => none
  | n + 1, y0, y1, E, nx => (
  if 10 ≤ y1 then (
  f_Mach_init_b105 N 4 y0 0 E nx
  ) else (
  (gR E y0 2 5).bind fun v83 =>
  (some (va_up E nx (some (.inr (0, [.null, .int 0, .int 0]))))).bind fun E87 =>
  (f_Row_init nx 40 E87 (nx + 1)).bind fun v93 =>
  (tQ v93.1 v83 3 y1 (some nx) 0).bind fun E96 =>
  f_Mach_init_b76 N n y0 (y1 + 1) E96 v93.2
  ))
set_option maxHeartbeats 4000000 in
set_option maxRecDepth 100000 in
theorem b_Mach_init_76 {p : Program} {l : Launch} {e : Env} {s : State} {m : MethodId} {args : Array Value} {below : List Frame} {meth : Method} {c : Code} {D : va_G} {kA : Nat → ClassId} {S : hE} {g : Nat → Nat} {n0 : Nat} {N : Nat} {res : hE × Nat} (C : hX p s m args c prog_5_method_1_code 2 R_Mach ws_Mach_init D kA S g n0) (hr : meth.sig.returnType = none) (hlk : meth.locks = false) (hnm : meth.name = "<init>") : ∀ n : Nat, ∀ (y0 : Option Nat) (y1 : Int32) (E : hE) (nx : Nat) (H : Heap) (locs : List Loc) (ls : Array Slot) (cells slots : Nat), hY D kA n0 s E nx H locs → lv_has ls 2 [(0, va_rf y0), (1, .int y1)] → cells + (n * 2 + 16) ≤ 50 → slots + (n * 403 + 220) ≤ 5534 → f_Mach_init_b76 N n y0 y1 E nx = some res → W p l e rm_Mach_init s m args below meth c H locs cells slots (MQ below (va_Qv (fun w => w = res) (hJ D kA S g n0) (fun q => n0 ≤ q)) args s 50 5534 (fun q => n0 ≤ q)) (F0 m 76 ls []) := by
  intro n
  induction n with
  | zero =>
    intro y0 y1 E nx H locs ls cells slots M hl hcb hsb hf
    simp [f_Mach_init_b76] at hf
  | succ n ih =>
    intro y0 y1 E nx H locs ls cells slots M hl hcb hsb hf
    rw [f_Mach_init_b76] at hf
    refine lv_iload_n C.x C.b dMach_init_76 rfl (lv_at hl 1 rfl) ?_
    refine lv_bipush (v := 10) C.x C.b dMach_init_77 (by decide) ?_
    refine lv_icmp_ge (tgt := 103) C.x C.b dMach_init_79 (by decide) (fun c79 => ?_) (fun c79 => ?_)
    · rw [if_pos c79] at hf
      refine lv_iconst (v := 0) C.x C.b dMach_init_103 (by decide) ?_
      refine lv_istore_n (lv' := [(1, .int 0), (0, va_rf y0)]) C.x C.b dMach_init_104 rfl hl (by decide) (by simp only [List.filter, va_rf_cat] <;> rfl) (fun ls hl => ?_)
      exact b_Mach_init_105 C hr hlk hnm 4 _ _ _ _ _ _ _ _ _ M (lv_sub hl [1, 0] rfl) (by omega) (by omega) hf
    · rw [if_neg c79] at hf
      refine w_aload_n C.x C.b dMach_init_82 rfl (lv_at hl 0 rfl) ?_
      obtain ⟨v83, h83, hf⟩ := Option.bind_eq_some_iff.mp hf
      refine w_getR C M h83 rfl (hm_in in_Mach) (by decide) (List.mem_cons_of_mem _ wm_143) rfl dMach_init_83 ?_
      refine lv_iload_n C.x C.b dMach_init_86 rfl (lv_at hl 1 rfl) ?_
      obtain ⟨E87, h87, hf⟩ := Option.bind_eq_some_iff.mp hf
      have h87 := Option.some.inj h87
      refine w_new (ci := 0) C M (fs := [.null, .int 0, .int 0]) ty_Row rfl (hm_in in_Row) tyok_Row (List.mem_cons_of_mem _ wm_95) (List.mem_cons_of_mem _ wm_38) (List.mem_cons_of_mem _ wm_3) (fun j hj => by rcases (show j = 0 ∨ j = 1 ∨ j = 2 by omega) with rfl | rfl | rfl <;> rfl) (by show _ ≤ 50; omega) (by show _ ≤ 5534; omega) dMach_init_87 (fun H M => ?_)
      rw [h87] at M
      refine lv_dup C.x C.b dMach_init_90 (va_rf_cat _) ?_
      refine lv_bipush (v := 40) C.x C.b dMach_init_91 (by decide) ?_
      obtain ⟨v93, h93, hf⟩ := Option.bind_eq_some_iff.mp hf
      refine w_cv M (w_runI C M (c_Row_init h93) (cwI 1 C.ts (hgC wm_41) rfl rfl rfl (C.ts (.initialized R_Row) (List.mem_cons_of_mem _ wm_3)) (C.ts (.methodLink R_Mach 23 y_Row_init) (List.mem_cons_of_mem _ wm_96)) (C.ts (.instanceMethod y_Row_init) (List.mem_cons_of_mem _ wm_40)) rfl (by decide +kernel) ⟨Nat.le_of_ble_eq_true rfl, Nat.le_of_ble_eq_true rfl⟩) rfl hl.1 rfl (by simp [va_rf_cat, cat_i, cat_l, cat_n]) dMach_init_93 ⟨by show _ ≤ 50; omega, by show _ ≤ 5534; omega⟩) (fun H locs M => ?_)
      obtain ⟨E96, h96, hf⟩ := Option.bind_eq_some_iff.mp hf
      refine w_aast C M h96 rfl rfl vb_asgS dMach_init_96 (fun H locs M => ?_)
      refine lv_iinc (v := y1 + 1) (lv' := [(1, .int (y1 + 1)), (0, va_rf y0)]) C.x C.b dMach_init_97 hl (k := 1) rfl rfl (by decide) (by simp only [List.filter, va_rf_cat] <;> rfl) (fun ls hl => ?_)
      refine lv_goto (tgt := 76) C.x C.b dMach_init_100 (by decide) ?_
      exact ih _ _ _ _ _ _ _ _ _ M (lv_sub hl [1, 0] rfl) (by omega) (by omega) hf
def f_Mach_init (N : Nat) (x0 : Nat) (E : hE) (nx : Nat) : Option (hE × Nat) := (
  (nQ E nx 5 4 4).bind fun E6 =>
  (sR E6 (some x0) 2 0 (some nx)).bind fun E9 =>
  (nA E9 (nx + 1) 1 3 3).bind fun E14 =>
  (sR E14 (some x0) 2 1 (some (nx + 1))).bind fun E16 =>
  (some (va_up E16 (nx + 1 + 1) (some (.inr (0, [.null, .int 0, .int 0]))))).bind fun E20 =>
  (f_Row_init (nx + 1 + 1) 60 E20 (nx + 1 + 1 + 1)).bind fun v26 =>
  (sR v26.1 (some x0) 2 2 (some (nx + 1 + 1))).bind fun E29 =>
  (some (va_up E29 v26.2 (some (.inr (0, [.null, .int 0, .int 0]))))).bind fun E33 =>
  (f_Row_init v26.2 60 E33 (v26.2 + 1)).bind fun v39 =>
  (sR v39.1 (some x0) 2 3 (some v26.2)).bind fun E42 =>
  (some (va_up E42 v39.2 (some (.inr (1, [.int 0, .null, .null, .null, .int 0, .int 0, .int 0]))))).bind fun E46 =>
  (f_Frame_init v39.2 0 E46 (v39.2 + 1)).bind fun v51 =>
  (sR v51.1 (some x0) 2 4 (some v39.2)).bind fun E54 =>
  (nQ E54 v51.2 3 10 10).bind fun E60 =>
  (sR E60 (some x0) 2 5 (some v51.2)).bind fun E63 =>
  (nQ E63 (v51.2 + 1) 4 3 3).bind fun E68 =>
  (sR E68 (some x0) 2 6 (some (v51.2 + 1))).bind fun E71 =>
  f_Mach_init_b76 N 11 (some x0) 0 E71 (v51.2 + 1 + 1))
set_option maxHeartbeats 4000000 in
set_option maxRecDepth 100000 in
theorem c_Mach_init {l : Launch} {D : va_G} {kA : Nat → ClassId} {S : hE} {g : Nat → Nat} {n0 nx : Nat} {N : Nat} {x0 : Nat} {E : hE} {res : hE × Nat} (hf : f_Mach_init N x0 E nx = some res) : Met l y_Mach_init ws_Mach_init rm_Mach_init (va_Pc [va_rf (some x0)] (hJ D kA S g n0 (E, nx))) (va_Qv (fun w => w = res) (hJ D kA S g n0) (fun q => n0 ≤ q)) 50 5534 (fun q => n0 ≤ q) := by
  refine h_met (cc := prog_5_method_1_code) (maxL := 2) (ret := none) (lvs := [(0, va_rf (some x0))]) zZ_k (by decide) rfl (by simp [lg_sl, va_rf_cat, cat_i, cat_l, cat_n]) (by simp [lv_args, va_rf_cat, cat_i, cat_l, cat_n]) ?_
  intro p e s m below meth c ls C M hr hlk hnm hl
  unfold f_Mach_init at hf
  refine w_aload_n C.x C.b dMach_init_0 rfl (lv_at hl 0 rfl) ?_
  refine W.objInit C.x C.b C.ow (C.ts (.methodLink R_Mach 3 objectInit) (List.mem_cons_of_mem _ wm_92)) (C.ts (.instanceMethod objectInit) (List.mem_cons_of_mem _ wm_29)) (C.ts _ (List.mem_cons_of_mem _ wm_30)) rfl (by rw [C.ml]; exact hl.1) rfl dMach_init_1 (Nat.le_of_ble_eq_true rfl) (Nat.le_of_ble_eq_true rfl) ?_
  refine W.eq (g2 := F0 m 4 ls []) rfl ?_
  refine w_aload_n C.x C.b dMach_init_4 rfl (lv_at hl 0 rfl) ?_
  refine lv_iconst (v := 4) C.x C.b dMach_init_5 (by decide) ?_
  obtain ⟨E6, h6, hf⟩ := Option.bind_eq_some_iff.mp hf
  refine w_newO C M h6 (List.mem_cons_of_mem _ wm_93) (zZ_Script C.z) rfl (by show _ ≤ 50; omega) (by show _ ≤ 5534; omega) dMach_init_6 (fun H M => ?_)
  obtain ⟨E9, h9, hf⟩ := Option.bind_eq_some_iff.mp hf
  refine w_putVF (ty := (.array (.object "StepPrograms$Script"))) C M ty_Mach h9 rfl (hm_in in_Mach) tyok_Mach nm_Mach (by decide) (List.mem_cons_of_mem _ wm_133) rfl rfl hnm rfl (by decide +kernel) (narrow_a _ _) (fits_a _ _) dMach_init_9 (fun H locs M => ?_)
  refine w_aload_n C.x C.b dMach_init_12 rfl (lv_at hl 0 rfl) ?_
  refine lv_iconst (v := 3) C.x C.b dMach_init_13 (by decide) ?_
  obtain ⟨E14, h14, hf⟩ := Option.bind_eq_some_iff.mp hf
  refine w_newI (atype := .boolean) (ty := .boolean) C M h14 (List.mem_cons_of_mem _ wm_130) rfl rfl (fun _ _ h => h) (fun _ _ => rfl) (by decide) (by show _ ≤ 50; omega) (by show _ ≤ 5534; omega) dMach_init_14 (fun H M => ?_)
  obtain ⟨E16, h16, hf⟩ := Option.bind_eq_some_iff.mp hf
  refine w_putVF (ty := (.array .boolean)) C M ty_Mach h16 rfl (hm_in in_Mach) tyok_Mach nm_Mach (by decide) (List.mem_cons_of_mem _ wm_135) rfl rfl hnm rfl (by decide +kernel) (narrow_a _ _) (fits_a _ _) dMach_init_16 (fun H locs M => ?_)
  refine w_aload_n C.x C.b dMach_init_19 rfl (lv_at hl 0 rfl) ?_
  obtain ⟨E20, h20, hf⟩ := Option.bind_eq_some_iff.mp hf
  have h20 := Option.some.inj h20
  refine w_new (ci := 0) C M (fs := [.null, .int 0, .int 0]) ty_Row rfl (hm_in in_Row) tyok_Row (List.mem_cons_of_mem _ wm_95) (List.mem_cons_of_mem _ wm_38) (List.mem_cons_of_mem _ wm_3) (fun j hj => by rcases (show j = 0 ∨ j = 1 ∨ j = 2 by omega) with rfl | rfl | rfl <;> rfl) (by show _ ≤ 50; omega) (by show _ ≤ 5534; omega) dMach_init_20 (fun H M => ?_)
  rw [h20] at M
  refine lv_dup C.x C.b dMach_init_23 (va_rf_cat _) ?_
  refine lv_bipush (v := 60) C.x C.b dMach_init_24 (by decide) ?_
  obtain ⟨v26, h26, hf⟩ := Option.bind_eq_some_iff.mp hf
  refine w_cv M (w_runI C M (c_Row_init h26) (cwI 1 C.ts (hgC wm_41) rfl rfl rfl (C.ts (.initialized R_Row) (List.mem_cons_of_mem _ wm_3)) (C.ts (.methodLink R_Mach 23 y_Row_init) (List.mem_cons_of_mem _ wm_96)) (C.ts (.instanceMethod y_Row_init) (List.mem_cons_of_mem _ wm_40)) rfl (by decide +kernel) ⟨Nat.le_of_ble_eq_true rfl, Nat.le_of_ble_eq_true rfl⟩) rfl hl.1 rfl (by simp [va_rf_cat, cat_i, cat_l, cat_n]) dMach_init_26 ⟨by show _ ≤ 50; omega, by show _ ≤ 5534; omega⟩) (fun H locs M => ?_)
  obtain ⟨E29, h29, hf⟩ := Option.bind_eq_some_iff.mp hf
  refine w_putVF (ty := .object "StepPrograms$Row") C M ty_Mach h29 rfl (hm_in in_Mach) tyok_Mach nm_Mach (by decide) (List.mem_cons_of_mem _ wm_137) rfl rfl hnm rfl (by decide +kernel) (narrow_o _ _) (fits_o _ _) dMach_init_29 (fun H locs M => ?_)
  refine w_aload_n C.x C.b dMach_init_32 rfl (lv_at hl 0 rfl) ?_
  obtain ⟨E33, h33, hf⟩ := Option.bind_eq_some_iff.mp hf
  have h33 := Option.some.inj h33
  refine w_new (ci := 0) C M (fs := [.null, .int 0, .int 0]) ty_Row rfl (hm_in in_Row) tyok_Row (List.mem_cons_of_mem _ wm_95) (List.mem_cons_of_mem _ wm_38) (List.mem_cons_of_mem _ wm_3) (fun j hj => by rcases (show j = 0 ∨ j = 1 ∨ j = 2 by omega) with rfl | rfl | rfl <;> rfl) (by show _ ≤ 50; omega) (by show _ ≤ 5534; omega) dMach_init_33 (fun H M => ?_)
  rw [h33] at M
  refine lv_dup C.x C.b dMach_init_36 (va_rf_cat _) ?_
  refine lv_bipush (v := 60) C.x C.b dMach_init_37 (by decide) ?_
  obtain ⟨v39, h39, hf⟩ := Option.bind_eq_some_iff.mp hf
  refine w_cv M (w_runI C M (c_Row_init h39) (cwI 1 C.ts (hgC wm_41) rfl rfl rfl (C.ts (.initialized R_Row) (List.mem_cons_of_mem _ wm_3)) (C.ts (.methodLink R_Mach 23 y_Row_init) (List.mem_cons_of_mem _ wm_96)) (C.ts (.instanceMethod y_Row_init) (List.mem_cons_of_mem _ wm_40)) rfl (by decide +kernel) ⟨Nat.le_of_ble_eq_true rfl, Nat.le_of_ble_eq_true rfl⟩) rfl hl.1 rfl (by simp [va_rf_cat, cat_i, cat_l, cat_n]) dMach_init_39 ⟨by show _ ≤ 50; omega, by show _ ≤ 5534; omega⟩) (fun H locs M => ?_)
  obtain ⟨E42, h42, hf⟩ := Option.bind_eq_some_iff.mp hf
  refine w_putVF (ty := .object "StepPrograms$Row") C M ty_Mach h42 rfl (hm_in in_Mach) tyok_Mach nm_Mach (by decide) (List.mem_cons_of_mem _ wm_139) rfl rfl hnm rfl (by decide +kernel) (narrow_o _ _) (fits_o _ _) dMach_init_42 (fun H locs M => ?_)
  refine w_aload_n C.x C.b dMach_init_45 rfl (lv_at hl 0 rfl) ?_
  obtain ⟨E46, h46, hf⟩ := Option.bind_eq_some_iff.mp hf
  have h46 := Option.some.inj h46
  refine w_new (ci := 1) C M (fs := [.int 0, .null, .null, .null, .int 0, .int 0, .int 0]) ty_Frame rfl (hm_in in_Frame) tyok_Frame (List.mem_cons_of_mem _ wm_97) (List.mem_cons_of_mem _ wm_98) (List.mem_cons_of_mem _ wm_5) (fun j hj => by rcases (show j = 0 ∨ j = 1 ∨ j = 2 ∨ j = 3 ∨ j = 4 ∨ j = 5 ∨ j = 6 by omega) with rfl | rfl | rfl | rfl | rfl | rfl | rfl <;> rfl) (by show _ ≤ 50; omega) (by show _ ≤ 5534; omega) dMach_init_46 (fun H M => ?_)
  rw [h46] at M
  refine lv_dup C.x C.b dMach_init_49 (va_rf_cat _) ?_
  refine lv_iconst (v := 0) C.x C.b dMach_init_50 (by decide) ?_
  obtain ⟨v51, h51, hf⟩ := Option.bind_eq_some_iff.mp hf
  refine w_cv M (w_runI C M (c_Frame_init h51) (cwI 1 C.ts (hgC wm_101) rfl rfl rfl (C.ts (.initialized R_Frame) (List.mem_cons_of_mem _ wm_5)) (C.ts (.methodLink R_Mach 35 y_Frame_init) (List.mem_cons_of_mem _ wm_99)) (C.ts (.instanceMethod y_Frame_init) (List.mem_cons_of_mem _ wm_100)) rfl (by decide +kernel) ⟨Nat.le_of_ble_eq_true rfl, Nat.le_of_ble_eq_true rfl⟩) rfl hl.1 rfl (by simp [va_rf_cat, cat_i, cat_l, cat_n]) dMach_init_51 ⟨by show _ ≤ 50; omega, by show _ ≤ 5534; omega⟩) (fun H locs M => ?_)
  obtain ⟨E54, h54, hf⟩ := Option.bind_eq_some_iff.mp hf
  refine w_putVF (ty := .object "StepPrograms$Frame") C M ty_Mach h54 rfl (hm_in in_Mach) tyok_Mach nm_Mach (by decide) (List.mem_cons_of_mem _ wm_141) rfl rfl hnm rfl (by decide +kernel) (narrow_o _ _) (fits_o _ _) dMach_init_54 (fun H locs M => ?_)
  refine w_aload_n C.x C.b dMach_init_57 rfl (lv_at hl 0 rfl) ?_
  refine lv_bipush (v := 10) C.x C.b dMach_init_58 (by decide) ?_
  obtain ⟨E60, h60, hf⟩ := Option.bind_eq_some_iff.mp hf
  refine w_newO C M h60 (List.mem_cons_of_mem _ wm_95) (zZ_Row C.z) rfl (by show _ ≤ 50; omega) (by show _ ≤ 5534; omega) dMach_init_60 (fun H M => ?_)
  obtain ⟨E63, h63, hf⟩ := Option.bind_eq_some_iff.mp hf
  refine w_putVF (ty := (.array (.object "StepPrograms$Row"))) C M ty_Mach h63 rfl (hm_in in_Mach) tyok_Mach nm_Mach (by decide) (List.mem_cons_of_mem _ wm_143) rfl rfl hnm rfl (by decide +kernel) (narrow_a _ _) (fits_a _ _) dMach_init_63 (fun H locs M => ?_)
  refine w_aload_n C.x C.b dMach_init_66 rfl (lv_at hl 0 rfl) ?_
  refine lv_iconst (v := 3) C.x C.b dMach_init_67 (by decide) ?_
  obtain ⟨E68, h68, hf⟩ := Option.bind_eq_some_iff.mp hf
  refine w_newO C M h68 (List.mem_cons_of_mem _ wm_97) (zZ_Frame C.z) rfl (by show _ ≤ 50; omega) (by show _ ≤ 5534; omega) dMach_init_68 (fun H M => ?_)
  obtain ⟨E71, h71, hf⟩ := Option.bind_eq_some_iff.mp hf
  refine w_putVF (ty := (.array (.object "StepPrograms$Frame"))) C M ty_Mach h71 rfl (hm_in in_Mach) tyok_Mach nm_Mach (by decide) (List.mem_cons_of_mem _ wm_144) rfl rfl hnm rfl (by decide +kernel) (narrow_a _ _) (fits_a _ _) dMach_init_71 (fun H locs M => ?_)
  refine lv_iconst (v := 0) C.x C.b dMach_init_74 (by decide) ?_
  refine lv_istore_n (lv' := [(1, .int 0), (0, va_rf (some x0))]) C.x C.b dMach_init_75 rfl hl (by decide) rfl (fun ls hl => ?_)
  exact b_Mach_init_76 C hr hlk hnm 11 _ _ _ _ _ _ _ _ _ M (lv_sub hl [1, 0] rfl) (by omega) (by omega) hf
theorem dMach_fileAt_0 : decode prog_5_method_2_code 0 = .ok (.iload_n 1, 1) := by decide +kernel
theorem dMach_fileAt_1 : decode prog_5_method_2_code 1 = .ok (.ifCond .lt 18, 3) := by decide +kernel
theorem dMach_fileAt_4 : decode prog_5_method_2_code 4 = .ok (.iload_n 1, 1) := by decide +kernel
theorem dMach_fileAt_5 : decode prog_5_method_2_code 5 = .ok (.bipush 10, 2) := by decide +kernel
theorem dMach_fileAt_7 : decode prog_5_method_2_code 7 = .ok (.if_icmp .ge 12, 3) := by decide +kernel
theorem dMach_fileAt_10 : decode prog_5_method_2_code 10 = .ok (.aload_n 0, 1) := by decide +kernel
theorem dMach_fileAt_11 : decode prog_5_method_2_code 11 = .ok (.getfield 40, 3) := by decide +kernel
theorem dMach_fileAt_14 : decode prog_5_method_2_code 14 = .ok (.iload_n 1, 1) := by decide +kernel
theorem dMach_fileAt_15 : decode prog_5_method_2_code 15 = .ok (.aaload, 1) := by decide +kernel
theorem dMach_fileAt_16 : decode prog_5_method_2_code 16 = .ok (.goto 4, 3) := by decide +kernel
theorem dMach_fileAt_19 : decode prog_5_method_2_code 19 = .ok (.aconst_null, 1) := by decide +kernel
theorem dMach_fileAt_20 : decode prog_5_method_2_code 20 = .ok (.areturn, 1) := by decide +kernel
abbrev rm_Mach_fileAt : Room := { frames := 0, cells := 0, slots := 0, locals := 0 }
def f_Mach_fileAt_b20 (E : hE) (t0 : Option Nat) : Option (Option Nat) := (
  some t0)
set_option maxHeartbeats 4000000 in
set_option maxRecDepth 100000 in
theorem b_Mach_fileAt_20 {p : Program} {l : Launch} {e : Env} {s : State} {m : MethodId} {args : Array Value} {below : List Frame} {meth : Method} {c : Code} {D : va_G} {kA : Nat → ClassId} {S : hE} {g : Nat → Nat} {n0 nx : Nat} {E : hE} {res : Option Nat} (C : hX p s m args c prog_5_method_2_code 2 R_Mach ws_Mach_fileAt D kA S g n0) (hr : meth.sig.returnType = (some (.object "StepPrograms$Row"))) (hlk : meth.locks = false) (hnm : meth.name = "fileAt") : ∀ (t0 : Option Nat) (H : Heap) (locs : List Loc) (ls : Array Slot), hY D kA n0 s E nx H locs → lv_has ls 2 [] → f_Mach_fileAt_b20 E  t0 = some res → W p l e rm_Mach_fileAt s m args below meth c H locs 0 0 (MQ below (va_Qq (fun r w => r = res ∧ w = (E, nx)) (hJ D kA S g n0) (fun q => n0 ≤ q)) args s 0 0 (fun q => n0 ≤ q)) (F0 m 20 ls [va_rf t0]) := by
  intro t0 H locs ls M hl hf
  unfold f_Mach_fileAt_b20 at hf
  cases hf
  exact w_aret C M hr (Or.inl ⟨_, rfl⟩) hlk (Nat.le_refl _) (Nat.le_refl _) dMach_fileAt_20 rfl rfl
def f_Mach_fileAt_b19 (E : hE) : Option (Option Nat) := (
  f_Mach_fileAt_b20 E none)
set_option maxHeartbeats 4000000 in
set_option maxRecDepth 100000 in
theorem b_Mach_fileAt_19 {p : Program} {l : Launch} {e : Env} {s : State} {m : MethodId} {args : Array Value} {below : List Frame} {meth : Method} {c : Code} {D : va_G} {kA : Nat → ClassId} {S : hE} {g : Nat → Nat} {n0 nx : Nat} {E : hE} {res : Option Nat} (C : hX p s m args c prog_5_method_2_code 2 R_Mach ws_Mach_fileAt D kA S g n0) (hr : meth.sig.returnType = (some (.object "StepPrograms$Row"))) (hlk : meth.locks = false) (hnm : meth.name = "fileAt") : ∀  (H : Heap) (locs : List Loc) (ls : Array Slot), hY D kA n0 s E nx H locs → lv_has ls 2 [] → f_Mach_fileAt_b19 E   = some res → W p l e rm_Mach_fileAt s m args below meth c H locs 0 0 (MQ below (va_Qq (fun r w => r = res ∧ w = (E, nx)) (hJ D kA S g n0) (fun q => n0 ≤ q)) args s 0 0 (fun q => n0 ≤ q)) (F0 m 19 ls []) := by
  intro  H locs ls M hl hf
  unfold f_Mach_fileAt_b19 at hf
  refine lv_null C.x C.b dMach_fileAt_19 ?_
  exact b_Mach_fileAt_20 C hr hlk hnm _ _ _ _ M (lv_sub hl [] rfl) hf
def f_Mach_fileAt (E : hE) (x0 : Nat) (x1 : Int32) : Option (Option Nat) := (
  if x1 < 0 then (
  f_Mach_fileAt_b19 E 
  ) else (
  if 10 ≤ x1 then (
  f_Mach_fileAt_b19 E 
  ) else (
  (gR E (some x0) 2 5).bind fun v11 =>
  (aQ E v11 3 x1).bind fun v15 =>
  f_Mach_fileAt_b20 E v15
  )
  ))
set_option maxHeartbeats 4000000 in
set_option maxRecDepth 100000 in
theorem c_Mach_fileAt {l : Launch} {D : va_G} {kA : Nat → ClassId} {S : hE} {g : Nat → Nat} {n0 nx : Nat} {x0 : Nat} {x1 : Int32} {E : hE} {res : Option Nat} (hf : f_Mach_fileAt E x0 x1 = some res) : Met l y_Mach_fileAt ws_Mach_fileAt rm_Mach_fileAt (va_Pc [va_rf (some x0), .int x1] (hJ D kA S g n0 (E, nx))) (va_Qq (fun r w => r = res ∧ w = (E, nx)) (hJ D kA S g n0) (fun q => n0 ≤ q)) 0 0 (fun q => n0 ≤ q) := by
  refine h_met (cc := prog_5_method_2_code) (maxL := 2) (ret := (some (.object "StepPrograms$Row"))) (lvs := [(0, va_rf (some x0)), (1, .int x1)]) zZ_k (by decide) rfl (by simp [lg_sl, va_rf_cat, cat_i, cat_l, cat_n]) (by simp [lv_args, va_rf_cat, cat_i, cat_l, cat_n]) ?_
  intro p e s m below meth c ls C M hr hlk hnm hl
  unfold f_Mach_fileAt at hf
  refine lv_iload_n C.x C.b dMach_fileAt_0 rfl (lv_at hl 1 rfl) ?_
  refine lv_if_lt (tgt := 19) C.x C.b dMach_fileAt_1 (by decide) (fun c1 => ?_) (fun c1 => ?_)
  · rw [if_pos c1] at hf
    exact b_Mach_fileAt_19 C hr hlk hnm _ _ _ M (lv_sub hl [] rfl) hf
  · rw [if_neg c1] at hf
    refine lv_iload_n C.x C.b dMach_fileAt_4 rfl (lv_at hl 1 rfl) ?_
    refine lv_bipush (v := 10) C.x C.b dMach_fileAt_5 (by decide) ?_
    refine lv_icmp_ge (tgt := 19) C.x C.b dMach_fileAt_7 (by decide) (fun c7 => ?_) (fun c7 => ?_)
    · rw [if_pos c7] at hf
      exact b_Mach_fileAt_19 C hr hlk hnm _ _ _ M (lv_sub hl [] rfl) hf
    · rw [if_neg c7] at hf
      refine w_aload_n C.x C.b dMach_fileAt_10 rfl (lv_at hl 0 rfl) ?_
      obtain ⟨v11, h11, hf⟩ := Option.bind_eq_some_iff.mp hf
      refine w_getR C M h11 rfl (hm_in in_Mach) (by decide) (List.mem_cons_of_mem _ wm_143) rfl dMach_fileAt_11 ?_
      refine lv_iload_n C.x C.b dMach_fileAt_14 rfl (lv_at hl 1 rfl) ?_
      obtain ⟨v15, h15, hf⟩ := Option.bind_eq_some_iff.mp hf
      refine w_aald C M h15 rfl dMach_fileAt_15 ?_
      refine lv_goto (tgt := 20) C.x C.b dMach_fileAt_16 (by decide) ?_
      exact b_Mach_fileAt_20 C hr hlk hnm _ _ _ _ M (lv_sub hl [] rfl) hf
theorem dMach_scriptAt_0 : decode prog_5_method_3_code 0 = .ok (.iload_n 1, 1) := by decide +kernel
theorem dMach_scriptAt_1 : decode prog_5_method_3_code 1 = .ok (.ifCond .lt 17, 3) := by decide +kernel
theorem dMach_scriptAt_4 : decode prog_5_method_3_code 4 = .ok (.iload_n 1, 1) := by decide +kernel
theorem dMach_scriptAt_5 : decode prog_5_method_3_code 5 = .ok (.iconst 4, 1) := by decide +kernel
theorem dMach_scriptAt_6 : decode prog_5_method_3_code 6 = .ok (.if_icmp .ge 12, 3) := by decide +kernel
theorem dMach_scriptAt_9 : decode prog_5_method_3_code 9 = .ok (.aload_n 0, 1) := by decide +kernel
theorem dMach_scriptAt_10 : decode prog_5_method_3_code 10 = .ok (.getfield 11, 3) := by decide +kernel
theorem dMach_scriptAt_13 : decode prog_5_method_3_code 13 = .ok (.iload_n 1, 1) := by decide +kernel
theorem dMach_scriptAt_14 : decode prog_5_method_3_code 14 = .ok (.aaload, 1) := by decide +kernel
theorem dMach_scriptAt_15 : decode prog_5_method_3_code 15 = .ok (.goto 4, 3) := by decide +kernel
theorem dMach_scriptAt_18 : decode prog_5_method_3_code 18 = .ok (.aconst_null, 1) := by decide +kernel
theorem dMach_scriptAt_19 : decode prog_5_method_3_code 19 = .ok (.areturn, 1) := by decide +kernel
abbrev rm_Mach_scriptAt : Room := { frames := 0, cells := 0, slots := 0, locals := 0 }
def f_Mach_scriptAt_b19 (E : hE) (t0 : Option Nat) : Option (Option Nat) := (
  some t0)
set_option maxHeartbeats 4000000 in
set_option maxRecDepth 100000 in
theorem b_Mach_scriptAt_19 {p : Program} {l : Launch} {e : Env} {s : State} {m : MethodId} {args : Array Value} {below : List Frame} {meth : Method} {c : Code} {D : va_G} {kA : Nat → ClassId} {S : hE} {g : Nat → Nat} {n0 nx : Nat} {E : hE} {res : Option Nat} (C : hX p s m args c prog_5_method_3_code 2 R_Mach ws_Mach_scriptAt D kA S g n0) (hr : meth.sig.returnType = (some (.object "StepPrograms$Script"))) (hlk : meth.locks = false) (hnm : meth.name = "scriptAt") : ∀ (t0 : Option Nat) (H : Heap) (locs : List Loc) (ls : Array Slot), hY D kA n0 s E nx H locs → lv_has ls 2 [] → f_Mach_scriptAt_b19 E  t0 = some res → W p l e rm_Mach_scriptAt s m args below meth c H locs 0 0 (MQ below (va_Qq (fun r w => r = res ∧ w = (E, nx)) (hJ D kA S g n0) (fun q => n0 ≤ q)) args s 0 0 (fun q => n0 ≤ q)) (F0 m 19 ls [va_rf t0]) := by
  intro t0 H locs ls M hl hf
  unfold f_Mach_scriptAt_b19 at hf
  cases hf
  exact w_aret C M hr (Or.inl ⟨_, rfl⟩) hlk (Nat.le_refl _) (Nat.le_refl _) dMach_scriptAt_19 rfl rfl
def f_Mach_scriptAt_b18 (E : hE) : Option (Option Nat) := (
  f_Mach_scriptAt_b19 E none)
set_option maxHeartbeats 4000000 in
set_option maxRecDepth 100000 in
theorem b_Mach_scriptAt_18 {p : Program} {l : Launch} {e : Env} {s : State} {m : MethodId} {args : Array Value} {below : List Frame} {meth : Method} {c : Code} {D : va_G} {kA : Nat → ClassId} {S : hE} {g : Nat → Nat} {n0 nx : Nat} {E : hE} {res : Option Nat} (C : hX p s m args c prog_5_method_3_code 2 R_Mach ws_Mach_scriptAt D kA S g n0) (hr : meth.sig.returnType = (some (.object "StepPrograms$Script"))) (hlk : meth.locks = false) (hnm : meth.name = "scriptAt") : ∀  (H : Heap) (locs : List Loc) (ls : Array Slot), hY D kA n0 s E nx H locs → lv_has ls 2 [] → f_Mach_scriptAt_b18 E   = some res → W p l e rm_Mach_scriptAt s m args below meth c H locs 0 0 (MQ below (va_Qq (fun r w => r = res ∧ w = (E, nx)) (hJ D kA S g n0) (fun q => n0 ≤ q)) args s 0 0 (fun q => n0 ≤ q)) (F0 m 18 ls []) := by
  intro  H locs ls M hl hf
  unfold f_Mach_scriptAt_b18 at hf
  refine lv_null C.x C.b dMach_scriptAt_18 ?_
  exact b_Mach_scriptAt_19 C hr hlk hnm _ _ _ _ M (lv_sub hl [] rfl) hf
def f_Mach_scriptAt (E : hE) (x0 : Nat) (x1 : Int32) : Option (Option Nat) := (
  if x1 < 0 then (
  f_Mach_scriptAt_b18 E 
  ) else (
  if 4 ≤ x1 then (
  f_Mach_scriptAt_b18 E 
  ) else (
  (gR E (some x0) 2 0).bind fun v10 =>
  (aQ E v10 5 x1).bind fun v14 =>
  f_Mach_scriptAt_b19 E v14
  )
  ))
set_option maxHeartbeats 4000000 in
set_option maxRecDepth 100000 in
theorem c_Mach_scriptAt {l : Launch} {D : va_G} {kA : Nat → ClassId} {S : hE} {g : Nat → Nat} {n0 nx : Nat} {x0 : Nat} {x1 : Int32} {E : hE} {res : Option Nat} (hf : f_Mach_scriptAt E x0 x1 = some res) : Met l y_Mach_scriptAt ws_Mach_scriptAt rm_Mach_scriptAt (va_Pc [va_rf (some x0), .int x1] (hJ D kA S g n0 (E, nx))) (va_Qq (fun r w => r = res ∧ w = (E, nx)) (hJ D kA S g n0) (fun q => n0 ≤ q)) 0 0 (fun q => n0 ≤ q) := by
  refine h_met (cc := prog_5_method_3_code) (maxL := 2) (ret := (some (.object "StepPrograms$Script"))) (lvs := [(0, va_rf (some x0)), (1, .int x1)]) zZ_k (by decide) rfl (by simp [lg_sl, va_rf_cat, cat_i, cat_l, cat_n]) (by simp [lv_args, va_rf_cat, cat_i, cat_l, cat_n]) ?_
  intro p e s m below meth c ls C M hr hlk hnm hl
  unfold f_Mach_scriptAt at hf
  refine lv_iload_n C.x C.b dMach_scriptAt_0 rfl (lv_at hl 1 rfl) ?_
  refine lv_if_lt (tgt := 18) C.x C.b dMach_scriptAt_1 (by decide) (fun c1 => ?_) (fun c1 => ?_)
  · rw [if_pos c1] at hf
    exact b_Mach_scriptAt_18 C hr hlk hnm _ _ _ M (lv_sub hl [] rfl) hf
  · rw [if_neg c1] at hf
    refine lv_iload_n C.x C.b dMach_scriptAt_4 rfl (lv_at hl 1 rfl) ?_
    refine lv_iconst (v := 4) C.x C.b dMach_scriptAt_5 (by decide) ?_
    refine lv_icmp_ge (tgt := 18) C.x C.b dMach_scriptAt_6 (by decide) (fun c6 => ?_) (fun c6 => ?_)
    · rw [if_pos c6] at hf
      exact b_Mach_scriptAt_18 C hr hlk hnm _ _ _ M (lv_sub hl [] rfl) hf
    · rw [if_neg c6] at hf
      refine w_aload_n C.x C.b dMach_scriptAt_9 rfl (lv_at hl 0 rfl) ?_
      obtain ⟨v10, h10, hf⟩ := Option.bind_eq_some_iff.mp hf
      refine w_getR C M h10 rfl (hm_in in_Mach) (by decide) (List.mem_cons_of_mem _ wm_133) rfl dMach_scriptAt_10 ?_
      refine lv_iload_n C.x C.b dMach_scriptAt_13 rfl (lv_at hl 1 rfl) ?_
      obtain ⟨v14, h14, hf⟩ := Option.bind_eq_some_iff.mp hf
      refine w_aald C M h14 rfl dMach_scriptAt_14 ?_
      refine lv_goto (tgt := 19) C.x C.b dMach_scriptAt_15 (by decide) ?_
      exact b_Mach_scriptAt_19 C hr hlk hnm _ _ _ _ M (lv_sub hl [] rfl) hf
theorem dMach_start_0 : decode prog_5_method_4_code 0 = .ok (.aload_n 0, 1) := by decide +kernel
theorem dMach_start_1 : decode prog_5_method_4_code 1 = .ok (.iload_n 3, 1) := by decide +kernel
theorem dMach_start_2 : decode prog_5_method_4_code 2 = .ok (.putfield 48, 3) := by decide +kernel
theorem dMach_start_5 : decode prog_5_method_4_code 5 = .ok (.aload_n 0, 1) := by decide +kernel
theorem dMach_start_6 : decode prog_5_method_4_code 6 = .ok (.iconst 1, 1) := by decide +kernel
theorem dMach_start_7 : decode prog_5_method_4_code 7 = .ok (.putfield 52, 3) := by decide +kernel
theorem dMach_start_10 : decode prog_5_method_4_code 10 = .ok (.aload_n 0, 1) := by decide +kernel
theorem dMach_start_11 : decode prog_5_method_4_code 11 = .ok (.iconst 0, 1) := by decide +kernel
theorem dMach_start_12 : decode prog_5_method_4_code 12 = .ok (.putfield 56, 3) := by decide +kernel
theorem dMach_start_15 : decode prog_5_method_4_code 15 = .ok (.aload_n 0, 1) := by decide +kernel
theorem dMach_start_16 : decode prog_5_method_4_code 16 = .ok (.iconst 0, 1) := by decide +kernel
theorem dMach_start_17 : decode prog_5_method_4_code 17 = .ok (.putfield 59, 3) := by decide +kernel
theorem dMach_start_20 : decode prog_5_method_4_code 20 = .ok (.aload_n 0, 1) := by decide +kernel
theorem dMach_start_21 : decode prog_5_method_4_code 21 = .ok (.iconst 0, 1) := by decide +kernel
theorem dMach_start_22 : decode prog_5_method_4_code 22 = .ok (.putfield 62, 3) := by decide +kernel
theorem dMach_start_25 : decode prog_5_method_4_code 25 = .ok (.aload_n 0, 1) := by decide +kernel
theorem dMach_start_26 : decode prog_5_method_4_code 26 = .ok (.iconst 0, 1) := by decide +kernel
theorem dMach_start_27 : decode prog_5_method_4_code 27 = .ok (.putfield 65, 3) := by decide +kernel
theorem dMach_start_30 : decode prog_5_method_4_code 30 = .ok (.aload_n 0, 1) := by decide +kernel
theorem dMach_start_31 : decode prog_5_method_4_code 31 = .ok (.getfield 26, 3) := by decide +kernel
theorem dMach_start_34 : decode prog_5_method_4_code 34 = .ok (.invokevirtual 68, 3) := by decide +kernel
theorem dMach_start_37 : decode prog_5_method_4_code 37 = .ok (.aload_n 0, 1) := by decide +kernel
theorem dMach_start_38 : decode prog_5_method_4_code 38 = .ok (.getfield 30, 3) := by decide +kernel
theorem dMach_start_41 : decode prog_5_method_4_code 41 = .ok (.invokevirtual 68, 3) := by decide +kernel
theorem dMach_start_44 : decode prog_5_method_4_code 44 = .ok (.aload_n 0, 1) := by decide +kernel
theorem dMach_start_45 : decode prog_5_method_4_code 45 = .ok (.aload_n 1, 1) := by decide +kernel
theorem dMach_start_46 : decode prog_5_method_4_code 46 = .ok (.aload_n 0, 1) := by decide +kernel
theorem dMach_start_47 : decode prog_5_method_4_code 47 = .ok (.getfield 36, 3) := by decide +kernel
theorem dMach_start_50 : decode prog_5_method_4_code 50 = .ok (.iload_n 2, 1) := by decide +kernel
theorem dMach_start_51 : decode prog_5_method_4_code 51 = .ok (.invokevirtual 71, 3) := by decide +kernel
theorem dMach_start_54 : decode prog_5_method_4_code 54 = .ok (.ireturn, 1) := by decide +kernel
abbrev rm_Mach_start (fr lo : Nat) : Room := { frames := fr + 1, cells := 0, slots := 0, locals := lo + 26 }
def f_Mach_start (N : Nat) (fol : Nat → Option Nat → Option Nat → Int32 → hE → Option (Int32 × hE)) (x0 : Nat) (x1 : Option Nat) (x2 : Int32) (x3 : Int32) (E : hE) : Option (Int32 × hE) := (
  (sI E (some x0) 2 11 x3).bind fun E2 =>
  (sZ E2 (some x0) 2 7 1).bind fun E7 =>
  (sI E7 (some x0) 2 8 0).bind fun E12 =>
  (sI E12 (some x0) 2 9 0).bind fun E17 =>
  (sI E17 (some x0) 2 10 0).bind fun E22 =>
  (sZ E22 (some x0) 2 12 0).bind fun E27 =>
  (gR E27 (some x0) 2 2).bind fun v31 =>
  (gO E27 v31 0).bind fun o34 =>
  (f_Row_makeEmpty o34.1 E27).bind fun v34 =>
  (gR v34 (some x0) 2 3).bind fun v38 =>
  (gO v34 v38 0).bind fun o41 =>
  (f_Row_makeEmpty o41.1 v34).bind fun v41 =>
  (gR v41 (some x0) 2 4).bind fun v47 =>
  (gO v41 (some x0) 2).bind fun o51 =>
  (fol o51.1 x1 v47 x2 v41).bind fun v51 =>
  some (v51.1, v51.2))
set_option maxHeartbeats 4000000 in
set_option maxRecDepth 100000 in
theorem c_Mach_start {l : Launch} {D : va_G} {kA : Nat → ClassId} {S : hE} {g : Nat → Nat} {n0 nx : Nat} {N : Nat} {fr lo : Nat} {x0 : Nat} {x1 : Option Nat} {x2 : Int32} {x3 : Int32} {E : hE} {res : Int32 × hE} {fol : Nat → Option Nat → Option Nat → Int32 → hE → Option (Int32 × hE)} (hfol : ∀ {x0 : Nat} {x1 x2 : Option Nat} {x3 : Int32} {E : hE} {res : Int32 × hE}, fol x0 x1 x2 x3 E = some res → Met l y_Mach_follow ws_Mach_follow { frames := fr, cells := 0, slots := 0, locals := lo } (va_Pc [va_rf (some x0), va_rf x1, va_rf x2, .int x3] (hJ D kA S g n0 (E, nx))) (va_Qi (fun r w => r = res.1 ∧ w = (res.2, nx)) (hJ D kA S g n0) (fun q => n0 ≤ q)) 0 0 (fun q => n0 ≤ q)) (hf : f_Mach_start N fol x0 x1 x2 x3 E = some res) : Met l y_Mach_start ws_Mach_start (rm_Mach_start fr lo) (va_Pc [va_rf (some x0), va_rf x1, .int x2, .int x3] (hJ D kA S g n0 (E, nx))) (va_Qi (fun r w => r = res.1 ∧ w = (res.2, nx)) (hJ D kA S g n0) (fun q => n0 ≤ q)) 0 0 (fun q => n0 ≤ q) := by
  refine h_met (cc := prog_5_method_4_code) (maxL := 4) (ret := (some .int)) (lvs := [(0, va_rf (some x0)), (1, va_rf x1), (2, .int x2), (3, .int x3)]) zZ_k (by decide) rfl (by simp [lg_sl, va_rf_cat, cat_i, cat_l, cat_n]) (by simp [lv_args, va_rf_cat, cat_i, cat_l, cat_n]) ?_
  intro p e s m below meth c ls C M hr hlk hnm hl
  unfold f_Mach_start at hf
  refine w_aload_n C.x C.b dMach_start_0 rfl (lv_at hl 0 rfl) ?_
  refine lv_iload_n C.x C.b dMach_start_1 rfl (lv_at hl 3 rfl) ?_
  obtain ⟨E2, h2, hf⟩ := Option.bind_eq_some_iff.mp hf
  refine w_putV (ty := .int) C M ty_Mach h2 rfl (hm_in in_Mach) tyok_Mach nm_Mach (by decide) (List.mem_cons_of_mem _ wm_153) rfl rfl (by decide +kernel) rfl rfl dMach_start_2 (fun H locs M => ?_)
  refine w_aload_n C.x C.b dMach_start_5 rfl (lv_at hl 0 rfl) ?_
  refine lv_iconst (v := 1) C.x C.b dMach_start_6 (by decide) ?_
  obtain ⟨E7, h7, hf⟩ := Option.bind_eq_some_iff.mp hf
  refine w_putV (ty := .boolean) C M ty_Mach (sZ_some h7).2 rfl (hm_in in_Mach) tyok_Mach nm_Mach (by decide) (List.mem_cons_of_mem _ wm_145) rfl rfl (by decide +kernel) (narrow_z (sZ_some h7).1) (fits_z (sZ_some h7).1) dMach_start_7 (fun H locs M => ?_)
  refine w_aload_n C.x C.b dMach_start_10 rfl (lv_at hl 0 rfl) ?_
  refine lv_iconst (v := 0) C.x C.b dMach_start_11 (by decide) ?_
  obtain ⟨E12, h12, hf⟩ := Option.bind_eq_some_iff.mp hf
  refine w_putV (ty := .int) C M ty_Mach h12 rfl (hm_in in_Mach) tyok_Mach nm_Mach (by decide) (List.mem_cons_of_mem _ wm_147) rfl rfl (by decide +kernel) rfl rfl dMach_start_12 (fun H locs M => ?_)
  refine w_aload_n C.x C.b dMach_start_15 rfl (lv_at hl 0 rfl) ?_
  refine lv_iconst (v := 0) C.x C.b dMach_start_16 (by decide) ?_
  obtain ⟨E17, h17, hf⟩ := Option.bind_eq_some_iff.mp hf
  refine w_putV (ty := .int) C M ty_Mach h17 rfl (hm_in in_Mach) tyok_Mach nm_Mach (by decide) (List.mem_cons_of_mem _ wm_149) rfl rfl (by decide +kernel) rfl rfl dMach_start_17 (fun H locs M => ?_)
  refine w_aload_n C.x C.b dMach_start_20 rfl (lv_at hl 0 rfl) ?_
  refine lv_iconst (v := 0) C.x C.b dMach_start_21 (by decide) ?_
  obtain ⟨E22, h22, hf⟩ := Option.bind_eq_some_iff.mp hf
  refine w_putV (ty := .int) C M ty_Mach h22 rfl (hm_in in_Mach) tyok_Mach nm_Mach (by decide) (List.mem_cons_of_mem _ wm_151) rfl rfl (by decide +kernel) rfl rfl dMach_start_22 (fun H locs M => ?_)
  refine w_aload_n C.x C.b dMach_start_25 rfl (lv_at hl 0 rfl) ?_
  refine lv_iconst (v := 0) C.x C.b dMach_start_26 (by decide) ?_
  obtain ⟨E27, h27, hf⟩ := Option.bind_eq_some_iff.mp hf
  refine w_putV (ty := .boolean) C M ty_Mach (sZ_some h27).2 rfl (hm_in in_Mach) tyok_Mach nm_Mach (by decide) (List.mem_cons_of_mem _ wm_154) rfl rfl (by decide +kernel) (narrow_z (sZ_some h27).1) (fits_z (sZ_some h27).1) dMach_start_27 (fun H locs M => ?_)
  refine w_aload_n C.x C.b dMach_start_30 rfl (lv_at hl 0 rfl) ?_
  obtain ⟨v31, h31, hf⟩ := Option.bind_eq_some_iff.mp hf
  refine w_getR C M h31 rfl (hm_in in_Mach) (by decide) (List.mem_cons_of_mem _ wm_137) rfl dMach_start_31 ?_
  obtain ⟨o34, g34, hf⟩ := Option.bind_eq_some_iff.mp hf
  obtain ⟨v34, h34, hf⟩ := Option.bind_eq_some_iff.mp hf
  refine w_cv M (w_runV C M g34 rfl (c_Row_makeEmpty h34) (cwV 0 C.ts (hgV wm_581 wm_212 wm_213 wm_3 wm_214) rfl rfl rfl (by decide +kernel) ⟨by show 0 + 1 ≤ fr + 1; omega, by show 8 + (1 + 11) + (0) ≤ lo + 26; omega⟩) rfl hl.1 rfl (Nat.zero_le _) dMach_start_34 ⟨Nat.le_refl _, Nat.le_refl _⟩) (fun H locs M => ?_)
  refine w_aload_n C.x C.b dMach_start_37 rfl (lv_at hl 0 rfl) ?_
  obtain ⟨v38, h38, hf⟩ := Option.bind_eq_some_iff.mp hf
  refine w_getR C M h38 rfl (hm_in in_Mach) (by decide) (List.mem_cons_of_mem _ wm_139) rfl dMach_start_38 ?_
  obtain ⟨o41, g41, hf⟩ := Option.bind_eq_some_iff.mp hf
  obtain ⟨v41, h41, hf⟩ := Option.bind_eq_some_iff.mp hf
  refine w_cv M (w_runV C M g41 rfl (c_Row_makeEmpty h41) (cwV 0 C.ts (hgV wm_581 wm_212 wm_213 wm_3 wm_214) rfl rfl rfl (by decide +kernel) ⟨by show 0 + 1 ≤ fr + 1; omega, by show 8 + (1 + 11) + (0) ≤ lo + 26; omega⟩) rfl hl.1 rfl (Nat.zero_le _) dMach_start_41 ⟨Nat.le_refl _, Nat.le_refl _⟩) (fun H locs M => ?_)
  refine w_aload_n C.x C.b dMach_start_44 rfl (lv_at hl 0 rfl) ?_
  refine w_aload_n C.x C.b dMach_start_45 rfl (lv_at hl 1 rfl) ?_
  refine w_aload_n C.x C.b dMach_start_46 rfl (lv_at hl 0 rfl) ?_
  obtain ⟨v47, h47, hf⟩ := Option.bind_eq_some_iff.mp hf
  refine w_getR C M h47 rfl (hm_in in_Mach) (by decide) (List.mem_cons_of_mem _ wm_141) rfl dMach_start_47 ?_
  refine lv_iload_n C.x C.b dMach_start_50 rfl (lv_at hl 2 rfl) ?_
  obtain ⟨o51, g51, hf⟩ := Option.bind_eq_some_iff.mp hf
  obtain ⟨v51, h51, hf⟩ := Option.bind_eq_some_iff.mp hf
  refine w_ci M (w_runV C M g51 rfl (hfol h51) (cwV 3 C.ts (hgV wm_582 wm_584 sel_Mach_follow wm_4 wm_585) rfl rfl rfl (by decide +kernel) ⟨by show fr + 1 ≤ fr + 1; omega, by show 8 + (7 + 11) + (lo) ≤ lo + 26; omega⟩) rfl hl.1 rfl (Nat.zero_le _) dMach_start_51 ⟨Nat.le_refl _, Nat.le_refl _⟩) (fun H locs M => ?_)
  cases hf
  exact w_iret C M hr hlk rfl (Nat.le_refl _) (Nat.le_refl _) dMach_start_54 rfl rfl
theorem dAL_size_0 : decode prog_24_method_8_code 0 = .ok (.aload_n 0, 1) := by decide +kernel
theorem dAL_size_1 : decode prog_24_method_8_code 1 = .ok (.getfield 48, 3) := by decide +kernel
theorem dAL_size_4 : decode prog_24_method_8_code 4 = .ok (.ireturn, 1) := by decide +kernel
abbrev rm_AL_size : Room := { frames := 0, cells := 0, slots := 0, locals := 0 }
def f_AL_size (E : hE) (x0 : Nat) : Option (Int32) := (
  (gI E (some x0) 8 1).bind fun v1 =>
  some v1)
set_option maxHeartbeats 4000000 in
set_option maxRecDepth 100000 in
theorem c_AL_size {l : Launch} {D : va_G} {kA : Nat → ClassId} {S : hE} {g : Nat → Nat} {n0 nx : Nat} {x0 : Nat} {E : hE} {res : Int32} (hf : f_AL_size E x0 = some res) : Met l y_AL_size ws_AL_size rm_AL_size (va_Pc [va_rf (some x0)] (hJ D kA S g n0 (E, nx))) (va_Qi (fun r w => r = res ∧ w = (E, nx)) (hJ D kA S g n0) (fun q => n0 ≤ q)) 0 0 (fun q => n0 ≤ q) := by
  refine h_met (cc := prog_24_method_8_code) (maxL := 1) (ret := (some .int)) (lvs := [(0, va_rf (some x0))]) zZ_k (by decide) rfl (by simp [lg_sl, va_rf_cat, cat_i, cat_l, cat_n]) (by simp [lv_args, va_rf_cat, cat_i, cat_l, cat_n]) ?_
  intro p e s m below meth c ls C M hr hlk hnm hl
  unfold f_AL_size at hf
  refine w_aload_n C.x C.b dAL_size_0 rfl (lv_at hl 0 rfl) ?_
  obtain ⟨v1, h1, hf⟩ := Option.bind_eq_some_iff.mp hf
  refine w_getI C M h1 rfl (hm_in in_AL) (by decide) (List.mem_cons_of_mem _ wm_236) rfl dAL_size_1 ?_
  cases hf
  exact w_iret C M hr hlk rfl (Nat.le_refl _) (Nat.le_refl _) dAL_size_4 rfl rfl
theorem dPre_checkIndex_0 : decode prog_32_method_11_code 0 = .ok (.iload_n 0, 1) := by decide +kernel
theorem dPre_checkIndex_1 : decode prog_32_method_11_code 1 = .ok (.ifCond .lt 8, 3) := by decide +kernel
theorem dPre_checkIndex_4 : decode prog_32_method_11_code 4 = .ok (.iload_n 0, 1) := by decide +kernel
theorem dPre_checkIndex_5 : decode prog_32_method_11_code 5 = .ok (.iload_n 1, 1) := by decide +kernel
theorem dPre_checkIndex_6 : decode prog_32_method_11_code 6 = .ok (.if_icmp .lt 10, 3) := by decide +kernel
theorem dPre_checkIndex_16 : decode prog_32_method_11_code 16 = .ok (.iload_n 0, 1) := by decide +kernel
theorem dPre_checkIndex_17 : decode prog_32_method_11_code 17 = .ok (.ireturn, 1) := by decide +kernel
abbrev rm_Pre_checkIndex : Room := { frames := 0, cells := 0, slots := 0, locals := 0 }
def f_Pre_checkIndex (E : hE) (x0 : Int32) (x1 : Int32) (x2 : Option Nat) : Option (Int32) := (
  if x0 < 0 then (
  none
  ) else (
  if x0 < x1 then (
  some x0
  ) else (
  none
  )
  ))
set_option maxHeartbeats 4000000 in
set_option maxRecDepth 100000 in
theorem c_Pre_checkIndex {l : Launch} {D : va_G} {kA : Nat → ClassId} {S : hE} {g : Nat → Nat} {n0 nx : Nat} {x0 : Int32} {x1 : Int32} {x2 : Option Nat} {E : hE} {res : Int32} (hf : f_Pre_checkIndex E x0 x1 x2 = some res) : Met l y_Pre_checkIndex ws_Pre_checkIndex rm_Pre_checkIndex (va_Pc [.int x0, .int x1, va_rf x2] (hJ D kA S g n0 (E, nx))) (va_Qi (fun r w => r = res ∧ w = (E, nx)) (hJ D kA S g n0) (fun q => n0 ≤ q)) 0 0 (fun q => n0 ≤ q) := by
  refine h_met (cc := prog_32_method_11_code) (maxL := 3) (ret := (some .int)) (lvs := [(0, .int x0), (1, .int x1), (2, va_rf x2)]) zZ_k (by decide) rfl (by simp [lg_sl, va_rf_cat, cat_i, cat_l, cat_n]) (by simp [lv_args, va_rf_cat, cat_i, cat_l, cat_n]) ?_
  intro p e s m below meth c ls C M hr hlk hnm hl
  unfold f_Pre_checkIndex at hf
  refine lv_iload_n C.x C.b dPre_checkIndex_0 rfl (lv_at hl 0 rfl) ?_
  refine lv_if_lt (tgt := 9) C.x C.b dPre_checkIndex_1 (by decide) (fun c1 => ?_) (fun c1 => ?_)
  · rw [if_pos c1] at hf
    cases hf
  · rw [if_neg c1] at hf
    refine lv_iload_n C.x C.b dPre_checkIndex_4 rfl (lv_at hl 0 rfl) ?_
    refine lv_iload_n C.x C.b dPre_checkIndex_5 rfl (lv_at hl 1 rfl) ?_
    refine lv_icmp_lt (tgt := 16) C.x C.b dPre_checkIndex_6 (by decide) (fun c6 => ?_) (fun c6 => ?_)
    · rw [if_pos c6] at hf
      refine lv_iload_n C.x C.b dPre_checkIndex_16 rfl (lv_at hl 0 rfl) ?_
      cases hf
      exact w_iret C M hr hlk rfl (Nat.le_refl _) (Nat.le_refl _) dPre_checkIndex_17 rfl rfl
    · rw [if_neg c6] at hf
      cases hf
theorem dObjs_checkIndex_0 : decode prog_28_method_17_code 0 = .ok (.iload_n 0, 1) := by decide +kernel
theorem dObjs_checkIndex_1 : decode prog_28_method_17_code 1 = .ok (.iload_n 1, 1) := by decide +kernel
theorem dObjs_checkIndex_2 : decode prog_28_method_17_code 2 = .ok (.aconst_null, 1) := by decide +kernel
theorem dObjs_checkIndex_3 : decode prog_28_method_17_code 3 = .ok (.invokestatic 105, 3) := by decide +kernel
theorem dObjs_checkIndex_6 : decode prog_28_method_17_code 6 = .ok (.ireturn, 1) := by decide +kernel
abbrev rm_Objs_checkIndex : Room := { frames := 1, cells := 0, slots := 0, locals := 22 }
def f_Objs_checkIndex (E : hE) (x0 : Int32) (x1 : Int32) : Option (Int32) := (
  (f_Pre_checkIndex E x0 x1 none).bind fun v3 =>
  some v3)
set_option maxHeartbeats 4000000 in
set_option maxRecDepth 100000 in
theorem c_Objs_checkIndex {l : Launch} {D : va_G} {kA : Nat → ClassId} {S : hE} {g : Nat → Nat} {n0 nx : Nat} {x0 : Int32} {x1 : Int32} {E : hE} {res : Int32} (hf : f_Objs_checkIndex E x0 x1 = some res) : Met l y_Objs_checkIndex ws_Objs_checkIndex rm_Objs_checkIndex (va_Pc [.int x0, .int x1] (hJ D kA S g n0 (E, nx))) (va_Qi (fun r w => r = res ∧ w = (E, nx)) (hJ D kA S g n0) (fun q => n0 ≤ q)) 0 0 (fun q => n0 ≤ q) := by
  refine h_met (cc := prog_28_method_17_code) (maxL := 2) (ret := (some .int)) (lvs := [(0, .int x0), (1, .int x1)]) zZ_k (by decide) rfl (by simp [lg_sl, va_rf_cat, cat_i, cat_l, cat_n]) (by simp [lv_args, va_rf_cat, cat_i, cat_l, cat_n]) ?_
  intro p e s m below meth c ls C M hr hlk hnm hl
  unfold f_Objs_checkIndex at hf
  refine lv_iload_n C.x C.b dObjs_checkIndex_0 rfl (lv_at hl 0 rfl) ?_
  refine lv_iload_n C.x C.b dObjs_checkIndex_1 rfl (lv_at hl 1 rfl) ?_
  refine lv_null C.x C.b dObjs_checkIndex_2 ?_
  obtain ⟨v3, h3, hf⟩ := Option.bind_eq_some_iff.mp hf
  refine w_ci M (w_runS C M (c_Pre_checkIndex h3) (va_cwS 3 C.ts (hgT wm_539 wm_334 wm_14 wm_335) rfl rfl rfl (by decide +kernel) ⟨Nat.le_of_ble_eq_true rfl, Nat.le_of_ble_eq_true rfl⟩) rfl hl.1 rfl (Nat.zero_le _) dObjs_checkIndex_3 ⟨Nat.le_refl _, Nat.le_refl _⟩) (fun H locs M => ?_)
  cases hf
  exact w_iret C M hr hlk rfl (Nat.le_refl _) (Nat.le_refl _) dObjs_checkIndex_6 rfl rfl
theorem dAL_elementData_0 : decode prog_24_method_18_code 0 = .ok (.aload_n 0, 1) := by decide +kernel
theorem dAL_elementData_1 : decode prog_24_method_18_code 1 = .ok (.getfield 9, 3) := by decide +kernel
theorem dAL_elementData_4 : decode prog_24_method_18_code 4 = .ok (.iload_n 1, 1) := by decide +kernel
theorem dAL_elementData_5 : decode prog_24_method_18_code 5 = .ok (.aaload, 1) := by decide +kernel
theorem dAL_elementData_6 : decode prog_24_method_18_code 6 = .ok (.areturn, 1) := by decide +kernel
abbrev rm_AL_elementData : Room := { frames := 0, cells := 0, slots := 0, locals := 0 }
def f_AL_elementData (E : hE) (x0 : Nat) (x1 : Int32) : Option (Option Nat) := (
  (gR E (some x0) 8 0).bind fun v1 =>
  (aQ E v1 6 x1).bind fun v5 =>
  some v5)
set_option maxHeartbeats 4000000 in
set_option maxRecDepth 100000 in
theorem c_AL_elementData {l : Launch} {D : va_G} {kA : Nat → ClassId} {S : hE} {g : Nat → Nat} {n0 nx : Nat} {x0 : Nat} {x1 : Int32} {E : hE} {res : Option Nat} (hf : f_AL_elementData E x0 x1 = some res) : Met l y_AL_elementData ws_AL_elementData rm_AL_elementData (va_Pc [va_rf (some x0), .int x1] (hJ D kA S g n0 (E, nx))) (va_Qq (fun r w => r = res ∧ w = (E, nx)) (hJ D kA S g n0) (fun q => n0 ≤ q)) 0 0 (fun q => n0 ≤ q) := by
  refine h_met (cc := prog_24_method_18_code) (maxL := 2) (ret := (some (.object "java/lang/Object"))) (lvs := [(0, va_rf (some x0)), (1, .int x1)]) zZ_k (by decide) rfl (by simp [lg_sl, va_rf_cat, cat_i, cat_l, cat_n]) (by simp [lv_args, va_rf_cat, cat_i, cat_l, cat_n]) ?_
  intro p e s m below meth c ls C M hr hlk hnm hl
  unfold f_AL_elementData at hf
  refine w_aload_n C.x C.b dAL_elementData_0 rfl (lv_at hl 0 rfl) ?_
  obtain ⟨v1, h1, hf⟩ := Option.bind_eq_some_iff.mp hf
  refine w_getR C M h1 rfl (hm_in in_AL) (by decide) (List.mem_cons_of_mem _ wm_235) rfl dAL_elementData_1 ?_
  refine lv_iload_n C.x C.b dAL_elementData_4 rfl (lv_at hl 1 rfl) ?_
  obtain ⟨v5, h5, hf⟩ := Option.bind_eq_some_iff.mp hf
  refine w_aald C M h5 rfl dAL_elementData_5 ?_
  cases hf
  exact w_aret C M hr (Or.inl ⟨_, rfl⟩) hlk (Nat.le_refl _) (Nat.le_refl _) dAL_elementData_6 rfl rfl
theorem dAL_get_0 : decode prog_24_method_20_code 0 = .ok (.iload_n 1, 1) := by decide +kernel
theorem dAL_get_1 : decode prog_24_method_20_code 1 = .ok (.aload_n 0, 1) := by decide +kernel
theorem dAL_get_2 : decode prog_24_method_20_code 2 = .ok (.getfield 48, 3) := by decide +kernel
theorem dAL_get_5 : decode prog_24_method_20_code 5 = .ok (.invokestatic 118, 3) := by decide +kernel
theorem dAL_get_8 : decode prog_24_method_20_code 8 = .ok (.pop, 1) := by decide +kernel
theorem dAL_get_9 : decode prog_24_method_20_code 9 = .ok (.aload_n 0, 1) := by decide +kernel
theorem dAL_get_10 : decode prog_24_method_20_code 10 = .ok (.iload_n 1, 1) := by decide +kernel
theorem dAL_get_11 : decode prog_24_method_20_code 11 = .ok (.invokevirtual 123, 3) := by decide +kernel
theorem dAL_get_14 : decode prog_24_method_20_code 14 = .ok (.areturn, 1) := by decide +kernel
abbrev rm_AL_get : Room := { frames := 2, cells := 0, slots := 0, locals := 43 }
def f_AL_get (E : hE) (x0 : Nat) (x1 : Int32) : Option (Option Nat) := (
  (gI E (some x0) 8 1).bind fun v2 =>
  (f_Objs_checkIndex E x1 v2).bind fun v5 =>
  (gO E (some x0) 8).bind fun o11 =>
  (f_AL_elementData E o11.1 x1).bind fun v11 =>
  some v11)
set_option maxHeartbeats 4000000 in
set_option maxRecDepth 100000 in
theorem c_AL_get {l : Launch} {D : va_G} {kA : Nat → ClassId} {S : hE} {g : Nat → Nat} {n0 nx : Nat} {x0 : Nat} {x1 : Int32} {E : hE} {res : Option Nat} (hf : f_AL_get E x0 x1 = some res) : Met l y_AL_get ws_AL_get rm_AL_get (va_Pc [va_rf (some x0), .int x1] (hJ D kA S g n0 (E, nx))) (va_Qq (fun r w => r = res ∧ w = (E, nx)) (hJ D kA S g n0) (fun q => n0 ≤ q)) 0 0 (fun q => n0 ≤ q) := by
  refine h_met (cc := prog_24_method_20_code) (maxL := 2) (ret := (some (.object "java/lang/Object"))) (lvs := [(0, va_rf (some x0)), (1, .int x1)]) zZ_k (by decide) rfl (by simp [lg_sl, va_rf_cat, cat_i, cat_l, cat_n]) (by simp [lv_args, va_rf_cat, cat_i, cat_l, cat_n]) ?_
  intro p e s m below meth c ls C M hr hlk hnm hl
  unfold f_AL_get at hf
  refine lv_iload_n C.x C.b dAL_get_0 rfl (lv_at hl 1 rfl) ?_
  refine w_aload_n C.x C.b dAL_get_1 rfl (lv_at hl 0 rfl) ?_
  obtain ⟨v2, h2, hf⟩ := Option.bind_eq_some_iff.mp hf
  refine w_getI C M h2 rfl (hm_in in_AL) (by decide) (List.mem_cons_of_mem _ wm_236) rfl dAL_get_2 ?_
  obtain ⟨v5, h5, hf⟩ := Option.bind_eq_some_iff.mp hf
  refine w_ci M (w_runS C M (c_Objs_checkIndex h5) (va_cwS 2 C.ts (hgT wm_536 wm_537 wm_21 wm_538) rfl rfl rfl (by decide +kernel) ⟨Nat.le_of_ble_eq_true rfl, Nat.le_of_ble_eq_true rfl⟩) rfl hl.1 rfl (Nat.zero_le _) dAL_get_5 ⟨Nat.le_refl _, Nat.le_refl _⟩) (fun H locs M => ?_)
  refine lv_pop C.x C.b dAL_get_8 rfl ?_
  refine w_aload_n C.x C.b dAL_get_9 rfl (lv_at hl 0 rfl) ?_
  refine lv_iload_n C.x C.b dAL_get_10 rfl (lv_at hl 1 rfl) ?_
  obtain ⟨o11, g11, hf⟩ := Option.bind_eq_some_iff.mp hf
  obtain ⟨v11, h11, hf⟩ := Option.bind_eq_some_iff.mp hf
  refine w_cq M (w_runV C M g11 rfl (c_AL_elementData h11) (cwV 1 C.ts (hgV wm_540 wm_541 wm_542 wm_10 wm_543) rfl rfl rfl (by decide +kernel) ⟨Nat.le_of_ble_eq_true rfl, Nat.le_of_ble_eq_true rfl⟩) rfl hl.1 rfl (Nat.zero_le _) dAL_get_11 ⟨Nat.le_refl _, Nat.le_refl _⟩) (fun H locs M => ?_)
  cases hf
  exact w_aret C M hr (Or.inl ⟨_, rfl⟩) hlk (Nat.le_refl _) (Nat.le_refl _) dAL_get_14 rfl rfl
