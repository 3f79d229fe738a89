/-! m08: by wip/whole/gen.py -/
theorem dMach_ask_0 : decode prog_5_method_20_code 0 = .ok (.iload_n 3, 1) := by decide +kernel
theorem dMach_ask_1 : decode prog_5_method_20_code 1 = .ok (.ifCond .lt 8, 3) := by decide +kernel
theorem dMach_ask_4 : decode prog_5_method_20_code 4 = .ok (.iload_n 3, 1) := by decide +kernel
theorem dMach_ask_5 : decode prog_5_method_20_code 5 = .ok (.iconst 3, 1) := by decide +kernel
theorem dMach_ask_6 : decode prog_5_method_20_code 6 = .ok (.if_icmp .lt 6, 3) := by decide +kernel
theorem dMach_ask_9 : decode prog_5_method_20_code 9 = .ok (.bipush 102, 2) := by decide +kernel
theorem dMach_ask_11 : decode prog_5_method_20_code 11 = .ok (.ireturn, 1) := by decide +kernel
theorem dMach_ask_12 : decode prog_5_method_20_code 12 = .ok (.aload_n 0, 1) := by decide +kernel
theorem dMach_ask_13 : decode prog_5_method_20_code 13 = .ok (.getfield 17, 3) := by decide +kernel
theorem dMach_ask_16 : decode prog_5_method_20_code 16 = .ok (.iload_n 3, 1) := by decide +kernel
theorem dMach_ask_17 : decode prog_5_method_20_code 17 = .ok (.baload, 1) := by decide +kernel
theorem dMach_ask_18 : decode prog_5_method_20_code 18 = .ok (.ifCond .ne 6, 3) := by decide +kernel
theorem dMach_ask_21 : decode prog_5_method_20_code 21 = .ok (.bipush 106, 2) := by decide +kernel
theorem dMach_ask_23 : decode prog_5_method_20_code 23 = .ok (.ireturn, 1) := by decide +kernel
theorem dMach_ask_24 : decode prog_5_method_20_code 24 = .ok (.aload_n 1, 1) := by decide +kernel
theorem dMach_ask_25 : decode prog_5_method_20_code 25 = .ok (.iload_n 2, 1) := by decide +kernel
theorem dMach_ask_26 : decode prog_5_method_20_code 26 = .ok (.aload_n 0, 1) := by decide +kernel
theorem dMach_ask_27 : decode prog_5_method_20_code 27 = .ok (.aload_n 1, 1) := by decide +kernel
theorem dMach_ask_28 : decode prog_5_method_20_code 28 = .ok (.iload_n 3, 1) := by decide +kernel
theorem dMach_ask_29 : decode prog_5_method_20_code 29 = .ok (.invokevirtual 237, 3) := by decide +kernel
theorem dMach_ask_32 : decode prog_5_method_20_code 32 = .ok (.invokevirtual 136, 3) := by decide +kernel
theorem dMach_ask_35 : decode prog_5_method_20_code 35 = .ok (.iconst (-1), 1) := by decide +kernel
theorem dMach_ask_36 : decode prog_5_method_20_code 36 = .ok (.ireturn, 1) := by decide +kernel
abbrev rm_Mach_ask : Room := { frames := 1, cells := 0, slots := 0, locals := 22 }
def f_Mach_ask_b9  (E : hE) : Option (Int32 × hE) := (
  some (102, E))
set_option maxHeartbeats 4000000 in
set_option maxRecDepth 100000 in
theorem b_Mach_ask_9 {p : Program} {l : Launch} {e : Env} {s : State} {m : MethodId} {args : Array Value} {below : List Frame} {meth : Method} {c : Code} {D : va_G} {kA : Nat → ClassId} {S : hE} {g : Nat → Nat} {n0 nx : Nat} {res : Int32 × hE} (C : hX p s m args c prog_5_method_20_code 4 R_Mach ws_Mach_ask D kA S g n0) (hr : meth.sig.returnType = (some .int)) (hlk : meth.locks = false) (hnm : meth.name = "ask") : ∀  (E : hE) (H : Heap) (locs : List Loc) (ls : Array Slot), hY D kA n0 s E nx H locs → lv_has ls 4 [] → f_Mach_ask_b9  E = some res → W p l e rm_Mach_ask s m args below meth c H locs 0 0 (MQ below (va_Qi (fun r w => r = res.1 ∧ w = (res.2, nx)) (hJ D kA S g n0) (fun q => n0 ≤ q)) args s 0 0 (fun q => n0 ≤ q)) (F0 m 9 ls []) := by
  intro E H locs ls M hl hf
  unfold f_Mach_ask_b9 at hf
  refine lv_bipush (v := 102) C.x C.b dMach_ask_9 (by decide) ?_
  cases hf
  exact w_iret C M hr hlk rfl (Nat.le_refl _) (Nat.le_refl _) dMach_ask_11 rfl rfl
def f_Mach_ask  (x0 : Nat) (x1 : Option Nat) (x2 : Int32) (x3 : Int32) (E : hE) : Option (Int32 × hE) := (
  if x3 < 0 then (
  f_Mach_ask_b9 E
  ) else (
  if x3 < 3 then (
  (gR E (some x0) 2 1).bind fun v13 =>
  (aI E v13 1 x3).bind fun v17 =>
  if v17 = 0 then (
  some (106, E)
  ) else (
  (gO E (some x0) 2).bind fun o29 =>
  (f_Mach_answer E o29.1 x1 x3).bind fun v29 =>
  (gO E x1 1).bind fun o32 =>
  (f_Frame_set o32.1 x2 v29 E).bind fun v32 =>
  some ((-1), v32)
  )
  ) else (
  f_Mach_ask_b9 E
  )
  ))
set_option maxHeartbeats 4000000 in
set_option maxRecDepth 100000 in
theorem c_Mach_ask {l : Launch} {D : va_G} {kA : Nat → ClassId} {S : hE} {g : Nat → Nat} {n0 nx : Nat} {x0 : Nat} {x1 : Option Nat} {x2 : Int32} {x3 : Int32} {E : hE} {res : Int32 × hE} (hf : f_Mach_ask x0 x1 x2 x3 E = some res) : Met l y_Mach_ask ws_Mach_ask rm_Mach_ask (va_Pc [va_rf (some x0), va_rf x1, .int x2, .int x3] (hJ D kA S g n0 (E, nx))) (va_Qi (fun r w => r = res.1 ∧ w = (res.2, nx)) (hJ D kA S g n0) (fun q => n0 ≤ q)) 0 0 (fun q => n0 ≤ q) := by
  refine h_met (cc := prog_5_method_20_code) (maxL := 4) (ret := (some .int)) (lvs := [(0, va_rf (some x0)), (1, va_rf x1), (2, .int x2), (3, .int x3)]) zZ_k (by decide) rfl (by simp [lg_sl, va_rf_cat, cat_i, cat_l, cat_n]) (by simp [lv_args, va_rf_cat, cat_i, cat_l, cat_n]) ?_
  intro p e s m below meth c ls C M hr hlk hnm hl
  unfold f_Mach_ask at hf
  refine lv_iload_n C.x C.b dMach_ask_0 rfl (lv_at hl 3 rfl) ?_
  refine lv_if_lt (tgt := 9) C.x C.b dMach_ask_1 (by decide) (fun c1 => ?_) (fun c1 => ?_)
  · rw [if_pos c1] at hf
    exact b_Mach_ask_9 C hr hlk hnm _ _ _ _ M (lv_sub hl [] rfl) hf
  · rw [if_neg c1] at hf
    refine lv_iload_n C.x C.b dMach_ask_4 rfl (lv_at hl 3 rfl) ?_
    refine lv_iconst (v := 3) C.x C.b dMach_ask_5 (by decide) ?_
    refine lv_icmp_lt (tgt := 12) C.x C.b dMach_ask_6 (by decide) (fun c6 => ?_) (fun c6 => ?_)
    · rw [if_pos c6] at hf
      refine w_aload_n C.x C.b dMach_ask_12 rfl (lv_at hl 0 rfl) ?_
      obtain ⟨v13, h13, hf⟩ := Option.bind_eq_some_iff.mp hf
      refine w_getR C M h13 rfl (hm_in in_Mach) (by decide) (List.mem_cons_of_mem _ wm_136) rfl dMach_ask_13 ?_
      refine lv_iload_n C.x C.b dMach_ask_16 rfl (lv_at hl 3 rfl) ?_
      obtain ⟨v17, h17, hf⟩ := Option.bind_eq_some_iff.mp hf
      refine w_zald C M h17 rfl dMach_ask_17 ?_
      refine lv_if_ne (tgt := 24) C.x C.b dMach_ask_18 (by decide) (fun c18 => ?_) (fun c18 => ?_)
      · rw [if_neg c18] at hf
        refine w_aload_n C.x C.b dMach_ask_24 rfl (lv_at hl 1 rfl) ?_
        refine lv_iload_n C.x C.b dMach_ask_25 rfl (lv_at hl 2 rfl) ?_
        refine w_aload_n C.x C.b dMach_ask_26 rfl (lv_at hl 0 rfl) ?_
        refine w_aload_n C.x C.b dMach_ask_27 rfl (lv_at hl 1 rfl) ?_
        refine lv_iload_n C.x C.b dMach_ask_28 rfl (lv_at hl 3 rfl) ?_
        obtain ⟨o29, g29, hf⟩ := Option.bind_eq_some_iff.mp hf
        obtain ⟨v29, h29, hf⟩ := Option.bind_eq_some_iff.mp hf
        refine w_ci M (w_runV C M g29 rfl (c_Mach_answer h29) (cwV 2 C.ts (hgV wm_692 wm_694 sel_Mach_answer wm_4 wm_695) rfl rfl rfl (by decide +kernel) ⟨Nat.le_of_ble_eq_true rfl, Nat.le_of_ble_eq_true rfl⟩) rfl hl.1 rfl (by simp [va_rf_cat, cat_i, cat_l, cat_n]) dMach_ask_29 ⟨Nat.le_refl _, Nat.le_refl _⟩) (fun H locs M => ?_)
        obtain ⟨o32, g32, hf⟩ := Option.bind_eq_some_iff.mp hf
        obtain ⟨v32, h32, hf⟩ := Option.bind_eq_some_iff.mp hf
        refine w_cv M (w_runV C M g32 rfl (c_Frame_set h32) (cwV 2 C.ts (hgV wm_614 wm_615 wm_616 wm_5 wm_617) rfl rfl rfl (by decide +kernel) ⟨Nat.le_of_ble_eq_true rfl, Nat.le_of_ble_eq_true rfl⟩) rfl hl.1 rfl (Nat.zero_le _) dMach_ask_32 ⟨Nat.le_refl _, Nat.le_refl _⟩) (fun H locs M => ?_)
        refine lv_iconst (v := (-1)) C.x C.b dMach_ask_35 (by decide) ?_
        cases hf
        exact w_iret C M hr hlk rfl (Nat.le_refl _) (Nat.le_refl _) dMach_ask_36 rfl rfl
      · rw [if_pos c18] at hf
        refine lv_bipush (v := 106) C.x C.b dMach_ask_21 (by decide) ?_
        cases hf
        exact w_iret C M hr hlk rfl (Nat.le_refl _) (Nat.le_refl _) dMach_ask_23 rfl rfl
    · rw [if_neg c6] at hf
      exact b_Mach_ask_9 C hr hlk hnm _ _ _ _ M (lv_sub hl [] rfl) hf
theorem dScript_placeOf_0 : decode prog_7_method_3_code 0 = .ok (.iload_n 1, 1) := by decide +kernel
theorem dScript_placeOf_1 : decode prog_7_method_3_code 1 = .ok (.ifCond .lt 18, 3) := by decide +kernel
theorem dScript_placeOf_4 : decode prog_7_method_3_code 4 = .ok (.iload_n 1, 1) := by decide +kernel
theorem dScript_placeOf_5 : decode prog_7_method_3_code 5 = .ok (.bipush 26, 2) := by decide +kernel
theorem dScript_placeOf_7 : decode prog_7_method_3_code 7 = .ok (.if_icmp .ge 12, 3) := by decide +kernel
theorem dScript_placeOf_10 : decode prog_7_method_3_code 10 = .ok (.aload_n 0, 1) := by decide +kernel
theorem dScript_placeOf_11 : decode prog_7_method_3_code 11 = .ok (.getfield 18, 3) := by decide +kernel
theorem dScript_placeOf_14 : decode prog_7_method_3_code 14 = .ok (.iload_n 1, 1) := by decide +kernel
theorem dScript_placeOf_15 : decode prog_7_method_3_code 15 = .ok (.iaload, 1) := by decide +kernel
theorem dScript_placeOf_16 : decode prog_7_method_3_code 16 = .ok (.goto 4, 3) := by decide +kernel
theorem dScript_placeOf_19 : decode prog_7_method_3_code 19 = .ok (.iconst (-1), 1) := by decide +kernel
theorem dScript_placeOf_20 : decode prog_7_method_3_code 20 = .ok (.ireturn, 1) := by decide +kernel
abbrev rm_Script_placeOf : Room := { frames := 0, cells := 0, slots := 0, locals := 0 }
def f_Script_placeOf_b20 (E : hE) (t0 : Int32) : Option (Int32) := (
  some t0)
set_option maxHeartbeats 4000000 in
set_option maxRecDepth 100000 in
theorem b_Script_placeOf_20 {p : Program} {l : Launch} {e : Env} {s : State} {m : MethodId} {args : Array Value} {below : List Frame} {meth : Method} {c : Code} {D : va_G} {kA : Nat → ClassId} {S : hE} {g : Nat → Nat} {n0 nx : Nat} {E : hE} {res : Int32} (C : hX p s m args c prog_7_method_3_code 2 R_Script ws_Script_placeOf D kA S g n0) (hr : meth.sig.returnType = (some .int)) (hlk : meth.locks = false) (hnm : meth.name = "placeOf") : ∀ (t0 : Int32) (H : Heap) (locs : List Loc) (ls : Array Slot), hY D kA n0 s E nx H locs → lv_has ls 2 [] → f_Script_placeOf_b20 E  t0 = some res → W p l e rm_Script_placeOf s m args below meth c H locs 0 0 (MQ below (va_Qi (fun r w => r = res ∧ w = (E, nx)) (hJ D kA S g n0) (fun q => n0 ≤ q)) args s 0 0 (fun q => n0 ≤ q)) (F0 m 20 ls [.int t0]) := by
  intro t0 H locs ls M hl hf
  unfold f_Script_placeOf_b20 at hf
  cases hf
  exact w_iret C M hr hlk rfl (Nat.le_refl _) (Nat.le_refl _) dScript_placeOf_20 rfl rfl
def f_Script_placeOf_b19 (E : hE) : Option (Int32) := (
  f_Script_placeOf_b20 E (-1))
set_option maxHeartbeats 4000000 in
set_option maxRecDepth 100000 in
theorem b_Script_placeOf_19 {p : Program} {l : Launch} {e : Env} {s : State} {m : MethodId} {args : Array Value} {below : List Frame} {meth : Method} {c : Code} {D : va_G} {kA : Nat → ClassId} {S : hE} {g : Nat → Nat} {n0 nx : Nat} {E : hE} {res : Int32} (C : hX p s m args c prog_7_method_3_code 2 R_Script ws_Script_placeOf D kA S g n0) (hr : meth.sig.returnType = (some .int)) (hlk : meth.locks = false) (hnm : meth.name = "placeOf") : ∀  (H : Heap) (locs : List Loc) (ls : Array Slot), hY D kA n0 s E nx H locs → lv_has ls 2 [] → f_Script_placeOf_b19 E   = some res → W p l e rm_Script_placeOf s m args below meth c H locs 0 0 (MQ below (va_Qi (fun r w => r = res ∧ w = (E, nx)) (hJ D kA S g n0) (fun q => n0 ≤ q)) args s 0 0 (fun q => n0 ≤ q)) (F0 m 19 ls []) := by
  intro  H locs ls M hl hf
  unfold f_Script_placeOf_b19 at hf
  refine lv_iconst (v := (-1)) C.x C.b dScript_placeOf_19 (by decide) ?_
  exact b_Script_placeOf_20 C hr hlk hnm _ _ _ _ M (lv_sub hl [] rfl) hf
def f_Script_placeOf (E : hE) (x0 : Nat) (x1 : Int32) : Option (Int32) := (
  if x1 < 0 then (
  f_Script_placeOf_b19 E 
  ) else (
  if 26 ≤ x1 then (
  f_Script_placeOf_b19 E 
  ) else (
  (gR E (some x0) 3 1).bind fun v11 =>
  (aI E v11 0 x1).bind fun v15 =>
  f_Script_placeOf_b20 E v15
  )
  ))
set_option maxHeartbeats 4000000 in
set_option maxRecDepth 100000 in
theorem c_Script_placeOf {l : Launch} {D : va_G} {kA : Nat → ClassId} {S : hE} {g : Nat → Nat} {n0 nx : Nat} {x0 : Nat} {x1 : Int32} {E : hE} {res : Int32} (hf : f_Script_placeOf E x0 x1 = some res) : Met l y_Script_placeOf ws_Script_placeOf rm_Script_placeOf (va_Pc [va_rf (some x0), .int x1] (hJ D kA S g n0 (E, nx))) (va_Qi (fun r w => r = res ∧ w = (E, nx)) (hJ D kA S g n0) (fun q => n0 ≤ q)) 0 0 (fun q => n0 ≤ q) := by
  refine h_met (cc := prog_7_method_3_code) (maxL := 2) (ret := (some .int)) (lvs := [(0, va_rf (some x0)), (1, .int x1)]) zZ_k (by decide) rfl (by simp [lg_sl, va_rf_cat, cat_i, cat_l, cat_n]) (by simp [lv_args, va_rf_cat, cat_i, cat_l, cat_n]) ?_
  intro p e s m below meth c ls C M hr hlk hnm hl
  unfold f_Script_placeOf at hf
  refine lv_iload_n C.x C.b dScript_placeOf_0 rfl (lv_at hl 1 rfl) ?_
  refine lv_if_lt (tgt := 19) C.x C.b dScript_placeOf_1 (by decide) (fun c1 => ?_) (fun c1 => ?_)
  · rw [if_pos c1] at hf
    exact b_Script_placeOf_19 C hr hlk hnm _ _ _ M (lv_sub hl [] rfl) hf
  · rw [if_neg c1] at hf
    refine lv_iload_n C.x C.b dScript_placeOf_4 rfl (lv_at hl 1 rfl) ?_
    refine lv_bipush (v := 26) C.x C.b dScript_placeOf_5 (by decide) ?_
    refine lv_icmp_ge (tgt := 19) C.x C.b dScript_placeOf_7 (by decide) (fun c7 => ?_) (fun c7 => ?_)
    · rw [if_pos c7] at hf
      exact b_Script_placeOf_19 C hr hlk hnm _ _ _ M (lv_sub hl [] rfl) hf
    · rw [if_neg c7] at hf
      refine w_aload_n C.x C.b dScript_placeOf_10 rfl (lv_at hl 0 rfl) ?_
      obtain ⟨v11, h11, hf⟩ := Option.bind_eq_some_iff.mp hf
      refine w_getR C M h11 rfl (hm_in in_Script) (by decide) (List.mem_cons_of_mem _ wm_253) rfl dScript_placeOf_11 ?_
      refine lv_iload_n C.x C.b dScript_placeOf_14 rfl (lv_at hl 1 rfl) ?_
      obtain ⟨v15, h15, hf⟩ := Option.bind_eq_some_iff.mp hf
      refine w_iald C M h15 rfl dScript_placeOf_15 ?_
      refine lv_goto (tgt := 20) C.x C.b dScript_placeOf_16 (by decide) ?_
      exact b_Script_placeOf_20 C hr hlk hnm _ _ _ _ M (lv_sub hl [] rfl) hf
theorem dAL_size_0 : decode prog_24_method_8_code 0 = .ok (.aload_n 0, 1) := by decide +kernel
theorem dAL_size_1 : decode prog_24_method_8_code 1 = .ok (.getfield 48, 3) := by decide +kernel
theorem dAL_size_4 : decode prog_24_method_8_code 4 = .ok (.ireturn, 1) := by decide +kernel
abbrev rm_AL_size : Room := { frames := 0, cells := 0, slots := 0, locals := 0 }
def f_AL_size (E : hE) (x0 : Nat) : Option (Int32) := (
  (gI E (some x0) 8 1).bind fun v1 =>
  some v1)
set_option maxHeartbeats 4000000 in
set_option maxRecDepth 100000 in
theorem c_AL_size {l : Launch} {D : va_G} {kA : Nat → ClassId} {S : hE} {g : Nat → Nat} {n0 nx : Nat} {x0 : Nat} {E : hE} {res : Int32} (hf : f_AL_size E x0 = some res) : Met l y_AL_size ws_AL_size rm_AL_size (va_Pc [va_rf (some x0)] (hJ D kA S g n0 (E, nx))) (va_Qi (fun r w => r = res ∧ w = (E, nx)) (hJ D kA S g n0) (fun q => n0 ≤ q)) 0 0 (fun q => n0 ≤ q) := by
  refine h_met (cc := prog_24_method_8_code) (maxL := 1) (ret := (some .int)) (lvs := [(0, va_rf (some x0))]) zZ_k (by decide) rfl (by simp [lg_sl, va_rf_cat, cat_i, cat_l, cat_n]) (by simp [lv_args, va_rf_cat, cat_i, cat_l, cat_n]) ?_
  intro p e s m below meth c ls C M hr hlk hnm hl
  unfold f_AL_size at hf
  refine w_aload_n C.x C.b dAL_size_0 rfl (lv_at hl 0 rfl) ?_
  obtain ⟨v1, h1, hf⟩ := Option.bind_eq_some_iff.mp hf
  refine w_getI C M h1 rfl (hm_in in_AL) (by decide) (List.mem_cons_of_mem _ wm_237) rfl dAL_size_1 ?_
  cases hf
  exact w_iret C M hr hlk rfl (Nat.le_refl _) (Nat.le_refl _) dAL_size_4 rfl rfl
theorem dScript_addLabel_0 : decode prog_7_method_4_code 0 = .ok (.iload_n 1, 1) := by decide +kernel
theorem dScript_addLabel_1 : decode prog_7_method_4_code 1 = .ok (.ifCond .lt 19, 3) := by decide +kernel
theorem dScript_addLabel_4 : decode prog_7_method_4_code 4 = .ok (.iload_n 1, 1) := by decide +kernel
theorem dScript_addLabel_5 : decode prog_7_method_4_code 5 = .ok (.bipush 26, 2) := by decide +kernel
theorem dScript_addLabel_7 : decode prog_7_method_4_code 7 = .ok (.if_icmp .ge 13, 3) := by decide +kernel
theorem dScript_addLabel_10 : decode prog_7_method_4_code 10 = .ok (.aload_n 0, 1) := by decide +kernel
theorem dScript_addLabel_11 : decode prog_7_method_4_code 11 = .ok (.getfield 18, 3) := by decide +kernel
theorem dScript_addLabel_14 : decode prog_7_method_4_code 14 = .ok (.iload_n 1, 1) := by decide +kernel
theorem dScript_addLabel_15 : decode prog_7_method_4_code 15 = .ok (.iaload, 1) := by decide +kernel
theorem dScript_addLabel_16 : decode prog_7_method_4_code 16 = .ok (.iconst (-1), 1) := by decide +kernel
theorem dScript_addLabel_17 : decode prog_7_method_4_code 17 = .ok (.if_icmp .eq 5, 3) := by decide +kernel
theorem dScript_addLabel_20 : decode prog_7_method_4_code 20 = .ok (.iconst 0, 1) := by decide +kernel
theorem dScript_addLabel_21 : decode prog_7_method_4_code 21 = .ok (.ireturn, 1) := by decide +kernel
theorem dScript_addLabel_22 : decode prog_7_method_4_code 22 = .ok (.aload_n 0, 1) := by decide +kernel
theorem dScript_addLabel_23 : decode prog_7_method_4_code 23 = .ok (.getfield 18, 3) := by decide +kernel
theorem dScript_addLabel_26 : decode prog_7_method_4_code 26 = .ok (.iload_n 1, 1) := by decide +kernel
theorem dScript_addLabel_27 : decode prog_7_method_4_code 27 = .ok (.aload_n 0, 1) := by decide +kernel
theorem dScript_addLabel_28 : decode prog_7_method_4_code 28 = .ok (.getfield 12, 3) := by decide +kernel
theorem dScript_addLabel_31 : decode prog_7_method_4_code 31 = .ok (.invokevirtual 28, 3) := by decide +kernel
theorem dScript_addLabel_34 : decode prog_7_method_4_code 34 = .ok (.iastore, 1) := by decide +kernel
theorem dScript_addLabel_35 : decode prog_7_method_4_code 35 = .ok (.iconst 1, 1) := by decide +kernel
theorem dScript_addLabel_36 : decode prog_7_method_4_code 36 = .ok (.ireturn, 1) := by decide +kernel
abbrev rm_Script_addLabel : Room := { frames := 1, cells := 0, slots := 0, locals := 20 }
def f_Script_addLabel_b20  (E : hE) : Option (Int32 × hE) := (
  some (0, E))
set_option maxHeartbeats 4000000 in
set_option maxRecDepth 100000 in
theorem b_Script_addLabel_20 {p : Program} {l : Launch} {e : Env} {s : State} {m : MethodId} {args : Array Value} {below : List Frame} {meth : Method} {c : Code} {D : va_G} {kA : Nat → ClassId} {S : hE} {g : Nat → Nat} {n0 nx : Nat} {res : Int32 × hE} (C : hX p s m args c prog_7_method_4_code 2 R_Script ws_Script_addLabel D kA S g n0) (hr : meth.sig.returnType = (some .boolean)) (hlk : meth.locks = false) (hnm : meth.name = "addLabel") : ∀  (E : hE) (H : Heap) (locs : List Loc) (ls : Array Slot), hY D kA n0 s E nx H locs → lv_has ls 2 [] → f_Script_addLabel_b20  E = some res → W p l e rm_Script_addLabel s m args below meth c H locs 0 0 (MQ below (va_Qi (fun r w => r = res.1 ∧ w = (res.2, nx)) (hJ D kA S g n0) (fun q => n0 ≤ q)) args s 0 0 (fun q => n0 ≤ q)) (F0 m 20 ls []) := by
  intro E H locs ls M hl hf
  unfold f_Script_addLabel_b20 at hf
  refine lv_iconst (v := 0) C.x C.b dScript_addLabel_20 (by decide) ?_
  cases hf
  exact w_iret C M hr hlk rfl (Nat.le_refl _) (Nat.le_refl _) dScript_addLabel_21 rfl rfl
def f_Script_addLabel  (x0 : Nat) (x1 : Int32) (E : hE) : Option (Int32 × hE) := (
  if x1 < 0 then (
  f_Script_addLabel_b20 E
  ) else (
  if 26 ≤ x1 then (
  f_Script_addLabel_b20 E
  ) else (
  (gR E (some x0) 3 1).bind fun v11 =>
  (aI E v11 0 x1).bind fun v15 =>
  if v15 = (-1) then (
  (gR E (some x0) 3 1).bind fun v23 =>
  (gR E (some x0) 3 0).bind fun v28 =>
  (gO E v28 8).bind fun o31 =>
  (f_AL_size E o31.1).bind fun v31 =>
  (tI E v23 0 x1 v31).bind fun E34 =>
  some (1, E34)
  ) else (
  f_Script_addLabel_b20 E
  )
  )
  ))
set_option maxHeartbeats 4000000 in
set_option maxRecDepth 100000 in
theorem c_Script_addLabel {l : Launch} {D : va_G} {kA : Nat → ClassId} {S : hE} {g : Nat → Nat} {n0 nx : Nat} {x0 : Nat} {x1 : Int32} {E : hE} {res : Int32 × hE} (hf : f_Script_addLabel x0 x1 E = some res) : Met l y_Script_addLabel ws_Script_addLabel rm_Script_addLabel (va_Pc [va_rf (some x0), .int x1] (hJ D kA S g n0 (E, nx))) (va_Qi (fun r w => r = res.1 ∧ w = (res.2, nx)) (hJ D kA S g n0) (fun q => n0 ≤ q)) 0 0 (fun q => n0 ≤ q) := by
  refine h_met (cc := prog_7_method_4_code) (maxL := 2) (ret := (some .boolean)) (lvs := [(0, va_rf (some x0)), (1, .int x1)]) zZ_k (by decide) rfl (by simp [lg_sl, va_rf_cat, cat_i, cat_l, cat_n]) (by simp [lv_args, va_rf_cat, cat_i, cat_l, cat_n]) ?_
  intro p e s m below meth c ls C M hr hlk hnm hl
  unfold f_Script_addLabel at hf
  refine lv_iload_n C.x C.b dScript_addLabel_0 rfl (lv_at hl 1 rfl) ?_
  refine lv_if_lt (tgt := 20) C.x C.b dScript_addLabel_1 (by decide) (fun c1 => ?_) (fun c1 => ?_)
  · rw [if_pos c1] at hf
    exact b_Script_addLabel_20 C hr hlk hnm _ _ _ _ M (lv_sub hl [] rfl) hf
  · rw [if_neg c1] at hf
    refine lv_iload_n C.x C.b dScript_addLabel_4 rfl (lv_at hl 1 rfl) ?_
    refine lv_bipush (v := 26) C.x C.b dScript_addLabel_5 (by decide) ?_
    refine lv_icmp_ge (tgt := 20) C.x C.b dScript_addLabel_7 (by decide) (fun c7 => ?_) (fun c7 => ?_)
    · rw [if_pos c7] at hf
      exact b_Script_addLabel_20 C hr hlk hnm _ _ _ _ M (lv_sub hl [] rfl) hf
    · rw [if_neg c7] at hf
      refine w_aload_n C.x C.b dScript_addLabel_10 rfl (lv_at hl 0 rfl) ?_
      obtain ⟨v11, h11, hf⟩ := Option.bind_eq_some_iff.mp hf
      refine w_getR C M h11 rfl (hm_in in_Script) (by decide) (List.mem_cons_of_mem _ wm_253) rfl dScript_addLabel_11 ?_
      refine lv_iload_n C.x C.b dScript_addLabel_14 rfl (lv_at hl 1 rfl) ?_
      obtain ⟨v15, h15, hf⟩ := Option.bind_eq_some_iff.mp hf
      refine w_iald C M h15 rfl dScript_addLabel_15 ?_
      refine lv_iconst (v := (-1)) C.x C.b dScript_addLabel_16 (by decide) ?_
      refine lv_icmp_eq (tgt := 22) C.x C.b dScript_addLabel_17 (by decide) (fun c17 => ?_) (fun c17 => ?_)
      · rw [if_pos c17] at hf
        refine w_aload_n C.x C.b dScript_addLabel_22 rfl (lv_at hl 0 rfl) ?_
        obtain ⟨v23, h23, hf⟩ := Option.bind_eq_some_iff.mp hf
        refine w_getR C M h23 rfl (hm_in in_Script) (by decide) (List.mem_cons_of_mem _ wm_253) rfl dScript_addLabel_23 ?_
        refine lv_iload_n C.x C.b dScript_addLabel_26 rfl (lv_at hl 1 rfl) ?_
        refine w_aload_n C.x C.b dScript_addLabel_27 rfl (lv_at hl 0 rfl) ?_
        obtain ⟨v28, h28, hf⟩ := Option.bind_eq_some_iff.mp hf
        refine w_getR C M h28 rfl (hm_in in_Script) (by decide) (List.mem_cons_of_mem _ wm_251) rfl dScript_addLabel_28 ?_
        obtain ⟨o31, g31, hf⟩ := Option.bind_eq_some_iff.mp hf
        obtain ⟨v31, h31, hf⟩ := Option.bind_eq_some_iff.mp hf
        refine w_ci M (w_runV C M g31 rfl (c_AL_size h31) (cwV 0 C.ts (hgV wm_294 wm_295 wm_296 wm_10 wm_297) rfl rfl rfl (by decide +kernel) ⟨Nat.le_of_ble_eq_true rfl, Nat.le_of_ble_eq_true rfl⟩) rfl hl.1 rfl (by simp [va_rf_cat, cat_i, cat_l, cat_n]) dScript_addLabel_31 ⟨Nat.le_refl _, Nat.le_refl _⟩) (fun H locs M => ?_)
        obtain ⟨E34, h34, hf⟩ := Option.bind_eq_some_iff.mp hf
        refine w_iast C M h34 rfl dScript_addLabel_34 (fun H locs M => ?_)
        refine lv_iconst (v := 1) C.x C.b dScript_addLabel_35 (by decide) ?_
        cases hf
        exact w_iret C M hr hlk rfl (Nat.le_refl _) (Nat.le_refl _) dScript_addLabel_36 rfl rfl
      · rw [if_neg c17] at hf
        exact b_Script_addLabel_20 C hr hlk hnm _ _ _ _ M (lv_sub hl [] rfl) hf
theorem dStat_init_0 : decode prog_8_method_1_code 0 = .ok (.aload_n 0, 1) := by decide +kernel
theorem dStat_init_1 : decode prog_8_method_1_code 1 = .ok (.invokespecial 1, 3) := by decide +kernel
theorem dStat_init_4 : decode prog_8_method_1_code 4 = .ok (.aload_n 0, 1) := by decide +kernel
theorem dStat_init_5 : decode prog_8_method_1_code 5 = .ok (.iload_n 1, 1) := by decide +kernel
theorem dStat_init_6 : decode prog_8_method_1_code 6 = .ok (.putfield 7, 3) := by decide +kernel
theorem dStat_init_9 : decode prog_8_method_1_code 9 = .ok (.aload_n 0, 1) := by decide +kernel
theorem dStat_init_10 : decode prog_8_method_1_code 10 = .ok (.aload_n 2, 1) := by decide +kernel
theorem dStat_init_11 : decode prog_8_method_1_code 11 = .ok (.putfield 13, 3) := by decide +kernel
theorem dStat_init_14 : decode prog_8_method_1_code 14 = .ok (.aload_n 0, 1) := by decide +kernel
theorem dStat_init_15 : decode prog_8_method_1_code 15 = .ok (.iload_n 3, 1) := by decide +kernel
theorem dStat_init_16 : decode prog_8_method_1_code 16 = .ok (.putfield 17, 3) := by decide +kernel
theorem dStat_init_19 : decode prog_8_method_1_code 19 = .ok (.aload_n 0, 1) := by decide +kernel
theorem dStat_init_20 : decode prog_8_method_1_code 20 = .ok (.iload 4, 2) := by decide +kernel
theorem dStat_init_22 : decode prog_8_method_1_code 22 = .ok (.putfield 20, 3) := by decide +kernel
theorem dStat_init_25 : decode prog_8_method_1_code 25 = .ok (.aload_n 0, 1) := by decide +kernel
theorem dStat_init_26 : decode prog_8_method_1_code 26 = .ok (.iload 5, 2) := by decide +kernel
theorem dStat_init_28 : decode prog_8_method_1_code 28 = .ok (.putfield 23, 3) := by decide +kernel
theorem dStat_init_31 : decode prog_8_method_1_code 31 = .ok (.aload_n 0, 1) := by decide +kernel
theorem dStat_init_32 : decode prog_8_method_1_code 32 = .ok (.iload 6, 2) := by decide +kernel
theorem dStat_init_34 : decode prog_8_method_1_code 34 = .ok (.putfield 26, 3) := by decide +kernel
theorem dStat_init_37 : decode prog_8_method_1_code 37 = .ok (.aload_n 0, 1) := by decide +kernel
theorem dStat_init_38 : decode prog_8_method_1_code 38 = .ok (.iload 7, 2) := by decide +kernel
theorem dStat_init_40 : decode prog_8_method_1_code 40 = .ok (.putfield 29, 3) := by decide +kernel
theorem dStat_init_43 : decode prog_8_method_1_code 43 = .ok (.return_, 1) := by decide +kernel
abbrev rm_Stat_init : Room := { frames := 1, cells := 0, slots := 0, locals := 20 }
def f_Stat_init  (x0 : Nat) (x1 : Int32) (x2 : Option Nat) (x3 : Int32) (x4 : Int32) (x5 : Int32) (x6 : Int32) (x7 : Int32) (E : hE) : Option (hE) := (
  (sI E (some x0) 4 0 x1).bind fun E6 =>
  (sR E6 (some x0) 4 1 x2).bind fun E11 =>
  (sI E11 (some x0) 4 2 x3).bind fun E16 =>
  (sI E16 (some x0) 4 3 x4).bind fun E22 =>
  (sI E22 (some x0) 4 4 x5).bind fun E28 =>
  (sI E28 (some x0) 4 5 x6).bind fun E34 =>
  (sI E34 (some x0) 4 6 x7).bind fun E40 =>
  some E40)
set_option maxHeartbeats 4000000 in
set_option maxRecDepth 100000 in
theorem c_Stat_init {l : Launch} {D : va_G} {kA : Nat → ClassId} {S : hE} {g : Nat → Nat} {n0 nx : Nat} {x0 : Nat} {x1 : Int32} {x2 : Option Nat} {x3 : Int32} {x4 : Int32} {x5 : Int32} {x6 : Int32} {x7 : Int32} {E : hE} {res : hE} (hf : f_Stat_init x0 x1 x2 x3 x4 x5 x6 x7 E = some res) : Met l y_Stat_init ws_Stat_init rm_Stat_init (va_Pc [va_rf (some x0), .int x1, va_rf x2, .int x3, .int x4, .int x5, .int x6, .int x7] (hJ D kA S g n0 (E, nx))) (va_Qv (fun w => w = (res, nx)) (hJ D kA S g n0) (fun q => n0 ≤ q)) 0 0 (fun q => n0 ≤ q) := by
  refine h_met (cc := prog_8_method_1_code) (maxL := 8) (ret := none) (lvs := [(0, va_rf (some x0)), (1, .int x1), (2, va_rf x2), (3, .int x3), (4, .int x4), (5, .int x5), (6, .int x6), (7, .int x7)]) zZ_k (by decide) rfl (by simp [lg_sl, va_rf_cat, cat_i, cat_l, cat_n]) (by simp [lv_args, va_rf_cat, cat_i, cat_l, cat_n]) ?_
  intro p e s m below meth c ls C M hr hlk hnm hl
  unfold f_Stat_init at hf
  refine w_aload_n C.x C.b dStat_init_0 rfl (lv_at hl 0 rfl) ?_
  refine W.objInit C.x C.b C.ow (C.ts (.methodLink R_Stat 1 objectInit) (List.mem_cons_of_mem _ wm_443)) (C.ts (.instanceMethod objectInit) (List.mem_cons_of_mem _ wm_29)) (C.ts _ (List.mem_cons_of_mem _ wm_30)) rfl (by rw [C.ml]; exact hl.1) rfl dStat_init_1 (Nat.le_of_ble_eq_true rfl) (Nat.le_of_ble_eq_true rfl) ?_
  refine W.eq (g2 := F0 m 4 ls []) rfl ?_
  refine w_aload_n C.x C.b dStat_init_4 rfl (lv_at hl 0 rfl) ?_
  refine lv_iload_n C.x C.b dStat_init_5 rfl (lv_at hl 1 rfl) ?_
  obtain ⟨E6, h6, hf⟩ := Option.bind_eq_some_iff.mp hf
  refine w_putVF (ty := .int) C M ty_Stat h6 rfl (hm_in in_Stat) tyok_Stat nm_Stat (by decide) (List.mem_cons_of_mem _ wm_444) rfl rfl hnm rfl (by decide +kernel) rfl rfl dStat_init_6 (fun H locs M => ?_)
  refine w_aload_n C.x C.b dStat_init_9 rfl (lv_at hl 0 rfl) ?_
  refine w_aload_n C.x C.b dStat_init_10 rfl (lv_at hl 2 rfl) ?_
  obtain ⟨E11, h11, hf⟩ := Option.bind_eq_some_iff.mp hf
  refine w_putVF (ty := .object "StepPrograms$Form") C M ty_Stat h11 rfl (hm_in in_Stat) tyok_Stat nm_Stat (by decide) (List.mem_cons_of_mem _ wm_447) rfl rfl hnm rfl (by decide +kernel) (narrow_o _ _) (fits_o _ _) dStat_init_11 (fun H locs M => ?_)
  refine w_aload_n C.x C.b dStat_init_14 rfl (lv_at hl 0 rfl) ?_
  refine lv_iload_n C.x C.b dStat_init_15 rfl (lv_at hl 3 rfl) ?_
  obtain ⟨E16, h16, hf⟩ := Option.bind_eq_some_iff.mp hf
  refine w_putVF (ty := .int) C M ty_Stat h16 rfl (hm_in in_Stat) tyok_Stat nm_Stat (by decide) (List.mem_cons_of_mem _ wm_449) rfl rfl hnm rfl (by decide +kernel) rfl rfl dStat_init_16 (fun H locs M => ?_)
  refine w_aload_n C.x C.b dStat_init_19 rfl (lv_at hl 0 rfl) ?_
  refine lv_iload C.x C.b dStat_init_20 (lv_at hl 4 rfl) ?_
  obtain ⟨E22, h22, hf⟩ := Option.bind_eq_some_iff.mp hf
  refine w_putVF (ty := .int) C M ty_Stat h22 rfl (hm_in in_Stat) tyok_Stat nm_Stat (by decide) (List.mem_cons_of_mem _ wm_451) rfl rfl hnm rfl (by decide +kernel) rfl rfl dStat_init_22 (fun H locs M => ?_)
  refine w_aload_n C.x C.b dStat_init_25 rfl (lv_at hl 0 rfl) ?_
  refine lv_iload C.x C.b dStat_init_26 (lv_at hl 5 rfl) ?_
  obtain ⟨E28, h28, hf⟩ := Option.bind_eq_some_iff.mp hf
  refine w_putVF (ty := .int) C M ty_Stat h28 rfl (hm_in in_Stat) tyok_Stat nm_Stat (by decide) (List.mem_cons_of_mem _ wm_453) rfl rfl hnm rfl (by decide +kernel) rfl rfl dStat_init_28 (fun H locs M => ?_)
  refine w_aload_n C.x C.b dStat_init_31 rfl (lv_at hl 0 rfl) ?_
  refine lv_iload C.x C.b dStat_init_32 (lv_at hl 6 rfl) ?_
  obtain ⟨E34, h34, hf⟩ := Option.bind_eq_some_iff.mp hf
  refine w_putVF (ty := .int) C M ty_Stat h34 rfl (hm_in in_Stat) tyok_Stat nm_Stat (by decide) (List.mem_cons_of_mem _ wm_455) rfl rfl hnm rfl (by decide +kernel) rfl rfl dStat_init_34 (fun H locs M => ?_)
  refine w_aload_n C.x C.b dStat_init_37 rfl (lv_at hl 0 rfl) ?_
  refine lv_iload C.x C.b dStat_init_38 (lv_at hl 7 rfl) ?_
  obtain ⟨E40, h40, hf⟩ := Option.bind_eq_some_iff.mp hf
  refine w_putVF (ty := .int) C M ty_Stat h40 rfl (hm_in in_Stat) tyok_Stat nm_Stat (by decide) (List.mem_cons_of_mem _ wm_457) rfl rfl hnm rfl (by decide +kernel) rfl rfl dStat_init_40 (fun H locs M => ?_)
  cases hf
  exact w_vret C M hr hlk (Nat.le_refl _) (Nat.le_refl _) dStat_init_43 rfl
theorem dTape_takeCharacter_0 : decode prog_9_method_3_code 0 = .ok (.iload_n 2, 1) := by decide +kernel
theorem dTape_takeCharacter_1 : decode prog_9_method_3_code 1 = .ok (.ifCond .eq 13, 3) := by decide +kernel
theorem dTape_takeCharacter_4 : decode prog_9_method_3_code 4 = .ok (.aload_n 0, 1) := by decide +kernel
theorem dTape_takeCharacter_5 : decode prog_9_method_3_code 5 = .ok (.dup, 1) := by decide +kernel
theorem dTape_takeCharacter_6 : decode prog_9_method_3_code 6 = .ok (.getfield 27, 3) := by decide +kernel
theorem dTape_takeCharacter_9 : decode prog_9_method_3_code 9 = .ok (.iconst 1, 1) := by decide +kernel
theorem dTape_takeCharacter_10 : decode prog_9_method_3_code 10 = .ok (.iadd, 1) := by decide +kernel
theorem dTape_takeCharacter_11 : decode prog_9_method_3_code 11 = .ok (.putfield 27, 3) := by decide +kernel
theorem dTape_takeCharacter_14 : decode prog_9_method_3_code 14 = .ok (.aload_n 0, 1) := by decide +kernel
theorem dTape_takeCharacter_15 : decode prog_9_method_3_code 15 = .ok (.getfield 27, 3) := by decide +kernel
theorem dTape_takeCharacter_18 : decode prog_9_method_3_code 18 = .ok (.iconst 1, 1) := by decide +kernel
theorem dTape_takeCharacter_19 : decode prog_9_method_3_code 19 = .ok (.isub, 1) := by decide +kernel
theorem dTape_takeCharacter_20 : decode prog_9_method_3_code 20 = .ok (.istore_n 3, 1) := by decide +kernel
theorem dTape_takeCharacter_21 : decode prog_9_method_3_code 21 = .ok (.iload_n 3, 1) := by decide +kernel
theorem dTape_takeCharacter_22 : decode prog_9_method_3_code 22 = .ok (.ifCond .lt 9, 3) := by decide +kernel
theorem dTape_takeCharacter_25 : decode prog_9_method_3_code 25 = .ok (.iload_n 3, 1) := by decide +kernel
theorem dTape_takeCharacter_26 : decode prog_9_method_3_code 26 = .ok (.bipush 6, 2) := by decide +kernel
theorem dTape_takeCharacter_28 : decode prog_9_method_3_code 28 = .ok (.if_icmp .lt 4, 3) := by decide +kernel
theorem dTape_takeCharacter_31 : decode prog_9_method_3_code 31 = .ok (.return_, 1) := by decide +kernel
theorem dTape_takeCharacter_32 : decode prog_9_method_3_code 32 = .ok (.iload_n 2, 1) := by decide +kernel
theorem dTape_takeCharacter_33 : decode prog_9_method_3_code 33 = .ok (.ifCond .eq 10, 3) := by decide +kernel
theorem dTape_takeCharacter_36 : decode prog_9_method_3_code 36 = .ok (.aload_n 0, 1) := by decide +kernel
theorem dTape_takeCharacter_37 : decode prog_9_method_3_code 37 = .ok (.getfield 20, 3) := by decide +kernel
theorem dTape_takeCharacter_40 : decode prog_9_method_3_code 40 = .ok (.iload_n 3, 1) := by decide +kernel
theorem dTape_takeCharacter_41 : decode prog_9_method_3_code 41 = .ok (.iload_n 1, 1) := by decide +kernel
theorem dTape_takeCharacter_42 : decode prog_9_method_3_code 42 = .ok (.iastore, 1) := by decide +kernel
theorem dTape_takeCharacter_43 : decode prog_9_method_3_code 43 = .ok (.aload_n 0, 1) := by decide +kernel
theorem dTape_takeCharacter_44 : decode prog_9_method_3_code 44 = .ok (.getfield 24, 3) := by decide +kernel
theorem dTape_takeCharacter_47 : decode prog_9_method_3_code 47 = .ok (.iload_n 3, 1) := by decide +kernel
theorem dTape_takeCharacter_48 : decode prog_9_method_3_code 48 = .ok (.iload_n 1, 1) := by decide +kernel
theorem dTape_takeCharacter_49 : decode prog_9_method_3_code 49 = .ok (.iconst 1, 1) := by decide +kernel
theorem dTape_takeCharacter_50 : decode prog_9_method_3_code 50 = .ok (.iadd, 1) := by decide +kernel
theorem dTape_takeCharacter_51 : decode prog_9_method_3_code 51 = .ok (.iastore, 1) := by decide +kernel
theorem dTape_takeCharacter_52 : decode prog_9_method_3_code 52 = .ok (.return_, 1) := by decide +kernel
abbrev rm_Tape_takeCharacter : Room := { frames := 0, cells := 0, slots := 0, locals := 0 }
def f_Tape_takeCharacter_b43  (y0 : Option Nat) (y1 : Int32) (y3 : Int32) (E : hE) : Option (hE) := (
  (gR E y0 5 2).bind fun v44 =>
  (tI E v44 0 y3 (y1 + 1)).bind fun E51 =>
  some E51)
set_option maxHeartbeats 4000000 in
set_option maxRecDepth 100000 in
theorem b_Tape_takeCharacter_43 {p : Program} {l : Launch} {e : Env} {s : State} {m : MethodId} {args : Array Value} {below : List Frame} {meth : Method} {c : Code} {D : va_G} {kA : Nat → ClassId} {S : hE} {g : Nat → Nat} {n0 nx : Nat} {res : hE} (C : hX p s m args c prog_9_method_3_code 4 R_Tape ws_Tape_takeCharacter D kA S g n0) (hr : meth.sig.returnType = none) (hlk : meth.locks = false) (hnm : meth.name = "takeCharacter") : ∀ (y0 : Option Nat) (y1 : Int32) (y3 : Int32) (E : hE) (H : Heap) (locs : List Loc) (ls : Array Slot), hY D kA n0 s E nx H locs → lv_has ls 4 [(0, va_rf y0), (1, .int y1), (3, .int y3)] → f_Tape_takeCharacter_b43  y0 y1 y3 E = some res → W p l e rm_Tape_takeCharacter s m args below meth c H locs 0 0 (MQ below (va_Qv (fun w => w = (res, nx)) (hJ D kA S g n0) (fun q => n0 ≤ q)) args s 0 0 (fun q => n0 ≤ q)) (F0 m 43 ls []) := by
  intro y0 y1 y3 E H locs ls M hl hf
  unfold f_Tape_takeCharacter_b43 at hf
  refine w_aload_n C.x C.b dTape_takeCharacter_43 rfl (lv_at hl 0 rfl) ?_
  obtain ⟨v44, h44, hf⟩ := Option.bind_eq_some_iff.mp hf
  refine w_getR C M h44 rfl (hm_in in_Tape) (by decide) (List.mem_cons_of_mem _ wm_61) rfl dTape_takeCharacter_44 ?_
  refine lv_iload_n C.x C.b dTape_takeCharacter_47 rfl (lv_at hl 2 rfl) ?_
  refine lv_iload_n C.x C.b dTape_takeCharacter_48 rfl (lv_at hl 1 rfl) ?_
  refine lv_iconst (v := 1) C.x C.b dTape_takeCharacter_49 (by decide) ?_
  refine lv_iadd C.x C.b dTape_takeCharacter_50 ?_
  obtain ⟨E51, h51, hf⟩ := Option.bind_eq_some_iff.mp hf
  refine w_iast C M h51 rfl dTape_takeCharacter_51 (fun H locs M => ?_)
  cases hf
  exact w_vret C M hr hlk (Nat.le_refl _) (Nat.le_refl _) dTape_takeCharacter_52 rfl
def f_Tape_takeCharacter_b31  (E : hE) : Option (hE) := (
  some E)
set_option maxHeartbeats 4000000 in
set_option maxRecDepth 100000 in
theorem b_Tape_takeCharacter_31 {p : Program} {l : Launch} {e : Env} {s : State} {m : MethodId} {args : Array Value} {below : List Frame} {meth : Method} {c : Code} {D : va_G} {kA : Nat → ClassId} {S : hE} {g : Nat → Nat} {n0 nx : Nat} {res : hE} (C : hX p s m args c prog_9_method_3_code 4 R_Tape ws_Tape_takeCharacter D kA S g n0) (hr : meth.sig.returnType = none) (hlk : meth.locks = false) (hnm : meth.name = "takeCharacter") : ∀  (E : hE) (H : Heap) (locs : List Loc) (ls : Array Slot), hY D kA n0 s E nx H locs → lv_has ls 4 [] → f_Tape_takeCharacter_b31  E = some res → W p l e rm_Tape_takeCharacter s m args below meth c H locs 0 0 (MQ below (va_Qv (fun w => w = (res, nx)) (hJ D kA S g n0) (fun q => n0 ≤ q)) args s 0 0 (fun q => n0 ≤ q)) (F0 m 31 ls []) := by
  intro E H locs ls M hl hf
  unfold f_Tape_takeCharacter_b31 at hf
  cases hf
  exact w_vret C M hr hlk (Nat.le_refl _) (Nat.le_refl _) dTape_takeCharacter_31 rfl
def f_Tape_takeCharacter_b14  (y0 : Option Nat) (y1 : Int32) (y2 : Int32) (E : hE) : Option (hE) := (
  (gI E y0 5 3).bind fun v15 =>
  if (v15 - 1) < 0 then (
  f_Tape_takeCharacter_b31 E
  ) else (
  if (v15 - 1) < 6 then (
  if y2 = 0 then (
  f_Tape_takeCharacter_b43 y0 y1 (v15 - 1) E
  ) else (
  (gR E y0 5 1).bind fun v37 =>
  (tI E v37 0 (v15 - 1) y1).bind fun E42 =>
  f_Tape_takeCharacter_b43 y0 y1 (v15 - 1) E42
  )
  ) else (
  f_Tape_takeCharacter_b31 E
  )
  ))
set_option maxHeartbeats 4000000 in
set_option maxRecDepth 100000 in
theorem b_Tape_takeCharacter_14 {p : Program} {l : Launch} {e : Env} {s : State} {m : MethodId} {args : Array Value} {below : List Frame} {meth : Method} {c : Code} {D : va_G} {kA : Nat → ClassId} {S : hE} {g : Nat → Nat} {n0 nx : Nat} {res : hE} (C : hX p s m args c prog_9_method_3_code 4 R_Tape ws_Tape_takeCharacter D kA S g n0) (hr : meth.sig.returnType = none) (hlk : meth.locks = false) (hnm : meth.name = "takeCharacter") : ∀ (y0 : Option Nat) (y1 : Int32) (y2 : Int32) (E : hE) (H : Heap) (locs : List Loc) (ls : Array Slot), hY D kA n0 s E nx H locs → lv_has ls 4 [(0, va_rf y0), (1, .int y1), (2, .int y2)] → f_Tape_takeCharacter_b14  y0 y1 y2 E = some res → W p l e rm_Tape_takeCharacter s m args below meth c H locs 0 0 (MQ below (va_Qv (fun w => w = (res, nx)) (hJ D kA S g n0) (fun q => n0 ≤ q)) args s 0 0 (fun q => n0 ≤ q)) (F0 m 14 ls []) := by
  intro y0 y1 y2 E H locs ls M hl hf
  unfold f_Tape_takeCharacter_b14 at hf
  refine w_aload_n C.x C.b dTape_takeCharacter_14 rfl (lv_at hl 0 rfl) ?_
  obtain ⟨v15, h15, hf⟩ := Option.bind_eq_some_iff.mp hf
  refine w_getI C M h15 rfl (hm_in in_Tape) (by decide) (List.mem_cons_of_mem _ wm_62) rfl dTape_takeCharacter_15 ?_
  refine lv_iconst (v := 1) C.x C.b dTape_takeCharacter_18 (by decide) ?_
  refine lv_isub C.x C.b dTape_takeCharacter_19 ?_
  refine lv_istore_n (lv' := [(3, .int (v15 - 1)), (0, va_rf y0), (1, .int y1), (2, .int y2)]) C.x C.b dTape_takeCharacter_20 rfl hl (by decide) rfl (fun ls hl => ?_)
  refine lv_iload_n C.x C.b dTape_takeCharacter_21 rfl (lv_at hl 0 rfl) ?_
  refine lv_if_lt (tgt := 31) C.x C.b dTape_takeCharacter_22 (by decide) (fun c22 => ?_) (fun c22 => ?_)
  · rw [if_pos c22] at hf
    exact b_Tape_takeCharacter_31 C hr hlk hnm _ _ _ _ M (lv_sub hl [] rfl) hf
  · rw [if_neg c22] at hf
    refine lv_iload_n C.x C.b dTape_takeCharacter_25 rfl (lv_at hl 0 rfl) ?_
    refine lv_bipush (v := 6) C.x C.b dTape_takeCharacter_26 (by decide) ?_
    refine lv_icmp_lt (tgt := 32) C.x C.b dTape_takeCharacter_28 (by decide) (fun c28 => ?_) (fun c28 => ?_)
    · rw [if_pos c28] at hf
      refine lv_iload_n C.x C.b dTape_takeCharacter_32 rfl (lv_at hl 3 rfl) ?_
      refine lv_if_eq (tgt := 43) C.x C.b dTape_takeCharacter_33 (by decide) (fun c33 => ?_) (fun c33 => ?_)
      · rw [if_pos c33] at hf
        exact b_Tape_takeCharacter_43 C hr hlk hnm _ _ _ _ _ _ _ M (lv_sub hl [1, 2, 0] rfl) hf
      · rw [if_neg c33] at hf
        refine w_aload_n C.x C.b dTape_takeCharacter_36 rfl (lv_at hl 1 rfl) ?_
        obtain ⟨v37, h37, hf⟩ := Option.bind_eq_some_iff.mp hf
        refine w_getR C M h37 rfl (hm_in in_Tape) (by decide) (List.mem_cons_of_mem _ wm_60) rfl dTape_takeCharacter_37 ?_
        refine lv_iload_n C.x C.b dTape_takeCharacter_40 rfl (lv_at hl 0 rfl) ?_
        refine lv_iload_n C.x C.b dTape_takeCharacter_41 rfl (lv_at hl 2 rfl) ?_
        obtain ⟨E42, h42, hf⟩ := Option.bind_eq_some_iff.mp hf
        refine w_iast C M h42 rfl dTape_takeCharacter_42 (fun H locs M => ?_)
        exact b_Tape_takeCharacter_43 C hr hlk hnm _ _ _ _ _ _ _ M (lv_sub hl [1, 2, 0] rfl) hf
    · rw [if_neg c28] at hf
      exact b_Tape_takeCharacter_31 C hr hlk hnm _ _ _ _ M (lv_sub hl [] rfl) hf
def f_Tape_takeCharacter  (x0 : Nat) (x1 : Int32) (x2 : Int32) (E : hE) : Option (hE) := (
  if x2 = 0 then (
  f_Tape_takeCharacter_b14 (some x0) x1 x2 E
  ) else (
  (gI E (some x0) 5 3).bind fun v6 =>
  (sI E (some x0) 5 3 (v6 + 1)).bind fun E11 =>
  f_Tape_takeCharacter_b14 (some x0) x1 x2 E11
  ))
set_option maxHeartbeats 4000000 in
set_option maxRecDepth 100000 in
theorem c_Tape_takeCharacter {l : Launch} {D : va_G} {kA : Nat → ClassId} {S : hE} {g : Nat → Nat} {n0 nx : Nat} {x0 : Nat} {x1 : Int32} {x2 : Int32} {E : hE} {res : hE} (hf : f_Tape_takeCharacter x0 x1 x2 E = some res) : Met l y_Tape_takeCharacter ws_Tape_takeCharacter rm_Tape_takeCharacter (va_Pc [va_rf (some x0), .int x1, .int x2] (hJ D kA S g n0 (E, nx))) (va_Qv (fun w => w = (res, nx)) (hJ D kA S g n0) (fun q => n0 ≤ q)) 0 0 (fun q => n0 ≤ q) := by
  refine h_met (cc := prog_9_method_3_code) (maxL := 4) (ret := none) (lvs := [(0, va_rf (some x0)), (1, .int x1), (2, .int x2)]) zZ_k (by decide) rfl (by simp [lg_sl, va_rf_cat, cat_i, cat_l, cat_n]) (by simp [lv_args, va_rf_cat, cat_i, cat_l, cat_n]) ?_
  intro p e s m below meth c ls C M hr hlk hnm hl
  unfold f_Tape_takeCharacter at hf
  refine lv_iload_n C.x C.b dTape_takeCharacter_0 rfl (lv_at hl 2 rfl) ?_
  refine lv_if_eq (tgt := 14) C.x C.b dTape_takeCharacter_1 (by decide) (fun c1 => ?_) (fun c1 => ?_)
  · rw [if_pos c1] at hf
    exact b_Tape_takeCharacter_14 C hr hlk hnm _ _ _ _ _ _ _ M (lv_sub hl [0, 1, 2] rfl) hf
  · rw [if_neg c1] at hf
    refine w_aload_n C.x C.b dTape_takeCharacter_4 rfl (lv_at hl 0 rfl) ?_
    refine lv_dup C.x C.b dTape_takeCharacter_5 (va_rf_cat _) ?_
    obtain ⟨v6, h6, hf⟩ := Option.bind_eq_some_iff.mp hf
    refine w_getI C M h6 rfl (hm_in in_Tape) (by decide) (List.mem_cons_of_mem _ wm_62) rfl dTape_takeCharacter_6 ?_
    refine lv_iconst (v := 1) C.x C.b dTape_takeCharacter_9 (by decide) ?_
    refine lv_iadd C.x C.b dTape_takeCharacter_10 ?_
    obtain ⟨E11, h11, hf⟩ := Option.bind_eq_some_iff.mp hf
    refine w_putV (ty := .int) C M ty_Tape h11 rfl (hm_in in_Tape) tyok_Tape nm_Tape (by decide) (List.mem_cons_of_mem _ wm_62) rfl rfl (by decide +kernel) rfl rfl dTape_takeCharacter_11 (fun H locs M => ?_)
    exact b_Tape_takeCharacter_14 C hr hlk hnm _ _ _ _ _ _ _ M (lv_sub hl [0, 1, 2] rfl) hf
theorem dTape_lengthOf_0 : decode prog_9_method_7_code 0 = .ok (.iload_n 1, 1) := by decide +kernel
theorem dTape_lengthOf_1 : decode prog_9_method_7_code 1 = .ok (.ifCond .lt 21, 3) := by decide +kernel
theorem dTape_lengthOf_4 : decode prog_9_method_7_code 4 = .ok (.iload_n 1, 1) := by decide +kernel
theorem dTape_lengthOf_5 : decode prog_9_method_7_code 5 = .ok (.aload_n 0, 1) := by decide +kernel
theorem dTape_lengthOf_6 : decode prog_9_method_7_code 6 = .ok (.getfield 27, 3) := by decide +kernel
theorem dTape_lengthOf_9 : decode prog_9_method_7_code 9 = .ok (.if_icmp .ge 13, 3) := by decide +kernel
theorem dTape_lengthOf_12 : decode prog_9_method_7_code 12 = .ok (.iload_n 1, 1) := by decide +kernel
theorem dTape_lengthOf_13 : decode prog_9_method_7_code 13 = .ok (.bipush 6, 2) := by decide +kernel
theorem dTape_lengthOf_15 : decode prog_9_method_7_code 15 = .ok (.if_icmp .ge 7, 3) := by decide +kernel
theorem dTape_lengthOf_18 : decode prog_9_method_7_code 18 = .ok (.iconst 1, 1) := by decide +kernel
theorem dTape_lengthOf_19 : decode prog_9_method_7_code 19 = .ok (.goto 4, 3) := by decide +kernel
theorem dTape_lengthOf_22 : decode prog_9_method_7_code 22 = .ok (.iconst 0, 1) := by decide +kernel
theorem dTape_lengthOf_23 : decode prog_9_method_7_code 23 = .ok (.istore_n 2, 1) := by decide +kernel
theorem dTape_lengthOf_24 : decode prog_9_method_7_code 24 = .ok (.iload_n 2, 1) := by decide +kernel
theorem dTape_lengthOf_25 : decode prog_9_method_7_code 25 = .ok (.ifCond .eq 19, 3) := by decide +kernel
theorem dTape_lengthOf_28 : decode prog_9_method_7_code 28 = .ok (.aload_n 0, 1) := by decide +kernel
theorem dTape_lengthOf_29 : decode prog_9_method_7_code 29 = .ok (.getfield 24, 3) := by decide +kernel
theorem dTape_lengthOf_32 : decode prog_9_method_7_code 32 = .ok (.iload_n 1, 1) := by decide +kernel
theorem dTape_lengthOf_33 : decode prog_9_method_7_code 33 = .ok (.iaload, 1) := by decide +kernel
theorem dTape_lengthOf_34 : decode prog_9_method_7_code 34 = .ok (.aload_n 0, 1) := by decide +kernel
theorem dTape_lengthOf_35 : decode prog_9_method_7_code 35 = .ok (.getfield 20, 3) := by decide +kernel
theorem dTape_lengthOf_38 : decode prog_9_method_7_code 38 = .ok (.iload_n 1, 1) := by decide +kernel
theorem dTape_lengthOf_39 : decode prog_9_method_7_code 39 = .ok (.iaload, 1) := by decide +kernel
theorem dTape_lengthOf_40 : decode prog_9_method_7_code 40 = .ok (.isub, 1) := by decide +kernel
theorem dTape_lengthOf_41 : decode prog_9_method_7_code 41 = .ok (.goto 4, 3) := by decide +kernel
theorem dTape_lengthOf_44 : decode prog_9_method_7_code 44 = .ok (.iconst 0, 1) := by decide +kernel
theorem dTape_lengthOf_45 : decode prog_9_method_7_code 45 = .ok (.ireturn, 1) := by decide +kernel
abbrev rm_Tape_lengthOf : Room := { frames := 0, cells := 0, slots := 0, locals := 0 }
def f_Tape_lengthOf_b45 (E : hE) (t0 : Int32) : Option (Int32) := (
  some t0)
set_option maxHeartbeats 4000000 in
set_option maxRecDepth 100000 in
theorem b_Tape_lengthOf_45 {p : Program} {l : Launch} {e : Env} {s : State} {m : MethodId} {args : Array Value} {below : List Frame} {meth : Method} {c : Code} {D : va_G} {kA : Nat → ClassId} {S : hE} {g : Nat → Nat} {n0 nx : Nat} {E : hE} {res : Int32} (C : hX p s m args c prog_9_method_7_code 3 R_Tape ws_Tape_lengthOf D kA S g n0) (hr : meth.sig.returnType = (some .int)) (hlk : meth.locks = false) (hnm : meth.name = "lengthOf") : ∀ (t0 : Int32) (H : Heap) (locs : List Loc) (ls : Array Slot), hY D kA n0 s E nx H locs → lv_has ls 3 [] → f_Tape_lengthOf_b45 E  t0 = some res → W p l e rm_Tape_lengthOf s m args below meth c H locs 0 0 (MQ below (va_Qi (fun r w => r = res ∧ w = (E, nx)) (hJ D kA S g n0) (fun q => n0 ≤ q)) args s 0 0 (fun q => n0 ≤ q)) (F0 m 45 ls [.int t0]) := by
  intro t0 H locs ls M hl hf
  unfold f_Tape_lengthOf_b45 at hf
  cases hf
  exact w_iret C M hr hlk rfl (Nat.le_refl _) (Nat.le_refl _) dTape_lengthOf_45 rfl rfl
def f_Tape_lengthOf_b23 (E : hE) (y0 : Option Nat) (y1 : Int32) (t0 : Int32) : Option (Int32) := (
  if t0 = 0 then (
  f_Tape_lengthOf_b45 E 0
  ) else (
  (gR E y0 5 2).bind fun v29 =>
  (aI E v29 0 y1).bind fun v33 =>
  (gR E y0 5 1).bind fun v35 =>
  (aI E v35 0 y1).bind fun v39 =>
  f_Tape_lengthOf_b45 E (v33 - v39)
  ))
set_option maxHeartbeats 4000000 in
set_option maxRecDepth 100000 in
theorem b_Tape_lengthOf_23 {p : Program} {l : Launch} {e : Env} {s : State} {m : MethodId} {args : Array Value} {below : List Frame} {meth : Method} {c : Code} {D : va_G} {kA : Nat → ClassId} {S : hE} {g : Nat → Nat} {n0 nx : Nat} {E : hE} {res : Int32} (C : hX p s m args c prog_9_method_7_code 3 R_Tape ws_Tape_lengthOf D kA S g n0) (hr : meth.sig.returnType = (some .int)) (hlk : meth.locks = false) (hnm : meth.name = "lengthOf") : ∀ (y0 : Option Nat) (y1 : Int32) (t0 : Int32) (H : Heap) (locs : List Loc) (ls : Array Slot), hY D kA n0 s E nx H locs → lv_has ls 3 [(0, va_rf y0), (1, .int y1)] → f_Tape_lengthOf_b23 E  y0 y1 t0 = some res → W p l e rm_Tape_lengthOf s m args below meth c H locs 0 0 (MQ below (va_Qi (fun r w => r = res ∧ w = (E, nx)) (hJ D kA S g n0) (fun q => n0 ≤ q)) args s 0 0 (fun q => n0 ≤ q)) (F0 m 23 ls [.int t0]) := by
  intro y0 y1 t0 H locs ls M hl hf
  unfold f_Tape_lengthOf_b23 at hf
  refine lv_istore_n (lv' := [(2, .int t0), (0, va_rf y0), (1, .int y1)]) C.x C.b dTape_lengthOf_23 rfl hl (by decide) rfl (fun ls hl => ?_)
  refine lv_iload_n C.x C.b dTape_lengthOf_24 rfl (lv_at hl 0 rfl) ?_
  refine lv_if_eq (tgt := 44) C.x C.b dTape_lengthOf_25 (by decide) (fun c25 => ?_) (fun c25 => ?_)
  · rw [if_pos c25] at hf
    refine lv_iconst (v := 0) C.x C.b dTape_lengthOf_44 (by decide) ?_
    exact b_Tape_lengthOf_45 C hr hlk hnm _ _ _ _ M (lv_sub hl [] rfl) hf
  · rw [if_neg c25] at hf
    refine w_aload_n C.x C.b dTape_lengthOf_28 rfl (lv_at hl 1 rfl) ?_
    obtain ⟨v29, h29, hf⟩ := Option.bind_eq_some_iff.mp hf
    refine w_getR C M h29 rfl (hm_in in_Tape) (by decide) (List.mem_cons_of_mem _ wm_61) rfl dTape_lengthOf_29 ?_
    refine lv_iload_n C.x C.b dTape_lengthOf_32 rfl (lv_at hl 2 rfl) ?_
    obtain ⟨v33, h33, hf⟩ := Option.bind_eq_some_iff.mp hf
    refine w_iald C M h33 rfl dTape_lengthOf_33 ?_
    refine w_aload_n C.x C.b dTape_lengthOf_34 rfl (lv_at hl 1 rfl) ?_
    obtain ⟨v35, h35, hf⟩ := Option.bind_eq_some_iff.mp hf
    refine w_getR C M h35 rfl (hm_in in_Tape) (by decide) (List.mem_cons_of_mem _ wm_60) rfl dTape_lengthOf_35 ?_
    refine lv_iload_n C.x C.b dTape_lengthOf_38 rfl (lv_at hl 2 rfl) ?_
    obtain ⟨v39, h39, hf⟩ := Option.bind_eq_some_iff.mp hf
    refine w_iald C M h39 rfl dTape_lengthOf_39 ?_
    refine lv_isub C.x C.b dTape_lengthOf_40 ?_
    refine lv_goto (tgt := 45) C.x C.b dTape_lengthOf_41 (by decide) ?_
    exact b_Tape_lengthOf_45 C hr hlk hnm _ _ _ _ M (lv_sub hl [] rfl) hf
def f_Tape_lengthOf_b22 (E : hE) (y0 : Option Nat) (y1 : Int32) : Option (Int32) := (
  f_Tape_lengthOf_b23 E y0 y1 0)
set_option maxHeartbeats 4000000 in
set_option maxRecDepth 100000 in
theorem b_Tape_lengthOf_22 {p : Program} {l : Launch} {e : Env} {s : State} {m : MethodId} {args : Array Value} {below : List Frame} {meth : Method} {c : Code} {D : va_G} {kA : Nat → ClassId} {S : hE} {g : Nat → Nat} {n0 nx : Nat} {E : hE} {res : Int32} (C : hX p s m args c prog_9_method_7_code 3 R_Tape ws_Tape_lengthOf D kA S g n0) (hr : meth.sig.returnType = (some .int)) (hlk : meth.locks = false) (hnm : meth.name = "lengthOf") : ∀ (y0 : Option Nat) (y1 : Int32) (H : Heap) (locs : List Loc) (ls : Array Slot), hY D kA n0 s E nx H locs → lv_has ls 3 [(0, va_rf y0), (1, .int y1)] → f_Tape_lengthOf_b22 E  y0 y1 = some res → W p l e rm_Tape_lengthOf s m args below meth c H locs 0 0 (MQ below (va_Qi (fun r w => r = res ∧ w = (E, nx)) (hJ D kA S g n0) (fun q => n0 ≤ q)) args s 0 0 (fun q => n0 ≤ q)) (F0 m 22 ls []) := by
  intro y0 y1 H locs ls M hl hf
  unfold f_Tape_lengthOf_b22 at hf
  refine lv_iconst (v := 0) C.x C.b dTape_lengthOf_22 (by decide) ?_
  exact b_Tape_lengthOf_23 C hr hlk hnm _ _ _ _ _ _ M (lv_sub hl [0, 1] rfl) hf
def f_Tape_lengthOf (E : hE) (x0 : Nat) (x1 : Int32) : Option (Int32) := (
  if x1 < 0 then (
  f_Tape_lengthOf_b22 E (some x0) x1
  ) else (
  (gI E (some x0) 5 3).bind fun v6 =>
  if v6 ≤ x1 then (
  f_Tape_lengthOf_b22 E (some x0) x1
  ) else (
  if 6 ≤ x1 then (
  f_Tape_lengthOf_b22 E (some x0) x1
  ) else (
  f_Tape_lengthOf_b23 E (some x0) x1 1
  )
  )
  ))
set_option maxHeartbeats 4000000 in
set_option maxRecDepth 100000 in
theorem c_Tape_lengthOf {l : Launch} {D : va_G} {kA : Nat → ClassId} {S : hE} {g : Nat → Nat} {n0 nx : Nat} {x0 : Nat} {x1 : Int32} {E : hE} {res : Int32} (hf : f_Tape_lengthOf E x0 x1 = some res) : Met l y_Tape_lengthOf ws_Tape_lengthOf rm_Tape_lengthOf (va_Pc [va_rf (some x0), .int x1] (hJ D kA S g n0 (E, nx))) (va_Qi (fun r w => r = res ∧ w = (E, nx)) (hJ D kA S g n0) (fun q => n0 ≤ q)) 0 0 (fun q => n0 ≤ q) := by
  refine h_met (cc := prog_9_method_7_code) (maxL := 3) (ret := (some .int)) (lvs := [(0, va_rf (some x0)), (1, .int x1)]) zZ_k (by decide) rfl (by simp [lg_sl, va_rf_cat, cat_i, cat_l, cat_n]) (by simp [lv_args, va_rf_cat, cat_i, cat_l, cat_n]) ?_
  intro p e s m below meth c ls C M hr hlk hnm hl
  unfold f_Tape_lengthOf at hf
  refine lv_iload_n C.x C.b dTape_lengthOf_0 rfl (lv_at hl 1 rfl) ?_
  refine lv_if_lt (tgt := 22) C.x C.b dTape_lengthOf_1 (by decide) (fun c1 => ?_) (fun c1 => ?_)
  · rw [if_pos c1] at hf
    exact b_Tape_lengthOf_22 C hr hlk hnm _ _ _ _ _ M (lv_sub hl [0, 1] rfl) hf
  · rw [if_neg c1] at hf
    refine lv_iload_n C.x C.b dTape_lengthOf_4 rfl (lv_at hl 1 rfl) ?_
    refine w_aload_n C.x C.b dTape_lengthOf_5 rfl (lv_at hl 0 rfl) ?_
    obtain ⟨v6, h6, hf⟩ := Option.bind_eq_some_iff.mp hf
    refine w_getI C M h6 rfl (hm_in in_Tape) (by decide) (List.mem_cons_of_mem _ wm_62) rfl dTape_lengthOf_6 ?_
    refine lv_icmp_ge (tgt := 22) C.x C.b dTape_lengthOf_9 (by decide) (fun c9 => ?_) (fun c9 => ?_)
    · rw [if_pos c9] at hf
      exact b_Tape_lengthOf_22 C hr hlk hnm _ _ _ _ _ M (lv_sub hl [0, 1] rfl) hf
    · rw [if_neg c9] at hf
      refine lv_iload_n C.x C.b dTape_lengthOf_12 rfl (lv_at hl 1 rfl) ?_
      refine lv_bipush (v := 6) C.x C.b dTape_lengthOf_13 (by decide) ?_
      refine lv_icmp_ge (tgt := 22) C.x C.b dTape_lengthOf_15 (by decide) (fun c15 => ?_) (fun c15 => ?_)
      · rw [if_pos c15] at hf
        exact b_Tape_lengthOf_22 C hr hlk hnm _ _ _ _ _ M (lv_sub hl [0, 1] rfl) hf
      · rw [if_neg c15] at hf
        refine lv_iconst (v := 1) C.x C.b dTape_lengthOf_18 (by decide) ?_
        refine lv_goto (tgt := 23) C.x C.b dTape_lengthOf_19 (by decide) ?_
        exact b_Tape_lengthOf_23 C hr hlk hnm _ _ _ _ _ _ M (lv_sub hl [0, 1] rfl) hf
theorem dTape_letterAt_0 : decode prog_9_method_8_code 0 = .ok (.iload_n 1, 1) := by decide +kernel
theorem dTape_letterAt_1 : decode prog_9_method_8_code 1 = .ok (.ifCond .lt 17, 3) := by decide +kernel
theorem dTape_letterAt_4 : decode prog_9_method_8_code 4 = .ok (.iload_n 1, 1) := by decide +kernel
theorem dTape_letterAt_5 : decode prog_9_method_8_code 5 = .ok (.aload_n 0, 1) := by decide +kernel
theorem dTape_letterAt_6 : decode prog_9_method_8_code 6 = .ok (.getfield 27, 3) := by decide +kernel
theorem dTape_letterAt_9 : decode prog_9_method_8_code 9 = .ok (.if_icmp .ge 9, 3) := by decide +kernel
theorem dTape_letterAt_12 : decode prog_9_method_8_code 12 = .ok (.iload_n 1, 1) := by decide +kernel
theorem dTape_letterAt_13 : decode prog_9_method_8_code 13 = .ok (.bipush 6, 2) := by decide +kernel
theorem dTape_letterAt_15 : decode prog_9_method_8_code 15 = .ok (.if_icmp .lt 5, 3) := by decide +kernel
theorem dTape_letterAt_18 : decode prog_9_method_8_code 18 = .ok (.iconst (-1), 1) := by decide +kernel
theorem dTape_letterAt_19 : decode prog_9_method_8_code 19 = .ok (.ireturn, 1) := by decide +kernel
theorem dTape_letterAt_20 : decode prog_9_method_8_code 20 = .ok (.aload_n 0, 1) := by decide +kernel
theorem dTape_letterAt_21 : decode prog_9_method_8_code 21 = .ok (.getfield 20, 3) := by decide +kernel
theorem dTape_letterAt_24 : decode prog_9_method_8_code 24 = .ok (.iload_n 1, 1) := by decide +kernel
theorem dTape_letterAt_25 : decode prog_9_method_8_code 25 = .ok (.iaload, 1) := by decide +kernel
theorem dTape_letterAt_26 : decode prog_9_method_8_code 26 = .ok (.iload_n 2, 1) := by decide +kernel
theorem dTape_letterAt_27 : decode prog_9_method_8_code 27 = .ok (.iadd, 1) := by decide +kernel
theorem dTape_letterAt_28 : decode prog_9_method_8_code 28 = .ok (.istore_n 3, 1) := by decide +kernel
theorem dTape_letterAt_29 : decode prog_9_method_8_code 29 = .ok (.iload_n 2, 1) := by decide +kernel
theorem dTape_letterAt_30 : decode prog_9_method_8_code 30 = .ok (.ifCond .lt 33, 3) := by decide +kernel
theorem dTape_letterAt_33 : decode prog_9_method_8_code 33 = .ok (.iload_n 3, 1) := by decide +kernel
theorem dTape_letterAt_34 : decode prog_9_method_8_code 34 = .ok (.ifCond .lt 29, 3) := by decide +kernel
theorem dTape_letterAt_37 : decode prog_9_method_8_code 37 = .ok (.iload_n 3, 1) := by decide +kernel
theorem dTape_letterAt_38 : decode prog_9_method_8_code 38 = .ok (.aload_n 0, 1) := by decide +kernel
theorem dTape_letterAt_39 : decode prog_9_method_8_code 39 = .ok (.getfield 24, 3) := by decide +kernel
theorem dTape_letterAt_42 : decode prog_9_method_8_code 42 = .ok (.iload_n 1, 1) := by decide +kernel
theorem dTape_letterAt_43 : decode prog_9_method_8_code 43 = .ok (.iaload, 1) := by decide +kernel
theorem dTape_letterAt_44 : decode prog_9_method_8_code 44 = .ok (.if_icmp .ge 19, 3) := by decide +kernel
theorem dTape_letterAt_47 : decode prog_9_method_8_code 47 = .ok (.iload_n 3, 1) := by decide +kernel
theorem dTape_letterAt_48 : decode prog_9_method_8_code 48 = .ok (.aload_n 0, 1) := by decide +kernel
theorem dTape_letterAt_49 : decode prog_9_method_8_code 49 = .ok (.getfield 14, 3) := by decide +kernel
theorem dTape_letterAt_52 : decode prog_9_method_8_code 52 = .ok (.getfield 153, 3) := by decide +kernel
theorem dTape_letterAt_55 : decode prog_9_method_8_code 55 = .ok (.arraylength, 1) := by decide +kernel
theorem dTape_letterAt_56 : decode prog_9_method_8_code 56 = .ok (.if_icmp .ge 7, 3) := by decide +kernel
theorem dTape_letterAt_59 : decode prog_9_method_8_code 59 = .ok (.iconst 1, 1) := by decide +kernel
theorem dTape_letterAt_60 : decode prog_9_method_8_code 60 = .ok (.goto 4, 3) := by decide +kernel
theorem dTape_letterAt_63 : decode prog_9_method_8_code 63 = .ok (.iconst 0, 1) := by decide +kernel
theorem dTape_letterAt_64 : decode prog_9_method_8_code 64 = .ok (.istore 4, 2) := by decide +kernel
theorem dTape_letterAt_66 : decode prog_9_method_8_code 66 = .ok (.iload 4, 2) := by decide +kernel
theorem dTape_letterAt_68 : decode prog_9_method_8_code 68 = .ok (.ifCond .eq 15, 3) := by decide +kernel
theorem dTape_letterAt_71 : decode prog_9_method_8_code 71 = .ok (.aload_n 0, 1) := by decide +kernel
theorem dTape_letterAt_72 : decode prog_9_method_8_code 72 = .ok (.getfield 14, 3) := by decide +kernel
theorem dTape_letterAt_75 : decode prog_9_method_8_code 75 = .ok (.getfield 153, 3) := by decide +kernel
theorem dTape_letterAt_78 : decode prog_9_method_8_code 78 = .ok (.iload_n 3, 1) := by decide +kernel
theorem dTape_letterAt_79 : decode prog_9_method_8_code 79 = .ok (.iaload, 1) := by decide +kernel
theorem dTape_letterAt_80 : decode prog_9_method_8_code 80 = .ok (.goto 4, 3) := by decide +kernel
theorem dTape_letterAt_83 : decode prog_9_method_8_code 83 = .ok (.iconst (-1), 1) := by decide +kernel
theorem dTape_letterAt_84 : decode prog_9_method_8_code 84 = .ok (.ireturn, 1) := by decide +kernel
abbrev rm_Tape_letterAt : Room := { frames := 0, cells := 0, slots := 0, locals := 0 }
def f_Tape_letterAt_b84 (E : hE) (t0 : Int32) : Option (Int32) := (
  some t0)
set_option maxHeartbeats 4000000 in
set_option maxRecDepth 100000 in
theorem b_Tape_letterAt_84 {p : Program} {l : Launch} {e : Env} {s : State} {m : MethodId} {args : Array Value} {below : List Frame} {meth : Method} {c : Code} {D : va_G} {kA : Nat → ClassId} {S : hE} {g : Nat → Nat} {n0 nx : Nat} {E : hE} {res : Int32} (C : hX p s m args c prog_9_method_8_code 5 R_Tape ws_Tape_letterAt D kA S g n0) (hr : meth.sig.returnType = (some .int)) (hlk : meth.locks = false) (hnm : meth.name = "letterAt") : ∀ (t0 : Int32) (H : Heap) (locs : List Loc) (ls : Array Slot), hY D kA n0 s E nx H locs → lv_has ls 5 [] → f_Tape_letterAt_b84 E  t0 = some res → W p l e rm_Tape_letterAt s m args below meth c H locs 0 0 (MQ below (va_Qi (fun r w => r = res ∧ w = (E, nx)) (hJ D kA S g n0) (fun q => n0 ≤ q)) args s 0 0 (fun q => n0 ≤ q)) (F0 m 84 ls [.int t0]) := by
  intro t0 H locs ls M hl hf
  unfold f_Tape_letterAt_b84 at hf
  cases hf
  exact w_iret C M hr hlk rfl (Nat.le_refl _) (Nat.le_refl _) dTape_letterAt_84 rfl rfl
def f_Tape_letterAt_b64 (E : hE) (y0 : Option Nat) (y3 : Int32) (t0 : Int32) : Option (Int32) := (
  if t0 = 0 then (
  f_Tape_letterAt_b84 E (-1)
  ) else (
  (gR E y0 5 0).bind fun v72 =>
  (gR E v72 0 0).bind fun v75 =>
  (aI E v75 0 y3).bind fun v79 =>
  f_Tape_letterAt_b84 E v79
  ))
set_option maxHeartbeats 4000000 in
set_option maxRecDepth 100000 in
theorem b_Tape_letterAt_64 {p : Program} {l : Launch} {e : Env} {s : State} {m : MethodId} {args : Array Value} {below : List Frame} {meth : Method} {c : Code} {D : va_G} {kA : Nat → ClassId} {S : hE} {g : Nat → Nat} {n0 nx : Nat} {E : hE} {res : Int32} (C : hX p s m args c prog_9_method_8_code 5 R_Tape ws_Tape_letterAt D kA S g n0) (hr : meth.sig.returnType = (some .int)) (hlk : meth.locks = false) (hnm : meth.name = "letterAt") : ∀ (y0 : Option Nat) (y3 : Int32) (t0 : Int32) (H : Heap) (locs : List Loc) (ls : Array Slot), hY D kA n0 s E nx H locs → lv_has ls 5 [(0, va_rf y0), (3, .int y3)] → f_Tape_letterAt_b64 E  y0 y3 t0 = some res → W p l e rm_Tape_letterAt s m args below meth c H locs 0 0 (MQ below (va_Qi (fun r w => r = res ∧ w = (E, nx)) (hJ D kA S g n0) (fun q => n0 ≤ q)) args s 0 0 (fun q => n0 ≤ q)) (F0 m 64 ls [.int t0]) := by
  intro y0 y3 t0 H locs ls M hl hf
  unfold f_Tape_letterAt_b64 at hf
  refine lv_istore (lv' := [(4, .int t0), (0, va_rf y0), (3, .int y3)]) C.x C.b dTape_letterAt_64 hl (by decide) rfl (fun ls hl => ?_)
  refine lv_iload C.x C.b dTape_letterAt_66 (lv_at hl 0 rfl) ?_
  refine lv_if_eq (tgt := 83) C.x C.b dTape_letterAt_68 (by decide) (fun c68 => ?_) (fun c68 => ?_)
  · rw [if_pos c68] at hf
    refine lv_iconst (v := (-1)) C.x C.b dTape_letterAt_83 (by decide) ?_
    exact b_Tape_letterAt_84 C hr hlk hnm _ _ _ _ M (lv_sub hl [] rfl) hf
  · rw [if_neg c68] at hf
    refine w_aload_n C.x C.b dTape_letterAt_71 rfl (lv_at hl 1 rfl) ?_
    obtain ⟨v72, h72, hf⟩ := Option.bind_eq_some_iff.mp hf
    refine w_getR C M h72 rfl (hm_in in_Tape) (by decide) (List.mem_cons_of_mem _ wm_58) rfl dTape_letterAt_72 ?_
    obtain ⟨v75, h75, hf⟩ := Option.bind_eq_some_iff.mp hf
    refine w_getR C M h75 rfl (hm_in in_Row) (by decide) (List.mem_cons_of_mem _ wm_44) rfl dTape_letterAt_75 ?_
    refine lv_iload_n C.x C.b dTape_letterAt_78 rfl (lv_at hl 2 rfl) ?_
    obtain ⟨v79, h79, hf⟩ := Option.bind_eq_some_iff.mp hf
    refine w_iald C M h79 rfl dTape_letterAt_79 ?_
    refine lv_goto (tgt := 84) C.x C.b dTape_letterAt_80 (by decide) ?_
    exact b_Tape_letterAt_84 C hr hlk hnm _ _ _ _ M (lv_sub hl [] rfl) hf
def f_Tape_letterAt_b63 (E : hE) (y0 : Option Nat) (y3 : Int32) : Option (Int32) := (
  f_Tape_letterAt_b64 E y0 y3 0)
set_option maxHeartbeats 4000000 in
set_option maxRecDepth 100000 in
theorem b_Tape_letterAt_63 {p : Program} {l : Launch} {e : Env} {s : State} {m : MethodId} {args : Array Value} {below : List Frame} {meth : Method} {c : Code} {D : va_G} {kA : Nat → ClassId} {S : hE} {g : Nat → Nat} {n0 nx : Nat} {E : hE} {res : Int32} (C : hX p s m args c prog_9_method_8_code 5 R_Tape ws_Tape_letterAt D kA S g n0) (hr : meth.sig.returnType = (some .int)) (hlk : meth.locks = false) (hnm : meth.name = "letterAt") : ∀ (y0 : Option Nat) (y3 : Int32) (H : Heap) (locs : List Loc) (ls : Array Slot), hY D kA n0 s E nx H locs → lv_has ls 5 [(0, va_rf y0), (3, .int y3)] → f_Tape_letterAt_b63 E  y0 y3 = some res → W p l e rm_Tape_letterAt s m args below meth c H locs 0 0 (MQ below (va_Qi (fun r w => r = res ∧ w = (E, nx)) (hJ D kA S g n0) (fun q => n0 ≤ q)) args s 0 0 (fun q => n0 ≤ q)) (F0 m 63 ls []) := by
  intro y0 y3 H locs ls M hl hf
  unfold f_Tape_letterAt_b63 at hf
  refine lv_iconst (v := 0) C.x C.b dTape_letterAt_63 (by decide) ?_
  exact b_Tape_letterAt_64 C hr hlk hnm _ _ _ _ _ _ M (lv_sub hl [0, 1] rfl) hf
def f_Tape_letterAt_b18 (E : hE) : Option (Int32) := (
  some (-1))
set_option maxHeartbeats 4000000 in
set_option maxRecDepth 100000 in
theorem b_Tape_letterAt_18 {p : Program} {l : Launch} {e : Env} {s : State} {m : MethodId} {args : Array Value} {below : List Frame} {meth : Method} {c : Code} {D : va_G} {kA : Nat → ClassId} {S : hE} {g : Nat → Nat} {n0 nx : Nat} {E : hE} {res : Int32} (C : hX p s m args c prog_9_method_8_code 5 R_Tape ws_Tape_letterAt D kA S g n0) (hr : meth.sig.returnType = (some .int)) (hlk : meth.locks = false) (hnm : meth.name = "letterAt") : ∀  (H : Heap) (locs : List Loc) (ls : Array Slot), hY D kA n0 s E nx H locs → lv_has ls 5 [] → f_Tape_letterAt_b18 E   = some res → W p l e rm_Tape_letterAt s m args below meth c H locs 0 0 (MQ below (va_Qi (fun r w => r = res ∧ w = (E, nx)) (hJ D kA S g n0) (fun q => n0 ≤ q)) args s 0 0 (fun q => n0 ≤ q)) (F0 m 18 ls []) := by
  intro  H locs ls M hl hf
  unfold f_Tape_letterAt_b18 at hf
  refine lv_iconst (v := (-1)) C.x C.b dTape_letterAt_18 (by decide) ?_
  cases hf
  exact w_iret C M hr hlk rfl (Nat.le_refl _) (Nat.le_refl _) dTape_letterAt_19 rfl rfl
def f_Tape_letterAt (E : hE) (x0 : Nat) (x1 : Int32) (x2 : Int32) : Option (Int32) := (
  if x1 < 0 then (
  f_Tape_letterAt_b18 E 
  ) else (
  (gI E (some x0) 5 3).bind fun v6 =>
  if v6 ≤ x1 then (
  f_Tape_letterAt_b18 E 
  ) else (
  if x1 < 6 then (
  (gR E (some x0) 5 1).bind fun v21 =>
  (aI E v21 0 x1).bind fun v25 =>
  if x2 < 0 then (
  f_Tape_letterAt_b63 E (some x0) (v25 + x2)
  ) else (
  if (v25 + x2) < 0 then (
  f_Tape_letterAt_b63 E (some x0) (v25 + x2)
  ) else (
  (gR E (some x0) 5 2).bind fun v39 =>
  (aI E v39 0 x1).bind fun v43 =>
  if v43 ≤ (v25 + x2) then (
  f_Tape_letterAt_b63 E (some x0) (v25 + x2)
  ) else (
  (gR E (some x0) 5 0).bind fun v49 =>
  (gR E v49 0 0).bind fun v52 =>
  (aL E v52 0).bind fun v55 =>
  if v55 ≤ (v25 + x2) then (
  f_Tape_letterAt_b63 E (some x0) (v25 + x2)
  ) else (
  f_Tape_letterAt_b64 E (some x0) (v25 + x2) 1
  )
  )
  )
  )
  ) else (
  f_Tape_letterAt_b18 E 
  )
  )
  ))
set_option maxHeartbeats 4000000 in
set_option maxRecDepth 100000 in
theorem c_Tape_letterAt {l : Launch} {D : va_G} {kA : Nat → ClassId} {S : hE} {g : Nat → Nat} {n0 nx : Nat} {x0 : Nat} {x1 : Int32} {x2 : Int32} {E : hE} {res : Int32} (hf : f_Tape_letterAt E x0 x1 x2 = some res) : Met l y_Tape_letterAt ws_Tape_letterAt rm_Tape_letterAt (va_Pc [va_rf (some x0), .int x1, .int x2] (hJ D kA S g n0 (E, nx))) (va_Qi (fun r w => r = res ∧ w = (E, nx)) (hJ D kA S g n0) (fun q => n0 ≤ q)) 0 0 (fun q => n0 ≤ q) := by
  refine h_met (cc := prog_9_method_8_code) (maxL := 5) (ret := (some .int)) (lvs := [(0, va_rf (some x0)), (1, .int x1), (2, .int x2)]) zZ_k (by decide) rfl (by simp [lg_sl, va_rf_cat, cat_i, cat_l, cat_n]) (by simp [lv_args, va_rf_cat, cat_i, cat_l, cat_n]) ?_
  intro p e s m below meth c ls C M hr hlk hnm hl
  unfold f_Tape_letterAt at hf
  refine lv_iload_n C.x C.b dTape_letterAt_0 rfl (lv_at hl 1 rfl) ?_
  refine lv_if_lt (tgt := 18) C.x C.b dTape_letterAt_1 (by decide) (fun c1 => ?_) (fun c1 => ?_)
  · rw [if_pos c1] at hf
    exact b_Tape_letterAt_18 C hr hlk hnm _ _ _ M (lv_sub hl [] rfl) hf
  · rw [if_neg c1] at hf
    refine lv_iload_n C.x C.b dTape_letterAt_4 rfl (lv_at hl 1 rfl) ?_
    refine w_aload_n C.x C.b dTape_letterAt_5 rfl (lv_at hl 0 rfl) ?_
    obtain ⟨v6, h6, hf⟩ := Option.bind_eq_some_iff.mp hf
    refine w_getI C M h6 rfl (hm_in in_Tape) (by decide) (List.mem_cons_of_mem _ wm_62) rfl dTape_letterAt_6 ?_
    refine lv_icmp_ge (tgt := 18) C.x C.b dTape_letterAt_9 (by decide) (fun c9 => ?_) (fun c9 => ?_)
    · rw [if_pos c9] at hf
      exact b_Tape_letterAt_18 C hr hlk hnm _ _ _ M (lv_sub hl [] rfl) hf
    · rw [if_neg c9] at hf
      refine lv_iload_n C.x C.b dTape_letterAt_12 rfl (lv_at hl 1 rfl) ?_
      refine lv_bipush (v := 6) C.x C.b dTape_letterAt_13 (by decide) ?_
      refine lv_icmp_lt (tgt := 20) C.x C.b dTape_letterAt_15 (by decide) (fun c15 => ?_) (fun c15 => ?_)
      · rw [if_pos c15] at hf
        refine w_aload_n C.x C.b dTape_letterAt_20 rfl (lv_at hl 0 rfl) ?_
        obtain ⟨v21, h21, hf⟩ := Option.bind_eq_some_iff.mp hf
        refine w_getR C M h21 rfl (hm_in in_Tape) (by decide) (List.mem_cons_of_mem _ wm_60) rfl dTape_letterAt_21 ?_
        refine lv_iload_n C.x C.b dTape_letterAt_24 rfl (lv_at hl 1 rfl) ?_
        obtain ⟨v25, h25, hf⟩ := Option.bind_eq_some_iff.mp hf
        refine w_iald C M h25 rfl dTape_letterAt_25 ?_
        refine lv_iload_n C.x C.b dTape_letterAt_26 rfl (lv_at hl 2 rfl) ?_
        refine lv_iadd C.x C.b dTape_letterAt_27 ?_
        refine lv_istore_n (lv' := [(3, .int (v25 + x2)), (0, va_rf (some x0)), (1, .int x1), (2, .int x2)]) C.x C.b dTape_letterAt_28 rfl hl (by decide) rfl (fun ls hl => ?_)
        refine lv_iload_n C.x C.b dTape_letterAt_29 rfl (lv_at hl 3 rfl) ?_
        refine lv_if_lt (tgt := 63) C.x C.b dTape_letterAt_30 (by decide) (fun c30 => ?_) (fun c30 => ?_)
        · rw [if_pos c30] at hf
          exact b_Tape_letterAt_63 C hr hlk hnm _ _ _ _ _ M (lv_sub hl [1, 0] rfl) hf
        · rw [if_neg c30] at hf
          refine lv_iload_n C.x C.b dTape_letterAt_33 rfl (lv_at hl 0 rfl) ?_
          refine lv_if_lt (tgt := 63) C.x C.b dTape_letterAt_34 (by decide) (fun c34 => ?_) (fun c34 => ?_)
          · rw [if_pos c34] at hf
            exact b_Tape_letterAt_63 C hr hlk hnm _ _ _ _ _ M (lv_sub hl [1, 0] rfl) hf
          · rw [if_neg c34] at hf
            refine lv_iload_n C.x C.b dTape_letterAt_37 rfl (lv_at hl 0 rfl) ?_
            refine w_aload_n C.x C.b dTape_letterAt_38 rfl (lv_at hl 1 rfl) ?_
            obtain ⟨v39, h39, hf⟩ := Option.bind_eq_some_iff.mp hf
            refine w_getR C M h39 rfl (hm_in in_Tape) (by decide) (List.mem_cons_of_mem _ wm_61) rfl dTape_letterAt_39 ?_
            refine lv_iload_n C.x C.b dTape_letterAt_42 rfl (lv_at hl 2 rfl) ?_
            obtain ⟨v43, h43, hf⟩ := Option.bind_eq_some_iff.mp hf
            refine w_iald C M h43 rfl dTape_letterAt_43 ?_
            refine lv_icmp_ge (tgt := 63) C.x C.b dTape_letterAt_44 (by decide) (fun c44 => ?_) (fun c44 => ?_)
            · rw [if_pos c44] at hf
              exact b_Tape_letterAt_63 C hr hlk hnm _ _ _ _ _ M (lv_sub hl [1, 0] rfl) hf
            · rw [if_neg c44] at hf
              refine lv_iload_n C.x C.b dTape_letterAt_47 rfl (lv_at hl 0 rfl) ?_
              refine w_aload_n C.x C.b dTape_letterAt_48 rfl (lv_at hl 1 rfl) ?_
              obtain ⟨v49, h49, hf⟩ := Option.bind_eq_some_iff.mp hf
              refine w_getR C M h49 rfl (hm_in in_Tape) (by decide) (List.mem_cons_of_mem _ wm_58) rfl dTape_letterAt_49 ?_
              obtain ⟨v52, h52, hf⟩ := Option.bind_eq_some_iff.mp hf
              refine w_getR C M h52 rfl (hm_in in_Row) (by decide) (List.mem_cons_of_mem _ wm_44) rfl dTape_letterAt_52 ?_
              obtain ⟨v55, h55, hf⟩ := Option.bind_eq_some_iff.mp hf
              refine w_alen C M h55 rfl dTape_letterAt_55 ?_
              refine lv_icmp_ge (tgt := 63) C.x C.b dTape_letterAt_56 (by decide) (fun c56 => ?_) (fun c56 => ?_)
              · rw [if_pos c56] at hf
                exact b_Tape_letterAt_63 C hr hlk hnm _ _ _ _ _ M (lv_sub hl [1, 0] rfl) hf
              · rw [if_neg c56] at hf
                refine lv_iconst (v := 1) C.x C.b dTape_letterAt_59 (by decide) ?_
                refine lv_goto (tgt := 64) C.x C.b dTape_letterAt_60 (by decide) ?_
                exact b_Tape_letterAt_64 C hr hlk hnm _ _ _ _ _ _ M (lv_sub hl [1, 0] rfl) hf
      · rw [if_neg c15] at hf
        exact b_Tape_letterAt_18 C hr hlk hnm _ _ _ M (lv_sub hl [] rfl) hf
theorem dTape_onlyLetter_0 : decode prog_9_method_9_code 0 = .ok (.aload_n 0, 1) := by decide +kernel
theorem dTape_onlyLetter_1 : decode prog_9_method_9_code 1 = .ok (.iload_n 1, 1) := by decide +kernel
theorem dTape_onlyLetter_2 : decode prog_9_method_9_code 2 = .ok (.invokevirtual 55, 3) := by decide +kernel
theorem dTape_onlyLetter_5 : decode prog_9_method_9_code 5 = .ok (.iconst 1, 1) := by decide +kernel
theorem dTape_onlyLetter_6 : decode prog_9_method_9_code 6 = .ok (.if_icmp .ne 12, 3) := by decide +kernel
theorem dTape_onlyLetter_9 : decode prog_9_method_9_code 9 = .ok (.aload_n 0, 1) := by decide +kernel
theorem dTape_onlyLetter_10 : decode prog_9_method_9_code 10 = .ok (.iload_n 1, 1) := by decide +kernel
theorem dTape_onlyLetter_11 : decode prog_9_method_9_code 11 = .ok (.iconst 0, 1) := by decide +kernel
theorem dTape_onlyLetter_12 : decode prog_9_method_9_code 12 = .ok (.invokevirtual 58, 3) := by decide +kernel
theorem dTape_onlyLetter_15 : decode prog_9_method_9_code 15 = .ok (.goto 4, 3) := by decide +kernel
theorem dTape_onlyLetter_18 : decode prog_9_method_9_code 18 = .ok (.iconst (-1), 1) := by decide +kernel
theorem dTape_onlyLetter_19 : decode prog_9_method_9_code 19 = .ok (.ireturn, 1) := by decide +kernel
abbrev rm_Tape_onlyLetter : Room := { frames := 1, cells := 0, slots := 0, locals := 24 }
def f_Tape_onlyLetter_b19 (E : hE) (t0 : Int32) : Option (Int32) := (
  some t0)
set_option maxHeartbeats 4000000 in
set_option maxRecDepth 100000 in
theorem b_Tape_onlyLetter_19 {p : Program} {l : Launch} {e : Env} {s : State} {m : MethodId} {args : Array Value} {below : List Frame} {meth : Method} {c : Code} {D : va_G} {kA : Nat → ClassId} {S : hE} {g : Nat → Nat} {n0 nx : Nat} {E : hE} {res : Int32} (C : hX p s m args c prog_9_method_9_code 2 R_Tape ws_Tape_onlyLetter D kA S g n0) (hr : meth.sig.returnType = (some .int)) (hlk : meth.locks = false) (hnm : meth.name = "onlyLetter") : ∀ (t0 : Int32) (H : Heap) (locs : List Loc) (ls : Array Slot), hY D kA n0 s E nx H locs → lv_has ls 2 [] → f_Tape_onlyLetter_b19 E  t0 = some res → W p l e rm_Tape_onlyLetter s m args below meth c H locs 0 0 (MQ below (va_Qi (fun r w => r = res ∧ w = (E, nx)) (hJ D kA S g n0) (fun q => n0 ≤ q)) args s 0 0 (fun q => n0 ≤ q)) (F0 m 19 ls [.int t0]) := by
  intro t0 H locs ls M hl hf
  unfold f_Tape_onlyLetter_b19 at hf
  cases hf
  exact w_iret C M hr hlk rfl (Nat.le_refl _) (Nat.le_refl _) dTape_onlyLetter_19 rfl rfl
def f_Tape_onlyLetter (E : hE) (x0 : Nat) (x1 : Int32) : Option (Int32) := (
  (gO E (some x0) 5).bind fun o2 =>
  (f_Tape_lengthOf E o2.1 x1).bind fun v2 =>
  if v2 = 1 then (
  (gO E (some x0) 5).bind fun o12 =>
  (f_Tape_letterAt E o12.1 x1 0).bind fun v12 =>
  f_Tape_onlyLetter_b19 E v12
  ) else (
  f_Tape_onlyLetter_b19 E (-1)
  ))
set_option maxHeartbeats 4000000 in
set_option maxRecDepth 100000 in
theorem c_Tape_onlyLetter {l : Launch} {D : va_G} {kA : Nat → ClassId} {S : hE} {g : Nat → Nat} {n0 nx : Nat} {x0 : Nat} {x1 : Int32} {E : hE} {res : Int32} (hf : f_Tape_onlyLetter E x0 x1 = some res) : Met l y_Tape_onlyLetter ws_Tape_onlyLetter rm_Tape_onlyLetter (va_Pc [va_rf (some x0), .int x1] (hJ D kA S g n0 (E, nx))) (va_Qi (fun r w => r = res ∧ w = (E, nx)) (hJ D kA S g n0) (fun q => n0 ≤ q)) 0 0 (fun q => n0 ≤ q) := by
  refine h_met (cc := prog_9_method_9_code) (maxL := 2) (ret := (some .int)) (lvs := [(0, va_rf (some x0)), (1, .int x1)]) zZ_k (by decide) rfl (by simp [lg_sl, va_rf_cat, cat_i, cat_l, cat_n]) (by simp [lv_args, va_rf_cat, cat_i, cat_l, cat_n]) ?_
  intro p e s m below meth c ls C M hr hlk hnm hl
  unfold f_Tape_onlyLetter at hf
  refine w_aload_n C.x C.b dTape_onlyLetter_0 rfl (lv_at hl 0 rfl) ?_
  refine lv_iload_n C.x C.b dTape_onlyLetter_1 rfl (lv_at hl 1 rfl) ?_
  obtain ⟨o2, g2, hf⟩ := Option.bind_eq_some_iff.mp hf
  obtain ⟨v2, h2, hf⟩ := Option.bind_eq_some_iff.mp hf
  refine w_ci M (w_runV C M g2 rfl (c_Tape_lengthOf h2) (cwV 1 C.ts (hgV wm_279 wm_281 sel_Tape_lengthOf wm_2 wm_282) rfl rfl rfl (by decide +kernel) ⟨Nat.le_of_ble_eq_true rfl, Nat.le_of_ble_eq_true rfl⟩) rfl hl.1 rfl (Nat.zero_le _) dTape_onlyLetter_2 ⟨Nat.le_refl _, Nat.le_refl _⟩) (fun H locs M => ?_)
  refine lv_iconst (v := 1) C.x C.b dTape_onlyLetter_5 (by decide) ?_
  refine lv_icmp_ne (tgt := 18) C.x C.b dTape_onlyLetter_6 (by decide) (fun c6 => ?_) (fun c6 => ?_)
  · rw [if_neg c6] at hf
    refine lv_iconst (v := (-1)) C.x C.b dTape_onlyLetter_18 (by decide) ?_
    exact b_Tape_onlyLetter_19 C hr hlk hnm _ _ _ _ M (lv_sub hl [] rfl) hf
  · rw [if_pos c6] at hf
    refine w_aload_n C.x C.b dTape_onlyLetter_9 rfl (lv_at hl 0 rfl) ?_
    refine lv_iload_n C.x C.b dTape_onlyLetter_10 rfl (lv_at hl 1 rfl) ?_
    refine lv_iconst (v := 0) C.x C.b dTape_onlyLetter_11 (by decide) ?_
    obtain ⟨o12, g12, hf⟩ := Option.bind_eq_some_iff.mp hf
    obtain ⟨v12, h12, hf⟩ := Option.bind_eq_some_iff.mp hf
    refine w_ci M (w_runV C M g12 rfl (c_Tape_letterAt h12) (cwV 2 C.ts (hgV wm_283 wm_285 sel_Tape_letterAt wm_2 wm_286) rfl rfl rfl (by decide +kernel) ⟨Nat.le_of_ble_eq_true rfl, Nat.le_of_ble_eq_true rfl⟩) rfl hl.1 rfl (Nat.zero_le _) dTape_onlyLetter_12 ⟨Nat.le_refl _, Nat.le_refl _⟩) (fun H locs M => ?_)
    refine lv_goto (tgt := 19) C.x C.b dTape_onlyLetter_15 (by decide) ?_
    exact b_Tape_onlyLetter_19 C hr hlk hnm _ _ _ _ M (lv_sub hl [] rfl) hf
theorem dTape_registerNamed_0 : decode prog_9_method_12_code 0 = .ok (.iload_n 0, 1) := by decide +kernel
theorem dTape_registerNamed_1 : decode prog_9_method_12_code 1 = .ok (.bipush 97, 2) := by decide +kernel
theorem dTape_registerNamed_3 : decode prog_9_method_12_code 3 = .ok (.if_icmp .lt 16, 3) := by decide +kernel
theorem dTape_registerNamed_6 : decode prog_9_method_12_code 6 = .ok (.iload_n 0, 1) := by decide +kernel
theorem dTape_registerNamed_7 : decode prog_9_method_12_code 7 = .ok (.bipush 105, 2) := by decide +kernel
theorem dTape_registerNamed_9 : decode prog_9_method_12_code 9 = .ok (.if_icmp .ge 10, 3) := by decide +kernel
theorem dTape_registerNamed_12 : decode prog_9_method_12_code 12 = .ok (.iload_n 0, 1) := by decide +kernel
theorem dTape_registerNamed_13 : decode prog_9_method_12_code 13 = .ok (.bipush 97, 2) := by decide +kernel
theorem dTape_registerNamed_15 : decode prog_9_method_12_code 15 = .ok (.isub, 1) := by decide +kernel
theorem dTape_registerNamed_16 : decode prog_9_method_12_code 16 = .ok (.goto 4, 3) := by decide +kernel
theorem dTape_registerNamed_19 : decode prog_9_method_12_code 19 = .ok (.iconst (-1), 1) := by decide +kernel
theorem dTape_registerNamed_20 : decode prog_9_method_12_code 20 = .ok (.ireturn, 1) := by decide +kernel
abbrev rm_Tape_registerNamed : Room := { frames := 0, cells := 0, slots := 0, locals := 0 }
def f_Tape_registerNamed_b20 (E : hE) (t0 : Int32) : Option (Int32) := (
  some t0)
set_option maxHeartbeats 4000000 in
set_option maxRecDepth 100000 in
theorem b_Tape_registerNamed_20 {p : Program} {l : Launch} {e : Env} {s : State} {m : MethodId} {args : Array Value} {below : List Frame} {meth : Method} {c : Code} {D : va_G} {kA : Nat → ClassId} {S : hE} {g : Nat → Nat} {n0 nx : Nat} {E : hE} {res : Int32} (C : hX p s m args c prog_9_method_12_code 1 R_Tape ws_Tape_registerNamed D kA S g n0) (hr : meth.sig.returnType = (some .int)) (hlk : meth.locks = false) (hnm : meth.name = "registerNamed") : ∀ (t0 : Int32) (H : Heap) (locs : List Loc) (ls : Array Slot), hY D kA n0 s E nx H locs → lv_has ls 1 [] → f_Tape_registerNamed_b20 E  t0 = some res → W p l e rm_Tape_registerNamed s m args below meth c H locs 0 0 (MQ below (va_Qi (fun r w => r = res ∧ w = (E, nx)) (hJ D kA S g n0) (fun q => n0 ≤ q)) args s 0 0 (fun q => n0 ≤ q)) (F0 m 20 ls [.int t0]) := by
  intro t0 H locs ls M hl hf
  unfold f_Tape_registerNamed_b20 at hf
  cases hf
  exact w_iret C M hr hlk rfl (Nat.le_refl _) (Nat.le_refl _) dTape_registerNamed_20 rfl rfl
def f_Tape_registerNamed_b19 (E : hE) : Option (Int32) := (
  f_Tape_registerNamed_b20 E (-1))
set_option maxHeartbeats 4000000 in
set_option maxRecDepth 100000 in
theorem b_Tape_registerNamed_19 {p : Program} {l : Launch} {e : Env} {s : State} {m : MethodId} {args : Array Value} {below : List Frame} {meth : Method} {c : Code} {D : va_G} {kA : Nat → ClassId} {S : hE} {g : Nat → Nat} {n0 nx : Nat} {E : hE} {res : Int32} (C : hX p s m args c prog_9_method_12_code 1 R_Tape ws_Tape_registerNamed D kA S g n0) (hr : meth.sig.returnType = (some .int)) (hlk : meth.locks = false) (hnm : meth.name = "registerNamed") : ∀  (H : Heap) (locs : List Loc) (ls : Array Slot), hY D kA n0 s E nx H locs → lv_has ls 1 [] → f_Tape_registerNamed_b19 E   = some res → W p l e rm_Tape_registerNamed s m args below meth c H locs 0 0 (MQ below (va_Qi (fun r w => r = res ∧ w = (E, nx)) (hJ D kA S g n0) (fun q => n0 ≤ q)) args s 0 0 (fun q => n0 ≤ q)) (F0 m 19 ls []) := by
  intro  H locs ls M hl hf
  unfold f_Tape_registerNamed_b19 at hf
  refine lv_iconst (v := (-1)) C.x C.b dTape_registerNamed_19 (by decide) ?_
  exact b_Tape_registerNamed_20 C hr hlk hnm _ _ _ _ M (lv_sub hl [] rfl) hf
def f_Tape_registerNamed (E : hE) (x0 : Int32) : Option (Int32) := (
  if x0 < 97 then (
  f_Tape_registerNamed_b19 E 
  ) else (
  if 105 ≤ x0 then (
  f_Tape_registerNamed_b19 E 
  ) else (
  f_Tape_registerNamed_b20 E (x0 - 97)
  )
  ))
set_option maxHeartbeats 4000000 in
set_option maxRecDepth 100000 in
theorem c_Tape_registerNamed {l : Launch} {D : va_G} {kA : Nat → ClassId} {S : hE} {g : Nat → Nat} {n0 nx : Nat} {x0 : Int32} {E : hE} {res : Int32} (hf : f_Tape_registerNamed E x0 = some res) : Met l y_Tape_registerNamed ws_Tape_registerNamed rm_Tape_registerNamed (va_Pc [.int x0] (hJ D kA S g n0 (E, nx))) (va_Qi (fun r w => r = res ∧ w = (E, nx)) (hJ D kA S g n0) (fun q => n0 ≤ q)) 0 0 (fun q => n0 ≤ q) := by
  refine h_met (cc := prog_9_method_12_code) (maxL := 1) (ret := (some .int)) (lvs := [(0, .int x0)]) zZ_k (by decide) rfl (by simp [lg_sl, va_rf_cat, cat_i, cat_l, cat_n]) (by simp [lv_args, va_rf_cat, cat_i, cat_l, cat_n]) ?_
  intro p e s m below meth c ls C M hr hlk hnm hl
  unfold f_Tape_registerNamed at hf
  refine lv_iload_n C.x C.b dTape_registerNamed_0 rfl (lv_at hl 0 rfl) ?_
  refine lv_bipush (v := 97) C.x C.b dTape_registerNamed_1 (by decide) ?_
  refine lv_icmp_lt (tgt := 19) C.x C.b dTape_registerNamed_3 (by decide) (fun c3 => ?_) (fun c3 => ?_)
  · rw [if_pos c3] at hf
    exact b_Tape_registerNamed_19 C hr hlk hnm _ _ _ M (lv_sub hl [] rfl) hf
  · rw [if_neg c3] at hf
    refine lv_iload_n C.x C.b dTape_registerNamed_6 rfl (lv_at hl 0 rfl) ?_
    refine lv_bipush (v := 105) C.x C.b dTape_registerNamed_7 (by decide) ?_
    refine lv_icmp_ge (tgt := 19) C.x C.b dTape_registerNamed_9 (by decide) (fun c9 => ?_) (fun c9 => ?_)
    · rw [if_pos c9] at hf
      exact b_Tape_registerNamed_19 C hr hlk hnm _ _ _ M (lv_sub hl [] rfl) hf
    · rw [if_neg c9] at hf
      refine lv_iload_n C.x C.b dTape_registerNamed_12 rfl (lv_at hl 0 rfl) ?_
      refine lv_bipush (v := 97) C.x C.b dTape_registerNamed_13 (by decide) ?_
      refine lv_isub C.x C.b dTape_registerNamed_15 ?_
      refine lv_goto (tgt := 20) C.x C.b dTape_registerNamed_16 (by decide) ?_
      exact b_Tape_registerNamed_20 C hr hlk hnm _ _ _ _ M (lv_sub hl [] rfl) hf
theorem dTape_operandAt_0 : decode prog_9_method_11_code 0 = .ok (.aload_n 0, 1) := by decide +kernel
theorem dTape_operandAt_1 : decode prog_9_method_11_code 1 = .ok (.iload_n 1, 1) := by decide +kernel
theorem dTape_operandAt_2 : decode prog_9_method_11_code 2 = .ok (.invokevirtual 134, 3) := by decide +kernel
theorem dTape_operandAt_5 : decode prog_9_method_11_code 5 = .ok (.invokestatic 137, 3) := by decide +kernel
theorem dTape_operandAt_8 : decode prog_9_method_11_code 8 = .ok (.istore_n 2, 1) := by decide +kernel
theorem dTape_operandAt_9 : decode prog_9_method_11_code 9 = .ok (.iload_n 2, 1) := by decide +kernel
theorem dTape_operandAt_10 : decode prog_9_method_11_code 10 = .ok (.iconst (-1), 1) := by decide +kernel
theorem dTape_operandAt_11 : decode prog_9_method_11_code 11 = .ok (.if_icmp .eq 8, 3) := by decide +kernel
theorem dTape_operandAt_14 : decode prog_9_method_11_code 14 = .ok (.ldc 156, 2) := by decide +kernel
theorem dTape_operandAt_16 : decode prog_9_method_11_code 16 = .ok (.iload_n 2, 1) := by decide +kernel
theorem dTape_operandAt_17 : decode prog_9_method_11_code 17 = .ok (.iadd, 1) := by decide +kernel
theorem dTape_operandAt_18 : decode prog_9_method_11_code 18 = .ok (.ireturn, 1) := by decide +kernel
theorem dTape_operandAt_19 : decode prog_9_method_11_code 19 = .ok (.aload_n 0, 1) := by decide +kernel
theorem dTape_operandAt_20 : decode prog_9_method_11_code 20 = .ok (.iload_n 1, 1) := by decide +kernel
theorem dTape_operandAt_21 : decode prog_9_method_11_code 21 = .ok (.iconst 0, 1) := by decide +kernel
theorem dTape_operandAt_22 : decode prog_9_method_11_code 22 = .ok (.invokevirtual 58, 3) := by decide +kernel
theorem dTape_operandAt_25 : decode prog_9_method_11_code 25 = .ok (.bipush 45, 2) := by decide +kernel
theorem dTape_operandAt_27 : decode prog_9_method_11_code 27 = .ok (.if_icmp .ne 7, 3) := by decide +kernel
theorem dTape_operandAt_30 : decode prog_9_method_11_code 30 = .ok (.iconst 1, 1) := by decide +kernel
theorem dTape_operandAt_31 : decode prog_9_method_11_code 31 = .ok (.goto 4, 3) := by decide +kernel
theorem dTape_operandAt_34 : decode prog_9_method_11_code 34 = .ok (.iconst 0, 1) := by decide +kernel
theorem dTape_operandAt_35 : decode prog_9_method_11_code 35 = .ok (.istore_n 3, 1) := by decide +kernel
theorem dTape_operandAt_36 : decode prog_9_method_11_code 36 = .ok (.iload_n 3, 1) := by decide +kernel
theorem dTape_operandAt_37 : decode prog_9_method_11_code 37 = .ok (.ifCond .eq 7, 3) := by decide +kernel
theorem dTape_operandAt_40 : decode prog_9_method_11_code 40 = .ok (.iconst 1, 1) := by decide +kernel
theorem dTape_operandAt_41 : decode prog_9_method_11_code 41 = .ok (.goto 4, 3) := by decide +kernel
theorem dTape_operandAt_44 : decode prog_9_method_11_code 44 = .ok (.iconst 0, 1) := by decide +kernel
theorem dTape_operandAt_45 : decode prog_9_method_11_code 45 = .ok (.istore 4, 2) := by decide +kernel
theorem dTape_operandAt_47 : decode prog_9_method_11_code 47 = .ok (.aload_n 0, 1) := by decide +kernel
theorem dTape_operandAt_48 : decode prog_9_method_11_code 48 = .ok (.iload_n 1, 1) := by decide +kernel
theorem dTape_operandAt_49 : decode prog_9_method_11_code 49 = .ok (.invokevirtual 55, 3) := by decide +kernel
theorem dTape_operandAt_52 : decode prog_9_method_11_code 52 = .ok (.istore 5, 2) := by decide +kernel
theorem dTape_operandAt_54 : decode prog_9_method_11_code 54 = .ok (.iload 5, 2) := by decide +kernel
theorem dTape_operandAt_56 : decode prog_9_method_11_code 56 = .ok (.iload 4, 2) := by decide +kernel
theorem dTape_operandAt_58 : decode prog_9_method_11_code 58 = .ok (.isub, 1) := by decide +kernel
theorem dTape_operandAt_59 : decode prog_9_method_11_code 59 = .ok (.iconst 1, 1) := by decide +kernel
theorem dTape_operandAt_60 : decode prog_9_method_11_code 60 = .ok (.if_icmp .lt 13, 3) := by decide +kernel
theorem dTape_operandAt_63 : decode prog_9_method_11_code 63 = .ok (.iload 5, 2) := by decide +kernel
theorem dTape_operandAt_65 : decode prog_9_method_11_code 65 = .ok (.iload 4, 2) := by decide +kernel
theorem dTape_operandAt_67 : decode prog_9_method_11_code 67 = .ok (.isub, 1) := by decide +kernel
theorem dTape_operandAt_68 : decode prog_9_method_11_code 68 = .ok (.bipush 6, 2) := by decide +kernel
theorem dTape_operandAt_70 : decode prog_9_method_11_code 70 = .ok (.if_icmp .le 6, 3) := by decide +kernel
theorem dTape_operandAt_73 : decode prog_9_method_11_code 73 = .ok (.ldc 125, 2) := by decide +kernel
theorem dTape_operandAt_75 : decode prog_9_method_11_code 75 = .ok (.ireturn, 1) := by decide +kernel
theorem dTape_operandAt_76 : decode prog_9_method_11_code 76 = .ok (.iconst 0, 1) := by decide +kernel
theorem dTape_operandAt_77 : decode prog_9_method_11_code 77 = .ok (.istore 6, 2) := by decide +kernel
theorem dTape_operandAt_79 : decode prog_9_method_11_code 79 = .ok (.iload 4, 2) := by decide +kernel
theorem dTape_operandAt_81 : decode prog_9_method_11_code 81 = .ok (.istore 7, 2) := by decide +kernel
theorem dTape_operandAt_83 : decode prog_9_method_11_code 83 = .ok (.iload 7, 2) := by decide +kernel
theorem dTape_operandAt_85 : decode prog_9_method_11_code 85 = .ok (.iload 5, 2) := by decide +kernel
theorem dTape_operandAt_87 : decode prog_9_method_11_code 87 = .ok (.if_icmp .ge 48, 3) := by decide +kernel
theorem dTape_operandAt_90 : decode prog_9_method_11_code 90 = .ok (.aload_n 0, 1) := by decide +kernel
theorem dTape_operandAt_91 : decode prog_9_method_11_code 91 = .ok (.iload_n 1, 1) := by decide +kernel
theorem dTape_operandAt_92 : decode prog_9_method_11_code 92 = .ok (.iload 7, 2) := by decide +kernel
theorem dTape_operandAt_94 : decode prog_9_method_11_code 94 = .ok (.invokevirtual 58, 3) := by decide +kernel
theorem dTape_operandAt_97 : decode prog_9_method_11_code 97 = .ok (.istore 8, 2) := by decide +kernel
theorem dTape_operandAt_99 : decode prog_9_method_11_code 99 = .ok (.iload 8, 2) := by decide +kernel
theorem dTape_operandAt_101 : decode prog_9_method_11_code 101 = .ok (.bipush 48, 2) := by decide +kernel
theorem dTape_operandAt_103 : decode prog_9_method_11_code 103 = .ok (.if_icmp .lt 10, 3) := by decide +kernel
theorem dTape_operandAt_106 : decode prog_9_method_11_code 106 = .ok (.iload 8, 2) := by decide +kernel
theorem dTape_operandAt_108 : decode prog_9_method_11_code 108 = .ok (.bipush 57, 2) := by decide +kernel
theorem dTape_operandAt_110 : decode prog_9_method_11_code 110 = .ok (.if_icmp .le 6, 3) := by decide +kernel
theorem dTape_operandAt_113 : decode prog_9_method_11_code 113 = .ok (.ldc 125, 2) := by decide +kernel
theorem dTape_operandAt_115 : decode prog_9_method_11_code 115 = .ok (.ireturn, 1) := by decide +kernel
theorem dTape_operandAt_116 : decode prog_9_method_11_code 116 = .ok (.bipush 10, 2) := by decide +kernel
theorem dTape_operandAt_118 : decode prog_9_method_11_code 118 = .ok (.iload 6, 2) := by decide +kernel
theorem dTape_operandAt_120 : decode prog_9_method_11_code 120 = .ok (.imul, 1) := by decide +kernel
theorem dTape_operandAt_121 : decode prog_9_method_11_code 121 = .ok (.iload 8, 2) := by decide +kernel
theorem dTape_operandAt_123 : decode prog_9_method_11_code 123 = .ok (.iadd, 1) := by decide +kernel
theorem dTape_operandAt_124 : decode prog_9_method_11_code 124 = .ok (.bipush 48, 2) := by decide +kernel
theorem dTape_operandAt_126 : decode prog_9_method_11_code 126 = .ok (.isub, 1) := by decide +kernel
theorem dTape_operandAt_127 : decode prog_9_method_11_code 127 = .ok (.istore 6, 2) := by decide +kernel
theorem dTape_operandAt_129 : decode prog_9_method_11_code 129 = .ok (.iinc 7 1, 3) := by decide +kernel
theorem dTape_operandAt_132 : decode prog_9_method_11_code 132 = .ok (.goto (-49), 3) := by decide +kernel
theorem dTape_operandAt_135 : decode prog_9_method_11_code 135 = .ok (.iload_n 3, 1) := by decide +kernel
theorem dTape_operandAt_136 : decode prog_9_method_11_code 136 = .ok (.ifCond .eq 9, 3) := by decide +kernel
theorem dTape_operandAt_139 : decode prog_9_method_11_code 139 = .ok (.iload 6, 2) := by decide +kernel
theorem dTape_operandAt_141 : decode prog_9_method_11_code 141 = .ok (.ineg, 1) := by decide +kernel
theorem dTape_operandAt_142 : decode prog_9_method_11_code 142 = .ok (.goto 5, 3) := by decide +kernel
theorem dTape_operandAt_145 : decode prog_9_method_11_code 145 = .ok (.iload 6, 2) := by decide +kernel
theorem dTape_operandAt_147 : decode prog_9_method_11_code 147 = .ok (.ireturn, 1) := by decide +kernel
abbrev rm_Tape_operandAt : Room := { frames := 2, cells := 0, slots := 0, locals := 45 }
def f_Tape_operandAt_b147 (N : Nat) (E : hE) (t0 : Int32) : Option (Int32) := (
  some t0)
set_option maxHeartbeats 4000000 in
set_option maxRecDepth 100000 in
theorem b_Tape_operandAt_147 {p : Program} {l : Launch} {e : Env} {s : State} {m : MethodId} {args : Array Value} {below : List Frame} {meth : Method} {c : Code} {D : va_G} {kA : Nat → ClassId} {S : hE} {g : Nat → Nat} {n0 nx : Nat} {N : Nat} {E : hE} {res : Int32} (C : hX p s m args c prog_9_method_11_code 9 R_Tape ws_Tape_operandAt D kA S g n0) (hr : meth.sig.returnType = (some .int)) (hlk : meth.locks = false) (hnm : meth.name = "operandAt") : ∀ (t0 : Int32) (H : Heap) (locs : List Loc) (ls : Array Slot), hY D kA n0 s E nx H locs → lv_has ls 9 [] → f_Tape_operandAt_b147 N E  t0 = some res → W p l e rm_Tape_operandAt s m args below meth c H locs 0 0 (MQ below (va_Qi (fun r w => r = res ∧ w = (E, nx)) (hJ D kA S g n0) (fun q => n0 ≤ q)) args s 0 0 (fun q => n0 ≤ q)) (F0 m 147 ls [.int t0]) := by
  intro t0 H locs ls M hl hf
  unfold f_Tape_operandAt_b147 at hf
  cases hf
  exact w_iret C M hr hlk rfl (Nat.le_refl _) (Nat.le_refl _) dTape_operandAt_147 rfl rfl
def f_Tape_operandAt_b113 (N : Nat) (E : hE) : Option (Int32) := (
  some (-1000000))
set_option maxHeartbeats 4000000 in
set_option maxRecDepth 100000 in
theorem b_Tape_operandAt_113 {p : Program} {l : Launch} {e : Env} {s : State} {m : MethodId} {args : Array Value} {below : List Frame} {meth : Method} {c : Code} {D : va_G} {kA : Nat → ClassId} {S : hE} {g : Nat → Nat} {n0 nx : Nat} {N : Nat} {E : hE} {res : Int32} (C : hX p s m args c prog_9_method_11_code 9 R_Tape ws_Tape_operandAt D kA S g n0) (hr : meth.sig.returnType = (some .int)) (hlk : meth.locks = false) (hnm : meth.name = "operandAt") : ∀  (H : Heap) (locs : List Loc) (ls : Array Slot), hY D kA n0 s E nx H locs → lv_has ls 9 [] → f_Tape_operandAt_b113 N E   = some res → W p l e rm_Tape_operandAt s m args below meth c H locs 0 0 (MQ below (va_Qi (fun r w => r = res ∧ w = (E, nx)) (hJ D kA S g n0) (fun q => n0 ≤ q)) args s 0 0 (fun q => n0 ≤ q)) (F0 m 113 ls []) := by
  intro  H locs ls M hl hf
  unfold f_Tape_operandAt_b113 at hf
  refine lv_ldc (v := (-1000000)) C.x C.b C.ow (C.ts (.constant R_Tape 125 (-1000000)) (List.mem_cons_of_mem _ wm_356)) dTape_operandAt_113 ?_
  cases hf
  exact w_iret C M hr hlk rfl (Nat.le_refl _) (Nat.le_refl _) dTape_operandAt_115 rfl rfl
def f_Tape_operandAt_b83 (N : Nat) (E : hE) : Nat → Option Nat → Int32 → Int32 → Int32 → Int32 → Int32 → Option (Int32)
  | 0, _, _, _, _, _, _ => none
  | n + 1, y0, y1, y3, y5, y6, y7 => (
  if y5 ≤ y7 then (
  if y3 = 0 then (
  f_Tape_operandAt_b147 N E y6
  ) else (
  f_Tape_operandAt_b147 N E (-y6)
  )
  ) else (
  (gO E y0 5).bind fun o94 =>
  (f_Tape_letterAt E o94.1 y1 y7).bind fun v94 =>
  if v94 < 48 then (
  f_Tape_operandAt_b113 N E 
  ) else (
  if v94 ≤ 57 then (
  f_Tape_operandAt_b83 N E n y0 y1 y3 y5 (((10 * y6) + v94) - 48) (y7 + 1)
  ) else (
  f_Tape_operandAt_b113 N E 
  )
  )
  ))
set_option maxHeartbeats 4000000 in
set_option maxRecDepth 100000 in
theorem b_Tape_operandAt_83 {p : Program} {l : Launch} {e : Env} {s : State} {m : MethodId} {args : Array Value} {below : List Frame} {meth : Method} {c : Code} {D : va_G} {kA : Nat → ClassId} {S : hE} {g : Nat → Nat} {n0 nx : Nat} {N : Nat} {E : hE} {res : Int32} (C : hX p s m args c prog_9_method_11_code 9 R_Tape ws_Tape_operandAt D kA S g n0) (hr : meth.sig.returnType = (some .int)) (hlk : meth.locks = false) (hnm : meth.name = "operandAt") : ∀ n : Nat, ∀ (y0 : Option Nat) (y1 : Int32) (y3 : Int32) (y5 : Int32) (y6 : Int32) (y7 : Int32) (H : Heap) (locs : List Loc) (ls : Array Slot), hY D kA n0 s E nx H locs → lv_has ls 9 [(0, va_rf y0), (1, .int y1), (3, .int y3), (5, .int y5), (6, .int y6), (7, .int y7)] → f_Tape_operandAt_b83 N E n y0 y1 y3 y5 y6 y7 = some res → W p l e rm_Tape_operandAt s m args below meth c H locs 0 0 (MQ below (va_Qi (fun r w => r = res ∧ w = (E, nx)) (hJ D kA S g n0) (fun q => n0 ≤ q)) args s 0 0 (fun q => n0 ≤ q)) (F0 m 83 ls []) := by
  intro n
  induction n with
  | zero =>
    intro y0 y1 y3 y5 y6 y7 H locs ls M hl hf
    simp [f_Tape_operandAt_b83] at hf
  | succ n ih =>
    intro y0 y1 y3 y5 y6 y7 H locs ls M hl hf
    rw [f_Tape_operandAt_b83] at hf
    refine lv_iload C.x C.b dTape_operandAt_83 (lv_at hl 5 rfl) ?_
    refine lv_iload C.x C.b dTape_operandAt_85 (lv_at hl 3 rfl) ?_
    refine lv_icmp_ge (tgt := 135) C.x C.b dTape_operandAt_87 (by decide) (fun c87 => ?_) (fun c87 => ?_)
    · rw [if_pos c87] at hf
      refine lv_iload_n C.x C.b dTape_operandAt_135 rfl (lv_at hl 2 rfl) ?_
      refine lv_if_eq (tgt := 145) C.x C.b dTape_operandAt_136 (by decide) (fun c136 => ?_) (fun c136 => ?_)
      · rw [if_pos c136] at hf
        refine lv_iload C.x C.b dTape_operandAt_145 (lv_at hl 4 rfl) ?_
        exact b_Tape_operandAt_147 C hr hlk hnm _ _ _ _ M (lv_sub hl [] rfl) hf
      · rw [if_neg c136] at hf
        refine lv_iload C.x C.b dTape_operandAt_139 (lv_at hl 4 rfl) ?_
        refine lv_ineg C.x C.b dTape_operandAt_141 ?_
        refine lv_goto (tgt := 147) C.x C.b dTape_operandAt_142 (by decide) ?_
        exact b_Tape_operandAt_147 C hr hlk hnm _ _ _ _ M (lv_sub hl [] rfl) hf
    · rw [if_neg c87] at hf
      refine w_aload_n C.x C.b dTape_operandAt_90 rfl (lv_at hl 0 rfl) ?_
      refine lv_iload_n C.x C.b dTape_operandAt_91 rfl (lv_at hl 1 rfl) ?_
      refine lv_iload C.x C.b dTape_operandAt_92 (lv_at hl 5 rfl) ?_
      obtain ⟨o94, g94, hf⟩ := Option.bind_eq_some_iff.mp hf
      obtain ⟨v94, h94, hf⟩ := Option.bind_eq_some_iff.mp hf
      refine w_ci M (w_runV C M g94 rfl (c_Tape_letterAt h94) (cwV 2 C.ts (hgV wm_283 wm_285 sel_Tape_letterAt wm_2 wm_286) rfl rfl rfl (by decide +kernel) ⟨Nat.le_of_ble_eq_true rfl, Nat.le_of_ble_eq_true rfl⟩) rfl hl.1 rfl (Nat.zero_le _) dTape_operandAt_94 ⟨Nat.le_refl _, Nat.le_refl _⟩) (fun H locs M => ?_)
      refine lv_istore (lv' := [(8, .int v94), (0, va_rf y0), (1, .int y1), (3, .int y3), (5, .int y5), (6, .int y6), (7, .int y7)]) C.x C.b dTape_operandAt_97 hl (by decide) rfl (fun ls hl => ?_)
      refine lv_iload C.x C.b dTape_operandAt_99 (lv_at hl 0 rfl) ?_
      refine lv_bipush (v := 48) C.x C.b dTape_operandAt_101 (by decide) ?_
      refine lv_icmp_lt (tgt := 113) C.x C.b dTape_operandAt_103 (by decide) (fun c103 => ?_) (fun c103 => ?_)
      · rw [if_pos c103] at hf
        exact b_Tape_operandAt_113 C hr hlk hnm _ _ _ M (lv_sub hl [] rfl) hf
      · rw [if_neg c103] at hf
        refine lv_iload C.x C.b dTape_operandAt_106 (lv_at hl 0 rfl) ?_
        refine lv_bipush (v := 57) C.x C.b dTape_operandAt_108 (by decide) ?_
        refine lv_icmp_le (tgt := 116) C.x C.b dTape_operandAt_110 (by decide) (fun c110 => ?_) (fun c110 => ?_)
        · rw [if_pos c110] at hf
          refine lv_bipush (v := 10) C.x C.b dTape_operandAt_116 (by decide) ?_
          refine lv_iload C.x C.b dTape_operandAt_118 (lv_at hl 5 rfl) ?_
          refine lv_imul C.x C.b dTape_operandAt_120 ?_
          refine lv_iload C.x C.b dTape_operandAt_121 (lv_at hl 0 rfl) ?_
          refine lv_iadd C.x C.b dTape_operandAt_123 ?_
          refine lv_bipush (v := 48) C.x C.b dTape_operandAt_124 (by decide) ?_
          refine lv_isub C.x C.b dTape_operandAt_126 ?_
          refine lv_istore (lv' := [(6, .int (((10 * y6) + v94) - 48)), (8, .int v94), (0, va_rf y0), (1, .int y1), (3, .int y3), (5, .int y5), (7, .int y7)]) C.x C.b dTape_operandAt_127 hl (by decide) rfl (fun ls hl => ?_)
          refine lv_iinc (v := y7 + 1) (lv' := [(7, .int (y7 + 1)), (6, .int (((10 * y6) + v94) - 48)), (8, .int v94), (0, va_rf y0), (1, .int y1), (3, .int y3), (5, .int y5)]) C.x C.b dTape_operandAt_129 hl (k := 6) rfl rfl (by decide) rfl (fun ls hl => ?_)
          refine lv_goto (tgt := 83) C.x C.b dTape_operandAt_132 (by decide) ?_
          exact ih _ _ _ _ _ _ _ _ _ M (lv_sub hl [3, 4, 5, 6, 1, 0] rfl) hf
        · rw [if_neg c110] at hf
          exact b_Tape_operandAt_113 C hr hlk hnm _ _ _ M (lv_sub hl [] rfl) hf
def f_Tape_operandAt_b73 (N : Nat) (E : hE) : Option (Int32) := (
  some (-1000000))
set_option maxHeartbeats 4000000 in
set_option maxRecDepth 100000 in
theorem b_Tape_operandAt_73 {p : Program} {l : Launch} {e : Env} {s : State} {m : MethodId} {args : Array Value} {below : List Frame} {meth : Method} {c : Code} {D : va_G} {kA : Nat → ClassId} {S : hE} {g : Nat → Nat} {n0 nx : Nat} {N : Nat} {E : hE} {res : Int32} (C : hX p s m args c prog_9_method_11_code 9 R_Tape ws_Tape_operandAt D kA S g n0) (hr : meth.sig.returnType = (some .int)) (hlk : meth.locks = false) (hnm : meth.name = "operandAt") : ∀  (H : Heap) (locs : List Loc) (ls : Array Slot), hY D kA n0 s E nx H locs → lv_has ls 9 [] → f_Tape_operandAt_b73 N E   = some res → W p l e rm_Tape_operandAt s m args below meth c H locs 0 0 (MQ below (va_Qi (fun r w => r = res ∧ w = (E, nx)) (hJ D kA S g n0) (fun q => n0 ≤ q)) args s 0 0 (fun q => n0 ≤ q)) (F0 m 73 ls []) := by
  intro  H locs ls M hl hf
  unfold f_Tape_operandAt_b73 at hf
  refine lv_ldc (v := (-1000000)) C.x C.b C.ow (C.ts (.constant R_Tape 125 (-1000000)) (List.mem_cons_of_mem _ wm_356)) dTape_operandAt_73 ?_
  cases hf
  exact w_iret C M hr hlk rfl (Nat.le_refl _) (Nat.le_refl _) dTape_operandAt_75 rfl rfl
def f_Tape_operandAt_b45 (N : Nat) (E : hE) (y0 : Option Nat) (y1 : Int32) (y3 : Int32) (t0 : Int32) : Option (Int32) := (
  (gO E y0 5).bind fun o49 =>
  (f_Tape_lengthOf E o49.1 y1).bind fun v49 =>
  if (v49 - t0) < 1 then (
  f_Tape_operandAt_b73 N E 
  ) else (
  if (v49 - t0) ≤ 6 then (
  f_Tape_operandAt_b83 N E N y0 y1 y3 v49 0 t0
  ) else (
  f_Tape_operandAt_b73 N E 
  )
  ))
set_option maxHeartbeats 4000000 in
set_option maxRecDepth 100000 in
theorem b_Tape_operandAt_45 {p : Program} {l : Launch} {e : Env} {s : State} {m : MethodId} {args : Array Value} {below : List Frame} {meth : Method} {c : Code} {D : va_G} {kA : Nat → ClassId} {S : hE} {g : Nat → Nat} {n0 nx : Nat} {N : Nat} {E : hE} {res : Int32} (C : hX p s m args c prog_9_method_11_code 9 R_Tape ws_Tape_operandAt D kA S g n0) (hr : meth.sig.returnType = (some .int)) (hlk : meth.locks = false) (hnm : meth.name = "operandAt") : ∀ (y0 : Option Nat) (y1 : Int32) (y3 : Int32) (t0 : Int32) (H : Heap) (locs : List Loc) (ls : Array Slot), hY D kA n0 s E nx H locs → lv_has ls 9 [(0, va_rf y0), (1, .int y1), (3, .int y3)] → f_Tape_operandAt_b45 N E  y0 y1 y3 t0 = some res → W p l e rm_Tape_operandAt s m args below meth c H locs 0 0 (MQ below (va_Qi (fun r w => r = res ∧ w = (E, nx)) (hJ D kA S g n0) (fun q => n0 ≤ q)) args s 0 0 (fun q => n0 ≤ q)) (F0 m 45 ls [.int t0]) := by
  intro y0 y1 y3 t0 H locs ls M hl hf
  unfold f_Tape_operandAt_b45 at hf
  refine lv_istore (lv' := [(4, .int t0), (0, va_rf y0), (1, .int y1), (3, .int y3)]) C.x C.b dTape_operandAt_45 hl (by decide) rfl (fun ls hl => ?_)
  refine w_aload_n C.x C.b dTape_operandAt_47 rfl (lv_at hl 1 rfl) ?_
  refine lv_iload_n C.x C.b dTape_operandAt_48 rfl (lv_at hl 2 rfl) ?_
  obtain ⟨o49, g49, hf⟩ := Option.bind_eq_some_iff.mp hf
  obtain ⟨v49, h49, hf⟩ := Option.bind_eq_some_iff.mp hf
  refine w_ci M (w_runV C M g49 rfl (c_Tape_lengthOf h49) (cwV 1 C.ts (hgV wm_279 wm_281 sel_Tape_lengthOf wm_2 wm_282) rfl rfl rfl (by decide +kernel) ⟨Nat.le_of_ble_eq_true rfl, Nat.le_of_ble_eq_true rfl⟩) rfl hl.1 rfl (Nat.zero_le _) dTape_operandAt_49 ⟨Nat.le_refl _, Nat.le_refl _⟩) (fun H locs M => ?_)
  refine lv_istore (lv' := [(5, .int v49), (4, .int t0), (0, va_rf y0), (1, .int y1), (3, .int y3)]) C.x C.b dTape_operandAt_52 hl (by decide) rfl (fun ls hl => ?_)
  refine lv_iload C.x C.b dTape_operandAt_54 (lv_at hl 0 rfl) ?_
  refine lv_iload C.x C.b dTape_operandAt_56 (lv_at hl 1 rfl) ?_
  refine lv_isub C.x C.b dTape_operandAt_58 ?_
  refine lv_iconst (v := 1) C.x C.b dTape_operandAt_59 (by decide) ?_
  refine lv_icmp_lt (tgt := 73) C.x C.b dTape_operandAt_60 (by decide) (fun c60 => ?_) (fun c60 => ?_)
  · rw [if_pos c60] at hf
    exact b_Tape_operandAt_73 C hr hlk hnm _ _ _ M (lv_sub hl [] rfl) hf
  · rw [if_neg c60] at hf
    refine lv_iload C.x C.b dTape_operandAt_63 (lv_at hl 0 rfl) ?_
    refine lv_iload C.x C.b dTape_operandAt_65 (lv_at hl 1 rfl) ?_
    refine lv_isub C.x C.b dTape_operandAt_67 ?_
    refine lv_bipush (v := 6) C.x C.b dTape_operandAt_68 (by decide) ?_
    refine lv_icmp_le (tgt := 76) C.x C.b dTape_operandAt_70 (by decide) (fun c70 => ?_) (fun c70 => ?_)
    · rw [if_pos c70] at hf
      refine lv_iconst (v := 0) C.x C.b dTape_operandAt_76 (by decide) ?_
      refine lv_istore (lv' := [(6, .int 0), (5, .int v49), (4, .int t0), (0, va_rf y0), (1, .int y1), (3, .int y3)]) C.x C.b dTape_operandAt_77 hl (by decide) rfl (fun ls hl => ?_)
      refine lv_iload C.x C.b dTape_operandAt_79 (lv_at hl 2 rfl) ?_
      refine lv_istore (lv' := [(7, .int t0), (6, .int 0), (5, .int v49), (4, .int t0), (0, va_rf y0), (1, .int y1), (3, .int y3)]) C.x C.b dTape_operandAt_81 hl (by decide) rfl (fun ls hl => ?_)
      exact b_Tape_operandAt_83 C hr hlk hnm N _ _ _ _ _ _ _ _ _ M (lv_sub hl [4, 5, 6, 2, 1, 0] rfl) hf
    · rw [if_neg c70] at hf
      exact b_Tape_operandAt_73 C hr hlk hnm _ _ _ M (lv_sub hl [] rfl) hf
def f_Tape_operandAt_b35 (N : Nat) (E : hE) (y0 : Option Nat) (y1 : Int32) (t0 : Int32) : Option (Int32) := (
  if t0 = 0 then (
  f_Tape_operandAt_b45 N E y0 y1 t0 0
  ) else (
  f_Tape_operandAt_b45 N E y0 y1 t0 1
  ))
set_option maxHeartbeats 4000000 in
set_option maxRecDepth 100000 in
theorem b_Tape_operandAt_35 {p : Program} {l : Launch} {e : Env} {s : State} {m : MethodId} {args : Array Value} {below : List Frame} {meth : Method} {c : Code} {D : va_G} {kA : Nat → ClassId} {S : hE} {g : Nat → Nat} {n0 nx : Nat} {N : Nat} {E : hE} {res : Int32} (C : hX p s m args c prog_9_method_11_code 9 R_Tape ws_Tape_operandAt D kA S g n0) (hr : meth.sig.returnType = (some .int)) (hlk : meth.locks = false) (hnm : meth.name = "operandAt") : ∀ (y0 : Option Nat) (y1 : Int32) (t0 : Int32) (H : Heap) (locs : List Loc) (ls : Array Slot), hY D kA n0 s E nx H locs → lv_has ls 9 [(0, va_rf y0), (1, .int y1)] → f_Tape_operandAt_b35 N E  y0 y1 t0 = some res → W p l e rm_Tape_operandAt s m args below meth c H locs 0 0 (MQ below (va_Qi (fun r w => r = res ∧ w = (E, nx)) (hJ D kA S g n0) (fun q => n0 ≤ q)) args s 0 0 (fun q => n0 ≤ q)) (F0 m 35 ls [.int t0]) := by
  intro y0 y1 t0 H locs ls M hl hf
  unfold f_Tape_operandAt_b35 at hf
  refine lv_istore_n (lv' := [(3, .int t0), (0, va_rf y0), (1, .int y1)]) C.x C.b dTape_operandAt_35 rfl hl (by decide) rfl (fun ls hl => ?_)
  refine lv_iload_n C.x C.b dTape_operandAt_36 rfl (lv_at hl 0 rfl) ?_
  refine lv_if_eq (tgt := 44) C.x C.b dTape_operandAt_37 (by decide) (fun c37 => ?_) (fun c37 => ?_)
  · rw [if_pos c37] at hf
    refine lv_iconst (v := 0) C.x C.b dTape_operandAt_44 (by decide) ?_
    exact b_Tape_operandAt_45 C hr hlk hnm _ _ _ _ _ _ _ M (lv_sub hl [1, 2, 0] rfl) hf
  · rw [if_neg c37] at hf
    refine lv_iconst (v := 1) C.x C.b dTape_operandAt_40 (by decide) ?_
    refine lv_goto (tgt := 45) C.x C.b dTape_operandAt_41 (by decide) ?_
    exact b_Tape_operandAt_45 C hr hlk hnm _ _ _ _ _ _ _ M (lv_sub hl [1, 2, 0] rfl) hf
def f_Tape_operandAt (N : Nat) (E : hE) (x0 : Nat) (x1 : Int32) : Option (Int32) := (
  (gO E (some x0) 5).bind fun o2 =>
  (f_Tape_onlyLetter E o2.1 x1).bind fun v2 =>
  (f_Tape_registerNamed E v2).bind fun v5 =>
  if v5 = (-1) then (
  (gO E (some x0) 5).bind fun o22 =>
  (f_Tape_letterAt E o22.1 x1 0).bind fun v22 =>
  if v22 = 45 then (
  f_Tape_operandAt_b35 N E (some x0) x1 1
  ) else (
  f_Tape_operandAt_b35 N E (some x0) x1 0
  )
  ) else (
  some (1000000 + v5)
  ))
set_option maxHeartbeats 4000000 in
set_option maxRecDepth 100000 in
theorem c_Tape_operandAt {l : Launch} {D : va_G} {kA : Nat → ClassId} {S : hE} {g : Nat → Nat} {n0 nx : Nat} {N : Nat} {x0 : Nat} {x1 : Int32} {E : hE} {res : Int32} (hf : f_Tape_operandAt N E x0 x1 = some res) : Met l y_Tape_operandAt ws_Tape_operandAt rm_Tape_operandAt (va_Pc [va_rf (some x0), .int x1] (hJ D kA S g n0 (E, nx))) (va_Qi (fun r w => r = res ∧ w = (E, nx)) (hJ D kA S g n0) (fun q => n0 ≤ q)) 0 0 (fun q => n0 ≤ q) := by
  refine h_met (cc := prog_9_method_11_code) (maxL := 9) (ret := (some .int)) (lvs := [(0, va_rf (some x0)), (1, .int x1)]) zZ_k (by decide) rfl (by simp [lg_sl, va_rf_cat, cat_i, cat_l, cat_n]) (by simp [lv_args, va_rf_cat, cat_i, cat_l, cat_n]) ?_
  intro p e s m below meth c ls C M hr hlk hnm hl
  unfold f_Tape_operandAt at hf
  refine w_aload_n C.x C.b dTape_operandAt_0 rfl (lv_at hl 0 rfl) ?_
  refine lv_iload_n C.x C.b dTape_operandAt_1 rfl (lv_at hl 1 rfl) ?_
  obtain ⟨o2, g2, hf⟩ := Option.bind_eq_some_iff.mp hf
  obtain ⟨v2, h2, hf⟩ := Option.bind_eq_some_iff.mp hf
  refine w_ci M (w_runV C M g2 rfl (c_Tape_onlyLetter h2) (cwV 1 C.ts (hgV wm_361 wm_363 sel_Tape_onlyLetter wm_2 wm_364) rfl rfl rfl (by decide +kernel) ⟨Nat.le_of_ble_eq_true rfl, Nat.le_of_ble_eq_true rfl⟩) rfl hl.1 rfl (Nat.zero_le _) dTape_operandAt_2 ⟨Nat.le_refl _, Nat.le_refl _⟩) (fun H locs M => ?_)
  obtain ⟨v5, h5, hf⟩ := Option.bind_eq_some_iff.mp hf
  refine w_ci M (w_runS C M (c_Tape_registerNamed h5) (cwS 1 C.ts (hgS wm_365 wm_366 wm_2 wm_367) rfl rfl rfl (by decide +kernel) ⟨Nat.le_of_ble_eq_true rfl, Nat.le_of_ble_eq_true rfl⟩) rfl hl.1 rfl (Nat.zero_le _) dTape_operandAt_5 ⟨Nat.le_refl _, Nat.le_refl _⟩) (fun H locs M => ?_)
  refine lv_istore_n (lv' := [(2, .int v5), (0, va_rf (some x0)), (1, .int x1)]) C.x C.b dTape_operandAt_8 rfl hl (by decide) rfl (fun ls hl => ?_)
  refine lv_iload_n C.x C.b dTape_operandAt_9 rfl (lv_at hl 0 rfl) ?_
  refine lv_iconst (v := (-1)) C.x C.b dTape_operandAt_10 (by decide) ?_
  refine lv_icmp_eq (tgt := 19) C.x C.b dTape_operandAt_11 (by decide) (fun c11 => ?_) (fun c11 => ?_)
  · rw [if_pos c11] at hf
    refine w_aload_n C.x C.b dTape_operandAt_19 rfl (lv_at hl 1 rfl) ?_
    refine lv_iload_n C.x C.b dTape_operandAt_20 rfl (lv_at hl 2 rfl) ?_
    refine lv_iconst (v := 0) C.x C.b dTape_operandAt_21 (by decide) ?_
    obtain ⟨o22, g22, hf⟩ := Option.bind_eq_some_iff.mp hf
    obtain ⟨v22, h22, hf⟩ := Option.bind_eq_some_iff.mp hf
    refine w_ci M (w_runV C M g22 rfl (c_Tape_letterAt h22) (cwV 2 C.ts (hgV wm_283 wm_285 sel_Tape_letterAt wm_2 wm_286) rfl rfl rfl (by decide +kernel) ⟨Nat.le_of_ble_eq_true rfl, Nat.le_of_ble_eq_true rfl⟩) rfl hl.1 rfl (Nat.zero_le _) dTape_operandAt_22 ⟨Nat.le_refl _, Nat.le_refl _⟩) (fun H locs M => ?_)
    refine lv_bipush (v := 45) C.x C.b dTape_operandAt_25 (by decide) ?_
    refine lv_icmp_ne (tgt := 34) C.x C.b dTape_operandAt_27 (by decide) (fun c27 => ?_) (fun c27 => ?_)
    · rw [if_neg c27] at hf
      refine lv_iconst (v := 0) C.x C.b dTape_operandAt_34 (by decide) ?_
      exact b_Tape_operandAt_35 C hr hlk hnm _ _ _ _ _ _ M (lv_sub hl [1, 2] rfl) hf
    · rw [if_pos c27] at hf
      refine lv_iconst (v := 1) C.x C.b dTape_operandAt_30 (by decide) ?_
      refine lv_goto (tgt := 35) C.x C.b dTape_operandAt_31 (by decide) ?_
      exact b_Tape_operandAt_35 C hr hlk hnm _ _ _ _ _ _ M (lv_sub hl [1, 2] rfl) hf
  · rw [if_neg c11] at hf
    refine lv_ldc (v := 1000000) C.x C.b C.ow (C.ts (.constant R_Tape 156 1000000) (List.mem_cons_of_mem _ wm_372)) dTape_operandAt_14 ?_
    refine lv_iload_n C.x C.b dTape_operandAt_16 rfl (lv_at hl 0 rfl) ?_
    refine lv_iadd C.x C.b dTape_operandAt_17 ?_
    cases hf
    exact w_iret C M hr hlk rfl (Nat.le_refl _) (Nat.le_refl _) dTape_operandAt_18 rfl rfl
theorem dTape_labelNamed_0 : decode prog_9_method_13_code 0 = .ok (.iload_n 0, 1) := by decide +kernel
theorem dTape_labelNamed_1 : decode prog_9_method_13_code 1 = .ok (.bipush 65, 2) := by decide +kernel
theorem dTape_labelNamed_3 : decode prog_9_method_13_code 3 = .ok (.if_icmp .lt 16, 3) := by decide +kernel
theorem dTape_labelNamed_6 : decode prog_9_method_13_code 6 = .ok (.iload_n 0, 1) := by decide +kernel
theorem dTape_labelNamed_7 : decode prog_9_method_13_code 7 = .ok (.bipush 90, 2) := by decide +kernel
theorem dTape_labelNamed_9 : decode prog_9_method_13_code 9 = .ok (.if_icmp .gt 10, 3) := by decide +kernel
theorem dTape_labelNamed_12 : decode prog_9_method_13_code 12 = .ok (.iload_n 0, 1) := by decide +kernel
theorem dTape_labelNamed_13 : decode prog_9_method_13_code 13 = .ok (.bipush 65, 2) := by decide +kernel
theorem dTape_labelNamed_15 : decode prog_9_method_13_code 15 = .ok (.isub, 1) := by decide +kernel
theorem dTape_labelNamed_16 : decode prog_9_method_13_code 16 = .ok (.goto 4, 3) := by decide +kernel
theorem dTape_labelNamed_19 : decode prog_9_method_13_code 19 = .ok (.iconst (-1), 1) := by decide +kernel
theorem dTape_labelNamed_20 : decode prog_9_method_13_code 20 = .ok (.ireturn, 1) := by decide +kernel
abbrev rm_Tape_labelNamed : Room := { frames := 0, cells := 0, slots := 0, locals := 0 }
def f_Tape_labelNamed_b20 (E : hE) (t0 : Int32) : Option (Int32) := (
  some t0)
set_option maxHeartbeats 4000000 in
set_option maxRecDepth 100000 in
theorem b_Tape_labelNamed_20 {p : Program} {l : Launch} {e : Env} {s : State} {m : MethodId} {args : Array Value} {below : List Frame} {meth : Method} {c : Code} {D : va_G} {kA : Nat → ClassId} {S : hE} {g : Nat → Nat} {n0 nx : Nat} {E : hE} {res : Int32} (C : hX p s m args c prog_9_method_13_code 1 R_Tape ws_Tape_labelNamed D kA S g n0) (hr : meth.sig.returnType = (some .int)) (hlk : meth.locks = false) (hnm : meth.name = "labelNamed") : ∀ (t0 : Int32) (H : Heap) (locs : List Loc) (ls : Array Slot), hY D kA n0 s E nx H locs → lv_has ls 1 [] → f_Tape_labelNamed_b20 E  t0 = some res → W p l e rm_Tape_labelNamed s m args below meth c H locs 0 0 (MQ below (va_Qi (fun r w => r = res ∧ w = (E, nx)) (hJ D kA S g n0) (fun q => n0 ≤ q)) args s 0 0 (fun q => n0 ≤ q)) (F0 m 20 ls [.int t0]) := by
  intro t0 H locs ls M hl hf
  unfold f_Tape_labelNamed_b20 at hf
  cases hf
  exact w_iret C M hr hlk rfl (Nat.le_refl _) (Nat.le_refl _) dTape_labelNamed_20 rfl rfl
def f_Tape_labelNamed_b19 (E : hE) : Option (Int32) := (
  f_Tape_labelNamed_b20 E (-1))
set_option maxHeartbeats 4000000 in
set_option maxRecDepth 100000 in
theorem b_Tape_labelNamed_19 {p : Program} {l : Launch} {e : Env} {s : State} {m : MethodId} {args : Array Value} {below : List Frame} {meth : Method} {c : Code} {D : va_G} {kA : Nat → ClassId} {S : hE} {g : Nat → Nat} {n0 nx : Nat} {E : hE} {res : Int32} (C : hX p s m args c prog_9_method_13_code 1 R_Tape ws_Tape_labelNamed D kA S g n0) (hr : meth.sig.returnType = (some .int)) (hlk : meth.locks = false) (hnm : meth.name = "labelNamed") : ∀  (H : Heap) (locs : List Loc) (ls : Array Slot), hY D kA n0 s E nx H locs → lv_has ls 1 [] → f_Tape_labelNamed_b19 E   = some res → W p l e rm_Tape_labelNamed s m args below meth c H locs 0 0 (MQ below (va_Qi (fun r w => r = res ∧ w = (E, nx)) (hJ D kA S g n0) (fun q => n0 ≤ q)) args s 0 0 (fun q => n0 ≤ q)) (F0 m 19 ls []) := by
  intro  H locs ls M hl hf
  unfold f_Tape_labelNamed_b19 at hf
  refine lv_iconst (v := (-1)) C.x C.b dTape_labelNamed_19 (by decide) ?_
  exact b_Tape_labelNamed_20 C hr hlk hnm _ _ _ _ M (lv_sub hl [] rfl) hf
def f_Tape_labelNamed (E : hE) (x0 : Int32) : Option (Int32) := (
  if x0 < 65 then (
  f_Tape_labelNamed_b19 E 
  ) else (
  if 90 < x0 then (
  f_Tape_labelNamed_b19 E 
  ) else (
  f_Tape_labelNamed_b20 E (x0 - 65)
  )
  ))
set_option maxHeartbeats 4000000 in
set_option maxRecDepth 100000 in
theorem c_Tape_labelNamed {l : Launch} {D : va_G} {kA : Nat → ClassId} {S : hE} {g : Nat → Nat} {n0 nx : Nat} {x0 : Int32} {E : hE} {res : Int32} (hf : f_Tape_labelNamed E x0 = some res) : Met l y_Tape_labelNamed ws_Tape_labelNamed rm_Tape_labelNamed (va_Pc [.int x0] (hJ D kA S g n0 (E, nx))) (va_Qi (fun r w => r = res ∧ w = (E, nx)) (hJ D kA S g n0) (fun q => n0 ≤ q)) 0 0 (fun q => n0 ≤ q) := by
  refine h_met (cc := prog_9_method_13_code) (maxL := 1) (ret := (some .int)) (lvs := [(0, .int x0)]) zZ_k (by decide) rfl (by simp [lg_sl, va_rf_cat, cat_i, cat_l, cat_n]) (by simp [lv_args, va_rf_cat, cat_i, cat_l, cat_n]) ?_
  intro p e s m below meth c ls C M hr hlk hnm hl
  unfold f_Tape_labelNamed at hf
  refine lv_iload_n C.x C.b dTape_labelNamed_0 rfl (lv_at hl 0 rfl) ?_
  refine lv_bipush (v := 65) C.x C.b dTape_labelNamed_1 (by decide) ?_
  refine lv_icmp_lt (tgt := 19) C.x C.b dTape_labelNamed_3 (by decide) (fun c3 => ?_) (fun c3 => ?_)
  · rw [if_pos c3] at hf
    exact b_Tape_labelNamed_19 C hr hlk hnm _ _ _ M (lv_sub hl [] rfl) hf
  · rw [if_neg c3] at hf
    refine lv_iload_n C.x C.b dTape_labelNamed_6 rfl (lv_at hl 0 rfl) ?_
    refine lv_bipush (v := 90) C.x C.b dTape_labelNamed_7 (by decide) ?_
    refine lv_icmp_gt (tgt := 19) C.x C.b dTape_labelNamed_9 (by decide) (fun c9 => ?_) (fun c9 => ?_)
    · rw [if_pos c9] at hf
      exact b_Tape_labelNamed_19 C hr hlk hnm _ _ _ M (lv_sub hl [] rfl) hf
    · rw [if_neg c9] at hf
      refine lv_iload_n C.x C.b dTape_labelNamed_12 rfl (lv_at hl 0 rfl) ?_
      refine lv_bipush (v := 65) C.x C.b dTape_labelNamed_13 (by decide) ?_
      refine lv_isub C.x C.b dTape_labelNamed_15 ?_
      refine lv_goto (tgt := 20) C.x C.b dTape_labelNamed_16 (by decide) ?_
      exact b_Tape_labelNamed_20 C hr hlk hnm _ _ _ _ M (lv_sub hl [] rfl) hf
theorem dMath_max_0 : decode prog_17_method_65_code 0 = .ok (.iload_n 0, 1) := by decide +kernel
theorem dMath_max_1 : decode prog_17_method_65_code 1 = .ok (.iload_n 1, 1) := by decide +kernel
theorem dMath_max_2 : decode prog_17_method_65_code 2 = .ok (.if_icmp .lt 7, 3) := by decide +kernel
theorem dMath_max_5 : decode prog_17_method_65_code 5 = .ok (.iload_n 0, 1) := by decide +kernel
theorem dMath_max_6 : decode prog_17_method_65_code 6 = .ok (.goto 4, 3) := by decide +kernel
theorem dMath_max_9 : decode prog_17_method_65_code 9 = .ok (.iload_n 1, 1) := by decide +kernel
theorem dMath_max_10 : decode prog_17_method_65_code 10 = .ok (.ireturn, 1) := by decide +kernel
abbrev rm_Math_max : Room := { frames := 0, cells := 0, slots := 0, locals := 0 }
def f_Math_max_b10 (E : hE) (t0 : Int32) : Option (Int32) := (
  some t0)
set_option maxHeartbeats 4000000 in
set_option maxRecDepth 100000 in
theorem b_Math_max_10 {p : Program} {l : Launch} {e : Env} {s : State} {m : MethodId} {args : Array Value} {below : List Frame} {meth : Method} {c : Code} {D : va_G} {kA : Nat → ClassId} {S : hE} {g : Nat → Nat} {n0 nx : Nat} {E : hE} {res : Int32} (C : hX p s m args c prog_17_method_65_code 2 R_Math ws_Math_max D kA S g n0) (hr : meth.sig.returnType = (some .int)) (hlk : meth.locks = false) (hnm : meth.name = "max") : ∀ (t0 : Int32) (H : Heap) (locs : List Loc) (ls : Array Slot), hY D kA n0 s E nx H locs → lv_has ls 2 [] → f_Math_max_b10 E  t0 = some res → W p l e rm_Math_max s m args below meth c H locs 0 0 (MQ below (va_Qi (fun r w => r = res ∧ w = (E, nx)) (hJ D kA S g n0) (fun q => n0 ≤ q)) args s 0 0 (fun q => n0 ≤ q)) (F0 m 10 ls [.int t0]) := by
  intro t0 H locs ls M hl hf
  unfold f_Math_max_b10 at hf
  cases hf
  exact w_iret C M hr hlk rfl (Nat.le_refl _) (Nat.le_refl _) dMath_max_10 rfl rfl
def f_Math_max (E : hE) (x0 : Int32) (x1 : Int32) : Option (Int32) := (
  if x0 < x1 then (
  f_Math_max_b10 E x1
  ) else (
  f_Math_max_b10 E x0
  ))
set_option maxHeartbeats 4000000 in
set_option maxRecDepth 100000 in
theorem c_Math_max {l : Launch} {D : va_G} {kA : Nat → ClassId} {S : hE} {g : Nat → Nat} {n0 nx : Nat} {x0 : Int32} {x1 : Int32} {E : hE} {res : Int32} (hf : f_Math_max E x0 x1 = some res) : Met l y_Math_max ws_Math_max rm_Math_max (va_Pc [.int x0, .int x1] (hJ D kA S g n0 (E, nx))) (va_Qi (fun r w => r = res ∧ w = (E, nx)) (hJ D kA S g n0) (fun q => n0 ≤ q)) 0 0 (fun q => n0 ≤ q) := by
  refine h_met (cc := prog_17_method_65_code) (maxL := 2) (ret := (some .int)) (lvs := [(0, .int x0), (1, .int x1)]) zZ_k (by decide) rfl (by simp [lg_sl, va_rf_cat, cat_i, cat_l, cat_n]) (by simp [lv_args, va_rf_cat, cat_i, cat_l, cat_n]) ?_
  intro p e s m below meth c ls C M hr hlk hnm hl
  unfold f_Math_max at hf
  refine lv_iload_n C.x C.b dMath_max_0 rfl (lv_at hl 0 rfl) ?_
  refine lv_iload_n C.x C.b dMath_max_1 rfl (lv_at hl 1 rfl) ?_
  refine lv_icmp_lt (tgt := 9) C.x C.b dMath_max_2 (by decide) (fun c2 => ?_) (fun c2 => ?_)
  · rw [if_pos c2] at hf
    refine lv_iload_n C.x C.b dMath_max_9 rfl (lv_at hl 1 rfl) ?_
    exact b_Math_max_10 C hr hlk hnm _ _ _ _ M (lv_sub hl [] rfl) hf
  · rw [if_neg c2] at hf
    refine lv_iload_n C.x C.b dMath_max_5 rfl (lv_at hl 0 rfl) ?_
    refine lv_goto (tgt := 10) C.x C.b dMath_max_6 (by decide) ?_
    exact b_Math_max_10 C hr hlk hnm _ _ _ _ M (lv_sub hl [] rfl) hf
theorem dMath_min_0 : decode prog_17_method_69_code 0 = .ok (.iload_n 0, 1) := by decide +kernel
theorem dMath_min_1 : decode prog_17_method_69_code 1 = .ok (.iload_n 1, 1) := by decide +kernel
theorem dMath_min_2 : decode prog_17_method_69_code 2 = .ok (.if_icmp .gt 7, 3) := by decide +kernel
theorem dMath_min_5 : decode prog_17_method_69_code 5 = .ok (.iload_n 0, 1) := by decide +kernel
theorem dMath_min_6 : decode prog_17_method_69_code 6 = .ok (.goto 4, 3) := by decide +kernel
theorem dMath_min_9 : decode prog_17_method_69_code 9 = .ok (.iload_n 1, 1) := by decide +kernel
theorem dMath_min_10 : decode prog_17_method_69_code 10 = .ok (.ireturn, 1) := by decide +kernel
abbrev rm_Math_min : Room := { frames := 0, cells := 0, slots := 0, locals := 0 }
def f_Math_min_b10 (E : hE) (t0 : Int32) : Option (Int32) := (
  some t0)
set_option maxHeartbeats 4000000 in
set_option maxRecDepth 100000 in
theorem b_Math_min_10 {p : Program} {l : Launch} {e : Env} {s : State} {m : MethodId} {args : Array Value} {below : List Frame} {meth : Method} {c : Code} {D : va_G} {kA : Nat → ClassId} {S : hE} {g : Nat → Nat} {n0 nx : Nat} {E : hE} {res : Int32} (C : hX p s m args c prog_17_method_69_code 2 R_Math ws_Math_min D kA S g n0) (hr : meth.sig.returnType = (some .int)) (hlk : meth.locks = false) (hnm : meth.name = "min") : ∀ (t0 : Int32) (H : Heap) (locs : List Loc) (ls : Array Slot), hY D kA n0 s E nx H locs → lv_has ls 2 [] → f_Math_min_b10 E  t0 = some res → W p l e rm_Math_min s m args below meth c H locs 0 0 (MQ below (va_Qi (fun r w => r = res ∧ w = (E, nx)) (hJ D kA S g n0) (fun q => n0 ≤ q)) args s 0 0 (fun q => n0 ≤ q)) (F0 m 10 ls [.int t0]) := by
  intro t0 H locs ls M hl hf
  unfold f_Math_min_b10 at hf
  cases hf
  exact w_iret C M hr hlk rfl (Nat.le_refl _) (Nat.le_refl _) dMath_min_10 rfl rfl
def f_Math_min (E : hE) (x0 : Int32) (x1 : Int32) : Option (Int32) := (
  if x1 < x0 then (
  f_Math_min_b10 E x1
  ) else (
  f_Math_min_b10 E x0
  ))
set_option maxHeartbeats 4000000 in
set_option maxRecDepth 100000 in
theorem c_Math_min {l : Launch} {D : va_G} {kA : Nat → ClassId} {S : hE} {g : Nat → Nat} {n0 nx : Nat} {x0 : Int32} {x1 : Int32} {E : hE} {res : Int32} (hf : f_Math_min E x0 x1 = some res) : Met l y_Math_min ws_Math_min rm_Math_min (va_Pc [.int x0, .int x1] (hJ D kA S g n0 (E, nx))) (va_Qi (fun r w => r = res ∧ w = (E, nx)) (hJ D kA S g n0) (fun q => n0 ≤ q)) 0 0 (fun q => n0 ≤ q) := by
  refine h_met (cc := prog_17_method_69_code) (maxL := 2) (ret := (some .int)) (lvs := [(0, .int x0), (1, .int x1)]) zZ_k (by decide) rfl (by simp [lg_sl, va_rf_cat, cat_i, cat_l, cat_n]) (by simp [lv_args, va_rf_cat, cat_i, cat_l, cat_n]) ?_
  intro p e s m below meth c ls C M hr hlk hnm hl
  unfold f_Math_min at hf
  refine lv_iload_n C.x C.b dMath_min_0 rfl (lv_at hl 0 rfl) ?_
  refine lv_iload_n C.x C.b dMath_min_1 rfl (lv_at hl 1 rfl) ?_
  refine lv_icmp_gt (tgt := 9) C.x C.b dMath_min_2 (by decide) (fun c2 => ?_) (fun c2 => ?_)
  · rw [if_pos c2] at hf
    refine lv_iload_n C.x C.b dMath_min_9 rfl (lv_at hl 1 rfl) ?_
    exact b_Math_min_10 C hr hlk hnm _ _ _ _ M (lv_sub hl [] rfl) hf
  · rw [if_neg c2] at hf
    refine lv_iload_n C.x C.b dMath_min_5 rfl (lv_at hl 0 rfl) ?_
    refine lv_goto (tgt := 10) C.x C.b dMath_min_6 (by decide) ?_
    exact b_Math_min_10 C hr hlk hnm _ _ _ _ M (lv_sub hl [] rfl) hf
theorem dABC_init_0 : decode prog_22_method_1_code 0 = .ok (.aload_n 0, 1) := by decide +kernel
theorem dABC_init_1 : decode prog_22_method_1_code 1 = .ok (.invokespecial 1, 3) := by decide +kernel
theorem dABC_init_4 : decode prog_22_method_1_code 4 = .ok (.return_, 1) := by decide +kernel
abbrev rm_ABC_init : Room := { frames := 1, cells := 0, slots := 0, locals := 20 }
def f_ABC_init (E : hE) (x0 : Nat) : Option (Unit) := (
  some ())
set_option maxHeartbeats 4000000 in
set_option maxRecDepth 100000 in
theorem c_ABC_init {l : Launch} {D : va_G} {kA : Nat → ClassId} {S : hE} {g : Nat → Nat} {n0 nx : Nat} {x0 : Nat} {E : hE} {res : Unit} (hf : f_ABC_init E x0 = some res) : Met l y_ABC_init ws_ABC_init rm_ABC_init (va_Pc [va_rf (some x0)] (hJ D kA S g n0 (E, nx))) (va_Qv (fun w => w = (E, nx)) (hJ D kA S g n0) (fun q => n0 ≤ q)) 0 0 (fun q => n0 ≤ q) := by
  refine h_met (cc := prog_22_method_1_code) (maxL := 1) (ret := none) (lvs := [(0, va_rf (some x0))]) zZ_k (by decide) rfl (by simp [lg_sl, va_rf_cat, cat_i, cat_l, cat_n]) (by simp [lv_args, va_rf_cat, cat_i, cat_l, cat_n]) ?_
  intro p e s m below meth c ls C M hr hlk hnm hl
  unfold f_ABC_init at hf
  refine w_aload_n C.x C.b dABC_init_0 rfl (lv_at hl 0 rfl) ?_
  refine W.objInit C.x C.b C.ow (C.ts (.methodLink R_ABC 1 objectInit) (List.mem_cons_of_mem _ wm_233)) (C.ts (.instanceMethod objectInit) (List.mem_cons_of_mem _ wm_29)) (C.ts _ (List.mem_cons_of_mem _ wm_30)) rfl (by rw [C.ml]; exact hl.1) rfl dABC_init_1 (Nat.le_of_ble_eq_true rfl) (Nat.le_of_ble_eq_true rfl) ?_
  refine W.eq (g2 := F0 m 4 ls []) rfl ?_
  cases hf
  exact w_vret C M hr hlk (Nat.le_refl _) (Nat.le_refl _) dABC_init_4 rfl
theorem dABL_init_0 : decode prog_23_method_1_code 0 = .ok (.aload_n 0, 1) := by decide +kernel
theorem dABL_init_1 : decode prog_23_method_1_code 1 = .ok (.invokespecial 1, 3) := by decide +kernel
theorem dABL_init_4 : decode prog_23_method_1_code 4 = .ok (.aload_n 0, 1) := by decide +kernel
theorem dABL_init_5 : decode prog_23_method_1_code 5 = .ok (.iconst 0, 1) := by decide +kernel
theorem dABL_init_6 : decode prog_23_method_1_code 6 = .ok (.putfield 7, 3) := by decide +kernel
theorem dABL_init_9 : decode prog_23_method_1_code 9 = .ok (.return_, 1) := by decide +kernel
abbrev rm_ABL_init : Room := { frames := 2, cells := 0, slots := 0, locals := 40 }
def f_ABL_init  (x0 : Nat) (E : hE) : Option (hE) := (
  (f_ABC_init E x0).bind fun v1 =>
  (sI E (some x0) 8 2 0).bind fun E6 =>
  some E6)
set_option maxHeartbeats 4000000 in
set_option maxRecDepth 100000 in
theorem c_ABL_init {l : Launch} {D : va_G} {kA : Nat → ClassId} {S : hE} {g : Nat → Nat} {n0 nx : Nat} {x0 : Nat} {E : hE} {res : hE} (hf : f_ABL_init x0 E = some res) : Met l y_ABL_init ws_ABL_init rm_ABL_init (va_Pc [va_rf (some x0)] (hJ D kA S g n0 (E, nx))) (va_Qv (fun w => w = (res, nx)) (hJ D kA S g n0) (fun q => n0 ≤ q)) 0 0 (fun q => n0 ≤ q) := by
  refine h_met (cc := prog_23_method_1_code) (maxL := 1) (ret := none) (lvs := [(0, va_rf (some x0))]) zZ_k (by decide) rfl (by simp [lg_sl, va_rf_cat, cat_i, cat_l, cat_n]) (by simp [lv_args, va_rf_cat, cat_i, cat_l, cat_n]) ?_
  intro p e s m below meth c ls C M hr hlk hnm hl
  unfold f_ABL_init at hf
  refine w_aload_n C.x C.b dABL_init_0 rfl (lv_at hl 0 rfl) ?_
  obtain ⟨v1, h1, hf⟩ := Option.bind_eq_some_iff.mp hf
  refine w_cv M (w_runI C M (c_ABC_init h1) (cwI 0 C.ts (hgC wm_232) rfl rfl rfl (C.ts (.initialized R_ABC) (List.mem_cons_of_mem _ wm_8)) (C.ts (.methodLink R_ABL 1 y_ABC_init) (List.mem_cons_of_mem _ wm_230)) (C.ts (.instanceMethod y_ABC_init) (List.mem_cons_of_mem _ wm_231)) rfl (by decide +kernel) ⟨Nat.le_of_ble_eq_true rfl, Nat.le_of_ble_eq_true rfl⟩) rfl hl.1 rfl (Nat.zero_le _) dABL_init_1 ⟨Nat.le_refl _, Nat.le_refl _⟩) (fun H locs M => ?_)
  refine w_aload_n C.x C.b dABL_init_4 rfl (lv_at hl 0 rfl) ?_
  refine lv_iconst (v := 0) C.x C.b dABL_init_5 (by decide) ?_
  obtain ⟨E6, h6, hf⟩ := Option.bind_eq_some_iff.mp hf
  refine w_putV (ty := .int) C M ty_AL h6 rfl (hm_in in_AL) tyok_AL nm_AL (by decide) (List.mem_cons_of_mem _ wm_238) rfl rfl (by decide +kernel) rfl rfl dABL_init_6 (fun H locs M => ?_)
  cases hf
  exact w_vret C M hr hlk (Nat.le_refl _) (Nat.le_refl _) dABL_init_9 rfl
theorem dAL_elementData_0 : decode prog_24_method_18_code 0 = .ok (.aload_n 0, 1) := by decide +kernel
theorem dAL_elementData_1 : decode prog_24_method_18_code 1 = .ok (.getfield 9, 3) := by decide +kernel
theorem dAL_elementData_4 : decode prog_24_method_18_code 4 = .ok (.iload_n 1, 1) := by decide +kernel
theorem dAL_elementData_5 : decode prog_24_method_18_code 5 = .ok (.aaload, 1) := by decide +kernel
theorem dAL_elementData_6 : decode prog_24_method_18_code 6 = .ok (.areturn, 1) := by decide +kernel
abbrev rm_AL_elementData : Room := { frames := 0, cells := 0, slots := 0, locals := 0 }
def f_AL_elementData (E : hE) (x0 : Nat) (x1 : Int32) : Option (Option Nat) := (
  (gR E (some x0) 8 0).bind fun v1 =>
  (aQ E v1 6 x1).bind fun v5 =>
  some v5)
set_option maxHeartbeats 4000000 in
set_option maxRecDepth 100000 in
theorem c_AL_elementData {l : Launch} {D : va_G} {kA : Nat → ClassId} {S : hE} {g : Nat → Nat} {n0 nx : Nat} {x0 : Nat} {x1 : Int32} {E : hE} {res : Option Nat} (hf : f_AL_elementData E x0 x1 = some res) : Met l y_AL_elementData ws_AL_elementData rm_AL_elementData (va_Pc [va_rf (some x0), .int x1] (hJ D kA S g n0 (E, nx))) (va_Qq (fun r w => r = res ∧ w = (E, nx)) (hJ D kA S g n0) (fun q => n0 ≤ q)) 0 0 (fun q => n0 ≤ q) := by
  refine h_met (cc := prog_24_method_18_code) (maxL := 2) (ret := (some (.object "java/lang/Object"))) (lvs := [(0, va_rf (some x0)), (1, .int x1)]) zZ_k (by decide) rfl (by simp [lg_sl, va_rf_cat, cat_i, cat_l, cat_n]) (by simp [lv_args, va_rf_cat, cat_i, cat_l, cat_n]) ?_
  intro p e s m below meth c ls C M hr hlk hnm hl
  unfold f_AL_elementData at hf
  refine w_aload_n C.x C.b dAL_elementData_0 rfl (lv_at hl 0 rfl) ?_
  obtain ⟨v1, h1, hf⟩ := Option.bind_eq_some_iff.mp hf
  refine w_getR C M h1 rfl (hm_in in_AL) (by decide) (List.mem_cons_of_mem _ wm_236) rfl dAL_elementData_1 ?_
  refine lv_iload_n C.x C.b dAL_elementData_4 rfl (lv_at hl 1 rfl) ?_
  obtain ⟨v5, h5, hf⟩ := Option.bind_eq_some_iff.mp hf
  refine w_aald C M h5 rfl dAL_elementData_5 ?_
  cases hf
  exact w_aret C M hr (Or.inl ⟨_, rfl⟩) hlk (Nat.le_refl _) (Nat.le_refl _) dAL_elementData_6 rfl rfl
