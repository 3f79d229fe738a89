/-! m07: by wip/whole/gen.py -/
theorem dScript_at_0 : decode prog_7_method_2_code 0 = .ok (.iload_n 1, 1) := by decide +kernel
theorem dScript_at_1 : decode prog_7_method_2_code 1 = .ok (.ifCond .lt 28, 3) := by decide +kernel
theorem dScript_at_4 : decode prog_7_method_2_code 4 = .ok (.iload_n 1, 1) := by decide +kernel
theorem dScript_at_5 : decode prog_7_method_2_code 5 = .ok (.aload_n 0, 1) := by decide +kernel
theorem dScript_at_6 : decode prog_7_method_2_code 6 = .ok (.getfield 12, 3) := by decide +kernel
theorem dScript_at_9 : decode prog_7_method_2_code 9 = .ok (.invokevirtual 28, 3) := by decide +kernel
theorem dScript_at_12 : decode prog_7_method_2_code 12 = .ok (.if_icmp .ge 17, 3) := by decide +kernel
theorem dScript_at_15 : decode prog_7_method_2_code 15 = .ok (.aload_n 0, 1) := by decide +kernel
theorem dScript_at_16 : decode prog_7_method_2_code 16 = .ok (.getfield 12, 3) := by decide +kernel
theorem dScript_at_19 : decode prog_7_method_2_code 19 = .ok (.iload_n 1, 1) := by decide +kernel
theorem dScript_at_20 : decode prog_7_method_2_code 20 = .ok (.invokevirtual 32, 3) := by decide +kernel
theorem dScript_at_23 : decode prog_7_method_2_code 23 = .ok (.checkcast 36, 3) := by decide +kernel
theorem dScript_at_26 : decode prog_7_method_2_code 26 = .ok (.goto 4, 3) := by decide +kernel
theorem dScript_at_29 : decode prog_7_method_2_code 29 = .ok (.aconst_null, 1) := by decide +kernel
theorem dScript_at_30 : decode prog_7_method_2_code 30 = .ok (.areturn, 1) := by decide +kernel
abbrev rm_Script_at : Room := { frames := 3, cells := 0, slots := 0, locals := 64 }
def f_Script_at_b30 (E : hE) (t0 : Option Nat) : Option (Option Nat) := (
  some t0)
set_option maxHeartbeats 4000000 in
set_option maxRecDepth 100000 in
theorem b_Script_at_30 {p : Program} {l : Launch} {e : Env} {s : State} {m : MethodId} {args : Array Value} {below : List Frame} {meth : Method} {c : Code} {D : va_G} {kA : Nat → ClassId} {S : hE} {g : Nat → Nat} {n0 nx : Nat} {E : hE} {res : Option Nat} (C : hX p s m args c prog_7_method_2_code 2 R_Script ws_Script_at D kA S g n0) (hr : meth.sig.returnType = (some (.object "StepPrograms$Statement"))) (hlk : meth.locks = false) (hnm : meth.name = "at") : ∀ (t0 : Option Nat) (H : Heap) (locs : List Loc) (ls : Array Slot), hY D kA n0 s E nx H locs → lv_has ls 2 [] → f_Script_at_b30 E  t0 = some res → W p l e rm_Script_at s m args below meth c H locs 0 0 (MQ below (va_Qq (fun r w => r = res ∧ w = (E, nx)) (hJ D kA S g n0) (fun q => n0 ≤ q)) args s 0 0 (fun q => n0 ≤ q)) (F0 m 30 ls [va_rf t0]) := by
  intro t0 H locs ls M hl hf
  unfold f_Script_at_b30 at hf
  cases hf
  exact w_aret C M hr (Or.inl ⟨_, rfl⟩) hlk (Nat.le_refl _) (Nat.le_refl _) dScript_at_30 rfl rfl
def f_Script_at_b29 (E : hE) : Option (Option Nat) := (
  f_Script_at_b30 E none)
set_option maxHeartbeats 4000000 in
set_option maxRecDepth 100000 in
theorem b_Script_at_29 {p : Program} {l : Launch} {e : Env} {s : State} {m : MethodId} {args : Array Value} {below : List Frame} {meth : Method} {c : Code} {D : va_G} {kA : Nat → ClassId} {S : hE} {g : Nat → Nat} {n0 nx : Nat} {E : hE} {res : Option Nat} (C : hX p s m args c prog_7_method_2_code 2 R_Script ws_Script_at D kA S g n0) (hr : meth.sig.returnType = (some (.object "StepPrograms$Statement"))) (hlk : meth.locks = false) (hnm : meth.name = "at") : ∀  (H : Heap) (locs : List Loc) (ls : Array Slot), hY D kA n0 s E nx H locs → lv_has ls 2 [] → f_Script_at_b29 E   = some res → W p l e rm_Script_at s m args below meth c H locs 0 0 (MQ below (va_Qq (fun r w => r = res ∧ w = (E, nx)) (hJ D kA S g n0) (fun q => n0 ≤ q)) args s 0 0 (fun q => n0 ≤ q)) (F0 m 29 ls []) := by
  intro  H locs ls M hl hf
  unfold f_Script_at_b29 at hf
  refine lv_null C.x C.b dScript_at_29 ?_
  exact b_Script_at_30 C hr hlk hnm _ _ _ _ M (lv_sub hl [] rfl) hf
def f_Script_at (E : hE) (x0 : Nat) (x1 : Int32) : Option (Option Nat) := (
  if x1 < 0 then (
  f_Script_at_b29 E 
  ) else (
  (gR E (some x0) 3 0).bind fun v6 =>
  (gO E v6 8).bind fun o9 =>
  (f_AL_size E o9.1).bind fun v9 =>
  if v9 ≤ x1 then (
  f_Script_at_b29 E 
  ) else (
  (gR E (some x0) 3 0).bind fun v16 =>
  (gO E v16 8).bind fun o20 =>
  (f_AL_get E o20.1 x1).bind fun v20 =>
  (kC E v20 4).bind fun _ =>
  f_Script_at_b30 E v20
  )
  ))
set_option maxHeartbeats 4000000 in
set_option maxRecDepth 100000 in
theorem c_Script_at {l : Launch} {D : va_G} {kA : Nat → ClassId} {S : hE} {g : Nat → Nat} {n0 nx : Nat} {x0 : Nat} {x1 : Int32} {E : hE} {res : Option Nat} (hf : f_Script_at E x0 x1 = some res) : Met l y_Script_at ws_Script_at rm_Script_at (va_Pc [va_rf (some x0), .int x1] (hJ D kA S g n0 (E, nx))) (va_Qq (fun r w => r = res ∧ w = (E, nx)) (hJ D kA S g n0) (fun q => n0 ≤ q)) 0 0 (fun q => n0 ≤ q) := by
  refine h_met (cc := prog_7_method_2_code) (maxL := 2) (ret := (some (.object "StepPrograms$Statement"))) (lvs := [(0, va_rf (some x0)), (1, .int x1)]) zZ_k (by decide) rfl (by simp [lg_sl, va_rf_cat, cat_i, cat_l, cat_n]) (by simp [lv_args, va_rf_cat, cat_i, cat_l, cat_n]) ?_
  intro p e s m below meth c ls C M hr hlk hnm hl
  unfold f_Script_at at hf
  refine lv_iload_n C.x C.b dScript_at_0 rfl (lv_at hl 1 rfl) ?_
  refine lv_if_lt (tgt := 29) C.x C.b dScript_at_1 (by decide) (fun c1 => ?_) (fun c1 => ?_)
  · rw [if_pos c1] at hf
    exact b_Script_at_29 C hr hlk hnm _ _ _ M (lv_sub hl [] rfl) hf
  · rw [if_neg c1] at hf
    refine lv_iload_n C.x C.b dScript_at_4 rfl (lv_at hl 1 rfl) ?_
    refine w_aload_n C.x C.b dScript_at_5 rfl (lv_at hl 0 rfl) ?_
    obtain ⟨v6, h6, hf⟩ := Option.bind_eq_some_iff.mp hf
    refine w_getR C M h6 rfl (hm_in in_Script) (by decide) (List.mem_cons_of_mem _ wm_250) rfl dScript_at_6 ?_
    obtain ⟨o9, g9, hf⟩ := Option.bind_eq_some_iff.mp hf
    obtain ⟨v9, h9, hf⟩ := Option.bind_eq_some_iff.mp hf
    refine w_ci M (w_runV C M g9 rfl (c_AL_size h9) (cwV 0 C.ts (hgV wm_293 wm_294 wm_295 wm_10 wm_296) rfl rfl rfl (by decide +kernel) ⟨Nat.le_of_ble_eq_true rfl, Nat.le_of_ble_eq_true rfl⟩) rfl hl.1 rfl (by simp [va_rf_cat, cat_i, cat_l, cat_n]) dScript_at_9 ⟨Nat.le_refl _, Nat.le_refl _⟩) (fun H locs M => ?_)
    refine lv_icmp_ge (tgt := 29) C.x C.b dScript_at_12 (by decide) (fun c12 => ?_) (fun c12 => ?_)
    · rw [if_pos c12] at hf
      exact b_Script_at_29 C hr hlk hnm _ _ _ M (lv_sub hl [] rfl) hf
    · rw [if_neg c12] at hf
      refine w_aload_n C.x C.b dScript_at_15 rfl (lv_at hl 0 rfl) ?_
      obtain ⟨v16, h16, hf⟩ := Option.bind_eq_some_iff.mp hf
      refine w_getR C M h16 rfl (hm_in in_Script) (by decide) (List.mem_cons_of_mem _ wm_250) rfl dScript_at_16 ?_
      refine lv_iload_n C.x C.b dScript_at_19 rfl (lv_at hl 1 rfl) ?_
      obtain ⟨o20, g20, hf⟩ := Option.bind_eq_some_iff.mp hf
      obtain ⟨v20, h20, hf⟩ := Option.bind_eq_some_iff.mp hf
      refine w_cq M (w_runV C M g20 rfl (c_AL_get h20) (cwV 1 C.ts (hgV wm_532 wm_533 wm_534 wm_10 wm_535) rfl rfl rfl (by decide +kernel) ⟨Nat.le_of_ble_eq_true rfl, Nat.le_of_ble_eq_true rfl⟩) rfl hl.1 rfl (Nat.zero_le _) dScript_at_20 ⟨Nat.le_refl _, Nat.le_refl _⟩) (fun H locs M => ?_)
      obtain ⟨u23, h23, hf⟩ := Option.bind_eq_some_iff.mp hf
      refine w_cast C M h23 rfl (List.mem_cons_of_mem _ wm_544) (zZ_cc C.z) dScript_at_23 ?_
      refine lv_goto (tgt := 30) C.x C.b dScript_at_26 (by decide) ?_
      exact b_Script_at_30 C hr hlk hnm _ _ _ _ M (lv_sub hl [] rfl) hf
theorem dMach_divided_0 : decode prog_5_method_8_code 0 = .ok (.iload_n 2, 1) := by decide +kernel
theorem dMach_divided_1 : decode prog_5_method_8_code 1 = .ok (.ifCond .ne 5, 3) := by decide +kernel
theorem dMach_divided_4 : decode prog_5_method_8_code 4 = .ok (.iconst 0, 1) := by decide +kernel
theorem dMach_divided_5 : decode prog_5_method_8_code 5 = .ok (.ireturn, 1) := by decide +kernel
theorem dMach_divided_6 : decode prog_5_method_8_code 6 = .ok (.iload_n 1, 1) := by decide +kernel
theorem dMach_divided_7 : decode prog_5_method_8_code 7 = .ok (.bipush 47, 2) := by decide +kernel
theorem dMach_divided_9 : decode prog_5_method_8_code 9 = .ok (.if_icmp .ne 9, 3) := by decide +kernel
theorem dMach_divided_12 : decode prog_5_method_8_code 12 = .ok (.iload_n 0, 1) := by decide +kernel
theorem dMach_divided_13 : decode prog_5_method_8_code 13 = .ok (.iload_n 2, 1) := by decide +kernel
theorem dMach_divided_14 : decode prog_5_method_8_code 14 = .ok (.idiv, 1) := by decide +kernel
theorem dMach_divided_15 : decode prog_5_method_8_code 15 = .ok (.goto 6, 3) := by decide +kernel
theorem dMach_divided_18 : decode prog_5_method_8_code 18 = .ok (.iload_n 0, 1) := by decide +kernel
theorem dMach_divided_19 : decode prog_5_method_8_code 19 = .ok (.iload_n 2, 1) := by decide +kernel
theorem dMach_divided_20 : decode prog_5_method_8_code 20 = .ok (.irem, 1) := by decide +kernel
theorem dMach_divided_21 : decode prog_5_method_8_code 21 = .ok (.ireturn, 1) := by decide +kernel
abbrev rm_Mach_divided : Room := { frames := 0, cells := 0, slots := 0, locals := 0 }
def f_Mach_divided_b21 (E : hE) (t0 : Int32) : Option (Int32) := (
  some t0)
set_option maxHeartbeats 4000000 in
set_option maxRecDepth 100000 in
theorem b_Mach_divided_21 {p : Program} {l : Launch} {e : Env} {s : State} {m : MethodId} {args : Array Value} {below : List Frame} {meth : Method} {c : Code} {D : va_G} {kA : Nat → ClassId} {S : hE} {g : Nat → Nat} {n0 nx : Nat} {E : hE} {res : Int32} (C : hX p s m args c prog_5_method_8_code 3 R_Mach ws_Mach_divided D kA S g n0) (hr : meth.sig.returnType = (some .int)) (hlk : meth.locks = false) (hnm : meth.name = "divided") : ∀ (t0 : Int32) (H : Heap) (locs : List Loc) (ls : Array Slot), hY D kA n0 s E nx H locs → lv_has ls 3 [] → f_Mach_divided_b21 E  t0 = some res → W p l e rm_Mach_divided s m args below meth c H locs 0 0 (MQ below (va_Qi (fun r w => r = res ∧ w = (E, nx)) (hJ D kA S g n0) (fun q => n0 ≤ q)) args s 0 0 (fun q => n0 ≤ q)) (F0 m 21 ls [.int t0]) := by
  intro t0 H locs ls M hl hf
  unfold f_Mach_divided_b21 at hf
  cases hf
  exact w_iret C M hr hlk rfl (Nat.le_refl _) (Nat.le_refl _) dMach_divided_21 rfl rfl
def f_Mach_divided (E : hE) (x0 : Int32) (x1 : Int32) (x2 : Int32) : Option (Int32) := (
  if x2 = 0 then (
  some 0
  ) else (
  if x1 = 47 then (
  if x2 = 0 then none else (
  f_Mach_divided_b21 E (x0 / x2)
  )
  ) else (
  if x2 = 0 then none else (
  f_Mach_divided_b21 E (x0 - x0 / x2 * x2)
  )
  )
  ))
set_option maxHeartbeats 4000000 in
set_option maxRecDepth 100000 in
theorem c_Mach_divided {l : Launch} {D : va_G} {kA : Nat → ClassId} {S : hE} {g : Nat → Nat} {n0 nx : Nat} {x0 : Int32} {x1 : Int32} {x2 : Int32} {E : hE} {res : Int32} (hf : f_Mach_divided E x0 x1 x2 = some res) : Met l y_Mach_divided ws_Mach_divided rm_Mach_divided (va_Pc [.int x0, .int x1, .int x2] (hJ D kA S g n0 (E, nx))) (va_Qi (fun r w => r = res ∧ w = (E, nx)) (hJ D kA S g n0) (fun q => n0 ≤ q)) 0 0 (fun q => n0 ≤ q) := by
  refine h_met (cc := prog_5_method_8_code) (maxL := 3) (ret := (some .int)) (lvs := [(0, .int x0), (1, .int x1), (2, .int x2)]) zZ_k (by decide) rfl (by simp [lg_sl, va_rf_cat, cat_i, cat_l, cat_n]) (by simp [lv_args, va_rf_cat, cat_i, cat_l, cat_n]) ?_
  intro p e s m below meth c ls C M hr hlk hnm hl
  unfold f_Mach_divided at hf
  refine lv_iload_n C.x C.b dMach_divided_0 rfl (lv_at hl 2 rfl) ?_
  refine lv_if_ne (tgt := 6) C.x C.b dMach_divided_1 (by decide) (fun c1 => ?_) (fun c1 => ?_)
  · rw [if_neg c1] at hf
    refine lv_iload_n C.x C.b dMach_divided_6 rfl (lv_at hl 1 rfl) ?_
    refine lv_bipush (v := 47) C.x C.b dMach_divided_7 (by decide) ?_
    refine lv_icmp_ne (tgt := 18) C.x C.b dMach_divided_9 (by decide) (fun c9 => ?_) (fun c9 => ?_)
    · rw [if_neg c9] at hf
      refine lv_iload_n C.x C.b dMach_divided_18 rfl (lv_at hl 0 rfl) ?_
      refine lv_iload_n C.x C.b dMach_divided_19 rfl (lv_at hl 2 rfl) ?_
      have c20 : ¬ x2 = 0 := fun z => by rw [if_pos z] at hf; cases hf
      rw [if_neg c20] at hf
      refine lv_irem C.x C.b dMach_divided_20 c20 ?_
      exact b_Mach_divided_21 C hr hlk hnm _ _ _ _ M (lv_sub hl [] rfl) hf
    · rw [if_pos c9] at hf
      refine lv_iload_n C.x C.b dMach_divided_12 rfl (lv_at hl 0 rfl) ?_
      refine lv_iload_n C.x C.b dMach_divided_13 rfl (lv_at hl 2 rfl) ?_
      have c14 : ¬ x2 = 0 := fun z => by rw [if_pos z] at hf; cases hf
      rw [if_neg c14] at hf
      refine lv_idiv C.x C.b dMach_divided_14 c14 ?_
      refine lv_goto (tgt := 21) C.x C.b dMach_divided_15 (by decide) ?_
      exact b_Mach_divided_21 C hr hlk hnm _ _ _ _ M (lv_sub hl [] rfl) hf
  · rw [if_pos c1] at hf
    refine lv_iconst (v := 0) C.x C.b dMach_divided_4 (by decide) ?_
    cases hf
    exact w_iret C M hr hlk rfl (Nat.le_refl _) (Nat.le_refl _) dMach_divided_5 rfl rfl
theorem dMach_holds_0 : decode prog_5_method_10_code 0 = .ok (.iload_n 1, 1) := by decide +kernel
theorem dMach_holds_1 : decode prog_5_method_10_code 1 = .ok (.lookupswitch 49 #[(60, 27), (61, 38)], 27) := by decide +kernel
theorem dMach_holds_28 : decode prog_5_method_10_code 28 = .ok (.iload_n 0, 1) := by decide +kernel
theorem dMach_holds_29 : decode prog_5_method_10_code 29 = .ok (.iload_n 2, 1) := by decide +kernel
theorem dMach_holds_30 : decode prog_5_method_10_code 30 = .ok (.if_icmp .ge 7, 3) := by decide +kernel
theorem dMach_holds_33 : decode prog_5_method_10_code 33 = .ok (.iconst 1, 1) := by decide +kernel
theorem dMach_holds_34 : decode prog_5_method_10_code 34 = .ok (.goto 4, 3) := by decide +kernel
theorem dMach_holds_37 : decode prog_5_method_10_code 37 = .ok (.iconst 0, 1) := by decide +kernel
theorem dMach_holds_38 : decode prog_5_method_10_code 38 = .ok (.ireturn, 1) := by decide +kernel
theorem dMach_holds_39 : decode prog_5_method_10_code 39 = .ok (.iload_n 0, 1) := by decide +kernel
theorem dMach_holds_40 : decode prog_5_method_10_code 40 = .ok (.iload_n 2, 1) := by decide +kernel
theorem dMach_holds_41 : decode prog_5_method_10_code 41 = .ok (.if_icmp .ne 7, 3) := by decide +kernel
theorem dMach_holds_44 : decode prog_5_method_10_code 44 = .ok (.iconst 1, 1) := by decide +kernel
theorem dMach_holds_45 : decode prog_5_method_10_code 45 = .ok (.goto 4, 3) := by decide +kernel
theorem dMach_holds_48 : decode prog_5_method_10_code 48 = .ok (.iconst 0, 1) := by decide +kernel
theorem dMach_holds_49 : decode prog_5_method_10_code 49 = .ok (.ireturn, 1) := by decide +kernel
theorem dMach_holds_50 : decode prog_5_method_10_code 50 = .ok (.iload_n 0, 1) := by decide +kernel
theorem dMach_holds_51 : decode prog_5_method_10_code 51 = .ok (.iload_n 2, 1) := by decide +kernel
theorem dMach_holds_52 : decode prog_5_method_10_code 52 = .ok (.if_icmp .le 7, 3) := by decide +kernel
theorem dMach_holds_55 : decode prog_5_method_10_code 55 = .ok (.iconst 1, 1) := by decide +kernel
theorem dMach_holds_56 : decode prog_5_method_10_code 56 = .ok (.goto 4, 3) := by decide +kernel
theorem dMach_holds_59 : decode prog_5_method_10_code 59 = .ok (.iconst 0, 1) := by decide +kernel
theorem dMach_holds_60 : decode prog_5_method_10_code 60 = .ok (.ireturn, 1) := by decide +kernel
abbrev rm_Mach_holds : Room := { frames := 0, cells := 0, slots := 0, locals := 0 }
def f_Mach_holds_b60 (E : hE) (t0 : Int32) : Option (Int32) := (
  (bZ t0).bind fun v60 =>
  some v60)
set_option maxHeartbeats 4000000 in
set_option maxRecDepth 100000 in
theorem b_Mach_holds_60 {p : Program} {l : Launch} {e : Env} {s : State} {m : MethodId} {args : Array Value} {below : List Frame} {meth : Method} {c : Code} {D : va_G} {kA : Nat → ClassId} {S : hE} {g : Nat → Nat} {n0 nx : Nat} {E : hE} {res : Int32} (C : hX p s m args c prog_5_method_10_code 3 R_Mach ws_Mach_holds D kA S g n0) (hr : meth.sig.returnType = (some .boolean)) (hlk : meth.locks = false) (hnm : meth.name = "holds") : ∀ (t0 : Int32) (H : Heap) (locs : List Loc) (ls : Array Slot), hY D kA n0 s E nx H locs → lv_has ls 3 [] → f_Mach_holds_b60 E  t0 = some res → W p l e rm_Mach_holds s m args below meth c H locs 0 0 (MQ below (va_Qi (fun r w => r = res ∧ w = (E, nx)) (hJ D kA S g n0) (fun q => n0 ≤ q)) args s 0 0 (fun q => n0 ≤ q)) (F0 m 60 ls [.int t0]) := by
  intro t0 H locs ls M hl hf
  unfold f_Mach_holds_b60 at hf
  obtain ⟨v60, h60, hf⟩ := Option.bind_eq_some_iff.mp hf
  obtain ⟨rfl, g60⟩ := bZ_some h60
  cases hf
  exact w_iret C M hr hlk (narrow_z g60) (Nat.le_refl _) (Nat.le_refl _) dMach_holds_60 rfl rfl
def f_Mach_holds_b49 (E : hE) (t0 : Int32) : Option (Int32) := (
  (bZ t0).bind fun v49 =>
  some v49)
set_option maxHeartbeats 4000000 in
set_option maxRecDepth 100000 in
theorem b_Mach_holds_49 {p : Program} {l : Launch} {e : Env} {s : State} {m : MethodId} {args : Array Value} {below : List Frame} {meth : Method} {c : Code} {D : va_G} {kA : Nat → ClassId} {S : hE} {g : Nat → Nat} {n0 nx : Nat} {E : hE} {res : Int32} (C : hX p s m args c prog_5_method_10_code 3 R_Mach ws_Mach_holds D kA S g n0) (hr : meth.sig.returnType = (some .boolean)) (hlk : meth.locks = false) (hnm : meth.name = "holds") : ∀ (t0 : Int32) (H : Heap) (locs : List Loc) (ls : Array Slot), hY D kA n0 s E nx H locs → lv_has ls 3 [] → f_Mach_holds_b49 E  t0 = some res → W p l e rm_Mach_holds s m args below meth c H locs 0 0 (MQ below (va_Qi (fun r w => r = res ∧ w = (E, nx)) (hJ D kA S g n0) (fun q => n0 ≤ q)) args s 0 0 (fun q => n0 ≤ q)) (F0 m 49 ls [.int t0]) := by
  intro t0 H locs ls M hl hf
  unfold f_Mach_holds_b49 at hf
  obtain ⟨v49, h49, hf⟩ := Option.bind_eq_some_iff.mp hf
  obtain ⟨rfl, g49⟩ := bZ_some h49
  cases hf
  exact w_iret C M hr hlk (narrow_z g49) (Nat.le_refl _) (Nat.le_refl _) dMach_holds_49 rfl rfl
def f_Mach_holds_b38 (E : hE) (t0 : Int32) : Option (Int32) := (
  (bZ t0).bind fun v38 =>
  some v38)
set_option maxHeartbeats 4000000 in
set_option maxRecDepth 100000 in
theorem b_Mach_holds_38 {p : Program} {l : Launch} {e : Env} {s : State} {m : MethodId} {args : Array Value} {below : List Frame} {meth : Method} {c : Code} {D : va_G} {kA : Nat → ClassId} {S : hE} {g : Nat → Nat} {n0 nx : Nat} {E : hE} {res : Int32} (C : hX p s m args c prog_5_method_10_code 3 R_Mach ws_Mach_holds D kA S g n0) (hr : meth.sig.returnType = (some .boolean)) (hlk : meth.locks = false) (hnm : meth.name = "holds") : ∀ (t0 : Int32) (H : Heap) (locs : List Loc) (ls : Array Slot), hY D kA n0 s E nx H locs → lv_has ls 3 [] → f_Mach_holds_b38 E  t0 = some res → W p l e rm_Mach_holds s m args below meth c H locs 0 0 (MQ below (va_Qi (fun r w => r = res ∧ w = (E, nx)) (hJ D kA S g n0) (fun q => n0 ≤ q)) args s 0 0 (fun q => n0 ≤ q)) (F0 m 38 ls [.int t0]) := by
  intro t0 H locs ls M hl hf
  unfold f_Mach_holds_b38 at hf
  obtain ⟨v38, h38, hf⟩ := Option.bind_eq_some_iff.mp hf
  obtain ⟨rfl, g38⟩ := bZ_some h38
  cases hf
  exact w_iret C M hr hlk (narrow_z g38) (Nat.le_refl _) (Nat.le_refl _) dMach_holds_38 rfl rfl
def f_Mach_holds (E : hE) (x0 : Int32) (x1 : Int32) (x2 : Int32) : Option (Int32) := (
  if x1 = 60 then (
  if x2 ≤ x0 then (
  f_Mach_holds_b38 E 0
  ) else (
  f_Mach_holds_b38 E 1
  )
  ) else (
  if x1 = 61 then (
  if x0 = x2 then (
  f_Mach_holds_b49 E 1
  ) else (
  f_Mach_holds_b49 E 0
  )
  ) else (
  if x0 ≤ x2 then (
  f_Mach_holds_b60 E 0
  ) else (
  f_Mach_holds_b60 E 1
  )
  )))
set_option maxHeartbeats 4000000 in
set_option maxRecDepth 100000 in
theorem c_Mach_holds {l : Launch} {D : va_G} {kA : Nat → ClassId} {S : hE} {g : Nat → Nat} {n0 nx : Nat} {x0 : Int32} {x1 : Int32} {x2 : Int32} {E : hE} {res : Int32} (hf : f_Mach_holds E x0 x1 x2 = some res) : Met l y_Mach_holds ws_Mach_holds rm_Mach_holds (va_Pc [.int x0, .int x1, .int x2] (hJ D kA S g n0 (E, nx))) (va_Qi (fun r w => r = res ∧ w = (E, nx)) (hJ D kA S g n0) (fun q => n0 ≤ q)) 0 0 (fun q => n0 ≤ q) := by
  refine h_met (cc := prog_5_method_10_code) (maxL := 3) (ret := (some .boolean)) (lvs := [(0, .int x0), (1, .int x1), (2, .int x2)]) zZ_k (by decide) rfl (by simp [lg_sl, va_rf_cat, cat_i, cat_l, cat_n]) (by simp [lv_args, va_rf_cat, cat_i, cat_l, cat_n]) ?_
  intro p e s m below meth c ls C M hr hlk hnm hl
  unfold f_Mach_holds at hf
  refine lv_iload_n C.x C.b dMach_holds_0 rfl (lv_at hl 1 rfl) ?_
  by_cases c1_0 : x1 = 60
  · rw [if_pos c1_0] at hf
    refine lv_lookup (off := 27) (tgt := 28) C.x C.b dMach_holds_1 (by decide) (by rw [c1_0] <;> rfl) (by decide) ?_
    refine lv_iload_n C.x C.b dMach_holds_28 rfl (lv_at hl 0 rfl) ?_
    refine lv_iload_n C.x C.b dMach_holds_29 rfl (lv_at hl 2 rfl) ?_
    refine lv_icmp_ge (tgt := 37) C.x C.b dMach_holds_30 (by decide) (fun c30 => ?_) (fun c30 => ?_)
    · rw [if_pos c30] at hf
      refine lv_iconst (v := 0) C.x C.b dMach_holds_37 (by decide) ?_
      exact b_Mach_holds_38 C hr hlk hnm _ _ _ _ M (lv_sub hl [] rfl) hf
    · rw [if_neg c30] at hf
      refine lv_iconst (v := 1) C.x C.b dMach_holds_33 (by decide) ?_
      refine lv_goto (tgt := 38) C.x C.b dMach_holds_34 (by decide) ?_
      exact b_Mach_holds_38 C hr hlk hnm _ _ _ _ M (lv_sub hl [] rfl) hf
  · rw [if_neg c1_0] at hf
    by_cases c1_1 : x1 = 61
    · rw [if_pos c1_1] at hf
      refine lv_lookup (off := 38) (tgt := 39) C.x C.b dMach_holds_1 (by decide) (by rw [c1_1] <;> rfl) (by decide) ?_
      refine lv_iload_n C.x C.b dMach_holds_39 rfl (lv_at hl 0 rfl) ?_
      refine lv_iload_n C.x C.b dMach_holds_40 rfl (lv_at hl 2 rfl) ?_
      refine lv_icmp_ne (tgt := 48) C.x C.b dMach_holds_41 (by decide) (fun c41 => ?_) (fun c41 => ?_)
      · rw [if_neg c41] at hf
        refine lv_iconst (v := 0) C.x C.b dMach_holds_48 (by decide) ?_
        exact b_Mach_holds_49 C hr hlk hnm _ _ _ _ M (lv_sub hl [] rfl) hf
      · rw [if_pos c41] at hf
        refine lv_iconst (v := 1) C.x C.b dMach_holds_44 (by decide) ?_
        refine lv_goto (tgt := 49) C.x C.b dMach_holds_45 (by decide) ?_
        exact b_Mach_holds_49 C hr hlk hnm _ _ _ _ M (lv_sub hl [] rfl) hf
    · rw [if_neg c1_1] at hf
      refine lv_lookup (off := 49) (tgt := 50) C.x C.b dMach_holds_1 (by decide) (by rw [lv_osw c1_0 (by decide), lv_osw c1_1 (by decide)] <;> rfl) (by decide) ?_
      refine lv_iload_n C.x C.b dMach_holds_50 rfl (lv_at hl 0 rfl) ?_
      refine lv_iload_n C.x C.b dMach_holds_51 rfl (lv_at hl 2 rfl) ?_
      refine lv_icmp_le (tgt := 59) C.x C.b dMach_holds_52 (by decide) (fun c52 => ?_) (fun c52 => ?_)
      · rw [if_pos c52] at hf
        refine lv_iconst (v := 0) C.x C.b dMach_holds_59 (by decide) ?_
        exact b_Mach_holds_60 C hr hlk hnm _ _ _ _ M (lv_sub hl [] rfl) hf
      · rw [if_neg c52] at hf
        refine lv_iconst (v := 1) C.x C.b dMach_holds_55 (by decide) ?_
        refine lv_goto (tgt := 60) C.x C.b dMach_holds_56 (by decide) ?_
        exact b_Mach_holds_60 C hr hlk hnm _ _ _ _ M (lv_sub hl [] rfl) hf
theorem dMach_combined_0 : decode prog_5_method_9_code 0 = .ok (.iload_n 1, 1) := by decide +kernel
theorem dMach_combined_1 : decode prog_5_method_9_code 1 = .ok (.lookupswitch 83 #[(38, 71), (42, 67), (43, 59), (45, 63), (94, 79), (124, 75)], 59) := by decide +kernel
theorem dMach_combined_60 : decode prog_5_method_9_code 60 = .ok (.iload_n 0, 1) := by decide +kernel
theorem dMach_combined_61 : decode prog_5_method_9_code 61 = .ok (.iload_n 2, 1) := by decide +kernel
theorem dMach_combined_62 : decode prog_5_method_9_code 62 = .ok (.iadd, 1) := by decide +kernel
theorem dMach_combined_63 : decode prog_5_method_9_code 63 = .ok (.ireturn, 1) := by decide +kernel
theorem dMach_combined_64 : decode prog_5_method_9_code 64 = .ok (.iload_n 0, 1) := by decide +kernel
theorem dMach_combined_65 : decode prog_5_method_9_code 65 = .ok (.iload_n 2, 1) := by decide +kernel
theorem dMach_combined_66 : decode prog_5_method_9_code 66 = .ok (.isub, 1) := by decide +kernel
theorem dMach_combined_67 : decode prog_5_method_9_code 67 = .ok (.ireturn, 1) := by decide +kernel
theorem dMach_combined_68 : decode prog_5_method_9_code 68 = .ok (.iload_n 0, 1) := by decide +kernel
theorem dMach_combined_69 : decode prog_5_method_9_code 69 = .ok (.iload_n 2, 1) := by decide +kernel
theorem dMach_combined_70 : decode prog_5_method_9_code 70 = .ok (.imul, 1) := by decide +kernel
theorem dMach_combined_71 : decode prog_5_method_9_code 71 = .ok (.ireturn, 1) := by decide +kernel
theorem dMach_combined_72 : decode prog_5_method_9_code 72 = .ok (.iload_n 0, 1) := by decide +kernel
theorem dMach_combined_73 : decode prog_5_method_9_code 73 = .ok (.iload_n 2, 1) := by decide +kernel
theorem dMach_combined_74 : decode prog_5_method_9_code 74 = .ok (.iand, 1) := by decide +kernel
theorem dMach_combined_75 : decode prog_5_method_9_code 75 = .ok (.ireturn, 1) := by decide +kernel
theorem dMach_combined_76 : decode prog_5_method_9_code 76 = .ok (.iload_n 0, 1) := by decide +kernel
theorem dMach_combined_77 : decode prog_5_method_9_code 77 = .ok (.iload_n 2, 1) := by decide +kernel
theorem dMach_combined_78 : decode prog_5_method_9_code 78 = .ok (.ior, 1) := by decide +kernel
theorem dMach_combined_79 : decode prog_5_method_9_code 79 = .ok (.ireturn, 1) := by decide +kernel
theorem dMach_combined_80 : decode prog_5_method_9_code 80 = .ok (.iload_n 0, 1) := by decide +kernel
theorem dMach_combined_81 : decode prog_5_method_9_code 81 = .ok (.iload_n 2, 1) := by decide +kernel
theorem dMach_combined_82 : decode prog_5_method_9_code 82 = .ok (.ixor, 1) := by decide +kernel
theorem dMach_combined_83 : decode prog_5_method_9_code 83 = .ok (.ireturn, 1) := by decide +kernel
theorem dMach_combined_84 : decode prog_5_method_9_code 84 = .ok (.iload_n 0, 1) := by decide +kernel
theorem dMach_combined_85 : decode prog_5_method_9_code 85 = .ok (.iload_n 1, 1) := by decide +kernel
theorem dMach_combined_86 : decode prog_5_method_9_code 86 = .ok (.iload_n 2, 1) := by decide +kernel
theorem dMach_combined_87 : decode prog_5_method_9_code 87 = .ok (.invokestatic 180, 3) := by decide +kernel
theorem dMach_combined_90 : decode prog_5_method_9_code 90 = .ok (.ifCond .eq 7, 3) := by decide +kernel
theorem dMach_combined_93 : decode prog_5_method_9_code 93 = .ok (.iconst 1, 1) := by decide +kernel
theorem dMach_combined_94 : decode prog_5_method_9_code 94 = .ok (.goto 4, 3) := by decide +kernel
theorem dMach_combined_97 : decode prog_5_method_9_code 97 = .ok (.iconst 0, 1) := by decide +kernel
theorem dMach_combined_98 : decode prog_5_method_9_code 98 = .ok (.ireturn, 1) := by decide +kernel
abbrev rm_Mach_combined : Room := { frames := 1, cells := 0, slots := 0, locals := 22 }
def f_Mach_combined_b98 (E : hE) (t0 : Int32) : Option (Int32) := (
  some t0)
set_option maxHeartbeats 4000000 in
set_option maxRecDepth 100000 in
theorem b_Mach_combined_98 {p : Program} {l : Launch} {e : Env} {s : State} {m : MethodId} {args : Array Value} {below : List Frame} {meth : Method} {c : Code} {D : va_G} {kA : Nat → ClassId} {S : hE} {g : Nat → Nat} {n0 nx : Nat} {E : hE} {res : Int32} (C : hX p s m args c prog_5_method_9_code 3 R_Mach ws_Mach_combined D kA S g n0) (hr : meth.sig.returnType = (some .int)) (hlk : meth.locks = false) (hnm : meth.name = "combined") : ∀ (t0 : Int32) (H : Heap) (locs : List Loc) (ls : Array Slot), hY D kA n0 s E nx H locs → lv_has ls 3 [] → f_Mach_combined_b98 E  t0 = some res → W p l e rm_Mach_combined s m args below meth c H locs 0 0 (MQ below (va_Qi (fun r w => r = res ∧ w = (E, nx)) (hJ D kA S g n0) (fun q => n0 ≤ q)) args s 0 0 (fun q => n0 ≤ q)) (F0 m 98 ls [.int t0]) := by
  intro t0 H locs ls M hl hf
  unfold f_Mach_combined_b98 at hf
  cases hf
  exact w_iret C M hr hlk rfl (Nat.le_refl _) (Nat.le_refl _) dMach_combined_98 rfl rfl
def f_Mach_combined (E : hE) (x0 : Int32) (x1 : Int32) (x2 : Int32) : Option (Int32) := (
  if x1 = 38 then (
  some (x0 &&& x2)
  ) else (
  if x1 = 42 then (
  some (x0 * x2)
  ) else (
  if x1 = 43 then (
  some (x0 + x2)
  ) else (
  if x1 = 45 then (
  some (x0 - x2)
  ) else (
  if x1 = 94 then (
  some (x0 ^^^ x2)
  ) else (
  if x1 = 124 then (
  some (x0 ||| x2)
  ) else (
  (f_Mach_holds E x0 x1 x2).bind fun v87 =>
  if v87 = 0 then (
  f_Mach_combined_b98 E 0
  ) else (
  f_Mach_combined_b98 E 1
  )
  )))))))
set_option maxHeartbeats 4000000 in
set_option maxRecDepth 100000 in
theorem c_Mach_combined {l : Launch} {D : va_G} {kA : Nat → ClassId} {S : hE} {g : Nat → Nat} {n0 nx : Nat} {x0 : Int32} {x1 : Int32} {x2 : Int32} {E : hE} {res : Int32} (hf : f_Mach_combined E x0 x1 x2 = some res) : Met l y_Mach_combined ws_Mach_combined rm_Mach_combined (va_Pc [.int x0, .int x1, .int x2] (hJ D kA S g n0 (E, nx))) (va_Qi (fun r w => r = res ∧ w = (E, nx)) (hJ D kA S g n0) (fun q => n0 ≤ q)) 0 0 (fun q => n0 ≤ q) := by
  refine h_met (cc := prog_5_method_9_code) (maxL := 3) (ret := (some .int)) (lvs := [(0, .int x0), (1, .int x1), (2, .int x2)]) zZ_k (by decide) rfl (by simp [lg_sl, va_rf_cat, cat_i, cat_l, cat_n]) (by simp [lv_args, va_rf_cat, cat_i, cat_l, cat_n]) ?_
  intro p e s m below meth c ls C M hr hlk hnm hl
  unfold f_Mach_combined at hf
  refine lv_iload_n C.x C.b dMach_combined_0 rfl (lv_at hl 1 rfl) ?_
  by_cases c1_0 : x1 = 38
  · rw [if_pos c1_0] at hf
    refine lv_lookup (off := 71) (tgt := 72) C.x C.b dMach_combined_1 (by decide) (by rw [c1_0] <;> rfl) (by decide) ?_
    refine lv_iload_n C.x C.b dMach_combined_72 rfl (lv_at hl 0 rfl) ?_
    refine lv_iload_n C.x C.b dMach_combined_73 rfl (lv_at hl 2 rfl) ?_
    refine lv_iand C.x C.b dMach_combined_74 ?_
    cases hf
    exact w_iret C M hr hlk rfl (Nat.le_refl _) (Nat.le_refl _) dMach_combined_75 rfl rfl
  · rw [if_neg c1_0] at hf
    by_cases c1_1 : x1 = 42
    · rw [if_pos c1_1] at hf
      refine lv_lookup (off := 67) (tgt := 68) C.x C.b dMach_combined_1 (by decide) (by rw [c1_1] <;> rfl) (by decide) ?_
      refine lv_iload_n C.x C.b dMach_combined_68 rfl (lv_at hl 0 rfl) ?_
      refine lv_iload_n C.x C.b dMach_combined_69 rfl (lv_at hl 2 rfl) ?_
      refine lv_imul C.x C.b dMach_combined_70 ?_
      cases hf
      exact w_iret C M hr hlk rfl (Nat.le_refl _) (Nat.le_refl _) dMach_combined_71 rfl rfl
    · rw [if_neg c1_1] at hf
      by_cases c1_2 : x1 = 43
      · rw [if_pos c1_2] at hf
        refine lv_lookup (off := 59) (tgt := 60) C.x C.b dMach_combined_1 (by decide) (by rw [c1_2] <;> rfl) (by decide) ?_
        refine lv_iload_n C.x C.b dMach_combined_60 rfl (lv_at hl 0 rfl) ?_
        refine lv_iload_n C.x C.b dMach_combined_61 rfl (lv_at hl 2 rfl) ?_
        refine lv_iadd C.x C.b dMach_combined_62 ?_
        cases hf
        exact w_iret C M hr hlk rfl (Nat.le_refl _) (Nat.le_refl _) dMach_combined_63 rfl rfl
      · rw [if_neg c1_2] at hf
        by_cases c1_3 : x1 = 45
        · rw [if_pos c1_3] at hf
          refine lv_lookup (off := 63) (tgt := 64) C.x C.b dMach_combined_1 (by decide) (by rw [c1_3] <;> rfl) (by decide) ?_
          refine lv_iload_n C.x C.b dMach_combined_64 rfl (lv_at hl 0 rfl) ?_
          refine lv_iload_n C.x C.b dMach_combined_65 rfl (lv_at hl 2 rfl) ?_
          refine lv_isub C.x C.b dMach_combined_66 ?_
          cases hf
          exact w_iret C M hr hlk rfl (Nat.le_refl _) (Nat.le_refl _) dMach_combined_67 rfl rfl
        · rw [if_neg c1_3] at hf
          by_cases c1_4 : x1 = 94
          · rw [if_pos c1_4] at hf
            refine lv_lookup (off := 79) (tgt := 80) C.x C.b dMach_combined_1 (by decide) (by rw [c1_4] <;> rfl) (by decide) ?_
            refine lv_iload_n C.x C.b dMach_combined_80 rfl (lv_at hl 0 rfl) ?_
            refine lv_iload_n C.x C.b dMach_combined_81 rfl (lv_at hl 2 rfl) ?_
            refine lv_ixor C.x C.b dMach_combined_82 ?_
            cases hf
            exact w_iret C M hr hlk rfl (Nat.le_refl _) (Nat.le_refl _) dMach_combined_83 rfl rfl
          · rw [if_neg c1_4] at hf
            by_cases c1_5 : x1 = 124
            · rw [if_pos c1_5] at hf
              refine lv_lookup (off := 75) (tgt := 76) C.x C.b dMach_combined_1 (by decide) (by rw [c1_5] <;> rfl) (by decide) ?_
              refine lv_iload_n C.x C.b dMach_combined_76 rfl (lv_at hl 0 rfl) ?_
              refine lv_iload_n C.x C.b dMach_combined_77 rfl (lv_at hl 2 rfl) ?_
              refine lv_ior C.x C.b dMach_combined_78 ?_
              cases hf
              exact w_iret C M hr hlk rfl (Nat.le_refl _) (Nat.le_refl _) dMach_combined_79 rfl rfl
            · rw [if_neg c1_5] at hf
              refine lv_lookup (off := 83) (tgt := 84) C.x C.b dMach_combined_1 (by decide) (by rw [lv_osw c1_0 (by decide), lv_osw c1_1 (by decide), lv_osw c1_2 (by decide), lv_osw c1_3 (by decide), lv_osw c1_4 (by decide), lv_osw c1_5 (by decide)] <;> rfl) (by decide) ?_
              refine lv_iload_n C.x C.b dMach_combined_84 rfl (lv_at hl 0 rfl) ?_
              refine lv_iload_n C.x C.b dMach_combined_85 rfl (lv_at hl 1 rfl) ?_
              refine lv_iload_n C.x C.b dMach_combined_86 rfl (lv_at hl 2 rfl) ?_
              obtain ⟨v87, h87, hf⟩ := Option.bind_eq_some_iff.mp hf
              refine w_ci M (w_runS C M (c_Mach_holds h87) (cwS 3 C.ts (hgS wm_626 wm_627 wm_4 wm_628) rfl rfl rfl (by decide +kernel) ⟨Nat.le_of_ble_eq_true rfl, Nat.le_of_ble_eq_true rfl⟩) rfl hl.1 rfl (Nat.zero_le _) dMach_combined_87 ⟨Nat.le_refl _, Nat.le_refl _⟩) (fun H locs M => ?_)
              refine lv_if_eq (tgt := 97) C.x C.b dMach_combined_90 (by decide) (fun c90 => ?_) (fun c90 => ?_)
              · rw [if_pos c90] at hf
                refine lv_iconst (v := 0) C.x C.b dMach_combined_97 (by decide) ?_
                exact b_Mach_combined_98 C hr hlk hnm _ _ _ _ M (lv_sub hl [] rfl) hf
              · rw [if_neg c90] at hf
                refine lv_iconst (v := 1) C.x C.b dMach_combined_93 (by decide) ?_
                refine lv_goto (tgt := 98) C.x C.b dMach_combined_94 (by decide) ?_
                exact b_Mach_combined_98 C hr hlk hnm _ _ _ _ M (lv_sub hl [] rfl) hf
theorem dMach_calculate_0 : decode prog_5_method_7_code 0 = .ok (.aload_n 1, 1) := by decide +kernel
theorem dMach_calculate_1 : decode prog_5_method_7_code 1 = .ok (.getfield 177, 3) := by decide +kernel
theorem dMach_calculate_4 : decode prog_5_method_7_code 4 = .ok (.bipush 47, 2) := by decide +kernel
theorem dMach_calculate_6 : decode prog_5_method_7_code 6 = .ok (.if_icmp .eq 12, 3) := by decide +kernel
theorem dMach_calculate_9 : decode prog_5_method_7_code 9 = .ok (.aload_n 1, 1) := by decide +kernel
theorem dMach_calculate_10 : decode prog_5_method_7_code 10 = .ok (.getfield 177, 3) := by decide +kernel
theorem dMach_calculate_13 : decode prog_5_method_7_code 13 = .ok (.bipush 37, 2) := by decide +kernel
theorem dMach_calculate_15 : decode prog_5_method_7_code 15 = .ok (.if_icmp .ne 7, 3) := by decide +kernel
theorem dMach_calculate_18 : decode prog_5_method_7_code 18 = .ok (.iconst 1, 1) := by decide +kernel
theorem dMach_calculate_19 : decode prog_5_method_7_code 19 = .ok (.goto 4, 3) := by decide +kernel
theorem dMach_calculate_22 : decode prog_5_method_7_code 22 = .ok (.iconst 0, 1) := by decide +kernel
theorem dMach_calculate_23 : decode prog_5_method_7_code 23 = .ok (.istore 4, 2) := by decide +kernel
theorem dMach_calculate_25 : decode prog_5_method_7_code 25 = .ok (.iload 4, 2) := by decide +kernel
theorem dMach_calculate_27 : decode prog_5_method_7_code 27 = .ok (.ifCond .eq 10, 3) := by decide +kernel
theorem dMach_calculate_30 : decode prog_5_method_7_code 30 = .ok (.iload_n 3, 1) := by decide +kernel
theorem dMach_calculate_31 : decode prog_5_method_7_code 31 = .ok (.ifCond .ne 6, 3) := by decide +kernel
theorem dMach_calculate_34 : decode prog_5_method_7_code 34 = .ok (.bipush 103, 2) := by decide +kernel
theorem dMach_calculate_36 : decode prog_5_method_7_code 36 = .ok (.ireturn, 1) := by decide +kernel
theorem dMach_calculate_37 : decode prog_5_method_7_code 37 = .ok (.aload_n 0, 1) := by decide +kernel
theorem dMach_calculate_38 : decode prog_5_method_7_code 38 = .ok (.aload_n 1, 1) := by decide +kernel
theorem dMach_calculate_39 : decode prog_5_method_7_code 39 = .ok (.getfield 133, 3) := by decide +kernel
theorem dMach_calculate_42 : decode prog_5_method_7_code 42 = .ok (.iload 4, 2) := by decide +kernel
theorem dMach_calculate_44 : decode prog_5_method_7_code 44 = .ok (.ifCond .eq 15, 3) := by decide +kernel
theorem dMach_calculate_47 : decode prog_5_method_7_code 47 = .ok (.iload_n 2, 1) := by decide +kernel
theorem dMach_calculate_48 : decode prog_5_method_7_code 48 = .ok (.aload_n 1, 1) := by decide +kernel
theorem dMach_calculate_49 : decode prog_5_method_7_code 49 = .ok (.getfield 177, 3) := by decide +kernel
theorem dMach_calculate_52 : decode prog_5_method_7_code 52 = .ok (.iload_n 3, 1) := by decide +kernel
theorem dMach_calculate_53 : decode prog_5_method_7_code 53 = .ok (.invokestatic 198, 3) := by decide +kernel
theorem dMach_calculate_56 : decode prog_5_method_7_code 56 = .ok (.goto 12, 3) := by decide +kernel
theorem dMach_calculate_59 : decode prog_5_method_7_code 59 = .ok (.iload_n 2, 1) := by decide +kernel
theorem dMach_calculate_60 : decode prog_5_method_7_code 60 = .ok (.aload_n 1, 1) := by decide +kernel
theorem dMach_calculate_61 : decode prog_5_method_7_code 61 = .ok (.getfield 177, 3) := by decide +kernel
theorem dMach_calculate_64 : decode prog_5_method_7_code 64 = .ok (.iload_n 3, 1) := by decide +kernel
theorem dMach_calculate_65 : decode prog_5_method_7_code 65 = .ok (.invokestatic 202, 3) := by decide +kernel
theorem dMach_calculate_68 : decode prog_5_method_7_code 68 = .ok (.invokevirtual 136, 3) := by decide +kernel
theorem dMach_calculate_71 : decode prog_5_method_7_code 71 = .ok (.iconst (-1), 1) := by decide +kernel
theorem dMach_calculate_72 : decode prog_5_method_7_code 72 = .ok (.ireturn, 1) := by decide +kernel
abbrev rm_Mach_calculate : Room := { frames := 2, cells := 0, slots := 0, locals := 44 }
def f_Mach_calculate_b68  (t0 : Option Nat) (t1 : Int32) (t2 : Int32) (E : hE) : Option (Int32 × hE) := (
  (gO E t0 1).bind fun o68 =>
  (f_Frame_set o68.1 t1 t2 E).bind fun v68 =>
  some ((-1), v68))
set_option maxHeartbeats 4000000 in
set_option maxRecDepth 100000 in
theorem b_Mach_calculate_68 {p : Program} {l : Launch} {e : Env} {s : State} {m : MethodId} {args : Array Value} {below : List Frame} {meth : Method} {c : Code} {D : va_G} {kA : Nat → ClassId} {S : hE} {g : Nat → Nat} {n0 nx : Nat} {res : Int32 × hE} (C : hX p s m args c prog_5_method_7_code 5 R_Mach ws_Mach_calculate D kA S g n0) (hr : meth.sig.returnType = (some .int)) (hlk : meth.locks = false) (hnm : meth.name = "calculate") : ∀ (t0 : Option Nat) (t1 : Int32) (t2 : Int32) (E : hE) (H : Heap) (locs : List Loc) (ls : Array Slot), hY D kA n0 s E nx H locs → lv_has ls 5 [] → f_Mach_calculate_b68  t0 t1 t2 E = some res → W p l e rm_Mach_calculate s m args below meth c H locs 0 0 (MQ below (va_Qi (fun r w => r = res.1 ∧ w = (res.2, nx)) (hJ D kA S g n0) (fun q => n0 ≤ q)) args s 0 0 (fun q => n0 ≤ q)) (F0 m 68 ls [.int t2, .int t1, va_rf t0]) := by
  intro t0 t1 t2 E H locs ls M hl hf
  unfold f_Mach_calculate_b68 at hf
  obtain ⟨o68, g68, hf⟩ := Option.bind_eq_some_iff.mp hf
  obtain ⟨v68, h68, hf⟩ := Option.bind_eq_some_iff.mp hf
  refine w_cv M (w_runV C M g68 rfl (c_Frame_set h68) (cwV 2 C.ts (hgV wm_613 wm_614 wm_615 wm_5 wm_616) rfl rfl rfl (by decide +kernel) ⟨Nat.le_of_ble_eq_true rfl, Nat.le_of_ble_eq_true rfl⟩) rfl hl.1 rfl (Nat.zero_le _) dMach_calculate_68 ⟨Nat.le_refl _, Nat.le_refl _⟩) (fun H locs M => ?_)
  refine lv_iconst (v := (-1)) C.x C.b dMach_calculate_71 (by decide) ?_
  cases hf
  exact w_iret C M hr hlk rfl (Nat.le_refl _) (Nat.le_refl _) dMach_calculate_72 rfl rfl
def f_Mach_calculate_b37  (y0 : Option Nat) (y1 : Option Nat) (y2 : Int32) (y3 : Int32) (y4 : Int32) (E : hE) : Option (Int32 × hE) := (
  (gI E y1 4 2).bind fun v39 =>
  if y4 = 0 then (
  (gI E y1 4 4).bind fun v61 =>
  (f_Mach_combined E y2 v61 y3).bind fun v65 =>
  f_Mach_calculate_b68 y0 v39 v65 E
  ) else (
  (gI E y1 4 4).bind fun v49 =>
  (f_Mach_divided E y2 v49 y3).bind fun v53 =>
  f_Mach_calculate_b68 y0 v39 v53 E
  ))
set_option maxHeartbeats 4000000 in
set_option maxRecDepth 100000 in
theorem b_Mach_calculate_37 {p : Program} {l : Launch} {e : Env} {s : State} {m : MethodId} {args : Array Value} {below : List Frame} {meth : Method} {c : Code} {D : va_G} {kA : Nat → ClassId} {S : hE} {g : Nat → Nat} {n0 nx : Nat} {res : Int32 × hE} (C : hX p s m args c prog_5_method_7_code 5 R_Mach ws_Mach_calculate D kA S g n0) (hr : meth.sig.returnType = (some .int)) (hlk : meth.locks = false) (hnm : meth.name = "calculate") : ∀ (y0 : Option Nat) (y1 : Option Nat) (y2 : Int32) (y3 : Int32) (y4 : Int32) (E : hE) (H : Heap) (locs : List Loc) (ls : Array Slot), hY D kA n0 s E nx H locs → lv_has ls 5 [(0, va_rf y0), (1, va_rf y1), (2, .int y2), (3, .int y3), (4, .int y4)] → f_Mach_calculate_b37  y0 y1 y2 y3 y4 E = some res → W p l e rm_Mach_calculate s m args below meth c H locs 0 0 (MQ below (va_Qi (fun r w => r = res.1 ∧ w = (res.2, nx)) (hJ D kA S g n0) (fun q => n0 ≤ q)) args s 0 0 (fun q => n0 ≤ q)) (F0 m 37 ls []) := by
  intro y0 y1 y2 y3 y4 E H locs ls M hl hf
  unfold f_Mach_calculate_b37 at hf
  refine w_aload_n C.x C.b dMach_calculate_37 rfl (lv_at hl 0 rfl) ?_
  refine w_aload_n C.x C.b dMach_calculate_38 rfl (lv_at hl 1 rfl) ?_
  obtain ⟨v39, h39, hf⟩ := Option.bind_eq_some_iff.mp hf
  refine w_getI C M h39 rfl (hm_in in_Stat) (by decide) (List.mem_cons_of_mem _ wm_449) rfl dMach_calculate_39 ?_
  refine lv_iload C.x C.b dMach_calculate_42 (lv_at hl 4 rfl) ?_
  refine lv_if_eq (tgt := 59) C.x C.b dMach_calculate_44 (by decide) (fun c44 => ?_) (fun c44 => ?_)
  · rw [if_pos c44] at hf
    refine lv_iload_n C.x C.b dMach_calculate_59 rfl (lv_at hl 2 rfl) ?_
    refine w_aload_n C.x C.b dMach_calculate_60 rfl (lv_at hl 1 rfl) ?_
    obtain ⟨v61, h61, hf⟩ := Option.bind_eq_some_iff.mp hf
    refine w_getI C M h61 rfl (hm_in in_Stat) (by decide) (List.mem_cons_of_mem _ wm_453) rfl dMach_calculate_61 ?_
    refine lv_iload_n C.x C.b dMach_calculate_64 rfl (lv_at hl 3 rfl) ?_
    obtain ⟨v65, h65, hf⟩ := Option.bind_eq_some_iff.mp hf
    refine w_ci M (w_runS C M (c_Mach_combined h65) (cwS 3 C.ts (hgS wm_623 wm_624 wm_4 wm_625) rfl rfl rfl (by decide +kernel) ⟨Nat.le_of_ble_eq_true rfl, Nat.le_of_ble_eq_true rfl⟩) rfl hl.1 rfl (by simp [va_rf_cat, cat_i, cat_l, cat_n]) dMach_calculate_65 ⟨Nat.le_refl _, Nat.le_refl _⟩) (fun H locs M => ?_)
    exact b_Mach_calculate_68 C hr hlk hnm _ _ _ _ _ _ _ M (lv_sub hl [] rfl) hf
  · rw [if_neg c44] at hf
    refine lv_iload_n C.x C.b dMach_calculate_47 rfl (lv_at hl 2 rfl) ?_
    refine w_aload_n C.x C.b dMach_calculate_48 rfl (lv_at hl 1 rfl) ?_
    obtain ⟨v49, h49, hf⟩ := Option.bind_eq_some_iff.mp hf
    refine w_getI C M h49 rfl (hm_in in_Stat) (by decide) (List.mem_cons_of_mem _ wm_453) rfl dMach_calculate_49 ?_
    refine lv_iload_n C.x C.b dMach_calculate_52 rfl (lv_at hl 3 rfl) ?_
    obtain ⟨v53, h53, hf⟩ := Option.bind_eq_some_iff.mp hf
    refine w_ci M (w_runS C M (c_Mach_divided h53) (cwS 3 C.ts (hgS wm_620 wm_621 wm_4 wm_622) rfl rfl rfl (by decide +kernel) ⟨Nat.le_of_ble_eq_true rfl, Nat.le_of_ble_eq_true rfl⟩) rfl hl.1 rfl (by simp [va_rf_cat, cat_i, cat_l, cat_n]) dMach_calculate_53 ⟨Nat.le_refl _, Nat.le_refl _⟩) (fun H locs M => ?_)
    refine lv_goto (tgt := 68) C.x C.b dMach_calculate_56 (by decide) ?_
    exact b_Mach_calculate_68 C hr hlk hnm _ _ _ _ _ _ _ M (lv_sub hl [] rfl) hf
def f_Mach_calculate_b23  (y0 : Option Nat) (y1 : Option Nat) (y2 : Int32) (y3 : Int32) (t0 : Int32) (E : hE) : Option (Int32 × hE) := (
  if t0 = 0 then (
  f_Mach_calculate_b37 y0 y1 y2 y3 t0 E
  ) else (
  if y3 = 0 then (
  some (103, E)
  ) else (
  f_Mach_calculate_b37 y0 y1 y2 y3 t0 E
  )
  ))
set_option maxHeartbeats 4000000 in
set_option maxRecDepth 100000 in
theorem b_Mach_calculate_23 {p : Program} {l : Launch} {e : Env} {s : State} {m : MethodId} {args : Array Value} {below : List Frame} {meth : Method} {c : Code} {D : va_G} {kA : Nat → ClassId} {S : hE} {g : Nat → Nat} {n0 nx : Nat} {res : Int32 × hE} (C : hX p s m args c prog_5_method_7_code 5 R_Mach ws_Mach_calculate D kA S g n0) (hr : meth.sig.returnType = (some .int)) (hlk : meth.locks = false) (hnm : meth.name = "calculate") : ∀ (y0 : Option Nat) (y1 : Option Nat) (y2 : Int32) (y3 : Int32) (t0 : Int32) (E : hE) (H : Heap) (locs : List Loc) (ls : Array Slot), hY D kA n0 s E nx H locs → lv_has ls 5 [(0, va_rf y0), (1, va_rf y1), (2, .int y2), (3, .int y3)] → f_Mach_calculate_b23  y0 y1 y2 y3 t0 E = some res → W p l e rm_Mach_calculate s m args below meth c H locs 0 0 (MQ below (va_Qi (fun r w => r = res.1 ∧ w = (res.2, nx)) (hJ D kA S g n0) (fun q => n0 ≤ q)) args s 0 0 (fun q => n0 ≤ q)) (F0 m 23 ls [.int t0]) := by
  intro y0 y1 y2 y3 t0 E H locs ls M hl hf
  unfold f_Mach_calculate_b23 at hf
  refine lv_istore (lv' := [(4, .int t0), (0, va_rf y0), (1, va_rf y1), (2, .int y2), (3, .int y3)]) C.x C.b dMach_calculate_23 hl (by decide) rfl (fun ls hl => ?_)
  refine lv_iload C.x C.b dMach_calculate_25 (lv_at hl 0 rfl) ?_
  refine lv_if_eq (tgt := 37) C.x C.b dMach_calculate_27 (by decide) (fun c27 => ?_) (fun c27 => ?_)
  · rw [if_pos c27] at hf
    exact b_Mach_calculate_37 C hr hlk hnm _ _ _ _ _ _ _ _ _ M (lv_sub hl [1, 2, 3, 4, 0] rfl) hf
  · rw [if_neg c27] at hf
    refine lv_iload_n C.x C.b dMach_calculate_30 rfl (lv_at hl 4 rfl) ?_
    refine lv_if_ne (tgt := 37) C.x C.b dMach_calculate_31 (by decide) (fun c31 => ?_) (fun c31 => ?_)
    · rw [if_neg c31] at hf
      exact b_Mach_calculate_37 C hr hlk hnm _ _ _ _ _ _ _ _ _ M (lv_sub hl [1, 2, 3, 4, 0] rfl) hf
    · rw [if_pos c31] at hf
      refine lv_bipush (v := 103) C.x C.b dMach_calculate_34 (by decide) ?_
      cases hf
      exact w_iret C M hr hlk rfl (Nat.le_refl _) (Nat.le_refl _) dMach_calculate_36 rfl rfl
def f_Mach_calculate_b18  (y0 : Option Nat) (y1 : Option Nat) (y2 : Int32) (y3 : Int32) (E : hE) : Option (Int32 × hE) := (
  f_Mach_calculate_b23 y0 y1 y2 y3 1 E)
set_option maxHeartbeats 4000000 in
set_option maxRecDepth 100000 in
theorem b_Mach_calculate_18 {p : Program} {l : Launch} {e : Env} {s : State} {m : MethodId} {args : Array Value} {below : List Frame} {meth : Method} {c : Code} {D : va_G} {kA : Nat → ClassId} {S : hE} {g : Nat → Nat} {n0 nx : Nat} {res : Int32 × hE} (C : hX p s m args c prog_5_method_7_code 5 R_Mach ws_Mach_calculate D kA S g n0) (hr : meth.sig.returnType = (some .int)) (hlk : meth.locks = false) (hnm : meth.name = "calculate") : ∀ (y0 : Option Nat) (y1 : Option Nat) (y2 : Int32) (y3 : Int32) (E : hE) (H : Heap) (locs : List Loc) (ls : Array Slot), hY D kA n0 s E nx H locs → lv_has ls 5 [(0, va_rf y0), (1, va_rf y1), (2, .int y2), (3, .int y3)] → f_Mach_calculate_b18  y0 y1 y2 y3 E = some res → W p l e rm_Mach_calculate s m args below meth c H locs 0 0 (MQ below (va_Qi (fun r w => r = res.1 ∧ w = (res.2, nx)) (hJ D kA S g n0) (fun q => n0 ≤ q)) args s 0 0 (fun q => n0 ≤ q)) (F0 m 18 ls []) := by
  intro y0 y1 y2 y3 E H locs ls M hl hf
  unfold f_Mach_calculate_b18 at hf
  refine lv_iconst (v := 1) C.x C.b dMach_calculate_18 (by decide) ?_
  refine lv_goto (tgt := 23) C.x C.b dMach_calculate_19 (by decide) ?_
  exact b_Mach_calculate_23 C hr hlk hnm _ _ _ _ _ _ _ _ _ M (lv_sub hl [0, 1, 2, 3] rfl) hf
def f_Mach_calculate  (x0 : Option Nat) (x1 : Option Nat) (x2 : Int32) (x3 : Int32) (E : hE) : Option (Int32 × hE) := (
  (gI E x1 4 4).bind fun v1 =>
  if v1 = 47 then (
  f_Mach_calculate_b18 x0 x1 x2 x3 E
  ) else (
  (gI E x1 4 4).bind fun v10 =>
  if v10 = 37 then (
  f_Mach_calculate_b18 x0 x1 x2 x3 E
  ) else (
  f_Mach_calculate_b23 x0 x1 x2 x3 0 E
  )
  ))
set_option maxHeartbeats 4000000 in
set_option maxRecDepth 100000 in
theorem c_Mach_calculate {l : Launch} {D : va_G} {kA : Nat → ClassId} {S : hE} {g : Nat → Nat} {n0 nx : Nat} {x0 : Option Nat} {x1 : Option Nat} {x2 : Int32} {x3 : Int32} {E : hE} {res : Int32 × hE} (hf : f_Mach_calculate x0 x1 x2 x3 E = some res) : Met l y_Mach_calculate ws_Mach_calculate rm_Mach_calculate (va_Pc [va_rf x0, va_rf x1, .int x2, .int x3] (hJ D kA S g n0 (E, nx))) (va_Qi (fun r w => r = res.1 ∧ w = (res.2, nx)) (hJ D kA S g n0) (fun q => n0 ≤ q)) 0 0 (fun q => n0 ≤ q) := by
  refine h_met (cc := prog_5_method_7_code) (maxL := 5) (ret := (some .int)) (lvs := [(0, va_rf x0), (1, va_rf x1), (2, .int x2), (3, .int x3)]) zZ_k (by decide) rfl (by simp [lg_sl, va_rf_cat, cat_i, cat_l, cat_n]) (by simp [lv_args, va_rf_cat, cat_i, cat_l, cat_n]) ?_
  intro p e s m below meth c ls C M hr hlk hnm hl
  unfold f_Mach_calculate at hf
  refine w_aload_n C.x C.b dMach_calculate_0 rfl (lv_at hl 1 rfl) ?_
  obtain ⟨v1, h1, hf⟩ := Option.bind_eq_some_iff.mp hf
  refine w_getI C M h1 rfl (hm_in in_Stat) (by decide) (List.mem_cons_of_mem _ wm_453) rfl dMach_calculate_1 ?_
  refine lv_bipush (v := 47) C.x C.b dMach_calculate_4 (by decide) ?_
  refine lv_icmp_eq (tgt := 18) C.x C.b dMach_calculate_6 (by decide) (fun c6 => ?_) (fun c6 => ?_)
  · rw [if_pos c6] at hf
    exact b_Mach_calculate_18 C hr hlk hnm _ _ _ _ _ _ _ _ M (lv_sub hl [0, 1, 2, 3] rfl) hf
  · rw [if_neg c6] at hf
    refine w_aload_n C.x C.b dMach_calculate_9 rfl (lv_at hl 1 rfl) ?_
    obtain ⟨v10, h10, hf⟩ := Option.bind_eq_some_iff.mp hf
    refine w_getI C M h10 rfl (hm_in in_Stat) (by decide) (List.mem_cons_of_mem _ wm_453) rfl dMach_calculate_10 ?_
    refine lv_bipush (v := 37) C.x C.b dMach_calculate_13 (by decide) ?_
    refine lv_icmp_ne (tgt := 22) C.x C.b dMach_calculate_15 (by decide) (fun c15 => ?_) (fun c15 => ?_)
    · rw [if_neg c15] at hf
      refine lv_iconst (v := 0) C.x C.b dMach_calculate_22 (by decide) ?_
      exact b_Mach_calculate_23 C hr hlk hnm _ _ _ _ _ _ _ _ _ M (lv_sub hl [0, 1, 2, 3] rfl) hf
    · rw [if_pos c15] at hf
      exact b_Mach_calculate_18 C hr hlk hnm _ _ _ _ _ _ _ _ M (lv_sub hl [0, 1, 2, 3] rfl) hf
theorem dMach_getCell_0 : decode prog_5_method_11_code 0 = .ok (.iload_n 2, 1) := by decide +kernel
theorem dMach_getCell_1 : decode prog_5_method_11_code 1 = .ok (.ifCond .lt 9, 3) := by decide +kernel
theorem dMach_getCell_4 : decode prog_5_method_11_code 4 = .ok (.iload_n 2, 1) := by decide +kernel
theorem dMach_getCell_5 : decode prog_5_method_11_code 5 = .ok (.bipush 32, 2) := by decide +kernel
theorem dMach_getCell_7 : decode prog_5_method_11_code 7 = .ok (.if_icmp .lt 6, 3) := by decide +kernel
theorem dMach_getCell_10 : decode prog_5_method_11_code 10 = .ok (.bipush 102, 2) := by decide +kernel
theorem dMach_getCell_12 : decode prog_5_method_11_code 12 = .ok (.ireturn, 1) := by decide +kernel
theorem dMach_getCell_13 : decode prog_5_method_11_code 13 = .ok (.aload_n 0, 1) := by decide +kernel
theorem dMach_getCell_14 : decode prog_5_method_11_code 14 = .ok (.iload_n 1, 1) := by decide +kernel
theorem dMach_getCell_15 : decode prog_5_method_11_code 15 = .ok (.aload_n 0, 1) := by decide +kernel
theorem dMach_getCell_16 : decode prog_5_method_11_code 16 = .ok (.getfield 205, 3) := by decide +kernel
theorem dMach_getCell_19 : decode prog_5_method_11_code 19 = .ok (.iload_n 2, 1) := by decide +kernel
theorem dMach_getCell_20 : decode prog_5_method_11_code 20 = .ok (.iaload, 1) := by decide +kernel
theorem dMach_getCell_21 : decode prog_5_method_11_code 21 = .ok (.invokevirtual 136, 3) := by decide +kernel
theorem dMach_getCell_24 : decode prog_5_method_11_code 24 = .ok (.iconst (-1), 1) := by decide +kernel
theorem dMach_getCell_25 : decode prog_5_method_11_code 25 = .ok (.ireturn, 1) := by decide +kernel
abbrev rm_Mach_getCell : Room := { frames := 1, cells := 0, slots := 0, locals := 22 }
def f_Mach_getCell_b10  (E : hE) : Option (Int32 × hE) := (
  some (102, E))
set_option maxHeartbeats 4000000 in
set_option maxRecDepth 100000 in
theorem b_Mach_getCell_10 {p : Program} {l : Launch} {e : Env} {s : State} {m : MethodId} {args : Array Value} {below : List Frame} {meth : Method} {c : Code} {D : va_G} {kA : Nat → ClassId} {S : hE} {g : Nat → Nat} {n0 nx : Nat} {res : Int32 × hE} (C : hX p s m args c prog_5_method_11_code 3 R_Mach ws_Mach_getCell D kA S g n0) (hr : meth.sig.returnType = (some .int)) (hlk : meth.locks = false) (hnm : meth.name = "getCell") : ∀  (E : hE) (H : Heap) (locs : List Loc) (ls : Array Slot), hY D kA n0 s E nx H locs → lv_has ls 3 [] → f_Mach_getCell_b10  E = some res → W p l e rm_Mach_getCell s m args below meth c H locs 0 0 (MQ below (va_Qi (fun r w => r = res.1 ∧ w = (res.2, nx)) (hJ D kA S g n0) (fun q => n0 ≤ q)) args s 0 0 (fun q => n0 ≤ q)) (F0 m 10 ls []) := by
  intro E H locs ls M hl hf
  unfold f_Mach_getCell_b10 at hf
  refine lv_bipush (v := 102) C.x C.b dMach_getCell_10 (by decide) ?_
  cases hf
  exact w_iret C M hr hlk rfl (Nat.le_refl _) (Nat.le_refl _) dMach_getCell_12 rfl rfl
def f_Mach_getCell  (x0 : Option Nat) (x1 : Int32) (x2 : Int32) (E : hE) : Option (Int32 × hE) := (
  if x2 < 0 then (
  f_Mach_getCell_b10 E
  ) else (
  if x2 < 32 then (
  (gR E x0 1 2).bind fun v16 =>
  (aI E v16 0 x2).bind fun v20 =>
  (gO E x0 1).bind fun o21 =>
  (f_Frame_set o21.1 x1 v20 E).bind fun v21 =>
  some ((-1), v21)
  ) else (
  f_Mach_getCell_b10 E
  )
  ))
set_option maxHeartbeats 4000000 in
set_option maxRecDepth 100000 in
theorem c_Mach_getCell {l : Launch} {D : va_G} {kA : Nat → ClassId} {S : hE} {g : Nat → Nat} {n0 nx : Nat} {x0 : Option Nat} {x1 : Int32} {x2 : Int32} {E : hE} {res : Int32 × hE} (hf : f_Mach_getCell x0 x1 x2 E = some res) : Met l y_Mach_getCell ws_Mach_getCell rm_Mach_getCell (va_Pc [va_rf x0, .int x1, .int x2] (hJ D kA S g n0 (E, nx))) (va_Qi (fun r w => r = res.1 ∧ w = (res.2, nx)) (hJ D kA S g n0) (fun q => n0 ≤ q)) 0 0 (fun q => n0 ≤ q) := by
  refine h_met (cc := prog_5_method_11_code) (maxL := 3) (ret := (some .int)) (lvs := [(0, va_rf x0), (1, .int x1), (2, .int x2)]) zZ_k (by decide) rfl (by simp [lg_sl, va_rf_cat, cat_i, cat_l, cat_n]) (by simp [lv_args, va_rf_cat, cat_i, cat_l, cat_n]) ?_
  intro p e s m below meth c ls C M hr hlk hnm hl
  unfold f_Mach_getCell at hf
  refine lv_iload_n C.x C.b dMach_getCell_0 rfl (lv_at hl 2 rfl) ?_
  refine lv_if_lt (tgt := 10) C.x C.b dMach_getCell_1 (by decide) (fun c1 => ?_) (fun c1 => ?_)
  · rw [if_pos c1] at hf
    exact b_Mach_getCell_10 C hr hlk hnm _ _ _ _ M (lv_sub hl [] rfl) hf
  · rw [if_neg c1] at hf
    refine lv_iload_n C.x C.b dMach_getCell_4 rfl (lv_at hl 2 rfl) ?_
    refine lv_bipush (v := 32) C.x C.b dMach_getCell_5 (by decide) ?_
    refine lv_icmp_lt (tgt := 13) C.x C.b dMach_getCell_7 (by decide) (fun c7 => ?_) (fun c7 => ?_)
    · rw [if_pos c7] at hf
      refine w_aload_n C.x C.b dMach_getCell_13 rfl (lv_at hl 0 rfl) ?_
      refine lv_iload_n C.x C.b dMach_getCell_14 rfl (lv_at hl 1 rfl) ?_
      refine w_aload_n C.x C.b dMach_getCell_15 rfl (lv_at hl 0 rfl) ?_
      obtain ⟨v16, h16, hf⟩ := Option.bind_eq_some_iff.mp hf
      refine w_getR C M h16 rfl (hm_in in_Frame) (by decide) (List.mem_cons_of_mem _ wm_108) rfl dMach_getCell_16 ?_
      refine lv_iload_n C.x C.b dMach_getCell_19 rfl (lv_at hl 2 rfl) ?_
      obtain ⟨v20, h20, hf⟩ := Option.bind_eq_some_iff.mp hf
      refine w_iald C M h20 rfl dMach_getCell_20 ?_
      obtain ⟨o21, g21, hf⟩ := Option.bind_eq_some_iff.mp hf
      obtain ⟨v21, h21, hf⟩ := Option.bind_eq_some_iff.mp hf
      refine w_cv M (w_runV C M g21 rfl (c_Frame_set h21) (cwV 2 C.ts (hgV wm_613 wm_614 wm_615 wm_5 wm_616) rfl rfl rfl (by decide +kernel) ⟨Nat.le_of_ble_eq_true rfl, Nat.le_of_ble_eq_true rfl⟩) rfl hl.1 rfl (Nat.zero_le _) dMach_getCell_21 ⟨Nat.le_refl _, Nat.le_refl _⟩) (fun H locs M => ?_)
      refine lv_iconst (v := (-1)) C.x C.b dMach_getCell_24 (by decide) ?_
      cases hf
      exact w_iret C M hr hlk rfl (Nat.le_refl _) (Nat.le_refl _) dMach_getCell_25 rfl rfl
    · rw [if_neg c7] at hf
      exact b_Mach_getCell_10 C hr hlk hnm _ _ _ _ M (lv_sub hl [] rfl) hf
theorem dMach_putCell_0 : decode prog_5_method_12_code 0 = .ok (.iload_n 1, 1) := by decide +kernel
theorem dMach_putCell_1 : decode prog_5_method_12_code 1 = .ok (.ifCond .lt 9, 3) := by decide +kernel
theorem dMach_putCell_4 : decode prog_5_method_12_code 4 = .ok (.iload_n 1, 1) := by decide +kernel
theorem dMach_putCell_5 : decode prog_5_method_12_code 5 = .ok (.bipush 32, 2) := by decide +kernel
theorem dMach_putCell_7 : decode prog_5_method_12_code 7 = .ok (.if_icmp .lt 6, 3) := by decide +kernel
theorem dMach_putCell_10 : decode prog_5_method_12_code 10 = .ok (.bipush 102, 2) := by decide +kernel
theorem dMach_putCell_12 : decode prog_5_method_12_code 12 = .ok (.ireturn, 1) := by decide +kernel
theorem dMach_putCell_13 : decode prog_5_method_12_code 13 = .ok (.aload_n 0, 1) := by decide +kernel
theorem dMach_putCell_14 : decode prog_5_method_12_code 14 = .ok (.getfield 205, 3) := by decide +kernel
theorem dMach_putCell_17 : decode prog_5_method_12_code 17 = .ok (.iload_n 1, 1) := by decide +kernel
theorem dMach_putCell_18 : decode prog_5_method_12_code 18 = .ok (.iload_n 2, 1) := by decide +kernel
theorem dMach_putCell_19 : decode prog_5_method_12_code 19 = .ok (.iastore, 1) := by decide +kernel
theorem dMach_putCell_20 : decode prog_5_method_12_code 20 = .ok (.iconst (-1), 1) := by decide +kernel
theorem dMach_putCell_21 : decode prog_5_method_12_code 21 = .ok (.ireturn, 1) := by decide +kernel
abbrev rm_Mach_putCell : Room := { frames := 0, cells := 0, slots := 0, locals := 0 }
def f_Mach_putCell_b10  (E : hE) : Option (Int32 × hE) := (
  some (102, E))
set_option maxHeartbeats 4000000 in
set_option maxRecDepth 100000 in
theorem b_Mach_putCell_10 {p : Program} {l : Launch} {e : Env} {s : State} {m : MethodId} {args : Array Value} {below : List Frame} {meth : Method} {c : Code} {D : va_G} {kA : Nat → ClassId} {S : hE} {g : Nat → Nat} {n0 nx : Nat} {res : Int32 × hE} (C : hX p s m args c prog_5_method_12_code 3 R_Mach ws_Mach_putCell D kA S g n0) (hr : meth.sig.returnType = (some .int)) (hlk : meth.locks = false) (hnm : meth.name = "putCell") : ∀  (E : hE) (H : Heap) (locs : List Loc) (ls : Array Slot), hY D kA n0 s E nx H locs → lv_has ls 3 [] → f_Mach_putCell_b10  E = some res → W p l e rm_Mach_putCell s m args below meth c H locs 0 0 (MQ below (va_Qi (fun r w => r = res.1 ∧ w = (res.2, nx)) (hJ D kA S g n0) (fun q => n0 ≤ q)) args s 0 0 (fun q => n0 ≤ q)) (F0 m 10 ls []) := by
  intro E H locs ls M hl hf
  unfold f_Mach_putCell_b10 at hf
  refine lv_bipush (v := 102) C.x C.b dMach_putCell_10 (by decide) ?_
  cases hf
  exact w_iret C M hr hlk rfl (Nat.le_refl _) (Nat.le_refl _) dMach_putCell_12 rfl rfl
def f_Mach_putCell  (x0 : Option Nat) (x1 : Int32) (x2 : Int32) (E : hE) : Option (Int32 × hE) := (
  if x1 < 0 then (
  f_Mach_putCell_b10 E
  ) else (
  if x1 < 32 then (
  (gR E x0 1 2).bind fun v14 =>
  (tI E v14 0 x1 x2).bind fun E19 =>
  some ((-1), E19)
  ) else (
  f_Mach_putCell_b10 E
  )
  ))
set_option maxHeartbeats 4000000 in
set_option maxRecDepth 100000 in
theorem c_Mach_putCell {l : Launch} {D : va_G} {kA : Nat → ClassId} {S : hE} {g : Nat → Nat} {n0 nx : Nat} {x0 : Option Nat} {x1 : Int32} {x2 : Int32} {E : hE} {res : Int32 × hE} (hf : f_Mach_putCell x0 x1 x2 E = some res) : Met l y_Mach_putCell ws_Mach_putCell rm_Mach_putCell (va_Pc [va_rf x0, .int x1, .int x2] (hJ D kA S g n0 (E, nx))) (va_Qi (fun r w => r = res.1 ∧ w = (res.2, nx)) (hJ D kA S g n0) (fun q => n0 ≤ q)) 0 0 (fun q => n0 ≤ q) := by
  refine h_met (cc := prog_5_method_12_code) (maxL := 3) (ret := (some .int)) (lvs := [(0, va_rf x0), (1, .int x1), (2, .int x2)]) zZ_k (by decide) rfl (by simp [lg_sl, va_rf_cat, cat_i, cat_l, cat_n]) (by simp [lv_args, va_rf_cat, cat_i, cat_l, cat_n]) ?_
  intro p e s m below meth c ls C M hr hlk hnm hl
  unfold f_Mach_putCell at hf
  refine lv_iload_n C.x C.b dMach_putCell_0 rfl (lv_at hl 1 rfl) ?_
  refine lv_if_lt (tgt := 10) C.x C.b dMach_putCell_1 (by decide) (fun c1 => ?_) (fun c1 => ?_)
  · rw [if_pos c1] at hf
    exact b_Mach_putCell_10 C hr hlk hnm _ _ _ _ M (lv_sub hl [] rfl) hf
  · rw [if_neg c1] at hf
    refine lv_iload_n C.x C.b dMach_putCell_4 rfl (lv_at hl 1 rfl) ?_
    refine lv_bipush (v := 32) C.x C.b dMach_putCell_5 (by decide) ?_
    refine lv_icmp_lt (tgt := 13) C.x C.b dMach_putCell_7 (by decide) (fun c7 => ?_) (fun c7 => ?_)
    · rw [if_pos c7] at hf
      refine w_aload_n C.x C.b dMach_putCell_13 rfl (lv_at hl 0 rfl) ?_
      obtain ⟨v14, h14, hf⟩ := Option.bind_eq_some_iff.mp hf
      refine w_getR C M h14 rfl (hm_in in_Frame) (by decide) (List.mem_cons_of_mem _ wm_108) rfl dMach_putCell_14 ?_
      refine lv_iload_n C.x C.b dMach_putCell_17 rfl (lv_at hl 1 rfl) ?_
      refine lv_iload_n C.x C.b dMach_putCell_18 rfl (lv_at hl 2 rfl) ?_
      obtain ⟨E19, h19, hf⟩ := Option.bind_eq_some_iff.mp hf
      refine w_iast C M h19 rfl dMach_putCell_19 (fun H locs M => ?_)
      refine lv_iconst (v := (-1)) C.x C.b dMach_putCell_20 (by decide) ?_
      cases hf
      exact w_iret C M hr hlk rfl (Nat.le_refl _) (Nat.le_refl _) dMach_putCell_21 rfl rfl
    · rw [if_neg c7] at hf
      exact b_Mach_putCell_10 C hr hlk hnm _ _ _ _ M (lv_sub hl [] rfl) hf
theorem dMach_sizeFile_0 : decode prog_5_method_13_code 0 = .ok (.aload_n 0, 1) := by decide +kernel
theorem dMach_sizeFile_1 : decode prog_5_method_13_code 1 = .ok (.iload_n 3, 1) := by decide +kernel
theorem dMach_sizeFile_2 : decode prog_5_method_13_code 2 = .ok (.invokevirtual 208, 3) := by decide +kernel
theorem dMach_sizeFile_5 : decode prog_5_method_13_code 5 = .ok (.astore 4, 2) := by decide +kernel
theorem dMach_sizeFile_7 : decode prog_5_method_13_code 7 = .ok (.aload 4, 2) := by decide +kernel
theorem dMach_sizeFile_9 : decode prog_5_method_13_code 9 = .ok (.ifnonnull 6, 3) := by decide +kernel
theorem dMach_sizeFile_12 : decode prog_5_method_13_code 12 = .ok (.bipush 102, 2) := by decide +kernel
theorem dMach_sizeFile_14 : decode prog_5_method_13_code 14 = .ok (.ireturn, 1) := by decide +kernel
theorem dMach_sizeFile_15 : decode prog_5_method_13_code 15 = .ok (.aload_n 1, 1) := by decide +kernel
theorem dMach_sizeFile_16 : decode prog_5_method_13_code 16 = .ok (.iload_n 2, 1) := by decide +kernel
theorem dMach_sizeFile_17 : decode prog_5_method_13_code 17 = .ok (.aload 4, 2) := by decide +kernel
theorem dMach_sizeFile_19 : decode prog_5_method_13_code 19 = .ok (.invokevirtual 212, 3) := by decide +kernel
theorem dMach_sizeFile_22 : decode prog_5_method_13_code 22 = .ok (.invokevirtual 136, 3) := by decide +kernel
theorem dMach_sizeFile_25 : decode prog_5_method_13_code 25 = .ok (.iconst (-1), 1) := by decide +kernel
theorem dMach_sizeFile_26 : decode prog_5_method_13_code 26 = .ok (.ireturn, 1) := by decide +kernel
abbrev rm_Mach_sizeFile : Room := { frames := 1, cells := 0, slots := 0, locals := 22 }
def f_Mach_sizeFile  (x0 : Nat) (x1 : Option Nat) (x2 : Int32) (x3 : Int32) (E : hE) : Option (Int32 × hE) := (
  (gO E (some x0) 2).bind fun o2 =>
  (f_Mach_fileAt E o2.1 x3).bind fun v2 =>
  if v2 = none then (
  some (102, E)
  ) else (
  (gO E v2 0).bind fun o19 =>
  (f_Row_countIfThere E o19.1).bind fun v19 =>
  (gO E x1 1).bind fun o22 =>
  (f_Frame_set o22.1 x2 v19 E).bind fun v22 =>
  some ((-1), v22)
  ))
set_option maxHeartbeats 4000000 in
set_option maxRecDepth 100000 in
theorem c_Mach_sizeFile {l : Launch} {D : va_G} {kA : Nat → ClassId} {S : hE} {g : Nat → Nat} {n0 nx : Nat} {x0 : Nat} {x1 : Option Nat} {x2 : Int32} {x3 : Int32} {E : hE} {res : Int32 × hE} (hf : f_Mach_sizeFile x0 x1 x2 x3 E = some res) : Met l y_Mach_sizeFile ws_Mach_sizeFile rm_Mach_sizeFile (va_Pc [va_rf (some x0), va_rf x1, .int x2, .int x3] (hJ D kA S g n0 (E, nx))) (va_Qi (fun r w => r = res.1 ∧ w = (res.2, nx)) (hJ D kA S g n0) (fun q => n0 ≤ q)) 0 0 (fun q => n0 ≤ q) := by
  refine h_met (cc := prog_5_method_13_code) (maxL := 5) (ret := (some .int)) (lvs := [(0, va_rf (some x0)), (1, va_rf x1), (2, .int x2), (3, .int x3)]) zZ_k (by decide) rfl (by simp [lg_sl, va_rf_cat, cat_i, cat_l, cat_n]) (by simp [lv_args, va_rf_cat, cat_i, cat_l, cat_n]) ?_
  intro p e s m below meth c ls C M hr hlk hnm hl
  unfold f_Mach_sizeFile at hf
  refine w_aload_n C.x C.b dMach_sizeFile_0 rfl (lv_at hl 0 rfl) ?_
  refine lv_iload_n C.x C.b dMach_sizeFile_1 rfl (lv_at hl 3 rfl) ?_
  obtain ⟨o2, g2, hf⟩ := Option.bind_eq_some_iff.mp hf
  obtain ⟨v2, h2, hf⟩ := Option.bind_eq_some_iff.mp hf
  refine w_cq M (w_runV C M g2 rfl (c_Mach_fileAt h2) (cwV 1 C.ts (hgV wm_639 wm_554 wm_555 wm_4 wm_556) rfl rfl rfl (by decide +kernel) ⟨Nat.le_of_ble_eq_true rfl, Nat.le_of_ble_eq_true rfl⟩) rfl hl.1 rfl (Nat.zero_le _) dMach_sizeFile_2 ⟨Nat.le_refl _, Nat.le_refl _⟩) (fun H locs M => ?_)
  refine w_astore (lv' := [(4, va_rf v2), (0, va_rf (some x0)), (1, va_rf x1), (2, .int x2), (3, .int x3)]) C.x C.b dMach_sizeFile_5 hl (by decide) rfl (fun ls hl => ?_)
  refine w_aload C.x C.b dMach_sizeFile_7 (lv_at hl 0 rfl) ?_
  refine w_ifnonnull (tgt := 15) C.x C.b dMach_sizeFile_9 (by decide) (fun c9 => ?_) (fun c9 => ?_)
  · rw [if_neg c9] at hf
    refine w_aload_n C.x C.b dMach_sizeFile_15 rfl (lv_at hl 2 rfl) ?_
    refine lv_iload_n C.x C.b dMach_sizeFile_16 rfl (lv_at hl 3 rfl) ?_
    refine w_aload C.x C.b dMach_sizeFile_17 (lv_at hl 0 rfl) ?_
    obtain ⟨o19, g19, hf⟩ := Option.bind_eq_some_iff.mp hf
    obtain ⟨v19, h19, hf⟩ := Option.bind_eq_some_iff.mp hf
    refine w_ci M (w_runV C M g19 rfl (c_Row_countIfThere h19) (cwV 0 C.ts (hgV wm_640 wm_641 wm_642 wm_3 wm_643) rfl rfl rfl (by decide +kernel) ⟨Nat.le_of_ble_eq_true rfl, Nat.le_of_ble_eq_true rfl⟩) rfl hl.1 rfl (by simp [va_rf_cat, cat_i, cat_l, cat_n]) dMach_sizeFile_19 ⟨Nat.le_refl _, Nat.le_refl _⟩) (fun H locs M => ?_)
    obtain ⟨o22, g22, hf⟩ := Option.bind_eq_some_iff.mp hf
    obtain ⟨v22, h22, hf⟩ := Option.bind_eq_some_iff.mp hf
    refine w_cv M (w_runV C M g22 rfl (c_Frame_set h22) (cwV 2 C.ts (hgV wm_613 wm_614 wm_615 wm_5 wm_616) rfl rfl rfl (by decide +kernel) ⟨Nat.le_of_ble_eq_true rfl, Nat.le_of_ble_eq_true rfl⟩) rfl hl.1 rfl (Nat.zero_le _) dMach_sizeFile_22 ⟨Nat.le_refl _, Nat.le_refl _⟩) (fun H locs M => ?_)
    refine lv_iconst (v := (-1)) C.x C.b dMach_sizeFile_25 (by decide) ?_
    cases hf
    exact w_iret C M hr hlk rfl (Nat.le_refl _) (Nat.le_refl _) dMach_sizeFile_26 rfl rfl
  · rw [if_pos c9] at hf
    refine lv_bipush (v := 102) C.x C.b dMach_sizeFile_12 (by decide) ?_
    cases hf
    exact w_iret C M hr hlk rfl (Nat.le_refl _) (Nat.le_refl _) dMach_sizeFile_14 rfl rfl
theorem dMach_readFile_0 : decode prog_5_method_14_code 0 = .ok (.aload_n 0, 1) := by decide +kernel
theorem dMach_readFile_1 : decode prog_5_method_14_code 1 = .ok (.iload_n 3, 1) := by decide +kernel
theorem dMach_readFile_2 : decode prog_5_method_14_code 2 = .ok (.invokevirtual 208, 3) := by decide +kernel
theorem dMach_readFile_5 : decode prog_5_method_14_code 5 = .ok (.astore 5, 2) := by decide +kernel
theorem dMach_readFile_7 : decode prog_5_method_14_code 7 = .ok (.aload 5, 2) := by decide +kernel
theorem dMach_readFile_9 : decode prog_5_method_14_code 9 = .ok (.ifnonnull 6, 3) := by decide +kernel
theorem dMach_readFile_12 : decode prog_5_method_14_code 12 = .ok (.bipush 102, 2) := by decide +kernel
theorem dMach_readFile_14 : decode prog_5_method_14_code 14 = .ok (.ireturn, 1) := by decide +kernel
theorem dMach_readFile_15 : decode prog_5_method_14_code 15 = .ok (.aload 5, 2) := by decide +kernel
theorem dMach_readFile_17 : decode prog_5_method_14_code 17 = .ok (.getfield 215, 3) := by decide +kernel
theorem dMach_readFile_20 : decode prog_5_method_14_code 20 = .ok (.ifCond .ne 6, 3) := by decide +kernel
theorem dMach_readFile_23 : decode prog_5_method_14_code 23 = .ok (.bipush 101, 2) := by decide +kernel
theorem dMach_readFile_25 : decode prog_5_method_14_code 25 = .ok (.ireturn, 1) := by decide +kernel
theorem dMach_readFile_26 : decode prog_5_method_14_code 26 = .ok (.aload 5, 2) := by decide +kernel
theorem dMach_readFile_28 : decode prog_5_method_14_code 28 = .ok (.iload 4, 2) := by decide +kernel
theorem dMach_readFile_30 : decode prog_5_method_14_code 30 = .ok (.invokevirtual 218, 3) := by decide +kernel
theorem dMach_readFile_33 : decode prog_5_method_14_code 33 = .ok (.istore 6, 2) := by decide +kernel
theorem dMach_readFile_35 : decode prog_5_method_14_code 35 = .ok (.iload 6, 2) := by decide +kernel
theorem dMach_readFile_37 : decode prog_5_method_14_code 37 = .ok (.iconst (-1), 1) := by decide +kernel
theorem dMach_readFile_38 : decode prog_5_method_14_code 38 = .ok (.if_icmp .ne 6, 3) := by decide +kernel
theorem dMach_readFile_41 : decode prog_5_method_14_code 41 = .ok (.bipush 102, 2) := by decide +kernel
theorem dMach_readFile_43 : decode prog_5_method_14_code 43 = .ok (.ireturn, 1) := by decide +kernel
theorem dMach_readFile_44 : decode prog_5_method_14_code 44 = .ok (.aload_n 1, 1) := by decide +kernel
theorem dMach_readFile_45 : decode prog_5_method_14_code 45 = .ok (.iload_n 2, 1) := by decide +kernel
theorem dMach_readFile_46 : decode prog_5_method_14_code 46 = .ok (.iload 6, 2) := by decide +kernel
theorem dMach_readFile_48 : decode prog_5_method_14_code 48 = .ok (.invokevirtual 136, 3) := by decide +kernel
theorem dMach_readFile_51 : decode prog_5_method_14_code 51 = .ok (.iconst (-1), 1) := by decide +kernel
theorem dMach_readFile_52 : decode prog_5_method_14_code 52 = .ok (.ireturn, 1) := by decide +kernel
abbrev rm_Mach_readFile : Room := { frames := 1, cells := 0, slots := 0, locals := 22 }
def f_Mach_readFile  (x0 : Nat) (x1 : Option Nat) (x2 : Int32) (x3 : Int32) (x4 : Int32) (E : hE) : Option (Int32 × hE) := (
  (gO E (some x0) 2).bind fun o2 =>
  (f_Mach_fileAt E o2.1 x3).bind fun v2 =>
  if v2 = none then (
  some (102, E)
  ) else (
  (gI E v2 0 2).bind fun v17 =>
  if v17 = 0 then (
  some (101, E)
  ) else (
  (gO E v2 0).bind fun o30 =>
  (f_Row_at E o30.1 x4).bind fun v30 =>
  if v30 = (-1) then (
  some (102, E)
  ) else (
  (gO E x1 1).bind fun o48 =>
  (f_Frame_set o48.1 x2 v30 E).bind fun v48 =>
  some ((-1), v48)
  )
  )
  ))
set_option maxHeartbeats 4000000 in
set_option maxRecDepth 100000 in
theorem c_Mach_readFile {l : Launch} {D : va_G} {kA : Nat → ClassId} {S : hE} {g : Nat → Nat} {n0 nx : Nat} {x0 : Nat} {x1 : Option Nat} {x2 : Int32} {x3 : Int32} {x4 : Int32} {E : hE} {res : Int32 × hE} (hf : f_Mach_readFile x0 x1 x2 x3 x4 E = some res) : Met l y_Mach_readFile ws_Mach_readFile rm_Mach_readFile (va_Pc [va_rf (some x0), va_rf x1, .int x2, .int x3, .int x4] (hJ D kA S g n0 (E, nx))) (va_Qi (fun r w => r = res.1 ∧ w = (res.2, nx)) (hJ D kA S g n0) (fun q => n0 ≤ q)) 0 0 (fun q => n0 ≤ q) := by
  refine h_met (cc := prog_5_method_14_code) (maxL := 7) (ret := (some .int)) (lvs := [(0, va_rf (some x0)), (1, va_rf x1), (2, .int x2), (3, .int x3), (4, .int x4)]) zZ_k (by decide) rfl (by simp [lg_sl, va_rf_cat, cat_i, cat_l, cat_n]) (by simp [lv_args, va_rf_cat, cat_i, cat_l, cat_n]) ?_
  intro p e s m below meth c ls C M hr hlk hnm hl
  unfold f_Mach_readFile at hf
  refine w_aload_n C.x C.b dMach_readFile_0 rfl (lv_at hl 0 rfl) ?_
  refine lv_iload_n C.x C.b dMach_readFile_1 rfl (lv_at hl 3 rfl) ?_
  obtain ⟨o2, g2, hf⟩ := Option.bind_eq_some_iff.mp hf
  obtain ⟨v2, h2, hf⟩ := Option.bind_eq_some_iff.mp hf
  refine w_cq M (w_runV C M g2 rfl (c_Mach_fileAt h2) (cwV 1 C.ts (hgV wm_639 wm_554 wm_555 wm_4 wm_556) rfl rfl rfl (by decide +kernel) ⟨Nat.le_of_ble_eq_true rfl, Nat.le_of_ble_eq_true rfl⟩) rfl hl.1 rfl (Nat.zero_le _) dMach_readFile_2 ⟨Nat.le_refl _, Nat.le_refl _⟩) (fun H locs M => ?_)
  refine w_astore (lv' := [(5, va_rf v2), (0, va_rf (some x0)), (1, va_rf x1), (2, .int x2), (3, .int x3), (4, .int x4)]) C.x C.b dMach_readFile_5 hl (by decide) rfl (fun ls hl => ?_)
  refine w_aload C.x C.b dMach_readFile_7 (lv_at hl 0 rfl) ?_
  refine w_ifnonnull (tgt := 15) C.x C.b dMach_readFile_9 (by decide) (fun c9 => ?_) (fun c9 => ?_)
  · rw [if_neg c9] at hf
    refine w_aload C.x C.b dMach_readFile_15 (lv_at hl 0 rfl) ?_
    obtain ⟨v17, h17, hf⟩ := Option.bind_eq_some_iff.mp hf
    refine w_getI C M h17 rfl (hm_in in_Row) (by decide) (List.mem_cons_of_mem _ wm_49) rfl dMach_readFile_17 ?_
    refine lv_if_ne (tgt := 26) C.x C.b dMach_readFile_20 (by decide) (fun c20 => ?_) (fun c20 => ?_)
    · rw [if_neg c20] at hf
      refine w_aload C.x C.b dMach_readFile_26 (lv_at hl 0 rfl) ?_
      refine lv_iload C.x C.b dMach_readFile_28 (lv_at hl 5 rfl) ?_
      obtain ⟨o30, g30, hf⟩ := Option.bind_eq_some_iff.mp hf
      obtain ⟨v30, h30, hf⟩ := Option.bind_eq_some_iff.mp hf
      refine w_ci M (w_runV C M g30 rfl (c_Row_at h30) (cwV 1 C.ts (hgV wm_648 wm_267 wm_268 wm_3 wm_269) rfl rfl rfl (by decide +kernel) ⟨Nat.le_of_ble_eq_true rfl, Nat.le_of_ble_eq_true rfl⟩) rfl hl.1 rfl (Nat.zero_le _) dMach_readFile_30 ⟨Nat.le_refl _, Nat.le_refl _⟩) (fun H locs M => ?_)
      refine lv_istore (lv' := [(6, .int v30), (5, va_rf v2), (0, va_rf (some x0)), (1, va_rf x1), (2, .int x2), (3, .int x3), (4, .int x4)]) C.x C.b dMach_readFile_33 hl (by decide) (by simp only [List.filter, va_rf_cat] <;> rfl) (fun ls hl => ?_)
      refine lv_iload C.x C.b dMach_readFile_35 (lv_at hl 0 rfl) ?_
      refine lv_iconst (v := (-1)) C.x C.b dMach_readFile_37 (by decide) ?_
      refine lv_icmp_ne (tgt := 44) C.x C.b dMach_readFile_38 (by decide) (fun c38 => ?_) (fun c38 => ?_)
      · rw [if_neg c38] at hf
        refine w_aload_n C.x C.b dMach_readFile_44 rfl (lv_at hl 3 rfl) ?_
        refine lv_iload_n C.x C.b dMach_readFile_45 rfl (lv_at hl 4 rfl) ?_
        refine lv_iload C.x C.b dMach_readFile_46 (lv_at hl 0 rfl) ?_
        obtain ⟨o48, g48, hf⟩ := Option.bind_eq_some_iff.mp hf
        obtain ⟨v48, h48, hf⟩ := Option.bind_eq_some_iff.mp hf
        refine w_cv M (w_runV C M g48 rfl (c_Frame_set h48) (cwV 2 C.ts (hgV wm_613 wm_614 wm_615 wm_5 wm_616) rfl rfl rfl (by decide +kernel) ⟨Nat.le_of_ble_eq_true rfl, Nat.le_of_ble_eq_true rfl⟩) rfl hl.1 rfl (Nat.zero_le _) dMach_readFile_48 ⟨Nat.le_refl _, Nat.le_refl _⟩) (fun H locs M => ?_)
        refine lv_iconst (v := (-1)) C.x C.b dMach_readFile_51 (by decide) ?_
        cases hf
        exact w_iret C M hr hlk rfl (Nat.le_refl _) (Nat.le_refl _) dMach_readFile_52 rfl rfl
      · rw [if_pos c38] at hf
        refine lv_bipush (v := 102) C.x C.b dMach_readFile_41 (by decide) ?_
        cases hf
        exact w_iret C M hr hlk rfl (Nat.le_refl _) (Nat.le_refl _) dMach_readFile_43 rfl rfl
    · rw [if_pos c20] at hf
      refine lv_bipush (v := 101) C.x C.b dMach_readFile_23 (by decide) ?_
      cases hf
      exact w_iret C M hr hlk rfl (Nat.le_refl _) (Nat.le_refl _) dMach_readFile_25 rfl rfl
  · rw [if_pos c9] at hf
    refine lv_bipush (v := 102) C.x C.b dMach_readFile_12 (by decide) ?_
    cases hf
    exact w_iret C M hr hlk rfl (Nat.le_refl _) (Nat.le_refl _) dMach_readFile_14 rfl rfl
theorem dMach_speak_0 : decode prog_5_method_18_code 0 = .ok (.aload_n 0, 1) := by decide +kernel
theorem dMach_speak_1 : decode prog_5_method_18_code 1 = .ok (.iconst 1, 1) := by decide +kernel
theorem dMach_speak_2 : decode prog_5_method_18_code 2 = .ok (.invokevirtual 227, 3) := by decide +kernel
theorem dMach_speak_5 : decode prog_5_method_18_code 5 = .ok (.ifCond .ne 6, 3) := by decide +kernel
theorem dMach_speak_8 : decode prog_5_method_18_code 8 = .ok (.bipush 104, 2) := by decide +kernel
theorem dMach_speak_10 : decode prog_5_method_18_code 10 = .ok (.ireturn, 1) := by decide +kernel
theorem dMach_speak_11 : decode prog_5_method_18_code 11 = .ok (.aload_n 0, 1) := by decide +kernel
theorem dMach_speak_12 : decode prog_5_method_18_code 12 = .ok (.iload_n 1, 1) := by decide +kernel
theorem dMach_speak_13 : decode prog_5_method_18_code 13 = .ok (.invokevirtual 230, 3) := by decide +kernel
theorem dMach_speak_16 : decode prog_5_method_18_code 16 = .ok (.iconst (-1), 1) := by decide +kernel
theorem dMach_speak_17 : decode prog_5_method_18_code 17 = .ok (.ireturn, 1) := by decide +kernel
abbrev rm_Mach_speak : Room := { frames := 1, cells := 0, slots := 0, locals := 21 }
def f_Mach_speak  (x0 : Option Nat) (x1 : Int32) (E : hE) : Option (Int32 × hE) := (
  (gO E x0 0).bind fun o2 =>
  (f_Row_hasRoomFor E o2.1 1).bind fun v2 =>
  if v2 = 0 then (
  some (104, E)
  ) else (
  (gO E x0 0).bind fun o13 =>
  (f_Row_add o13.1 x1 E).bind fun v13 =>
  some ((-1), v13)
  ))
set_option maxHeartbeats 4000000 in
set_option maxRecDepth 100000 in
theorem c_Mach_speak {l : Launch} {D : va_G} {kA : Nat → ClassId} {S : hE} {g : Nat → Nat} {n0 nx : Nat} {x0 : Option Nat} {x1 : Int32} {E : hE} {res : Int32 × hE} (hf : f_Mach_speak x0 x1 E = some res) : Met l y_Mach_speak ws_Mach_speak rm_Mach_speak (va_Pc [va_rf x0, .int x1] (hJ D kA S g n0 (E, nx))) (va_Qi (fun r w => r = res.1 ∧ w = (res.2, nx)) (hJ D kA S g n0) (fun q => n0 ≤ q)) 0 0 (fun q => n0 ≤ q) := by
  refine h_met (cc := prog_5_method_18_code) (maxL := 2) (ret := (some .int)) (lvs := [(0, va_rf x0), (1, .int x1)]) zZ_k (by decide) rfl (by simp [lg_sl, va_rf_cat, cat_i, cat_l, cat_n]) (by simp [lv_args, va_rf_cat, cat_i, cat_l, cat_n]) ?_
  intro p e s m below meth c ls C M hr hlk hnm hl
  unfold f_Mach_speak at hf
  refine w_aload_n C.x C.b dMach_speak_0 rfl (lv_at hl 0 rfl) ?_
  refine lv_iconst (v := 1) C.x C.b dMach_speak_1 (by decide) ?_
  obtain ⟨o2, g2, hf⟩ := Option.bind_eq_some_iff.mp hf
  obtain ⟨v2, h2, hf⟩ := Option.bind_eq_some_iff.mp hf
  refine w_ci M (w_runV C M g2 rfl (c_Row_hasRoomFor h2) (cwV 1 C.ts (hgV wm_656 wm_200 wm_201 wm_3 wm_202) rfl rfl rfl (by decide +kernel) ⟨Nat.le_of_ble_eq_true rfl, Nat.le_of_ble_eq_true rfl⟩) rfl hl.1 rfl (Nat.zero_le _) dMach_speak_2 ⟨Nat.le_refl _, Nat.le_refl _⟩) (fun H locs M => ?_)
  refine lv_if_ne (tgt := 11) C.x C.b dMach_speak_5 (by decide) (fun c5 => ?_) (fun c5 => ?_)
  · rw [if_neg c5] at hf
    refine w_aload_n C.x C.b dMach_speak_11 rfl (lv_at hl 0 rfl) ?_
    refine lv_iload_n C.x C.b dMach_speak_12 rfl (lv_at hl 1 rfl) ?_
    obtain ⟨o13, g13, hf⟩ := Option.bind_eq_some_iff.mp hf
    obtain ⟨v13, h13, hf⟩ := Option.bind_eq_some_iff.mp hf
    refine w_cv M (w_runV C M g13 rfl (c_Row_add h13) (cwV 1 C.ts (hgV wm_657 wm_204 wm_205 wm_3 wm_206) rfl rfl rfl (by decide +kernel) ⟨Nat.le_of_ble_eq_true rfl, Nat.le_of_ble_eq_true rfl⟩) rfl hl.1 rfl (Nat.zero_le _) dMach_speak_13 ⟨Nat.le_refl _, Nat.le_refl _⟩) (fun H locs M => ?_)
    refine lv_iconst (v := (-1)) C.x C.b dMach_speak_16 (by decide) ?_
    cases hf
    exact w_iret C M hr hlk rfl (Nat.le_refl _) (Nat.le_refl _) dMach_speak_17 rfl rfl
  · rw [if_pos c5] at hf
    refine lv_bipush (v := 104) C.x C.b dMach_speak_8 (by decide) ?_
    cases hf
    exact w_iret C M hr hlk rfl (Nat.le_refl _) (Nat.le_refl _) dMach_speak_10 rfl rfl
theorem dMach_writeFile_0 : decode prog_5_method_15_code 0 = .ok (.aload_n 0, 1) := by decide +kernel
theorem dMach_writeFile_1 : decode prog_5_method_15_code 1 = .ok (.iload_n 1, 1) := by decide +kernel
theorem dMach_writeFile_2 : decode prog_5_method_15_code 2 = .ok (.invokevirtual 208, 3) := by decide +kernel
theorem dMach_writeFile_5 : decode prog_5_method_15_code 5 = .ok (.astore_n 3, 1) := by decide +kernel
theorem dMach_writeFile_6 : decode prog_5_method_15_code 6 = .ok (.aload_n 3, 1) := by decide +kernel
theorem dMach_writeFile_7 : decode prog_5_method_15_code 7 = .ok (.ifnonnull 8, 3) := by decide +kernel
theorem dMach_writeFile_10 : decode prog_5_method_15_code 10 = .ok (.bipush 102, 2) := by decide +kernel
theorem dMach_writeFile_12 : decode prog_5_method_15_code 12 = .ok (.goto 8, 3) := by decide +kernel
theorem dMach_writeFile_15 : decode prog_5_method_15_code 15 = .ok (.aload_n 3, 1) := by decide +kernel
theorem dMach_writeFile_16 : decode prog_5_method_15_code 16 = .ok (.iload_n 2, 1) := by decide +kernel
theorem dMach_writeFile_17 : decode prog_5_method_15_code 17 = .ok (.invokestatic 167, 3) := by decide +kernel
theorem dMach_writeFile_20 : decode prog_5_method_15_code 20 = .ok (.ireturn, 1) := by decide +kernel
abbrev rm_Mach_writeFile : Room := { frames := 2, cells := 0, slots := 0, locals := 42 }
def f_Mach_writeFile_b20  (t0 : Int32) (E : hE) : Option (Int32 × hE) := (
  some (t0, E))
set_option maxHeartbeats 4000000 in
set_option maxRecDepth 100000 in
theorem b_Mach_writeFile_20 {p : Program} {l : Launch} {e : Env} {s : State} {m : MethodId} {args : Array Value} {below : List Frame} {meth : Method} {c : Code} {D : va_G} {kA : Nat → ClassId} {S : hE} {g : Nat → Nat} {n0 nx : Nat} {res : Int32 × hE} (C : hX p s m args c prog_5_method_15_code 4 R_Mach ws_Mach_writeFile D kA S g n0) (hr : meth.sig.returnType = (some .int)) (hlk : meth.locks = false) (hnm : meth.name = "writeFile") : ∀ (t0 : Int32) (E : hE) (H : Heap) (locs : List Loc) (ls : Array Slot), hY D kA n0 s E nx H locs → lv_has ls 4 [] → f_Mach_writeFile_b20  t0 E = some res → W p l e rm_Mach_writeFile s m args below meth c H locs 0 0 (MQ below (va_Qi (fun r w => r = res.1 ∧ w = (res.2, nx)) (hJ D kA S g n0) (fun q => n0 ≤ q)) args s 0 0 (fun q => n0 ≤ q)) (F0 m 20 ls [.int t0]) := by
  intro t0 E H locs ls M hl hf
  unfold f_Mach_writeFile_b20 at hf
  cases hf
  exact w_iret C M hr hlk rfl (Nat.le_refl _) (Nat.le_refl _) dMach_writeFile_20 rfl rfl
def f_Mach_writeFile  (x0 : Nat) (x1 : Int32) (x2 : Int32) (E : hE) : Option (Int32 × hE) := (
  (gO E (some x0) 2).bind fun o2 =>
  (f_Mach_fileAt E o2.1 x1).bind fun v2 =>
  if v2 = none then (
  f_Mach_writeFile_b20 102 E
  ) else (
  (f_Mach_speak v2 x2 E).bind fun v17 =>
  f_Mach_writeFile_b20 v17.1 v17.2
  ))
set_option maxHeartbeats 4000000 in
set_option maxRecDepth 100000 in
theorem c_Mach_writeFile {l : Launch} {D : va_G} {kA : Nat → ClassId} {S : hE} {g : Nat → Nat} {n0 nx : Nat} {x0 : Nat} {x1 : Int32} {x2 : Int32} {E : hE} {res : Int32 × hE} (hf : f_Mach_writeFile x0 x1 x2 E = some res) : Met l y_Mach_writeFile ws_Mach_writeFile rm_Mach_writeFile (va_Pc [va_rf (some x0), .int x1, .int x2] (hJ D kA S g n0 (E, nx))) (va_Qi (fun r w => r = res.1 ∧ w = (res.2, nx)) (hJ D kA S g n0) (fun q => n0 ≤ q)) 0 0 (fun q => n0 ≤ q) := by
  refine h_met (cc := prog_5_method_15_code) (maxL := 4) (ret := (some .int)) (lvs := [(0, va_rf (some x0)), (1, .int x1), (2, .int x2)]) zZ_k (by decide) rfl (by simp [lg_sl, va_rf_cat, cat_i, cat_l, cat_n]) (by simp [lv_args, va_rf_cat, cat_i, cat_l, cat_n]) ?_
  intro p e s m below meth c ls C M hr hlk hnm hl
  unfold f_Mach_writeFile at hf
  refine w_aload_n C.x C.b dMach_writeFile_0 rfl (lv_at hl 0 rfl) ?_
  refine lv_iload_n C.x C.b dMach_writeFile_1 rfl (lv_at hl 1 rfl) ?_
  obtain ⟨o2, g2, hf⟩ := Option.bind_eq_some_iff.mp hf
  obtain ⟨v2, h2, hf⟩ := Option.bind_eq_some_iff.mp hf
  refine w_cq M (w_runV C M g2 rfl (c_Mach_fileAt h2) (cwV 1 C.ts (hgV wm_639 wm_554 wm_555 wm_4 wm_556) rfl rfl rfl (by decide +kernel) ⟨Nat.le_of_ble_eq_true rfl, Nat.le_of_ble_eq_true rfl⟩) rfl hl.1 rfl (Nat.zero_le _) dMach_writeFile_2 ⟨Nat.le_refl _, Nat.le_refl _⟩) (fun H locs M => ?_)
  refine w_astore_n (lv' := [(3, va_rf v2), (0, va_rf (some x0)), (1, .int x1), (2, .int x2)]) C.x C.b dMach_writeFile_5 rfl hl (by decide) rfl (fun ls hl => ?_)
  refine w_aload_n C.x C.b dMach_writeFile_6 rfl (lv_at hl 0 rfl) ?_
  refine w_ifnonnull (tgt := 15) C.x C.b dMach_writeFile_7 (by decide) (fun c7 => ?_) (fun c7 => ?_)
  · rw [if_neg c7] at hf
    refine w_aload_n C.x C.b dMach_writeFile_15 rfl (lv_at hl 0 rfl) ?_
    refine lv_iload_n C.x C.b dMach_writeFile_16 rfl (lv_at hl 3 rfl) ?_
    obtain ⟨v17, h17, hf⟩ := Option.bind_eq_some_iff.mp hf
    refine w_ci M (w_runS C M (c_Mach_speak h17) (cwS 2 C.ts (hgS wm_653 wm_654 wm_4 wm_655) rfl rfl rfl (by decide +kernel) ⟨Nat.le_of_ble_eq_true rfl, Nat.le_of_ble_eq_true rfl⟩) rfl hl.1 rfl (Nat.zero_le _) dMach_writeFile_17 ⟨Nat.le_refl _, Nat.le_refl _⟩) (fun H locs M => ?_)
    exact b_Mach_writeFile_20 C hr hlk hnm _ _ _ _ _ M (lv_sub hl [] rfl) hf
  · rw [if_pos c7] at hf
    refine lv_bipush (v := 102) C.x C.b dMach_writeFile_10 (by decide) ?_
    refine lv_goto (tgt := 20) C.x C.b dMach_writeFile_12 (by decide) ?_
    exact b_Mach_writeFile_20 C hr hlk hnm _ _ _ _ _ M (lv_sub hl [] rfl) hf
theorem dMach_dropFile_0 : decode prog_5_method_16_code 0 = .ok (.aload_n 0, 1) := by decide +kernel
theorem dMach_dropFile_1 : decode prog_5_method_16_code 1 = .ok (.iload_n 1, 1) := by decide +kernel
theorem dMach_dropFile_2 : decode prog_5_method_16_code 2 = .ok (.invokevirtual 208, 3) := by decide +kernel
theorem dMach_dropFile_5 : decode prog_5_method_16_code 5 = .ok (.astore_n 2, 1) := by decide +kernel
theorem dMach_dropFile_6 : decode prog_5_method_16_code 6 = .ok (.aload_n 2, 1) := by decide +kernel
theorem dMach_dropFile_7 : decode prog_5_method_16_code 7 = .ok (.ifnonnull 6, 3) := by decide +kernel
theorem dMach_dropFile_10 : decode prog_5_method_16_code 10 = .ok (.bipush 102, 2) := by decide +kernel
theorem dMach_dropFile_12 : decode prog_5_method_16_code 12 = .ok (.ireturn, 1) := by decide +kernel
theorem dMach_dropFile_13 : decode prog_5_method_16_code 13 = .ok (.aload_n 2, 1) := by decide +kernel
theorem dMach_dropFile_14 : decode prog_5_method_16_code 14 = .ok (.getfield 215, 3) := by decide +kernel
theorem dMach_dropFile_17 : decode prog_5_method_16_code 17 = .ok (.ifCond .ne 6, 3) := by decide +kernel
theorem dMach_dropFile_20 : decode prog_5_method_16_code 20 = .ok (.bipush 101, 2) := by decide +kernel
theorem dMach_dropFile_22 : decode prog_5_method_16_code 22 = .ok (.ireturn, 1) := by decide +kernel
theorem dMach_dropFile_23 : decode prog_5_method_16_code 23 = .ok (.aload_n 2, 1) := by decide +kernel
theorem dMach_dropFile_24 : decode prog_5_method_16_code 24 = .ok (.invokevirtual 220, 3) := by decide +kernel
theorem dMach_dropFile_27 : decode prog_5_method_16_code 27 = .ok (.iconst (-1), 1) := by decide +kernel
theorem dMach_dropFile_28 : decode prog_5_method_16_code 28 = .ok (.ireturn, 1) := by decide +kernel
abbrev rm_Mach_dropFile : Room := { frames := 1, cells := 0, slots := 0, locals := 21 }
def f_Mach_dropFile  (x0 : Nat) (x1 : Int32) (E : hE) : Option (Int32 × hE) := (
  (gO E (some x0) 2).bind fun o2 =>
  (f_Mach_fileAt E o2.1 x1).bind fun v2 =>
  if v2 = none then (
  some (102, E)
  ) else (
  (gI E v2 0 2).bind fun v14 =>
  if v14 = 0 then (
  some (101, E)
  ) else (
  (gO E v2 0).bind fun o24 =>
  (f_Row_remove o24.1 E).bind fun v24 =>
  some ((-1), v24)
  )
  ))
set_option maxHeartbeats 4000000 in
set_option maxRecDepth 100000 in
theorem c_Mach_dropFile {l : Launch} {D : va_G} {kA : Nat → ClassId} {S : hE} {g : Nat → Nat} {n0 nx : Nat} {x0 : Nat} {x1 : Int32} {E : hE} {res : Int32 × hE} (hf : f_Mach_dropFile x0 x1 E = some res) : Met l y_Mach_dropFile ws_Mach_dropFile rm_Mach_dropFile (va_Pc [va_rf (some x0), .int x1] (hJ D kA S g n0 (E, nx))) (va_Qi (fun r w => r = res.1 ∧ w = (res.2, nx)) (hJ D kA S g n0) (fun q => n0 ≤ q)) 0 0 (fun q => n0 ≤ q) := by
  refine h_met (cc := prog_5_method_16_code) (maxL := 3) (ret := (some .int)) (lvs := [(0, va_rf (some x0)), (1, .int x1)]) zZ_k (by decide) rfl (by simp [lg_sl, va_rf_cat, cat_i, cat_l, cat_n]) (by simp [lv_args, va_rf_cat, cat_i, cat_l, cat_n]) ?_
  intro p e s m below meth c ls C M hr hlk hnm hl
  unfold f_Mach_dropFile at hf
  refine w_aload_n C.x C.b dMach_dropFile_0 rfl (lv_at hl 0 rfl) ?_
  refine lv_iload_n C.x C.b dMach_dropFile_1 rfl (lv_at hl 1 rfl) ?_
  obtain ⟨o2, g2, hf⟩ := Option.bind_eq_some_iff.mp hf
  obtain ⟨v2, h2, hf⟩ := Option.bind_eq_some_iff.mp hf
  refine w_cq M (w_runV C M g2 rfl (c_Mach_fileAt h2) (cwV 1 C.ts (hgV wm_639 wm_554 wm_555 wm_4 wm_556) rfl rfl rfl (by decide +kernel) ⟨Nat.le_of_ble_eq_true rfl, Nat.le_of_ble_eq_true rfl⟩) rfl hl.1 rfl (Nat.zero_le _) dMach_dropFile_2 ⟨Nat.le_refl _, Nat.le_refl _⟩) (fun H locs M => ?_)
  refine w_astore_n (lv' := [(2, va_rf v2), (0, va_rf (some x0)), (1, .int x1)]) C.x C.b dMach_dropFile_5 rfl hl (by decide) rfl (fun ls hl => ?_)
  refine w_aload_n C.x C.b dMach_dropFile_6 rfl (lv_at hl 0 rfl) ?_
  refine w_ifnonnull (tgt := 13) C.x C.b dMach_dropFile_7 (by decide) (fun c7 => ?_) (fun c7 => ?_)
  · rw [if_neg c7] at hf
    refine w_aload_n C.x C.b dMach_dropFile_13 rfl (lv_at hl 0 rfl) ?_
    obtain ⟨v14, h14, hf⟩ := Option.bind_eq_some_iff.mp hf
    refine w_getI C M h14 rfl (hm_in in_Row) (by decide) (List.mem_cons_of_mem _ wm_49) rfl dMach_dropFile_14 ?_
    refine lv_if_ne (tgt := 23) C.x C.b dMach_dropFile_17 (by decide) (fun c17 => ?_) (fun c17 => ?_)
    · rw [if_neg c17] at hf
      refine w_aload_n C.x C.b dMach_dropFile_23 rfl (lv_at hl 0 rfl) ?_
      obtain ⟨o24, g24, hf⟩ := Option.bind_eq_some_iff.mp hf
      obtain ⟨v24, h24, hf⟩ := Option.bind_eq_some_iff.mp hf
      refine w_cv M (w_runV C M g24 rfl (c_Row_remove h24) (cwV 0 C.ts (hgV wm_662 wm_562 wm_563 wm_3 wm_564) rfl rfl rfl (by decide +kernel) ⟨Nat.le_of_ble_eq_true rfl, Nat.le_of_ble_eq_true rfl⟩) rfl hl.1 rfl (Nat.zero_le _) dMach_dropFile_24 ⟨Nat.le_refl _, Nat.le_refl _⟩) (fun H locs M => ?_)
      refine lv_iconst (v := (-1)) C.x C.b dMach_dropFile_27 (by decide) ?_
      cases hf
      exact w_iret C M hr hlk rfl (Nat.le_refl _) (Nat.le_refl _) dMach_dropFile_28 rfl rfl
    · rw [if_pos c17] at hf
      refine lv_bipush (v := 101) C.x C.b dMach_dropFile_20 (by decide) ?_
      cases hf
      exact w_iret C M hr hlk rfl (Nat.le_refl _) (Nat.le_refl _) dMach_dropFile_22 rfl rfl
  · rw [if_pos c7] at hf
    refine lv_bipush (v := 102) C.x C.b dMach_dropFile_10 (by decide) ?_
    cases hf
    exact w_iret C M hr hlk rfl (Nat.le_refl _) (Nat.le_refl _) dMach_dropFile_12 rfl rfl
theorem dMach_copyFile_0 : decode prog_5_method_17_code 0 = .ok (.aload_n 0, 1) := by decide +kernel
theorem dMach_copyFile_1 : decode prog_5_method_17_code 1 = .ok (.iload_n 1, 1) := by decide +kernel
theorem dMach_copyFile_2 : decode prog_5_method_17_code 2 = .ok (.invokevirtual 208, 3) := by decide +kernel
theorem dMach_copyFile_5 : decode prog_5_method_17_code 5 = .ok (.astore_n 3, 1) := by decide +kernel
theorem dMach_copyFile_6 : decode prog_5_method_17_code 6 = .ok (.aload_n 0, 1) := by decide +kernel
theorem dMach_copyFile_7 : decode prog_5_method_17_code 7 = .ok (.iload_n 2, 1) := by decide +kernel
theorem dMach_copyFile_8 : decode prog_5_method_17_code 8 = .ok (.invokevirtual 208, 3) := by decide +kernel
theorem dMach_copyFile_11 : decode prog_5_method_17_code 11 = .ok (.astore 4, 2) := by decide +kernel
theorem dMach_copyFile_13 : decode prog_5_method_17_code 13 = .ok (.aload_n 3, 1) := by decide +kernel
theorem dMach_copyFile_14 : decode prog_5_method_17_code 14 = .ok (.ifnull 8, 3) := by decide +kernel
theorem dMach_copyFile_17 : decode prog_5_method_17_code 17 = .ok (.aload 4, 2) := by decide +kernel
theorem dMach_copyFile_19 : decode prog_5_method_17_code 19 = .ok (.ifnonnull 6, 3) := by decide +kernel
theorem dMach_copyFile_22 : decode prog_5_method_17_code 22 = .ok (.bipush 102, 2) := by decide +kernel
theorem dMach_copyFile_24 : decode prog_5_method_17_code 24 = .ok (.ireturn, 1) := by decide +kernel
theorem dMach_copyFile_25 : decode prog_5_method_17_code 25 = .ok (.aload_n 3, 1) := by decide +kernel
theorem dMach_copyFile_26 : decode prog_5_method_17_code 26 = .ok (.getfield 215, 3) := by decide +kernel
theorem dMach_copyFile_29 : decode prog_5_method_17_code 29 = .ok (.ifCond .ne 6, 3) := by decide +kernel
theorem dMach_copyFile_32 : decode prog_5_method_17_code 32 = .ok (.bipush 101, 2) := by decide +kernel
theorem dMach_copyFile_34 : decode prog_5_method_17_code 34 = .ok (.ireturn, 1) := by decide +kernel
theorem dMach_copyFile_35 : decode prog_5_method_17_code 35 = .ok (.aload 4, 2) := by decide +kernel
theorem dMach_copyFile_37 : decode prog_5_method_17_code 37 = .ok (.aload_n 3, 1) := by decide +kernel
theorem dMach_copyFile_38 : decode prog_5_method_17_code 38 = .ok (.invokevirtual 223, 3) := by decide +kernel
theorem dMach_copyFile_41 : decode prog_5_method_17_code 41 = .ok (.iconst (-1), 1) := by decide +kernel
theorem dMach_copyFile_42 : decode prog_5_method_17_code 42 = .ok (.ireturn, 1) := by decide +kernel
abbrev rm_Mach_copyFile : Room := { frames := 2, cells := 0, slots := 0, locals := 62 }
def f_Mach_copyFile_b22  (E : hE) : Option (Int32 × hE) := (
  some (102, E))
set_option maxHeartbeats 4000000 in
set_option maxRecDepth 100000 in
theorem b_Mach_copyFile_22 {p : Program} {l : Launch} {e : Env} {s : State} {m : MethodId} {args : Array Value} {below : List Frame} {meth : Method} {c : Code} {D : va_G} {kA : Nat → ClassId} {S : hE} {g : Nat → Nat} {n0 nx : Nat} {res : Int32 × hE} (C : hX p s m args c prog_5_method_17_code 5 R_Mach ws_Mach_copyFile D kA S g n0) (hr : meth.sig.returnType = (some .int)) (hlk : meth.locks = false) (hnm : meth.name = "copyFile") : ∀  (E : hE) (H : Heap) (locs : List Loc) (ls : Array Slot), hY D kA n0 s E nx H locs → lv_has ls 5 [] → f_Mach_copyFile_b22  E = some res → W p l e rm_Mach_copyFile s m args below meth c H locs 0 0 (MQ below (va_Qi (fun r w => r = res.1 ∧ w = (res.2, nx)) (hJ D kA S g n0) (fun q => n0 ≤ q)) args s 0 0 (fun q => n0 ≤ q)) (F0 m 22 ls []) := by
  intro E H locs ls M hl hf
  unfold f_Mach_copyFile_b22 at hf
  refine lv_bipush (v := 102) C.x C.b dMach_copyFile_22 (by decide) ?_
  cases hf
  exact w_iret C M hr hlk rfl (Nat.le_refl _) (Nat.le_refl _) dMach_copyFile_24 rfl rfl
def f_Mach_copyFile  (x0 : Nat) (x1 : Int32) (x2 : Int32) (E : hE) : Option (Int32 × hE) := (
  (gO E (some x0) 2).bind fun o2 =>
  (f_Mach_fileAt E o2.1 x1).bind fun v2 =>
  (gO E (some x0) 2).bind fun o8 =>
  (f_Mach_fileAt E o8.1 x2).bind fun v8 =>
  if v2 = none then (
  f_Mach_copyFile_b22 E
  ) else (
  if v8 = none then (
  f_Mach_copyFile_b22 E
  ) else (
  (gI E v2 0 2).bind fun v26 =>
  if v26 = 0 then (
  some (101, E)
  ) else (
  (gO E v8 0).bind fun o38 =>
  (f_Row_become o38.1 v2 E).bind fun v38 =>
  some ((-1), v38)
  )
  )
  ))
set_option maxHeartbeats 4000000 in
set_option maxRecDepth 100000 in
theorem c_Mach_copyFile {l : Launch} {D : va_G} {kA : Nat → ClassId} {S : hE} {g : Nat → Nat} {n0 nx : Nat} {x0 : Nat} {x1 : Int32} {x2 : Int32} {E : hE} {res : Int32 × hE} (hf : f_Mach_copyFile x0 x1 x2 E = some res) : Met l y_Mach_copyFile ws_Mach_copyFile rm_Mach_copyFile (va_Pc [va_rf (some x0), .int x1, .int x2] (hJ D kA S g n0 (E, nx))) (va_Qi (fun r w => r = res.1 ∧ w = (res.2, nx)) (hJ D kA S g n0) (fun q => n0 ≤ q)) 0 0 (fun q => n0 ≤ q) := by
  refine h_met (cc := prog_5_method_17_code) (maxL := 5) (ret := (some .int)) (lvs := [(0, va_rf (some x0)), (1, .int x1), (2, .int x2)]) zZ_k (by decide) rfl (by simp [lg_sl, va_rf_cat, cat_i, cat_l, cat_n]) (by simp [lv_args, va_rf_cat, cat_i, cat_l, cat_n]) ?_
  intro p e s m below meth c ls C M hr hlk hnm hl
  unfold f_Mach_copyFile at hf
  refine w_aload_n C.x C.b dMach_copyFile_0 rfl (lv_at hl 0 rfl) ?_
  refine lv_iload_n C.x C.b dMach_copyFile_1 rfl (lv_at hl 1 rfl) ?_
  obtain ⟨o2, g2, hf⟩ := Option.bind_eq_some_iff.mp hf
  obtain ⟨v2, h2, hf⟩ := Option.bind_eq_some_iff.mp hf
  refine w_cq M (w_runV C M g2 rfl (c_Mach_fileAt h2) (cwV 1 C.ts (hgV wm_639 wm_554 wm_555 wm_4 wm_556) rfl rfl rfl (by decide +kernel) ⟨Nat.le_of_ble_eq_true rfl, Nat.le_of_ble_eq_true rfl⟩) rfl hl.1 rfl (Nat.zero_le _) dMach_copyFile_2 ⟨Nat.le_refl _, Nat.le_refl _⟩) (fun H locs M => ?_)
  refine w_astore_n (lv' := [(3, va_rf v2), (0, va_rf (some x0)), (1, .int x1), (2, .int x2)]) C.x C.b dMach_copyFile_5 rfl hl (by decide) rfl (fun ls hl => ?_)
  refine w_aload_n C.x C.b dMach_copyFile_6 rfl (lv_at hl 1 rfl) ?_
  refine lv_iload_n C.x C.b dMach_copyFile_7 rfl (lv_at hl 3 rfl) ?_
  obtain ⟨o8, g8, hf⟩ := Option.bind_eq_some_iff.mp hf
  obtain ⟨v8, h8, hf⟩ := Option.bind_eq_some_iff.mp hf
  refine w_cq M (w_runV C M g8 rfl (c_Mach_fileAt h8) (cwV 1 C.ts (hgV wm_639 wm_554 wm_555 wm_4 wm_556) rfl rfl rfl (by decide +kernel) ⟨Nat.le_of_ble_eq_true rfl, Nat.le_of_ble_eq_true rfl⟩) rfl hl.1 rfl (Nat.zero_le _) dMach_copyFile_8 ⟨Nat.le_refl _, Nat.le_refl _⟩) (fun H locs M => ?_)
  refine w_astore (lv' := [(4, va_rf v8), (3, va_rf v2), (0, va_rf (some x0)), (1, .int x1), (2, .int x2)]) C.x C.b dMach_copyFile_11 hl (by decide) (by simp only [List.filter, va_rf_cat] <;> rfl) (fun ls hl => ?_)
  refine w_aload_n C.x C.b dMach_copyFile_13 rfl (lv_at hl 1 rfl) ?_
  refine w_ifnull (tgt := 22) C.x C.b dMach_copyFile_14 (by decide) (fun c14 => ?_) (fun c14 => ?_)
  · rw [if_pos c14] at hf
    exact b_Mach_copyFile_22 C hr hlk hnm _ _ _ _ M (lv_sub hl [] rfl) hf
  · rw [if_neg c14] at hf
    refine w_aload C.x C.b dMach_copyFile_17 (lv_at hl 0 rfl) ?_
    refine w_ifnonnull (tgt := 25) C.x C.b dMach_copyFile_19 (by decide) (fun c19 => ?_) (fun c19 => ?_)
    · rw [if_neg c19] at hf
      refine w_aload_n C.x C.b dMach_copyFile_25 rfl (lv_at hl 1 rfl) ?_
      obtain ⟨v26, h26, hf⟩ := Option.bind_eq_some_iff.mp hf
      refine w_getI C M h26 rfl (hm_in in_Row) (by decide) (List.mem_cons_of_mem _ wm_49) rfl dMach_copyFile_26 ?_
      refine lv_if_ne (tgt := 35) C.x C.b dMach_copyFile_29 (by decide) (fun c29 => ?_) (fun c29 => ?_)
      · rw [if_neg c29] at hf
        refine w_aload C.x C.b dMach_copyFile_35 (lv_at hl 0 rfl) ?_
        refine w_aload_n C.x C.b dMach_copyFile_37 rfl (lv_at hl 1 rfl) ?_
        obtain ⟨o38, g38, hf⟩ := Option.bind_eq_some_iff.mp hf
        obtain ⟨v38, h38, hf⟩ := Option.bind_eq_some_iff.mp hf
        refine w_cv M (w_runV C M g38 rfl (c_Row_become h38) (cwV 1 C.ts (hgV wm_667 wm_668 wm_669 wm_3 wm_670) rfl rfl rfl (by decide +kernel) ⟨Nat.le_of_ble_eq_true rfl, Nat.le_of_ble_eq_true rfl⟩) rfl hl.1 rfl (Nat.zero_le _) dMach_copyFile_38 ⟨Nat.le_refl _, Nat.le_refl _⟩) (fun H locs M => ?_)
        refine lv_iconst (v := (-1)) C.x C.b dMach_copyFile_41 (by decide) ?_
        cases hf
        exact w_iret C M hr hlk rfl (Nat.le_refl _) (Nat.le_refl _) dMach_copyFile_42 rfl rfl
      · rw [if_pos c29] at hf
        refine lv_bipush (v := 101) C.x C.b dMach_copyFile_32 (by decide) ?_
        cases hf
        exact w_iret C M hr hlk rfl (Nat.le_refl _) (Nat.le_refl _) dMach_copyFile_34 rfl rfl
    · rw [if_pos c19] at hf
      exact b_Mach_copyFile_22 C hr hlk hnm _ _ _ _ M (lv_sub hl [] rfl) hf
theorem dScript_placeOf_0 : decode prog_7_method_3_code 0 = .ok (.iload_n 1, 1) := by decide +kernel
theorem dScript_placeOf_1 : decode prog_7_method_3_code 1 = .ok (.ifCond .lt 18, 3) := by decide +kernel
theorem dScript_placeOf_4 : decode prog_7_method_3_code 4 = .ok (.iload_n 1, 1) := by decide +kernel
theorem dScript_placeOf_5 : decode prog_7_method_3_code 5 = .ok (.bipush 26, 2) := by decide +kernel
theorem dScript_placeOf_7 : decode prog_7_method_3_code 7 = .ok (.if_icmp .ge 12, 3) := by decide +kernel
theorem dScript_placeOf_10 : decode prog_7_method_3_code 10 = .ok (.aload_n 0, 1) := by decide +kernel
theorem dScript_placeOf_11 : decode prog_7_method_3_code 11 = .ok (.getfield 18, 3) := by decide +kernel
theorem dScript_placeOf_14 : decode prog_7_method_3_code 14 = .ok (.iload_n 1, 1) := by decide +kernel
theorem dScript_placeOf_15 : decode prog_7_method_3_code 15 = .ok (.iaload, 1) := by decide +kernel
theorem dScript_placeOf_16 : decode prog_7_method_3_code 16 = .ok (.goto 4, 3) := by decide +kernel
theorem dScript_placeOf_19 : decode prog_7_method_3_code 19 = .ok (.iconst (-1), 1) := by decide +kernel
theorem dScript_placeOf_20 : decode prog_7_method_3_code 20 = .ok (.ireturn, 1) := by decide +kernel
abbrev rm_Script_placeOf : Room := { frames := 0, cells := 0, slots := 0, locals := 0 }
def f_Script_placeOf_b20 (E : hE) (t0 : Int32) : Option (Int32) := (
  some t0)
set_option maxHeartbeats 4000000 in
set_option maxRecDepth 100000 in
theorem b_Script_placeOf_20 {p : Program} {l : Launch} {e : Env} {s : State} {m : MethodId} {args : Array Value} {below : List Frame} {meth : Method} {c : Code} {D : va_G} {kA : Nat → ClassId} {S : hE} {g : Nat → Nat} {n0 nx : Nat} {E : hE} {res : Int32} (C : hX p s m args c prog_7_method_3_code 2 R_Script ws_Script_placeOf D kA S g n0) (hr : meth.sig.returnType = (some .int)) (hlk : meth.locks = false) (hnm : meth.name = "placeOf") : ∀ (t0 : Int32) (H : Heap) (locs : List Loc) (ls : Array Slot), hY D kA n0 s E nx H locs → lv_has ls 2 [] → f_Script_placeOf_b20 E  t0 = some res → W p l e rm_Script_placeOf s m args below meth c H locs 0 0 (MQ below (va_Qi (fun r w => r = res ∧ w = (E, nx)) (hJ D kA S g n0) (fun q => n0 ≤ q)) args s 0 0 (fun q => n0 ≤ q)) (F0 m 20 ls [.int t0]) := by
  intro t0 H locs ls M hl hf
  unfold f_Script_placeOf_b20 at hf
  cases hf
  exact w_iret C M hr hlk rfl (Nat.le_refl _) (Nat.le_refl _) dScript_placeOf_20 rfl rfl
def f_Script_placeOf_b19 (E : hE) : Option (Int32) := (
  f_Script_placeOf_b20 E (-1))
set_option maxHeartbeats 4000000 in
set_option maxRecDepth 100000 in
theorem b_Script_placeOf_19 {p : Program} {l : Launch} {e : Env} {s : State} {m : MethodId} {args : Array Value} {below : List Frame} {meth : Method} {c : Code} {D : va_G} {kA : Nat → ClassId} {S : hE} {g : Nat → Nat} {n0 nx : Nat} {E : hE} {res : Int32} (C : hX p s m args c prog_7_method_3_code 2 R_Script ws_Script_placeOf D kA S g n0) (hr : meth.sig.returnType = (some .int)) (hlk : meth.locks = false) (hnm : meth.name = "placeOf") : ∀  (H : Heap) (locs : List Loc) (ls : Array Slot), hY D kA n0 s E nx H locs → lv_has ls 2 [] → f_Script_placeOf_b19 E   = some res → W p l e rm_Script_placeOf s m args below meth c H locs 0 0 (MQ below (va_Qi (fun r w => r = res ∧ w = (E, nx)) (hJ D kA S g n0) (fun q => n0 ≤ q)) args s 0 0 (fun q => n0 ≤ q)) (F0 m 19 ls []) := by
  intro  H locs ls M hl hf
  unfold f_Script_placeOf_b19 at hf
  refine lv_iconst (v := (-1)) C.x C.b dScript_placeOf_19 (by decide) ?_
  exact b_Script_placeOf_20 C hr hlk hnm _ _ _ _ M (lv_sub hl [] rfl) hf
def f_Script_placeOf (E : hE) (x0 : Nat) (x1 : Int32) : Option (Int32) := (
  if x1 < 0 then (
  f_Script_placeOf_b19 E 
  ) else (
  if 26 ≤ x1 then (
  f_Script_placeOf_b19 E 
  ) else (
  (gR E (some x0) 3 1).bind fun v11 =>
  (aI E v11 0 x1).bind fun v15 =>
  f_Script_placeOf_b20 E v15
  )
  ))
set_option maxHeartbeats 4000000 in
set_option maxRecDepth 100000 in
theorem c_Script_placeOf {l : Launch} {D : va_G} {kA : Nat → ClassId} {S : hE} {g : Nat → Nat} {n0 nx : Nat} {x0 : Nat} {x1 : Int32} {E : hE} {res : Int32} (hf : f_Script_placeOf E x0 x1 = some res) : Met l y_Script_placeOf ws_Script_placeOf rm_Script_placeOf (va_Pc [va_rf (some x0), .int x1] (hJ D kA S g n0 (E, nx))) (va_Qi (fun r w => r = res ∧ w = (E, nx)) (hJ D kA S g n0) (fun q => n0 ≤ q)) 0 0 (fun q => n0 ≤ q) := by
  refine h_met (cc := prog_7_method_3_code) (maxL := 2) (ret := (some .int)) (lvs := [(0, va_rf (some x0)), (1, .int x1)]) zZ_k (by decide) rfl (by simp [lg_sl, va_rf_cat, cat_i, cat_l, cat_n]) (by simp [lv_args, va_rf_cat, cat_i, cat_l, cat_n]) ?_
  intro p e s m below meth c ls C M hr hlk hnm hl
  unfold f_Script_placeOf at hf
  refine lv_iload_n C.x C.b dScript_placeOf_0 rfl (lv_at hl 1 rfl) ?_
  refine lv_if_lt (tgt := 19) C.x C.b dScript_placeOf_1 (by decide) (fun c1 => ?_) (fun c1 => ?_)
  · rw [if_pos c1] at hf
    exact b_Script_placeOf_19 C hr hlk hnm _ _ _ M (lv_sub hl [] rfl) hf
  · rw [if_neg c1] at hf
    refine lv_iload_n C.x C.b dScript_placeOf_4 rfl (lv_at hl 1 rfl) ?_
    refine lv_bipush (v := 26) C.x C.b dScript_placeOf_5 (by decide) ?_
    refine lv_icmp_ge (tgt := 19) C.x C.b dScript_placeOf_7 (by decide) (fun c7 => ?_) (fun c7 => ?_)
    · rw [if_pos c7] at hf
      exact b_Script_placeOf_19 C hr hlk hnm _ _ _ M (lv_sub hl [] rfl) hf
    · rw [if_neg c7] at hf
      refine w_aload_n C.x C.b dScript_placeOf_10 rfl (lv_at hl 0 rfl) ?_
      obtain ⟨v11, h11, hf⟩ := Option.bind_eq_some_iff.mp hf
      refine w_getR C M h11 rfl (hm_in in_Script) (by decide) (List.mem_cons_of_mem _ wm_252) rfl dScript_placeOf_11 ?_
      refine lv_iload_n C.x C.b dScript_placeOf_14 rfl (lv_at hl 1 rfl) ?_
      obtain ⟨v15, h15, hf⟩ := Option.bind_eq_some_iff.mp hf
      refine w_iald C M h15 rfl dScript_placeOf_15 ?_
      refine lv_goto (tgt := 20) C.x C.b dScript_placeOf_16 (by decide) ?_
      exact b_Script_placeOf_20 C hr hlk hnm _ _ _ _ M (lv_sub hl [] rfl) hf
theorem dMach_runChild_0 : decode prog_5_method_19_code 0 = .ok (.aload_n 0, 1) := by decide +kernel
theorem dMach_runChild_1 : decode prog_5_method_19_code 1 = .ok (.iload_n 3, 1) := by decide +kernel
theorem dMach_runChild_2 : decode prog_5_method_19_code 2 = .ok (.invokevirtual 233, 3) := by decide +kernel
theorem dMach_runChild_5 : decode prog_5_method_19_code 5 = .ok (.astore 5, 2) := by decide +kernel
theorem dMach_runChild_7 : decode prog_5_method_19_code 7 = .ok (.aload 5, 2) := by decide +kernel
theorem dMach_runChild_9 : decode prog_5_method_19_code 9 = .ok (.ifnonnull 6, 3) := by decide +kernel
theorem dMach_runChild_12 : decode prog_5_method_19_code 12 = .ok (.bipush 102, 2) := by decide +kernel
theorem dMach_runChild_14 : decode prog_5_method_19_code 14 = .ok (.ireturn, 1) := by decide +kernel
theorem dMach_runChild_15 : decode prog_5_method_19_code 15 = .ok (.aload_n 1, 1) := by decide +kernel
theorem dMach_runChild_16 : decode prog_5_method_19_code 16 = .ok (.getfield 78, 3) := by decide +kernel
theorem dMach_runChild_19 : decode prog_5_method_19_code 19 = .ok (.istore 6, 2) := by decide +kernel
theorem dMach_runChild_21 : decode prog_5_method_19_code 21 = .ok (.iload 6, 2) := by decide +kernel
theorem dMach_runChild_23 : decode prog_5_method_19_code 23 = .ok (.ifCond .lt 9, 3) := by decide +kernel
theorem dMach_runChild_26 : decode prog_5_method_19_code 26 = .ok (.iload 6, 2) := by decide +kernel
theorem dMach_runChild_28 : decode prog_5_method_19_code 28 = .ok (.iconst 3, 1) := by decide +kernel
theorem dMach_runChild_29 : decode prog_5_method_19_code 29 = .ok (.if_icmp .lt 6, 3) := by decide +kernel
theorem dMach_runChild_32 : decode prog_5_method_19_code 32 = .ok (.bipush 105, 2) := by decide +kernel
theorem dMach_runChild_34 : decode prog_5_method_19_code 34 = .ok (.ireturn, 1) := by decide +kernel
theorem dMach_runChild_35 : decode prog_5_method_19_code 35 = .ok (.aload_n 0, 1) := by decide +kernel
theorem dMach_runChild_36 : decode prog_5_method_19_code 36 = .ok (.aload 5, 2) := by decide +kernel
theorem dMach_runChild_38 : decode prog_5_method_19_code 38 = .ok (.aload_n 0, 1) := by decide +kernel
theorem dMach_runChild_39 : decode prog_5_method_19_code 39 = .ok (.getfield 44, 3) := by decide +kernel
theorem dMach_runChild_42 : decode prog_5_method_19_code 42 = .ok (.iload 6, 2) := by decide +kernel
theorem dMach_runChild_44 : decode prog_5_method_19_code 44 = .ok (.aaload, 1) := by decide +kernel
theorem dMach_runChild_45 : decode prog_5_method_19_code 45 = .ok (.iload 4, 2) := by decide +kernel
theorem dMach_runChild_47 : decode prog_5_method_19_code 47 = .ok (.invokevirtual 71, 3) := by decide +kernel
theorem dMach_runChild_50 : decode prog_5_method_19_code 50 = .ok (.istore 7, 2) := by decide +kernel
theorem dMach_runChild_52 : decode prog_5_method_19_code 52 = .ok (.aload_n 0, 1) := by decide +kernel
theorem dMach_runChild_53 : decode prog_5_method_19_code 53 = .ok (.getfield 65, 3) := by decide +kernel
theorem dMach_runChild_56 : decode prog_5_method_19_code 56 = .ok (.ifCond .eq 6, 3) := by decide +kernel
theorem dMach_runChild_59 : decode prog_5_method_19_code 59 = .ok (.bipush 107, 2) := by decide +kernel
theorem dMach_runChild_61 : decode prog_5_method_19_code 61 = .ok (.ireturn, 1) := by decide +kernel
theorem dMach_runChild_62 : decode prog_5_method_19_code 62 = .ok (.aload_n 1, 1) := by decide +kernel
theorem dMach_runChild_63 : decode prog_5_method_19_code 63 = .ok (.iload_n 2, 1) := by decide +kernel
theorem dMach_runChild_64 : decode prog_5_method_19_code 64 = .ok (.iload 7, 2) := by decide +kernel
theorem dMach_runChild_66 : decode prog_5_method_19_code 66 = .ok (.invokevirtual 136, 3) := by decide +kernel
theorem dMach_runChild_69 : decode prog_5_method_19_code 69 = .ok (.iconst (-1), 1) := by decide +kernel
theorem dMach_runChild_70 : decode prog_5_method_19_code 70 = .ok (.ireturn, 1) := by decide +kernel
abbrev rm_Mach_runChild (fr lo : Nat) : Room := { frames := fr + 1, cells := 0, slots := 0, locals := lo + 26 }
def f_Mach_runChild_b32 (N : Nat) (fol : Nat → Option Nat → Option Nat → Int32 → hE → Option (Int32 × hE)) (E : hE) : Option (Int32 × hE) := (
  some (105, E))
set_option maxHeartbeats 4000000 in
set_option maxRecDepth 100000 in
theorem b_Mach_runChild_32 {p : Program} {l : Launch} {e : Env} {s : State} {m : MethodId} {args : Array Value} {below : List Frame} {meth : Method} {c : Code} {D : va_G} {kA : Nat → ClassId} {S : hE} {g : Nat → Nat} {n0 nx : Nat} {N : Nat} {fr lo : Nat} {res : Int32 × hE} (C : hX p s m args c prog_5_method_19_code 8 R_Mach ws_Mach_runChild D kA S g n0) (hr : meth.sig.returnType = (some .int)) (hlk : meth.locks = false) (hnm : meth.name = "runChild") (fol : Nat → Option Nat → Option Nat → Int32 → hE → Option (Int32 × hE)) (hfol : ∀ {x0 : Nat} {x1 x2 : Option Nat} {x3 : Int32} {E : hE} {res : Int32 × hE}, fol x0 x1 x2 x3 E = some res → Met l y_Mach_follow ws_Mach_follow { frames := fr, cells := 0, slots := 0, locals := lo } (va_Pc [va_rf (some x0), va_rf x1, va_rf x2, .int x3] (hJ D kA S g n0 (E, nx))) (va_Qi (fun r w => r = res.1 ∧ w = (res.2, nx)) (hJ D kA S g n0) (fun q => n0 ≤ q)) 0 0 (fun q => n0 ≤ q)) : ∀  (E : hE) (H : Heap) (locs : List Loc) (ls : Array Slot), hY D kA n0 s E nx H locs → lv_has ls 8 [] → f_Mach_runChild_b32 N fol  E = some res → W p l e (rm_Mach_runChild fr lo) s m args below meth c H locs 0 0 (MQ below (va_Qi (fun r w => r = res.1 ∧ w = (res.2, nx)) (hJ D kA S g n0) (fun q => n0 ≤ q)) args s 0 0 (fun q => n0 ≤ q)) (F0 m 32 ls []) := by
  intro E H locs ls M hl hf
  unfold f_Mach_runChild_b32 at hf
  refine lv_bipush (v := 105) C.x C.b dMach_runChild_32 (by decide) ?_
  cases hf
  exact w_iret C M hr hlk rfl (Nat.le_refl _) (Nat.le_refl _) dMach_runChild_34 rfl rfl
def f_Mach_runChild (N : Nat) (fol : Nat → Option Nat → Option Nat → Int32 → hE → Option (Int32 × hE)) (x0 : Nat) (x1 : Option Nat) (x2 : Int32) (x3 : Int32) (x4 : Int32) (E : hE) : Option (Int32 × hE) := (
  (gO E (some x0) 2).bind fun o2 =>
  (f_Mach_scriptAt E o2.1 x3).bind fun v2 =>
  if v2 = none then (
  some (102, E)
  ) else (
  (gI E x1 1 0).bind fun v16 =>
  if v16 < 0 then (
  f_Mach_runChild_b32 N fol E
  ) else (
  if v16 < 3 then (
  (gR E (some x0) 2 6).bind fun v39 =>
  (aQ E v39 4 v16).bind fun v44 =>
  (gO E (some x0) 2).bind fun o47 =>
  (fol o47.1 v2 v44 x4 E).bind fun v47 =>
  (gI v47.2 (some x0) 2 12).bind fun v53 =>
  if v53 = 0 then (
  (gO v47.2 x1 1).bind fun o66 =>
  (f_Frame_set o66.1 x2 v47.1 v47.2).bind fun v66 =>
  some ((-1), v66)
  ) else (
  some (107, v47.2)
  )
  ) else (
  f_Mach_runChild_b32 N fol E
  )
  )
  ))
set_option maxHeartbeats 4000000 in
set_option maxRecDepth 100000 in
theorem c_Mach_runChild {l : Launch} {D : va_G} {kA : Nat → ClassId} {S : hE} {g : Nat → Nat} {n0 nx : Nat} {N : Nat} {fr lo : Nat} {x0 : Nat} {x1 : Option Nat} {x2 : Int32} {x3 : Int32} {x4 : Int32} {E : hE} {res : Int32 × hE} {fol : Nat → Option Nat → Option Nat → Int32 → hE → Option (Int32 × hE)} (hfol : ∀ {x0 : Nat} {x1 x2 : Option Nat} {x3 : Int32} {E : hE} {res : Int32 × hE}, fol x0 x1 x2 x3 E = some res → Met l y_Mach_follow ws_Mach_follow { frames := fr, cells := 0, slots := 0, locals := lo } (va_Pc [va_rf (some x0), va_rf x1, va_rf x2, .int x3] (hJ D kA S g n0 (E, nx))) (va_Qi (fun r w => r = res.1 ∧ w = (res.2, nx)) (hJ D kA S g n0) (fun q => n0 ≤ q)) 0 0 (fun q => n0 ≤ q)) (hf : f_Mach_runChild N fol x0 x1 x2 x3 x4 E = some res) : Met l y_Mach_runChild ws_Mach_runChild (rm_Mach_runChild fr lo) (va_Pc [va_rf (some x0), va_rf x1, .int x2, .int x3, .int x4] (hJ D kA S g n0 (E, nx))) (va_Qi (fun r w => r = res.1 ∧ w = (res.2, nx)) (hJ D kA S g n0) (fun q => n0 ≤ q)) 0 0 (fun q => n0 ≤ q) := by
  refine h_met (cc := prog_5_method_19_code) (maxL := 8) (ret := (some .int)) (lvs := [(0, va_rf (some x0)), (1, va_rf x1), (2, .int x2), (3, .int x3), (4, .int x4)]) zZ_k (by decide) rfl (by simp [lg_sl, va_rf_cat, cat_i, cat_l, cat_n]) (by simp [lv_args, va_rf_cat, cat_i, cat_l, cat_n]) ?_
  intro p e s m below meth c ls C M hr hlk hnm hl
  unfold f_Mach_runChild at hf
  refine w_aload_n C.x C.b dMach_runChild_0 rfl (lv_at hl 0 rfl) ?_
  refine lv_iload_n C.x C.b dMach_runChild_1 rfl (lv_at hl 3 rfl) ?_
  obtain ⟨o2, g2, hf⟩ := Option.bind_eq_some_iff.mp hf
  obtain ⟨v2, h2, hf⟩ := Option.bind_eq_some_iff.mp hf
  refine w_cq M (w_runV C M g2 rfl (c_Mach_scriptAt h2) (cwV 1 C.ts (hgV wm_686 wm_574 wm_575 wm_4 wm_576) rfl rfl rfl (by decide +kernel) ⟨by show 0 + 1 ≤ fr + 1; omega, by show 8 + (2 + 11) + (0) ≤ lo + 26; omega⟩) rfl hl.1 rfl (Nat.zero_le _) dMach_runChild_2 ⟨Nat.le_refl _, Nat.le_refl _⟩) (fun H locs M => ?_)
  refine w_astore (lv' := [(5, va_rf v2), (0, va_rf (some x0)), (1, va_rf x1), (2, .int x2), (3, .int x3), (4, .int x4)]) C.x C.b dMach_runChild_5 hl (by decide) rfl (fun ls hl => ?_)
  refine w_aload C.x C.b dMach_runChild_7 (lv_at hl 0 rfl) ?_
  refine w_ifnonnull (tgt := 15) C.x C.b dMach_runChild_9 (by decide) (fun c9 => ?_) (fun c9 => ?_)
  · rw [if_neg c9] at hf
    refine w_aload_n C.x C.b dMach_runChild_15 rfl (lv_at hl 2 rfl) ?_
    obtain ⟨v16, h16, hf⟩ := Option.bind_eq_some_iff.mp hf
    refine w_getI C M h16 rfl (hm_in in_Frame) (by decide) (List.mem_cons_of_mem _ wm_104) rfl dMach_runChild_16 ?_
    refine lv_istore (lv' := [(6, .int v16), (5, va_rf v2), (0, va_rf (some x0)), (1, va_rf x1), (2, .int x2), (3, .int x3), (4, .int x4)]) C.x C.b dMach_runChild_19 hl (by decide) (by simp only [List.filter, va_rf_cat] <;> rfl) (fun ls hl => ?_)
    refine lv_iload C.x C.b dMach_runChild_21 (lv_at hl 0 rfl) ?_
    refine lv_if_lt (tgt := 32) C.x C.b dMach_runChild_23 (by decide) (fun c23 => ?_) (fun c23 => ?_)
    · rw [if_pos c23] at hf
      exact b_Mach_runChild_32 C hr hlk hnm fol hfol _ _ _ _ M (lv_sub hl [] rfl) hf
    · rw [if_neg c23] at hf
      refine lv_iload C.x C.b dMach_runChild_26 (lv_at hl 0 rfl) ?_
      refine lv_iconst (v := 3) C.x C.b dMach_runChild_28 (by decide) ?_
      refine lv_icmp_lt (tgt := 35) C.x C.b dMach_runChild_29 (by decide) (fun c29 => ?_) (fun c29 => ?_)
      · rw [if_pos c29] at hf
        refine w_aload_n C.x C.b dMach_runChild_35 rfl (lv_at hl 2 rfl) ?_
        refine w_aload C.x C.b dMach_runChild_36 (lv_at hl 1 rfl) ?_
        refine w_aload_n C.x C.b dMach_runChild_38 rfl (lv_at hl 2 rfl) ?_
        obtain ⟨v39, h39, hf⟩ := Option.bind_eq_some_iff.mp hf
        refine w_getR C M h39 rfl (hm_in in_Mach) (by decide) (List.mem_cons_of_mem _ wm_144) rfl dMach_runChild_39 ?_
        refine lv_iload C.x C.b dMach_runChild_42 (lv_at hl 0 rfl) ?_
        obtain ⟨v44, h44, hf⟩ := Option.bind_eq_some_iff.mp hf
        refine w_aald C M h44 rfl dMach_runChild_44 ?_
        refine lv_iload C.x C.b dMach_runChild_45 (lv_at hl 6 rfl) ?_
        obtain ⟨o47, g47, hf⟩ := Option.bind_eq_some_iff.mp hf
        obtain ⟨v47, h47, hf⟩ := Option.bind_eq_some_iff.mp hf
        refine w_ci M (w_runV C M g47 rfl (hfol h47) (cwV 3 C.ts (hgV wm_582 wm_584 sel_Mach_follow wm_4 wm_585) rfl rfl rfl (by decide +kernel) ⟨by show fr + 1 ≤ fr + 1; omega, by show 8 + (7 + 11) + (lo) ≤ lo + 26; omega⟩) rfl hl.1 rfl (Nat.zero_le _) dMach_runChild_47 ⟨Nat.le_refl _, Nat.le_refl _⟩) (fun H locs M => ?_)
        refine lv_istore (lv' := [(7, .int v47.1), (6, .int v16), (5, va_rf v2), (0, va_rf (some x0)), (1, va_rf x1), (2, .int x2), (3, .int x3), (4, .int x4)]) C.x C.b dMach_runChild_50 hl (by decide) rfl (fun ls hl => ?_)
        refine w_aload_n C.x C.b dMach_runChild_52 rfl (lv_at hl 3 rfl) ?_
        obtain ⟨v53, h53, hf⟩ := Option.bind_eq_some_iff.mp hf
        refine w_getI C M h53 rfl (hm_in in_Mach) (by decide) (List.mem_cons_of_mem _ wm_154) rfl dMach_runChild_53 ?_
        refine lv_if_eq (tgt := 62) C.x C.b dMach_runChild_56 (by decide) (fun c56 => ?_) (fun c56 => ?_)
        · rw [if_pos c56] at hf
          refine w_aload_n C.x C.b dMach_runChild_62 rfl (lv_at hl 4 rfl) ?_
          refine lv_iload_n C.x C.b dMach_runChild_63 rfl (lv_at hl 5 rfl) ?_
          refine lv_iload C.x C.b dMach_runChild_64 (lv_at hl 0 rfl) ?_
          obtain ⟨o66, g66, hf⟩ := Option.bind_eq_some_iff.mp hf
          obtain ⟨v66, h66, hf⟩ := Option.bind_eq_some_iff.mp hf
          refine w_cv M (w_runV C M g66 rfl (c_Frame_set h66) (cwV 2 C.ts (hgV wm_613 wm_614 wm_615 wm_5 wm_616) rfl rfl rfl (by decide +kernel) ⟨by show 0 + 1 ≤ fr + 1; omega, by show 8 + (3 + 11) + (0) ≤ lo + 26; omega⟩) rfl hl.1 rfl (Nat.zero_le _) dMach_runChild_66 ⟨Nat.le_refl _, Nat.le_refl _⟩) (fun H locs M => ?_)
          refine lv_iconst (v := (-1)) C.x C.b dMach_runChild_69 (by decide) ?_
          cases hf
          exact w_iret C M hr hlk rfl (Nat.le_refl _) (Nat.le_refl _) dMach_runChild_70 rfl rfl
        · rw [if_neg c56] at hf
          refine lv_bipush (v := 107) C.x C.b dMach_runChild_59 (by decide) ?_
          cases hf
          exact w_iret C M hr hlk rfl (Nat.le_refl _) (Nat.le_refl _) dMach_runChild_61 rfl rfl
      · rw [if_neg c29] at hf
        exact b_Mach_runChild_32 C hr hlk hnm fol hfol _ _ _ _ M (lv_sub hl [] rfl) hf
  · rw [if_pos c9] at hf
    refine lv_bipush (v := 102) C.x C.b dMach_runChild_12 (by decide) ?_
    cases hf
    exact w_iret C M hr hlk rfl (Nat.le_refl _) (Nat.le_refl _) dMach_runChild_14 rfl rfl
theorem dMach_answer_0 : decode prog_5_method_21_code 0 = .ok (.iload_n 2, 1) := by decide +kernel
theorem dMach_answer_1 : decode prog_5_method_21_code 1 = .ok (.lookupswitch 39 #[(0, 27), (1, 34)], 27) := by decide +kernel
theorem dMach_answer_28 : decode prog_5_method_21_code 28 = .ok (.aload_n 0, 1) := by decide +kernel
theorem dMach_answer_29 : decode prog_5_method_21_code 29 = .ok (.getfield 56, 3) := by decide +kernel
theorem dMach_answer_32 : decode prog_5_method_21_code 32 = .ok (.iconst 1, 1) := by decide +kernel
theorem dMach_answer_33 : decode prog_5_method_21_code 33 = .ok (.isub, 1) := by decide +kernel
theorem dMach_answer_34 : decode prog_5_method_21_code 34 = .ok (.ireturn, 1) := by decide +kernel
theorem dMach_answer_35 : decode prog_5_method_21_code 35 = .ok (.aload_n 0, 1) := by decide +kernel
theorem dMach_answer_36 : decode prog_5_method_21_code 36 = .ok (.getfield 62, 3) := by decide +kernel
theorem dMach_answer_39 : decode prog_5_method_21_code 39 = .ok (.ireturn, 1) := by decide +kernel
theorem dMach_answer_40 : decode prog_5_method_21_code 40 = .ok (.sipush 1000, 3) := by decide +kernel
theorem dMach_answer_43 : decode prog_5_method_21_code 43 = .ok (.aload_n 1, 1) := by decide +kernel
theorem dMach_answer_44 : decode prog_5_method_21_code 44 = .ok (.getfield 78, 3) := by decide +kernel
theorem dMach_answer_47 : decode prog_5_method_21_code 47 = .ok (.imul, 1) := by decide +kernel
theorem dMach_answer_48 : decode prog_5_method_21_code 48 = .ok (.aload_n 1, 1) := by decide +kernel
theorem dMach_answer_49 : decode prog_5_method_21_code 49 = .ok (.getfield 97, 3) := by decide +kernel
theorem dMach_answer_52 : decode prog_5_method_21_code 52 = .ok (.iadd, 1) := by decide +kernel
theorem dMach_answer_53 : decode prog_5_method_21_code 53 = .ok (.ireturn, 1) := by decide +kernel
abbrev rm_Mach_answer : Room := { frames := 0, cells := 0, slots := 0, locals := 0 }
def f_Mach_answer (E : hE) (x0 : Nat) (x1 : Option Nat) (x2 : Int32) : Option (Int32) := (
  if x2 = 0 then (
  (gI E (some x0) 2 8).bind fun v29 =>
  some (v29 - 1)
  ) else (
  if x2 = 1 then (
  (gI E (some x0) 2 10).bind fun v36 =>
  some v36
  ) else (
  (gI E x1 1 0).bind fun v44 =>
  (gI E x1 1 6).bind fun v49 =>
  some ((1000 * v44) + v49)
  )))
set_option maxHeartbeats 4000000 in
set_option maxRecDepth 100000 in
theorem c_Mach_answer {l : Launch} {D : va_G} {kA : Nat → ClassId} {S : hE} {g : Nat → Nat} {n0 nx : Nat} {x0 : Nat} {x1 : Option Nat} {x2 : Int32} {E : hE} {res : Int32} (hf : f_Mach_answer E x0 x1 x2 = some res) : Met l y_Mach_answer ws_Mach_answer rm_Mach_answer (va_Pc [va_rf (some x0), va_rf x1, .int x2] (hJ D kA S g n0 (E, nx))) (va_Qi (fun r w => r = res ∧ w = (E, nx)) (hJ D kA S g n0) (fun q => n0 ≤ q)) 0 0 (fun q => n0 ≤ q) := by
  refine h_met (cc := prog_5_method_21_code) (maxL := 3) (ret := (some .int)) (lvs := [(0, va_rf (some x0)), (1, va_rf x1), (2, .int x2)]) zZ_k (by decide) rfl (by simp [lg_sl, va_rf_cat, cat_i, cat_l, cat_n]) (by simp [lv_args, va_rf_cat, cat_i, cat_l, cat_n]) ?_
  intro p e s m below meth c ls C M hr hlk hnm hl
  unfold f_Mach_answer at hf
  refine lv_iload_n C.x C.b dMach_answer_0 rfl (lv_at hl 2 rfl) ?_
  by_cases c1_0 : x2 = 0
  · rw [if_pos c1_0] at hf
    refine lv_lookup (off := 27) (tgt := 28) C.x C.b dMach_answer_1 (by decide) (by rw [c1_0] <;> rfl) (by decide) ?_
    refine w_aload_n C.x C.b dMach_answer_28 rfl (lv_at hl 0 rfl) ?_
    obtain ⟨v29, h29, hf⟩ := Option.bind_eq_some_iff.mp hf
    refine w_getI C M h29 rfl (hm_in in_Mach) (by decide) (List.mem_cons_of_mem _ wm_147) rfl dMach_answer_29 ?_
    refine lv_iconst (v := 1) C.x C.b dMach_answer_32 (by decide) ?_
    refine lv_isub C.x C.b dMach_answer_33 ?_
    cases hf
    exact w_iret C M hr hlk rfl (Nat.le_refl _) (Nat.le_refl _) dMach_answer_34 rfl rfl
  · rw [if_neg c1_0] at hf
    by_cases c1_1 : x2 = 1
    · rw [if_pos c1_1] at hf
      refine lv_lookup (off := 34) (tgt := 35) C.x C.b dMach_answer_1 (by decide) (by rw [c1_1] <;> rfl) (by decide) ?_
      refine w_aload_n C.x C.b dMach_answer_35 rfl (lv_at hl 0 rfl) ?_
      obtain ⟨v36, h36, hf⟩ := Option.bind_eq_some_iff.mp hf
      refine w_getI C M h36 rfl (hm_in in_Mach) (by decide) (List.mem_cons_of_mem _ wm_151) rfl dMach_answer_36 ?_
      cases hf
      exact w_iret C M hr hlk rfl (Nat.le_refl _) (Nat.le_refl _) dMach_answer_39 rfl rfl
    · rw [if_neg c1_1] at hf
      refine lv_lookup (off := 39) (tgt := 40) C.x C.b dMach_answer_1 (by decide) (by rw [lv_osw c1_0 (by decide), lv_osw c1_1 (by decide)] <;> rfl) (by decide) ?_
      refine lv_sipush (v := 1000) C.x C.b dMach_answer_40 (by decide) ?_
      refine w_aload_n C.x C.b dMach_answer_43 rfl (lv_at hl 1 rfl) ?_
      obtain ⟨v44, h44, hf⟩ := Option.bind_eq_some_iff.mp hf
      refine w_getI C M h44 rfl (hm_in in_Frame) (by decide) (List.mem_cons_of_mem _ wm_104) rfl dMach_answer_44 ?_
      refine lv_imul C.x C.b dMach_answer_47 ?_
      refine w_aload_n C.x C.b dMach_answer_48 rfl (lv_at hl 1 rfl) ?_
      obtain ⟨v49, h49, hf⟩ := Option.bind_eq_some_iff.mp hf
      refine w_getI C M h49 rfl (hm_in in_Frame) (by decide) (List.mem_cons_of_mem _ wm_113) rfl dMach_answer_49 ?_
      refine lv_iadd C.x C.b dMach_answer_52 ?_
      cases hf
      exact w_iret C M hr hlk rfl (Nat.le_refl _) (Nat.le_refl _) dMach_answer_53 rfl rfl
theorem dMach_ask_0 : decode prog_5_method_20_code 0 = .ok (.iload_n 3, 1) := by decide +kernel
theorem dMach_ask_1 : decode prog_5_method_20_code 1 = .ok (.ifCond .lt 8, 3) := by decide +kernel
theorem dMach_ask_4 : decode prog_5_method_20_code 4 = .ok (.iload_n 3, 1) := by decide +kernel
theorem dMach_ask_5 : decode prog_5_method_20_code 5 = .ok (.iconst 3, 1) := by decide +kernel
theorem dMach_ask_6 : decode prog_5_method_20_code 6 = .ok (.if_icmp .lt 6, 3) := by decide +kernel
theorem dMach_ask_9 : decode prog_5_method_20_code 9 = .ok (.bipush 102, 2) := by decide +kernel
theorem dMach_ask_11 : decode prog_5_method_20_code 11 = .ok (.ireturn, 1) := by decide +kernel
theorem dMach_ask_12 : decode prog_5_method_20_code 12 = .ok (.aload_n 0, 1) := by decide +kernel
theorem dMach_ask_13 : decode prog_5_method_20_code 13 = .ok (.getfield 17, 3) := by decide +kernel
theorem dMach_ask_16 : decode prog_5_method_20_code 16 = .ok (.iload_n 3, 1) := by decide +kernel
theorem dMach_ask_17 : decode prog_5_method_20_code 17 = .ok (.baload, 1) := by decide +kernel
theorem dMach_ask_18 : decode prog_5_method_20_code 18 = .ok (.ifCond .ne 6, 3) := by decide +kernel
theorem dMach_ask_21 : decode prog_5_method_20_code 21 = .ok (.bipush 106, 2) := by decide +kernel
theorem dMach_ask_23 : decode prog_5_method_20_code 23 = .ok (.ireturn, 1) := by decide +kernel
theorem dMach_ask_24 : decode prog_5_method_20_code 24 = .ok (.aload_n 1, 1) := by decide +kernel
theorem dMach_ask_25 : decode prog_5_method_20_code 25 = .ok (.iload_n 2, 1) := by decide +kernel
theorem dMach_ask_26 : decode prog_5_method_20_code 26 = .ok (.aload_n 0, 1) := by decide +kernel
theorem dMach_ask_27 : decode prog_5_method_20_code 27 = .ok (.aload_n 1, 1) := by decide +kernel
theorem dMach_ask_28 : decode prog_5_method_20_code 28 = .ok (.iload_n 3, 1) := by decide +kernel
theorem dMach_ask_29 : decode prog_5_method_20_code 29 = .ok (.invokevirtual 237, 3) := by decide +kernel
theorem dMach_ask_32 : decode prog_5_method_20_code 32 = .ok (.invokevirtual 136, 3) := by decide +kernel
theorem dMach_ask_35 : decode prog_5_method_20_code 35 = .ok (.iconst (-1), 1) := by decide +kernel
theorem dMach_ask_36 : decode prog_5_method_20_code 36 = .ok (.ireturn, 1) := by decide +kernel
abbrev rm_Mach_ask : Room := { frames := 1, cells := 0, slots := 0, locals := 22 }
def f_Mach_ask_b9  (E : hE) : Option (Int32 × hE) := (
  some (102, E))
set_option maxHeartbeats 4000000 in
set_option maxRecDepth 100000 in
theorem b_Mach_ask_9 {p : Program} {l : Launch} {e : Env} {s : State} {m : MethodId} {args : Array Value} {below : List Frame} {meth : Method} {c : Code} {D : va_G} {kA : Nat → ClassId} {S : hE} {g : Nat → Nat} {n0 nx : Nat} {res : Int32 × hE} (C : hX p s m args c prog_5_method_20_code 4 R_Mach ws_Mach_ask D kA S g n0) (hr : meth.sig.returnType = (some .int)) (hlk : meth.locks = false) (hnm : meth.name = "ask") : ∀  (E : hE) (H : Heap) (locs : List Loc) (ls : Array Slot), hY D kA n0 s E nx H locs → lv_has ls 4 [] → f_Mach_ask_b9  E = some res → W p l e rm_Mach_ask s m args below meth c H locs 0 0 (MQ below (va_Qi (fun r w => r = res.1 ∧ w = (res.2, nx)) (hJ D kA S g n0) (fun q => n0 ≤ q)) args s 0 0 (fun q => n0 ≤ q)) (F0 m 9 ls []) := by
  intro E H locs ls M hl hf
  unfold f_Mach_ask_b9 at hf
  refine lv_bipush (v := 102) C.x C.b dMach_ask_9 (by decide) ?_
  cases hf
  exact w_iret C M hr hlk rfl (Nat.le_refl _) (Nat.le_refl _) dMach_ask_11 rfl rfl
def f_Mach_ask  (x0 : Nat) (x1 : Option Nat) (x2 : Int32) (x3 : Int32) (E : hE) : Option (Int32 × hE) := (
  if x3 < 0 then (
  f_Mach_ask_b9 E
  ) else (
  if x3 < 3 then (
  (gR E (some x0) 2 1).bind fun v13 =>
  (aI E v13 1 x3).bind fun v17 =>
  if v17 = 0 then (
  some (106, E)
  ) else (
  (gO E (some x0) 2).bind fun o29 =>
  (f_Mach_answer E o29.1 x1 x3).bind fun v29 =>
  (gO E x1 1).bind fun o32 =>
  (f_Frame_set o32.1 x2 v29 E).bind fun v32 =>
  some ((-1), v32)
  )
  ) else (
  f_Mach_ask_b9 E
  )
  ))
set_option maxHeartbeats 4000000 in
set_option maxRecDepth 100000 in
theorem c_Mach_ask {l : Launch} {D : va_G} {kA : Nat → ClassId} {S : hE} {g : Nat → Nat} {n0 nx : Nat} {x0 : Nat} {x1 : Option Nat} {x2 : Int32} {x3 : Int32} {E : hE} {res : Int32 × hE} (hf : f_Mach_ask x0 x1 x2 x3 E = some res) : Met l y_Mach_ask ws_Mach_ask rm_Mach_ask (va_Pc [va_rf (some x0), va_rf x1, .int x2, .int x3] (hJ D kA S g n0 (E, nx))) (va_Qi (fun r w => r = res.1 ∧ w = (res.2, nx)) (hJ D kA S g n0) (fun q => n0 ≤ q)) 0 0 (fun q => n0 ≤ q) := by
  refine h_met (cc := prog_5_method_20_code) (maxL := 4) (ret := (some .int)) (lvs := [(0, va_rf (some x0)), (1, va_rf x1), (2, .int x2), (3, .int x3)]) zZ_k (by decide) rfl (by simp [lg_sl, va_rf_cat, cat_i, cat_l, cat_n]) (by simp [lv_args, va_rf_cat, cat_i, cat_l, cat_n]) ?_
  intro p e s m below meth c ls C M hr hlk hnm hl
  unfold f_Mach_ask at hf
  refine lv_iload_n C.x C.b dMach_ask_0 rfl (lv_at hl 3 rfl) ?_
  refine lv_if_lt (tgt := 9) C.x C.b dMach_ask_1 (by decide) (fun c1 => ?_) (fun c1 => ?_)
  · rw [if_pos c1] at hf
    exact b_Mach_ask_9 C hr hlk hnm _ _ _ _ M (lv_sub hl [] rfl) hf
  · rw [if_neg c1] at hf
    refine lv_iload_n C.x C.b dMach_ask_4 rfl (lv_at hl 3 rfl) ?_
    refine lv_iconst (v := 3) C.x C.b dMach_ask_5 (by decide) ?_
    refine lv_icmp_lt (tgt := 12) C.x C.b dMach_ask_6 (by decide) (fun c6 => ?_) (fun c6 => ?_)
    · rw [if_pos c6] at hf
      refine w_aload_n C.x C.b dMach_ask_12 rfl (lv_at hl 0 rfl) ?_
      obtain ⟨v13, h13, hf⟩ := Option.bind_eq_some_iff.mp hf
      refine w_getR C M h13 rfl (hm_in in_Mach) (by decide) (List.mem_cons_of_mem _ wm_135) rfl dMach_ask_13 ?_
      refine lv_iload_n C.x C.b dMach_ask_16 rfl (lv_at hl 3 rfl) ?_
      obtain ⟨v17, h17, hf⟩ := Option.bind_eq_some_iff.mp hf
      refine w_zald C M h17 rfl dMach_ask_17 ?_
      refine lv_if_ne (tgt := 24) C.x C.b dMach_ask_18 (by decide) (fun c18 => ?_) (fun c18 => ?_)
      · rw [if_neg c18] at hf
        refine w_aload_n C.x C.b dMach_ask_24 rfl (lv_at hl 1 rfl) ?_
        refine lv_iload_n C.x C.b dMach_ask_25 rfl (lv_at hl 2 rfl) ?_
        refine w_aload_n C.x C.b dMach_ask_26 rfl (lv_at hl 0 rfl) ?_
        refine w_aload_n C.x C.b dMach_ask_27 rfl (lv_at hl 1 rfl) ?_
        refine lv_iload_n C.x C.b dMach_ask_28 rfl (lv_at hl 3 rfl) ?_
        obtain ⟨o29, g29, hf⟩ := Option.bind_eq_some_iff.mp hf
        obtain ⟨v29, h29, hf⟩ := Option.bind_eq_some_iff.mp hf
        refine w_ci M (w_runV C M g29 rfl (c_Mach_answer h29) (cwV 2 C.ts (hgV wm_691 wm_693 sel_Mach_answer wm_4 wm_694) rfl rfl rfl (by decide +kernel) ⟨Nat.le_of_ble_eq_true rfl, Nat.le_of_ble_eq_true rfl⟩) rfl hl.1 rfl (by simp [va_rf_cat, cat_i, cat_l, cat_n]) dMach_ask_29 ⟨Nat.le_refl _, Nat.le_refl _⟩) (fun H locs M => ?_)
        obtain ⟨o32, g32, hf⟩ := Option.bind_eq_some_iff.mp hf
        obtain ⟨v32, h32, hf⟩ := Option.bind_eq_some_iff.mp hf
        refine w_cv M (w_runV C M g32 rfl (c_Frame_set h32) (cwV 2 C.ts (hgV wm_613 wm_614 wm_615 wm_5 wm_616) rfl rfl rfl (by decide +kernel) ⟨Nat.le_of_ble_eq_true rfl, Nat.le_of_ble_eq_true rfl⟩) rfl hl.1 rfl (Nat.zero_le _) dMach_ask_32 ⟨Nat.le_refl _, Nat.le_refl _⟩) (fun H locs M => ?_)
        refine lv_iconst (v := (-1)) C.x C.b dMach_ask_35 (by decide) ?_
        cases hf
        exact w_iret C M hr hlk rfl (Nat.le_refl _) (Nat.le_refl _) dMach_ask_36 rfl rfl
      · rw [if_pos c18] at hf
        refine lv_bipush (v := 106) C.x C.b dMach_ask_21 (by decide) ?_
        cases hf
        exact w_iret C M hr hlk rfl (Nat.le_refl _) (Nat.le_refl _) dMach_ask_23 rfl rfl
    · rw [if_neg c6] at hf
      exact b_Mach_ask_9 C hr hlk hnm _ _ _ _ M (lv_sub hl [] rfl) hf
