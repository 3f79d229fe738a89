/-! m07: by wip/whole/gen.py -/
theorem dM_byteOf_0 : decode prog_11_method_50_code 0 = .ok (.iload_n 1, 1) := by decide +kernel
theorem dM_byteOf_1 : decode prog_11_method_50_code 1 = .ok (.invokestatic 206, 3) := by decide +kernel
theorem dM_byteOf_4 : decode prog_11_method_50_code 4 = .ok (.ifCond .eq 42, 3) := by decide +kernel
theorem dM_byteOf_7 : decode prog_11_method_50_code 7 = .ok (.aload_n 0, 1) := by decide +kernel
theorem dM_byteOf_8 : decode prog_11_method_50_code 8 = .ok (.getfield 42, 3) := by decide +kernel
theorem dM_byteOf_11 : decode prog_11_method_50_code 11 = .ok (.iload_n 1, 1) := by decide +kernel
theorem dM_byteOf_12 : decode prog_11_method_50_code 12 = .ok (.baload, 1) := by decide +kernel
theorem dM_byteOf_13 : decode prog_11_method_50_code 13 = .ok (.ifCond .eq 33, 3) := by decide +kernel
theorem dM_byteOf_16 : decode prog_11_method_50_code 16 = .ok (.iload_n 2, 1) := by decide +kernel
theorem dM_byteOf_17 : decode prog_11_method_50_code 17 = .ok (.iconst 0, 1) := by decide +kernel
theorem dM_byteOf_18 : decode prog_11_method_50_code 18 = .ok (.aload_n 0, 1) := by decide +kernel
theorem dM_byteOf_19 : decode prog_11_method_50_code 19 = .ok (.getfield 45, 3) := by decide +kernel
theorem dM_byteOf_22 : decode prog_11_method_50_code 22 = .ok (.iload_n 1, 1) := by decide +kernel
theorem dM_byteOf_23 : decode prog_11_method_50_code 23 = .ok (.iaload, 1) := by decide +kernel
theorem dM_byteOf_24 : decode prog_11_method_50_code 24 = .ok (.iconst 1, 1) := by decide +kernel
theorem dM_byteOf_25 : decode prog_11_method_50_code 25 = .ok (.isub, 1) := by decide +kernel
theorem dM_byteOf_26 : decode prog_11_method_50_code 26 = .ok (.invokestatic 83, 3) := by decide +kernel
theorem dM_byteOf_29 : decode prog_11_method_50_code 29 = .ok (.ifCond .eq 17, 3) := by decide +kernel
theorem dM_byteOf_32 : decode prog_11_method_50_code 32 = .ok (.aload_n 0, 1) := by decide +kernel
theorem dM_byteOf_33 : decode prog_11_method_50_code 33 = .ok (.getfield 48, 3) := by decide +kernel
theorem dM_byteOf_36 : decode prog_11_method_50_code 36 = .ok (.bipush 40, 2) := by decide +kernel
theorem dM_byteOf_38 : decode prog_11_method_50_code 38 = .ok (.iload_n 1, 1) := by decide +kernel
theorem dM_byteOf_39 : decode prog_11_method_50_code 39 = .ok (.imul, 1) := by decide +kernel
theorem dM_byteOf_40 : decode prog_11_method_50_code 40 = .ok (.iload_n 2, 1) := by decide +kernel
theorem dM_byteOf_41 : decode prog_11_method_50_code 41 = .ok (.iadd, 1) := by decide +kernel
theorem dM_byteOf_42 : decode prog_11_method_50_code 42 = .ok (.iaload, 1) := by decide +kernel
theorem dM_byteOf_43 : decode prog_11_method_50_code 43 = .ok (.goto 4, 3) := by decide +kernel
theorem dM_byteOf_46 : decode prog_11_method_50_code 46 = .ok (.iconst (-1), 1) := by decide +kernel
theorem dM_byteOf_47 : decode prog_11_method_50_code 47 = .ok (.ireturn, 1) := by decide +kernel
abbrev rm_M_byteOf : Room := { frames := 2, cells := 0, slots := 0, locals := 42 }
def f_M_byteOf_b47 (E : hE) (t0 : Int32) : Option (Int32) := (
  some t0)
set_option maxHeartbeats 4000000 in
set_option maxRecDepth 100000 in
theorem b_M_byteOf_47 {p : Program} {l : Launch} {e : Env} {s : State} {m : MethodId} {args : Array Value} {below : List Frame} {meth : Method} {c : Code} {D : va_G} {kA : Nat → ClassId} {S : hE} {g : Nat → Nat} {n0 nx : Nat} {E : hE} {res : Int32} (C : hX p s m args c prog_11_method_50_code 3 R_M ws_M_byteOf D kA S g n0) (hr : meth.sig.returnType = (some .int)) (hlk : meth.locks = false) (hnm : meth.name = "byteOf") : ∀ (t0 : Int32) (H : Heap) (locs : List Loc) (ls : Array Slot), hY D kA n0 s E nx H locs → lv_has ls 3 [] → f_M_byteOf_b47 E  t0 = some res → W p l e rm_M_byteOf s m args below meth c H locs 0 0 (MQ below (va_Qi (fun r w => r = res ∧ w = (E, nx)) (hJ D kA S g n0) (fun q => n0 ≤ q)) args s 0 0 (fun q => n0 ≤ q)) (F0 m 47 ls [.int t0]) := by
  intro t0 H locs ls M hl hf
  unfold f_M_byteOf_b47 at hf
  cases hf
  exact w_iret C M hr hlk rfl (Nat.le_refl _) (Nat.le_refl _) dM_byteOf_47 rfl rfl
def f_M_byteOf_b46 (E : hE) : Option (Int32) := (
  f_M_byteOf_b47 E (-1))
set_option maxHeartbeats 4000000 in
set_option maxRecDepth 100000 in
theorem b_M_byteOf_46 {p : Program} {l : Launch} {e : Env} {s : State} {m : MethodId} {args : Array Value} {below : List Frame} {meth : Method} {c : Code} {D : va_G} {kA : Nat → ClassId} {S : hE} {g : Nat → Nat} {n0 nx : Nat} {E : hE} {res : Int32} (C : hX p s m args c prog_11_method_50_code 3 R_M ws_M_byteOf D kA S g n0) (hr : meth.sig.returnType = (some .int)) (hlk : meth.locks = false) (hnm : meth.name = "byteOf") : ∀  (H : Heap) (locs : List Loc) (ls : Array Slot), hY D kA n0 s E nx H locs → lv_has ls 3 [] → f_M_byteOf_b46 E   = some res → W p l e rm_M_byteOf s m args below meth c H locs 0 0 (MQ below (va_Qi (fun r w => r = res ∧ w = (E, nx)) (hJ D kA S g n0) (fun q => n0 ≤ q)) args s 0 0 (fun q => n0 ≤ q)) (F0 m 46 ls []) := by
  intro  H locs ls M hl hf
  unfold f_M_byteOf_b46 at hf
  refine lv_iconst (v := (-1)) C.x C.b dM_byteOf_46 (by decide) ?_
  exact b_M_byteOf_47 C hr hlk hnm _ _ _ _ M (lv_sub hl [] rfl) hf
def f_M_byteOf (E : hE) (x0 : Nat) (x1 : Int32) (x2 : Int32) : Option (Int32) := (
  (f_M_isFile E x1).bind fun v1 =>
  if v1 = 0 then (
  f_M_byteOf_b46 E 
  ) else (
  (gR E (some x0) 7 12).bind fun v8 =>
  (aI E v8 1 x1).bind fun v12 =>
  if v12 = 0 then (
  f_M_byteOf_b46 E 
  ) else (
  (gR E (some x0) 7 13).bind fun v19 =>
  (aI E v19 0 x1).bind fun v23 =>
  (f_M_in E x2 0 (v23 - 1)).bind fun v26 =>
  if v26 = 0 then (
  f_M_byteOf_b46 E 
  ) else (
  (gR E (some x0) 7 14).bind fun v33 =>
  (aI E v33 0 ((40 * x1) + x2)).bind fun v42 =>
  f_M_byteOf_b47 E v42
  )
  )
  ))
set_option maxHeartbeats 4000000 in
set_option maxRecDepth 100000 in
theorem c_M_byteOf {l : Launch} {D : va_G} {kA : Nat → ClassId} {S : hE} {g : Nat → Nat} {n0 nx : Nat} {x0 : Nat} {x1 : Int32} {x2 : Int32} {E : hE} {res : Int32} (hf : f_M_byteOf E x0 x1 x2 = some res) : Met l y_M_byteOf ws_M_byteOf rm_M_byteOf (va_Pc [va_rf (some x0), .int x1, .int x2] (hJ D kA S g n0 (E, nx))) (va_Qi (fun r w => r = res ∧ w = (E, nx)) (hJ D kA S g n0) (fun q => n0 ≤ q)) 0 0 (fun q => n0 ≤ q) := by
  refine h_met (cc := prog_11_method_50_code) (maxL := 3) (ret := (some .int)) (lvs := [(0, va_rf (some x0)), (1, .int x1), (2, .int x2)]) zZ_k (by decide) rfl (by simp [lg_sl, va_rf_cat, cat_i, cat_l, cat_n]) (by simp [lv_args, va_rf_cat, cat_i, cat_l, cat_n]) ?_
  intro p e s m below meth c ls C M hr hlk hnm hl
  unfold f_M_byteOf at hf
  refine lv_iload_n C.x C.b dM_byteOf_0 rfl (lv_at hl 1 rfl) ?_
  obtain ⟨v1, h1, hf⟩ := Option.bind_eq_some_iff.mp hf
  refine w_ci M (w_runS C M (c_M_isFile h1) (cwS 1 C.ts (hgS wm_927 wm_928 wm_6 wm_929) rfl rfl rfl (by decide +kernel) ⟨Nat.le_of_ble_eq_true rfl, Nat.le_of_ble_eq_true rfl⟩) rfl hl.1 rfl (Nat.zero_le _) dM_byteOf_1 ⟨Nat.le_refl _, Nat.le_refl _⟩) (fun H locs M => ?_)
  refine lv_if_eq (tgt := 46) C.x C.b dM_byteOf_4 (by decide) (fun c4 => ?_) (fun c4 => ?_)
  · rw [if_pos c4] at hf
    exact b_M_byteOf_46 C hr hlk hnm _ _ _ M (lv_sub hl [] rfl) hf
  · rw [if_neg c4] at hf
    refine w_aload_n C.x C.b dM_byteOf_7 rfl (lv_at hl 0 rfl) ?_
    obtain ⟨v8, h8, hf⟩ := Option.bind_eq_some_iff.mp hf
    refine w_getR C M h8 rfl (hm_in in_M) (by decide) (List.mem_cons_of_mem _ wm_736) rfl dM_byteOf_8 ?_
    refine lv_iload_n C.x C.b dM_byteOf_11 rfl (lv_at hl 1 rfl) ?_
    obtain ⟨v12, h12, hf⟩ := Option.bind_eq_some_iff.mp hf
    refine w_zald C M h12 rfl dM_byteOf_12 ?_
    refine lv_if_eq (tgt := 46) C.x C.b dM_byteOf_13 (by decide) (fun c13 => ?_) (fun c13 => ?_)
    · rw [if_pos c13] at hf
      exact b_M_byteOf_46 C hr hlk hnm _ _ _ M (lv_sub hl [] rfl) hf
    · rw [if_neg c13] at hf
      refine lv_iload_n C.x C.b dM_byteOf_16 rfl (lv_at hl 2 rfl) ?_
      refine lv_iconst (v := 0) C.x C.b dM_byteOf_17 (by decide) ?_
      refine w_aload_n C.x C.b dM_byteOf_18 rfl (lv_at hl 0 rfl) ?_
      obtain ⟨v19, h19, hf⟩ := Option.bind_eq_some_iff.mp hf
      refine w_getR C M h19 rfl (hm_in in_M) (by decide) (List.mem_cons_of_mem _ wm_737) rfl dM_byteOf_19 ?_
      refine lv_iload_n C.x C.b dM_byteOf_22 rfl (lv_at hl 1 rfl) ?_
      obtain ⟨v23, h23, hf⟩ := Option.bind_eq_some_iff.mp hf
      refine w_iald C M h23 rfl dM_byteOf_23 ?_
      refine lv_iconst (v := 1) C.x C.b dM_byteOf_24 (by decide) ?_
      refine lv_isub C.x C.b dM_byteOf_25 ?_
      obtain ⟨v26, h26, hf⟩ := Option.bind_eq_some_iff.mp hf
      refine w_ci M (w_runS C M (c_M_in h26) (cwS 3 C.ts (hgS wm_830 wm_831 wm_6 wm_832) rfl rfl rfl (by decide +kernel) ⟨Nat.le_of_ble_eq_true rfl, Nat.le_of_ble_eq_true rfl⟩) rfl hl.1 rfl (Nat.zero_le _) dM_byteOf_26 ⟨Nat.le_refl _, Nat.le_refl _⟩) (fun H locs M => ?_)
      refine lv_if_eq (tgt := 46) C.x C.b dM_byteOf_29 (by decide) (fun c29 => ?_) (fun c29 => ?_)
      · rw [if_pos c29] at hf
        exact b_M_byteOf_46 C hr hlk hnm _ _ _ M (lv_sub hl [] rfl) hf
      · rw [if_neg c29] at hf
        refine w_aload_n C.x C.b dM_byteOf_32 rfl (lv_at hl 0 rfl) ?_
        obtain ⟨v33, h33, hf⟩ := Option.bind_eq_some_iff.mp hf
        refine w_getR C M h33 rfl (hm_in in_M) (by decide) (List.mem_cons_of_mem _ wm_738) rfl dM_byteOf_33 ?_
        refine lv_bipush (v := 40) C.x C.b dM_byteOf_36 (by decide) ?_
        refine lv_iload_n C.x C.b dM_byteOf_38 rfl (lv_at hl 1 rfl) ?_
        refine lv_imul C.x C.b dM_byteOf_39 ?_
        refine lv_iload_n C.x C.b dM_byteOf_40 rfl (lv_at hl 2 rfl) ?_
        refine lv_iadd C.x C.b dM_byteOf_41 ?_
        obtain ⟨v42, h42, hf⟩ := Option.bind_eq_some_iff.mp hf
        refine w_iald C M h42 rfl dM_byteOf_42 ?_
        refine lv_goto (tgt := 47) C.x C.b dM_byteOf_43 (by decide) ?_
        exact b_M_byteOf_47 C hr hlk hnm _ _ _ _ M (lv_sub hl [] rfl) hf
theorem dArrs_fill_0 : decode prog_25_method_103_code 0 = .ok (.iconst 0, 1) := by decide +kernel
theorem dArrs_fill_1 : decode prog_25_method_103_code 1 = .ok (.istore_n 2, 1) := by decide +kernel
theorem dArrs_fill_2 : decode prog_25_method_103_code 2 = .ok (.aload_n 0, 1) := by decide +kernel
theorem dArrs_fill_3 : decode prog_25_method_103_code 3 = .ok (.arraylength, 1) := by decide +kernel
theorem dArrs_fill_4 : decode prog_25_method_103_code 4 = .ok (.istore_n 3, 1) := by decide +kernel
theorem dArrs_fill_5 : decode prog_25_method_103_code 5 = .ok (.iload_n 2, 1) := by decide +kernel
theorem dArrs_fill_6 : decode prog_25_method_103_code 6 = .ok (.iload_n 3, 1) := by decide +kernel
theorem dArrs_fill_7 : decode prog_25_method_103_code 7 = .ok (.if_icmp .ge 13, 3) := by decide +kernel
theorem dArrs_fill_10 : decode prog_25_method_103_code 10 = .ok (.aload_n 0, 1) := by decide +kernel
theorem dArrs_fill_11 : decode prog_25_method_103_code 11 = .ok (.iload_n 2, 1) := by decide +kernel
theorem dArrs_fill_12 : decode prog_25_method_103_code 12 = .ok (.iload_n 1, 1) := by decide +kernel
theorem dArrs_fill_13 : decode prog_25_method_103_code 13 = .ok (.iastore, 1) := by decide +kernel
theorem dArrs_fill_14 : decode prog_25_method_103_code 14 = .ok (.iinc 2 1, 3) := by decide +kernel
theorem dArrs_fill_17 : decode prog_25_method_103_code 17 = .ok (.goto (-12), 3) := by decide +kernel
theorem dArrs_fill_20 : decode prog_25_method_103_code 20 = .ok (.return_, 1) := by decide +kernel
abbrev rm_Arrs_fill : Room := { frames := 0, cells := 0, slots := 0, locals := 0 }
def f_Arrs_fill_b5 (N : Nat) : Nat → Option Nat → Int32 → Int32 → Int32 → hE → Option (hE)
  | 0, _, _, _, _, _ => none
  | n + 1, y0, y1, y2, y3, E => (
  if y3 ≤ y2 then (
  some E
  ) else (
  (tI E y0 0 y2 y1).bind fun E13 =>
  f_Arrs_fill_b5 N n y0 y1 (y2 + 1) y3 E13
  ))
set_option maxHeartbeats 4000000 in
set_option maxRecDepth 100000 in
theorem b_Arrs_fill_5 {p : Program} {l : Launch} {e : Env} {s : State} {m : MethodId} {args : Array Value} {below : List Frame} {meth : Method} {c : Code} {D : va_G} {kA : Nat → ClassId} {S : hE} {g : Nat → Nat} {n0 nx : Nat} {N : Nat} {res : hE} (C : hX p s m args c prog_25_method_103_code 4 R_Arrs ws_Arrs_fill D kA S g n0) (hr : meth.sig.returnType = none) (hlk : meth.locks = false) (hnm : meth.name = "fill") : ∀ n : Nat, ∀ (y0 : Option Nat) (y1 : Int32) (y2 : Int32) (y3 : Int32) (E : hE) (H : Heap) (locs : List Loc) (ls : Array Slot), hY D kA n0 s E nx H locs → lv_has ls 4 [(0, va_rf y0), (1, .int y1), (2, .int y2), (3, .int y3)] → f_Arrs_fill_b5 N n y0 y1 y2 y3 E = some res → W p l e rm_Arrs_fill s m args below meth c H locs 0 0 (MQ below (va_Qv (fun w => w = (res, nx)) (hJ D kA S g n0) (fun q => n0 ≤ q)) args s 0 0 (fun q => n0 ≤ q)) (F0 m 5 ls []) := by
  intro n
  induction n with
  | zero =>
    intro y0 y1 y2 y3 E H locs ls M hl hf
    simp [f_Arrs_fill_b5] at hf
  | succ n ih =>
    intro y0 y1 y2 y3 E H locs ls M hl hf
    rw [f_Arrs_fill_b5] at hf
    refine lv_iload_n C.x C.b dArrs_fill_5 rfl (lv_at hl 2 rfl) ?_
    refine lv_iload_n C.x C.b dArrs_fill_6 rfl (lv_at hl 3 rfl) ?_
    refine lv_icmp_ge (tgt := 20) C.x C.b dArrs_fill_7 (by decide) (fun c7 => ?_) (fun c7 => ?_)
    · rw [if_pos c7] at hf
      cases hf
      exact w_vret C M hr hlk (Nat.le_refl _) (Nat.le_refl _) dArrs_fill_20 rfl
    · rw [if_neg c7] at hf
      refine w_aload_n C.x C.b dArrs_fill_10 rfl (lv_at hl 0 rfl) ?_
      refine lv_iload_n C.x C.b dArrs_fill_11 rfl (lv_at hl 2 rfl) ?_
      refine lv_iload_n C.x C.b dArrs_fill_12 rfl (lv_at hl 1 rfl) ?_
      obtain ⟨E13, h13, hf⟩ := Option.bind_eq_some_iff.mp hf
      refine w_iast C M h13 rfl dArrs_fill_13 (fun H locs M => ?_)
      refine lv_iinc (v := y2 + 1) (lv' := [(2, .int (y2 + 1)), (0, va_rf y0), (1, .int y1), (3, .int y3)]) C.x C.b dArrs_fill_14 hl (k := 2) rfl rfl (by decide) rfl (fun ls hl => ?_)
      refine lv_goto (tgt := 5) C.x C.b dArrs_fill_17 (by decide) ?_
      exact ih _ _ _ _ _ _ _ _ M (lv_sub hl [1, 2, 0, 3] rfl) hf
def f_Arrs_fill (N : Nat) (x0 : Option Nat) (x1 : Int32) (E : hE) : Option (hE) := (
  (aL E x0 0).bind fun v3 =>
  f_Arrs_fill_b5 N N x0 x1 0 v3 E)
set_option maxHeartbeats 4000000 in
set_option maxRecDepth 100000 in
theorem c_Arrs_fill {l : Launch} {D : va_G} {kA : Nat → ClassId} {S : hE} {g : Nat → Nat} {n0 nx : Nat} {N : Nat} {x0 : Option Nat} {x1 : Int32} {E : hE} {res : hE} (hf : f_Arrs_fill N x0 x1 E = some res) : Met l y_Arrs_fill ws_Arrs_fill rm_Arrs_fill (va_Pc [va_rf x0, .int x1] (hJ D kA S g n0 (E, nx))) (va_Qv (fun w => w = (res, nx)) (hJ D kA S g n0) (fun q => n0 ≤ q)) 0 0 (fun q => n0 ≤ q) := by
  refine h_met (cc := prog_25_method_103_code) (maxL := 4) (ret := none) (lvs := [(0, va_rf x0), (1, .int x1)]) zZ_k (by decide) rfl (by simp [lg_sl, va_rf_cat, cat_i, cat_l, cat_n]) (by simp [lv_args, va_rf_cat, cat_i, cat_l, cat_n]) ?_
  intro p e s m below meth c ls C M hr hlk hnm hl
  unfold f_Arrs_fill at hf
  refine lv_iconst (v := 0) C.x C.b dArrs_fill_0 (by decide) ?_
  refine lv_istore_n (lv' := [(2, .int 0), (0, va_rf x0), (1, .int x1)]) C.x C.b dArrs_fill_1 rfl hl (by decide) rfl (fun ls hl => ?_)
  refine w_aload_n C.x C.b dArrs_fill_2 rfl (lv_at hl 1 rfl) ?_
  obtain ⟨v3, h3, hf⟩ := Option.bind_eq_some_iff.mp hf
  refine w_alen C M h3 rfl dArrs_fill_3 ?_
  refine lv_istore_n (lv' := [(3, .int v3), (2, .int 0), (0, va_rf x0), (1, .int x1)]) C.x C.b dArrs_fill_4 rfl hl (by decide) rfl (fun ls hl => ?_)
  exact b_Arrs_fill_5 C hr hlk hnm N _ _ _ _ _ _ _ _ M (lv_sub hl [2, 3, 1, 0] rfl) hf
theorem dFrame_begin_0 : decode prog_4_method_2_code 0 = .ok (.aload_n 0, 1) := by decide +kernel
theorem dFrame_begin_1 : decode prog_4_method_2_code 1 = .ok (.getfield 9, 3) := by decide +kernel
theorem dFrame_begin_4 : decode prog_4_method_2_code 4 = .ok (.iconst 0, 1) := by decide +kernel
theorem dFrame_begin_5 : decode prog_4_method_2_code 5 = .ok (.invokestatic 25, 3) := by decide +kernel
theorem dFrame_begin_8 : decode prog_4_method_2_code 8 = .ok (.aload_n 0, 1) := by decide +kernel
theorem dFrame_begin_9 : decode prog_4_method_2_code 9 = .ok (.getfield 15, 3) := by decide +kernel
theorem dFrame_begin_12 : decode prog_4_method_2_code 12 = .ok (.iconst 0, 1) := by decide +kernel
theorem dFrame_begin_13 : decode prog_4_method_2_code 13 = .ok (.invokestatic 25, 3) := by decide +kernel
theorem dFrame_begin_16 : decode prog_4_method_2_code 16 = .ok (.aload_n 0, 1) := by decide +kernel
theorem dFrame_begin_17 : decode prog_4_method_2_code 17 = .ok (.getfield 9, 3) := by decide +kernel
theorem dFrame_begin_20 : decode prog_4_method_2_code 20 = .ok (.iconst 0, 1) := by decide +kernel
theorem dFrame_begin_21 : decode prog_4_method_2_code 21 = .ok (.iload_n 1, 1) := by decide +kernel
theorem dFrame_begin_22 : decode prog_4_method_2_code 22 = .ok (.iastore, 1) := by decide +kernel
theorem dFrame_begin_23 : decode prog_4_method_2_code 23 = .ok (.aload_n 0, 1) := by decide +kernel
theorem dFrame_begin_24 : decode prog_4_method_2_code 24 = .ok (.iconst 0, 1) := by decide +kernel
theorem dFrame_begin_25 : decode prog_4_method_2_code 25 = .ok (.putfield 31, 3) := by decide +kernel
theorem dFrame_begin_28 : decode prog_4_method_2_code 28 = .ok (.aload_n 0, 1) := by decide +kernel
theorem dFrame_begin_29 : decode prog_4_method_2_code 29 = .ok (.iconst 0, 1) := by decide +kernel
theorem dFrame_begin_30 : decode prog_4_method_2_code 30 = .ok (.putfield 34, 3) := by decide +kernel
theorem dFrame_begin_33 : decode prog_4_method_2_code 33 = .ok (.aload_n 0, 1) := by decide +kernel
theorem dFrame_begin_34 : decode prog_4_method_2_code 34 = .ok (.iconst 0, 1) := by decide +kernel
theorem dFrame_begin_35 : decode prog_4_method_2_code 35 = .ok (.putfield 37, 3) := by decide +kernel
theorem dFrame_begin_38 : decode prog_4_method_2_code 38 = .ok (.return_, 1) := by decide +kernel
abbrev rm_Frame_begin : Room := { frames := 1, cells := 0, slots := 0, locals := 23 }
def f_Frame_begin (N : Nat) (x0 : Nat) (x1 : Int32) (E : hE) : Option (hE) := (
  (gR E (some x0) 1 1).bind fun v1 =>
  (f_Arrs_fill N v1 0 E).bind fun v5 =>
  (gR v5 (some x0) 1 2).bind fun v9 =>
  (f_Arrs_fill N v9 0 v5).bind fun v13 =>
  (gR v13 (some x0) 1 1).bind fun v17 =>
  (tI v13 v17 0 0 x1).bind fun E22 =>
  (sI E22 (some x0) 1 4 0).bind fun E25 =>
  (sI E25 (some x0) 1 5 0).bind fun E30 =>
  (sI E30 (some x0) 1 6 0).bind fun E35 =>
  some E35)
set_option maxHeartbeats 4000000 in
set_option maxRecDepth 100000 in
theorem c_Frame_begin {l : Launch} {D : va_G} {kA : Nat → ClassId} {S : hE} {g : Nat → Nat} {n0 nx : Nat} {N : Nat} {x0 : Nat} {x1 : Int32} {E : hE} {res : hE} (hf : f_Frame_begin N x0 x1 E = some res) : Met l y_Frame_begin ws_Frame_begin rm_Frame_begin (va_Pc [va_rf (some x0), .int x1] (hJ D kA S g n0 (E, nx))) (va_Qv (fun w => w = (res, nx)) (hJ D kA S g n0) (fun q => n0 ≤ q)) 0 0 (fun q => n0 ≤ q) := by
  refine h_met (cc := prog_4_method_2_code) (maxL := 2) (ret := none) (lvs := [(0, va_rf (some x0)), (1, .int x1)]) zZ_k (by decide) rfl (by simp [lg_sl, va_rf_cat, cat_i, cat_l, cat_n]) (by simp [lv_args, va_rf_cat, cat_i, cat_l, cat_n]) ?_
  intro p e s m below meth c ls C M hr hlk hnm hl
  unfold f_Frame_begin at hf
  refine w_aload_n C.x C.b dFrame_begin_0 rfl (lv_at hl 0 rfl) ?_
  obtain ⟨v1, h1, hf⟩ := Option.bind_eq_some_iff.mp hf
  refine w_getR C M h1 rfl (hm_in in_Frame) (by decide) (List.mem_cons_of_mem _ wm_105) rfl dFrame_begin_1 ?_
  refine lv_iconst (v := 0) C.x C.b dFrame_begin_4 (by decide) ?_
  obtain ⟨v5, h5, hf⟩ := Option.bind_eq_some_iff.mp hf
  refine w_cv M (w_runS C M (c_Arrs_fill h5) (va_cwS 2 C.ts (hgT wm_591 wm_249 wm_11 wm_250) rfl rfl rfl (by decide +kernel) ⟨Nat.le_of_ble_eq_true rfl, Nat.le_of_ble_eq_true rfl⟩) rfl hl.1 rfl (Nat.zero_le _) dFrame_begin_5 ⟨Nat.le_refl _, Nat.le_refl _⟩) (fun H locs M => ?_)
  refine w_aload_n C.x C.b dFrame_begin_8 rfl (lv_at hl 0 rfl) ?_
  obtain ⟨v9, h9, hf⟩ := Option.bind_eq_some_iff.mp hf
  refine w_getR C M h9 rfl (hm_in in_Frame) (by decide) (List.mem_cons_of_mem _ wm_107) rfl dFrame_begin_9 ?_
  refine lv_iconst (v := 0) C.x C.b dFrame_begin_12 (by decide) ?_
  obtain ⟨v13, h13, hf⟩ := Option.bind_eq_some_iff.mp hf
  refine w_cv M (w_runS C M (c_Arrs_fill h13) (va_cwS 2 C.ts (hgT wm_591 wm_249 wm_11 wm_250) rfl rfl rfl (by decide +kernel) ⟨Nat.le_of_ble_eq_true rfl, Nat.le_of_ble_eq_true rfl⟩) rfl hl.1 rfl (Nat.zero_le _) dFrame_begin_13 ⟨Nat.le_refl _, Nat.le_refl _⟩) (fun H locs M => ?_)
  refine w_aload_n C.x C.b dFrame_begin_16 rfl (lv_at hl 0 rfl) ?_
  obtain ⟨v17, h17, hf⟩ := Option.bind_eq_some_iff.mp hf
  refine w_getR C M h17 rfl (hm_in in_Frame) (by decide) (List.mem_cons_of_mem _ wm_105) rfl dFrame_begin_17 ?_
  refine lv_iconst (v := 0) C.x C.b dFrame_begin_20 (by decide) ?_
  refine lv_iload_n C.x C.b dFrame_begin_21 rfl (lv_at hl 1 rfl) ?_
  obtain ⟨E22, h22, hf⟩ := Option.bind_eq_some_iff.mp hf
  refine w_iast C M h22 rfl dFrame_begin_22 (fun H locs M => ?_)
  refine w_aload_n C.x C.b dFrame_begin_23 rfl (lv_at hl 0 rfl) ?_
  refine lv_iconst (v := 0) C.x C.b dFrame_begin_24 (by decide) ?_
  obtain ⟨E25, h25, hf⟩ := Option.bind_eq_some_iff.mp hf
  refine w_putV (ty := .int) C M ty_Frame h25 rfl (hm_in in_Frame) tyok_Frame nm_Frame (by decide) (List.mem_cons_of_mem _ wm_110) rfl rfl (by decide +kernel) rfl rfl dFrame_begin_25 (fun H locs M => ?_)
  refine w_aload_n C.x C.b dFrame_begin_28 rfl (lv_at hl 0 rfl) ?_
  refine lv_iconst (v := 0) C.x C.b dFrame_begin_29 (by decide) ?_
  obtain ⟨E30, h30, hf⟩ := Option.bind_eq_some_iff.mp hf
  refine w_putV (ty := .int) C M ty_Frame h30 rfl (hm_in in_Frame) tyok_Frame nm_Frame (by decide) (List.mem_cons_of_mem _ wm_111) rfl rfl (by decide +kernel) rfl rfl dFrame_begin_30 (fun H locs M => ?_)
  refine w_aload_n C.x C.b dFrame_begin_33 rfl (lv_at hl 0 rfl) ?_
  refine lv_iconst (v := 0) C.x C.b dFrame_begin_34 (by decide) ?_
  obtain ⟨E35, h35, hf⟩ := Option.bind_eq_some_iff.mp hf
  refine w_putV (ty := .int) C M ty_Frame h35 rfl (hm_in in_Frame) tyok_Frame nm_Frame (by decide) (List.mem_cons_of_mem _ wm_113) rfl rfl (by decide +kernel) rfl rfl dFrame_begin_35 (fun H locs M => ?_)
  cases hf
  exact w_vret C M hr hlk (Nat.le_refl _) (Nat.le_refl _) dFrame_begin_38 rfl
theorem dFrame_valueOf_0 : decode prog_4_method_3_code 0 = .ok (.iload_n 1, 1) := by decide +kernel
theorem dFrame_valueOf_1 : decode prog_4_method_3_code 1 = .ok (.ldc 40, 2) := by decide +kernel
theorem dFrame_valueOf_3 : decode prog_4_method_3_code 3 = .ok (.isub, 1) := by decide +kernel
theorem dFrame_valueOf_4 : decode prog_4_method_3_code 4 = .ok (.istore_n 2, 1) := by decide +kernel
theorem dFrame_valueOf_5 : decode prog_4_method_3_code 5 = .ok (.iload_n 2, 1) := by decide +kernel
theorem dFrame_valueOf_6 : decode prog_4_method_3_code 6 = .ok (.ifCond .lt 18, 3) := by decide +kernel
theorem dFrame_valueOf_9 : decode prog_4_method_3_code 9 = .ok (.iload_n 2, 1) := by decide +kernel
theorem dFrame_valueOf_10 : decode prog_4_method_3_code 10 = .ok (.bipush 8, 2) := by decide +kernel
theorem dFrame_valueOf_12 : decode prog_4_method_3_code 12 = .ok (.if_icmp .ge 12, 3) := by decide +kernel
theorem dFrame_valueOf_15 : decode prog_4_method_3_code 15 = .ok (.aload_n 0, 1) := by decide +kernel
theorem dFrame_valueOf_16 : decode prog_4_method_3_code 16 = .ok (.getfield 9, 3) := by decide +kernel
theorem dFrame_valueOf_19 : decode prog_4_method_3_code 19 = .ok (.iload_n 2, 1) := by decide +kernel
theorem dFrame_valueOf_20 : decode prog_4_method_3_code 20 = .ok (.iaload, 1) := by decide +kernel
theorem dFrame_valueOf_21 : decode prog_4_method_3_code 21 = .ok (.goto 4, 3) := by decide +kernel
theorem dFrame_valueOf_24 : decode prog_4_method_3_code 24 = .ok (.iload_n 1, 1) := by decide +kernel
theorem dFrame_valueOf_25 : decode prog_4_method_3_code 25 = .ok (.ireturn, 1) := by decide +kernel
abbrev rm_Frame_valueOf : Room := { frames := 0, cells := 0, slots := 0, locals := 0 }
def f_Frame_valueOf_b25 (E : hE) (t0 : Int32) : Option (Int32) := (
  some t0)
set_option maxHeartbeats 4000000 in
set_option maxRecDepth 100000 in
theorem b_Frame_valueOf_25 {p : Program} {l : Launch} {e : Env} {s : State} {m : MethodId} {args : Array Value} {below : List Frame} {meth : Method} {c : Code} {D : va_G} {kA : Nat → ClassId} {S : hE} {g : Nat → Nat} {n0 nx : Nat} {E : hE} {res : Int32} (C : hX p s m args c prog_4_method_3_code 3 R_Frame ws_Frame_valueOf D kA S g n0) (hr : meth.sig.returnType = (some .int)) (hlk : meth.locks = false) (hnm : meth.name = "valueOf") : ∀ (t0 : Int32) (H : Heap) (locs : List Loc) (ls : Array Slot), hY D kA n0 s E nx H locs → lv_has ls 3 [] → f_Frame_valueOf_b25 E  t0 = some res → W p l e rm_Frame_valueOf s m args below meth c H locs 0 0 (MQ below (va_Qi (fun r w => r = res ∧ w = (E, nx)) (hJ D kA S g n0) (fun q => n0 ≤ q)) args s 0 0 (fun q => n0 ≤ q)) (F0 m 25 ls [.int t0]) := by
  intro t0 H locs ls M hl hf
  unfold f_Frame_valueOf_b25 at hf
  cases hf
  exact w_iret C M hr hlk rfl (Nat.le_refl _) (Nat.le_refl _) dFrame_valueOf_25 rfl rfl
def f_Frame_valueOf_b24 (E : hE) (y1 : Int32) : Option (Int32) := (
  f_Frame_valueOf_b25 E y1)
set_option maxHeartbeats 4000000 in
set_option maxRecDepth 100000 in
theorem b_Frame_valueOf_24 {p : Program} {l : Launch} {e : Env} {s : State} {m : MethodId} {args : Array Value} {below : List Frame} {meth : Method} {c : Code} {D : va_G} {kA : Nat → ClassId} {S : hE} {g : Nat → Nat} {n0 nx : Nat} {E : hE} {res : Int32} (C : hX p s m args c prog_4_method_3_code 3 R_Frame ws_Frame_valueOf D kA S g n0) (hr : meth.sig.returnType = (some .int)) (hlk : meth.locks = false) (hnm : meth.name = "valueOf") : ∀ (y1 : Int32) (H : Heap) (locs : List Loc) (ls : Array Slot), hY D kA n0 s E nx H locs → lv_has ls 3 [(1, .int y1)] → f_Frame_valueOf_b24 E  y1 = some res → W p l e rm_Frame_valueOf s m args below meth c H locs 0 0 (MQ below (va_Qi (fun r w => r = res ∧ w = (E, nx)) (hJ D kA S g n0) (fun q => n0 ≤ q)) args s 0 0 (fun q => n0 ≤ q)) (F0 m 24 ls []) := by
  intro y1 H locs ls M hl hf
  unfold f_Frame_valueOf_b24 at hf
  refine lv_iload_n C.x C.b dFrame_valueOf_24 rfl (lv_at hl 0 rfl) ?_
  exact b_Frame_valueOf_25 C hr hlk hnm _ _ _ _ M (lv_sub hl [] rfl) hf
def f_Frame_valueOf (E : hE) (x0 : Nat) (x1 : Int32) : Option (Int32) := (
  if (x1 - 1000000) < 0 then (
  f_Frame_valueOf_b24 E x1
  ) else (
  if 8 ≤ (x1 - 1000000) then (
  f_Frame_valueOf_b24 E x1
  ) else (
  (gR E (some x0) 1 1).bind fun v16 =>
  (aI E v16 0 (x1 - 1000000)).bind fun v20 =>
  f_Frame_valueOf_b25 E v20
  )
  ))
set_option maxHeartbeats 4000000 in
set_option maxRecDepth 100000 in
theorem c_Frame_valueOf {l : Launch} {D : va_G} {kA : Nat → ClassId} {S : hE} {g : Nat → Nat} {n0 nx : Nat} {x0 : Nat} {x1 : Int32} {E : hE} {res : Int32} (hf : f_Frame_valueOf E x0 x1 = some res) : Met l y_Frame_valueOf ws_Frame_valueOf rm_Frame_valueOf (va_Pc [va_rf (some x0), .int x1] (hJ D kA S g n0 (E, nx))) (va_Qi (fun r w => r = res ∧ w = (E, nx)) (hJ D kA S g n0) (fun q => n0 ≤ q)) 0 0 (fun q => n0 ≤ q) := by
  refine h_met (cc := prog_4_method_3_code) (maxL := 3) (ret := (some .int)) (lvs := [(0, va_rf (some x0)), (1, .int x1)]) zZ_k (by decide) rfl (by simp [lg_sl, va_rf_cat, cat_i, cat_l, cat_n]) (by simp [lv_args, va_rf_cat, cat_i, cat_l, cat_n]) ?_
  intro p e s m below meth c ls C M hr hlk hnm hl
  unfold f_Frame_valueOf at hf
  refine lv_iload_n C.x C.b dFrame_valueOf_0 rfl (lv_at hl 1 rfl) ?_
  refine lv_ldc (v := 1000000) C.x C.b C.ow (C.ts (.constant R_Frame 40 1000000) (List.mem_cons_of_mem _ wm_605)) dFrame_valueOf_1 ?_
  refine lv_isub C.x C.b dFrame_valueOf_3 ?_
  refine lv_istore_n (lv' := [(2, .int (x1 - 1000000)), (0, va_rf (some x0)), (1, .int x1)]) C.x C.b dFrame_valueOf_4 rfl hl (by decide) rfl (fun ls hl => ?_)
  refine lv_iload_n C.x C.b dFrame_valueOf_5 rfl (lv_at hl 0 rfl) ?_
  refine lv_if_lt (tgt := 24) C.x C.b dFrame_valueOf_6 (by decide) (fun c6 => ?_) (fun c6 => ?_)
  · rw [if_pos c6] at hf
    exact b_Frame_valueOf_24 C hr hlk hnm _ _ _ _ M (lv_sub hl [2] rfl) hf
  · rw [if_neg c6] at hf
    refine lv_iload_n C.x C.b dFrame_valueOf_9 rfl (lv_at hl 0 rfl) ?_
    refine lv_bipush (v := 8) C.x C.b dFrame_valueOf_10 (by decide) ?_
    refine lv_icmp_ge (tgt := 24) C.x C.b dFrame_valueOf_12 (by decide) (fun c12 => ?_) (fun c12 => ?_)
    · rw [if_pos c12] at hf
      exact b_Frame_valueOf_24 C hr hlk hnm _ _ _ _ M (lv_sub hl [2] rfl) hf
    · rw [if_neg c12] at hf
      refine w_aload_n C.x C.b dFrame_valueOf_15 rfl (lv_at hl 1 rfl) ?_
      obtain ⟨v16, h16, hf⟩ := Option.bind_eq_some_iff.mp hf
      refine w_getR C M h16 rfl (hm_in in_Frame) (by decide) (List.mem_cons_of_mem _ wm_105) rfl dFrame_valueOf_16 ?_
      refine lv_iload_n C.x C.b dFrame_valueOf_19 rfl (lv_at hl 0 rfl) ?_
      obtain ⟨v20, h20, hf⟩ := Option.bind_eq_some_iff.mp hf
      refine w_iald C M h20 rfl dFrame_valueOf_20 ?_
      refine lv_goto (tgt := 25) C.x C.b dFrame_valueOf_21 (by decide) ?_
      exact b_Frame_valueOf_25 C hr hlk hnm _ _ _ _ M (lv_sub hl [] rfl) hf
theorem dFrame_set_0 : decode prog_4_method_4_code 0 = .ok (.iload_n 1, 1) := by decide +kernel
theorem dFrame_set_1 : decode prog_4_method_4_code 1 = .ok (.ifCond .lt 16, 3) := by decide +kernel
theorem dFrame_set_4 : decode prog_4_method_4_code 4 = .ok (.iload_n 1, 1) := by decide +kernel
theorem dFrame_set_5 : decode prog_4_method_4_code 5 = .ok (.bipush 8, 2) := by decide +kernel
theorem dFrame_set_7 : decode prog_4_method_4_code 7 = .ok (.if_icmp .ge 10, 3) := by decide +kernel
theorem dFrame_set_10 : decode prog_4_method_4_code 10 = .ok (.aload_n 0, 1) := by decide +kernel
theorem dFrame_set_11 : decode prog_4_method_4_code 11 = .ok (.getfield 9, 3) := by decide +kernel
theorem dFrame_set_14 : decode prog_4_method_4_code 14 = .ok (.iload_n 1, 1) := by decide +kernel
theorem dFrame_set_15 : decode prog_4_method_4_code 15 = .ok (.iload_n 2, 1) := by decide +kernel
theorem dFrame_set_16 : decode prog_4_method_4_code 16 = .ok (.iastore, 1) := by decide +kernel
theorem dFrame_set_17 : decode prog_4_method_4_code 17 = .ok (.return_, 1) := by decide +kernel
abbrev rm_Frame_set : Room := { frames := 0, cells := 0, slots := 0, locals := 0 }
def f_Frame_set_b17  (E : hE) : Option (hE) := (
  some E)
set_option maxHeartbeats 4000000 in
set_option maxRecDepth 100000 in
theorem b_Frame_set_17 {p : Program} {l : Launch} {e : Env} {s : State} {m : MethodId} {args : Array Value} {below : List Frame} {meth : Method} {c : Code} {D : va_G} {kA : Nat → ClassId} {S : hE} {g : Nat → Nat} {n0 nx : Nat} {res : hE} (C : hX p s m args c prog_4_method_4_code 3 R_Frame ws_Frame_set D kA S g n0) (hr : meth.sig.returnType = none) (hlk : meth.locks = false) (hnm : meth.name = "set") : ∀  (E : hE) (H : Heap) (locs : List Loc) (ls : Array Slot), hY D kA n0 s E nx H locs → lv_has ls 3 [] → f_Frame_set_b17  E = some res → W p l e rm_Frame_set s m args below meth c H locs 0 0 (MQ below (va_Qv (fun w => w = (res, nx)) (hJ D kA S g n0) (fun q => n0 ≤ q)) args s 0 0 (fun q => n0 ≤ q)) (F0 m 17 ls []) := by
  intro E H locs ls M hl hf
  unfold f_Frame_set_b17 at hf
  cases hf
  exact w_vret C M hr hlk (Nat.le_refl _) (Nat.le_refl _) dFrame_set_17 rfl
def f_Frame_set  (x0 : Nat) (x1 : Int32) (x2 : Int32) (E : hE) : Option (hE) := (
  if x1 < 0 then (
  f_Frame_set_b17 E
  ) else (
  if 8 ≤ x1 then (
  f_Frame_set_b17 E
  ) else (
  (gR E (some x0) 1 1).bind fun v11 =>
  (tI E v11 0 x1 x2).bind fun E16 =>
  f_Frame_set_b17 E16
  )
  ))
set_option maxHeartbeats 4000000 in
set_option maxRecDepth 100000 in
theorem c_Frame_set {l : Launch} {D : va_G} {kA : Nat → ClassId} {S : hE} {g : Nat → Nat} {n0 nx : Nat} {x0 : Nat} {x1 : Int32} {x2 : Int32} {E : hE} {res : hE} (hf : f_Frame_set x0 x1 x2 E = some res) : Met l y_Frame_set ws_Frame_set rm_Frame_set (va_Pc [va_rf (some x0), .int x1, .int x2] (hJ D kA S g n0 (E, nx))) (va_Qv (fun w => w = (res, nx)) (hJ D kA S g n0) (fun q => n0 ≤ q)) 0 0 (fun q => n0 ≤ q) := by
  refine h_met (cc := prog_4_method_4_code) (maxL := 3) (ret := none) (lvs := [(0, va_rf (some x0)), (1, .int x1), (2, .int x2)]) zZ_k (by decide) rfl (by simp [lg_sl, va_rf_cat, cat_i, cat_l, cat_n]) (by simp [lv_args, va_rf_cat, cat_i, cat_l, cat_n]) ?_
  intro p e s m below meth c ls C M hr hlk hnm hl
  unfold f_Frame_set at hf
  refine lv_iload_n C.x C.b dFrame_set_0 rfl (lv_at hl 1 rfl) ?_
  refine lv_if_lt (tgt := 17) C.x C.b dFrame_set_1 (by decide) (fun c1 => ?_) (fun c1 => ?_)
  · rw [if_pos c1] at hf
    exact b_Frame_set_17 C hr hlk hnm _ _ _ _ M (lv_sub hl [] rfl) hf
  · rw [if_neg c1] at hf
    refine lv_iload_n C.x C.b dFrame_set_4 rfl (lv_at hl 1 rfl) ?_
    refine lv_bipush (v := 8) C.x C.b dFrame_set_5 (by decide) ?_
    refine lv_icmp_ge (tgt := 17) C.x C.b dFrame_set_7 (by decide) (fun c7 => ?_) (fun c7 => ?_)
    · rw [if_pos c7] at hf
      exact b_Frame_set_17 C hr hlk hnm _ _ _ _ M (lv_sub hl [] rfl) hf
    · rw [if_neg c7] at hf
      refine w_aload_n C.x C.b dFrame_set_10 rfl (lv_at hl 0 rfl) ?_
      obtain ⟨v11, h11, hf⟩ := Option.bind_eq_some_iff.mp hf
      refine w_getR C M h11 rfl (hm_in in_Frame) (by decide) (List.mem_cons_of_mem _ wm_105) rfl dFrame_set_11 ?_
      refine lv_iload_n C.x C.b dFrame_set_14 rfl (lv_at hl 1 rfl) ?_
      refine lv_iload_n C.x C.b dFrame_set_15 rfl (lv_at hl 2 rfl) ?_
      obtain ⟨E16, h16, hf⟩ := Option.bind_eq_some_iff.mp hf
      refine w_iast C M h16 rfl dFrame_set_16 (fun H locs M => ?_)
      exact b_Frame_set_17 C hr hlk hnm _ _ _ _ M (lv_sub hl [] rfl) hf
theorem dFrame_call_0 : decode prog_4_method_5_code 0 = .ok (.aload_n 0, 1) := by decide +kernel
theorem dFrame_call_1 : decode prog_4_method_5_code 1 = .ok (.getfield 31, 3) := by decide +kernel
theorem dFrame_call_4 : decode prog_4_method_5_code 4 = .ok (.ifCond .lt 12, 3) := by decide +kernel
theorem dFrame_call_7 : decode prog_4_method_5_code 7 = .ok (.aload_n 0, 1) := by decide +kernel
theorem dFrame_call_8 : decode prog_4_method_5_code 8 = .ok (.getfield 31, 3) := by decide +kernel
theorem dFrame_call_11 : decode prog_4_method_5_code 11 = .ok (.bipush 8, 2) := by decide +kernel
theorem dFrame_call_13 : decode prog_4_method_5_code 13 = .ok (.if_icmp .lt 5, 3) := by decide +kernel
theorem dFrame_call_16 : decode prog_4_method_5_code 16 = .ok (.iconst 0, 1) := by decide +kernel
theorem dFrame_call_17 : decode prog_4_method_5_code 17 = .ok (.ireturn, 1) := by decide +kernel
theorem dFrame_call_18 : decode prog_4_method_5_code 18 = .ok (.aload_n 0, 1) := by decide +kernel
theorem dFrame_call_19 : decode prog_4_method_5_code 19 = .ok (.getfield 18, 3) := by decide +kernel
theorem dFrame_call_22 : decode prog_4_method_5_code 22 = .ok (.aload_n 0, 1) := by decide +kernel
theorem dFrame_call_23 : decode prog_4_method_5_code 23 = .ok (.getfield 31, 3) := by decide +kernel
theorem dFrame_call_26 : decode prog_4_method_5_code 26 = .ok (.aload_n 0, 1) := by decide +kernel
theorem dFrame_call_27 : decode prog_4_method_5_code 27 = .ok (.getfield 34, 3) := by decide +kernel
theorem dFrame_call_30 : decode prog_4_method_5_code 30 = .ok (.iastore, 1) := by decide +kernel
theorem dFrame_call_31 : decode prog_4_method_5_code 31 = .ok (.aload_n 0, 1) := by decide +kernel
theorem dFrame_call_32 : decode prog_4_method_5_code 32 = .ok (.dup, 1) := by decide +kernel
theorem dFrame_call_33 : decode prog_4_method_5_code 33 = .ok (.getfield 31, 3) := by decide +kernel
theorem dFrame_call_36 : decode prog_4_method_5_code 36 = .ok (.iconst 1, 1) := by decide +kernel
theorem dFrame_call_37 : decode prog_4_method_5_code 37 = .ok (.iadd, 1) := by decide +kernel
theorem dFrame_call_38 : decode prog_4_method_5_code 38 = .ok (.putfield 31, 3) := by decide +kernel
theorem dFrame_call_41 : decode prog_4_method_5_code 41 = .ok (.aload_n 0, 1) := by decide +kernel
theorem dFrame_call_42 : decode prog_4_method_5_code 42 = .ok (.iload_n 1, 1) := by decide +kernel
theorem dFrame_call_43 : decode prog_4_method_5_code 43 = .ok (.putfield 34, 3) := by decide +kernel
theorem dFrame_call_46 : decode prog_4_method_5_code 46 = .ok (.iconst 1, 1) := by decide +kernel
theorem dFrame_call_47 : decode prog_4_method_5_code 47 = .ok (.ireturn, 1) := by decide +kernel
abbrev rm_Frame_call : Room := { frames := 0, cells := 0, slots := 0, locals := 0 }
def f_Frame_call_b16  (E : hE) : Option (Int32 × hE) := (
  some (0, E))
set_option maxHeartbeats 4000000 in
set_option maxRecDepth 100000 in
theorem b_Frame_call_16 {p : Program} {l : Launch} {e : Env} {s : State} {m : MethodId} {args : Array Value} {below : List Frame} {meth : Method} {c : Code} {D : va_G} {kA : Nat → ClassId} {S : hE} {g : Nat → Nat} {n0 nx : Nat} {res : Int32 × hE} (C : hX p s m args c prog_4_method_5_code 2 R_Frame ws_Frame_call D kA S g n0) (hr : meth.sig.returnType = (some .boolean)) (hlk : meth.locks = false) (hnm : meth.name = "call") : ∀  (E : hE) (H : Heap) (locs : List Loc) (ls : Array Slot), hY D kA n0 s E nx H locs → lv_has ls 2 [] → f_Frame_call_b16  E = some res → W p l e rm_Frame_call s m args below meth c H locs 0 0 (MQ below (va_Qi (fun r w => r = res.1 ∧ w = (res.2, nx)) (hJ D kA S g n0) (fun q => n0 ≤ q)) args s 0 0 (fun q => n0 ≤ q)) (F0 m 16 ls []) := by
  intro E H locs ls M hl hf
  unfold f_Frame_call_b16 at hf
  refine lv_iconst (v := 0) C.x C.b dFrame_call_16 (by decide) ?_
  cases hf
  exact w_iret C M hr hlk rfl (Nat.le_refl _) (Nat.le_refl _) dFrame_call_17 rfl rfl
def f_Frame_call  (x0 : Nat) (x1 : Int32) (E : hE) : Option (Int32 × hE) := (
  (gI E (some x0) 1 4).bind fun v1 =>
  if v1 < 0 then (
  f_Frame_call_b16 E
  ) else (
  (gI E (some x0) 1 4).bind fun v8 =>
  if v8 < 8 then (
  (gR E (some x0) 1 3).bind fun v19 =>
  (gI E (some x0) 1 4).bind fun v23 =>
  (gI E (some x0) 1 5).bind fun v27 =>
  (tI E v19 0 v23 v27).bind fun E30 =>
  (gI E30 (some x0) 1 4).bind fun v33 =>
  (sI E30 (some x0) 1 4 (v33 + 1)).bind fun E38 =>
  (sI E38 (some x0) 1 5 x1).bind fun E43 =>
  some (1, E43)
  ) else (
  f_Frame_call_b16 E
  )
  ))
set_option maxHeartbeats 4000000 in
set_option maxRecDepth 100000 in
theorem c_Frame_call {l : Launch} {D : va_G} {kA : Nat → ClassId} {S : hE} {g : Nat → Nat} {n0 nx : Nat} {x0 : Nat} {x1 : Int32} {E : hE} {res : Int32 × hE} (hf : f_Frame_call x0 x1 E = some res) : Met l y_Frame_call ws_Frame_call rm_Frame_call (va_Pc [va_rf (some x0), .int x1] (hJ D kA S g n0 (E, nx))) (va_Qi (fun r w => r = res.1 ∧ w = (res.2, nx)) (hJ D kA S g n0) (fun q => n0 ≤ q)) 0 0 (fun q => n0 ≤ q) := by
  refine h_met (cc := prog_4_method_5_code) (maxL := 2) (ret := (some .boolean)) (lvs := [(0, va_rf (some x0)), (1, .int x1)]) zZ_k (by decide) rfl (by simp [lg_sl, va_rf_cat, cat_i, cat_l, cat_n]) (by simp [lv_args, va_rf_cat, cat_i, cat_l, cat_n]) ?_
  intro p e s m below meth c ls C M hr hlk hnm hl
  unfold f_Frame_call at hf
  refine w_aload_n C.x C.b dFrame_call_0 rfl (lv_at hl 0 rfl) ?_
  obtain ⟨v1, h1, hf⟩ := Option.bind_eq_some_iff.mp hf
  refine w_getI C M h1 rfl (hm_in in_Frame) (by decide) (List.mem_cons_of_mem _ wm_110) rfl dFrame_call_1 ?_
  refine lv_if_lt (tgt := 16) C.x C.b dFrame_call_4 (by decide) (fun c4 => ?_) (fun c4 => ?_)
  · rw [if_pos c4] at hf
    exact b_Frame_call_16 C hr hlk hnm _ _ _ _ M (lv_sub hl [] rfl) hf
  · rw [if_neg c4] at hf
    refine w_aload_n C.x C.b dFrame_call_7 rfl (lv_at hl 0 rfl) ?_
    obtain ⟨v8, h8, hf⟩ := Option.bind_eq_some_iff.mp hf
    refine w_getI C M h8 rfl (hm_in in_Frame) (by decide) (List.mem_cons_of_mem _ wm_110) rfl dFrame_call_8 ?_
    refine lv_bipush (v := 8) C.x C.b dFrame_call_11 (by decide) ?_
    refine lv_icmp_lt (tgt := 18) C.x C.b dFrame_call_13 (by decide) (fun c13 => ?_) (fun c13 => ?_)
    · rw [if_pos c13] at hf
      refine w_aload_n C.x C.b dFrame_call_18 rfl (lv_at hl 0 rfl) ?_
      obtain ⟨v19, h19, hf⟩ := Option.bind_eq_some_iff.mp hf
      refine w_getR C M h19 rfl (hm_in in_Frame) (by decide) (List.mem_cons_of_mem _ wm_109) rfl dFrame_call_19 ?_
      refine w_aload_n C.x C.b dFrame_call_22 rfl (lv_at hl 0 rfl) ?_
      obtain ⟨v23, h23, hf⟩ := Option.bind_eq_some_iff.mp hf
      refine w_getI C M h23 rfl (hm_in in_Frame) (by decide) (List.mem_cons_of_mem _ wm_110) rfl dFrame_call_23 ?_
      refine w_aload_n C.x C.b dFrame_call_26 rfl (lv_at hl 0 rfl) ?_
      obtain ⟨v27, h27, hf⟩ := Option.bind_eq_some_iff.mp hf
      refine w_getI C M h27 rfl (hm_in in_Frame) (by decide) (List.mem_cons_of_mem _ wm_111) rfl dFrame_call_27 ?_
      obtain ⟨E30, h30, hf⟩ := Option.bind_eq_some_iff.mp hf
      refine w_iast C M h30 rfl dFrame_call_30 (fun H locs M => ?_)
      refine w_aload_n C.x C.b dFrame_call_31 rfl (lv_at hl 0 rfl) ?_
      refine lv_dup C.x C.b dFrame_call_32 (va_rf_cat _) ?_
      obtain ⟨v33, h33, hf⟩ := Option.bind_eq_some_iff.mp hf
      refine w_getI C M h33 rfl (hm_in in_Frame) (by decide) (List.mem_cons_of_mem _ wm_110) rfl dFrame_call_33 ?_
      refine lv_iconst (v := 1) C.x C.b dFrame_call_36 (by decide) ?_
      refine lv_iadd C.x C.b dFrame_call_37 ?_
      obtain ⟨E38, h38, hf⟩ := Option.bind_eq_some_iff.mp hf
      refine w_putV (ty := .int) C M ty_Frame h38 rfl (hm_in in_Frame) tyok_Frame nm_Frame (by decide) (List.mem_cons_of_mem _ wm_110) rfl rfl (by decide +kernel) rfl rfl dFrame_call_38 (fun H locs M => ?_)
      refine w_aload_n C.x C.b dFrame_call_41 rfl (lv_at hl 0 rfl) ?_
      refine lv_iload_n C.x C.b dFrame_call_42 rfl (lv_at hl 1 rfl) ?_
      obtain ⟨E43, h43, hf⟩ := Option.bind_eq_some_iff.mp hf
      refine w_putV (ty := .int) C M ty_Frame h43 rfl (hm_in in_Frame) tyok_Frame nm_Frame (by decide) (List.mem_cons_of_mem _ wm_111) rfl rfl (by decide +kernel) rfl rfl dFrame_call_43 (fun H locs M => ?_)
      refine lv_iconst (v := 1) C.x C.b dFrame_call_46 (by decide) ?_
      cases hf
      exact w_iret C M hr hlk rfl (Nat.le_refl _) (Nat.le_refl _) dFrame_call_47 rfl rfl
    · rw [if_neg c13] at hf
      exact b_Frame_call_16 C hr hlk hnm _ _ _ _ M (lv_sub hl [] rfl) hf
theorem dFrame_comeBack_0 : decode prog_4_method_6_code 0 = .ok (.aload_n 0, 1) := by decide +kernel
theorem dFrame_comeBack_1 : decode prog_4_method_6_code 1 = .ok (.getfield 31, 3) := by decide +kernel
theorem dFrame_comeBack_4 : decode prog_4_method_6_code 4 = .ok (.iconst 1, 1) := by decide +kernel
theorem dFrame_comeBack_5 : decode prog_4_method_6_code 5 = .ok (.if_icmp .lt 12, 3) := by decide +kernel
theorem dFrame_comeBack_8 : decode prog_4_method_6_code 8 = .ok (.aload_n 0, 1) := by decide +kernel
theorem dFrame_comeBack_9 : decode prog_4_method_6_code 9 = .ok (.getfield 31, 3) := by decide +kernel
theorem dFrame_comeBack_12 : decode prog_4_method_6_code 12 = .ok (.bipush 8, 2) := by decide +kernel
theorem dFrame_comeBack_14 : decode prog_4_method_6_code 14 = .ok (.if_icmp .le 5, 3) := by decide +kernel
theorem dFrame_comeBack_17 : decode prog_4_method_6_code 17 = .ok (.iconst 0, 1) := by decide +kernel
theorem dFrame_comeBack_18 : decode prog_4_method_6_code 18 = .ok (.ireturn, 1) := by decide +kernel
theorem dFrame_comeBack_19 : decode prog_4_method_6_code 19 = .ok (.aload_n 0, 1) := by decide +kernel
theorem dFrame_comeBack_20 : decode prog_4_method_6_code 20 = .ok (.dup, 1) := by decide +kernel
theorem dFrame_comeBack_21 : decode prog_4_method_6_code 21 = .ok (.getfield 31, 3) := by decide +kernel
theorem dFrame_comeBack_24 : decode prog_4_method_6_code 24 = .ok (.iconst 1, 1) := by decide +kernel
theorem dFrame_comeBack_25 : decode prog_4_method_6_code 25 = .ok (.isub, 1) := by decide +kernel
theorem dFrame_comeBack_26 : decode prog_4_method_6_code 26 = .ok (.putfield 31, 3) := by decide +kernel
theorem dFrame_comeBack_29 : decode prog_4_method_6_code 29 = .ok (.aload_n 0, 1) := by decide +kernel
theorem dFrame_comeBack_30 : decode prog_4_method_6_code 30 = .ok (.aload_n 0, 1) := by decide +kernel
theorem dFrame_comeBack_31 : decode prog_4_method_6_code 31 = .ok (.getfield 18, 3) := by decide +kernel
theorem dFrame_comeBack_34 : decode prog_4_method_6_code 34 = .ok (.aload_n 0, 1) := by decide +kernel
theorem dFrame_comeBack_35 : decode prog_4_method_6_code 35 = .ok (.getfield 31, 3) := by decide +kernel
theorem dFrame_comeBack_38 : decode prog_4_method_6_code 38 = .ok (.iaload, 1) := by decide +kernel
theorem dFrame_comeBack_39 : decode prog_4_method_6_code 39 = .ok (.putfield 34, 3) := by decide +kernel
theorem dFrame_comeBack_42 : decode prog_4_method_6_code 42 = .ok (.iconst 1, 1) := by decide +kernel
theorem dFrame_comeBack_43 : decode prog_4_method_6_code 43 = .ok (.ireturn, 1) := by decide +kernel
abbrev rm_Frame_comeBack : Room := { frames := 0, cells := 0, slots := 0, locals := 0 }
def f_Frame_comeBack_b17  (E : hE) : Option (Int32 × hE) := (
  some (0, E))
set_option maxHeartbeats 4000000 in
set_option maxRecDepth 100000 in
theorem b_Frame_comeBack_17 {p : Program} {l : Launch} {e : Env} {s : State} {m : MethodId} {args : Array Value} {below : List Frame} {meth : Method} {c : Code} {D : va_G} {kA : Nat → ClassId} {S : hE} {g : Nat → Nat} {n0 nx : Nat} {res : Int32 × hE} (C : hX p s m args c prog_4_method_6_code 1 R_Frame ws_Frame_comeBack D kA S g n0) (hr : meth.sig.returnType = (some .boolean)) (hlk : meth.locks = false) (hnm : meth.name = "comeBack") : ∀  (E : hE) (H : Heap) (locs : List Loc) (ls : Array Slot), hY D kA n0 s E nx H locs → lv_has ls 1 [] → f_Frame_comeBack_b17  E = some res → W p l e rm_Frame_comeBack s m args below meth c H locs 0 0 (MQ below (va_Qi (fun r w => r = res.1 ∧ w = (res.2, nx)) (hJ D kA S g n0) (fun q => n0 ≤ q)) args s 0 0 (fun q => n0 ≤ q)) (F0 m 17 ls []) := by
  intro E H locs ls M hl hf
  unfold f_Frame_comeBack_b17 at hf
  refine lv_iconst (v := 0) C.x C.b dFrame_comeBack_17 (by decide) ?_
  cases hf
  exact w_iret C M hr hlk rfl (Nat.le_refl _) (Nat.le_refl _) dFrame_comeBack_18 rfl rfl
def f_Frame_comeBack  (x0 : Nat) (E : hE) : Option (Int32 × hE) := (
  (gI E (some x0) 1 4).bind fun v1 =>
  if v1 < 1 then (
  f_Frame_comeBack_b17 E
  ) else (
  (gI E (some x0) 1 4).bind fun v9 =>
  if v9 ≤ 8 then (
  (gI E (some x0) 1 4).bind fun v21 =>
  (sI E (some x0) 1 4 (v21 - 1)).bind fun E26 =>
  (gR E26 (some x0) 1 3).bind fun v31 =>
  (gI E26 (some x0) 1 4).bind fun v35 =>
  (aI E26 v31 0 v35).bind fun v38 =>
  (sI E26 (some x0) 1 5 v38).bind fun E39 =>
  some (1, E39)
  ) else (
  f_Frame_comeBack_b17 E
  )
  ))
set_option maxHeartbeats 4000000 in
set_option maxRecDepth 100000 in
theorem c_Frame_comeBack {l : Launch} {D : va_G} {kA : Nat → ClassId} {S : hE} {g : Nat → Nat} {n0 nx : Nat} {x0 : Nat} {E : hE} {res : Int32 × hE} (hf : f_Frame_comeBack x0 E = some res) : Met l y_Frame_comeBack ws_Frame_comeBack rm_Frame_comeBack (va_Pc [va_rf (some x0)] (hJ D kA S g n0 (E, nx))) (va_Qi (fun r w => r = res.1 ∧ w = (res.2, nx)) (hJ D kA S g n0) (fun q => n0 ≤ q)) 0 0 (fun q => n0 ≤ q) := by
  refine h_met (cc := prog_4_method_6_code) (maxL := 1) (ret := (some .boolean)) (lvs := [(0, va_rf (some x0))]) zZ_k (by decide) rfl (by simp [lg_sl, va_rf_cat, cat_i, cat_l, cat_n]) (by simp [lv_args, va_rf_cat, cat_i, cat_l, cat_n]) ?_
  intro p e s m below meth c ls C M hr hlk hnm hl
  unfold f_Frame_comeBack at hf
  refine w_aload_n C.x C.b dFrame_comeBack_0 rfl (lv_at hl 0 rfl) ?_
  obtain ⟨v1, h1, hf⟩ := Option.bind_eq_some_iff.mp hf
  refine w_getI C M h1 rfl (hm_in in_Frame) (by decide) (List.mem_cons_of_mem _ wm_110) rfl dFrame_comeBack_1 ?_
  refine lv_iconst (v := 1) C.x C.b dFrame_comeBack_4 (by decide) ?_
  refine lv_icmp_lt (tgt := 17) C.x C.b dFrame_comeBack_5 (by decide) (fun c5 => ?_) (fun c5 => ?_)
  · rw [if_pos c5] at hf
    exact b_Frame_comeBack_17 C hr hlk hnm _ _ _ _ M (lv_sub hl [] rfl) hf
  · rw [if_neg c5] at hf
    refine w_aload_n C.x C.b dFrame_comeBack_8 rfl (lv_at hl 0 rfl) ?_
    obtain ⟨v9, h9, hf⟩ := Option.bind_eq_some_iff.mp hf
    refine w_getI C M h9 rfl (hm_in in_Frame) (by decide) (List.mem_cons_of_mem _ wm_110) rfl dFrame_comeBack_9 ?_
    refine lv_bipush (v := 8) C.x C.b dFrame_comeBack_12 (by decide) ?_
    refine lv_icmp_le (tgt := 19) C.x C.b dFrame_comeBack_14 (by decide) (fun c14 => ?_) (fun c14 => ?_)
    · rw [if_pos c14] at hf
      refine w_aload_n C.x C.b dFrame_comeBack_19 rfl (lv_at hl 0 rfl) ?_
      refine lv_dup C.x C.b dFrame_comeBack_20 (va_rf_cat _) ?_
      obtain ⟨v21, h21, hf⟩ := Option.bind_eq_some_iff.mp hf
      refine w_getI C M h21 rfl (hm_in in_Frame) (by decide) (List.mem_cons_of_mem _ wm_110) rfl dFrame_comeBack_21 ?_
      refine lv_iconst (v := 1) C.x C.b dFrame_comeBack_24 (by decide) ?_
      refine lv_isub C.x C.b dFrame_comeBack_25 ?_
      obtain ⟨E26, h26, hf⟩ := Option.bind_eq_some_iff.mp hf
      refine w_putV (ty := .int) C M ty_Frame h26 rfl (hm_in in_Frame) tyok_Frame nm_Frame (by decide) (List.mem_cons_of_mem _ wm_110) rfl rfl (by decide +kernel) rfl rfl dFrame_comeBack_26 (fun H locs M => ?_)
      refine w_aload_n C.x C.b dFrame_comeBack_29 rfl (lv_at hl 0 rfl) ?_
      refine w_aload_n C.x C.b dFrame_comeBack_30 rfl (lv_at hl 0 rfl) ?_
      obtain ⟨v31, h31, hf⟩ := Option.bind_eq_some_iff.mp hf
      refine w_getR C M h31 rfl (hm_in in_Frame) (by decide) (List.mem_cons_of_mem _ wm_109) rfl dFrame_comeBack_31 ?_
      refine w_aload_n C.x C.b dFrame_comeBack_34 rfl (lv_at hl 0 rfl) ?_
      obtain ⟨v35, h35, hf⟩ := Option.bind_eq_some_iff.mp hf
      refine w_getI C M h35 rfl (hm_in in_Frame) (by decide) (List.mem_cons_of_mem _ wm_110) rfl dFrame_comeBack_35 ?_
      obtain ⟨v38, h38, hf⟩ := Option.bind_eq_some_iff.mp hf
      refine w_iald C M h38 rfl dFrame_comeBack_38 ?_
      obtain ⟨E39, h39, hf⟩ := Option.bind_eq_some_iff.mp hf
      refine w_putV (ty := .int) C M ty_Frame h39 rfl (hm_in in_Frame) tyok_Frame nm_Frame (by decide) (List.mem_cons_of_mem _ wm_111) rfl rfl (by decide +kernel) rfl rfl dFrame_comeBack_39 (fun H locs M => ?_)
      refine lv_iconst (v := 1) C.x C.b dFrame_comeBack_42 (by decide) ?_
      cases hf
      exact w_iret C M hr hlk rfl (Nat.le_refl _) (Nat.le_refl _) dFrame_comeBack_43 rfl rfl
    · rw [if_neg c14] at hf
      exact b_Frame_comeBack_17 C hr hlk hnm _ _ _ _ M (lv_sub hl [] rfl) hf
theorem dMach_scriptAt_0 : decode prog_5_method_3_code 0 = .ok (.iload_n 1, 1) := by decide +kernel
theorem dMach_scriptAt_1 : decode prog_5_method_3_code 1 = .ok (.ifCond .lt 17, 3) := by decide +kernel
theorem dMach_scriptAt_4 : decode prog_5_method_3_code 4 = .ok (.iload_n 1, 1) := by decide +kernel
theorem dMach_scriptAt_5 : decode prog_5_method_3_code 5 = .ok (.iconst 4, 1) := by decide +kernel
theorem dMach_scriptAt_6 : decode prog_5_method_3_code 6 = .ok (.if_icmp .ge 12, 3) := by decide +kernel
theorem dMach_scriptAt_9 : decode prog_5_method_3_code 9 = .ok (.aload_n 0, 1) := by decide +kernel
theorem dMach_scriptAt_10 : decode prog_5_method_3_code 10 = .ok (.getfield 11, 3) := by decide +kernel
theorem dMach_scriptAt_13 : decode prog_5_method_3_code 13 = .ok (.iload_n 1, 1) := by decide +kernel
theorem dMach_scriptAt_14 : decode prog_5_method_3_code 14 = .ok (.aaload, 1) := by decide +kernel
theorem dMach_scriptAt_15 : decode prog_5_method_3_code 15 = .ok (.goto 4, 3) := by decide +kernel
theorem dMach_scriptAt_18 : decode prog_5_method_3_code 18 = .ok (.aconst_null, 1) := by decide +kernel
theorem dMach_scriptAt_19 : decode prog_5_method_3_code 19 = .ok (.areturn, 1) := by decide +kernel
abbrev rm_Mach_scriptAt : Room := { frames := 0, cells := 0, slots := 0, locals := 0 }
def f_Mach_scriptAt_b19 (E : hE) (t0 : Option Nat) : Option (Option Nat) := (
  some t0)
set_option maxHeartbeats 4000000 in
set_option maxRecDepth 100000 in
theorem b_Mach_scriptAt_19 {p : Program} {l : Launch} {e : Env} {s : State} {m : MethodId} {args : Array Value} {below : List Frame} {meth : Method} {c : Code} {D : va_G} {kA : Nat → ClassId} {S : hE} {g : Nat → Nat} {n0 nx : Nat} {E : hE} {res : Option Nat} (C : hX p s m args c prog_5_method_3_code 2 R_Mach ws_Mach_scriptAt D kA S g n0) (hr : meth.sig.returnType = (some (.object "StepPrograms$Script"))) (hlk : meth.locks = false) (hnm : meth.name = "scriptAt") : ∀ (t0 : Option Nat) (H : Heap) (locs : List Loc) (ls : Array Slot), hY D kA n0 s E nx H locs → lv_has ls 2 [] → f_Mach_scriptAt_b19 E  t0 = some res → W p l e rm_Mach_scriptAt s m args below meth c H locs 0 0 (MQ below (va_Qq (fun r w => r = res ∧ w = (E, nx)) (hJ D kA S g n0) (fun q => n0 ≤ q)) args s 0 0 (fun q => n0 ≤ q)) (F0 m 19 ls [va_rf t0]) := by
  intro t0 H locs ls M hl hf
  unfold f_Mach_scriptAt_b19 at hf
  cases hf
  exact w_aret C M hr (Or.inl ⟨_, rfl⟩) hlk (Nat.le_refl _) (Nat.le_refl _) dMach_scriptAt_19 rfl rfl
def f_Mach_scriptAt_b18 (E : hE) : Option (Option Nat) := (
  f_Mach_scriptAt_b19 E none)
set_option maxHeartbeats 4000000 in
set_option maxRecDepth 100000 in
theorem b_Mach_scriptAt_18 {p : Program} {l : Launch} {e : Env} {s : State} {m : MethodId} {args : Array Value} {below : List Frame} {meth : Method} {c : Code} {D : va_G} {kA : Nat → ClassId} {S : hE} {g : Nat → Nat} {n0 nx : Nat} {E : hE} {res : Option Nat} (C : hX p s m args c prog_5_method_3_code 2 R_Mach ws_Mach_scriptAt D kA S g n0) (hr : meth.sig.returnType = (some (.object "StepPrograms$Script"))) (hlk : meth.locks = false) (hnm : meth.name = "scriptAt") : ∀  (H : Heap) (locs : List Loc) (ls : Array Slot), hY D kA n0 s E nx H locs → lv_has ls 2 [] → f_Mach_scriptAt_b18 E   = some res → W p l e rm_Mach_scriptAt s m args below meth c H locs 0 0 (MQ below (va_Qq (fun r w => r = res ∧ w = (E, nx)) (hJ D kA S g n0) (fun q => n0 ≤ q)) args s 0 0 (fun q => n0 ≤ q)) (F0 m 18 ls []) := by
  intro  H locs ls M hl hf
  unfold f_Mach_scriptAt_b18 at hf
  refine lv_null C.x C.b dMach_scriptAt_18 ?_
  exact b_Mach_scriptAt_19 C hr hlk hnm _ _ _ _ M (lv_sub hl [] rfl) hf
def f_Mach_scriptAt (E : hE) (x0 : Nat) (x1 : Int32) : Option (Option Nat) := (
  if x1 < 0 then (
  f_Mach_scriptAt_b18 E 
  ) else (
  if 4 ≤ x1 then (
  f_Mach_scriptAt_b18 E 
  ) else (
  (gR E (some x0) 2 0).bind fun v10 =>
  (aQ E v10 5 x1).bind fun v14 =>
  f_Mach_scriptAt_b19 E v14
  )
  ))
set_option maxHeartbeats 4000000 in
set_option maxRecDepth 100000 in
theorem c_Mach_scriptAt {l : Launch} {D : va_G} {kA : Nat → ClassId} {S : hE} {g : Nat → Nat} {n0 nx : Nat} {x0 : Nat} {x1 : Int32} {E : hE} {res : Option Nat} (hf : f_Mach_scriptAt E x0 x1 = some res) : Met l y_Mach_scriptAt ws_Mach_scriptAt rm_Mach_scriptAt (va_Pc [va_rf (some x0), .int x1] (hJ D kA S g n0 (E, nx))) (va_Qq (fun r w => r = res ∧ w = (E, nx)) (hJ D kA S g n0) (fun q => n0 ≤ q)) 0 0 (fun q => n0 ≤ q) := by
  refine h_met (cc := prog_5_method_3_code) (maxL := 2) (ret := (some (.object "StepPrograms$Script"))) (lvs := [(0, va_rf (some x0)), (1, .int x1)]) zZ_k (by decide) rfl (by simp [lg_sl, va_rf_cat, cat_i, cat_l, cat_n]) (by simp [lv_args, va_rf_cat, cat_i, cat_l, cat_n]) ?_
  intro p e s m below meth c ls C M hr hlk hnm hl
  unfold f_Mach_scriptAt at hf
  refine lv_iload_n C.x C.b dMach_scriptAt_0 rfl (lv_at hl 1 rfl) ?_
  refine lv_if_lt (tgt := 18) C.x C.b dMach_scriptAt_1 (by decide) (fun c1 => ?_) (fun c1 => ?_)
  · rw [if_pos c1] at hf
    exact b_Mach_scriptAt_18 C hr hlk hnm _ _ _ M (lv_sub hl [] rfl) hf
  · rw [if_neg c1] at hf
    refine lv_iload_n C.x C.b dMach_scriptAt_4 rfl (lv_at hl 1 rfl) ?_
    refine lv_iconst (v := 4) C.x C.b dMach_scriptAt_5 (by decide) ?_
    refine lv_icmp_ge (tgt := 18) C.x C.b dMach_scriptAt_6 (by decide) (fun c6 => ?_) (fun c6 => ?_)
    · rw [if_pos c6] at hf
      exact b_Mach_scriptAt_18 C hr hlk hnm _ _ _ M (lv_sub hl [] rfl) hf
    · rw [if_neg c6] at hf
      refine w_aload_n C.x C.b dMach_scriptAt_9 rfl (lv_at hl 0 rfl) ?_
      obtain ⟨v10, h10, hf⟩ := Option.bind_eq_some_iff.mp hf
      refine w_getR C M h10 rfl (hm_in in_Mach) (by decide) (List.mem_cons_of_mem _ wm_134) rfl dMach_scriptAt_10 ?_
      refine lv_iload_n C.x C.b dMach_scriptAt_13 rfl (lv_at hl 1 rfl) ?_
      obtain ⟨v14, h14, hf⟩ := Option.bind_eq_some_iff.mp hf
      refine w_aald C M h14 rfl dMach_scriptAt_14 ?_
      refine lv_goto (tgt := 19) C.x C.b dMach_scriptAt_15 (by decide) ?_
      exact b_Mach_scriptAt_19 C hr hlk hnm _ _ _ _ M (lv_sub hl [] rfl) hf
theorem dMach_divided_0 : decode prog_5_method_8_code 0 = .ok (.iload_n 2, 1) := by decide +kernel
theorem dMach_divided_1 : decode prog_5_method_8_code 1 = .ok (.ifCond .ne 5, 3) := by decide +kernel
theorem dMach_divided_4 : decode prog_5_method_8_code 4 = .ok (.iconst 0, 1) := by decide +kernel
theorem dMach_divided_5 : decode prog_5_method_8_code 5 = .ok (.ireturn, 1) := by decide +kernel
theorem dMach_divided_6 : decode prog_5_method_8_code 6 = .ok (.iload_n 1, 1) := by decide +kernel
theorem dMach_divided_7 : decode prog_5_method_8_code 7 = .ok (.bipush 47, 2) := by decide +kernel
theorem dMach_divided_9 : decode prog_5_method_8_code 9 = .ok (.if_icmp .ne 9, 3) := by decide +kernel
theorem dMach_divided_12 : decode prog_5_method_8_code 12 = .ok (.iload_n 0, 1) := by decide +kernel
theorem dMach_divided_13 : decode prog_5_method_8_code 13 = .ok (.iload_n 2, 1) := by decide +kernel
theorem dMach_divided_14 : decode prog_5_method_8_code 14 = .ok (.idiv, 1) := by decide +kernel
theorem dMach_divided_15 : decode prog_5_method_8_code 15 = .ok (.goto 6, 3) := by decide +kernel
theorem dMach_divided_18 : decode prog_5_method_8_code 18 = .ok (.iload_n 0, 1) := by decide +kernel
theorem dMach_divided_19 : decode prog_5_method_8_code 19 = .ok (.iload_n 2, 1) := by decide +kernel
theorem dMach_divided_20 : decode prog_5_method_8_code 20 = .ok (.irem, 1) := by decide +kernel
theorem dMach_divided_21 : decode prog_5_method_8_code 21 = .ok (.ireturn, 1) := by decide +kernel
abbrev rm_Mach_divided : Room := { frames := 0, cells := 0, slots := 0, locals := 0 }
def f_Mach_divided_b21 (E : hE) (t0 : Int32) : Option (Int32) := (
  some t0)
set_option maxHeartbeats 4000000 in
set_option maxRecDepth 100000 in
theorem b_Mach_divided_21 {p : Program} {l : Launch} {e : Env} {s : State} {m : MethodId} {args : Array Value} {below : List Frame} {meth : Method} {c : Code} {D : va_G} {kA : Nat → ClassId} {S : hE} {g : Nat → Nat} {n0 nx : Nat} {E : hE} {res : Int32} (C : hX p s m args c prog_5_method_8_code 3 R_Mach ws_Mach_divided D kA S g n0) (hr : meth.sig.returnType = (some .int)) (hlk : meth.locks = false) (hnm : meth.name = "divided") : ∀ (t0 : Int32) (H : Heap) (locs : List Loc) (ls : Array Slot), hY D kA n0 s E nx H locs → lv_has ls 3 [] → f_Mach_divided_b21 E  t0 = some res → W p l e rm_Mach_divided s m args below meth c H locs 0 0 (MQ below (va_Qi (fun r w => r = res ∧ w = (E, nx)) (hJ D kA S g n0) (fun q => n0 ≤ q)) args s 0 0 (fun q => n0 ≤ q)) (F0 m 21 ls [.int t0]) := by
  intro t0 H locs ls M hl hf
  unfold f_Mach_divided_b21 at hf
  cases hf
  exact w_iret C M hr hlk rfl (Nat.le_refl _) (Nat.le_refl _) dMach_divided_21 rfl rfl
def f_Mach_divided (E : hE) (x0 : Int32) (x1 : Int32) (x2 : Int32) : Option (Int32) := (
  if x2 = 0 then (
  some 0
  ) else (
  if x1 = 47 then (
  if x2 = 0 then none else (
  f_Mach_divided_b21 E (x0 / x2)
  )
  ) else (
  if x2 = 0 then none else (
  f_Mach_divided_b21 E (x0 - x0 / x2 * x2)
  )
  )
  ))
set_option maxHeartbeats 4000000 in
set_option maxRecDepth 100000 in
theorem c_Mach_divided {l : Launch} {D : va_G} {kA : Nat → ClassId} {S : hE} {g : Nat → Nat} {n0 nx : Nat} {x0 : Int32} {x1 : Int32} {x2 : Int32} {E : hE} {res : Int32} (hf : f_Mach_divided E x0 x1 x2 = some res) : Met l y_Mach_divided ws_Mach_divided rm_Mach_divided (va_Pc [.int x0, .int x1, .int x2] (hJ D kA S g n0 (E, nx))) (va_Qi (fun r w => r = res ∧ w = (E, nx)) (hJ D kA S g n0) (fun q => n0 ≤ q)) 0 0 (fun q => n0 ≤ q) := by
  refine h_met (cc := prog_5_method_8_code) (maxL := 3) (ret := (some .int)) (lvs := [(0, .int x0), (1, .int x1), (2, .int x2)]) zZ_k (by decide) rfl (by simp [lg_sl, va_rf_cat, cat_i, cat_l, cat_n]) (by simp [lv_args, va_rf_cat, cat_i, cat_l, cat_n]) ?_
  intro p e s m below meth c ls C M hr hlk hnm hl
  unfold f_Mach_divided at hf
  refine lv_iload_n C.x C.b dMach_divided_0 rfl (lv_at hl 2 rfl) ?_
  refine lv_if_ne (tgt := 6) C.x C.b dMach_divided_1 (by decide) (fun c1 => ?_) (fun c1 => ?_)
  · rw [if_neg c1] at hf
    refine lv_iload_n C.x C.b dMach_divided_6 rfl (lv_at hl 1 rfl) ?_
    refine lv_bipush (v := 47) C.x C.b dMach_divided_7 (by decide) ?_
    refine lv_icmp_ne (tgt := 18) C.x C.b dMach_divided_9 (by decide) (fun c9 => ?_) (fun c9 => ?_)
    · rw [if_neg c9] at hf
      refine lv_iload_n C.x C.b dMach_divided_18 rfl (lv_at hl 0 rfl) ?_
      refine lv_iload_n C.x C.b dMach_divided_19 rfl (lv_at hl 2 rfl) ?_
      have c20 : ¬ x2 = 0 := fun z => by rw [if_pos z] at hf; cases hf
      rw [if_neg c20] at hf
      refine lv_irem C.x C.b dMach_divided_20 c20 ?_
      exact b_Mach_divided_21 C hr hlk hnm _ _ _ _ M (lv_sub hl [] rfl) hf
    · rw [if_pos c9] at hf
      refine lv_iload_n C.x C.b dMach_divided_12 rfl (lv_at hl 0 rfl) ?_
      refine lv_iload_n C.x C.b dMach_divided_13 rfl (lv_at hl 2 rfl) ?_
      have c14 : ¬ x2 = 0 := fun z => by rw [if_pos z] at hf; cases hf
      rw [if_neg c14] at hf
      refine lv_idiv C.x C.b dMach_divided_14 c14 ?_
      refine lv_goto (tgt := 21) C.x C.b dMach_divided_15 (by decide) ?_
      exact b_Mach_divided_21 C hr hlk hnm _ _ _ _ M (lv_sub hl [] rfl) hf
  · rw [if_pos c1] at hf
    refine lv_iconst (v := 0) C.x C.b dMach_divided_4 (by decide) ?_
    cases hf
    exact w_iret C M hr hlk rfl (Nat.le_refl _) (Nat.le_refl _) dMach_divided_5 rfl rfl
theorem dMach_holds_0 : decode prog_5_method_10_code 0 = .ok (.iload_n 1, 1) := by decide +kernel
theorem dMach_holds_1 : decode prog_5_method_10_code 1 = .ok (.lookupswitch 49 #[(60, 27), (61, 38)], 27) := by decide +kernel
theorem dMach_holds_28 : decode prog_5_method_10_code 28 = .ok (.iload_n 0, 1) := by decide +kernel
theorem dMach_holds_29 : decode prog_5_method_10_code 29 = .ok (.iload_n 2, 1) := by decide +kernel
theorem dMach_holds_30 : decode prog_5_method_10_code 30 = .ok (.if_icmp .ge 7, 3) := by decide +kernel
theorem dMach_holds_33 : decode prog_5_method_10_code 33 = .ok (.iconst 1, 1) := by decide +kernel
theorem dMach_holds_34 : decode prog_5_method_10_code 34 = .ok (.goto 4, 3) := by decide +kernel
theorem dMach_holds_37 : decode prog_5_method_10_code 37 = .ok (.iconst 0, 1) := by decide +kernel
theorem dMach_holds_38 : decode prog_5_method_10_code 38 = .ok (.ireturn, 1) := by decide +kernel
theorem dMach_holds_39 : decode prog_5_method_10_code 39 = .ok (.iload_n 0, 1) := by decide +kernel
theorem dMach_holds_40 : decode prog_5_method_10_code 40 = .ok (.iload_n 2, 1) := by decide +kernel
theorem dMach_holds_41 : decode prog_5_method_10_code 41 = .ok (.if_icmp .ne 7, 3) := by decide +kernel
theorem dMach_holds_44 : decode prog_5_method_10_code 44 = .ok (.iconst 1, 1) := by decide +kernel
theorem dMach_holds_45 : decode prog_5_method_10_code 45 = .ok (.goto 4, 3) := by decide +kernel
theorem dMach_holds_48 : decode prog_5_method_10_code 48 = .ok (.iconst 0, 1) := by decide +kernel
theorem dMach_holds_49 : decode prog_5_method_10_code 49 = .ok (.ireturn, 1) := by decide +kernel
theorem dMach_holds_50 : decode prog_5_method_10_code 50 = .ok (.iload_n 0, 1) := by decide +kernel
theorem dMach_holds_51 : decode prog_5_method_10_code 51 = .ok (.iload_n 2, 1) := by decide +kernel
theorem dMach_holds_52 : decode prog_5_method_10_code 52 = .ok (.if_icmp .le 7, 3) := by decide +kernel
theorem dMach_holds_55 : decode prog_5_method_10_code 55 = .ok (.iconst 1, 1) := by decide +kernel
theorem dMach_holds_56 : decode prog_5_method_10_code 56 = .ok (.goto 4, 3) := by decide +kernel
theorem dMach_holds_59 : decode prog_5_method_10_code 59 = .ok (.iconst 0, 1) := by decide +kernel
theorem dMach_holds_60 : decode prog_5_method_10_code 60 = .ok (.ireturn, 1) := by decide +kernel
abbrev rm_Mach_holds : Room := { frames := 0, cells := 0, slots := 0, locals := 0 }
def f_Mach_holds_b60 (E : hE) (t0 : Int32) : Option (Int32) := (
  (bZ t0).bind fun v60 =>
  some v60)
set_option maxHeartbeats 4000000 in
set_option maxRecDepth 100000 in
theorem b_Mach_holds_60 {p : Program} {l : Launch} {e : Env} {s : State} {m : MethodId} {args : Array Value} {below : List Frame} {meth : Method} {c : Code} {D : va_G} {kA : Nat → ClassId} {S : hE} {g : Nat → Nat} {n0 nx : Nat} {E : hE} {res : Int32} (C : hX p s m args c prog_5_method_10_code 3 R_Mach ws_Mach_holds D kA S g n0) (hr : meth.sig.returnType = (some .boolean)) (hlk : meth.locks = false) (hnm : meth.name = "holds") : ∀ (t0 : Int32) (H : Heap) (locs : List Loc) (ls : Array Slot), hY D kA n0 s E nx H locs → lv_has ls 3 [] → f_Mach_holds_b60 E  t0 = some res → W p l e rm_Mach_holds s m args below meth c H locs 0 0 (MQ below (va_Qi (fun r w => r = res ∧ w = (E, nx)) (hJ D kA S g n0) (fun q => n0 ≤ q)) args s 0 0 (fun q => n0 ≤ q)) (F0 m 60 ls [.int t0]) := by
  intro t0 H locs ls M hl hf
  unfold f_Mach_holds_b60 at hf
  obtain ⟨v60, h60, hf⟩ := Option.bind_eq_some_iff.mp hf
  obtain ⟨rfl, g60⟩ := bZ_some h60
  cases hf
  exact w_iret C M hr hlk (narrow_z g60) (Nat.le_refl _) (Nat.le_refl _) dMach_holds_60 rfl rfl
def f_Mach_holds_b49 (E : hE) (t0 : Int32) : Option (Int32) := (
  (bZ t0).bind fun v49 =>
  some v49)
set_option maxHeartbeats 4000000 in
set_option maxRecDepth 100000 in
theorem b_Mach_holds_49 {p : Program} {l : Launch} {e : Env} {s : State} {m : MethodId} {args : Array Value} {below : List Frame} {meth : Method} {c : Code} {D : va_G} {kA : Nat → ClassId} {S : hE} {g : Nat → Nat} {n0 nx : Nat} {E : hE} {res : Int32} (C : hX p s m args c prog_5_method_10_code 3 R_Mach ws_Mach_holds D kA S g n0) (hr : meth.sig.returnType = (some .boolean)) (hlk : meth.locks = false) (hnm : meth.name = "holds") : ∀ (t0 : Int32) (H : Heap) (locs : List Loc) (ls : Array Slot), hY D kA n0 s E nx H locs → lv_has ls 3 [] → f_Mach_holds_b49 E  t0 = some res → W p l e rm_Mach_holds s m args below meth c H locs 0 0 (MQ below (va_Qi (fun r w => r = res ∧ w = (E, nx)) (hJ D kA S g n0) (fun q => n0 ≤ q)) args s 0 0 (fun q => n0 ≤ q)) (F0 m 49 ls [.int t0]) := by
  intro t0 H locs ls M hl hf
  unfold f_Mach_holds_b49 at hf
  obtain ⟨v49, h49, hf⟩ := Option.bind_eq_some_iff.mp hf
  obtain ⟨rfl, g49⟩ := bZ_some h49
  cases hf
  exact w_iret C M hr hlk (narrow_z g49) (Nat.le_refl _) (Nat.le_refl _) dMach_holds_49 rfl rfl
def f_Mach_holds_b38 (E : hE) (t0 : Int32) : Option (Int32) := (
  (bZ t0).bind fun v38 =>
  some v38)
set_option maxHeartbeats 4000000 in
set_option maxRecDepth 100000 in
theorem b_Mach_holds_38 {p : Program} {l : Launch} {e : Env} {s : State} {m : MethodId} {args : Array Value} {below : List Frame} {meth : Method} {c : Code} {D : va_G} {kA : Nat → ClassId} {S : hE} {g : Nat → Nat} {n0 nx : Nat} {E : hE} {res : Int32} (C : hX p s m args c prog_5_method_10_code 3 R_Mach ws_Mach_holds D kA S g n0) (hr : meth.sig.returnType = (some .boolean)) (hlk : meth.locks = false) (hnm : meth.name = "holds") : ∀ (t0 : Int32) (H : Heap) (locs : List Loc) (ls : Array Slot), hY D kA n0 s E nx H locs → lv_has ls 3 [] → f_Mach_holds_b38 E  t0 = some res → W p l e rm_Mach_holds s m args below meth c H locs 0 0 (MQ below (va_Qi (fun r w => r = res ∧ w = (E, nx)) (hJ D kA S g n0) (fun q => n0 ≤ q)) args s 0 0 (fun q => n0 ≤ q)) (F0 m 38 ls [.int t0]) := by
  intro t0 H locs ls M hl hf
  unfold f_Mach_holds_b38 at hf
  obtain ⟨v38, h38, hf⟩ := Option.bind_eq_some_iff.mp hf
  obtain ⟨rfl, g38⟩ := bZ_some h38
  cases hf
  exact w_iret C M hr hlk (narrow_z g38) (Nat.le_refl _) (Nat.le_refl _) dMach_holds_38 rfl rfl
def f_Mach_holds (E : hE) (x0 : Int32) (x1 : Int32) (x2 : Int32) : Option (Int32) := (
  if x1 = 60 then (
  if x2 ≤ x0 then (
  f_Mach_holds_b38 E 0
  ) else (
  f_Mach_holds_b38 E 1
  )
  ) else (
  if x1 = 61 then (
  if x0 = x2 then (
  f_Mach_holds_b49 E 1
  ) else (
  f_Mach_holds_b49 E 0
  )
  ) else (
  if x0 ≤ x2 then (
  f_Mach_holds_b60 E 0
  ) else (
  f_Mach_holds_b60 E 1
  )
  )))
set_option maxHeartbeats 4000000 in
set_option maxRecDepth 100000 in
theorem c_Mach_holds {l : Launch} {D : va_G} {kA : Nat → ClassId} {S : hE} {g : Nat → Nat} {n0 nx : Nat} {x0 : Int32} {x1 : Int32} {x2 : Int32} {E : hE} {res : Int32} (hf : f_Mach_holds E x0 x1 x2 = some res) : Met l y_Mach_holds ws_Mach_holds rm_Mach_holds (va_Pc [.int x0, .int x1, .int x2] (hJ D kA S g n0 (E, nx))) (va_Qi (fun r w => r = res ∧ w = (E, nx)) (hJ D kA S g n0) (fun q => n0 ≤ q)) 0 0 (fun q => n0 ≤ q) := by
  refine h_met (cc := prog_5_method_10_code) (maxL := 3) (ret := (some .boolean)) (lvs := [(0, .int x0), (1, .int x1), (2, .int x2)]) zZ_k (by decide) rfl (by simp [lg_sl, va_rf_cat, cat_i, cat_l, cat_n]) (by simp [lv_args, va_rf_cat, cat_i, cat_l, cat_n]) ?_
  intro p e s m below meth c ls C M hr hlk hnm hl
  unfold f_Mach_holds at hf
  refine lv_iload_n C.x C.b dMach_holds_0 rfl (lv_at hl 1 rfl) ?_
  by_cases c1_0 : x1 = 60
  · rw [if_pos c1_0] at hf
    refine lv_lookup (off := 27) (tgt := 28) C.x C.b dMach_holds_1 (by decide) (by rw [c1_0] <;> rfl) (by decide) ?_
    refine lv_iload_n C.x C.b dMach_holds_28 rfl (lv_at hl 0 rfl) ?_
    refine lv_iload_n C.x C.b dMach_holds_29 rfl (lv_at hl 2 rfl) ?_
    refine lv_icmp_ge (tgt := 37) C.x C.b dMach_holds_30 (by decide) (fun c30 => ?_) (fun c30 => ?_)
    · rw [if_pos c30] at hf
      refine lv_iconst (v := 0) C.x C.b dMach_holds_37 (by decide) ?_
      exact b_Mach_holds_38 C hr hlk hnm _ _ _ _ M (lv_sub hl [] rfl) hf
    · rw [if_neg c30] at hf
      refine lv_iconst (v := 1) C.x C.b dMach_holds_33 (by decide) ?_
      refine lv_goto (tgt := 38) C.x C.b dMach_holds_34 (by decide) ?_
      exact b_Mach_holds_38 C hr hlk hnm _ _ _ _ M (lv_sub hl [] rfl) hf
  · rw [if_neg c1_0] at hf
    by_cases c1_1 : x1 = 61
    · rw [if_pos c1_1] at hf
      refine lv_lookup (off := 38) (tgt := 39) C.x C.b dMach_holds_1 (by decide) (by rw [c1_1] <;> rfl) (by decide) ?_
      refine lv_iload_n C.x C.b dMach_holds_39 rfl (lv_at hl 0 rfl) ?_
      refine lv_iload_n C.x C.b dMach_holds_40 rfl (lv_at hl 2 rfl) ?_
      refine lv_icmp_ne (tgt := 48) C.x C.b dMach_holds_41 (by decide) (fun c41 => ?_) (fun c41 => ?_)
      · rw [if_neg c41] at hf
        refine lv_iconst (v := 0) C.x C.b dMach_holds_48 (by decide) ?_
        exact b_Mach_holds_49 C hr hlk hnm _ _ _ _ M (lv_sub hl [] rfl) hf
      · rw [if_pos c41] at hf
        refine lv_iconst (v := 1) C.x C.b dMach_holds_44 (by decide) ?_
        refine lv_goto (tgt := 49) C.x C.b dMach_holds_45 (by decide) ?_
        exact b_Mach_holds_49 C hr hlk hnm _ _ _ _ M (lv_sub hl [] rfl) hf
    · rw [if_neg c1_1] at hf
      refine lv_lookup (off := 49) (tgt := 50) C.x C.b dMach_holds_1 (by decide) (by rw [lv_osw c1_0 (by decide), lv_osw c1_1 (by decide)] <;> rfl) (by decide) ?_
      refine lv_iload_n C.x C.b dMach_holds_50 rfl (lv_at hl 0 rfl) ?_
      refine lv_iload_n C.x C.b dMach_holds_51 rfl (lv_at hl 2 rfl) ?_
      refine lv_icmp_le (tgt := 59) C.x C.b dMach_holds_52 (by decide) (fun c52 => ?_) (fun c52 => ?_)
      · rw [if_pos c52] at hf
        refine lv_iconst (v := 0) C.x C.b dMach_holds_59 (by decide) ?_
        exact b_Mach_holds_60 C hr hlk hnm _ _ _ _ M (lv_sub hl [] rfl) hf
      · rw [if_neg c52] at hf
        refine lv_iconst (v := 1) C.x C.b dMach_holds_55 (by decide) ?_
        refine lv_goto (tgt := 60) C.x C.b dMach_holds_56 (by decide) ?_
        exact b_Mach_holds_60 C hr hlk hnm _ _ _ _ M (lv_sub hl [] rfl) hf
theorem dMach_combined_0 : decode prog_5_method_9_code 0 = .ok (.iload_n 1, 1) := by decide +kernel
theorem dMach_combined_1 : decode prog_5_method_9_code 1 = .ok (.lookupswitch 83 #[(38, 71), (42, 67), (43, 59), (45, 63), (94, 79), (124, 75)], 59) := by decide +kernel
theorem dMach_combined_60 : decode prog_5_method_9_code 60 = .ok (.iload_n 0, 1) := by decide +kernel
theorem dMach_combined_61 : decode prog_5_method_9_code 61 = .ok (.iload_n 2, 1) := by decide +kernel
theorem dMach_combined_62 : decode prog_5_method_9_code 62 = .ok (.iadd, 1) := by decide +kernel
theorem dMach_combined_63 : decode prog_5_method_9_code 63 = .ok (.ireturn, 1) := by decide +kernel
theorem dMach_combined_64 : decode prog_5_method_9_code 64 = .ok (.iload_n 0, 1) := by decide +kernel
theorem dMach_combined_65 : decode prog_5_method_9_code 65 = .ok (.iload_n 2, 1) := by decide +kernel
theorem dMach_combined_66 : decode prog_5_method_9_code 66 = .ok (.isub, 1) := by decide +kernel
theorem dMach_combined_67 : decode prog_5_method_9_code 67 = .ok (.ireturn, 1) := by decide +kernel
theorem dMach_combined_68 : decode prog_5_method_9_code 68 = .ok (.iload_n 0, 1) := by decide +kernel
theorem dMach_combined_69 : decode prog_5_method_9_code 69 = .ok (.iload_n 2, 1) := by decide +kernel
theorem dMach_combined_70 : decode prog_5_method_9_code 70 = .ok (.imul, 1) := by decide +kernel
theorem dMach_combined_71 : decode prog_5_method_9_code 71 = .ok (.ireturn, 1) := by decide +kernel
theorem dMach_combined_72 : decode prog_5_method_9_code 72 = .ok (.iload_n 0, 1) := by decide +kernel
theorem dMach_combined_73 : decode prog_5_method_9_code 73 = .ok (.iload_n 2, 1) := by decide +kernel
theorem dMach_combined_74 : decode prog_5_method_9_code 74 = .ok (.iand, 1) := by decide +kernel
theorem dMach_combined_75 : decode prog_5_method_9_code 75 = .ok (.ireturn, 1) := by decide +kernel
theorem dMach_combined_76 : decode prog_5_method_9_code 76 = .ok (.iload_n 0, 1) := by decide +kernel
theorem dMach_combined_77 : decode prog_5_method_9_code 77 = .ok (.iload_n 2, 1) := by decide +kernel
theorem dMach_combined_78 : decode prog_5_method_9_code 78 = .ok (.ior, 1) := by decide +kernel
theorem dMach_combined_79 : decode prog_5_method_9_code 79 = .ok (.ireturn, 1) := by decide +kernel
theorem dMach_combined_80 : decode prog_5_method_9_code 80 = .ok (.iload_n 0, 1) := by decide +kernel
theorem dMach_combined_81 : decode prog_5_method_9_code 81 = .ok (.iload_n 2, 1) := by decide +kernel
theorem dMach_combined_82 : decode prog_5_method_9_code 82 = .ok (.ixor, 1) := by decide +kernel
theorem dMach_combined_83 : decode prog_5_method_9_code 83 = .ok (.ireturn, 1) := by decide +kernel
theorem dMach_combined_84 : decode prog_5_method_9_code 84 = .ok (.iload_n 0, 1) := by decide +kernel
theorem dMach_combined_85 : decode prog_5_method_9_code 85 = .ok (.iload_n 1, 1) := by decide +kernel
theorem dMach_combined_86 : decode prog_5_method_9_code 86 = .ok (.iload_n 2, 1) := by decide +kernel
theorem dMach_combined_87 : decode prog_5_method_9_code 87 = .ok (.invokestatic 180, 3) := by decide +kernel
theorem dMach_combined_90 : decode prog_5_method_9_code 90 = .ok (.ifCond .eq 7, 3) := by decide +kernel
theorem dMach_combined_93 : decode prog_5_method_9_code 93 = .ok (.iconst 1, 1) := by decide +kernel
theorem dMach_combined_94 : decode prog_5_method_9_code 94 = .ok (.goto 4, 3) := by decide +kernel
theorem dMach_combined_97 : decode prog_5_method_9_code 97 = .ok (.iconst 0, 1) := by decide +kernel
theorem dMach_combined_98 : decode prog_5_method_9_code 98 = .ok (.ireturn, 1) := by decide +kernel
abbrev rm_Mach_combined : Room := { frames := 1, cells := 0, slots := 0, locals := 22 }
def f_Mach_combined_b98 (E : hE) (t0 : Int32) : Option (Int32) := (
  some t0)
set_option maxHeartbeats 4000000 in
set_option maxRecDepth 100000 in
theorem b_Mach_combined_98 {p : Program} {l : Launch} {e : Env} {s : State} {m : MethodId} {args : Array Value} {below : List Frame} {meth : Method} {c : Code} {D : va_G} {kA : Nat → ClassId} {S : hE} {g : Nat → Nat} {n0 nx : Nat} {E : hE} {res : Int32} (C : hX p s m args c prog_5_method_9_code 3 R_Mach ws_Mach_combined D kA S g n0) (hr : meth.sig.returnType = (some .int)) (hlk : meth.locks = false) (hnm : meth.name = "combined") : ∀ (t0 : Int32) (H : Heap) (locs : List Loc) (ls : Array Slot), hY D kA n0 s E nx H locs → lv_has ls 3 [] → f_Mach_combined_b98 E  t0 = some res → W p l e rm_Mach_combined s m args below meth c H locs 0 0 (MQ below (va_Qi (fun r w => r = res ∧ w = (E, nx)) (hJ D kA S g n0) (fun q => n0 ≤ q)) args s 0 0 (fun q => n0 ≤ q)) (F0 m 98 ls [.int t0]) := by
  intro t0 H locs ls M hl hf
  unfold f_Mach_combined_b98 at hf
  cases hf
  exact w_iret C M hr hlk rfl (Nat.le_refl _) (Nat.le_refl _) dMach_combined_98 rfl rfl
def f_Mach_combined (E : hE) (x0 : Int32) (x1 : Int32) (x2 : Int32) : Option (Int32) := (
  if x1 = 38 then (
  some (x0 &&& x2)
  ) else (
  if x1 = 42 then (
  some (x0 * x2)
  ) else (
  if x1 = 43 then (
  some (x0 + x2)
  ) else (
  if x1 = 45 then (
  some (x0 - x2)
  ) else (
  if x1 = 94 then (
  some (x0 ^^^ x2)
  ) else (
  if x1 = 124 then (
  some (x0 ||| x2)
  ) else (
  (f_Mach_holds E x0 x1 x2).bind fun v87 =>
  if v87 = 0 then (
  f_Mach_combined_b98 E 0
  ) else (
  f_Mach_combined_b98 E 1
  )
  )))))))
set_option maxHeartbeats 4000000 in
set_option maxRecDepth 100000 in
theorem c_Mach_combined {l : Launch} {D : va_G} {kA : Nat → ClassId} {S : hE} {g : Nat → Nat} {n0 nx : Nat} {x0 : Int32} {x1 : Int32} {x2 : Int32} {E : hE} {res : Int32} (hf : f_Mach_combined E x0 x1 x2 = some res) : Met l y_Mach_combined ws_Mach_combined rm_Mach_combined (va_Pc [.int x0, .int x1, .int x2] (hJ D kA S g n0 (E, nx))) (va_Qi (fun r w => r = res ∧ w = (E, nx)) (hJ D kA S g n0) (fun q => n0 ≤ q)) 0 0 (fun q => n0 ≤ q) := by
  refine h_met (cc := prog_5_method_9_code) (maxL := 3) (ret := (some .int)) (lvs := [(0, .int x0), (1, .int x1), (2, .int x2)]) zZ_k (by decide) rfl (by simp [lg_sl, va_rf_cat, cat_i, cat_l, cat_n]) (by simp [lv_args, va_rf_cat, cat_i, cat_l, cat_n]) ?_
  intro p e s m below meth c ls C M hr hlk hnm hl
  unfold f_Mach_combined at hf
  refine lv_iload_n C.x C.b dMach_combined_0 rfl (lv_at hl 1 rfl) ?_
  by_cases c1_0 : x1 = 38
  · rw [if_pos c1_0] at hf
    refine lv_lookup (off := 71) (tgt := 72) C.x C.b dMach_combined_1 (by decide) (by rw [c1_0] <;> rfl) (by decide) ?_
    refine lv_iload_n C.x C.b dMach_combined_72 rfl (lv_at hl 0 rfl) ?_
    refine lv_iload_n C.x C.b dMach_combined_73 rfl (lv_at hl 2 rfl) ?_
    refine lv_iand C.x C.b dMach_combined_74 ?_
    cases hf
    exact w_iret C M hr hlk rfl (Nat.le_refl _) (Nat.le_refl _) dMach_combined_75 rfl rfl
  · rw [if_neg c1_0] at hf
    by_cases c1_1 : x1 = 42
    · rw [if_pos c1_1] at hf
      refine lv_lookup (off := 67) (tgt := 68) C.x C.b dMach_combined_1 (by decide) (by rw [c1_1] <;> rfl) (by decide) ?_
      refine lv_iload_n C.x C.b dMach_combined_68 rfl (lv_at hl 0 rfl) ?_
      refine lv_iload_n C.x C.b dMach_combined_69 rfl (lv_at hl 2 rfl) ?_
      refine lv_imul C.x C.b dMach_combined_70 ?_
      cases hf
      exact w_iret C M hr hlk rfl (Nat.le_refl _) (Nat.le_refl _) dMach_combined_71 rfl rfl
    · rw [if_neg c1_1] at hf
      by_cases c1_2 : x1 = 43
      · rw [if_pos c1_2] at hf
        refine lv_lookup (off := 59) (tgt := 60) C.x C.b dMach_combined_1 (by decide) (by rw [c1_2] <;> rfl) (by decide) ?_
        refine lv_iload_n C.x C.b dMach_combined_60 rfl (lv_at hl 0 rfl) ?_
        refine lv_iload_n C.x C.b dMach_combined_61 rfl (lv_at hl 2 rfl) ?_
        refine lv_iadd C.x C.b dMach_combined_62 ?_
        cases hf
        exact w_iret C M hr hlk rfl (Nat.le_refl _) (Nat.le_refl _) dMach_combined_63 rfl rfl
      · rw [if_neg c1_2] at hf
        by_cases c1_3 : x1 = 45
        · rw [if_pos c1_3] at hf
          refine lv_lookup (off := 63) (tgt := 64) C.x C.b dMach_combined_1 (by decide) (by rw [c1_3] <;> rfl) (by decide) ?_
          refine lv_iload_n C.x C.b dMach_combined_64 rfl (lv_at hl 0 rfl) ?_
          refine lv_iload_n C.x C.b dMach_combined_65 rfl (lv_at hl 2 rfl) ?_
          refine lv_isub C.x C.b dMach_combined_66 ?_
          cases hf
          exact w_iret C M hr hlk rfl (Nat.le_refl _) (Nat.le_refl _) dMach_combined_67 rfl rfl
        · rw [if_neg c1_3] at hf
          by_cases c1_4 : x1 = 94
          · rw [if_pos c1_4] at hf
            refine lv_lookup (off := 79) (tgt := 80) C.x C.b dMach_combined_1 (by decide) (by rw [c1_4] <;> rfl) (by decide) ?_
            refine lv_iload_n C.x C.b dMach_combined_80 rfl (lv_at hl 0 rfl) ?_
            refine lv_iload_n C.x C.b dMach_combined_81 rfl (lv_at hl 2 rfl) ?_
            refine lv_ixor C.x C.b dMach_combined_82 ?_
            cases hf
            exact w_iret C M hr hlk rfl (Nat.le_refl _) (Nat.le_refl _) dMach_combined_83 rfl rfl
          · rw [if_neg c1_4] at hf
            by_cases c1_5 : x1 = 124
            · rw [if_pos c1_5] at hf
              refine lv_lookup (off := 75) (tgt := 76) C.x C.b dMach_combined_1 (by decide) (by rw [c1_5] <;> rfl) (by decide) ?_
              refine lv_iload_n C.x C.b dMach_combined_76 rfl (lv_at hl 0 rfl) ?_
              refine lv_iload_n C.x C.b dMach_combined_77 rfl (lv_at hl 2 rfl) ?_
              refine lv_ior C.x C.b dMach_combined_78 ?_
              cases hf
              exact w_iret C M hr hlk rfl (Nat.le_refl _) (Nat.le_refl _) dMach_combined_79 rfl rfl
            · rw [if_neg c1_5] at hf
              refine lv_lookup (off := 83) (tgt := 84) C.x C.b dMach_combined_1 (by decide) (by rw [lv_osw c1_0 (by decide), lv_osw c1_1 (by decide), lv_osw c1_2 (by decide), lv_osw c1_3 (by decide), lv_osw c1_4 (by decide), lv_osw c1_5 (by decide)] <;> rfl) (by decide) ?_
              refine lv_iload_n C.x C.b dMach_combined_84 rfl (lv_at hl 0 rfl) ?_
              refine lv_iload_n C.x C.b dMach_combined_85 rfl (lv_at hl 1 rfl) ?_
              refine lv_iload_n C.x C.b dMach_combined_86 rfl (lv_at hl 2 rfl) ?_
              obtain ⟨v87, h87, hf⟩ := Option.bind_eq_some_iff.mp hf
              refine w_ci M (w_runS C M (c_Mach_holds h87) (cwS 3 C.ts (hgS wm_627 wm_628 wm_4 wm_629) rfl rfl rfl (by decide +kernel) ⟨Nat.le_of_ble_eq_true rfl, Nat.le_of_ble_eq_true rfl⟩) rfl hl.1 rfl (Nat.zero_le _) dMach_combined_87 ⟨Nat.le_refl _, Nat.le_refl _⟩) (fun H locs M => ?_)
              refine lv_if_eq (tgt := 97) C.x C.b dMach_combined_90 (by decide) (fun c90 => ?_) (fun c90 => ?_)
              · rw [if_pos c90] at hf
                refine lv_iconst (v := 0) C.x C.b dMach_combined_97 (by decide) ?_
                exact b_Mach_combined_98 C hr hlk hnm _ _ _ _ M (lv_sub hl [] rfl) hf
              · rw [if_neg c90] at hf
                refine lv_iconst (v := 1) C.x C.b dMach_combined_93 (by decide) ?_
                refine lv_goto (tgt := 98) C.x C.b dMach_combined_94 (by decide) ?_
                exact b_Mach_combined_98 C hr hlk hnm _ _ _ _ M (lv_sub hl [] rfl) hf
theorem dMach_calculate_0 : decode prog_5_method_7_code 0 = .ok (.aload_n 1, 1) := by decide +kernel
theorem dMach_calculate_1 : decode prog_5_method_7_code 1 = .ok (.getfield 177, 3) := by decide +kernel
theorem dMach_calculate_4 : decode prog_5_method_7_code 4 = .ok (.bipush 47, 2) := by decide +kernel
theorem dMach_calculate_6 : decode prog_5_method_7_code 6 = .ok (.if_icmp .eq 12, 3) := by decide +kernel
theorem dMach_calculate_9 : decode prog_5_method_7_code 9 = .ok (.aload_n 1, 1) := by decide +kernel
theorem dMach_calculate_10 : decode prog_5_method_7_code 10 = .ok (.getfield 177, 3) := by decide +kernel
theorem dMach_calculate_13 : decode prog_5_method_7_code 13 = .ok (.bipush 37, 2) := by decide +kernel
theorem dMach_calculate_15 : decode prog_5_method_7_code 15 = .ok (.if_icmp .ne 7, 3) := by decide +kernel
theorem dMach_calculate_18 : decode prog_5_method_7_code 18 = .ok (.iconst 1, 1) := by decide +kernel
theorem dMach_calculate_19 : decode prog_5_method_7_code 19 = .ok (.goto 4, 3) := by decide +kernel
theorem dMach_calculate_22 : decode prog_5_method_7_code 22 = .ok (.iconst 0, 1) := by decide +kernel
theorem dMach_calculate_23 : decode prog_5_method_7_code 23 = .ok (.istore 4, 2) := by decide +kernel
theorem dMach_calculate_25 : decode prog_5_method_7_code 25 = .ok (.iload 4, 2) := by decide +kernel
theorem dMach_calculate_27 : decode prog_5_method_7_code 27 = .ok (.ifCond .eq 10, 3) := by decide +kernel
theorem dMach_calculate_30 : decode prog_5_method_7_code 30 = .ok (.iload_n 3, 1) := by decide +kernel
theorem dMach_calculate_31 : decode prog_5_method_7_code 31 = .ok (.ifCond .ne 6, 3) := by decide +kernel
theorem dMach_calculate_34 : decode prog_5_method_7_code 34 = .ok (.bipush 103, 2) := by decide +kernel
theorem dMach_calculate_36 : decode prog_5_method_7_code 36 = .ok (.ireturn, 1) := by decide +kernel
theorem dMach_calculate_37 : decode prog_5_method_7_code 37 = .ok (.aload_n 0, 1) := by decide +kernel
theorem dMach_calculate_38 : decode prog_5_method_7_code 38 = .ok (.aload_n 1, 1) := by decide +kernel
theorem dMach_calculate_39 : decode prog_5_method_7_code 39 = .ok (.getfield 133, 3) := by decide +kernel
theorem dMach_calculate_42 : decode prog_5_method_7_code 42 = .ok (.iload 4, 2) := by decide +kernel
theorem dMach_calculate_44 : decode prog_5_method_7_code 44 = .ok (.ifCond .eq 15, 3) := by decide +kernel
theorem dMach_calculate_47 : decode prog_5_method_7_code 47 = .ok (.iload_n 2, 1) := by decide +kernel
theorem dMach_calculate_48 : decode prog_5_method_7_code 48 = .ok (.aload_n 1, 1) := by decide +kernel
theorem dMach_calculate_49 : decode prog_5_method_7_code 49 = .ok (.getfield 177, 3) := by decide +kernel
theorem dMach_calculate_52 : decode prog_5_method_7_code 52 = .ok (.iload_n 3, 1) := by decide +kernel
theorem dMach_calculate_53 : decode prog_5_method_7_code 53 = .ok (.invokestatic 198, 3) := by decide +kernel
theorem dMach_calculate_56 : decode prog_5_method_7_code 56 = .ok (.goto 12, 3) := by decide +kernel
theorem dMach_calculate_59 : decode prog_5_method_7_code 59 = .ok (.iload_n 2, 1) := by decide +kernel
theorem dMach_calculate_60 : decode prog_5_method_7_code 60 = .ok (.aload_n 1, 1) := by decide +kernel
theorem dMach_calculate_61 : decode prog_5_method_7_code 61 = .ok (.getfield 177, 3) := by decide +kernel
theorem dMach_calculate_64 : decode prog_5_method_7_code 64 = .ok (.iload_n 3, 1) := by decide +kernel
theorem dMach_calculate_65 : decode prog_5_method_7_code 65 = .ok (.invokestatic 202, 3) := by decide +kernel
theorem dMach_calculate_68 : decode prog_5_method_7_code 68 = .ok (.invokevirtual 136, 3) := by decide +kernel
theorem dMach_calculate_71 : decode prog_5_method_7_code 71 = .ok (.iconst (-1), 1) := by decide +kernel
theorem dMach_calculate_72 : decode prog_5_method_7_code 72 = .ok (.ireturn, 1) := by decide +kernel
abbrev rm_Mach_calculate : Room := { frames := 2, cells := 0, slots := 0, locals := 44 }
def f_Mach_calculate_b68  (t0 : Option Nat) (t1 : Int32) (t2 : Int32) (E : hE) : Option (Int32 × hE) := (
  (gO E t0 1).bind fun o68 =>
  (f_Frame_set o68.1 t1 t2 E).bind fun v68 =>
  some ((-1), v68))
set_option maxHeartbeats 4000000 in
set_option maxRecDepth 100000 in
theorem b_Mach_calculate_68 {p : Program} {l : Launch} {e : Env} {s : State} {m : MethodId} {args : Array Value} {below : List Frame} {meth : Method} {c : Code} {D : va_G} {kA : Nat → ClassId} {S : hE} {g : Nat → Nat} {n0 nx : Nat} {res : Int32 × hE} (C : hX p s m args c prog_5_method_7_code 5 R_Mach ws_Mach_calculate D kA S g n0) (hr : meth.sig.returnType = (some .int)) (hlk : meth.locks = false) (hnm : meth.name = "calculate") : ∀ (t0 : Option Nat) (t1 : Int32) (t2 : Int32) (E : hE) (H : Heap) (locs : List Loc) (ls : Array Slot), hY D kA n0 s E nx H locs → lv_has ls 5 [] → f_Mach_calculate_b68  t0 t1 t2 E = some res → W p l e rm_Mach_calculate s m args below meth c H locs 0 0 (MQ below (va_Qi (fun r w => r = res.1 ∧ w = (res.2, nx)) (hJ D kA S g n0) (fun q => n0 ≤ q)) args s 0 0 (fun q => n0 ≤ q)) (F0 m 68 ls [.int t2, .int t1, va_rf t0]) := by
  intro t0 t1 t2 E H locs ls M hl hf
  unfold f_Mach_calculate_b68 at hf
  obtain ⟨o68, g68, hf⟩ := Option.bind_eq_some_iff.mp hf
  obtain ⟨v68, h68, hf⟩ := Option.bind_eq_some_iff.mp hf
  refine w_cv M (w_runV C M g68 rfl (c_Frame_set h68) (cwV 2 C.ts (hgV wm_614 wm_615 wm_616 wm_5 wm_617) rfl rfl rfl (by decide +kernel) ⟨Nat.le_of_ble_eq_true rfl, Nat.le_of_ble_eq_true rfl⟩) rfl hl.1 rfl (Nat.zero_le _) dMach_calculate_68 ⟨Nat.le_refl _, Nat.le_refl _⟩) (fun H locs M => ?_)
  refine lv_iconst (v := (-1)) C.x C.b dMach_calculate_71 (by decide) ?_
  cases hf
  exact w_iret C M hr hlk rfl (Nat.le_refl _) (Nat.le_refl _) dMach_calculate_72 rfl rfl
def f_Mach_calculate_b37  (y0 : Option Nat) (y1 : Option Nat) (y2 : Int32) (y3 : Int32) (y4 : Int32) (E : hE) : Option (Int32 × hE) := (
  (gI E y1 4 2).bind fun v39 =>
  if y4 = 0 then (
  (gI E y1 4 4).bind fun v61 =>
  (f_Mach_combined E y2 v61 y3).bind fun v65 =>
  f_Mach_calculate_b68 y0 v39 v65 E
  ) else (
  (gI E y1 4 4).bind fun v49 =>
  (f_Mach_divided E y2 v49 y3).bind fun v53 =>
  f_Mach_calculate_b68 y0 v39 v53 E
  ))
set_option maxHeartbeats 4000000 in
set_option maxRecDepth 100000 in
theorem b_Mach_calculate_37 {p : Program} {l : Launch} {e : Env} {s : State} {m : MethodId} {args : Array Value} {below : List Frame} {meth : Method} {c : Code} {D : va_G} {kA : Nat → ClassId} {S : hE} {g : Nat → Nat} {n0 nx : Nat} {res : Int32 × hE} (C : hX p s m args c prog_5_method_7_code 5 R_Mach ws_Mach_calculate D kA S g n0) (hr : meth.sig.returnType = (some .int)) (hlk : meth.locks = false) (hnm : meth.name = "calculate") : ∀ (y0 : Option Nat) (y1 : Option Nat) (y2 : Int32) (y3 : Int32) (y4 : Int32) (E : hE) (H : Heap) (locs : List Loc) (ls : Array Slot), hY D kA n0 s E nx H locs → lv_has ls 5 [(0, va_rf y0), (1, va_rf y1), (2, .int y2), (3, .int y3), (4, .int y4)] → f_Mach_calculate_b37  y0 y1 y2 y3 y4 E = some res → W p l e rm_Mach_calculate s m args below meth c H locs 0 0 (MQ below (va_Qi (fun r w => r = res.1 ∧ w = (res.2, nx)) (hJ D kA S g n0) (fun q => n0 ≤ q)) args s 0 0 (fun q => n0 ≤ q)) (F0 m 37 ls []) := by
  intro y0 y1 y2 y3 y4 E H locs ls M hl hf
  unfold f_Mach_calculate_b37 at hf
  refine w_aload_n C.x C.b dMach_calculate_37 rfl (lv_at hl 0 rfl) ?_
  refine w_aload_n C.x C.b dMach_calculate_38 rfl (lv_at hl 1 rfl) ?_
  obtain ⟨v39, h39, hf⟩ := Option.bind_eq_some_iff.mp hf
  refine w_getI C M h39 rfl (hm_in in_Stat) (by decide) (List.mem_cons_of_mem _ wm_450) rfl dMach_calculate_39 ?_
  refine lv_iload C.x C.b dMach_calculate_42 (lv_at hl 4 rfl) ?_
  refine lv_if_eq (tgt := 59) C.x C.b dMach_calculate_44 (by decide) (fun c44 => ?_) (fun c44 => ?_)
  · rw [if_pos c44] at hf
    refine lv_iload_n C.x C.b dMach_calculate_59 rfl (lv_at hl 2 rfl) ?_
    refine w_aload_n C.x C.b dMach_calculate_60 rfl (lv_at hl 1 rfl) ?_
    obtain ⟨v61, h61, hf⟩ := Option.bind_eq_some_iff.mp hf
    refine w_getI C M h61 rfl (hm_in in_Stat) (by decide) (List.mem_cons_of_mem _ wm_454) rfl dMach_calculate_61 ?_
    refine lv_iload_n C.x C.b dMach_calculate_64 rfl (lv_at hl 3 rfl) ?_
    obtain ⟨v65, h65, hf⟩ := Option.bind_eq_some_iff.mp hf
    refine w_ci M (w_runS C M (c_Mach_combined h65) (cwS 3 C.ts (hgS wm_624 wm_625 wm_4 wm_626) rfl rfl rfl (by decide +kernel) ⟨Nat.le_of_ble_eq_true rfl, Nat.le_of_ble_eq_true rfl⟩) rfl hl.1 rfl (by simp [va_rf_cat, cat_i, cat_l, cat_n]) dMach_calculate_65 ⟨Nat.le_refl _, Nat.le_refl _⟩) (fun H locs M => ?_)
    exact b_Mach_calculate_68 C hr hlk hnm _ _ _ _ _ _ _ M (lv_sub hl [] rfl) hf
  · rw [if_neg c44] at hf
    refine lv_iload_n C.x C.b dMach_calculate_47 rfl (lv_at hl 2 rfl) ?_
    refine w_aload_n C.x C.b dMach_calculate_48 rfl (lv_at hl 1 rfl) ?_
    obtain ⟨v49, h49, hf⟩ := Option.bind_eq_some_iff.mp hf
    refine w_getI C M h49 rfl (hm_in in_Stat) (by decide) (List.mem_cons_of_mem _ wm_454) rfl dMach_calculate_49 ?_
    refine lv_iload_n C.x C.b dMach_calculate_52 rfl (lv_at hl 3 rfl) ?_
    obtain ⟨v53, h53, hf⟩ := Option.bind_eq_some_iff.mp hf
    refine w_ci M (w_runS C M (c_Mach_divided h53) (cwS 3 C.ts (hgS wm_621 wm_622 wm_4 wm_623) rfl rfl rfl (by decide +kernel) ⟨Nat.le_of_ble_eq_true rfl, Nat.le_of_ble_eq_true rfl⟩) rfl hl.1 rfl (by simp [va_rf_cat, cat_i, cat_l, cat_n]) dMach_calculate_53 ⟨Nat.le_refl _, Nat.le_refl _⟩) (fun H locs M => ?_)
    refine lv_goto (tgt := 68) C.x C.b dMach_calculate_56 (by decide) ?_
    exact b_Mach_calculate_68 C hr hlk hnm _ _ _ _ _ _ _ M (lv_sub hl [] rfl) hf
def f_Mach_calculate_b23  (y0 : Option Nat) (y1 : Option Nat) (y2 : Int32) (y3 : Int32) (t0 : Int32) (E : hE) : Option (Int32 × hE) := (
  if t0 = 0 then (
  f_Mach_calculate_b37 y0 y1 y2 y3 t0 E
  ) else (
  if y3 = 0 then (
  some (103, E)
  ) else (
  f_Mach_calculate_b37 y0 y1 y2 y3 t0 E
  )
  ))
set_option maxHeartbeats 4000000 in
set_option maxRecDepth 100000 in
theorem b_Mach_calculate_23 {p : Program} {l : Launch} {e : Env} {s : State} {m : MethodId} {args : Array Value} {below : List Frame} {meth : Method} {c : Code} {D : va_G} {kA : Nat → ClassId} {S : hE} {g : Nat → Nat} {n0 nx : Nat} {res : Int32 × hE} (C : hX p s m args c prog_5_method_7_code 5 R_Mach ws_Mach_calculate D kA S g n0) (hr : meth.sig.returnType = (some .int)) (hlk : meth.locks = false) (hnm : meth.name = "calculate") : ∀ (y0 : Option Nat) (y1 : Option Nat) (y2 : Int32) (y3 : Int32) (t0 : Int32) (E : hE) (H : Heap) (locs : List Loc) (ls : Array Slot), hY D kA n0 s E nx H locs → lv_has ls 5 [(0, va_rf y0), (1, va_rf y1), (2, .int y2), (3, .int y3)] → f_Mach_calculate_b23  y0 y1 y2 y3 t0 E = some res → W p l e rm_Mach_calculate s m args below meth c H locs 0 0 (MQ below (va_Qi (fun r w => r = res.1 ∧ w = (res.2, nx)) (hJ D kA S g n0) (fun q => n0 ≤ q)) args s 0 0 (fun q => n0 ≤ q)) (F0 m 23 ls [.int t0]) := by
  intro y0 y1 y2 y3 t0 E H locs ls M hl hf
  unfold f_Mach_calculate_b23 at hf
  refine lv_istore (lv' := [(4, .int t0), (0, va_rf y0), (1, va_rf y1), (2, .int y2), (3, .int y3)]) C.x C.b dMach_calculate_23 hl (by decide) rfl (fun ls hl => ?_)
  refine lv_iload C.x C.b dMach_calculate_25 (lv_at hl 0 rfl) ?_
  refine lv_if_eq (tgt := 37) C.x C.b dMach_calculate_27 (by decide) (fun c27 => ?_) (fun c27 => ?_)
  · rw [if_pos c27] at hf
    exact b_Mach_calculate_37 C hr hlk hnm _ _ _ _ _ _ _ _ _ M (lv_sub hl [1, 2, 3, 4, 0] rfl) hf
  · rw [if_neg c27] at hf
    refine lv_iload_n C.x C.b dMach_calculate_30 rfl (lv_at hl 4 rfl) ?_
    refine lv_if_ne (tgt := 37) C.x C.b dMach_calculate_31 (by decide) (fun c31 => ?_) (fun c31 => ?_)
    · rw [if_neg c31] at hf
      exact b_Mach_calculate_37 C hr hlk hnm _ _ _ _ _ _ _ _ _ M (lv_sub hl [1, 2, 3, 4, 0] rfl) hf
    · rw [if_pos c31] at hf
      refine lv_bipush (v := 103) C.x C.b dMach_calculate_34 (by decide) ?_
      cases hf
      exact w_iret C M hr hlk rfl (Nat.le_refl _) (Nat.le_refl _) dMach_calculate_36 rfl rfl
def f_Mach_calculate_b18  (y0 : Option Nat) (y1 : Option Nat) (y2 : Int32) (y3 : Int32) (E : hE) : Option (Int32 × hE) := (
  f_Mach_calculate_b23 y0 y1 y2 y3 1 E)
set_option maxHeartbeats 4000000 in
set_option maxRecDepth 100000 in
theorem b_Mach_calculate_18 {p : Program} {l : Launch} {e : Env} {s : State} {m : MethodId} {args : Array Value} {below : List Frame} {meth : Method} {c : Code} {D : va_G} {kA : Nat → ClassId} {S : hE} {g : Nat → Nat} {n0 nx : Nat} {res : Int32 × hE} (C : hX p s m args c prog_5_method_7_code 5 R_Mach ws_Mach_calculate D kA S g n0) (hr : meth.sig.returnType = (some .int)) (hlk : meth.locks = false) (hnm : meth.name = "calculate") : ∀ (y0 : Option Nat) (y1 : Option Nat) (y2 : Int32) (y3 : Int32) (E : hE) (H : Heap) (locs : List Loc) (ls : Array Slot), hY D kA n0 s E nx H locs → lv_has ls 5 [(0, va_rf y0), (1, va_rf y1), (2, .int y2), (3, .int y3)] → f_Mach_calculate_b18  y0 y1 y2 y3 E = some res → W p l e rm_Mach_calculate s m args below meth c H locs 0 0 (MQ below (va_Qi (fun r w => r = res.1 ∧ w = (res.2, nx)) (hJ D kA S g n0) (fun q => n0 ≤ q)) args s 0 0 (fun q => n0 ≤ q)) (F0 m 18 ls []) := by
  intro y0 y1 y2 y3 E H locs ls M hl hf
  unfold f_Mach_calculate_b18 at hf
  refine lv_iconst (v := 1) C.x C.b dMach_calculate_18 (by decide) ?_
  refine lv_goto (tgt := 23) C.x C.b dMach_calculate_19 (by decide) ?_
  exact b_Mach_calculate_23 C hr hlk hnm _ _ _ _ _ _ _ _ _ M (lv_sub hl [0, 1, 2, 3] rfl) hf
def f_Mach_calculate  (x0 : Option Nat) (x1 : Option Nat) (x2 : Int32) (x3 : Int32) (E : hE) : Option (Int32 × hE) := (
  (gI E x1 4 4).bind fun v1 =>
  if v1 = 47 then (
  f_Mach_calculate_b18 x0 x1 x2 x3 E
  ) else (
  (gI E x1 4 4).bind fun v10 =>
  if v10 = 37 then (
  f_Mach_calculate_b18 x0 x1 x2 x3 E
  ) else (
  f_Mach_calculate_b23 x0 x1 x2 x3 0 E
  )
  ))
set_option maxHeartbeats 4000000 in
set_option maxRecDepth 100000 in
theorem c_Mach_calculate {l : Launch} {D : va_G} {kA : Nat → ClassId} {S : hE} {g : Nat → Nat} {n0 nx : Nat} {x0 : Option Nat} {x1 : Option Nat} {x2 : Int32} {x3 : Int32} {E : hE} {res : Int32 × hE} (hf : f_Mach_calculate x0 x1 x2 x3 E = some res) : Met l y_Mach_calculate ws_Mach_calculate rm_Mach_calculate (va_Pc [va_rf x0, va_rf x1, .int x2, .int x3] (hJ D kA S g n0 (E, nx))) (va_Qi (fun r w => r = res.1 ∧ w = (res.2, nx)) (hJ D kA S g n0) (fun q => n0 ≤ q)) 0 0 (fun q => n0 ≤ q) := by
  refine h_met (cc := prog_5_method_7_code) (maxL := 5) (ret := (some .int)) (lvs := [(0, va_rf x0), (1, va_rf x1), (2, .int x2), (3, .int x3)]) zZ_k (by decide) rfl (by simp [lg_sl, va_rf_cat, cat_i, cat_l, cat_n]) (by simp [lv_args, va_rf_cat, cat_i, cat_l, cat_n]) ?_
  intro p e s m below meth c ls C M hr hlk hnm hl
  unfold f_Mach_calculate at hf
  refine w_aload_n C.x C.b dMach_calculate_0 rfl (lv_at hl 1 rfl) ?_
  obtain ⟨v1, h1, hf⟩ := Option.bind_eq_some_iff.mp hf
  refine w_getI C M h1 rfl (hm_in in_Stat) (by decide) (List.mem_cons_of_mem _ wm_454) rfl dMach_calculate_1 ?_
  refine lv_bipush (v := 47) C.x C.b dMach_calculate_4 (by decide) ?_
  refine lv_icmp_eq (tgt := 18) C.x C.b dMach_calculate_6 (by decide) (fun c6 => ?_) (fun c6 => ?_)
  · rw [if_pos c6] at hf
    exact b_Mach_calculate_18 C hr hlk hnm _ _ _ _ _ _ _ _ M (lv_sub hl [0, 1, 2, 3] rfl) hf
  · rw [if_neg c6] at hf
    refine w_aload_n C.x C.b dMach_calculate_9 rfl (lv_at hl 1 rfl) ?_
    obtain ⟨v10, h10, hf⟩ := Option.bind_eq_some_iff.mp hf
    refine w_getI C M h10 rfl (hm_in in_Stat) (by decide) (List.mem_cons_of_mem _ wm_454) rfl dMach_calculate_10 ?_
    refine lv_bipush (v := 37) C.x C.b dMach_calculate_13 (by decide) ?_
    refine lv_icmp_ne (tgt := 22) C.x C.b dMach_calculate_15 (by decide) (fun c15 => ?_) (fun c15 => ?_)
    · rw [if_neg c15] at hf
      refine lv_iconst (v := 0) C.x C.b dMach_calculate_22 (by decide) ?_
      exact b_Mach_calculate_23 C hr hlk hnm _ _ _ _ _ _ _ _ _ M (lv_sub hl [0, 1, 2, 3] rfl) hf
    · rw [if_pos c15] at hf
      exact b_Mach_calculate_18 C hr hlk hnm _ _ _ _ _ _ _ _ M (lv_sub hl [0, 1, 2, 3] rfl) hf
theorem dMach_getCell_0 : decode prog_5_method_11_code 0 = .ok (.iload_n 2, 1) := by decide +kernel
theorem dMach_getCell_1 : decode prog_5_method_11_code 1 = .ok (.ifCond .lt 9, 3) := by decide +kernel
theorem dMach_getCell_4 : decode prog_5_method_11_code 4 = .ok (.iload_n 2, 1) := by decide +kernel
theorem dMach_getCell_5 : decode prog_5_method_11_code 5 = .ok (.bipush 32, 2) := by decide +kernel
theorem dMach_getCell_7 : decode prog_5_method_11_code 7 = .ok (.if_icmp .lt 6, 3) := by decide +kernel
theorem dMach_getCell_10 : decode prog_5_method_11_code 10 = .ok (.bipush 102, 2) := by decide +kernel
theorem dMach_getCell_12 : decode prog_5_method_11_code 12 = .ok (.ireturn, 1) := by decide +kernel
theorem dMach_getCell_13 : decode prog_5_method_11_code 13 = .ok (.aload_n 0, 1) := by decide +kernel
theorem dMach_getCell_14 : decode prog_5_method_11_code 14 = .ok (.iload_n 1, 1) := by decide +kernel
theorem dMach_getCell_15 : decode prog_5_method_11_code 15 = .ok (.aload_n 0, 1) := by decide +kernel
theorem dMach_getCell_16 : decode prog_5_method_11_code 16 = .ok (.getfield 205, 3) := by decide +kernel
theorem dMach_getCell_19 : decode prog_5_method_11_code 19 = .ok (.iload_n 2, 1) := by decide +kernel
theorem dMach_getCell_20 : decode prog_5_method_11_code 20 = .ok (.iaload, 1) := by decide +kernel
theorem dMach_getCell_21 : decode prog_5_method_11_code 21 = .ok (.invokevirtual 136, 3) := by decide +kernel
theorem dMach_getCell_24 : decode prog_5_method_11_code 24 = .ok (.iconst (-1), 1) := by decide +kernel
theorem dMach_getCell_25 : decode prog_5_method_11_code 25 = .ok (.ireturn, 1) := by decide +kernel
abbrev rm_Mach_getCell : Room := { frames := 1, cells := 0, slots := 0, locals := 22 }
def f_Mach_getCell_b10  (E : hE) : Option (Int32 × hE) := (
  some (102, E))
set_option maxHeartbeats 4000000 in
set_option maxRecDepth 100000 in
theorem b_Mach_getCell_10 {p : Program} {l : Launch} {e : Env} {s : State} {m : MethodId} {args : Array Value} {below : List Frame} {meth : Method} {c : Code} {D : va_G} {kA : Nat → ClassId} {S : hE} {g : Nat → Nat} {n0 nx : Nat} {res : Int32 × hE} (C : hX p s m args c prog_5_method_11_code 3 R_Mach ws_Mach_getCell D kA S g n0) (hr : meth.sig.returnType = (some .int)) (hlk : meth.locks = false) (hnm : meth.name = "getCell") : ∀  (E : hE) (H : Heap) (locs : List Loc) (ls : Array Slot), hY D kA n0 s E nx H locs → lv_has ls 3 [] → f_Mach_getCell_b10  E = some res → W p l e rm_Mach_getCell s m args below meth c H locs 0 0 (MQ below (va_Qi (fun r w => r = res.1 ∧ w = (res.2, nx)) (hJ D kA S g n0) (fun q => n0 ≤ q)) args s 0 0 (fun q => n0 ≤ q)) (F0 m 10 ls []) := by
  intro E H locs ls M hl hf
  unfold f_Mach_getCell_b10 at hf
  refine lv_bipush (v := 102) C.x C.b dMach_getCell_10 (by decide) ?_
  cases hf
  exact w_iret C M hr hlk rfl (Nat.le_refl _) (Nat.le_refl _) dMach_getCell_12 rfl rfl
def f_Mach_getCell  (x0 : Option Nat) (x1 : Int32) (x2 : Int32) (E : hE) : Option (Int32 × hE) := (
  if x2 < 0 then (
  f_Mach_getCell_b10 E
  ) else (
  if x2 < 32 then (
  (gR E x0 1 2).bind fun v16 =>
  (aI E v16 0 x2).bind fun v20 =>
  (gO E x0 1).bind fun o21 =>
  (f_Frame_set o21.1 x1 v20 E).bind fun v21 =>
  some ((-1), v21)
  ) else (
  f_Mach_getCell_b10 E
  )
  ))
set_option maxHeartbeats 4000000 in
set_option maxRecDepth 100000 in
theorem c_Mach_getCell {l : Launch} {D : va_G} {kA : Nat → ClassId} {S : hE} {g : Nat → Nat} {n0 nx : Nat} {x0 : Option Nat} {x1 : Int32} {x2 : Int32} {E : hE} {res : Int32 × hE} (hf : f_Mach_getCell x0 x1 x2 E = some res) : Met l y_Mach_getCell ws_Mach_getCell rm_Mach_getCell (va_Pc [va_rf x0, .int x1, .int x2] (hJ D kA S g n0 (E, nx))) (va_Qi (fun r w => r = res.1 ∧ w = (res.2, nx)) (hJ D kA S g n0) (fun q => n0 ≤ q)) 0 0 (fun q => n0 ≤ q) := by
  refine h_met (cc := prog_5_method_11_code) (maxL := 3) (ret := (some .int)) (lvs := [(0, va_rf x0), (1, .int x1), (2, .int x2)]) zZ_k (by decide) rfl (by simp [lg_sl, va_rf_cat, cat_i, cat_l, cat_n]) (by simp [lv_args, va_rf_cat, cat_i, cat_l, cat_n]) ?_
  intro p e s m below meth c ls C M hr hlk hnm hl
  unfold f_Mach_getCell at hf
  refine lv_iload_n C.x C.b dMach_getCell_0 rfl (lv_at hl 2 rfl) ?_
  refine lv_if_lt (tgt := 10) C.x C.b dMach_getCell_1 (by decide) (fun c1 => ?_) (fun c1 => ?_)
  · rw [if_pos c1] at hf
    exact b_Mach_getCell_10 C hr hlk hnm _ _ _ _ M (lv_sub hl [] rfl) hf
  · rw [if_neg c1] at hf
    refine lv_iload_n C.x C.b dMach_getCell_4 rfl (lv_at hl 2 rfl) ?_
    refine lv_bipush (v := 32) C.x C.b dMach_getCell_5 (by decide) ?_
    refine lv_icmp_lt (tgt := 13) C.x C.b dMach_getCell_7 (by decide) (fun c7 => ?_) (fun c7 => ?_)
    · rw [if_pos c7] at hf
      refine w_aload_n C.x C.b dMach_getCell_13 rfl (lv_at hl 0 rfl) ?_
      refine lv_iload_n C.x C.b dMach_getCell_14 rfl (lv_at hl 1 rfl) ?_
      refine w_aload_n C.x C.b dMach_getCell_15 rfl (lv_at hl 0 rfl) ?_
      obtain ⟨v16, h16, hf⟩ := Option.bind_eq_some_iff.mp hf
      refine w_getR C M h16 rfl (hm_in in_Frame) (by decide) (List.mem_cons_of_mem _ wm_108) rfl dMach_getCell_16 ?_
      refine lv_iload_n C.x C.b dMach_getCell_19 rfl (lv_at hl 2 rfl) ?_
      obtain ⟨v20, h20, hf⟩ := Option.bind_eq_some_iff.mp hf
      refine w_iald C M h20 rfl dMach_getCell_20 ?_
      obtain ⟨o21, g21, hf⟩ := Option.bind_eq_some_iff.mp hf
      obtain ⟨v21, h21, hf⟩ := Option.bind_eq_some_iff.mp hf
      refine w_cv M (w_runV C M g21 rfl (c_Frame_set h21) (cwV 2 C.ts (hgV wm_614 wm_615 wm_616 wm_5 wm_617) rfl rfl rfl (by decide +kernel) ⟨Nat.le_of_ble_eq_true rfl, Nat.le_of_ble_eq_true rfl⟩) rfl hl.1 rfl (Nat.zero_le _) dMach_getCell_21 ⟨Nat.le_refl _, Nat.le_refl _⟩) (fun H locs M => ?_)
      refine lv_iconst (v := (-1)) C.x C.b dMach_getCell_24 (by decide) ?_
      cases hf
      exact w_iret C M hr hlk rfl (Nat.le_refl _) (Nat.le_refl _) dMach_getCell_25 rfl rfl
    · rw [if_neg c7] at hf
      exact b_Mach_getCell_10 C hr hlk hnm _ _ _ _ M (lv_sub hl [] rfl) hf
theorem dMach_putCell_0 : decode prog_5_method_12_code 0 = .ok (.iload_n 1, 1) := by decide +kernel
theorem dMach_putCell_1 : decode prog_5_method_12_code 1 = .ok (.ifCond .lt 9, 3) := by decide +kernel
theorem dMach_putCell_4 : decode prog_5_method_12_code 4 = .ok (.iload_n 1, 1) := by decide +kernel
theorem dMach_putCell_5 : decode prog_5_method_12_code 5 = .ok (.bipush 32, 2) := by decide +kernel
theorem dMach_putCell_7 : decode prog_5_method_12_code 7 = .ok (.if_icmp .lt 6, 3) := by decide +kernel
theorem dMach_putCell_10 : decode prog_5_method_12_code 10 = .ok (.bipush 102, 2) := by decide +kernel
theorem dMach_putCell_12 : decode prog_5_method_12_code 12 = .ok (.ireturn, 1) := by decide +kernel
theorem dMach_putCell_13 : decode prog_5_method_12_code 13 = .ok (.aload_n 0, 1) := by decide +kernel
theorem dMach_putCell_14 : decode prog_5_method_12_code 14 = .ok (.getfield 205, 3) := by decide +kernel
theorem dMach_putCell_17 : decode prog_5_method_12_code 17 = .ok (.iload_n 1, 1) := by decide +kernel
theorem dMach_putCell_18 : decode prog_5_method_12_code 18 = .ok (.iload_n 2, 1) := by decide +kernel
theorem dMach_putCell_19 : decode prog_5_method_12_code 19 = .ok (.iastore, 1) := by decide +kernel
theorem dMach_putCell_20 : decode prog_5_method_12_code 20 = .ok (.iconst (-1), 1) := by decide +kernel
theorem dMach_putCell_21 : decode prog_5_method_12_code 21 = .ok (.ireturn, 1) := by decide +kernel
abbrev rm_Mach_putCell : Room := { frames := 0, cells := 0, slots := 0, locals := 0 }
def f_Mach_putCell_b10  (E : hE) : Option (Int32 × hE) := (
  some (102, E))
set_option maxHeartbeats 4000000 in
set_option maxRecDepth 100000 in
theorem b_Mach_putCell_10 {p : Program} {l : Launch} {e : Env} {s : State} {m : MethodId} {args : Array Value} {below : List Frame} {meth : Method} {c : Code} {D : va_G} {kA : Nat → ClassId} {S : hE} {g : Nat → Nat} {n0 nx : Nat} {res : Int32 × hE} (C : hX p s m args c prog_5_method_12_code 3 R_Mach ws_Mach_putCell D kA S g n0) (hr : meth.sig.returnType = (some .int)) (hlk : meth.locks = false) (hnm : meth.name = "putCell") : ∀  (E : hE) (H : Heap) (locs : List Loc) (ls : Array Slot), hY D kA n0 s E nx H locs → lv_has ls 3 [] → f_Mach_putCell_b10  E = some res → W p l e rm_Mach_putCell s m args below meth c H locs 0 0 (MQ below (va_Qi (fun r w => r = res.1 ∧ w = (res.2, nx)) (hJ D kA S g n0) (fun q => n0 ≤ q)) args s 0 0 (fun q => n0 ≤ q)) (F0 m 10 ls []) := by
  intro E H locs ls M hl hf
  unfold f_Mach_putCell_b10 at hf
  refine lv_bipush (v := 102) C.x C.b dMach_putCell_10 (by decide) ?_
  cases hf
  exact w_iret C M hr hlk rfl (Nat.le_refl _) (Nat.le_refl _) dMach_putCell_12 rfl rfl
def f_Mach_putCell  (x0 : Option Nat) (x1 : Int32) (x2 : Int32) (E : hE) : Option (Int32 × hE) := (
  if x1 < 0 then (
  f_Mach_putCell_b10 E
  ) else (
  if x1 < 32 then (
  (gR E x0 1 2).bind fun v14 =>
  (tI E v14 0 x1 x2).bind fun E19 =>
  some ((-1), E19)
  ) else (
  f_Mach_putCell_b10 E
  )
  ))
set_option maxHeartbeats 4000000 in
set_option maxRecDepth 100000 in
theorem c_Mach_putCell {l : Launch} {D : va_G} {kA : Nat → ClassId} {S : hE} {g : Nat → Nat} {n0 nx : Nat} {x0 : Option Nat} {x1 : Int32} {x2 : Int32} {E : hE} {res : Int32 × hE} (hf : f_Mach_putCell x0 x1 x2 E = some res) : Met l y_Mach_putCell ws_Mach_putCell rm_Mach_putCell (va_Pc [va_rf x0, .int x1, .int x2] (hJ D kA S g n0 (E, nx))) (va_Qi (fun r w => r = res.1 ∧ w = (res.2, nx)) (hJ D kA S g n0) (fun q => n0 ≤ q)) 0 0 (fun q => n0 ≤ q) := by
  refine h_met (cc := prog_5_method_12_code) (maxL := 3) (ret := (some .int)) (lvs := [(0, va_rf x0), (1, .int x1), (2, .int x2)]) zZ_k (by decide) rfl (by simp [lg_sl, va_rf_cat, cat_i, cat_l, cat_n]) (by simp [lv_args, va_rf_cat, cat_i, cat_l, cat_n]) ?_
  intro p e s m below meth c ls C M hr hlk hnm hl
  unfold f_Mach_putCell at hf
  refine lv_iload_n C.x C.b dMach_putCell_0 rfl (lv_at hl 1 rfl) ?_
  refine lv_if_lt (tgt := 10) C.x C.b dMach_putCell_1 (by decide) (fun c1 => ?_) (fun c1 => ?_)
  · rw [if_pos c1] at hf
    exact b_Mach_putCell_10 C hr hlk hnm _ _ _ _ M (lv_sub hl [] rfl) hf
  · rw [if_neg c1] at hf
    refine lv_iload_n C.x C.b dMach_putCell_4 rfl (lv_at hl 1 rfl) ?_
    refine lv_bipush (v := 32) C.x C.b dMach_putCell_5 (by decide) ?_
    refine lv_icmp_lt (tgt := 13) C.x C.b dMach_putCell_7 (by decide) (fun c7 => ?_) (fun c7 => ?_)
    · rw [if_pos c7] at hf
      refine w_aload_n C.x C.b dMach_putCell_13 rfl (lv_at hl 0 rfl) ?_
      obtain ⟨v14, h14, hf⟩ := Option.bind_eq_some_iff.mp hf
      refine w_getR C M h14 rfl (hm_in in_Frame) (by decide) (List.mem_cons_of_mem _ wm_108) rfl dMach_putCell_14 ?_
      refine lv_iload_n C.x C.b dMach_putCell_17 rfl (lv_at hl 1 rfl) ?_
      refine lv_iload_n C.x C.b dMach_putCell_18 rfl (lv_at hl 2 rfl) ?_
      obtain ⟨E19, h19, hf⟩ := Option.bind_eq_some_iff.mp hf
      refine w_iast C M h19 rfl dMach_putCell_19 (fun H locs M => ?_)
      refine lv_iconst (v := (-1)) C.x C.b dMach_putCell_20 (by decide) ?_
      cases hf
      exact w_iret C M hr hlk rfl (Nat.le_refl _) (Nat.le_refl _) dMach_putCell_21 rfl rfl
    · rw [if_neg c7] at hf
      exact b_Mach_putCell_10 C hr hlk hnm _ _ _ _ M (lv_sub hl [] rfl) hf
theorem dMach_sizeFile_0 : decode prog_5_method_13_code 0 = .ok (.aload_n 0, 1) := by decide +kernel
theorem dMach_sizeFile_1 : decode prog_5_method_13_code 1 = .ok (.iload_n 3, 1) := by decide +kernel
theorem dMach_sizeFile_2 : decode prog_5_method_13_code 2 = .ok (.invokevirtual 208, 3) := by decide +kernel
theorem dMach_sizeFile_5 : decode prog_5_method_13_code 5 = .ok (.astore 4, 2) := by decide +kernel
theorem dMach_sizeFile_7 : decode prog_5_method_13_code 7 = .ok (.aload 4, 2) := by decide +kernel
theorem dMach_sizeFile_9 : decode prog_5_method_13_code 9 = .ok (.ifnonnull 6, 3) := by decide +kernel
theorem dMach_sizeFile_12 : decode prog_5_method_13_code 12 = .ok (.bipush 102, 2) := by decide +kernel
theorem dMach_sizeFile_14 : decode prog_5_method_13_code 14 = .ok (.ireturn, 1) := by decide +kernel
theorem dMach_sizeFile_15 : decode prog_5_method_13_code 15 = .ok (.aload_n 1, 1) := by decide +kernel
theorem dMach_sizeFile_16 : decode prog_5_method_13_code 16 = .ok (.iload_n 2, 1) := by decide +kernel
theorem dMach_sizeFile_17 : decode prog_5_method_13_code 17 = .ok (.aload 4, 2) := by decide +kernel
theorem dMach_sizeFile_19 : decode prog_5_method_13_code 19 = .ok (.invokevirtual 212, 3) := by decide +kernel
theorem dMach_sizeFile_22 : decode prog_5_method_13_code 22 = .ok (.invokevirtual 136, 3) := by decide +kernel
theorem dMach_sizeFile_25 : decode prog_5_method_13_code 25 = .ok (.iconst (-1), 1) := by decide +kernel
theorem dMach_sizeFile_26 : decode prog_5_method_13_code 26 = .ok (.ireturn, 1) := by decide +kernel
abbrev rm_Mach_sizeFile : Room := { frames := 1, cells := 0, slots := 0, locals := 22 }
def f_Mach_sizeFile  (x0 : Nat) (x1 : Option Nat) (x2 : Int32) (x3 : Int32) (E : hE) : Option (Int32 × hE) := (
  (gO E (some x0) 2).bind fun o2 =>
  (f_Mach_fileAt E o2.1 x3).bind fun v2 =>
  if v2 = none then (
  some (102, E)
  ) else (
  (gO E v2 0).bind fun o19 =>
  (f_Row_countIfThere E o19.1).bind fun v19 =>
  (gO E x1 1).bind fun o22 =>
  (f_Frame_set o22.1 x2 v19 E).bind fun v22 =>
  some ((-1), v22)
  ))
set_option maxHeartbeats 4000000 in
set_option maxRecDepth 100000 in
theorem c_Mach_sizeFile {l : Launch} {D : va_G} {kA : Nat → ClassId} {S : hE} {g : Nat → Nat} {n0 nx : Nat} {x0 : Nat} {x1 : Option Nat} {x2 : Int32} {x3 : Int32} {E : hE} {res : Int32 × hE} (hf : f_Mach_sizeFile x0 x1 x2 x3 E = some res) : Met l y_Mach_sizeFile ws_Mach_sizeFile rm_Mach_sizeFile (va_Pc [va_rf (some x0), va_rf x1, .int x2, .int x3] (hJ D kA S g n0 (E, nx))) (va_Qi (fun r w => r = res.1 ∧ w = (res.2, nx)) (hJ D kA S g n0) (fun q => n0 ≤ q)) 0 0 (fun q => n0 ≤ q) := by
  refine h_met (cc := prog_5_method_13_code) (maxL := 5) (ret := (some .int)) (lvs := [(0, va_rf (some x0)), (1, va_rf x1), (2, .int x2), (3, .int x3)]) zZ_k (by decide) rfl (by simp [lg_sl, va_rf_cat, cat_i, cat_l, cat_n]) (by simp [lv_args, va_rf_cat, cat_i, cat_l, cat_n]) ?_
  intro p e s m below meth c ls C M hr hlk hnm hl
  unfold f_Mach_sizeFile at hf
  refine w_aload_n C.x C.b dMach_sizeFile_0 rfl (lv_at hl 0 rfl) ?_
  refine lv_iload_n C.x C.b dMach_sizeFile_1 rfl (lv_at hl 3 rfl) ?_
  obtain ⟨o2, g2, hf⟩ := Option.bind_eq_some_iff.mp hf
  obtain ⟨v2, h2, hf⟩ := Option.bind_eq_some_iff.mp hf
  refine w_cq M (w_runV C M g2 rfl (c_Mach_fileAt h2) (cwV 1 C.ts (hgV wm_640 wm_555 wm_556 wm_4 wm_557) rfl rfl rfl (by decide +kernel) ⟨Nat.le_of_ble_eq_true rfl, Nat.le_of_ble_eq_true rfl⟩) rfl hl.1 rfl (Nat.zero_le _) dMach_sizeFile_2 ⟨Nat.le_refl _, Nat.le_refl _⟩) (fun H locs M => ?_)
  refine w_astore (lv' := [(4, va_rf v2), (0, va_rf (some x0)), (1, va_rf x1), (2, .int x2), (3, .int x3)]) C.x C.b dMach_sizeFile_5 hl (by decide) rfl (fun ls hl => ?_)
  refine w_aload C.x C.b dMach_sizeFile_7 (lv_at hl 0 rfl) ?_
  refine w_ifnonnull (tgt := 15) C.x C.b dMach_sizeFile_9 (by decide) (fun c9 => ?_) (fun c9 => ?_)
  · rw [if_neg c9] at hf
    refine w_aload_n C.x C.b dMach_sizeFile_15 rfl (lv_at hl 2 rfl) ?_
    refine lv_iload_n C.x C.b dMach_sizeFile_16 rfl (lv_at hl 3 rfl) ?_
    refine w_aload C.x C.b dMach_sizeFile_17 (lv_at hl 0 rfl) ?_
    obtain ⟨o19, g19, hf⟩ := Option.bind_eq_some_iff.mp hf
    obtain ⟨v19, h19, hf⟩ := Option.bind_eq_some_iff.mp hf
    refine w_ci M (w_runV C M g19 rfl (c_Row_countIfThere h19) (cwV 0 C.ts (hgV wm_641 wm_642 wm_643 wm_3 wm_644) rfl rfl rfl (by decide +kernel) ⟨Nat.le_of_ble_eq_true rfl, Nat.le_of_ble_eq_true rfl⟩) rfl hl.1 rfl (by simp [va_rf_cat, cat_i, cat_l, cat_n]) dMach_sizeFile_19 ⟨Nat.le_refl _, Nat.le_refl _⟩) (fun H locs M => ?_)
    obtain ⟨o22, g22, hf⟩ := Option.bind_eq_some_iff.mp hf
    obtain ⟨v22, h22, hf⟩ := Option.bind_eq_some_iff.mp hf
    refine w_cv M (w_runV C M g22 rfl (c_Frame_set h22) (cwV 2 C.ts (hgV wm_614 wm_615 wm_616 wm_5 wm_617) rfl rfl rfl (by decide +kernel) ⟨Nat.le_of_ble_eq_true rfl, Nat.le_of_ble_eq_true rfl⟩) rfl hl.1 rfl (Nat.zero_le _) dMach_sizeFile_22 ⟨Nat.le_refl _, Nat.le_refl _⟩) (fun H locs M => ?_)
    refine lv_iconst (v := (-1)) C.x C.b dMach_sizeFile_25 (by decide) ?_
    cases hf
    exact w_iret C M hr hlk rfl (Nat.le_refl _) (Nat.le_refl _) dMach_sizeFile_26 rfl rfl
  · rw [if_pos c9] at hf
    refine lv_bipush (v := 102) C.x C.b dMach_sizeFile_12 (by decide) ?_
    cases hf
    exact w_iret C M hr hlk rfl (Nat.le_refl _) (Nat.le_refl _) dMach_sizeFile_14 rfl rfl
theorem dMach_readFile_0 : decode prog_5_method_14_code 0 = .ok (.aload_n 0, 1) := by decide +kernel
theorem dMach_readFile_1 : decode prog_5_method_14_code 1 = .ok (.iload_n 3, 1) := by decide +kernel
theorem dMach_readFile_2 : decode prog_5_method_14_code 2 = .ok (.invokevirtual 208, 3) := by decide +kernel
theorem dMach_readFile_5 : decode prog_5_method_14_code 5 = .ok (.astore 5, 2) := by decide +kernel
theorem dMach_readFile_7 : decode prog_5_method_14_code 7 = .ok (.aload 5, 2) := by decide +kernel
theorem dMach_readFile_9 : decode prog_5_method_14_code 9 = .ok (.ifnonnull 6, 3) := by decide +kernel
theorem dMach_readFile_12 : decode prog_5_method_14_code 12 = .ok (.bipush 102, 2) := by decide +kernel
theorem dMach_readFile_14 : decode prog_5_method_14_code 14 = .ok (.ireturn, 1) := by decide +kernel
theorem dMach_readFile_15 : decode prog_5_method_14_code 15 = .ok (.aload 5, 2) := by decide +kernel
theorem dMach_readFile_17 : decode prog_5_method_14_code 17 = .ok (.getfield 215, 3) := by decide +kernel
theorem dMach_readFile_20 : decode prog_5_method_14_code 20 = .ok (.ifCond .ne 6, 3) := by decide +kernel
theorem dMach_readFile_23 : decode prog_5_method_14_code 23 = .ok (.bipush 101, 2) := by decide +kernel
theorem dMach_readFile_25 : decode prog_5_method_14_code 25 = .ok (.ireturn, 1) := by decide +kernel
theorem dMach_readFile_26 : decode prog_5_method_14_code 26 = .ok (.aload 5, 2) := by decide +kernel
theorem dMach_readFile_28 : decode prog_5_method_14_code 28 = .ok (.iload 4, 2) := by decide +kernel
theorem dMach_readFile_30 : decode prog_5_method_14_code 30 = .ok (.invokevirtual 218, 3) := by decide +kernel
theorem dMach_readFile_33 : decode prog_5_method_14_code 33 = .ok (.istore 6, 2) := by decide +kernel
theorem dMach_readFile_35 : decode prog_5_method_14_code 35 = .ok (.iload 6, 2) := by decide +kernel
theorem dMach_readFile_37 : decode prog_5_method_14_code 37 = .ok (.iconst (-1), 1) := by decide +kernel
theorem dMach_readFile_38 : decode prog_5_method_14_code 38 = .ok (.if_icmp .ne 6, 3) := by decide +kernel
theorem dMach_readFile_41 : decode prog_5_method_14_code 41 = .ok (.bipush 102, 2) := by decide +kernel
theorem dMach_readFile_43 : decode prog_5_method_14_code 43 = .ok (.ireturn, 1) := by decide +kernel
theorem dMach_readFile_44 : decode prog_5_method_14_code 44 = .ok (.aload_n 1, 1) := by decide +kernel
theorem dMach_readFile_45 : decode prog_5_method_14_code 45 = .ok (.iload_n 2, 1) := by decide +kernel
theorem dMach_readFile_46 : decode prog_5_method_14_code 46 = .ok (.iload 6, 2) := by decide +kernel
theorem dMach_readFile_48 : decode prog_5_method_14_code 48 = .ok (.invokevirtual 136, 3) := by decide +kernel
theorem dMach_readFile_51 : decode prog_5_method_14_code 51 = .ok (.iconst (-1), 1) := by decide +kernel
theorem dMach_readFile_52 : decode prog_5_method_14_code 52 = .ok (.ireturn, 1) := by decide +kernel
abbrev rm_Mach_readFile : Room := { frames := 1, cells := 0, slots := 0, locals := 22 }
def f_Mach_readFile  (x0 : Nat) (x1 : Option Nat) (x2 : Int32) (x3 : Int32) (x4 : Int32) (E : hE) : Option (Int32 × hE) := (
  (gO E (some x0) 2).bind fun o2 =>
  (f_Mach_fileAt E o2.1 x3).bind fun v2 =>
  if v2 = none then (
  some (102, E)
  ) else (
  (gI E v2 0 2).bind fun v17 =>
  if v17 = 0 then (
  some (101, E)
  ) else (
  (gO E v2 0).bind fun o30 =>
  (f_Row_at E o30.1 x4).bind fun v30 =>
  if v30 = (-1) then (
  some (102, E)
  ) else (
  (gO E x1 1).bind fun o48 =>
  (f_Frame_set o48.1 x2 v30 E).bind fun v48 =>
  some ((-1), v48)
  )
  )
  ))
set_option maxHeartbeats 4000000 in
set_option maxRecDepth 100000 in
theorem c_Mach_readFile {l : Launch} {D : va_G} {kA : Nat → ClassId} {S : hE} {g : Nat → Nat} {n0 nx : Nat} {x0 : Nat} {x1 : Option Nat} {x2 : Int32} {x3 : Int32} {x4 : Int32} {E : hE} {res : Int32 × hE} (hf : f_Mach_readFile x0 x1 x2 x3 x4 E = some res) : Met l y_Mach_readFile ws_Mach_readFile rm_Mach_readFile (va_Pc [va_rf (some x0), va_rf x1, .int x2, .int x3, .int x4] (hJ D kA S g n0 (E, nx))) (va_Qi (fun r w => r = res.1 ∧ w = (res.2, nx)) (hJ D kA S g n0) (fun q => n0 ≤ q)) 0 0 (fun q => n0 ≤ q) := by
  refine h_met (cc := prog_5_method_14_code) (maxL := 7) (ret := (some .int)) (lvs := [(0, va_rf (some x0)), (1, va_rf x1), (2, .int x2), (3, .int x3), (4, .int x4)]) zZ_k (by decide) rfl (by simp [lg_sl, va_rf_cat, cat_i, cat_l, cat_n]) (by simp [lv_args, va_rf_cat, cat_i, cat_l, cat_n]) ?_
  intro p e s m below meth c ls C M hr hlk hnm hl
  unfold f_Mach_readFile at hf
  refine w_aload_n C.x C.b dMach_readFile_0 rfl (lv_at hl 0 rfl) ?_
  refine lv_iload_n C.x C.b dMach_readFile_1 rfl (lv_at hl 3 rfl) ?_
  obtain ⟨o2, g2, hf⟩ := Option.bind_eq_some_iff.mp hf
  obtain ⟨v2, h2, hf⟩ := Option.bind_eq_some_iff.mp hf
  refine w_cq M (w_runV C M g2 rfl (c_Mach_fileAt h2) (cwV 1 C.ts (hgV wm_640 wm_555 wm_556 wm_4 wm_557) rfl rfl rfl (by decide +kernel) ⟨Nat.le_of_ble_eq_true rfl, Nat.le_of_ble_eq_true rfl⟩) rfl hl.1 rfl (Nat.zero_le _) dMach_readFile_2 ⟨Nat.le_refl _, Nat.le_refl _⟩) (fun H locs M => ?_)
  refine w_astore (lv' := [(5, va_rf v2), (0, va_rf (some x0)), (1, va_rf x1), (2, .int x2), (3, .int x3), (4, .int x4)]) C.x C.b dMach_readFile_5 hl (by decide) rfl (fun ls hl => ?_)
  refine w_aload C.x C.b dMach_readFile_7 (lv_at hl 0 rfl) ?_
  refine w_ifnonnull (tgt := 15) C.x C.b dMach_readFile_9 (by decide) (fun c9 => ?_) (fun c9 => ?_)
  · rw [if_neg c9] at hf
    refine w_aload C.x C.b dMach_readFile_15 (lv_at hl 0 rfl) ?_
    obtain ⟨v17, h17, hf⟩ := Option.bind_eq_some_iff.mp hf
    refine w_getI C M h17 rfl (hm_in in_Row) (by decide) (List.mem_cons_of_mem _ wm_49) rfl dMach_readFile_17 ?_
    refine lv_if_ne (tgt := 26) C.x C.b dMach_readFile_20 (by decide) (fun c20 => ?_) (fun c20 => ?_)
    · rw [if_neg c20] at hf
      refine w_aload C.x C.b dMach_readFile_26 (lv_at hl 0 rfl) ?_
      refine lv_iload C.x C.b dMach_readFile_28 (lv_at hl 5 rfl) ?_
      obtain ⟨o30, g30, hf⟩ := Option.bind_eq_some_iff.mp hf
      obtain ⟨v30, h30, hf⟩ := Option.bind_eq_some_iff.mp hf
      refine w_ci M (w_runV C M g30 rfl (c_Row_at h30) (cwV 1 C.ts (hgV wm_649 wm_268 wm_269 wm_3 wm_270) rfl rfl rfl (by decide +kernel) ⟨Nat.le_of_ble_eq_true rfl, Nat.le_of_ble_eq_true rfl⟩) rfl hl.1 rfl (Nat.zero_le _) dMach_readFile_30 ⟨Nat.le_refl _, Nat.le_refl _⟩) (fun H locs M => ?_)
      refine lv_istore (lv' := [(6, .int v30), (5, va_rf v2), (0, va_rf (some x0)), (1, va_rf x1), (2, .int x2), (3, .int x3), (4, .int x4)]) C.x C.b dMach_readFile_33 hl (by decide) (by simp [va_rf_cat]) (fun ls hl => ?_)
      refine lv_iload C.x C.b dMach_readFile_35 (lv_at hl 0 rfl) ?_
      refine lv_iconst (v := (-1)) C.x C.b dMach_readFile_37 (by decide) ?_
      refine lv_icmp_ne (tgt := 44) C.x C.b dMach_readFile_38 (by decide) (fun c38 => ?_) (fun c38 => ?_)
      · rw [if_neg c38] at hf
        refine w_aload_n C.x C.b dMach_readFile_44 rfl (lv_at hl 3 rfl) ?_
        refine lv_iload_n C.x C.b dMach_readFile_45 rfl (lv_at hl 4 rfl) ?_
        refine lv_iload C.x C.b dMach_readFile_46 (lv_at hl 0 rfl) ?_
        obtain ⟨o48, g48, hf⟩ := Option.bind_eq_some_iff.mp hf
        obtain ⟨v48, h48, hf⟩ := Option.bind_eq_some_iff.mp hf
        refine w_cv M (w_runV C M g48 rfl (c_Frame_set h48) (cwV 2 C.ts (hgV wm_614 wm_615 wm_616 wm_5 wm_617) rfl rfl rfl (by decide +kernel) ⟨Nat.le_of_ble_eq_true rfl, Nat.le_of_ble_eq_true rfl⟩) rfl hl.1 rfl (Nat.zero_le _) dMach_readFile_48 ⟨Nat.le_refl _, Nat.le_refl _⟩) (fun H locs M => ?_)
        refine lv_iconst (v := (-1)) C.x C.b dMach_readFile_51 (by decide) ?_
        cases hf
        exact w_iret C M hr hlk rfl (Nat.le_refl _) (Nat.le_refl _) dMach_readFile_52 rfl rfl
      · rw [if_pos c38] at hf
        refine lv_bipush (v := 102) C.x C.b dMach_readFile_41 (by decide) ?_
        cases hf
        exact w_iret C M hr hlk rfl (Nat.le_refl _) (Nat.le_refl _) dMach_readFile_43 rfl rfl
    · rw [if_pos c20] at hf
      refine lv_bipush (v := 101) C.x C.b dMach_readFile_23 (by decide) ?_
      cases hf
      exact w_iret C M hr hlk rfl (Nat.le_refl _) (Nat.le_refl _) dMach_readFile_25 rfl rfl
  · rw [if_pos c9] at hf
    refine lv_bipush (v := 102) C.x C.b dMach_readFile_12 (by decide) ?_
    cases hf
    exact w_iret C M hr hlk rfl (Nat.le_refl _) (Nat.le_refl _) dMach_readFile_14 rfl rfl
theorem dMach_speak_0 : decode prog_5_method_18_code 0 = .ok (.aload_n 0, 1) := by decide +kernel
theorem dMach_speak_1 : decode prog_5_method_18_code 1 = .ok (.iconst 1, 1) := by decide +kernel
theorem dMach_speak_2 : decode prog_5_method_18_code 2 = .ok (.invokevirtual 227, 3) := by decide +kernel
theorem dMach_speak_5 : decode prog_5_method_18_code 5 = .ok (.ifCond .ne 6, 3) := by decide +kernel
theorem dMach_speak_8 : decode prog_5_method_18_code 8 = .ok (.bipush 104, 2) := by decide +kernel
theorem dMach_speak_10 : decode prog_5_method_18_code 10 = .ok (.ireturn, 1) := by decide +kernel
theorem dMach_speak_11 : decode prog_5_method_18_code 11 = .ok (.aload_n 0, 1) := by decide +kernel
theorem dMach_speak_12 : decode prog_5_method_18_code 12 = .ok (.iload_n 1, 1) := by decide +kernel
theorem dMach_speak_13 : decode prog_5_method_18_code 13 = .ok (.invokevirtual 230, 3) := by decide +kernel
theorem dMach_speak_16 : decode prog_5_method_18_code 16 = .ok (.iconst (-1), 1) := by decide +kernel
theorem dMach_speak_17 : decode prog_5_method_18_code 17 = .ok (.ireturn, 1) := by decide +kernel
abbrev rm_Mach_speak : Room := { frames := 1, cells := 0, slots := 0, locals := 21 }
def f_Mach_speak  (x0 : Option Nat) (x1 : Int32) (E : hE) : Option (Int32 × hE) := (
  (gO E x0 0).bind fun o2 =>
  (f_Row_hasRoomFor E o2.1 1).bind fun v2 =>
  if v2 = 0 then (
  some (104, E)
  ) else (
  (gO E x0 0).bind fun o13 =>
  (f_Row_add o13.1 x1 E).bind fun v13 =>
  some ((-1), v13)
  ))
set_option maxHeartbeats 4000000 in
set_option maxRecDepth 100000 in
theorem c_Mach_speak {l : Launch} {D : va_G} {kA : Nat → ClassId} {S : hE} {g : Nat → Nat} {n0 nx : Nat} {x0 : Option Nat} {x1 : Int32} {E : hE} {res : Int32 × hE} (hf : f_Mach_speak x0 x1 E = some res) : Met l y_Mach_speak ws_Mach_speak rm_Mach_speak (va_Pc [va_rf x0, .int x1] (hJ D kA S g n0 (E, nx))) (va_Qi (fun r w => r = res.1 ∧ w = (res.2, nx)) (hJ D kA S g n0) (fun q => n0 ≤ q)) 0 0 (fun q => n0 ≤ q) := by
  refine h_met (cc := prog_5_method_18_code) (maxL := 2) (ret := (some .int)) (lvs := [(0, va_rf x0), (1, .int x1)]) zZ_k (by decide) rfl (by simp [lg_sl, va_rf_cat, cat_i, cat_l, cat_n]) (by simp [lv_args, va_rf_cat, cat_i, cat_l, cat_n]) ?_
  intro p e s m below meth c ls C M hr hlk hnm hl
  unfold f_Mach_speak at hf
  refine w_aload_n C.x C.b dMach_speak_0 rfl (lv_at hl 0 rfl) ?_
  refine lv_iconst (v := 1) C.x C.b dMach_speak_1 (by decide) ?_
  obtain ⟨o2, g2, hf⟩ := Option.bind_eq_some_iff.mp hf
  obtain ⟨v2, h2, hf⟩ := Option.bind_eq_some_iff.mp hf
  refine w_ci M (w_runV C M g2 rfl (c_Row_hasRoomFor h2) (cwV 1 C.ts (hgV wm_657 wm_201 wm_202 wm_3 wm_203) rfl rfl rfl (by decide +kernel) ⟨Nat.le_of_ble_eq_true rfl, Nat.le_of_ble_eq_true rfl⟩) rfl hl.1 rfl (Nat.zero_le _) dMach_speak_2 ⟨Nat.le_refl _, Nat.le_refl _⟩) (fun H locs M => ?_)
  refine lv_if_ne (tgt := 11) C.x C.b dMach_speak_5 (by decide) (fun c5 => ?_) (fun c5 => ?_)
  · rw [if_neg c5] at hf
    refine w_aload_n C.x C.b dMach_speak_11 rfl (lv_at hl 0 rfl) ?_
    refine lv_iload_n C.x C.b dMach_speak_12 rfl (lv_at hl 1 rfl) ?_
    obtain ⟨o13, g13, hf⟩ := Option.bind_eq_some_iff.mp hf
    obtain ⟨v13, h13, hf⟩ := Option.bind_eq_some_iff.mp hf
    refine w_cv M (w_runV C M g13 rfl (c_Row_add h13) (cwV 1 C.ts (hgV wm_658 wm_205 wm_206 wm_3 wm_207) rfl rfl rfl (by decide +kernel) ⟨Nat.le_of_ble_eq_true rfl, Nat.le_of_ble_eq_true rfl⟩) rfl hl.1 rfl (Nat.zero_le _) dMach_speak_13 ⟨Nat.le_refl _, Nat.le_refl _⟩) (fun H locs M => ?_)
    refine lv_iconst (v := (-1)) C.x C.b dMach_speak_16 (by decide) ?_
    cases hf
    exact w_iret C M hr hlk rfl (Nat.le_refl _) (Nat.le_refl _) dMach_speak_17 rfl rfl
  · rw [if_pos c5] at hf
    refine lv_bipush (v := 104) C.x C.b dMach_speak_8 (by decide) ?_
    cases hf
    exact w_iret C M hr hlk rfl (Nat.le_refl _) (Nat.le_refl _) dMach_speak_10 rfl rfl
theorem dMach_writeFile_0 : decode prog_5_method_15_code 0 = .ok (.aload_n 0, 1) := by decide +kernel
theorem dMach_writeFile_1 : decode prog_5_method_15_code 1 = .ok (.iload_n 1, 1) := by decide +kernel
theorem dMach_writeFile_2 : decode prog_5_method_15_code 2 = .ok (.invokevirtual 208, 3) := by decide +kernel
theorem dMach_writeFile_5 : decode prog_5_method_15_code 5 = .ok (.astore_n 3, 1) := by decide +kernel
theorem dMach_writeFile_6 : decode prog_5_method_15_code 6 = .ok (.aload_n 3, 1) := by decide +kernel
theorem dMach_writeFile_7 : decode prog_5_method_15_code 7 = .ok (.ifnonnull 8, 3) := by decide +kernel
theorem dMach_writeFile_10 : decode prog_5_method_15_code 10 = .ok (.bipush 102, 2) := by decide +kernel
theorem dMach_writeFile_12 : decode prog_5_method_15_code 12 = .ok (.goto 8, 3) := by decide +kernel
theorem dMach_writeFile_15 : decode prog_5_method_15_code 15 = .ok (.aload_n 3, 1) := by decide +kernel
theorem dMach_writeFile_16 : decode prog_5_method_15_code 16 = .ok (.iload_n 2, 1) := by decide +kernel
theorem dMach_writeFile_17 : decode prog_5_method_15_code 17 = .ok (.invokestatic 167, 3) := by decide +kernel
theorem dMach_writeFile_20 : decode prog_5_method_15_code 20 = .ok (.ireturn, 1) := by decide +kernel
abbrev rm_Mach_writeFile : Room := { frames := 2, cells := 0, slots := 0, locals := 42 }
def f_Mach_writeFile_b20  (t0 : Int32) (E : hE) : Option (Int32 × hE) := (
  some (t0, E))
set_option maxHeartbeats 4000000 in
set_option maxRecDepth 100000 in
theorem b_Mach_writeFile_20 {p : Program} {l : Launch} {e : Env} {s : State} {m : MethodId} {args : Array Value} {below : List Frame} {meth : Method} {c : Code} {D : va_G} {kA : Nat → ClassId} {S : hE} {g : Nat → Nat} {n0 nx : Nat} {res : Int32 × hE} (C : hX p s m args c prog_5_method_15_code 4 R_Mach ws_Mach_writeFile D kA S g n0) (hr : meth.sig.returnType = (some .int)) (hlk : meth.locks = false) (hnm : meth.name = "writeFile") : ∀ (t0 : Int32) (E : hE) (H : Heap) (locs : List Loc) (ls : Array Slot), hY D kA n0 s E nx H locs → lv_has ls 4 [] → f_Mach_writeFile_b20  t0 E = some res → W p l e rm_Mach_writeFile s m args below meth c H locs 0 0 (MQ below (va_Qi (fun r w => r = res.1 ∧ w = (res.2, nx)) (hJ D kA S g n0) (fun q => n0 ≤ q)) args s 0 0 (fun q => n0 ≤ q)) (F0 m 20 ls [.int t0]) := by
  intro t0 E H locs ls M hl hf
  unfold f_Mach_writeFile_b20 at hf
  cases hf
  exact w_iret C M hr hlk rfl (Nat.le_refl _) (Nat.le_refl _) dMach_writeFile_20 rfl rfl
def f_Mach_writeFile  (x0 : Nat) (x1 : Int32) (x2 : Int32) (E : hE) : Option (Int32 × hE) := (
  (gO E (some x0) 2).bind fun o2 =>
  (f_Mach_fileAt E o2.1 x1).bind fun v2 =>
  if v2 = none then (
  f_Mach_writeFile_b20 102 E
  ) else (
  (f_Mach_speak v2 x2 E).bind fun v17 =>
  f_Mach_writeFile_b20 v17.1 v17.2
  ))
set_option maxHeartbeats 4000000 in
set_option maxRecDepth 100000 in
theorem c_Mach_writeFile {l : Launch} {D : va_G} {kA : Nat → ClassId} {S : hE} {g : Nat → Nat} {n0 nx : Nat} {x0 : Nat} {x1 : Int32} {x2 : Int32} {E : hE} {res : Int32 × hE} (hf : f_Mach_writeFile x0 x1 x2 E = some res) : Met l y_Mach_writeFile ws_Mach_writeFile rm_Mach_writeFile (va_Pc [va_rf (some x0), .int x1, .int x2] (hJ D kA S g n0 (E, nx))) (va_Qi (fun r w => r = res.1 ∧ w = (res.2, nx)) (hJ D kA S g n0) (fun q => n0 ≤ q)) 0 0 (fun q => n0 ≤ q) := by
  refine h_met (cc := prog_5_method_15_code) (maxL := 4) (ret := (some .int)) (lvs := [(0, va_rf (some x0)), (1, .int x1), (2, .int x2)]) zZ_k (by decide) rfl (by simp [lg_sl, va_rf_cat, cat_i, cat_l, cat_n]) (by simp [lv_args, va_rf_cat, cat_i, cat_l, cat_n]) ?_
  intro p e s m below meth c ls C M hr hlk hnm hl
  unfold f_Mach_writeFile at hf
  refine w_aload_n C.x C.b dMach_writeFile_0 rfl (lv_at hl 0 rfl) ?_
  refine lv_iload_n C.x C.b dMach_writeFile_1 rfl (lv_at hl 1 rfl) ?_
  obtain ⟨o2, g2, hf⟩ := Option.bind_eq_some_iff.mp hf
  obtain ⟨v2, h2, hf⟩ := Option.bind_eq_some_iff.mp hf
  refine w_cq M (w_runV C M g2 rfl (c_Mach_fileAt h2) (cwV 1 C.ts (hgV wm_640 wm_555 wm_556 wm_4 wm_557) rfl rfl rfl (by decide +kernel) ⟨Nat.le_of_ble_eq_true rfl, Nat.le_of_ble_eq_true rfl⟩) rfl hl.1 rfl (Nat.zero_le _) dMach_writeFile_2 ⟨Nat.le_refl _, Nat.le_refl _⟩) (fun H locs M => ?_)
  refine w_astore_n (lv' := [(3, va_rf v2), (0, va_rf (some x0)), (1, .int x1), (2, .int x2)]) C.x C.b dMach_writeFile_5 rfl hl (by decide) rfl (fun ls hl => ?_)
  refine w_aload_n C.x C.b dMach_writeFile_6 rfl (lv_at hl 0 rfl) ?_
  refine w_ifnonnull (tgt := 15) C.x C.b dMach_writeFile_7 (by decide) (fun c7 => ?_) (fun c7 => ?_)
  · rw [if_neg c7] at hf
    refine w_aload_n C.x C.b dMach_writeFile_15 rfl (lv_at hl 0 rfl) ?_
    refine lv_iload_n C.x C.b dMach_writeFile_16 rfl (lv_at hl 3 rfl) ?_
    obtain ⟨v17, h17, hf⟩ := Option.bind_eq_some_iff.mp hf
    refine w_ci M (w_runS C M (c_Mach_speak h17) (cwS 2 C.ts (hgS wm_654 wm_655 wm_4 wm_656) rfl rfl rfl (by decide +kernel) ⟨Nat.le_of_ble_eq_true rfl, Nat.le_of_ble_eq_true rfl⟩) rfl hl.1 rfl (Nat.zero_le _) dMach_writeFile_17 ⟨Nat.le_refl _, Nat.le_refl _⟩) (fun H locs M => ?_)
    exact b_Mach_writeFile_20 C hr hlk hnm _ _ _ _ _ M (lv_sub hl [] rfl) hf
  · rw [if_pos c7] at hf
    refine lv_bipush (v := 102) C.x C.b dMach_writeFile_10 (by decide) ?_
    refine lv_goto (tgt := 20) C.x C.b dMach_writeFile_12 (by decide) ?_
    exact b_Mach_writeFile_20 C hr hlk hnm _ _ _ _ _ M (lv_sub hl [] rfl) hf
theorem dMach_dropFile_0 : decode prog_5_method_16_code 0 = .ok (.aload_n 0, 1) := by decide +kernel
theorem dMach_dropFile_1 : decode prog_5_method_16_code 1 = .ok (.iload_n 1, 1) := by decide +kernel
theorem dMach_dropFile_2 : decode prog_5_method_16_code 2 = .ok (.invokevirtual 208, 3) := by decide +kernel
theorem dMach_dropFile_5 : decode prog_5_method_16_code 5 = .ok (.astore_n 2, 1) := by decide +kernel
theorem dMach_dropFile_6 : decode prog_5_method_16_code 6 = .ok (.aload_n 2, 1) := by decide +kernel
theorem dMach_dropFile_7 : decode prog_5_method_16_code 7 = .ok (.ifnonnull 6, 3) := by decide +kernel
theorem dMach_dropFile_10 : decode prog_5_method_16_code 10 = .ok (.bipush 102, 2) := by decide +kernel
theorem dMach_dropFile_12 : decode prog_5_method_16_code 12 = .ok (.ireturn, 1) := by decide +kernel
theorem dMach_dropFile_13 : decode prog_5_method_16_code 13 = .ok (.aload_n 2, 1) := by decide +kernel
theorem dMach_dropFile_14 : decode prog_5_method_16_code 14 = .ok (.getfield 215, 3) := by decide +kernel
theorem dMach_dropFile_17 : decode prog_5_method_16_code 17 = .ok (.ifCond .ne 6, 3) := by decide +kernel
theorem dMach_dropFile_20 : decode prog_5_method_16_code 20 = .ok (.bipush 101, 2) := by decide +kernel
theorem dMach_dropFile_22 : decode prog_5_method_16_code 22 = .ok (.ireturn, 1) := by decide +kernel
theorem dMach_dropFile_23 : decode prog_5_method_16_code 23 = .ok (.aload_n 2, 1) := by decide +kernel
theorem dMach_dropFile_24 : decode prog_5_method_16_code 24 = .ok (.invokevirtual 220, 3) := by decide +kernel
theorem dMach_dropFile_27 : decode prog_5_method_16_code 27 = .ok (.iconst (-1), 1) := by decide +kernel
theorem dMach_dropFile_28 : decode prog_5_method_16_code 28 = .ok (.ireturn, 1) := by decide +kernel
abbrev rm_Mach_dropFile : Room := { frames := 1, cells := 0, slots := 0, locals := 21 }
def f_Mach_dropFile  (x0 : Nat) (x1 : Int32) (E : hE) : Option (Int32 × hE) := (
  (gO E (some x0) 2).bind fun o2 =>
  (f_Mach_fileAt E o2.1 x1).bind fun v2 =>
  if v2 = none then (
  some (102, E)
  ) else (
  (gI E v2 0 2).bind fun v14 =>
  if v14 = 0 then (
  some (101, E)
  ) else (
  (gO E v2 0).bind fun o24 =>
  (f_Row_remove o24.1 E).bind fun v24 =>
  some ((-1), v24)
  )
  ))
set_option maxHeartbeats 4000000 in
set_option maxRecDepth 100000 in
theorem c_Mach_dropFile {l : Launch} {D : va_G} {kA : Nat → ClassId} {S : hE} {g : Nat → Nat} {n0 nx : Nat} {x0 : Nat} {x1 : Int32} {E : hE} {res : Int32 × hE} (hf : f_Mach_dropFile x0 x1 E = some res) : Met l y_Mach_dropFile ws_Mach_dropFile rm_Mach_dropFile (va_Pc [va_rf (some x0), .int x1] (hJ D kA S g n0 (E, nx))) (va_Qi (fun r w => r = res.1 ∧ w = (res.2, nx)) (hJ D kA S g n0) (fun q => n0 ≤ q)) 0 0 (fun q => n0 ≤ q) := by
  refine h_met (cc := prog_5_method_16_code) (maxL := 3) (ret := (some .int)) (lvs := [(0, va_rf (some x0)), (1, .int x1)]) zZ_k (by decide) rfl (by simp [lg_sl, va_rf_cat, cat_i, cat_l, cat_n]) (by simp [lv_args, va_rf_cat, cat_i, cat_l, cat_n]) ?_
  intro p e s m below meth c ls C M hr hlk hnm hl
  unfold f_Mach_dropFile at hf
  refine w_aload_n C.x C.b dMach_dropFile_0 rfl (lv_at hl 0 rfl) ?_
  refine lv_iload_n C.x C.b dMach_dropFile_1 rfl (lv_at hl 1 rfl) ?_
  obtain ⟨o2, g2, hf⟩ := Option.bind_eq_some_iff.mp hf
  obtain ⟨v2, h2, hf⟩ := Option.bind_eq_some_iff.mp hf
  refine w_cq M (w_runV C M g2 rfl (c_Mach_fileAt h2) (cwV 1 C.ts (hgV wm_640 wm_555 wm_556 wm_4 wm_557) rfl rfl rfl (by decide +kernel) ⟨Nat.le_of_ble_eq_true rfl, Nat.le_of_ble_eq_true rfl⟩) rfl hl.1 rfl (Nat.zero_le _) dMach_dropFile_2 ⟨Nat.le_refl _, Nat.le_refl _⟩) (fun H locs M => ?_)
  refine w_astore_n (lv' := [(2, va_rf v2), (0, va_rf (some x0)), (1, .int x1)]) C.x C.b dMach_dropFile_5 rfl hl (by decide) rfl (fun ls hl => ?_)
  refine w_aload_n C.x C.b dMach_dropFile_6 rfl (lv_at hl 0 rfl) ?_
  refine w_ifnonnull (tgt := 13) C.x C.b dMach_dropFile_7 (by decide) (fun c7 => ?_) (fun c7 => ?_)
  · rw [if_neg c7] at hf
    refine w_aload_n C.x C.b dMach_dropFile_13 rfl (lv_at hl 0 rfl) ?_
    obtain ⟨v14, h14, hf⟩ := Option.bind_eq_some_iff.mp hf
    refine w_getI C M h14 rfl (hm_in in_Row) (by decide) (List.mem_cons_of_mem _ wm_49) rfl dMach_dropFile_14 ?_
    refine lv_if_ne (tgt := 23) C.x C.b dMach_dropFile_17 (by decide) (fun c17 => ?_) (fun c17 => ?_)
    · rw [if_neg c17] at hf
      refine w_aload_n C.x C.b dMach_dropFile_23 rfl (lv_at hl 0 rfl) ?_
      obtain ⟨o24, g24, hf⟩ := Option.bind_eq_some_iff.mp hf
      obtain ⟨v24, h24, hf⟩ := Option.bind_eq_some_iff.mp hf
      refine w_cv M (w_runV C M g24 rfl (c_Row_remove h24) (cwV 0 C.ts (hgV wm_663 wm_563 wm_564 wm_3 wm_565) rfl rfl rfl (by decide +kernel) ⟨Nat.le_of_ble_eq_true rfl, Nat.le_of_ble_eq_true rfl⟩) rfl hl.1 rfl (Nat.zero_le _) dMach_dropFile_24 ⟨Nat.le_refl _, Nat.le_refl _⟩) (fun H locs M => ?_)
      refine lv_iconst (v := (-1)) C.x C.b dMach_dropFile_27 (by decide) ?_
      cases hf
      exact w_iret C M hr hlk rfl (Nat.le_refl _) (Nat.le_refl _) dMach_dropFile_28 rfl rfl
    · rw [if_pos c17] at hf
      refine lv_bipush (v := 101) C.x C.b dMach_dropFile_20 (by decide) ?_
      cases hf
      exact w_iret C M hr hlk rfl (Nat.le_refl _) (Nat.le_refl _) dMach_dropFile_22 rfl rfl
  · rw [if_pos c7] at hf
    refine lv_bipush (v := 102) C.x C.b dMach_dropFile_10 (by decide) ?_
    cases hf
    exact w_iret C M hr hlk rfl (Nat.le_refl _) (Nat.le_refl _) dMach_dropFile_12 rfl rfl
theorem dMach_answer_0 : decode prog_5_method_21_code 0 = .ok (.iload_n 2, 1) := by decide +kernel
theorem dMach_answer_1 : decode prog_5_method_21_code 1 = .ok (.lookupswitch 39 #[(0, 27), (1, 34)], 27) := by decide +kernel
theorem dMach_answer_28 : decode prog_5_method_21_code 28 = .ok (.aload_n 0, 1) := by decide +kernel
theorem dMach_answer_29 : decode prog_5_method_21_code 29 = .ok (.getfield 56, 3) := by decide +kernel
theorem dMach_answer_32 : decode prog_5_method_21_code 32 = .ok (.iconst 1, 1) := by decide +kernel
theorem dMach_answer_33 : decode prog_5_method_21_code 33 = .ok (.isub, 1) := by decide +kernel
theorem dMach_answer_34 : decode prog_5_method_21_code 34 = .ok (.ireturn, 1) := by decide +kernel
theorem dMach_answer_35 : decode prog_5_method_21_code 35 = .ok (.aload_n 0, 1) := by decide +kernel
theorem dMach_answer_36 : decode prog_5_method_21_code 36 = .ok (.getfield 62, 3) := by decide +kernel
theorem dMach_answer_39 : decode prog_5_method_21_code 39 = .ok (.ireturn, 1) := by decide +kernel
theorem dMach_answer_40 : decode prog_5_method_21_code 40 = .ok (.sipush 1000, 3) := by decide +kernel
theorem dMach_answer_43 : decode prog_5_method_21_code 43 = .ok (.aload_n 1, 1) := by decide +kernel
theorem dMach_answer_44 : decode prog_5_method_21_code 44 = .ok (.getfield 78, 3) := by decide +kernel
theorem dMach_answer_47 : decode prog_5_method_21_code 47 = .ok (.imul, 1) := by decide +kernel
theorem dMach_answer_48 : decode prog_5_method_21_code 48 = .ok (.aload_n 1, 1) := by decide +kernel
theorem dMach_answer_49 : decode prog_5_method_21_code 49 = .ok (.getfield 97, 3) := by decide +kernel
theorem dMach_answer_52 : decode prog_5_method_21_code 52 = .ok (.iadd, 1) := by decide +kernel
theorem dMach_answer_53 : decode prog_5_method_21_code 53 = .ok (.ireturn, 1) := by decide +kernel
abbrev rm_Mach_answer : Room := { frames := 0, cells := 0, slots := 0, locals := 0 }
def f_Mach_answer (E : hE) (x0 : Nat) (x1 : Option Nat) (x2 : Int32) : Option (Int32) := (
  if x2 = 0 then (
  (gI E (some x0) 2 8).bind fun v29 =>
  some (v29 - 1)
  ) else (
  if x2 = 1 then (
  (gI E (some x0) 2 10).bind fun v36 =>
  some v36
  ) else (
  (gI E x1 1 0).bind fun v44 =>
  (gI E x1 1 6).bind fun v49 =>
  some ((1000 * v44) + v49)
  )))
set_option maxHeartbeats 4000000 in
set_option maxRecDepth 100000 in
theorem c_Mach_answer {l : Launch} {D : va_G} {kA : Nat → ClassId} {S : hE} {g : Nat → Nat} {n0 nx : Nat} {x0 : Nat} {x1 : Option Nat} {x2 : Int32} {E : hE} {res : Int32} (hf : f_Mach_answer E x0 x1 x2 = some res) : Met l y_Mach_answer ws_Mach_answer rm_Mach_answer (va_Pc [va_rf (some x0), va_rf x1, .int x2] (hJ D kA S g n0 (E, nx))) (va_Qi (fun r w => r = res ∧ w = (E, nx)) (hJ D kA S g n0) (fun q => n0 ≤ q)) 0 0 (fun q => n0 ≤ q) := by
  refine h_met (cc := prog_5_method_21_code) (maxL := 3) (ret := (some .int)) (lvs := [(0, va_rf (some x0)), (1, va_rf x1), (2, .int x2)]) zZ_k (by decide) rfl (by simp [lg_sl, va_rf_cat, cat_i, cat_l, cat_n]) (by simp [lv_args, va_rf_cat, cat_i, cat_l, cat_n]) ?_
  intro p e s m below meth c ls C M hr hlk hnm hl
  unfold f_Mach_answer at hf
  refine lv_iload_n C.x C.b dMach_answer_0 rfl (lv_at hl 2 rfl) ?_
  by_cases c1_0 : x2 = 0
  · rw [if_pos c1_0] at hf
    refine lv_lookup (off := 27) (tgt := 28) C.x C.b dMach_answer_1 (by decide) (by rw [c1_0] <;> rfl) (by decide) ?_
    refine w_aload_n C.x C.b dMach_answer_28 rfl (lv_at hl 0 rfl) ?_
    obtain ⟨v29, h29, hf⟩ := Option.bind_eq_some_iff.mp hf
    refine w_getI C M h29 rfl (hm_in in_Mach) (by decide) (List.mem_cons_of_mem _ wm_148) rfl dMach_answer_29 ?_
    refine lv_iconst (v := 1) C.x C.b dMach_answer_32 (by decide) ?_
    refine lv_isub C.x C.b dMach_answer_33 ?_
    cases hf
    exact w_iret C M hr hlk rfl (Nat.le_refl _) (Nat.le_refl _) dMach_answer_34 rfl rfl
  · rw [if_neg c1_0] at hf
    by_cases c1_1 : x2 = 1
    · rw [if_pos c1_1] at hf
      refine lv_lookup (off := 34) (tgt := 35) C.x C.b dMach_answer_1 (by decide) (by rw [c1_1] <;> rfl) (by decide) ?_
      refine w_aload_n C.x C.b dMach_answer_35 rfl (lv_at hl 0 rfl) ?_
      obtain ⟨v36, h36, hf⟩ := Option.bind_eq_some_iff.mp hf
      refine w_getI C M h36 rfl (hm_in in_Mach) (by decide) (List.mem_cons_of_mem _ wm_152) rfl dMach_answer_36 ?_
      cases hf
      exact w_iret C M hr hlk rfl (Nat.le_refl _) (Nat.le_refl _) dMach_answer_39 rfl rfl
    · rw [if_neg c1_1] at hf
      refine lv_lookup (off := 39) (tgt := 40) C.x C.b dMach_answer_1 (by decide) (by rw [lv_osw c1_0 (by decide), lv_osw c1_1 (by decide)] <;> rfl) (by decide) ?_
      refine lv_sipush (v := 1000) C.x C.b dMach_answer_40 (by decide) ?_
      refine w_aload_n C.x C.b dMach_answer_43 rfl (lv_at hl 1 rfl) ?_
      obtain ⟨v44, h44, hf⟩ := Option.bind_eq_some_iff.mp hf
      refine w_getI C M h44 rfl (hm_in in_Frame) (by decide) (List.mem_cons_of_mem _ wm_104) rfl dMach_answer_44 ?_
      refine lv_imul C.x C.b dMach_answer_47 ?_
      refine w_aload_n C.x C.b dMach_answer_48 rfl (lv_at hl 1 rfl) ?_
      obtain ⟨v49, h49, hf⟩ := Option.bind_eq_some_iff.mp hf
      refine w_getI C M h49 rfl (hm_in in_Frame) (by decide) (List.mem_cons_of_mem _ wm_114) rfl dMach_answer_49 ?_
      refine lv_iadd C.x C.b dMach_answer_52 ?_
      cases hf
      exact w_iret C M hr hlk rfl (Nat.le_refl _) (Nat.le_refl _) dMach_answer_53 rfl rfl
