/-! m04: by wip/whole/gen.py -/
theorem dM_write_0 : decode prog_11_method_39_code 0 = .ok (.iload_n 2, 1) := by decide +kernel
theorem dM_write_1 : decode prog_11_method_39_code 1 = .ok (.invokestatic 206, 3) := by decide +kernel
theorem dM_write_4 : decode prog_11_method_39_code 4 = .ok (.ifCond .ne 6, 3) := by decide +kernel
theorem dM_write_7 : decode prog_11_method_39_code 7 = .ok (.bipush 102, 2) := by decide +kernel
theorem dM_write_9 : decode prog_11_method_39_code 9 = .ok (.ireturn, 1) := by decide +kernel
theorem dM_write_10 : decode prog_11_method_39_code 10 = .ok (.aload_n 0, 1) := by decide +kernel
theorem dM_write_11 : decode prog_11_method_39_code 11 = .ok (.getfield 45, 3) := by decide +kernel
theorem dM_write_14 : decode prog_11_method_39_code 14 = .ok (.iload_n 2, 1) := by decide +kernel
theorem dM_write_15 : decode prog_11_method_39_code 15 = .ok (.iaload, 1) := by decide +kernel
theorem dM_write_16 : decode prog_11_method_39_code 16 = .ok (.bipush 40, 2) := by decide +kernel
theorem dM_write_18 : decode prog_11_method_39_code 18 = .ok (.if_icmp .ne 6, 3) := by decide +kernel
theorem dM_write_21 : decode prog_11_method_39_code 21 = .ok (.bipush 104, 2) := by decide +kernel
theorem dM_write_23 : decode prog_11_method_39_code 23 = .ok (.ireturn, 1) := by decide +kernel
theorem dM_write_24 : decode prog_11_method_39_code 24 = .ok (.aload_n 0, 1) := by decide +kernel
theorem dM_write_25 : decode prog_11_method_39_code 25 = .ok (.iload_n 2, 1) := by decide +kernel
theorem dM_write_26 : decode prog_11_method_39_code 26 = .ok (.iload_n 3, 1) := by decide +kernel
theorem dM_write_27 : decode prog_11_method_39_code 27 = .ok (.invokevirtual 209, 3) := by decide +kernel
theorem dM_write_30 : decode prog_11_method_39_code 30 = .ok (.aload_n 0, 1) := by decide +kernel
theorem dM_write_31 : decode prog_11_method_39_code 31 = .ok (.iload_n 1, 1) := by decide +kernel
theorem dM_write_32 : decode prog_11_method_39_code 32 = .ok (.invokevirtual 257, 3) := by decide +kernel
theorem dM_write_35 : decode prog_11_method_39_code 35 = .ok (.ireturn, 1) := by decide +kernel
abbrev rm_M_write : Room := { frames := 2, cells := 0, slots := 0, locals := 42 }
def f_M_write  (x0 : Nat) (x1 : Int32) (x2 : Int32) (x3 : Int32) (E : hE) : Option (Int32 × hE) := (
  (f_M_isFile E x2).bind fun v1 =>
  if v1 = 0 then (
  some (102, E)
  ) else (
  (gR E (some x0) 7 13).bind fun v11 =>
  (aI E v11 0 x2).bind fun v15 =>
  if v15 = 40 then (
  some (104, E)
  ) else (
  (gO E (some x0) 7).bind fun o27 =>
  (f_M_append o27.1 x2 x3 E).bind fun v27 =>
  (gO v27 (some x0) 7).bind fun o32 =>
  (f_M_goesOn o32.1 x1 v27).bind fun v32 =>
  some (v32.1, v32.2)
  )
  ))
set_option maxHeartbeats 4000000 in
set_option maxRecDepth 100000 in
theorem c_M_write {l : Launch} {D : va_G} {kA : Nat → ClassId} {S : hE} {g : Nat → Nat} {n0 nx : Nat} {x0 : Nat} {x1 : Int32} {x2 : Int32} {x3 : Int32} {E : hE} {res : Int32 × hE} (hf : f_M_write x0 x1 x2 x3 E = some res) : Met l y_M_write ws_M_write rm_M_write (va_Pc [va_rf (some x0), .int x1, .int x2, .int x3] (hJ D kA S g n0 (E, nx))) (va_Qi (fun r w => r = res.1 ∧ w = (res.2, nx)) (hJ D kA S g n0) (fun q => n0 ≤ q)) 0 0 (fun q => n0 ≤ q) := by
  refine h_met (cc := prog_11_method_39_code) (maxL := 4) (ret := (some .int)) (lvs := [(0, va_rf (some x0)), (1, .int x1), (2, .int x2), (3, .int x3)]) zZ_k (by decide) rfl (by simp [lg_sl, va_rf_cat, cat_i, cat_l, cat_n]) (by simp [lv_args, va_rf_cat, cat_i, cat_l, cat_n]) ?_
  intro p e s m below meth c ls C M hr hlk hnm hl
  unfold f_M_write at hf
  refine lv_iload_n C.x C.b dM_write_0 rfl (lv_at hl 2 rfl) ?_
  obtain ⟨v1, h1, hf⟩ := Option.bind_eq_some_iff.mp hf
  refine w_ci M (w_runS C M (c_M_isFile h1) (cwS 1 C.ts (hgS wm_926 wm_927 wm_6 wm_928) rfl rfl rfl (by decide +kernel) ⟨Nat.le_of_ble_eq_true rfl, Nat.le_of_ble_eq_true rfl⟩) rfl hl.1 rfl (Nat.zero_le _) dM_write_1 ⟨Nat.le_refl _, Nat.le_refl _⟩) (fun H locs M => ?_)
  refine lv_if_ne (tgt := 10) C.x C.b dM_write_4 (by decide) (fun c4 => ?_) (fun c4 => ?_)
  · rw [if_neg c4] at hf
    refine w_aload_n C.x C.b dM_write_10 rfl (lv_at hl 0 rfl) ?_
    obtain ⟨v11, h11, hf⟩ := Option.bind_eq_some_iff.mp hf
    refine w_getR C M h11 rfl (hm_in in_M) (by decide) (List.mem_cons_of_mem _ wm_736) rfl dM_write_11 ?_
    refine lv_iload_n C.x C.b dM_write_14 rfl (lv_at hl 2 rfl) ?_
    obtain ⟨v15, h15, hf⟩ := Option.bind_eq_some_iff.mp hf
    refine w_iald C M h15 rfl dM_write_15 ?_
    refine lv_bipush (v := 40) C.x C.b dM_write_16 (by decide) ?_
    refine lv_icmp_ne (tgt := 24) C.x C.b dM_write_18 (by decide) (fun c18 => ?_) (fun c18 => ?_)
    · rw [if_neg c18] at hf
      refine w_aload_n C.x C.b dM_write_24 rfl (lv_at hl 0 rfl) ?_
      refine lv_iload_n C.x C.b dM_write_25 rfl (lv_at hl 2 rfl) ?_
      refine lv_iload_n C.x C.b dM_write_26 rfl (lv_at hl 3 rfl) ?_
      obtain ⟨o27, g27, hf⟩ := Option.bind_eq_some_iff.mp hf
      obtain ⟨v27, h27, hf⟩ := Option.bind_eq_some_iff.mp hf
      refine w_cv M (w_runV C M g27 rfl (c_M_append h27) (cwV 2 C.ts (hgV wm_929 wm_931 sel_M_append wm_6 wm_932) rfl rfl rfl (by decide +kernel) ⟨Nat.le_of_ble_eq_true rfl, Nat.le_of_ble_eq_true rfl⟩) rfl hl.1 rfl (Nat.zero_le _) dM_write_27 ⟨Nat.le_refl _, Nat.le_refl _⟩) (fun H locs M => ?_)
      refine w_aload_n C.x C.b dM_write_30 rfl (lv_at hl 0 rfl) ?_
      refine lv_iload_n C.x C.b dM_write_31 rfl (lv_at hl 1 rfl) ?_
      obtain ⟨o32, g32, hf⟩ := Option.bind_eq_some_iff.mp hf
      obtain ⟨v32, h32, hf⟩ := Option.bind_eq_some_iff.mp hf
      refine w_ci M (w_runV C M g32 rfl (c_M_goesOn h32) (cwV 1 C.ts (hgV wm_981 wm_983 sel_M_goesOn wm_6 wm_984) rfl rfl rfl (by decide +kernel) ⟨Nat.le_of_ble_eq_true rfl, Nat.le_of_ble_eq_true rfl⟩) rfl hl.1 rfl (Nat.zero_le _) dM_write_32 ⟨Nat.le_refl _, Nat.le_refl _⟩) (fun H locs M => ?_)
      cases hf
      exact w_iret C M hr hlk rfl (Nat.le_refl _) (Nat.le_refl _) dM_write_35 rfl rfl
    · rw [if_pos c18] at hf
      refine lv_bipush (v := 104) C.x C.b dM_write_21 (by decide) ?_
      cases hf
      exact w_iret C M hr hlk rfl (Nat.le_refl _) (Nat.le_refl _) dM_write_23 rfl rfl
  · rw [if_pos c4] at hf
    refine lv_bipush (v := 102) C.x C.b dM_write_7 (by decide) ?_
    cases hf
    exact w_iret C M hr hlk rfl (Nat.le_refl _) (Nat.le_refl _) dM_write_9 rfl rfl
theorem dM_copy_0 : decode prog_11_method_40_code 0 = .ok (.iload_n 2, 1) := by decide +kernel
theorem dM_copy_1 : decode prog_11_method_40_code 1 = .ok (.invokestatic 206, 3) := by decide +kernel
theorem dM_copy_4 : decode prog_11_method_40_code 4 = .ok (.ifCond .eq 10, 3) := by decide +kernel
theorem dM_copy_7 : decode prog_11_method_40_code 7 = .ok (.iload_n 3, 1) := by decide +kernel
theorem dM_copy_8 : decode prog_11_method_40_code 8 = .ok (.invokestatic 206, 3) := by decide +kernel
theorem dM_copy_11 : decode prog_11_method_40_code 11 = .ok (.ifCond .ne 6, 3) := by decide +kernel
theorem dM_copy_14 : decode prog_11_method_40_code 14 = .ok (.bipush 102, 2) := by decide +kernel
theorem dM_copy_16 : decode prog_11_method_40_code 16 = .ok (.ireturn, 1) := by decide +kernel
theorem dM_copy_17 : decode prog_11_method_40_code 17 = .ok (.aload_n 0, 1) := by decide +kernel
theorem dM_copy_18 : decode prog_11_method_40_code 18 = .ok (.getfield 42, 3) := by decide +kernel
theorem dM_copy_21 : decode prog_11_method_40_code 21 = .ok (.iload_n 2, 1) := by decide +kernel
theorem dM_copy_22 : decode prog_11_method_40_code 22 = .ok (.baload, 1) := by decide +kernel
theorem dM_copy_23 : decode prog_11_method_40_code 23 = .ok (.ifCond .ne 6, 3) := by decide +kernel
theorem dM_copy_26 : decode prog_11_method_40_code 26 = .ok (.bipush 101, 2) := by decide +kernel
theorem dM_copy_28 : decode prog_11_method_40_code 28 = .ok (.ireturn, 1) := by decide +kernel
theorem dM_copy_29 : decode prog_11_method_40_code 29 = .ok (.aload_n 0, 1) := by decide +kernel
theorem dM_copy_30 : decode prog_11_method_40_code 30 = .ok (.getfield 42, 3) := by decide +kernel
theorem dM_copy_33 : decode prog_11_method_40_code 33 = .ok (.iload_n 3, 1) := by decide +kernel
theorem dM_copy_34 : decode prog_11_method_40_code 34 = .ok (.iconst 1, 1) := by decide +kernel
theorem dM_copy_35 : decode prog_11_method_40_code 35 = .ok (.bastore, 1) := by decide +kernel
theorem dM_copy_36 : decode prog_11_method_40_code 36 = .ok (.aload_n 0, 1) := by decide +kernel
theorem dM_copy_37 : decode prog_11_method_40_code 37 = .ok (.getfield 45, 3) := by decide +kernel
theorem dM_copy_40 : decode prog_11_method_40_code 40 = .ok (.iload_n 3, 1) := by decide +kernel
theorem dM_copy_41 : decode prog_11_method_40_code 41 = .ok (.aload_n 0, 1) := by decide +kernel
theorem dM_copy_42 : decode prog_11_method_40_code 42 = .ok (.getfield 45, 3) := by decide +kernel
theorem dM_copy_45 : decode prog_11_method_40_code 45 = .ok (.iload_n 2, 1) := by decide +kernel
theorem dM_copy_46 : decode prog_11_method_40_code 46 = .ok (.iaload, 1) := by decide +kernel
theorem dM_copy_47 : decode prog_11_method_40_code 47 = .ok (.iastore, 1) := by decide +kernel
theorem dM_copy_48 : decode prog_11_method_40_code 48 = .ok (.iconst 0, 1) := by decide +kernel
theorem dM_copy_49 : decode prog_11_method_40_code 49 = .ok (.istore 4, 2) := by decide +kernel
theorem dM_copy_51 : decode prog_11_method_40_code 51 = .ok (.iload 4, 2) := by decide +kernel
theorem dM_copy_53 : decode prog_11_method_40_code 53 = .ok (.bipush 40, 2) := by decide +kernel
theorem dM_copy_55 : decode prog_11_method_40_code 55 = .ok (.if_icmp .ge 33, 3) := by decide +kernel
theorem dM_copy_58 : decode prog_11_method_40_code 58 = .ok (.aload_n 0, 1) := by decide +kernel
theorem dM_copy_59 : decode prog_11_method_40_code 59 = .ok (.getfield 48, 3) := by decide +kernel
theorem dM_copy_62 : decode prog_11_method_40_code 62 = .ok (.bipush 40, 2) := by decide +kernel
theorem dM_copy_64 : decode prog_11_method_40_code 64 = .ok (.iload_n 3, 1) := by decide +kernel
theorem dM_copy_65 : decode prog_11_method_40_code 65 = .ok (.imul, 1) := by decide +kernel
theorem dM_copy_66 : decode prog_11_method_40_code 66 = .ok (.iload 4, 2) := by decide +kernel
theorem dM_copy_68 : decode prog_11_method_40_code 68 = .ok (.iadd, 1) := by decide +kernel
theorem dM_copy_69 : decode prog_11_method_40_code 69 = .ok (.aload_n 0, 1) := by decide +kernel
theorem dM_copy_70 : decode prog_11_method_40_code 70 = .ok (.getfield 48, 3) := by decide +kernel
theorem dM_copy_73 : decode prog_11_method_40_code 73 = .ok (.bipush 40, 2) := by decide +kernel
theorem dM_copy_75 : decode prog_11_method_40_code 75 = .ok (.iload_n 2, 1) := by decide +kernel
theorem dM_copy_76 : decode prog_11_method_40_code 76 = .ok (.imul, 1) := by decide +kernel
theorem dM_copy_77 : decode prog_11_method_40_code 77 = .ok (.iload 4, 2) := by decide +kernel
theorem dM_copy_79 : decode prog_11_method_40_code 79 = .ok (.iadd, 1) := by decide +kernel
theorem dM_copy_80 : decode prog_11_method_40_code 80 = .ok (.iaload, 1) := by decide +kernel
theorem dM_copy_81 : decode prog_11_method_40_code 81 = .ok (.iastore, 1) := by decide +kernel
theorem dM_copy_82 : decode prog_11_method_40_code 82 = .ok (.iinc 4 1, 3) := by decide +kernel
theorem dM_copy_85 : decode prog_11_method_40_code 85 = .ok (.goto (-34), 3) := by decide +kernel
theorem dM_copy_88 : decode prog_11_method_40_code 88 = .ok (.aload_n 0, 1) := by decide +kernel
theorem dM_copy_89 : decode prog_11_method_40_code 89 = .ok (.iload_n 1, 1) := by decide +kernel
theorem dM_copy_90 : decode prog_11_method_40_code 90 = .ok (.invokevirtual 257, 3) := by decide +kernel
theorem dM_copy_93 : decode prog_11_method_40_code 93 = .ok (.ireturn, 1) := by decide +kernel
abbrev rm_M_copy : Room := { frames := 2, cells := 0, slots := 0, locals := 42 }
def f_M_copy_b51 (N : Nat) : Nat → Option Nat → Int32 → Int32 → Int32 → Int32 → hE → Option (Int32 × hE)
  | 0, _, _, _, _, _, _ => none
  | n + 1, y0, y1, y2, y3, y4, E => (
  if 40 ≤ y4 then (
  (gO E y0 7).bind fun o90 =>
  (f_M_goesOn o90.1 y1 E).bind fun v90 =>
  some (v90.1, v90.2)
  ) else (
  (gR E y0 7 14).bind fun v59 =>
  (gR E y0 7 14).bind fun v70 =>
  (aI E v70 0 ((40 * y2) + y4)).bind fun v80 =>
  (tI E v59 0 ((40 * y3) + y4) v80).bind fun E81 =>
  f_M_copy_b51 N n y0 y1 y2 y3 (y4 + 1) E81
  ))
set_option maxHeartbeats 4000000 in
set_option maxRecDepth 100000 in
theorem b_M_copy_51 {p : Program} {l : Launch} {e : Env} {s : State} {m : MethodId} {args : Array Value} {below : List Frame} {meth : Method} {c : Code} {D : va_G} {kA : Nat → ClassId} {S : hE} {g : Nat → Nat} {n0 nx : Nat} {N : Nat} {res : Int32 × hE} (C : hX p s m args c prog_11_method_40_code 5 R_M ws_M_copy D kA S g n0) (hr : meth.sig.returnType = (some .int)) (hlk : meth.locks = false) (hnm : meth.name = "copy") : ∀ n : Nat, ∀ (y0 : Option Nat) (y1 : Int32) (y2 : Int32) (y3 : Int32) (y4 : Int32) (E : hE) (H : Heap) (locs : List Loc) (ls : Array Slot), hY D kA n0 s E nx H locs → lv_has ls 5 [(0, va_rf y0), (1, .int y1), (2, .int y2), (3, .int y3), (4, .int y4)] → f_M_copy_b51 N n y0 y1 y2 y3 y4 E = some res → W p l e rm_M_copy s m args below meth c H locs 0 0 (MQ below (va_Qi (fun r w => r = res.1 ∧ w = (res.2, nx)) (hJ D kA S g n0) (fun q => n0 ≤ q)) args s 0 0 (fun q => n0 ≤ q)) (F0 m 51 ls []) := by
  intro n
  induction n with
  | zero =>
    intro y0 y1 y2 y3 y4 E H locs ls M hl hf
    simp [f_M_copy_b51] at hf
  | succ n ih =>
    intro y0 y1 y2 y3 y4 E H locs ls M hl hf
    rw [f_M_copy_b51] at hf
    refine lv_iload C.x C.b dM_copy_51 (lv_at hl 4 rfl) ?_
    refine lv_bipush (v := 40) C.x C.b dM_copy_53 (by decide) ?_
    refine lv_icmp_ge (tgt := 88) C.x C.b dM_copy_55 (by decide) (fun c55 => ?_) (fun c55 => ?_)
    · rw [if_pos c55] at hf
      refine w_aload_n C.x C.b dM_copy_88 rfl (lv_at hl 0 rfl) ?_
      refine lv_iload_n C.x C.b dM_copy_89 rfl (lv_at hl 1 rfl) ?_
      obtain ⟨o90, g90, hf⟩ := Option.bind_eq_some_iff.mp hf
      obtain ⟨v90, h90, hf⟩ := Option.bind_eq_some_iff.mp hf
      refine w_ci M (w_runV C M g90 rfl (c_M_goesOn h90) (cwV 1 C.ts (hgV wm_981 wm_983 sel_M_goesOn wm_6 wm_984) rfl rfl rfl (by decide +kernel) ⟨Nat.le_of_ble_eq_true rfl, Nat.le_of_ble_eq_true rfl⟩) rfl hl.1 rfl (Nat.zero_le _) dM_copy_90 ⟨Nat.le_refl _, Nat.le_refl _⟩) (fun H locs M => ?_)
      cases hf
      exact w_iret C M hr hlk rfl (Nat.le_refl _) (Nat.le_refl _) dM_copy_93 rfl rfl
    · rw [if_neg c55] at hf
      refine w_aload_n C.x C.b dM_copy_58 rfl (lv_at hl 0 rfl) ?_
      obtain ⟨v59, h59, hf⟩ := Option.bind_eq_some_iff.mp hf
      refine w_getR C M h59 rfl (hm_in in_M) (by decide) (List.mem_cons_of_mem _ wm_737) rfl dM_copy_59 ?_
      refine lv_bipush (v := 40) C.x C.b dM_copy_62 (by decide) ?_
      refine lv_iload_n C.x C.b dM_copy_64 rfl (lv_at hl 3 rfl) ?_
      refine lv_imul C.x C.b dM_copy_65 ?_
      refine lv_iload C.x C.b dM_copy_66 (lv_at hl 4 rfl) ?_
      refine lv_iadd C.x C.b dM_copy_68 ?_
      refine w_aload_n C.x C.b dM_copy_69 rfl (lv_at hl 0 rfl) ?_
      obtain ⟨v70, h70, hf⟩ := Option.bind_eq_some_iff.mp hf
      refine w_getR C M h70 rfl (hm_in in_M) (by decide) (List.mem_cons_of_mem _ wm_737) rfl dM_copy_70 ?_
      refine lv_bipush (v := 40) C.x C.b dM_copy_73 (by decide) ?_
      refine lv_iload_n C.x C.b dM_copy_75 rfl (lv_at hl 2 rfl) ?_
      refine lv_imul C.x C.b dM_copy_76 ?_
      refine lv_iload C.x C.b dM_copy_77 (lv_at hl 4 rfl) ?_
      refine lv_iadd C.x C.b dM_copy_79 ?_
      obtain ⟨v80, h80, hf⟩ := Option.bind_eq_some_iff.mp hf
      refine w_iald C M h80 rfl dM_copy_80 ?_
      obtain ⟨E81, h81, hf⟩ := Option.bind_eq_some_iff.mp hf
      refine w_iast C M h81 rfl dM_copy_81 (fun H locs M => ?_)
      refine lv_iinc (v := y4 + 1) (lv' := [(4, .int (y4 + 1)), (0, va_rf y0), (1, .int y1), (2, .int y2), (3, .int y3)]) C.x C.b dM_copy_82 hl (k := 4) rfl rfl (by decide) rfl (fun ls hl => ?_)
      refine lv_goto (tgt := 51) C.x C.b dM_copy_85 (by decide) ?_
      exact ih _ _ _ _ _ _ _ _ _ M (lv_sub hl [1, 2, 3, 4, 0] rfl) hf
def f_M_copy_b14 (N : Nat) (E : hE) : Option (Int32 × hE) := (
  some (102, E))
set_option maxHeartbeats 4000000 in
set_option maxRecDepth 100000 in
theorem b_M_copy_14 {p : Program} {l : Launch} {e : Env} {s : State} {m : MethodId} {args : Array Value} {below : List Frame} {meth : Method} {c : Code} {D : va_G} {kA : Nat → ClassId} {S : hE} {g : Nat → Nat} {n0 nx : Nat} {N : Nat} {res : Int32 × hE} (C : hX p s m args c prog_11_method_40_code 5 R_M ws_M_copy D kA S g n0) (hr : meth.sig.returnType = (some .int)) (hlk : meth.locks = false) (hnm : meth.name = "copy") : ∀  (E : hE) (H : Heap) (locs : List Loc) (ls : Array Slot), hY D kA n0 s E nx H locs → lv_has ls 5 [] → f_M_copy_b14 N  E = some res → W p l e rm_M_copy s m args below meth c H locs 0 0 (MQ below (va_Qi (fun r w => r = res.1 ∧ w = (res.2, nx)) (hJ D kA S g n0) (fun q => n0 ≤ q)) args s 0 0 (fun q => n0 ≤ q)) (F0 m 14 ls []) := by
  intro E H locs ls M hl hf
  unfold f_M_copy_b14 at hf
  refine lv_bipush (v := 102) C.x C.b dM_copy_14 (by decide) ?_
  cases hf
  exact w_iret C M hr hlk rfl (Nat.le_refl _) (Nat.le_refl _) dM_copy_16 rfl rfl
def f_M_copy (N : Nat) (x0 : Nat) (x1 : Int32) (x2 : Int32) (x3 : Int32) (E : hE) : Option (Int32 × hE) := (
  (f_M_isFile E x2).bind fun v1 =>
  if v1 = 0 then (
  f_M_copy_b14 N E
  ) else (
  (f_M_isFile E x3).bind fun v8 =>
  if v8 = 0 then (
  f_M_copy_b14 N E
  ) else (
  (gR E (some x0) 7 12).bind fun v18 =>
  (aI E v18 1 x2).bind fun v22 =>
  if v22 = 0 then (
  some (101, E)
  ) else (
  (gR E (some x0) 7 12).bind fun v30 =>
  (tZ E v30 1 x3 1).bind fun E35 =>
  (gR E35 (some x0) 7 13).bind fun v37 =>
  (gR E35 (some x0) 7 13).bind fun v42 =>
  (aI E35 v42 0 x2).bind fun v46 =>
  (tI E35 v37 0 x3 v46).bind fun E47 =>
  f_M_copy_b51 N N (some x0) x1 x2 x3 0 E47
  )
  )
  ))
set_option maxHeartbeats 4000000 in
set_option maxRecDepth 100000 in
theorem c_M_copy {l : Launch} {D : va_G} {kA : Nat → ClassId} {S : hE} {g : Nat → Nat} {n0 nx : Nat} {N : Nat} {x0 : Nat} {x1 : Int32} {x2 : Int32} {x3 : Int32} {E : hE} {res : Int32 × hE} (hf : f_M_copy N x0 x1 x2 x3 E = some res) : Met l y_M_copy ws_M_copy rm_M_copy (va_Pc [va_rf (some x0), .int x1, .int x2, .int x3] (hJ D kA S g n0 (E, nx))) (va_Qi (fun r w => r = res.1 ∧ w = (res.2, nx)) (hJ D kA S g n0) (fun q => n0 ≤ q)) 0 0 (fun q => n0 ≤ q) := by
  refine h_met (cc := prog_11_method_40_code) (maxL := 5) (ret := (some .int)) (lvs := [(0, va_rf (some x0)), (1, .int x1), (2, .int x2), (3, .int x3)]) zZ_k (by decide) rfl (by simp [lg_sl, va_rf_cat, cat_i, cat_l, cat_n]) (by simp [lv_args, va_rf_cat, cat_i, cat_l, cat_n]) ?_
  intro p e s m below meth c ls C M hr hlk hnm hl
  unfold f_M_copy at hf
  refine lv_iload_n C.x C.b dM_copy_0 rfl (lv_at hl 2 rfl) ?_
  obtain ⟨v1, h1, hf⟩ := Option.bind_eq_some_iff.mp hf
  refine w_ci M (w_runS C M (c_M_isFile h1) (cwS 1 C.ts (hgS wm_926 wm_927 wm_6 wm_928) rfl rfl rfl (by decide +kernel) ⟨Nat.le_of_ble_eq_true rfl, Nat.le_of_ble_eq_true rfl⟩) rfl hl.1 rfl (Nat.zero_le _) dM_copy_1 ⟨Nat.le_refl _, Nat.le_refl _⟩) (fun H locs M => ?_)
  refine lv_if_eq (tgt := 14) C.x C.b dM_copy_4 (by decide) (fun c4 => ?_) (fun c4 => ?_)
  · rw [if_pos c4] at hf
    exact b_M_copy_14 C hr hlk hnm _ _ _ _ M (lv_sub hl [] rfl) hf
  · rw [if_neg c4] at hf
    refine lv_iload_n C.x C.b dM_copy_7 rfl (lv_at hl 3 rfl) ?_
    obtain ⟨v8, h8, hf⟩ := Option.bind_eq_some_iff.mp hf
    refine w_ci M (w_runS C M (c_M_isFile h8) (cwS 1 C.ts (hgS wm_926 wm_927 wm_6 wm_928) rfl rfl rfl (by decide +kernel) ⟨Nat.le_of_ble_eq_true rfl, Nat.le_of_ble_eq_true rfl⟩) rfl hl.1 rfl (Nat.zero_le _) dM_copy_8 ⟨Nat.le_refl _, Nat.le_refl _⟩) (fun H locs M => ?_)
    refine lv_if_ne (tgt := 17) C.x C.b dM_copy_11 (by decide) (fun c11 => ?_) (fun c11 => ?_)
    · rw [if_neg c11] at hf
      refine w_aload_n C.x C.b dM_copy_17 rfl (lv_at hl 0 rfl) ?_
      obtain ⟨v18, h18, hf⟩ := Option.bind_eq_some_iff.mp hf
      refine w_getR C M h18 rfl (hm_in in_M) (by decide) (List.mem_cons_of_mem _ wm_735) rfl dM_copy_18 ?_
      refine lv_iload_n C.x C.b dM_copy_21 rfl (lv_at hl 2 rfl) ?_
      obtain ⟨v22, h22, hf⟩ := Option.bind_eq_some_iff.mp hf
      refine w_zald C M h22 rfl dM_copy_22 ?_
      refine lv_if_ne (tgt := 29) C.x C.b dM_copy_23 (by decide) (fun c23 => ?_) (fun c23 => ?_)
      · rw [if_neg c23] at hf
        refine w_aload_n C.x C.b dM_copy_29 rfl (lv_at hl 0 rfl) ?_
        obtain ⟨v30, h30, hf⟩ := Option.bind_eq_some_iff.mp hf
        refine w_getR C M h30 rfl (hm_in in_M) (by decide) (List.mem_cons_of_mem _ wm_735) rfl dM_copy_30 ?_
        refine lv_iload_n C.x C.b dM_copy_33 rfl (lv_at hl 3 rfl) ?_
        refine lv_iconst (v := 1) C.x C.b dM_copy_34 (by decide) ?_
        obtain ⟨E35, h35, hf⟩ := Option.bind_eq_some_iff.mp hf
        refine w_zast C M h35 rfl dM_copy_35 (fun H locs M => ?_)
        refine w_aload_n C.x C.b dM_copy_36 rfl (lv_at hl 0 rfl) ?_
        obtain ⟨v37, h37, hf⟩ := Option.bind_eq_some_iff.mp hf
        refine w_getR C M h37 rfl (hm_in in_M) (by decide) (List.mem_cons_of_mem _ wm_736) rfl dM_copy_37 ?_
        refine lv_iload_n C.x C.b dM_copy_40 rfl (lv_at hl 3 rfl) ?_
        refine w_aload_n C.x C.b dM_copy_41 rfl (lv_at hl 0 rfl) ?_
        obtain ⟨v42, h42, hf⟩ := Option.bind_eq_some_iff.mp hf
        refine w_getR C M h42 rfl (hm_in in_M) (by decide) (List.mem_cons_of_mem _ wm_736) rfl dM_copy_42 ?_
        refine lv_iload_n C.x C.b dM_copy_45 rfl (lv_at hl 2 rfl) ?_
        obtain ⟨v46, h46, hf⟩ := Option.bind_eq_some_iff.mp hf
        refine w_iald C M h46 rfl dM_copy_46 ?_
        obtain ⟨E47, h47, hf⟩ := Option.bind_eq_some_iff.mp hf
        refine w_iast C M h47 rfl dM_copy_47 (fun H locs M => ?_)
        refine lv_iconst (v := 0) C.x C.b dM_copy_48 (by decide) ?_
        refine lv_istore (lv' := [(4, .int 0), (0, va_rf (some x0)), (1, .int x1), (2, .int x2), (3, .int x3)]) C.x C.b dM_copy_49 hl (by decide) rfl (fun ls hl => ?_)
        exact b_M_copy_51 C hr hlk hnm N _ _ _ _ _ _ _ _ _ M (lv_sub hl [1, 2, 3, 4, 0] rfl) hf
      · rw [if_pos c23] at hf
        refine lv_bipush (v := 101) C.x C.b dM_copy_26 (by decide) ?_
        cases hf
        exact w_iret C M hr hlk rfl (Nat.le_refl _) (Nat.le_refl _) dM_copy_28 rfl rfl
    · rw [if_pos c11] at hf
      exact b_M_copy_14 C hr hlk hnm _ _ _ _ M (lv_sub hl [] rfl) hf
theorem dM_withFiles_0 : decode prog_11_method_37_code 0 = .ok (.aload_n 0, 1) := by decide +kernel
theorem dM_withFiles_1 : decode prog_11_method_37_code 1 = .ok (.getfield 32, 3) := by decide +kernel
theorem dM_withFiles_4 : decode prog_11_method_37_code 4 = .ok (.iconst 0, 1) := by decide +kernel
theorem dM_withFiles_5 : decode prog_11_method_37_code 5 = .ok (.laload, 1) := by decide +kernel
theorem dM_withFiles_6 : decode prog_11_method_37_code 6 = .ok (.lstore_n 2, 1) := by decide +kernel
theorem dM_withFiles_7 : decode prog_11_method_37_code 7 = .ok (.lload_n 2, 1) := by decide +kernel
theorem dM_withFiles_8 : decode prog_11_method_37_code 8 = .ok (.ldc2_w 156, 3) := by decide +kernel
theorem dM_withFiles_11 : decode prog_11_method_37_code 11 = .ok (.lcmp, 1) := by decide +kernel
theorem dM_withFiles_12 : decode prog_11_method_37_code 12 = .ok (.ifCond .ne 51, 3) := by decide +kernel
theorem dM_withFiles_15 : decode prog_11_method_37_code 15 = .ok (.aload_n 0, 1) := by decide +kernel
theorem dM_withFiles_16 : decode prog_11_method_37_code 16 = .ok (.iload_n 1, 1) := by decide +kernel
theorem dM_withFiles_17 : decode prog_11_method_37_code 17 = .ok (.iconst 2, 1) := by decide +kernel
theorem dM_withFiles_18 : decode prog_11_method_37_code 18 = .ok (.invokevirtual 263, 3) := by decide +kernel
theorem dM_withFiles_21 : decode prog_11_method_37_code 21 = .ok (.istore 4, 2) := by decide +kernel
theorem dM_withFiles_23 : decode prog_11_method_37_code 23 = .ok (.iload 4, 2) := by decide +kernel
theorem dM_withFiles_25 : decode prog_11_method_37_code 25 = .ok (.invokestatic 206, 3) := by decide +kernel
theorem dM_withFiles_28 : decode prog_11_method_37_code 28 = .ok (.ifCond .eq 32, 3) := by decide +kernel
theorem dM_withFiles_31 : decode prog_11_method_37_code 31 = .ok (.aload_n 0, 1) := by decide +kernel
theorem dM_withFiles_32 : decode prog_11_method_37_code 32 = .ok (.iload_n 1, 1) := by decide +kernel
theorem dM_withFiles_33 : decode prog_11_method_37_code 33 = .ok (.aload_n 0, 1) := by decide +kernel
theorem dM_withFiles_34 : decode prog_11_method_37_code 34 = .ok (.getfield 42, 3) := by decide +kernel
theorem dM_withFiles_37 : decode prog_11_method_37_code 37 = .ok (.iload 4, 2) := by decide +kernel
theorem dM_withFiles_39 : decode prog_11_method_37_code 39 = .ok (.baload, 1) := by decide +kernel
theorem dM_withFiles_40 : decode prog_11_method_37_code 40 = .ok (.ifCond .eq 13, 3) := by decide +kernel
theorem dM_withFiles_43 : decode prog_11_method_37_code 43 = .ok (.aload_n 0, 1) := by decide +kernel
theorem dM_withFiles_44 : decode prog_11_method_37_code 44 = .ok (.getfield 45, 3) := by decide +kernel
theorem dM_withFiles_47 : decode prog_11_method_37_code 47 = .ok (.iload 4, 2) := by decide +kernel
theorem dM_withFiles_49 : decode prog_11_method_37_code 49 = .ok (.iaload, 1) := by decide +kernel
theorem dM_withFiles_50 : decode prog_11_method_37_code 50 = .ok (.goto 4, 3) := by decide +kernel
theorem dM_withFiles_53 : decode prog_11_method_37_code 53 = .ok (.iconst (-1), 1) := by decide +kernel
theorem dM_withFiles_54 : decode prog_11_method_37_code 54 = .ok (.invokevirtual 267, 3) := by decide +kernel
theorem dM_withFiles_57 : decode prog_11_method_37_code 57 = .ok (.goto 5, 3) := by decide +kernel
theorem dM_withFiles_60 : decode prog_11_method_37_code 60 = .ok (.bipush 102, 2) := by decide +kernel
theorem dM_withFiles_62 : decode prog_11_method_37_code 62 = .ok (.ireturn, 1) := by decide +kernel
theorem dM_withFiles_63 : decode prog_11_method_37_code 63 = .ok (.lload_n 2, 1) := by decide +kernel
theorem dM_withFiles_64 : decode prog_11_method_37_code 64 = .ok (.ldc2_w 166, 3) := by decide +kernel
theorem dM_withFiles_67 : decode prog_11_method_37_code 67 = .ok (.lcmp, 1) := by decide +kernel
theorem dM_withFiles_68 : decode prog_11_method_37_code 68 = .ok (.ifCond .ne 21, 3) := by decide +kernel
theorem dM_withFiles_71 : decode prog_11_method_37_code 71 = .ok (.aload_n 0, 1) := by decide +kernel
theorem dM_withFiles_72 : decode prog_11_method_37_code 72 = .ok (.iload_n 1, 1) := by decide +kernel
theorem dM_withFiles_73 : decode prog_11_method_37_code 73 = .ok (.aload_n 0, 1) := by decide +kernel
theorem dM_withFiles_74 : decode prog_11_method_37_code 74 = .ok (.iload_n 1, 1) := by decide +kernel
theorem dM_withFiles_75 : decode prog_11_method_37_code 75 = .ok (.iconst 2, 1) := by decide +kernel
theorem dM_withFiles_76 : decode prog_11_method_37_code 76 = .ok (.invokevirtual 263, 3) := by decide +kernel
theorem dM_withFiles_79 : decode prog_11_method_37_code 79 = .ok (.aload_n 0, 1) := by decide +kernel
theorem dM_withFiles_80 : decode prog_11_method_37_code 80 = .ok (.iload_n 1, 1) := by decide +kernel
theorem dM_withFiles_81 : decode prog_11_method_37_code 81 = .ok (.iconst 3, 1) := by decide +kernel
theorem dM_withFiles_82 : decode prog_11_method_37_code 82 = .ok (.invokevirtual 263, 3) := by decide +kernel
theorem dM_withFiles_85 : decode prog_11_method_37_code 85 = .ok (.invokevirtual 299, 3) := by decide +kernel
theorem dM_withFiles_88 : decode prog_11_method_37_code 88 = .ok (.ireturn, 1) := by decide +kernel
theorem dM_withFiles_89 : decode prog_11_method_37_code 89 = .ok (.aload_n 0, 1) := by decide +kernel
theorem dM_withFiles_90 : decode prog_11_method_37_code 90 = .ok (.iload_n 1, 1) := by decide +kernel
theorem dM_withFiles_91 : decode prog_11_method_37_code 91 = .ok (.iconst 1, 1) := by decide +kernel
theorem dM_withFiles_92 : decode prog_11_method_37_code 92 = .ok (.invokevirtual 263, 3) := by decide +kernel
theorem dM_withFiles_95 : decode prog_11_method_37_code 95 = .ok (.istore 4, 2) := by decide +kernel
theorem dM_withFiles_97 : decode prog_11_method_37_code 97 = .ok (.lload_n 2, 1) := by decide +kernel
theorem dM_withFiles_98 : decode prog_11_method_37_code 98 = .ok (.ldc2_w 162, 3) := by decide +kernel
theorem dM_withFiles_101 : decode prog_11_method_37_code 101 = .ok (.lcmp, 1) := by decide +kernel
theorem dM_withFiles_102 : decode prog_11_method_37_code 102 = .ok (.ifCond .ne 21, 3) := by decide +kernel
theorem dM_withFiles_105 : decode prog_11_method_37_code 105 = .ok (.aload_n 0, 1) := by decide +kernel
theorem dM_withFiles_106 : decode prog_11_method_37_code 106 = .ok (.iload_n 1, 1) := by decide +kernel
theorem dM_withFiles_107 : decode prog_11_method_37_code 107 = .ok (.iload 4, 2) := by decide +kernel
theorem dM_withFiles_109 : decode prog_11_method_37_code 109 = .ok (.aload_n 0, 1) := by decide +kernel
theorem dM_withFiles_110 : decode prog_11_method_37_code 110 = .ok (.iload_n 1, 1) := by decide +kernel
theorem dM_withFiles_111 : decode prog_11_method_37_code 111 = .ok (.iconst 2, 1) := by decide +kernel
theorem dM_withFiles_112 : decode prog_11_method_37_code 112 = .ok (.invokevirtual 263, 3) := by decide +kernel
theorem dM_withFiles_115 : decode prog_11_method_37_code 115 = .ok (.sipush 255, 3) := by decide +kernel
theorem dM_withFiles_118 : decode prog_11_method_37_code 118 = .ok (.iand, 1) := by decide +kernel
theorem dM_withFiles_119 : decode prog_11_method_37_code 119 = .ok (.invokevirtual 302, 3) := by decide +kernel
theorem dM_withFiles_122 : decode prog_11_method_37_code 122 = .ok (.ireturn, 1) := by decide +kernel
theorem dM_withFiles_123 : decode prog_11_method_37_code 123 = .ok (.lload_n 2, 1) := by decide +kernel
theorem dM_withFiles_124 : decode prog_11_method_37_code 124 = .ok (.ldc2_w 164, 3) := by decide +kernel
theorem dM_withFiles_127 : decode prog_11_method_37_code 127 = .ok (.lcmp, 1) := by decide +kernel
theorem dM_withFiles_128 : decode prog_11_method_37_code 128 = .ok (.ifCond .ne 17, 3) := by decide +kernel
theorem dM_withFiles_131 : decode prog_11_method_37_code 131 = .ok (.aload_n 0, 1) := by decide +kernel
theorem dM_withFiles_132 : decode prog_11_method_37_code 132 = .ok (.iload_n 1, 1) := by decide +kernel
theorem dM_withFiles_133 : decode prog_11_method_37_code 133 = .ok (.iload 4, 2) := by decide +kernel
theorem dM_withFiles_135 : decode prog_11_method_37_code 135 = .ok (.aload_n 0, 1) := by decide +kernel
theorem dM_withFiles_136 : decode prog_11_method_37_code 136 = .ok (.iload_n 1, 1) := by decide +kernel
theorem dM_withFiles_137 : decode prog_11_method_37_code 137 = .ok (.iconst 2, 1) := by decide +kernel
theorem dM_withFiles_138 : decode prog_11_method_37_code 138 = .ok (.invokevirtual 263, 3) := by decide +kernel
theorem dM_withFiles_141 : decode prog_11_method_37_code 141 = .ok (.invokevirtual 305, 3) := by decide +kernel
theorem dM_withFiles_144 : decode prog_11_method_37_code 144 = .ok (.ireturn, 1) := by decide +kernel
theorem dM_withFiles_145 : decode prog_11_method_37_code 145 = .ok (.iload 4, 2) := by decide +kernel
theorem dM_withFiles_147 : decode prog_11_method_37_code 147 = .ok (.invokestatic 206, 3) := by decide +kernel
theorem dM_withFiles_150 : decode prog_11_method_37_code 150 = .ok (.ifCond .ne 6, 3) := by decide +kernel
theorem dM_withFiles_153 : decode prog_11_method_37_code 153 = .ok (.bipush 102, 2) := by decide +kernel
theorem dM_withFiles_155 : decode prog_11_method_37_code 155 = .ok (.ireturn, 1) := by decide +kernel
theorem dM_withFiles_156 : decode prog_11_method_37_code 156 = .ok (.aload_n 0, 1) := by decide +kernel
theorem dM_withFiles_157 : decode prog_11_method_37_code 157 = .ok (.getfield 42, 3) := by decide +kernel
theorem dM_withFiles_160 : decode prog_11_method_37_code 160 = .ok (.iload 4, 2) := by decide +kernel
theorem dM_withFiles_162 : decode prog_11_method_37_code 162 = .ok (.baload, 1) := by decide +kernel
theorem dM_withFiles_163 : decode prog_11_method_37_code 163 = .ok (.ifCond .ne 6, 3) := by decide +kernel
theorem dM_withFiles_166 : decode prog_11_method_37_code 166 = .ok (.bipush 101, 2) := by decide +kernel
theorem dM_withFiles_168 : decode prog_11_method_37_code 168 = .ok (.ireturn, 1) := by decide +kernel
theorem dM_withFiles_169 : decode prog_11_method_37_code 169 = .ok (.aload_n 0, 1) := by decide +kernel
theorem dM_withFiles_170 : decode prog_11_method_37_code 170 = .ok (.getfield 42, 3) := by decide +kernel
theorem dM_withFiles_173 : decode prog_11_method_37_code 173 = .ok (.iload 4, 2) := by decide +kernel
theorem dM_withFiles_175 : decode prog_11_method_37_code 175 = .ok (.iconst 0, 1) := by decide +kernel
theorem dM_withFiles_176 : decode prog_11_method_37_code 176 = .ok (.bastore, 1) := by decide +kernel
theorem dM_withFiles_177 : decode prog_11_method_37_code 177 = .ok (.aload_n 0, 1) := by decide +kernel
theorem dM_withFiles_178 : decode prog_11_method_37_code 178 = .ok (.getfield 45, 3) := by decide +kernel
theorem dM_withFiles_181 : decode prog_11_method_37_code 181 = .ok (.iload 4, 2) := by decide +kernel
theorem dM_withFiles_183 : decode prog_11_method_37_code 183 = .ok (.iconst 0, 1) := by decide +kernel
theorem dM_withFiles_184 : decode prog_11_method_37_code 184 = .ok (.iastore, 1) := by decide +kernel
theorem dM_withFiles_185 : decode prog_11_method_37_code 185 = .ok (.aload_n 0, 1) := by decide +kernel
theorem dM_withFiles_186 : decode prog_11_method_37_code 186 = .ok (.iload_n 1, 1) := by decide +kernel
theorem dM_withFiles_187 : decode prog_11_method_37_code 187 = .ok (.invokevirtual 257, 3) := by decide +kernel
theorem dM_withFiles_190 : decode prog_11_method_37_code 190 = .ok (.ireturn, 1) := by decide +kernel
abbrev rm_M_withFiles : Room := { frames := 3, cells := 0, slots := 0, locals := 68 }
def f_M_withFiles_b62 (N : Nat) (t0 : Int32) (E : hE) : Option (Int32 × hE) := (
  some (t0, E))
set_option maxHeartbeats 4000000 in
set_option maxRecDepth 100000 in
theorem b_M_withFiles_62 {p : Program} {l : Launch} {e : Env} {s : State} {m : MethodId} {args : Array Value} {below : List Frame} {meth : Method} {c : Code} {D : va_G} {kA : Nat → ClassId} {S : hE} {g : Nat → Nat} {n0 nx : Nat} {N : Nat} {res : Int32 × hE} (C : hX p s m args c prog_11_method_37_code 5 R_M ws_M_withFiles D kA S g n0) (hr : meth.sig.returnType = (some .int)) (hlk : meth.locks = false) (hnm : meth.name = "withFiles") : ∀ (t0 : Int32) (E : hE) (H : Heap) (locs : List Loc) (ls : Array Slot), hY D kA n0 s E nx H locs → lv_has ls 5 [] → f_M_withFiles_b62 N  t0 E = some res → W p l e rm_M_withFiles s m args below meth c H locs 0 0 (MQ below (va_Qi (fun r w => r = res.1 ∧ w = (res.2, nx)) (hJ D kA S g n0) (fun q => n0 ≤ q)) args s 0 0 (fun q => n0 ≤ q)) (F0 m 62 ls [.int t0]) := by
  intro t0 E H locs ls M hl hf
  unfold f_M_withFiles_b62 at hf
  cases hf
  exact w_iret C M hr hlk rfl (Nat.le_refl _) (Nat.le_refl _) dM_withFiles_62 rfl rfl
def f_M_withFiles_b54 (N : Nat) (t0 : Option Nat) (t1 : Int32) (t2 : Int32) (E : hE) : Option (Int32 × hE) := (
  (gO E t0 7).bind fun o54 =>
  (f_M_gives o54.1 t1 t2 E).bind fun v54 =>
  f_M_withFiles_b62 N v54.1 v54.2)
set_option maxHeartbeats 4000000 in
set_option maxRecDepth 100000 in
theorem b_M_withFiles_54 {p : Program} {l : Launch} {e : Env} {s : State} {m : MethodId} {args : Array Value} {below : List Frame} {meth : Method} {c : Code} {D : va_G} {kA : Nat → ClassId} {S : hE} {g : Nat → Nat} {n0 nx : Nat} {N : Nat} {res : Int32 × hE} (C : hX p s m args c prog_11_method_37_code 5 R_M ws_M_withFiles D kA S g n0) (hr : meth.sig.returnType = (some .int)) (hlk : meth.locks = false) (hnm : meth.name = "withFiles") : ∀ (t0 : Option Nat) (t1 : Int32) (t2 : Int32) (E : hE) (H : Heap) (locs : List Loc) (ls : Array Slot), hY D kA n0 s E nx H locs → lv_has ls 5 [] → f_M_withFiles_b54 N  t0 t1 t2 E = some res → W p l e rm_M_withFiles s m args below meth c H locs 0 0 (MQ below (va_Qi (fun r w => r = res.1 ∧ w = (res.2, nx)) (hJ D kA S g n0) (fun q => n0 ≤ q)) args s 0 0 (fun q => n0 ≤ q)) (F0 m 54 ls [.int t2, .int t1, va_rf t0]) := by
  intro t0 t1 t2 E H locs ls M hl hf
  unfold f_M_withFiles_b54 at hf
  obtain ⟨o54, g54, hf⟩ := Option.bind_eq_some_iff.mp hf
  obtain ⟨v54, h54, hf⟩ := Option.bind_eq_some_iff.mp hf
  refine w_ci M (w_runV C M g54 rfl (c_M_gives h54) (cwV 2 C.ts (hgV wm_973 wm_975 sel_M_gives wm_6 wm_976) rfl rfl rfl (by decide +kernel) ⟨Nat.le_of_ble_eq_true rfl, Nat.le_of_ble_eq_true rfl⟩) rfl hl.1 rfl (Nat.zero_le _) dM_withFiles_54 ⟨Nat.le_refl _, Nat.le_refl _⟩) (fun H locs M => ?_)
  refine lv_goto (tgt := 62) C.x C.b dM_withFiles_57 (by decide) ?_
  exact b_M_withFiles_62 C hr hlk hnm _ _ _ _ _ M (lv_sub hl [] rfl) hf
def f_M_withFiles (N : Nat) (x0 : Nat) (x1 : Int32) (E : hE) : Option (Int32 × hE) := (
  (gR E (some x0) 7 9).bind fun v1 =>
  (aJ E v1 2 0).bind fun v5 =>
  if (lg_cmp v5 1936292453) = 0 then (
  (gO E (some x0) 7).bind fun o18 =>
  (f_M_value N E o18.1 x1 2).bind fun v18 =>
  (f_M_isFile E v18).bind fun v25 =>
  if v25 = 0 then (
  f_M_withFiles_b62 N 102 E
  ) else (
  (gR E (some x0) 7 12).bind fun v34 =>
  (aI E v34 1 v18).bind fun v39 =>
  if v39 = 0 then (
  f_M_withFiles_b54 N (some x0) x1 (-1) E
  ) else (
  (gR E (some x0) 7 13).bind fun v44 =>
  (aI E v44 0 v18).bind fun v49 =>
  f_M_withFiles_b54 N (some x0) x1 v49 E
  )
  )
  ) else (
  if (lg_cmp v5 1919246692) = 0 then (
  (gO E (some x0) 7).bind fun o76 =>
  (f_M_value N E o76.1 x1 2).bind fun v76 =>
  (gO E (some x0) 7).bind fun o82 =>
  (f_M_value N E o82.1 x1 3).bind fun v82 =>
  (gO E (some x0) 7).bind fun o85 =>
  (f_M_read o85.1 x1 v76 v82 E).bind fun v85 =>
  some (v85.1, v85.2)
  ) else (
  (gO E (some x0) 7).bind fun o92 =>
  (f_M_value N E o92.1 x1 1).bind fun v92 =>
  if (lg_cmp v5 513020621925) = 0 then (
  (gO E (some x0) 7).bind fun o112 =>
  (f_M_value N E o112.1 x1 2).bind fun v112 =>
  (gO E (some x0) 7).bind fun o119 =>
  (f_M_write o119.1 x1 v92 (v112 &&& 255) E).bind fun v119 =>
  some (v119.1, v119.2)
  ) else (
  if (lg_cmp v5 1668247673) = 0 then (
  (gO E (some x0) 7).bind fun o138 =>
  (f_M_value N E o138.1 x1 2).bind fun v138 =>
  (gO E (some x0) 7).bind fun o141 =>
  (f_M_copy N o141.1 x1 v92 v138 E).bind fun v141 =>
  some (v141.1, v141.2)
  ) else (
  (f_M_isFile E v92).bind fun v147 =>
  if v147 = 0 then (
  some (102, E)
  ) else (
  (gR E (some x0) 7 12).bind fun v157 =>
  (aI E v157 1 v92).bind fun v162 =>
  if v162 = 0 then (
  some (101, E)
  ) else (
  (gR E (some x0) 7 12).bind fun v170 =>
  (tZ E v170 1 v92 0).bind fun E176 =>
  (gR E176 (some x0) 7 13).bind fun v178 =>
  (tI E176 v178 0 v92 0).bind fun E184 =>
  (gO E184 (some x0) 7).bind fun o187 =>
  (f_M_goesOn o187.1 x1 E184).bind fun v187 =>
  some (v187.1, v187.2)
  )
  )
  )
  )
  )
  ))
set_option maxHeartbeats 4000000 in
set_option maxRecDepth 100000 in
theorem c_M_withFiles {l : Launch} {D : va_G} {kA : Nat → ClassId} {S : hE} {g : Nat → Nat} {n0 nx : Nat} {N : Nat} {x0 : Nat} {x1 : Int32} {E : hE} {res : Int32 × hE} (hf : f_M_withFiles N x0 x1 E = some res) : Met l y_M_withFiles ws_M_withFiles rm_M_withFiles (va_Pc [va_rf (some x0), .int x1] (hJ D kA S g n0 (E, nx))) (va_Qi (fun r w => r = res.1 ∧ w = (res.2, nx)) (hJ D kA S g n0) (fun q => n0 ≤ q)) 0 0 (fun q => n0 ≤ q) := by
  refine h_met (cc := prog_11_method_37_code) (maxL := 5) (ret := (some .int)) (lvs := [(0, va_rf (some x0)), (1, .int x1)]) zZ_k (by decide) rfl (by simp [lg_sl, va_rf_cat, cat_i, cat_l, cat_n]) (by simp [lv_args, va_rf_cat, cat_i, cat_l, cat_n]) ?_
  intro p e s m below meth c ls C M hr hlk hnm hl
  unfold f_M_withFiles at hf
  refine w_aload_n C.x C.b dM_withFiles_0 rfl (lv_at hl 0 rfl) ?_
  obtain ⟨v1, h1, hf⟩ := Option.bind_eq_some_iff.mp hf
  refine w_getR C M h1 rfl (hm_in in_M) (by decide) (List.mem_cons_of_mem _ wm_732) rfl dM_withFiles_1 ?_
  refine lv_iconst (v := 0) C.x C.b dM_withFiles_4 (by decide) ?_
  obtain ⟨v5, h5, hf⟩ := Option.bind_eq_some_iff.mp hf
  refine w_lald C M h5 rfl dM_withFiles_5 ?_
  refine lv_lstore_n (lv' := [(2, .long v5), (0, va_rf (some x0)), (1, .int x1)]) C.x C.b dM_withFiles_6 rfl hl (by decide) rfl (fun ls hl => ?_)
  refine lv_lload_n C.x C.b dM_withFiles_7 rfl (lv_at hl 0 rfl) ?_
  refine lv_ldc2 (v := 1936292453) C.x C.b C.ow (C.ts (.constantLong R_M 156 1936292453) (List.mem_cons_of_mem _ wm_890)) dM_withFiles_8 ?_
  refine W.lcmp C.x C.b dM_withFiles_11 ?_
  refine lv_if_ne (tgt := 63) C.x C.b dM_withFiles_12 (by decide) (fun c12 => ?_) (fun c12 => ?_)
  · rw [if_neg c12] at hf
    refine lv_lload_n C.x C.b dM_withFiles_63 rfl (lv_at hl 0 rfl) ?_
    refine lv_ldc2 (v := 1919246692) C.x C.b C.ow (C.ts (.constantLong R_M 166 1919246692) (List.mem_cons_of_mem _ wm_895)) dM_withFiles_64 ?_
    refine W.lcmp C.x C.b dM_withFiles_67 ?_
    refine lv_if_ne (tgt := 89) C.x C.b dM_withFiles_68 (by decide) (fun c68 => ?_) (fun c68 => ?_)
    · rw [if_neg c68] at hf
      refine w_aload_n C.x C.b dM_withFiles_89 rfl (lv_at hl 1 rfl) ?_
      refine lv_iload_n C.x C.b dM_withFiles_90 rfl (lv_at hl 2 rfl) ?_
      refine lv_iconst (v := 1) C.x C.b dM_withFiles_91 (by decide) ?_
      obtain ⟨o92, g92, hf⟩ := Option.bind_eq_some_iff.mp hf
      obtain ⟨v92, h92, hf⟩ := Option.bind_eq_some_iff.mp hf
      refine w_ci M (w_runV C M g92 rfl (c_M_value h92) (cwV 2 C.ts (hgV wm_965 wm_967 sel_M_value wm_6 wm_968) rfl rfl rfl (by decide +kernel) ⟨Nat.le_of_ble_eq_true rfl, Nat.le_of_ble_eq_true rfl⟩) rfl hl.1 rfl (Nat.zero_le _) dM_withFiles_92 ⟨Nat.le_refl _, Nat.le_refl _⟩) (fun H locs M => ?_)
      refine lv_istore (lv' := [(4, .int v92), (2, .long v5), (0, va_rf (some x0)), (1, .int x1)]) C.x C.b dM_withFiles_95 hl (by decide) rfl (fun ls hl => ?_)
      refine lv_lload_n C.x C.b dM_withFiles_97 rfl (lv_at hl 1 rfl) ?_
      refine lv_ldc2 (v := 513020621925) C.x C.b C.ow (C.ts (.constantLong R_M 162 513020621925) (List.mem_cons_of_mem _ wm_893)) dM_withFiles_98 ?_
      refine W.lcmp C.x C.b dM_withFiles_101 ?_
      refine lv_if_ne (tgt := 123) C.x C.b dM_withFiles_102 (by decide) (fun c102 => ?_) (fun c102 => ?_)
      · rw [if_neg c102] at hf
        refine lv_lload_n C.x C.b dM_withFiles_123 rfl (lv_at hl 1 rfl) ?_
        refine lv_ldc2 (v := 1668247673) C.x C.b C.ow (C.ts (.constantLong R_M 164 1668247673) (List.mem_cons_of_mem _ wm_894)) dM_withFiles_124 ?_
        refine W.lcmp C.x C.b dM_withFiles_127 ?_
        refine lv_if_ne (tgt := 145) C.x C.b dM_withFiles_128 (by decide) (fun c128 => ?_) (fun c128 => ?_)
        · rw [if_neg c128] at hf
          refine lv_iload C.x C.b dM_withFiles_145 (lv_at hl 0 rfl) ?_
          obtain ⟨v147, h147, hf⟩ := Option.bind_eq_some_iff.mp hf
          refine w_ci M (w_runS C M (c_M_isFile h147) (cwS 1 C.ts (hgS wm_926 wm_927 wm_6 wm_928) rfl rfl rfl (by decide +kernel) ⟨Nat.le_of_ble_eq_true rfl, Nat.le_of_ble_eq_true rfl⟩) rfl hl.1 rfl (Nat.zero_le _) dM_withFiles_147 ⟨Nat.le_refl _, Nat.le_refl _⟩) (fun H locs M => ?_)
          refine lv_if_ne (tgt := 156) C.x C.b dM_withFiles_150 (by decide) (fun c150 => ?_) (fun c150 => ?_)
          · rw [if_neg c150] at hf
            refine w_aload_n C.x C.b dM_withFiles_156 rfl (lv_at hl 2 rfl) ?_
            obtain ⟨v157, h157, hf⟩ := Option.bind_eq_some_iff.mp hf
            refine w_getR C M h157 rfl (hm_in in_M) (by decide) (List.mem_cons_of_mem _ wm_735) rfl dM_withFiles_157 ?_
            refine lv_iload C.x C.b dM_withFiles_160 (lv_at hl 0 rfl) ?_
            obtain ⟨v162, h162, hf⟩ := Option.bind_eq_some_iff.mp hf
            refine w_zald C M h162 rfl dM_withFiles_162 ?_
            refine lv_if_ne (tgt := 169) C.x C.b dM_withFiles_163 (by decide) (fun c163 => ?_) (fun c163 => ?_)
            · rw [if_neg c163] at hf
              refine w_aload_n C.x C.b dM_withFiles_169 rfl (lv_at hl 2 rfl) ?_
              obtain ⟨v170, h170, hf⟩ := Option.bind_eq_some_iff.mp hf
              refine w_getR C M h170 rfl (hm_in in_M) (by decide) (List.mem_cons_of_mem _ wm_735) rfl dM_withFiles_170 ?_
              refine lv_iload C.x C.b dM_withFiles_173 (lv_at hl 0 rfl) ?_
              refine lv_iconst (v := 0) C.x C.b dM_withFiles_175 (by decide) ?_
              obtain ⟨E176, h176, hf⟩ := Option.bind_eq_some_iff.mp hf
              refine w_zast C M h176 rfl dM_withFiles_176 (fun H locs M => ?_)
              refine w_aload_n C.x C.b dM_withFiles_177 rfl (lv_at hl 2 rfl) ?_
              obtain ⟨v178, h178, hf⟩ := Option.bind_eq_some_iff.mp hf
              refine w_getR C M h178 rfl (hm_in in_M) (by decide) (List.mem_cons_of_mem _ wm_736) rfl dM_withFiles_178 ?_
              refine lv_iload C.x C.b dM_withFiles_181 (lv_at hl 0 rfl) ?_
              refine lv_iconst (v := 0) C.x C.b dM_withFiles_183 (by decide) ?_
              obtain ⟨E184, h184, hf⟩ := Option.bind_eq_some_iff.mp hf
              refine w_iast C M h184 rfl dM_withFiles_184 (fun H locs M => ?_)
              refine w_aload_n C.x C.b dM_withFiles_185 rfl (lv_at hl 2 rfl) ?_
              refine lv_iload_n C.x C.b dM_withFiles_186 rfl (lv_at hl 3 rfl) ?_
              obtain ⟨o187, g187, hf⟩ := Option.bind_eq_some_iff.mp hf
              obtain ⟨v187, h187, hf⟩ := Option.bind_eq_some_iff.mp hf
              refine w_ci M (w_runV C M g187 rfl (c_M_goesOn h187) (cwV 1 C.ts (hgV wm_981 wm_983 sel_M_goesOn wm_6 wm_984) rfl rfl rfl (by decide +kernel) ⟨Nat.le_of_ble_eq_true rfl, Nat.le_of_ble_eq_true rfl⟩) rfl hl.1 rfl (Nat.zero_le _) dM_withFiles_187 ⟨Nat.le_refl _, Nat.le_refl _⟩) (fun H locs M => ?_)
              cases hf
              exact w_iret C M hr hlk rfl (Nat.le_refl _) (Nat.le_refl _) dM_withFiles_190 rfl rfl
            · rw [if_pos c163] at hf
              refine lv_bipush (v := 101) C.x C.b dM_withFiles_166 (by decide) ?_
              cases hf
              exact w_iret C M hr hlk rfl (Nat.le_refl _) (Nat.le_refl _) dM_withFiles_168 rfl rfl
          · rw [if_pos c150] at hf
            refine lv_bipush (v := 102) C.x C.b dM_withFiles_153 (by decide) ?_
            cases hf
            exact w_iret C M hr hlk rfl (Nat.le_refl _) (Nat.le_refl _) dM_withFiles_155 rfl rfl
        · rw [if_pos c128] at hf
          refine w_aload_n C.x C.b dM_withFiles_131 rfl (lv_at hl 2 rfl) ?_
          refine lv_iload_n C.x C.b dM_withFiles_132 rfl (lv_at hl 3 rfl) ?_
          refine lv_iload C.x C.b dM_withFiles_133 (lv_at hl 0 rfl) ?_
          refine w_aload_n C.x C.b dM_withFiles_135 rfl (lv_at hl 2 rfl) ?_
          refine lv_iload_n C.x C.b dM_withFiles_136 rfl (lv_at hl 3 rfl) ?_
          refine lv_iconst (v := 2) C.x C.b dM_withFiles_137 (by decide) ?_
          obtain ⟨o138, g138, hf⟩ := Option.bind_eq_some_iff.mp hf
          obtain ⟨v138, h138, hf⟩ := Option.bind_eq_some_iff.mp hf
          refine w_ci M (w_runV C M g138 rfl (c_M_value h138) (cwV 2 C.ts (hgV wm_965 wm_967 sel_M_value wm_6 wm_968) rfl rfl rfl (by decide +kernel) ⟨Nat.le_of_ble_eq_true rfl, Nat.le_of_ble_eq_true rfl⟩) rfl hl.1 rfl (by simp [va_rf_cat, cat_i, cat_l, cat_n]) dM_withFiles_138 ⟨Nat.le_refl _, Nat.le_refl _⟩) (fun H locs M => ?_)
          obtain ⟨o141, g141, hf⟩ := Option.bind_eq_some_iff.mp hf
          obtain ⟨v141, h141, hf⟩ := Option.bind_eq_some_iff.mp hf
          refine w_ci M (w_runV C M g141 rfl (c_M_copy h141) (cwV 3 C.ts (hgV wm_1001 wm_1003 sel_M_copy wm_6 wm_1004) rfl rfl rfl (by decide +kernel) ⟨Nat.le_of_ble_eq_true rfl, Nat.le_of_ble_eq_true rfl⟩) rfl hl.1 rfl (Nat.zero_le _) dM_withFiles_141 ⟨Nat.le_refl _, Nat.le_refl _⟩) (fun H locs M => ?_)
          cases hf
          exact w_iret C M hr hlk rfl (Nat.le_refl _) (Nat.le_refl _) dM_withFiles_144 rfl rfl
      · rw [if_pos c102] at hf
        refine w_aload_n C.x C.b dM_withFiles_105 rfl (lv_at hl 2 rfl) ?_
        refine lv_iload_n C.x C.b dM_withFiles_106 rfl (lv_at hl 3 rfl) ?_
        refine lv_iload C.x C.b dM_withFiles_107 (lv_at hl 0 rfl) ?_
        refine w_aload_n C.x C.b dM_withFiles_109 rfl (lv_at hl 2 rfl) ?_
        refine lv_iload_n C.x C.b dM_withFiles_110 rfl (lv_at hl 3 rfl) ?_
        refine lv_iconst (v := 2) C.x C.b dM_withFiles_111 (by decide) ?_
        obtain ⟨o112, g112, hf⟩ := Option.bind_eq_some_iff.mp hf
        obtain ⟨v112, h112, hf⟩ := Option.bind_eq_some_iff.mp hf
        refine w_ci M (w_runV C M g112 rfl (c_M_value h112) (cwV 2 C.ts (hgV wm_965 wm_967 sel_M_value wm_6 wm_968) rfl rfl rfl (by decide +kernel) ⟨Nat.le_of_ble_eq_true rfl, Nat.le_of_ble_eq_true rfl⟩) rfl hl.1 rfl (by simp [va_rf_cat, cat_i, cat_l, cat_n]) dM_withFiles_112 ⟨Nat.le_refl _, Nat.le_refl _⟩) (fun H locs M => ?_)
        refine lv_sipush (v := 255) C.x C.b dM_withFiles_115 (by decide) ?_
        refine lv_iand C.x C.b dM_withFiles_118 ?_
        obtain ⟨o119, g119, hf⟩ := Option.bind_eq_some_iff.mp hf
        obtain ⟨v119, h119, hf⟩ := Option.bind_eq_some_iff.mp hf
        refine w_ci M (w_runV C M g119 rfl (c_M_write h119) (cwV 3 C.ts (hgV wm_997 wm_999 sel_M_write wm_6 wm_1000) rfl rfl rfl (by decide +kernel) ⟨Nat.le_of_ble_eq_true rfl, Nat.le_of_ble_eq_true rfl⟩) rfl hl.1 rfl (Nat.zero_le _) dM_withFiles_119 ⟨Nat.le_refl _, Nat.le_refl _⟩) (fun H locs M => ?_)
        cases hf
        exact w_iret C M hr hlk rfl (Nat.le_refl _) (Nat.le_refl _) dM_withFiles_122 rfl rfl
    · rw [if_pos c68] at hf
      refine w_aload_n C.x C.b dM_withFiles_71 rfl (lv_at hl 1 rfl) ?_
      refine lv_iload_n C.x C.b dM_withFiles_72 rfl (lv_at hl 2 rfl) ?_
      refine w_aload_n C.x C.b dM_withFiles_73 rfl (lv_at hl 1 rfl) ?_
      refine lv_iload_n C.x C.b dM_withFiles_74 rfl (lv_at hl 2 rfl) ?_
      refine lv_iconst (v := 2) C.x C.b dM_withFiles_75 (by decide) ?_
      obtain ⟨o76, g76, hf⟩ := Option.bind_eq_some_iff.mp hf
      obtain ⟨v76, h76, hf⟩ := Option.bind_eq_some_iff.mp hf
      refine w_ci M (w_runV C M g76 rfl (c_M_value h76) (cwV 2 C.ts (hgV wm_965 wm_967 sel_M_value wm_6 wm_968) rfl rfl rfl (by decide +kernel) ⟨Nat.le_of_ble_eq_true rfl, Nat.le_of_ble_eq_true rfl⟩) rfl hl.1 rfl (by simp [va_rf_cat, cat_i, cat_l, cat_n]) dM_withFiles_76 ⟨Nat.le_refl _, Nat.le_refl _⟩) (fun H locs M => ?_)
      refine w_aload_n C.x C.b dM_withFiles_79 rfl (lv_at hl 1 rfl) ?_
      refine lv_iload_n C.x C.b dM_withFiles_80 rfl (lv_at hl 2 rfl) ?_
      refine lv_iconst (v := 3) C.x C.b dM_withFiles_81 (by decide) ?_
      obtain ⟨o82, g82, hf⟩ := Option.bind_eq_some_iff.mp hf
      obtain ⟨v82, h82, hf⟩ := Option.bind_eq_some_iff.mp hf
      refine w_ci M (w_runV C M g82 rfl (c_M_value h82) (cwV 2 C.ts (hgV wm_965 wm_967 sel_M_value wm_6 wm_968) rfl rfl rfl (by decide +kernel) ⟨Nat.le_of_ble_eq_true rfl, Nat.le_of_ble_eq_true rfl⟩) rfl hl.1 rfl (by simp [va_rf_cat, cat_i, cat_l, cat_n]) dM_withFiles_82 ⟨Nat.le_refl _, Nat.le_refl _⟩) (fun H locs M => ?_)
      obtain ⟨o85, g85, hf⟩ := Option.bind_eq_some_iff.mp hf
      obtain ⟨v85, h85, hf⟩ := Option.bind_eq_some_iff.mp hf
      refine w_ci M (w_runV C M g85 rfl (c_M_read h85) (cwV 3 C.ts (hgV wm_993 wm_995 sel_M_read wm_6 wm_996) rfl rfl rfl (by decide +kernel) ⟨Nat.le_of_ble_eq_true rfl, Nat.le_of_ble_eq_true rfl⟩) rfl hl.1 rfl (Nat.zero_le _) dM_withFiles_85 ⟨Nat.le_refl _, Nat.le_refl _⟩) (fun H locs M => ?_)
      cases hf
      exact w_iret C M hr hlk rfl (Nat.le_refl _) (Nat.le_refl _) dM_withFiles_88 rfl rfl
  · rw [if_pos c12] at hf
    refine w_aload_n C.x C.b dM_withFiles_15 rfl (lv_at hl 1 rfl) ?_
    refine lv_iload_n C.x C.b dM_withFiles_16 rfl (lv_at hl 2 rfl) ?_
    refine lv_iconst (v := 2) C.x C.b dM_withFiles_17 (by decide) ?_
    obtain ⟨o18, g18, hf⟩ := Option.bind_eq_some_iff.mp hf
    obtain ⟨v18, h18, hf⟩ := Option.bind_eq_some_iff.mp hf
    refine w_ci M (w_runV C M g18 rfl (c_M_value h18) (cwV 2 C.ts (hgV wm_965 wm_967 sel_M_value wm_6 wm_968) rfl rfl rfl (by decide +kernel) ⟨Nat.le_of_ble_eq_true rfl, Nat.le_of_ble_eq_true rfl⟩) rfl hl.1 rfl (Nat.zero_le _) dM_withFiles_18 ⟨Nat.le_refl _, Nat.le_refl _⟩) (fun H locs M => ?_)
    refine lv_istore (lv' := [(4, .int v18), (2, .long v5), (0, va_rf (some x0)), (1, .int x1)]) C.x C.b dM_withFiles_21 hl (by decide) rfl (fun ls hl => ?_)
    refine lv_iload C.x C.b dM_withFiles_23 (lv_at hl 0 rfl) ?_
    obtain ⟨v25, h25, hf⟩ := Option.bind_eq_some_iff.mp hf
    refine w_ci M (w_runS C M (c_M_isFile h25) (cwS 1 C.ts (hgS wm_926 wm_927 wm_6 wm_928) rfl rfl rfl (by decide +kernel) ⟨Nat.le_of_ble_eq_true rfl, Nat.le_of_ble_eq_true rfl⟩) rfl hl.1 rfl (Nat.zero_le _) dM_withFiles_25 ⟨Nat.le_refl _, Nat.le_refl _⟩) (fun H locs M => ?_)
    refine lv_if_eq (tgt := 60) C.x C.b dM_withFiles_28 (by decide) (fun c28 => ?_) (fun c28 => ?_)
    · rw [if_pos c28] at hf
      refine lv_bipush (v := 102) C.x C.b dM_withFiles_60 (by decide) ?_
      exact b_M_withFiles_62 C hr hlk hnm _ _ _ _ _ M (lv_sub hl [] rfl) hf
    · rw [if_neg c28] at hf
      refine w_aload_n C.x C.b dM_withFiles_31 rfl (lv_at hl 2 rfl) ?_
      refine lv_iload_n C.x C.b dM_withFiles_32 rfl (lv_at hl 3 rfl) ?_
      refine w_aload_n C.x C.b dM_withFiles_33 rfl (lv_at hl 2 rfl) ?_
      obtain ⟨v34, h34, hf⟩ := Option.bind_eq_some_iff.mp hf
      refine w_getR C M h34 rfl (hm_in in_M) (by decide) (List.mem_cons_of_mem _ wm_735) rfl dM_withFiles_34 ?_
      refine lv_iload C.x C.b dM_withFiles_37 (lv_at hl 0 rfl) ?_
      obtain ⟨v39, h39, hf⟩ := Option.bind_eq_some_iff.mp hf
      refine w_zald C M h39 rfl dM_withFiles_39 ?_
      refine lv_if_eq (tgt := 53) C.x C.b dM_withFiles_40 (by decide) (fun c40 => ?_) (fun c40 => ?_)
      · rw [if_pos c40] at hf
        refine lv_iconst (v := (-1)) C.x C.b dM_withFiles_53 (by decide) ?_
        exact b_M_withFiles_54 C hr hlk hnm _ _ _ _ _ _ _ M (lv_sub hl [] rfl) hf
      · rw [if_neg c40] at hf
        refine w_aload_n C.x C.b dM_withFiles_43 rfl (lv_at hl 2 rfl) ?_
        obtain ⟨v44, h44, hf⟩ := Option.bind_eq_some_iff.mp hf
        refine w_getR C M h44 rfl (hm_in in_M) (by decide) (List.mem_cons_of_mem _ wm_736) rfl dM_withFiles_44 ?_
        refine lv_iload C.x C.b dM_withFiles_47 (lv_at hl 0 rfl) ?_
        obtain ⟨v49, h49, hf⟩ := Option.bind_eq_some_iff.mp hf
        refine w_iald C M h49 rfl dM_withFiles_49 ?_
        refine lv_goto (tgt := 54) C.x C.b dM_withFiles_50 (by decide) ?_
        exact b_M_withFiles_54 C hr hlk hnm _ _ _ _ _ _ _ M (lv_sub hl [] rfl) hf
theorem dM_says_0 : decode prog_11_method_41_code 0 = .ok (.iload_n 2, 1) := by decide +kernel
theorem dM_says_1 : decode prog_11_method_41_code 1 = .ok (.ifCond .eq 10, 3) := by decide +kernel
theorem dM_says_4 : decode prog_11_method_41_code 4 = .ok (.aload_n 0, 1) := by decide +kernel
theorem dM_says_5 : decode prog_11_method_41_code 5 = .ok (.getfield 228, 3) := by decide +kernel
theorem dM_says_8 : decode prog_11_method_41_code 8 = .ok (.goto 7, 3) := by decide +kernel
theorem dM_says_11 : decode prog_11_method_41_code 11 = .ok (.aload_n 0, 1) := by decide +kernel
theorem dM_says_12 : decode prog_11_method_41_code 12 = .ok (.getfield 231, 3) := by decide +kernel
theorem dM_says_15 : decode prog_11_method_41_code 15 = .ok (.bipush 60, 2) := by decide +kernel
theorem dM_says_17 : decode prog_11_method_41_code 17 = .ok (.if_icmp .ne 6, 3) := by decide +kernel
theorem dM_says_20 : decode prog_11_method_41_code 20 = .ok (.bipush 104, 2) := by decide +kernel
theorem dM_says_22 : decode prog_11_method_41_code 22 = .ok (.ireturn, 1) := by decide +kernel
theorem dM_says_23 : decode prog_11_method_41_code 23 = .ok (.iload_n 2, 1) := by decide +kernel
theorem dM_says_24 : decode prog_11_method_41_code 24 = .ok (.ifCond .eq 26, 3) := by decide +kernel
theorem dM_says_27 : decode prog_11_method_41_code 27 = .ok (.aload_n 0, 1) := by decide +kernel
theorem dM_says_28 : decode prog_11_method_41_code 28 = .ok (.getfield 54, 3) := by decide +kernel
theorem dM_says_31 : decode prog_11_method_41_code 31 = .ok (.aload_n 0, 1) := by decide +kernel
theorem dM_says_32 : decode prog_11_method_41_code 32 = .ok (.getfield 228, 3) := by decide +kernel
theorem dM_says_35 : decode prog_11_method_41_code 35 = .ok (.iload_n 3, 1) := by decide +kernel
theorem dM_says_36 : decode prog_11_method_41_code 36 = .ok (.iastore, 1) := by decide +kernel
theorem dM_says_37 : decode prog_11_method_41_code 37 = .ok (.aload_n 0, 1) := by decide +kernel
theorem dM_says_38 : decode prog_11_method_41_code 38 = .ok (.dup, 1) := by decide +kernel
theorem dM_says_39 : decode prog_11_method_41_code 39 = .ok (.getfield 228, 3) := by decide +kernel
theorem dM_says_42 : decode prog_11_method_41_code 42 = .ok (.iconst 1, 1) := by decide +kernel
theorem dM_says_43 : decode prog_11_method_41_code 43 = .ok (.iadd, 1) := by decide +kernel
theorem dM_says_44 : decode prog_11_method_41_code 44 = .ok (.putfield 228, 3) := by decide +kernel
theorem dM_says_47 : decode prog_11_method_41_code 47 = .ok (.goto 23, 3) := by decide +kernel
theorem dM_says_50 : decode prog_11_method_41_code 50 = .ok (.aload_n 0, 1) := by decide +kernel
theorem dM_says_51 : decode prog_11_method_41_code 51 = .ok (.getfield 57, 3) := by decide +kernel
theorem dM_says_54 : decode prog_11_method_41_code 54 = .ok (.aload_n 0, 1) := by decide +kernel
theorem dM_says_55 : decode prog_11_method_41_code 55 = .ok (.getfield 231, 3) := by decide +kernel
theorem dM_says_58 : decode prog_11_method_41_code 58 = .ok (.iload_n 3, 1) := by decide +kernel
theorem dM_says_59 : decode prog_11_method_41_code 59 = .ok (.iastore, 1) := by decide +kernel
theorem dM_says_60 : decode prog_11_method_41_code 60 = .ok (.aload_n 0, 1) := by decide +kernel
theorem dM_says_61 : decode prog_11_method_41_code 61 = .ok (.dup, 1) := by decide +kernel
theorem dM_says_62 : decode prog_11_method_41_code 62 = .ok (.getfield 231, 3) := by decide +kernel
theorem dM_says_65 : decode prog_11_method_41_code 65 = .ok (.iconst 1, 1) := by decide +kernel
theorem dM_says_66 : decode prog_11_method_41_code 66 = .ok (.iadd, 1) := by decide +kernel
theorem dM_says_67 : decode prog_11_method_41_code 67 = .ok (.putfield 231, 3) := by decide +kernel
theorem dM_says_70 : decode prog_11_method_41_code 70 = .ok (.aload_n 0, 1) := by decide +kernel
theorem dM_says_71 : decode prog_11_method_41_code 71 = .ok (.iload_n 1, 1) := by decide +kernel
theorem dM_says_72 : decode prog_11_method_41_code 72 = .ok (.invokevirtual 257, 3) := by decide +kernel
theorem dM_says_75 : decode prog_11_method_41_code 75 = .ok (.ireturn, 1) := by decide +kernel
abbrev rm_M_says : Room := { frames := 1, cells := 0, slots := 0, locals := 21 }
def f_M_says_b70  (y0 : Option Nat) (y1 : Int32) (E : hE) : Option (Int32 × hE) := (
  (gO E y0 7).bind fun o72 =>
  (f_M_goesOn o72.1 y1 E).bind fun v72 =>
  some (v72.1, v72.2))
set_option maxHeartbeats 4000000 in
set_option maxRecDepth 100000 in
theorem b_M_says_70 {p : Program} {l : Launch} {e : Env} {s : State} {m : MethodId} {args : Array Value} {below : List Frame} {meth : Method} {c : Code} {D : va_G} {kA : Nat → ClassId} {S : hE} {g : Nat → Nat} {n0 nx : Nat} {res : Int32 × hE} (C : hX p s m args c prog_11_method_41_code 4 R_M ws_M_says D kA S g n0) (hr : meth.sig.returnType = (some .int)) (hlk : meth.locks = false) (hnm : meth.name = "says") : ∀ (y0 : Option Nat) (y1 : Int32) (E : hE) (H : Heap) (locs : List Loc) (ls : Array Slot), hY D kA n0 s E nx H locs → lv_has ls 4 [(0, va_rf y0), (1, .int y1)] → f_M_says_b70  y0 y1 E = some res → W p l e rm_M_says s m args below meth c H locs 0 0 (MQ below (va_Qi (fun r w => r = res.1 ∧ w = (res.2, nx)) (hJ D kA S g n0) (fun q => n0 ≤ q)) args s 0 0 (fun q => n0 ≤ q)) (F0 m 70 ls []) := by
  intro y0 y1 E H locs ls M hl hf
  unfold f_M_says_b70 at hf
  refine w_aload_n C.x C.b dM_says_70 rfl (lv_at hl 0 rfl) ?_
  refine lv_iload_n C.x C.b dM_says_71 rfl (lv_at hl 1 rfl) ?_
  obtain ⟨o72, g72, hf⟩ := Option.bind_eq_some_iff.mp hf
  obtain ⟨v72, h72, hf⟩ := Option.bind_eq_some_iff.mp hf
  refine w_ci M (w_runV C M g72 rfl (c_M_goesOn h72) (cwV 1 C.ts (hgV wm_981 wm_983 sel_M_goesOn wm_6 wm_984) rfl rfl rfl (by decide +kernel) ⟨Nat.le_of_ble_eq_true rfl, Nat.le_of_ble_eq_true rfl⟩) rfl hl.1 rfl (Nat.zero_le _) dM_says_72 ⟨Nat.le_refl _, Nat.le_refl _⟩) (fun H locs M => ?_)
  cases hf
  exact w_iret C M hr hlk rfl (Nat.le_refl _) (Nat.le_refl _) dM_says_75 rfl rfl
def f_M_says_b15  (y0 : Option Nat) (y1 : Int32) (y2 : Int32) (y3 : Int32) (t0 : Int32) (E : hE) : Option (Int32 × hE) := (
  if t0 = 60 then (
  some (104, E)
  ) else (
  if y2 = 0 then (
  (gR E y0 7 24).bind fun v51 =>
  (gI E y0 7 22).bind fun v55 =>
  (tI E v51 0 v55 y3).bind fun E59 =>
  (gI E59 y0 7 22).bind fun v62 =>
  (sI E59 y0 7 22 (v62 + 1)).bind fun E67 =>
  f_M_says_b70 y0 y1 E67
  ) else (
  (gR E y0 7 23).bind fun v28 =>
  (gI E y0 7 21).bind fun v32 =>
  (tI E v28 0 v32 y3).bind fun E36 =>
  (gI E36 y0 7 21).bind fun v39 =>
  (sI E36 y0 7 21 (v39 + 1)).bind fun E44 =>
  f_M_says_b70 y0 y1 E44
  )
  ))
set_option maxHeartbeats 4000000 in
set_option maxRecDepth 100000 in
theorem b_M_says_15 {p : Program} {l : Launch} {e : Env} {s : State} {m : MethodId} {args : Array Value} {below : List Frame} {meth : Method} {c : Code} {D : va_G} {kA : Nat → ClassId} {S : hE} {g : Nat → Nat} {n0 nx : Nat} {res : Int32 × hE} (C : hX p s m args c prog_11_method_41_code 4 R_M ws_M_says D kA S g n0) (hr : meth.sig.returnType = (some .int)) (hlk : meth.locks = false) (hnm : meth.name = "says") : ∀ (y0 : Option Nat) (y1 : Int32) (y2 : Int32) (y3 : Int32) (t0 : Int32) (E : hE) (H : Heap) (locs : List Loc) (ls : Array Slot), hY D kA n0 s E nx H locs → lv_has ls 4 [(0, va_rf y0), (1, .int y1), (2, .int y2), (3, .int y3)] → f_M_says_b15  y0 y1 y2 y3 t0 E = some res → W p l e rm_M_says s m args below meth c H locs 0 0 (MQ below (va_Qi (fun r w => r = res.1 ∧ w = (res.2, nx)) (hJ D kA S g n0) (fun q => n0 ≤ q)) args s 0 0 (fun q => n0 ≤ q)) (F0 m 15 ls [.int t0]) := by
  intro y0 y1 y2 y3 t0 E H locs ls M hl hf
  unfold f_M_says_b15 at hf
  refine lv_bipush (v := 60) C.x C.b dM_says_15 (by decide) ?_
  refine lv_icmp_ne (tgt := 23) C.x C.b dM_says_17 (by decide) (fun c17 => ?_) (fun c17 => ?_)
  · rw [if_neg c17] at hf
    refine lv_iload_n C.x C.b dM_says_23 rfl (lv_at hl 2 rfl) ?_
    refine lv_if_eq (tgt := 50) C.x C.b dM_says_24 (by decide) (fun c24 => ?_) (fun c24 => ?_)
    · rw [if_pos c24] at hf
      refine w_aload_n C.x C.b dM_says_50 rfl (lv_at hl 0 rfl) ?_
      obtain ⟨v51, h51, hf⟩ := Option.bind_eq_some_iff.mp hf
      refine w_getR C M h51 rfl (hm_in in_M) (by decide) (List.mem_cons_of_mem _ wm_747) rfl dM_says_51 ?_
      refine w_aload_n C.x C.b dM_says_54 rfl (lv_at hl 0 rfl) ?_
      obtain ⟨v55, h55, hf⟩ := Option.bind_eq_some_iff.mp hf
      refine w_getI C M h55 rfl (hm_in in_M) (by decide) (List.mem_cons_of_mem _ wm_745) rfl dM_says_55 ?_
      refine lv_iload_n C.x C.b dM_says_58 rfl (lv_at hl 3 rfl) ?_
      obtain ⟨E59, h59, hf⟩ := Option.bind_eq_some_iff.mp hf
      refine w_iast C M h59 rfl dM_says_59 (fun H locs M => ?_)
      refine w_aload_n C.x C.b dM_says_60 rfl (lv_at hl 0 rfl) ?_
      refine lv_dup C.x C.b dM_says_61 (va_rf_cat _) ?_
      obtain ⟨v62, h62, hf⟩ := Option.bind_eq_some_iff.mp hf
      refine w_getI C M h62 rfl (hm_in in_M) (by decide) (List.mem_cons_of_mem _ wm_745) rfl dM_says_62 ?_
      refine lv_iconst (v := 1) C.x C.b dM_says_65 (by decide) ?_
      refine lv_iadd C.x C.b dM_says_66 ?_
      obtain ⟨E67, h67, hf⟩ := Option.bind_eq_some_iff.mp hf
      refine w_putV (ty := .int) C M ty_M h67 rfl (hm_in in_M) tyok_M nm_M (by decide) (List.mem_cons_of_mem _ wm_745) rfl rfl (by decide +kernel) rfl rfl dM_says_67 (fun H locs M => ?_)
      exact b_M_says_70 C hr hlk hnm _ _ _ _ _ _ M (lv_sub hl [0, 1] rfl) hf
    · rw [if_neg c24] at hf
      refine w_aload_n C.x C.b dM_says_27 rfl (lv_at hl 0 rfl) ?_
      obtain ⟨v28, h28, hf⟩ := Option.bind_eq_some_iff.mp hf
      refine w_getR C M h28 rfl (hm_in in_M) (by decide) (List.mem_cons_of_mem _ wm_746) rfl dM_says_28 ?_
      refine w_aload_n C.x C.b dM_says_31 rfl (lv_at hl 0 rfl) ?_
      obtain ⟨v32, h32, hf⟩ := Option.bind_eq_some_iff.mp hf
      refine w_getI C M h32 rfl (hm_in in_M) (by decide) (List.mem_cons_of_mem _ wm_744) rfl dM_says_32 ?_
      refine lv_iload_n C.x C.b dM_says_35 rfl (lv_at hl 3 rfl) ?_
      obtain ⟨E36, h36, hf⟩ := Option.bind_eq_some_iff.mp hf
      refine w_iast C M h36 rfl dM_says_36 (fun H locs M => ?_)
      refine w_aload_n C.x C.b dM_says_37 rfl (lv_at hl 0 rfl) ?_
      refine lv_dup C.x C.b dM_says_38 (va_rf_cat _) ?_
      obtain ⟨v39, h39, hf⟩ := Option.bind_eq_some_iff.mp hf
      refine w_getI C M h39 rfl (hm_in in_M) (by decide) (List.mem_cons_of_mem _ wm_744) rfl dM_says_39 ?_
      refine lv_iconst (v := 1) C.x C.b dM_says_42 (by decide) ?_
      refine lv_iadd C.x C.b dM_says_43 ?_
      obtain ⟨E44, h44, hf⟩ := Option.bind_eq_some_iff.mp hf
      refine w_putV (ty := .int) C M ty_M h44 rfl (hm_in in_M) tyok_M nm_M (by decide) (List.mem_cons_of_mem _ wm_744) rfl rfl (by decide +kernel) rfl rfl dM_says_44 (fun H locs M => ?_)
      refine lv_goto (tgt := 70) C.x C.b dM_says_47 (by decide) ?_
      exact b_M_says_70 C hr hlk hnm _ _ _ _ _ _ M (lv_sub hl [0, 1] rfl) hf
  · rw [if_pos c17] at hf
    refine lv_bipush (v := 104) C.x C.b dM_says_20 (by decide) ?_
    cases hf
    exact w_iret C M hr hlk rfl (Nat.le_refl _) (Nat.le_refl _) dM_says_22 rfl rfl
def f_M_says  (x0 : Nat) (x1 : Int32) (x2 : Int32) (x3 : Int32) (E : hE) : Option (Int32 × hE) := (
  if x2 = 0 then (
  (gI E (some x0) 7 22).bind fun v12 =>
  f_M_says_b15 (some x0) x1 x2 x3 v12 E
  ) else (
  (gI E (some x0) 7 21).bind fun v5 =>
  f_M_says_b15 (some x0) x1 x2 x3 v5 E
  ))
set_option maxHeartbeats 4000000 in
set_option maxRecDepth 100000 in
theorem c_M_says {l : Launch} {D : va_G} {kA : Nat → ClassId} {S : hE} {g : Nat → Nat} {n0 nx : Nat} {x0 : Nat} {x1 : Int32} {x2 : Int32} {x3 : Int32} {E : hE} {res : Int32 × hE} (hf : f_M_says x0 x1 x2 x3 E = some res) : Met l y_M_says ws_M_says rm_M_says (va_Pc [va_rf (some x0), .int x1, .int x2, .int x3] (hJ D kA S g n0 (E, nx))) (va_Qi (fun r w => r = res.1 ∧ w = (res.2, nx)) (hJ D kA S g n0) (fun q => n0 ≤ q)) 0 0 (fun q => n0 ≤ q) := by
  refine h_met (cc := prog_11_method_41_code) (maxL := 4) (ret := (some .int)) (lvs := [(0, va_rf (some x0)), (1, .int x1), (2, .int x2), (3, .int x3)]) zZ_k (by decide) rfl (by simp [lg_sl, va_rf_cat, cat_i, cat_l, cat_n]) (by simp [lv_args, va_rf_cat, cat_i, cat_l, cat_n]) ?_
  intro p e s m below meth c ls C M hr hlk hnm hl
  unfold f_M_says at hf
  refine lv_iload_n C.x C.b dM_says_0 rfl (lv_at hl 2 rfl) ?_
  refine lv_if_eq (tgt := 11) C.x C.b dM_says_1 (by decide) (fun c1 => ?_) (fun c1 => ?_)
  · rw [if_pos c1] at hf
    refine w_aload_n C.x C.b dM_says_11 rfl (lv_at hl 0 rfl) ?_
    obtain ⟨v12, h12, hf⟩ := Option.bind_eq_some_iff.mp hf
    refine w_getI C M h12 rfl (hm_in in_M) (by decide) (List.mem_cons_of_mem _ wm_745) rfl dM_says_12 ?_
    exact b_M_says_15 C hr hlk hnm _ _ _ _ _ _ _ _ _ M (lv_sub hl [0, 1, 2, 3] rfl) hf
  · rw [if_neg c1] at hf
    refine w_aload_n C.x C.b dM_says_4 rfl (lv_at hl 0 rfl) ?_
    obtain ⟨v5, h5, hf⟩ := Option.bind_eq_some_iff.mp hf
    refine w_getI C M h5 rfl (hm_in in_M) (by decide) (List.mem_cons_of_mem _ wm_744) rfl dM_says_5 ?_
    refine lv_goto (tgt := 15) C.x C.b dM_says_8 (by decide) ?_
    exact b_M_says_15 C hr hlk hnm _ _ _ _ _ _ _ _ _ M (lv_sub hl [0, 1, 2, 3] rfl) hf
theorem dM_goesTo_0 : decode prog_11_method_32_code 0 = .ok (.aload_n 0, 1) := by decide +kernel
theorem dM_goesTo_1 : decode prog_11_method_32_code 1 = .ok (.getfield 63, 3) := by decide +kernel
theorem dM_goesTo_4 : decode prog_11_method_32_code 4 = .ok (.iload_n 1, 1) := by decide +kernel
theorem dM_goesTo_5 : decode prog_11_method_32_code 5 = .ok (.aload_n 0, 1) := by decide +kernel
theorem dM_goesTo_6 : decode prog_11_method_32_code 6 = .ok (.getfield 29, 3) := by decide +kernel
theorem dM_goesTo_9 : decode prog_11_method_32_code 9 = .ok (.bipush 26, 2) := by decide +kernel
theorem dM_goesTo_11 : decode prog_11_method_32_code 11 = .ok (.aload_n 0, 1) := by decide +kernel
theorem dM_goesTo_12 : decode prog_11_method_32_code 12 = .ok (.getfield 60, 3) := by decide +kernel
theorem dM_goesTo_15 : decode prog_11_method_32_code 15 = .ok (.iload_n 1, 1) := by decide +kernel
theorem dM_goesTo_16 : decode prog_11_method_32_code 16 = .ok (.iaload, 1) := by decide +kernel
theorem dM_goesTo_17 : decode prog_11_method_32_code 17 = .ok (.imul, 1) := by decide +kernel
theorem dM_goesTo_18 : decode prog_11_method_32_code 18 = .ok (.aload_n 0, 1) := by decide +kernel
theorem dM_goesTo_19 : decode prog_11_method_32_code 19 = .ok (.getfield 32, 3) := by decide +kernel
theorem dM_goesTo_22 : decode prog_11_method_32_code 22 = .ok (.iload_n 2, 1) := by decide +kernel
theorem dM_goesTo_23 : decode prog_11_method_32_code 23 = .ok (.laload, 1) := by decide +kernel
theorem dM_goesTo_24 : decode prog_11_method_32_code 24 = .ok (.l2i, 1) := by decide +kernel
theorem dM_goesTo_25 : decode prog_11_method_32_code 25 = .ok (.iadd, 1) := by decide +kernel
theorem dM_goesTo_26 : decode prog_11_method_32_code 26 = .ok (.bipush 65, 2) := by decide +kernel
theorem dM_goesTo_28 : decode prog_11_method_32_code 28 = .ok (.isub, 1) := by decide +kernel
theorem dM_goesTo_29 : decode prog_11_method_32_code 29 = .ok (.iaload, 1) := by decide +kernel
theorem dM_goesTo_30 : decode prog_11_method_32_code 30 = .ok (.iastore, 1) := by decide +kernel
theorem dM_goesTo_31 : decode prog_11_method_32_code 31 = .ok (.iconst (-1), 1) := by decide +kernel
theorem dM_goesTo_32 : decode prog_11_method_32_code 32 = .ok (.ireturn, 1) := by decide +kernel
abbrev rm_M_goesTo : Room := { frames := 0, cells := 0, slots := 0, locals := 0 }
def f_M_goesTo  (x0 : Nat) (x1 : Int32) (x2 : Int32) (E : hE) : Option (Int32 × hE) := (
  (gR E (some x0) 7 27).bind fun v1 =>
  (gR E (some x0) 7 7).bind fun v6 =>
  (gR E (some x0) 7 26).bind fun v12 =>
  (aI E v12 0 x1).bind fun v16 =>
  (gR E (some x0) 7 9).bind fun v19 =>
  (aJ E v19 2 x2).bind fun v23 =>
  (aI E v6 0 (((26 * v16) + v23.toInt32) - 65)).bind fun v29 =>
  (tI E v1 0 x1 v29).bind fun E30 =>
  some ((-1), E30))
set_option maxHeartbeats 4000000 in
set_option maxRecDepth 100000 in
theorem c_M_goesTo {l : Launch} {D : va_G} {kA : Nat → ClassId} {S : hE} {g : Nat → Nat} {n0 nx : Nat} {x0 : Nat} {x1 : Int32} {x2 : Int32} {E : hE} {res : Int32 × hE} (hf : f_M_goesTo x0 x1 x2 E = some res) : Met l y_M_goesTo ws_M_goesTo rm_M_goesTo (va_Pc [va_rf (some x0), .int x1, .int x2] (hJ D kA S g n0 (E, nx))) (va_Qi (fun r w => r = res.1 ∧ w = (res.2, nx)) (hJ D kA S g n0) (fun q => n0 ≤ q)) 0 0 (fun q => n0 ≤ q) := by
  refine h_met (cc := prog_11_method_32_code) (maxL := 3) (ret := (some .int)) (lvs := [(0, va_rf (some x0)), (1, .int x1), (2, .int x2)]) zZ_k (by decide) rfl (by simp [lg_sl, va_rf_cat, cat_i, cat_l, cat_n]) (by simp [lv_args, va_rf_cat, cat_i, cat_l, cat_n]) ?_
  intro p e s m below meth c ls C M hr hlk hnm hl
  unfold f_M_goesTo at hf
  refine w_aload_n C.x C.b dM_goesTo_0 rfl (lv_at hl 0 rfl) ?_
  obtain ⟨v1, h1, hf⟩ := Option.bind_eq_some_iff.mp hf
  refine w_getR C M h1 rfl (hm_in in_M) (by decide) (List.mem_cons_of_mem _ wm_750) rfl dM_goesTo_1 ?_
  refine lv_iload_n C.x C.b dM_goesTo_4 rfl (lv_at hl 1 rfl) ?_
  refine w_aload_n C.x C.b dM_goesTo_5 rfl (lv_at hl 0 rfl) ?_
  obtain ⟨v6, h6, hf⟩ := Option.bind_eq_some_iff.mp hf
  refine w_getR C M h6 rfl (hm_in in_M) (by decide) (List.mem_cons_of_mem _ wm_730) rfl dM_goesTo_6 ?_
  refine lv_bipush (v := 26) C.x C.b dM_goesTo_9 (by decide) ?_
  refine w_aload_n C.x C.b dM_goesTo_11 rfl (lv_at hl 0 rfl) ?_
  obtain ⟨v12, h12, hf⟩ := Option.bind_eq_some_iff.mp hf
  refine w_getR C M h12 rfl (hm_in in_M) (by decide) (List.mem_cons_of_mem _ wm_749) rfl dM_goesTo_12 ?_
  refine lv_iload_n C.x C.b dM_goesTo_15 rfl (lv_at hl 1 rfl) ?_
  obtain ⟨v16, h16, hf⟩ := Option.bind_eq_some_iff.mp hf
  refine w_iald C M h16 rfl dM_goesTo_16 ?_
  refine lv_imul C.x C.b dM_goesTo_17 ?_
  refine w_aload_n C.x C.b dM_goesTo_18 rfl (lv_at hl 0 rfl) ?_
  obtain ⟨v19, h19, hf⟩ := Option.bind_eq_some_iff.mp hf
  refine w_getR C M h19 rfl (hm_in in_M) (by decide) (List.mem_cons_of_mem _ wm_732) rfl dM_goesTo_19 ?_
  refine lv_iload_n C.x C.b dM_goesTo_22 rfl (lv_at hl 2 rfl) ?_
  obtain ⟨v23, h23, hf⟩ := Option.bind_eq_some_iff.mp hf
  refine w_lald C M h23 rfl dM_goesTo_23 ?_
  refine lv_l2i C.x C.b dM_goesTo_24 rfl ?_
  refine lv_iadd C.x C.b dM_goesTo_25 ?_
  refine lv_bipush (v := 65) C.x C.b dM_goesTo_26 (by decide) ?_
  refine lv_isub C.x C.b dM_goesTo_28 ?_
  obtain ⟨v29, h29, hf⟩ := Option.bind_eq_some_iff.mp hf
  refine w_iald C M h29 rfl dM_goesTo_29 ?_
  obtain ⟨E30, h30, hf⟩ := Option.bind_eq_some_iff.mp hf
  refine w_iast C M h30 rfl dM_goesTo_30 (fun H locs M => ?_)
  refine lv_iconst (v := (-1)) C.x C.b dM_goesTo_31 (by decide) ?_
  cases hf
  exact w_iret C M hr hlk rfl (Nat.le_refl _) (Nat.le_refl _) dM_goesTo_32 rfl rfl
theorem dM_isSo_0 : decode prog_11_method_34_code 0 = .ok (.iload_n 1, 1) := by decide +kernel
theorem dM_isSo_1 : decode prog_11_method_34_code 1 = .ok (.bipush 60, 2) := by decide +kernel
theorem dM_isSo_3 : decode prog_11_method_34_code 3 = .ok (.if_icmp .ne 16, 3) := by decide +kernel
theorem dM_isSo_6 : decode prog_11_method_34_code 6 = .ok (.iload_n 0, 1) := by decide +kernel
theorem dM_isSo_7 : decode prog_11_method_34_code 7 = .ok (.iload_n 2, 1) := by decide +kernel
theorem dM_isSo_8 : decode prog_11_method_34_code 8 = .ok (.if_icmp .ge 7, 3) := by decide +kernel
theorem dM_isSo_11 : decode prog_11_method_34_code 11 = .ok (.iconst 1, 1) := by decide +kernel
theorem dM_isSo_12 : decode prog_11_method_34_code 12 = .ok (.goto 36, 3) := by decide +kernel
theorem dM_isSo_15 : decode prog_11_method_34_code 15 = .ok (.iconst 0, 1) := by decide +kernel
theorem dM_isSo_16 : decode prog_11_method_34_code 16 = .ok (.goto 32, 3) := by decide +kernel
theorem dM_isSo_19 : decode prog_11_method_34_code 19 = .ok (.iload_n 1, 1) := by decide +kernel
theorem dM_isSo_20 : decode prog_11_method_34_code 20 = .ok (.bipush 62, 2) := by decide +kernel
theorem dM_isSo_22 : decode prog_11_method_34_code 22 = .ok (.if_icmp .ne 16, 3) := by decide +kernel
theorem dM_isSo_25 : decode prog_11_method_34_code 25 = .ok (.iload_n 0, 1) := by decide +kernel
theorem dM_isSo_26 : decode prog_11_method_34_code 26 = .ok (.iload_n 2, 1) := by decide +kernel
theorem dM_isSo_27 : decode prog_11_method_34_code 27 = .ok (.if_icmp .le 7, 3) := by decide +kernel
theorem dM_isSo_30 : decode prog_11_method_34_code 30 = .ok (.iconst 1, 1) := by decide +kernel
theorem dM_isSo_31 : decode prog_11_method_34_code 31 = .ok (.goto 17, 3) := by decide +kernel
theorem dM_isSo_34 : decode prog_11_method_34_code 34 = .ok (.iconst 0, 1) := by decide +kernel
theorem dM_isSo_35 : decode prog_11_method_34_code 35 = .ok (.goto 13, 3) := by decide +kernel
theorem dM_isSo_38 : decode prog_11_method_34_code 38 = .ok (.iload_n 0, 1) := by decide +kernel
theorem dM_isSo_39 : decode prog_11_method_34_code 39 = .ok (.iload_n 2, 1) := by decide +kernel
theorem dM_isSo_40 : decode prog_11_method_34_code 40 = .ok (.if_icmp .ne 7, 3) := by decide +kernel
theorem dM_isSo_43 : decode prog_11_method_34_code 43 = .ok (.iconst 1, 1) := by decide +kernel
theorem dM_isSo_44 : decode prog_11_method_34_code 44 = .ok (.goto 4, 3) := by decide +kernel
theorem dM_isSo_47 : decode prog_11_method_34_code 47 = .ok (.iconst 0, 1) := by decide +kernel
theorem dM_isSo_48 : decode prog_11_method_34_code 48 = .ok (.ireturn, 1) := by decide +kernel
abbrev rm_M_isSo : Room := { frames := 0, cells := 0, slots := 0, locals := 0 }
def f_M_isSo_b48 (E : hE) (t0 : Int32) : Option (Int32) := (
  (bZ t0).bind fun v48 =>
  some v48)
set_option maxHeartbeats 4000000 in
set_option maxRecDepth 100000 in
theorem b_M_isSo_48 {p : Program} {l : Launch} {e : Env} {s : State} {m : MethodId} {args : Array Value} {below : List Frame} {meth : Method} {c : Code} {D : va_G} {kA : Nat → ClassId} {S : hE} {g : Nat → Nat} {n0 nx : Nat} {E : hE} {res : Int32} (C : hX p s m args c prog_11_method_34_code 3 R_M ws_M_isSo D kA S g n0) (hr : meth.sig.returnType = (some .boolean)) (hlk : meth.locks = false) (hnm : meth.name = "isSo") : ∀ (t0 : Int32) (H : Heap) (locs : List Loc) (ls : Array Slot), hY D kA n0 s E nx H locs → lv_has ls 3 [] → f_M_isSo_b48 E  t0 = some res → W p l e rm_M_isSo s m args below meth c H locs 0 0 (MQ below (va_Qi (fun r w => r = res ∧ w = (E, nx)) (hJ D kA S g n0) (fun q => n0 ≤ q)) args s 0 0 (fun q => n0 ≤ q)) (F0 m 48 ls [.int t0]) := by
  intro t0 H locs ls M hl hf
  unfold f_M_isSo_b48 at hf
  obtain ⟨v48, h48, hf⟩ := Option.bind_eq_some_iff.mp hf
  obtain ⟨rfl, g48⟩ := bZ_some h48
  cases hf
  exact w_iret C M hr hlk (narrow_z g48) (Nat.le_refl _) (Nat.le_refl _) dM_isSo_48 rfl rfl
def f_M_isSo (E : hE) (x0 : Int32) (x1 : Int32) (x2 : Int32) : Option (Int32) := (
  if x1 = 60 then (
  if x2 ≤ x0 then (
  f_M_isSo_b48 E 0
  ) else (
  f_M_isSo_b48 E 1
  )
  ) else (
  if x1 = 62 then (
  if x0 ≤ x2 then (
  f_M_isSo_b48 E 0
  ) else (
  f_M_isSo_b48 E 1
  )
  ) else (
  if x0 = x2 then (
  f_M_isSo_b48 E 1
  ) else (
  f_M_isSo_b48 E 0
  )
  )
  ))
set_option maxHeartbeats 4000000 in
set_option maxRecDepth 100000 in
theorem c_M_isSo {l : Launch} {D : va_G} {kA : Nat → ClassId} {S : hE} {g : Nat → Nat} {n0 nx : Nat} {x0 : Int32} {x1 : Int32} {x2 : Int32} {E : hE} {res : Int32} (hf : f_M_isSo E x0 x1 x2 = some res) : Met l y_M_isSo ws_M_isSo rm_M_isSo (va_Pc [.int x0, .int x1, .int x2] (hJ D kA S g n0 (E, nx))) (va_Qi (fun r w => r = res ∧ w = (E, nx)) (hJ D kA S g n0) (fun q => n0 ≤ q)) 0 0 (fun q => n0 ≤ q) := by
  refine h_met (cc := prog_11_method_34_code) (maxL := 3) (ret := (some .boolean)) (lvs := [(0, .int x0), (1, .int x1), (2, .int x2)]) zZ_k (by decide) rfl (by simp [lg_sl, va_rf_cat, cat_i, cat_l, cat_n]) (by simp [lv_args, va_rf_cat, cat_i, cat_l, cat_n]) ?_
  intro p e s m below meth c ls C M hr hlk hnm hl
  unfold f_M_isSo at hf
  refine lv_iload_n C.x C.b dM_isSo_0 rfl (lv_at hl 1 rfl) ?_
  refine lv_bipush (v := 60) C.x C.b dM_isSo_1 (by decide) ?_
  refine lv_icmp_ne (tgt := 19) C.x C.b dM_isSo_3 (by decide) (fun c3 => ?_) (fun c3 => ?_)
  · rw [if_neg c3] at hf
    refine lv_iload_n C.x C.b dM_isSo_19 rfl (lv_at hl 1 rfl) ?_
    refine lv_bipush (v := 62) C.x C.b dM_isSo_20 (by decide) ?_
    refine lv_icmp_ne (tgt := 38) C.x C.b dM_isSo_22 (by decide) (fun c22 => ?_) (fun c22 => ?_)
    · rw [if_neg c22] at hf
      refine lv_iload_n C.x C.b dM_isSo_38 rfl (lv_at hl 0 rfl) ?_
      refine lv_iload_n C.x C.b dM_isSo_39 rfl (lv_at hl 2 rfl) ?_
      refine lv_icmp_ne (tgt := 47) C.x C.b dM_isSo_40 (by decide) (fun c40 => ?_) (fun c40 => ?_)
      · rw [if_neg c40] at hf
        refine lv_iconst (v := 0) C.x C.b dM_isSo_47 (by decide) ?_
        exact b_M_isSo_48 C hr hlk hnm _ _ _ _ M (lv_sub hl [] rfl) hf
      · rw [if_pos c40] at hf
        refine lv_iconst (v := 1) C.x C.b dM_isSo_43 (by decide) ?_
        refine lv_goto (tgt := 48) C.x C.b dM_isSo_44 (by decide) ?_
        exact b_M_isSo_48 C hr hlk hnm _ _ _ _ M (lv_sub hl [] rfl) hf
    · rw [if_pos c22] at hf
      refine lv_iload_n C.x C.b dM_isSo_25 rfl (lv_at hl 0 rfl) ?_
      refine lv_iload_n C.x C.b dM_isSo_26 rfl (lv_at hl 2 rfl) ?_
      refine lv_icmp_le (tgt := 34) C.x C.b dM_isSo_27 (by decide) (fun c27 => ?_) (fun c27 => ?_)
      · rw [if_pos c27] at hf
        refine lv_iconst (v := 0) C.x C.b dM_isSo_34 (by decide) ?_
        refine lv_goto (tgt := 48) C.x C.b dM_isSo_35 (by decide) ?_
        exact b_M_isSo_48 C hr hlk hnm _ _ _ _ M (lv_sub hl [] rfl) hf
      · rw [if_neg c27] at hf
        refine lv_iconst (v := 1) C.x C.b dM_isSo_30 (by decide) ?_
        refine lv_goto (tgt := 48) C.x C.b dM_isSo_31 (by decide) ?_
        exact b_M_isSo_48 C hr hlk hnm _ _ _ _ M (lv_sub hl [] rfl) hf
  · rw [if_pos c3] at hf
    refine lv_iload_n C.x C.b dM_isSo_6 rfl (lv_at hl 0 rfl) ?_
    refine lv_iload_n C.x C.b dM_isSo_7 rfl (lv_at hl 2 rfl) ?_
    refine lv_icmp_ge (tgt := 15) C.x C.b dM_isSo_8 (by decide) (fun c8 => ?_) (fun c8 => ?_)
    · rw [if_pos c8] at hf
      refine lv_iconst (v := 0) C.x C.b dM_isSo_15 (by decide) ?_
      refine lv_goto (tgt := 48) C.x C.b dM_isSo_16 (by decide) ?_
      exact b_M_isSo_48 C hr hlk hnm _ _ _ _ M (lv_sub hl [] rfl) hf
    · rw [if_neg c8] at hf
      refine lv_iconst (v := 1) C.x C.b dM_isSo_11 (by decide) ?_
      refine lv_goto (tgt := 48) C.x C.b dM_isSo_12 (by decide) ?_
      exact b_M_isSo_48 C hr hlk hnm _ _ _ _ M (lv_sub hl [] rfl) hf
theorem dM_call_0 : decode prog_11_method_42_code 0 = .ok (.aload_n 0, 1) := by decide +kernel
theorem dM_call_1 : decode prog_11_method_42_code 1 = .ok (.getfield 75, 3) := by decide +kernel
theorem dM_call_4 : decode prog_11_method_42_code 4 = .ok (.iload_n 1, 1) := by decide +kernel
theorem dM_call_5 : decode prog_11_method_42_code 5 = .ok (.iaload, 1) := by decide +kernel
theorem dM_call_6 : decode prog_11_method_42_code 6 = .ok (.bipush 8, 2) := by decide +kernel
theorem dM_call_8 : decode prog_11_method_42_code 8 = .ok (.if_icmp .ne 6, 3) := by decide +kernel
theorem dM_call_11 : decode prog_11_method_42_code 11 = .ok (.bipush 105, 2) := by decide +kernel
theorem dM_call_13 : decode prog_11_method_42_code 13 = .ok (.ireturn, 1) := by decide +kernel
theorem dM_call_14 : decode prog_11_method_42_code 14 = .ok (.aload_n 0, 1) := by decide +kernel
theorem dM_call_15 : decode prog_11_method_42_code 15 = .ok (.getfield 78, 3) := by decide +kernel
theorem dM_call_18 : decode prog_11_method_42_code 18 = .ok (.bipush 8, 2) := by decide +kernel
theorem dM_call_20 : decode prog_11_method_42_code 20 = .ok (.iload_n 1, 1) := by decide +kernel
theorem dM_call_21 : decode prog_11_method_42_code 21 = .ok (.imul, 1) := by decide +kernel
theorem dM_call_22 : decode prog_11_method_42_code 22 = .ok (.aload_n 0, 1) := by decide +kernel
theorem dM_call_23 : decode prog_11_method_42_code 23 = .ok (.getfield 75, 3) := by decide +kernel
theorem dM_call_26 : decode prog_11_method_42_code 26 = .ok (.iload_n 1, 1) := by decide +kernel
theorem dM_call_27 : decode prog_11_method_42_code 27 = .ok (.iaload, 1) := by decide +kernel
theorem dM_call_28 : decode prog_11_method_42_code 28 = .ok (.iadd, 1) := by decide +kernel
theorem dM_call_29 : decode prog_11_method_42_code 29 = .ok (.aload_n 0, 1) := by decide +kernel
theorem dM_call_30 : decode prog_11_method_42_code 30 = .ok (.getfield 63, 3) := by decide +kernel
theorem dM_call_33 : decode prog_11_method_42_code 33 = .ok (.iload_n 1, 1) := by decide +kernel
theorem dM_call_34 : decode prog_11_method_42_code 34 = .ok (.iaload, 1) := by decide +kernel
theorem dM_call_35 : decode prog_11_method_42_code 35 = .ok (.iconst 1, 1) := by decide +kernel
theorem dM_call_36 : decode prog_11_method_42_code 36 = .ok (.iadd, 1) := by decide +kernel
theorem dM_call_37 : decode prog_11_method_42_code 37 = .ok (.iastore, 1) := by decide +kernel
theorem dM_call_38 : decode prog_11_method_42_code 38 = .ok (.aload_n 0, 1) := by decide +kernel
theorem dM_call_39 : decode prog_11_method_42_code 39 = .ok (.getfield 75, 3) := by decide +kernel
theorem dM_call_42 : decode prog_11_method_42_code 42 = .ok (.iload_n 1, 1) := by decide +kernel
theorem dM_call_43 : decode prog_11_method_42_code 43 = .ok (.dup2, 1) := by decide +kernel
theorem dM_call_44 : decode prog_11_method_42_code 44 = .ok (.iaload, 1) := by decide +kernel
theorem dM_call_45 : decode prog_11_method_42_code 45 = .ok (.iconst 1, 1) := by decide +kernel
theorem dM_call_46 : decode prog_11_method_42_code 46 = .ok (.iadd, 1) := by decide +kernel
theorem dM_call_47 : decode prog_11_method_42_code 47 = .ok (.iastore, 1) := by decide +kernel
theorem dM_call_48 : decode prog_11_method_42_code 48 = .ok (.aload_n 0, 1) := by decide +kernel
theorem dM_call_49 : decode prog_11_method_42_code 49 = .ok (.iload_n 1, 1) := by decide +kernel
theorem dM_call_50 : decode prog_11_method_42_code 50 = .ok (.iconst 1, 1) := by decide +kernel
theorem dM_call_51 : decode prog_11_method_42_code 51 = .ok (.invokevirtual 281, 3) := by decide +kernel
theorem dM_call_54 : decode prog_11_method_42_code 54 = .ok (.ireturn, 1) := by decide +kernel
abbrev rm_M_call : Room := { frames := 1, cells := 0, slots := 0, locals := 22 }
def f_M_call  (x0 : Nat) (x1 : Int32) (E : hE) : Option (Int32 × hE) := (
  (gR E (some x0) 7 31).bind fun v1 =>
  (aI E v1 0 x1).bind fun v5 =>
  if v5 = 8 then (
  some (105, E)
  ) else (
  (gR E (some x0) 7 32).bind fun v15 =>
  (gR E (some x0) 7 31).bind fun v23 =>
  (aI E v23 0 x1).bind fun v27 =>
  (gR E (some x0) 7 27).bind fun v30 =>
  (aI E v30 0 x1).bind fun v34 =>
  (tI E v15 0 ((8 * x1) + v27) (v34 + 1)).bind fun E37 =>
  (gR E37 (some x0) 7 31).bind fun v39 =>
  (aI E37 v39 0 x1).bind fun v44 =>
  (tI E37 v39 0 x1 (v44 + 1)).bind fun E47 =>
  (gO E47 (some x0) 7).bind fun o51 =>
  (f_M_goesTo o51.1 x1 1 E47).bind fun v51 =>
  some (v51.1, v51.2)
  ))
set_option maxHeartbeats 4000000 in
set_option maxRecDepth 100000 in
theorem c_M_call {l : Launch} {D : va_G} {kA : Nat → ClassId} {S : hE} {g : Nat → Nat} {n0 nx : Nat} {x0 : Nat} {x1 : Int32} {E : hE} {res : Int32 × hE} (hf : f_M_call x0 x1 E = some res) : Met l y_M_call ws_M_call rm_M_call (va_Pc [va_rf (some x0), .int x1] (hJ D kA S g n0 (E, nx))) (va_Qi (fun r w => r = res.1 ∧ w = (res.2, nx)) (hJ D kA S g n0) (fun q => n0 ≤ q)) 0 0 (fun q => n0 ≤ q) := by
  refine h_met (cc := prog_11_method_42_code) (maxL := 2) (ret := (some .int)) (lvs := [(0, va_rf (some x0)), (1, .int x1)]) zZ_k (by decide) rfl (by simp [lg_sl, va_rf_cat, cat_i, cat_l, cat_n]) (by simp [lv_args, va_rf_cat, cat_i, cat_l, cat_n]) ?_
  intro p e s m below meth c ls C M hr hlk hnm hl
  unfold f_M_call at hf
  refine w_aload_n C.x C.b dM_call_0 rfl (lv_at hl 0 rfl) ?_
  obtain ⟨v1, h1, hf⟩ := Option.bind_eq_some_iff.mp hf
  refine w_getR C M h1 rfl (hm_in in_M) (by decide) (List.mem_cons_of_mem _ wm_754) rfl dM_call_1 ?_
  refine lv_iload_n C.x C.b dM_call_4 rfl (lv_at hl 1 rfl) ?_
  obtain ⟨v5, h5, hf⟩ := Option.bind_eq_some_iff.mp hf
  refine w_iald C M h5 rfl dM_call_5 ?_
  refine lv_bipush (v := 8) C.x C.b dM_call_6 (by decide) ?_
  refine lv_icmp_ne (tgt := 14) C.x C.b dM_call_8 (by decide) (fun c8 => ?_) (fun c8 => ?_)
  · rw [if_neg c8] at hf
    refine w_aload_n C.x C.b dM_call_14 rfl (lv_at hl 0 rfl) ?_
    obtain ⟨v15, h15, hf⟩ := Option.bind_eq_some_iff.mp hf
    refine w_getR C M h15 rfl (hm_in in_M) (by decide) (List.mem_cons_of_mem _ wm_755) rfl dM_call_15 ?_
    refine lv_bipush (v := 8) C.x C.b dM_call_18 (by decide) ?_
    refine lv_iload_n C.x C.b dM_call_20 rfl (lv_at hl 1 rfl) ?_
    refine lv_imul C.x C.b dM_call_21 ?_
    refine w_aload_n C.x C.b dM_call_22 rfl (lv_at hl 0 rfl) ?_
    obtain ⟨v23, h23, hf⟩ := Option.bind_eq_some_iff.mp hf
    refine w_getR C M h23 rfl (hm_in in_M) (by decide) (List.mem_cons_of_mem _ wm_754) rfl dM_call_23 ?_
    refine lv_iload_n C.x C.b dM_call_26 rfl (lv_at hl 1 rfl) ?_
    obtain ⟨v27, h27, hf⟩ := Option.bind_eq_some_iff.mp hf
    refine w_iald C M h27 rfl dM_call_27 ?_
    refine lv_iadd C.x C.b dM_call_28 ?_
    refine w_aload_n C.x C.b dM_call_29 rfl (lv_at hl 0 rfl) ?_
    obtain ⟨v30, h30, hf⟩ := Option.bind_eq_some_iff.mp hf
    refine w_getR C M h30 rfl (hm_in in_M) (by decide) (List.mem_cons_of_mem _ wm_750) rfl dM_call_30 ?_
    refine lv_iload_n C.x C.b dM_call_33 rfl (lv_at hl 1 rfl) ?_
    obtain ⟨v34, h34, hf⟩ := Option.bind_eq_some_iff.mp hf
    refine w_iald C M h34 rfl dM_call_34 ?_
    refine lv_iconst (v := 1) C.x C.b dM_call_35 (by decide) ?_
    refine lv_iadd C.x C.b dM_call_36 ?_
    obtain ⟨E37, h37, hf⟩ := Option.bind_eq_some_iff.mp hf
    refine w_iast C M h37 rfl dM_call_37 (fun H locs M => ?_)
    refine w_aload_n C.x C.b dM_call_38 rfl (lv_at hl 0 rfl) ?_
    obtain ⟨v39, h39, hf⟩ := Option.bind_eq_some_iff.mp hf
    refine w_getR C M h39 rfl (hm_in in_M) (by decide) (List.mem_cons_of_mem _ wm_754) rfl dM_call_39 ?_
    refine lv_iload_n C.x C.b dM_call_42 rfl (lv_at hl 1 rfl) ?_
    refine lv_dup2_11 C.x C.b dM_call_43 rfl (va_rf_cat _) ?_
    obtain ⟨v44, h44, hf⟩ := Option.bind_eq_some_iff.mp hf
    refine w_iald C M h44 rfl dM_call_44 ?_
    refine lv_iconst (v := 1) C.x C.b dM_call_45 (by decide) ?_
    refine lv_iadd C.x C.b dM_call_46 ?_
    obtain ⟨E47, h47, hf⟩ := Option.bind_eq_some_iff.mp hf
    refine w_iast C M h47 rfl dM_call_47 (fun H locs M => ?_)
    refine w_aload_n C.x C.b dM_call_48 rfl (lv_at hl 0 rfl) ?_
    refine lv_iload_n C.x C.b dM_call_49 rfl (lv_at hl 1 rfl) ?_
    refine lv_iconst (v := 1) C.x C.b dM_call_50 (by decide) ?_
    obtain ⟨o51, g51, hf⟩ := Option.bind_eq_some_iff.mp hf
    obtain ⟨v51, h51, hf⟩ := Option.bind_eq_some_iff.mp hf
    refine w_ci M (w_runV C M g51 rfl (c_M_goesTo h51) (cwV 2 C.ts (hgV wm_1009 wm_1011 sel_M_goesTo wm_6 wm_1012) rfl rfl rfl (by decide +kernel) ⟨Nat.le_of_ble_eq_true rfl, Nat.le_of_ble_eq_true rfl⟩) rfl hl.1 rfl (Nat.zero_le _) dM_call_51 ⟨Nat.le_refl _, Nat.le_refl _⟩) (fun H locs M => ?_)
    cases hf
    exact w_iret C M hr hlk rfl (Nat.le_refl _) (Nat.le_refl _) dM_call_54 rfl rfl
  · rw [if_pos c8] at hf
    refine lv_bipush (v := 105) C.x C.b dM_call_11 (by decide) ?_
    cases hf
    exact w_iret C M hr hlk rfl (Nat.le_refl _) (Nat.le_refl _) dM_call_13 rfl rfl
theorem dM_back_0 : decode prog_11_method_43_code 0 = .ok (.aload_n 0, 1) := by decide +kernel
theorem dM_back_1 : decode prog_11_method_43_code 1 = .ok (.getfield 75, 3) := by decide +kernel
theorem dM_back_4 : decode prog_11_method_43_code 4 = .ok (.iload_n 1, 1) := by decide +kernel
theorem dM_back_5 : decode prog_11_method_43_code 5 = .ok (.iaload, 1) := by decide +kernel
theorem dM_back_6 : decode prog_11_method_43_code 6 = .ok (.ifCond .ne 6, 3) := by decide +kernel
theorem dM_back_9 : decode prog_11_method_43_code 9 = .ok (.bipush 105, 2) := by decide +kernel
theorem dM_back_11 : decode prog_11_method_43_code 11 = .ok (.ireturn, 1) := by decide +kernel
theorem dM_back_12 : decode prog_11_method_43_code 12 = .ok (.aload_n 0, 1) := by decide +kernel
theorem dM_back_13 : decode prog_11_method_43_code 13 = .ok (.getfield 75, 3) := by decide +kernel
theorem dM_back_16 : decode prog_11_method_43_code 16 = .ok (.iload_n 1, 1) := by decide +kernel
theorem dM_back_17 : decode prog_11_method_43_code 17 = .ok (.dup2, 1) := by decide +kernel
theorem dM_back_18 : decode prog_11_method_43_code 18 = .ok (.iaload, 1) := by decide +kernel
theorem dM_back_19 : decode prog_11_method_43_code 19 = .ok (.iconst 1, 1) := by decide +kernel
theorem dM_back_20 : decode prog_11_method_43_code 20 = .ok (.isub, 1) := by decide +kernel
theorem dM_back_21 : decode prog_11_method_43_code 21 = .ok (.iastore, 1) := by decide +kernel
theorem dM_back_22 : decode prog_11_method_43_code 22 = .ok (.aload_n 0, 1) := by decide +kernel
theorem dM_back_23 : decode prog_11_method_43_code 23 = .ok (.getfield 63, 3) := by decide +kernel
theorem dM_back_26 : decode prog_11_method_43_code 26 = .ok (.iload_n 1, 1) := by decide +kernel
theorem dM_back_27 : decode prog_11_method_43_code 27 = .ok (.aload_n 0, 1) := by decide +kernel
theorem dM_back_28 : decode prog_11_method_43_code 28 = .ok (.getfield 78, 3) := by decide +kernel
theorem dM_back_31 : decode prog_11_method_43_code 31 = .ok (.bipush 8, 2) := by decide +kernel
theorem dM_back_33 : decode prog_11_method_43_code 33 = .ok (.iload_n 1, 1) := by decide +kernel
theorem dM_back_34 : decode prog_11_method_43_code 34 = .ok (.imul, 1) := by decide +kernel
theorem dM_back_35 : decode prog_11_method_43_code 35 = .ok (.aload_n 0, 1) := by decide +kernel
theorem dM_back_36 : decode prog_11_method_43_code 36 = .ok (.getfield 75, 3) := by decide +kernel
theorem dM_back_39 : decode prog_11_method_43_code 39 = .ok (.iload_n 1, 1) := by decide +kernel
theorem dM_back_40 : decode prog_11_method_43_code 40 = .ok (.iaload, 1) := by decide +kernel
theorem dM_back_41 : decode prog_11_method_43_code 41 = .ok (.iadd, 1) := by decide +kernel
theorem dM_back_42 : decode prog_11_method_43_code 42 = .ok (.iaload, 1) := by decide +kernel
theorem dM_back_43 : decode prog_11_method_43_code 43 = .ok (.iastore, 1) := by decide +kernel
theorem dM_back_44 : decode prog_11_method_43_code 44 = .ok (.iconst (-1), 1) := by decide +kernel
theorem dM_back_45 : decode prog_11_method_43_code 45 = .ok (.ireturn, 1) := by decide +kernel
abbrev rm_M_back : Room := { frames := 0, cells := 0, slots := 0, locals := 0 }
def f_M_back  (x0 : Nat) (x1 : Int32) (E : hE) : Option (Int32 × hE) := (
  (gR E (some x0) 7 31).bind fun v1 =>
  (aI E v1 0 x1).bind fun v5 =>
  if v5 = 0 then (
  some (105, E)
  ) else (
  (gR E (some x0) 7 31).bind fun v13 =>
  (aI E v13 0 x1).bind fun v18 =>
  (tI E v13 0 x1 (v18 - 1)).bind fun E21 =>
  (gR E21 (some x0) 7 27).bind fun v23 =>
  (gR E21 (some x0) 7 32).bind fun v28 =>
  (gR E21 (some x0) 7 31).bind fun v36 =>
  (aI E21 v36 0 x1).bind fun v40 =>
  (aI E21 v28 0 ((8 * x1) + v40)).bind fun v42 =>
  (tI E21 v23 0 x1 v42).bind fun E43 =>
  some ((-1), E43)
  ))
set_option maxHeartbeats 4000000 in
set_option maxRecDepth 100000 in
theorem c_M_back {l : Launch} {D : va_G} {kA : Nat → ClassId} {S : hE} {g : Nat → Nat} {n0 nx : Nat} {x0 : Nat} {x1 : Int32} {E : hE} {res : Int32 × hE} (hf : f_M_back x0 x1 E = some res) : Met l y_M_back ws_M_back rm_M_back (va_Pc [va_rf (some x0), .int x1] (hJ D kA S g n0 (E, nx))) (va_Qi (fun r w => r = res.1 ∧ w = (res.2, nx)) (hJ D kA S g n0) (fun q => n0 ≤ q)) 0 0 (fun q => n0 ≤ q) := by
  refine h_met (cc := prog_11_method_43_code) (maxL := 2) (ret := (some .int)) (lvs := [(0, va_rf (some x0)), (1, .int x1)]) zZ_k (by decide) rfl (by simp [lg_sl, va_rf_cat, cat_i, cat_l, cat_n]) (by simp [lv_args, va_rf_cat, cat_i, cat_l, cat_n]) ?_
  intro p e s m below meth c ls C M hr hlk hnm hl
  unfold f_M_back at hf
  refine w_aload_n C.x C.b dM_back_0 rfl (lv_at hl 0 rfl) ?_
  obtain ⟨v1, h1, hf⟩ := Option.bind_eq_some_iff.mp hf
  refine w_getR C M h1 rfl (hm_in in_M) (by decide) (List.mem_cons_of_mem _ wm_754) rfl dM_back_1 ?_
  refine lv_iload_n C.x C.b dM_back_4 rfl (lv_at hl 1 rfl) ?_
  obtain ⟨v5, h5, hf⟩ := Option.bind_eq_some_iff.mp hf
  refine w_iald C M h5 rfl dM_back_5 ?_
  refine lv_if_ne (tgt := 12) C.x C.b dM_back_6 (by decide) (fun c6 => ?_) (fun c6 => ?_)
  · rw [if_neg c6] at hf
    refine w_aload_n C.x C.b dM_back_12 rfl (lv_at hl 0 rfl) ?_
    obtain ⟨v13, h13, hf⟩ := Option.bind_eq_some_iff.mp hf
    refine w_getR C M h13 rfl (hm_in in_M) (by decide) (List.mem_cons_of_mem _ wm_754) rfl dM_back_13 ?_
    refine lv_iload_n C.x C.b dM_back_16 rfl (lv_at hl 1 rfl) ?_
    refine lv_dup2_11 C.x C.b dM_back_17 rfl (va_rf_cat _) ?_
    obtain ⟨v18, h18, hf⟩ := Option.bind_eq_some_iff.mp hf
    refine w_iald C M h18 rfl dM_back_18 ?_
    refine lv_iconst (v := 1) C.x C.b dM_back_19 (by decide) ?_
    refine lv_isub C.x C.b dM_back_20 ?_
    obtain ⟨E21, h21, hf⟩ := Option.bind_eq_some_iff.mp hf
    refine w_iast C M h21 rfl dM_back_21 (fun H locs M => ?_)
    refine w_aload_n C.x C.b dM_back_22 rfl (lv_at hl 0 rfl) ?_
    obtain ⟨v23, h23, hf⟩ := Option.bind_eq_some_iff.mp hf
    refine w_getR C M h23 rfl (hm_in in_M) (by decide) (List.mem_cons_of_mem _ wm_750) rfl dM_back_23 ?_
    refine lv_iload_n C.x C.b dM_back_26 rfl (lv_at hl 1 rfl) ?_
    refine w_aload_n C.x C.b dM_back_27 rfl (lv_at hl 0 rfl) ?_
    obtain ⟨v28, h28, hf⟩ := Option.bind_eq_some_iff.mp hf
    refine w_getR C M h28 rfl (hm_in in_M) (by decide) (List.mem_cons_of_mem _ wm_755) rfl dM_back_28 ?_
    refine lv_bipush (v := 8) C.x C.b dM_back_31 (by decide) ?_
    refine lv_iload_n C.x C.b dM_back_33 rfl (lv_at hl 1 rfl) ?_
    refine lv_imul C.x C.b dM_back_34 ?_
    refine w_aload_n C.x C.b dM_back_35 rfl (lv_at hl 0 rfl) ?_
    obtain ⟨v36, h36, hf⟩ := Option.bind_eq_some_iff.mp hf
    refine w_getR C M h36 rfl (hm_in in_M) (by decide) (List.mem_cons_of_mem _ wm_754) rfl dM_back_36 ?_
    refine lv_iload_n C.x C.b dM_back_39 rfl (lv_at hl 1 rfl) ?_
    obtain ⟨v40, h40, hf⟩ := Option.bind_eq_some_iff.mp hf
    refine w_iald C M h40 rfl dM_back_40 ?_
    refine lv_iadd C.x C.b dM_back_41 ?_
    obtain ⟨v42, h42, hf⟩ := Option.bind_eq_some_iff.mp hf
    refine w_iald C M h42 rfl dM_back_42 ?_
    obtain ⟨E43, h43, hf⟩ := Option.bind_eq_some_iff.mp hf
    refine w_iast C M h43 rfl dM_back_43 (fun H locs M => ?_)
    refine lv_iconst (v := (-1)) C.x C.b dM_back_44 (by decide) ?_
    cases hf
    exact w_iret C M hr hlk rfl (Nat.le_refl _) (Nat.le_refl _) dM_back_45 rfl rfl
  · rw [if_pos c6] at hf
    refine lv_bipush (v := 105) C.x C.b dM_back_9 (by decide) ?_
    cases hf
    exact w_iret C M hr hlk rfl (Nat.le_refl _) (Nat.le_refl _) dM_back_11 rfl rfl
theorem dM_child_0 : decode prog_11_method_44_code 0 = .ok (.aload_n 0, 1) := by decide +kernel
theorem dM_child_1 : decode prog_11_method_44_code 1 = .ok (.iload_n 2, 1) := by decide +kernel
theorem dM_child_2 : decode prog_11_method_44_code 2 = .ok (.invokevirtual 212, 3) := by decide +kernel
theorem dM_child_5 : decode prog_11_method_44_code 5 = .ok (.ifCond .ne 6, 3) := by decide +kernel
theorem dM_child_8 : decode prog_11_method_44_code 8 = .ok (.bipush 102, 2) := by decide +kernel
theorem dM_child_10 : decode prog_11_method_44_code 10 = .ok (.ireturn, 1) := by decide +kernel
theorem dM_child_11 : decode prog_11_method_44_code 11 = .ok (.iload_n 1, 1) := by decide +kernel
theorem dM_child_12 : decode prog_11_method_44_code 12 = .ok (.iconst 3, 1) := by decide +kernel
theorem dM_child_13 : decode prog_11_method_44_code 13 = .ok (.if_icmp .ne 6, 3) := by decide +kernel
theorem dM_child_16 : decode prog_11_method_44_code 16 = .ok (.bipush 105, 2) := by decide +kernel
theorem dM_child_18 : decode prog_11_method_44_code 18 = .ok (.ireturn, 1) := by decide +kernel
theorem dM_child_19 : decode prog_11_method_44_code 19 = .ok (.aload_n 0, 1) := by decide +kernel
theorem dM_child_20 : decode prog_11_method_44_code 20 = .ok (.getfield 66, 3) := by decide +kernel
theorem dM_child_23 : decode prog_11_method_44_code 23 = .ok (.iload_n 1, 1) := by decide +kernel
theorem dM_child_24 : decode prog_11_method_44_code 24 = .ok (.aload_n 0, 1) := by decide +kernel
theorem dM_child_25 : decode prog_11_method_44_code 25 = .ok (.iconst 1, 1) := by decide +kernel
theorem dM_child_26 : decode prog_11_method_44_code 26 = .ok (.invokevirtual 254, 3) := by decide +kernel
theorem dM_child_29 : decode prog_11_method_44_code 29 = .ok (.iastore, 1) := by decide +kernel
theorem dM_child_30 : decode prog_11_method_44_code 30 = .ok (.aload_n 0, 1) := by decide +kernel
theorem dM_child_31 : decode prog_11_method_44_code 31 = .ok (.iload_n 1, 1) := by decide +kernel
theorem dM_child_32 : decode prog_11_method_44_code 32 = .ok (.iconst 1, 1) := by decide +kernel
theorem dM_child_33 : decode prog_11_method_44_code 33 = .ok (.iadd, 1) := by decide +kernel
theorem dM_child_34 : decode prog_11_method_44_code 34 = .ok (.iload_n 2, 1) := by decide +kernel
theorem dM_child_35 : decode prog_11_method_44_code 35 = .ok (.iload_n 3, 1) := by decide +kernel
theorem dM_child_36 : decode prog_11_method_44_code 36 = .ok (.invokevirtual 234, 3) := by decide +kernel
theorem dM_child_39 : decode prog_11_method_44_code 39 = .ok (.iconst (-1), 1) := by decide +kernel
theorem dM_child_40 : decode prog_11_method_44_code 40 = .ok (.ireturn, 1) := by decide +kernel
abbrev rm_M_child : Room := { frames := 2, cells := 0, slots := 0, locals := 43 }
def f_M_child (N : Nat) (x0 : Nat) (x1 : Int32) (x2 : Int32) (x3 : Int32) (E : hE) : Option (Int32 × hE) := (
  (gO E (some x0) 7).bind fun o2 =>
  (f_M_isProgram E o2.1 x2).bind fun v2 =>
  if v2 = 0 then (
  some (102, E)
  ) else (
  if x1 = 3 then (
  some (105, E)
  ) else (
  (gR E (some x0) 7 28).bind fun v20 =>
  (gO E (some x0) 7).bind fun o26 =>
  (f_M_registerOf E o26.1 1).bind fun v26 =>
  (tI E v20 0 x1 v26).bind fun E29 =>
  (gO E29 (some x0) 7).bind fun o36 =>
  (f_M_begin N o36.1 (x1 + 1) x2 x3 E29).bind fun v36 =>
  some ((-1), v36)
  )
  ))
set_option maxHeartbeats 4000000 in
set_option maxRecDepth 100000 in
theorem c_M_child {l : Launch} {D : va_G} {kA : Nat → ClassId} {S : hE} {g : Nat → Nat} {n0 nx : Nat} {N : Nat} {x0 : Nat} {x1 : Int32} {x2 : Int32} {x3 : Int32} {E : hE} {res : Int32 × hE} (hf : f_M_child N x0 x1 x2 x3 E = some res) : Met l y_M_child ws_M_child rm_M_child (va_Pc [va_rf (some x0), .int x1, .int x2, .int x3] (hJ D kA S g n0 (E, nx))) (va_Qi (fun r w => r = res.1 ∧ w = (res.2, nx)) (hJ D kA S g n0) (fun q => n0 ≤ q)) 0 0 (fun q => n0 ≤ q) := by
  refine h_met (cc := prog_11_method_44_code) (maxL := 4) (ret := (some .int)) (lvs := [(0, va_rf (some x0)), (1, .int x1), (2, .int x2), (3, .int x3)]) zZ_k (by decide) rfl (by simp [lg_sl, va_rf_cat, cat_i, cat_l, cat_n]) (by simp [lv_args, va_rf_cat, cat_i, cat_l, cat_n]) ?_
  intro p e s m below meth c ls C M hr hlk hnm hl
  unfold f_M_child at hf
  refine w_aload_n C.x C.b dM_child_0 rfl (lv_at hl 0 rfl) ?_
  refine lv_iload_n C.x C.b dM_child_1 rfl (lv_at hl 2 rfl) ?_
  obtain ⟨o2, g2, hf⟩ := Option.bind_eq_some_iff.mp hf
  obtain ⟨v2, h2, hf⟩ := Option.bind_eq_some_iff.mp hf
  refine w_ci M (w_runV C M g2 rfl (c_M_isProgram h2) (cwV 1 C.ts (hgV wm_945 wm_947 sel_M_isProgram wm_6 wm_948) rfl rfl rfl (by decide +kernel) ⟨Nat.le_of_ble_eq_true rfl, Nat.le_of_ble_eq_true rfl⟩) rfl hl.1 rfl (Nat.zero_le _) dM_child_2 ⟨Nat.le_refl _, Nat.le_refl _⟩) (fun H locs M => ?_)
  refine lv_if_ne (tgt := 11) C.x C.b dM_child_5 (by decide) (fun c5 => ?_) (fun c5 => ?_)
  · rw [if_neg c5] at hf
    refine lv_iload_n C.x C.b dM_child_11 rfl (lv_at hl 1 rfl) ?_
    refine lv_iconst (v := 3) C.x C.b dM_child_12 (by decide) ?_
    refine lv_icmp_ne (tgt := 19) C.x C.b dM_child_13 (by decide) (fun c13 => ?_) (fun c13 => ?_)
    · rw [if_neg c13] at hf
      refine w_aload_n C.x C.b dM_child_19 rfl (lv_at hl 0 rfl) ?_
      obtain ⟨v20, h20, hf⟩ := Option.bind_eq_some_iff.mp hf
      refine w_getR C M h20 rfl (hm_in in_M) (by decide) (List.mem_cons_of_mem _ wm_751) rfl dM_child_20 ?_
      refine lv_iload_n C.x C.b dM_child_23 rfl (lv_at hl 1 rfl) ?_
      refine w_aload_n C.x C.b dM_child_24 rfl (lv_at hl 0 rfl) ?_
      refine lv_iconst (v := 1) C.x C.b dM_child_25 (by decide) ?_
      obtain ⟨o26, g26, hf⟩ := Option.bind_eq_some_iff.mp hf
      obtain ⟨v26, h26, hf⟩ := Option.bind_eq_some_iff.mp hf
      refine w_ci M (w_runV C M g26 rfl (c_M_registerOf h26) (cwV 1 C.ts (hgV wm_969 wm_971 sel_M_registerOf wm_6 wm_972) rfl rfl rfl (by decide +kernel) ⟨Nat.le_of_ble_eq_true rfl, Nat.le_of_ble_eq_true rfl⟩) rfl hl.1 rfl (by simp [va_rf_cat, cat_i, cat_l, cat_n]) dM_child_26 ⟨Nat.le_refl _, Nat.le_refl _⟩) (fun H locs M => ?_)
      obtain ⟨E29, h29, hf⟩ := Option.bind_eq_some_iff.mp hf
      refine w_iast C M h29 rfl dM_child_29 (fun H locs M => ?_)
      refine w_aload_n C.x C.b dM_child_30 rfl (lv_at hl 0 rfl) ?_
      refine lv_iload_n C.x C.b dM_child_31 rfl (lv_at hl 1 rfl) ?_
      refine lv_iconst (v := 1) C.x C.b dM_child_32 (by decide) ?_
      refine lv_iadd C.x C.b dM_child_33 ?_
      refine lv_iload_n C.x C.b dM_child_34 rfl (lv_at hl 2 rfl) ?_
      refine lv_iload_n C.x C.b dM_child_35 rfl (lv_at hl 3 rfl) ?_
      obtain ⟨o36, g36, hf⟩ := Option.bind_eq_some_iff.mp hf
      obtain ⟨v36, h36, hf⟩ := Option.bind_eq_some_iff.mp hf
      refine w_cv M (w_runV C M g36 rfl (c_M_begin h36) (cwV 3 C.ts (hgV wm_949 wm_951 sel_M_begin wm_6 wm_952) rfl rfl rfl (by decide +kernel) ⟨Nat.le_of_ble_eq_true rfl, Nat.le_of_ble_eq_true rfl⟩) rfl hl.1 rfl (Nat.zero_le _) dM_child_36 ⟨Nat.le_refl _, Nat.le_refl _⟩) (fun H locs M => ?_)
      refine lv_iconst (v := (-1)) C.x C.b dM_child_39 (by decide) ?_
      cases hf
      exact w_iret C M hr hlk rfl (Nat.le_refl _) (Nat.le_refl _) dM_child_40 rfl rfl
    · rw [if_pos c13] at hf
      refine lv_bipush (v := 105) C.x C.b dM_child_16 (by decide) ?_
      cases hf
      exact w_iret C M hr hlk rfl (Nat.le_refl _) (Nat.le_refl _) dM_child_18 rfl rfl
  · rw [if_pos c5] at hf
    refine lv_bipush (v := 102) C.x C.b dM_child_8 (by decide) ?_
    cases hf
    exact w_iret C M hr hlk rfl (Nat.le_refl _) (Nat.le_refl _) dM_child_10 rfl rfl
theorem dM_ask_0 : decode prog_11_method_45_code 0 = .ok (.iload_n 2, 1) := by decide +kernel
theorem dM_ask_1 : decode prog_11_method_45_code 1 = .ok (.iconst 0, 1) := by decide +kernel
theorem dM_ask_2 : decode prog_11_method_45_code 2 = .ok (.iconst 2, 1) := by decide +kernel
theorem dM_ask_3 : decode prog_11_method_45_code 3 = .ok (.invokestatic 83, 3) := by decide +kernel
theorem dM_ask_6 : decode prog_11_method_45_code 6 = .ok (.ifCond .ne 6, 3) := by decide +kernel
theorem dM_ask_9 : decode prog_11_method_45_code 9 = .ok (.bipush 102, 2) := by decide +kernel
theorem dM_ask_11 : decode prog_11_method_45_code 11 = .ok (.ireturn, 1) := by decide +kernel
theorem dM_ask_12 : decode prog_11_method_45_code 12 = .ok (.aload_n 0, 1) := by decide +kernel
theorem dM_ask_13 : decode prog_11_method_45_code 13 = .ok (.getfield 51, 3) := by decide +kernel
theorem dM_ask_16 : decode prog_11_method_45_code 16 = .ok (.iload_n 2, 1) := by decide +kernel
theorem dM_ask_17 : decode prog_11_method_45_code 17 = .ok (.baload, 1) := by decide +kernel
theorem dM_ask_18 : decode prog_11_method_45_code 18 = .ok (.ifCond .ne 6, 3) := by decide +kernel
theorem dM_ask_21 : decode prog_11_method_45_code 21 = .ok (.bipush 106, 2) := by decide +kernel
theorem dM_ask_23 : decode prog_11_method_45_code 23 = .ok (.ireturn, 1) := by decide +kernel
theorem dM_ask_24 : decode prog_11_method_45_code 24 = .ok (.aload_n 0, 1) := by decide +kernel
theorem dM_ask_25 : decode prog_11_method_45_code 25 = .ok (.iload_n 1, 1) := by decide +kernel
theorem dM_ask_26 : decode prog_11_method_45_code 26 = .ok (.iload_n 2, 1) := by decide +kernel
theorem dM_ask_27 : decode prog_11_method_45_code 27 = .ok (.ifCond .ne 12, 3) := by decide +kernel
theorem dM_ask_30 : decode prog_11_method_45_code 30 = .ok (.aload_n 0, 1) := by decide +kernel
theorem dM_ask_31 : decode prog_11_method_45_code 31 = .ok (.getfield 219, 3) := by decide +kernel
theorem dM_ask_34 : decode prog_11_method_45_code 34 = .ok (.iconst 1, 1) := by decide +kernel
theorem dM_ask_35 : decode prog_11_method_45_code 35 = .ok (.isub, 1) := by decide +kernel
theorem dM_ask_36 : decode prog_11_method_45_code 36 = .ok (.goto 27, 3) := by decide +kernel
theorem dM_ask_39 : decode prog_11_method_45_code 39 = .ok (.iload_n 2, 1) := by decide +kernel
theorem dM_ask_40 : decode prog_11_method_45_code 40 = .ok (.iconst 1, 1) := by decide +kernel
theorem dM_ask_41 : decode prog_11_method_45_code 41 = .ok (.if_icmp .ne 10, 3) := by decide +kernel
theorem dM_ask_44 : decode prog_11_method_45_code 44 = .ok (.aload_n 0, 1) := by decide +kernel
theorem dM_ask_45 : decode prog_11_method_45_code 45 = .ok (.getfield 222, 3) := by decide +kernel
theorem dM_ask_48 : decode prog_11_method_45_code 48 = .ok (.goto 15, 3) := by decide +kernel
theorem dM_ask_51 : decode prog_11_method_45_code 51 = .ok (.sipush 1000, 3) := by decide +kernel
theorem dM_ask_54 : decode prog_11_method_45_code 54 = .ok (.iload_n 1, 1) := by decide +kernel
theorem dM_ask_55 : decode prog_11_method_45_code 55 = .ok (.imul, 1) := by decide +kernel
theorem dM_ask_56 : decode prog_11_method_45_code 56 = .ok (.aload_n 0, 1) := by decide +kernel
theorem dM_ask_57 : decode prog_11_method_45_code 57 = .ok (.getfield 63, 3) := by decide +kernel
theorem dM_ask_60 : decode prog_11_method_45_code 60 = .ok (.iload_n 1, 1) := by decide +kernel
theorem dM_ask_61 : decode prog_11_method_45_code 61 = .ok (.iaload, 1) := by decide +kernel
theorem dM_ask_62 : decode prog_11_method_45_code 62 = .ok (.iadd, 1) := by decide +kernel
theorem dM_ask_63 : decode prog_11_method_45_code 63 = .ok (.invokevirtual 267, 3) := by decide +kernel
theorem dM_ask_66 : decode prog_11_method_45_code 66 = .ok (.ireturn, 1) := by decide +kernel
abbrev rm_M_ask : Room := { frames := 2, cells := 0, slots := 0, locals := 45 }
def f_M_ask_b63  (t0 : Option Nat) (t1 : Int32) (t2 : Int32) (E : hE) : Option (Int32 × hE) := (
  (gO E t0 7).bind fun o63 =>
  (f_M_gives o63.1 t1 t2 E).bind fun v63 =>
  some (v63.1, v63.2))
set_option maxHeartbeats 4000000 in
set_option maxRecDepth 100000 in
theorem b_M_ask_63 {p : Program} {l : Launch} {e : Env} {s : State} {m : MethodId} {args : Array Value} {below : List Frame} {meth : Method} {c : Code} {D : va_G} {kA : Nat → ClassId} {S : hE} {g : Nat → Nat} {n0 nx : Nat} {res : Int32 × hE} (C : hX p s m args c prog_11_method_45_code 3 R_M ws_M_ask D kA S g n0) (hr : meth.sig.returnType = (some .int)) (hlk : meth.locks = false) (hnm : meth.name = "ask") : ∀ (t0 : Option Nat) (t1 : Int32) (t2 : Int32) (E : hE) (H : Heap) (locs : List Loc) (ls : Array Slot), hY D kA n0 s E nx H locs → lv_has ls 3 [] → f_M_ask_b63  t0 t1 t2 E = some res → W p l e rm_M_ask s m args below meth c H locs 0 0 (MQ below (va_Qi (fun r w => r = res.1 ∧ w = (res.2, nx)) (hJ D kA S g n0) (fun q => n0 ≤ q)) args s 0 0 (fun q => n0 ≤ q)) (F0 m 63 ls [.int t2, .int t1, va_rf t0]) := by
  intro t0 t1 t2 E H locs ls M hl hf
  unfold f_M_ask_b63 at hf
  obtain ⟨o63, g63, hf⟩ := Option.bind_eq_some_iff.mp hf
  obtain ⟨v63, h63, hf⟩ := Option.bind_eq_some_iff.mp hf
  refine w_ci M (w_runV C M g63 rfl (c_M_gives h63) (cwV 2 C.ts (hgV wm_973 wm_975 sel_M_gives wm_6 wm_976) rfl rfl rfl (by decide +kernel) ⟨Nat.le_of_ble_eq_true rfl, Nat.le_of_ble_eq_true rfl⟩) rfl hl.1 rfl (Nat.zero_le _) dM_ask_63 ⟨Nat.le_refl _, Nat.le_refl _⟩) (fun H locs M => ?_)
  cases hf
  exact w_iret C M hr hlk rfl (Nat.le_refl _) (Nat.le_refl _) dM_ask_66 rfl rfl
def f_M_ask  (x0 : Nat) (x1 : Int32) (x2 : Int32) (E : hE) : Option (Int32 × hE) := (
  (f_M_in E x2 0 2).bind fun v3 =>
  if v3 = 0 then (
  some (102, E)
  ) else (
  (gR E (some x0) 7 15).bind fun v13 =>
  (aI E v13 1 x2).bind fun v17 =>
  if v17 = 0 then (
  some (106, E)
  ) else (
  if x2 = 0 then (
  (gI E (some x0) 7 17).bind fun v31 =>
  f_M_ask_b63 (some x0) x1 (v31 - 1) E
  ) else (
  if x2 = 1 then (
  (gI E (some x0) 7 18).bind fun v45 =>
  f_M_ask_b63 (some x0) x1 v45 E
  ) else (
  (gR E (some x0) 7 27).bind fun v57 =>
  (aI E v57 0 x1).bind fun v61 =>
  f_M_ask_b63 (some x0) x1 ((1000 * x1) + v61) E
  )
  )
  )
  ))
set_option maxHeartbeats 4000000 in
set_option maxRecDepth 100000 in
theorem c_M_ask {l : Launch} {D : va_G} {kA : Nat → ClassId} {S : hE} {g : Nat → Nat} {n0 nx : Nat} {x0 : Nat} {x1 : Int32} {x2 : Int32} {E : hE} {res : Int32 × hE} (hf : f_M_ask x0 x1 x2 E = some res) : Met l y_M_ask ws_M_ask rm_M_ask (va_Pc [va_rf (some x0), .int x1, .int x2] (hJ D kA S g n0 (E, nx))) (va_Qi (fun r w => r = res.1 ∧ w = (res.2, nx)) (hJ D kA S g n0) (fun q => n0 ≤ q)) 0 0 (fun q => n0 ≤ q) := by
  refine h_met (cc := prog_11_method_45_code) (maxL := 3) (ret := (some .int)) (lvs := [(0, va_rf (some x0)), (1, .int x1), (2, .int x2)]) zZ_k (by decide) rfl (by simp [lg_sl, va_rf_cat, cat_i, cat_l, cat_n]) (by simp [lv_args, va_rf_cat, cat_i, cat_l, cat_n]) ?_
  intro p e s m below meth c ls C M hr hlk hnm hl
  unfold f_M_ask at hf
  refine lv_iload_n C.x C.b dM_ask_0 rfl (lv_at hl 2 rfl) ?_
  refine lv_iconst (v := 0) C.x C.b dM_ask_1 (by decide) ?_
  refine lv_iconst (v := 2) C.x C.b dM_ask_2 (by decide) ?_
  obtain ⟨v3, h3, hf⟩ := Option.bind_eq_some_iff.mp hf
  refine w_ci M (w_runS C M (c_M_in h3) (cwS 3 C.ts (hgS wm_829 wm_830 wm_6 wm_831) rfl rfl rfl (by decide +kernel) ⟨Nat.le_of_ble_eq_true rfl, Nat.le_of_ble_eq_true rfl⟩) rfl hl.1 rfl (Nat.zero_le _) dM_ask_3 ⟨Nat.le_refl _, Nat.le_refl _⟩) (fun H locs M => ?_)
  refine lv_if_ne (tgt := 12) C.x C.b dM_ask_6 (by decide) (fun c6 => ?_) (fun c6 => ?_)
  · rw [if_neg c6] at hf
    refine w_aload_n C.x C.b dM_ask_12 rfl (lv_at hl 0 rfl) ?_
    obtain ⟨v13, h13, hf⟩ := Option.bind_eq_some_iff.mp hf
    refine w_getR C M h13 rfl (hm_in in_M) (by decide) (List.mem_cons_of_mem _ wm_738) rfl dM_ask_13 ?_
    refine lv_iload_n C.x C.b dM_ask_16 rfl (lv_at hl 2 rfl) ?_
    obtain ⟨v17, h17, hf⟩ := Option.bind_eq_some_iff.mp hf
    refine w_zald C M h17 rfl dM_ask_17 ?_
    refine lv_if_ne (tgt := 24) C.x C.b dM_ask_18 (by decide) (fun c18 => ?_) (fun c18 => ?_)
    · rw [if_neg c18] at hf
      refine w_aload_n C.x C.b dM_ask_24 rfl (lv_at hl 0 rfl) ?_
      refine lv_iload_n C.x C.b dM_ask_25 rfl (lv_at hl 1 rfl) ?_
      refine lv_iload_n C.x C.b dM_ask_26 rfl (lv_at hl 2 rfl) ?_
      refine lv_if_ne (tgt := 39) C.x C.b dM_ask_27 (by decide) (fun c27 => ?_) (fun c27 => ?_)
      · rw [if_neg c27] at hf
        refine lv_iload_n C.x C.b dM_ask_39 rfl (lv_at hl 2 rfl) ?_
        refine lv_iconst (v := 1) C.x C.b dM_ask_40 (by decide) ?_
        refine lv_icmp_ne (tgt := 51) C.x C.b dM_ask_41 (by decide) (fun c41 => ?_) (fun c41 => ?_)
        · rw [if_neg c41] at hf
          refine lv_sipush (v := 1000) C.x C.b dM_ask_51 (by decide) ?_
          refine lv_iload_n C.x C.b dM_ask_54 rfl (lv_at hl 1 rfl) ?_
          refine lv_imul C.x C.b dM_ask_55 ?_
          refine w_aload_n C.x C.b dM_ask_56 rfl (lv_at hl 0 rfl) ?_
          obtain ⟨v57, h57, hf⟩ := Option.bind_eq_some_iff.mp hf
          refine w_getR C M h57 rfl (hm_in in_M) (by decide) (List.mem_cons_of_mem _ wm_750) rfl dM_ask_57 ?_
          refine lv_iload_n C.x C.b dM_ask_60 rfl (lv_at hl 1 rfl) ?_
          obtain ⟨v61, h61, hf⟩ := Option.bind_eq_some_iff.mp hf
          refine w_iald C M h61 rfl dM_ask_61 ?_
          refine lv_iadd C.x C.b dM_ask_62 ?_
          exact b_M_ask_63 C hr hlk hnm _ _ _ _ _ _ _ M (lv_sub hl [] rfl) hf
        · rw [if_pos c41] at hf
          refine w_aload_n C.x C.b dM_ask_44 rfl (lv_at hl 0 rfl) ?_
          obtain ⟨v45, h45, hf⟩ := Option.bind_eq_some_iff.mp hf
          refine w_getI C M h45 rfl (hm_in in_M) (by decide) (List.mem_cons_of_mem _ wm_741) rfl dM_ask_45 ?_
          refine lv_goto (tgt := 63) C.x C.b dM_ask_48 (by decide) ?_
          exact b_M_ask_63 C hr hlk hnm _ _ _ _ _ _ _ M (lv_sub hl [] rfl) hf
      · rw [if_pos c27] at hf
        refine w_aload_n C.x C.b dM_ask_30 rfl (lv_at hl 0 rfl) ?_
        obtain ⟨v31, h31, hf⟩ := Option.bind_eq_some_iff.mp hf
        refine w_getI C M h31 rfl (hm_in in_M) (by decide) (List.mem_cons_of_mem _ wm_740) rfl dM_ask_31 ?_
        refine lv_iconst (v := 1) C.x C.b dM_ask_34 (by decide) ?_
        refine lv_isub C.x C.b dM_ask_35 ?_
        refine lv_goto (tgt := 63) C.x C.b dM_ask_36 (by decide) ?_
        exact b_M_ask_63 C hr hlk hnm _ _ _ _ _ _ _ M (lv_sub hl [] rfl) hf
    · rw [if_pos c18] at hf
      refine lv_bipush (v := 106) C.x C.b dM_ask_21 (by decide) ?_
      cases hf
      exact w_iret C M hr hlk rfl (Nat.le_refl _) (Nat.le_refl _) dM_ask_23 rfl rfl
  · rw [if_pos c6] at hf
    refine lv_bipush (v := 102) C.x C.b dM_ask_9 (by decide) ?_
    cases hf
    exact w_iret C M hr hlk rfl (Nat.le_refl _) (Nat.le_refl _) dM_ask_11 rfl rfl
