/-! m02: by wip/whole/gen.py -/
theorem dM_goal_0 : decode prog_11_method_16_code 0 = .ok (.aload_n 0, 1) := by decide +kernel
theorem dM_goal_1 : decode prog_11_method_16_code 1 = .ok (.getfield 32, 3) := by decide +kernel
theorem dM_goal_4 : decode prog_11_method_16_code 4 = .ok (.iconst 0, 1) := by decide +kernel
theorem dM_goal_5 : decode prog_11_method_16_code 5 = .ok (.laload, 1) := by decide +kernel
theorem dM_goal_6 : decode prog_11_method_16_code 6 = .ok (.ldc2_w 178, 3) := by decide +kernel
theorem dM_goal_9 : decode prog_11_method_16_code 9 = .ok (.lcmp, 1) := by decide +kernel
theorem dM_goal_10 : decode prog_11_method_16_code 10 = .ok (.ifCond .eq 16, 3) := by decide +kernel
theorem dM_goal_13 : decode prog_11_method_16_code 13 = .ok (.aload_n 0, 1) := by decide +kernel
theorem dM_goal_14 : decode prog_11_method_16_code 14 = .ok (.getfield 32, 3) := by decide +kernel
theorem dM_goal_17 : decode prog_11_method_16_code 17 = .ok (.iconst 0, 1) := by decide +kernel
theorem dM_goal_18 : decode prog_11_method_16_code 18 = .ok (.laload, 1) := by decide +kernel
theorem dM_goal_19 : decode prog_11_method_16_code 19 = .ok (.ldc2_w 180, 3) := by decide +kernel
theorem dM_goal_22 : decode prog_11_method_16_code 22 = .ok (.lcmp, 1) := by decide +kernel
theorem dM_goal_23 : decode prog_11_method_16_code 23 = .ok (.ifCond .ne 14, 3) := by decide +kernel
theorem dM_goal_26 : decode prog_11_method_16_code 26 = .ok (.aload_n 0, 1) := by decide +kernel
theorem dM_goal_27 : decode prog_11_method_16_code 27 = .ok (.getfield 32, 3) := by decide +kernel
theorem dM_goal_30 : decode prog_11_method_16_code 30 = .ok (.iconst 1, 1) := by decide +kernel
theorem dM_goal_31 : decode prog_11_method_16_code 31 = .ok (.laload, 1) := by decide +kernel
theorem dM_goal_32 : decode prog_11_method_16_code 32 = .ok (.l2i, 1) := by decide +kernel
theorem dM_goal_33 : decode prog_11_method_16_code 33 = .ok (.bipush 65, 2) := by decide +kernel
theorem dM_goal_35 : decode prog_11_method_16_code 35 = .ok (.isub, 1) := by decide +kernel
theorem dM_goal_36 : decode prog_11_method_16_code 36 = .ok (.ireturn, 1) := by decide +kernel
theorem dM_goal_37 : decode prog_11_method_16_code 37 = .ok (.aload_n 0, 1) := by decide +kernel
theorem dM_goal_38 : decode prog_11_method_16_code 38 = .ok (.getfield 32, 3) := by decide +kernel
theorem dM_goal_41 : decode prog_11_method_16_code 41 = .ok (.iconst 0, 1) := by decide +kernel
theorem dM_goal_42 : decode prog_11_method_16_code 42 = .ok (.laload, 1) := by decide +kernel
theorem dM_goal_43 : decode prog_11_method_16_code 43 = .ok (.ldc2_w 185, 3) := by decide +kernel
theorem dM_goal_46 : decode prog_11_method_16_code 46 = .ok (.lcmp, 1) := by decide +kernel
theorem dM_goal_47 : decode prog_11_method_16_code 47 = .ok (.ifCond .ne 16, 3) := by decide +kernel
theorem dM_goal_50 : decode prog_11_method_16_code 50 = .ok (.aload_n 0, 1) := by decide +kernel
theorem dM_goal_51 : decode prog_11_method_16_code 51 = .ok (.getfield 32, 3) := by decide +kernel
theorem dM_goal_54 : decode prog_11_method_16_code 54 = .ok (.iconst 5, 1) := by decide +kernel
theorem dM_goal_55 : decode prog_11_method_16_code 55 = .ok (.laload, 1) := by decide +kernel
theorem dM_goal_56 : decode prog_11_method_16_code 56 = .ok (.l2i, 1) := by decide +kernel
theorem dM_goal_57 : decode prog_11_method_16_code 57 = .ok (.bipush 65, 2) := by decide +kernel
theorem dM_goal_59 : decode prog_11_method_16_code 59 = .ok (.isub, 1) := by decide +kernel
theorem dM_goal_60 : decode prog_11_method_16_code 60 = .ok (.goto 4, 3) := by decide +kernel
theorem dM_goal_63 : decode prog_11_method_16_code 63 = .ok (.iconst (-1), 1) := by decide +kernel
theorem dM_goal_64 : decode prog_11_method_16_code 64 = .ok (.ireturn, 1) := by decide +kernel
abbrev rm_M_goal : Room := { frames := 0, cells := 0, slots := 0, locals := 0 }
def f_M_goal_b64 (E : hE) (t0 : Int32) : Option (Int32) := (
  some t0)
set_option maxHeartbeats 4000000 in
set_option maxRecDepth 100000 in
theorem b_M_goal_64 {p : Program} {l : Launch} {e : Env} {s : State} {m : MethodId} {args : Array Value} {below : List Frame} {meth : Method} {c : Code} {D : va_G} {kA : Nat → ClassId} {S : hE} {g : Nat → Nat} {n0 nx : Nat} {E : hE} {res : Int32} (C : hX p s m args c prog_11_method_16_code 1 R_M ws_M_goal D kA S g n0) (hr : meth.sig.returnType = (some .int)) (hlk : meth.locks = false) (hnm : meth.name = "goal") : ∀ (t0 : Int32) (H : Heap) (locs : List Loc) (ls : Array Slot), hY D kA n0 s E nx H locs → lv_has ls 1 [] → f_M_goal_b64 E  t0 = some res → W p l e rm_M_goal s m args below meth c H locs 0 0 (MQ below (va_Qi (fun r w => r = res ∧ w = (E, nx)) (hJ D kA S g n0) (fun q => n0 ≤ q)) args s 0 0 (fun q => n0 ≤ q)) (F0 m 64 ls [.int t0]) := by
  intro t0 H locs ls M hl hf
  unfold f_M_goal_b64 at hf
  cases hf
  exact w_iret C M hr hlk rfl (Nat.le_refl _) (Nat.le_refl _) dM_goal_64 rfl rfl
def f_M_goal_b26 (E : hE) (y0 : Option Nat) : Option (Int32) := (
  (gR E y0 7 9).bind fun v27 =>
  (aJ E v27 2 1).bind fun v31 =>
  some (v31.toInt32 - 65))
set_option maxHeartbeats 4000000 in
set_option maxRecDepth 100000 in
theorem b_M_goal_26 {p : Program} {l : Launch} {e : Env} {s : State} {m : MethodId} {args : Array Value} {below : List Frame} {meth : Method} {c : Code} {D : va_G} {kA : Nat → ClassId} {S : hE} {g : Nat → Nat} {n0 nx : Nat} {E : hE} {res : Int32} (C : hX p s m args c prog_11_method_16_code 1 R_M ws_M_goal D kA S g n0) (hr : meth.sig.returnType = (some .int)) (hlk : meth.locks = false) (hnm : meth.name = "goal") : ∀ (y0 : Option Nat) (H : Heap) (locs : List Loc) (ls : Array Slot), hY D kA n0 s E nx H locs → lv_has ls 1 [(0, va_rf y0)] → f_M_goal_b26 E  y0 = some res → W p l e rm_M_goal s m args below meth c H locs 0 0 (MQ below (va_Qi (fun r w => r = res ∧ w = (E, nx)) (hJ D kA S g n0) (fun q => n0 ≤ q)) args s 0 0 (fun q => n0 ≤ q)) (F0 m 26 ls []) := by
  intro y0 H locs ls M hl hf
  unfold f_M_goal_b26 at hf
  refine w_aload_n C.x C.b dM_goal_26 rfl (lv_at hl 0 rfl) ?_
  obtain ⟨v27, h27, hf⟩ := Option.bind_eq_some_iff.mp hf
  refine w_getR C M h27 rfl (hm_in in_M) (by decide) (List.mem_cons_of_mem _ wm_732) rfl dM_goal_27 ?_
  refine lv_iconst (v := 1) C.x C.b dM_goal_30 (by decide) ?_
  obtain ⟨v31, h31, hf⟩ := Option.bind_eq_some_iff.mp hf
  refine w_lald C M h31 rfl dM_goal_31 ?_
  refine lv_l2i C.x C.b dM_goal_32 rfl ?_
  refine lv_bipush (v := 65) C.x C.b dM_goal_33 (by decide) ?_
  refine lv_isub C.x C.b dM_goal_35 ?_
  cases hf
  exact w_iret C M hr hlk rfl (Nat.le_refl _) (Nat.le_refl _) dM_goal_36 rfl rfl
def f_M_goal (E : hE) (x0 : Nat) : Option (Int32) := (
  (gR E (some x0) 7 9).bind fun v1 =>
  (aJ E v1 2 0).bind fun v5 =>
  if (lg_cmp v5 26479) = 0 then (
  f_M_goal_b26 E (some x0)
  ) else (
  (gR E (some x0) 7 9).bind fun v14 =>
  (aJ E v14 2 0).bind fun v18 =>
  if (lg_cmp v18 1667329132) = 0 then (
  f_M_goal_b26 E (some x0)
  ) else (
  (gR E (some x0) 7 9).bind fun v38 =>
  (aJ E v38 2 0).bind fun v42 =>
  if (lg_cmp v42 26982) = 0 then (
  (gR E (some x0) 7 9).bind fun v51 =>
  (aJ E v51 2 5).bind fun v55 =>
  f_M_goal_b64 E (v55.toInt32 - 65)
  ) else (
  f_M_goal_b64 E (-1)
  )
  )
  ))
set_option maxHeartbeats 4000000 in
set_option maxRecDepth 100000 in
theorem c_M_goal {l : Launch} {D : va_G} {kA : Nat → ClassId} {S : hE} {g : Nat → Nat} {n0 nx : Nat} {x0 : Nat} {E : hE} {res : Int32} (hf : f_M_goal E x0 = some res) : Met l y_M_goal ws_M_goal rm_M_goal (va_Pc [va_rf (some x0)] (hJ D kA S g n0 (E, nx))) (va_Qi (fun r w => r = res ∧ w = (E, nx)) (hJ D kA S g n0) (fun q => n0 ≤ q)) 0 0 (fun q => n0 ≤ q) := by
  refine h_met (cc := prog_11_method_16_code) (maxL := 1) (ret := (some .int)) (lvs := [(0, va_rf (some x0))]) zZ_k (by decide) rfl (by simp [lg_sl, va_rf_cat, cat_i, cat_l, cat_n]) (by simp [lv_args, va_rf_cat, cat_i, cat_l, cat_n]) ?_
  intro p e s m below meth c ls C M hr hlk hnm hl
  unfold f_M_goal at hf
  refine w_aload_n C.x C.b dM_goal_0 rfl (lv_at hl 0 rfl) ?_
  obtain ⟨v1, h1, hf⟩ := Option.bind_eq_some_iff.mp hf
  refine w_getR C M h1 rfl (hm_in in_M) (by decide) (List.mem_cons_of_mem _ wm_732) rfl dM_goal_1 ?_
  refine lv_iconst (v := 0) C.x C.b dM_goal_4 (by decide) ?_
  obtain ⟨v5, h5, hf⟩ := Option.bind_eq_some_iff.mp hf
  refine w_lald C M h5 rfl dM_goal_5 ?_
  refine lv_ldc2 (v := 26479) C.x C.b C.ow (C.ts (.constantLong R_M 178 26479) (List.mem_cons_of_mem _ wm_901)) dM_goal_6 ?_
  refine W.lcmp C.x C.b dM_goal_9 ?_
  refine lv_if_eq (tgt := 26) C.x C.b dM_goal_10 (by decide) (fun c10 => ?_) (fun c10 => ?_)
  · rw [if_pos c10] at hf
    exact b_M_goal_26 C hr hlk hnm _ _ _ _ M (lv_sub hl [0] rfl) hf
  · rw [if_neg c10] at hf
    refine w_aload_n C.x C.b dM_goal_13 rfl (lv_at hl 0 rfl) ?_
    obtain ⟨v14, h14, hf⟩ := Option.bind_eq_some_iff.mp hf
    refine w_getR C M h14 rfl (hm_in in_M) (by decide) (List.mem_cons_of_mem _ wm_732) rfl dM_goal_14 ?_
    refine lv_iconst (v := 0) C.x C.b dM_goal_17 (by decide) ?_
    obtain ⟨v18, h18, hf⟩ := Option.bind_eq_some_iff.mp hf
    refine w_lald C M h18 rfl dM_goal_18 ?_
    refine lv_ldc2 (v := 1667329132) C.x C.b C.ow (C.ts (.constantLong R_M 180 1667329132) (List.mem_cons_of_mem _ wm_902)) dM_goal_19 ?_
    refine W.lcmp C.x C.b dM_goal_22 ?_
    refine lv_if_ne (tgt := 37) C.x C.b dM_goal_23 (by decide) (fun c23 => ?_) (fun c23 => ?_)
    · rw [if_neg c23] at hf
      refine w_aload_n C.x C.b dM_goal_37 rfl (lv_at hl 0 rfl) ?_
      obtain ⟨v38, h38, hf⟩ := Option.bind_eq_some_iff.mp hf
      refine w_getR C M h38 rfl (hm_in in_M) (by decide) (List.mem_cons_of_mem _ wm_732) rfl dM_goal_38 ?_
      refine lv_iconst (v := 0) C.x C.b dM_goal_41 (by decide) ?_
      obtain ⟨v42, h42, hf⟩ := Option.bind_eq_some_iff.mp hf
      refine w_lald C M h42 rfl dM_goal_42 ?_
      refine lv_ldc2 (v := 26982) C.x C.b C.ow (C.ts (.constantLong R_M 185 26982) (List.mem_cons_of_mem _ wm_907)) dM_goal_43 ?_
      refine W.lcmp C.x C.b dM_goal_46 ?_
      refine lv_if_ne (tgt := 63) C.x C.b dM_goal_47 (by decide) (fun c47 => ?_) (fun c47 => ?_)
      · rw [if_neg c47] at hf
        refine lv_iconst (v := (-1)) C.x C.b dM_goal_63 (by decide) ?_
        exact b_M_goal_64 C hr hlk hnm _ _ _ _ M (lv_sub hl [] rfl) hf
      · rw [if_pos c47] at hf
        refine w_aload_n C.x C.b dM_goal_50 rfl (lv_at hl 0 rfl) ?_
        obtain ⟨v51, h51, hf⟩ := Option.bind_eq_some_iff.mp hf
        refine w_getR C M h51 rfl (hm_in in_M) (by decide) (List.mem_cons_of_mem _ wm_732) rfl dM_goal_51 ?_
        refine lv_iconst (v := 5) C.x C.b dM_goal_54 (by decide) ?_
        obtain ⟨v55, h55, hf⟩ := Option.bind_eq_some_iff.mp hf
        refine w_lald C M h55 rfl dM_goal_55 ?_
        refine lv_l2i C.x C.b dM_goal_56 rfl ?_
        refine lv_bipush (v := 65) C.x C.b dM_goal_57 (by decide) ?_
        refine lv_isub C.x C.b dM_goal_59 ?_
        refine lv_goto (tgt := 64) C.x C.b dM_goal_60 (by decide) ?_
        exact b_M_goal_64 C hr hlk hnm _ _ _ _ M (lv_sub hl [] rfl) hf
    · rw [if_pos c23] at hf
      exact b_M_goal_26 C hr hlk hnm _ _ _ _ M (lv_sub hl [0] rfl) hf
theorem dM_ill_0 : decode prog_11_method_17_code 0 = .ok (.bipush 104, 2) := by decide +kernel
theorem dM_ill_2 : decode prog_11_method_17_code 2 = .ok (.istore_n 1, 1) := by decide +kernel
theorem dM_ill_3 : decode prog_11_method_17_code 3 = .ok (.iconst 0, 1) := by decide +kernel
theorem dM_ill_4 : decode prog_11_method_17_code 4 = .ok (.istore_n 2, 1) := by decide +kernel
theorem dM_ill_5 : decode prog_11_method_17_code 5 = .ok (.iload_n 2, 1) := by decide +kernel
theorem dM_ill_6 : decode prog_11_method_17_code 6 = .ok (.bipush 26, 2) := by decide +kernel
theorem dM_ill_8 : decode prog_11_method_17_code 8 = .ok (.if_icmp .ge 18, 3) := by decide +kernel
theorem dM_ill_11 : decode prog_11_method_17_code 11 = .ok (.aload_n 0, 1) := by decide +kernel
theorem dM_ill_12 : decode prog_11_method_17_code 12 = .ok (.getfield 29, 3) := by decide +kernel
theorem dM_ill_15 : decode prog_11_method_17_code 15 = .ok (.iload_n 1, 1) := by decide +kernel
theorem dM_ill_16 : decode prog_11_method_17_code 16 = .ok (.iload_n 2, 1) := by decide +kernel
theorem dM_ill_17 : decode prog_11_method_17_code 17 = .ok (.iadd, 1) := by decide +kernel
theorem dM_ill_18 : decode prog_11_method_17_code 18 = .ok (.iconst (-1), 1) := by decide +kernel
theorem dM_ill_19 : decode prog_11_method_17_code 19 = .ok (.iastore, 1) := by decide +kernel
theorem dM_ill_20 : decode prog_11_method_17_code 20 = .ok (.iinc 2 1, 3) := by decide +kernel
theorem dM_ill_23 : decode prog_11_method_17_code 23 = .ok (.goto (-18), 3) := by decide +kernel
theorem dM_ill_26 : decode prog_11_method_17_code 26 = .ok (.iconst 0, 1) := by decide +kernel
theorem dM_ill_27 : decode prog_11_method_17_code 27 = .ok (.istore_n 2, 1) := by decide +kernel
theorem dM_ill_28 : decode prog_11_method_17_code 28 = .ok (.iload_n 2, 1) := by decide +kernel
theorem dM_ill_29 : decode prog_11_method_17_code 29 = .ok (.aload_n 0, 1) := by decide +kernel
theorem dM_ill_30 : decode prog_11_method_17_code 30 = .ok (.getfield 22, 3) := by decide +kernel
theorem dM_ill_33 : decode prog_11_method_17_code 33 = .ok (.iconst 4, 1) := by decide +kernel
theorem dM_ill_34 : decode prog_11_method_17_code 34 = .ok (.iaload, 1) := by decide +kernel
theorem dM_ill_35 : decode prog_11_method_17_code 35 = .ok (.if_icmp .ge 81, 3) := by decide +kernel
theorem dM_ill_38 : decode prog_11_method_17_code 38 = .ok (.aload_n 0, 1) := by decide +kernel
theorem dM_ill_39 : decode prog_11_method_17_code 39 = .ok (.iconst 4, 1) := by decide +kernel
theorem dM_ill_40 : decode prog_11_method_17_code 40 = .ok (.iload_n 2, 1) := by decide +kernel
theorem dM_ill_41 : decode prog_11_method_17_code 41 = .ok (.invokevirtual 192, 3) := by decide +kernel
theorem dM_ill_44 : decode prog_11_method_17_code 44 = .ok (.aload_n 0, 1) := by decide +kernel
theorem dM_ill_45 : decode prog_11_method_17_code 45 = .ok (.getfield 102, 3) := by decide +kernel
theorem dM_ill_48 : decode prog_11_method_17_code 48 = .ok (.ifCond .ne 6, 3) := by decide +kernel
theorem dM_ill_51 : decode prog_11_method_17_code 51 = .ok (.goto 59, 3) := by decide +kernel
theorem dM_ill_54 : decode prog_11_method_17_code 54 = .ok (.aload_n 0, 1) := by decide +kernel
theorem dM_ill_55 : decode prog_11_method_17_code 55 = .ok (.invokevirtual 196, 3) := by decide +kernel
theorem dM_ill_58 : decode prog_11_method_17_code 58 = .ok (.ifCond .eq 43, 3) := by decide +kernel
theorem dM_ill_61 : decode prog_11_method_17_code 61 = .ok (.aload_n 0, 1) := by decide +kernel
theorem dM_ill_62 : decode prog_11_method_17_code 62 = .ok (.getfield 32, 3) := by decide +kernel
theorem dM_ill_65 : decode prog_11_method_17_code 65 = .ok (.iconst 0, 1) := by decide +kernel
theorem dM_ill_66 : decode prog_11_method_17_code 66 = .ok (.laload, 1) := by decide +kernel
theorem dM_ill_67 : decode prog_11_method_17_code 67 = .ok (.bipush 8, 2) := by decide +kernel
theorem dM_ill_69 : decode prog_11_method_17_code 69 = .ok (.lshr, 1) := by decide +kernel
theorem dM_ill_70 : decode prog_11_method_17_code 70 = .ok (.l2i, 1) := by decide +kernel
theorem dM_ill_71 : decode prog_11_method_17_code 71 = .ok (.bipush 65, 2) := by decide +kernel
theorem dM_ill_73 : decode prog_11_method_17_code 73 = .ok (.isub, 1) := by decide +kernel
theorem dM_ill_74 : decode prog_11_method_17_code 74 = .ok (.istore_n 3, 1) := by decide +kernel
theorem dM_ill_75 : decode prog_11_method_17_code 75 = .ok (.aload_n 0, 1) := by decide +kernel
theorem dM_ill_76 : decode prog_11_method_17_code 76 = .ok (.getfield 29, 3) := by decide +kernel
theorem dM_ill_79 : decode prog_11_method_17_code 79 = .ok (.iload_n 1, 1) := by decide +kernel
theorem dM_ill_80 : decode prog_11_method_17_code 80 = .ok (.iload_n 3, 1) := by decide +kernel
theorem dM_ill_81 : decode prog_11_method_17_code 81 = .ok (.iadd, 1) := by decide +kernel
theorem dM_ill_82 : decode prog_11_method_17_code 82 = .ok (.iaload, 1) := by decide +kernel
theorem dM_ill_83 : decode prog_11_method_17_code 83 = .ok (.iconst (-1), 1) := by decide +kernel
theorem dM_ill_84 : decode prog_11_method_17_code 84 = .ok (.if_icmp .eq 5, 3) := by decide +kernel
theorem dM_ill_87 : decode prog_11_method_17_code 87 = .ok (.iload_n 2, 1) := by decide +kernel
theorem dM_ill_88 : decode prog_11_method_17_code 88 = .ok (.ireturn, 1) := by decide +kernel
theorem dM_ill_89 : decode prog_11_method_17_code 89 = .ok (.aload_n 0, 1) := by decide +kernel
theorem dM_ill_90 : decode prog_11_method_17_code 90 = .ok (.getfield 29, 3) := by decide +kernel
theorem dM_ill_93 : decode prog_11_method_17_code 93 = .ok (.iload_n 1, 1) := by decide +kernel
theorem dM_ill_94 : decode prog_11_method_17_code 94 = .ok (.iload_n 3, 1) := by decide +kernel
theorem dM_ill_95 : decode prog_11_method_17_code 95 = .ok (.iadd, 1) := by decide +kernel
theorem dM_ill_96 : decode prog_11_method_17_code 96 = .ok (.iload_n 2, 1) := by decide +kernel
theorem dM_ill_97 : decode prog_11_method_17_code 97 = .ok (.iastore, 1) := by decide +kernel
theorem dM_ill_98 : decode prog_11_method_17_code 98 = .ok (.goto 12, 3) := by decide +kernel
theorem dM_ill_101 : decode prog_11_method_17_code 101 = .ok (.aload_n 0, 1) := by decide +kernel
theorem dM_ill_102 : decode prog_11_method_17_code 102 = .ok (.invokevirtual 200, 3) := by decide +kernel
theorem dM_ill_105 : decode prog_11_method_17_code 105 = .ok (.ifCond .ne 5, 3) := by decide +kernel
theorem dM_ill_108 : decode prog_11_method_17_code 108 = .ok (.iload_n 2, 1) := by decide +kernel
theorem dM_ill_109 : decode prog_11_method_17_code 109 = .ok (.ireturn, 1) := by decide +kernel
theorem dM_ill_110 : decode prog_11_method_17_code 110 = .ok (.iinc 2 1, 3) := by decide +kernel
theorem dM_ill_113 : decode prog_11_method_17_code 113 = .ok (.goto (-85), 3) := by decide +kernel
theorem dM_ill_116 : decode prog_11_method_17_code 116 = .ok (.iconst 0, 1) := by decide +kernel
theorem dM_ill_117 : decode prog_11_method_17_code 117 = .ok (.istore_n 2, 1) := by decide +kernel
theorem dM_ill_118 : decode prog_11_method_17_code 118 = .ok (.iload_n 2, 1) := by decide +kernel
theorem dM_ill_119 : decode prog_11_method_17_code 119 = .ok (.aload_n 0, 1) := by decide +kernel
theorem dM_ill_120 : decode prog_11_method_17_code 120 = .ok (.getfield 22, 3) := by decide +kernel
theorem dM_ill_123 : decode prog_11_method_17_code 123 = .ok (.iconst 4, 1) := by decide +kernel
theorem dM_ill_124 : decode prog_11_method_17_code 124 = .ok (.iaload, 1) := by decide +kernel
theorem dM_ill_125 : decode prog_11_method_17_code 125 = .ok (.if_icmp .ge 56, 3) := by decide +kernel
theorem dM_ill_128 : decode prog_11_method_17_code 128 = .ok (.aload_n 0, 1) := by decide +kernel
theorem dM_ill_129 : decode prog_11_method_17_code 129 = .ok (.iconst 4, 1) := by decide +kernel
theorem dM_ill_130 : decode prog_11_method_17_code 130 = .ok (.iload_n 2, 1) := by decide +kernel
theorem dM_ill_131 : decode prog_11_method_17_code 131 = .ok (.invokevirtual 192, 3) := by decide +kernel
theorem dM_ill_134 : decode prog_11_method_17_code 134 = .ok (.aload_n 0, 1) := by decide +kernel
theorem dM_ill_135 : decode prog_11_method_17_code 135 = .ok (.getfield 102, 3) := by decide +kernel
theorem dM_ill_138 : decode prog_11_method_17_code 138 = .ok (.ifCond .eq 37, 3) := by decide +kernel
theorem dM_ill_141 : decode prog_11_method_17_code 141 = .ok (.aload_n 0, 1) := by decide +kernel
theorem dM_ill_142 : decode prog_11_method_17_code 142 = .ok (.invokevirtual 196, 3) := by decide +kernel
theorem dM_ill_145 : decode prog_11_method_17_code 145 = .ok (.ifCond .eq 6, 3) := by decide +kernel
theorem dM_ill_148 : decode prog_11_method_17_code 148 = .ok (.goto 27, 3) := by decide +kernel
theorem dM_ill_151 : decode prog_11_method_17_code 151 = .ok (.aload_n 0, 1) := by decide +kernel
theorem dM_ill_152 : decode prog_11_method_17_code 152 = .ok (.invokevirtual 203, 3) := by decide +kernel
theorem dM_ill_155 : decode prog_11_method_17_code 155 = .ok (.istore_n 3, 1) := by decide +kernel
theorem dM_ill_156 : decode prog_11_method_17_code 156 = .ok (.iload_n 3, 1) := by decide +kernel
theorem dM_ill_157 : decode prog_11_method_17_code 157 = .ok (.iconst (-1), 1) := by decide +kernel
theorem dM_ill_158 : decode prog_11_method_17_code 158 = .ok (.if_icmp .eq 17, 3) := by decide +kernel
theorem dM_ill_161 : decode prog_11_method_17_code 161 = .ok (.aload_n 0, 1) := by decide +kernel
theorem dM_ill_162 : decode prog_11_method_17_code 162 = .ok (.getfield 29, 3) := by decide +kernel
theorem dM_ill_165 : decode prog_11_method_17_code 165 = .ok (.iload_n 1, 1) := by decide +kernel
theorem dM_ill_166 : decode prog_11_method_17_code 166 = .ok (.iload_n 3, 1) := by decide +kernel
theorem dM_ill_167 : decode prog_11_method_17_code 167 = .ok (.iadd, 1) := by decide +kernel
theorem dM_ill_168 : decode prog_11_method_17_code 168 = .ok (.iaload, 1) := by decide +kernel
theorem dM_ill_169 : decode prog_11_method_17_code 169 = .ok (.iconst (-1), 1) := by decide +kernel
theorem dM_ill_170 : decode prog_11_method_17_code 170 = .ok (.if_icmp .ne 5, 3) := by decide +kernel
theorem dM_ill_173 : decode prog_11_method_17_code 173 = .ok (.iload_n 2, 1) := by decide +kernel
theorem dM_ill_174 : decode prog_11_method_17_code 174 = .ok (.ireturn, 1) := by decide +kernel
theorem dM_ill_175 : decode prog_11_method_17_code 175 = .ok (.iinc 2 1, 3) := by decide +kernel
theorem dM_ill_178 : decode prog_11_method_17_code 178 = .ok (.goto (-60), 3) := by decide +kernel
theorem dM_ill_181 : decode prog_11_method_17_code 181 = .ok (.iconst (-1), 1) := by decide +kernel
theorem dM_ill_182 : decode prog_11_method_17_code 182 = .ok (.ireturn, 1) := by decide +kernel
abbrev rm_M_ill : Room := { frames := 4, cells := 0, slots := 0, locals := 88 }
def f_M_ill_b175 (N : Nat) (k118 : Option Nat → Int32 → Int32 → hE → Option (Int32 × hE)) (y0 : Option Nat) (y1 : Int32) (y2 : Int32) (E : hE) : Option (Int32 × hE) := (
  k118 y0 y1 (y2 + 1) E)
set_option maxHeartbeats 4000000 in
set_option maxRecDepth 100000 in
theorem b_M_ill_175 {p : Program} {l : Launch} {e : Env} {s : State} {m : MethodId} {args : Array Value} {below : List Frame} {meth : Method} {c : Code} {D : va_G} {kA : Nat → ClassId} {S : hE} {g : Nat → Nat} {n0 nx : Nat} {N : Nat} {res : Int32 × hE} (C : hX p s m args c prog_11_method_17_code 4 R_M ws_M_ill D kA S g n0) (hr : meth.sig.returnType = (some .int)) (hlk : meth.locks = false) (hnm : meth.name = "ill") (k118 : Option Nat → Int32 → Int32 → hE → Option (Int32 × hE)) (hk118 : ∀ (y0 : Option Nat) (y1 : Int32) (y2 : Int32) (E : hE) (H : Heap) (locs : List Loc) (ls : Array Slot), hY D kA n0 s E nx H locs → lv_has ls 4 [(0, va_rf y0), (1, .int y1), (2, .int y2)] → k118 y0 y1 y2 E = some res → W p l e rm_M_ill s m args below meth c H locs 0 0 (MQ below (va_Qi (fun r w => r = res.1 ∧ w = (res.2, nx)) (hJ D kA S g n0) (fun q => n0 ≤ q)) args s 0 0 (fun q => n0 ≤ q)) (F0 m 118 ls [])) : ∀ (y0 : Option Nat) (y1 : Int32) (y2 : Int32) (E : hE) (H : Heap) (locs : List Loc) (ls : Array Slot), hY D kA n0 s E nx H locs → lv_has ls 4 [(0, va_rf y0), (1, .int y1), (2, .int y2)] → f_M_ill_b175 N k118 y0 y1 y2 E = some res → W p l e rm_M_ill s m args below meth c H locs 0 0 (MQ below (va_Qi (fun r w => r = res.1 ∧ w = (res.2, nx)) (hJ D kA S g n0) (fun q => n0 ≤ q)) args s 0 0 (fun q => n0 ≤ q)) (F0 m 175 ls []) := by
  intro y0 y1 y2 E H locs ls M hl hf
  unfold f_M_ill_b175 at hf
  refine lv_iinc (v := y2 + 1) (lv' := [(2, .int (y2 + 1)), (0, va_rf y0), (1, .int y1)]) C.x C.b dM_ill_175 hl (k := 2) rfl rfl (by decide) rfl (fun ls hl => ?_)
  refine lv_goto (tgt := 118) C.x C.b dM_ill_178 (by decide) ?_
  exact hk118 _ _ _ _ _ _ _ M (lv_sub hl [1, 2, 0] rfl) hf
def f_M_ill_b118 (N : Nat) : Nat → Option Nat → Int32 → Int32 → hE → Option (Int32 × hE)
  | 0, _, _, _, _ => none
  | n + 1, y0, y1, y2, E => (
  (gR E y0 7 5).bind fun v120 =>
  (aI E v120 0 4).bind fun v124 =>
  if v124 ≤ y2 then (
  some ((-1), E)
  ) else (
  (gO E y0 7).bind fun o131 =>
  (f_M_split N o131.1 4 y2 E).bind fun v131 =>
  (gI v131 y0 7 8).bind fun v135 =>
  if v135 = 0 then (
  f_M_ill_b175 N (f_M_ill_b118 N n) y0 y1 y2 v131
  ) else (
  (gO v131 y0 7).bind fun o142 =>
  (f_M_isLabel v131 o142.1).bind fun v142 =>
  if v142 = 0 then (
  (gO v131 y0 7).bind fun o152 =>
  (f_M_goal v131 o152.1).bind fun v152 =>
  if v152 = (-1) then (
  f_M_ill_b175 N (f_M_ill_b118 N n) y0 y1 y2 v131
  ) else (
  (gR v131 y0 7 7).bind fun v162 =>
  (aI v131 v162 0 (y1 + v152)).bind fun v168 =>
  if v168 = (-1) then (
  some (y2, v131)
  ) else (
  f_M_ill_b175 N (f_M_ill_b118 N n) y0 y1 y2 v131
  )
  )
  ) else (
  f_M_ill_b175 N (f_M_ill_b118 N n) y0 y1 y2 v131
  )
  )
  ))
set_option maxHeartbeats 4000000 in
set_option maxRecDepth 100000 in
theorem b_M_ill_118 {p : Program} {l : Launch} {e : Env} {s : State} {m : MethodId} {args : Array Value} {below : List Frame} {meth : Method} {c : Code} {D : va_G} {kA : Nat → ClassId} {S : hE} {g : Nat → Nat} {n0 nx : Nat} {N : Nat} {res : Int32 × hE} (C : hX p s m args c prog_11_method_17_code 4 R_M ws_M_ill D kA S g n0) (hr : meth.sig.returnType = (some .int)) (hlk : meth.locks = false) (hnm : meth.name = "ill") : ∀ n : Nat, ∀ (y0 : Option Nat) (y1 : Int32) (y2 : Int32) (E : hE) (H : Heap) (locs : List Loc) (ls : Array Slot), hY D kA n0 s E nx H locs → lv_has ls 4 [(0, va_rf y0), (1, .int y1), (2, .int y2)] → f_M_ill_b118 N n y0 y1 y2 E = some res → W p l e rm_M_ill s m args below meth c H locs 0 0 (MQ below (va_Qi (fun r w => r = res.1 ∧ w = (res.2, nx)) (hJ D kA S g n0) (fun q => n0 ≤ q)) args s 0 0 (fun q => n0 ≤ q)) (F0 m 118 ls []) := by
  intro n
  induction n with
  | zero =>
    intro y0 y1 y2 E H locs ls M hl hf
    simp [f_M_ill_b118] at hf
  | succ n ih =>
    intro y0 y1 y2 E H locs ls M hl hf
    rw [f_M_ill_b118] at hf
    refine lv_iload_n C.x C.b dM_ill_118 rfl (lv_at hl 2 rfl) ?_
    refine w_aload_n C.x C.b dM_ill_119 rfl (lv_at hl 0 rfl) ?_
    obtain ⟨v120, h120, hf⟩ := Option.bind_eq_some_iff.mp hf
    refine w_getR C M h120 rfl (hm_in in_M) (by decide) (List.mem_cons_of_mem _ wm_728) rfl dM_ill_120 ?_
    refine lv_iconst (v := 4) C.x C.b dM_ill_123 (by decide) ?_
    obtain ⟨v124, h124, hf⟩ := Option.bind_eq_some_iff.mp hf
    refine w_iald C M h124 rfl dM_ill_124 ?_
    refine lv_icmp_ge (tgt := 181) C.x C.b dM_ill_125 (by decide) (fun c125 => ?_) (fun c125 => ?_)
    · rw [if_pos c125] at hf
      refine lv_iconst (v := (-1)) C.x C.b dM_ill_181 (by decide) ?_
      cases hf
      exact w_iret C M hr hlk rfl (Nat.le_refl _) (Nat.le_refl _) dM_ill_182 rfl rfl
    · rw [if_neg c125] at hf
      refine w_aload_n C.x C.b dM_ill_128 rfl (lv_at hl 0 rfl) ?_
      refine lv_iconst (v := 4) C.x C.b dM_ill_129 (by decide) ?_
      refine lv_iload_n C.x C.b dM_ill_130 rfl (lv_at hl 2 rfl) ?_
      obtain ⟨o131, g131, hf⟩ := Option.bind_eq_some_iff.mp hf
      obtain ⟨v131, h131, hf⟩ := Option.bind_eq_some_iff.mp hf
      refine w_cv M (w_runV C M g131 rfl (c_M_split h131) (cwV 2 C.ts (hgV wm_844 wm_846 sel_M_split wm_6 wm_847) rfl rfl rfl (by decide +kernel) ⟨Nat.le_of_ble_eq_true rfl, Nat.le_of_ble_eq_true rfl⟩) rfl hl.1 rfl (Nat.zero_le _) dM_ill_131 ⟨Nat.le_refl _, Nat.le_refl _⟩) (fun H locs M => ?_)
      refine w_aload_n C.x C.b dM_ill_134 rfl (lv_at hl 0 rfl) ?_
      obtain ⟨v135, h135, hf⟩ := Option.bind_eq_some_iff.mp hf
      refine w_getI C M h135 rfl (hm_in in_M) (by decide) (List.mem_cons_of_mem _ wm_731) rfl dM_ill_135 ?_
      refine lv_if_eq (tgt := 175) C.x C.b dM_ill_138 (by decide) (fun c138 => ?_) (fun c138 => ?_)
      · rw [if_pos c138] at hf
        exact b_M_ill_175 C hr hlk hnm (f_M_ill_b118 N n) ih _ _ _ _ _ _ _ M (lv_sub hl [0, 1, 2] rfl) hf
      · rw [if_neg c138] at hf
        refine w_aload_n C.x C.b dM_ill_141 rfl (lv_at hl 0 rfl) ?_
        obtain ⟨o142, g142, hf⟩ := Option.bind_eq_some_iff.mp hf
        obtain ⟨v142, h142, hf⟩ := Option.bind_eq_some_iff.mp hf
        refine w_ci M (w_runV C M g142 rfl (c_M_isLabel h142) (cwV 0 C.ts (hgV wm_849 wm_851 sel_M_isLabel wm_6 wm_852) rfl rfl rfl (by decide +kernel) ⟨Nat.le_of_ble_eq_true rfl, Nat.le_of_ble_eq_true rfl⟩) rfl hl.1 rfl (Nat.zero_le _) dM_ill_142 ⟨Nat.le_refl _, Nat.le_refl _⟩) (fun H locs M => ?_)
        refine lv_if_eq (tgt := 151) C.x C.b dM_ill_145 (by decide) (fun c145 => ?_) (fun c145 => ?_)
        · rw [if_pos c145] at hf
          refine w_aload_n C.x C.b dM_ill_151 rfl (lv_at hl 0 rfl) ?_
          obtain ⟨o152, g152, hf⟩ := Option.bind_eq_some_iff.mp hf
          obtain ⟨v152, h152, hf⟩ := Option.bind_eq_some_iff.mp hf
          refine w_ci M (w_runV C M g152 rfl (c_M_goal h152) (cwV 0 C.ts (hgV wm_914 wm_916 sel_M_goal wm_6 wm_917) rfl rfl rfl (by decide +kernel) ⟨Nat.le_of_ble_eq_true rfl, Nat.le_of_ble_eq_true rfl⟩) rfl hl.1 rfl (Nat.zero_le _) dM_ill_152 ⟨Nat.le_refl _, Nat.le_refl _⟩) (fun H locs M => ?_)
          refine lv_istore_n (lv' := [(3, .int v152), (0, va_rf y0), (1, .int y1), (2, .int y2)]) C.x C.b dM_ill_155 rfl hl (by decide) rfl (fun ls hl => ?_)
          refine lv_iload_n C.x C.b dM_ill_156 rfl (lv_at hl 0 rfl) ?_
          refine lv_iconst (v := (-1)) C.x C.b dM_ill_157 (by decide) ?_
          refine lv_icmp_eq (tgt := 175) C.x C.b dM_ill_158 (by decide) (fun c158 => ?_) (fun c158 => ?_)
          · rw [if_pos c158] at hf
            exact b_M_ill_175 C hr hlk hnm (f_M_ill_b118 N n) ih _ _ _ _ _ _ _ M (lv_sub hl [1, 2, 3] rfl) hf
          · rw [if_neg c158] at hf
            refine w_aload_n C.x C.b dM_ill_161 rfl (lv_at hl 1 rfl) ?_
            obtain ⟨v162, h162, hf⟩ := Option.bind_eq_some_iff.mp hf
            refine w_getR C M h162 rfl (hm_in in_M) (by decide) (List.mem_cons_of_mem _ wm_730) rfl dM_ill_162 ?_
            refine lv_iload_n C.x C.b dM_ill_165 rfl (lv_at hl 2 rfl) ?_
            refine lv_iload_n C.x C.b dM_ill_166 rfl (lv_at hl 0 rfl) ?_
            refine lv_iadd C.x C.b dM_ill_167 ?_
            obtain ⟨v168, h168, hf⟩ := Option.bind_eq_some_iff.mp hf
            refine w_iald C M h168 rfl dM_ill_168 ?_
            refine lv_iconst (v := (-1)) C.x C.b dM_ill_169 (by decide) ?_
            refine lv_icmp_ne (tgt := 175) C.x C.b dM_ill_170 (by decide) (fun c170 => ?_) (fun c170 => ?_)
            · rw [if_neg c170] at hf
              exact b_M_ill_175 C hr hlk hnm (f_M_ill_b118 N n) ih _ _ _ _ _ _ _ M (lv_sub hl [1, 2, 3] rfl) hf
            · rw [if_pos c170] at hf
              refine lv_iload_n C.x C.b dM_ill_173 rfl (lv_at hl 3 rfl) ?_
              cases hf
              exact w_iret C M hr hlk rfl (Nat.le_refl _) (Nat.le_refl _) dM_ill_174 rfl rfl
        · rw [if_neg c145] at hf
          refine lv_goto (tgt := 175) C.x C.b dM_ill_148 (by decide) ?_
          exact b_M_ill_175 C hr hlk hnm (f_M_ill_b118 N n) ih _ _ _ _ _ _ _ M (lv_sub hl [0, 1, 2] rfl) hf
def f_M_ill_b110 (N : Nat) (k28 : Option Nat → Int32 → Int32 → hE → Option (Int32 × hE)) (y0 : Option Nat) (y1 : Int32) (y2 : Int32) (E : hE) : Option (Int32 × hE) := (
  k28 y0 y1 (y2 + 1) E)
set_option maxHeartbeats 4000000 in
set_option maxRecDepth 100000 in
theorem b_M_ill_110 {p : Program} {l : Launch} {e : Env} {s : State} {m : MethodId} {args : Array Value} {below : List Frame} {meth : Method} {c : Code} {D : va_G} {kA : Nat → ClassId} {S : hE} {g : Nat → Nat} {n0 nx : Nat} {N : Nat} {res : Int32 × hE} (C : hX p s m args c prog_11_method_17_code 4 R_M ws_M_ill D kA S g n0) (hr : meth.sig.returnType = (some .int)) (hlk : meth.locks = false) (hnm : meth.name = "ill") (k28 : Option Nat → Int32 → Int32 → hE → Option (Int32 × hE)) (hk28 : ∀ (y0 : Option Nat) (y1 : Int32) (y2 : Int32) (E : hE) (H : Heap) (locs : List Loc) (ls : Array Slot), hY D kA n0 s E nx H locs → lv_has ls 4 [(0, va_rf y0), (1, .int y1), (2, .int y2)] → k28 y0 y1 y2 E = some res → W p l e rm_M_ill s m args below meth c H locs 0 0 (MQ below (va_Qi (fun r w => r = res.1 ∧ w = (res.2, nx)) (hJ D kA S g n0) (fun q => n0 ≤ q)) args s 0 0 (fun q => n0 ≤ q)) (F0 m 28 ls [])) : ∀ (y0 : Option Nat) (y1 : Int32) (y2 : Int32) (E : hE) (H : Heap) (locs : List Loc) (ls : Array Slot), hY D kA n0 s E nx H locs → lv_has ls 4 [(0, va_rf y0), (1, .int y1), (2, .int y2)] → f_M_ill_b110 N k28 y0 y1 y2 E = some res → W p l e rm_M_ill s m args below meth c H locs 0 0 (MQ below (va_Qi (fun r w => r = res.1 ∧ w = (res.2, nx)) (hJ D kA S g n0) (fun q => n0 ≤ q)) args s 0 0 (fun q => n0 ≤ q)) (F0 m 110 ls []) := by
  intro y0 y1 y2 E H locs ls M hl hf
  unfold f_M_ill_b110 at hf
  refine lv_iinc (v := y2 + 1) (lv' := [(2, .int (y2 + 1)), (0, va_rf y0), (1, .int y1)]) C.x C.b dM_ill_110 hl (k := 2) rfl rfl (by decide) rfl (fun ls hl => ?_)
  refine lv_goto (tgt := 28) C.x C.b dM_ill_113 (by decide) ?_
  exact hk28 _ _ _ _ _ _ _ M (lv_sub hl [1, 2, 0] rfl) hf
def f_M_ill_b28 (N : Nat) : Nat → Option Nat → Int32 → Int32 → hE → Option (Int32 × hE)
  | 0, _, _, _, _ => none
  | n + 1, y0, y1, y2, E => (
  (gR E y0 7 5).bind fun v30 =>
  (aI E v30 0 4).bind fun v34 =>
  if v34 ≤ y2 then (
  f_M_ill_b118 N N y0 y1 0 E
  ) else (
  (gO E y0 7).bind fun o41 =>
  (f_M_split N o41.1 4 y2 E).bind fun v41 =>
  (gI v41 y0 7 8).bind fun v45 =>
  if v45 = 0 then (
  f_M_ill_b110 N (f_M_ill_b28 N n) y0 y1 y2 v41
  ) else (
  (gO v41 y0 7).bind fun o55 =>
  (f_M_isLabel v41 o55.1).bind fun v55 =>
  if v55 = 0 then (
  (gO v41 y0 7).bind fun o102 =>
  (f_M_isStatement N v41 o102.1).bind fun v102 =>
  if v102 = 0 then (
  some (y2, v41)
  ) else (
  f_M_ill_b110 N (f_M_ill_b28 N n) y0 y1 y2 v41
  )
  ) else (
  (gR v41 y0 7 9).bind fun v62 =>
  (aJ v41 v62 2 0).bind fun v66 =>
  (gR v41 y0 7 7).bind fun v76 =>
  (aI v41 v76 0 (y1 + (((v66 >>> ((8 : Int32).toInt64 &&& 63)).toInt32) - 65))).bind fun v82 =>
  if v82 = (-1) then (
  (gR v41 y0 7 7).bind fun v90 =>
  (tI v41 v90 0 (y1 + (((v66 >>> ((8 : Int32).toInt64 &&& 63)).toInt32) - 65)) y2).bind fun E97 =>
  f_M_ill_b110 N (f_M_ill_b28 N n) y0 y1 y2 E97
  ) else (
  some (y2, v41)
  )
  )
  )
  ))
set_option maxHeartbeats 4000000 in
set_option maxRecDepth 100000 in
theorem b_M_ill_28 {p : Program} {l : Launch} {e : Env} {s : State} {m : MethodId} {args : Array Value} {below : List Frame} {meth : Method} {c : Code} {D : va_G} {kA : Nat → ClassId} {S : hE} {g : Nat → Nat} {n0 nx : Nat} {N : Nat} {res : Int32 × hE} (C : hX p s m args c prog_11_method_17_code 4 R_M ws_M_ill D kA S g n0) (hr : meth.sig.returnType = (some .int)) (hlk : meth.locks = false) (hnm : meth.name = "ill") : ∀ n : Nat, ∀ (y0 : Option Nat) (y1 : Int32) (y2 : Int32) (E : hE) (H : Heap) (locs : List Loc) (ls : Array Slot), hY D kA n0 s E nx H locs → lv_has ls 4 [(0, va_rf y0), (1, .int y1), (2, .int y2)] → f_M_ill_b28 N n y0 y1 y2 E = some res → W p l e rm_M_ill s m args below meth c H locs 0 0 (MQ below (va_Qi (fun r w => r = res.1 ∧ w = (res.2, nx)) (hJ D kA S g n0) (fun q => n0 ≤ q)) args s 0 0 (fun q => n0 ≤ q)) (F0 m 28 ls []) := by
  intro n
  induction n with
  | zero =>
    intro y0 y1 y2 E H locs ls M hl hf
    simp [f_M_ill_b28] at hf
  | succ n ih =>
    intro y0 y1 y2 E H locs ls M hl hf
    rw [f_M_ill_b28] at hf
    refine lv_iload_n C.x C.b dM_ill_28 rfl (lv_at hl 2 rfl) ?_
    refine w_aload_n C.x C.b dM_ill_29 rfl (lv_at hl 0 rfl) ?_
    obtain ⟨v30, h30, hf⟩ := Option.bind_eq_some_iff.mp hf
    refine w_getR C M h30 rfl (hm_in in_M) (by decide) (List.mem_cons_of_mem _ wm_728) rfl dM_ill_30 ?_
    refine lv_iconst (v := 4) C.x C.b dM_ill_33 (by decide) ?_
    obtain ⟨v34, h34, hf⟩ := Option.bind_eq_some_iff.mp hf
    refine w_iald C M h34 rfl dM_ill_34 ?_
    refine lv_icmp_ge (tgt := 116) C.x C.b dM_ill_35 (by decide) (fun c35 => ?_) (fun c35 => ?_)
    · rw [if_pos c35] at hf
      refine lv_iconst (v := 0) C.x C.b dM_ill_116 (by decide) ?_
      refine lv_istore_n (lv' := [(2, .int 0), (0, va_rf y0), (1, .int y1)]) C.x C.b dM_ill_117 rfl hl (by decide) rfl (fun ls hl => ?_)
      exact b_M_ill_118 C hr hlk hnm N _ _ _ _ _ _ _ M (lv_sub hl [1, 2, 0] rfl) hf
    · rw [if_neg c35] at hf
      refine w_aload_n C.x C.b dM_ill_38 rfl (lv_at hl 0 rfl) ?_
      refine lv_iconst (v := 4) C.x C.b dM_ill_39 (by decide) ?_
      refine lv_iload_n C.x C.b dM_ill_40 rfl (lv_at hl 2 rfl) ?_
      obtain ⟨o41, g41, hf⟩ := Option.bind_eq_some_iff.mp hf
      obtain ⟨v41, h41, hf⟩ := Option.bind_eq_some_iff.mp hf
      refine w_cv M (w_runV C M g41 rfl (c_M_split h41) (cwV 2 C.ts (hgV wm_844 wm_846 sel_M_split wm_6 wm_847) rfl rfl rfl (by decide +kernel) ⟨Nat.le_of_ble_eq_true rfl, Nat.le_of_ble_eq_true rfl⟩) rfl hl.1 rfl (Nat.zero_le _) dM_ill_41 ⟨Nat.le_refl _, Nat.le_refl _⟩) (fun H locs M => ?_)
      refine w_aload_n C.x C.b dM_ill_44 rfl (lv_at hl 0 rfl) ?_
      obtain ⟨v45, h45, hf⟩ := Option.bind_eq_some_iff.mp hf
      refine w_getI C M h45 rfl (hm_in in_M) (by decide) (List.mem_cons_of_mem _ wm_731) rfl dM_ill_45 ?_
      refine lv_if_ne (tgt := 54) C.x C.b dM_ill_48 (by decide) (fun c48 => ?_) (fun c48 => ?_)
      · rw [if_neg c48] at hf
        refine w_aload_n C.x C.b dM_ill_54 rfl (lv_at hl 0 rfl) ?_
        obtain ⟨o55, g55, hf⟩ := Option.bind_eq_some_iff.mp hf
        obtain ⟨v55, h55, hf⟩ := Option.bind_eq_some_iff.mp hf
        refine w_ci M (w_runV C M g55 rfl (c_M_isLabel h55) (cwV 0 C.ts (hgV wm_849 wm_851 sel_M_isLabel wm_6 wm_852) rfl rfl rfl (by decide +kernel) ⟨Nat.le_of_ble_eq_true rfl, Nat.le_of_ble_eq_true rfl⟩) rfl hl.1 rfl (Nat.zero_le _) dM_ill_55 ⟨Nat.le_refl _, Nat.le_refl _⟩) (fun H locs M => ?_)
        refine lv_if_eq (tgt := 101) C.x C.b dM_ill_58 (by decide) (fun c58 => ?_) (fun c58 => ?_)
        · rw [if_pos c58] at hf
          refine w_aload_n C.x C.b dM_ill_101 rfl (lv_at hl 0 rfl) ?_
          obtain ⟨o102, g102, hf⟩ := Option.bind_eq_some_iff.mp hf
          obtain ⟨v102, h102, hf⟩ := Option.bind_eq_some_iff.mp hf
          refine w_ci M (w_runV C M g102 rfl (c_M_isStatement h102) (cwV 0 C.ts (hgV wm_856 wm_858 sel_M_isStatement wm_6 wm_859) rfl rfl rfl (by decide +kernel) ⟨Nat.le_of_ble_eq_true rfl, Nat.le_of_ble_eq_true rfl⟩) rfl hl.1 rfl (Nat.zero_le _) dM_ill_102 ⟨Nat.le_refl _, Nat.le_refl _⟩) (fun H locs M => ?_)
          refine lv_if_ne (tgt := 110) C.x C.b dM_ill_105 (by decide) (fun c105 => ?_) (fun c105 => ?_)
          · rw [if_neg c105] at hf
            exact b_M_ill_110 C hr hlk hnm (f_M_ill_b28 N n) ih _ _ _ _ _ _ _ M (lv_sub hl [0, 1, 2] rfl) hf
          · rw [if_pos c105] at hf
            refine lv_iload_n C.x C.b dM_ill_108 rfl (lv_at hl 2 rfl) ?_
            cases hf
            exact w_iret C M hr hlk rfl (Nat.le_refl _) (Nat.le_refl _) dM_ill_109 rfl rfl
        · rw [if_neg c58] at hf
          refine w_aload_n C.x C.b dM_ill_61 rfl (lv_at hl 0 rfl) ?_
          obtain ⟨v62, h62, hf⟩ := Option.bind_eq_some_iff.mp hf
          refine w_getR C M h62 rfl (hm_in in_M) (by decide) (List.mem_cons_of_mem _ wm_732) rfl dM_ill_62 ?_
          refine lv_iconst (v := 0) C.x C.b dM_ill_65 (by decide) ?_
          obtain ⟨v66, h66, hf⟩ := Option.bind_eq_some_iff.mp hf
          refine w_lald C M h66 rfl dM_ill_66 ?_
          refine lv_bipush (v := 8) C.x C.b dM_ill_67 (by decide) ?_
          refine lv_lshr C.x C.b dM_ill_69 rfl ?_
          refine lv_l2i C.x C.b dM_ill_70 rfl ?_
          refine lv_bipush (v := 65) C.x C.b dM_ill_71 (by decide) ?_
          refine lv_isub C.x C.b dM_ill_73 ?_
          refine lv_istore_n (lv' := [(3, .int (((v66 >>> ((8 : Int32).toInt64 &&& 63)).toInt32) - 65)), (0, va_rf y0), (1, .int y1), (2, .int y2)]) C.x C.b dM_ill_74 rfl hl (by decide) rfl (fun ls hl => ?_)
          refine w_aload_n C.x C.b dM_ill_75 rfl (lv_at hl 1 rfl) ?_
          obtain ⟨v76, h76, hf⟩ := Option.bind_eq_some_iff.mp hf
          refine w_getR C M h76 rfl (hm_in in_M) (by decide) (List.mem_cons_of_mem _ wm_730) rfl dM_ill_76 ?_
          refine lv_iload_n C.x C.b dM_ill_79 rfl (lv_at hl 2 rfl) ?_
          refine lv_iload_n C.x C.b dM_ill_80 rfl (lv_at hl 0 rfl) ?_
          refine lv_iadd C.x C.b dM_ill_81 ?_
          obtain ⟨v82, h82, hf⟩ := Option.bind_eq_some_iff.mp hf
          refine w_iald C M h82 rfl dM_ill_82 ?_
          refine lv_iconst (v := (-1)) C.x C.b dM_ill_83 (by decide) ?_
          refine lv_icmp_eq (tgt := 89) C.x C.b dM_ill_84 (by decide) (fun c84 => ?_) (fun c84 => ?_)
          · rw [if_pos c84] at hf
            refine w_aload_n C.x C.b dM_ill_89 rfl (lv_at hl 1 rfl) ?_
            obtain ⟨v90, h90, hf⟩ := Option.bind_eq_some_iff.mp hf
            refine w_getR C M h90 rfl (hm_in in_M) (by decide) (List.mem_cons_of_mem _ wm_730) rfl dM_ill_90 ?_
            refine lv_iload_n C.x C.b dM_ill_93 rfl (lv_at hl 2 rfl) ?_
            refine lv_iload_n C.x C.b dM_ill_94 rfl (lv_at hl 0 rfl) ?_
            refine lv_iadd C.x C.b dM_ill_95 ?_
            refine lv_iload_n C.x C.b dM_ill_96 rfl (lv_at hl 3 rfl) ?_
            obtain ⟨E97, h97, hf⟩ := Option.bind_eq_some_iff.mp hf
            refine w_iast C M h97 rfl dM_ill_97 (fun H locs M => ?_)
            refine lv_goto (tgt := 110) C.x C.b dM_ill_98 (by decide) ?_
            exact b_M_ill_110 C hr hlk hnm (f_M_ill_b28 N n) ih _ _ _ _ _ _ _ M (lv_sub hl [1, 2, 3] rfl) hf
          · rw [if_neg c84] at hf
            refine lv_iload_n C.x C.b dM_ill_87 rfl (lv_at hl 3 rfl) ?_
            cases hf
            exact w_iret C M hr hlk rfl (Nat.le_refl _) (Nat.le_refl _) dM_ill_88 rfl rfl
      · rw [if_pos c48] at hf
        refine lv_goto (tgt := 110) C.x C.b dM_ill_51 (by decide) ?_
        exact b_M_ill_110 C hr hlk hnm (f_M_ill_b28 N n) ih _ _ _ _ _ _ _ M (lv_sub hl [0, 1, 2] rfl) hf
def f_M_ill_b5 (N : Nat) : Nat → Option Nat → Int32 → Int32 → hE → Option (Int32 × hE)
  | 0, _, _, _, _ => none
  | n + 1, y0, y1, y2, E => (
  if 26 ≤ y2 then (
  f_M_ill_b28 N N y0 y1 0 E
  ) else (
  (gR E y0 7 7).bind fun v12 =>
  (tI E v12 0 (y1 + y2) (-1)).bind fun E19 =>
  f_M_ill_b5 N n y0 y1 (y2 + 1) E19
  ))
set_option maxHeartbeats 4000000 in
set_option maxRecDepth 100000 in
theorem b_M_ill_5 {p : Program} {l : Launch} {e : Env} {s : State} {m : MethodId} {args : Array Value} {below : List Frame} {meth : Method} {c : Code} {D : va_G} {kA : Nat → ClassId} {S : hE} {g : Nat → Nat} {n0 nx : Nat} {N : Nat} {res : Int32 × hE} (C : hX p s m args c prog_11_method_17_code 4 R_M ws_M_ill D kA S g n0) (hr : meth.sig.returnType = (some .int)) (hlk : meth.locks = false) (hnm : meth.name = "ill") : ∀ n : Nat, ∀ (y0 : Option Nat) (y1 : Int32) (y2 : Int32) (E : hE) (H : Heap) (locs : List Loc) (ls : Array Slot), hY D kA n0 s E nx H locs → lv_has ls 4 [(0, va_rf y0), (1, .int y1), (2, .int y2)] → f_M_ill_b5 N n y0 y1 y2 E = some res → W p l e rm_M_ill s m args below meth c H locs 0 0 (MQ below (va_Qi (fun r w => r = res.1 ∧ w = (res.2, nx)) (hJ D kA S g n0) (fun q => n0 ≤ q)) args s 0 0 (fun q => n0 ≤ q)) (F0 m 5 ls []) := by
  intro n
  induction n with
  | zero =>
    intro y0 y1 y2 E H locs ls M hl hf
    simp [f_M_ill_b5] at hf
  | succ n ih =>
    intro y0 y1 y2 E H locs ls M hl hf
    rw [f_M_ill_b5] at hf
    refine lv_iload_n C.x C.b dM_ill_5 rfl (lv_at hl 2 rfl) ?_
    refine lv_bipush (v := 26) C.x C.b dM_ill_6 (by decide) ?_
    refine lv_icmp_ge (tgt := 26) C.x C.b dM_ill_8 (by decide) (fun c8 => ?_) (fun c8 => ?_)
    · rw [if_pos c8] at hf
      refine lv_iconst (v := 0) C.x C.b dM_ill_26 (by decide) ?_
      refine lv_istore_n (lv' := [(2, .int 0), (0, va_rf y0), (1, .int y1)]) C.x C.b dM_ill_27 rfl hl (by decide) rfl (fun ls hl => ?_)
      exact b_M_ill_28 C hr hlk hnm N _ _ _ _ _ _ _ M (lv_sub hl [1, 2, 0] rfl) hf
    · rw [if_neg c8] at hf
      refine w_aload_n C.x C.b dM_ill_11 rfl (lv_at hl 0 rfl) ?_
      obtain ⟨v12, h12, hf⟩ := Option.bind_eq_some_iff.mp hf
      refine w_getR C M h12 rfl (hm_in in_M) (by decide) (List.mem_cons_of_mem _ wm_730) rfl dM_ill_12 ?_
      refine lv_iload_n C.x C.b dM_ill_15 rfl (lv_at hl 1 rfl) ?_
      refine lv_iload_n C.x C.b dM_ill_16 rfl (lv_at hl 2 rfl) ?_
      refine lv_iadd C.x C.b dM_ill_17 ?_
      refine lv_iconst (v := (-1)) C.x C.b dM_ill_18 (by decide) ?_
      obtain ⟨E19, h19, hf⟩ := Option.bind_eq_some_iff.mp hf
      refine w_iast C M h19 rfl dM_ill_19 (fun H locs M => ?_)
      refine lv_iinc (v := y2 + 1) (lv' := [(2, .int (y2 + 1)), (0, va_rf y0), (1, .int y1)]) C.x C.b dM_ill_20 hl (k := 2) rfl rfl (by decide) rfl (fun ls hl => ?_)
      refine lv_goto (tgt := 5) C.x C.b dM_ill_23 (by decide) ?_
      exact ih _ _ _ _ _ _ _ M (lv_sub hl [1, 2, 0] rfl) hf
def f_M_ill (N : Nat) (x0 : Nat) (E : hE) : Option (Int32 × hE) := (
  f_M_ill_b5 N N (some x0) 104 0 E)
set_option maxHeartbeats 4000000 in
set_option maxRecDepth 100000 in
theorem c_M_ill {l : Launch} {D : va_G} {kA : Nat → ClassId} {S : hE} {g : Nat → Nat} {n0 nx : Nat} {N : Nat} {x0 : Nat} {E : hE} {res : Int32 × hE} (hf : f_M_ill N x0 E = some res) : Met l y_M_ill ws_M_ill rm_M_ill (va_Pc [va_rf (some x0)] (hJ D kA S g n0 (E, nx))) (va_Qi (fun r w => r = res.1 ∧ w = (res.2, nx)) (hJ D kA S g n0) (fun q => n0 ≤ q)) 0 0 (fun q => n0 ≤ q) := by
  refine h_met (cc := prog_11_method_17_code) (maxL := 4) (ret := (some .int)) (lvs := [(0, va_rf (some x0))]) zZ_k (by decide) rfl (by simp [lg_sl, va_rf_cat, cat_i, cat_l, cat_n]) (by simp [lv_args, va_rf_cat, cat_i, cat_l, cat_n]) ?_
  intro p e s m below meth c ls C M hr hlk hnm hl
  unfold f_M_ill at hf
  refine lv_bipush (v := 104) C.x C.b dM_ill_0 (by decide) ?_
  refine lv_istore_n (lv' := [(1, .int 104), (0, va_rf (some x0))]) C.x C.b dM_ill_2 rfl hl (by decide) rfl (fun ls hl => ?_)
  refine lv_iconst (v := 0) C.x C.b dM_ill_3 (by decide) ?_
  refine lv_istore_n (lv' := [(2, .int 0), (1, .int 104), (0, va_rf (some x0))]) C.x C.b dM_ill_4 rfl hl (by decide) rfl (fun ls hl => ?_)
  exact b_M_ill_5 C hr hlk hnm N _ _ _ _ _ _ _ M (lv_sub hl [2, 1, 0] rfl) hf
theorem dM_keep_0 : decode prog_11_method_6_code 0 = .ok (.iconst 0, 1) := by decide +kernel
theorem dM_keep_1 : decode prog_11_method_6_code 1 = .ok (.istore_n 2, 1) := by decide +kernel
theorem dM_keep_2 : decode prog_11_method_6_code 2 = .ok (.iload_n 2, 1) := by decide +kernel
theorem dM_keep_3 : decode prog_11_method_6_code 3 = .ok (.sipush 400, 3) := by decide +kernel
theorem dM_keep_6 : decode prog_11_method_6_code 6 = .ok (.if_icmp .ge 75, 3) := by decide +kernel
theorem dM_keep_9 : decode prog_11_method_6_code 9 = .ok (.aload_n 0, 1) := by decide +kernel
theorem dM_keep_10 : decode prog_11_method_6_code 10 = .ok (.getfield 13, 3) := by decide +kernel
theorem dM_keep_13 : decode prog_11_method_6_code 13 = .ok (.sipush 400, 3) := by decide +kernel
theorem dM_keep_16 : decode prog_11_method_6_code 16 = .ok (.iload_n 1, 1) := by decide +kernel
theorem dM_keep_17 : decode prog_11_method_6_code 17 = .ok (.imul, 1) := by decide +kernel
theorem dM_keep_18 : decode prog_11_method_6_code 18 = .ok (.iload_n 2, 1) := by decide +kernel
theorem dM_keep_19 : decode prog_11_method_6_code 19 = .ok (.iadd, 1) := by decide +kernel
theorem dM_keep_20 : decode prog_11_method_6_code 20 = .ok (.aload_n 0, 1) := by decide +kernel
theorem dM_keep_21 : decode prog_11_method_6_code 21 = .ok (.getfield 13, 3) := by decide +kernel
theorem dM_keep_24 : decode prog_11_method_6_code 24 = .ok (.sipush 1600, 3) := by decide +kernel
theorem dM_keep_27 : decode prog_11_method_6_code 27 = .ok (.iload_n 2, 1) := by decide +kernel
theorem dM_keep_28 : decode prog_11_method_6_code 28 = .ok (.iadd, 1) := by decide +kernel
theorem dM_keep_29 : decode prog_11_method_6_code 29 = .ok (.iaload, 1) := by decide +kernel
theorem dM_keep_30 : decode prog_11_method_6_code 30 = .ok (.iastore, 1) := by decide +kernel
theorem dM_keep_31 : decode prog_11_method_6_code 31 = .ok (.aload_n 0, 1) := by decide +kernel
theorem dM_keep_32 : decode prog_11_method_6_code 32 = .ok (.getfield 16, 3) := by decide +kernel
theorem dM_keep_35 : decode prog_11_method_6_code 35 = .ok (.sipush 400, 3) := by decide +kernel
theorem dM_keep_38 : decode prog_11_method_6_code 38 = .ok (.iload_n 1, 1) := by decide +kernel
theorem dM_keep_39 : decode prog_11_method_6_code 39 = .ok (.imul, 1) := by decide +kernel
theorem dM_keep_40 : decode prog_11_method_6_code 40 = .ok (.iload_n 2, 1) := by decide +kernel
theorem dM_keep_41 : decode prog_11_method_6_code 41 = .ok (.iadd, 1) := by decide +kernel
theorem dM_keep_42 : decode prog_11_method_6_code 42 = .ok (.aload_n 0, 1) := by decide +kernel
theorem dM_keep_43 : decode prog_11_method_6_code 43 = .ok (.getfield 16, 3) := by decide +kernel
theorem dM_keep_46 : decode prog_11_method_6_code 46 = .ok (.sipush 1600, 3) := by decide +kernel
theorem dM_keep_49 : decode prog_11_method_6_code 49 = .ok (.iload_n 2, 1) := by decide +kernel
theorem dM_keep_50 : decode prog_11_method_6_code 50 = .ok (.iadd, 1) := by decide +kernel
theorem dM_keep_51 : decode prog_11_method_6_code 51 = .ok (.iaload, 1) := by decide +kernel
theorem dM_keep_52 : decode prog_11_method_6_code 52 = .ok (.iastore, 1) := by decide +kernel
theorem dM_keep_53 : decode prog_11_method_6_code 53 = .ok (.aload_n 0, 1) := by decide +kernel
theorem dM_keep_54 : decode prog_11_method_6_code 54 = .ok (.getfield 19, 3) := by decide +kernel
theorem dM_keep_57 : decode prog_11_method_6_code 57 = .ok (.sipush 400, 3) := by decide +kernel
theorem dM_keep_60 : decode prog_11_method_6_code 60 = .ok (.iload_n 1, 1) := by decide +kernel
theorem dM_keep_61 : decode prog_11_method_6_code 61 = .ok (.imul, 1) := by decide +kernel
theorem dM_keep_62 : decode prog_11_method_6_code 62 = .ok (.iload_n 2, 1) := by decide +kernel
theorem dM_keep_63 : decode prog_11_method_6_code 63 = .ok (.iadd, 1) := by decide +kernel
theorem dM_keep_64 : decode prog_11_method_6_code 64 = .ok (.aload_n 0, 1) := by decide +kernel
theorem dM_keep_65 : decode prog_11_method_6_code 65 = .ok (.getfield 19, 3) := by decide +kernel
theorem dM_keep_68 : decode prog_11_method_6_code 68 = .ok (.sipush 1600, 3) := by decide +kernel
theorem dM_keep_71 : decode prog_11_method_6_code 71 = .ok (.iload_n 2, 1) := by decide +kernel
theorem dM_keep_72 : decode prog_11_method_6_code 72 = .ok (.iadd, 1) := by decide +kernel
theorem dM_keep_73 : decode prog_11_method_6_code 73 = .ok (.iaload, 1) := by decide +kernel
theorem dM_keep_74 : decode prog_11_method_6_code 74 = .ok (.iastore, 1) := by decide +kernel
theorem dM_keep_75 : decode prog_11_method_6_code 75 = .ok (.iinc 2 1, 3) := by decide +kernel
theorem dM_keep_78 : decode prog_11_method_6_code 78 = .ok (.goto (-76), 3) := by decide +kernel
theorem dM_keep_81 : decode prog_11_method_6_code 81 = .ok (.iconst 0, 1) := by decide +kernel
theorem dM_keep_82 : decode prog_11_method_6_code 82 = .ok (.istore_n 2, 1) := by decide +kernel
theorem dM_keep_83 : decode prog_11_method_6_code 83 = .ok (.iload_n 2, 1) := by decide +kernel
theorem dM_keep_84 : decode prog_11_method_6_code 84 = .ok (.bipush 26, 2) := by decide +kernel
theorem dM_keep_86 : decode prog_11_method_6_code 86 = .ok (.if_icmp .ge 29, 3) := by decide +kernel
theorem dM_keep_89 : decode prog_11_method_6_code 89 = .ok (.aload_n 0, 1) := by decide +kernel
theorem dM_keep_90 : decode prog_11_method_6_code 90 = .ok (.getfield 29, 3) := by decide +kernel
theorem dM_keep_93 : decode prog_11_method_6_code 93 = .ok (.bipush 26, 2) := by decide +kernel
theorem dM_keep_95 : decode prog_11_method_6_code 95 = .ok (.iload_n 1, 1) := by decide +kernel
theorem dM_keep_96 : decode prog_11_method_6_code 96 = .ok (.imul, 1) := by decide +kernel
theorem dM_keep_97 : decode prog_11_method_6_code 97 = .ok (.iload_n 2, 1) := by decide +kernel
theorem dM_keep_98 : decode prog_11_method_6_code 98 = .ok (.iadd, 1) := by decide +kernel
theorem dM_keep_99 : decode prog_11_method_6_code 99 = .ok (.aload_n 0, 1) := by decide +kernel
theorem dM_keep_100 : decode prog_11_method_6_code 100 = .ok (.getfield 29, 3) := by decide +kernel
theorem dM_keep_103 : decode prog_11_method_6_code 103 = .ok (.bipush 104, 2) := by decide +kernel
theorem dM_keep_105 : decode prog_11_method_6_code 105 = .ok (.iload_n 2, 1) := by decide +kernel
theorem dM_keep_106 : decode prog_11_method_6_code 106 = .ok (.iadd, 1) := by decide +kernel
theorem dM_keep_107 : decode prog_11_method_6_code 107 = .ok (.iaload, 1) := by decide +kernel
theorem dM_keep_108 : decode prog_11_method_6_code 108 = .ok (.iastore, 1) := by decide +kernel
theorem dM_keep_109 : decode prog_11_method_6_code 109 = .ok (.iinc 2 1, 3) := by decide +kernel
theorem dM_keep_112 : decode prog_11_method_6_code 112 = .ok (.goto (-29), 3) := by decide +kernel
theorem dM_keep_115 : decode prog_11_method_6_code 115 = .ok (.aload_n 0, 1) := by decide +kernel
theorem dM_keep_116 : decode prog_11_method_6_code 116 = .ok (.getfield 22, 3) := by decide +kernel
theorem dM_keep_119 : decode prog_11_method_6_code 119 = .ok (.iload_n 1, 1) := by decide +kernel
theorem dM_keep_120 : decode prog_11_method_6_code 120 = .ok (.aload_n 0, 1) := by decide +kernel
theorem dM_keep_121 : decode prog_11_method_6_code 121 = .ok (.getfield 22, 3) := by decide +kernel
theorem dM_keep_124 : decode prog_11_method_6_code 124 = .ok (.iconst 4, 1) := by decide +kernel
theorem dM_keep_125 : decode prog_11_method_6_code 125 = .ok (.iaload, 1) := by decide +kernel
theorem dM_keep_126 : decode prog_11_method_6_code 126 = .ok (.iastore, 1) := by decide +kernel
theorem dM_keep_127 : decode prog_11_method_6_code 127 = .ok (.aload_n 0, 1) := by decide +kernel
theorem dM_keep_128 : decode prog_11_method_6_code 128 = .ok (.getfield 25, 3) := by decide +kernel
theorem dM_keep_131 : decode prog_11_method_6_code 131 = .ok (.iload_n 1, 1) := by decide +kernel
theorem dM_keep_132 : decode prog_11_method_6_code 132 = .ok (.iconst 1, 1) := by decide +kernel
theorem dM_keep_133 : decode prog_11_method_6_code 133 = .ok (.bastore, 1) := by decide +kernel
theorem dM_keep_134 : decode prog_11_method_6_code 134 = .ok (.return_, 1) := by decide +kernel
abbrev rm_M_keep : Room := { frames := 0, cells := 0, slots := 0, locals := 0 }
def f_M_keep_b83 (N : Nat) : Nat → Option Nat → Int32 → Int32 → hE → Option (hE)
  | 0, _, _, _, _ => none
  | n + 1, y0, y1, y2, E => (
  if 26 ≤ y2 then (
  (gR E y0 7 5).bind fun v116 =>
  (gR E y0 7 5).bind fun v121 =>
  (aI E v121 0 4).bind fun v125 =>
  (tI E v116 0 y1 v125).bind fun E126 =>
  (gR E126 y0 7 6).bind fun v128 =>
  (tZ E126 v128 1 y1 1).bind fun E133 =>
  some E133
  ) else (
  (gR E y0 7 7).bind fun v90 =>
  (gR E y0 7 7).bind fun v100 =>
  (aI E v100 0 (104 + y2)).bind fun v107 =>
  (tI E v90 0 ((26 * y1) + y2) v107).bind fun E108 =>
  f_M_keep_b83 N n y0 y1 (y2 + 1) E108
  ))
set_option maxHeartbeats 4000000 in
set_option maxRecDepth 100000 in
theorem b_M_keep_83 {p : Program} {l : Launch} {e : Env} {s : State} {m : MethodId} {args : Array Value} {below : List Frame} {meth : Method} {c : Code} {D : va_G} {kA : Nat → ClassId} {S : hE} {g : Nat → Nat} {n0 nx : Nat} {N : Nat} {res : hE} (C : hX p s m args c prog_11_method_6_code 3 R_M ws_M_keep D kA S g n0) (hr : meth.sig.returnType = none) (hlk : meth.locks = false) (hnm : meth.name = "keep") : ∀ n : Nat, ∀ (y0 : Option Nat) (y1 : Int32) (y2 : Int32) (E : hE) (H : Heap) (locs : List Loc) (ls : Array Slot), hY D kA n0 s E nx H locs → lv_has ls 3 [(0, va_rf y0), (1, .int y1), (2, .int y2)] → f_M_keep_b83 N n y0 y1 y2 E = some res → W p l e rm_M_keep s m args below meth c H locs 0 0 (MQ below (va_Qv (fun w => w = (res, nx)) (hJ D kA S g n0) (fun q => n0 ≤ q)) args s 0 0 (fun q => n0 ≤ q)) (F0 m 83 ls []) := by
  intro n
  induction n with
  | zero =>
    intro y0 y1 y2 E H locs ls M hl hf
    simp [f_M_keep_b83] at hf
  | succ n ih =>
    intro y0 y1 y2 E H locs ls M hl hf
    rw [f_M_keep_b83] at hf
    refine lv_iload_n C.x C.b dM_keep_83 rfl (lv_at hl 2 rfl) ?_
    refine lv_bipush (v := 26) C.x C.b dM_keep_84 (by decide) ?_
    refine lv_icmp_ge (tgt := 115) C.x C.b dM_keep_86 (by decide) (fun c86 => ?_) (fun c86 => ?_)
    · rw [if_pos c86] at hf
      refine w_aload_n C.x C.b dM_keep_115 rfl (lv_at hl 0 rfl) ?_
      obtain ⟨v116, h116, hf⟩ := Option.bind_eq_some_iff.mp hf
      refine w_getR C M h116 rfl (hm_in in_M) (by decide) (List.mem_cons_of_mem _ wm_728) rfl dM_keep_116 ?_
      refine lv_iload_n C.x C.b dM_keep_119 rfl (lv_at hl 1 rfl) ?_
      refine w_aload_n C.x C.b dM_keep_120 rfl (lv_at hl 0 rfl) ?_
      obtain ⟨v121, h121, hf⟩ := Option.bind_eq_some_iff.mp hf
      refine w_getR C M h121 rfl (hm_in in_M) (by decide) (List.mem_cons_of_mem _ wm_728) rfl dM_keep_121 ?_
      refine lv_iconst (v := 4) C.x C.b dM_keep_124 (by decide) ?_
      obtain ⟨v125, h125, hf⟩ := Option.bind_eq_some_iff.mp hf
      refine w_iald C M h125 rfl dM_keep_125 ?_
      obtain ⟨E126, h126, hf⟩ := Option.bind_eq_some_iff.mp hf
      refine w_iast C M h126 rfl dM_keep_126 (fun H locs M => ?_)
      refine w_aload_n C.x C.b dM_keep_127 rfl (lv_at hl 0 rfl) ?_
      obtain ⟨v128, h128, hf⟩ := Option.bind_eq_some_iff.mp hf
      refine w_getR C M h128 rfl (hm_in in_M) (by decide) (List.mem_cons_of_mem _ wm_729) rfl dM_keep_128 ?_
      refine lv_iload_n C.x C.b dM_keep_131 rfl (lv_at hl 1 rfl) ?_
      refine lv_iconst (v := 1) C.x C.b dM_keep_132 (by decide) ?_
      obtain ⟨E133, h133, hf⟩ := Option.bind_eq_some_iff.mp hf
      refine w_zast C M h133 rfl dM_keep_133 (fun H locs M => ?_)
      cases hf
      exact w_vret C M hr hlk (Nat.le_refl _) (Nat.le_refl _) dM_keep_134 rfl
    · rw [if_neg c86] at hf
      refine w_aload_n C.x C.b dM_keep_89 rfl (lv_at hl 0 rfl) ?_
      obtain ⟨v90, h90, hf⟩ := Option.bind_eq_some_iff.mp hf
      refine w_getR C M h90 rfl (hm_in in_M) (by decide) (List.mem_cons_of_mem _ wm_730) rfl dM_keep_90 ?_
      refine lv_bipush (v := 26) C.x C.b dM_keep_93 (by decide) ?_
      refine lv_iload_n C.x C.b dM_keep_95 rfl (lv_at hl 1 rfl) ?_
      refine lv_imul C.x C.b dM_keep_96 ?_
      refine lv_iload_n C.x C.b dM_keep_97 rfl (lv_at hl 2 rfl) ?_
      refine lv_iadd C.x C.b dM_keep_98 ?_
      refine w_aload_n C.x C.b dM_keep_99 rfl (lv_at hl 0 rfl) ?_
      obtain ⟨v100, h100, hf⟩ := Option.bind_eq_some_iff.mp hf
      refine w_getR C M h100 rfl (hm_in in_M) (by decide) (List.mem_cons_of_mem _ wm_730) rfl dM_keep_100 ?_
      refine lv_bipush (v := 104) C.x C.b dM_keep_103 (by decide) ?_
      refine lv_iload_n C.x C.b dM_keep_105 rfl (lv_at hl 2 rfl) ?_
      refine lv_iadd C.x C.b dM_keep_106 ?_
      obtain ⟨v107, h107, hf⟩ := Option.bind_eq_some_iff.mp hf
      refine w_iald C M h107 rfl dM_keep_107 ?_
      obtain ⟨E108, h108, hf⟩ := Option.bind_eq_some_iff.mp hf
      refine w_iast C M h108 rfl dM_keep_108 (fun H locs M => ?_)
      refine lv_iinc (v := y2 + 1) (lv' := [(2, .int (y2 + 1)), (0, va_rf y0), (1, .int y1)]) C.x C.b dM_keep_109 hl (k := 2) rfl rfl (by decide) rfl (fun ls hl => ?_)
      refine lv_goto (tgt := 83) C.x C.b dM_keep_112 (by decide) ?_
      exact ih _ _ _ _ _ _ _ M (lv_sub hl [1, 2, 0] rfl) hf
def f_M_keep_b2 (N : Nat) : Nat → Option Nat → Int32 → Int32 → hE → Option (hE)
  | 0, _, _, _, _ => none
  | n + 1, y0, y1, y2, E => (
  if 400 ≤ y2 then (
  f_M_keep_b83 N N y0 y1 0 E
  ) else (
  (gR E y0 7 2).bind fun v10 =>
  (gR E y0 7 2).bind fun v21 =>
  (aI E v21 0 (1600 + y2)).bind fun v29 =>
  (tI E v10 0 ((400 * y1) + y2) v29).bind fun E30 =>
  (gR E30 y0 7 3).bind fun v32 =>
  (gR E30 y0 7 3).bind fun v43 =>
  (aI E30 v43 0 (1600 + y2)).bind fun v51 =>
  (tI E30 v32 0 ((400 * y1) + y2) v51).bind fun E52 =>
  (gR E52 y0 7 4).bind fun v54 =>
  (gR E52 y0 7 4).bind fun v65 =>
  (aI E52 v65 0 (1600 + y2)).bind fun v73 =>
  (tI E52 v54 0 ((400 * y1) + y2) v73).bind fun E74 =>
  f_M_keep_b2 N n y0 y1 (y2 + 1) E74
  ))
set_option maxHeartbeats 4000000 in
set_option maxRecDepth 100000 in
theorem b_M_keep_2 {p : Program} {l : Launch} {e : Env} {s : State} {m : MethodId} {args : Array Value} {below : List Frame} {meth : Method} {c : Code} {D : va_G} {kA : Nat → ClassId} {S : hE} {g : Nat → Nat} {n0 nx : Nat} {N : Nat} {res : hE} (C : hX p s m args c prog_11_method_6_code 3 R_M ws_M_keep D kA S g n0) (hr : meth.sig.returnType = none) (hlk : meth.locks = false) (hnm : meth.name = "keep") : ∀ n : Nat, ∀ (y0 : Option Nat) (y1 : Int32) (y2 : Int32) (E : hE) (H : Heap) (locs : List Loc) (ls : Array Slot), hY D kA n0 s E nx H locs → lv_has ls 3 [(0, va_rf y0), (1, .int y1), (2, .int y2)] → f_M_keep_b2 N n y0 y1 y2 E = some res → W p l e rm_M_keep s m args below meth c H locs 0 0 (MQ below (va_Qv (fun w => w = (res, nx)) (hJ D kA S g n0) (fun q => n0 ≤ q)) args s 0 0 (fun q => n0 ≤ q)) (F0 m 2 ls []) := by
  intro n
  induction n with
  | zero =>
    intro y0 y1 y2 E H locs ls M hl hf
    simp [f_M_keep_b2] at hf
  | succ n ih =>
    intro y0 y1 y2 E H locs ls M hl hf
    rw [f_M_keep_b2] at hf
    refine lv_iload_n C.x C.b dM_keep_2 rfl (lv_at hl 2 rfl) ?_
    refine lv_sipush (v := 400) C.x C.b dM_keep_3 (by decide) ?_
    refine lv_icmp_ge (tgt := 81) C.x C.b dM_keep_6 (by decide) (fun c6 => ?_) (fun c6 => ?_)
    · rw [if_pos c6] at hf
      refine lv_iconst (v := 0) C.x C.b dM_keep_81 (by decide) ?_
      refine lv_istore_n (lv' := [(2, .int 0), (0, va_rf y0), (1, .int y1)]) C.x C.b dM_keep_82 rfl hl (by decide) rfl (fun ls hl => ?_)
      exact b_M_keep_83 C hr hlk hnm N _ _ _ _ _ _ _ M (lv_sub hl [1, 2, 0] rfl) hf
    · rw [if_neg c6] at hf
      refine w_aload_n C.x C.b dM_keep_9 rfl (lv_at hl 0 rfl) ?_
      obtain ⟨v10, h10, hf⟩ := Option.bind_eq_some_iff.mp hf
      refine w_getR C M h10 rfl (hm_in in_M) (by decide) (List.mem_cons_of_mem _ wm_725) rfl dM_keep_10 ?_
      refine lv_sipush (v := 400) C.x C.b dM_keep_13 (by decide) ?_
      refine lv_iload_n C.x C.b dM_keep_16 rfl (lv_at hl 1 rfl) ?_
      refine lv_imul C.x C.b dM_keep_17 ?_
      refine lv_iload_n C.x C.b dM_keep_18 rfl (lv_at hl 2 rfl) ?_
      refine lv_iadd C.x C.b dM_keep_19 ?_
      refine w_aload_n C.x C.b dM_keep_20 rfl (lv_at hl 0 rfl) ?_
      obtain ⟨v21, h21, hf⟩ := Option.bind_eq_some_iff.mp hf
      refine w_getR C M h21 rfl (hm_in in_M) (by decide) (List.mem_cons_of_mem _ wm_725) rfl dM_keep_21 ?_
      refine lv_sipush (v := 1600) C.x C.b dM_keep_24 (by decide) ?_
      refine lv_iload_n C.x C.b dM_keep_27 rfl (lv_at hl 2 rfl) ?_
      refine lv_iadd C.x C.b dM_keep_28 ?_
      obtain ⟨v29, h29, hf⟩ := Option.bind_eq_some_iff.mp hf
      refine w_iald C M h29 rfl dM_keep_29 ?_
      obtain ⟨E30, h30, hf⟩ := Option.bind_eq_some_iff.mp hf
      refine w_iast C M h30 rfl dM_keep_30 (fun H locs M => ?_)
      refine w_aload_n C.x C.b dM_keep_31 rfl (lv_at hl 0 rfl) ?_
      obtain ⟨v32, h32, hf⟩ := Option.bind_eq_some_iff.mp hf
      refine w_getR C M h32 rfl (hm_in in_M) (by decide) (List.mem_cons_of_mem _ wm_726) rfl dM_keep_32 ?_
      refine lv_sipush (v := 400) C.x C.b dM_keep_35 (by decide) ?_
      refine lv_iload_n C.x C.b dM_keep_38 rfl (lv_at hl 1 rfl) ?_
      refine lv_imul C.x C.b dM_keep_39 ?_
      refine lv_iload_n C.x C.b dM_keep_40 rfl (lv_at hl 2 rfl) ?_
      refine lv_iadd C.x C.b dM_keep_41 ?_
      refine w_aload_n C.x C.b dM_keep_42 rfl (lv_at hl 0 rfl) ?_
      obtain ⟨v43, h43, hf⟩ := Option.bind_eq_some_iff.mp hf
      refine w_getR C M h43 rfl (hm_in in_M) (by decide) (List.mem_cons_of_mem _ wm_726) rfl dM_keep_43 ?_
      refine lv_sipush (v := 1600) C.x C.b dM_keep_46 (by decide) ?_
      refine lv_iload_n C.x C.b dM_keep_49 rfl (lv_at hl 2 rfl) ?_
      refine lv_iadd C.x C.b dM_keep_50 ?_
      obtain ⟨v51, h51, hf⟩ := Option.bind_eq_some_iff.mp hf
      refine w_iald C M h51 rfl dM_keep_51 ?_
      obtain ⟨E52, h52, hf⟩ := Option.bind_eq_some_iff.mp hf
      refine w_iast C M h52 rfl dM_keep_52 (fun H locs M => ?_)
      refine w_aload_n C.x C.b dM_keep_53 rfl (lv_at hl 0 rfl) ?_
      obtain ⟨v54, h54, hf⟩ := Option.bind_eq_some_iff.mp hf
      refine w_getR C M h54 rfl (hm_in in_M) (by decide) (List.mem_cons_of_mem _ wm_727) rfl dM_keep_54 ?_
      refine lv_sipush (v := 400) C.x C.b dM_keep_57 (by decide) ?_
      refine lv_iload_n C.x C.b dM_keep_60 rfl (lv_at hl 1 rfl) ?_
      refine lv_imul C.x C.b dM_keep_61 ?_
      refine lv_iload_n C.x C.b dM_keep_62 rfl (lv_at hl 2 rfl) ?_
      refine lv_iadd C.x C.b dM_keep_63 ?_
      refine w_aload_n C.x C.b dM_keep_64 rfl (lv_at hl 0 rfl) ?_
      obtain ⟨v65, h65, hf⟩ := Option.bind_eq_some_iff.mp hf
      refine w_getR C M h65 rfl (hm_in in_M) (by decide) (List.mem_cons_of_mem _ wm_727) rfl dM_keep_65 ?_
      refine lv_sipush (v := 1600) C.x C.b dM_keep_68 (by decide) ?_
      refine lv_iload_n C.x C.b dM_keep_71 rfl (lv_at hl 2 rfl) ?_
      refine lv_iadd C.x C.b dM_keep_72 ?_
      obtain ⟨v73, h73, hf⟩ := Option.bind_eq_some_iff.mp hf
      refine w_iald C M h73 rfl dM_keep_73 ?_
      obtain ⟨E74, h74, hf⟩ := Option.bind_eq_some_iff.mp hf
      refine w_iast C M h74 rfl dM_keep_74 (fun H locs M => ?_)
      refine lv_iinc (v := y2 + 1) (lv' := [(2, .int (y2 + 1)), (0, va_rf y0), (1, .int y1)]) C.x C.b dM_keep_75 hl (k := 2) rfl rfl (by decide) rfl (fun ls hl => ?_)
      refine lv_goto (tgt := 2) C.x C.b dM_keep_78 (by decide) ?_
      exact ih _ _ _ _ _ _ _ M (lv_sub hl [1, 2, 0] rfl) hf
def f_M_keep (N : Nat) (x0 : Nat) (x1 : Int32) (E : hE) : Option (hE) := (
  f_M_keep_b2 N N (some x0) x1 0 E)
set_option maxHeartbeats 4000000 in
set_option maxRecDepth 100000 in
theorem c_M_keep {l : Launch} {D : va_G} {kA : Nat → ClassId} {S : hE} {g : Nat → Nat} {n0 nx : Nat} {N : Nat} {x0 : Nat} {x1 : Int32} {E : hE} {res : hE} (hf : f_M_keep N x0 x1 E = some res) : Met l y_M_keep ws_M_keep rm_M_keep (va_Pc [va_rf (some x0), .int x1] (hJ D kA S g n0 (E, nx))) (va_Qv (fun w => w = (res, nx)) (hJ D kA S g n0) (fun q => n0 ≤ q)) 0 0 (fun q => n0 ≤ q) := by
  refine h_met (cc := prog_11_method_6_code) (maxL := 3) (ret := none) (lvs := [(0, va_rf (some x0)), (1, .int x1)]) zZ_k (by decide) rfl (by simp [lg_sl, va_rf_cat, cat_i, cat_l, cat_n]) (by simp [lv_args, va_rf_cat, cat_i, cat_l, cat_n]) ?_
  intro p e s m below meth c ls C M hr hlk hnm hl
  unfold f_M_keep at hf
  refine lv_iconst (v := 0) C.x C.b dM_keep_0 (by decide) ?_
  refine lv_istore_n (lv' := [(2, .int 0), (0, va_rf (some x0)), (1, .int x1)]) C.x C.b dM_keep_1 rfl hl (by decide) rfl (fun ls hl => ?_)
  exact b_M_keep_2 C hr hlk hnm N _ _ _ _ _ _ _ M (lv_sub hl [1, 2, 0] rfl) hf
theorem dM_load_0 : decode prog_11_method_4_code 0 = .ok (.aload_n 0, 1) := by decide +kernel
theorem dM_load_1 : decode prog_11_method_4_code 1 = .ok (.getfield 87, 3) := by decide +kernel
theorem dM_load_4 : decode prog_11_method_4_code 4 = .ok (.istore_n 2, 1) := by decide +kernel
theorem dM_load_5 : decode prog_11_method_4_code 5 = .ok (.aload_n 0, 1) := by decide +kernel
theorem dM_load_6 : decode prog_11_method_4_code 6 = .ok (.iconst 0, 1) := by decide +kernel
theorem dM_load_7 : decode prog_11_method_4_code 7 = .ok (.putfield 87, 3) := by decide +kernel
theorem dM_load_10 : decode prog_11_method_4_code 10 = .ok (.iload_n 1, 1) := by decide +kernel
theorem dM_load_11 : decode prog_11_method_4_code 11 = .ok (.iconst 0, 1) := by decide +kernel
theorem dM_load_12 : decode prog_11_method_4_code 12 = .ok (.iconst 3, 1) := by decide +kernel
theorem dM_load_13 : decode prog_11_method_4_code 13 = .ok (.invokestatic 83, 3) := by decide +kernel
theorem dM_load_16 : decode prog_11_method_4_code 16 = .ok (.ifCond .ne 6, 3) := by decide +kernel
theorem dM_load_19 : decode prog_11_method_4_code 19 = .ok (.bipush (-2), 2) := by decide +kernel
theorem dM_load_21 : decode prog_11_method_4_code 21 = .ok (.ireturn, 1) := by decide +kernel
theorem dM_load_22 : decode prog_11_method_4_code 22 = .ok (.iconst 0, 1) := by decide +kernel
theorem dM_load_23 : decode prog_11_method_4_code 23 = .ok (.istore_n 3, 1) := by decide +kernel
theorem dM_load_24 : decode prog_11_method_4_code 24 = .ok (.iload_n 3, 1) := by decide +kernel
theorem dM_load_25 : decode prog_11_method_4_code 25 = .ok (.iload_n 2, 1) := by decide +kernel
theorem dM_load_26 : decode prog_11_method_4_code 26 = .ok (.if_icmp .ge 25, 3) := by decide +kernel
theorem dM_load_29 : decode prog_11_method_4_code 29 = .ok (.aload_n 0, 1) := by decide +kernel
theorem dM_load_30 : decode prog_11_method_4_code 30 = .ok (.getfield 13, 3) := by decide +kernel
theorem dM_load_33 : decode prog_11_method_4_code 33 = .ok (.sipush 1600, 3) := by decide +kernel
theorem dM_load_36 : decode prog_11_method_4_code 36 = .ok (.iload_n 3, 1) := by decide +kernel
theorem dM_load_37 : decode prog_11_method_4_code 37 = .ok (.iadd, 1) := by decide +kernel
theorem dM_load_38 : decode prog_11_method_4_code 38 = .ok (.aload_n 0, 1) := by decide +kernel
theorem dM_load_39 : decode prog_11_method_4_code 39 = .ok (.getfield 7, 3) := by decide +kernel
theorem dM_load_42 : decode prog_11_method_4_code 42 = .ok (.iload_n 3, 1) := by decide +kernel
theorem dM_load_43 : decode prog_11_method_4_code 43 = .ok (.iaload, 1) := by decide +kernel
theorem dM_load_44 : decode prog_11_method_4_code 44 = .ok (.iastore, 1) := by decide +kernel
theorem dM_load_45 : decode prog_11_method_4_code 45 = .ok (.iinc 3 1, 3) := by decide +kernel
theorem dM_load_48 : decode prog_11_method_4_code 48 = .ok (.goto (-24), 3) := by decide +kernel
theorem dM_load_51 : decode prog_11_method_4_code 51 = .ok (.aload_n 0, 1) := by decide +kernel
theorem dM_load_52 : decode prog_11_method_4_code 52 = .ok (.iload_n 2, 1) := by decide +kernel
theorem dM_load_53 : decode prog_11_method_4_code 53 = .ok (.invokevirtual 91, 3) := by decide +kernel
theorem dM_load_56 : decode prog_11_method_4_code 56 = .ok (.aload_n 0, 1) := by decide +kernel
theorem dM_load_57 : decode prog_11_method_4_code 57 = .ok (.invokevirtual 95, 3) := by decide +kernel
theorem dM_load_60 : decode prog_11_method_4_code 60 = .ok (.istore_n 3, 1) := by decide +kernel
theorem dM_load_61 : decode prog_11_method_4_code 61 = .ok (.iload_n 3, 1) := by decide +kernel
theorem dM_load_62 : decode prog_11_method_4_code 62 = .ok (.iconst (-1), 1) := by decide +kernel
theorem dM_load_63 : decode prog_11_method_4_code 63 = .ok (.if_icmp .eq 5, 3) := by decide +kernel
theorem dM_load_66 : decode prog_11_method_4_code 66 = .ok (.iload_n 3, 1) := by decide +kernel
theorem dM_load_67 : decode prog_11_method_4_code 67 = .ok (.ireturn, 1) := by decide +kernel
theorem dM_load_68 : decode prog_11_method_4_code 68 = .ok (.aload_n 0, 1) := by decide +kernel
theorem dM_load_69 : decode prog_11_method_4_code 69 = .ok (.iload_n 1, 1) := by decide +kernel
theorem dM_load_70 : decode prog_11_method_4_code 70 = .ok (.invokevirtual 99, 3) := by decide +kernel
theorem dM_load_73 : decode prog_11_method_4_code 73 = .ok (.iconst (-1), 1) := by decide +kernel
theorem dM_load_74 : decode prog_11_method_4_code 74 = .ok (.ireturn, 1) := by decide +kernel
abbrev rm_M_load : Room := { frames := 5, cells := 0, slots := 0, locals := 111 }
def f_M_load_b24 (N : Nat) : Nat → Option Nat → Int32 → Int32 → Int32 → hE → Option (Int32 × hE)
  | 0, _, _, _, _, _ => none
  | n + 1, y0, y1, y2, y3, E => (
  if y2 ≤ y3 then (
  (gO E y0 7).bind fun o53 =>
  (f_M_layLines N o53.1 y2 E).bind fun v53 =>
  (gO v53 y0 7).bind fun o57 =>
  (f_M_ill N o57.1 v53).bind fun v57 =>
  if v57.1 = (-1) then (
  (gO v57.2 y0 7).bind fun o70 =>
  (f_M_keep N o70.1 y1 v57.2).bind fun v70 =>
  some ((-1), v70)
  ) else (
  some (v57.1, v57.2)
  )
  ) else (
  (gR E y0 7 2).bind fun v30 =>
  (gR E y0 7 1).bind fun v39 =>
  (aI E v39 0 y3).bind fun v43 =>
  (tI E v30 0 (1600 + y3) v43).bind fun E44 =>
  f_M_load_b24 N n y0 y1 y2 (y3 + 1) E44
  ))
set_option maxHeartbeats 4000000 in
set_option maxRecDepth 100000 in
theorem b_M_load_24 {p : Program} {l : Launch} {e : Env} {s : State} {m : MethodId} {args : Array Value} {below : List Frame} {meth : Method} {c : Code} {D : va_G} {kA : Nat → ClassId} {S : hE} {g : Nat → Nat} {n0 nx : Nat} {N : Nat} {res : Int32 × hE} (C : hX p s m args c prog_11_method_4_code 4 R_M ws_M_load D kA S g n0) (hr : meth.sig.returnType = (some .int)) (hlk : meth.locks = false) (hnm : meth.name = "load") : ∀ n : Nat, ∀ (y0 : Option Nat) (y1 : Int32) (y2 : Int32) (y3 : Int32) (E : hE) (H : Heap) (locs : List Loc) (ls : Array Slot), hY D kA n0 s E nx H locs → lv_has ls 4 [(0, va_rf y0), (1, .int y1), (2, .int y2), (3, .int y3)] → f_M_load_b24 N n y0 y1 y2 y3 E = some res → W p l e rm_M_load s m args below meth c H locs 0 0 (MQ below (va_Qi (fun r w => r = res.1 ∧ w = (res.2, nx)) (hJ D kA S g n0) (fun q => n0 ≤ q)) args s 0 0 (fun q => n0 ≤ q)) (F0 m 24 ls []) := by
  intro n
  induction n with
  | zero =>
    intro y0 y1 y2 y3 E H locs ls M hl hf
    simp [f_M_load_b24] at hf
  | succ n ih =>
    intro y0 y1 y2 y3 E H locs ls M hl hf
    rw [f_M_load_b24] at hf
    refine lv_iload_n C.x C.b dM_load_24 rfl (lv_at hl 3 rfl) ?_
    refine lv_iload_n C.x C.b dM_load_25 rfl (lv_at hl 2 rfl) ?_
    refine lv_icmp_ge (tgt := 51) C.x C.b dM_load_26 (by decide) (fun c26 => ?_) (fun c26 => ?_)
    · rw [if_pos c26] at hf
      refine w_aload_n C.x C.b dM_load_51 rfl (lv_at hl 0 rfl) ?_
      refine lv_iload_n C.x C.b dM_load_52 rfl (lv_at hl 2 rfl) ?_
      obtain ⟨o53, g53, hf⟩ := Option.bind_eq_some_iff.mp hf
      obtain ⟨v53, h53, hf⟩ := Option.bind_eq_some_iff.mp hf
      refine w_cv M (w_runV C M g53 rfl (c_M_layLines h53) (cwV 1 C.ts (hgV wm_836 wm_838 sel_M_layLines wm_6 wm_839) rfl rfl rfl (by decide +kernel) ⟨Nat.le_of_ble_eq_true rfl, Nat.le_of_ble_eq_true rfl⟩) rfl hl.1 rfl (Nat.zero_le _) dM_load_53 ⟨Nat.le_refl _, Nat.le_refl _⟩) (fun H locs M => ?_)
      refine w_aload_n C.x C.b dM_load_56 rfl (lv_at hl 0 rfl) ?_
      obtain ⟨o57, g57, hf⟩ := Option.bind_eq_some_iff.mp hf
      obtain ⟨v57, h57, hf⟩ := Option.bind_eq_some_iff.mp hf
      refine w_ci M (w_runV C M g57 rfl (c_M_ill h57) (cwV 0 C.ts (hgV wm_840 wm_842 sel_M_ill wm_6 wm_843) rfl rfl rfl (by decide +kernel) ⟨Nat.le_of_ble_eq_true rfl, Nat.le_of_ble_eq_true rfl⟩) rfl hl.1 rfl (Nat.zero_le _) dM_load_57 ⟨Nat.le_refl _, Nat.le_refl _⟩) (fun H locs M => ?_)
      refine lv_istore_n (lv' := [(3, .int v57.1), (0, va_rf y0), (1, .int y1), (2, .int y2)]) C.x C.b dM_load_60 rfl hl (by decide) rfl (fun ls hl => ?_)
      refine lv_iload_n C.x C.b dM_load_61 rfl (lv_at hl 0 rfl) ?_
      refine lv_iconst (v := (-1)) C.x C.b dM_load_62 (by decide) ?_
      refine lv_icmp_eq (tgt := 68) C.x C.b dM_load_63 (by decide) (fun c63 => ?_) (fun c63 => ?_)
      · rw [if_pos c63] at hf
        refine w_aload_n C.x C.b dM_load_68 rfl (lv_at hl 1 rfl) ?_
        refine lv_iload_n C.x C.b dM_load_69 rfl (lv_at hl 2 rfl) ?_
        obtain ⟨o70, g70, hf⟩ := Option.bind_eq_some_iff.mp hf
        obtain ⟨v70, h70, hf⟩ := Option.bind_eq_some_iff.mp hf
        refine w_cv M (w_runV C M g70 rfl (c_M_keep h70) (cwV 1 C.ts (hgV wm_918 wm_920 sel_M_keep wm_6 wm_921) rfl rfl rfl (by decide +kernel) ⟨Nat.le_of_ble_eq_true rfl, Nat.le_of_ble_eq_true rfl⟩) rfl hl.1 rfl (Nat.zero_le _) dM_load_70 ⟨Nat.le_refl _, Nat.le_refl _⟩) (fun H locs M => ?_)
        refine lv_iconst (v := (-1)) C.x C.b dM_load_73 (by decide) ?_
        cases hf
        exact w_iret C M hr hlk rfl (Nat.le_refl _) (Nat.le_refl _) dM_load_74 rfl rfl
      · rw [if_neg c63] at hf
        refine lv_iload_n C.x C.b dM_load_66 rfl (lv_at hl 0 rfl) ?_
        cases hf
        exact w_iret C M hr hlk rfl (Nat.le_refl _) (Nat.le_refl _) dM_load_67 rfl rfl
    · rw [if_neg c26] at hf
      refine w_aload_n C.x C.b dM_load_29 rfl (lv_at hl 0 rfl) ?_
      obtain ⟨v30, h30, hf⟩ := Option.bind_eq_some_iff.mp hf
      refine w_getR C M h30 rfl (hm_in in_M) (by decide) (List.mem_cons_of_mem _ wm_725) rfl dM_load_30 ?_
      refine lv_sipush (v := 1600) C.x C.b dM_load_33 (by decide) ?_
      refine lv_iload_n C.x C.b dM_load_36 rfl (lv_at hl 3 rfl) ?_
      refine lv_iadd C.x C.b dM_load_37 ?_
      refine w_aload_n C.x C.b dM_load_38 rfl (lv_at hl 0 rfl) ?_
      obtain ⟨v39, h39, hf⟩ := Option.bind_eq_some_iff.mp hf
      refine w_getR C M h39 rfl (hm_in in_M) (by decide) (List.mem_cons_of_mem _ wm_724) rfl dM_load_39 ?_
      refine lv_iload_n C.x C.b dM_load_42 rfl (lv_at hl 3 rfl) ?_
      obtain ⟨v43, h43, hf⟩ := Option.bind_eq_some_iff.mp hf
      refine w_iald C M h43 rfl dM_load_43 ?_
      obtain ⟨E44, h44, hf⟩ := Option.bind_eq_some_iff.mp hf
      refine w_iast C M h44 rfl dM_load_44 (fun H locs M => ?_)
      refine lv_iinc (v := y3 + 1) (lv' := [(3, .int (y3 + 1)), (0, va_rf y0), (1, .int y1), (2, .int y2)]) C.x C.b dM_load_45 hl (k := 3) rfl rfl (by decide) rfl (fun ls hl => ?_)
      refine lv_goto (tgt := 24) C.x C.b dM_load_48 (by decide) ?_
      exact ih _ _ _ _ _ _ _ _ M (lv_sub hl [1, 2, 3, 0] rfl) hf
def f_M_load (N : Nat) (x0 : Nat) (x1 : Int32) (E : hE) : Option (Int32 × hE) := (
  (gI E (some x0) 7 0).bind fun v1 =>
  (sI E (some x0) 7 0 0).bind fun E7 =>
  (f_M_in E7 x1 0 3).bind fun v13 =>
  if v13 = 0 then (
  some ((-2), E7)
  ) else (
  f_M_load_b24 N N (some x0) x1 v1 0 E7
  ))
set_option maxHeartbeats 4000000 in
set_option maxRecDepth 100000 in
theorem c_M_load {l : Launch} {D : va_G} {kA : Nat → ClassId} {S : hE} {g : Nat → Nat} {n0 nx : Nat} {N : Nat} {x0 : Nat} {x1 : Int32} {E : hE} {res : Int32 × hE} (hf : f_M_load N x0 x1 E = some res) : Met l y_M_load ws_M_load rm_M_load (va_Pc [va_rf (some x0), .int x1] (hJ D kA S g n0 (E, nx))) (va_Qi (fun r w => r = res.1 ∧ w = (res.2, nx)) (hJ D kA S g n0) (fun q => n0 ≤ q)) 0 0 (fun q => n0 ≤ q) := by
  refine h_met (cc := prog_11_method_4_code) (maxL := 4) (ret := (some .int)) (lvs := [(0, va_rf (some x0)), (1, .int x1)]) zZ_k (by decide) rfl (by simp [lg_sl, va_rf_cat, cat_i, cat_l, cat_n]) (by simp [lv_args, va_rf_cat, cat_i, cat_l, cat_n]) ?_
  intro p e s m below meth c ls C M hr hlk hnm hl
  unfold f_M_load at hf
  refine w_aload_n C.x C.b dM_load_0 rfl (lv_at hl 0 rfl) ?_
  obtain ⟨v1, h1, hf⟩ := Option.bind_eq_some_iff.mp hf
  refine w_getI C M h1 rfl (hm_in in_M) (by decide) (List.mem_cons_of_mem _ wm_723) rfl dM_load_1 ?_
  refine lv_istore_n (lv' := [(2, .int v1), (0, va_rf (some x0)), (1, .int x1)]) C.x C.b dM_load_4 rfl hl (by decide) rfl (fun ls hl => ?_)
  refine w_aload_n C.x C.b dM_load_5 rfl (lv_at hl 1 rfl) ?_
  refine lv_iconst (v := 0) C.x C.b dM_load_6 (by decide) ?_
  obtain ⟨E7, h7, hf⟩ := Option.bind_eq_some_iff.mp hf
  refine w_putV (ty := .int) C M ty_M h7 rfl (hm_in in_M) tyok_M nm_M (by decide) (List.mem_cons_of_mem _ wm_723) rfl rfl (by decide +kernel) rfl rfl dM_load_7 (fun H locs M => ?_)
  refine lv_iload_n C.x C.b dM_load_10 rfl (lv_at hl 2 rfl) ?_
  refine lv_iconst (v := 0) C.x C.b dM_load_11 (by decide) ?_
  refine lv_iconst (v := 3) C.x C.b dM_load_12 (by decide) ?_
  obtain ⟨v13, h13, hf⟩ := Option.bind_eq_some_iff.mp hf
  refine w_ci M (w_runS C M (c_M_in h13) (cwS 3 C.ts (hgS wm_829 wm_830 wm_6 wm_831) rfl rfl rfl (by decide +kernel) ⟨Nat.le_of_ble_eq_true rfl, Nat.le_of_ble_eq_true rfl⟩) rfl hl.1 rfl (Nat.zero_le _) dM_load_13 ⟨Nat.le_refl _, Nat.le_refl _⟩) (fun H locs M => ?_)
  refine lv_if_ne (tgt := 22) C.x C.b dM_load_16 (by decide) (fun c16 => ?_) (fun c16 => ?_)
  · rw [if_neg c16] at hf
    refine lv_iconst (v := 0) C.x C.b dM_load_22 (by decide) ?_
    refine lv_istore_n (lv' := [(3, .int 0), (2, .int v1), (0, va_rf (some x0)), (1, .int x1)]) C.x C.b dM_load_23 rfl hl (by decide) rfl (fun ls hl => ?_)
    exact b_M_load_24 C hr hlk hnm N _ _ _ _ _ _ _ _ M (lv_sub hl [2, 3, 1, 0] rfl) hf
  · rw [if_pos c16] at hf
    refine lv_bipush (v := (-2)) C.x C.b dM_load_19 (by decide) ?_
    cases hf
    exact w_iret C M hr hlk rfl (Nat.le_refl _) (Nat.le_refl _) dM_load_21 rfl rfl
theorem dM_isFile_0 : decode prog_11_method_18_code 0 = .ok (.iload_n 0, 1) := by decide +kernel
theorem dM_isFile_1 : decode prog_11_method_18_code 1 = .ok (.iconst 0, 1) := by decide +kernel
theorem dM_isFile_2 : decode prog_11_method_18_code 2 = .ok (.bipush 9, 2) := by decide +kernel
theorem dM_isFile_4 : decode prog_11_method_18_code 4 = .ok (.invokestatic 83, 3) := by decide +kernel
theorem dM_isFile_7 : decode prog_11_method_18_code 7 = .ok (.ireturn, 1) := by decide +kernel
abbrev rm_M_isFile : Room := { frames := 1, cells := 0, slots := 0, locals := 22 }
def f_M_isFile (E : hE) (x0 : Int32) : Option (Int32) := (
  (f_M_in E x0 0 9).bind fun v4 =>
  (bZ v4).bind fun v7 =>
  some v7)
set_option maxHeartbeats 4000000 in
set_option maxRecDepth 100000 in
theorem c_M_isFile {l : Launch} {D : va_G} {kA : Nat → ClassId} {S : hE} {g : Nat → Nat} {n0 nx : Nat} {x0 : Int32} {E : hE} {res : Int32} (hf : f_M_isFile E x0 = some res) : Met l y_M_isFile ws_M_isFile rm_M_isFile (va_Pc [.int x0] (hJ D kA S g n0 (E, nx))) (va_Qi (fun r w => r = res ∧ w = (E, nx)) (hJ D kA S g n0) (fun q => n0 ≤ q)) 0 0 (fun q => n0 ≤ q) := by
  refine h_met (cc := prog_11_method_18_code) (maxL := 1) (ret := (some .boolean)) (lvs := [(0, .int x0)]) zZ_k (by decide) rfl (by simp [lg_sl, va_rf_cat, cat_i, cat_l, cat_n]) (by simp [lv_args, va_rf_cat, cat_i, cat_l, cat_n]) ?_
  intro p e s m below meth c ls C M hr hlk hnm hl
  unfold f_M_isFile at hf
  refine lv_iload_n C.x C.b dM_isFile_0 rfl (lv_at hl 0 rfl) ?_
  refine lv_iconst (v := 0) C.x C.b dM_isFile_1 (by decide) ?_
  refine lv_bipush (v := 9) C.x C.b dM_isFile_2 (by decide) ?_
  obtain ⟨v4, h4, hf⟩ := Option.bind_eq_some_iff.mp hf
  refine w_ci M (w_runS C M (c_M_in h4) (cwS 3 C.ts (hgS wm_829 wm_830 wm_6 wm_831) rfl rfl rfl (by decide +kernel) ⟨Nat.le_of_ble_eq_true rfl, Nat.le_of_ble_eq_true rfl⟩) rfl hl.1 rfl (Nat.zero_le _) dM_isFile_4 ⟨Nat.le_refl _, Nat.le_refl _⟩) (fun H locs M => ?_)
  obtain ⟨v7, h7, hf⟩ := Option.bind_eq_some_iff.mp hf
  obtain ⟨rfl, g7⟩ := bZ_some h7
  cases hf
  exact w_iret C M hr hlk (narrow_z g7) (Nat.le_refl _) (Nat.le_refl _) dM_isFile_7 rfl rfl
theorem dM_append_0 : decode prog_11_method_20_code 0 = .ok (.aload_n 0, 1) := by decide +kernel
theorem dM_append_1 : decode prog_11_method_20_code 1 = .ok (.getfield 42, 3) := by decide +kernel
theorem dM_append_4 : decode prog_11_method_20_code 4 = .ok (.iload_n 1, 1) := by decide +kernel
theorem dM_append_5 : decode prog_11_method_20_code 5 = .ok (.iconst 1, 1) := by decide +kernel
theorem dM_append_6 : decode prog_11_method_20_code 6 = .ok (.bastore, 1) := by decide +kernel
theorem dM_append_7 : decode prog_11_method_20_code 7 = .ok (.aload_n 0, 1) := by decide +kernel
theorem dM_append_8 : decode prog_11_method_20_code 8 = .ok (.getfield 48, 3) := by decide +kernel
theorem dM_append_11 : decode prog_11_method_20_code 11 = .ok (.bipush 40, 2) := by decide +kernel
theorem dM_append_13 : decode prog_11_method_20_code 13 = .ok (.iload_n 1, 1) := by decide +kernel
theorem dM_append_14 : decode prog_11_method_20_code 14 = .ok (.imul, 1) := by decide +kernel
theorem dM_append_15 : decode prog_11_method_20_code 15 = .ok (.aload_n 0, 1) := by decide +kernel
theorem dM_append_16 : decode prog_11_method_20_code 16 = .ok (.getfield 45, 3) := by decide +kernel
theorem dM_append_19 : decode prog_11_method_20_code 19 = .ok (.iload_n 1, 1) := by decide +kernel
theorem dM_append_20 : decode prog_11_method_20_code 20 = .ok (.iaload, 1) := by decide +kernel
theorem dM_append_21 : decode prog_11_method_20_code 21 = .ok (.iadd, 1) := by decide +kernel
theorem dM_append_22 : decode prog_11_method_20_code 22 = .ok (.iload_n 2, 1) := by decide +kernel
theorem dM_append_23 : decode prog_11_method_20_code 23 = .ok (.iastore, 1) := by decide +kernel
theorem dM_append_24 : decode prog_11_method_20_code 24 = .ok (.aload_n 0, 1) := by decide +kernel
theorem dM_append_25 : decode prog_11_method_20_code 25 = .ok (.getfield 45, 3) := by decide +kernel
theorem dM_append_28 : decode prog_11_method_20_code 28 = .ok (.iload_n 1, 1) := by decide +kernel
theorem dM_append_29 : decode prog_11_method_20_code 29 = .ok (.dup2, 1) := by decide +kernel
theorem dM_append_30 : decode prog_11_method_20_code 30 = .ok (.iaload, 1) := by decide +kernel
theorem dM_append_31 : decode prog_11_method_20_code 31 = .ok (.iconst 1, 1) := by decide +kernel
theorem dM_append_32 : decode prog_11_method_20_code 32 = .ok (.iadd, 1) := by decide +kernel
theorem dM_append_33 : decode prog_11_method_20_code 33 = .ok (.iastore, 1) := by decide +kernel
theorem dM_append_34 : decode prog_11_method_20_code 34 = .ok (.return_, 1) := by decide +kernel
abbrev rm_M_append : Room := { frames := 0, cells := 0, slots := 0, locals := 0 }
def f_M_append  (x0 : Nat) (x1 : Int32) (x2 : Int32) (E : hE) : Option (hE) := (
  (gR E (some x0) 7 12).bind fun v1 =>
  (tZ E v1 1 x1 1).bind fun E6 =>
  (gR E6 (some x0) 7 14).bind fun v8 =>
  (gR E6 (some x0) 7 13).bind fun v16 =>
  (aI E6 v16 0 x1).bind fun v20 =>
  (tI E6 v8 0 ((40 * x1) + v20) x2).bind fun E23 =>
  (gR E23 (some x0) 7 13).bind fun v25 =>
  (aI E23 v25 0 x1).bind fun v30 =>
  (tI E23 v25 0 x1 (v30 + 1)).bind fun E33 =>
  some E33)
set_option maxHeartbeats 4000000 in
set_option maxRecDepth 100000 in
theorem c_M_append {l : Launch} {D : va_G} {kA : Nat → ClassId} {S : hE} {g : Nat → Nat} {n0 nx : Nat} {x0 : Nat} {x1 : Int32} {x2 : Int32} {E : hE} {res : hE} (hf : f_M_append x0 x1 x2 E = some res) : Met l y_M_append ws_M_append rm_M_append (va_Pc [va_rf (some x0), .int x1, .int x2] (hJ D kA S g n0 (E, nx))) (va_Qv (fun w => w = (res, nx)) (hJ D kA S g n0) (fun q => n0 ≤ q)) 0 0 (fun q => n0 ≤ q) := by
  refine h_met (cc := prog_11_method_20_code) (maxL := 3) (ret := none) (lvs := [(0, va_rf (some x0)), (1, .int x1), (2, .int x2)]) zZ_k (by decide) rfl (by simp [lg_sl, va_rf_cat, cat_i, cat_l, cat_n]) (by simp [lv_args, va_rf_cat, cat_i, cat_l, cat_n]) ?_
  intro p e s m below meth c ls C M hr hlk hnm hl
  unfold f_M_append at hf
  refine w_aload_n C.x C.b dM_append_0 rfl (lv_at hl 0 rfl) ?_
  obtain ⟨v1, h1, hf⟩ := Option.bind_eq_some_iff.mp hf
  refine w_getR C M h1 rfl (hm_in in_M) (by decide) (List.mem_cons_of_mem _ wm_735) rfl dM_append_1 ?_
  refine lv_iload_n C.x C.b dM_append_4 rfl (lv_at hl 1 rfl) ?_
  refine lv_iconst (v := 1) C.x C.b dM_append_5 (by decide) ?_
  obtain ⟨E6, h6, hf⟩ := Option.bind_eq_some_iff.mp hf
  refine w_zast C M h6 rfl dM_append_6 (fun H locs M => ?_)
  refine w_aload_n C.x C.b dM_append_7 rfl (lv_at hl 0 rfl) ?_
  obtain ⟨v8, h8, hf⟩ := Option.bind_eq_some_iff.mp hf
  refine w_getR C M h8 rfl (hm_in in_M) (by decide) (List.mem_cons_of_mem _ wm_737) rfl dM_append_8 ?_
  refine lv_bipush (v := 40) C.x C.b dM_append_11 (by decide) ?_
  refine lv_iload_n C.x C.b dM_append_13 rfl (lv_at hl 1 rfl) ?_
  refine lv_imul C.x C.b dM_append_14 ?_
  refine w_aload_n C.x C.b dM_append_15 rfl (lv_at hl 0 rfl) ?_
  obtain ⟨v16, h16, hf⟩ := Option.bind_eq_some_iff.mp hf
  refine w_getR C M h16 rfl (hm_in in_M) (by decide) (List.mem_cons_of_mem _ wm_736) rfl dM_append_16 ?_
  refine lv_iload_n C.x C.b dM_append_19 rfl (lv_at hl 1 rfl) ?_
  obtain ⟨v20, h20, hf⟩ := Option.bind_eq_some_iff.mp hf
  refine w_iald C M h20 rfl dM_append_20 ?_
  refine lv_iadd C.x C.b dM_append_21 ?_
  refine lv_iload_n C.x C.b dM_append_22 rfl (lv_at hl 2 rfl) ?_
  obtain ⟨E23, h23, hf⟩ := Option.bind_eq_some_iff.mp hf
  refine w_iast C M h23 rfl dM_append_23 (fun H locs M => ?_)
  refine w_aload_n C.x C.b dM_append_24 rfl (lv_at hl 0 rfl) ?_
  obtain ⟨v25, h25, hf⟩ := Option.bind_eq_some_iff.mp hf
  refine w_getR C M h25 rfl (hm_in in_M) (by decide) (List.mem_cons_of_mem _ wm_736) rfl dM_append_25 ?_
  refine lv_iload_n C.x C.b dM_append_28 rfl (lv_at hl 1 rfl) ?_
  refine lv_dup2_11 C.x C.b dM_append_29 rfl (va_rf_cat _) ?_
  obtain ⟨v30, h30, hf⟩ := Option.bind_eq_some_iff.mp hf
  refine w_iald C M h30 rfl dM_append_30 ?_
  refine lv_iconst (v := 1) C.x C.b dM_append_31 (by decide) ?_
  refine lv_iadd C.x C.b dM_append_32 ?_
  obtain ⟨E33, h33, hf⟩ := Option.bind_eq_some_iff.mp hf
  refine w_iast C M h33 rfl dM_append_33 (fun H locs M => ?_)
  cases hf
  exact w_vret C M hr hlk (Nat.le_refl _) (Nat.le_refl _) dM_append_34 rfl
theorem dM_file_0 : decode prog_11_method_19_code 0 = .ok (.iload_n 1, 1) := by decide +kernel
theorem dM_file_1 : decode prog_11_method_19_code 1 = .ok (.invokestatic 206, 3) := by decide +kernel
theorem dM_file_4 : decode prog_11_method_19_code 4 = .ok (.ifCond .eq 28, 3) := by decide +kernel
theorem dM_file_7 : decode prog_11_method_19_code 7 = .ok (.iload 4, 2) := by decide +kernel
theorem dM_file_9 : decode prog_11_method_19_code 9 = .ok (.iconst 1, 1) := by decide +kernel
theorem dM_file_10 : decode prog_11_method_19_code 10 = .ok (.bipush 8, 2) := by decide +kernel
theorem dM_file_12 : decode prog_11_method_19_code 12 = .ok (.invokestatic 83, 3) := by decide +kernel
theorem dM_file_15 : decode prog_11_method_19_code 15 = .ok (.ifCond .eq 17, 3) := by decide +kernel
theorem dM_file_18 : decode prog_11_method_19_code 18 = .ok (.aload_n 0, 1) := by decide +kernel
theorem dM_file_19 : decode prog_11_method_19_code 19 = .ok (.getfield 45, 3) := by decide +kernel
theorem dM_file_22 : decode prog_11_method_19_code 22 = .ok (.iload_n 1, 1) := by decide +kernel
theorem dM_file_23 : decode prog_11_method_19_code 23 = .ok (.iaload, 1) := by decide +kernel
theorem dM_file_24 : decode prog_11_method_19_code 24 = .ok (.iload 4, 2) := by decide +kernel
theorem dM_file_26 : decode prog_11_method_19_code 26 = .ok (.iadd, 1) := by decide +kernel
theorem dM_file_27 : decode prog_11_method_19_code 27 = .ok (.bipush 40, 2) := by decide +kernel
theorem dM_file_29 : decode prog_11_method_19_code 29 = .ok (.if_icmp .le 5, 3) := by decide +kernel
theorem dM_file_32 : decode prog_11_method_19_code 32 = .ok (.iconst 0, 1) := by decide +kernel
theorem dM_file_33 : decode prog_11_method_19_code 33 = .ok (.ireturn, 1) := by decide +kernel
theorem dM_file_34 : decode prog_11_method_19_code 34 = .ok (.iload 4, 2) := by decide +kernel
theorem dM_file_36 : decode prog_11_method_19_code 36 = .ok (.iconst 1, 1) := by decide +kernel
theorem dM_file_37 : decode prog_11_method_19_code 37 = .ok (.isub, 1) := by decide +kernel
theorem dM_file_38 : decode prog_11_method_19_code 38 = .ok (.istore 5, 2) := by decide +kernel
theorem dM_file_40 : decode prog_11_method_19_code 40 = .ok (.iload 5, 2) := by decide +kernel
theorem dM_file_42 : decode prog_11_method_19_code 42 = .ok (.ifCond .lt 26, 3) := by decide +kernel
theorem dM_file_45 : decode prog_11_method_19_code 45 = .ok (.aload_n 0, 1) := by decide +kernel
theorem dM_file_46 : decode prog_11_method_19_code 46 = .ok (.iload_n 1, 1) := by decide +kernel
theorem dM_file_47 : decode prog_11_method_19_code 47 = .ok (.lload_n 2, 1) := by decide +kernel
theorem dM_file_48 : decode prog_11_method_19_code 48 = .ok (.bipush 8, 2) := by decide +kernel
theorem dM_file_50 : decode prog_11_method_19_code 50 = .ok (.iload 5, 2) := by decide +kernel
theorem dM_file_52 : decode prog_11_method_19_code 52 = .ok (.imul, 1) := by decide +kernel
theorem dM_file_53 : decode prog_11_method_19_code 53 = .ok (.lushr, 1) := by decide +kernel
theorem dM_file_54 : decode prog_11_method_19_code 54 = .ok (.ldc2_w 81, 3) := by decide +kernel
theorem dM_file_57 : decode prog_11_method_19_code 57 = .ok (.land, 1) := by decide +kernel
theorem dM_file_58 : decode prog_11_method_19_code 58 = .ok (.l2i, 1) := by decide +kernel
theorem dM_file_59 : decode prog_11_method_19_code 59 = .ok (.invokevirtual 209, 3) := by decide +kernel
theorem dM_file_62 : decode prog_11_method_19_code 62 = .ok (.iinc 5 (-1), 3) := by decide +kernel
theorem dM_file_65 : decode prog_11_method_19_code 65 = .ok (.goto (-25), 3) := by decide +kernel
theorem dM_file_68 : decode prog_11_method_19_code 68 = .ok (.iconst 1, 1) := by decide +kernel
theorem dM_file_69 : decode prog_11_method_19_code 69 = .ok (.ireturn, 1) := by decide +kernel
abbrev rm_M_file : Room := { frames := 2, cells := 0, slots := 0, locals := 42 }
def f_M_file_b40 (N : Nat) : Nat → Option Nat → Int32 → Int64 → Int32 → hE → Option (Int32 × hE)
  | 0, _, _, _, _, _ => none
  | n + 1, y0, y1, y2, y5, E => (
  if y5 < 0 then (
  some (1, E)
  ) else (
  (gO E y0 7).bind fun o59 =>
  (f_M_append o59.1 y1 ((((y2.toUInt64 >>> ((8 * y5).toInt64.toUInt64 &&& Int64.toUInt64 63)).toInt64) &&& 255).toInt32) E).bind fun v59 =>
  f_M_file_b40 N n y0 y1 y2 (y5 + (-1)) v59
  ))
set_option maxHeartbeats 4000000 in
set_option maxRecDepth 100000 in
theorem b_M_file_40 {p : Program} {l : Launch} {e : Env} {s : State} {m : MethodId} {args : Array Value} {below : List Frame} {meth : Method} {c : Code} {D : va_G} {kA : Nat → ClassId} {S : hE} {g : Nat → Nat} {n0 nx : Nat} {N : Nat} {res : Int32 × hE} (C : hX p s m args c prog_11_method_19_code 6 R_M ws_M_file D kA S g n0) (hr : meth.sig.returnType = (some .boolean)) (hlk : meth.locks = false) (hnm : meth.name = "file") : ∀ n : Nat, ∀ (y0 : Option Nat) (y1 : Int32) (y2 : Int64) (y5 : Int32) (E : hE) (H : Heap) (locs : List Loc) (ls : Array Slot), hY D kA n0 s E nx H locs → lv_has ls 6 [(0, va_rf y0), (1, .int y1), (2, .long y2), (5, .int y5)] → f_M_file_b40 N n y0 y1 y2 y5 E = some res → W p l e rm_M_file s m args below meth c H locs 0 0 (MQ below (va_Qi (fun r w => r = res.1 ∧ w = (res.2, nx)) (hJ D kA S g n0) (fun q => n0 ≤ q)) args s 0 0 (fun q => n0 ≤ q)) (F0 m 40 ls []) := by
  intro n
  induction n with
  | zero =>
    intro y0 y1 y2 y5 E H locs ls M hl hf
    simp [f_M_file_b40] at hf
  | succ n ih =>
    intro y0 y1 y2 y5 E H locs ls M hl hf
    rw [f_M_file_b40] at hf
    refine lv_iload C.x C.b dM_file_40 (lv_at hl 3 rfl) ?_
    refine lv_if_lt (tgt := 68) C.x C.b dM_file_42 (by decide) (fun c42 => ?_) (fun c42 => ?_)
    · rw [if_pos c42] at hf
      refine lv_iconst (v := 1) C.x C.b dM_file_68 (by decide) ?_
      cases hf
      exact w_iret C M hr hlk rfl (Nat.le_refl _) (Nat.le_refl _) dM_file_69 rfl rfl
    · rw [if_neg c42] at hf
      refine w_aload_n C.x C.b dM_file_45 rfl (lv_at hl 0 rfl) ?_
      refine lv_iload_n C.x C.b dM_file_46 rfl (lv_at hl 1 rfl) ?_
      refine lv_lload_n C.x C.b dM_file_47 rfl (lv_at hl 2 rfl) ?_
      refine lv_bipush (v := 8) C.x C.b dM_file_48 (by decide) ?_
      refine lv_iload C.x C.b dM_file_50 (lv_at hl 3 rfl) ?_
      refine lv_imul C.x C.b dM_file_52 ?_
      refine lv_lushr C.x C.b dM_file_53 rfl ?_
      refine lv_ldc2 (v := 255) C.x C.b C.ow (C.ts (.constantLong R_M 81 255) (List.mem_cons_of_mem _ wm_828)) dM_file_54 ?_
      refine lv_land C.x C.b dM_file_57 ?_
      refine lv_l2i C.x C.b dM_file_58 rfl ?_
      obtain ⟨o59, g59, hf⟩ := Option.bind_eq_some_iff.mp hf
      obtain ⟨v59, h59, hf⟩ := Option.bind_eq_some_iff.mp hf
      refine w_cv M (w_runV C M g59 rfl (c_M_append h59) (cwV 2 C.ts (hgV wm_929 wm_931 sel_M_append wm_6 wm_932) rfl rfl rfl (by decide +kernel) ⟨Nat.le_of_ble_eq_true rfl, Nat.le_of_ble_eq_true rfl⟩) rfl hl.1 rfl (Nat.zero_le _) dM_file_59 ⟨Nat.le_refl _, Nat.le_refl _⟩) (fun H locs M => ?_)
      refine lv_iinc (v := y5 + (-1)) (lv' := [(5, .int (y5 + (-1))), (0, va_rf y0), (1, .int y1), (2, .long y2)]) C.x C.b dM_file_62 hl (k := 3) rfl rfl (by decide) rfl (fun ls hl => ?_)
      refine lv_goto (tgt := 40) C.x C.b dM_file_65 (by decide) ?_
      exact ih _ _ _ _ _ _ _ _ M (lv_sub hl [1, 2, 3, 0] rfl) hf
def f_M_file_b32 (N : Nat) (E : hE) : Option (Int32 × hE) := (
  some (0, E))
set_option maxHeartbeats 4000000 in
set_option maxRecDepth 100000 in
theorem b_M_file_32 {p : Program} {l : Launch} {e : Env} {s : State} {m : MethodId} {args : Array Value} {below : List Frame} {meth : Method} {c : Code} {D : va_G} {kA : Nat → ClassId} {S : hE} {g : Nat → Nat} {n0 nx : Nat} {N : Nat} {res : Int32 × hE} (C : hX p s m args c prog_11_method_19_code 6 R_M ws_M_file D kA S g n0) (hr : meth.sig.returnType = (some .boolean)) (hlk : meth.locks = false) (hnm : meth.name = "file") : ∀  (E : hE) (H : Heap) (locs : List Loc) (ls : Array Slot), hY D kA n0 s E nx H locs → lv_has ls 6 [] → f_M_file_b32 N  E = some res → W p l e rm_M_file s m args below meth c H locs 0 0 (MQ below (va_Qi (fun r w => r = res.1 ∧ w = (res.2, nx)) (hJ D kA S g n0) (fun q => n0 ≤ q)) args s 0 0 (fun q => n0 ≤ q)) (F0 m 32 ls []) := by
  intro E H locs ls M hl hf
  unfold f_M_file_b32 at hf
  refine lv_iconst (v := 0) C.x C.b dM_file_32 (by decide) ?_
  cases hf
  exact w_iret C M hr hlk rfl (Nat.le_refl _) (Nat.le_refl _) dM_file_33 rfl rfl
def f_M_file (N : Nat) (x0 : Nat) (x1 : Int32) (x2 : Int64) (x4 : Int32) (E : hE) : Option (Int32 × hE) := (
  (f_M_isFile E x1).bind fun v1 =>
  if v1 = 0 then (
  f_M_file_b32 N E
  ) else (
  (f_M_in E x4 1 8).bind fun v12 =>
  if v12 = 0 then (
  f_M_file_b32 N E
  ) else (
  (gR E (some x0) 7 13).bind fun v19 =>
  (aI E v19 0 x1).bind fun v23 =>
  if (v23 + x4) ≤ 40 then (
  f_M_file_b40 N N (some x0) x1 x2 (x4 - 1) E
  ) else (
  f_M_file_b32 N E
  )
  )
  ))
set_option maxHeartbeats 4000000 in
set_option maxRecDepth 100000 in
theorem c_M_file {l : Launch} {D : va_G} {kA : Nat → ClassId} {S : hE} {g : Nat → Nat} {n0 nx : Nat} {N : Nat} {x0 : Nat} {x1 : Int32} {x2 : Int64} {x4 : Int32} {E : hE} {res : Int32 × hE} (hf : f_M_file N x0 x1 x2 x4 E = some res) : Met l y_M_file ws_M_file rm_M_file (va_Pc [va_rf (some x0), .int x1, .long x2, .int x4] (hJ D kA S g n0 (E, nx))) (va_Qi (fun r w => r = res.1 ∧ w = (res.2, nx)) (hJ D kA S g n0) (fun q => n0 ≤ q)) 0 0 (fun q => n0 ≤ q) := by
  refine h_met (cc := prog_11_method_19_code) (maxL := 6) (ret := (some .boolean)) (lvs := [(0, va_rf (some x0)), (1, .int x1), (2, .long x2), (4, .int x4)]) zZ_k (by decide) rfl (by simp [lg_sl, va_rf_cat, cat_i, cat_l, cat_n]) (by simp [lv_args, va_rf_cat, cat_i, cat_l, cat_n]) ?_
  intro p e s m below meth c ls C M hr hlk hnm hl
  unfold f_M_file at hf
  refine lv_iload_n C.x C.b dM_file_0 rfl (lv_at hl 1 rfl) ?_
  obtain ⟨v1, h1, hf⟩ := Option.bind_eq_some_iff.mp hf
  refine w_ci M (w_runS C M (c_M_isFile h1) (cwS 1 C.ts (hgS wm_926 wm_927 wm_6 wm_928) rfl rfl rfl (by decide +kernel) ⟨Nat.le_of_ble_eq_true rfl, Nat.le_of_ble_eq_true rfl⟩) rfl hl.1 rfl (Nat.zero_le _) dM_file_1 ⟨Nat.le_refl _, Nat.le_refl _⟩) (fun H locs M => ?_)
  refine lv_if_eq (tgt := 32) C.x C.b dM_file_4 (by decide) (fun c4 => ?_) (fun c4 => ?_)
  · rw [if_pos c4] at hf
    exact b_M_file_32 C hr hlk hnm _ _ _ _ M (lv_sub hl [] rfl) hf
  · rw [if_neg c4] at hf
    refine lv_iload C.x C.b dM_file_7 (lv_at hl 3 rfl) ?_
    refine lv_iconst (v := 1) C.x C.b dM_file_9 (by decide) ?_
    refine lv_bipush (v := 8) C.x C.b dM_file_10 (by decide) ?_
    obtain ⟨v12, h12, hf⟩ := Option.bind_eq_some_iff.mp hf
    refine w_ci M (w_runS C M (c_M_in h12) (cwS 3 C.ts (hgS wm_829 wm_830 wm_6 wm_831) rfl rfl rfl (by decide +kernel) ⟨Nat.le_of_ble_eq_true rfl, Nat.le_of_ble_eq_true rfl⟩) rfl hl.1 rfl (Nat.zero_le _) dM_file_12 ⟨Nat.le_refl _, Nat.le_refl _⟩) (fun H locs M => ?_)
    refine lv_if_eq (tgt := 32) C.x C.b dM_file_15 (by decide) (fun c15 => ?_) (fun c15 => ?_)
    · rw [if_pos c15] at hf
      exact b_M_file_32 C hr hlk hnm _ _ _ _ M (lv_sub hl [] rfl) hf
    · rw [if_neg c15] at hf
      refine w_aload_n C.x C.b dM_file_18 rfl (lv_at hl 0 rfl) ?_
      obtain ⟨v19, h19, hf⟩ := Option.bind_eq_some_iff.mp hf
      refine w_getR C M h19 rfl (hm_in in_M) (by decide) (List.mem_cons_of_mem _ wm_736) rfl dM_file_19 ?_
      refine lv_iload_n C.x C.b dM_file_22 rfl (lv_at hl 1 rfl) ?_
      obtain ⟨v23, h23, hf⟩ := Option.bind_eq_some_iff.mp hf
      refine w_iald C M h23 rfl dM_file_23 ?_
      refine lv_iload C.x C.b dM_file_24 (lv_at hl 3 rfl) ?_
      refine lv_iadd C.x C.b dM_file_26 ?_
      refine lv_bipush (v := 40) C.x C.b dM_file_27 (by decide) ?_
      refine lv_icmp_le (tgt := 34) C.x C.b dM_file_29 (by decide) (fun c29 => ?_) (fun c29 => ?_)
      · rw [if_pos c29] at hf
        refine lv_iload C.x C.b dM_file_34 (lv_at hl 3 rfl) ?_
        refine lv_iconst (v := 1) C.x C.b dM_file_36 (by decide) ?_
        refine lv_isub C.x C.b dM_file_37 ?_
        refine lv_istore (lv' := [(5, .int (x4 - 1)), (0, va_rf (some x0)), (1, .int x1), (2, .long x2), (4, .int x4)]) C.x C.b dM_file_38 hl (by decide) rfl (fun ls hl => ?_)
        exact b_M_file_40 C hr hlk hnm N _ _ _ _ _ _ _ _ M (lv_sub hl [1, 2, 3, 0] rfl) hf
      · rw [if_neg c29] at hf
        exact b_M_file_32 C hr hlk hnm _ _ _ _ M (lv_sub hl [] rfl) hf
theorem dM_clear_0 : decode prog_11_method_21_code 0 = .ok (.iload_n 1, 1) := by decide +kernel
theorem dM_clear_1 : decode prog_11_method_21_code 1 = .ok (.invokestatic 206, 3) := by decide +kernel
theorem dM_clear_4 : decode prog_11_method_21_code 4 = .ok (.ifCond .ne 5, 3) := by decide +kernel
theorem dM_clear_7 : decode prog_11_method_21_code 7 = .ok (.iconst 0, 1) := by decide +kernel
theorem dM_clear_8 : decode prog_11_method_21_code 8 = .ok (.ireturn, 1) := by decide +kernel
theorem dM_clear_9 : decode prog_11_method_21_code 9 = .ok (.aload_n 0, 1) := by decide +kernel
theorem dM_clear_10 : decode prog_11_method_21_code 10 = .ok (.getfield 42, 3) := by decide +kernel
theorem dM_clear_13 : decode prog_11_method_21_code 13 = .ok (.iload_n 1, 1) := by decide +kernel
theorem dM_clear_14 : decode prog_11_method_21_code 14 = .ok (.iload_n 2, 1) := by decide +kernel
theorem dM_clear_15 : decode prog_11_method_21_code 15 = .ok (.bastore, 1) := by decide +kernel
theorem dM_clear_16 : decode prog_11_method_21_code 16 = .ok (.aload_n 0, 1) := by decide +kernel
theorem dM_clear_17 : decode prog_11_method_21_code 17 = .ok (.getfield 45, 3) := by decide +kernel
theorem dM_clear_20 : decode prog_11_method_21_code 20 = .ok (.iload_n 1, 1) := by decide +kernel
theorem dM_clear_21 : decode prog_11_method_21_code 21 = .ok (.iconst 0, 1) := by decide +kernel
theorem dM_clear_22 : decode prog_11_method_21_code 22 = .ok (.iastore, 1) := by decide +kernel
theorem dM_clear_23 : decode prog_11_method_21_code 23 = .ok (.iconst 1, 1) := by decide +kernel
theorem dM_clear_24 : decode prog_11_method_21_code 24 = .ok (.ireturn, 1) := by decide +kernel
abbrev rm_M_clear : Room := { frames := 2, cells := 0, slots := 0, locals := 42 }
def f_M_clear  (x0 : Nat) (x1 : Int32) (x2 : Int32) (E : hE) : Option (Int32 × hE) := (
  (f_M_isFile E x1).bind fun v1 =>
  if v1 = 0 then (
  some (0, E)
  ) else (
  (gR E (some x0) 7 12).bind fun v10 =>
  (tZ E v10 1 x1 x2).bind fun E15 =>
  (gR E15 (some x0) 7 13).bind fun v17 =>
  (tI E15 v17 0 x1 0).bind fun E22 =>
  some (1, E22)
  ))
set_option maxHeartbeats 4000000 in
set_option maxRecDepth 100000 in
theorem c_M_clear {l : Launch} {D : va_G} {kA : Nat → ClassId} {S : hE} {g : Nat → Nat} {n0 nx : Nat} {x0 : Nat} {x1 : Int32} {x2 : Int32} {E : hE} {res : Int32 × hE} (hf : f_M_clear x0 x1 x2 E = some res) : Met l y_M_clear ws_M_clear rm_M_clear (va_Pc [va_rf (some x0), .int x1, .int x2] (hJ D kA S g n0 (E, nx))) (va_Qi (fun r w => r = res.1 ∧ w = (res.2, nx)) (hJ D kA S g n0) (fun q => n0 ≤ q)) 0 0 (fun q => n0 ≤ q) := by
  refine h_met (cc := prog_11_method_21_code) (maxL := 3) (ret := (some .boolean)) (lvs := [(0, va_rf (some x0)), (1, .int x1), (2, .int x2)]) zZ_k (by decide) rfl (by simp [lg_sl, va_rf_cat, cat_i, cat_l, cat_n]) (by simp [lv_args, va_rf_cat, cat_i, cat_l, cat_n]) ?_
  intro p e s m below meth c ls C M hr hlk hnm hl
  unfold f_M_clear at hf
  refine lv_iload_n C.x C.b dM_clear_0 rfl (lv_at hl 1 rfl) ?_
  obtain ⟨v1, h1, hf⟩ := Option.bind_eq_some_iff.mp hf
  refine w_ci M (w_runS C M (c_M_isFile h1) (cwS 1 C.ts (hgS wm_926 wm_927 wm_6 wm_928) rfl rfl rfl (by decide +kernel) ⟨Nat.le_of_ble_eq_true rfl, Nat.le_of_ble_eq_true rfl⟩) rfl hl.1 rfl (Nat.zero_le _) dM_clear_1 ⟨Nat.le_refl _, Nat.le_refl _⟩) (fun H locs M => ?_)
  refine lv_if_ne (tgt := 9) C.x C.b dM_clear_4 (by decide) (fun c4 => ?_) (fun c4 => ?_)
  · rw [if_neg c4] at hf
    refine w_aload_n C.x C.b dM_clear_9 rfl (lv_at hl 0 rfl) ?_
    obtain ⟨v10, h10, hf⟩ := Option.bind_eq_some_iff.mp hf
    refine w_getR C M h10 rfl (hm_in in_M) (by decide) (List.mem_cons_of_mem _ wm_735) rfl dM_clear_10 ?_
    refine lv_iload_n C.x C.b dM_clear_13 rfl (lv_at hl 1 rfl) ?_
    refine lv_iload_n C.x C.b dM_clear_14 rfl (lv_at hl 2 rfl) ?_
    obtain ⟨E15, h15, hf⟩ := Option.bind_eq_some_iff.mp hf
    refine w_zast C M h15 rfl dM_clear_15 (fun H locs M => ?_)
    refine w_aload_n C.x C.b dM_clear_16 rfl (lv_at hl 0 rfl) ?_
    obtain ⟨v17, h17, hf⟩ := Option.bind_eq_some_iff.mp hf
    refine w_getR C M h17 rfl (hm_in in_M) (by decide) (List.mem_cons_of_mem _ wm_736) rfl dM_clear_17 ?_
    refine lv_iload_n C.x C.b dM_clear_20 rfl (lv_at hl 1 rfl) ?_
    refine lv_iconst (v := 0) C.x C.b dM_clear_21 (by decide) ?_
    obtain ⟨E22, h22, hf⟩ := Option.bind_eq_some_iff.mp hf
    refine w_iast C M h22 rfl dM_clear_22 (fun H locs M => ?_)
    refine lv_iconst (v := 1) C.x C.b dM_clear_23 (by decide) ?_
    cases hf
    exact w_iret C M hr hlk rfl (Nat.le_refl _) (Nat.le_refl _) dM_clear_24 rfl rfl
  · rw [if_pos c4] at hf
    refine lv_iconst (v := 0) C.x C.b dM_clear_7 (by decide) ?_
    cases hf
    exact w_iret C M hr hlk rfl (Nat.le_refl _) (Nat.le_refl _) dM_clear_8 rfl rfl
theorem dM_plant_0 : decode prog_11_method_22_code 0 = .ok (.iload_n 1, 1) := by decide +kernel
theorem dM_plant_1 : decode prog_11_method_22_code 1 = .ok (.iconst 0, 1) := by decide +kernel
theorem dM_plant_2 : decode prog_11_method_22_code 2 = .ok (.iconst 2, 1) := by decide +kernel
theorem dM_plant_3 : decode prog_11_method_22_code 3 = .ok (.invokestatic 83, 3) := by decide +kernel
theorem dM_plant_6 : decode prog_11_method_22_code 6 = .ok (.ifCond .ne 5, 3) := by decide +kernel
theorem dM_plant_9 : decode prog_11_method_22_code 9 = .ok (.iconst 0, 1) := by decide +kernel
theorem dM_plant_10 : decode prog_11_method_22_code 10 = .ok (.ireturn, 1) := by decide +kernel
theorem dM_plant_11 : decode prog_11_method_22_code 11 = .ok (.aload_n 0, 1) := by decide +kernel
theorem dM_plant_12 : decode prog_11_method_22_code 12 = .ok (.getfield 51, 3) := by decide +kernel
theorem dM_plant_15 : decode prog_11_method_22_code 15 = .ok (.iload_n 1, 1) := by decide +kernel
theorem dM_plant_16 : decode prog_11_method_22_code 16 = .ok (.iload_n 2, 1) := by decide +kernel
theorem dM_plant_17 : decode prog_11_method_22_code 17 = .ok (.bastore, 1) := by decide +kernel
theorem dM_plant_18 : decode prog_11_method_22_code 18 = .ok (.iconst 1, 1) := by decide +kernel
theorem dM_plant_19 : decode prog_11_method_22_code 19 = .ok (.ireturn, 1) := by decide +kernel
abbrev rm_M_plant : Room := { frames := 1, cells := 0, slots := 0, locals := 22 }
def f_M_plant  (x0 : Nat) (x1 : Int32) (x2 : Int32) (E : hE) : Option (Int32 × hE) := (
  (f_M_in E x1 0 2).bind fun v3 =>
  if v3 = 0 then (
  some (0, E)
  ) else (
  (gR E (some x0) 7 15).bind fun v12 =>
  (tZ E v12 1 x1 x2).bind fun E17 =>
  some (1, E17)
  ))
set_option maxHeartbeats 4000000 in
set_option maxRecDepth 100000 in
theorem c_M_plant {l : Launch} {D : va_G} {kA : Nat → ClassId} {S : hE} {g : Nat → Nat} {n0 nx : Nat} {x0 : Nat} {x1 : Int32} {x2 : Int32} {E : hE} {res : Int32 × hE} (hf : f_M_plant x0 x1 x2 E = some res) : Met l y_M_plant ws_M_plant rm_M_plant (va_Pc [va_rf (some x0), .int x1, .int x2] (hJ D kA S g n0 (E, nx))) (va_Qi (fun r w => r = res.1 ∧ w = (res.2, nx)) (hJ D kA S g n0) (fun q => n0 ≤ q)) 0 0 (fun q => n0 ≤ q) := by
  refine h_met (cc := prog_11_method_22_code) (maxL := 3) (ret := (some .boolean)) (lvs := [(0, va_rf (some x0)), (1, .int x1), (2, .int x2)]) zZ_k (by decide) rfl (by simp [lg_sl, va_rf_cat, cat_i, cat_l, cat_n]) (by simp [lv_args, va_rf_cat, cat_i, cat_l, cat_n]) ?_
  intro p e s m below meth c ls C M hr hlk hnm hl
  unfold f_M_plant at hf
  refine lv_iload_n C.x C.b dM_plant_0 rfl (lv_at hl 1 rfl) ?_
  refine lv_iconst (v := 0) C.x C.b dM_plant_1 (by decide) ?_
  refine lv_iconst (v := 2) C.x C.b dM_plant_2 (by decide) ?_
  obtain ⟨v3, h3, hf⟩ := Option.bind_eq_some_iff.mp hf
  refine w_ci M (w_runS C M (c_M_in h3) (cwS 3 C.ts (hgS wm_829 wm_830 wm_6 wm_831) rfl rfl rfl (by decide +kernel) ⟨Nat.le_of_ble_eq_true rfl, Nat.le_of_ble_eq_true rfl⟩) rfl hl.1 rfl (Nat.zero_le _) dM_plant_3 ⟨Nat.le_refl _, Nat.le_refl _⟩) (fun H locs M => ?_)
  refine lv_if_ne (tgt := 11) C.x C.b dM_plant_6 (by decide) (fun c6 => ?_) (fun c6 => ?_)
  · rw [if_neg c6] at hf
    refine w_aload_n C.x C.b dM_plant_11 rfl (lv_at hl 0 rfl) ?_
    obtain ⟨v12, h12, hf⟩ := Option.bind_eq_some_iff.mp hf
    refine w_getR C M h12 rfl (hm_in in_M) (by decide) (List.mem_cons_of_mem _ wm_738) rfl dM_plant_12 ?_
    refine lv_iload_n C.x C.b dM_plant_15 rfl (lv_at hl 1 rfl) ?_
    refine lv_iload_n C.x C.b dM_plant_16 rfl (lv_at hl 2 rfl) ?_
    obtain ⟨E17, h17, hf⟩ := Option.bind_eq_some_iff.mp hf
    refine w_zast C M h17 rfl dM_plant_17 (fun H locs M => ?_)
    refine lv_iconst (v := 1) C.x C.b dM_plant_18 (by decide) ?_
    cases hf
    exact w_iret C M hr hlk rfl (Nat.le_refl _) (Nat.le_refl _) dM_plant_19 rfl rfl
  · rw [if_pos c6] at hf
    refine lv_iconst (v := 0) C.x C.b dM_plant_9 (by decide) ?_
    cases hf
    exact w_iret C M hr hlk rfl (Nat.le_refl _) (Nat.le_refl _) dM_plant_10 rfl rfl
theorem dM_isProgram_0 : decode prog_11_method_23_code 0 = .ok (.iload_n 1, 1) := by decide +kernel
theorem dM_isProgram_1 : decode prog_11_method_23_code 1 = .ok (.iconst 0, 1) := by decide +kernel
theorem dM_isProgram_2 : decode prog_11_method_23_code 2 = .ok (.iconst 3, 1) := by decide +kernel
theorem dM_isProgram_3 : decode prog_11_method_23_code 3 = .ok (.invokestatic 83, 3) := by decide +kernel
theorem dM_isProgram_6 : decode prog_11_method_23_code 6 = .ok (.ifCond .eq 16, 3) := by decide +kernel
theorem dM_isProgram_9 : decode prog_11_method_23_code 9 = .ok (.aload_n 0, 1) := by decide +kernel
theorem dM_isProgram_10 : decode prog_11_method_23_code 10 = .ok (.getfield 25, 3) := by decide +kernel
theorem dM_isProgram_13 : decode prog_11_method_23_code 13 = .ok (.iload_n 1, 1) := by decide +kernel
theorem dM_isProgram_14 : decode prog_11_method_23_code 14 = .ok (.baload, 1) := by decide +kernel
theorem dM_isProgram_15 : decode prog_11_method_23_code 15 = .ok (.ifCond .eq 7, 3) := by decide +kernel
theorem dM_isProgram_18 : decode prog_11_method_23_code 18 = .ok (.iconst 1, 1) := by decide +kernel
theorem dM_isProgram_19 : decode prog_11_method_23_code 19 = .ok (.goto 4, 3) := by decide +kernel
theorem dM_isProgram_22 : decode prog_11_method_23_code 22 = .ok (.iconst 0, 1) := by decide +kernel
theorem dM_isProgram_23 : decode prog_11_method_23_code 23 = .ok (.ireturn, 1) := by decide +kernel
abbrev rm_M_isProgram : Room := { frames := 1, cells := 0, slots := 0, locals := 22 }
def f_M_isProgram_b23 (E : hE) (t0 : Int32) : Option (Int32) := (
  (bZ t0).bind fun v23 =>
  some v23)
set_option maxHeartbeats 4000000 in
set_option maxRecDepth 100000 in
theorem b_M_isProgram_23 {p : Program} {l : Launch} {e : Env} {s : State} {m : MethodId} {args : Array Value} {below : List Frame} {meth : Method} {c : Code} {D : va_G} {kA : Nat → ClassId} {S : hE} {g : Nat → Nat} {n0 nx : Nat} {E : hE} {res : Int32} (C : hX p s m args c prog_11_method_23_code 2 R_M ws_M_isProgram D kA S g n0) (hr : meth.sig.returnType = (some .boolean)) (hlk : meth.locks = false) (hnm : meth.name = "isProgram") : ∀ (t0 : Int32) (H : Heap) (locs : List Loc) (ls : Array Slot), hY D kA n0 s E nx H locs → lv_has ls 2 [] → f_M_isProgram_b23 E  t0 = some res → W p l e rm_M_isProgram s m args below meth c H locs 0 0 (MQ below (va_Qi (fun r w => r = res ∧ w = (E, nx)) (hJ D kA S g n0) (fun q => n0 ≤ q)) args s 0 0 (fun q => n0 ≤ q)) (F0 m 23 ls [.int t0]) := by
  intro t0 H locs ls M hl hf
  unfold f_M_isProgram_b23 at hf
  obtain ⟨v23, h23, hf⟩ := Option.bind_eq_some_iff.mp hf
  obtain ⟨rfl, g23⟩ := bZ_some h23
  cases hf
  exact w_iret C M hr hlk (narrow_z g23) (Nat.le_refl _) (Nat.le_refl _) dM_isProgram_23 rfl rfl
def f_M_isProgram_b22 (E : hE) : Option (Int32) := (
  f_M_isProgram_b23 E 0)
set_option maxHeartbeats 4000000 in
set_option maxRecDepth 100000 in
theorem b_M_isProgram_22 {p : Program} {l : Launch} {e : Env} {s : State} {m : MethodId} {args : Array Value} {below : List Frame} {meth : Method} {c : Code} {D : va_G} {kA : Nat → ClassId} {S : hE} {g : Nat → Nat} {n0 nx : Nat} {E : hE} {res : Int32} (C : hX p s m args c prog_11_method_23_code 2 R_M ws_M_isProgram D kA S g n0) (hr : meth.sig.returnType = (some .boolean)) (hlk : meth.locks = false) (hnm : meth.name = "isProgram") : ∀  (H : Heap) (locs : List Loc) (ls : Array Slot), hY D kA n0 s E nx H locs → lv_has ls 2 [] → f_M_isProgram_b22 E   = some res → W p l e rm_M_isProgram s m args below meth c H locs 0 0 (MQ below (va_Qi (fun r w => r = res ∧ w = (E, nx)) (hJ D kA S g n0) (fun q => n0 ≤ q)) args s 0 0 (fun q => n0 ≤ q)) (F0 m 22 ls []) := by
  intro  H locs ls M hl hf
  unfold f_M_isProgram_b22 at hf
  refine lv_iconst (v := 0) C.x C.b dM_isProgram_22 (by decide) ?_
  exact b_M_isProgram_23 C hr hlk hnm _ _ _ _ M (lv_sub hl [] rfl) hf
def f_M_isProgram (E : hE) (x0 : Nat) (x1 : Int32) : Option (Int32) := (
  (f_M_in E x1 0 3).bind fun v3 =>
  if v3 = 0 then (
  f_M_isProgram_b22 E 
  ) else (
  (gR E (some x0) 7 6).bind fun v10 =>
  (aI E v10 1 x1).bind fun v14 =>
  if v14 = 0 then (
  f_M_isProgram_b22 E 
  ) else (
  f_M_isProgram_b23 E 1
  )
  ))
set_option maxHeartbeats 4000000 in
set_option maxRecDepth 100000 in
theorem c_M_isProgram {l : Launch} {D : va_G} {kA : Nat → ClassId} {S : hE} {g : Nat → Nat} {n0 nx : Nat} {x0 : Nat} {x1 : Int32} {E : hE} {res : Int32} (hf : f_M_isProgram E x0 x1 = some res) : Met l y_M_isProgram ws_M_isProgram rm_M_isProgram (va_Pc [va_rf (some x0), .int x1] (hJ D kA S g n0 (E, nx))) (va_Qi (fun r w => r = res ∧ w = (E, nx)) (hJ D kA S g n0) (fun q => n0 ≤ q)) 0 0 (fun q => n0 ≤ q) := by
  refine h_met (cc := prog_11_method_23_code) (maxL := 2) (ret := (some .boolean)) (lvs := [(0, va_rf (some x0)), (1, .int x1)]) zZ_k (by decide) rfl (by simp [lg_sl, va_rf_cat, cat_i, cat_l, cat_n]) (by simp [lv_args, va_rf_cat, cat_i, cat_l, cat_n]) ?_
  intro p e s m below meth c ls C M hr hlk hnm hl
  unfold f_M_isProgram at hf
  refine lv_iload_n C.x C.b dM_isProgram_0 rfl (lv_at hl 1 rfl) ?_
  refine lv_iconst (v := 0) C.x C.b dM_isProgram_1 (by decide) ?_
  refine lv_iconst (v := 3) C.x C.b dM_isProgram_2 (by decide) ?_
  obtain ⟨v3, h3, hf⟩ := Option.bind_eq_some_iff.mp hf
  refine w_ci M (w_runS C M (c_M_in h3) (cwS 3 C.ts (hgS wm_829 wm_830 wm_6 wm_831) rfl rfl rfl (by decide +kernel) ⟨Nat.le_of_ble_eq_true rfl, Nat.le_of_ble_eq_true rfl⟩) rfl hl.1 rfl (Nat.zero_le _) dM_isProgram_3 ⟨Nat.le_refl _, Nat.le_refl _⟩) (fun H locs M => ?_)
  refine lv_if_eq (tgt := 22) C.x C.b dM_isProgram_6 (by decide) (fun c6 => ?_) (fun c6 => ?_)
  · rw [if_pos c6] at hf
    exact b_M_isProgram_22 C hr hlk hnm _ _ _ M (lv_sub hl [] rfl) hf
  · rw [if_neg c6] at hf
    refine w_aload_n C.x C.b dM_isProgram_9 rfl (lv_at hl 0 rfl) ?_
    obtain ⟨v10, h10, hf⟩ := Option.bind_eq_some_iff.mp hf
    refine w_getR C M h10 rfl (hm_in in_M) (by decide) (List.mem_cons_of_mem _ wm_729) rfl dM_isProgram_10 ?_
    refine lv_iload_n C.x C.b dM_isProgram_13 rfl (lv_at hl 1 rfl) ?_
    obtain ⟨v14, h14, hf⟩ := Option.bind_eq_some_iff.mp hf
    refine w_zald C M h14 rfl dM_isProgram_14 ?_
    refine lv_if_eq (tgt := 22) C.x C.b dM_isProgram_15 (by decide) (fun c15 => ?_) (fun c15 => ?_)
    · rw [if_pos c15] at hf
      exact b_M_isProgram_22 C hr hlk hnm _ _ _ M (lv_sub hl [] rfl) hf
    · rw [if_neg c15] at hf
      refine lv_iconst (v := 1) C.x C.b dM_isProgram_18 (by decide) ?_
      refine lv_goto (tgt := 23) C.x C.b dM_isProgram_19 (by decide) ?_
      exact b_M_isProgram_23 C hr hlk hnm _ _ _ _ M (lv_sub hl [] rfl) hf
