/-! m01: by wip/whole/gen.py -/
theorem dM_isSign_0 : decode prog_11_method_12_code 0 = .ok (.aload_n 0, 1) := by decide +kernel
theorem dM_isSign_1 : decode prog_11_method_12_code 1 = .ok (.getfield 32, 3) := by decide +kernel
theorem dM_isSign_4 : decode prog_11_method_12_code 4 = .ok (.iload_n 1, 1) := by decide +kernel
theorem dM_isSign_5 : decode prog_11_method_12_code 5 = .ok (.laload, 1) := by decide +kernel
theorem dM_isSign_6 : decode prog_11_method_12_code 6 = .ok (.lstore_n 2, 1) := by decide +kernel
theorem dM_isSign_7 : decode prog_11_method_12_code 7 = .ok (.lload_n 2, 1) := by decide +kernel
theorem dM_isSign_8 : decode prog_11_method_12_code 8 = .ok (.ldc2_w 122, 3) := by decide +kernel
theorem dM_isSign_11 : decode prog_11_method_12_code 11 = .ok (.lcmp, 1) := by decide +kernel
theorem dM_isSign_12 : decode prog_11_method_12_code 12 = .ok (.ifCond .eq 75, 3) := by decide +kernel
theorem dM_isSign_15 : decode prog_11_method_12_code 15 = .ok (.lload_n 2, 1) := by decide +kernel
theorem dM_isSign_16 : decode prog_11_method_12_code 16 = .ok (.ldc2_w 124, 3) := by decide +kernel
theorem dM_isSign_19 : decode prog_11_method_12_code 19 = .ok (.lcmp, 1) := by decide +kernel
theorem dM_isSign_20 : decode prog_11_method_12_code 20 = .ok (.ifCond .eq 67, 3) := by decide +kernel
theorem dM_isSign_23 : decode prog_11_method_12_code 23 = .ok (.lload_n 2, 1) := by decide +kernel
theorem dM_isSign_24 : decode prog_11_method_12_code 24 = .ok (.ldc2_w 126, 3) := by decide +kernel
theorem dM_isSign_27 : decode prog_11_method_12_code 27 = .ok (.lcmp, 1) := by decide +kernel
theorem dM_isSign_28 : decode prog_11_method_12_code 28 = .ok (.ifCond .eq 59, 3) := by decide +kernel
theorem dM_isSign_31 : decode prog_11_method_12_code 31 = .ok (.lload_n 2, 1) := by decide +kernel
theorem dM_isSign_32 : decode prog_11_method_12_code 32 = .ok (.ldc2_w 128, 3) := by decide +kernel
theorem dM_isSign_35 : decode prog_11_method_12_code 35 = .ok (.lcmp, 1) := by decide +kernel
theorem dM_isSign_36 : decode prog_11_method_12_code 36 = .ok (.ifCond .eq 51, 3) := by decide +kernel
theorem dM_isSign_39 : decode prog_11_method_12_code 39 = .ok (.lload_n 2, 1) := by decide +kernel
theorem dM_isSign_40 : decode prog_11_method_12_code 40 = .ok (.ldc2_w 130, 3) := by decide +kernel
theorem dM_isSign_43 : decode prog_11_method_12_code 43 = .ok (.lcmp, 1) := by decide +kernel
theorem dM_isSign_44 : decode prog_11_method_12_code 44 = .ok (.ifCond .eq 43, 3) := by decide +kernel
theorem dM_isSign_47 : decode prog_11_method_12_code 47 = .ok (.lload_n 2, 1) := by decide +kernel
theorem dM_isSign_48 : decode prog_11_method_12_code 48 = .ok (.ldc2_w 132, 3) := by decide +kernel
theorem dM_isSign_51 : decode prog_11_method_12_code 51 = .ok (.lcmp, 1) := by decide +kernel
theorem dM_isSign_52 : decode prog_11_method_12_code 52 = .ok (.ifCond .eq 35, 3) := by decide +kernel
theorem dM_isSign_55 : decode prog_11_method_12_code 55 = .ok (.lload_n 2, 1) := by decide +kernel
theorem dM_isSign_56 : decode prog_11_method_12_code 56 = .ok (.ldc2_w 134, 3) := by decide +kernel
theorem dM_isSign_59 : decode prog_11_method_12_code 59 = .ok (.lcmp, 1) := by decide +kernel
theorem dM_isSign_60 : decode prog_11_method_12_code 60 = .ok (.ifCond .eq 27, 3) := by decide +kernel
theorem dM_isSign_63 : decode prog_11_method_12_code 63 = .ok (.lload_n 2, 1) := by decide +kernel
theorem dM_isSign_64 : decode prog_11_method_12_code 64 = .ok (.ldc2_w 136, 3) := by decide +kernel
theorem dM_isSign_67 : decode prog_11_method_12_code 67 = .ok (.lcmp, 1) := by decide +kernel
theorem dM_isSign_68 : decode prog_11_method_12_code 68 = .ok (.ifCond .eq 19, 3) := by decide +kernel
theorem dM_isSign_71 : decode prog_11_method_12_code 71 = .ok (.lload_n 2, 1) := by decide +kernel
theorem dM_isSign_72 : decode prog_11_method_12_code 72 = .ok (.ldc2_w 138, 3) := by decide +kernel
theorem dM_isSign_75 : decode prog_11_method_12_code 75 = .ok (.lcmp, 1) := by decide +kernel
theorem dM_isSign_76 : decode prog_11_method_12_code 76 = .ok (.ifCond .eq 11, 3) := by decide +kernel
theorem dM_isSign_79 : decode prog_11_method_12_code 79 = .ok (.lload_n 2, 1) := by decide +kernel
theorem dM_isSign_80 : decode prog_11_method_12_code 80 = .ok (.ldc2_w 140, 3) := by decide +kernel
theorem dM_isSign_83 : decode prog_11_method_12_code 83 = .ok (.lcmp, 1) := by decide +kernel
theorem dM_isSign_84 : decode prog_11_method_12_code 84 = .ok (.ifCond .ne 7, 3) := by decide +kernel
theorem dM_isSign_87 : decode prog_11_method_12_code 87 = .ok (.iconst 1, 1) := by decide +kernel
theorem dM_isSign_88 : decode prog_11_method_12_code 88 = .ok (.goto 4, 3) := by decide +kernel
theorem dM_isSign_91 : decode prog_11_method_12_code 91 = .ok (.iconst 0, 1) := by decide +kernel
theorem dM_isSign_92 : decode prog_11_method_12_code 92 = .ok (.ireturn, 1) := by decide +kernel
abbrev rm_M_isSign : Room := { frames := 0, cells := 0, slots := 0, locals := 0 }
def f_M_isSign_b92 (E : hE) (t0 : Int32) : Option (Int32) := (
  (bZ t0).bind fun v92 =>
  some v92)
set_option maxHeartbeats 4000000 in
set_option maxRecDepth 100000 in
theorem b_M_isSign_92 {p : Program} {l : Launch} {e : Env} {s : State} {m : MethodId} {args : Array Value} {below : List Frame} {meth : Method} {c : Code} {D : va_G} {kA : Nat → ClassId} {S : hE} {g : Nat → Nat} {n0 nx : Nat} {E : hE} {res : Int32} (C : hX p s m args c prog_11_method_12_code 4 R_M ws_M_isSign D kA S g n0) (hr : meth.sig.returnType = (some .boolean)) (hlk : meth.locks = false) (hnm : meth.name = "isSign") : ∀ (t0 : Int32) (H : Heap) (locs : List Loc) (ls : Array Slot), hY D kA n0 s E nx H locs → lv_has ls 4 [] → f_M_isSign_b92 E  t0 = some res → W p l e rm_M_isSign s m args below meth c H locs 0 0 (MQ below (va_Qi (fun r w => r = res ∧ w = (E, nx)) (hJ D kA S g n0) (fun q => n0 ≤ q)) args s 0 0 (fun q => n0 ≤ q)) (F0 m 92 ls [.int t0]) := by
  intro t0 H locs ls M hl hf
  unfold f_M_isSign_b92 at hf
  obtain ⟨v92, h92, hf⟩ := Option.bind_eq_some_iff.mp hf
  obtain ⟨rfl, g92⟩ := bZ_some h92
  cases hf
  exact w_iret C M hr hlk (narrow_z g92) (Nat.le_refl _) (Nat.le_refl _) dM_isSign_92 rfl rfl
def f_M_isSign_b87 (E : hE) : Option (Int32) := (
  f_M_isSign_b92 E 1)
set_option maxHeartbeats 4000000 in
set_option maxRecDepth 100000 in
theorem b_M_isSign_87 {p : Program} {l : Launch} {e : Env} {s : State} {m : MethodId} {args : Array Value} {below : List Frame} {meth : Method} {c : Code} {D : va_G} {kA : Nat → ClassId} {S : hE} {g : Nat → Nat} {n0 nx : Nat} {E : hE} {res : Int32} (C : hX p s m args c prog_11_method_12_code 4 R_M ws_M_isSign D kA S g n0) (hr : meth.sig.returnType = (some .boolean)) (hlk : meth.locks = false) (hnm : meth.name = "isSign") : ∀  (H : Heap) (locs : List Loc) (ls : Array Slot), hY D kA n0 s E nx H locs → lv_has ls 4 [] → f_M_isSign_b87 E   = some res → W p l e rm_M_isSign s m args below meth c H locs 0 0 (MQ below (va_Qi (fun r w => r = res ∧ w = (E, nx)) (hJ D kA S g n0) (fun q => n0 ≤ q)) args s 0 0 (fun q => n0 ≤ q)) (F0 m 87 ls []) := by
  intro  H locs ls M hl hf
  unfold f_M_isSign_b87 at hf
  refine lv_iconst (v := 1) C.x C.b dM_isSign_87 (by decide) ?_
  refine lv_goto (tgt := 92) C.x C.b dM_isSign_88 (by decide) ?_
  exact b_M_isSign_92 C hr hlk hnm _ _ _ _ M (lv_sub hl [] rfl) hf
def f_M_isSign (E : hE) (x0 : Nat) (x1 : Int32) : Option (Int32) := (
  (gR E (some x0) 7 9).bind fun v1 =>
  (aJ E v1 2 x1).bind fun v5 =>
  if (lg_cmp v5 43) = 0 then (
  f_M_isSign_b87 E 
  ) else (
  if (lg_cmp v5 45) = 0 then (
  f_M_isSign_b87 E 
  ) else (
  if (lg_cmp v5 42) = 0 then (
  f_M_isSign_b87 E 
  ) else (
  if (lg_cmp v5 47) = 0 then (
  f_M_isSign_b87 E 
  ) else (
  if (lg_cmp v5 37) = 0 then (
  f_M_isSign_b87 E 
  ) else (
  if (lg_cmp v5 38) = 0 then (
  f_M_isSign_b87 E 
  ) else (
  if (lg_cmp v5 124) = 0 then (
  f_M_isSign_b87 E 
  ) else (
  if (lg_cmp v5 94) = 0 then (
  f_M_isSign_b87 E 
  ) else (
  if (lg_cmp v5 60) = 0 then (
  f_M_isSign_b87 E 
  ) else (
  if (lg_cmp v5 61) = 0 then (
  f_M_isSign_b87 E 
  ) else (
  f_M_isSign_b92 E 0
  )
  )
  )
  )
  )
  )
  )
  )
  )
  ))
set_option maxHeartbeats 4000000 in
set_option maxRecDepth 100000 in
theorem c_M_isSign {l : Launch} {D : va_G} {kA : Nat → ClassId} {S : hE} {g : Nat → Nat} {n0 nx : Nat} {x0 : Nat} {x1 : Int32} {E : hE} {res : Int32} (hf : f_M_isSign E x0 x1 = some res) : Met l y_M_isSign ws_M_isSign rm_M_isSign (va_Pc [va_rf (some x0), .int x1] (hJ D kA S g n0 (E, nx))) (va_Qi (fun r w => r = res ∧ w = (E, nx)) (hJ D kA S g n0) (fun q => n0 ≤ q)) 0 0 (fun q => n0 ≤ q) := by
  refine h_met (cc := prog_11_method_12_code) (maxL := 4) (ret := (some .boolean)) (lvs := [(0, va_rf (some x0)), (1, .int x1)]) zZ_k (by decide) rfl (by simp [lg_sl, va_rf_cat, cat_i, cat_l, cat_n]) (by simp [lv_args, va_rf_cat, cat_i, cat_l, cat_n]) ?_
  intro p e s m below meth c ls C M hr hlk hnm hl
  unfold f_M_isSign at hf
  refine w_aload_n C.x C.b dM_isSign_0 rfl (lv_at hl 0 rfl) ?_
  obtain ⟨v1, h1, hf⟩ := Option.bind_eq_some_iff.mp hf
  refine w_getR C M h1 rfl (hm_in in_M) (by decide) (List.mem_cons_of_mem _ wm_732) rfl dM_isSign_1 ?_
  refine lv_iload_n C.x C.b dM_isSign_4 rfl (lv_at hl 1 rfl) ?_
  obtain ⟨v5, h5, hf⟩ := Option.bind_eq_some_iff.mp hf
  refine w_lald C M h5 rfl dM_isSign_5 ?_
  refine lv_lstore_n (lv' := [(2, .long v5), (0, va_rf (some x0)), (1, .int x1)]) C.x C.b dM_isSign_6 rfl hl (by decide) rfl (fun ls hl => ?_)
  refine lv_lload_n C.x C.b dM_isSign_7 rfl (lv_at hl 0 rfl) ?_
  refine lv_ldc2 (v := 43) C.x C.b C.ow (C.ts (.constantLong R_M 122 43) (List.mem_cons_of_mem _ wm_865)) dM_isSign_8 ?_
  refine W.lcmp C.x C.b dM_isSign_11 ?_
  refine lv_if_eq (tgt := 87) C.x C.b dM_isSign_12 (by decide) (fun c12 => ?_) (fun c12 => ?_)
  · rw [if_pos c12] at hf
    exact b_M_isSign_87 C hr hlk hnm _ _ _ M (lv_sub hl [] rfl) hf
  · rw [if_neg c12] at hf
    refine lv_lload_n C.x C.b dM_isSign_15 rfl (lv_at hl 0 rfl) ?_
    refine lv_ldc2 (v := 45) C.x C.b C.ow (C.ts (.constantLong R_M 124 45) (List.mem_cons_of_mem _ wm_866)) dM_isSign_16 ?_
    refine W.lcmp C.x C.b dM_isSign_19 ?_
    refine lv_if_eq (tgt := 87) C.x C.b dM_isSign_20 (by decide) (fun c20 => ?_) (fun c20 => ?_)
    · rw [if_pos c20] at hf
      exact b_M_isSign_87 C hr hlk hnm _ _ _ M (lv_sub hl [] rfl) hf
    · rw [if_neg c20] at hf
      refine lv_lload_n C.x C.b dM_isSign_23 rfl (lv_at hl 0 rfl) ?_
      refine lv_ldc2 (v := 42) C.x C.b C.ow (C.ts (.constantLong R_M 126 42) (List.mem_cons_of_mem _ wm_867)) dM_isSign_24 ?_
      refine W.lcmp C.x C.b dM_isSign_27 ?_
      refine lv_if_eq (tgt := 87) C.x C.b dM_isSign_28 (by decide) (fun c28 => ?_) (fun c28 => ?_)
      · rw [if_pos c28] at hf
        exact b_M_isSign_87 C hr hlk hnm _ _ _ M (lv_sub hl [] rfl) hf
      · rw [if_neg c28] at hf
        refine lv_lload_n C.x C.b dM_isSign_31 rfl (lv_at hl 0 rfl) ?_
        refine lv_ldc2 (v := 47) C.x C.b C.ow (C.ts (.constantLong R_M 128 47) (List.mem_cons_of_mem _ wm_868)) dM_isSign_32 ?_
        refine W.lcmp C.x C.b dM_isSign_35 ?_
        refine lv_if_eq (tgt := 87) C.x C.b dM_isSign_36 (by decide) (fun c36 => ?_) (fun c36 => ?_)
        · rw [if_pos c36] at hf
          exact b_M_isSign_87 C hr hlk hnm _ _ _ M (lv_sub hl [] rfl) hf
        · rw [if_neg c36] at hf
          refine lv_lload_n C.x C.b dM_isSign_39 rfl (lv_at hl 0 rfl) ?_
          refine lv_ldc2 (v := 37) C.x C.b C.ow (C.ts (.constantLong R_M 130 37) (List.mem_cons_of_mem _ wm_869)) dM_isSign_40 ?_
          refine W.lcmp C.x C.b dM_isSign_43 ?_
          refine lv_if_eq (tgt := 87) C.x C.b dM_isSign_44 (by decide) (fun c44 => ?_) (fun c44 => ?_)
          · rw [if_pos c44] at hf
            exact b_M_isSign_87 C hr hlk hnm _ _ _ M (lv_sub hl [] rfl) hf
          · rw [if_neg c44] at hf
            refine lv_lload_n C.x C.b dM_isSign_47 rfl (lv_at hl 0 rfl) ?_
            refine lv_ldc2 (v := 38) C.x C.b C.ow (C.ts (.constantLong R_M 132 38) (List.mem_cons_of_mem _ wm_870)) dM_isSign_48 ?_
            refine W.lcmp C.x C.b dM_isSign_51 ?_
            refine lv_if_eq (tgt := 87) C.x C.b dM_isSign_52 (by decide) (fun c52 => ?_) (fun c52 => ?_)
            · rw [if_pos c52] at hf
              exact b_M_isSign_87 C hr hlk hnm _ _ _ M (lv_sub hl [] rfl) hf
            · rw [if_neg c52] at hf
              refine lv_lload_n C.x C.b dM_isSign_55 rfl (lv_at hl 0 rfl) ?_
              refine lv_ldc2 (v := 124) C.x C.b C.ow (C.ts (.constantLong R_M 134 124) (List.mem_cons_of_mem _ wm_871)) dM_isSign_56 ?_
              refine W.lcmp C.x C.b dM_isSign_59 ?_
              refine lv_if_eq (tgt := 87) C.x C.b dM_isSign_60 (by decide) (fun c60 => ?_) (fun c60 => ?_)
              · rw [if_pos c60] at hf
                exact b_M_isSign_87 C hr hlk hnm _ _ _ M (lv_sub hl [] rfl) hf
              · rw [if_neg c60] at hf
                refine lv_lload_n C.x C.b dM_isSign_63 rfl (lv_at hl 0 rfl) ?_
                refine lv_ldc2 (v := 94) C.x C.b C.ow (C.ts (.constantLong R_M 136 94) (List.mem_cons_of_mem _ wm_872)) dM_isSign_64 ?_
                refine W.lcmp C.x C.b dM_isSign_67 ?_
                refine lv_if_eq (tgt := 87) C.x C.b dM_isSign_68 (by decide) (fun c68 => ?_) (fun c68 => ?_)
                · rw [if_pos c68] at hf
                  exact b_M_isSign_87 C hr hlk hnm _ _ _ M (lv_sub hl [] rfl) hf
                · rw [if_neg c68] at hf
                  refine lv_lload_n C.x C.b dM_isSign_71 rfl (lv_at hl 0 rfl) ?_
                  refine lv_ldc2 (v := 60) C.x C.b C.ow (C.ts (.constantLong R_M 138 60) (List.mem_cons_of_mem _ wm_873)) dM_isSign_72 ?_
                  refine W.lcmp C.x C.b dM_isSign_75 ?_
                  refine lv_if_eq (tgt := 87) C.x C.b dM_isSign_76 (by decide) (fun c76 => ?_) (fun c76 => ?_)
                  · rw [if_pos c76] at hf
                    exact b_M_isSign_87 C hr hlk hnm _ _ _ M (lv_sub hl [] rfl) hf
                  · rw [if_neg c76] at hf
                    refine lv_lload_n C.x C.b dM_isSign_79 rfl (lv_at hl 0 rfl) ?_
                    refine lv_ldc2 (v := 61) C.x C.b C.ow (C.ts (.constantLong R_M 140 61) (List.mem_cons_of_mem _ wm_874)) dM_isSign_80 ?_
                    refine W.lcmp C.x C.b dM_isSign_83 ?_
                    refine lv_if_ne (tgt := 91) C.x C.b dM_isSign_84 (by decide) (fun c84 => ?_) (fun c84 => ?_)
                    · rw [if_neg c84] at hf
                      refine lv_iconst (v := 0) C.x C.b dM_isSign_91 (by decide) ?_
                      exact b_M_isSign_92 C hr hlk hnm _ _ _ _ M (lv_sub hl [] rfl) hf
                    · rw [if_pos c84] at hf
                      exact b_M_isSign_87 C hr hlk hnm _ _ _ M (lv_sub hl [] rfl) hf
theorem dM_isRegister_0 : decode prog_11_method_8_code 0 = .ok (.aload_n 0, 1) := by decide +kernel
theorem dM_isRegister_1 : decode prog_11_method_8_code 1 = .ok (.getfield 32, 3) := by decide +kernel
theorem dM_isRegister_4 : decode prog_11_method_8_code 4 = .ok (.iload_n 1, 1) := by decide +kernel
theorem dM_isRegister_5 : decode prog_11_method_8_code 5 = .ok (.laload, 1) := by decide +kernel
theorem dM_isRegister_6 : decode prog_11_method_8_code 6 = .ok (.ldc2_w 107, 3) := by decide +kernel
theorem dM_isRegister_9 : decode prog_11_method_8_code 9 = .ok (.lcmp, 1) := by decide +kernel
theorem dM_isRegister_10 : decode prog_11_method_8_code 10 = .ok (.ifCond .lt 20, 3) := by decide +kernel
theorem dM_isRegister_13 : decode prog_11_method_8_code 13 = .ok (.aload_n 0, 1) := by decide +kernel
theorem dM_isRegister_14 : decode prog_11_method_8_code 14 = .ok (.getfield 32, 3) := by decide +kernel
theorem dM_isRegister_17 : decode prog_11_method_8_code 17 = .ok (.iload_n 1, 1) := by decide +kernel
theorem dM_isRegister_18 : decode prog_11_method_8_code 18 = .ok (.laload, 1) := by decide +kernel
theorem dM_isRegister_19 : decode prog_11_method_8_code 19 = .ok (.ldc2_w 109, 3) := by decide +kernel
theorem dM_isRegister_22 : decode prog_11_method_8_code 22 = .ok (.lcmp, 1) := by decide +kernel
theorem dM_isRegister_23 : decode prog_11_method_8_code 23 = .ok (.ifCond .gt 7, 3) := by decide +kernel
theorem dM_isRegister_26 : decode prog_11_method_8_code 26 = .ok (.iconst 1, 1) := by decide +kernel
theorem dM_isRegister_27 : decode prog_11_method_8_code 27 = .ok (.goto 4, 3) := by decide +kernel
theorem dM_isRegister_30 : decode prog_11_method_8_code 30 = .ok (.iconst 0, 1) := by decide +kernel
theorem dM_isRegister_31 : decode prog_11_method_8_code 31 = .ok (.ireturn, 1) := by decide +kernel
abbrev rm_M_isRegister : Room := { frames := 0, cells := 0, slots := 0, locals := 0 }
def f_M_isRegister_b31 (E : hE) (t0 : Int32) : Option (Int32) := (
  (bZ t0).bind fun v31 =>
  some v31)
set_option maxHeartbeats 4000000 in
set_option maxRecDepth 100000 in
theorem b_M_isRegister_31 {p : Program} {l : Launch} {e : Env} {s : State} {m : MethodId} {args : Array Value} {below : List Frame} {meth : Method} {c : Code} {D : va_G} {kA : Nat → ClassId} {S : hE} {g : Nat → Nat} {n0 nx : Nat} {E : hE} {res : Int32} (C : hX p s m args c prog_11_method_8_code 2 R_M ws_M_isRegister D kA S g n0) (hr : meth.sig.returnType = (some .boolean)) (hlk : meth.locks = false) (hnm : meth.name = "isRegister") : ∀ (t0 : Int32) (H : Heap) (locs : List Loc) (ls : Array Slot), hY D kA n0 s E nx H locs → lv_has ls 2 [] → f_M_isRegister_b31 E  t0 = some res → W p l e rm_M_isRegister s m args below meth c H locs 0 0 (MQ below (va_Qi (fun r w => r = res ∧ w = (E, nx)) (hJ D kA S g n0) (fun q => n0 ≤ q)) args s 0 0 (fun q => n0 ≤ q)) (F0 m 31 ls [.int t0]) := by
  intro t0 H locs ls M hl hf
  unfold f_M_isRegister_b31 at hf
  obtain ⟨v31, h31, hf⟩ := Option.bind_eq_some_iff.mp hf
  obtain ⟨rfl, g31⟩ := bZ_some h31
  cases hf
  exact w_iret C M hr hlk (narrow_z g31) (Nat.le_refl _) (Nat.le_refl _) dM_isRegister_31 rfl rfl
def f_M_isRegister_b30 (E : hE) : Option (Int32) := (
  f_M_isRegister_b31 E 0)
set_option maxHeartbeats 4000000 in
set_option maxRecDepth 100000 in
theorem b_M_isRegister_30 {p : Program} {l : Launch} {e : Env} {s : State} {m : MethodId} {args : Array Value} {below : List Frame} {meth : Method} {c : Code} {D : va_G} {kA : Nat → ClassId} {S : hE} {g : Nat → Nat} {n0 nx : Nat} {E : hE} {res : Int32} (C : hX p s m args c prog_11_method_8_code 2 R_M ws_M_isRegister D kA S g n0) (hr : meth.sig.returnType = (some .boolean)) (hlk : meth.locks = false) (hnm : meth.name = "isRegister") : ∀  (H : Heap) (locs : List Loc) (ls : Array Slot), hY D kA n0 s E nx H locs → lv_has ls 2 [] → f_M_isRegister_b30 E   = some res → W p l e rm_M_isRegister s m args below meth c H locs 0 0 (MQ below (va_Qi (fun r w => r = res ∧ w = (E, nx)) (hJ D kA S g n0) (fun q => n0 ≤ q)) args s 0 0 (fun q => n0 ≤ q)) (F0 m 30 ls []) := by
  intro  H locs ls M hl hf
  unfold f_M_isRegister_b30 at hf
  refine lv_iconst (v := 0) C.x C.b dM_isRegister_30 (by decide) ?_
  exact b_M_isRegister_31 C hr hlk hnm _ _ _ _ M (lv_sub hl [] rfl) hf
def f_M_isRegister (E : hE) (x0 : Nat) (x1 : Int32) : Option (Int32) := (
  (gR E (some x0) 7 9).bind fun v1 =>
  (aJ E v1 2 x1).bind fun v5 =>
  if (lg_cmp v5 97) < 0 then (
  f_M_isRegister_b30 E 
  ) else (
  (gR E (some x0) 7 9).bind fun v14 =>
  (aJ E v14 2 x1).bind fun v18 =>
  if 0 < (lg_cmp v18 104) then (
  f_M_isRegister_b30 E 
  ) else (
  f_M_isRegister_b31 E 1
  )
  ))
set_option maxHeartbeats 4000000 in
set_option maxRecDepth 100000 in
theorem c_M_isRegister {l : Launch} {D : va_G} {kA : Nat → ClassId} {S : hE} {g : Nat → Nat} {n0 nx : Nat} {x0 : Nat} {x1 : Int32} {E : hE} {res : Int32} (hf : f_M_isRegister E x0 x1 = some res) : Met l y_M_isRegister ws_M_isRegister rm_M_isRegister (va_Pc [va_rf (some x0), .int x1] (hJ D kA S g n0 (E, nx))) (va_Qi (fun r w => r = res ∧ w = (E, nx)) (hJ D kA S g n0) (fun q => n0 ≤ q)) 0 0 (fun q => n0 ≤ q) := by
  refine h_met (cc := prog_11_method_8_code) (maxL := 2) (ret := (some .boolean)) (lvs := [(0, va_rf (some x0)), (1, .int x1)]) zZ_k (by decide) rfl (by simp [lg_sl, va_rf_cat, cat_i, cat_l, cat_n]) (by simp [lv_args, va_rf_cat, cat_i, cat_l, cat_n]) ?_
  intro p e s m below meth c ls C M hr hlk hnm hl
  unfold f_M_isRegister at hf
  refine w_aload_n C.x C.b dM_isRegister_0 rfl (lv_at hl 0 rfl) ?_
  obtain ⟨v1, h1, hf⟩ := Option.bind_eq_some_iff.mp hf
  refine w_getR C M h1 rfl (hm_in in_M) (by decide) (List.mem_cons_of_mem _ wm_732) rfl dM_isRegister_1 ?_
  refine lv_iload_n C.x C.b dM_isRegister_4 rfl (lv_at hl 1 rfl) ?_
  obtain ⟨v5, h5, hf⟩ := Option.bind_eq_some_iff.mp hf
  refine w_lald C M h5 rfl dM_isRegister_5 ?_
  refine lv_ldc2 (v := 97) C.x C.b C.ow (C.ts (.constantLong R_M 107 97) (List.mem_cons_of_mem _ wm_883)) dM_isRegister_6 ?_
  refine W.lcmp C.x C.b dM_isRegister_9 ?_
  refine lv_if_lt (tgt := 30) C.x C.b dM_isRegister_10 (by decide) (fun c10 => ?_) (fun c10 => ?_)
  · rw [if_pos c10] at hf
    exact b_M_isRegister_30 C hr hlk hnm _ _ _ M (lv_sub hl [] rfl) hf
  · rw [if_neg c10] at hf
    refine w_aload_n C.x C.b dM_isRegister_13 rfl (lv_at hl 0 rfl) ?_
    obtain ⟨v14, h14, hf⟩ := Option.bind_eq_some_iff.mp hf
    refine w_getR C M h14 rfl (hm_in in_M) (by decide) (List.mem_cons_of_mem _ wm_732) rfl dM_isRegister_14 ?_
    refine lv_iload_n C.x C.b dM_isRegister_17 rfl (lv_at hl 1 rfl) ?_
    obtain ⟨v18, h18, hf⟩ := Option.bind_eq_some_iff.mp hf
    refine w_lald C M h18 rfl dM_isRegister_18 ?_
    refine lv_ldc2 (v := 104) C.x C.b C.ow (C.ts (.constantLong R_M 109 104) (List.mem_cons_of_mem _ wm_884)) dM_isRegister_19 ?_
    refine W.lcmp C.x C.b dM_isRegister_22 ?_
    refine lv_if_gt (tgt := 30) C.x C.b dM_isRegister_23 (by decide) (fun c23 => ?_) (fun c23 => ?_)
    · rw [if_pos c23] at hf
      exact b_M_isRegister_30 C hr hlk hnm _ _ _ M (lv_sub hl [] rfl) hf
    · rw [if_neg c23] at hf
      refine lv_iconst (v := 1) C.x C.b dM_isRegister_26 (by decide) ?_
      refine lv_goto (tgt := 31) C.x C.b dM_isRegister_27 (by decide) ?_
      exact b_M_isRegister_31 C hr hlk hnm _ _ _ _ M (lv_sub hl [] rfl) hf
theorem dM_isNumber_0 : decode prog_11_method_10_code 0 = .ok (.aload_n 0, 1) := by decide +kernel
theorem dM_isNumber_1 : decode prog_11_method_10_code 1 = .ok (.getfield 13, 3) := by decide +kernel
theorem dM_isNumber_4 : decode prog_11_method_10_code 4 = .ok (.aload_n 0, 1) := by decide +kernel
theorem dM_isNumber_5 : decode prog_11_method_10_code 5 = .ok (.getfield 36, 3) := by decide +kernel
theorem dM_isNumber_8 : decode prog_11_method_10_code 8 = .ok (.iload_n 1, 1) := by decide +kernel
theorem dM_isNumber_9 : decode prog_11_method_10_code 9 = .ok (.iaload, 1) := by decide +kernel
theorem dM_isNumber_10 : decode prog_11_method_10_code 10 = .ok (.iaload, 1) := by decide +kernel
theorem dM_isNumber_11 : decode prog_11_method_10_code 11 = .ok (.bipush 45, 2) := by decide +kernel
theorem dM_isNumber_13 : decode prog_11_method_10_code 13 = .ok (.if_icmp .ne 14, 3) := by decide +kernel
theorem dM_isNumber_16 : decode prog_11_method_10_code 16 = .ok (.aload_n 0, 1) := by decide +kernel
theorem dM_isNumber_17 : decode prog_11_method_10_code 17 = .ok (.getfield 36, 3) := by decide +kernel
theorem dM_isNumber_20 : decode prog_11_method_10_code 20 = .ok (.iload_n 1, 1) := by decide +kernel
theorem dM_isNumber_21 : decode prog_11_method_10_code 21 = .ok (.iaload, 1) := by decide +kernel
theorem dM_isNumber_22 : decode prog_11_method_10_code 22 = .ok (.iconst 1, 1) := by decide +kernel
theorem dM_isNumber_23 : decode prog_11_method_10_code 23 = .ok (.iadd, 1) := by decide +kernel
theorem dM_isNumber_24 : decode prog_11_method_10_code 24 = .ok (.goto 9, 3) := by decide +kernel
theorem dM_isNumber_27 : decode prog_11_method_10_code 27 = .ok (.aload_n 0, 1) := by decide +kernel
theorem dM_isNumber_28 : decode prog_11_method_10_code 28 = .ok (.getfield 36, 3) := by decide +kernel
theorem dM_isNumber_31 : decode prog_11_method_10_code 31 = .ok (.iload_n 1, 1) := by decide +kernel
theorem dM_isNumber_32 : decode prog_11_method_10_code 32 = .ok (.iaload, 1) := by decide +kernel
theorem dM_isNumber_33 : decode prog_11_method_10_code 33 = .ok (.istore_n 2, 1) := by decide +kernel
theorem dM_isNumber_34 : decode prog_11_method_10_code 34 = .ok (.aload_n 0, 1) := by decide +kernel
theorem dM_isNumber_35 : decode prog_11_method_10_code 35 = .ok (.getfield 39, 3) := by decide +kernel
theorem dM_isNumber_38 : decode prog_11_method_10_code 38 = .ok (.iload_n 1, 1) := by decide +kernel
theorem dM_isNumber_39 : decode prog_11_method_10_code 39 = .ok (.iaload, 1) := by decide +kernel
theorem dM_isNumber_40 : decode prog_11_method_10_code 40 = .ok (.iload_n 2, 1) := by decide +kernel
theorem dM_isNumber_41 : decode prog_11_method_10_code 41 = .ok (.isub, 1) := by decide +kernel
theorem dM_isNumber_42 : decode prog_11_method_10_code 42 = .ok (.iconst 1, 1) := by decide +kernel
theorem dM_isNumber_43 : decode prog_11_method_10_code 43 = .ok (.bipush 6, 2) := by decide +kernel
theorem dM_isNumber_45 : decode prog_11_method_10_code 45 = .ok (.invokestatic 83, 3) := by decide +kernel
theorem dM_isNumber_48 : decode prog_11_method_10_code 48 = .ok (.ifCond .ne 5, 3) := by decide +kernel
theorem dM_isNumber_51 : decode prog_11_method_10_code 51 = .ok (.iconst 0, 1) := by decide +kernel
theorem dM_isNumber_52 : decode prog_11_method_10_code 52 = .ok (.ireturn, 1) := by decide +kernel
theorem dM_isNumber_53 : decode prog_11_method_10_code 53 = .ok (.iload_n 2, 1) := by decide +kernel
theorem dM_isNumber_54 : decode prog_11_method_10_code 54 = .ok (.istore_n 3, 1) := by decide +kernel
theorem dM_isNumber_55 : decode prog_11_method_10_code 55 = .ok (.iload_n 3, 1) := by decide +kernel
theorem dM_isNumber_56 : decode prog_11_method_10_code 56 = .ok (.aload_n 0, 1) := by decide +kernel
theorem dM_isNumber_57 : decode prog_11_method_10_code 57 = .ok (.getfield 39, 3) := by decide +kernel
theorem dM_isNumber_60 : decode prog_11_method_10_code 60 = .ok (.iload_n 1, 1) := by decide +kernel
theorem dM_isNumber_61 : decode prog_11_method_10_code 61 = .ok (.iaload, 1) := by decide +kernel
theorem dM_isNumber_62 : decode prog_11_method_10_code 62 = .ok (.if_icmp .ge 27, 3) := by decide +kernel
theorem dM_isNumber_65 : decode prog_11_method_10_code 65 = .ok (.aload_n 0, 1) := by decide +kernel
theorem dM_isNumber_66 : decode prog_11_method_10_code 66 = .ok (.getfield 13, 3) := by decide +kernel
theorem dM_isNumber_69 : decode prog_11_method_10_code 69 = .ok (.iload_n 3, 1) := by decide +kernel
theorem dM_isNumber_70 : decode prog_11_method_10_code 70 = .ok (.iaload, 1) := by decide +kernel
theorem dM_isNumber_71 : decode prog_11_method_10_code 71 = .ok (.bipush 48, 2) := by decide +kernel
theorem dM_isNumber_73 : decode prog_11_method_10_code 73 = .ok (.bipush 57, 2) := by decide +kernel
theorem dM_isNumber_75 : decode prog_11_method_10_code 75 = .ok (.invokestatic 83, 3) := by decide +kernel
theorem dM_isNumber_78 : decode prog_11_method_10_code 78 = .ok (.ifCond .ne 5, 3) := by decide +kernel
theorem dM_isNumber_81 : decode prog_11_method_10_code 81 = .ok (.iconst 0, 1) := by decide +kernel
theorem dM_isNumber_82 : decode prog_11_method_10_code 82 = .ok (.ireturn, 1) := by decide +kernel
theorem dM_isNumber_83 : decode prog_11_method_10_code 83 = .ok (.iinc 3 1, 3) := by decide +kernel
theorem dM_isNumber_86 : decode prog_11_method_10_code 86 = .ok (.goto (-31), 3) := by decide +kernel
theorem dM_isNumber_89 : decode prog_11_method_10_code 89 = .ok (.iconst 1, 1) := by decide +kernel
theorem dM_isNumber_90 : decode prog_11_method_10_code 90 = .ok (.ireturn, 1) := by decide +kernel
abbrev rm_M_isNumber : Room := { frames := 1, cells := 0, slots := 0, locals := 22 }
def f_M_isNumber_b55 (N : Nat) (E : hE) : Nat → Option Nat → Int32 → Int32 → Option (Int32)
  | 0, _, _, _ => none
  | n + 1, y0, y1, y3 => (
  (gR E y0 7 11).bind fun v57 =>
  (aI E v57 0 y1).bind fun v61 =>
  if v61 ≤ y3 then (
  some 1
  ) else (
  (gR E y0 7 2).bind fun v66 =>
  (aI E v66 0 y3).bind fun v70 =>
  (f_M_in E v70 48 57).bind fun v75 =>
  if v75 = 0 then (
  some 0
  ) else (
  f_M_isNumber_b55 N E n y0 y1 (y3 + 1)
  )
  ))
set_option maxHeartbeats 4000000 in
set_option maxRecDepth 100000 in
theorem b_M_isNumber_55 {p : Program} {l : Launch} {e : Env} {s : State} {m : MethodId} {args : Array Value} {below : List Frame} {meth : Method} {c : Code} {D : va_G} {kA : Nat → ClassId} {S : hE} {g : Nat → Nat} {n0 nx : Nat} {N : Nat} {E : hE} {res : Int32} (C : hX p s m args c prog_11_method_10_code 4 R_M ws_M_isNumber D kA S g n0) (hr : meth.sig.returnType = (some .boolean)) (hlk : meth.locks = false) (hnm : meth.name = "isNumber") : ∀ n : Nat, ∀ (y0 : Option Nat) (y1 : Int32) (y3 : Int32) (H : Heap) (locs : List Loc) (ls : Array Slot), hY D kA n0 s E nx H locs → lv_has ls 4 [(0, va_rf y0), (1, .int y1), (3, .int y3)] → f_M_isNumber_b55 N E n y0 y1 y3 = some res → W p l e rm_M_isNumber s m args below meth c H locs 0 0 (MQ below (va_Qi (fun r w => r = res ∧ w = (E, nx)) (hJ D kA S g n0) (fun q => n0 ≤ q)) args s 0 0 (fun q => n0 ≤ q)) (F0 m 55 ls []) := by
  intro n
  induction n with
  | zero =>
    intro y0 y1 y3 H locs ls M hl hf
    simp [f_M_isNumber_b55] at hf
  | succ n ih =>
    intro y0 y1 y3 H locs ls M hl hf
    rw [f_M_isNumber_b55] at hf
    refine lv_iload_n C.x C.b dM_isNumber_55 rfl (lv_at hl 2 rfl) ?_
    refine w_aload_n C.x C.b dM_isNumber_56 rfl (lv_at hl 0 rfl) ?_
    obtain ⟨v57, h57, hf⟩ := Option.bind_eq_some_iff.mp hf
    refine w_getR C M h57 rfl (hm_in in_M) (by decide) (List.mem_cons_of_mem _ wm_734) rfl dM_isNumber_57 ?_
    refine lv_iload_n C.x C.b dM_isNumber_60 rfl (lv_at hl 1 rfl) ?_
    obtain ⟨v61, h61, hf⟩ := Option.bind_eq_some_iff.mp hf
    refine w_iald C M h61 rfl dM_isNumber_61 ?_
    refine lv_icmp_ge (tgt := 89) C.x C.b dM_isNumber_62 (by decide) (fun c62 => ?_) (fun c62 => ?_)
    · rw [if_pos c62] at hf
      refine lv_iconst (v := 1) C.x C.b dM_isNumber_89 (by decide) ?_
      cases hf
      exact w_iret C M hr hlk rfl (Nat.le_refl _) (Nat.le_refl _) dM_isNumber_90 rfl rfl
    · rw [if_neg c62] at hf
      refine w_aload_n C.x C.b dM_isNumber_65 rfl (lv_at hl 0 rfl) ?_
      obtain ⟨v66, h66, hf⟩ := Option.bind_eq_some_iff.mp hf
      refine w_getR C M h66 rfl (hm_in in_M) (by decide) (List.mem_cons_of_mem _ wm_725) rfl dM_isNumber_66 ?_
      refine lv_iload_n C.x C.b dM_isNumber_69 rfl (lv_at hl 2 rfl) ?_
      obtain ⟨v70, h70, hf⟩ := Option.bind_eq_some_iff.mp hf
      refine w_iald C M h70 rfl dM_isNumber_70 ?_
      refine lv_bipush (v := 48) C.x C.b dM_isNumber_71 (by decide) ?_
      refine lv_bipush (v := 57) C.x C.b dM_isNumber_73 (by decide) ?_
      obtain ⟨v75, h75, hf⟩ := Option.bind_eq_some_iff.mp hf
      refine w_ci M (w_runS C M (c_M_in h75) (cwS 3 C.ts (hgS wm_829 wm_830 wm_6 wm_831) rfl rfl rfl (by decide +kernel) ⟨Nat.le_of_ble_eq_true rfl, Nat.le_of_ble_eq_true rfl⟩) rfl hl.1 rfl (Nat.zero_le _) dM_isNumber_75 ⟨Nat.le_refl _, Nat.le_refl _⟩) (fun H locs M => ?_)
      refine lv_if_ne (tgt := 83) C.x C.b dM_isNumber_78 (by decide) (fun c78 => ?_) (fun c78 => ?_)
      · rw [if_neg c78] at hf
        refine lv_iinc (v := y3 + 1) (lv' := [(3, .int (y3 + 1)), (0, va_rf y0), (1, .int y1)]) C.x C.b dM_isNumber_83 hl (k := 2) rfl rfl (by decide) rfl (fun ls hl => ?_)
        refine lv_goto (tgt := 55) C.x C.b dM_isNumber_86 (by decide) ?_
        exact ih _ _ _ _ _ _ M (lv_sub hl [1, 2, 0] rfl) hf
      · rw [if_pos c78] at hf
        refine lv_iconst (v := 0) C.x C.b dM_isNumber_81 (by decide) ?_
        cases hf
        exact w_iret C M hr hlk rfl (Nat.le_refl _) (Nat.le_refl _) dM_isNumber_82 rfl rfl
def f_M_isNumber_b33 (N : Nat) (E : hE) (y0 : Option Nat) (y1 : Int32) (t0 : Int32) : Option (Int32) := (
  (gR E y0 7 11).bind fun v35 =>
  (aI E v35 0 y1).bind fun v39 =>
  (f_M_in E (v39 - t0) 1 6).bind fun v45 =>
  if v45 = 0 then (
  some 0
  ) else (
  f_M_isNumber_b55 N E N y0 y1 t0
  ))
set_option maxHeartbeats 4000000 in
set_option maxRecDepth 100000 in
theorem b_M_isNumber_33 {p : Program} {l : Launch} {e : Env} {s : State} {m : MethodId} {args : Array Value} {below : List Frame} {meth : Method} {c : Code} {D : va_G} {kA : Nat → ClassId} {S : hE} {g : Nat → Nat} {n0 nx : Nat} {N : Nat} {E : hE} {res : Int32} (C : hX p s m args c prog_11_method_10_code 4 R_M ws_M_isNumber D kA S g n0) (hr : meth.sig.returnType = (some .boolean)) (hlk : meth.locks = false) (hnm : meth.name = "isNumber") : ∀ (y0 : Option Nat) (y1 : Int32) (t0 : Int32) (H : Heap) (locs : List Loc) (ls : Array Slot), hY D kA n0 s E nx H locs → lv_has ls 4 [(0, va_rf y0), (1, .int y1)] → f_M_isNumber_b33 N E  y0 y1 t0 = some res → W p l e rm_M_isNumber s m args below meth c H locs 0 0 (MQ below (va_Qi (fun r w => r = res ∧ w = (E, nx)) (hJ D kA S g n0) (fun q => n0 ≤ q)) args s 0 0 (fun q => n0 ≤ q)) (F0 m 33 ls [.int t0]) := by
  intro y0 y1 t0 H locs ls M hl hf
  unfold f_M_isNumber_b33 at hf
  refine lv_istore_n (lv' := [(2, .int t0), (0, va_rf y0), (1, .int y1)]) C.x C.b dM_isNumber_33 rfl hl (by decide) rfl (fun ls hl => ?_)
  refine w_aload_n C.x C.b dM_isNumber_34 rfl (lv_at hl 1 rfl) ?_
  obtain ⟨v35, h35, hf⟩ := Option.bind_eq_some_iff.mp hf
  refine w_getR C M h35 rfl (hm_in in_M) (by decide) (List.mem_cons_of_mem _ wm_734) rfl dM_isNumber_35 ?_
  refine lv_iload_n C.x C.b dM_isNumber_38 rfl (lv_at hl 2 rfl) ?_
  obtain ⟨v39, h39, hf⟩ := Option.bind_eq_some_iff.mp hf
  refine w_iald C M h39 rfl dM_isNumber_39 ?_
  refine lv_iload_n C.x C.b dM_isNumber_40 rfl (lv_at hl 0 rfl) ?_
  refine lv_isub C.x C.b dM_isNumber_41 ?_
  refine lv_iconst (v := 1) C.x C.b dM_isNumber_42 (by decide) ?_
  refine lv_bipush (v := 6) C.x C.b dM_isNumber_43 (by decide) ?_
  obtain ⟨v45, h45, hf⟩ := Option.bind_eq_some_iff.mp hf
  refine w_ci M (w_runS C M (c_M_in h45) (cwS 3 C.ts (hgS wm_829 wm_830 wm_6 wm_831) rfl rfl rfl (by decide +kernel) ⟨Nat.le_of_ble_eq_true rfl, Nat.le_of_ble_eq_true rfl⟩) rfl hl.1 rfl (Nat.zero_le _) dM_isNumber_45 ⟨Nat.le_refl _, Nat.le_refl _⟩) (fun H locs M => ?_)
  refine lv_if_ne (tgt := 53) C.x C.b dM_isNumber_48 (by decide) (fun c48 => ?_) (fun c48 => ?_)
  · rw [if_neg c48] at hf
    refine lv_iload_n C.x C.b dM_isNumber_53 rfl (lv_at hl 0 rfl) ?_
    refine lv_istore_n (lv' := [(3, .int t0), (2, .int t0), (0, va_rf y0), (1, .int y1)]) C.x C.b dM_isNumber_54 rfl hl (by decide) rfl (fun ls hl => ?_)
    exact b_M_isNumber_55 C hr hlk hnm N _ _ _ _ _ _ M (lv_sub hl [2, 3, 0] rfl) hf
  · rw [if_pos c48] at hf
    refine lv_iconst (v := 0) C.x C.b dM_isNumber_51 (by decide) ?_
    cases hf
    exact w_iret C M hr hlk rfl (Nat.le_refl _) (Nat.le_refl _) dM_isNumber_52 rfl rfl
def f_M_isNumber (N : Nat) (E : hE) (x0 : Nat) (x1 : Int32) : Option (Int32) := (
  (gR E (some x0) 7 2).bind fun v1 =>
  (gR E (some x0) 7 10).bind fun v5 =>
  (aI E v5 0 x1).bind fun v9 =>
  (aI E v1 0 v9).bind fun v10 =>
  if v10 = 45 then (
  (gR E (some x0) 7 10).bind fun v17 =>
  (aI E v17 0 x1).bind fun v21 =>
  f_M_isNumber_b33 N E (some x0) x1 (v21 + 1)
  ) else (
  (gR E (some x0) 7 10).bind fun v28 =>
  (aI E v28 0 x1).bind fun v32 =>
  f_M_isNumber_b33 N E (some x0) x1 v32
  ))
set_option maxHeartbeats 4000000 in
set_option maxRecDepth 100000 in
theorem c_M_isNumber {l : Launch} {D : va_G} {kA : Nat → ClassId} {S : hE} {g : Nat → Nat} {n0 nx : Nat} {N : Nat} {x0 : Nat} {x1 : Int32} {E : hE} {res : Int32} (hf : f_M_isNumber N E x0 x1 = some res) : Met l y_M_isNumber ws_M_isNumber rm_M_isNumber (va_Pc [va_rf (some x0), .int x1] (hJ D kA S g n0 (E, nx))) (va_Qi (fun r w => r = res ∧ w = (E, nx)) (hJ D kA S g n0) (fun q => n0 ≤ q)) 0 0 (fun q => n0 ≤ q) := by
  refine h_met (cc := prog_11_method_10_code) (maxL := 4) (ret := (some .boolean)) (lvs := [(0, va_rf (some x0)), (1, .int x1)]) zZ_k (by decide) rfl (by simp [lg_sl, va_rf_cat, cat_i, cat_l, cat_n]) (by simp [lv_args, va_rf_cat, cat_i, cat_l, cat_n]) ?_
  intro p e s m below meth c ls C M hr hlk hnm hl
  unfold f_M_isNumber at hf
  refine w_aload_n C.x C.b dM_isNumber_0 rfl (lv_at hl 0 rfl) ?_
  obtain ⟨v1, h1, hf⟩ := Option.bind_eq_some_iff.mp hf
  refine w_getR C M h1 rfl (hm_in in_M) (by decide) (List.mem_cons_of_mem _ wm_725) rfl dM_isNumber_1 ?_
  refine w_aload_n C.x C.b dM_isNumber_4 rfl (lv_at hl 0 rfl) ?_
  obtain ⟨v5, h5, hf⟩ := Option.bind_eq_some_iff.mp hf
  refine w_getR C M h5 rfl (hm_in in_M) (by decide) (List.mem_cons_of_mem _ wm_733) rfl dM_isNumber_5 ?_
  refine lv_iload_n C.x C.b dM_isNumber_8 rfl (lv_at hl 1 rfl) ?_
  obtain ⟨v9, h9, hf⟩ := Option.bind_eq_some_iff.mp hf
  refine w_iald C M h9 rfl dM_isNumber_9 ?_
  obtain ⟨v10, h10, hf⟩ := Option.bind_eq_some_iff.mp hf
  refine w_iald C M h10 rfl dM_isNumber_10 ?_
  refine lv_bipush (v := 45) C.x C.b dM_isNumber_11 (by decide) ?_
  refine lv_icmp_ne (tgt := 27) C.x C.b dM_isNumber_13 (by decide) (fun c13 => ?_) (fun c13 => ?_)
  · rw [if_neg c13] at hf
    refine w_aload_n C.x C.b dM_isNumber_27 rfl (lv_at hl 0 rfl) ?_
    obtain ⟨v28, h28, hf⟩ := Option.bind_eq_some_iff.mp hf
    refine w_getR C M h28 rfl (hm_in in_M) (by decide) (List.mem_cons_of_mem _ wm_733) rfl dM_isNumber_28 ?_
    refine lv_iload_n C.x C.b dM_isNumber_31 rfl (lv_at hl 1 rfl) ?_
    obtain ⟨v32, h32, hf⟩ := Option.bind_eq_some_iff.mp hf
    refine w_iald C M h32 rfl dM_isNumber_32 ?_
    exact b_M_isNumber_33 C hr hlk hnm _ _ _ _ _ _ M (lv_sub hl [0, 1] rfl) hf
  · rw [if_pos c13] at hf
    refine w_aload_n C.x C.b dM_isNumber_16 rfl (lv_at hl 0 rfl) ?_
    obtain ⟨v17, h17, hf⟩ := Option.bind_eq_some_iff.mp hf
    refine w_getR C M h17 rfl (hm_in in_M) (by decide) (List.mem_cons_of_mem _ wm_733) rfl dM_isNumber_17 ?_
    refine lv_iload_n C.x C.b dM_isNumber_20 rfl (lv_at hl 1 rfl) ?_
    obtain ⟨v21, h21, hf⟩ := Option.bind_eq_some_iff.mp hf
    refine w_iald C M h21 rfl dM_isNumber_21 ?_
    refine lv_iconst (v := 1) C.x C.b dM_isNumber_22 (by decide) ?_
    refine lv_iadd C.x C.b dM_isNumber_23 ?_
    refine lv_goto (tgt := 33) C.x C.b dM_isNumber_24 (by decide) ?_
    exact b_M_isNumber_33 C hr hlk hnm _ _ _ _ _ _ M (lv_sub hl [0, 1] rfl) hf
theorem dM_isValue_0 : decode prog_11_method_11_code 0 = .ok (.aload_n 0, 1) := by decide +kernel
theorem dM_isValue_1 : decode prog_11_method_11_code 1 = .ok (.iload_n 1, 1) := by decide +kernel
theorem dM_isValue_2 : decode prog_11_method_11_code 2 = .ok (.invokevirtual 115, 3) := by decide +kernel
theorem dM_isValue_5 : decode prog_11_method_11_code 5 = .ok (.ifCond .ne 11, 3) := by decide +kernel
theorem dM_isValue_8 : decode prog_11_method_11_code 8 = .ok (.aload_n 0, 1) := by decide +kernel
theorem dM_isValue_9 : decode prog_11_method_11_code 9 = .ok (.iload_n 1, 1) := by decide +kernel
theorem dM_isValue_10 : decode prog_11_method_11_code 10 = .ok (.invokevirtual 119, 3) := by decide +kernel
theorem dM_isValue_13 : decode prog_11_method_11_code 13 = .ok (.ifCond .eq 7, 3) := by decide +kernel
theorem dM_isValue_16 : decode prog_11_method_11_code 16 = .ok (.iconst 1, 1) := by decide +kernel
theorem dM_isValue_17 : decode prog_11_method_11_code 17 = .ok (.goto 4, 3) := by decide +kernel
theorem dM_isValue_20 : decode prog_11_method_11_code 20 = .ok (.iconst 0, 1) := by decide +kernel
theorem dM_isValue_21 : decode prog_11_method_11_code 21 = .ok (.ireturn, 1) := by decide +kernel
abbrev rm_M_isValue : Room := { frames := 2, cells := 0, slots := 0, locals := 45 }
def f_M_isValue_b21 (N : Nat) (E : hE) (t0 : Int32) : Option (Int32) := (
  (bZ t0).bind fun v21 =>
  some v21)
set_option maxHeartbeats 4000000 in
set_option maxRecDepth 100000 in
theorem b_M_isValue_21 {p : Program} {l : Launch} {e : Env} {s : State} {m : MethodId} {args : Array Value} {below : List Frame} {meth : Method} {c : Code} {D : va_G} {kA : Nat → ClassId} {S : hE} {g : Nat → Nat} {n0 nx : Nat} {N : Nat} {E : hE} {res : Int32} (C : hX p s m args c prog_11_method_11_code 2 R_M ws_M_isValue D kA S g n0) (hr : meth.sig.returnType = (some .boolean)) (hlk : meth.locks = false) (hnm : meth.name = "isValue") : ∀ (t0 : Int32) (H : Heap) (locs : List Loc) (ls : Array Slot), hY D kA n0 s E nx H locs → lv_has ls 2 [] → f_M_isValue_b21 N E  t0 = some res → W p l e rm_M_isValue s m args below meth c H locs 0 0 (MQ below (va_Qi (fun r w => r = res ∧ w = (E, nx)) (hJ D kA S g n0) (fun q => n0 ≤ q)) args s 0 0 (fun q => n0 ≤ q)) (F0 m 21 ls [.int t0]) := by
  intro t0 H locs ls M hl hf
  unfold f_M_isValue_b21 at hf
  obtain ⟨v21, h21, hf⟩ := Option.bind_eq_some_iff.mp hf
  obtain ⟨rfl, g21⟩ := bZ_some h21
  cases hf
  exact w_iret C M hr hlk (narrow_z g21) (Nat.le_refl _) (Nat.le_refl _) dM_isValue_21 rfl rfl
def f_M_isValue_b16 (N : Nat) (E : hE) : Option (Int32) := (
  f_M_isValue_b21 N E 1)
set_option maxHeartbeats 4000000 in
set_option maxRecDepth 100000 in
theorem b_M_isValue_16 {p : Program} {l : Launch} {e : Env} {s : State} {m : MethodId} {args : Array Value} {below : List Frame} {meth : Method} {c : Code} {D : va_G} {kA : Nat → ClassId} {S : hE} {g : Nat → Nat} {n0 nx : Nat} {N : Nat} {E : hE} {res : Int32} (C : hX p s m args c prog_11_method_11_code 2 R_M ws_M_isValue D kA S g n0) (hr : meth.sig.returnType = (some .boolean)) (hlk : meth.locks = false) (hnm : meth.name = "isValue") : ∀  (H : Heap) (locs : List Loc) (ls : Array Slot), hY D kA n0 s E nx H locs → lv_has ls 2 [] → f_M_isValue_b16 N E   = some res → W p l e rm_M_isValue s m args below meth c H locs 0 0 (MQ below (va_Qi (fun r w => r = res ∧ w = (E, nx)) (hJ D kA S g n0) (fun q => n0 ≤ q)) args s 0 0 (fun q => n0 ≤ q)) (F0 m 16 ls []) := by
  intro  H locs ls M hl hf
  unfold f_M_isValue_b16 at hf
  refine lv_iconst (v := 1) C.x C.b dM_isValue_16 (by decide) ?_
  refine lv_goto (tgt := 21) C.x C.b dM_isValue_17 (by decide) ?_
  exact b_M_isValue_21 C hr hlk hnm _ _ _ _ M (lv_sub hl [] rfl) hf
def f_M_isValue (N : Nat) (E : hE) (x0 : Nat) (x1 : Int32) : Option (Int32) := (
  (gO E (some x0) 7).bind fun o2 =>
  (f_M_isRegister E o2.1 x1).bind fun v2 =>
  if v2 = 0 then (
  (gO E (some x0) 7).bind fun o10 =>
  (f_M_isNumber N E o10.1 x1).bind fun v10 =>
  if v10 = 0 then (
  f_M_isValue_b21 N E 0
  ) else (
  f_M_isValue_b16 N E 
  )
  ) else (
  f_M_isValue_b16 N E 
  ))
set_option maxHeartbeats 4000000 in
set_option maxRecDepth 100000 in
theorem c_M_isValue {l : Launch} {D : va_G} {kA : Nat → ClassId} {S : hE} {g : Nat → Nat} {n0 nx : Nat} {N : Nat} {x0 : Nat} {x1 : Int32} {E : hE} {res : Int32} (hf : f_M_isValue N E x0 x1 = some res) : Met l y_M_isValue ws_M_isValue rm_M_isValue (va_Pc [va_rf (some x0), .int x1] (hJ D kA S g n0 (E, nx))) (va_Qi (fun r w => r = res ∧ w = (E, nx)) (hJ D kA S g n0) (fun q => n0 ≤ q)) 0 0 (fun q => n0 ≤ q) := by
  refine h_met (cc := prog_11_method_11_code) (maxL := 2) (ret := (some .boolean)) (lvs := [(0, va_rf (some x0)), (1, .int x1)]) zZ_k (by decide) rfl (by simp [lg_sl, va_rf_cat, cat_i, cat_l, cat_n]) (by simp [lv_args, va_rf_cat, cat_i, cat_l, cat_n]) ?_
  intro p e s m below meth c ls C M hr hlk hnm hl
  unfold f_M_isValue at hf
  refine w_aload_n C.x C.b dM_isValue_0 rfl (lv_at hl 0 rfl) ?_
  refine lv_iload_n C.x C.b dM_isValue_1 rfl (lv_at hl 1 rfl) ?_
  obtain ⟨o2, g2, hf⟩ := Option.bind_eq_some_iff.mp hf
  obtain ⟨v2, h2, hf⟩ := Option.bind_eq_some_iff.mp hf
  refine w_ci M (w_runV C M g2 rfl (c_M_isRegister h2) (cwV 1 C.ts (hgV wm_879 wm_881 sel_M_isRegister wm_6 wm_882) rfl rfl rfl (by decide +kernel) ⟨Nat.le_of_ble_eq_true rfl, Nat.le_of_ble_eq_true rfl⟩) rfl hl.1 rfl (Nat.zero_le _) dM_isValue_2 ⟨Nat.le_refl _, Nat.le_refl _⟩) (fun H locs M => ?_)
  refine lv_if_ne (tgt := 16) C.x C.b dM_isValue_5 (by decide) (fun c5 => ?_) (fun c5 => ?_)
  · rw [if_neg c5] at hf
    exact b_M_isValue_16 C hr hlk hnm _ _ _ M (lv_sub hl [] rfl) hf
  · rw [if_pos c5] at hf
    refine w_aload_n C.x C.b dM_isValue_8 rfl (lv_at hl 0 rfl) ?_
    refine lv_iload_n C.x C.b dM_isValue_9 rfl (lv_at hl 1 rfl) ?_
    obtain ⟨o10, g10, hf⟩ := Option.bind_eq_some_iff.mp hf
    obtain ⟨v10, h10, hf⟩ := Option.bind_eq_some_iff.mp hf
    refine w_ci M (w_runV C M g10 rfl (c_M_isNumber h10) (cwV 1 C.ts (hgV wm_885 wm_887 sel_M_isNumber wm_6 wm_888) rfl rfl rfl (by decide +kernel) ⟨Nat.le_of_ble_eq_true rfl, Nat.le_of_ble_eq_true rfl⟩) rfl hl.1 rfl (Nat.zero_le _) dM_isValue_10 ⟨Nat.le_refl _, Nat.le_refl _⟩) (fun H locs M => ?_)
    refine lv_if_eq (tgt := 20) C.x C.b dM_isValue_13 (by decide) (fun c13 => ?_) (fun c13 => ?_)
    · rw [if_pos c13] at hf
      refine lv_iconst (v := 0) C.x C.b dM_isValue_20 (by decide) ?_
      exact b_M_isValue_21 C hr hlk hnm _ _ _ _ M (lv_sub hl [] rfl) hf
    · rw [if_neg c13] at hf
      exact b_M_isValue_16 C hr hlk hnm _ _ _ M (lv_sub hl [] rfl) hf
theorem dM_isLetter_0 : decode prog_11_method_9_code 0 = .ok (.aload_n 0, 1) := by decide +kernel
theorem dM_isLetter_1 : decode prog_11_method_9_code 1 = .ok (.getfield 32, 3) := by decide +kernel
theorem dM_isLetter_4 : decode prog_11_method_9_code 4 = .ok (.iload_n 1, 1) := by decide +kernel
theorem dM_isLetter_5 : decode prog_11_method_9_code 5 = .ok (.laload, 1) := by decide +kernel
theorem dM_isLetter_6 : decode prog_11_method_9_code 6 = .ok (.ldc2_w 111, 3) := by decide +kernel
theorem dM_isLetter_9 : decode prog_11_method_9_code 9 = .ok (.lcmp, 1) := by decide +kernel
theorem dM_isLetter_10 : decode prog_11_method_9_code 10 = .ok (.ifCond .lt 20, 3) := by decide +kernel
theorem dM_isLetter_13 : decode prog_11_method_9_code 13 = .ok (.aload_n 0, 1) := by decide +kernel
theorem dM_isLetter_14 : decode prog_11_method_9_code 14 = .ok (.getfield 32, 3) := by decide +kernel
theorem dM_isLetter_17 : decode prog_11_method_9_code 17 = .ok (.iload_n 1, 1) := by decide +kernel
theorem dM_isLetter_18 : decode prog_11_method_9_code 18 = .ok (.laload, 1) := by decide +kernel
theorem dM_isLetter_19 : decode prog_11_method_9_code 19 = .ok (.ldc2_w 113, 3) := by decide +kernel
theorem dM_isLetter_22 : decode prog_11_method_9_code 22 = .ok (.lcmp, 1) := by decide +kernel
theorem dM_isLetter_23 : decode prog_11_method_9_code 23 = .ok (.ifCond .gt 7, 3) := by decide +kernel
theorem dM_isLetter_26 : decode prog_11_method_9_code 26 = .ok (.iconst 1, 1) := by decide +kernel
theorem dM_isLetter_27 : decode prog_11_method_9_code 27 = .ok (.goto 4, 3) := by decide +kernel
theorem dM_isLetter_30 : decode prog_11_method_9_code 30 = .ok (.iconst 0, 1) := by decide +kernel
theorem dM_isLetter_31 : decode prog_11_method_9_code 31 = .ok (.ireturn, 1) := by decide +kernel
abbrev rm_M_isLetter : Room := { frames := 0, cells := 0, slots := 0, locals := 0 }
def f_M_isLetter_b31 (E : hE) (t0 : Int32) : Option (Int32) := (
  (bZ t0).bind fun v31 =>
  some v31)
set_option maxHeartbeats 4000000 in
set_option maxRecDepth 100000 in
theorem b_M_isLetter_31 {p : Program} {l : Launch} {e : Env} {s : State} {m : MethodId} {args : Array Value} {below : List Frame} {meth : Method} {c : Code} {D : va_G} {kA : Nat → ClassId} {S : hE} {g : Nat → Nat} {n0 nx : Nat} {E : hE} {res : Int32} (C : hX p s m args c prog_11_method_9_code 2 R_M ws_M_isLetter D kA S g n0) (hr : meth.sig.returnType = (some .boolean)) (hlk : meth.locks = false) (hnm : meth.name = "isLetter") : ∀ (t0 : Int32) (H : Heap) (locs : List Loc) (ls : Array Slot), hY D kA n0 s E nx H locs → lv_has ls 2 [] → f_M_isLetter_b31 E  t0 = some res → W p l e rm_M_isLetter s m args below meth c H locs 0 0 (MQ below (va_Qi (fun r w => r = res ∧ w = (E, nx)) (hJ D kA S g n0) (fun q => n0 ≤ q)) args s 0 0 (fun q => n0 ≤ q)) (F0 m 31 ls [.int t0]) := by
  intro t0 H locs ls M hl hf
  unfold f_M_isLetter_b31 at hf
  obtain ⟨v31, h31, hf⟩ := Option.bind_eq_some_iff.mp hf
  obtain ⟨rfl, g31⟩ := bZ_some h31
  cases hf
  exact w_iret C M hr hlk (narrow_z g31) (Nat.le_refl _) (Nat.le_refl _) dM_isLetter_31 rfl rfl
def f_M_isLetter_b30 (E : hE) : Option (Int32) := (
  f_M_isLetter_b31 E 0)
set_option maxHeartbeats 4000000 in
set_option maxRecDepth 100000 in
theorem b_M_isLetter_30 {p : Program} {l : Launch} {e : Env} {s : State} {m : MethodId} {args : Array Value} {below : List Frame} {meth : Method} {c : Code} {D : va_G} {kA : Nat → ClassId} {S : hE} {g : Nat → Nat} {n0 nx : Nat} {E : hE} {res : Int32} (C : hX p s m args c prog_11_method_9_code 2 R_M ws_M_isLetter D kA S g n0) (hr : meth.sig.returnType = (some .boolean)) (hlk : meth.locks = false) (hnm : meth.name = "isLetter") : ∀  (H : Heap) (locs : List Loc) (ls : Array Slot), hY D kA n0 s E nx H locs → lv_has ls 2 [] → f_M_isLetter_b30 E   = some res → W p l e rm_M_isLetter s m args below meth c H locs 0 0 (MQ below (va_Qi (fun r w => r = res ∧ w = (E, nx)) (hJ D kA S g n0) (fun q => n0 ≤ q)) args s 0 0 (fun q => n0 ≤ q)) (F0 m 30 ls []) := by
  intro  H locs ls M hl hf
  unfold f_M_isLetter_b30 at hf
  refine lv_iconst (v := 0) C.x C.b dM_isLetter_30 (by decide) ?_
  exact b_M_isLetter_31 C hr hlk hnm _ _ _ _ M (lv_sub hl [] rfl) hf
def f_M_isLetter (E : hE) (x0 : Nat) (x1 : Int32) : Option (Int32) := (
  (gR E (some x0) 7 9).bind fun v1 =>
  (aJ E v1 2 x1).bind fun v5 =>
  if (lg_cmp v5 65) < 0 then (
  f_M_isLetter_b30 E 
  ) else (
  (gR E (some x0) 7 9).bind fun v14 =>
  (aJ E v14 2 x1).bind fun v18 =>
  if 0 < (lg_cmp v18 90) then (
  f_M_isLetter_b30 E 
  ) else (
  f_M_isLetter_b31 E 1
  )
  ))
set_option maxHeartbeats 4000000 in
set_option maxRecDepth 100000 in
theorem c_M_isLetter {l : Launch} {D : va_G} {kA : Nat → ClassId} {S : hE} {g : Nat → Nat} {n0 nx : Nat} {x0 : Nat} {x1 : Int32} {E : hE} {res : Int32} (hf : f_M_isLetter E x0 x1 = some res) : Met l y_M_isLetter ws_M_isLetter rm_M_isLetter (va_Pc [va_rf (some x0), .int x1] (hJ D kA S g n0 (E, nx))) (va_Qi (fun r w => r = res ∧ w = (E, nx)) (hJ D kA S g n0) (fun q => n0 ≤ q)) 0 0 (fun q => n0 ≤ q) := by
  refine h_met (cc := prog_11_method_9_code) (maxL := 2) (ret := (some .boolean)) (lvs := [(0, va_rf (some x0)), (1, .int x1)]) zZ_k (by decide) rfl (by simp [lg_sl, va_rf_cat, cat_i, cat_l, cat_n]) (by simp [lv_args, va_rf_cat, cat_i, cat_l, cat_n]) ?_
  intro p e s m below meth c ls C M hr hlk hnm hl
  unfold f_M_isLetter at hf
  refine w_aload_n C.x C.b dM_isLetter_0 rfl (lv_at hl 0 rfl) ?_
  obtain ⟨v1, h1, hf⟩ := Option.bind_eq_some_iff.mp hf
  refine w_getR C M h1 rfl (hm_in in_M) (by decide) (List.mem_cons_of_mem _ wm_732) rfl dM_isLetter_1 ?_
  refine lv_iload_n C.x C.b dM_isLetter_4 rfl (lv_at hl 1 rfl) ?_
  obtain ⟨v5, h5, hf⟩ := Option.bind_eq_some_iff.mp hf
  refine w_lald C M h5 rfl dM_isLetter_5 ?_
  refine lv_ldc2 (v := 65) C.x C.b C.ow (C.ts (.constantLong R_M 111 65) (List.mem_cons_of_mem _ wm_854)) dM_isLetter_6 ?_
  refine W.lcmp C.x C.b dM_isLetter_9 ?_
  refine lv_if_lt (tgt := 30) C.x C.b dM_isLetter_10 (by decide) (fun c10 => ?_) (fun c10 => ?_)
  · rw [if_pos c10] at hf
    exact b_M_isLetter_30 C hr hlk hnm _ _ _ M (lv_sub hl [] rfl) hf
  · rw [if_neg c10] at hf
    refine w_aload_n C.x C.b dM_isLetter_13 rfl (lv_at hl 0 rfl) ?_
    obtain ⟨v14, h14, hf⟩ := Option.bind_eq_some_iff.mp hf
    refine w_getR C M h14 rfl (hm_in in_M) (by decide) (List.mem_cons_of_mem _ wm_732) rfl dM_isLetter_14 ?_
    refine lv_iload_n C.x C.b dM_isLetter_17 rfl (lv_at hl 1 rfl) ?_
    obtain ⟨v18, h18, hf⟩ := Option.bind_eq_some_iff.mp hf
    refine w_lald C M h18 rfl dM_isLetter_18 ?_
    refine lv_ldc2 (v := 90) C.x C.b C.ow (C.ts (.constantLong R_M 113 90) (List.mem_cons_of_mem _ wm_855)) dM_isLetter_19 ?_
    refine W.lcmp C.x C.b dM_isLetter_22 ?_
    refine lv_if_gt (tgt := 30) C.x C.b dM_isLetter_23 (by decide) (fun c23 => ?_) (fun c23 => ?_)
    · rw [if_pos c23] at hf
      exact b_M_isLetter_30 C hr hlk hnm _ _ _ M (lv_sub hl [] rfl) hf
    · rw [if_neg c23] at hf
      refine lv_iconst (v := 1) C.x C.b dM_isLetter_26 (by decide) ?_
      refine lv_goto (tgt := 31) C.x C.b dM_isLetter_27 (by decide) ?_
      exact b_M_isLetter_31 C hr hlk hnm _ _ _ _ M (lv_sub hl [] rfl) hf
theorem dM_isComparison_0 : decode prog_11_method_13_code 0 = .ok (.aload_n 0, 1) := by decide +kernel
theorem dM_isComparison_1 : decode prog_11_method_13_code 1 = .ok (.getfield 32, 3) := by decide +kernel
theorem dM_isComparison_4 : decode prog_11_method_13_code 4 = .ok (.iload_n 1, 1) := by decide +kernel
theorem dM_isComparison_5 : decode prog_11_method_13_code 5 = .ok (.laload, 1) := by decide +kernel
theorem dM_isComparison_6 : decode prog_11_method_13_code 6 = .ok (.ldc2_w 138, 3) := by decide +kernel
theorem dM_isComparison_9 : decode prog_11_method_13_code 9 = .ok (.lcmp, 1) := by decide +kernel
theorem dM_isComparison_10 : decode prog_11_method_13_code 10 = .ok (.ifCond .eq 29, 3) := by decide +kernel
theorem dM_isComparison_13 : decode prog_11_method_13_code 13 = .ok (.aload_n 0, 1) := by decide +kernel
theorem dM_isComparison_14 : decode prog_11_method_13_code 14 = .ok (.getfield 32, 3) := by decide +kernel
theorem dM_isComparison_17 : decode prog_11_method_13_code 17 = .ok (.iload_n 1, 1) := by decide +kernel
theorem dM_isComparison_18 : decode prog_11_method_13_code 18 = .ok (.laload, 1) := by decide +kernel
theorem dM_isComparison_19 : decode prog_11_method_13_code 19 = .ok (.ldc2_w 140, 3) := by decide +kernel
theorem dM_isComparison_22 : decode prog_11_method_13_code 22 = .ok (.lcmp, 1) := by decide +kernel
theorem dM_isComparison_23 : decode prog_11_method_13_code 23 = .ok (.ifCond .eq 16, 3) := by decide +kernel
theorem dM_isComparison_26 : decode prog_11_method_13_code 26 = .ok (.aload_n 0, 1) := by decide +kernel
theorem dM_isComparison_27 : decode prog_11_method_13_code 27 = .ok (.getfield 32, 3) := by decide +kernel
theorem dM_isComparison_30 : decode prog_11_method_13_code 30 = .ok (.iload_n 1, 1) := by decide +kernel
theorem dM_isComparison_31 : decode prog_11_method_13_code 31 = .ok (.laload, 1) := by decide +kernel
theorem dM_isComparison_32 : decode prog_11_method_13_code 32 = .ok (.ldc2_w 142, 3) := by decide +kernel
theorem dM_isComparison_35 : decode prog_11_method_13_code 35 = .ok (.lcmp, 1) := by decide +kernel
theorem dM_isComparison_36 : decode prog_11_method_13_code 36 = .ok (.ifCond .ne 7, 3) := by decide +kernel
theorem dM_isComparison_39 : decode prog_11_method_13_code 39 = .ok (.iconst 1, 1) := by decide +kernel
theorem dM_isComparison_40 : decode prog_11_method_13_code 40 = .ok (.goto 4, 3) := by decide +kernel
theorem dM_isComparison_43 : decode prog_11_method_13_code 43 = .ok (.iconst 0, 1) := by decide +kernel
theorem dM_isComparison_44 : decode prog_11_method_13_code 44 = .ok (.ireturn, 1) := by decide +kernel
abbrev rm_M_isComparison : Room := { frames := 0, cells := 0, slots := 0, locals := 0 }
def f_M_isComparison_b44 (E : hE) (t0 : Int32) : Option (Int32) := (
  (bZ t0).bind fun v44 =>
  some v44)
set_option maxHeartbeats 4000000 in
set_option maxRecDepth 100000 in
theorem b_M_isComparison_44 {p : Program} {l : Launch} {e : Env} {s : State} {m : MethodId} {args : Array Value} {below : List Frame} {meth : Method} {c : Code} {D : va_G} {kA : Nat → ClassId} {S : hE} {g : Nat → Nat} {n0 nx : Nat} {E : hE} {res : Int32} (C : hX p s m args c prog_11_method_13_code 2 R_M ws_M_isComparison D kA S g n0) (hr : meth.sig.returnType = (some .boolean)) (hlk : meth.locks = false) (hnm : meth.name = "isComparison") : ∀ (t0 : Int32) (H : Heap) (locs : List Loc) (ls : Array Slot), hY D kA n0 s E nx H locs → lv_has ls 2 [] → f_M_isComparison_b44 E  t0 = some res → W p l e rm_M_isComparison s m args below meth c H locs 0 0 (MQ below (va_Qi (fun r w => r = res ∧ w = (E, nx)) (hJ D kA S g n0) (fun q => n0 ≤ q)) args s 0 0 (fun q => n0 ≤ q)) (F0 m 44 ls [.int t0]) := by
  intro t0 H locs ls M hl hf
  unfold f_M_isComparison_b44 at hf
  obtain ⟨v44, h44, hf⟩ := Option.bind_eq_some_iff.mp hf
  obtain ⟨rfl, g44⟩ := bZ_some h44
  cases hf
  exact w_iret C M hr hlk (narrow_z g44) (Nat.le_refl _) (Nat.le_refl _) dM_isComparison_44 rfl rfl
def f_M_isComparison_b39 (E : hE) : Option (Int32) := (
  f_M_isComparison_b44 E 1)
set_option maxHeartbeats 4000000 in
set_option maxRecDepth 100000 in
theorem b_M_isComparison_39 {p : Program} {l : Launch} {e : Env} {s : State} {m : MethodId} {args : Array Value} {below : List Frame} {meth : Method} {c : Code} {D : va_G} {kA : Nat → ClassId} {S : hE} {g : Nat → Nat} {n0 nx : Nat} {E : hE} {res : Int32} (C : hX p s m args c prog_11_method_13_code 2 R_M ws_M_isComparison D kA S g n0) (hr : meth.sig.returnType = (some .boolean)) (hlk : meth.locks = false) (hnm : meth.name = "isComparison") : ∀  (H : Heap) (locs : List Loc) (ls : Array Slot), hY D kA n0 s E nx H locs → lv_has ls 2 [] → f_M_isComparison_b39 E   = some res → W p l e rm_M_isComparison s m args below meth c H locs 0 0 (MQ below (va_Qi (fun r w => r = res ∧ w = (E, nx)) (hJ D kA S g n0) (fun q => n0 ≤ q)) args s 0 0 (fun q => n0 ≤ q)) (F0 m 39 ls []) := by
  intro  H locs ls M hl hf
  unfold f_M_isComparison_b39 at hf
  refine lv_iconst (v := 1) C.x C.b dM_isComparison_39 (by decide) ?_
  refine lv_goto (tgt := 44) C.x C.b dM_isComparison_40 (by decide) ?_
  exact b_M_isComparison_44 C hr hlk hnm _ _ _ _ M (lv_sub hl [] rfl) hf
def f_M_isComparison (E : hE) (x0 : Nat) (x1 : Int32) : Option (Int32) := (
  (gR E (some x0) 7 9).bind fun v1 =>
  (aJ E v1 2 x1).bind fun v5 =>
  if (lg_cmp v5 60) = 0 then (
  f_M_isComparison_b39 E 
  ) else (
  (gR E (some x0) 7 9).bind fun v14 =>
  (aJ E v14 2 x1).bind fun v18 =>
  if (lg_cmp v18 61) = 0 then (
  f_M_isComparison_b39 E 
  ) else (
  (gR E (some x0) 7 9).bind fun v27 =>
  (aJ E v27 2 x1).bind fun v31 =>
  if (lg_cmp v31 62) = 0 then (
  f_M_isComparison_b39 E 
  ) else (
  f_M_isComparison_b44 E 0
  )
  )
  ))
set_option maxHeartbeats 4000000 in
set_option maxRecDepth 100000 in
theorem c_M_isComparison {l : Launch} {D : va_G} {kA : Nat → ClassId} {S : hE} {g : Nat → Nat} {n0 nx : Nat} {x0 : Nat} {x1 : Int32} {E : hE} {res : Int32} (hf : f_M_isComparison E x0 x1 = some res) : Met l y_M_isComparison ws_M_isComparison rm_M_isComparison (va_Pc [va_rf (some x0), .int x1] (hJ D kA S g n0 (E, nx))) (va_Qi (fun r w => r = res ∧ w = (E, nx)) (hJ D kA S g n0) (fun q => n0 ≤ q)) 0 0 (fun q => n0 ≤ q) := by
  refine h_met (cc := prog_11_method_13_code) (maxL := 2) (ret := (some .boolean)) (lvs := [(0, va_rf (some x0)), (1, .int x1)]) zZ_k (by decide) rfl (by simp [lg_sl, va_rf_cat, cat_i, cat_l, cat_n]) (by simp [lv_args, va_rf_cat, cat_i, cat_l, cat_n]) ?_
  intro p e s m below meth c ls C M hr hlk hnm hl
  unfold f_M_isComparison at hf
  refine w_aload_n C.x C.b dM_isComparison_0 rfl (lv_at hl 0 rfl) ?_
  obtain ⟨v1, h1, hf⟩ := Option.bind_eq_some_iff.mp hf
  refine w_getR C M h1 rfl (hm_in in_M) (by decide) (List.mem_cons_of_mem _ wm_732) rfl dM_isComparison_1 ?_
  refine lv_iload_n C.x C.b dM_isComparison_4 rfl (lv_at hl 1 rfl) ?_
  obtain ⟨v5, h5, hf⟩ := Option.bind_eq_some_iff.mp hf
  refine w_lald C M h5 rfl dM_isComparison_5 ?_
  refine lv_ldc2 (v := 60) C.x C.b C.ow (C.ts (.constantLong R_M 138 60) (List.mem_cons_of_mem _ wm_873)) dM_isComparison_6 ?_
  refine W.lcmp C.x C.b dM_isComparison_9 ?_
  refine lv_if_eq (tgt := 39) C.x C.b dM_isComparison_10 (by decide) (fun c10 => ?_) (fun c10 => ?_)
  · rw [if_pos c10] at hf
    exact b_M_isComparison_39 C hr hlk hnm _ _ _ M (lv_sub hl [] rfl) hf
  · rw [if_neg c10] at hf
    refine w_aload_n C.x C.b dM_isComparison_13 rfl (lv_at hl 0 rfl) ?_
    obtain ⟨v14, h14, hf⟩ := Option.bind_eq_some_iff.mp hf
    refine w_getR C M h14 rfl (hm_in in_M) (by decide) (List.mem_cons_of_mem _ wm_732) rfl dM_isComparison_14 ?_
    refine lv_iload_n C.x C.b dM_isComparison_17 rfl (lv_at hl 1 rfl) ?_
    obtain ⟨v18, h18, hf⟩ := Option.bind_eq_some_iff.mp hf
    refine w_lald C M h18 rfl dM_isComparison_18 ?_
    refine lv_ldc2 (v := 61) C.x C.b C.ow (C.ts (.constantLong R_M 140 61) (List.mem_cons_of_mem _ wm_874)) dM_isComparison_19 ?_
    refine W.lcmp C.x C.b dM_isComparison_22 ?_
    refine lv_if_eq (tgt := 39) C.x C.b dM_isComparison_23 (by decide) (fun c23 => ?_) (fun c23 => ?_)
    · rw [if_pos c23] at hf
      exact b_M_isComparison_39 C hr hlk hnm _ _ _ M (lv_sub hl [] rfl) hf
    · rw [if_neg c23] at hf
      refine w_aload_n C.x C.b dM_isComparison_26 rfl (lv_at hl 0 rfl) ?_
      obtain ⟨v27, h27, hf⟩ := Option.bind_eq_some_iff.mp hf
      refine w_getR C M h27 rfl (hm_in in_M) (by decide) (List.mem_cons_of_mem _ wm_732) rfl dM_isComparison_27 ?_
      refine lv_iload_n C.x C.b dM_isComparison_30 rfl (lv_at hl 1 rfl) ?_
      obtain ⟨v31, h31, hf⟩ := Option.bind_eq_some_iff.mp hf
      refine w_lald C M h31 rfl dM_isComparison_31 ?_
      refine lv_ldc2 (v := 62) C.x C.b C.ow (C.ts (.constantLong R_M 142 62) (List.mem_cons_of_mem _ wm_912)) dM_isComparison_32 ?_
      refine W.lcmp C.x C.b dM_isComparison_35 ?_
      refine lv_if_ne (tgt := 43) C.x C.b dM_isComparison_36 (by decide) (fun c36 => ?_) (fun c36 => ?_)
      · rw [if_neg c36] at hf
        refine lv_iconst (v := 0) C.x C.b dM_isComparison_43 (by decide) ?_
        exact b_M_isComparison_44 C hr hlk hnm _ _ _ _ M (lv_sub hl [] rfl) hf
      · rw [if_pos c36] at hf
        exact b_M_isComparison_39 C hr hlk hnm _ _ _ M (lv_sub hl [] rfl) hf
theorem dM_isStatement_0 : decode prog_11_method_15_code 0 = .ok (.aload_n 0, 1) := by decide +kernel
theorem dM_isStatement_1 : decode prog_11_method_15_code 1 = .ok (.getfield 32, 3) := by decide +kernel
theorem dM_isStatement_4 : decode prog_11_method_15_code 4 = .ok (.iconst 0, 1) := by decide +kernel
theorem dM_isStatement_5 : decode prog_11_method_15_code 5 = .ok (.laload, 1) := by decide +kernel
theorem dM_isStatement_6 : decode prog_11_method_15_code 6 = .ok (.lstore_n 1, 1) := by decide +kernel
theorem dM_isStatement_7 : decode prog_11_method_15_code 7 = .ok (.lload_n 1, 1) := by decide +kernel
theorem dM_isStatement_8 : decode prog_11_method_15_code 8 = .ok (.ldc2_w 146, 3) := by decide +kernel
theorem dM_isStatement_11 : decode prog_11_method_15_code 11 = .ok (.lcmp, 1) := by decide +kernel
theorem dM_isStatement_12 : decode prog_11_method_15_code 12 = .ok (.ifCond .ne 57, 3) := by decide +kernel
theorem dM_isStatement_15 : decode prog_11_method_15_code 15 = .ok (.aload_n 0, 1) := by decide +kernel
theorem dM_isStatement_16 : decode prog_11_method_15_code 16 = .ok (.getfield 102, 3) := by decide +kernel
theorem dM_isStatement_19 : decode prog_11_method_15_code 19 = .ok (.iconst 3, 1) := by decide +kernel
theorem dM_isStatement_20 : decode prog_11_method_15_code 20 = .ok (.if_icmp .eq 27, 3) := by decide +kernel
theorem dM_isStatement_23 : decode prog_11_method_15_code 23 = .ok (.aload_n 0, 1) := by decide +kernel
theorem dM_isStatement_24 : decode prog_11_method_15_code 24 = .ok (.getfield 102, 3) := by decide +kernel
theorem dM_isStatement_27 : decode prog_11_method_15_code 27 = .ok (.iconst 5, 1) := by decide +kernel
theorem dM_isStatement_28 : decode prog_11_method_15_code 28 = .ok (.if_icmp .ne 39, 3) := by decide +kernel
theorem dM_isStatement_31 : decode prog_11_method_15_code 31 = .ok (.aload_n 0, 1) := by decide +kernel
theorem dM_isStatement_32 : decode prog_11_method_15_code 32 = .ok (.iconst 3, 1) := by decide +kernel
theorem dM_isStatement_33 : decode prog_11_method_15_code 33 = .ok (.invokevirtual 148, 3) := by decide +kernel
theorem dM_isStatement_36 : decode prog_11_method_15_code 36 = .ok (.ifCond .eq 31, 3) := by decide +kernel
theorem dM_isStatement_39 : decode prog_11_method_15_code 39 = .ok (.aload_n 0, 1) := by decide +kernel
theorem dM_isStatement_40 : decode prog_11_method_15_code 40 = .ok (.iconst 4, 1) := by decide +kernel
theorem dM_isStatement_41 : decode prog_11_method_15_code 41 = .ok (.invokevirtual 151, 3) := by decide +kernel
theorem dM_isStatement_44 : decode prog_11_method_15_code 44 = .ok (.ifCond .eq 23, 3) := by decide +kernel
theorem dM_isStatement_47 : decode prog_11_method_15_code 47 = .ok (.aload_n 0, 1) := by decide +kernel
theorem dM_isStatement_48 : decode prog_11_method_15_code 48 = .ok (.iconst 1, 1) := by decide +kernel
theorem dM_isStatement_49 : decode prog_11_method_15_code 49 = .ok (.invokevirtual 115, 3) := by decide +kernel
theorem dM_isStatement_52 : decode prog_11_method_15_code 52 = .ok (.ifCond .eq 15, 3) := by decide +kernel
theorem dM_isStatement_55 : decode prog_11_method_15_code 55 = .ok (.aload_n 0, 1) := by decide +kernel
theorem dM_isStatement_56 : decode prog_11_method_15_code 56 = .ok (.iconst 2, 1) := by decide +kernel
theorem dM_isStatement_57 : decode prog_11_method_15_code 57 = .ok (.invokevirtual 151, 3) := by decide +kernel
theorem dM_isStatement_60 : decode prog_11_method_15_code 60 = .ok (.ifCond .eq 7, 3) := by decide +kernel
theorem dM_isStatement_63 : decode prog_11_method_15_code 63 = .ok (.iconst 1, 1) := by decide +kernel
theorem dM_isStatement_64 : decode prog_11_method_15_code 64 = .ok (.goto 4, 3) := by decide +kernel
theorem dM_isStatement_67 : decode prog_11_method_15_code 67 = .ok (.iconst 0, 1) := by decide +kernel
theorem dM_isStatement_68 : decode prog_11_method_15_code 68 = .ok (.ireturn, 1) := by decide +kernel
theorem dM_isStatement_69 : decode prog_11_method_15_code 69 = .ok (.lload_n 1, 1) := by decide +kernel
theorem dM_isStatement_70 : decode prog_11_method_15_code 70 = .ok (.ldc2_w 154, 3) := by decide +kernel
theorem dM_isStatement_73 : decode prog_11_method_15_code 73 = .ok (.lcmp, 1) := by decide +kernel
theorem dM_isStatement_74 : decode prog_11_method_15_code 74 = .ok (.ifCond .eq 19, 3) := by decide +kernel
theorem dM_isStatement_77 : decode prog_11_method_15_code 77 = .ok (.lload_n 1, 1) := by decide +kernel
theorem dM_isStatement_78 : decode prog_11_method_15_code 78 = .ok (.ldc2_w 156, 3) := by decide +kernel
theorem dM_isStatement_81 : decode prog_11_method_15_code 81 = .ok (.lcmp, 1) := by decide +kernel
theorem dM_isStatement_82 : decode prog_11_method_15_code 82 = .ok (.ifCond .eq 11, 3) := by decide +kernel
theorem dM_isStatement_85 : decode prog_11_method_15_code 85 = .ok (.lload_n 1, 1) := by decide +kernel
theorem dM_isStatement_86 : decode prog_11_method_15_code 86 = .ok (.ldc2_w 158, 3) := by decide +kernel
theorem dM_isStatement_89 : decode prog_11_method_15_code 89 = .ok (.lcmp, 1) := by decide +kernel
theorem dM_isStatement_90 : decode prog_11_method_15_code 90 = .ok (.ifCond .ne 33, 3) := by decide +kernel
theorem dM_isStatement_93 : decode prog_11_method_15_code 93 = .ok (.aload_n 0, 1) := by decide +kernel
theorem dM_isStatement_94 : decode prog_11_method_15_code 94 = .ok (.getfield 102, 3) := by decide +kernel
theorem dM_isStatement_97 : decode prog_11_method_15_code 97 = .ok (.iconst 3, 1) := by decide +kernel
theorem dM_isStatement_98 : decode prog_11_method_15_code 98 = .ok (.if_icmp .ne 23, 3) := by decide +kernel
theorem dM_isStatement_101 : decode prog_11_method_15_code 101 = .ok (.aload_n 0, 1) := by decide +kernel
theorem dM_isStatement_102 : decode prog_11_method_15_code 102 = .ok (.iconst 1, 1) := by decide +kernel
theorem dM_isStatement_103 : decode prog_11_method_15_code 103 = .ok (.invokevirtual 115, 3) := by decide +kernel
theorem dM_isStatement_106 : decode prog_11_method_15_code 106 = .ok (.ifCond .eq 15, 3) := by decide +kernel
theorem dM_isStatement_109 : decode prog_11_method_15_code 109 = .ok (.aload_n 0, 1) := by decide +kernel
theorem dM_isStatement_110 : decode prog_11_method_15_code 110 = .ok (.iconst 2, 1) := by decide +kernel
theorem dM_isStatement_111 : decode prog_11_method_15_code 111 = .ok (.invokevirtual 151, 3) := by decide +kernel
theorem dM_isStatement_114 : decode prog_11_method_15_code 114 = .ok (.ifCond .eq 7, 3) := by decide +kernel
theorem dM_isStatement_117 : decode prog_11_method_15_code 117 = .ok (.iconst 1, 1) := by decide +kernel
theorem dM_isStatement_118 : decode prog_11_method_15_code 118 = .ok (.goto 4, 3) := by decide +kernel
theorem dM_isStatement_121 : decode prog_11_method_15_code 121 = .ok (.iconst 0, 1) := by decide +kernel
theorem dM_isStatement_122 : decode prog_11_method_15_code 122 = .ok (.ireturn, 1) := by decide +kernel
theorem dM_isStatement_123 : decode prog_11_method_15_code 123 = .ok (.lload_n 1, 1) := by decide +kernel
theorem dM_isStatement_124 : decode prog_11_method_15_code 124 = .ok (.ldc2_w 160, 3) := by decide +kernel
theorem dM_isStatement_127 : decode prog_11_method_15_code 127 = .ok (.lcmp, 1) := by decide +kernel
theorem dM_isStatement_128 : decode prog_11_method_15_code 128 = .ok (.ifCond .eq 19, 3) := by decide +kernel
theorem dM_isStatement_131 : decode prog_11_method_15_code 131 = .ok (.lload_n 1, 1) := by decide +kernel
theorem dM_isStatement_132 : decode prog_11_method_15_code 132 = .ok (.ldc2_w 162, 3) := by decide +kernel
theorem dM_isStatement_135 : decode prog_11_method_15_code 135 = .ok (.lcmp, 1) := by decide +kernel
theorem dM_isStatement_136 : decode prog_11_method_15_code 136 = .ok (.ifCond .eq 11, 3) := by decide +kernel
theorem dM_isStatement_139 : decode prog_11_method_15_code 139 = .ok (.lload_n 1, 1) := by decide +kernel
theorem dM_isStatement_140 : decode prog_11_method_15_code 140 = .ok (.ldc2_w 164, 3) := by decide +kernel
theorem dM_isStatement_143 : decode prog_11_method_15_code 143 = .ok (.lcmp, 1) := by decide +kernel
theorem dM_isStatement_144 : decode prog_11_method_15_code 144 = .ok (.ifCond .ne 33, 3) := by decide +kernel
theorem dM_isStatement_147 : decode prog_11_method_15_code 147 = .ok (.aload_n 0, 1) := by decide +kernel
theorem dM_isStatement_148 : decode prog_11_method_15_code 148 = .ok (.getfield 102, 3) := by decide +kernel
theorem dM_isStatement_151 : decode prog_11_method_15_code 151 = .ok (.iconst 3, 1) := by decide +kernel
theorem dM_isStatement_152 : decode prog_11_method_15_code 152 = .ok (.if_icmp .ne 23, 3) := by decide +kernel
theorem dM_isStatement_155 : decode prog_11_method_15_code 155 = .ok (.aload_n 0, 1) := by decide +kernel
theorem dM_isStatement_156 : decode prog_11_method_15_code 156 = .ok (.iconst 1, 1) := by decide +kernel
theorem dM_isStatement_157 : decode prog_11_method_15_code 157 = .ok (.invokevirtual 151, 3) := by decide +kernel
theorem dM_isStatement_160 : decode prog_11_method_15_code 160 = .ok (.ifCond .eq 15, 3) := by decide +kernel
theorem dM_isStatement_163 : decode prog_11_method_15_code 163 = .ok (.aload_n 0, 1) := by decide +kernel
theorem dM_isStatement_164 : decode prog_11_method_15_code 164 = .ok (.iconst 2, 1) := by decide +kernel
theorem dM_isStatement_165 : decode prog_11_method_15_code 165 = .ok (.invokevirtual 151, 3) := by decide +kernel
theorem dM_isStatement_168 : decode prog_11_method_15_code 168 = .ok (.ifCond .eq 7, 3) := by decide +kernel
theorem dM_isStatement_171 : decode prog_11_method_15_code 171 = .ok (.iconst 1, 1) := by decide +kernel
theorem dM_isStatement_172 : decode prog_11_method_15_code 172 = .ok (.goto 4, 3) := by decide +kernel
theorem dM_isStatement_175 : decode prog_11_method_15_code 175 = .ok (.iconst 0, 1) := by decide +kernel
theorem dM_isStatement_176 : decode prog_11_method_15_code 176 = .ok (.ireturn, 1) := by decide +kernel
theorem dM_isStatement_177 : decode prog_11_method_15_code 177 = .ok (.lload_n 1, 1) := by decide +kernel
theorem dM_isStatement_178 : decode prog_11_method_15_code 178 = .ok (.ldc2_w 166, 3) := by decide +kernel
theorem dM_isStatement_181 : decode prog_11_method_15_code 181 = .ok (.lcmp, 1) := by decide +kernel
theorem dM_isStatement_182 : decode prog_11_method_15_code 182 = .ok (.ifCond .eq 11, 3) := by decide +kernel
theorem dM_isStatement_185 : decode prog_11_method_15_code 185 = .ok (.lload_n 1, 1) := by decide +kernel
theorem dM_isStatement_186 : decode prog_11_method_15_code 186 = .ok (.ldc2_w 168, 3) := by decide +kernel
theorem dM_isStatement_189 : decode prog_11_method_15_code 189 = .ok (.lcmp, 1) := by decide +kernel
theorem dM_isStatement_190 : decode prog_11_method_15_code 190 = .ok (.ifCond .ne 41, 3) := by decide +kernel
theorem dM_isStatement_193 : decode prog_11_method_15_code 193 = .ok (.aload_n 0, 1) := by decide +kernel
theorem dM_isStatement_194 : decode prog_11_method_15_code 194 = .ok (.getfield 102, 3) := by decide +kernel
theorem dM_isStatement_197 : decode prog_11_method_15_code 197 = .ok (.iconst 4, 1) := by decide +kernel
theorem dM_isStatement_198 : decode prog_11_method_15_code 198 = .ok (.if_icmp .ne 31, 3) := by decide +kernel
theorem dM_isStatement_201 : decode prog_11_method_15_code 201 = .ok (.aload_n 0, 1) := by decide +kernel
theorem dM_isStatement_202 : decode prog_11_method_15_code 202 = .ok (.iconst 1, 1) := by decide +kernel
theorem dM_isStatement_203 : decode prog_11_method_15_code 203 = .ok (.invokevirtual 115, 3) := by decide +kernel
theorem dM_isStatement_206 : decode prog_11_method_15_code 206 = .ok (.ifCond .eq 23, 3) := by decide +kernel
theorem dM_isStatement_209 : decode prog_11_method_15_code 209 = .ok (.aload_n 0, 1) := by decide +kernel
theorem dM_isStatement_210 : decode prog_11_method_15_code 210 = .ok (.iconst 2, 1) := by decide +kernel
theorem dM_isStatement_211 : decode prog_11_method_15_code 211 = .ok (.invokevirtual 151, 3) := by decide +kernel
theorem dM_isStatement_214 : decode prog_11_method_15_code 214 = .ok (.ifCond .eq 15, 3) := by decide +kernel
theorem dM_isStatement_217 : decode prog_11_method_15_code 217 = .ok (.aload_n 0, 1) := by decide +kernel
theorem dM_isStatement_218 : decode prog_11_method_15_code 218 = .ok (.iconst 3, 1) := by decide +kernel
theorem dM_isStatement_219 : decode prog_11_method_15_code 219 = .ok (.invokevirtual 151, 3) := by decide +kernel
theorem dM_isStatement_222 : decode prog_11_method_15_code 222 = .ok (.ifCond .eq 7, 3) := by decide +kernel
theorem dM_isStatement_225 : decode prog_11_method_15_code 225 = .ok (.iconst 1, 1) := by decide +kernel
theorem dM_isStatement_226 : decode prog_11_method_15_code 226 = .ok (.goto 4, 3) := by decide +kernel
theorem dM_isStatement_229 : decode prog_11_method_15_code 229 = .ok (.iconst 0, 1) := by decide +kernel
theorem dM_isStatement_230 : decode prog_11_method_15_code 230 = .ok (.ireturn, 1) := by decide +kernel
theorem dM_isStatement_231 : decode prog_11_method_15_code 231 = .ok (.lload_n 1, 1) := by decide +kernel
theorem dM_isStatement_232 : decode prog_11_method_15_code 232 = .ok (.ldc2_w 170, 3) := by decide +kernel
theorem dM_isStatement_235 : decode prog_11_method_15_code 235 = .ok (.lcmp, 1) := by decide +kernel
theorem dM_isStatement_236 : decode prog_11_method_15_code 236 = .ok (.ifCond .eq 27, 3) := by decide +kernel
theorem dM_isStatement_239 : decode prog_11_method_15_code 239 = .ok (.lload_n 1, 1) := by decide +kernel
theorem dM_isStatement_240 : decode prog_11_method_15_code 240 = .ok (.ldc2_w 172, 3) := by decide +kernel
theorem dM_isStatement_243 : decode prog_11_method_15_code 243 = .ok (.lcmp, 1) := by decide +kernel
theorem dM_isStatement_244 : decode prog_11_method_15_code 244 = .ok (.ifCond .eq 19, 3) := by decide +kernel
theorem dM_isStatement_247 : decode prog_11_method_15_code 247 = .ok (.lload_n 1, 1) := by decide +kernel
theorem dM_isStatement_248 : decode prog_11_method_15_code 248 = .ok (.ldc2_w 174, 3) := by decide +kernel
theorem dM_isStatement_251 : decode prog_11_method_15_code 251 = .ok (.lcmp, 1) := by decide +kernel
theorem dM_isStatement_252 : decode prog_11_method_15_code 252 = .ok (.ifCond .eq 11, 3) := by decide +kernel
theorem dM_isStatement_255 : decode prog_11_method_15_code 255 = .ok (.lload_n 1, 1) := by decide +kernel
theorem dM_isStatement_256 : decode prog_11_method_15_code 256 = .ok (.ldc2_w 176, 3) := by decide +kernel
theorem dM_isStatement_259 : decode prog_11_method_15_code 259 = .ok (.lcmp, 1) := by decide +kernel
theorem dM_isStatement_260 : decode prog_11_method_15_code 260 = .ok (.ifCond .ne 25, 3) := by decide +kernel
theorem dM_isStatement_263 : decode prog_11_method_15_code 263 = .ok (.aload_n 0, 1) := by decide +kernel
theorem dM_isStatement_264 : decode prog_11_method_15_code 264 = .ok (.getfield 102, 3) := by decide +kernel
theorem dM_isStatement_267 : decode prog_11_method_15_code 267 = .ok (.iconst 2, 1) := by decide +kernel
theorem dM_isStatement_268 : decode prog_11_method_15_code 268 = .ok (.if_icmp .ne 15, 3) := by decide +kernel
theorem dM_isStatement_271 : decode prog_11_method_15_code 271 = .ok (.aload_n 0, 1) := by decide +kernel
theorem dM_isStatement_272 : decode prog_11_method_15_code 272 = .ok (.iconst 1, 1) := by decide +kernel
theorem dM_isStatement_273 : decode prog_11_method_15_code 273 = .ok (.invokevirtual 151, 3) := by decide +kernel
theorem dM_isStatement_276 : decode prog_11_method_15_code 276 = .ok (.ifCond .eq 7, 3) := by decide +kernel
theorem dM_isStatement_279 : decode prog_11_method_15_code 279 = .ok (.iconst 1, 1) := by decide +kernel
theorem dM_isStatement_280 : decode prog_11_method_15_code 280 = .ok (.goto 4, 3) := by decide +kernel
theorem dM_isStatement_283 : decode prog_11_method_15_code 283 = .ok (.iconst 0, 1) := by decide +kernel
theorem dM_isStatement_284 : decode prog_11_method_15_code 284 = .ok (.ireturn, 1) := by decide +kernel
theorem dM_isStatement_285 : decode prog_11_method_15_code 285 = .ok (.lload_n 1, 1) := by decide +kernel
theorem dM_isStatement_286 : decode prog_11_method_15_code 286 = .ok (.ldc2_w 178, 3) := by decide +kernel
theorem dM_isStatement_289 : decode prog_11_method_15_code 289 = .ok (.lcmp, 1) := by decide +kernel
theorem dM_isStatement_290 : decode prog_11_method_15_code 290 = .ok (.ifCond .eq 11, 3) := by decide +kernel
theorem dM_isStatement_293 : decode prog_11_method_15_code 293 = .ok (.lload_n 1, 1) := by decide +kernel
theorem dM_isStatement_294 : decode prog_11_method_15_code 294 = .ok (.ldc2_w 180, 3) := by decide +kernel
theorem dM_isStatement_297 : decode prog_11_method_15_code 297 = .ok (.lcmp, 1) := by decide +kernel
theorem dM_isStatement_298 : decode prog_11_method_15_code 298 = .ok (.ifCond .ne 25, 3) := by decide +kernel
theorem dM_isStatement_301 : decode prog_11_method_15_code 301 = .ok (.aload_n 0, 1) := by decide +kernel
theorem dM_isStatement_302 : decode prog_11_method_15_code 302 = .ok (.getfield 102, 3) := by decide +kernel
theorem dM_isStatement_305 : decode prog_11_method_15_code 305 = .ok (.iconst 2, 1) := by decide +kernel
theorem dM_isStatement_306 : decode prog_11_method_15_code 306 = .ok (.if_icmp .ne 15, 3) := by decide +kernel
theorem dM_isStatement_309 : decode prog_11_method_15_code 309 = .ok (.aload_n 0, 1) := by decide +kernel
theorem dM_isStatement_310 : decode prog_11_method_15_code 310 = .ok (.iconst 1, 1) := by decide +kernel
theorem dM_isStatement_311 : decode prog_11_method_15_code 311 = .ok (.invokevirtual 182, 3) := by decide +kernel
theorem dM_isStatement_314 : decode prog_11_method_15_code 314 = .ok (.ifCond .eq 7, 3) := by decide +kernel
theorem dM_isStatement_317 : decode prog_11_method_15_code 317 = .ok (.iconst 1, 1) := by decide +kernel
theorem dM_isStatement_318 : decode prog_11_method_15_code 318 = .ok (.goto 4, 3) := by decide +kernel
theorem dM_isStatement_321 : decode prog_11_method_15_code 321 = .ok (.iconst 0, 1) := by decide +kernel
theorem dM_isStatement_322 : decode prog_11_method_15_code 322 = .ok (.ireturn, 1) := by decide +kernel
theorem dM_isStatement_323 : decode prog_11_method_15_code 323 = .ok (.lload_n 1, 1) := by decide +kernel
theorem dM_isStatement_324 : decode prog_11_method_15_code 324 = .ok (.ldc2_w 185, 3) := by decide +kernel
theorem dM_isStatement_327 : decode prog_11_method_15_code 327 = .ok (.lcmp, 1) := by decide +kernel
theorem dM_isStatement_328 : decode prog_11_method_15_code 328 = .ok (.ifCond .ne 63, 3) := by decide +kernel
theorem dM_isStatement_331 : decode prog_11_method_15_code 331 = .ok (.aload_n 0, 1) := by decide +kernel
theorem dM_isStatement_332 : decode prog_11_method_15_code 332 = .ok (.getfield 102, 3) := by decide +kernel
theorem dM_isStatement_335 : decode prog_11_method_15_code 335 = .ok (.bipush 6, 2) := by decide +kernel
theorem dM_isStatement_337 : decode prog_11_method_15_code 337 = .ok (.if_icmp .ne 52, 3) := by decide +kernel
theorem dM_isStatement_340 : decode prog_11_method_15_code 340 = .ok (.aload_n 0, 1) := by decide +kernel
theorem dM_isStatement_341 : decode prog_11_method_15_code 341 = .ok (.iconst 1, 1) := by decide +kernel
theorem dM_isStatement_342 : decode prog_11_method_15_code 342 = .ok (.invokevirtual 151, 3) := by decide +kernel
theorem dM_isStatement_345 : decode prog_11_method_15_code 345 = .ok (.ifCond .eq 44, 3) := by decide +kernel
theorem dM_isStatement_348 : decode prog_11_method_15_code 348 = .ok (.aload_n 0, 1) := by decide +kernel
theorem dM_isStatement_349 : decode prog_11_method_15_code 349 = .ok (.iconst 2, 1) := by decide +kernel
theorem dM_isStatement_350 : decode prog_11_method_15_code 350 = .ok (.invokevirtual 187, 3) := by decide +kernel
theorem dM_isStatement_353 : decode prog_11_method_15_code 353 = .ok (.ifCond .eq 36, 3) := by decide +kernel
theorem dM_isStatement_356 : decode prog_11_method_15_code 356 = .ok (.aload_n 0, 1) := by decide +kernel
theorem dM_isStatement_357 : decode prog_11_method_15_code 357 = .ok (.iconst 3, 1) := by decide +kernel
theorem dM_isStatement_358 : decode prog_11_method_15_code 358 = .ok (.invokevirtual 151, 3) := by decide +kernel
theorem dM_isStatement_361 : decode prog_11_method_15_code 361 = .ok (.ifCond .eq 28, 3) := by decide +kernel
theorem dM_isStatement_364 : decode prog_11_method_15_code 364 = .ok (.aload_n 0, 1) := by decide +kernel
theorem dM_isStatement_365 : decode prog_11_method_15_code 365 = .ok (.getfield 32, 3) := by decide +kernel
theorem dM_isStatement_368 : decode prog_11_method_15_code 368 = .ok (.iconst 4, 1) := by decide +kernel
theorem dM_isStatement_369 : decode prog_11_method_15_code 369 = .ok (.laload, 1) := by decide +kernel
theorem dM_isStatement_370 : decode prog_11_method_15_code 370 = .ok (.ldc2_w 178, 3) := by decide +kernel
theorem dM_isStatement_373 : decode prog_11_method_15_code 373 = .ok (.lcmp, 1) := by decide +kernel
theorem dM_isStatement_374 : decode prog_11_method_15_code 374 = .ok (.ifCond .ne 15, 3) := by decide +kernel
theorem dM_isStatement_377 : decode prog_11_method_15_code 377 = .ok (.aload_n 0, 1) := by decide +kernel
theorem dM_isStatement_378 : decode prog_11_method_15_code 378 = .ok (.iconst 5, 1) := by decide +kernel
theorem dM_isStatement_379 : decode prog_11_method_15_code 379 = .ok (.invokevirtual 182, 3) := by decide +kernel
theorem dM_isStatement_382 : decode prog_11_method_15_code 382 = .ok (.ifCond .eq 7, 3) := by decide +kernel
theorem dM_isStatement_385 : decode prog_11_method_15_code 385 = .ok (.iconst 1, 1) := by decide +kernel
theorem dM_isStatement_386 : decode prog_11_method_15_code 386 = .ok (.goto 4, 3) := by decide +kernel
theorem dM_isStatement_389 : decode prog_11_method_15_code 389 = .ok (.iconst 0, 1) := by decide +kernel
theorem dM_isStatement_390 : decode prog_11_method_15_code 390 = .ok (.ireturn, 1) := by decide +kernel
theorem dM_isStatement_391 : decode prog_11_method_15_code 391 = .ok (.lload_n 1, 1) := by decide +kernel
theorem dM_isStatement_392 : decode prog_11_method_15_code 392 = .ok (.ldc2_w 190, 3) := by decide +kernel
theorem dM_isStatement_395 : decode prog_11_method_15_code 395 = .ok (.lcmp, 1) := by decide +kernel
theorem dM_isStatement_396 : decode prog_11_method_15_code 396 = .ok (.ifCond .ne 15, 3) := by decide +kernel
theorem dM_isStatement_399 : decode prog_11_method_15_code 399 = .ok (.aload_n 0, 1) := by decide +kernel
theorem dM_isStatement_400 : decode prog_11_method_15_code 400 = .ok (.getfield 102, 3) := by decide +kernel
theorem dM_isStatement_403 : decode prog_11_method_15_code 403 = .ok (.iconst 1, 1) := by decide +kernel
theorem dM_isStatement_404 : decode prog_11_method_15_code 404 = .ok (.if_icmp .ne 7, 3) := by decide +kernel
theorem dM_isStatement_407 : decode prog_11_method_15_code 407 = .ok (.iconst 1, 1) := by decide +kernel
theorem dM_isStatement_408 : decode prog_11_method_15_code 408 = .ok (.goto 4, 3) := by decide +kernel
theorem dM_isStatement_411 : decode prog_11_method_15_code 411 = .ok (.iconst 0, 1) := by decide +kernel
theorem dM_isStatement_412 : decode prog_11_method_15_code 412 = .ok (.ireturn, 1) := by decide +kernel
abbrev rm_M_isStatement : Room := { frames := 3, cells := 0, slots := 0, locals := 66 }
def f_M_isStatement_b412 (N : Nat) (E : hE) (t0 : Int32) : Option (Int32) := (
  (bZ t0).bind fun v412 =>
  some v412)
set_option maxHeartbeats 4000000 in
set_option maxRecDepth 100000 in
theorem b_M_isStatement_412 {p : Program} {l : Launch} {e : Env} {s : State} {m : MethodId} {args : Array Value} {below : List Frame} {meth : Method} {c : Code} {D : va_G} {kA : Nat → ClassId} {S : hE} {g : Nat → Nat} {n0 nx : Nat} {N : Nat} {E : hE} {res : Int32} (C : hX p s m args c prog_11_method_15_code 3 R_M ws_M_isStatement D kA S g n0) (hr : meth.sig.returnType = (some .boolean)) (hlk : meth.locks = false) (hnm : meth.name = "isStatement") : ∀ (t0 : Int32) (H : Heap) (locs : List Loc) (ls : Array Slot), hY D kA n0 s E nx H locs → lv_has ls 3 [] → f_M_isStatement_b412 N E  t0 = some res → W p l e rm_M_isStatement s m args below meth c H locs 0 0 (MQ below (va_Qi (fun r w => r = res ∧ w = (E, nx)) (hJ D kA S g n0) (fun q => n0 ≤ q)) args s 0 0 (fun q => n0 ≤ q)) (F0 m 412 ls [.int t0]) := by
  intro t0 H locs ls M hl hf
  unfold f_M_isStatement_b412 at hf
  obtain ⟨v412, h412, hf⟩ := Option.bind_eq_some_iff.mp hf
  obtain ⟨rfl, g412⟩ := bZ_some h412
  cases hf
  exact w_iret C M hr hlk (narrow_z g412) (Nat.le_refl _) (Nat.le_refl _) dM_isStatement_412 rfl rfl
def f_M_isStatement_b411 (N : Nat) (E : hE) : Option (Int32) := (
  f_M_isStatement_b412 N E 0)
set_option maxHeartbeats 4000000 in
set_option maxRecDepth 100000 in
theorem b_M_isStatement_411 {p : Program} {l : Launch} {e : Env} {s : State} {m : MethodId} {args : Array Value} {below : List Frame} {meth : Method} {c : Code} {D : va_G} {kA : Nat → ClassId} {S : hE} {g : Nat → Nat} {n0 nx : Nat} {N : Nat} {E : hE} {res : Int32} (C : hX p s m args c prog_11_method_15_code 3 R_M ws_M_isStatement D kA S g n0) (hr : meth.sig.returnType = (some .boolean)) (hlk : meth.locks = false) (hnm : meth.name = "isStatement") : ∀  (H : Heap) (locs : List Loc) (ls : Array Slot), hY D kA n0 s E nx H locs → lv_has ls 3 [] → f_M_isStatement_b411 N E   = some res → W p l e rm_M_isStatement s m args below meth c H locs 0 0 (MQ below (va_Qi (fun r w => r = res ∧ w = (E, nx)) (hJ D kA S g n0) (fun q => n0 ≤ q)) args s 0 0 (fun q => n0 ≤ q)) (F0 m 411 ls []) := by
  intro  H locs ls M hl hf
  unfold f_M_isStatement_b411 at hf
  refine lv_iconst (v := 0) C.x C.b dM_isStatement_411 (by decide) ?_
  exact b_M_isStatement_412 C hr hlk hnm _ _ _ _ M (lv_sub hl [] rfl) hf
def f_M_isStatement_b390 (N : Nat) (E : hE) (t0 : Int32) : Option (Int32) := (
  (bZ t0).bind fun v390 =>
  some v390)
set_option maxHeartbeats 4000000 in
set_option maxRecDepth 100000 in
theorem b_M_isStatement_390 {p : Program} {l : Launch} {e : Env} {s : State} {m : MethodId} {args : Array Value} {below : List Frame} {meth : Method} {c : Code} {D : va_G} {kA : Nat → ClassId} {S : hE} {g : Nat → Nat} {n0 nx : Nat} {N : Nat} {E : hE} {res : Int32} (C : hX p s m args c prog_11_method_15_code 3 R_M ws_M_isStatement D kA S g n0) (hr : meth.sig.returnType = (some .boolean)) (hlk : meth.locks = false) (hnm : meth.name = "isStatement") : ∀ (t0 : Int32) (H : Heap) (locs : List Loc) (ls : Array Slot), hY D kA n0 s E nx H locs → lv_has ls 3 [] → f_M_isStatement_b390 N E  t0 = some res → W p l e rm_M_isStatement s m args below meth c H locs 0 0 (MQ below (va_Qi (fun r w => r = res ∧ w = (E, nx)) (hJ D kA S g n0) (fun q => n0 ≤ q)) args s 0 0 (fun q => n0 ≤ q)) (F0 m 390 ls [.int t0]) := by
  intro t0 H locs ls M hl hf
  unfold f_M_isStatement_b390 at hf
  obtain ⟨v390, h390, hf⟩ := Option.bind_eq_some_iff.mp hf
  obtain ⟨rfl, g390⟩ := bZ_some h390
  cases hf
  exact w_iret C M hr hlk (narrow_z g390) (Nat.le_refl _) (Nat.le_refl _) dM_isStatement_390 rfl rfl
def f_M_isStatement_b389 (N : Nat) (E : hE) : Option (Int32) := (
  f_M_isStatement_b390 N E 0)
set_option maxHeartbeats 4000000 in
set_option maxRecDepth 100000 in
theorem b_M_isStatement_389 {p : Program} {l : Launch} {e : Env} {s : State} {m : MethodId} {args : Array Value} {below : List Frame} {meth : Method} {c : Code} {D : va_G} {kA : Nat → ClassId} {S : hE} {g : Nat → Nat} {n0 nx : Nat} {N : Nat} {E : hE} {res : Int32} (C : hX p s m args c prog_11_method_15_code 3 R_M ws_M_isStatement D kA S g n0) (hr : meth.sig.returnType = (some .boolean)) (hlk : meth.locks = false) (hnm : meth.name = "isStatement") : ∀  (H : Heap) (locs : List Loc) (ls : Array Slot), hY D kA n0 s E nx H locs → lv_has ls 3 [] → f_M_isStatement_b389 N E   = some res → W p l e rm_M_isStatement s m args below meth c H locs 0 0 (MQ below (va_Qi (fun r w => r = res ∧ w = (E, nx)) (hJ D kA S g n0) (fun q => n0 ≤ q)) args s 0 0 (fun q => n0 ≤ q)) (F0 m 389 ls []) := by
  intro  H locs ls M hl hf
  unfold f_M_isStatement_b389 at hf
  refine lv_iconst (v := 0) C.x C.b dM_isStatement_389 (by decide) ?_
  exact b_M_isStatement_390 C hr hlk hnm _ _ _ _ M (lv_sub hl [] rfl) hf
def f_M_isStatement_b322 (N : Nat) (E : hE) (t0 : Int32) : Option (Int32) := (
  (bZ t0).bind fun v322 =>
  some v322)
set_option maxHeartbeats 4000000 in
set_option maxRecDepth 100000 in
theorem b_M_isStatement_322 {p : Program} {l : Launch} {e : Env} {s : State} {m : MethodId} {args : Array Value} {below : List Frame} {meth : Method} {c : Code} {D : va_G} {kA : Nat → ClassId} {S : hE} {g : Nat → Nat} {n0 nx : Nat} {N : Nat} {E : hE} {res : Int32} (C : hX p s m args c prog_11_method_15_code 3 R_M ws_M_isStatement D kA S g n0) (hr : meth.sig.returnType = (some .boolean)) (hlk : meth.locks = false) (hnm : meth.name = "isStatement") : ∀ (t0 : Int32) (H : Heap) (locs : List Loc) (ls : Array Slot), hY D kA n0 s E nx H locs → lv_has ls 3 [] → f_M_isStatement_b322 N E  t0 = some res → W p l e rm_M_isStatement s m args below meth c H locs 0 0 (MQ below (va_Qi (fun r w => r = res ∧ w = (E, nx)) (hJ D kA S g n0) (fun q => n0 ≤ q)) args s 0 0 (fun q => n0 ≤ q)) (F0 m 322 ls [.int t0]) := by
  intro t0 H locs ls M hl hf
  unfold f_M_isStatement_b322 at hf
  obtain ⟨v322, h322, hf⟩ := Option.bind_eq_some_iff.mp hf
  obtain ⟨rfl, g322⟩ := bZ_some h322
  cases hf
  exact w_iret C M hr hlk (narrow_z g322) (Nat.le_refl _) (Nat.le_refl _) dM_isStatement_322 rfl rfl
def f_M_isStatement_b321 (N : Nat) (E : hE) : Option (Int32) := (
  f_M_isStatement_b322 N E 0)
set_option maxHeartbeats 4000000 in
set_option maxRecDepth 100000 in
theorem b_M_isStatement_321 {p : Program} {l : Launch} {e : Env} {s : State} {m : MethodId} {args : Array Value} {below : List Frame} {meth : Method} {c : Code} {D : va_G} {kA : Nat → ClassId} {S : hE} {g : Nat → Nat} {n0 nx : Nat} {N : Nat} {E : hE} {res : Int32} (C : hX p s m args c prog_11_method_15_code 3 R_M ws_M_isStatement D kA S g n0) (hr : meth.sig.returnType = (some .boolean)) (hlk : meth.locks = false) (hnm : meth.name = "isStatement") : ∀  (H : Heap) (locs : List Loc) (ls : Array Slot), hY D kA n0 s E nx H locs → lv_has ls 3 [] → f_M_isStatement_b321 N E   = some res → W p l e rm_M_isStatement s m args below meth c H locs 0 0 (MQ below (va_Qi (fun r w => r = res ∧ w = (E, nx)) (hJ D kA S g n0) (fun q => n0 ≤ q)) args s 0 0 (fun q => n0 ≤ q)) (F0 m 321 ls []) := by
  intro  H locs ls M hl hf
  unfold f_M_isStatement_b321 at hf
  refine lv_iconst (v := 0) C.x C.b dM_isStatement_321 (by decide) ?_
  exact b_M_isStatement_322 C hr hlk hnm _ _ _ _ M (lv_sub hl [] rfl) hf
def f_M_isStatement_b301 (N : Nat) (E : hE) (y0 : Option Nat) : Option (Int32) := (
  (gI E y0 7 8).bind fun v302 =>
  if v302 = 2 then (
  (gO E y0 7).bind fun o311 =>
  (f_M_isLetter E o311.1 1).bind fun v311 =>
  if v311 = 0 then (
  f_M_isStatement_b321 N E 
  ) else (
  f_M_isStatement_b322 N E 1
  )
  ) else (
  f_M_isStatement_b321 N E 
  ))
set_option maxHeartbeats 4000000 in
set_option maxRecDepth 100000 in
theorem b_M_isStatement_301 {p : Program} {l : Launch} {e : Env} {s : State} {m : MethodId} {args : Array Value} {below : List Frame} {meth : Method} {c : Code} {D : va_G} {kA : Nat → ClassId} {S : hE} {g : Nat → Nat} {n0 nx : Nat} {N : Nat} {E : hE} {res : Int32} (C : hX p s m args c prog_11_method_15_code 3 R_M ws_M_isStatement D kA S g n0) (hr : meth.sig.returnType = (some .boolean)) (hlk : meth.locks = false) (hnm : meth.name = "isStatement") : ∀ (y0 : Option Nat) (H : Heap) (locs : List Loc) (ls : Array Slot), hY D kA n0 s E nx H locs → lv_has ls 3 [(0, va_rf y0)] → f_M_isStatement_b301 N E  y0 = some res → W p l e rm_M_isStatement s m args below meth c H locs 0 0 (MQ below (va_Qi (fun r w => r = res ∧ w = (E, nx)) (hJ D kA S g n0) (fun q => n0 ≤ q)) args s 0 0 (fun q => n0 ≤ q)) (F0 m 301 ls []) := by
  intro y0 H locs ls M hl hf
  unfold f_M_isStatement_b301 at hf
  refine w_aload_n C.x C.b dM_isStatement_301 rfl (lv_at hl 0 rfl) ?_
  obtain ⟨v302, h302, hf⟩ := Option.bind_eq_some_iff.mp hf
  refine w_getI C M h302 rfl (hm_in in_M) (by decide) (List.mem_cons_of_mem _ wm_731) rfl dM_isStatement_302 ?_
  refine lv_iconst (v := 2) C.x C.b dM_isStatement_305 (by decide) ?_
  refine lv_icmp_ne (tgt := 321) C.x C.b dM_isStatement_306 (by decide) (fun c306 => ?_) (fun c306 => ?_)
  · rw [if_neg c306] at hf
    exact b_M_isStatement_321 C hr hlk hnm _ _ _ M (lv_sub hl [] rfl) hf
  · rw [if_pos c306] at hf
    refine w_aload_n C.x C.b dM_isStatement_309 rfl (lv_at hl 0 rfl) ?_
    refine lv_iconst (v := 1) C.x C.b dM_isStatement_310 (by decide) ?_
    obtain ⟨o311, g311, hf⟩ := Option.bind_eq_some_iff.mp hf
    obtain ⟨v311, h311, hf⟩ := Option.bind_eq_some_iff.mp hf
    refine w_ci M (w_runV C M g311 rfl (c_M_isLetter h311) (cwV 1 C.ts (hgV wm_903 wm_905 sel_M_isLetter wm_6 wm_906) rfl rfl rfl (by decide +kernel) ⟨Nat.le_of_ble_eq_true rfl, Nat.le_of_ble_eq_true rfl⟩) rfl hl.1 rfl (Nat.zero_le _) dM_isStatement_311 ⟨Nat.le_refl _, Nat.le_refl _⟩) (fun H locs M => ?_)
    refine lv_if_eq (tgt := 321) C.x C.b dM_isStatement_314 (by decide) (fun c314 => ?_) (fun c314 => ?_)
    · rw [if_pos c314] at hf
      exact b_M_isStatement_321 C hr hlk hnm _ _ _ M (lv_sub hl [] rfl) hf
    · rw [if_neg c314] at hf
      refine lv_iconst (v := 1) C.x C.b dM_isStatement_317 (by decide) ?_
      refine lv_goto (tgt := 322) C.x C.b dM_isStatement_318 (by decide) ?_
      exact b_M_isStatement_322 C hr hlk hnm _ _ _ _ M (lv_sub hl [] rfl) hf
def f_M_isStatement_b284 (N : Nat) (E : hE) (t0 : Int32) : Option (Int32) := (
  (bZ t0).bind fun v284 =>
  some v284)
set_option maxHeartbeats 4000000 in
set_option maxRecDepth 100000 in
theorem b_M_isStatement_284 {p : Program} {l : Launch} {e : Env} {s : State} {m : MethodId} {args : Array Value} {below : List Frame} {meth : Method} {c : Code} {D : va_G} {kA : Nat → ClassId} {S : hE} {g : Nat → Nat} {n0 nx : Nat} {N : Nat} {E : hE} {res : Int32} (C : hX p s m args c prog_11_method_15_code 3 R_M ws_M_isStatement D kA S g n0) (hr : meth.sig.returnType = (some .boolean)) (hlk : meth.locks = false) (hnm : meth.name = "isStatement") : ∀ (t0 : Int32) (H : Heap) (locs : List Loc) (ls : Array Slot), hY D kA n0 s E nx H locs → lv_has ls 3 [] → f_M_isStatement_b284 N E  t0 = some res → W p l e rm_M_isStatement s m args below meth c H locs 0 0 (MQ below (va_Qi (fun r w => r = res ∧ w = (E, nx)) (hJ D kA S g n0) (fun q => n0 ≤ q)) args s 0 0 (fun q => n0 ≤ q)) (F0 m 284 ls [.int t0]) := by
  intro t0 H locs ls M hl hf
  unfold f_M_isStatement_b284 at hf
  obtain ⟨v284, h284, hf⟩ := Option.bind_eq_some_iff.mp hf
  obtain ⟨rfl, g284⟩ := bZ_some h284
  cases hf
  exact w_iret C M hr hlk (narrow_z g284) (Nat.le_refl _) (Nat.le_refl _) dM_isStatement_284 rfl rfl
def f_M_isStatement_b283 (N : Nat) (E : hE) : Option (Int32) := (
  f_M_isStatement_b284 N E 0)
set_option maxHeartbeats 4000000 in
set_option maxRecDepth 100000 in
theorem b_M_isStatement_283 {p : Program} {l : Launch} {e : Env} {s : State} {m : MethodId} {args : Array Value} {below : List Frame} {meth : Method} {c : Code} {D : va_G} {kA : Nat → ClassId} {S : hE} {g : Nat → Nat} {n0 nx : Nat} {N : Nat} {E : hE} {res : Int32} (C : hX p s m args c prog_11_method_15_code 3 R_M ws_M_isStatement D kA S g n0) (hr : meth.sig.returnType = (some .boolean)) (hlk : meth.locks = false) (hnm : meth.name = "isStatement") : ∀  (H : Heap) (locs : List Loc) (ls : Array Slot), hY D kA n0 s E nx H locs → lv_has ls 3 [] → f_M_isStatement_b283 N E   = some res → W p l e rm_M_isStatement s m args below meth c H locs 0 0 (MQ below (va_Qi (fun r w => r = res ∧ w = (E, nx)) (hJ D kA S g n0) (fun q => n0 ≤ q)) args s 0 0 (fun q => n0 ≤ q)) (F0 m 283 ls []) := by
  intro  H locs ls M hl hf
  unfold f_M_isStatement_b283 at hf
  refine lv_iconst (v := 0) C.x C.b dM_isStatement_283 (by decide) ?_
  exact b_M_isStatement_284 C hr hlk hnm _ _ _ _ M (lv_sub hl [] rfl) hf
def f_M_isStatement_b263 (N : Nat) (E : hE) (y0 : Option Nat) : Option (Int32) := (
  (gI E y0 7 8).bind fun v264 =>
  if v264 = 2 then (
  (gO E y0 7).bind fun o273 =>
  (f_M_isValue N E o273.1 1).bind fun v273 =>
  if v273 = 0 then (
  f_M_isStatement_b283 N E 
  ) else (
  f_M_isStatement_b284 N E 1
  )
  ) else (
  f_M_isStatement_b283 N E 
  ))
set_option maxHeartbeats 4000000 in
set_option maxRecDepth 100000 in
theorem b_M_isStatement_263 {p : Program} {l : Launch} {e : Env} {s : State} {m : MethodId} {args : Array Value} {below : List Frame} {meth : Method} {c : Code} {D : va_G} {kA : Nat → ClassId} {S : hE} {g : Nat → Nat} {n0 nx : Nat} {N : Nat} {E : hE} {res : Int32} (C : hX p s m args c prog_11_method_15_code 3 R_M ws_M_isStatement D kA S g n0) (hr : meth.sig.returnType = (some .boolean)) (hlk : meth.locks = false) (hnm : meth.name = "isStatement") : ∀ (y0 : Option Nat) (H : Heap) (locs : List Loc) (ls : Array Slot), hY D kA n0 s E nx H locs → lv_has ls 3 [(0, va_rf y0)] → f_M_isStatement_b263 N E  y0 = some res → W p l e rm_M_isStatement s m args below meth c H locs 0 0 (MQ below (va_Qi (fun r w => r = res ∧ w = (E, nx)) (hJ D kA S g n0) (fun q => n0 ≤ q)) args s 0 0 (fun q => n0 ≤ q)) (F0 m 263 ls []) := by
  intro y0 H locs ls M hl hf
  unfold f_M_isStatement_b263 at hf
  refine w_aload_n C.x C.b dM_isStatement_263 rfl (lv_at hl 0 rfl) ?_
  obtain ⟨v264, h264, hf⟩ := Option.bind_eq_some_iff.mp hf
  refine w_getI C M h264 rfl (hm_in in_M) (by decide) (List.mem_cons_of_mem _ wm_731) rfl dM_isStatement_264 ?_
  refine lv_iconst (v := 2) C.x C.b dM_isStatement_267 (by decide) ?_
  refine lv_icmp_ne (tgt := 283) C.x C.b dM_isStatement_268 (by decide) (fun c268 => ?_) (fun c268 => ?_)
  · rw [if_neg c268] at hf
    exact b_M_isStatement_283 C hr hlk hnm _ _ _ M (lv_sub hl [] rfl) hf
  · rw [if_pos c268] at hf
    refine w_aload_n C.x C.b dM_isStatement_271 rfl (lv_at hl 0 rfl) ?_
    refine lv_iconst (v := 1) C.x C.b dM_isStatement_272 (by decide) ?_
    obtain ⟨o273, g273, hf⟩ := Option.bind_eq_some_iff.mp hf
    obtain ⟨v273, h273, hf⟩ := Option.bind_eq_some_iff.mp hf
    refine w_ci M (w_runV C M g273 rfl (c_M_isValue h273) (cwV 1 C.ts (hgV wm_875 wm_877 sel_M_isValue wm_6 wm_878) rfl rfl rfl (by decide +kernel) ⟨Nat.le_of_ble_eq_true rfl, Nat.le_of_ble_eq_true rfl⟩) rfl hl.1 rfl (Nat.zero_le _) dM_isStatement_273 ⟨Nat.le_refl _, Nat.le_refl _⟩) (fun H locs M => ?_)
    refine lv_if_eq (tgt := 283) C.x C.b dM_isStatement_276 (by decide) (fun c276 => ?_) (fun c276 => ?_)
    · rw [if_pos c276] at hf
      exact b_M_isStatement_283 C hr hlk hnm _ _ _ M (lv_sub hl [] rfl) hf
    · rw [if_neg c276] at hf
      refine lv_iconst (v := 1) C.x C.b dM_isStatement_279 (by decide) ?_
      refine lv_goto (tgt := 284) C.x C.b dM_isStatement_280 (by decide) ?_
      exact b_M_isStatement_284 C hr hlk hnm _ _ _ _ M (lv_sub hl [] rfl) hf
def f_M_isStatement_b230 (N : Nat) (E : hE) (t0 : Int32) : Option (Int32) := (
  (bZ t0).bind fun v230 =>
  some v230)
set_option maxHeartbeats 4000000 in
set_option maxRecDepth 100000 in
theorem b_M_isStatement_230 {p : Program} {l : Launch} {e : Env} {s : State} {m : MethodId} {args : Array Value} {below : List Frame} {meth : Method} {c : Code} {D : va_G} {kA : Nat → ClassId} {S : hE} {g : Nat → Nat} {n0 nx : Nat} {N : Nat} {E : hE} {res : Int32} (C : hX p s m args c prog_11_method_15_code 3 R_M ws_M_isStatement D kA S g n0) (hr : meth.sig.returnType = (some .boolean)) (hlk : meth.locks = false) (hnm : meth.name = "isStatement") : ∀ (t0 : Int32) (H : Heap) (locs : List Loc) (ls : Array Slot), hY D kA n0 s E nx H locs → lv_has ls 3 [] → f_M_isStatement_b230 N E  t0 = some res → W p l e rm_M_isStatement s m args below meth c H locs 0 0 (MQ below (va_Qi (fun r w => r = res ∧ w = (E, nx)) (hJ D kA S g n0) (fun q => n0 ≤ q)) args s 0 0 (fun q => n0 ≤ q)) (F0 m 230 ls [.int t0]) := by
  intro t0 H locs ls M hl hf
  unfold f_M_isStatement_b230 at hf
  obtain ⟨v230, h230, hf⟩ := Option.bind_eq_some_iff.mp hf
  obtain ⟨rfl, g230⟩ := bZ_some h230
  cases hf
  exact w_iret C M hr hlk (narrow_z g230) (Nat.le_refl _) (Nat.le_refl _) dM_isStatement_230 rfl rfl
def f_M_isStatement_b229 (N : Nat) (E : hE) : Option (Int32) := (
  f_M_isStatement_b230 N E 0)
set_option maxHeartbeats 4000000 in
set_option maxRecDepth 100000 in
theorem b_M_isStatement_229 {p : Program} {l : Launch} {e : Env} {s : State} {m : MethodId} {args : Array Value} {below : List Frame} {meth : Method} {c : Code} {D : va_G} {kA : Nat → ClassId} {S : hE} {g : Nat → Nat} {n0 nx : Nat} {N : Nat} {E : hE} {res : Int32} (C : hX p s m args c prog_11_method_15_code 3 R_M ws_M_isStatement D kA S g n0) (hr : meth.sig.returnType = (some .boolean)) (hlk : meth.locks = false) (hnm : meth.name = "isStatement") : ∀  (H : Heap) (locs : List Loc) (ls : Array Slot), hY D kA n0 s E nx H locs → lv_has ls 3 [] → f_M_isStatement_b229 N E   = some res → W p l e rm_M_isStatement s m args below meth c H locs 0 0 (MQ below (va_Qi (fun r w => r = res ∧ w = (E, nx)) (hJ D kA S g n0) (fun q => n0 ≤ q)) args s 0 0 (fun q => n0 ≤ q)) (F0 m 229 ls []) := by
  intro  H locs ls M hl hf
  unfold f_M_isStatement_b229 at hf
  refine lv_iconst (v := 0) C.x C.b dM_isStatement_229 (by decide) ?_
  exact b_M_isStatement_230 C hr hlk hnm _ _ _ _ M (lv_sub hl [] rfl) hf
def f_M_isStatement_b193 (N : Nat) (E : hE) (y0 : Option Nat) : Option (Int32) := (
  (gI E y0 7 8).bind fun v194 =>
  if v194 = 4 then (
  (gO E y0 7).bind fun o203 =>
  (f_M_isRegister E o203.1 1).bind fun v203 =>
  if v203 = 0 then (
  f_M_isStatement_b229 N E 
  ) else (
  (gO E y0 7).bind fun o211 =>
  (f_M_isValue N E o211.1 2).bind fun v211 =>
  if v211 = 0 then (
  f_M_isStatement_b229 N E 
  ) else (
  (gO E y0 7).bind fun o219 =>
  (f_M_isValue N E o219.1 3).bind fun v219 =>
  if v219 = 0 then (
  f_M_isStatement_b229 N E 
  ) else (
  f_M_isStatement_b230 N E 1
  )
  )
  )
  ) else (
  f_M_isStatement_b229 N E 
  ))
set_option maxHeartbeats 4000000 in
set_option maxRecDepth 100000 in
theorem b_M_isStatement_193 {p : Program} {l : Launch} {e : Env} {s : State} {m : MethodId} {args : Array Value} {below : List Frame} {meth : Method} {c : Code} {D : va_G} {kA : Nat → ClassId} {S : hE} {g : Nat → Nat} {n0 nx : Nat} {N : Nat} {E : hE} {res : Int32} (C : hX p s m args c prog_11_method_15_code 3 R_M ws_M_isStatement D kA S g n0) (hr : meth.sig.returnType = (some .boolean)) (hlk : meth.locks = false) (hnm : meth.name = "isStatement") : ∀ (y0 : Option Nat) (H : Heap) (locs : List Loc) (ls : Array Slot), hY D kA n0 s E nx H locs → lv_has ls 3 [(0, va_rf y0)] → f_M_isStatement_b193 N E  y0 = some res → W p l e rm_M_isStatement s m args below meth c H locs 0 0 (MQ below (va_Qi (fun r w => r = res ∧ w = (E, nx)) (hJ D kA S g n0) (fun q => n0 ≤ q)) args s 0 0 (fun q => n0 ≤ q)) (F0 m 193 ls []) := by
  intro y0 H locs ls M hl hf
  unfold f_M_isStatement_b193 at hf
  refine w_aload_n C.x C.b dM_isStatement_193 rfl (lv_at hl 0 rfl) ?_
  obtain ⟨v194, h194, hf⟩ := Option.bind_eq_some_iff.mp hf
  refine w_getI C M h194 rfl (hm_in in_M) (by decide) (List.mem_cons_of_mem _ wm_731) rfl dM_isStatement_194 ?_
  refine lv_iconst (v := 4) C.x C.b dM_isStatement_197 (by decide) ?_
  refine lv_icmp_ne (tgt := 229) C.x C.b dM_isStatement_198 (by decide) (fun c198 => ?_) (fun c198 => ?_)
  · rw [if_neg c198] at hf
    exact b_M_isStatement_229 C hr hlk hnm _ _ _ M (lv_sub hl [] rfl) hf
  · rw [if_pos c198] at hf
    refine w_aload_n C.x C.b dM_isStatement_201 rfl (lv_at hl 0 rfl) ?_
    refine lv_iconst (v := 1) C.x C.b dM_isStatement_202 (by decide) ?_
    obtain ⟨o203, g203, hf⟩ := Option.bind_eq_some_iff.mp hf
    obtain ⟨v203, h203, hf⟩ := Option.bind_eq_some_iff.mp hf
    refine w_ci M (w_runV C M g203 rfl (c_M_isRegister h203) (cwV 1 C.ts (hgV wm_879 wm_881 sel_M_isRegister wm_6 wm_882) rfl rfl rfl (by decide +kernel) ⟨Nat.le_of_ble_eq_true rfl, Nat.le_of_ble_eq_true rfl⟩) rfl hl.1 rfl (Nat.zero_le _) dM_isStatement_203 ⟨Nat.le_refl _, Nat.le_refl _⟩) (fun H locs M => ?_)
    refine lv_if_eq (tgt := 229) C.x C.b dM_isStatement_206 (by decide) (fun c206 => ?_) (fun c206 => ?_)
    · rw [if_pos c206] at hf
      exact b_M_isStatement_229 C hr hlk hnm _ _ _ M (lv_sub hl [] rfl) hf
    · rw [if_neg c206] at hf
      refine w_aload_n C.x C.b dM_isStatement_209 rfl (lv_at hl 0 rfl) ?_
      refine lv_iconst (v := 2) C.x C.b dM_isStatement_210 (by decide) ?_
      obtain ⟨o211, g211, hf⟩ := Option.bind_eq_some_iff.mp hf
      obtain ⟨v211, h211, hf⟩ := Option.bind_eq_some_iff.mp hf
      refine w_ci M (w_runV C M g211 rfl (c_M_isValue h211) (cwV 1 C.ts (hgV wm_875 wm_877 sel_M_isValue wm_6 wm_878) rfl rfl rfl (by decide +kernel) ⟨Nat.le_of_ble_eq_true rfl, Nat.le_of_ble_eq_true rfl⟩) rfl hl.1 rfl (Nat.zero_le _) dM_isStatement_211 ⟨Nat.le_refl _, Nat.le_refl _⟩) (fun H locs M => ?_)
      refine lv_if_eq (tgt := 229) C.x C.b dM_isStatement_214 (by decide) (fun c214 => ?_) (fun c214 => ?_)
      · rw [if_pos c214] at hf
        exact b_M_isStatement_229 C hr hlk hnm _ _ _ M (lv_sub hl [] rfl) hf
      · rw [if_neg c214] at hf
        refine w_aload_n C.x C.b dM_isStatement_217 rfl (lv_at hl 0 rfl) ?_
        refine lv_iconst (v := 3) C.x C.b dM_isStatement_218 (by decide) ?_
        obtain ⟨o219, g219, hf⟩ := Option.bind_eq_some_iff.mp hf
        obtain ⟨v219, h219, hf⟩ := Option.bind_eq_some_iff.mp hf
        refine w_ci M (w_runV C M g219 rfl (c_M_isValue h219) (cwV 1 C.ts (hgV wm_875 wm_877 sel_M_isValue wm_6 wm_878) rfl rfl rfl (by decide +kernel) ⟨Nat.le_of_ble_eq_true rfl, Nat.le_of_ble_eq_true rfl⟩) rfl hl.1 rfl (Nat.zero_le _) dM_isStatement_219 ⟨Nat.le_refl _, Nat.le_refl _⟩) (fun H locs M => ?_)
        refine lv_if_eq (tgt := 229) C.x C.b dM_isStatement_222 (by decide) (fun c222 => ?_) (fun c222 => ?_)
        · rw [if_pos c222] at hf
          exact b_M_isStatement_229 C hr hlk hnm _ _ _ M (lv_sub hl [] rfl) hf
        · rw [if_neg c222] at hf
          refine lv_iconst (v := 1) C.x C.b dM_isStatement_225 (by decide) ?_
          refine lv_goto (tgt := 230) C.x C.b dM_isStatement_226 (by decide) ?_
          exact b_M_isStatement_230 C hr hlk hnm _ _ _ _ M (lv_sub hl [] rfl) hf
def f_M_isStatement_b176 (N : Nat) (E : hE) (t0 : Int32) : Option (Int32) := (
  (bZ t0).bind fun v176 =>
  some v176)
set_option maxHeartbeats 4000000 in
set_option maxRecDepth 100000 in
theorem b_M_isStatement_176 {p : Program} {l : Launch} {e : Env} {s : State} {m : MethodId} {args : Array Value} {below : List Frame} {meth : Method} {c : Code} {D : va_G} {kA : Nat → ClassId} {S : hE} {g : Nat → Nat} {n0 nx : Nat} {N : Nat} {E : hE} {res : Int32} (C : hX p s m args c prog_11_method_15_code 3 R_M ws_M_isStatement D kA S g n0) (hr : meth.sig.returnType = (some .boolean)) (hlk : meth.locks = false) (hnm : meth.name = "isStatement") : ∀ (t0 : Int32) (H : Heap) (locs : List Loc) (ls : Array Slot), hY D kA n0 s E nx H locs → lv_has ls 3 [] → f_M_isStatement_b176 N E  t0 = some res → W p l e rm_M_isStatement s m args below meth c H locs 0 0 (MQ below (va_Qi (fun r w => r = res ∧ w = (E, nx)) (hJ D kA S g n0) (fun q => n0 ≤ q)) args s 0 0 (fun q => n0 ≤ q)) (F0 m 176 ls [.int t0]) := by
  intro t0 H locs ls M hl hf
  unfold f_M_isStatement_b176 at hf
  obtain ⟨v176, h176, hf⟩ := Option.bind_eq_some_iff.mp hf
  obtain ⟨rfl, g176⟩ := bZ_some h176
  cases hf
  exact w_iret C M hr hlk (narrow_z g176) (Nat.le_refl _) (Nat.le_refl _) dM_isStatement_176 rfl rfl
def f_M_isStatement_b175 (N : Nat) (E : hE) : Option (Int32) := (
  f_M_isStatement_b176 N E 0)
set_option maxHeartbeats 4000000 in
set_option maxRecDepth 100000 in
theorem b_M_isStatement_175 {p : Program} {l : Launch} {e : Env} {s : State} {m : MethodId} {args : Array Value} {below : List Frame} {meth : Method} {c : Code} {D : va_G} {kA : Nat → ClassId} {S : hE} {g : Nat → Nat} {n0 nx : Nat} {N : Nat} {E : hE} {res : Int32} (C : hX p s m args c prog_11_method_15_code 3 R_M ws_M_isStatement D kA S g n0) (hr : meth.sig.returnType = (some .boolean)) (hlk : meth.locks = false) (hnm : meth.name = "isStatement") : ∀  (H : Heap) (locs : List Loc) (ls : Array Slot), hY D kA n0 s E nx H locs → lv_has ls 3 [] → f_M_isStatement_b175 N E   = some res → W p l e rm_M_isStatement s m args below meth c H locs 0 0 (MQ below (va_Qi (fun r w => r = res ∧ w = (E, nx)) (hJ D kA S g n0) (fun q => n0 ≤ q)) args s 0 0 (fun q => n0 ≤ q)) (F0 m 175 ls []) := by
  intro  H locs ls M hl hf
  unfold f_M_isStatement_b175 at hf
  refine lv_iconst (v := 0) C.x C.b dM_isStatement_175 (by decide) ?_
  exact b_M_isStatement_176 C hr hlk hnm _ _ _ _ M (lv_sub hl [] rfl) hf
def f_M_isStatement_b147 (N : Nat) (E : hE) (y0 : Option Nat) : Option (Int32) := (
  (gI E y0 7 8).bind fun v148 =>
  if v148 = 3 then (
  (gO E y0 7).bind fun o157 =>
  (f_M_isValue N E o157.1 1).bind fun v157 =>
  if v157 = 0 then (
  f_M_isStatement_b175 N E 
  ) else (
  (gO E y0 7).bind fun o165 =>
  (f_M_isValue N E o165.1 2).bind fun v165 =>
  if v165 = 0 then (
  f_M_isStatement_b175 N E 
  ) else (
  f_M_isStatement_b176 N E 1
  )
  )
  ) else (
  f_M_isStatement_b175 N E 
  ))
set_option maxHeartbeats 4000000 in
set_option maxRecDepth 100000 in
theorem b_M_isStatement_147 {p : Program} {l : Launch} {e : Env} {s : State} {m : MethodId} {args : Array Value} {below : List Frame} {meth : Method} {c : Code} {D : va_G} {kA : Nat → ClassId} {S : hE} {g : Nat → Nat} {n0 nx : Nat} {N : Nat} {E : hE} {res : Int32} (C : hX p s m args c prog_11_method_15_code 3 R_M ws_M_isStatement D kA S g n0) (hr : meth.sig.returnType = (some .boolean)) (hlk : meth.locks = false) (hnm : meth.name = "isStatement") : ∀ (y0 : Option Nat) (H : Heap) (locs : List Loc) (ls : Array Slot), hY D kA n0 s E nx H locs → lv_has ls 3 [(0, va_rf y0)] → f_M_isStatement_b147 N E  y0 = some res → W p l e rm_M_isStatement s m args below meth c H locs 0 0 (MQ below (va_Qi (fun r w => r = res ∧ w = (E, nx)) (hJ D kA S g n0) (fun q => n0 ≤ q)) args s 0 0 (fun q => n0 ≤ q)) (F0 m 147 ls []) := by
  intro y0 H locs ls M hl hf
  unfold f_M_isStatement_b147 at hf
  refine w_aload_n C.x C.b dM_isStatement_147 rfl (lv_at hl 0 rfl) ?_
  obtain ⟨v148, h148, hf⟩ := Option.bind_eq_some_iff.mp hf
  refine w_getI C M h148 rfl (hm_in in_M) (by decide) (List.mem_cons_of_mem _ wm_731) rfl dM_isStatement_148 ?_
  refine lv_iconst (v := 3) C.x C.b dM_isStatement_151 (by decide) ?_
  refine lv_icmp_ne (tgt := 175) C.x C.b dM_isStatement_152 (by decide) (fun c152 => ?_) (fun c152 => ?_)
  · rw [if_neg c152] at hf
    exact b_M_isStatement_175 C hr hlk hnm _ _ _ M (lv_sub hl [] rfl) hf
  · rw [if_pos c152] at hf
    refine w_aload_n C.x C.b dM_isStatement_155 rfl (lv_at hl 0 rfl) ?_
    refine lv_iconst (v := 1) C.x C.b dM_isStatement_156 (by decide) ?_
    obtain ⟨o157, g157, hf⟩ := Option.bind_eq_some_iff.mp hf
    obtain ⟨v157, h157, hf⟩ := Option.bind_eq_some_iff.mp hf
    refine w_ci M (w_runV C M g157 rfl (c_M_isValue h157) (cwV 1 C.ts (hgV wm_875 wm_877 sel_M_isValue wm_6 wm_878) rfl rfl rfl (by decide +kernel) ⟨Nat.le_of_ble_eq_true rfl, Nat.le_of_ble_eq_true rfl⟩) rfl hl.1 rfl (Nat.zero_le _) dM_isStatement_157 ⟨Nat.le_refl _, Nat.le_refl _⟩) (fun H locs M => ?_)
    refine lv_if_eq (tgt := 175) C.x C.b dM_isStatement_160 (by decide) (fun c160 => ?_) (fun c160 => ?_)
    · rw [if_pos c160] at hf
      exact b_M_isStatement_175 C hr hlk hnm _ _ _ M (lv_sub hl [] rfl) hf
    · rw [if_neg c160] at hf
      refine w_aload_n C.x C.b dM_isStatement_163 rfl (lv_at hl 0 rfl) ?_
      refine lv_iconst (v := 2) C.x C.b dM_isStatement_164 (by decide) ?_
      obtain ⟨o165, g165, hf⟩ := Option.bind_eq_some_iff.mp hf
      obtain ⟨v165, h165, hf⟩ := Option.bind_eq_some_iff.mp hf
      refine w_ci M (w_runV C M g165 rfl (c_M_isValue h165) (cwV 1 C.ts (hgV wm_875 wm_877 sel_M_isValue wm_6 wm_878) rfl rfl rfl (by decide +kernel) ⟨Nat.le_of_ble_eq_true rfl, Nat.le_of_ble_eq_true rfl⟩) rfl hl.1 rfl (Nat.zero_le _) dM_isStatement_165 ⟨Nat.le_refl _, Nat.le_refl _⟩) (fun H locs M => ?_)
      refine lv_if_eq (tgt := 175) C.x C.b dM_isStatement_168 (by decide) (fun c168 => ?_) (fun c168 => ?_)
      · rw [if_pos c168] at hf
        exact b_M_isStatement_175 C hr hlk hnm _ _ _ M (lv_sub hl [] rfl) hf
      · rw [if_neg c168] at hf
        refine lv_iconst (v := 1) C.x C.b dM_isStatement_171 (by decide) ?_
        refine lv_goto (tgt := 176) C.x C.b dM_isStatement_172 (by decide) ?_
        exact b_M_isStatement_176 C hr hlk hnm _ _ _ _ M (lv_sub hl [] rfl) hf
def f_M_isStatement_b122 (N : Nat) (E : hE) (t0 : Int32) : Option (Int32) := (
  (bZ t0).bind fun v122 =>
  some v122)
set_option maxHeartbeats 4000000 in
set_option maxRecDepth 100000 in
theorem b_M_isStatement_122 {p : Program} {l : Launch} {e : Env} {s : State} {m : MethodId} {args : Array Value} {below : List Frame} {meth : Method} {c : Code} {D : va_G} {kA : Nat → ClassId} {S : hE} {g : Nat → Nat} {n0 nx : Nat} {N : Nat} {E : hE} {res : Int32} (C : hX p s m args c prog_11_method_15_code 3 R_M ws_M_isStatement D kA S g n0) (hr : meth.sig.returnType = (some .boolean)) (hlk : meth.locks = false) (hnm : meth.name = "isStatement") : ∀ (t0 : Int32) (H : Heap) (locs : List Loc) (ls : Array Slot), hY D kA n0 s E nx H locs → lv_has ls 3 [] → f_M_isStatement_b122 N E  t0 = some res → W p l e rm_M_isStatement s m args below meth c H locs 0 0 (MQ below (va_Qi (fun r w => r = res ∧ w = (E, nx)) (hJ D kA S g n0) (fun q => n0 ≤ q)) args s 0 0 (fun q => n0 ≤ q)) (F0 m 122 ls [.int t0]) := by
  intro t0 H locs ls M hl hf
  unfold f_M_isStatement_b122 at hf
  obtain ⟨v122, h122, hf⟩ := Option.bind_eq_some_iff.mp hf
  obtain ⟨rfl, g122⟩ := bZ_some h122
  cases hf
  exact w_iret C M hr hlk (narrow_z g122) (Nat.le_refl _) (Nat.le_refl _) dM_isStatement_122 rfl rfl
def f_M_isStatement_b121 (N : Nat) (E : hE) : Option (Int32) := (
  f_M_isStatement_b122 N E 0)
set_option maxHeartbeats 4000000 in
set_option maxRecDepth 100000 in
theorem b_M_isStatement_121 {p : Program} {l : Launch} {e : Env} {s : State} {m : MethodId} {args : Array Value} {below : List Frame} {meth : Method} {c : Code} {D : va_G} {kA : Nat → ClassId} {S : hE} {g : Nat → Nat} {n0 nx : Nat} {N : Nat} {E : hE} {res : Int32} (C : hX p s m args c prog_11_method_15_code 3 R_M ws_M_isStatement D kA S g n0) (hr : meth.sig.returnType = (some .boolean)) (hlk : meth.locks = false) (hnm : meth.name = "isStatement") : ∀  (H : Heap) (locs : List Loc) (ls : Array Slot), hY D kA n0 s E nx H locs → lv_has ls 3 [] → f_M_isStatement_b121 N E   = some res → W p l e rm_M_isStatement s m args below meth c H locs 0 0 (MQ below (va_Qi (fun r w => r = res ∧ w = (E, nx)) (hJ D kA S g n0) (fun q => n0 ≤ q)) args s 0 0 (fun q => n0 ≤ q)) (F0 m 121 ls []) := by
  intro  H locs ls M hl hf
  unfold f_M_isStatement_b121 at hf
  refine lv_iconst (v := 0) C.x C.b dM_isStatement_121 (by decide) ?_
  exact b_M_isStatement_122 C hr hlk hnm _ _ _ _ M (lv_sub hl [] rfl) hf
def f_M_isStatement_b93 (N : Nat) (E : hE) (y0 : Option Nat) : Option (Int32) := (
  (gI E y0 7 8).bind fun v94 =>
  if v94 = 3 then (
  (gO E y0 7).bind fun o103 =>
  (f_M_isRegister E o103.1 1).bind fun v103 =>
  if v103 = 0 then (
  f_M_isStatement_b121 N E 
  ) else (
  (gO E y0 7).bind fun o111 =>
  (f_M_isValue N E o111.1 2).bind fun v111 =>
  if v111 = 0 then (
  f_M_isStatement_b121 N E 
  ) else (
  f_M_isStatement_b122 N E 1
  )
  )
  ) else (
  f_M_isStatement_b121 N E 
  ))
set_option maxHeartbeats 4000000 in
set_option maxRecDepth 100000 in
theorem b_M_isStatement_93 {p : Program} {l : Launch} {e : Env} {s : State} {m : MethodId} {args : Array Value} {below : List Frame} {meth : Method} {c : Code} {D : va_G} {kA : Nat → ClassId} {S : hE} {g : Nat → Nat} {n0 nx : Nat} {N : Nat} {E : hE} {res : Int32} (C : hX p s m args c prog_11_method_15_code 3 R_M ws_M_isStatement D kA S g n0) (hr : meth.sig.returnType = (some .boolean)) (hlk : meth.locks = false) (hnm : meth.name = "isStatement") : ∀ (y0 : Option Nat) (H : Heap) (locs : List Loc) (ls : Array Slot), hY D kA n0 s E nx H locs → lv_has ls 3 [(0, va_rf y0)] → f_M_isStatement_b93 N E  y0 = some res → W p l e rm_M_isStatement s m args below meth c H locs 0 0 (MQ below (va_Qi (fun r w => r = res ∧ w = (E, nx)) (hJ D kA S g n0) (fun q => n0 ≤ q)) args s 0 0 (fun q => n0 ≤ q)) (F0 m 93 ls []) := by
  intro y0 H locs ls M hl hf
  unfold f_M_isStatement_b93 at hf
  refine w_aload_n C.x C.b dM_isStatement_93 rfl (lv_at hl 0 rfl) ?_
  obtain ⟨v94, h94, hf⟩ := Option.bind_eq_some_iff.mp hf
  refine w_getI C M h94 rfl (hm_in in_M) (by decide) (List.mem_cons_of_mem _ wm_731) rfl dM_isStatement_94 ?_
  refine lv_iconst (v := 3) C.x C.b dM_isStatement_97 (by decide) ?_
  refine lv_icmp_ne (tgt := 121) C.x C.b dM_isStatement_98 (by decide) (fun c98 => ?_) (fun c98 => ?_)
  · rw [if_neg c98] at hf
    exact b_M_isStatement_121 C hr hlk hnm _ _ _ M (lv_sub hl [] rfl) hf
  · rw [if_pos c98] at hf
    refine w_aload_n C.x C.b dM_isStatement_101 rfl (lv_at hl 0 rfl) ?_
    refine lv_iconst (v := 1) C.x C.b dM_isStatement_102 (by decide) ?_
    obtain ⟨o103, g103, hf⟩ := Option.bind_eq_some_iff.mp hf
    obtain ⟨v103, h103, hf⟩ := Option.bind_eq_some_iff.mp hf
    refine w_ci M (w_runV C M g103 rfl (c_M_isRegister h103) (cwV 1 C.ts (hgV wm_879 wm_881 sel_M_isRegister wm_6 wm_882) rfl rfl rfl (by decide +kernel) ⟨Nat.le_of_ble_eq_true rfl, Nat.le_of_ble_eq_true rfl⟩) rfl hl.1 rfl (Nat.zero_le _) dM_isStatement_103 ⟨Nat.le_refl _, Nat.le_refl _⟩) (fun H locs M => ?_)
    refine lv_if_eq (tgt := 121) C.x C.b dM_isStatement_106 (by decide) (fun c106 => ?_) (fun c106 => ?_)
    · rw [if_pos c106] at hf
      exact b_M_isStatement_121 C hr hlk hnm _ _ _ M (lv_sub hl [] rfl) hf
    · rw [if_neg c106] at hf
      refine w_aload_n C.x C.b dM_isStatement_109 rfl (lv_at hl 0 rfl) ?_
      refine lv_iconst (v := 2) C.x C.b dM_isStatement_110 (by decide) ?_
      obtain ⟨o111, g111, hf⟩ := Option.bind_eq_some_iff.mp hf
      obtain ⟨v111, h111, hf⟩ := Option.bind_eq_some_iff.mp hf
      refine w_ci M (w_runV C M g111 rfl (c_M_isValue h111) (cwV 1 C.ts (hgV wm_875 wm_877 sel_M_isValue wm_6 wm_878) rfl rfl rfl (by decide +kernel) ⟨Nat.le_of_ble_eq_true rfl, Nat.le_of_ble_eq_true rfl⟩) rfl hl.1 rfl (Nat.zero_le _) dM_isStatement_111 ⟨Nat.le_refl _, Nat.le_refl _⟩) (fun H locs M => ?_)
      refine lv_if_eq (tgt := 121) C.x C.b dM_isStatement_114 (by decide) (fun c114 => ?_) (fun c114 => ?_)
      · rw [if_pos c114] at hf
        exact b_M_isStatement_121 C hr hlk hnm _ _ _ M (lv_sub hl [] rfl) hf
      · rw [if_neg c114] at hf
        refine lv_iconst (v := 1) C.x C.b dM_isStatement_117 (by decide) ?_
        refine lv_goto (tgt := 122) C.x C.b dM_isStatement_118 (by decide) ?_
        exact b_M_isStatement_122 C hr hlk hnm _ _ _ _ M (lv_sub hl [] rfl) hf
def f_M_isStatement_b68 (N : Nat) (E : hE) (t0 : Int32) : Option (Int32) := (
  (bZ t0).bind fun v68 =>
  some v68)
set_option maxHeartbeats 4000000 in
set_option maxRecDepth 100000 in
theorem b_M_isStatement_68 {p : Program} {l : Launch} {e : Env} {s : State} {m : MethodId} {args : Array Value} {below : List Frame} {meth : Method} {c : Code} {D : va_G} {kA : Nat → ClassId} {S : hE} {g : Nat → Nat} {n0 nx : Nat} {N : Nat} {E : hE} {res : Int32} (C : hX p s m args c prog_11_method_15_code 3 R_M ws_M_isStatement D kA S g n0) (hr : meth.sig.returnType = (some .boolean)) (hlk : meth.locks = false) (hnm : meth.name = "isStatement") : ∀ (t0 : Int32) (H : Heap) (locs : List Loc) (ls : Array Slot), hY D kA n0 s E nx H locs → lv_has ls 3 [] → f_M_isStatement_b68 N E  t0 = some res → W p l e rm_M_isStatement s m args below meth c H locs 0 0 (MQ below (va_Qi (fun r w => r = res ∧ w = (E, nx)) (hJ D kA S g n0) (fun q => n0 ≤ q)) args s 0 0 (fun q => n0 ≤ q)) (F0 m 68 ls [.int t0]) := by
  intro t0 H locs ls M hl hf
  unfold f_M_isStatement_b68 at hf
  obtain ⟨v68, h68, hf⟩ := Option.bind_eq_some_iff.mp hf
  obtain ⟨rfl, g68⟩ := bZ_some h68
  cases hf
  exact w_iret C M hr hlk (narrow_z g68) (Nat.le_refl _) (Nat.le_refl _) dM_isStatement_68 rfl rfl
def f_M_isStatement_b67 (N : Nat) (E : hE) : Option (Int32) := (
  f_M_isStatement_b68 N E 0)
set_option maxHeartbeats 4000000 in
set_option maxRecDepth 100000 in
theorem b_M_isStatement_67 {p : Program} {l : Launch} {e : Env} {s : State} {m : MethodId} {args : Array Value} {below : List Frame} {meth : Method} {c : Code} {D : va_G} {kA : Nat → ClassId} {S : hE} {g : Nat → Nat} {n0 nx : Nat} {N : Nat} {E : hE} {res : Int32} (C : hX p s m args c prog_11_method_15_code 3 R_M ws_M_isStatement D kA S g n0) (hr : meth.sig.returnType = (some .boolean)) (hlk : meth.locks = false) (hnm : meth.name = "isStatement") : ∀  (H : Heap) (locs : List Loc) (ls : Array Slot), hY D kA n0 s E nx H locs → lv_has ls 3 [] → f_M_isStatement_b67 N E   = some res → W p l e rm_M_isStatement s m args below meth c H locs 0 0 (MQ below (va_Qi (fun r w => r = res ∧ w = (E, nx)) (hJ D kA S g n0) (fun q => n0 ≤ q)) args s 0 0 (fun q => n0 ≤ q)) (F0 m 67 ls []) := by
  intro  H locs ls M hl hf
  unfold f_M_isStatement_b67 at hf
  refine lv_iconst (v := 0) C.x C.b dM_isStatement_67 (by decide) ?_
  exact b_M_isStatement_68 C hr hlk hnm _ _ _ _ M (lv_sub hl [] rfl) hf
def f_M_isStatement_b47 (N : Nat) (E : hE) (y0 : Option Nat) : Option (Int32) := (
  (gO E y0 7).bind fun o49 =>
  (f_M_isRegister E o49.1 1).bind fun v49 =>
  if v49 = 0 then (
  f_M_isStatement_b67 N E 
  ) else (
  (gO E y0 7).bind fun o57 =>
  (f_M_isValue N E o57.1 2).bind fun v57 =>
  if v57 = 0 then (
  f_M_isStatement_b67 N E 
  ) else (
  f_M_isStatement_b68 N E 1
  )
  ))
set_option maxHeartbeats 4000000 in
set_option maxRecDepth 100000 in
theorem b_M_isStatement_47 {p : Program} {l : Launch} {e : Env} {s : State} {m : MethodId} {args : Array Value} {below : List Frame} {meth : Method} {c : Code} {D : va_G} {kA : Nat → ClassId} {S : hE} {g : Nat → Nat} {n0 nx : Nat} {N : Nat} {E : hE} {res : Int32} (C : hX p s m args c prog_11_method_15_code 3 R_M ws_M_isStatement D kA S g n0) (hr : meth.sig.returnType = (some .boolean)) (hlk : meth.locks = false) (hnm : meth.name = "isStatement") : ∀ (y0 : Option Nat) (H : Heap) (locs : List Loc) (ls : Array Slot), hY D kA n0 s E nx H locs → lv_has ls 3 [(0, va_rf y0)] → f_M_isStatement_b47 N E  y0 = some res → W p l e rm_M_isStatement s m args below meth c H locs 0 0 (MQ below (va_Qi (fun r w => r = res ∧ w = (E, nx)) (hJ D kA S g n0) (fun q => n0 ≤ q)) args s 0 0 (fun q => n0 ≤ q)) (F0 m 47 ls []) := by
  intro y0 H locs ls M hl hf
  unfold f_M_isStatement_b47 at hf
  refine w_aload_n C.x C.b dM_isStatement_47 rfl (lv_at hl 0 rfl) ?_
  refine lv_iconst (v := 1) C.x C.b dM_isStatement_48 (by decide) ?_
  obtain ⟨o49, g49, hf⟩ := Option.bind_eq_some_iff.mp hf
  obtain ⟨v49, h49, hf⟩ := Option.bind_eq_some_iff.mp hf
  refine w_ci M (w_runV C M g49 rfl (c_M_isRegister h49) (cwV 1 C.ts (hgV wm_879 wm_881 sel_M_isRegister wm_6 wm_882) rfl rfl rfl (by decide +kernel) ⟨Nat.le_of_ble_eq_true rfl, Nat.le_of_ble_eq_true rfl⟩) rfl hl.1 rfl (Nat.zero_le _) dM_isStatement_49 ⟨Nat.le_refl _, Nat.le_refl _⟩) (fun H locs M => ?_)
  refine lv_if_eq (tgt := 67) C.x C.b dM_isStatement_52 (by decide) (fun c52 => ?_) (fun c52 => ?_)
  · rw [if_pos c52] at hf
    exact b_M_isStatement_67 C hr hlk hnm _ _ _ M (lv_sub hl [] rfl) hf
  · rw [if_neg c52] at hf
    refine w_aload_n C.x C.b dM_isStatement_55 rfl (lv_at hl 0 rfl) ?_
    refine lv_iconst (v := 2) C.x C.b dM_isStatement_56 (by decide) ?_
    obtain ⟨o57, g57, hf⟩ := Option.bind_eq_some_iff.mp hf
    obtain ⟨v57, h57, hf⟩ := Option.bind_eq_some_iff.mp hf
    refine w_ci M (w_runV C M g57 rfl (c_M_isValue h57) (cwV 1 C.ts (hgV wm_875 wm_877 sel_M_isValue wm_6 wm_878) rfl rfl rfl (by decide +kernel) ⟨Nat.le_of_ble_eq_true rfl, Nat.le_of_ble_eq_true rfl⟩) rfl hl.1 rfl (Nat.zero_le _) dM_isStatement_57 ⟨Nat.le_refl _, Nat.le_refl _⟩) (fun H locs M => ?_)
    refine lv_if_eq (tgt := 67) C.x C.b dM_isStatement_60 (by decide) (fun c60 => ?_) (fun c60 => ?_)
    · rw [if_pos c60] at hf
      exact b_M_isStatement_67 C hr hlk hnm _ _ _ M (lv_sub hl [] rfl) hf
    · rw [if_neg c60] at hf
      refine lv_iconst (v := 1) C.x C.b dM_isStatement_63 (by decide) ?_
      refine lv_goto (tgt := 68) C.x C.b dM_isStatement_64 (by decide) ?_
      exact b_M_isStatement_68 C hr hlk hnm _ _ _ _ M (lv_sub hl [] rfl) hf
def f_M_isStatement (N : Nat) (E : hE) (x0 : Nat) : Option (Int32) := (
  (gR E (some x0) 7 9).bind fun v1 =>
  (aJ E v1 2 0).bind fun v5 =>
  if (lg_cmp v5 7103860) = 0 then (
  (gI E (some x0) 7 8).bind fun v16 =>
  if v16 = 3 then (
  f_M_isStatement_b47 N E (some x0)
  ) else (
  (gI E (some x0) 7 8).bind fun v24 =>
  if v24 = 5 then (
  (gO E (some x0) 7).bind fun o33 =>
  (f_M_isSign E o33.1 3).bind fun v33 =>
  if v33 = 0 then (
  f_M_isStatement_b67 N E 
  ) else (
  (gO E (some x0) 7).bind fun o41 =>
  (f_M_isValue N E o41.1 4).bind fun v41 =>
  if v41 = 0 then (
  f_M_isStatement_b67 N E 
  ) else (
  f_M_isStatement_b47 N E (some x0)
  )
  )
  ) else (
  f_M_isStatement_b67 N E 
  )
  )
  ) else (
  if (lg_cmp v5 6776180) = 0 then (
  f_M_isStatement_b93 N E (some x0)
  ) else (
  if (lg_cmp v5 1936292453) = 0 then (
  f_M_isStatement_b93 N E (some x0)
  ) else (
  if (lg_cmp v5 6386539) = 0 then (
  f_M_isStatement_b93 N E (some x0)
  ) else (
  if (lg_cmp v5 7370100) = 0 then (
  f_M_isStatement_b147 N E (some x0)
  ) else (
  if (lg_cmp v5 513020621925) = 0 then (
  f_M_isStatement_b147 N E (some x0)
  ) else (
  if (lg_cmp v5 1668247673) = 0 then (
  f_M_isStatement_b147 N E (some x0)
  ) else (
  if (lg_cmp v5 1919246692) = 0 then (
  f_M_isStatement_b193 N E (some x0)
  ) else (
  if (lg_cmp v5 7501166) = 0 then (
  f_M_isStatement_b193 N E (some x0)
  ) else (
  if (lg_cmp v5 1685221232) = 0 then (
  f_M_isStatement_b263 N E (some x0)
  ) else (
  if (lg_cmp v5 7304564) = 0 then (
  f_M_isStatement_b263 N E (some x0)
  ) else (
  if (lg_cmp v5 6648434) = 0 then (
  f_M_isStatement_b263 N E (some x0)
  ) else (
  if (lg_cmp v5 1702390132) = 0 then (
  f_M_isStatement_b263 N E (some x0)
  ) else (
  if (lg_cmp v5 26479) = 0 then (
  f_M_isStatement_b301 N E (some x0)
  ) else (
  if (lg_cmp v5 1667329132) = 0 then (
  f_M_isStatement_b301 N E (some x0)
  ) else (
  if (lg_cmp v5 26982) = 0 then (
  (gI E (some x0) 7 8).bind fun v332 =>
  if v332 = 6 then (
  (gO E (some x0) 7).bind fun o342 =>
  (f_M_isValue N E o342.1 1).bind fun v342 =>
  if v342 = 0 then (
  f_M_isStatement_b389 N E 
  ) else (
  (gO E (some x0) 7).bind fun o350 =>
  (f_M_isComparison E o350.1 2).bind fun v350 =>
  if v350 = 0 then (
  f_M_isStatement_b389 N E 
  ) else (
  (gO E (some x0) 7).bind fun o358 =>
  (f_M_isValue N E o358.1 3).bind fun v358 =>
  if v358 = 0 then (
  f_M_isStatement_b389 N E 
  ) else (
  (gR E (some x0) 7 9).bind fun v365 =>
  (aJ E v365 2 4).bind fun v369 =>
  if (lg_cmp v369 26479) = 0 then (
  (gO E (some x0) 7).bind fun o379 =>
  (f_M_isLetter E o379.1 5).bind fun v379 =>
  if v379 = 0 then (
  f_M_isStatement_b389 N E 
  ) else (
  f_M_isStatement_b390 N E 1
  )
  ) else (
  f_M_isStatement_b389 N E 
  )
  )
  )
  )
  ) else (
  f_M_isStatement_b389 N E 
  )
  ) else (
  if (lg_cmp v5 1650549611) = 0 then (
  (gI E (some x0) 7 8).bind fun v400 =>
  if v400 = 1 then (
  f_M_isStatement_b412 N E 1
  ) else (
  f_M_isStatement_b411 N E 
  )
  ) else (
  f_M_isStatement_b411 N E 
  )
  )
  )
  )
  )
  )
  )
  )
  )
  )
  )
  )
  )
  )
  )
  )
  ))
set_option maxHeartbeats 4000000 in
set_option maxRecDepth 100000 in
theorem c_M_isStatement {l : Launch} {D : va_G} {kA : Nat → ClassId} {S : hE} {g : Nat → Nat} {n0 nx : Nat} {N : Nat} {x0 : Nat} {E : hE} {res : Int32} (hf : f_M_isStatement N E x0 = some res) : Met l y_M_isStatement ws_M_isStatement rm_M_isStatement (va_Pc [va_rf (some x0)] (hJ D kA S g n0 (E, nx))) (va_Qi (fun r w => r = res ∧ w = (E, nx)) (hJ D kA S g n0) (fun q => n0 ≤ q)) 0 0 (fun q => n0 ≤ q) := by
  refine h_met (cc := prog_11_method_15_code) (maxL := 3) (ret := (some .boolean)) (lvs := [(0, va_rf (some x0))]) zZ_k (by decide) rfl (by simp [lg_sl, va_rf_cat, cat_i, cat_l, cat_n]) (by simp [lv_args, va_rf_cat, cat_i, cat_l, cat_n]) ?_
  intro p e s m below meth c ls C M hr hlk hnm hl
  unfold f_M_isStatement at hf
  refine w_aload_n C.x C.b dM_isStatement_0 rfl (lv_at hl 0 rfl) ?_
  obtain ⟨v1, h1, hf⟩ := Option.bind_eq_some_iff.mp hf
  refine w_getR C M h1 rfl (hm_in in_M) (by decide) (List.mem_cons_of_mem _ wm_732) rfl dM_isStatement_1 ?_
  refine lv_iconst (v := 0) C.x C.b dM_isStatement_4 (by decide) ?_
  obtain ⟨v5, h5, hf⟩ := Option.bind_eq_some_iff.mp hf
  refine w_lald C M h5 rfl dM_isStatement_5 ?_
  refine lv_lstore_n (lv' := [(1, .long v5), (0, va_rf (some x0))]) C.x C.b dM_isStatement_6 rfl hl (by decide) rfl (fun ls hl => ?_)
  refine lv_lload_n C.x C.b dM_isStatement_7 rfl (lv_at hl 0 rfl) ?_
  refine lv_ldc2 (v := 7103860) C.x C.b C.ow (C.ts (.constantLong R_M 146 7103860) (List.mem_cons_of_mem _ wm_860)) dM_isStatement_8 ?_
  refine W.lcmp C.x C.b dM_isStatement_11 ?_
  refine lv_if_ne (tgt := 69) C.x C.b dM_isStatement_12 (by decide) (fun c12 => ?_) (fun c12 => ?_)
  · rw [if_neg c12] at hf
    refine lv_lload_n C.x C.b dM_isStatement_69 rfl (lv_at hl 0 rfl) ?_
    refine lv_ldc2 (v := 6776180) C.x C.b C.ow (C.ts (.constantLong R_M 154 6776180) (List.mem_cons_of_mem _ wm_889)) dM_isStatement_70 ?_
    refine W.lcmp C.x C.b dM_isStatement_73 ?_
    refine lv_if_eq (tgt := 93) C.x C.b dM_isStatement_74 (by decide) (fun c74 => ?_) (fun c74 => ?_)
    · rw [if_pos c74] at hf
      exact b_M_isStatement_93 C hr hlk hnm _ _ _ _ M (lv_sub hl [1] rfl) hf
    · rw [if_neg c74] at hf
      refine lv_lload_n C.x C.b dM_isStatement_77 rfl (lv_at hl 0 rfl) ?_
      refine lv_ldc2 (v := 1936292453) C.x C.b C.ow (C.ts (.constantLong R_M 156 1936292453) (List.mem_cons_of_mem _ wm_890)) dM_isStatement_78 ?_
      refine W.lcmp C.x C.b dM_isStatement_81 ?_
      refine lv_if_eq (tgt := 93) C.x C.b dM_isStatement_82 (by decide) (fun c82 => ?_) (fun c82 => ?_)
      · rw [if_pos c82] at hf
        exact b_M_isStatement_93 C hr hlk hnm _ _ _ _ M (lv_sub hl [1] rfl) hf
      · rw [if_neg c82] at hf
        refine lv_lload_n C.x C.b dM_isStatement_85 rfl (lv_at hl 0 rfl) ?_
        refine lv_ldc2 (v := 6386539) C.x C.b C.ow (C.ts (.constantLong R_M 158 6386539) (List.mem_cons_of_mem _ wm_891)) dM_isStatement_86 ?_
        refine W.lcmp C.x C.b dM_isStatement_89 ?_
        refine lv_if_ne (tgt := 123) C.x C.b dM_isStatement_90 (by decide) (fun c90 => ?_) (fun c90 => ?_)
        · rw [if_neg c90] at hf
          refine lv_lload_n C.x C.b dM_isStatement_123 rfl (lv_at hl 0 rfl) ?_
          refine lv_ldc2 (v := 7370100) C.x C.b C.ow (C.ts (.constantLong R_M 160 7370100) (List.mem_cons_of_mem _ wm_892)) dM_isStatement_124 ?_
          refine W.lcmp C.x C.b dM_isStatement_127 ?_
          refine lv_if_eq (tgt := 147) C.x C.b dM_isStatement_128 (by decide) (fun c128 => ?_) (fun c128 => ?_)
          · rw [if_pos c128] at hf
            exact b_M_isStatement_147 C hr hlk hnm _ _ _ _ M (lv_sub hl [1] rfl) hf
          · rw [if_neg c128] at hf
            refine lv_lload_n C.x C.b dM_isStatement_131 rfl (lv_at hl 0 rfl) ?_
            refine lv_ldc2 (v := 513020621925) C.x C.b C.ow (C.ts (.constantLong R_M 162 513020621925) (List.mem_cons_of_mem _ wm_893)) dM_isStatement_132 ?_
            refine W.lcmp C.x C.b dM_isStatement_135 ?_
            refine lv_if_eq (tgt := 147) C.x C.b dM_isStatement_136 (by decide) (fun c136 => ?_) (fun c136 => ?_)
            · rw [if_pos c136] at hf
              exact b_M_isStatement_147 C hr hlk hnm _ _ _ _ M (lv_sub hl [1] rfl) hf
            · rw [if_neg c136] at hf
              refine lv_lload_n C.x C.b dM_isStatement_139 rfl (lv_at hl 0 rfl) ?_
              refine lv_ldc2 (v := 1668247673) C.x C.b C.ow (C.ts (.constantLong R_M 164 1668247673) (List.mem_cons_of_mem _ wm_894)) dM_isStatement_140 ?_
              refine W.lcmp C.x C.b dM_isStatement_143 ?_
              refine lv_if_ne (tgt := 177) C.x C.b dM_isStatement_144 (by decide) (fun c144 => ?_) (fun c144 => ?_)
              · rw [if_neg c144] at hf
                refine lv_lload_n C.x C.b dM_isStatement_177 rfl (lv_at hl 0 rfl) ?_
                refine lv_ldc2 (v := 1919246692) C.x C.b C.ow (C.ts (.constantLong R_M 166 1919246692) (List.mem_cons_of_mem _ wm_895)) dM_isStatement_178 ?_
                refine W.lcmp C.x C.b dM_isStatement_181 ?_
                refine lv_if_eq (tgt := 193) C.x C.b dM_isStatement_182 (by decide) (fun c182 => ?_) (fun c182 => ?_)
                · rw [if_pos c182] at hf
                  exact b_M_isStatement_193 C hr hlk hnm _ _ _ _ M (lv_sub hl [1] rfl) hf
                · rw [if_neg c182] at hf
                  refine lv_lload_n C.x C.b dM_isStatement_185 rfl (lv_at hl 0 rfl) ?_
                  refine lv_ldc2 (v := 7501166) C.x C.b C.ow (C.ts (.constantLong R_M 168 7501166) (List.mem_cons_of_mem _ wm_896)) dM_isStatement_186 ?_
                  refine W.lcmp C.x C.b dM_isStatement_189 ?_
                  refine lv_if_ne (tgt := 231) C.x C.b dM_isStatement_190 (by decide) (fun c190 => ?_) (fun c190 => ?_)
                  · rw [if_neg c190] at hf
                    refine lv_lload_n C.x C.b dM_isStatement_231 rfl (lv_at hl 0 rfl) ?_
                    refine lv_ldc2 (v := 1685221232) C.x C.b C.ow (C.ts (.constantLong R_M 170 1685221232) (List.mem_cons_of_mem _ wm_897)) dM_isStatement_232 ?_
                    refine W.lcmp C.x C.b dM_isStatement_235 ?_
                    refine lv_if_eq (tgt := 263) C.x C.b dM_isStatement_236 (by decide) (fun c236 => ?_) (fun c236 => ?_)
                    · rw [if_pos c236] at hf
                      exact b_M_isStatement_263 C hr hlk hnm _ _ _ _ M (lv_sub hl [1] rfl) hf
                    · rw [if_neg c236] at hf
                      refine lv_lload_n C.x C.b dM_isStatement_239 rfl (lv_at hl 0 rfl) ?_
                      refine lv_ldc2 (v := 7304564) C.x C.b C.ow (C.ts (.constantLong R_M 172 7304564) (List.mem_cons_of_mem _ wm_898)) dM_isStatement_240 ?_
                      refine W.lcmp C.x C.b dM_isStatement_243 ?_
                      refine lv_if_eq (tgt := 263) C.x C.b dM_isStatement_244 (by decide) (fun c244 => ?_) (fun c244 => ?_)
                      · rw [if_pos c244] at hf
                        exact b_M_isStatement_263 C hr hlk hnm _ _ _ _ M (lv_sub hl [1] rfl) hf
                      · rw [if_neg c244] at hf
                        refine lv_lload_n C.x C.b dM_isStatement_247 rfl (lv_at hl 0 rfl) ?_
                        refine lv_ldc2 (v := 6648434) C.x C.b C.ow (C.ts (.constantLong R_M 174 6648434) (List.mem_cons_of_mem _ wm_899)) dM_isStatement_248 ?_
                        refine W.lcmp C.x C.b dM_isStatement_251 ?_
                        refine lv_if_eq (tgt := 263) C.x C.b dM_isStatement_252 (by decide) (fun c252 => ?_) (fun c252 => ?_)
                        · rw [if_pos c252] at hf
                          exact b_M_isStatement_263 C hr hlk hnm _ _ _ _ M (lv_sub hl [1] rfl) hf
                        · rw [if_neg c252] at hf
                          refine lv_lload_n C.x C.b dM_isStatement_255 rfl (lv_at hl 0 rfl) ?_
                          refine lv_ldc2 (v := 1702390132) C.x C.b C.ow (C.ts (.constantLong R_M 176 1702390132) (List.mem_cons_of_mem _ wm_900)) dM_isStatement_256 ?_
                          refine W.lcmp C.x C.b dM_isStatement_259 ?_
                          refine lv_if_ne (tgt := 285) C.x C.b dM_isStatement_260 (by decide) (fun c260 => ?_) (fun c260 => ?_)
                          · rw [if_neg c260] at hf
                            refine lv_lload_n C.x C.b dM_isStatement_285 rfl (lv_at hl 0 rfl) ?_
                            refine lv_ldc2 (v := 26479) C.x C.b C.ow (C.ts (.constantLong R_M 178 26479) (List.mem_cons_of_mem _ wm_901)) dM_isStatement_286 ?_
                            refine W.lcmp C.x C.b dM_isStatement_289 ?_
                            refine lv_if_eq (tgt := 301) C.x C.b dM_isStatement_290 (by decide) (fun c290 => ?_) (fun c290 => ?_)
                            · rw [if_pos c290] at hf
                              exact b_M_isStatement_301 C hr hlk hnm _ _ _ _ M (lv_sub hl [1] rfl) hf
                            · rw [if_neg c290] at hf
                              refine lv_lload_n C.x C.b dM_isStatement_293 rfl (lv_at hl 0 rfl) ?_
                              refine lv_ldc2 (v := 1667329132) C.x C.b C.ow (C.ts (.constantLong R_M 180 1667329132) (List.mem_cons_of_mem _ wm_902)) dM_isStatement_294 ?_
                              refine W.lcmp C.x C.b dM_isStatement_297 ?_
                              refine lv_if_ne (tgt := 323) C.x C.b dM_isStatement_298 (by decide) (fun c298 => ?_) (fun c298 => ?_)
                              · rw [if_neg c298] at hf
                                refine lv_lload_n C.x C.b dM_isStatement_323 rfl (lv_at hl 0 rfl) ?_
                                refine lv_ldc2 (v := 26982) C.x C.b C.ow (C.ts (.constantLong R_M 185 26982) (List.mem_cons_of_mem _ wm_907)) dM_isStatement_324 ?_
                                refine W.lcmp C.x C.b dM_isStatement_327 ?_
                                refine lv_if_ne (tgt := 391) C.x C.b dM_isStatement_328 (by decide) (fun c328 => ?_) (fun c328 => ?_)
                                · rw [if_neg c328] at hf
                                  refine lv_lload_n C.x C.b dM_isStatement_391 rfl (lv_at hl 0 rfl) ?_
                                  refine lv_ldc2 (v := 1650549611) C.x C.b C.ow (C.ts (.constantLong R_M 190 1650549611) (List.mem_cons_of_mem _ wm_913)) dM_isStatement_392 ?_
                                  refine W.lcmp C.x C.b dM_isStatement_395 ?_
                                  refine lv_if_ne (tgt := 411) C.x C.b dM_isStatement_396 (by decide) (fun c396 => ?_) (fun c396 => ?_)
                                  · rw [if_neg c396] at hf
                                    exact b_M_isStatement_411 C hr hlk hnm _ _ _ M (lv_sub hl [] rfl) hf
                                  · rw [if_pos c396] at hf
                                    refine w_aload_n C.x C.b dM_isStatement_399 rfl (lv_at hl 1 rfl) ?_
                                    obtain ⟨v400, h400, hf⟩ := Option.bind_eq_some_iff.mp hf
                                    refine w_getI C M h400 rfl (hm_in in_M) (by decide) (List.mem_cons_of_mem _ wm_731) rfl dM_isStatement_400 ?_
                                    refine lv_iconst (v := 1) C.x C.b dM_isStatement_403 (by decide) ?_
                                    refine lv_icmp_ne (tgt := 411) C.x C.b dM_isStatement_404 (by decide) (fun c404 => ?_) (fun c404 => ?_)
                                    · rw [if_neg c404] at hf
                                      exact b_M_isStatement_411 C hr hlk hnm _ _ _ M (lv_sub hl [] rfl) hf
                                    · rw [if_pos c404] at hf
                                      refine lv_iconst (v := 1) C.x C.b dM_isStatement_407 (by decide) ?_
                                      refine lv_goto (tgt := 412) C.x C.b dM_isStatement_408 (by decide) ?_
                                      exact b_M_isStatement_412 C hr hlk hnm _ _ _ _ M (lv_sub hl [] rfl) hf
                                · rw [if_pos c328] at hf
                                  refine w_aload_n C.x C.b dM_isStatement_331 rfl (lv_at hl 1 rfl) ?_
                                  obtain ⟨v332, h332, hf⟩ := Option.bind_eq_some_iff.mp hf
                                  refine w_getI C M h332 rfl (hm_in in_M) (by decide) (List.mem_cons_of_mem _ wm_731) rfl dM_isStatement_332 ?_
                                  refine lv_bipush (v := 6) C.x C.b dM_isStatement_335 (by decide) ?_
                                  refine lv_icmp_ne (tgt := 389) C.x C.b dM_isStatement_337 (by decide) (fun c337 => ?_) (fun c337 => ?_)
                                  · rw [if_neg c337] at hf
                                    exact b_M_isStatement_389 C hr hlk hnm _ _ _ M (lv_sub hl [] rfl) hf
                                  · rw [if_pos c337] at hf
                                    refine w_aload_n C.x C.b dM_isStatement_340 rfl (lv_at hl 1 rfl) ?_
                                    refine lv_iconst (v := 1) C.x C.b dM_isStatement_341 (by decide) ?_
                                    obtain ⟨o342, g342, hf⟩ := Option.bind_eq_some_iff.mp hf
                                    obtain ⟨v342, h342, hf⟩ := Option.bind_eq_some_iff.mp hf
                                    refine w_ci M (w_runV C M g342 rfl (c_M_isValue h342) (cwV 1 C.ts (hgV wm_875 wm_877 sel_M_isValue wm_6 wm_878) rfl rfl rfl (by decide +kernel) ⟨Nat.le_of_ble_eq_true rfl, Nat.le_of_ble_eq_true rfl⟩) rfl hl.1 rfl (Nat.zero_le _) dM_isStatement_342 ⟨Nat.le_refl _, Nat.le_refl _⟩) (fun H locs M => ?_)
                                    refine lv_if_eq (tgt := 389) C.x C.b dM_isStatement_345 (by decide) (fun c345 => ?_) (fun c345 => ?_)
                                    · rw [if_pos c345] at hf
                                      exact b_M_isStatement_389 C hr hlk hnm _ _ _ M (lv_sub hl [] rfl) hf
                                    · rw [if_neg c345] at hf
                                      refine w_aload_n C.x C.b dM_isStatement_348 rfl (lv_at hl 1 rfl) ?_
                                      refine lv_iconst (v := 2) C.x C.b dM_isStatement_349 (by decide) ?_
                                      obtain ⟨o350, g350, hf⟩ := Option.bind_eq_some_iff.mp hf
                                      obtain ⟨v350, h350, hf⟩ := Option.bind_eq_some_iff.mp hf
                                      refine w_ci M (w_runV C M g350 rfl (c_M_isComparison h350) (cwV 1 C.ts (hgV wm_908 wm_910 sel_M_isComparison wm_6 wm_911) rfl rfl rfl (by decide +kernel) ⟨Nat.le_of_ble_eq_true rfl, Nat.le_of_ble_eq_true rfl⟩) rfl hl.1 rfl (Nat.zero_le _) dM_isStatement_350 ⟨Nat.le_refl _, Nat.le_refl _⟩) (fun H locs M => ?_)
                                      refine lv_if_eq (tgt := 389) C.x C.b dM_isStatement_353 (by decide) (fun c353 => ?_) (fun c353 => ?_)
                                      · rw [if_pos c353] at hf
                                        exact b_M_isStatement_389 C hr hlk hnm _ _ _ M (lv_sub hl [] rfl) hf
                                      · rw [if_neg c353] at hf
                                        refine w_aload_n C.x C.b dM_isStatement_356 rfl (lv_at hl 1 rfl) ?_
                                        refine lv_iconst (v := 3) C.x C.b dM_isStatement_357 (by decide) ?_
                                        obtain ⟨o358, g358, hf⟩ := Option.bind_eq_some_iff.mp hf
                                        obtain ⟨v358, h358, hf⟩ := Option.bind_eq_some_iff.mp hf
                                        refine w_ci M (w_runV C M g358 rfl (c_M_isValue h358) (cwV 1 C.ts (hgV wm_875 wm_877 sel_M_isValue wm_6 wm_878) rfl rfl rfl (by decide +kernel) ⟨Nat.le_of_ble_eq_true rfl, Nat.le_of_ble_eq_true rfl⟩) rfl hl.1 rfl (Nat.zero_le _) dM_isStatement_358 ⟨Nat.le_refl _, Nat.le_refl _⟩) (fun H locs M => ?_)
                                        refine lv_if_eq (tgt := 389) C.x C.b dM_isStatement_361 (by decide) (fun c361 => ?_) (fun c361 => ?_)
                                        · rw [if_pos c361] at hf
                                          exact b_M_isStatement_389 C hr hlk hnm _ _ _ M (lv_sub hl [] rfl) hf
                                        · rw [if_neg c361] at hf
                                          refine w_aload_n C.x C.b dM_isStatement_364 rfl (lv_at hl 1 rfl) ?_
                                          obtain ⟨v365, h365, hf⟩ := Option.bind_eq_some_iff.mp hf
                                          refine w_getR C M h365 rfl (hm_in in_M) (by decide) (List.mem_cons_of_mem _ wm_732) rfl dM_isStatement_365 ?_
                                          refine lv_iconst (v := 4) C.x C.b dM_isStatement_368 (by decide) ?_
                                          obtain ⟨v369, h369, hf⟩ := Option.bind_eq_some_iff.mp hf
                                          refine w_lald C M h369 rfl dM_isStatement_369 ?_
                                          refine lv_ldc2 (v := 26479) C.x C.b C.ow (C.ts (.constantLong R_M 178 26479) (List.mem_cons_of_mem _ wm_901)) dM_isStatement_370 ?_
                                          refine W.lcmp C.x C.b dM_isStatement_373 ?_
                                          refine lv_if_ne (tgt := 389) C.x C.b dM_isStatement_374 (by decide) (fun c374 => ?_) (fun c374 => ?_)
                                          · rw [if_neg c374] at hf
                                            exact b_M_isStatement_389 C hr hlk hnm _ _ _ M (lv_sub hl [] rfl) hf
                                          · rw [if_pos c374] at hf
                                            refine w_aload_n C.x C.b dM_isStatement_377 rfl (lv_at hl 1 rfl) ?_
                                            refine lv_iconst (v := 5) C.x C.b dM_isStatement_378 (by decide) ?_
                                            obtain ⟨o379, g379, hf⟩ := Option.bind_eq_some_iff.mp hf
                                            obtain ⟨v379, h379, hf⟩ := Option.bind_eq_some_iff.mp hf
                                            refine w_ci M (w_runV C M g379 rfl (c_M_isLetter h379) (cwV 1 C.ts (hgV wm_903 wm_905 sel_M_isLetter wm_6 wm_906) rfl rfl rfl (by decide +kernel) ⟨Nat.le_of_ble_eq_true rfl, Nat.le_of_ble_eq_true rfl⟩) rfl hl.1 rfl (Nat.zero_le _) dM_isStatement_379 ⟨Nat.le_refl _, Nat.le_refl _⟩) (fun H locs M => ?_)
                                            refine lv_if_eq (tgt := 389) C.x C.b dM_isStatement_382 (by decide) (fun c382 => ?_) (fun c382 => ?_)
                                            · rw [if_pos c382] at hf
                                              exact b_M_isStatement_389 C hr hlk hnm _ _ _ M (lv_sub hl [] rfl) hf
                                            · rw [if_neg c382] at hf
                                              refine lv_iconst (v := 1) C.x C.b dM_isStatement_385 (by decide) ?_
                                              refine lv_goto (tgt := 390) C.x C.b dM_isStatement_386 (by decide) ?_
                                              exact b_M_isStatement_390 C hr hlk hnm _ _ _ _ M (lv_sub hl [] rfl) hf
                              · rw [if_pos c298] at hf
                                exact b_M_isStatement_301 C hr hlk hnm _ _ _ _ M (lv_sub hl [1] rfl) hf
                          · rw [if_pos c260] at hf
                            exact b_M_isStatement_263 C hr hlk hnm _ _ _ _ M (lv_sub hl [1] rfl) hf
                  · rw [if_pos c190] at hf
                    exact b_M_isStatement_193 C hr hlk hnm _ _ _ _ M (lv_sub hl [1] rfl) hf
              · rw [if_pos c144] at hf
                exact b_M_isStatement_147 C hr hlk hnm _ _ _ _ M (lv_sub hl [1] rfl) hf
        · rw [if_pos c90] at hf
          exact b_M_isStatement_93 C hr hlk hnm _ _ _ _ M (lv_sub hl [1] rfl) hf
  · rw [if_pos c12] at hf
    refine w_aload_n C.x C.b dM_isStatement_15 rfl (lv_at hl 1 rfl) ?_
    obtain ⟨v16, h16, hf⟩ := Option.bind_eq_some_iff.mp hf
    refine w_getI C M h16 rfl (hm_in in_M) (by decide) (List.mem_cons_of_mem _ wm_731) rfl dM_isStatement_16 ?_
    refine lv_iconst (v := 3) C.x C.b dM_isStatement_19 (by decide) ?_
    refine lv_icmp_eq (tgt := 47) C.x C.b dM_isStatement_20 (by decide) (fun c20 => ?_) (fun c20 => ?_)
    · rw [if_pos c20] at hf
      exact b_M_isStatement_47 C hr hlk hnm _ _ _ _ M (lv_sub hl [1] rfl) hf
    · rw [if_neg c20] at hf
      refine w_aload_n C.x C.b dM_isStatement_23 rfl (lv_at hl 1 rfl) ?_
      obtain ⟨v24, h24, hf⟩ := Option.bind_eq_some_iff.mp hf
      refine w_getI C M h24 rfl (hm_in in_M) (by decide) (List.mem_cons_of_mem _ wm_731) rfl dM_isStatement_24 ?_
      refine lv_iconst (v := 5) C.x C.b dM_isStatement_27 (by decide) ?_
      refine lv_icmp_ne (tgt := 67) C.x C.b dM_isStatement_28 (by decide) (fun c28 => ?_) (fun c28 => ?_)
      · rw [if_neg c28] at hf
        exact b_M_isStatement_67 C hr hlk hnm _ _ _ M (lv_sub hl [] rfl) hf
      · rw [if_pos c28] at hf
        refine w_aload_n C.x C.b dM_isStatement_31 rfl (lv_at hl 1 rfl) ?_
        refine lv_iconst (v := 3) C.x C.b dM_isStatement_32 (by decide) ?_
        obtain ⟨o33, g33, hf⟩ := Option.bind_eq_some_iff.mp hf
        obtain ⟨v33, h33, hf⟩ := Option.bind_eq_some_iff.mp hf
        refine w_ci M (w_runV C M g33 rfl (c_M_isSign h33) (cwV 1 C.ts (hgV wm_861 wm_863 sel_M_isSign wm_6 wm_864) rfl rfl rfl (by decide +kernel) ⟨Nat.le_of_ble_eq_true rfl, Nat.le_of_ble_eq_true rfl⟩) rfl hl.1 rfl (Nat.zero_le _) dM_isStatement_33 ⟨Nat.le_refl _, Nat.le_refl _⟩) (fun H locs M => ?_)
        refine lv_if_eq (tgt := 67) C.x C.b dM_isStatement_36 (by decide) (fun c36 => ?_) (fun c36 => ?_)
        · rw [if_pos c36] at hf
          exact b_M_isStatement_67 C hr hlk hnm _ _ _ M (lv_sub hl [] rfl) hf
        · rw [if_neg c36] at hf
          refine w_aload_n C.x C.b dM_isStatement_39 rfl (lv_at hl 1 rfl) ?_
          refine lv_iconst (v := 4) C.x C.b dM_isStatement_40 (by decide) ?_
          obtain ⟨o41, g41, hf⟩ := Option.bind_eq_some_iff.mp hf
          obtain ⟨v41, h41, hf⟩ := Option.bind_eq_some_iff.mp hf
          refine w_ci M (w_runV C M g41 rfl (c_M_isValue h41) (cwV 1 C.ts (hgV wm_875 wm_877 sel_M_isValue wm_6 wm_878) rfl rfl rfl (by decide +kernel) ⟨Nat.le_of_ble_eq_true rfl, Nat.le_of_ble_eq_true rfl⟩) rfl hl.1 rfl (Nat.zero_le _) dM_isStatement_41 ⟨Nat.le_refl _, Nat.le_refl _⟩) (fun H locs M => ?_)
          refine lv_if_eq (tgt := 67) C.x C.b dM_isStatement_44 (by decide) (fun c44 => ?_) (fun c44 => ?_)
          · rw [if_pos c44] at hf
            exact b_M_isStatement_67 C hr hlk hnm _ _ _ M (lv_sub hl [] rfl) hf
          · rw [if_neg c44] at hf
            exact b_M_isStatement_47 C hr hlk hnm _ _ _ _ M (lv_sub hl [1] rfl) hf
