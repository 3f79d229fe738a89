/-! m09: by wip/whole/gen.py -/
theorem dTape_letterAt_0 : decode prog_9_method_8_code 0 = .ok (.iload_n 1, 1) := by decide +kernel
theorem dTape_letterAt_1 : decode prog_9_method_8_code 1 = .ok (.ifCond .lt 17, 3) := by decide +kernel
theorem dTape_letterAt_4 : decode prog_9_method_8_code 4 = .ok (.iload_n 1, 1) := by decide +kernel
theorem dTape_letterAt_5 : decode prog_9_method_8_code 5 = .ok (.aload_n 0, 1) := by decide +kernel
theorem dTape_letterAt_6 : decode prog_9_method_8_code 6 = .ok (.getfield 27, 3) := by decide +kernel
theorem dTape_letterAt_9 : decode prog_9_method_8_code 9 = .ok (.if_icmp .ge 9, 3) := by decide +kernel
theorem dTape_letterAt_12 : decode prog_9_method_8_code 12 = .ok (.iload_n 1, 1) := by decide +kernel
theorem dTape_letterAt_13 : decode prog_9_method_8_code 13 = .ok (.bipush 6, 2) := by decide +kernel
theorem dTape_letterAt_15 : decode prog_9_method_8_code 15 = .ok (.if_icmp .lt 5, 3) := by decide +kernel
theorem dTape_letterAt_18 : decode prog_9_method_8_code 18 = .ok (.iconst (-1), 1) := by decide +kernel
theorem dTape_letterAt_19 : decode prog_9_method_8_code 19 = .ok (.ireturn, 1) := by decide +kernel
theorem dTape_letterAt_20 : decode prog_9_method_8_code 20 = .ok (.aload_n 0, 1) := by decide +kernel
theorem dTape_letterAt_21 : decode prog_9_method_8_code 21 = .ok (.getfield 20, 3) := by decide +kernel
theorem dTape_letterAt_24 : decode prog_9_method_8_code 24 = .ok (.iload_n 1, 1) := by decide +kernel
theorem dTape_letterAt_25 : decode prog_9_method_8_code 25 = .ok (.iaload, 1) := by decide +kernel
theorem dTape_letterAt_26 : decode prog_9_method_8_code 26 = .ok (.iload_n 2, 1) := by decide +kernel
theorem dTape_letterAt_27 : decode prog_9_method_8_code 27 = .ok (.iadd, 1) := by decide +kernel
theorem dTape_letterAt_28 : decode prog_9_method_8_code 28 = .ok (.istore_n 3, 1) := by decide +kernel
theorem dTape_letterAt_29 : decode prog_9_method_8_code 29 = .ok (.iload_n 2, 1) := by decide +kernel
theorem dTape_letterAt_30 : decode prog_9_method_8_code 30 = .ok (.ifCond .lt 33, 3) := by decide +kernel
theorem dTape_letterAt_33 : decode prog_9_method_8_code 33 = .ok (.iload_n 3, 1) := by decide +kernel
theorem dTape_letterAt_34 : decode prog_9_method_8_code 34 = .ok (.ifCond .lt 29, 3) := by decide +kernel
theorem dTape_letterAt_37 : decode prog_9_method_8_code 37 = .ok (.iload_n 3, 1) := by decide +kernel
theorem dTape_letterAt_38 : decode prog_9_method_8_code 38 = .ok (.aload_n 0, 1) := by decide +kernel
theorem dTape_letterAt_39 : decode prog_9_method_8_code 39 = .ok (.getfield 24, 3) := by decide +kernel
theorem dTape_letterAt_42 : decode prog_9_method_8_code 42 = .ok (.iload_n 1, 1) := by decide +kernel
theorem dTape_letterAt_43 : decode prog_9_method_8_code 43 = .ok (.iaload, 1) := by decide +kernel
theorem dTape_letterAt_44 : decode prog_9_method_8_code 44 = .ok (.if_icmp .ge 19, 3) := by decide +kernel
theorem dTape_letterAt_47 : decode prog_9_method_8_code 47 = .ok (.iload_n 3, 1) := by decide +kernel
theorem dTape_letterAt_48 : decode prog_9_method_8_code 48 = .ok (.aload_n 0, 1) := by decide +kernel
theorem dTape_letterAt_49 : decode prog_9_method_8_code 49 = .ok (.getfield 14, 3) := by decide +kernel
theorem dTape_letterAt_52 : decode prog_9_method_8_code 52 = .ok (.getfield 153, 3) := by decide +kernel
theorem dTape_letterAt_55 : decode prog_9_method_8_code 55 = .ok (.arraylength, 1) := by decide +kernel
theorem dTape_letterAt_56 : decode prog_9_method_8_code 56 = .ok (.if_icmp .ge 7, 3) := by decide +kernel
theorem dTape_letterAt_59 : decode prog_9_method_8_code 59 = .ok (.iconst 1, 1) := by decide +kernel
theorem dTape_letterAt_60 : decode prog_9_method_8_code 60 = .ok (.goto 4, 3) := by decide +kernel
theorem dTape_letterAt_63 : decode prog_9_method_8_code 63 = .ok (.iconst 0, 1) := by decide +kernel
theorem dTape_letterAt_64 : decode prog_9_method_8_code 64 = .ok (.istore 4, 2) := by decide +kernel
theorem dTape_letterAt_66 : decode prog_9_method_8_code 66 = .ok (.iload 4, 2) := by decide +kernel
theorem dTape_letterAt_68 : decode prog_9_method_8_code 68 = .ok (.ifCond .eq 15, 3) := by decide +kernel
theorem dTape_letterAt_71 : decode prog_9_method_8_code 71 = .ok (.aload_n 0, 1) := by decide +kernel
theorem dTape_letterAt_72 : decode prog_9_method_8_code 72 = .ok (.getfield 14, 3) := by decide +kernel
theorem dTape_letterAt_75 : decode prog_9_method_8_code 75 = .ok (.getfield 153, 3) := by decide +kernel
theorem dTape_letterAt_78 : decode prog_9_method_8_code 78 = .ok (.iload_n 3, 1) := by decide +kernel
theorem dTape_letterAt_79 : decode prog_9_method_8_code 79 = .ok (.iaload, 1) := by decide +kernel
theorem dTape_letterAt_80 : decode prog_9_method_8_code 80 = .ok (.goto 4, 3) := by decide +kernel
theorem dTape_letterAt_83 : decode prog_9_method_8_code 83 = .ok (.iconst (-1), 1) := by decide +kernel
theorem dTape_letterAt_84 : decode prog_9_method_8_code 84 = .ok (.ireturn, 1) := by decide +kernel
abbrev rm_Tape_letterAt : Room := { frames := 0, cells := 0, slots := 0, locals := 0 }
def f_Tape_letterAt_b84 (E : hE) (t0 : Int32) : Option (Int32) := (
  some t0)
set_option maxHeartbeats 4000000 in
set_option maxRecDepth 100000 in
theorem b_Tape_letterAt_84 {p : Program} {l : Launch} {e : Env} {s : State} {m : MethodId} {args : Array Value} {below : List Frame} {meth : Method} {c : Code} {D : va_G} {kA : Nat → ClassId} {S : hE} {g : Nat → Nat} {n0 nx : Nat} {E : hE} {res : Int32} (C : hX p s m args c prog_9_method_8_code 5 R_Tape ws_Tape_letterAt D kA S g n0) (hr : meth.sig.returnType = (some .int)) (hlk : meth.locks = false) (hnm : meth.name = "letterAt") : ∀ (t0 : Int32) (H : Heap) (locs : List Loc) (ls : Array Slot), hY D kA n0 s E nx H locs → lv_has ls 5 [] → f_Tape_letterAt_b84 E  t0 = some res → W p l e rm_Tape_letterAt s m args below meth c H locs 0 0 (MQ below (va_Qi (fun r w => r = res ∧ w = (E, nx)) (hJ D kA S g n0) (fun q => n0 ≤ q)) args s 0 0 (fun q => n0 ≤ q)) (F0 m 84 ls [.int t0]) := by
  intro t0 H locs ls M hl hf
  unfold f_Tape_letterAt_b84 at hf
  cases hf
  exact w_iret C M hr hlk rfl (Nat.le_refl _) (Nat.le_refl _) dTape_letterAt_84 rfl rfl
def f_Tape_letterAt_b64 (E : hE) (y0 : Option Nat) (y3 : Int32) (t0 : Int32) : Option (Int32) := (
  if t0 = 0 then (
  f_Tape_letterAt_b84 E (-1)
  ) else (
  (gR E y0 5 0).bind fun v72 =>
  (gR E v72 0 0).bind fun v75 =>
  (aI E v75 0 y3).bind fun v79 =>
  f_Tape_letterAt_b84 E v79
  ))
set_option maxHeartbeats 4000000 in
set_option maxRecDepth 100000 in
theorem b_Tape_letterAt_64 {p : Program} {l : Launch} {e : Env} {s : State} {m : MethodId} {args : Array Value} {below : List Frame} {meth : Method} {c : Code} {D : va_G} {kA : Nat → ClassId} {S : hE} {g : Nat → Nat} {n0 nx : Nat} {E : hE} {res : Int32} (C : hX p s m args c prog_9_method_8_code 5 R_Tape ws_Tape_letterAt D kA S g n0) (hr : meth.sig.returnType = (some .int)) (hlk : meth.locks = false) (hnm : meth.name = "letterAt") : ∀ (y0 : Option Nat) (y3 : Int32) (t0 : Int32) (H : Heap) (locs : List Loc) (ls : Array Slot), hY D kA n0 s E nx H locs → lv_has ls 5 [(0, va_rf y0), (3, .int y3)] → f_Tape_letterAt_b64 E  y0 y3 t0 = some res → W p l e rm_Tape_letterAt s m args below meth c H locs 0 0 (MQ below (va_Qi (fun r w => r = res ∧ w = (E, nx)) (hJ D kA S g n0) (fun q => n0 ≤ q)) args s 0 0 (fun q => n0 ≤ q)) (F0 m 64 ls [.int t0]) := by
  intro y0 y3 t0 H locs ls M hl hf
  unfold f_Tape_letterAt_b64 at hf
  refine lv_istore (lv' := [(4, .int t0), (0, va_rf y0), (3, .int y3)]) C.x C.b dTape_letterAt_64 hl (by decide) rfl (fun ls hl => ?_)
  refine lv_iload C.x C.b dTape_letterAt_66 (lv_at hl 0 rfl) ?_
  refine lv_if_eq (tgt := 83) C.x C.b dTape_letterAt_68 (by decide) (fun c68 => ?_) (fun c68 => ?_)
  · rw [if_pos c68] at hf
    refine lv_iconst (v := (-1)) C.x C.b dTape_letterAt_83 (by decide) ?_
    exact b_Tape_letterAt_84 C hr hlk hnm _ _ _ _ M (lv_sub hl [] rfl) hf
  · rw [if_neg c68] at hf
    refine w_aload_n C.x C.b dTape_letterAt_71 rfl (lv_at hl 1 rfl) ?_
    obtain ⟨v72, h72, hf⟩ := Option.bind_eq_some_iff.mp hf
    refine w_getR C M h72 rfl (hm_in in_Tape) (by decide) (List.mem_cons_of_mem _ wm_58) rfl dTape_letterAt_72 ?_
    obtain ⟨v75, h75, hf⟩ := Option.bind_eq_some_iff.mp hf
    refine w_getR C M h75 rfl (hm_in in_Row) (by decide) (List.mem_cons_of_mem _ wm_44) rfl dTape_letterAt_75 ?_
    refine lv_iload_n C.x C.b dTape_letterAt_78 rfl (lv_at hl 2 rfl) ?_
    obtain ⟨v79, h79, hf⟩ := Option.bind_eq_some_iff.mp hf
    refine w_iald C M h79 rfl dTape_letterAt_79 ?_
    refine lv_goto (tgt := 84) C.x C.b dTape_letterAt_80 (by decide) ?_
    exact b_Tape_letterAt_84 C hr hlk hnm _ _ _ _ M (lv_sub hl [] rfl) hf
def f_Tape_letterAt_b63 (E : hE) (y0 : Option Nat) (y3 : Int32) : Option (Int32) := (
  f_Tape_letterAt_b64 E y0 y3 0)
set_option maxHeartbeats 4000000 in
set_option maxRecDepth 100000 in
theorem b_Tape_letterAt_63 {p : Program} {l : Launch} {e : Env} {s : State} {m : MethodId} {args : Array Value} {below : List Frame} {meth : Method} {c : Code} {D : va_G} {kA : Nat → ClassId} {S : hE} {g : Nat → Nat} {n0 nx : Nat} {E : hE} {res : Int32} (C : hX p s m args c prog_9_method_8_code 5 R_Tape ws_Tape_letterAt D kA S g n0) (hr : meth.sig.returnType = (some .int)) (hlk : meth.locks = false) (hnm : meth.name = "letterAt") : ∀ (y0 : Option Nat) (y3 : Int32) (H : Heap) (locs : List Loc) (ls : Array Slot), hY D kA n0 s E nx H locs → lv_has ls 5 [(0, va_rf y0), (3, .int y3)] → f_Tape_letterAt_b63 E  y0 y3 = some res → W p l e rm_Tape_letterAt s m args below meth c H locs 0 0 (MQ below (va_Qi (fun r w => r = res ∧ w = (E, nx)) (hJ D kA S g n0) (fun q => n0 ≤ q)) args s 0 0 (fun q => n0 ≤ q)) (F0 m 63 ls []) := by
  intro y0 y3 H locs ls M hl hf
  unfold f_Tape_letterAt_b63 at hf
  refine lv_iconst (v := 0) C.x C.b dTape_letterAt_63 (by decide) ?_
  exact b_Tape_letterAt_64 C hr hlk hnm _ _ _ _ _ _ M (lv_sub hl [0, 1] rfl) hf
def f_Tape_letterAt_b18 (E : hE) : Option (Int32) := (
  some (-1))
set_option maxHeartbeats 4000000 in
set_option maxRecDepth 100000 in
theorem b_Tape_letterAt_18 {p : Program} {l : Launch} {e : Env} {s : State} {m : MethodId} {args : Array Value} {below : List Frame} {meth : Method} {c : Code} {D : va_G} {kA : Nat → ClassId} {S : hE} {g : Nat → Nat} {n0 nx : Nat} {E : hE} {res : Int32} (C : hX p s m args c prog_9_method_8_code 5 R_Tape ws_Tape_letterAt D kA S g n0) (hr : meth.sig.returnType = (some .int)) (hlk : meth.locks = false) (hnm : meth.name = "letterAt") : ∀  (H : Heap) (locs : List Loc) (ls : Array Slot), hY D kA n0 s E nx H locs → lv_has ls 5 [] → f_Tape_letterAt_b18 E   = some res → W p l e rm_Tape_letterAt s m args below meth c H locs 0 0 (MQ below (va_Qi (fun r w => r = res ∧ w = (E, nx)) (hJ D kA S g n0) (fun q => n0 ≤ q)) args s 0 0 (fun q => n0 ≤ q)) (F0 m 18 ls []) := by
  intro  H locs ls M hl hf
  unfold f_Tape_letterAt_b18 at hf
  refine lv_iconst (v := (-1)) C.x C.b dTape_letterAt_18 (by decide) ?_
  cases hf
  exact w_iret C M hr hlk rfl (Nat.le_refl _) (Nat.le_refl _) dTape_letterAt_19 rfl rfl
def f_Tape_letterAt (E : hE) (x0 : Nat) (x1 : Int32) (x2 : Int32) : Option (Int32) := (
  if x1 < 0 then (
  f_Tape_letterAt_b18 E 
  ) else (
  (gI E (some x0) 5 3).bind fun v6 =>
  if v6 ≤ x1 then (
  f_Tape_letterAt_b18 E 
  ) else (
  if x1 < 6 then (
  (gR E (some x0) 5 1).bind fun v21 =>
  (aI E v21 0 x1).bind fun v25 =>
  if x2 < 0 then (
  f_Tape_letterAt_b63 E (some x0) (v25 + x2)
  ) else (
  if (v25 + x2) < 0 then (
  f_Tape_letterAt_b63 E (some x0) (v25 + x2)
  ) else (
  (gR E (some x0) 5 2).bind fun v39 =>
  (aI E v39 0 x1).bind fun v43 =>
  if v43 ≤ (v25 + x2) then (
  f_Tape_letterAt_b63 E (some x0) (v25 + x2)
  ) else (
  (gR E (some x0) 5 0).bind fun v49 =>
  (gR E v49 0 0).bind fun v52 =>
  (aL E v52 0).bind fun v55 =>
  if v55 ≤ (v25 + x2) then (
  f_Tape_letterAt_b63 E (some x0) (v25 + x2)
  ) else (
  f_Tape_letterAt_b64 E (some x0) (v25 + x2) 1
  )
  )
  )
  )
  ) else (
  f_Tape_letterAt_b18 E 
  )
  )
  ))
set_option maxHeartbeats 4000000 in
set_option maxRecDepth 100000 in
theorem c_Tape_letterAt {l : Launch} {D : va_G} {kA : Nat → ClassId} {S : hE} {g : Nat → Nat} {n0 nx : Nat} {x0 : Nat} {x1 : Int32} {x2 : Int32} {E : hE} {res : Int32} (hf : f_Tape_letterAt E x0 x1 x2 = some res) : Met l y_Tape_letterAt ws_Tape_letterAt rm_Tape_letterAt (va_Pc [va_rf (some x0), .int x1, .int x2] (hJ D kA S g n0 (E, nx))) (va_Qi (fun r w => r = res ∧ w = (E, nx)) (hJ D kA S g n0) (fun q => n0 ≤ q)) 0 0 (fun q => n0 ≤ q) := by
  refine h_met (cc := prog_9_method_8_code) (maxL := 5) (ret := (some .int)) (lvs := [(0, va_rf (some x0)), (1, .int x1), (2, .int x2)]) zZ_k (by decide) rfl (by simp [lg_sl, va_rf_cat, cat_i, cat_l, cat_n]) (by simp [lv_args, va_rf_cat, cat_i, cat_l, cat_n]) ?_
  intro p e s m below meth c ls C M hr hlk hnm hl
  unfold f_Tape_letterAt at hf
  refine lv_iload_n C.x C.b dTape_letterAt_0 rfl (lv_at hl 1 rfl) ?_
  refine lv_if_lt (tgt := 18) C.x C.b dTape_letterAt_1 (by decide) (fun c1 => ?_) (fun c1 => ?_)
  · rw [if_pos c1] at hf
    exact b_Tape_letterAt_18 C hr hlk hnm _ _ _ M (lv_sub hl [] rfl) hf
  · rw [if_neg c1] at hf
    refine lv_iload_n C.x C.b dTape_letterAt_4 rfl (lv_at hl 1 rfl) ?_
    refine w_aload_n C.x C.b dTape_letterAt_5 rfl (lv_at hl 0 rfl) ?_
    obtain ⟨v6, h6, hf⟩ := Option.bind_eq_some_iff.mp hf
    refine w_getI C M h6 rfl (hm_in in_Tape) (by decide) (List.mem_cons_of_mem _ wm_62) rfl dTape_letterAt_6 ?_
    refine lv_icmp_ge (tgt := 18) C.x C.b dTape_letterAt_9 (by decide) (fun c9 => ?_) (fun c9 => ?_)
    · rw [if_pos c9] at hf
      exact b_Tape_letterAt_18 C hr hlk hnm _ _ _ M (lv_sub hl [] rfl) hf
    · rw [if_neg c9] at hf
      refine lv_iload_n C.x C.b dTape_letterAt_12 rfl (lv_at hl 1 rfl) ?_
      refine lv_bipush (v := 6) C.x C.b dTape_letterAt_13 (by decide) ?_
      refine lv_icmp_lt (tgt := 20) C.x C.b dTape_letterAt_15 (by decide) (fun c15 => ?_) (fun c15 => ?_)
      · rw [if_pos c15] at hf
        refine w_aload_n C.x C.b dTape_letterAt_20 rfl (lv_at hl 0 rfl) ?_
        obtain ⟨v21, h21, hf⟩ := Option.bind_eq_some_iff.mp hf
        refine w_getR C M h21 rfl (hm_in in_Tape) (by decide) (List.mem_cons_of_mem _ wm_60) rfl dTape_letterAt_21 ?_
        refine lv_iload_n C.x C.b dTape_letterAt_24 rfl (lv_at hl 1 rfl) ?_
        obtain ⟨v25, h25, hf⟩ := Option.bind_eq_some_iff.mp hf
        refine w_iald C M h25 rfl dTape_letterAt_25 ?_
        refine lv_iload_n C.x C.b dTape_letterAt_26 rfl (lv_at hl 2 rfl) ?_
        refine lv_iadd C.x C.b dTape_letterAt_27 ?_
        refine lv_istore_n (lv' := [(3, .int (v25 + x2)), (0, va_rf (some x0)), (1, .int x1), (2, .int x2)]) C.x C.b dTape_letterAt_28 rfl hl (by decide) rfl (fun ls hl => ?_)
        refine lv_iload_n C.x C.b dTape_letterAt_29 rfl (lv_at hl 3 rfl) ?_
        refine lv_if_lt (tgt := 63) C.x C.b dTape_letterAt_30 (by decide) (fun c30 => ?_) (fun c30 => ?_)
        · rw [if_pos c30] at hf
          exact b_Tape_letterAt_63 C hr hlk hnm _ _ _ _ _ M (lv_sub hl [1, 0] rfl) hf
        · rw [if_neg c30] at hf
          refine lv_iload_n C.x C.b dTape_letterAt_33 rfl (lv_at hl 0 rfl) ?_
          refine lv_if_lt (tgt := 63) C.x C.b dTape_letterAt_34 (by decide) (fun c34 => ?_) (fun c34 => ?_)
          · rw [if_pos c34] at hf
            exact b_Tape_letterAt_63 C hr hlk hnm _ _ _ _ _ M (lv_sub hl [1, 0] rfl) hf
          · rw [if_neg c34] at hf
            refine lv_iload_n C.x C.b dTape_letterAt_37 rfl (lv_at hl 0 rfl) ?_
            refine w_aload_n C.x C.b dTape_letterAt_38 rfl (lv_at hl 1 rfl) ?_
            obtain ⟨v39, h39, hf⟩ := Option.bind_eq_some_iff.mp hf
            refine w_getR C M h39 rfl (hm_in in_Tape) (by decide) (List.mem_cons_of_mem _ wm_61) rfl dTape_letterAt_39 ?_
            refine lv_iload_n C.x C.b dTape_letterAt_42 rfl (lv_at hl 2 rfl) ?_
            obtain ⟨v43, h43, hf⟩ := Option.bind_eq_some_iff.mp hf
            refine w_iald C M h43 rfl dTape_letterAt_43 ?_
            refine lv_icmp_ge (tgt := 63) C.x C.b dTape_letterAt_44 (by decide) (fun c44 => ?_) (fun c44 => ?_)
            · rw [if_pos c44] at hf
              exact b_Tape_letterAt_63 C hr hlk hnm _ _ _ _ _ M (lv_sub hl [1, 0] rfl) hf
            · rw [if_neg c44] at hf
              refine lv_iload_n C.x C.b dTape_letterAt_47 rfl (lv_at hl 0 rfl) ?_
              refine w_aload_n C.x C.b dTape_letterAt_48 rfl (lv_at hl 1 rfl) ?_
              obtain ⟨v49, h49, hf⟩ := Option.bind_eq_some_iff.mp hf
              refine w_getR C M h49 rfl (hm_in in_Tape) (by decide) (List.mem_cons_of_mem _ wm_58) rfl dTape_letterAt_49 ?_
              obtain ⟨v52, h52, hf⟩ := Option.bind_eq_some_iff.mp hf
              refine w_getR C M h52 rfl (hm_in in_Row) (by decide) (List.mem_cons_of_mem _ wm_44) rfl dTape_letterAt_52 ?_
              obtain ⟨v55, h55, hf⟩ := Option.bind_eq_some_iff.mp hf
              refine w_alen C M h55 rfl dTape_letterAt_55 ?_
              refine lv_icmp_ge (tgt := 63) C.x C.b dTape_letterAt_56 (by decide) (fun c56 => ?_) (fun c56 => ?_)
              · rw [if_pos c56] at hf
                exact b_Tape_letterAt_63 C hr hlk hnm _ _ _ _ _ M (lv_sub hl [1, 0] rfl) hf
              · rw [if_neg c56] at hf
                refine lv_iconst (v := 1) C.x C.b dTape_letterAt_59 (by decide) ?_
                refine lv_goto (tgt := 64) C.x C.b dTape_letterAt_60 (by decide) ?_
                exact b_Tape_letterAt_64 C hr hlk hnm _ _ _ _ _ _ M (lv_sub hl [1, 0] rfl) hf
      · rw [if_neg c15] at hf
        exact b_Tape_letterAt_18 C hr hlk hnm _ _ _ M (lv_sub hl [] rfl) hf
theorem dTape_labelNamed_0 : decode prog_9_method_13_code 0 = .ok (.iload_n 0, 1) := by decide +kernel
theorem dTape_labelNamed_1 : decode prog_9_method_13_code 1 = .ok (.bipush 65, 2) := by decide +kernel
theorem dTape_labelNamed_3 : decode prog_9_method_13_code 3 = .ok (.if_icmp .lt 16, 3) := by decide +kernel
theorem dTape_labelNamed_6 : decode prog_9_method_13_code 6 = .ok (.iload_n 0, 1) := by decide +kernel
theorem dTape_labelNamed_7 : decode prog_9_method_13_code 7 = .ok (.bipush 90, 2) := by decide +kernel
theorem dTape_labelNamed_9 : decode prog_9_method_13_code 9 = .ok (.if_icmp .gt 10, 3) := by decide +kernel
theorem dTape_labelNamed_12 : decode prog_9_method_13_code 12 = .ok (.iload_n 0, 1) := by decide +kernel
theorem dTape_labelNamed_13 : decode prog_9_method_13_code 13 = .ok (.bipush 65, 2) := by decide +kernel
theorem dTape_labelNamed_15 : decode prog_9_method_13_code 15 = .ok (.isub, 1) := by decide +kernel
theorem dTape_labelNamed_16 : decode prog_9_method_13_code 16 = .ok (.goto 4, 3) := by decide +kernel
theorem dTape_labelNamed_19 : decode prog_9_method_13_code 19 = .ok (.iconst (-1), 1) := by decide +kernel
theorem dTape_labelNamed_20 : decode prog_9_method_13_code 20 = .ok (.ireturn, 1) := by decide +kernel
abbrev rm_Tape_labelNamed : Room := { frames := 0, cells := 0, slots := 0, locals := 0 }
def f_Tape_labelNamed_b20 (E : hE) (t0 : Int32) : Option (Int32) := (
  some t0)
set_option maxHeartbeats 4000000 in
set_option maxRecDepth 100000 in
theorem b_Tape_labelNamed_20 {p : Program} {l : Launch} {e : Env} {s : State} {m : MethodId} {args : Array Value} {below : List Frame} {meth : Method} {c : Code} {D : va_G} {kA : Nat → ClassId} {S : hE} {g : Nat → Nat} {n0 nx : Nat} {E : hE} {res : Int32} (C : hX p s m args c prog_9_method_13_code 1 R_Tape ws_Tape_labelNamed D kA S g n0) (hr : meth.sig.returnType = (some .int)) (hlk : meth.locks = false) (hnm : meth.name = "labelNamed") : ∀ (t0 : Int32) (H : Heap) (locs : List Loc) (ls : Array Slot), hY D kA n0 s E nx H locs → lv_has ls 1 [] → f_Tape_labelNamed_b20 E  t0 = some res → W p l e rm_Tape_labelNamed s m args below meth c H locs 0 0 (MQ below (va_Qi (fun r w => r = res ∧ w = (E, nx)) (hJ D kA S g n0) (fun q => n0 ≤ q)) args s 0 0 (fun q => n0 ≤ q)) (F0 m 20 ls [.int t0]) := by
  intro t0 H locs ls M hl hf
  unfold f_Tape_labelNamed_b20 at hf
  cases hf
  exact w_iret C M hr hlk rfl (Nat.le_refl _) (Nat.le_refl _) dTape_labelNamed_20 rfl rfl
def f_Tape_labelNamed_b19 (E : hE) : Option (Int32) := (
  f_Tape_labelNamed_b20 E (-1))
set_option maxHeartbeats 4000000 in
set_option maxRecDepth 100000 in
theorem b_Tape_labelNamed_19 {p : Program} {l : Launch} {e : Env} {s : State} {m : MethodId} {args : Array Value} {below : List Frame} {meth : Method} {c : Code} {D : va_G} {kA : Nat → ClassId} {S : hE} {g : Nat → Nat} {n0 nx : Nat} {E : hE} {res : Int32} (C : hX p s m args c prog_9_method_13_code 1 R_Tape ws_Tape_labelNamed D kA S g n0) (hr : meth.sig.returnType = (some .int)) (hlk : meth.locks = false) (hnm : meth.name = "labelNamed") : ∀  (H : Heap) (locs : List Loc) (ls : Array Slot), hY D kA n0 s E nx H locs → lv_has ls 1 [] → f_Tape_labelNamed_b19 E   = some res → W p l e rm_Tape_labelNamed s m args below meth c H locs 0 0 (MQ below (va_Qi (fun r w => r = res ∧ w = (E, nx)) (hJ D kA S g n0) (fun q => n0 ≤ q)) args s 0 0 (fun q => n0 ≤ q)) (F0 m 19 ls []) := by
  intro  H locs ls M hl hf
  unfold f_Tape_labelNamed_b19 at hf
  refine lv_iconst (v := (-1)) C.x C.b dTape_labelNamed_19 (by decide) ?_
  exact b_Tape_labelNamed_20 C hr hlk hnm _ _ _ _ M (lv_sub hl [] rfl) hf
def f_Tape_labelNamed (E : hE) (x0 : Int32) : Option (Int32) := (
  if x0 < 65 then (
  f_Tape_labelNamed_b19 E 
  ) else (
  if 90 < x0 then (
  f_Tape_labelNamed_b19 E 
  ) else (
  f_Tape_labelNamed_b20 E (x0 - 65)
  )
  ))
set_option maxHeartbeats 4000000 in
set_option maxRecDepth 100000 in
theorem c_Tape_labelNamed {l : Launch} {D : va_G} {kA : Nat → ClassId} {S : hE} {g : Nat → Nat} {n0 nx : Nat} {x0 : Int32} {E : hE} {res : Int32} (hf : f_Tape_labelNamed E x0 = some res) : Met l y_Tape_labelNamed ws_Tape_labelNamed rm_Tape_labelNamed (va_Pc [.int x0] (hJ D kA S g n0 (E, nx))) (va_Qi (fun r w => r = res ∧ w = (E, nx)) (hJ D kA S g n0) (fun q => n0 ≤ q)) 0 0 (fun q => n0 ≤ q) := by
  refine h_met (cc := prog_9_method_13_code) (maxL := 1) (ret := (some .int)) (lvs := [(0, .int x0)]) zZ_k (by decide) rfl (by simp [lg_sl, va_rf_cat, cat_i, cat_l, cat_n]) (by simp [lv_args, va_rf_cat, cat_i, cat_l, cat_n]) ?_
  intro p e s m below meth c ls C M hr hlk hnm hl
  unfold f_Tape_labelNamed at hf
  refine lv_iload_n C.x C.b dTape_labelNamed_0 rfl (lv_at hl 0 rfl) ?_
  refine lv_bipush (v := 65) C.x C.b dTape_labelNamed_1 (by decide) ?_
  refine lv_icmp_lt (tgt := 19) C.x C.b dTape_labelNamed_3 (by decide) (fun c3 => ?_) (fun c3 => ?_)
  · rw [if_pos c3] at hf
    exact b_Tape_labelNamed_19 C hr hlk hnm _ _ _ M (lv_sub hl [] rfl) hf
  · rw [if_neg c3] at hf
    refine lv_iload_n C.x C.b dTape_labelNamed_6 rfl (lv_at hl 0 rfl) ?_
    refine lv_bipush (v := 90) C.x C.b dTape_labelNamed_7 (by decide) ?_
    refine lv_icmp_gt (tgt := 19) C.x C.b dTape_labelNamed_9 (by decide) (fun c9 => ?_) (fun c9 => ?_)
    · rw [if_pos c9] at hf
      exact b_Tape_labelNamed_19 C hr hlk hnm _ _ _ M (lv_sub hl [] rfl) hf
    · rw [if_neg c9] at hf
      refine lv_iload_n C.x C.b dTape_labelNamed_12 rfl (lv_at hl 0 rfl) ?_
      refine lv_bipush (v := 65) C.x C.b dTape_labelNamed_13 (by decide) ?_
      refine lv_isub C.x C.b dTape_labelNamed_15 ?_
      refine lv_goto (tgt := 20) C.x C.b dTape_labelNamed_16 (by decide) ?_
      exact b_Tape_labelNamed_20 C hr hlk hnm _ _ _ _ M (lv_sub hl [] rfl) hf
theorem dScript_addLabel_0 : decode prog_7_method_4_code 0 = .ok (.iload_n 1, 1) := by decide +kernel
theorem dScript_addLabel_1 : decode prog_7_method_4_code 1 = .ok (.ifCond .lt 19, 3) := by decide +kernel
theorem dScript_addLabel_4 : decode prog_7_method_4_code 4 = .ok (.iload_n 1, 1) := by decide +kernel
theorem dScript_addLabel_5 : decode prog_7_method_4_code 5 = .ok (.bipush 26, 2) := by decide +kernel
theorem dScript_addLabel_7 : decode prog_7_method_4_code 7 = .ok (.if_icmp .ge 13, 3) := by decide +kernel
theorem dScript_addLabel_10 : decode prog_7_method_4_code 10 = .ok (.aload_n 0, 1) := by decide +kernel
theorem dScript_addLabel_11 : decode prog_7_method_4_code 11 = .ok (.getfield 18, 3) := by decide +kernel
theorem dScript_addLabel_14 : decode prog_7_method_4_code 14 = .ok (.iload_n 1, 1) := by decide +kernel
theorem dScript_addLabel_15 : decode prog_7_method_4_code 15 = .ok (.iaload, 1) := by decide +kernel
theorem dScript_addLabel_16 : decode prog_7_method_4_code 16 = .ok (.iconst (-1), 1) := by decide +kernel
theorem dScript_addLabel_17 : decode prog_7_method_4_code 17 = .ok (.if_icmp .eq 5, 3) := by decide +kernel
theorem dScript_addLabel_20 : decode prog_7_method_4_code 20 = .ok (.iconst 0, 1) := by decide +kernel
theorem dScript_addLabel_21 : decode prog_7_method_4_code 21 = .ok (.ireturn, 1) := by decide +kernel
theorem dScript_addLabel_22 : decode prog_7_method_4_code 22 = .ok (.aload_n 0, 1) := by decide +kernel
theorem dScript_addLabel_23 : decode prog_7_method_4_code 23 = .ok (.getfield 18, 3) := by decide +kernel
theorem dScript_addLabel_26 : decode prog_7_method_4_code 26 = .ok (.iload_n 1, 1) := by decide +kernel
theorem dScript_addLabel_27 : decode prog_7_method_4_code 27 = .ok (.aload_n 0, 1) := by decide +kernel
theorem dScript_addLabel_28 : decode prog_7_method_4_code 28 = .ok (.getfield 12, 3) := by decide +kernel
theorem dScript_addLabel_31 : decode prog_7_method_4_code 31 = .ok (.invokevirtual 28, 3) := by decide +kernel
theorem dScript_addLabel_34 : decode prog_7_method_4_code 34 = .ok (.iastore, 1) := by decide +kernel
theorem dScript_addLabel_35 : decode prog_7_method_4_code 35 = .ok (.iconst 1, 1) := by decide +kernel
theorem dScript_addLabel_36 : decode prog_7_method_4_code 36 = .ok (.ireturn, 1) := by decide +kernel
abbrev rm_Script_addLabel : Room := { frames := 1, cells := 0, slots := 0, locals := 20 }
def f_Script_addLabel_b20  (E : hE) : Option (Int32 × hE) := (
  some (0, E))
set_option maxHeartbeats 4000000 in
set_option maxRecDepth 100000 in
theorem b_Script_addLabel_20 {p : Program} {l : Launch} {e : Env} {s : State} {m : MethodId} {args : Array Value} {below : List Frame} {meth : Method} {c : Code} {D : va_G} {kA : Nat → ClassId} {S : hE} {g : Nat → Nat} {n0 nx : Nat} {res : Int32 × hE} (C : hX p s m args c prog_7_method_4_code 2 R_Script ws_Script_addLabel D kA S g n0) (hr : meth.sig.returnType = (some .boolean)) (hlk : meth.locks = false) (hnm : meth.name = "addLabel") : ∀  (E : hE) (H : Heap) (locs : List Loc) (ls : Array Slot), hY D kA n0 s E nx H locs → lv_has ls 2 [] → f_Script_addLabel_b20  E = some res → W p l e rm_Script_addLabel s m args below meth c H locs 0 0 (MQ below (va_Qi (fun r w => r = res.1 ∧ w = (res.2, nx)) (hJ D kA S g n0) (fun q => n0 ≤ q)) args s 0 0 (fun q => n0 ≤ q)) (F0 m 20 ls []) := by
  intro E H locs ls M hl hf
  unfold f_Script_addLabel_b20 at hf
  refine lv_iconst (v := 0) C.x C.b dScript_addLabel_20 (by decide) ?_
  cases hf
  exact w_iret C M hr hlk rfl (Nat.le_refl _) (Nat.le_refl _) dScript_addLabel_21 rfl rfl
def f_Script_addLabel  (x0 : Nat) (x1 : Int32) (E : hE) : Option (Int32 × hE) := (
  if x1 < 0 then (
  f_Script_addLabel_b20 E
  ) else (
  if 26 ≤ x1 then (
  f_Script_addLabel_b20 E
  ) else (
  (gR E (some x0) 3 1).bind fun v11 =>
  (aI E v11 0 x1).bind fun v15 =>
  if v15 = (-1) then (
  (gR E (some x0) 3 1).bind fun v23 =>
  (gR E (some x0) 3 0).bind fun v28 =>
  (gO E v28 8).bind fun o31 =>
  (f_AL_size E o31.1).bind fun v31 =>
  (tI E v23 0 x1 v31).bind fun E34 =>
  some (1, E34)
  ) else (
  f_Script_addLabel_b20 E
  )
  )
  ))
set_option maxHeartbeats 4000000 in
set_option maxRecDepth 100000 in
theorem c_Script_addLabel {l : Launch} {D : va_G} {kA : Nat → ClassId} {S : hE} {g : Nat → Nat} {n0 nx : Nat} {x0 : Nat} {x1 : Int32} {E : hE} {res : Int32 × hE} (hf : f_Script_addLabel x0 x1 E = some res) : Met l y_Script_addLabel ws_Script_addLabel rm_Script_addLabel (va_Pc [va_rf (some x0), .int x1] (hJ D kA S g n0 (E, nx))) (va_Qi (fun r w => r = res.1 ∧ w = (res.2, nx)) (hJ D kA S g n0) (fun q => n0 ≤ q)) 0 0 (fun q => n0 ≤ q) := by
  refine h_met (cc := prog_7_method_4_code) (maxL := 2) (ret := (some .boolean)) (lvs := [(0, va_rf (some x0)), (1, .int x1)]) zZ_k (by decide) rfl (by simp [lg_sl, va_rf_cat, cat_i, cat_l, cat_n]) (by simp [lv_args, va_rf_cat, cat_i, cat_l, cat_n]) ?_
  intro p e s m below meth c ls C M hr hlk hnm hl
  unfold f_Script_addLabel at hf
  refine lv_iload_n C.x C.b dScript_addLabel_0 rfl (lv_at hl 1 rfl) ?_
  refine lv_if_lt (tgt := 20) C.x C.b dScript_addLabel_1 (by decide) (fun c1 => ?_) (fun c1 => ?_)
  · rw [if_pos c1] at hf
    exact b_Script_addLabel_20 C hr hlk hnm _ _ _ _ M (lv_sub hl [] rfl) hf
  · rw [if_neg c1] at hf
    refine lv_iload_n C.x C.b dScript_addLabel_4 rfl (lv_at hl 1 rfl) ?_
    refine lv_bipush (v := 26) C.x C.b dScript_addLabel_5 (by decide) ?_
    refine lv_icmp_ge (tgt := 20) C.x C.b dScript_addLabel_7 (by decide) (fun c7 => ?_) (fun c7 => ?_)
    · rw [if_pos c7] at hf
      exact b_Script_addLabel_20 C hr hlk hnm _ _ _ _ M (lv_sub hl [] rfl) hf
    · rw [if_neg c7] at hf
      refine w_aload_n C.x C.b dScript_addLabel_10 rfl (lv_at hl 0 rfl) ?_
      obtain ⟨v11, h11, hf⟩ := Option.bind_eq_some_iff.mp hf
      refine w_getR C M h11 rfl (hm_in in_Script) (by decide) (List.mem_cons_of_mem _ wm_252) rfl dScript_addLabel_11 ?_
      refine lv_iload_n C.x C.b dScript_addLabel_14 rfl (lv_at hl 1 rfl) ?_
      obtain ⟨v15, h15, hf⟩ := Option.bind_eq_some_iff.mp hf
      refine w_iald C M h15 rfl dScript_addLabel_15 ?_
      refine lv_iconst (v := (-1)) C.x C.b dScript_addLabel_16 (by decide) ?_
      refine lv_icmp_eq (tgt := 22) C.x C.b dScript_addLabel_17 (by decide) (fun c17 => ?_) (fun c17 => ?_)
      · rw [if_pos c17] at hf
        refine w_aload_n C.x C.b dScript_addLabel_22 rfl (lv_at hl 0 rfl) ?_
        obtain ⟨v23, h23, hf⟩ := Option.bind_eq_some_iff.mp hf
        refine w_getR C M h23 rfl (hm_in in_Script) (by decide) (List.mem_cons_of_mem _ wm_252) rfl dScript_addLabel_23 ?_
        refine lv_iload_n C.x C.b dScript_addLabel_26 rfl (lv_at hl 1 rfl) ?_
        refine w_aload_n C.x C.b dScript_addLabel_27 rfl (lv_at hl 0 rfl) ?_
        obtain ⟨v28, h28, hf⟩ := Option.bind_eq_some_iff.mp hf
        refine w_getR C M h28 rfl (hm_in in_Script) (by decide) (List.mem_cons_of_mem _ wm_250) rfl dScript_addLabel_28 ?_
        obtain ⟨o31, g31, hf⟩ := Option.bind_eq_some_iff.mp hf
        obtain ⟨v31, h31, hf⟩ := Option.bind_eq_some_iff.mp hf
        refine w_ci M (w_runV C M g31 rfl (c_AL_size h31) (cwV 0 C.ts (hgV wm_293 wm_294 wm_295 wm_10 wm_296) rfl rfl rfl (by decide +kernel) ⟨Nat.le_of_ble_eq_true rfl, Nat.le_of_ble_eq_true rfl⟩) rfl hl.1 rfl (by simp [va_rf_cat, cat_i, cat_l, cat_n]) dScript_addLabel_31 ⟨Nat.le_refl _, Nat.le_refl _⟩) (fun H locs M => ?_)
        obtain ⟨E34, h34, hf⟩ := Option.bind_eq_some_iff.mp hf
        refine w_iast C M h34 rfl dScript_addLabel_34 (fun H locs M => ?_)
        refine lv_iconst (v := 1) C.x C.b dScript_addLabel_35 (by decide) ?_
        cases hf
        exact w_iret C M hr hlk rfl (Nat.le_refl _) (Nat.le_refl _) dScript_addLabel_36 rfl rfl
      · rw [if_neg c17] at hf
        exact b_Script_addLabel_20 C hr hlk hnm _ _ _ _ M (lv_sub hl [] rfl) hf
theorem dStr_coder_0 : decode prog_18_method_152_code 0 = .ok (.getstatic 38, 3) := by decide +kernel
theorem dStr_coder_3 : decode prog_18_method_152_code 3 = .ok (.ifCond .eq 10, 3) := by decide +kernel
theorem dStr_coder_6 : decode prog_18_method_152_code 6 = .ok (.aload_n 0, 1) := by decide +kernel
theorem dStr_coder_7 : decode prog_18_method_152_code 7 = .ok (.getfield 15, 3) := by decide +kernel
theorem dStr_coder_10 : decode prog_18_method_152_code 10 = .ok (.goto 4, 3) := by decide +kernel
theorem dStr_coder_13 : decode prog_18_method_152_code 13 = .ok (.iconst 1, 1) := by decide +kernel
theorem dStr_coder_14 : decode prog_18_method_152_code 14 = .ok (.ireturn, 1) := by decide +kernel
abbrev rm_Str_coder : Room := { frames := 0, cells := 0, slots := 0, locals := 0 }
def f_Str_coder_b14 (S : hE) (g : Nat → Nat) (E : hE) (t0 : Int32) : Option (Int32) := (
  (bT .byte t0).bind fun v14 =>
  some v14)
set_option maxHeartbeats 4000000 in
set_option maxRecDepth 100000 in
theorem b_Str_coder_14 {p : Program} {l : Launch} {e : Env} {s : State} {m : MethodId} {args : Array Value} {below : List Frame} {meth : Method} {c : Code} {D : va_G} {kA : Nat → ClassId} {S : hE} {g : Nat → Nat} {n0 nx : Nat} {E : hE} {res : Int32} (C : hX p s m args c prog_18_method_152_code 1 R_Str ws_Str_coder D kA S g n0) (hr : meth.sig.returnType = (some .byte)) (hlk : meth.locks = false) (hnm : meth.name = "coder") : ∀ (t0 : Int32) (H : Heap) (locs : List Loc) (ls : Array Slot), hY D kA n0 s E nx H locs → lv_has ls 1 [] → f_Str_coder_b14 S g E  t0 = some res → W p l e rm_Str_coder s m args below meth c H locs 0 0 (MQ below (va_Qi (fun r w => r = res ∧ w = (E, nx)) (hJ D kA S g n0) (fun q => n0 ≤ q)) args s 0 0 (fun q => n0 ≤ q)) (F0 m 14 ls [.int t0]) := by
  intro t0 H locs ls M hl hf
  unfold f_Str_coder_b14 at hf
  obtain ⟨v14, h14, hf⟩ := Option.bind_eq_some_iff.mp hf
  obtain ⟨i14, g14⟩ := bT_some (Or.inl rfl) h14
  rw [i14]
  cases hf
  exact w_iret C M hr hlk g14 (Nat.le_refl _) (Nat.le_refl _) dStr_coder_14 rfl rfl
def f_Str_coder (S : hE) (g : Nat → Nat) (E : hE) (x0 : Nat) : Option (Int32) := (
  if (1 : Int32) = 0 then (
  f_Str_coder_b14 S g E 1
  ) else (
  (gI (So S) (some x0) 100 1).bind fun v7 =>
  f_Str_coder_b14 S g E v7
  ))
set_option maxHeartbeats 4000000 in
set_option maxRecDepth 100000 in
theorem c_Str_coder {l : Launch} {D : va_G} {kA : Nat → ClassId} {S : hE} {g : Nat → Nat} {n0 nx : Nat} {x0 : Nat} {E : hE} {res : Int32} (hf : f_Str_coder S g E x0 = some res) : Met l y_Str_coder ws_Str_coder rm_Str_coder (va_Pc [va_rf (some x0)] (hJ D kA S g n0 (E, nx))) (va_Qi (fun r w => r = res ∧ w = (E, nx)) (hJ D kA S g n0) (fun q => n0 ≤ q)) 0 0 (fun q => n0 ≤ q) := by
  refine h_met (cc := prog_18_method_152_code) (maxL := 1) (ret := (some .byte)) (lvs := [(0, va_rf (some x0))]) zZ_k (by decide) rfl (by simp [lg_sl, va_rf_cat, cat_i, cat_l, cat_n]) (by simp [lv_args, va_rf_cat, cat_i, cat_l, cat_n]) ?_
  intro p e s m below meth c ls C M hr hlk hnm hl
  unfold f_Str_coder at hf
  refine w_getsC C M (zZ_S C.z) (List.mem_cons_of_mem _ wm_311) dStr_coder_0 ?_
  refine lv_if_eq (tgt := 13) C.x C.b dStr_coder_3 (by decide) (fun c3 => ?_) (fun c3 => ?_)
  · rw [if_pos c3] at hf
    refine lv_iconst (v := 1) C.x C.b dStr_coder_13 (by decide) ?_
    exact b_Str_coder_14 C hr hlk hnm _ _ _ _ M (lv_sub hl [] rfl) hf
  · rw [if_neg c3] at hf
    refine w_aload_n C.x C.b dStr_coder_6 rfl (lv_at hl 0 rfl) ?_
    obtain ⟨v7, h7, hf⟩ := Option.bind_eq_some_iff.mp hf
    refine w_sgetI C M (zZ_S C.z) h7 (List.mem_cons_of_mem _ wm_1069) rfl dStr_coder_7 ?_
    refine lv_goto (tgt := 14) C.x C.b dStr_coder_10 (by decide) ?_
    exact b_Str_coder_14 C hr hlk hnm _ _ _ _ M (lv_sub hl [] rfl) hf
theorem dStr_length_0 : decode prog_18_method_54_code 0 = .ok (.aload_n 0, 1) := by decide +kernel
theorem dStr_length_1 : decode prog_18_method_54_code 1 = .ok (.getfield 9, 3) := by decide +kernel
theorem dStr_length_4 : decode prog_18_method_54_code 4 = .ok (.arraylength, 1) := by decide +kernel
theorem dStr_length_5 : decode prog_18_method_54_code 5 = .ok (.aload_n 0, 1) := by decide +kernel
theorem dStr_length_6 : decode prog_18_method_54_code 6 = .ok (.invokevirtual 335, 3) := by decide +kernel
theorem dStr_length_9 : decode prog_18_method_54_code 9 = .ok (.ishr, 1) := by decide +kernel
theorem dStr_length_10 : decode prog_18_method_54_code 10 = .ok (.ireturn, 1) := by decide +kernel
abbrev rm_Str_length : Room := { frames := 1, cells := 0, slots := 0, locals := 20 }
def f_Str_length (S : hE) (g : Nat → Nat) (E : hE) (x0 : Nat) : Option (Int32) := (
  (gR (So S) (some x0) 100 0).bind fun v1 =>
  (sL1 (Sa S) v1 100).bind fun v4 =>
  (gO (So S) (some x0) 100).bind fun o6 =>
  (f_Str_coder S g E o6.1).bind fun v6 =>
  some (v4 >>> (v6 &&& 31)))
set_option maxHeartbeats 4000000 in
set_option maxRecDepth 100000 in
theorem c_Str_length {l : Launch} {D : va_G} {kA : Nat → ClassId} {S : hE} {g : Nat → Nat} {n0 nx : Nat} {x0 : Nat} {E : hE} {res : Int32} (hf : f_Str_length S g E x0 = some res) : Met l y_Str_length ws_Str_length rm_Str_length (va_Pc [va_rf (some x0)] (hJ D kA S g n0 (E, nx))) (va_Qi (fun r w => r = res ∧ w = (E, nx)) (hJ D kA S g n0) (fun q => n0 ≤ q)) 0 0 (fun q => n0 ≤ q) := by
  refine h_met (cc := prog_18_method_54_code) (maxL := 1) (ret := (some .int)) (lvs := [(0, va_rf (some x0))]) zZ_k (by decide) rfl (by simp [lg_sl, va_rf_cat, cat_i, cat_l, cat_n]) (by simp [lv_args, va_rf_cat, cat_i, cat_l, cat_n]) ?_
  intro p e s m below meth c ls C M hr hlk hnm hl
  unfold f_Str_length at hf
  refine w_aload_n C.x C.b dStr_length_0 rfl (lv_at hl 0 rfl) ?_
  obtain ⟨v1, h1, hf⟩ := Option.bind_eq_some_iff.mp hf
  refine w_sgetR C M (zZ_S C.z) h1 (List.mem_cons_of_mem _ wm_1068) rfl dStr_length_1 ?_
  obtain ⟨v4, h4, hf⟩ := Option.bind_eq_some_iff.mp hf
  refine w_sL1 C M (zZ_S C.z) h4 dStr_length_4 ?_
  refine w_aload_n C.x C.b dStr_length_5 rfl (lv_at hl 0 rfl) ?_
  obtain ⟨o6, g6, hf⟩ := Option.bind_eq_some_iff.mp hf
  obtain ⟨v6, h6, hf⟩ := Option.bind_eq_some_iff.mp hf
  refine w_ci M (w_runVs C M (zZ_S C.z) g6 (c_Str_coder h6) (cwV 0 C.ts (hgV wm_307 wm_308 wm_309 wm_12 wm_310) rfl rfl rfl (by decide +kernel) ⟨Nat.le_of_ble_eq_true rfl, Nat.le_of_ble_eq_true rfl⟩) rfl hl.1 rfl (by simp [va_rf_cat, cat_i, cat_l, cat_n]) dStr_length_6 ⟨Nat.le_refl _, Nat.le_refl _⟩) (fun H locs M => ?_)
  refine lv_ishr C.x C.b dStr_length_9 ?_
  cases hf
  exact w_iret C M hr hlk rfl (Nat.le_refl _) (Nat.le_refl _) dStr_length_10 rfl rfl
theorem dStr_isLatin1_0 : decode prog_18_method_154_code 0 = .ok (.getstatic 38, 3) := by decide +kernel
theorem dStr_isLatin1_3 : decode prog_18_method_154_code 3 = .ok (.ifCond .eq 14, 3) := by decide +kernel
theorem dStr_isLatin1_6 : decode prog_18_method_154_code 6 = .ok (.aload_n 0, 1) := by decide +kernel
theorem dStr_isLatin1_7 : decode prog_18_method_154_code 7 = .ok (.getfield 15, 3) := by decide +kernel
theorem dStr_isLatin1_10 : decode prog_18_method_154_code 10 = .ok (.ifCond .ne 7, 3) := by decide +kernel
theorem dStr_isLatin1_13 : decode prog_18_method_154_code 13 = .ok (.iconst 1, 1) := by decide +kernel
theorem dStr_isLatin1_14 : decode prog_18_method_154_code 14 = .ok (.goto 4, 3) := by decide +kernel
theorem dStr_isLatin1_17 : decode prog_18_method_154_code 17 = .ok (.iconst 0, 1) := by decide +kernel
theorem dStr_isLatin1_18 : decode prog_18_method_154_code 18 = .ok (.ireturn, 1) := by decide +kernel
abbrev rm_Str_isLatin1 : Room := { frames := 0, cells := 0, slots := 0, locals := 0 }
def f_Str_isLatin1_b18 (S : hE) (g : Nat → Nat) (E : hE) (t0 : Int32) : Option (Int32) := (
  (bZ t0).bind fun v18 =>
  some v18)
set_option maxHeartbeats 4000000 in
set_option maxRecDepth 100000 in
theorem b_Str_isLatin1_18 {p : Program} {l : Launch} {e : Env} {s : State} {m : MethodId} {args : Array Value} {below : List Frame} {meth : Method} {c : Code} {D : va_G} {kA : Nat → ClassId} {S : hE} {g : Nat → Nat} {n0 nx : Nat} {E : hE} {res : Int32} (C : hX p s m args c prog_18_method_154_code 1 R_Str ws_Str_isLatin1 D kA S g n0) (hr : meth.sig.returnType = (some .boolean)) (hlk : meth.locks = false) (hnm : meth.name = "isLatin1") : ∀ (t0 : Int32) (H : Heap) (locs : List Loc) (ls : Array Slot), hY D kA n0 s E nx H locs → lv_has ls 1 [] → f_Str_isLatin1_b18 S g E  t0 = some res → W p l e rm_Str_isLatin1 s m args below meth c H locs 0 0 (MQ below (va_Qi (fun r w => r = res ∧ w = (E, nx)) (hJ D kA S g n0) (fun q => n0 ≤ q)) args s 0 0 (fun q => n0 ≤ q)) (F0 m 18 ls [.int t0]) := by
  intro t0 H locs ls M hl hf
  unfold f_Str_isLatin1_b18 at hf
  obtain ⟨v18, h18, hf⟩ := Option.bind_eq_some_iff.mp hf
  obtain ⟨rfl, g18⟩ := bZ_some h18
  cases hf
  exact w_iret C M hr hlk (narrow_z g18) (Nat.le_refl _) (Nat.le_refl _) dStr_isLatin1_18 rfl rfl
def f_Str_isLatin1_b17 (S : hE) (g : Nat → Nat) (E : hE) : Option (Int32) := (
  f_Str_isLatin1_b18 S g E 0)
set_option maxHeartbeats 4000000 in
set_option maxRecDepth 100000 in
theorem b_Str_isLatin1_17 {p : Program} {l : Launch} {e : Env} {s : State} {m : MethodId} {args : Array Value} {below : List Frame} {meth : Method} {c : Code} {D : va_G} {kA : Nat → ClassId} {S : hE} {g : Nat → Nat} {n0 nx : Nat} {E : hE} {res : Int32} (C : hX p s m args c prog_18_method_154_code 1 R_Str ws_Str_isLatin1 D kA S g n0) (hr : meth.sig.returnType = (some .boolean)) (hlk : meth.locks = false) (hnm : meth.name = "isLatin1") : ∀  (H : Heap) (locs : List Loc) (ls : Array Slot), hY D kA n0 s E nx H locs → lv_has ls 1 [] → f_Str_isLatin1_b17 S g E   = some res → W p l e rm_Str_isLatin1 s m args below meth c H locs 0 0 (MQ below (va_Qi (fun r w => r = res ∧ w = (E, nx)) (hJ D kA S g n0) (fun q => n0 ≤ q)) args s 0 0 (fun q => n0 ≤ q)) (F0 m 17 ls []) := by
  intro  H locs ls M hl hf
  unfold f_Str_isLatin1_b17 at hf
  refine lv_iconst (v := 0) C.x C.b dStr_isLatin1_17 (by decide) ?_
  exact b_Str_isLatin1_18 C hr hlk hnm _ _ _ _ M (lv_sub hl [] rfl) hf
def f_Str_isLatin1 (S : hE) (g : Nat → Nat) (E : hE) (x0 : Nat) : Option (Int32) := (
  if (1 : Int32) = 0 then (
  f_Str_isLatin1_b17 S g E 
  ) else (
  (gI (So S) (some x0) 100 1).bind fun v7 =>
  if v7 = 0 then (
  f_Str_isLatin1_b18 S g E 1
  ) else (
  f_Str_isLatin1_b17 S g E 
  )
  ))
set_option maxHeartbeats 4000000 in
set_option maxRecDepth 100000 in
theorem c_Str_isLatin1 {l : Launch} {D : va_G} {kA : Nat → ClassId} {S : hE} {g : Nat → Nat} {n0 nx : Nat} {x0 : Nat} {E : hE} {res : Int32} (hf : f_Str_isLatin1 S g E x0 = some res) : Met l y_Str_isLatin1 ws_Str_isLatin1 rm_Str_isLatin1 (va_Pc [va_rf (some x0)] (hJ D kA S g n0 (E, nx))) (va_Qi (fun r w => r = res ∧ w = (E, nx)) (hJ D kA S g n0) (fun q => n0 ≤ q)) 0 0 (fun q => n0 ≤ q) := by
  refine h_met (cc := prog_18_method_154_code) (maxL := 1) (ret := (some .boolean)) (lvs := [(0, va_rf (some x0))]) zZ_k (by decide) rfl (by simp [lg_sl, va_rf_cat, cat_i, cat_l, cat_n]) (by simp [lv_args, va_rf_cat, cat_i, cat_l, cat_n]) ?_
  intro p e s m below meth c ls C M hr hlk hnm hl
  unfold f_Str_isLatin1 at hf
  refine w_getsC C M (zZ_S C.z) (List.mem_cons_of_mem _ wm_311) dStr_isLatin1_0 ?_
  refine lv_if_eq (tgt := 17) C.x C.b dStr_isLatin1_3 (by decide) (fun c3 => ?_) (fun c3 => ?_)
  · rw [if_pos c3] at hf
    exact b_Str_isLatin1_17 C hr hlk hnm _ _ _ M (lv_sub hl [] rfl) hf
  · rw [if_neg c3] at hf
    refine w_aload_n C.x C.b dStr_isLatin1_6 rfl (lv_at hl 0 rfl) ?_
    obtain ⟨v7, h7, hf⟩ := Option.bind_eq_some_iff.mp hf
    refine w_sgetI C M (zZ_S C.z) h7 (List.mem_cons_of_mem _ wm_1069) rfl dStr_isLatin1_7 ?_
    refine lv_if_ne (tgt := 17) C.x C.b dStr_isLatin1_10 (by decide) (fun c10 => ?_) (fun c10 => ?_)
    · rw [if_neg c10] at hf
      exact b_Str_isLatin1_17 C hr hlk hnm _ _ _ M (lv_sub hl [] rfl) hf
    · rw [if_pos c10] at hf
      refine lv_iconst (v := 1) C.x C.b dStr_isLatin1_13 (by decide) ?_
      refine lv_goto (tgt := 18) C.x C.b dStr_isLatin1_14 (by decide) ?_
      exact b_Str_isLatin1_18 C hr hlk hnm _ _ _ _ M (lv_sub hl [] rfl) hf
theorem dStr_checkIndex_0 : decode prog_18_method_155_code 0 = .ok (.iload_n 0, 1) := by decide +kernel
theorem dStr_checkIndex_1 : decode prog_18_method_155_code 1 = .ok (.iload_n 1, 1) := by decide +kernel
theorem dStr_checkIndex_2 : decode prog_18_method_155_code 2 = .ok (.getstatic 1053, 3) := by decide +kernel
theorem dStr_checkIndex_5 : decode prog_18_method_155_code 5 = .ok (.invokestatic 1059, 3) := by decide +kernel
theorem dStr_checkIndex_8 : decode prog_18_method_155_code 8 = .ok (.pop, 1) := by decide +kernel
theorem dStr_checkIndex_9 : decode prog_18_method_155_code 9 = .ok (.return_, 1) := by decide +kernel
abbrev rm_Str_checkIndex : Room := { frames := 1, cells := 0, slots := 0, locals := 22 }
def f_Str_checkIndex (S : hE) (g : Nat → Nat) (E : hE) (x0 : Int32) (x1 : Int32) : Option (Unit) := (
  (f_Pre_checkIndex E x0 x1 (gq g)).bind fun v5 =>
  some ())
set_option maxHeartbeats 4000000 in
set_option maxRecDepth 100000 in
theorem c_Str_checkIndex {l : Launch} {D : va_G} {kA : Nat → ClassId} {S : hE} {g : Nat → Nat} {n0 nx : Nat} {x0 : Int32} {x1 : Int32} {E : hE} {res : Unit} (hf : f_Str_checkIndex S g E x0 x1 = some res) : Met l y_Str_checkIndex ws_Str_checkIndex rm_Str_checkIndex (va_Pc [.int x0, .int x1] (hJ D kA S g n0 (E, nx))) (va_Qv (fun w => w = (E, nx)) (hJ D kA S g n0) (fun q => n0 ≤ q)) 0 0 (fun q => n0 ≤ q) := by
  refine h_met (cc := prog_18_method_155_code) (maxL := 2) (ret := none) (lvs := [(0, .int x0), (1, .int x1)]) zZ_k (by decide) rfl (by simp [lg_sl, va_rf_cat, cat_i, cat_l, cat_n]) (by simp [lv_args, va_rf_cat, cat_i, cat_l, cat_n]) ?_
  intro p e s m below meth c ls C M hr hlk hnm hl
  unfold f_Str_checkIndex at hf
  refine lv_iload_n C.x C.b dStr_checkIndex_0 rfl (lv_at hl 0 rfl) ?_
  refine lv_iload_n C.x C.b dStr_checkIndex_1 rfl (lv_at hl 1 rfl) ?_
  refine w_getsF C M (zZ_S C.z) (List.mem_cons_of_mem _ wm_331) dStr_checkIndex_2 ?_
  obtain ⟨v5, h5, hf⟩ := Option.bind_eq_some_iff.mp hf
  refine w_ci M (w_runS C M (c_Pre_checkIndex h5) (va_cwS 3 C.ts (hgT wm_333 wm_334 wm_14 wm_335) rfl rfl rfl (by decide +kernel) ⟨Nat.le_of_ble_eq_true rfl, Nat.le_of_ble_eq_true rfl⟩) rfl hl.1 rfl (Nat.zero_le _) dStr_checkIndex_5 ⟨Nat.le_refl _, Nat.le_refl _⟩) (fun H locs M => ?_)
  refine lv_pop C.x C.b dStr_checkIndex_8 rfl ?_
  cases hf
  exact w_vret C M hr hlk (Nat.le_refl _) (Nat.le_refl _) dStr_checkIndex_9 rfl
theorem dSL1_charAt_0 : decode prog_19_method_2_code 0 = .ok (.iload_n 1, 1) := by decide +kernel
theorem dSL1_charAt_1 : decode prog_19_method_2_code 1 = .ok (.aload_n 0, 1) := by decide +kernel
theorem dSL1_charAt_2 : decode prog_19_method_2_code 2 = .ok (.arraylength, 1) := by decide +kernel
theorem dSL1_charAt_3 : decode prog_19_method_2_code 3 = .ok (.invokestatic 9, 3) := by decide +kernel
theorem dSL1_charAt_6 : decode prog_19_method_2_code 6 = .ok (.aload_n 0, 1) := by decide +kernel
theorem dSL1_charAt_7 : decode prog_19_method_2_code 7 = .ok (.iload_n 1, 1) := by decide +kernel
theorem dSL1_charAt_8 : decode prog_19_method_2_code 8 = .ok (.baload, 1) := by decide +kernel
theorem dSL1_charAt_9 : decode prog_19_method_2_code 9 = .ok (.sipush 255, 3) := by decide +kernel
theorem dSL1_charAt_12 : decode prog_19_method_2_code 12 = .ok (.iand, 1) := by decide +kernel
theorem dSL1_charAt_13 : decode prog_19_method_2_code 13 = .ok (.i2c, 1) := by decide +kernel
theorem dSL1_charAt_14 : decode prog_19_method_2_code 14 = .ok (.ireturn, 1) := by decide +kernel
abbrev rm_SL1_charAt : Room := { frames := 2, cells := 0, slots := 0, locals := 43 }
def f_SL1_charAt (S : hE) (g : Nat → Nat) (E : hE) (x0 : Option Nat) (x1 : Int32) : Option (Int32) := (
  (sL1 (Sa S) x0 100).bind fun v2 =>
  (f_Str_checkIndex S g E x1 v2).bind fun v3 =>
  (aI (Sa S) x0 100 x1).bind fun v8 =>
  some (((v8 &&& 255).toUInt32 % 65536).toInt32))
set_option maxHeartbeats 4000000 in
set_option maxRecDepth 100000 in
theorem c_SL1_charAt {l : Launch} {D : va_G} {kA : Nat → ClassId} {S : hE} {g : Nat → Nat} {n0 nx : Nat} {x0 : Option Nat} {x1 : Int32} {E : hE} {res : Int32} (hf : f_SL1_charAt S g E x0 x1 = some res) : Met l y_SL1_charAt ws_SL1_charAt rm_SL1_charAt (va_Pc [va_rf x0, .int x1] (hJ D kA S g n0 (E, nx))) (va_Qi (fun r w => r = res ∧ w = (E, nx)) (hJ D kA S g n0) (fun q => n0 ≤ q)) 0 0 (fun q => n0 ≤ q) := by
  refine h_met (cc := prog_19_method_2_code) (maxL := 2) (ret := (some .char)) (lvs := [(0, va_rf x0), (1, .int x1)]) zZ_k (by decide) rfl (by simp [lg_sl, va_rf_cat, cat_i, cat_l, cat_n]) (by simp [lv_args, va_rf_cat, cat_i, cat_l, cat_n]) ?_
  intro p e s m below meth c ls C M hr hlk hnm hl
  unfold f_SL1_charAt at hf
  refine lv_iload_n C.x C.b dSL1_charAt_0 rfl (lv_at hl 1 rfl) ?_
  refine w_aload_n C.x C.b dSL1_charAt_1 rfl (lv_at hl 0 rfl) ?_
  obtain ⟨v2, h2, hf⟩ := Option.bind_eq_some_iff.mp hf
  refine w_sL1 C M (zZ_S C.z) h2 dSL1_charAt_2 ?_
  obtain ⟨v3, h3, hf⟩ := Option.bind_eq_some_iff.mp hf
  refine w_cv M (w_runS C M (c_Str_checkIndex h3) (va_cwS 2 C.ts (hgT wm_328 wm_329 wm_12 wm_330) rfl rfl rfl (by decide +kernel) ⟨Nat.le_of_ble_eq_true rfl, Nat.le_of_ble_eq_true rfl⟩) rfl hl.1 rfl (Nat.zero_le _) dSL1_charAt_3 ⟨Nat.le_refl _, Nat.le_refl _⟩) (fun H locs M => ?_)
  refine w_aload_n C.x C.b dSL1_charAt_6 rfl (lv_at hl 0 rfl) ?_
  refine lv_iload_n C.x C.b dSL1_charAt_7 rfl (lv_at hl 1 rfl) ?_
  obtain ⟨v8, h8, hf⟩ := Option.bind_eq_some_iff.mp hf
  refine w_saB C M (zZ_S C.z) h8 rfl dSL1_charAt_8 ?_
  refine lv_sipush (v := 255) C.x C.b dSL1_charAt_9 (by decide) ?_
  refine lv_iand C.x C.b dSL1_charAt_12 ?_
  refine lv_i2c C.x C.b dSL1_charAt_13 rfl ?_
  cases hf
  exact w_iret C M hr hlk (pk_nc _) (Nat.le_refl _) (Nat.le_refl _) dSL1_charAt_14 rfl rfl
theorem dStr_charAt_0 : decode prog_18_method_56_code 0 = .ok (.aload_n 0, 1) := by decide +kernel
theorem dStr_charAt_1 : decode prog_18_method_56_code 1 = .ok (.invokevirtual 492, 3) := by decide +kernel
theorem dStr_charAt_4 : decode prog_18_method_56_code 4 = .ok (.ifCond .eq 12, 3) := by decide +kernel
theorem dStr_charAt_7 : decode prog_18_method_56_code 7 = .ok (.aload_n 0, 1) := by decide +kernel
theorem dStr_charAt_8 : decode prog_18_method_56_code 8 = .ok (.getfield 9, 3) := by decide +kernel
theorem dStr_charAt_11 : decode prog_18_method_56_code 11 = .ok (.iload_n 1, 1) := by decide +kernel
theorem dStr_charAt_12 : decode prog_18_method_56_code 12 = .ok (.invokestatic 495, 3) := by decide +kernel
theorem dStr_charAt_15 : decode prog_18_method_56_code 15 = .ok (.ireturn, 1) := by decide +kernel
abbrev rm_Str_charAt : Room := { frames := 3, cells := 0, slots := 0, locals := 64 }
def f_Str_charAt (S : hE) (g : Nat → Nat) (E : hE) (x0 : Nat) (x1 : Int32) : Option (Int32) := (
  (gO (So S) (some x0) 100).bind fun o1 =>
  (f_Str_isLatin1 S g E o1.1).bind fun v1 =>
  if v1 = 0 then (
  none
  ) else (
  (gR (So S) (some x0) 100 0).bind fun v8 =>
  (f_SL1_charAt S g E v8 x1).bind fun v12 =>
  (bT .char v12).bind fun v15 =>
  some v15
  ))
set_option maxHeartbeats 4000000 in
set_option maxRecDepth 100000 in
theorem c_Str_charAt {l : Launch} {D : va_G} {kA : Nat → ClassId} {S : hE} {g : Nat → Nat} {n0 nx : Nat} {x0 : Nat} {x1 : Int32} {E : hE} {res : Int32} (hf : f_Str_charAt S g E x0 x1 = some res) : Met l y_Str_charAt ws_Str_charAt rm_Str_charAt (va_Pc [va_rf (some x0), .int x1] (hJ D kA S g n0 (E, nx))) (va_Qi (fun r w => r = res ∧ w = (E, nx)) (hJ D kA S g n0) (fun q => n0 ≤ q)) 0 0 (fun q => n0 ≤ q) := by
  refine h_met (cc := prog_18_method_56_code) (maxL := 2) (ret := (some .char)) (lvs := [(0, va_rf (some x0)), (1, .int x1)]) zZ_k (by decide) rfl (by simp [lg_sl, va_rf_cat, cat_i, cat_l, cat_n]) (by simp [lv_args, va_rf_cat, cat_i, cat_l, cat_n]) ?_
  intro p e s m below meth c ls C M hr hlk hnm hl
  unfold f_Str_charAt at hf
  refine w_aload_n C.x C.b dStr_charAt_0 rfl (lv_at hl 0 rfl) ?_
  obtain ⟨o1, g1, hf⟩ := Option.bind_eq_some_iff.mp hf
  obtain ⟨v1, h1, hf⟩ := Option.bind_eq_some_iff.mp hf
  refine w_ci M (w_runVs C M (zZ_S C.z) g1 (c_Str_isLatin1 h1) (cwV 0 C.ts (hgV wm_321 wm_322 wm_323 wm_12 wm_324) rfl rfl rfl (by decide +kernel) ⟨Nat.le_of_ble_eq_true rfl, Nat.le_of_ble_eq_true rfl⟩) rfl hl.1 rfl (Nat.zero_le _) dStr_charAt_1 ⟨Nat.le_refl _, Nat.le_refl _⟩) (fun H locs M => ?_)
  refine lv_if_eq (tgt := 16) C.x C.b dStr_charAt_4 (by decide) (fun c4 => ?_) (fun c4 => ?_)
  · rw [if_pos c4] at hf
    cases hf
  · rw [if_neg c4] at hf
    refine w_aload_n C.x C.b dStr_charAt_7 rfl (lv_at hl 0 rfl) ?_
    obtain ⟨v8, h8, hf⟩ := Option.bind_eq_some_iff.mp hf
    refine w_sgetR C M (zZ_S C.z) h8 (List.mem_cons_of_mem _ wm_1068) rfl dStr_charAt_8 ?_
    refine lv_iload_n C.x C.b dStr_charAt_11 rfl (lv_at hl 1 rfl) ?_
    obtain ⟨v12, h12, hf⟩ := Option.bind_eq_some_iff.mp hf
    refine w_ci M (w_runS C M (c_SL1_charAt h12) (va_cwS 2 C.ts (hgT wm_325 wm_326 wm_13 wm_327) rfl rfl rfl (by decide +kernel) ⟨Nat.le_of_ble_eq_true rfl, Nat.le_of_ble_eq_true rfl⟩) rfl hl.1 rfl (Nat.zero_le _) dStr_charAt_12 ⟨Nat.le_refl _, Nat.le_refl _⟩) (fun H locs M => ?_)
    obtain ⟨v15, h15, hf⟩ := Option.bind_eq_some_iff.mp hf
    obtain ⟨i15, g15⟩ := bT_some (Or.inr rfl) h15
    rw [i15]
    cases hf
    exact w_iret C M hr hlk g15 (Nat.le_refl _) (Nat.le_refl _) dStr_charAt_15 rfl rfl
theorem dTape_isWord_0 : decode prog_9_method_10_code 0 = .ok (.aload_n 0, 1) := by decide +kernel
theorem dTape_isWord_1 : decode prog_9_method_10_code 1 = .ok (.iload_n 1, 1) := by decide +kernel
theorem dTape_isWord_2 : decode prog_9_method_10_code 2 = .ok (.invokevirtual 55, 3) := by decide +kernel
theorem dTape_isWord_5 : decode prog_9_method_10_code 5 = .ok (.aload_n 2, 1) := by decide +kernel
theorem dTape_isWord_6 : decode prog_9_method_10_code 6 = .ok (.invokevirtual 113, 3) := by decide +kernel
theorem dTape_isWord_9 : decode prog_9_method_10_code 9 = .ok (.if_icmp .eq 5, 3) := by decide +kernel
theorem dTape_isWord_12 : decode prog_9_method_10_code 12 = .ok (.iconst 0, 1) := by decide +kernel
theorem dTape_isWord_13 : decode prog_9_method_10_code 13 = .ok (.ireturn, 1) := by decide +kernel
theorem dTape_isWord_14 : decode prog_9_method_10_code 14 = .ok (.iconst 0, 1) := by decide +kernel
theorem dTape_isWord_15 : decode prog_9_method_10_code 15 = .ok (.istore_n 3, 1) := by decide +kernel
theorem dTape_isWord_16 : decode prog_9_method_10_code 16 = .ok (.iload_n 3, 1) := by decide +kernel
theorem dTape_isWord_17 : decode prog_9_method_10_code 17 = .ok (.aload_n 2, 1) := by decide +kernel
theorem dTape_isWord_18 : decode prog_9_method_10_code 18 = .ok (.invokevirtual 113, 3) := by decide +kernel
theorem dTape_isWord_21 : decode prog_9_method_10_code 21 = .ok (.if_icmp .ge 25, 3) := by decide +kernel
theorem dTape_isWord_24 : decode prog_9_method_10_code 24 = .ok (.aload_n 0, 1) := by decide +kernel
theorem dTape_isWord_25 : decode prog_9_method_10_code 25 = .ok (.iload_n 1, 1) := by decide +kernel
theorem dTape_isWord_26 : decode prog_9_method_10_code 26 = .ok (.iload_n 3, 1) := by decide +kernel
theorem dTape_isWord_27 : decode prog_9_method_10_code 27 = .ok (.invokevirtual 58, 3) := by decide +kernel
theorem dTape_isWord_30 : decode prog_9_method_10_code 30 = .ok (.aload_n 2, 1) := by decide +kernel
theorem dTape_isWord_31 : decode prog_9_method_10_code 31 = .ok (.iload_n 3, 1) := by decide +kernel
theorem dTape_isWord_32 : decode prog_9_method_10_code 32 = .ok (.invokevirtual 126, 3) := by decide +kernel
theorem dTape_isWord_35 : decode prog_9_method_10_code 35 = .ok (.if_icmp .eq 5, 3) := by decide +kernel
theorem dTape_isWord_38 : decode prog_9_method_10_code 38 = .ok (.iconst 0, 1) := by decide +kernel
theorem dTape_isWord_39 : decode prog_9_method_10_code 39 = .ok (.ireturn, 1) := by decide +kernel
theorem dTape_isWord_40 : decode prog_9_method_10_code 40 = .ok (.iinc 3 1, 3) := by decide +kernel
theorem dTape_isWord_43 : decode prog_9_method_10_code 43 = .ok (.goto (-27), 3) := by decide +kernel
theorem dTape_isWord_46 : decode prog_9_method_10_code 46 = .ok (.iconst 1, 1) := by decide +kernel
theorem dTape_isWord_47 : decode prog_9_method_10_code 47 = .ok (.ireturn, 1) := by decide +kernel
abbrev rm_Tape_isWord : Room := { frames := 4, cells := 0, slots := 0, locals := 85 }
def f_Tape_isWord_b16 (S : hE) (g : Nat → Nat) (N : Nat) (E : hE) : Nat → Option Nat → Int32 → Option Nat → Int32 → Option (Int32)
  | 0, _, _, _, _ => none
  | n + 1, y0, y1, y2, y3 => (
  (gO (So S) y2 100).bind fun o18 =>
  (f_Str_length S g E o18.1).bind fun v18 =>
  if v18 ≤ y3 then (
  some 1
  ) else (
  (gO E y0 5).bind fun o27 =>
  (f_Tape_letterAt E o27.1 y1 y3).bind fun v27 =>
  (gO (So S) y2 100).bind fun o32 =>
  (f_Str_charAt S g E o32.1 y3).bind fun v32 =>
  if v27 = v32 then (
  f_Tape_isWord_b16 S g N E n y0 y1 y2 (y3 + 1)
  ) else (
  some 0
  )
  ))
set_option maxHeartbeats 4000000 in
set_option maxRecDepth 100000 in
theorem b_Tape_isWord_16 {p : Program} {l : Launch} {e : Env} {s : State} {m : MethodId} {args : Array Value} {below : List Frame} {meth : Method} {c : Code} {D : va_G} {kA : Nat → ClassId} {S : hE} {g : Nat → Nat} {n0 nx : Nat} {N : Nat} {E : hE} {res : Int32} (C : hX p s m args c prog_9_method_10_code 4 R_Tape ws_Tape_isWord D kA S g n0) (hr : meth.sig.returnType = (some .boolean)) (hlk : meth.locks = false) (hnm : meth.name = "isWord") : ∀ n : Nat, ∀ (y0 : Option Nat) (y1 : Int32) (y2 : Option Nat) (y3 : Int32) (H : Heap) (locs : List Loc) (ls : Array Slot), hY D kA n0 s E nx H locs → lv_has ls 4 [(0, va_rf y0), (1, .int y1), (2, va_rf y2), (3, .int y3)] → f_Tape_isWord_b16 S g N E n y0 y1 y2 y3 = some res → W p l e rm_Tape_isWord s m args below meth c H locs 0 0 (MQ below (va_Qi (fun r w => r = res ∧ w = (E, nx)) (hJ D kA S g n0) (fun q => n0 ≤ q)) args s 0 0 (fun q => n0 ≤ q)) (F0 m 16 ls []) := by
  intro n
  induction n with
  | zero =>
    intro y0 y1 y2 y3 H locs ls M hl hf
    simp [f_Tape_isWord_b16] at hf
  | succ n ih =>
    intro y0 y1 y2 y3 H locs ls M hl hf
    rw [f_Tape_isWord_b16] at hf
    refine lv_iload_n C.x C.b dTape_isWord_16 rfl (lv_at hl 3 rfl) ?_
    refine w_aload_n C.x C.b dTape_isWord_17 rfl (lv_at hl 2 rfl) ?_
    obtain ⟨o18, g18, hf⟩ := Option.bind_eq_some_iff.mp hf
    obtain ⟨v18, h18, hf⟩ := Option.bind_eq_some_iff.mp hf
    refine w_ci M (w_runVs C M (zZ_S C.z) g18 (c_Str_length h18) (cwV 0 C.ts (hgV wm_303 wm_304 wm_305 wm_12 wm_306) rfl rfl rfl (by decide +kernel) ⟨Nat.le_of_ble_eq_true rfl, Nat.le_of_ble_eq_true rfl⟩) rfl hl.1 rfl (by simp [va_rf_cat, cat_i, cat_l, cat_n]) dTape_isWord_18 ⟨Nat.le_refl _, Nat.le_refl _⟩) (fun H locs M => ?_)
    refine lv_icmp_ge (tgt := 46) C.x C.b dTape_isWord_21 (by decide) (fun c21 => ?_) (fun c21 => ?_)
    · rw [if_pos c21] at hf
      refine lv_iconst (v := 1) C.x C.b dTape_isWord_46 (by decide) ?_
      cases hf
      exact w_iret C M hr hlk rfl (Nat.le_refl _) (Nat.le_refl _) dTape_isWord_47 rfl rfl
    · rw [if_neg c21] at hf
      refine w_aload_n C.x C.b dTape_isWord_24 rfl (lv_at hl 0 rfl) ?_
      refine lv_iload_n C.x C.b dTape_isWord_25 rfl (lv_at hl 1 rfl) ?_
      refine lv_iload_n C.x C.b dTape_isWord_26 rfl (lv_at hl 3 rfl) ?_
      obtain ⟨o27, g27, hf⟩ := Option.bind_eq_some_iff.mp hf
      obtain ⟨v27, h27, hf⟩ := Option.bind_eq_some_iff.mp hf
      refine w_ci M (w_runV C M g27 rfl (c_Tape_letterAt h27) (cwV 2 C.ts (hgV wm_282 wm_284 sel_Tape_letterAt wm_2 wm_285) rfl rfl rfl (by decide +kernel) ⟨Nat.le_of_ble_eq_true rfl, Nat.le_of_ble_eq_true rfl⟩) rfl hl.1 rfl (Nat.zero_le _) dTape_isWord_27 ⟨Nat.le_refl _, Nat.le_refl _⟩) (fun H locs M => ?_)
      refine w_aload_n C.x C.b dTape_isWord_30 rfl (lv_at hl 2 rfl) ?_
      refine lv_iload_n C.x C.b dTape_isWord_31 rfl (lv_at hl 3 rfl) ?_
      obtain ⟨o32, g32, hf⟩ := Option.bind_eq_some_iff.mp hf
      obtain ⟨v32, h32, hf⟩ := Option.bind_eq_some_iff.mp hf
      refine w_ci M (w_runVs C M (zZ_S C.z) g32 (c_Str_charAt h32) (cwV 1 C.ts (hgV wm_317 wm_318 wm_319 wm_12 wm_320) rfl rfl rfl (by decide +kernel) ⟨Nat.le_of_ble_eq_true rfl, Nat.le_of_ble_eq_true rfl⟩) rfl hl.1 rfl (by simp [va_rf_cat, cat_i, cat_l, cat_n]) dTape_isWord_32 ⟨Nat.le_refl _, Nat.le_refl _⟩) (fun H locs M => ?_)
      refine lv_icmp_eq (tgt := 40) C.x C.b dTape_isWord_35 (by decide) (fun c35 => ?_) (fun c35 => ?_)
      · rw [if_pos c35] at hf
        refine lv_iinc (v := y3 + 1) (lv' := [(3, .int (y3 + 1)), (0, va_rf y0), (1, .int y1), (2, va_rf y2)]) C.x C.b dTape_isWord_40 hl (k := 3) rfl rfl (by decide) (by simp only [List.filter, va_rf_cat] <;> rfl) (fun ls hl => ?_)
        refine lv_goto (tgt := 16) C.x C.b dTape_isWord_43 (by decide) ?_
        exact ih _ _ _ _ _ _ _ M (lv_sub hl [1, 2, 3, 0] rfl) hf
      · rw [if_neg c35] at hf
        refine lv_iconst (v := 0) C.x C.b dTape_isWord_38 (by decide) ?_
        cases hf
        exact w_iret C M hr hlk rfl (Nat.le_refl _) (Nat.le_refl _) dTape_isWord_39 rfl rfl
def f_Tape_isWord (S : hE) (g : Nat → Nat) (N : Nat) (E : hE) (x0 : Nat) (x1 : Int32) (x2 : Option Nat) : Option (Int32) := (
  (gO E (some x0) 5).bind fun o2 =>
  (f_Tape_lengthOf E o2.1 x1).bind fun v2 =>
  (gO (So S) x2 100).bind fun o6 =>
  (f_Str_length S g E o6.1).bind fun v6 =>
  if v2 = v6 then (
  f_Tape_isWord_b16 S g N E N (some x0) x1 x2 0
  ) else (
  some 0
  ))
set_option maxHeartbeats 4000000 in
set_option maxRecDepth 100000 in
theorem c_Tape_isWord {l : Launch} {D : va_G} {kA : Nat → ClassId} {S : hE} {g : Nat → Nat} {n0 nx : Nat} {N : Nat} {x0 : Nat} {x1 : Int32} {x2 : Option Nat} {E : hE} {res : Int32} (hf : f_Tape_isWord S g N E x0 x1 x2 = some res) : Met l y_Tape_isWord ws_Tape_isWord rm_Tape_isWord (va_Pc [va_rf (some x0), .int x1, va_rf x2] (hJ D kA S g n0 (E, nx))) (va_Qi (fun r w => r = res ∧ w = (E, nx)) (hJ D kA S g n0) (fun q => n0 ≤ q)) 0 0 (fun q => n0 ≤ q) := by
  refine h_met (cc := prog_9_method_10_code) (maxL := 4) (ret := (some .boolean)) (lvs := [(0, va_rf (some x0)), (1, .int x1), (2, va_rf x2)]) zZ_k (by decide) rfl (by simp [lg_sl, va_rf_cat, cat_i, cat_l, cat_n]) (by simp [lv_args, va_rf_cat, cat_i, cat_l, cat_n]) ?_
  intro p e s m below meth c ls C M hr hlk hnm hl
  unfold f_Tape_isWord at hf
  refine w_aload_n C.x C.b dTape_isWord_0 rfl (lv_at hl 0 rfl) ?_
  refine lv_iload_n C.x C.b dTape_isWord_1 rfl (lv_at hl 1 rfl) ?_
  obtain ⟨o2, g2, hf⟩ := Option.bind_eq_some_iff.mp hf
  obtain ⟨v2, h2, hf⟩ := Option.bind_eq_some_iff.mp hf
  refine w_ci M (w_runV C M g2 rfl (c_Tape_lengthOf h2) (cwV 1 C.ts (hgV wm_278 wm_280 sel_Tape_lengthOf wm_2 wm_281) rfl rfl rfl (by decide +kernel) ⟨Nat.le_of_ble_eq_true rfl, Nat.le_of_ble_eq_true rfl⟩) rfl hl.1 rfl (Nat.zero_le _) dTape_isWord_2 ⟨Nat.le_refl _, Nat.le_refl _⟩) (fun H locs M => ?_)
  refine w_aload_n C.x C.b dTape_isWord_5 rfl (lv_at hl 2 rfl) ?_
  obtain ⟨o6, g6, hf⟩ := Option.bind_eq_some_iff.mp hf
  obtain ⟨v6, h6, hf⟩ := Option.bind_eq_some_iff.mp hf
  refine w_ci M (w_runVs C M (zZ_S C.z) g6 (c_Str_length h6) (cwV 0 C.ts (hgV wm_303 wm_304 wm_305 wm_12 wm_306) rfl rfl rfl (by decide +kernel) ⟨Nat.le_of_ble_eq_true rfl, Nat.le_of_ble_eq_true rfl⟩) rfl hl.1 rfl (by simp [va_rf_cat, cat_i, cat_l, cat_n]) dTape_isWord_6 ⟨Nat.le_refl _, Nat.le_refl _⟩) (fun H locs M => ?_)
  refine lv_icmp_eq (tgt := 14) C.x C.b dTape_isWord_9 (by decide) (fun c9 => ?_) (fun c9 => ?_)
  · rw [if_pos c9] at hf
    refine lv_iconst (v := 0) C.x C.b dTape_isWord_14 (by decide) ?_
    refine lv_istore_n (lv' := [(3, .int 0), (0, va_rf (some x0)), (1, .int x1), (2, va_rf x2)]) C.x C.b dTape_isWord_15 rfl hl (by decide) (by simp only [List.filter, va_rf_cat] <;> rfl) (fun ls hl => ?_)
    exact b_Tape_isWord_16 C hr hlk hnm N _ _ _ _ _ _ _ M (lv_sub hl [1, 2, 3, 0] rfl) hf
  · rw [if_neg c9] at hf
    refine lv_iconst (v := 0) C.x C.b dTape_isWord_12 (by decide) ?_
    cases hf
    exact w_iret C M hr hlk rfl (Nat.le_refl _) (Nat.le_refl _) dTape_isWord_13 rfl rfl
theorem dTape_onlyLetter_0 : decode prog_9_method_9_code 0 = .ok (.aload_n 0, 1) := by decide +kernel
theorem dTape_onlyLetter_1 : decode prog_9_method_9_code 1 = .ok (.iload_n 1, 1) := by decide +kernel
theorem dTape_onlyLetter_2 : decode prog_9_method_9_code 2 = .ok (.invokevirtual 55, 3) := by decide +kernel
theorem dTape_onlyLetter_5 : decode prog_9_method_9_code 5 = .ok (.iconst 1, 1) := by decide +kernel
theorem dTape_onlyLetter_6 : decode prog_9_method_9_code 6 = .ok (.if_icmp .ne 12, 3) := by decide +kernel
theorem dTape_onlyLetter_9 : decode prog_9_method_9_code 9 = .ok (.aload_n 0, 1) := by decide +kernel
theorem dTape_onlyLetter_10 : decode prog_9_method_9_code 10 = .ok (.iload_n 1, 1) := by decide +kernel
theorem dTape_onlyLetter_11 : decode prog_9_method_9_code 11 = .ok (.iconst 0, 1) := by decide +kernel
theorem dTape_onlyLetter_12 : decode prog_9_method_9_code 12 = .ok (.invokevirtual 58, 3) := by decide +kernel
theorem dTape_onlyLetter_15 : decode prog_9_method_9_code 15 = .ok (.goto 4, 3) := by decide +kernel
theorem dTape_onlyLetter_18 : decode prog_9_method_9_code 18 = .ok (.iconst (-1), 1) := by decide +kernel
theorem dTape_onlyLetter_19 : decode prog_9_method_9_code 19 = .ok (.ireturn, 1) := by decide +kernel
abbrev rm_Tape_onlyLetter : Room := { frames := 1, cells := 0, slots := 0, locals := 24 }
def f_Tape_onlyLetter_b19 (E : hE) (t0 : Int32) : Option (Int32) := (
  some t0)
set_option maxHeartbeats 4000000 in
set_option maxRecDepth 100000 in
theorem b_Tape_onlyLetter_19 {p : Program} {l : Launch} {e : Env} {s : State} {m : MethodId} {args : Array Value} {below : List Frame} {meth : Method} {c : Code} {D : va_G} {kA : Nat → ClassId} {S : hE} {g : Nat → Nat} {n0 nx : Nat} {E : hE} {res : Int32} (C : hX p s m args c prog_9_method_9_code 2 R_Tape ws_Tape_onlyLetter D kA S g n0) (hr : meth.sig.returnType = (some .int)) (hlk : meth.locks = false) (hnm : meth.name = "onlyLetter") : ∀ (t0 : Int32) (H : Heap) (locs : List Loc) (ls : Array Slot), hY D kA n0 s E nx H locs → lv_has ls 2 [] → f_Tape_onlyLetter_b19 E  t0 = some res → W p l e rm_Tape_onlyLetter s m args below meth c H locs 0 0 (MQ below (va_Qi (fun r w => r = res ∧ w = (E, nx)) (hJ D kA S g n0) (fun q => n0 ≤ q)) args s 0 0 (fun q => n0 ≤ q)) (F0 m 19 ls [.int t0]) := by
  intro t0 H locs ls M hl hf
  unfold f_Tape_onlyLetter_b19 at hf
  cases hf
  exact w_iret C M hr hlk rfl (Nat.le_refl _) (Nat.le_refl _) dTape_onlyLetter_19 rfl rfl
def f_Tape_onlyLetter (E : hE) (x0 : Nat) (x1 : Int32) : Option (Int32) := (
  (gO E (some x0) 5).bind fun o2 =>
  (f_Tape_lengthOf E o2.1 x1).bind fun v2 =>
  if v2 = 1 then (
  (gO E (some x0) 5).bind fun o12 =>
  (f_Tape_letterAt E o12.1 x1 0).bind fun v12 =>
  f_Tape_onlyLetter_b19 E v12
  ) else (
  f_Tape_onlyLetter_b19 E (-1)
  ))
set_option maxHeartbeats 4000000 in
set_option maxRecDepth 100000 in
theorem c_Tape_onlyLetter {l : Launch} {D : va_G} {kA : Nat → ClassId} {S : hE} {g : Nat → Nat} {n0 nx : Nat} {x0 : Nat} {x1 : Int32} {E : hE} {res : Int32} (hf : f_Tape_onlyLetter E x0 x1 = some res) : Met l y_Tape_onlyLetter ws_Tape_onlyLetter rm_Tape_onlyLetter (va_Pc [va_rf (some x0), .int x1] (hJ D kA S g n0 (E, nx))) (va_Qi (fun r w => r = res ∧ w = (E, nx)) (hJ D kA S g n0) (fun q => n0 ≤ q)) 0 0 (fun q => n0 ≤ q) := by
  refine h_met (cc := prog_9_method_9_code) (maxL := 2) (ret := (some .int)) (lvs := [(0, va_rf (some x0)), (1, .int x1)]) zZ_k (by decide) rfl (by simp [lg_sl, va_rf_cat, cat_i, cat_l, cat_n]) (by simp [lv_args, va_rf_cat, cat_i, cat_l, cat_n]) ?_
  intro p e s m below meth c ls C M hr hlk hnm hl
  unfold f_Tape_onlyLetter at hf
  refine w_aload_n C.x C.b dTape_onlyLetter_0 rfl (lv_at hl 0 rfl) ?_
  refine lv_iload_n C.x C.b dTape_onlyLetter_1 rfl (lv_at hl 1 rfl) ?_
  obtain ⟨o2, g2, hf⟩ := Option.bind_eq_some_iff.mp hf
  obtain ⟨v2, h2, hf⟩ := Option.bind_eq_some_iff.mp hf
  refine w_ci M (w_runV C M g2 rfl (c_Tape_lengthOf h2) (cwV 1 C.ts (hgV wm_278 wm_280 sel_Tape_lengthOf wm_2 wm_281) rfl rfl rfl (by decide +kernel) ⟨Nat.le_of_ble_eq_true rfl, Nat.le_of_ble_eq_true rfl⟩) rfl hl.1 rfl (Nat.zero_le _) dTape_onlyLetter_2 ⟨Nat.le_refl _, Nat.le_refl _⟩) (fun H locs M => ?_)
  refine lv_iconst (v := 1) C.x C.b dTape_onlyLetter_5 (by decide) ?_
  refine lv_icmp_ne (tgt := 18) C.x C.b dTape_onlyLetter_6 (by decide) (fun c6 => ?_) (fun c6 => ?_)
  · rw [if_neg c6] at hf
    refine lv_iconst (v := (-1)) C.x C.b dTape_onlyLetter_18 (by decide) ?_
    exact b_Tape_onlyLetter_19 C hr hlk hnm _ _ _ _ M (lv_sub hl [] rfl) hf
  · rw [if_pos c6] at hf
    refine w_aload_n C.x C.b dTape_onlyLetter_9 rfl (lv_at hl 0 rfl) ?_
    refine lv_iload_n C.x C.b dTape_onlyLetter_10 rfl (lv_at hl 1 rfl) ?_
    refine lv_iconst (v := 0) C.x C.b dTape_onlyLetter_11 (by decide) ?_
    obtain ⟨o12, g12, hf⟩ := Option.bind_eq_some_iff.mp hf
    obtain ⟨v12, h12, hf⟩ := Option.bind_eq_some_iff.mp hf
    refine w_ci M (w_runV C M g12 rfl (c_Tape_letterAt h12) (cwV 2 C.ts (hgV wm_282 wm_284 sel_Tape_letterAt wm_2 wm_285) rfl rfl rfl (by decide +kernel) ⟨Nat.le_of_ble_eq_true rfl, Nat.le_of_ble_eq_true rfl⟩) rfl hl.1 rfl (Nat.zero_le _) dTape_onlyLetter_12 ⟨Nat.le_refl _, Nat.le_refl _⟩) (fun H locs M => ?_)
    refine lv_goto (tgt := 19) C.x C.b dTape_onlyLetter_15 (by decide) ?_
    exact b_Tape_onlyLetter_19 C hr hlk hnm _ _ _ _ M (lv_sub hl [] rfl) hf
theorem dTape_registerNamed_0 : decode prog_9_method_12_code 0 = .ok (.iload_n 0, 1) := by decide +kernel
theorem dTape_registerNamed_1 : decode prog_9_method_12_code 1 = .ok (.bipush 97, 2) := by decide +kernel
theorem dTape_registerNamed_3 : decode prog_9_method_12_code 3 = .ok (.if_icmp .lt 16, 3) := by decide +kernel
theorem dTape_registerNamed_6 : decode prog_9_method_12_code 6 = .ok (.iload_n 0, 1) := by decide +kernel
theorem dTape_registerNamed_7 : decode prog_9_method_12_code 7 = .ok (.bipush 105, 2) := by decide +kernel
theorem dTape_registerNamed_9 : decode prog_9_method_12_code 9 = .ok (.if_icmp .ge 10, 3) := by decide +kernel
theorem dTape_registerNamed_12 : decode prog_9_method_12_code 12 = .ok (.iload_n 0, 1) := by decide +kernel
theorem dTape_registerNamed_13 : decode prog_9_method_12_code 13 = .ok (.bipush 97, 2) := by decide +kernel
theorem dTape_registerNamed_15 : decode prog_9_method_12_code 15 = .ok (.isub, 1) := by decide +kernel
theorem dTape_registerNamed_16 : decode prog_9_method_12_code 16 = .ok (.goto 4, 3) := by decide +kernel
theorem dTape_registerNamed_19 : decode prog_9_method_12_code 19 = .ok (.iconst (-1), 1) := by decide +kernel
theorem dTape_registerNamed_20 : decode prog_9_method_12_code 20 = .ok (.ireturn, 1) := by decide +kernel
abbrev rm_Tape_registerNamed : Room := { frames := 0, cells := 0, slots := 0, locals := 0 }
def f_Tape_registerNamed_b20 (E : hE) (t0 : Int32) : Option (Int32) := (
  some t0)
set_option maxHeartbeats 4000000 in
set_option maxRecDepth 100000 in
theorem b_Tape_registerNamed_20 {p : Program} {l : Launch} {e : Env} {s : State} {m : MethodId} {args : Array Value} {below : List Frame} {meth : Method} {c : Code} {D : va_G} {kA : Nat → ClassId} {S : hE} {g : Nat → Nat} {n0 nx : Nat} {E : hE} {res : Int32} (C : hX p s m args c prog_9_method_12_code 1 R_Tape ws_Tape_registerNamed D kA S g n0) (hr : meth.sig.returnType = (some .int)) (hlk : meth.locks = false) (hnm : meth.name = "registerNamed") : ∀ (t0 : Int32) (H : Heap) (locs : List Loc) (ls : Array Slot), hY D kA n0 s E nx H locs → lv_has ls 1 [] → f_Tape_registerNamed_b20 E  t0 = some res → W p l e rm_Tape_registerNamed s m args below meth c H locs 0 0 (MQ below (va_Qi (fun r w => r = res ∧ w = (E, nx)) (hJ D kA S g n0) (fun q => n0 ≤ q)) args s 0 0 (fun q => n0 ≤ q)) (F0 m 20 ls [.int t0]) := by
  intro t0 H locs ls M hl hf
  unfold f_Tape_registerNamed_b20 at hf
  cases hf
  exact w_iret C M hr hlk rfl (Nat.le_refl _) (Nat.le_refl _) dTape_registerNamed_20 rfl rfl
def f_Tape_registerNamed_b19 (E : hE) : Option (Int32) := (
  f_Tape_registerNamed_b20 E (-1))
set_option maxHeartbeats 4000000 in
set_option maxRecDepth 100000 in
theorem b_Tape_registerNamed_19 {p : Program} {l : Launch} {e : Env} {s : State} {m : MethodId} {args : Array Value} {below : List Frame} {meth : Method} {c : Code} {D : va_G} {kA : Nat → ClassId} {S : hE} {g : Nat → Nat} {n0 nx : Nat} {E : hE} {res : Int32} (C : hX p s m args c prog_9_method_12_code 1 R_Tape ws_Tape_registerNamed D kA S g n0) (hr : meth.sig.returnType = (some .int)) (hlk : meth.locks = false) (hnm : meth.name = "registerNamed") : ∀  (H : Heap) (locs : List Loc) (ls : Array Slot), hY D kA n0 s E nx H locs → lv_has ls 1 [] → f_Tape_registerNamed_b19 E   = some res → W p l e rm_Tape_registerNamed s m args below meth c H locs 0 0 (MQ below (va_Qi (fun r w => r = res ∧ w = (E, nx)) (hJ D kA S g n0) (fun q => n0 ≤ q)) args s 0 0 (fun q => n0 ≤ q)) (F0 m 19 ls []) := by
  intro  H locs ls M hl hf
  unfold f_Tape_registerNamed_b19 at hf
  refine lv_iconst (v := (-1)) C.x C.b dTape_registerNamed_19 (by decide) ?_
  exact b_Tape_registerNamed_20 C hr hlk hnm _ _ _ _ M (lv_sub hl [] rfl) hf
def f_Tape_registerNamed (E : hE) (x0 : Int32) : Option (Int32) := (
  if x0 < 97 then (
  f_Tape_registerNamed_b19 E 
  ) else (
  if 105 ≤ x0 then (
  f_Tape_registerNamed_b19 E 
  ) else (
  f_Tape_registerNamed_b20 E (x0 - 97)
  )
  ))
set_option maxHeartbeats 4000000 in
set_option maxRecDepth 100000 in
theorem c_Tape_registerNamed {l : Launch} {D : va_G} {kA : Nat → ClassId} {S : hE} {g : Nat → Nat} {n0 nx : Nat} {x0 : Int32} {E : hE} {res : Int32} (hf : f_Tape_registerNamed E x0 = some res) : Met l y_Tape_registerNamed ws_Tape_registerNamed rm_Tape_registerNamed (va_Pc [.int x0] (hJ D kA S g n0 (E, nx))) (va_Qi (fun r w => r = res ∧ w = (E, nx)) (hJ D kA S g n0) (fun q => n0 ≤ q)) 0 0 (fun q => n0 ≤ q) := by
  refine h_met (cc := prog_9_method_12_code) (maxL := 1) (ret := (some .int)) (lvs := [(0, .int x0)]) zZ_k (by decide) rfl (by simp [lg_sl, va_rf_cat, cat_i, cat_l, cat_n]) (by simp [lv_args, va_rf_cat, cat_i, cat_l, cat_n]) ?_
  intro p e s m below meth c ls C M hr hlk hnm hl
  unfold f_Tape_registerNamed at hf
  refine lv_iload_n C.x C.b dTape_registerNamed_0 rfl (lv_at hl 0 rfl) ?_
  refine lv_bipush (v := 97) C.x C.b dTape_registerNamed_1 (by decide) ?_
  refine lv_icmp_lt (tgt := 19) C.x C.b dTape_registerNamed_3 (by decide) (fun c3 => ?_) (fun c3 => ?_)
  · rw [if_pos c3] at hf
    exact b_Tape_registerNamed_19 C hr hlk hnm _ _ _ M (lv_sub hl [] rfl) hf
  · rw [if_neg c3] at hf
    refine lv_iload_n C.x C.b dTape_registerNamed_6 rfl (lv_at hl 0 rfl) ?_
    refine lv_bipush (v := 105) C.x C.b dTape_registerNamed_7 (by decide) ?_
    refine lv_icmp_ge (tgt := 19) C.x C.b dTape_registerNamed_9 (by decide) (fun c9 => ?_) (fun c9 => ?_)
    · rw [if_pos c9] at hf
      exact b_Tape_registerNamed_19 C hr hlk hnm _ _ _ M (lv_sub hl [] rfl) hf
    · rw [if_neg c9] at hf
      refine lv_iload_n C.x C.b dTape_registerNamed_12 rfl (lv_at hl 0 rfl) ?_
      refine lv_bipush (v := 97) C.x C.b dTape_registerNamed_13 (by decide) ?_
      refine lv_isub C.x C.b dTape_registerNamed_15 ?_
      refine lv_goto (tgt := 20) C.x C.b dTape_registerNamed_16 (by decide) ?_
      exact b_Tape_registerNamed_20 C hr hlk hnm _ _ _ _ M (lv_sub hl [] rfl) hf
theorem dTape_operandAt_0 : decode prog_9_method_11_code 0 = .ok (.aload_n 0, 1) := by decide +kernel
theorem dTape_operandAt_1 : decode prog_9_method_11_code 1 = .ok (.iload_n 1, 1) := by decide +kernel
theorem dTape_operandAt_2 : decode prog_9_method_11_code 2 = .ok (.invokevirtual 134, 3) := by decide +kernel
theorem dTape_operandAt_5 : decode prog_9_method_11_code 5 = .ok (.invokestatic 137, 3) := by decide +kernel
theorem dTape_operandAt_8 : decode prog_9_method_11_code 8 = .ok (.istore_n 2, 1) := by decide +kernel
theorem dTape_operandAt_9 : decode prog_9_method_11_code 9 = .ok (.iload_n 2, 1) := by decide +kernel
theorem dTape_operandAt_10 : decode prog_9_method_11_code 10 = .ok (.iconst (-1), 1) := by decide +kernel
theorem dTape_operandAt_11 : decode prog_9_method_11_code 11 = .ok (.if_icmp .eq 8, 3) := by decide +kernel
theorem dTape_operandAt_14 : decode prog_9_method_11_code 14 = .ok (.ldc 156, 2) := by decide +kernel
theorem dTape_operandAt_16 : decode prog_9_method_11_code 16 = .ok (.iload_n 2, 1) := by decide +kernel
theorem dTape_operandAt_17 : decode prog_9_method_11_code 17 = .ok (.iadd, 1) := by decide +kernel
theorem dTape_operandAt_18 : decode prog_9_method_11_code 18 = .ok (.ireturn, 1) := by decide +kernel
theorem dTape_operandAt_19 : decode prog_9_method_11_code 19 = .ok (.aload_n 0, 1) := by decide +kernel
theorem dTape_operandAt_20 : decode prog_9_method_11_code 20 = .ok (.iload_n 1, 1) := by decide +kernel
theorem dTape_operandAt_21 : decode prog_9_method_11_code 21 = .ok (.iconst 0, 1) := by decide +kernel
theorem dTape_operandAt_22 : decode prog_9_method_11_code 22 = .ok (.invokevirtual 58, 3) := by decide +kernel
theorem dTape_operandAt_25 : decode prog_9_method_11_code 25 = .ok (.bipush 45, 2) := by decide +kernel
theorem dTape_operandAt_27 : decode prog_9_method_11_code 27 = .ok (.if_icmp .ne 7, 3) := by decide +kernel
theorem dTape_operandAt_30 : decode prog_9_method_11_code 30 = .ok (.iconst 1, 1) := by decide +kernel
theorem dTape_operandAt_31 : decode prog_9_method_11_code 31 = .ok (.goto 4, 3) := by decide +kernel
theorem dTape_operandAt_34 : decode prog_9_method_11_code 34 = .ok (.iconst 0, 1) := by decide +kernel
theorem dTape_operandAt_35 : decode prog_9_method_11_code 35 = .ok (.istore_n 3, 1) := by decide +kernel
theorem dTape_operandAt_36 : decode prog_9_method_11_code 36 = .ok (.iload_n 3, 1) := by decide +kernel
theorem dTape_operandAt_37 : decode prog_9_method_11_code 37 = .ok (.ifCond .eq 7, 3) := by decide +kernel
theorem dTape_operandAt_40 : decode prog_9_method_11_code 40 = .ok (.iconst 1, 1) := by decide +kernel
theorem dTape_operandAt_41 : decode prog_9_method_11_code 41 = .ok (.goto 4, 3) := by decide +kernel
theorem dTape_operandAt_44 : decode prog_9_method_11_code 44 = .ok (.iconst 0, 1) := by decide +kernel
theorem dTape_operandAt_45 : decode prog_9_method_11_code 45 = .ok (.istore 4, 2) := by decide +kernel
theorem dTape_operandAt_47 : decode prog_9_method_11_code 47 = .ok (.aload_n 0, 1) := by decide +kernel
theorem dTape_operandAt_48 : decode prog_9_method_11_code 48 = .ok (.iload_n 1, 1) := by decide +kernel
theorem dTape_operandAt_49 : decode prog_9_method_11_code 49 = .ok (.invokevirtual 55, 3) := by decide +kernel
theorem dTape_operandAt_52 : decode prog_9_method_11_code 52 = .ok (.istore 5, 2) := by decide +kernel
theorem dTape_operandAt_54 : decode prog_9_method_11_code 54 = .ok (.iload 5, 2) := by decide +kernel
theorem dTape_operandAt_56 : decode prog_9_method_11_code 56 = .ok (.iload 4, 2) := by decide +kernel
theorem dTape_operandAt_58 : decode prog_9_method_11_code 58 = .ok (.isub, 1) := by decide +kernel
theorem dTape_operandAt_59 : decode prog_9_method_11_code 59 = .ok (.iconst 1, 1) := by decide +kernel
theorem dTape_operandAt_60 : decode prog_9_method_11_code 60 = .ok (.if_icmp .lt 13, 3) := by decide +kernel
theorem dTape_operandAt_63 : decode prog_9_method_11_code 63 = .ok (.iload 5, 2) := by decide +kernel
theorem dTape_operandAt_65 : decode prog_9_method_11_code 65 = .ok (.iload 4, 2) := by decide +kernel
theorem dTape_operandAt_67 : decode prog_9_method_11_code 67 = .ok (.isub, 1) := by decide +kernel
theorem dTape_operandAt_68 : decode prog_9_method_11_code 68 = .ok (.bipush 6, 2) := by decide +kernel
theorem dTape_operandAt_70 : decode prog_9_method_11_code 70 = .ok (.if_icmp .le 6, 3) := by decide +kernel
theorem dTape_operandAt_73 : decode prog_9_method_11_code 73 = .ok (.ldc 125, 2) := by decide +kernel
theorem dTape_operandAt_75 : decode prog_9_method_11_code 75 = .ok (.ireturn, 1) := by decide +kernel
theorem dTape_operandAt_76 : decode prog_9_method_11_code 76 = .ok (.iconst 0, 1) := by decide +kernel
theorem dTape_operandAt_77 : decode prog_9_method_11_code 77 = .ok (.istore 6, 2) := by decide +kernel
theorem dTape_operandAt_79 : decode prog_9_method_11_code 79 = .ok (.iload 4, 2) := by decide +kernel
theorem dTape_operandAt_81 : decode prog_9_method_11_code 81 = .ok (.istore 7, 2) := by decide +kernel
theorem dTape_operandAt_83 : decode prog_9_method_11_code 83 = .ok (.iload 7, 2) := by decide +kernel
theorem dTape_operandAt_85 : decode prog_9_method_11_code 85 = .ok (.iload 5, 2) := by decide +kernel
theorem dTape_operandAt_87 : decode prog_9_method_11_code 87 = .ok (.if_icmp .ge 48, 3) := by decide +kernel
theorem dTape_operandAt_90 : decode prog_9_method_11_code 90 = .ok (.aload_n 0, 1) := by decide +kernel
theorem dTape_operandAt_91 : decode prog_9_method_11_code 91 = .ok (.iload_n 1, 1) := by decide +kernel
theorem dTape_operandAt_92 : decode prog_9_method_11_code 92 = .ok (.iload 7, 2) := by decide +kernel
theorem dTape_operandAt_94 : decode prog_9_method_11_code 94 = .ok (.invokevirtual 58, 3) := by decide +kernel
theorem dTape_operandAt_97 : decode prog_9_method_11_code 97 = .ok (.istore 8, 2) := by decide +kernel
theorem dTape_operandAt_99 : decode prog_9_method_11_code 99 = .ok (.iload 8, 2) := by decide +kernel
theorem dTape_operandAt_101 : decode prog_9_method_11_code 101 = .ok (.bipush 48, 2) := by decide +kernel
theorem dTape_operandAt_103 : decode prog_9_method_11_code 103 = .ok (.if_icmp .lt 10, 3) := by decide +kernel
theorem dTape_operandAt_106 : decode prog_9_method_11_code 106 = .ok (.iload 8, 2) := by decide +kernel
theorem dTape_operandAt_108 : decode prog_9_method_11_code 108 = .ok (.bipush 57, 2) := by decide +kernel
theorem dTape_operandAt_110 : decode prog_9_method_11_code 110 = .ok (.if_icmp .le 6, 3) := by decide +kernel
theorem dTape_operandAt_113 : decode prog_9_method_11_code 113 = .ok (.ldc 125, 2) := by decide +kernel
theorem dTape_operandAt_115 : decode prog_9_method_11_code 115 = .ok (.ireturn, 1) := by decide +kernel
theorem dTape_operandAt_116 : decode prog_9_method_11_code 116 = .ok (.bipush 10, 2) := by decide +kernel
theorem dTape_operandAt_118 : decode prog_9_method_11_code 118 = .ok (.iload 6, 2) := by decide +kernel
theorem dTape_operandAt_120 : decode prog_9_method_11_code 120 = .ok (.imul, 1) := by decide +kernel
theorem dTape_operandAt_121 : decode prog_9_method_11_code 121 = .ok (.iload 8, 2) := by decide +kernel
theorem dTape_operandAt_123 : decode prog_9_method_11_code 123 = .ok (.iadd, 1) := by decide +kernel
theorem dTape_operandAt_124 : decode prog_9_method_11_code 124 = .ok (.bipush 48, 2) := by decide +kernel
theorem dTape_operandAt_126 : decode prog_9_method_11_code 126 = .ok (.isub, 1) := by decide +kernel
theorem dTape_operandAt_127 : decode prog_9_method_11_code 127 = .ok (.istore 6, 2) := by decide +kernel
theorem dTape_operandAt_129 : decode prog_9_method_11_code 129 = .ok (.iinc 7 1, 3) := by decide +kernel
theorem dTape_operandAt_132 : decode prog_9_method_11_code 132 = .ok (.goto (-49), 3) := by decide +kernel
theorem dTape_operandAt_135 : decode prog_9_method_11_code 135 = .ok (.iload_n 3, 1) := by decide +kernel
theorem dTape_operandAt_136 : decode prog_9_method_11_code 136 = .ok (.ifCond .eq 9, 3) := by decide +kernel
theorem dTape_operandAt_139 : decode prog_9_method_11_code 139 = .ok (.iload 6, 2) := by decide +kernel
theorem dTape_operandAt_141 : decode prog_9_method_11_code 141 = .ok (.ineg, 1) := by decide +kernel
theorem dTape_operandAt_142 : decode prog_9_method_11_code 142 = .ok (.goto 5, 3) := by decide +kernel
theorem dTape_operandAt_145 : decode prog_9_method_11_code 145 = .ok (.iload 6, 2) := by decide +kernel
theorem dTape_operandAt_147 : decode prog_9_method_11_code 147 = .ok (.ireturn, 1) := by decide +kernel
abbrev rm_Tape_operandAt : Room := { frames := 2, cells := 0, slots := 0, locals := 45 }
def f_Tape_operandAt_b147 (N : Nat) (E : hE) (t0 : Int32) : Option (Int32) := (
  some t0)
set_option maxHeartbeats 4000000 in
set_option maxRecDepth 100000 in
theorem b_Tape_operandAt_147 {p : Program} {l : Launch} {e : Env} {s : State} {m : MethodId} {args : Array Value} {below : List Frame} {meth : Method} {c : Code} {D : va_G} {kA : Nat → ClassId} {S : hE} {g : Nat → Nat} {n0 nx : Nat} {N : Nat} {E : hE} {res : Int32} (C : hX p s m args c prog_9_method_11_code 9 R_Tape ws_Tape_operandAt D kA S g n0) (hr : meth.sig.returnType = (some .int)) (hlk : meth.locks = false) (hnm : meth.name = "operandAt") : ∀ (t0 : Int32) (H : Heap) (locs : List Loc) (ls : Array Slot), hY D kA n0 s E nx H locs → lv_has ls 9 [] → f_Tape_operandAt_b147 N E  t0 = some res → W p l e rm_Tape_operandAt s m args below meth c H locs 0 0 (MQ below (va_Qi (fun r w => r = res ∧ w = (E, nx)) (hJ D kA S g n0) (fun q => n0 ≤ q)) args s 0 0 (fun q => n0 ≤ q)) (F0 m 147 ls [.int t0]) := by
  intro t0 H locs ls M hl hf
  unfold f_Tape_operandAt_b147 at hf
  cases hf
  exact w_iret C M hr hlk rfl (Nat.le_refl _) (Nat.le_refl _) dTape_operandAt_147 rfl rfl
def f_Tape_operandAt_b113 (N : Nat) (E : hE) : Option (Int32) := (
  some (-1000000))
set_option maxHeartbeats 4000000 in
set_option maxRecDepth 100000 in
theorem b_Tape_operandAt_113 {p : Program} {l : Launch} {e : Env} {s : State} {m : MethodId} {args : Array Value} {below : List Frame} {meth : Method} {c : Code} {D : va_G} {kA : Nat → ClassId} {S : hE} {g : Nat → Nat} {n0 nx : Nat} {N : Nat} {E : hE} {res : Int32} (C : hX p s m args c prog_9_method_11_code 9 R_Tape ws_Tape_operandAt D kA S g n0) (hr : meth.sig.returnType = (some .int)) (hlk : meth.locks = false) (hnm : meth.name = "operandAt") : ∀  (H : Heap) (locs : List Loc) (ls : Array Slot), hY D kA n0 s E nx H locs → lv_has ls 9 [] → f_Tape_operandAt_b113 N E   = some res → W p l e rm_Tape_operandAt s m args below meth c H locs 0 0 (MQ below (va_Qi (fun r w => r = res ∧ w = (E, nx)) (hJ D kA S g n0) (fun q => n0 ≤ q)) args s 0 0 (fun q => n0 ≤ q)) (F0 m 113 ls []) := by
  intro  H locs ls M hl hf
  unfold f_Tape_operandAt_b113 at hf
  refine lv_ldc (v := (-1000000)) C.x C.b C.ow (C.ts (.constant R_Tape 125 (-1000000)) (List.mem_cons_of_mem _ wm_355)) dTape_operandAt_113 ?_
  cases hf
  exact w_iret C M hr hlk rfl (Nat.le_refl _) (Nat.le_refl _) dTape_operandAt_115 rfl rfl
def f_Tape_operandAt_b83 (N : Nat) (E : hE) : Nat → Option Nat → Int32 → Int32 → Int32 → Int32 → Int32 → Option (Int32)
  | 0, _, _, _, _, _, _ => none
  | n + 1, y0, y1, y3, y5, y6, y7 => (
  if y5 ≤ y7 then (
  if y3 = 0 then (
  f_Tape_operandAt_b147 N E y6
  ) else (
  f_Tape_operandAt_b147 N E (-y6)
  )
  ) else (
  (gO E y0 5).bind fun o94 =>
  (f_Tape_letterAt E o94.1 y1 y7).bind fun v94 =>
  if v94 < 48 then (
  f_Tape_operandAt_b113 N E 
  ) else (
  if v94 ≤ 57 then (
  f_Tape_operandAt_b83 N E n y0 y1 y3 y5 (((10 * y6) + v94) - 48) (y7 + 1)
  ) else (
  f_Tape_operandAt_b113 N E 
  )
  )
  ))
set_option maxHeartbeats 4000000 in
set_option maxRecDepth 100000 in
theorem b_Tape_operandAt_83 {p : Program} {l : Launch} {e : Env} {s : State} {m : MethodId} {args : Array Value} {below : List Frame} {meth : Method} {c : Code} {D : va_G} {kA : Nat → ClassId} {S : hE} {g : Nat → Nat} {n0 nx : Nat} {N : Nat} {E : hE} {res : Int32} (C : hX p s m args c prog_9_method_11_code 9 R_Tape ws_Tape_operandAt D kA S g n0) (hr : meth.sig.returnType = (some .int)) (hlk : meth.locks = false) (hnm : meth.name = "operandAt") : ∀ n : Nat, ∀ (y0 : Option Nat) (y1 : Int32) (y3 : Int32) (y5 : Int32) (y6 : Int32) (y7 : Int32) (H : Heap) (locs : List Loc) (ls : Array Slot), hY D kA n0 s E nx H locs → lv_has ls 9 [(0, va_rf y0), (1, .int y1), (3, .int y3), (5, .int y5), (6, .int y6), (7, .int y7)] → f_Tape_operandAt_b83 N E n y0 y1 y3 y5 y6 y7 = some res → W p l e rm_Tape_operandAt s m args below meth c H locs 0 0 (MQ below (va_Qi (fun r w => r = res ∧ w = (E, nx)) (hJ D kA S g n0) (fun q => n0 ≤ q)) args s 0 0 (fun q => n0 ≤ q)) (F0 m 83 ls []) := by
  intro n
  induction n with
  | zero =>
    intro y0 y1 y3 y5 y6 y7 H locs ls M hl hf
    simp [f_Tape_operandAt_b83] at hf
  | succ n ih =>
    intro y0 y1 y3 y5 y6 y7 H locs ls M hl hf
    rw [f_Tape_operandAt_b83] at hf
    refine lv_iload C.x C.b dTape_operandAt_83 (lv_at hl 5 rfl) ?_
    refine lv_iload C.x C.b dTape_operandAt_85 (lv_at hl 3 rfl) ?_
    refine lv_icmp_ge (tgt := 135) C.x C.b dTape_operandAt_87 (by decide) (fun c87 => ?_) (fun c87 => ?_)
    · rw [if_pos c87] at hf
      refine lv_iload_n C.x C.b dTape_operandAt_135 rfl (lv_at hl 2 rfl) ?_
      refine lv_if_eq (tgt := 145) C.x C.b dTape_operandAt_136 (by decide) (fun c136 => ?_) (fun c136 => ?_)
      · rw [if_pos c136] at hf
        refine lv_iload C.x C.b dTape_operandAt_145 (lv_at hl 4 rfl) ?_
        exact b_Tape_operandAt_147 C hr hlk hnm _ _ _ _ M (lv_sub hl [] rfl) hf
      · rw [if_neg c136] at hf
        refine lv_iload C.x C.b dTape_operandAt_139 (lv_at hl 4 rfl) ?_
        refine lv_ineg C.x C.b dTape_operandAt_141 ?_
        refine lv_goto (tgt := 147) C.x C.b dTape_operandAt_142 (by decide) ?_
        exact b_Tape_operandAt_147 C hr hlk hnm _ _ _ _ M (lv_sub hl [] rfl) hf
    · rw [if_neg c87] at hf
      refine w_aload_n C.x C.b dTape_operandAt_90 rfl (lv_at hl 0 rfl) ?_
      refine lv_iload_n C.x C.b dTape_operandAt_91 rfl (lv_at hl 1 rfl) ?_
      refine lv_iload C.x C.b dTape_operandAt_92 (lv_at hl 5 rfl) ?_
      obtain ⟨o94, g94, hf⟩ := Option.bind_eq_some_iff.mp hf
      obtain ⟨v94, h94, hf⟩ := Option.bind_eq_some_iff.mp hf
      refine w_ci M (w_runV C M g94 rfl (c_Tape_letterAt h94) (cwV 2 C.ts (hgV wm_282 wm_284 sel_Tape_letterAt wm_2 wm_285) rfl rfl rfl (by decide +kernel) ⟨Nat.le_of_ble_eq_true rfl, Nat.le_of_ble_eq_true rfl⟩) rfl hl.1 rfl (Nat.zero_le _) dTape_operandAt_94 ⟨Nat.le_refl _, Nat.le_refl _⟩) (fun H locs M => ?_)
      refine lv_istore (lv' := [(8, .int v94), (0, va_rf y0), (1, .int y1), (3, .int y3), (5, .int y5), (6, .int y6), (7, .int y7)]) C.x C.b dTape_operandAt_97 hl (by decide) rfl (fun ls hl => ?_)
      refine lv_iload C.x C.b dTape_operandAt_99 (lv_at hl 0 rfl) ?_
      refine lv_bipush (v := 48) C.x C.b dTape_operandAt_101 (by decide) ?_
      refine lv_icmp_lt (tgt := 113) C.x C.b dTape_operandAt_103 (by decide) (fun c103 => ?_) (fun c103 => ?_)
      · rw [if_pos c103] at hf
        exact b_Tape_operandAt_113 C hr hlk hnm _ _ _ M (lv_sub hl [] rfl) hf
      · rw [if_neg c103] at hf
        refine lv_iload C.x C.b dTape_operandAt_106 (lv_at hl 0 rfl) ?_
        refine lv_bipush (v := 57) C.x C.b dTape_operandAt_108 (by decide) ?_
        refine lv_icmp_le (tgt := 116) C.x C.b dTape_operandAt_110 (by decide) (fun c110 => ?_) (fun c110 => ?_)
        · rw [if_pos c110] at hf
          refine lv_bipush (v := 10) C.x C.b dTape_operandAt_116 (by decide) ?_
          refine lv_iload C.x C.b dTape_operandAt_118 (lv_at hl 5 rfl) ?_
          refine lv_imul C.x C.b dTape_operandAt_120 ?_
          refine lv_iload C.x C.b dTape_operandAt_121 (lv_at hl 0 rfl) ?_
          refine lv_iadd C.x C.b dTape_operandAt_123 ?_
          refine lv_bipush (v := 48) C.x C.b dTape_operandAt_124 (by decide) ?_
          refine lv_isub C.x C.b dTape_operandAt_126 ?_
          refine lv_istore (lv' := [(6, .int (((10 * y6) + v94) - 48)), (8, .int v94), (0, va_rf y0), (1, .int y1), (3, .int y3), (5, .int y5), (7, .int y7)]) C.x C.b dTape_operandAt_127 hl (by decide) rfl (fun ls hl => ?_)
          refine lv_iinc (v := y7 + 1) (lv' := [(7, .int (y7 + 1)), (6, .int (((10 * y6) + v94) - 48)), (8, .int v94), (0, va_rf y0), (1, .int y1), (3, .int y3), (5, .int y5)]) C.x C.b dTape_operandAt_129 hl (k := 6) rfl rfl (by decide) rfl (fun ls hl => ?_)
          refine lv_goto (tgt := 83) C.x C.b dTape_operandAt_132 (by decide) ?_
          exact ih _ _ _ _ _ _ _ _ _ M (lv_sub hl [3, 4, 5, 6, 1, 0] rfl) hf
        · rw [if_neg c110] at hf
          exact b_Tape_operandAt_113 C hr hlk hnm _ _ _ M (lv_sub hl [] rfl) hf
def f_Tape_operandAt_b73 (N : Nat) (E : hE) : Option (Int32) := (
  some (-1000000))
set_option maxHeartbeats 4000000 in
set_option maxRecDepth 100000 in
theorem b_Tape_operandAt_73 {p : Program} {l : Launch} {e : Env} {s : State} {m : MethodId} {args : Array Value} {below : List Frame} {meth : Method} {c : Code} {D : va_G} {kA : Nat → ClassId} {S : hE} {g : Nat → Nat} {n0 nx : Nat} {N : Nat} {E : hE} {res : Int32} (C : hX p s m args c prog_9_method_11_code 9 R_Tape ws_Tape_operandAt D kA S g n0) (hr : meth.sig.returnType = (some .int)) (hlk : meth.locks = false) (hnm : meth.name = "operandAt") : ∀  (H : Heap) (locs : List Loc) (ls : Array Slot), hY D kA n0 s E nx H locs → lv_has ls 9 [] → f_Tape_operandAt_b73 N E   = some res → W p l e rm_Tape_operandAt s m args below meth c H locs 0 0 (MQ below (va_Qi (fun r w => r = res ∧ w = (E, nx)) (hJ D kA S g n0) (fun q => n0 ≤ q)) args s 0 0 (fun q => n0 ≤ q)) (F0 m 73 ls []) := by
  intro  H locs ls M hl hf
  unfold f_Tape_operandAt_b73 at hf
  refine lv_ldc (v := (-1000000)) C.x C.b C.ow (C.ts (.constant R_Tape 125 (-1000000)) (List.mem_cons_of_mem _ wm_355)) dTape_operandAt_73 ?_
  cases hf
  exact w_iret C M hr hlk rfl (Nat.le_refl _) (Nat.le_refl _) dTape_operandAt_75 rfl rfl
def f_Tape_operandAt_b45 (N : Nat) (E : hE) (y0 : Option Nat) (y1 : Int32) (y3 : Int32) (t0 : Int32) : Option (Int32) := (
  (gO E y0 5).bind fun o49 =>
  (f_Tape_lengthOf E o49.1 y1).bind fun v49 =>
  if (v49 - t0) < 1 then (
  f_Tape_operandAt_b73 N E 
  ) else (
  if (v49 - t0) ≤ 6 then (
  f_Tape_operandAt_b83 N E N y0 y1 y3 v49 0 t0
  ) else (
  f_Tape_operandAt_b73 N E 
  )
  ))
set_option maxHeartbeats 4000000 in
set_option maxRecDepth 100000 in
theorem b_Tape_operandAt_45 {p : Program} {l : Launch} {e : Env} {s : State} {m : MethodId} {args : Array Value} {below : List Frame} {meth : Method} {c : Code} {D : va_G} {kA : Nat → ClassId} {S : hE} {g : Nat → Nat} {n0 nx : Nat} {N : Nat} {E : hE} {res : Int32} (C : hX p s m args c prog_9_method_11_code 9 R_Tape ws_Tape_operandAt D kA S g n0) (hr : meth.sig.returnType = (some .int)) (hlk : meth.locks = false) (hnm : meth.name = "operandAt") : ∀ (y0 : Option Nat) (y1 : Int32) (y3 : Int32) (t0 : Int32) (H : Heap) (locs : List Loc) (ls : Array Slot), hY D kA n0 s E nx H locs → lv_has ls 9 [(0, va_rf y0), (1, .int y1), (3, .int y3)] → f_Tape_operandAt_b45 N E  y0 y1 y3 t0 = some res → W p l e rm_Tape_operandAt s m args below meth c H locs 0 0 (MQ below (va_Qi (fun r w => r = res ∧ w = (E, nx)) (hJ D kA S g n0) (fun q => n0 ≤ q)) args s 0 0 (fun q => n0 ≤ q)) (F0 m 45 ls [.int t0]) := by
  intro y0 y1 y3 t0 H locs ls M hl hf
  unfold f_Tape_operandAt_b45 at hf
  refine lv_istore (lv' := [(4, .int t0), (0, va_rf y0), (1, .int y1), (3, .int y3)]) C.x C.b dTape_operandAt_45 hl (by decide) rfl (fun ls hl => ?_)
  refine w_aload_n C.x C.b dTape_operandAt_47 rfl (lv_at hl 1 rfl) ?_
  refine lv_iload_n C.x C.b dTape_operandAt_48 rfl (lv_at hl 2 rfl) ?_
  obtain ⟨o49, g49, hf⟩ := Option.bind_eq_some_iff.mp hf
  obtain ⟨v49, h49, hf⟩ := Option.bind_eq_some_iff.mp hf
  refine w_ci M (w_runV C M g49 rfl (c_Tape_lengthOf h49) (cwV 1 C.ts (hgV wm_278 wm_280 sel_Tape_lengthOf wm_2 wm_281) rfl rfl rfl (by decide +kernel) ⟨Nat.le_of_ble_eq_true rfl, Nat.le_of_ble_eq_true rfl⟩) rfl hl.1 rfl (Nat.zero_le _) dTape_operandAt_49 ⟨Nat.le_refl _, Nat.le_refl _⟩) (fun H locs M => ?_)
  refine lv_istore (lv' := [(5, .int v49), (4, .int t0), (0, va_rf y0), (1, .int y1), (3, .int y3)]) C.x C.b dTape_operandAt_52 hl (by decide) rfl (fun ls hl => ?_)
  refine lv_iload C.x C.b dTape_operandAt_54 (lv_at hl 0 rfl) ?_
  refine lv_iload C.x C.b dTape_operandAt_56 (lv_at hl 1 rfl) ?_
  refine lv_isub C.x C.b dTape_operandAt_58 ?_
  refine lv_iconst (v := 1) C.x C.b dTape_operandAt_59 (by decide) ?_
  refine lv_icmp_lt (tgt := 73) C.x C.b dTape_operandAt_60 (by decide) (fun c60 => ?_) (fun c60 => ?_)
  · rw [if_pos c60] at hf
    exact b_Tape_operandAt_73 C hr hlk hnm _ _ _ M (lv_sub hl [] rfl) hf
  · rw [if_neg c60] at hf
    refine lv_iload C.x C.b dTape_operandAt_63 (lv_at hl 0 rfl) ?_
    refine lv_iload C.x C.b dTape_operandAt_65 (lv_at hl 1 rfl) ?_
    refine lv_isub C.x C.b dTape_operandAt_67 ?_
    refine lv_bipush (v := 6) C.x C.b dTape_operandAt_68 (by decide) ?_
    refine lv_icmp_le (tgt := 76) C.x C.b dTape_operandAt_70 (by decide) (fun c70 => ?_) (fun c70 => ?_)
    · rw [if_pos c70] at hf
      refine lv_iconst (v := 0) C.x C.b dTape_operandAt_76 (by decide) ?_
      refine lv_istore (lv' := [(6, .int 0), (5, .int v49), (4, .int t0), (0, va_rf y0), (1, .int y1), (3, .int y3)]) C.x C.b dTape_operandAt_77 hl (by decide) rfl (fun ls hl => ?_)
      refine lv_iload C.x C.b dTape_operandAt_79 (lv_at hl 2 rfl) ?_
      refine lv_istore (lv' := [(7, .int t0), (6, .int 0), (5, .int v49), (4, .int t0), (0, va_rf y0), (1, .int y1), (3, .int y3)]) C.x C.b dTape_operandAt_81 hl (by decide) rfl (fun ls hl => ?_)
      exact b_Tape_operandAt_83 C hr hlk hnm N _ _ _ _ _ _ _ _ _ M (lv_sub hl [4, 5, 6, 2, 1, 0] rfl) hf
    · rw [if_neg c70] at hf
      exact b_Tape_operandAt_73 C hr hlk hnm _ _ _ M (lv_sub hl [] rfl) hf
def f_Tape_operandAt_b35 (N : Nat) (E : hE) (y0 : Option Nat) (y1 : Int32) (t0 : Int32) : Option (Int32) := (
  if t0 = 0 then (
  f_Tape_operandAt_b45 N E y0 y1 t0 0
  ) else (
  f_Tape_operandAt_b45 N E y0 y1 t0 1
  ))
set_option maxHeartbeats 4000000 in
set_option maxRecDepth 100000 in
theorem b_Tape_operandAt_35 {p : Program} {l : Launch} {e : Env} {s : State} {m : MethodId} {args : Array Value} {below : List Frame} {meth : Method} {c : Code} {D : va_G} {kA : Nat → ClassId} {S : hE} {g : Nat → Nat} {n0 nx : Nat} {N : Nat} {E : hE} {res : Int32} (C : hX p s m args c prog_9_method_11_code 9 R_Tape ws_Tape_operandAt D kA S g n0) (hr : meth.sig.returnType = (some .int)) (hlk : meth.locks = false) (hnm : meth.name = "operandAt") : ∀ (y0 : Option Nat) (y1 : Int32) (t0 : Int32) (H : Heap) (locs : List Loc) (ls : Array Slot), hY D kA n0 s E nx H locs → lv_has ls 9 [(0, va_rf y0), (1, .int y1)] → f_Tape_operandAt_b35 N E  y0 y1 t0 = some res → W p l e rm_Tape_operandAt s m args below meth c H locs 0 0 (MQ below (va_Qi (fun r w => r = res ∧ w = (E, nx)) (hJ D kA S g n0) (fun q => n0 ≤ q)) args s 0 0 (fun q => n0 ≤ q)) (F0 m 35 ls [.int t0]) := by
  intro y0 y1 t0 H locs ls M hl hf
  unfold f_Tape_operandAt_b35 at hf
  refine lv_istore_n (lv' := [(3, .int t0), (0, va_rf y0), (1, .int y1)]) C.x C.b dTape_operandAt_35 rfl hl (by decide) rfl (fun ls hl => ?_)
  refine lv_iload_n C.x C.b dTape_operandAt_36 rfl (lv_at hl 0 rfl) ?_
  refine lv_if_eq (tgt := 44) C.x C.b dTape_operandAt_37 (by decide) (fun c37 => ?_) (fun c37 => ?_)
  · rw [if_pos c37] at hf
    refine lv_iconst (v := 0) C.x C.b dTape_operandAt_44 (by decide) ?_
    exact b_Tape_operandAt_45 C hr hlk hnm _ _ _ _ _ _ _ M (lv_sub hl [1, 2, 0] rfl) hf
  · rw [if_neg c37] at hf
    refine lv_iconst (v := 1) C.x C.b dTape_operandAt_40 (by decide) ?_
    refine lv_goto (tgt := 45) C.x C.b dTape_operandAt_41 (by decide) ?_
    exact b_Tape_operandAt_45 C hr hlk hnm _ _ _ _ _ _ _ M (lv_sub hl [1, 2, 0] rfl) hf
def f_Tape_operandAt (N : Nat) (E : hE) (x0 : Nat) (x1 : Int32) : Option (Int32) := (
  (gO E (some x0) 5).bind fun o2 =>
  (f_Tape_onlyLetter E o2.1 x1).bind fun v2 =>
  (f_Tape_registerNamed E v2).bind fun v5 =>
  if v5 = (-1) then (
  (gO E (some x0) 5).bind fun o22 =>
  (f_Tape_letterAt E o22.1 x1 0).bind fun v22 =>
  if v22 = 45 then (
  f_Tape_operandAt_b35 N E (some x0) x1 1
  ) else (
  f_Tape_operandAt_b35 N E (some x0) x1 0
  )
  ) else (
  some (1000000 + v5)
  ))
set_option maxHeartbeats 4000000 in
set_option maxRecDepth 100000 in
theorem c_Tape_operandAt {l : Launch} {D : va_G} {kA : Nat → ClassId} {S : hE} {g : Nat → Nat} {n0 nx : Nat} {N : Nat} {x0 : Nat} {x1 : Int32} {E : hE} {res : Int32} (hf : f_Tape_operandAt N E x0 x1 = some res) : Met l y_Tape_operandAt ws_Tape_operandAt rm_Tape_operandAt (va_Pc [va_rf (some x0), .int x1] (hJ D kA S g n0 (E, nx))) (va_Qi (fun r w => r = res ∧ w = (E, nx)) (hJ D kA S g n0) (fun q => n0 ≤ q)) 0 0 (fun q => n0 ≤ q) := by
  refine h_met (cc := prog_9_method_11_code) (maxL := 9) (ret := (some .int)) (lvs := [(0, va_rf (some x0)), (1, .int x1)]) zZ_k (by decide) rfl (by simp [lg_sl, va_rf_cat, cat_i, cat_l, cat_n]) (by simp [lv_args, va_rf_cat, cat_i, cat_l, cat_n]) ?_
  intro p e s m below meth c ls C M hr hlk hnm hl
  unfold f_Tape_operandAt at hf
  refine w_aload_n C.x C.b dTape_operandAt_0 rfl (lv_at hl 0 rfl) ?_
  refine lv_iload_n C.x C.b dTape_operandAt_1 rfl (lv_at hl 1 rfl) ?_
  obtain ⟨o2, g2, hf⟩ := Option.bind_eq_some_iff.mp hf
  obtain ⟨v2, h2, hf⟩ := Option.bind_eq_some_iff.mp hf
  refine w_ci M (w_runV C M g2 rfl (c_Tape_onlyLetter h2) (cwV 1 C.ts (hgV wm_360 wm_362 sel_Tape_onlyLetter wm_2 wm_363) rfl rfl rfl (by decide +kernel) ⟨Nat.le_of_ble_eq_true rfl, Nat.le_of_ble_eq_true rfl⟩) rfl hl.1 rfl (Nat.zero_le _) dTape_operandAt_2 ⟨Nat.le_refl _, Nat.le_refl _⟩) (fun H locs M => ?_)
  obtain ⟨v5, h5, hf⟩ := Option.bind_eq_some_iff.mp hf
  refine w_ci M (w_runS C M (c_Tape_registerNamed h5) (cwS 1 C.ts (hgS wm_364 wm_365 wm_2 wm_366) rfl rfl rfl (by decide +kernel) ⟨Nat.le_of_ble_eq_true rfl, Nat.le_of_ble_eq_true rfl⟩) rfl hl.1 rfl (Nat.zero_le _) dTape_operandAt_5 ⟨Nat.le_refl _, Nat.le_refl _⟩) (fun H locs M => ?_)
  refine lv_istore_n (lv' := [(2, .int v5), (0, va_rf (some x0)), (1, .int x1)]) C.x C.b dTape_operandAt_8 rfl hl (by decide) rfl (fun ls hl => ?_)
  refine lv_iload_n C.x C.b dTape_operandAt_9 rfl (lv_at hl 0 rfl) ?_
  refine lv_iconst (v := (-1)) C.x C.b dTape_operandAt_10 (by decide) ?_
  refine lv_icmp_eq (tgt := 19) C.x C.b dTape_operandAt_11 (by decide) (fun c11 => ?_) (fun c11 => ?_)
  · rw [if_pos c11] at hf
    refine w_aload_n C.x C.b dTape_operandAt_19 rfl (lv_at hl 1 rfl) ?_
    refine lv_iload_n C.x C.b dTape_operandAt_20 rfl (lv_at hl 2 rfl) ?_
    refine lv_iconst (v := 0) C.x C.b dTape_operandAt_21 (by decide) ?_
    obtain ⟨o22, g22, hf⟩ := Option.bind_eq_some_iff.mp hf
    obtain ⟨v22, h22, hf⟩ := Option.bind_eq_some_iff.mp hf
    refine w_ci M (w_runV C M g22 rfl (c_Tape_letterAt h22) (cwV 2 C.ts (hgV wm_282 wm_284 sel_Tape_letterAt wm_2 wm_285) rfl rfl rfl (by decide +kernel) ⟨Nat.le_of_ble_eq_true rfl, Nat.le_of_ble_eq_true rfl⟩) rfl hl.1 rfl (Nat.zero_le _) dTape_operandAt_22 ⟨Nat.le_refl _, Nat.le_refl _⟩) (fun H locs M => ?_)
    refine lv_bipush (v := 45) C.x C.b dTape_operandAt_25 (by decide) ?_
    refine lv_icmp_ne (tgt := 34) C.x C.b dTape_operandAt_27 (by decide) (fun c27 => ?_) (fun c27 => ?_)
    · rw [if_neg c27] at hf
      refine lv_iconst (v := 0) C.x C.b dTape_operandAt_34 (by decide) ?_
      exact b_Tape_operandAt_35 C hr hlk hnm _ _ _ _ _ _ M (lv_sub hl [1, 2] rfl) hf
    · rw [if_pos c27] at hf
      refine lv_iconst (v := 1) C.x C.b dTape_operandAt_30 (by decide) ?_
      refine lv_goto (tgt := 35) C.x C.b dTape_operandAt_31 (by decide) ?_
      exact b_Tape_operandAt_35 C hr hlk hnm _ _ _ _ _ _ M (lv_sub hl [1, 2] rfl) hf
  · rw [if_neg c11] at hf
    refine lv_ldc (v := 1000000) C.x C.b C.ow (C.ts (.constant R_Tape 156 1000000) (List.mem_cons_of_mem _ wm_371)) dTape_operandAt_14 ?_
    refine lv_iload_n C.x C.b dTape_operandAt_16 rfl (lv_at hl 0 rfl) ?_
    refine lv_iadd C.x C.b dTape_operandAt_17 ?_
    cases hf
    exact w_iret C M hr hlk rfl (Nat.le_refl _) (Nat.le_refl _) dTape_operandAt_18 rfl rfl
theorem dSL1_canEncode_0 : decode prog_19_method_4_code 0 = .ok (.iload_n 0, 1) := by decide +kernel
theorem dSL1_canEncode_1 : decode prog_19_method_4_code 1 = .ok (.ifCond .lt 14, 3) := by decide +kernel
theorem dSL1_canEncode_4 : decode prog_19_method_4_code 4 = .ok (.iload_n 0, 1) := by decide +kernel
theorem dSL1_canEncode_5 : decode prog_19_method_4_code 5 = .ok (.sipush 255, 3) := by decide +kernel
theorem dSL1_canEncode_8 : decode prog_19_method_4_code 8 = .ok (.if_icmp .gt 7, 3) := by decide +kernel
theorem dSL1_canEncode_11 : decode prog_19_method_4_code 11 = .ok (.iconst 1, 1) := by decide +kernel
theorem dSL1_canEncode_12 : decode prog_19_method_4_code 12 = .ok (.goto 4, 3) := by decide +kernel
theorem dSL1_canEncode_15 : decode prog_19_method_4_code 15 = .ok (.iconst 0, 1) := by decide +kernel
theorem dSL1_canEncode_16 : decode prog_19_method_4_code 16 = .ok (.ireturn, 1) := by decide +kernel
abbrev rm_SL1_canEncode : Room := { frames := 0, cells := 0, slots := 0, locals := 0 }
def f_SL1_canEncode_b16 (E : hE) (t0 : Int32) : Option (Int32) := (
  (bZ t0).bind fun v16 =>
  some v16)
set_option maxHeartbeats 4000000 in
set_option maxRecDepth 100000 in
theorem b_SL1_canEncode_16 {p : Program} {l : Launch} {e : Env} {s : State} {m : MethodId} {args : Array Value} {below : List Frame} {meth : Method} {c : Code} {D : va_G} {kA : Nat → ClassId} {S : hE} {g : Nat → Nat} {n0 nx : Nat} {E : hE} {res : Int32} (C : hX p s m args c prog_19_method_4_code 1 R_SL1 ws_SL1_canEncode D kA S g n0) (hr : meth.sig.returnType = (some .boolean)) (hlk : meth.locks = false) (hnm : meth.name = "canEncode") : ∀ (t0 : Int32) (H : Heap) (locs : List Loc) (ls : Array Slot), hY D kA n0 s E nx H locs → lv_has ls 1 [] → f_SL1_canEncode_b16 E  t0 = some res → W p l e rm_SL1_canEncode s m args below meth c H locs 0 0 (MQ below (va_Qi (fun r w => r = res ∧ w = (E, nx)) (hJ D kA S g n0) (fun q => n0 ≤ q)) args s 0 0 (fun q => n0 ≤ q)) (F0 m 16 ls [.int t0]) := by
  intro t0 H locs ls M hl hf
  unfold f_SL1_canEncode_b16 at hf
  obtain ⟨v16, h16, hf⟩ := Option.bind_eq_some_iff.mp hf
  obtain ⟨rfl, g16⟩ := bZ_some h16
  cases hf
  exact w_iret C M hr hlk (narrow_z g16) (Nat.le_refl _) (Nat.le_refl _) dSL1_canEncode_16 rfl rfl
def f_SL1_canEncode_b15 (E : hE) : Option (Int32) := (
  f_SL1_canEncode_b16 E 0)
set_option maxHeartbeats 4000000 in
set_option maxRecDepth 100000 in
theorem b_SL1_canEncode_15 {p : Program} {l : Launch} {e : Env} {s : State} {m : MethodId} {args : Array Value} {below : List Frame} {meth : Method} {c : Code} {D : va_G} {kA : Nat → ClassId} {S : hE} {g : Nat → Nat} {n0 nx : Nat} {E : hE} {res : Int32} (C : hX p s m args c prog_19_method_4_code 1 R_SL1 ws_SL1_canEncode D kA S g n0) (hr : meth.sig.returnType = (some .boolean)) (hlk : meth.locks = false) (hnm : meth.name = "canEncode") : ∀  (H : Heap) (locs : List Loc) (ls : Array Slot), hY D kA n0 s E nx H locs → lv_has ls 1 [] → f_SL1_canEncode_b15 E   = some res → W p l e rm_SL1_canEncode s m args below meth c H locs 0 0 (MQ below (va_Qi (fun r w => r = res ∧ w = (E, nx)) (hJ D kA S g n0) (fun q => n0 ≤ q)) args s 0 0 (fun q => n0 ≤ q)) (F0 m 15 ls []) := by
  intro  H locs ls M hl hf
  unfold f_SL1_canEncode_b15 at hf
  refine lv_iconst (v := 0) C.x C.b dSL1_canEncode_15 (by decide) ?_
  exact b_SL1_canEncode_16 C hr hlk hnm _ _ _ _ M (lv_sub hl [] rfl) hf
def f_SL1_canEncode (E : hE) (x0 : Int32) : Option (Int32) := (
  if x0 < 0 then (
  f_SL1_canEncode_b15 E 
  ) else (
  if 255 < x0 then (
  f_SL1_canEncode_b15 E 
  ) else (
  f_SL1_canEncode_b16 E 1
  )
  ))
set_option maxHeartbeats 4000000 in
set_option maxRecDepth 100000 in
theorem c_SL1_canEncode {l : Launch} {D : va_G} {kA : Nat → ClassId} {S : hE} {g : Nat → Nat} {n0 nx : Nat} {x0 : Int32} {E : hE} {res : Int32} (hf : f_SL1_canEncode E x0 = some res) : Met l y_SL1_canEncode ws_SL1_canEncode rm_SL1_canEncode (va_Pc [.int x0] (hJ D kA S g n0 (E, nx))) (va_Qi (fun r w => r = res ∧ w = (E, nx)) (hJ D kA S g n0) (fun q => n0 ≤ q)) 0 0 (fun q => n0 ≤ q) := by
  refine h_met (cc := prog_19_method_4_code) (maxL := 1) (ret := (some .boolean)) (lvs := [(0, .int x0)]) zZ_k (by decide) rfl (by simp [lg_sl, va_rf_cat, cat_i, cat_l, cat_n]) (by simp [lv_args, va_rf_cat, cat_i, cat_l, cat_n]) ?_
  intro p e s m below meth c ls C M hr hlk hnm hl
  unfold f_SL1_canEncode at hf
  refine lv_iload_n C.x C.b dSL1_canEncode_0 rfl (lv_at hl 0 rfl) ?_
  refine lv_if_lt (tgt := 15) C.x C.b dSL1_canEncode_1 (by decide) (fun c1 => ?_) (fun c1 => ?_)
  · rw [if_pos c1] at hf
    exact b_SL1_canEncode_15 C hr hlk hnm _ _ _ M (lv_sub hl [] rfl) hf
  · rw [if_neg c1] at hf
    refine lv_iload_n C.x C.b dSL1_canEncode_4 rfl (lv_at hl 0 rfl) ?_
    refine lv_sipush (v := 255) C.x C.b dSL1_canEncode_5 (by decide) ?_
    refine lv_icmp_gt (tgt := 15) C.x C.b dSL1_canEncode_8 (by decide) (fun c8 => ?_) (fun c8 => ?_)
    · rw [if_pos c8] at hf
      exact b_SL1_canEncode_15 C hr hlk hnm _ _ _ M (lv_sub hl [] rfl) hf
    · rw [if_neg c8] at hf
      refine lv_iconst (v := 1) C.x C.b dSL1_canEncode_11 (by decide) ?_
      refine lv_goto (tgt := 16) C.x C.b dSL1_canEncode_12 (by decide) ?_
      exact b_SL1_canEncode_16 C hr hlk hnm _ _ _ _ M (lv_sub hl [] rfl) hf
theorem dSL1_indexOfChar_0 : decode prog_19_method_23_code 0 = .ok (.iload_n 1, 1) := by decide +kernel
theorem dSL1_indexOfChar_1 : decode prog_19_method_23_code 1 = .ok (.i2b, 1) := by decide +kernel
theorem dSL1_indexOfChar_2 : decode prog_19_method_23_code 2 = .ok (.istore 4, 2) := by decide +kernel
theorem dSL1_indexOfChar_4 : decode prog_19_method_23_code 4 = .ok (.iload_n 2, 1) := by decide +kernel
theorem dSL1_indexOfChar_5 : decode prog_19_method_23_code 5 = .ok (.istore 5, 2) := by decide +kernel
theorem dSL1_indexOfChar_7 : decode prog_19_method_23_code 7 = .ok (.iload 5, 2) := by decide +kernel
theorem dSL1_indexOfChar_9 : decode prog_19_method_23_code 9 = .ok (.iload_n 3, 1) := by decide +kernel
theorem dSL1_indexOfChar_10 : decode prog_19_method_23_code 10 = .ok (.if_icmp .ge 21, 3) := by decide +kernel
theorem dSL1_indexOfChar_13 : decode prog_19_method_23_code 13 = .ok (.aload_n 0, 1) := by decide +kernel
theorem dSL1_indexOfChar_14 : decode prog_19_method_23_code 14 = .ok (.iload 5, 2) := by decide +kernel
theorem dSL1_indexOfChar_16 : decode prog_19_method_23_code 16 = .ok (.baload, 1) := by decide +kernel
theorem dSL1_indexOfChar_17 : decode prog_19_method_23_code 17 = .ok (.iload 4, 2) := by decide +kernel
theorem dSL1_indexOfChar_19 : decode prog_19_method_23_code 19 = .ok (.if_icmp .ne 6, 3) := by decide +kernel
theorem dSL1_indexOfChar_22 : decode prog_19_method_23_code 22 = .ok (.iload 5, 2) := by decide +kernel
theorem dSL1_indexOfChar_24 : decode prog_19_method_23_code 24 = .ok (.ireturn, 1) := by decide +kernel
theorem dSL1_indexOfChar_25 : decode prog_19_method_23_code 25 = .ok (.iinc 5 1, 3) := by decide +kernel
theorem dSL1_indexOfChar_28 : decode prog_19_method_23_code 28 = .ok (.goto (-21), 3) := by decide +kernel
theorem dSL1_indexOfChar_31 : decode prog_19_method_23_code 31 = .ok (.iconst (-1), 1) := by decide +kernel
theorem dSL1_indexOfChar_32 : decode prog_19_method_23_code 32 = .ok (.ireturn, 1) := by decide +kernel
abbrev rm_SL1_indexOfChar : Room := { frames := 0, cells := 0, slots := 0, locals := 0 }
def f_SL1_indexOfChar_b7 (S : hE) (g : Nat → Nat) (N : Nat) (E : hE) : Nat → Option Nat → Int32 → Int32 → Int32 → Option (Int32)
  | 0, _, _, _, _ => none
  | n + 1, y0, y3, y4, y5 => (
  if y3 ≤ y5 then (
  some (-1)
  ) else (
  (aI (Sa S) y0 100 y5).bind fun v16 =>
  if v16 = y4 then (
  some y5
  ) else (
  f_SL1_indexOfChar_b7 S g N E n y0 y3 y4 (y5 + 1)
  )
  ))
set_option maxHeartbeats 4000000 in
set_option maxRecDepth 100000 in
theorem b_SL1_indexOfChar_7 {p : Program} {l : Launch} {e : Env} {s : State} {m : MethodId} {args : Array Value} {below : List Frame} {meth : Method} {c : Code} {D : va_G} {kA : Nat → ClassId} {S : hE} {g : Nat → Nat} {n0 nx : Nat} {N : Nat} {E : hE} {res : Int32} (C : hX p s m args c prog_19_method_23_code 6 R_SL1 ws_SL1_indexOfChar D kA S g n0) (hr : meth.sig.returnType = (some .int)) (hlk : meth.locks = false) (hnm : meth.name = "indexOfChar") : ∀ n : Nat, ∀ (y0 : Option Nat) (y3 : Int32) (y4 : Int32) (y5 : Int32) (H : Heap) (locs : List Loc) (ls : Array Slot), hY D kA n0 s E nx H locs → lv_has ls 6 [(0, va_rf y0), (3, .int y3), (4, .int y4), (5, .int y5)] → f_SL1_indexOfChar_b7 S g N E n y0 y3 y4 y5 = some res → W p l e rm_SL1_indexOfChar s m args below meth c H locs 0 0 (MQ below (va_Qi (fun r w => r = res ∧ w = (E, nx)) (hJ D kA S g n0) (fun q => n0 ≤ q)) args s 0 0 (fun q => n0 ≤ q)) (F0 m 7 ls []) := by
  intro n
  induction n with
  | zero =>
    intro y0 y3 y4 y5 H locs ls M hl hf
    simp [f_SL1_indexOfChar_b7] at hf
  | succ n ih =>
    intro y0 y3 y4 y5 H locs ls M hl hf
    rw [f_SL1_indexOfChar_b7] at hf
    refine lv_iload C.x C.b dSL1_indexOfChar_7 (lv_at hl 3 rfl) ?_
    refine lv_iload_n C.x C.b dSL1_indexOfChar_9 rfl (lv_at hl 1 rfl) ?_
    refine lv_icmp_ge (tgt := 31) C.x C.b dSL1_indexOfChar_10 (by decide) (fun c10 => ?_) (fun c10 => ?_)
    · rw [if_pos c10] at hf
      refine lv_iconst (v := (-1)) C.x C.b dSL1_indexOfChar_31 (by decide) ?_
      cases hf
      exact w_iret C M hr hlk rfl (Nat.le_refl _) (Nat.le_refl _) dSL1_indexOfChar_32 rfl rfl
    · rw [if_neg c10] at hf
      refine w_aload_n C.x C.b dSL1_indexOfChar_13 rfl (lv_at hl 0 rfl) ?_
      refine lv_iload C.x C.b dSL1_indexOfChar_14 (lv_at hl 3 rfl) ?_
      obtain ⟨v16, h16, hf⟩ := Option.bind_eq_some_iff.mp hf
      refine w_saB C M (zZ_S C.z) h16 rfl dSL1_indexOfChar_16 ?_
      refine lv_iload C.x C.b dSL1_indexOfChar_17 (lv_at hl 2 rfl) ?_
      refine lv_icmp_ne (tgt := 25) C.x C.b dSL1_indexOfChar_19 (by decide) (fun c19 => ?_) (fun c19 => ?_)
      · rw [if_neg c19] at hf
        refine lv_iinc (v := y5 + 1) (lv' := [(5, .int (y5 + 1)), (0, va_rf y0), (3, .int y3), (4, .int y4)]) C.x C.b dSL1_indexOfChar_25 hl (k := 3) rfl rfl (by decide) rfl (fun ls hl => ?_)
        refine lv_goto (tgt := 7) C.x C.b dSL1_indexOfChar_28 (by decide) ?_
        exact ih _ _ _ _ _ _ _ M (lv_sub hl [1, 2, 3, 0] rfl) hf
      · rw [if_pos c19] at hf
        refine lv_iload C.x C.b dSL1_indexOfChar_22 (lv_at hl 3 rfl) ?_
        cases hf
        exact w_iret C M hr hlk rfl (Nat.le_refl _) (Nat.le_refl _) dSL1_indexOfChar_24 rfl rfl
def f_SL1_indexOfChar (S : hE) (g : Nat → Nat) (N : Nat) (E : hE) (x0 : Option Nat) (x1 : Int32) (x2 : Int32) (x3 : Int32) : Option (Int32) := (
  f_SL1_indexOfChar_b7 S g N E N x0 x3 x1.toInt8.toInt32 x2)
set_option maxHeartbeats 4000000 in
set_option maxRecDepth 100000 in
theorem c_SL1_indexOfChar {l : Launch} {D : va_G} {kA : Nat → ClassId} {S : hE} {g : Nat → Nat} {n0 nx : Nat} {N : Nat} {x0 : Option Nat} {x1 : Int32} {x2 : Int32} {x3 : Int32} {E : hE} {res : Int32} (hf : f_SL1_indexOfChar S g N E x0 x1 x2 x3 = some res) : Met l y_SL1_indexOfChar ws_SL1_indexOfChar rm_SL1_indexOfChar (va_Pc [va_rf x0, .int x1, .int x2, .int x3] (hJ D kA S g n0 (E, nx))) (va_Qi (fun r w => r = res ∧ w = (E, nx)) (hJ D kA S g n0) (fun q => n0 ≤ q)) 0 0 (fun q => n0 ≤ q) := by
  refine h_met (cc := prog_19_method_23_code) (maxL := 6) (ret := (some .int)) (lvs := [(0, va_rf x0), (1, .int x1), (2, .int x2), (3, .int x3)]) zZ_k (by decide) rfl (by simp [lg_sl, va_rf_cat, cat_i, cat_l, cat_n]) (by simp [lv_args, va_rf_cat, cat_i, cat_l, cat_n]) ?_
  intro p e s m below meth c ls C M hr hlk hnm hl
  unfold f_SL1_indexOfChar at hf
  refine lv_iload_n C.x C.b dSL1_indexOfChar_0 rfl (lv_at hl 1 rfl) ?_
  refine lv_i2b C.x C.b dSL1_indexOfChar_1 rfl ?_
  refine lv_istore (lv' := [(4, .int x1.toInt8.toInt32), (0, va_rf x0), (1, .int x1), (2, .int x2), (3, .int x3)]) C.x C.b dSL1_indexOfChar_2 hl (by decide) rfl (fun ls hl => ?_)
  refine lv_iload_n C.x C.b dSL1_indexOfChar_4 rfl (lv_at hl 3 rfl) ?_
  refine lv_istore (lv' := [(5, .int x2), (4, .int x1.toInt8.toInt32), (0, va_rf x0), (1, .int x1), (2, .int x2), (3, .int x3)]) C.x C.b dSL1_indexOfChar_5 hl (by decide) rfl (fun ls hl => ?_)
  exact b_SL1_indexOfChar_7 C hr hlk hnm N _ _ _ _ _ _ _ M (lv_sub hl [2, 5, 1, 0] rfl) hf
theorem dSL1_indexOf_0 : decode prog_19_method_22_code 0 = .ok (.iload_n 1, 1) := by decide +kernel
theorem dSL1_indexOf_1 : decode prog_19_method_22_code 1 = .ok (.invokestatic 88, 3) := by decide +kernel
theorem dSL1_indexOf_4 : decode prog_19_method_22_code 4 = .ok (.ifCond .ne 5, 3) := by decide +kernel
theorem dSL1_indexOf_7 : decode prog_19_method_22_code 7 = .ok (.iconst (-1), 1) := by decide +kernel
theorem dSL1_indexOf_8 : decode prog_19_method_22_code 8 = .ok (.ireturn, 1) := by decide +kernel
theorem dSL1_indexOf_9 : decode prog_19_method_22_code 9 = .ok (.iload_n 2, 1) := by decide +kernel
theorem dSL1_indexOf_10 : decode prog_19_method_22_code 10 = .ok (.iconst 0, 1) := by decide +kernel
theorem dSL1_indexOf_11 : decode prog_19_method_22_code 11 = .ok (.invokestatic 92, 3) := by decide +kernel
theorem dSL1_indexOf_14 : decode prog_19_method_22_code 14 = .ok (.istore_n 2, 1) := by decide +kernel
theorem dSL1_indexOf_15 : decode prog_19_method_22_code 15 = .ok (.iload_n 3, 1) := by decide +kernel
theorem dSL1_indexOf_16 : decode prog_19_method_22_code 16 = .ok (.aload_n 0, 1) := by decide +kernel
theorem dSL1_indexOf_17 : decode prog_19_method_22_code 17 = .ok (.arraylength, 1) := by decide +kernel
theorem dSL1_indexOf_18 : decode prog_19_method_22_code 18 = .ok (.invokestatic 38, 3) := by decide +kernel
theorem dSL1_indexOf_21 : decode prog_19_method_22_code 21 = .ok (.istore_n 3, 1) := by decide +kernel
theorem dSL1_indexOf_22 : decode prog_19_method_22_code 22 = .ok (.iload_n 2, 1) := by decide +kernel
theorem dSL1_indexOf_23 : decode prog_19_method_22_code 23 = .ok (.iload_n 3, 1) := by decide +kernel
theorem dSL1_indexOf_24 : decode prog_19_method_22_code 24 = .ok (.if_icmp .lt 5, 3) := by decide +kernel
theorem dSL1_indexOf_27 : decode prog_19_method_22_code 27 = .ok (.iconst (-1), 1) := by decide +kernel
theorem dSL1_indexOf_28 : decode prog_19_method_22_code 28 = .ok (.ireturn, 1) := by decide +kernel
theorem dSL1_indexOf_29 : decode prog_19_method_22_code 29 = .ok (.aload_n 0, 1) := by decide +kernel
theorem dSL1_indexOf_30 : decode prog_19_method_22_code 30 = .ok (.iload_n 1, 1) := by decide +kernel
theorem dSL1_indexOf_31 : decode prog_19_method_22_code 31 = .ok (.iload_n 2, 1) := by decide +kernel
theorem dSL1_indexOf_32 : decode prog_19_method_22_code 32 = .ok (.iload_n 3, 1) := by decide +kernel
theorem dSL1_indexOf_33 : decode prog_19_method_22_code 33 = .ok (.invokestatic 95, 3) := by decide +kernel
theorem dSL1_indexOf_36 : decode prog_19_method_22_code 36 = .ok (.ireturn, 1) := by decide +kernel
abbrev rm_SL1_indexOf : Room := { frames := 1, cells := 0, slots := 0, locals := 40 }
def f_SL1_indexOf (S : hE) (g : Nat → Nat) (N : Nat) (E : hE) (x0 : Option Nat) (x1 : Int32) (x2 : Int32) (x3 : Int32) : Option (Int32) := (
  (f_SL1_canEncode E x1).bind fun v1 =>
  if v1 = 0 then (
  some (-1)
  ) else (
  (sL1 (Sa S) x0 100).bind fun v17 =>
  if (if x2 < 0 then 0 else x2) < (if v17 < x3 then v17 else x3) then (
  (f_SL1_indexOfChar S g N E x0 x1 (if x2 < 0 then 0 else x2) (if v17 < x3 then v17 else x3)).bind fun v33 =>
  some v33
  ) else (
  some (-1)
  )
  ))
set_option maxHeartbeats 4000000 in
set_option maxRecDepth 100000 in
theorem c_SL1_indexOf {l : Launch} {D : va_G} {kA : Nat → ClassId} {S : hE} {g : Nat → Nat} {n0 nx : Nat} {N : Nat} {x0 : Option Nat} {x1 : Int32} {x2 : Int32} {x3 : Int32} {E : hE} {res : Int32} (hf : f_SL1_indexOf S g N E x0 x1 x2 x3 = some res) : Met l y_SL1_indexOf ws_SL1_indexOf rm_SL1_indexOf (va_Pc [va_rf x0, .int x1, .int x2, .int x3] (hJ D kA S g n0 (E, nx))) (va_Qi (fun r w => r = res ∧ w = (E, nx)) (hJ D kA S g n0) (fun q => n0 ≤ q)) 0 0 (fun q => n0 ≤ q) := by
  refine h_met (cc := prog_19_method_22_code) (maxL := 4) (ret := (some .int)) (lvs := [(0, va_rf x0), (1, .int x1), (2, .int x2), (3, .int x3)]) zZ_k (by decide) rfl (by simp [lg_sl, va_rf_cat, cat_i, cat_l, cat_n]) (by simp [lv_args, va_rf_cat, cat_i, cat_l, cat_n]) ?_
  intro p e s m below meth c ls C M hr hlk hnm hl
  unfold f_SL1_indexOf at hf
  refine lv_iload_n C.x C.b dSL1_indexOf_0 rfl (lv_at hl 1 rfl) ?_
  obtain ⟨v1, h1, hf⟩ := Option.bind_eq_some_iff.mp hf
  refine w_ci M (w_runS C M (c_SL1_canEncode h1) (cwS 1 C.ts (hgS wm_388 wm_389 wm_13 wm_390) rfl rfl rfl (by decide +kernel) ⟨Nat.le_of_ble_eq_true rfl, Nat.le_of_ble_eq_true rfl⟩) rfl hl.1 rfl (Nat.zero_le _) dSL1_indexOf_1 ⟨Nat.le_refl _, Nat.le_refl _⟩) (fun H locs M => ?_)
  refine lv_if_ne (tgt := 9) C.x C.b dSL1_indexOf_4 (by decide) (fun c4 => ?_) (fun c4 => ?_)
  · rw [if_neg c4] at hf
    refine lv_iload_n C.x C.b dSL1_indexOf_9 rfl (lv_at hl 2 rfl) ?_
    refine lv_iconst (v := 0) C.x C.b dSL1_indexOf_10 (by decide) ?_
    refine va_mmax C.x C.b (C.ml.trans hl.1.symm) C.ow (C.ts (.methodLink R_SL1 92 Lib.Math.max.name) (List.mem_cons_of_mem _ wm_391)) (C.ts (.static Lib.Math.max.name) (List.mem_cons_of_mem _ wm_392)) (C.ts (.initialized "java/lang/Math") (List.mem_cons_of_mem _ wm_16)) (C.ts (.code Lib.Math.max.name Lib.Math.max.code 2 (some .int)) (List.mem_cons_of_mem _ wm_393)) (Nat.le_of_ble_eq_true rfl) (Nat.le_of_ble_eq_true rfl) (Nat.zero_le _) (Nat.zero_le _) dSL1_indexOf_11 ?_
    refine lv_istore_n (lv' := [(2, .int (if x2 < 0 then 0 else x2)), (0, va_rf x0), (1, .int x1), (3, .int x3)]) C.x C.b dSL1_indexOf_14 rfl hl (by decide) rfl (fun ls hl => ?_)
    refine lv_iload_n C.x C.b dSL1_indexOf_15 rfl (lv_at hl 3 rfl) ?_
    refine w_aload_n C.x C.b dSL1_indexOf_16 rfl (lv_at hl 1 rfl) ?_
    obtain ⟨v17, h17, hf⟩ := Option.bind_eq_some_iff.mp hf
    refine w_sL1 C M (zZ_S C.z) h17 dSL1_indexOf_17 ?_
    refine va_mmin C.x C.b (C.ml.trans hl.1.symm) C.ow (C.ts (.methodLink R_SL1 38 Lib.Math.min.name) (List.mem_cons_of_mem _ wm_394)) (C.ts (.static Lib.Math.min.name) (List.mem_cons_of_mem _ wm_395)) (C.ts (.initialized "java/lang/Math") (List.mem_cons_of_mem _ wm_16)) (C.ts (.code Lib.Math.min.name Lib.Math.min.code 2 (some .int)) (List.mem_cons_of_mem _ wm_396)) (Nat.le_of_ble_eq_true rfl) (Nat.le_of_ble_eq_true rfl) (Nat.zero_le _) (Nat.zero_le _) dSL1_indexOf_18 ?_
    refine lv_istore_n (lv' := [(3, .int (if v17 < x3 then v17 else x3)), (2, .int (if x2 < 0 then 0 else x2)), (0, va_rf x0), (1, .int x1)]) C.x C.b dSL1_indexOf_21 rfl hl (by decide) rfl (fun ls hl => ?_)
    refine lv_iload_n C.x C.b dSL1_indexOf_22 rfl (lv_at hl 1 rfl) ?_
    refine lv_iload_n C.x C.b dSL1_indexOf_23 rfl (lv_at hl 0 rfl) ?_
    refine lv_icmp_lt (tgt := 29) C.x C.b dSL1_indexOf_24 (by decide) (fun c24 => ?_) (fun c24 => ?_)
    · rw [if_pos c24] at hf
      refine w_aload_n C.x C.b dSL1_indexOf_29 rfl (lv_at hl 2 rfl) ?_
      refine lv_iload_n C.x C.b dSL1_indexOf_30 rfl (lv_at hl 3 rfl) ?_
      refine lv_iload_n C.x C.b dSL1_indexOf_31 rfl (lv_at hl 1 rfl) ?_
      refine lv_iload_n C.x C.b dSL1_indexOf_32 rfl (lv_at hl 0 rfl) ?_
      obtain ⟨v33, h33, hf⟩ := Option.bind_eq_some_iff.mp hf
      refine w_ci M (w_runS C M (c_SL1_indexOfChar h33) (cwS 4 C.ts (hgS wm_397 wm_398 wm_13 wm_399) rfl rfl rfl (by decide +kernel) ⟨Nat.le_of_ble_eq_true rfl, Nat.le_of_ble_eq_true rfl⟩) rfl hl.1 rfl (Nat.zero_le _) dSL1_indexOf_33 ⟨Nat.le_refl _, Nat.le_refl _⟩) (fun H locs M => ?_)
      cases hf
      exact w_iret C M hr hlk rfl (Nat.le_refl _) (Nat.le_refl _) dSL1_indexOf_36 rfl rfl
    · rw [if_neg c24] at hf
      refine lv_iconst (v := (-1)) C.x C.b dSL1_indexOf_27 (by decide) ?_
      cases hf
      exact w_iret C M hr hlk rfl (Nat.le_refl _) (Nat.le_refl _) dSL1_indexOf_28 rfl rfl
  · rw [if_pos c4] at hf
    refine lv_iconst (v := (-1)) C.x C.b dSL1_indexOf_7 (by decide) ?_
    cases hf
    exact w_iret C M hr hlk rfl (Nat.le_refl _) (Nat.le_refl _) dSL1_indexOf_8 rfl rfl
theorem dStr_indexOf2_0 : decode prog_18_method_80_code 0 = .ok (.aload_n 0, 1) := by decide +kernel
theorem dStr_indexOf2_1 : decode prog_18_method_80_code 1 = .ok (.invokevirtual 492, 3) := by decide +kernel
theorem dStr_indexOf2_4 : decode prog_18_method_80_code 4 = .ok (.ifCond .eq 19, 3) := by decide +kernel
theorem dStr_indexOf2_7 : decode prog_18_method_80_code 7 = .ok (.aload_n 0, 1) := by decide +kernel
theorem dStr_indexOf2_8 : decode prog_18_method_80_code 8 = .ok (.getfield 9, 3) := by decide +kernel
theorem dStr_indexOf2_11 : decode prog_18_method_80_code 11 = .ok (.iload_n 1, 1) := by decide +kernel
theorem dStr_indexOf2_12 : decode prog_18_method_80_code 12 = .ok (.iload_n 2, 1) := by decide +kernel
theorem dStr_indexOf2_13 : decode prog_18_method_80_code 13 = .ok (.aload_n 0, 1) := by decide +kernel
theorem dStr_indexOf2_14 : decode prog_18_method_80_code 14 = .ok (.invokevirtual 505, 3) := by decide +kernel
theorem dStr_indexOf2_17 : decode prog_18_method_80_code 17 = .ok (.invokestatic 637, 3) := by decide +kernel
theorem dStr_indexOf2_20 : decode prog_18_method_80_code 20 = .ok (.goto 16, 3) := by decide +kernel
theorem dStr_indexOf2_36 : decode prog_18_method_80_code 36 = .ok (.ireturn, 1) := by decide +kernel
abbrev rm_Str_indexOf2 : Room := { frames := 2, cells := 0, slots := 0, locals := 63 }
def f_Str_indexOf2 (S : hE) (g : Nat → Nat) (N : Nat) (E : hE) (x0 : Nat) (x1 : Int32) (x2 : Int32) : Option (Int32) := (
  (gO (So S) (some x0) 100).bind fun o1 =>
  (f_Str_isLatin1 S g E o1.1).bind fun v1 =>
  if v1 = 0 then (
  none
  ) else (
  (gR (So S) (some x0) 100 0).bind fun v8 =>
  (gO (So S) (some x0) 100).bind fun o14 =>
  (f_Str_length S g E o14.1).bind fun v14 =>
  (f_SL1_indexOf S g N E v8 x1 x2 v14).bind fun v17 =>
  some v17
  ))
set_option maxHeartbeats 4000000 in
set_option maxRecDepth 100000 in
theorem c_Str_indexOf2 {l : Launch} {D : va_G} {kA : Nat → ClassId} {S : hE} {g : Nat → Nat} {n0 nx : Nat} {N : Nat} {x0 : Nat} {x1 : Int32} {x2 : Int32} {E : hE} {res : Int32} (hf : f_Str_indexOf2 S g N E x0 x1 x2 = some res) : Met l y_Str_indexOf2 ws_Str_indexOf2 rm_Str_indexOf2 (va_Pc [va_rf (some x0), .int x1, .int x2] (hJ D kA S g n0 (E, nx))) (va_Qi (fun r w => r = res ∧ w = (E, nx)) (hJ D kA S g n0) (fun q => n0 ≤ q)) 0 0 (fun q => n0 ≤ q) := by
  refine h_met (cc := prog_18_method_80_code) (maxL := 3) (ret := (some .int)) (lvs := [(0, va_rf (some x0)), (1, .int x1), (2, .int x2)]) zZ_k (by decide) rfl (by simp [lg_sl, va_rf_cat, cat_i, cat_l, cat_n]) (by simp [lv_args, va_rf_cat, cat_i, cat_l, cat_n]) ?_
  intro p e s m below meth c ls C M hr hlk hnm hl
  unfold f_Str_indexOf2 at hf
  refine w_aload_n C.x C.b dStr_indexOf2_0 rfl (lv_at hl 0 rfl) ?_
  obtain ⟨o1, g1, hf⟩ := Option.bind_eq_some_iff.mp hf
  obtain ⟨v1, h1, hf⟩ := Option.bind_eq_some_iff.mp hf
  refine w_ci M (w_runVs C M (zZ_S C.z) g1 (c_Str_isLatin1 h1) (cwV 0 C.ts (hgV wm_321 wm_322 wm_323 wm_12 wm_324) rfl rfl rfl (by decide +kernel) ⟨Nat.le_of_ble_eq_true rfl, Nat.le_of_ble_eq_true rfl⟩) rfl hl.1 rfl (Nat.zero_le _) dStr_indexOf2_1 ⟨Nat.le_refl _, Nat.le_refl _⟩) (fun H locs M => ?_)
  refine lv_if_eq (tgt := 23) C.x C.b dStr_indexOf2_4 (by decide) (fun c4 => ?_) (fun c4 => ?_)
  · rw [if_pos c4] at hf
    cases hf
  · rw [if_neg c4] at hf
    refine w_aload_n C.x C.b dStr_indexOf2_7 rfl (lv_at hl 0 rfl) ?_
    obtain ⟨v8, h8, hf⟩ := Option.bind_eq_some_iff.mp hf
    refine w_sgetR C M (zZ_S C.z) h8 (List.mem_cons_of_mem _ wm_1068) rfl dStr_indexOf2_8 ?_
    refine lv_iload_n C.x C.b dStr_indexOf2_11 rfl (lv_at hl 1 rfl) ?_
    refine lv_iload_n C.x C.b dStr_indexOf2_12 rfl (lv_at hl 2 rfl) ?_
    refine w_aload_n C.x C.b dStr_indexOf2_13 rfl (lv_at hl 0 rfl) ?_
    obtain ⟨o14, g14, hf⟩ := Option.bind_eq_some_iff.mp hf
    obtain ⟨v14, h14, hf⟩ := Option.bind_eq_some_iff.mp hf
    refine w_ci M (w_runVs C M (zZ_S C.z) g14 (c_Str_length h14) (cwV 0 C.ts (hgV wm_384 wm_304 wm_305 wm_12 wm_306) rfl rfl rfl (by decide +kernel) ⟨Nat.le_of_ble_eq_true rfl, Nat.le_of_ble_eq_true rfl⟩) rfl hl.1 rfl (by simp [va_rf_cat, cat_i, cat_l, cat_n]) dStr_indexOf2_14 ⟨Nat.le_refl _, Nat.le_refl _⟩) (fun H locs M => ?_)
    obtain ⟨v17, h17, hf⟩ := Option.bind_eq_some_iff.mp hf
    refine w_ci M (w_runS C M (c_SL1_indexOf h17) (va_cwS 4 C.ts (hgT wm_385 wm_386 wm_13 wm_387) rfl rfl rfl (by decide +kernel) ⟨Nat.le_of_ble_eq_true rfl, Nat.le_of_ble_eq_true rfl⟩) rfl hl.1 rfl (Nat.zero_le _) dStr_indexOf2_17 ⟨Nat.le_refl _, Nat.le_refl _⟩) (fun H locs M => ?_)
    refine lv_goto (tgt := 36) C.x C.b dStr_indexOf2_20 (by decide) ?_
    cases hf
    exact w_iret C M hr hlk rfl (Nat.le_refl _) (Nat.le_refl _) dStr_indexOf2_36 rfl rfl
theorem dStr_indexOf1_0 : decode prog_18_method_79_code 0 = .ok (.aload_n 0, 1) := by decide +kernel
theorem dStr_indexOf1_1 : decode prog_18_method_79_code 1 = .ok (.iload_n 1, 1) := by decide +kernel
theorem dStr_indexOf1_2 : decode prog_18_method_79_code 2 = .ok (.iconst 0, 1) := by decide +kernel
theorem dStr_indexOf1_3 : decode prog_18_method_79_code 3 = .ok (.invokevirtual 633, 3) := by decide +kernel
theorem dStr_indexOf1_6 : decode prog_18_method_79_code 6 = .ok (.ireturn, 1) := by decide +kernel
abbrev rm_Str_indexOf1 : Room := { frames := 3, cells := 0, slots := 0, locals := 85 }
def f_Str_indexOf1 (S : hE) (g : Nat → Nat) (N : Nat) (E : hE) (x0 : Nat) (x1 : Int32) : Option (Int32) := (
  (gO (So S) (some x0) 100).bind fun o3 =>
  (f_Str_indexOf2 S g N E o3.1 x1 0).bind fun v3 =>
  some v3)
set_option maxHeartbeats 4000000 in
set_option maxRecDepth 100000 in
theorem c_Str_indexOf1 {l : Launch} {D : va_G} {kA : Nat → ClassId} {S : hE} {g : Nat → Nat} {n0 nx : Nat} {N : Nat} {x0 : Nat} {x1 : Int32} {E : hE} {res : Int32} (hf : f_Str_indexOf1 S g N E x0 x1 = some res) : Met l y_Str_indexOf1 ws_Str_indexOf1 rm_Str_indexOf1 (va_Pc [va_rf (some x0), .int x1] (hJ D kA S g n0 (E, nx))) (va_Qi (fun r w => r = res ∧ w = (E, nx)) (hJ D kA S g n0) (fun q => n0 ≤ q)) 0 0 (fun q => n0 ≤ q) := by
  refine h_met (cc := prog_18_method_79_code) (maxL := 2) (ret := (some .int)) (lvs := [(0, va_rf (some x0)), (1, .int x1)]) zZ_k (by decide) rfl (by simp [lg_sl, va_rf_cat, cat_i, cat_l, cat_n]) (by simp [lv_args, va_rf_cat, cat_i, cat_l, cat_n]) ?_
  intro p e s m below meth c ls C M hr hlk hnm hl
  unfold f_Str_indexOf1 at hf
  refine w_aload_n C.x C.b dStr_indexOf1_0 rfl (lv_at hl 0 rfl) ?_
  refine lv_iload_n C.x C.b dStr_indexOf1_1 rfl (lv_at hl 1 rfl) ?_
  refine lv_iconst (v := 0) C.x C.b dStr_indexOf1_2 (by decide) ?_
  obtain ⟨o3, g3, hf⟩ := Option.bind_eq_some_iff.mp hf
  obtain ⟨v3, h3, hf⟩ := Option.bind_eq_some_iff.mp hf
  refine w_ci M (w_runVs C M (zZ_S C.z) g3 (c_Str_indexOf2 h3) (cwV 2 C.ts (hgV wm_380 wm_381 wm_382 wm_12 wm_383) rfl rfl rfl (by decide +kernel) ⟨Nat.le_of_ble_eq_true rfl, Nat.le_of_ble_eq_true rfl⟩) rfl hl.1 rfl (Nat.zero_le _) dStr_indexOf1_3 ⟨Nat.le_refl _, Nat.le_refl _⟩) (fun H locs M => ?_)
  cases hf
  exact w_iret C M hr hlk rfl (Nat.le_refl _) (Nat.le_refl _) dStr_indexOf1_6 rfl rfl
theorem dTape_signAmong_0 : decode prog_9_method_14_code 0 = .ok (.iload_n 1, 1) := by decide +kernel
theorem dTape_signAmong_1 : decode prog_9_method_14_code 1 = .ok (.iconst (-1), 1) := by decide +kernel
theorem dTape_signAmong_2 : decode prog_9_method_14_code 2 = .ok (.if_icmp .eq 16, 3) := by decide +kernel
theorem dTape_signAmong_5 : decode prog_9_method_14_code 5 = .ok (.aload_n 0, 1) := by decide +kernel
theorem dTape_signAmong_6 : decode prog_9_method_14_code 6 = .ok (.iload_n 1, 1) := by decide +kernel
theorem dTape_signAmong_7 : decode prog_9_method_14_code 7 = .ok (.i2c, 1) := by decide +kernel
theorem dTape_signAmong_8 : decode prog_9_method_14_code 8 = .ok (.invokevirtual 157, 3) := by decide +kernel
theorem dTape_signAmong_11 : decode prog_9_method_14_code 11 = .ok (.ifCond .lt 7, 3) := by decide +kernel
theorem dTape_signAmong_14 : decode prog_9_method_14_code 14 = .ok (.iload_n 1, 1) := by decide +kernel
theorem dTape_signAmong_15 : decode prog_9_method_14_code 15 = .ok (.goto 4, 3) := by decide +kernel
theorem dTape_signAmong_18 : decode prog_9_method_14_code 18 = .ok (.iconst (-1), 1) := by decide +kernel
theorem dTape_signAmong_19 : decode prog_9_method_14_code 19 = .ok (.ireturn, 1) := by decide +kernel
abbrev rm_Tape_signAmong : Room := { frames := 4, cells := 0, slots := 0, locals := 106 }
def f_Tape_signAmong_b19 (S : hE) (g : Nat → Nat) (N : Nat) (E : hE) (t0 : Int32) : Option (Int32) := (
  some t0)
set_option maxHeartbeats 4000000 in
set_option maxRecDepth 100000 in
theorem b_Tape_signAmong_19 {p : Program} {l : Launch} {e : Env} {s : State} {m : MethodId} {args : Array Value} {below : List Frame} {meth : Method} {c : Code} {D : va_G} {kA : Nat → ClassId} {S : hE} {g : Nat → Nat} {n0 nx : Nat} {N : Nat} {E : hE} {res : Int32} (C : hX p s m args c prog_9_method_14_code 2 R_Tape ws_Tape_signAmong D kA S g n0) (hr : meth.sig.returnType = (some .int)) (hlk : meth.locks = false) (hnm : meth.name = "signAmong") : ∀ (t0 : Int32) (H : Heap) (locs : List Loc) (ls : Array Slot), hY D kA n0 s E nx H locs → lv_has ls 2 [] → f_Tape_signAmong_b19 S g N E  t0 = some res → W p l e rm_Tape_signAmong s m args below meth c H locs 0 0 (MQ below (va_Qi (fun r w => r = res ∧ w = (E, nx)) (hJ D kA S g n0) (fun q => n0 ≤ q)) args s 0 0 (fun q => n0 ≤ q)) (F0 m 19 ls [.int t0]) := by
  intro t0 H locs ls M hl hf
  unfold f_Tape_signAmong_b19 at hf
  cases hf
  exact w_iret C M hr hlk rfl (Nat.le_refl _) (Nat.le_refl _) dTape_signAmong_19 rfl rfl
def f_Tape_signAmong_b18 (S : hE) (g : Nat → Nat) (N : Nat) (E : hE) : Option (Int32) := (
  f_Tape_signAmong_b19 S g N E (-1))
set_option maxHeartbeats 4000000 in
set_option maxRecDepth 100000 in
theorem b_Tape_signAmong_18 {p : Program} {l : Launch} {e : Env} {s : State} {m : MethodId} {args : Array Value} {below : List Frame} {meth : Method} {c : Code} {D : va_G} {kA : Nat → ClassId} {S : hE} {g : Nat → Nat} {n0 nx : Nat} {N : Nat} {E : hE} {res : Int32} (C : hX p s m args c prog_9_method_14_code 2 R_Tape ws_Tape_signAmong D kA S g n0) (hr : meth.sig.returnType = (some .int)) (hlk : meth.locks = false) (hnm : meth.name = "signAmong") : ∀  (H : Heap) (locs : List Loc) (ls : Array Slot), hY D kA n0 s E nx H locs → lv_has ls 2 [] → f_Tape_signAmong_b18 S g N E   = some res → W p l e rm_Tape_signAmong s m args below meth c H locs 0 0 (MQ below (va_Qi (fun r w => r = res ∧ w = (E, nx)) (hJ D kA S g n0) (fun q => n0 ≤ q)) args s 0 0 (fun q => n0 ≤ q)) (F0 m 18 ls []) := by
  intro  H locs ls M hl hf
  unfold f_Tape_signAmong_b18 at hf
  refine lv_iconst (v := (-1)) C.x C.b dTape_signAmong_18 (by decide) ?_
  exact b_Tape_signAmong_19 C hr hlk hnm _ _ _ _ M (lv_sub hl [] rfl) hf
def f_Tape_signAmong (S : hE) (g : Nat → Nat) (N : Nat) (E : hE) (x0 : Option Nat) (x1 : Int32) : Option (Int32) := (
  if x1 = (-1) then (
  f_Tape_signAmong_b18 S g N E 
  ) else (
  (gO (So S) x0 100).bind fun o8 =>
  (f_Str_indexOf1 S g N E o8.1 ((x1.toUInt32 % 65536).toInt32)).bind fun v8 =>
  if v8 < 0 then (
  f_Tape_signAmong_b18 S g N E 
  ) else (
  f_Tape_signAmong_b19 S g N E x1
  )
  ))
set_option maxHeartbeats 4000000 in
set_option maxRecDepth 100000 in
theorem c_Tape_signAmong {l : Launch} {D : va_G} {kA : Nat → ClassId} {S : hE} {g : Nat → Nat} {n0 nx : Nat} {N : Nat} {x0 : Option Nat} {x1 : Int32} {E : hE} {res : Int32} (hf : f_Tape_signAmong S g N E x0 x1 = some res) : Met l y_Tape_signAmong ws_Tape_signAmong rm_Tape_signAmong (va_Pc [va_rf x0, .int x1] (hJ D kA S g n0 (E, nx))) (va_Qi (fun r w => r = res ∧ w = (E, nx)) (hJ D kA S g n0) (fun q => n0 ≤ q)) 0 0 (fun q => n0 ≤ q) := by
  refine h_met (cc := prog_9_method_14_code) (maxL := 2) (ret := (some .int)) (lvs := [(0, va_rf x0), (1, .int x1)]) zZ_k (by decide) rfl (by simp [lg_sl, va_rf_cat, cat_i, cat_l, cat_n]) (by simp [lv_args, va_rf_cat, cat_i, cat_l, cat_n]) ?_
  intro p e s m below meth c ls C M hr hlk hnm hl
  unfold f_Tape_signAmong at hf
  refine lv_iload_n C.x C.b dTape_signAmong_0 rfl (lv_at hl 1 rfl) ?_
  refine lv_iconst (v := (-1)) C.x C.b dTape_signAmong_1 (by decide) ?_
  refine lv_icmp_eq (tgt := 18) C.x C.b dTape_signAmong_2 (by decide) (fun c2 => ?_) (fun c2 => ?_)
  · rw [if_pos c2] at hf
    exact b_Tape_signAmong_18 C hr hlk hnm _ _ _ M (lv_sub hl [] rfl) hf
  · rw [if_neg c2] at hf
    refine w_aload_n C.x C.b dTape_signAmong_5 rfl (lv_at hl 0 rfl) ?_
    refine lv_iload_n C.x C.b dTape_signAmong_6 rfl (lv_at hl 1 rfl) ?_
    refine lv_i2c C.x C.b dTape_signAmong_7 rfl ?_
    obtain ⟨o8, g8, hf⟩ := Option.bind_eq_some_iff.mp hf
    obtain ⟨v8, h8, hf⟩ := Option.bind_eq_some_iff.mp hf
    refine w_ci M (w_runVs C M (zZ_S C.z) g8 (c_Str_indexOf1 h8) (cwV 1 C.ts (hgV wm_376 wm_377 wm_378 wm_12 wm_379) rfl rfl rfl (by decide +kernel) ⟨Nat.le_of_ble_eq_true rfl, Nat.le_of_ble_eq_true rfl⟩) rfl hl.1 rfl (Nat.zero_le _) dTape_signAmong_8 ⟨Nat.le_refl _, Nat.le_refl _⟩) (fun H locs M => ?_)
    refine lv_if_lt (tgt := 18) C.x C.b dTape_signAmong_11 (by decide) (fun c11 => ?_) (fun c11 => ?_)
    · rw [if_pos c11] at hf
      exact b_Tape_signAmong_18 C hr hlk hnm _ _ _ M (lv_sub hl [] rfl) hf
    · rw [if_neg c11] at hf
      refine lv_iload_n C.x C.b dTape_signAmong_14 rfl (lv_at hl 1 rfl) ?_
      refine lv_goto (tgt := 19) C.x C.b dTape_signAmong_15 (by decide) ?_
      exact b_Tape_signAmong_19 C hr hlk hnm _ _ _ _ M (lv_sub hl [] rfl) hf
