/-! m11: by wip/whole/gen.py -/
theorem dTape_check_0 : decode prog_9_method_2_code 0 = .ok (.aload_n 0, 1) := by decide +kernel
theorem dTape_check_1 : decode prog_9_method_2_code 1 = .ok (.iconst 0, 1) := by decide +kernel
theorem dTape_check_2 : decode prog_9_method_2_code 2 = .ok (.putfield 27, 3) := by decide +kernel
theorem dTape_check_5 : decode prog_9_method_2_code 5 = .ok (.iconst 0, 1) := by decide +kernel
theorem dTape_check_6 : decode prog_9_method_2_code 6 = .ok (.istore_n 2, 1) := by decide +kernel
theorem dTape_check_7 : decode prog_9_method_2_code 7 = .ok (.iconst 0, 1) := by decide +kernel
theorem dTape_check_8 : decode prog_9_method_2_code 8 = .ok (.istore_n 3, 1) := by decide +kernel
theorem dTape_check_9 : decode prog_9_method_2_code 9 = .ok (.iload_n 3, 1) := by decide +kernel
theorem dTape_check_10 : decode prog_9_method_2_code 10 = .ok (.aload_n 0, 1) := by decide +kernel
theorem dTape_check_11 : decode prog_9_method_2_code 11 = .ok (.getfield 14, 3) := by decide +kernel
theorem dTape_check_14 : decode prog_9_method_2_code 14 = .ok (.getfield 31, 3) := by decide +kernel
theorem dTape_check_17 : decode prog_9_method_2_code 17 = .ok (.if_icmp .ge 110, 3) := by decide +kernel
theorem dTape_check_20 : decode prog_9_method_2_code 20 = .ok (.aload_n 0, 1) := by decide +kernel
theorem dTape_check_21 : decode prog_9_method_2_code 21 = .ok (.getfield 14, 3) := by decide +kernel
theorem dTape_check_24 : decode prog_9_method_2_code 24 = .ok (.iload_n 3, 1) := by decide +kernel
theorem dTape_check_25 : decode prog_9_method_2_code 25 = .ok (.invokevirtual 34, 3) := by decide +kernel
theorem dTape_check_28 : decode prog_9_method_2_code 28 = .ok (.istore 4, 2) := by decide +kernel
theorem dTape_check_30 : decode prog_9_method_2_code 30 = .ok (.iload 4, 2) := by decide +kernel
theorem dTape_check_32 : decode prog_9_method_2_code 32 = .ok (.bipush 10, 2) := by decide +kernel
theorem dTape_check_34 : decode prog_9_method_2_code 34 = .ok (.if_icmp .eq 14, 3) := by decide +kernel
theorem dTape_check_37 : decode prog_9_method_2_code 37 = .ok (.iload 4, 2) := by decide +kernel
theorem dTape_check_39 : decode prog_9_method_2_code 39 = .ok (.bipush 32, 2) := by decide +kernel
theorem dTape_check_41 : decode prog_9_method_2_code 41 = .ok (.if_icmp .eq 7, 3) := by decide +kernel
theorem dTape_check_44 : decode prog_9_method_2_code 44 = .ok (.iconst 1, 1) := by decide +kernel
theorem dTape_check_45 : decode prog_9_method_2_code 45 = .ok (.goto 4, 3) := by decide +kernel
theorem dTape_check_48 : decode prog_9_method_2_code 48 = .ok (.iconst 0, 1) := by decide +kernel
theorem dTape_check_49 : decode prog_9_method_2_code 49 = .ok (.istore 5, 2) := by decide +kernel
theorem dTape_check_51 : decode prog_9_method_2_code 51 = .ok (.iload 5, 2) := by decide +kernel
theorem dTape_check_53 : decode prog_9_method_2_code 53 = .ok (.ifCond .eq 17, 3) := by decide +kernel
theorem dTape_check_56 : decode prog_9_method_2_code 56 = .ok (.aload_n 0, 1) := by decide +kernel
theorem dTape_check_57 : decode prog_9_method_2_code 57 = .ok (.iload_n 3, 1) := by decide +kernel
theorem dTape_check_58 : decode prog_9_method_2_code 58 = .ok (.iload_n 2, 1) := by decide +kernel
theorem dTape_check_59 : decode prog_9_method_2_code 59 = .ok (.ifCond .ne 7, 3) := by decide +kernel
theorem dTape_check_62 : decode prog_9_method_2_code 62 = .ok (.iconst 1, 1) := by decide +kernel
theorem dTape_check_63 : decode prog_9_method_2_code 63 = .ok (.goto 4, 3) := by decide +kernel
theorem dTape_check_66 : decode prog_9_method_2_code 66 = .ok (.iconst 0, 1) := by decide +kernel
theorem dTape_check_67 : decode prog_9_method_2_code 67 = .ok (.invokevirtual 38, 3) := by decide +kernel
theorem dTape_check_70 : decode prog_9_method_2_code 70 = .ok (.iload 5, 2) := by decide +kernel
theorem dTape_check_72 : decode prog_9_method_2_code 72 = .ok (.istore_n 2, 1) := by decide +kernel
theorem dTape_check_73 : decode prog_9_method_2_code 73 = .ok (.iload 4, 2) := by decide +kernel
theorem dTape_check_75 : decode prog_9_method_2_code 75 = .ok (.bipush 10, 2) := by decide +kernel
theorem dTape_check_77 : decode prog_9_method_2_code 77 = .ok (.if_icmp .eq 16, 3) := by decide +kernel
theorem dTape_check_80 : decode prog_9_method_2_code 80 = .ok (.iload_n 3, 1) := by decide +kernel
theorem dTape_check_81 : decode prog_9_method_2_code 81 = .ok (.aload_n 0, 1) := by decide +kernel
theorem dTape_check_82 : decode prog_9_method_2_code 82 = .ok (.getfield 14, 3) := by decide +kernel
theorem dTape_check_85 : decode prog_9_method_2_code 85 = .ok (.getfield 31, 3) := by decide +kernel
theorem dTape_check_88 : decode prog_9_method_2_code 88 = .ok (.iconst 1, 1) := by decide +kernel
theorem dTape_check_89 : decode prog_9_method_2_code 89 = .ok (.isub, 1) := by decide +kernel
theorem dTape_check_90 : decode prog_9_method_2_code 90 = .ok (.if_icmp .ne 31, 3) := by decide +kernel
theorem dTape_check_93 : decode prog_9_method_2_code 93 = .ok (.aload_n 0, 1) := by decide +kernel
theorem dTape_check_94 : decode prog_9_method_2_code 94 = .ok (.aload_n 1, 1) := by decide +kernel
theorem dTape_check_95 : decode prog_9_method_2_code 95 = .ok (.invokevirtual 42, 3) := by decide +kernel
theorem dTape_check_98 : decode prog_9_method_2_code 98 = .ok (.ifCond .ne 8, 3) := by decide +kernel
theorem dTape_check_101 : decode prog_9_method_2_code 101 = .ok (.aload_n 1, 1) := by decide +kernel
theorem dTape_check_102 : decode prog_9_method_2_code 102 = .ok (.getfield 46, 3) := by decide +kernel
theorem dTape_check_105 : decode prog_9_method_2_code 105 = .ok (.ireturn, 1) := by decide +kernel
theorem dTape_check_106 : decode prog_9_method_2_code 106 = .ok (.aload_n 1, 1) := by decide +kernel
theorem dTape_check_107 : decode prog_9_method_2_code 107 = .ok (.dup, 1) := by decide +kernel
theorem dTape_check_108 : decode prog_9_method_2_code 108 = .ok (.getfield 46, 3) := by decide +kernel
theorem dTape_check_111 : decode prog_9_method_2_code 111 = .ok (.iconst 1, 1) := by decide +kernel
theorem dTape_check_112 : decode prog_9_method_2_code 112 = .ok (.iadd, 1) := by decide +kernel
theorem dTape_check_113 : decode prog_9_method_2_code 113 = .ok (.putfield 46, 3) := by decide +kernel
theorem dTape_check_116 : decode prog_9_method_2_code 116 = .ok (.aload_n 0, 1) := by decide +kernel
theorem dTape_check_117 : decode prog_9_method_2_code 117 = .ok (.iconst 0, 1) := by decide +kernel
theorem dTape_check_118 : decode prog_9_method_2_code 118 = .ok (.putfield 27, 3) := by decide +kernel
theorem dTape_check_121 : decode prog_9_method_2_code 121 = .ok (.iinc 3 1, 3) := by decide +kernel
theorem dTape_check_124 : decode prog_9_method_2_code 124 = .ok (.goto (-115), 3) := by decide +kernel
theorem dTape_check_127 : decode prog_9_method_2_code 127 = .ok (.aload_n 1, 1) := by decide +kernel
theorem dTape_check_128 : decode prog_9_method_2_code 128 = .ok (.invokevirtual 51, 3) := by decide +kernel
theorem dTape_check_131 : decode prog_9_method_2_code 131 = .ok (.ireturn, 1) := by decide +kernel
abbrev rm_Tape_check (bo : Nat → Nat) : Room := { frames := 8, cells := 804, slots := 2814 + sumB bo 401, locals := 193 }
def f_Tape_check_b121 (S : hE) (g : Nat → Nat) (N : Nat) (bo : Nat → Nat) (B : Nat) (k9 : Option Nat → Option Nat → Int32 → Int32 → hE → Nat → Option (Int32 × hE × Nat)) (y0 : Option Nat) (y1 : Option Nat) (y2 : Int32) (y3 : Int32) (E : hE) (nx : Nat) : Option (Int32 × hE × Nat) := (
  k9 y0 y1 y2 (y3 + 1) E nx)
set_option maxHeartbeats 4000000 in
set_option maxRecDepth 100000 in
theorem b_Tape_check_121 {p : Program} {l : Launch} {e : Env} {s : State} {m : MethodId} {args : Array Value} {below : List Frame} {meth : Method} {c : Code} {D : va_G} {kA : Nat → ClassId} {S : hE} {g : Nat → Nat} {n0 : Nat} {N : Nat} {B : Nat} {bo : Nat → Nat} {res : Int32 × hE × Nat} (C : hX p s m args c prog_9_method_2_code 6 R_Tape ws_Tape_check D kA S g n0) (hr : meth.sig.returnType = (some .int)) (hlk : meth.locks = false) (hnm : meth.name = "check") {n9 : Nat} (k9 : Option Nat → Option Nat → Int32 → Int32 → hE → Nat → Option (Int32 × hE × Nat)) (hk9 : ∀ (y0 : Option Nat) (y1 : Option Nat) (y2 : Int32) (y3 : Int32) (E : hE) (nx : Nat) (H : Heap) (locs : List Loc) (ls : Array Slot) (cells slots : Nat), hY D kA n0 s E nx H locs → lv_has ls 6 [(0, va_rf y0), (1, va_rf y1), (2, .int y2), (3, .int y3)] → cells + (n9 * 2 + 2) ≤ 804 → slots + (n9 * 7 + 7 + sumB bo n9) ≤ 2814 + sumB bo 401 → k9 y0 y1 y2 y3 E nx = some res → W p l e (rm_Tape_check bo) s m args below meth c H locs cells slots (MQ below (va_Qi (fun r w => r = res.1 ∧ w = res.2) (hJ D kA S g n0) (fun q => n0 ≤ q)) args s 804 (2814 + sumB bo 401) (fun q => n0 ≤ q)) (F0 m 9 ls [])) : ∀ (y0 : Option Nat) (y1 : Option Nat) (y2 : Int32) (y3 : Int32) (E : hE) (nx : Nat) (H : Heap) (locs : List Loc) (ls : Array Slot) (cells slots : Nat), hY D kA n0 s E nx H locs → lv_has ls 6 [(0, va_rf y0), (1, va_rf y1), (2, .int y2), (3, .int y3)] → cells + (0 + (n9 * 2 + 2)) ≤ 804 → slots + (0 + (n9 * 7 + 7 + sumB bo n9)) ≤ 2814 + sumB bo 401 → f_Tape_check_b121 S g N bo B k9 y0 y1 y2 y3 E nx = some res → W p l e (rm_Tape_check bo) s m args below meth c H locs cells slots (MQ below (va_Qi (fun r w => r = res.1 ∧ w = res.2) (hJ D kA S g n0) (fun q => n0 ≤ q)) args s 804 (2814 + sumB bo 401) (fun q => n0 ≤ q)) (F0 m 121 ls []) := by
  intro y0 y1 y2 y3 E nx H locs ls cells slots M hl hcb hsb hf
  unfold f_Tape_check_b121 at hf
  refine lv_iinc (v := y3 + 1) (lv' := [(3, .int (y3 + 1)), (0, va_rf y0), (1, va_rf y1), (2, .int y2)]) C.x C.b dTape_check_121 hl (k := 3) rfl rfl (by decide) rfl (fun ls hl => ?_)
  refine lv_goto (tgt := 9) C.x C.b dTape_check_124 (by decide) ?_
  exact hk9 _ _ _ _ _ _ _ _ _ _ _ M (lv_sub hl [1, 2, 3, 0] rfl) (by omega) (by omega) hf
def f_Tape_check_b93 (S : hE) (g : Nat → Nat) (N : Nat) (bo : Nat → Nat) (B : Nat) (k9 : Option Nat → Option Nat → Int32 → Int32 → hE → Nat → Option (Int32 × hE × Nat)) (y0 : Option Nat) (y1 : Option Nat) (y2 : Int32) (y3 : Int32) (E : hE) (nx : Nat) : Option (Int32 × hE × Nat) := (
  (gO E y0 5).bind fun o95 =>
  (f_Tape_takeLine S g N B o95.1 y1 E nx).bind fun v95 =>
  if v95.1 = 0 then (
  (gI v95.2.1 y1 3 2).bind fun v102 =>
  some (v102, v95.2.1, v95.2.2)
  ) else (
  (gI v95.2.1 y1 3 2).bind fun v108 =>
  (sI v95.2.1 y1 3 2 (v108 + 1)).bind fun E113 =>
  (sI E113 y0 5 3 0).bind fun E118 =>
  f_Tape_check_b121 S g N bo B k9 y0 y1 y2 y3 E118 v95.2.2
  ))
set_option maxHeartbeats 4000000 in
set_option maxRecDepth 100000 in
theorem b_Tape_check_93 {p : Program} {l : Launch} {e : Env} {s : State} {m : MethodId} {args : Array Value} {below : List Frame} {meth : Method} {c : Code} {D : va_G} {kA : Nat → ClassId} {S : hE} {g : Nat → Nat} {n0 : Nat} {N : Nat} {B : Nat} {bo : Nat → Nat} {res : Int32 × hE × Nat} (C : hX p s m args c prog_9_method_2_code 6 R_Tape ws_Tape_check D kA S g n0) (hr : meth.sig.returnType = (some .int)) (hlk : meth.locks = false) (hnm : meth.name = "check") {n9 : Nat} (k9 : Option Nat → Option Nat → Int32 → Int32 → hE → Nat → Option (Int32 × hE × Nat)) (hk9 : ∀ (y0 : Option Nat) (y1 : Option Nat) (y2 : Int32) (y3 : Int32) (E : hE) (nx : Nat) (H : Heap) (locs : List Loc) (ls : Array Slot) (cells slots : Nat), hY D kA n0 s E nx H locs → lv_has ls 6 [(0, va_rf y0), (1, va_rf y1), (2, .int y2), (3, .int y3)] → cells + (n9 * 2 + 2) ≤ 804 → slots + (n9 * 7 + 7 + sumB bo n9) ≤ 2814 + sumB bo 401 → k9 y0 y1 y2 y3 E nx = some res → W p l e (rm_Tape_check bo) s m args below meth c H locs cells slots (MQ below (va_Qi (fun r w => r = res.1 ∧ w = res.2) (hJ D kA S g n0) (fun q => n0 ≤ q)) args s 804 (2814 + sumB bo 401) (fun q => n0 ≤ q)) (F0 m 9 ls [])) : ∀ (y0 : Option Nat) (y1 : Option Nat) (y2 : Int32) (y3 : Int32) (E : hE) (nx : Nat) (H : Heap) (locs : List Loc) (ls : Array Slot) (cells slots : Nat), hY D kA n0 s E nx H locs → lv_has ls 6 [(0, va_rf y0), (1, va_rf y1), (2, .int y2), (3, .int y3)] → cells + (2 + (n9 * 2 + 2)) ≤ 804 → slots + (7 + B + (n9 * 7 + 7 + sumB bo n9)) ≤ 2814 + sumB bo 401 → f_Tape_check_b93 S g N bo B k9 y0 y1 y2 y3 E nx = some res → W p l e (rm_Tape_check bo) s m args below meth c H locs cells slots (MQ below (va_Qi (fun r w => r = res.1 ∧ w = res.2) (hJ D kA S g n0) (fun q => n0 ≤ q)) args s 804 (2814 + sumB bo 401) (fun q => n0 ≤ q)) (F0 m 93 ls []) := by
  intro y0 y1 y2 y3 E nx H locs ls cells slots M hl hcb hsb hf
  unfold f_Tape_check_b93 at hf
  refine w_aload_n C.x C.b dTape_check_93 rfl (lv_at hl 0 rfl) ?_
  refine w_aload_n C.x C.b dTape_check_94 rfl (lv_at hl 1 rfl) ?_
  obtain ⟨o95, g95, hf⟩ := Option.bind_eq_some_iff.mp hf
  obtain ⟨v95, h95, hf⟩ := Option.bind_eq_some_iff.mp hf
  refine w_ci M (w_runV C M g95 rfl (c_Tape_takeLine h95) (cwV 1 C.ts (hgV wm_274 wm_276 sel_Tape_takeLine wm_2 wm_277) rfl rfl rfl (by decide +kernel) ⟨Nat.le_of_ble_eq_true rfl, Nat.le_of_ble_eq_true rfl⟩) rfl hl.1 rfl (Nat.zero_le _) dTape_check_95 ⟨by show _ ≤ 804; omega, by show _ ≤ 2814 + sumB bo 401; omega⟩) (fun H locs M => ?_)
  refine lv_if_ne (tgt := 106) C.x C.b dTape_check_98 (by decide) (fun c98 => ?_) (fun c98 => ?_)
  · rw [if_neg c98] at hf
    refine w_aload_n C.x C.b dTape_check_106 rfl (lv_at hl 1 rfl) ?_
    refine lv_dup C.x C.b dTape_check_107 (va_rf_cat _) ?_
    obtain ⟨v108, h108, hf⟩ := Option.bind_eq_some_iff.mp hf
    refine w_getI C M h108 rfl (hm_in in_Script) (by decide) (List.mem_cons_of_mem _ wm_253) rfl dTape_check_108 ?_
    refine lv_iconst (v := 1) C.x C.b dTape_check_111 (by decide) ?_
    refine lv_iadd C.x C.b dTape_check_112 ?_
    obtain ⟨E113, h113, hf⟩ := Option.bind_eq_some_iff.mp hf
    refine w_putV (ty := .int) C M ty_Script h113 rfl (hm_in in_Script) tyok_Script nm_Script (by decide) (List.mem_cons_of_mem _ wm_253) rfl rfl (by decide +kernel) rfl rfl dTape_check_113 (fun H locs M => ?_)
    refine w_aload_n C.x C.b dTape_check_116 rfl (lv_at hl 0 rfl) ?_
    refine lv_iconst (v := 0) C.x C.b dTape_check_117 (by decide) ?_
    obtain ⟨E118, h118, hf⟩ := Option.bind_eq_some_iff.mp hf
    refine w_putV (ty := .int) C M ty_Tape h118 rfl (hm_in in_Tape) tyok_Tape nm_Tape (by decide) (List.mem_cons_of_mem _ wm_62) rfl rfl (by decide +kernel) rfl rfl dTape_check_118 (fun H locs M => ?_)
    exact b_Tape_check_121 C hr hlk hnm k9 hk9 _ _ _ _ _ _ _ _ _ _ _ M (lv_sub hl [0, 1, 2, 3] rfl) (by omega) (by omega) hf
  · rw [if_pos c98] at hf
    refine w_aload_n C.x C.b dTape_check_101 rfl (lv_at hl 1 rfl) ?_
    obtain ⟨v102, h102, hf⟩ := Option.bind_eq_some_iff.mp hf
    refine w_getI C M h102 rfl (hm_in in_Script) (by decide) (List.mem_cons_of_mem _ wm_253) rfl dTape_check_102 ?_
    cases hf
    exact w_iret C M hr hlk rfl (by omega) (by omega) dTape_check_105 rfl rfl
def f_Tape_check_b70 (S : hE) (g : Nat → Nat) (N : Nat) (bo : Nat → Nat) (B : Nat) (k9 : Option Nat → Option Nat → Int32 → Int32 → hE → Nat → Option (Int32 × hE × Nat)) (y0 : Option Nat) (y1 : Option Nat) (y3 : Int32) (y4 : Int32) (y5 : Int32) (E : hE) (nx : Nat) : Option (Int32 × hE × Nat) := (
  if y4 = 10 then (
  f_Tape_check_b93 S g N bo B k9 y0 y1 y5 y3 E nx
  ) else (
  (gR E y0 5 0).bind fun v82 =>
  (gI E v82 0 1).bind fun v85 =>
  if y3 = (v85 - 1) then (
  f_Tape_check_b93 S g N bo B k9 y0 y1 y5 y3 E nx
  ) else (
  f_Tape_check_b121 S g N bo B k9 y0 y1 y5 y3 E nx
  )
  ))
set_option maxHeartbeats 4000000 in
set_option maxRecDepth 100000 in
theorem b_Tape_check_70 {p : Program} {l : Launch} {e : Env} {s : State} {m : MethodId} {args : Array Value} {below : List Frame} {meth : Method} {c : Code} {D : va_G} {kA : Nat → ClassId} {S : hE} {g : Nat → Nat} {n0 : Nat} {N : Nat} {B : Nat} {bo : Nat → Nat} {res : Int32 × hE × Nat} (C : hX p s m args c prog_9_method_2_code 6 R_Tape ws_Tape_check D kA S g n0) (hr : meth.sig.returnType = (some .int)) (hlk : meth.locks = false) (hnm : meth.name = "check") {n9 : Nat} (k9 : Option Nat → Option Nat → Int32 → Int32 → hE → Nat → Option (Int32 × hE × Nat)) (hk9 : ∀ (y0 : Option Nat) (y1 : Option Nat) (y2 : Int32) (y3 : Int32) (E : hE) (nx : Nat) (H : Heap) (locs : List Loc) (ls : Array Slot) (cells slots : Nat), hY D kA n0 s E nx H locs → lv_has ls 6 [(0, va_rf y0), (1, va_rf y1), (2, .int y2), (3, .int y3)] → cells + (n9 * 2 + 2) ≤ 804 → slots + (n9 * 7 + 7 + sumB bo n9) ≤ 2814 + sumB bo 401 → k9 y0 y1 y2 y3 E nx = some res → W p l e (rm_Tape_check bo) s m args below meth c H locs cells slots (MQ below (va_Qi (fun r w => r = res.1 ∧ w = res.2) (hJ D kA S g n0) (fun q => n0 ≤ q)) args s 804 (2814 + sumB bo 401) (fun q => n0 ≤ q)) (F0 m 9 ls [])) : ∀ (y0 : Option Nat) (y1 : Option Nat) (y3 : Int32) (y4 : Int32) (y5 : Int32) (E : hE) (nx : Nat) (H : Heap) (locs : List Loc) (ls : Array Slot) (cells slots : Nat), hY D kA n0 s E nx H locs → lv_has ls 6 [(0, va_rf y0), (1, va_rf y1), (3, .int y3), (4, .int y4), (5, .int y5)] → cells + (2 + (n9 * 2 + 2)) ≤ 804 → slots + (7 + B + (n9 * 7 + 7 + sumB bo n9)) ≤ 2814 + sumB bo 401 → f_Tape_check_b70 S g N bo B k9 y0 y1 y3 y4 y5 E nx = some res → W p l e (rm_Tape_check bo) s m args below meth c H locs cells slots (MQ below (va_Qi (fun r w => r = res.1 ∧ w = res.2) (hJ D kA S g n0) (fun q => n0 ≤ q)) args s 804 (2814 + sumB bo 401) (fun q => n0 ≤ q)) (F0 m 70 ls []) := by
  intro y0 y1 y3 y4 y5 E nx H locs ls cells slots M hl hcb hsb hf
  unfold f_Tape_check_b70 at hf
  refine lv_iload C.x C.b dTape_check_70 (lv_at hl 4 rfl) ?_
  refine lv_istore_n (lv' := [(2, .int y5), (0, va_rf y0), (1, va_rf y1), (3, .int y3), (4, .int y4), (5, .int y5)]) C.x C.b dTape_check_72 rfl hl (by decide) (by simp only [List.filter, va_rf_cat] <;> rfl) (fun ls hl => ?_)
  refine lv_iload C.x C.b dTape_check_73 (lv_at hl 4 rfl) ?_
  refine lv_bipush (v := 10) C.x C.b dTape_check_75 (by decide) ?_
  refine lv_icmp_eq (tgt := 93) C.x C.b dTape_check_77 (by decide) (fun c77 => ?_) (fun c77 => ?_)
  · rw [if_pos c77] at hf
    exact b_Tape_check_93 C hr hlk hnm k9 hk9 _ _ _ _ _ _ _ _ _ _ _ M (lv_sub hl [1, 2, 0, 3] rfl) (by omega) (by omega) hf
  · rw [if_neg c77] at hf
    refine lv_iload_n C.x C.b dTape_check_80 rfl (lv_at hl 3 rfl) ?_
    refine w_aload_n C.x C.b dTape_check_81 rfl (lv_at hl 1 rfl) ?_
    obtain ⟨v82, h82, hf⟩ := Option.bind_eq_some_iff.mp hf
    refine w_getR C M h82 rfl (hm_in in_Tape) (by decide) (List.mem_cons_of_mem _ wm_58) rfl dTape_check_82 ?_
    obtain ⟨v85, h85, hf⟩ := Option.bind_eq_some_iff.mp hf
    refine w_getI C M h85 rfl (hm_in in_Row) (by decide) (List.mem_cons_of_mem _ wm_46) rfl dTape_check_85 ?_
    refine lv_iconst (v := 1) C.x C.b dTape_check_88 (by decide) ?_
    refine lv_isub C.x C.b dTape_check_89 ?_
    refine lv_icmp_ne (tgt := 121) C.x C.b dTape_check_90 (by decide) (fun c90 => ?_) (fun c90 => ?_)
    · rw [if_neg c90] at hf
      exact b_Tape_check_121 C hr hlk hnm k9 hk9 _ _ _ _ _ _ _ _ _ _ _ M (lv_sub hl [1, 2, 0, 3] rfl) (by omega) (by omega) hf
    · rw [if_pos c90] at hf
      exact b_Tape_check_93 C hr hlk hnm k9 hk9 _ _ _ _ _ _ _ _ _ _ _ M (lv_sub hl [1, 2, 0, 3] rfl) (by omega) (by omega) hf
def f_Tape_check_b67 (S : hE) (g : Nat → Nat) (N : Nat) (bo : Nat → Nat) (B : Nat) (k9 : Option Nat → Option Nat → Int32 → Int32 → hE → Nat → Option (Int32 × hE × Nat)) (y0 : Option Nat) (y1 : Option Nat) (y3 : Int32) (y4 : Int32) (y5 : Int32) (t0 : Option Nat) (t1 : Int32) (t2 : Int32) (E : hE) (nx : Nat) : Option (Int32 × hE × Nat) := (
  (gO E t0 5).bind fun o67 =>
  (f_Tape_takeCharacter o67.1 t1 t2 E).bind fun v67 =>
  f_Tape_check_b70 S g N bo B k9 y0 y1 y3 y4 y5 v67 nx)
set_option maxHeartbeats 4000000 in
set_option maxRecDepth 100000 in
theorem b_Tape_check_67 {p : Program} {l : Launch} {e : Env} {s : State} {m : MethodId} {args : Array Value} {below : List Frame} {meth : Method} {c : Code} {D : va_G} {kA : Nat → ClassId} {S : hE} {g : Nat → Nat} {n0 : Nat} {N : Nat} {B : Nat} {bo : Nat → Nat} {res : Int32 × hE × Nat} (C : hX p s m args c prog_9_method_2_code 6 R_Tape ws_Tape_check D kA S g n0) (hr : meth.sig.returnType = (some .int)) (hlk : meth.locks = false) (hnm : meth.name = "check") {n9 : Nat} (k9 : Option Nat → Option Nat → Int32 → Int32 → hE → Nat → Option (Int32 × hE × Nat)) (hk9 : ∀ (y0 : Option Nat) (y1 : Option Nat) (y2 : Int32) (y3 : Int32) (E : hE) (nx : Nat) (H : Heap) (locs : List Loc) (ls : Array Slot) (cells slots : Nat), hY D kA n0 s E nx H locs → lv_has ls 6 [(0, va_rf y0), (1, va_rf y1), (2, .int y2), (3, .int y3)] → cells + (n9 * 2 + 2) ≤ 804 → slots + (n9 * 7 + 7 + sumB bo n9) ≤ 2814 + sumB bo 401 → k9 y0 y1 y2 y3 E nx = some res → W p l e (rm_Tape_check bo) s m args below meth c H locs cells slots (MQ below (va_Qi (fun r w => r = res.1 ∧ w = res.2) (hJ D kA S g n0) (fun q => n0 ≤ q)) args s 804 (2814 + sumB bo 401) (fun q => n0 ≤ q)) (F0 m 9 ls [])) : ∀ (y0 : Option Nat) (y1 : Option Nat) (y3 : Int32) (y4 : Int32) (y5 : Int32) (t0 : Option Nat) (t1 : Int32) (t2 : Int32) (E : hE) (nx : Nat) (H : Heap) (locs : List Loc) (ls : Array Slot) (cells slots : Nat), hY D kA n0 s E nx H locs → lv_has ls 6 [(0, va_rf y0), (1, va_rf y1), (3, .int y3), (4, .int y4), (5, .int y5)] → cells + (2 + (n9 * 2 + 2)) ≤ 804 → slots + (7 + B + (n9 * 7 + 7 + sumB bo n9)) ≤ 2814 + sumB bo 401 → f_Tape_check_b67 S g N bo B k9 y0 y1 y3 y4 y5 t0 t1 t2 E nx = some res → W p l e (rm_Tape_check bo) s m args below meth c H locs cells slots (MQ below (va_Qi (fun r w => r = res.1 ∧ w = res.2) (hJ D kA S g n0) (fun q => n0 ≤ q)) args s 804 (2814 + sumB bo 401) (fun q => n0 ≤ q)) (F0 m 67 ls [.int t2, .int t1, va_rf t0]) := by
  intro y0 y1 y3 y4 y5 t0 t1 t2 E nx H locs ls cells slots M hl hcb hsb hf
  unfold f_Tape_check_b67 at hf
  obtain ⟨o67, g67, hf⟩ := Option.bind_eq_some_iff.mp hf
  obtain ⟨v67, h67, hf⟩ := Option.bind_eq_some_iff.mp hf
  refine w_cv M (w_runV C M g67 rfl (c_Tape_takeCharacter h67) (cwV 2 C.ts (hgV wm_270 wm_272 sel_Tape_takeCharacter wm_2 wm_273) rfl rfl rfl (by decide +kernel) ⟨Nat.le_of_ble_eq_true rfl, Nat.le_of_ble_eq_true rfl⟩) rfl hl.1 rfl (Nat.zero_le _) dTape_check_67 ⟨by show _ ≤ 804; omega, by show _ ≤ 2814 + sumB bo 401; omega⟩) (fun H locs M => ?_)
  exact b_Tape_check_70 C hr hlk hnm k9 hk9 _ _ _ _ _ _ _ _ _ _ _ _ M (lv_sub hl [0, 1, 2, 3, 4] rfl) (by omega) (by omega) hf
def f_Tape_check_b49 (S : hE) (g : Nat → Nat) (N : Nat) (bo : Nat → Nat) (B : Nat) (k9 : Option Nat → Option Nat → Int32 → Int32 → hE → Nat → Option (Int32 × hE × Nat)) (y0 : Option Nat) (y1 : Option Nat) (y2 : Int32) (y3 : Int32) (y4 : Int32) (t0 : Int32) (E : hE) (nx : Nat) : Option (Int32 × hE × Nat) := (
  if t0 = 0 then (
  f_Tape_check_b70 S g N bo B k9 y0 y1 y3 y4 t0 E nx
  ) else (
  if y2 = 0 then (
  f_Tape_check_b67 S g N bo B k9 y0 y1 y3 y4 t0 y0 y3 1 E nx
  ) else (
  f_Tape_check_b67 S g N bo B k9 y0 y1 y3 y4 t0 y0 y3 0 E nx
  )
  ))
set_option maxHeartbeats 4000000 in
set_option maxRecDepth 100000 in
theorem b_Tape_check_49 {p : Program} {l : Launch} {e : Env} {s : State} {m : MethodId} {args : Array Value} {below : List Frame} {meth : Method} {c : Code} {D : va_G} {kA : Nat → ClassId} {S : hE} {g : Nat → Nat} {n0 : Nat} {N : Nat} {B : Nat} {bo : Nat → Nat} {res : Int32 × hE × Nat} (C : hX p s m args c prog_9_method_2_code 6 R_Tape ws_Tape_check D kA S g n0) (hr : meth.sig.returnType = (some .int)) (hlk : meth.locks = false) (hnm : meth.name = "check") {n9 : Nat} (k9 : Option Nat → Option Nat → Int32 → Int32 → hE → Nat → Option (Int32 × hE × Nat)) (hk9 : ∀ (y0 : Option Nat) (y1 : Option Nat) (y2 : Int32) (y3 : Int32) (E : hE) (nx : Nat) (H : Heap) (locs : List Loc) (ls : Array Slot) (cells slots : Nat), hY D kA n0 s E nx H locs → lv_has ls 6 [(0, va_rf y0), (1, va_rf y1), (2, .int y2), (3, .int y3)] → cells + (n9 * 2 + 2) ≤ 804 → slots + (n9 * 7 + 7 + sumB bo n9) ≤ 2814 + sumB bo 401 → k9 y0 y1 y2 y3 E nx = some res → W p l e (rm_Tape_check bo) s m args below meth c H locs cells slots (MQ below (va_Qi (fun r w => r = res.1 ∧ w = res.2) (hJ D kA S g n0) (fun q => n0 ≤ q)) args s 804 (2814 + sumB bo 401) (fun q => n0 ≤ q)) (F0 m 9 ls [])) : ∀ (y0 : Option Nat) (y1 : Option Nat) (y2 : Int32) (y3 : Int32) (y4 : Int32) (t0 : Int32) (E : hE) (nx : Nat) (H : Heap) (locs : List Loc) (ls : Array Slot) (cells slots : Nat), hY D kA n0 s E nx H locs → lv_has ls 6 [(0, va_rf y0), (1, va_rf y1), (2, .int y2), (3, .int y3), (4, .int y4)] → cells + (2 + (n9 * 2 + 2)) ≤ 804 → slots + (7 + B + (n9 * 7 + 7 + sumB bo n9)) ≤ 2814 + sumB bo 401 → f_Tape_check_b49 S g N bo B k9 y0 y1 y2 y3 y4 t0 E nx = some res → W p l e (rm_Tape_check bo) s m args below meth c H locs cells slots (MQ below (va_Qi (fun r w => r = res.1 ∧ w = res.2) (hJ D kA S g n0) (fun q => n0 ≤ q)) args s 804 (2814 + sumB bo 401) (fun q => n0 ≤ q)) (F0 m 49 ls [.int t0]) := by
  intro y0 y1 y2 y3 y4 t0 E nx H locs ls cells slots M hl hcb hsb hf
  unfold f_Tape_check_b49 at hf
  refine lv_istore (lv' := [(5, .int t0), (0, va_rf y0), (1, va_rf y1), (2, .int y2), (3, .int y3), (4, .int y4)]) C.x C.b dTape_check_49 hl (by decide) rfl (fun ls hl => ?_)
  refine lv_iload C.x C.b dTape_check_51 (lv_at hl 0 rfl) ?_
  refine lv_if_eq (tgt := 70) C.x C.b dTape_check_53 (by decide) (fun c53 => ?_) (fun c53 => ?_)
  · rw [if_pos c53] at hf
    exact b_Tape_check_70 C hr hlk hnm k9 hk9 _ _ _ _ _ _ _ _ _ _ _ _ M (lv_sub hl [1, 2, 4, 5, 0] rfl) (by omega) (by omega) hf
  · rw [if_neg c53] at hf
    refine w_aload_n C.x C.b dTape_check_56 rfl (lv_at hl 1 rfl) ?_
    refine lv_iload_n C.x C.b dTape_check_57 rfl (lv_at hl 4 rfl) ?_
    refine lv_iload_n C.x C.b dTape_check_58 rfl (lv_at hl 3 rfl) ?_
    refine lv_if_ne (tgt := 66) C.x C.b dTape_check_59 (by decide) (fun c59 => ?_) (fun c59 => ?_)
    · rw [if_neg c59] at hf
      refine lv_iconst (v := 0) C.x C.b dTape_check_66 (by decide) ?_
      exact b_Tape_check_67 C hr hlk hnm k9 hk9 _ _ _ _ _ _ _ _ _ _ _ _ _ _ _ M (lv_sub hl [1, 2, 4, 5, 0] rfl) (by omega) (by omega) hf
    · rw [if_pos c59] at hf
      refine lv_iconst (v := 1) C.x C.b dTape_check_62 (by decide) ?_
      refine lv_goto (tgt := 67) C.x C.b dTape_check_63 (by decide) ?_
      exact b_Tape_check_67 C hr hlk hnm k9 hk9 _ _ _ _ _ _ _ _ _ _ _ _ _ _ _ M (lv_sub hl [1, 2, 4, 5, 0] rfl) (by omega) (by omega) hf
def f_Tape_check_b48 (S : hE) (g : Nat → Nat) (N : Nat) (bo : Nat → Nat) (B : Nat) (k9 : Option Nat → Option Nat → Int32 → Int32 → hE → Nat → Option (Int32 × hE × Nat)) (y0 : Option Nat) (y1 : Option Nat) (y2 : Int32) (y3 : Int32) (y4 : Int32) (E : hE) (nx : Nat) : Option (Int32 × hE × Nat) := (
  f_Tape_check_b49 S g N bo B k9 y0 y1 y2 y3 y4 0 E nx)
set_option maxHeartbeats 4000000 in
set_option maxRecDepth 100000 in
theorem b_Tape_check_48 {p : Program} {l : Launch} {e : Env} {s : State} {m : MethodId} {args : Array Value} {below : List Frame} {meth : Method} {c : Code} {D : va_G} {kA : Nat → ClassId} {S : hE} {g : Nat → Nat} {n0 : Nat} {N : Nat} {B : Nat} {bo : Nat → Nat} {res : Int32 × hE × Nat} (C : hX p s m args c prog_9_method_2_code 6 R_Tape ws_Tape_check D kA S g n0) (hr : meth.sig.returnType = (some .int)) (hlk : meth.locks = false) (hnm : meth.name = "check") {n9 : Nat} (k9 : Option Nat → Option Nat → Int32 → Int32 → hE → Nat → Option (Int32 × hE × Nat)) (hk9 : ∀ (y0 : Option Nat) (y1 : Option Nat) (y2 : Int32) (y3 : Int32) (E : hE) (nx : Nat) (H : Heap) (locs : List Loc) (ls : Array Slot) (cells slots : Nat), hY D kA n0 s E nx H locs → lv_has ls 6 [(0, va_rf y0), (1, va_rf y1), (2, .int y2), (3, .int y3)] → cells + (n9 * 2 + 2) ≤ 804 → slots + (n9 * 7 + 7 + sumB bo n9) ≤ 2814 + sumB bo 401 → k9 y0 y1 y2 y3 E nx = some res → W p l e (rm_Tape_check bo) s m args below meth c H locs cells slots (MQ below (va_Qi (fun r w => r = res.1 ∧ w = res.2) (hJ D kA S g n0) (fun q => n0 ≤ q)) args s 804 (2814 + sumB bo 401) (fun q => n0 ≤ q)) (F0 m 9 ls [])) : ∀ (y0 : Option Nat) (y1 : Option Nat) (y2 : Int32) (y3 : Int32) (y4 : Int32) (E : hE) (nx : Nat) (H : Heap) (locs : List Loc) (ls : Array Slot) (cells slots : Nat), hY D kA n0 s E nx H locs → lv_has ls 6 [(0, va_rf y0), (1, va_rf y1), (2, .int y2), (3, .int y3), (4, .int y4)] → cells + (2 + (n9 * 2 + 2)) ≤ 804 → slots + (7 + B + (n9 * 7 + 7 + sumB bo n9)) ≤ 2814 + sumB bo 401 → f_Tape_check_b48 S g N bo B k9 y0 y1 y2 y3 y4 E nx = some res → W p l e (rm_Tape_check bo) s m args below meth c H locs cells slots (MQ below (va_Qi (fun r w => r = res.1 ∧ w = res.2) (hJ D kA S g n0) (fun q => n0 ≤ q)) args s 804 (2814 + sumB bo 401) (fun q => n0 ≤ q)) (F0 m 48 ls []) := by
  intro y0 y1 y2 y3 y4 E nx H locs ls cells slots M hl hcb hsb hf
  unfold f_Tape_check_b48 at hf
  refine lv_iconst (v := 0) C.x C.b dTape_check_48 (by decide) ?_
  exact b_Tape_check_49 C hr hlk hnm k9 hk9 _ _ _ _ _ _ _ _ _ _ _ _ _ M (lv_sub hl [0, 1, 2, 3, 4] rfl) (by omega) (by omega) hf
def f_Tape_check_b9 (S : hE) (g : Nat → Nat) (N : Nat) (bo : Nat → Nat) : Nat → Option Nat → Option Nat → Int32 → Int32 → hE → Nat → Option (Int32 × hE × Nat)
  | 0, _, _, _, _, _, _ => none
  | n + 1, y0, y1, y2, y3, E, nx => (
  (gR E y0 5 0).bind fun v11 =>
  (gI E v11 0 1).bind fun v14 =>
  if v14 ≤ y3 then (
  (gO E y1 3).bind fun o128 =>
  (f_Script_lineOfMissingLabel N E o128.1).bind fun v128 =>
  some (v128, E, nx)
  ) else (
  (gR E y0 5 0).bind fun v21 =>
  (gO E v21 0).bind fun o25 =>
  (f_Row_at E o25.1 y3).bind fun v25 =>
  if v25 = 10 then (
  f_Tape_check_b48 S g N bo (bo n) (f_Tape_check_b9 S g N bo n) y0 y1 y2 y3 v25 E nx
  ) else (
  if v25 = 32 then (
  f_Tape_check_b48 S g N bo (bo n) (f_Tape_check_b9 S g N bo n) y0 y1 y2 y3 v25 E nx
  ) else (
  f_Tape_check_b49 S g N bo (bo n) (f_Tape_check_b9 S g N bo n) y0 y1 y2 y3 v25 1 E nx
  )
  )
  ))
set_option maxHeartbeats 4000000 in
set_option maxRecDepth 100000 in
theorem b_Tape_check_9 {p : Program} {l : Launch} {e : Env} {s : State} {m : MethodId} {args : Array Value} {below : List Frame} {meth : Method} {c : Code} {D : va_G} {kA : Nat → ClassId} {S : hE} {g : Nat → Nat} {n0 : Nat} {N : Nat} {bo : Nat → Nat} {res : Int32 × hE × Nat} (C : hX p s m args c prog_9_method_2_code 6 R_Tape ws_Tape_check D kA S g n0) (hr : meth.sig.returnType = (some .int)) (hlk : meth.locks = false) (hnm : meth.name = "check") : ∀ n : Nat, ∀ (y0 : Option Nat) (y1 : Option Nat) (y2 : Int32) (y3 : Int32) (E : hE) (nx : Nat) (H : Heap) (locs : List Loc) (ls : Array Slot) (cells slots : Nat), hY D kA n0 s E nx H locs → lv_has ls 6 [(0, va_rf y0), (1, va_rf y1), (2, .int y2), (3, .int y3)] → cells + (n * 2 + 2) ≤ 804 → slots + (n * 7 + 7 + sumB bo n) ≤ 2814 + sumB bo 401 → f_Tape_check_b9 S g N bo n y0 y1 y2 y3 E nx = some res → W p l e (rm_Tape_check bo) s m args below meth c H locs cells slots (MQ below (va_Qi (fun r w => r = res.1 ∧ w = res.2) (hJ D kA S g n0) (fun q => n0 ≤ q)) args s 804 (2814 + sumB bo 401) (fun q => n0 ≤ q)) (F0 m 9 ls []) := by
  intro n
  induction n with
  | zero =>
    intro y0 y1 y2 y3 E nx H locs ls cells slots M hl hcb hsb hf
    simp [f_Tape_check_b9] at hf
  | succ n ih =>
    intro y0 y1 y2 y3 E nx H locs ls cells slots M hl hcb hsb hf
    have hsn : sumB bo (n + 1) = sumB bo n + bo n := rfl
    rw [f_Tape_check_b9] at hf
    refine lv_iload_n C.x C.b dTape_check_9 rfl (lv_at hl 3 rfl) ?_
    refine w_aload_n C.x C.b dTape_check_10 rfl (lv_at hl 0 rfl) ?_
    obtain ⟨v11, h11, hf⟩ := Option.bind_eq_some_iff.mp hf
    refine w_getR C M h11 rfl (hm_in in_Tape) (by decide) (List.mem_cons_of_mem _ wm_58) rfl dTape_check_11 ?_
    obtain ⟨v14, h14, hf⟩ := Option.bind_eq_some_iff.mp hf
    refine w_getI C M h14 rfl (hm_in in_Row) (by decide) (List.mem_cons_of_mem _ wm_46) rfl dTape_check_14 ?_
    refine lv_icmp_ge (tgt := 127) C.x C.b dTape_check_17 (by decide) (fun c17 => ?_) (fun c17 => ?_)
    · rw [if_pos c17] at hf
      refine w_aload_n C.x C.b dTape_check_127 rfl (lv_at hl 1 rfl) ?_
      obtain ⟨o128, g128, hf⟩ := Option.bind_eq_some_iff.mp hf
      obtain ⟨v128, h128, hf⟩ := Option.bind_eq_some_iff.mp hf
      refine w_ci M (w_runV C M g128 rfl (c_Script_lineOfMissingLabel h128) (cwV 0 C.ts (hgV wm_528 wm_529 wm_530 wm_7 wm_531) rfl rfl rfl (by decide +kernel) ⟨Nat.le_of_ble_eq_true rfl, Nat.le_of_ble_eq_true rfl⟩) rfl hl.1 rfl (Nat.zero_le _) dTape_check_128 ⟨by show _ ≤ 804; omega, by show _ ≤ 2814 + sumB bo 401; omega⟩) (fun H locs M => ?_)
      cases hf
      exact w_iret C M hr hlk rfl (by omega) (by omega) dTape_check_131 rfl rfl
    · rw [if_neg c17] at hf
      refine w_aload_n C.x C.b dTape_check_20 rfl (lv_at hl 0 rfl) ?_
      obtain ⟨v21, h21, hf⟩ := Option.bind_eq_some_iff.mp hf
      refine w_getR C M h21 rfl (hm_in in_Tape) (by decide) (List.mem_cons_of_mem _ wm_58) rfl dTape_check_21 ?_
      refine lv_iload_n C.x C.b dTape_check_24 rfl (lv_at hl 3 rfl) ?_
      obtain ⟨o25, g25, hf⟩ := Option.bind_eq_some_iff.mp hf
      obtain ⟨v25, h25, hf⟩ := Option.bind_eq_some_iff.mp hf
      refine w_ci M (w_runV C M g25 rfl (c_Row_at h25) (cwV 1 C.ts (hgV wm_266 wm_267 wm_268 wm_3 wm_269) rfl rfl rfl (by decide +kernel) ⟨Nat.le_of_ble_eq_true rfl, Nat.le_of_ble_eq_true rfl⟩) rfl hl.1 rfl (Nat.zero_le _) dTape_check_25 ⟨by show _ ≤ 804; omega, by show _ ≤ 2814 + sumB bo 401; omega⟩) (fun H locs M => ?_)
      refine lv_istore (lv' := [(4, .int v25), (0, va_rf y0), (1, va_rf y1), (2, .int y2), (3, .int y3)]) C.x C.b dTape_check_28 hl (by decide) rfl (fun ls hl => ?_)
      refine lv_iload C.x C.b dTape_check_30 (lv_at hl 0 rfl) ?_
      refine lv_bipush (v := 10) C.x C.b dTape_check_32 (by decide) ?_
      refine lv_icmp_eq (tgt := 48) C.x C.b dTape_check_34 (by decide) (fun c34 => ?_) (fun c34 => ?_)
      · rw [if_pos c34] at hf
        exact b_Tape_check_48 C hr hlk hnm (f_Tape_check_b9 S g N bo n) ih _ _ _ _ _ _ _ _ _ _ _ _ M (lv_sub hl [1, 2, 3, 4, 0] rfl) (by omega) (by omega) hf
      · rw [if_neg c34] at hf
        refine lv_iload C.x C.b dTape_check_37 (lv_at hl 0 rfl) ?_
        refine lv_bipush (v := 32) C.x C.b dTape_check_39 (by decide) ?_
        refine lv_icmp_eq (tgt := 48) C.x C.b dTape_check_41 (by decide) (fun c41 => ?_) (fun c41 => ?_)
        · rw [if_pos c41] at hf
          exact b_Tape_check_48 C hr hlk hnm (f_Tape_check_b9 S g N bo n) ih _ _ _ _ _ _ _ _ _ _ _ _ M (lv_sub hl [1, 2, 3, 4, 0] rfl) (by omega) (by omega) hf
        · rw [if_neg c41] at hf
          refine lv_iconst (v := 1) C.x C.b dTape_check_44 (by decide) ?_
          refine lv_goto (tgt := 49) C.x C.b dTape_check_45 (by decide) ?_
          exact b_Tape_check_49 C hr hlk hnm (f_Tape_check_b9 S g N bo n) ih _ _ _ _ _ _ _ _ _ _ _ _ _ M (lv_sub hl [1, 2, 3, 4, 0] rfl) (by omega) (by omega) hf
def f_Tape_check (S : hE) (g : Nat → Nat) (N : Nat) (bo : Nat → Nat) (x0 : Nat) (x1 : Option Nat) (E : hE) (nx : Nat) : Option (Int32 × hE × Nat) := (
  (sI E (some x0) 5 3 0).bind fun E2 =>
  f_Tape_check_b9 S g N bo 401 (some x0) x1 0 0 E2 nx)
set_option maxHeartbeats 4000000 in
set_option maxRecDepth 100000 in
theorem c_Tape_check {l : Launch} {D : va_G} {kA : Nat → ClassId} {S : hE} {g : Nat → Nat} {n0 nx : Nat} {N : Nat} {bo : Nat → Nat} {x0 : Nat} {x1 : Option Nat} {E : hE} {res : Int32 × hE × Nat} (hf : f_Tape_check S g N bo x0 x1 E nx = some res) : Met l y_Tape_check ws_Tape_check (rm_Tape_check bo) (va_Pc [va_rf (some x0), va_rf x1] (hJ D kA S g n0 (E, nx))) (va_Qi (fun r w => r = res.1 ∧ w = res.2) (hJ D kA S g n0) (fun q => n0 ≤ q)) 804 (2814 + sumB bo 401) (fun q => n0 ≤ q) := by
  refine h_met (cc := prog_9_method_2_code) (maxL := 6) (ret := (some .int)) (lvs := [(0, va_rf (some x0)), (1, va_rf x1)]) zZ_k (by decide) rfl (by simp [lg_sl, va_rf_cat, cat_i, cat_l, cat_n]) (by simp [lv_args, va_rf_cat, cat_i, cat_l, cat_n]) ?_
  intro p e s m below meth c ls C M hr hlk hnm hl
  unfold f_Tape_check at hf
  refine w_aload_n C.x C.b dTape_check_0 rfl (lv_at hl 0 rfl) ?_
  refine lv_iconst (v := 0) C.x C.b dTape_check_1 (by decide) ?_
  obtain ⟨E2, h2, hf⟩ := Option.bind_eq_some_iff.mp hf
  refine w_putV (ty := .int) C M ty_Tape h2 rfl (hm_in in_Tape) tyok_Tape nm_Tape (by decide) (List.mem_cons_of_mem _ wm_62) rfl rfl (by decide +kernel) rfl rfl dTape_check_2 (fun H locs M => ?_)
  refine lv_iconst (v := 0) C.x C.b dTape_check_5 (by decide) ?_
  refine lv_istore_n (lv' := [(2, .int 0), (0, va_rf (some x0)), (1, va_rf x1)]) C.x C.b dTape_check_6 rfl hl (by decide) (by simp only [List.filter, va_rf_cat] <;> rfl) (fun ls hl => ?_)
  refine lv_iconst (v := 0) C.x C.b dTape_check_7 (by decide) ?_
  refine lv_istore_n (lv' := [(3, .int 0), (2, .int 0), (0, va_rf (some x0)), (1, va_rf x1)]) C.x C.b dTape_check_8 rfl hl (by decide) rfl (fun ls hl => ?_)
  exact b_Tape_check_9 C hr hlk hnm 401 _ _ _ _ _ _ _ _ _ _ _ M (lv_sub hl [2, 3, 1, 0] rfl) (by omega) (by omega) hf
theorem dS_load_0 : decode prog_1_method_3_code 0 = .ok (.iload_n 1, 1) := by decide +kernel
theorem dS_load_1 : decode prog_1_method_3_code 1 = .ok (.ifCond .lt 8, 3) := by decide +kernel
theorem dS_load_4 : decode prog_1_method_3_code 4 = .ok (.iload_n 1, 1) := by decide +kernel
theorem dS_load_5 : decode prog_1_method_3_code 5 = .ok (.iconst 4, 1) := by decide +kernel
theorem dS_load_6 : decode prog_1_method_3_code 6 = .ok (.if_icmp .lt 16, 3) := by decide +kernel
theorem dS_load_9 : decode prog_1_method_3_code 9 = .ok (.aload_n 0, 1) := by decide +kernel
theorem dS_load_10 : decode prog_1_method_3_code 10 = .ok (.getfield 10, 3) := by decide +kernel
theorem dS_load_13 : decode prog_1_method_3_code 13 = .ok (.getfield 31, 3) := by decide +kernel
theorem dS_load_16 : decode prog_1_method_3_code 16 = .ok (.invokevirtual 44, 3) := by decide +kernel
theorem dS_load_19 : decode prog_1_method_3_code 19 = .ok (.bipush (-2), 2) := by decide +kernel
theorem dS_load_21 : decode prog_1_method_3_code 21 = .ok (.ireturn, 1) := by decide +kernel
theorem dS_load_22 : decode prog_1_method_3_code 22 = .ok (.new 47, 3) := by decide +kernel
theorem dS_load_25 : decode prog_1_method_3_code 25 = .ok (.dup, 1) := by decide +kernel
theorem dS_load_26 : decode prog_1_method_3_code 26 = .ok (.invokespecial 49, 3) := by decide +kernel
theorem dS_load_29 : decode prog_1_method_3_code 29 = .ok (.astore_n 2, 1) := by decide +kernel
theorem dS_load_30 : decode prog_1_method_3_code 30 = .ok (.aload_n 0, 1) := by decide +kernel
theorem dS_load_31 : decode prog_1_method_3_code 31 = .ok (.getfield 10, 3) := by decide +kernel
theorem dS_load_34 : decode prog_1_method_3_code 34 = .ok (.aload_n 2, 1) := by decide +kernel
theorem dS_load_35 : decode prog_1_method_3_code 35 = .ok (.invokevirtual 50, 3) := by decide +kernel
theorem dS_load_38 : decode prog_1_method_3_code 38 = .ok (.istore_n 3, 1) := by decide +kernel
theorem dS_load_39 : decode prog_1_method_3_code 39 = .ok (.aload_n 0, 1) := by decide +kernel
theorem dS_load_40 : decode prog_1_method_3_code 40 = .ok (.getfield 10, 3) := by decide +kernel
theorem dS_load_43 : decode prog_1_method_3_code 43 = .ok (.getfield 31, 3) := by decide +kernel
theorem dS_load_46 : decode prog_1_method_3_code 46 = .ok (.invokevirtual 44, 3) := by decide +kernel
theorem dS_load_49 : decode prog_1_method_3_code 49 = .ok (.iload_n 3, 1) := by decide +kernel
theorem dS_load_50 : decode prog_1_method_3_code 50 = .ok (.iconst (-1), 1) := by decide +kernel
theorem dS_load_51 : decode prog_1_method_3_code 51 = .ok (.if_icmp .ne 13, 3) := by decide +kernel
theorem dS_load_54 : decode prog_1_method_3_code 54 = .ok (.aload_n 0, 1) := by decide +kernel
theorem dS_load_55 : decode prog_1_method_3_code 55 = .ok (.getfield 19, 3) := by decide +kernel
theorem dS_load_58 : decode prog_1_method_3_code 58 = .ok (.getfield 54, 3) := by decide +kernel
theorem dS_load_61 : decode prog_1_method_3_code 61 = .ok (.iload_n 1, 1) := by decide +kernel
theorem dS_load_62 : decode prog_1_method_3_code 62 = .ok (.aload_n 2, 1) := by decide +kernel
theorem dS_load_63 : decode prog_1_method_3_code 63 = .ok (.aastore, 1) := by decide +kernel
theorem dS_load_64 : decode prog_1_method_3_code 64 = .ok (.iload_n 3, 1) := by decide +kernel
theorem dS_load_65 : decode prog_1_method_3_code 65 = .ok (.ireturn, 1) := by decide +kernel
abbrev rm_S_load (bo : Nat → Nat) : Room := { frames := 9, cells := 807, slots := 2846 + sumB bo 401, locals := 218 }
def f_S_load_b64 (S : hE) (g : Nat → Nat) (N : Nat) (bo : Nat → Nat) (y3 : Int32) (E : hE) (nx : Nat) : Option (Int32 × hE × Nat) := (
  some (y3, E, nx))
set_option maxHeartbeats 4000000 in
set_option maxRecDepth 100000 in
theorem b_S_load_64 {p : Program} {l : Launch} {e : Env} {s : State} {m : MethodId} {args : Array Value} {below : List Frame} {meth : Method} {c : Code} {D : va_G} {kA : Nat → ClassId} {S : hE} {g : Nat → Nat} {n0 : Nat} {N : Nat} {bo : Nat → Nat} {res : Int32 × hE × Nat} (C : hX p s m args c prog_1_method_3_code 4 R_S ws_S_load D kA S g n0) (hr : meth.sig.returnType = (some .int)) (hlk : meth.locks = false) (hnm : meth.name = "load") : ∀ (y3 : Int32) (E : hE) (nx : Nat) (H : Heap) (locs : List Loc) (ls : Array Slot) (cells slots : Nat), hY D kA n0 s E nx H locs → lv_has ls 4 [(3, .int y3)] → cells + 0 ≤ 807 → slots + 0 ≤ 2846 + sumB bo 401 → f_S_load_b64 S g N bo  y3 E nx = some res → W p l e (rm_S_load bo) s m args below meth c H locs cells slots (MQ below (va_Qi (fun r w => r = res.1 ∧ w = res.2) (hJ D kA S g n0) (fun q => n0 ≤ q)) args s 807 (2846 + sumB bo 401) (fun q => n0 ≤ q)) (F0 m 64 ls []) := by
  intro y3 E nx H locs ls cells slots M hl hcb hsb hf
  unfold f_S_load_b64 at hf
  refine lv_iload_n C.x C.b dS_load_64 rfl (lv_at hl 0 rfl) ?_
  cases hf
  exact w_iret C M hr hlk rfl (by omega) (by omega) dS_load_65 rfl rfl
def f_S_load_b9 (S : hE) (g : Nat → Nat) (N : Nat) (bo : Nat → Nat) (y0 : Option Nat) (E : hE) (nx : Nat) : Option (Int32 × hE × Nat) := (
  (gR E y0 6 0).bind fun v10 =>
  (gR E v10 5 0).bind fun v13 =>
  (gO E v13 0).bind fun o16 =>
  (f_Row_makeEmpty o16.1 E).bind fun v16 =>
  some ((-2), v16, nx))
set_option maxHeartbeats 4000000 in
set_option maxRecDepth 100000 in
theorem b_S_load_9 {p : Program} {l : Launch} {e : Env} {s : State} {m : MethodId} {args : Array Value} {below : List Frame} {meth : Method} {c : Code} {D : va_G} {kA : Nat → ClassId} {S : hE} {g : Nat → Nat} {n0 : Nat} {N : Nat} {bo : Nat → Nat} {res : Int32 × hE × Nat} (C : hX p s m args c prog_1_method_3_code 4 R_S ws_S_load D kA S g n0) (hr : meth.sig.returnType = (some .int)) (hlk : meth.locks = false) (hnm : meth.name = "load") : ∀ (y0 : Option Nat) (E : hE) (nx : Nat) (H : Heap) (locs : List Loc) (ls : Array Slot) (cells slots : Nat), hY D kA n0 s E nx H locs → lv_has ls 4 [(0, va_rf y0)] → cells + 0 ≤ 807 → slots + 0 ≤ 2846 + sumB bo 401 → f_S_load_b9 S g N bo  y0 E nx = some res → W p l e (rm_S_load bo) s m args below meth c H locs cells slots (MQ below (va_Qi (fun r w => r = res.1 ∧ w = res.2) (hJ D kA S g n0) (fun q => n0 ≤ q)) args s 807 (2846 + sumB bo 401) (fun q => n0 ≤ q)) (F0 m 9 ls []) := by
  intro y0 E nx H locs ls cells slots M hl hcb hsb hf
  unfold f_S_load_b9 at hf
  refine w_aload_n C.x C.b dS_load_9 rfl (lv_at hl 0 rfl) ?_
  obtain ⟨v10, h10, hf⟩ := Option.bind_eq_some_iff.mp hf
  refine w_getR C M h10 rfl (hm_in in_S) (by decide) (List.mem_cons_of_mem _ wm_182) rfl dS_load_10 ?_
  obtain ⟨v13, h13, hf⟩ := Option.bind_eq_some_iff.mp hf
  refine w_getR C M h13 rfl (hm_in in_Tape) (by decide) (List.mem_cons_of_mem _ wm_59) rfl dS_load_13 ?_
  obtain ⟨o16, g16, hf⟩ := Option.bind_eq_some_iff.mp hf
  obtain ⟨v16, h16, hf⟩ := Option.bind_eq_some_iff.mp hf
  refine w_cv M (w_runV C M g16 rfl (c_Row_makeEmpty h16) (cwV 0 C.ts (hgV wm_211 wm_212 wm_213 wm_3 wm_214) rfl rfl rfl (by decide +kernel) ⟨Nat.le_of_ble_eq_true rfl, Nat.le_of_ble_eq_true rfl⟩) rfl hl.1 rfl (Nat.zero_le _) dS_load_16 ⟨by show _ ≤ 807; omega, by show _ ≤ 2846 + sumB bo 401; omega⟩) (fun H locs M => ?_)
  refine lv_bipush (v := (-2)) C.x C.b dS_load_19 (by decide) ?_
  cases hf
  exact w_iret C M hr hlk rfl (by omega) (by omega) dS_load_21 rfl rfl
def f_S_load (S : hE) (g : Nat → Nat) (N : Nat) (bo : Nat → Nat) (x0 : Nat) (x1 : Int32) (E : hE) (nx : Nat) : Option (Int32 × hE × Nat) := (
  if x1 < 0 then (
  f_S_load_b9 S g N bo (some x0) E nx
  ) else (
  if x1 < 4 then (
  (some (va_up E nx (some (.inr (3, [.null, .null, .int 0]))))).bind fun E22 =>
  (f_Script_init S g N nx E22 (nx + 1)).bind fun v26 =>
  (gR v26.1 (some x0) 6 0).bind fun v31 =>
  (gO v26.1 v31 5).bind fun o35 =>
  (f_Tape_check S g N bo o35.1 (some nx) v26.1 v26.2).bind fun v35 =>
  (gR v35.2.1 (some x0) 6 0).bind fun v40 =>
  (gR v35.2.1 v40 5 0).bind fun v43 =>
  (gO v35.2.1 v43 0).bind fun o46 =>
  (f_Row_makeEmpty o46.1 v35.2.1).bind fun v46 =>
  if v35.1 = (-1) then (
  (gR v46 (some x0) 6 1).bind fun v55 =>
  (gR v46 v55 2 0).bind fun v58 =>
  (tQ v46 v58 5 x1 (some nx) 3).bind fun E63 =>
  f_S_load_b64 S g N bo v35.1 E63 v35.2.2
  ) else (
  f_S_load_b64 S g N bo v35.1 v46 v35.2.2
  )
  ) else (
  f_S_load_b9 S g N bo (some x0) E nx
  )
  ))
set_option maxHeartbeats 4000000 in
set_option maxRecDepth 100000 in
theorem c_S_load {l : Launch} {D : va_G} {kA : Nat → ClassId} {S : hE} {g : Nat → Nat} {n0 nx : Nat} {N : Nat} {bo : Nat → Nat} {x0 : Nat} {x1 : Int32} {E : hE} {res : Int32 × hE × Nat} (hf : f_S_load S g N bo x0 x1 E nx = some res) : Met l y_S_load ws_S_load (rm_S_load bo) (va_Pc [va_rf (some x0), .int x1] (hJ D kA S g n0 (E, nx))) (va_Qi (fun r w => r = res.1 ∧ w = res.2) (hJ D kA S g n0) (fun q => n0 ≤ q)) 807 (2846 + sumB bo 401) (fun q => n0 ≤ q) := by
  refine h_met (cc := prog_1_method_3_code) (maxL := 4) (ret := (some .int)) (lvs := [(0, va_rf (some x0)), (1, .int x1)]) zZ_k (by decide) rfl (by simp [lg_sl, va_rf_cat, cat_i, cat_l, cat_n]) (by simp [lv_args, va_rf_cat, cat_i, cat_l, cat_n]) ?_
  intro p e s m below meth c ls C M hr hlk hnm hl
  unfold f_S_load at hf
  refine lv_iload_n C.x C.b dS_load_0 rfl (lv_at hl 1 rfl) ?_
  refine lv_if_lt (tgt := 9) C.x C.b dS_load_1 (by decide) (fun c1 => ?_) (fun c1 => ?_)
  · rw [if_pos c1] at hf
    exact b_S_load_9 C hr hlk hnm _ _ _ _ _ _ _ _ M (lv_sub hl [0] rfl) (by omega) (by omega) hf
  · rw [if_neg c1] at hf
    refine lv_iload_n C.x C.b dS_load_4 rfl (lv_at hl 1 rfl) ?_
    refine lv_iconst (v := 4) C.x C.b dS_load_5 (by decide) ?_
    refine lv_icmp_lt (tgt := 22) C.x C.b dS_load_6 (by decide) (fun c6 => ?_) (fun c6 => ?_)
    · rw [if_pos c6] at hf
      obtain ⟨E22, h22, hf⟩ := Option.bind_eq_some_iff.mp hf
      have h22 := Option.some.inj h22
      refine w_new (ci := 3) C M (fs := [.null, .null, .int 0]) ty_Script rfl (hm_in in_Script) tyok_Script (List.mem_cons_of_mem _ wm_215) (List.mem_cons_of_mem _ wm_216) (List.mem_cons_of_mem _ wm_7) (fun j hj => by rcases (show j = 0 ∨ j = 1 ∨ j = 2 by omega) with rfl | rfl | rfl <;> rfl) (by show _ ≤ 807; omega) (by show _ ≤ 2846 + sumB bo 401; omega) dS_load_22 (fun H M => ?_)
      rw [h22] at M
      refine lv_dup C.x C.b dS_load_25 (va_rf_cat _) ?_
      obtain ⟨v26, h26, hf⟩ := Option.bind_eq_some_iff.mp hf
      refine w_cv M (w_runI C M (c_Script_init h26) (cwI 0 C.ts (hgC wm_219) rfl rfl rfl (C.ts (.initialized R_Script) (List.mem_cons_of_mem _ wm_7)) (C.ts (.methodLink R_S 49 y_Script_init) (List.mem_cons_of_mem _ wm_217)) (C.ts (.instanceMethod y_Script_init) (List.mem_cons_of_mem _ wm_218)) rfl (by decide +kernel) ⟨Nat.le_of_ble_eq_true rfl, Nat.le_of_ble_eq_true rfl⟩) rfl hl.1 rfl (by simp [va_rf_cat, cat_i, cat_l, cat_n]) dS_load_26 ⟨by show _ ≤ 807; omega, by show _ ≤ 2846 + sumB bo 401; omega⟩) (fun H locs M => ?_)
      refine w_astore_n (lv' := [(2, va_rf (some nx)), (0, va_rf (some x0)), (1, .int x1)]) C.x C.b dS_load_29 rfl hl (by decide) rfl (fun ls hl => ?_)
      refine w_aload_n C.x C.b dS_load_30 rfl (lv_at hl 1 rfl) ?_
      obtain ⟨v31, h31, hf⟩ := Option.bind_eq_some_iff.mp hf
      refine w_getR C M h31 rfl (hm_in in_S) (by decide) (List.mem_cons_of_mem _ wm_182) rfl dS_load_31 ?_
      refine w_aload_n C.x C.b dS_load_34 rfl (lv_at hl 0 rfl) ?_
      obtain ⟨o35, g35, hf⟩ := Option.bind_eq_some_iff.mp hf
      obtain ⟨v35, h35, hf⟩ := Option.bind_eq_some_iff.mp hf
      refine w_ci M (w_runV C M g35 rfl (c_Tape_check h35) (cwV 1 C.ts (hgV wm_262 wm_263 wm_264 wm_2 wm_265) rfl rfl rfl (by decide +kernel) ⟨Nat.le_of_ble_eq_true rfl, Nat.le_of_ble_eq_true rfl⟩) rfl hl.1 rfl (Nat.zero_le _) dS_load_35 ⟨by show _ ≤ 807; omega, by show _ ≤ 2846 + sumB bo 401; omega⟩) (fun H locs M => ?_)
      refine lv_istore_n (lv' := [(3, .int v35.1), (2, va_rf (some nx)), (0, va_rf (some x0)), (1, .int x1)]) C.x C.b dS_load_38 rfl hl (by decide) rfl (fun ls hl => ?_)
      refine w_aload_n C.x C.b dS_load_39 rfl (lv_at hl 2 rfl) ?_
      obtain ⟨v40, h40, hf⟩ := Option.bind_eq_some_iff.mp hf
      refine w_getR C M h40 rfl (hm_in in_S) (by decide) (List.mem_cons_of_mem _ wm_182) rfl dS_load_40 ?_
      obtain ⟨v43, h43, hf⟩ := Option.bind_eq_some_iff.mp hf
      refine w_getR C M h43 rfl (hm_in in_Tape) (by decide) (List.mem_cons_of_mem _ wm_59) rfl dS_load_43 ?_
      obtain ⟨o46, g46, hf⟩ := Option.bind_eq_some_iff.mp hf
      obtain ⟨v46, h46, hf⟩ := Option.bind_eq_some_iff.mp hf
      refine w_cv M (w_runV C M g46 rfl (c_Row_makeEmpty h46) (cwV 0 C.ts (hgV wm_211 wm_212 wm_213 wm_3 wm_214) rfl rfl rfl (by decide +kernel) ⟨Nat.le_of_ble_eq_true rfl, Nat.le_of_ble_eq_true rfl⟩) rfl hl.1 rfl (Nat.zero_le _) dS_load_46 ⟨by show _ ≤ 807; omega, by show _ ≤ 2846 + sumB bo 401; omega⟩) (fun H locs M => ?_)
      refine lv_iload_n C.x C.b dS_load_49 rfl (lv_at hl 0 rfl) ?_
      refine lv_iconst (v := (-1)) C.x C.b dS_load_50 (by decide) ?_
      refine lv_icmp_ne (tgt := 64) C.x C.b dS_load_51 (by decide) (fun c51 => ?_) (fun c51 => ?_)
      · rw [if_neg c51] at hf
        exact b_S_load_64 C hr hlk hnm _ _ _ _ _ _ _ _ M (lv_sub hl [0] rfl) (by omega) (by omega) hf
      · rw [if_pos c51] at hf
        refine w_aload_n C.x C.b dS_load_54 rfl (lv_at hl 2 rfl) ?_
        obtain ⟨v55, h55, hf⟩ := Option.bind_eq_some_iff.mp hf
        refine w_getR C M h55 rfl (hm_in in_S) (by decide) (List.mem_cons_of_mem _ wm_183) rfl dS_load_55 ?_
        obtain ⟨v58, h58, hf⟩ := Option.bind_eq_some_iff.mp hf
        refine w_getR C M h58 rfl (hm_in in_Mach) (by decide) (List.mem_cons_of_mem _ wm_134) rfl dS_load_58 ?_
        refine lv_iload_n C.x C.b dS_load_61 rfl (lv_at hl 3 rfl) ?_
        refine w_aload_n C.x C.b dS_load_62 rfl (lv_at hl 1 rfl) ?_
        obtain ⟨E63, h63, hf⟩ := Option.bind_eq_some_iff.mp hf
        refine w_aast C M h63 rfl rfl vb_asgS dS_load_63 (fun H locs M => ?_)
        exact b_S_load_64 C hr hlk hnm _ _ _ _ _ _ _ _ M (lv_sub hl [0] rfl) (by omega) (by omega) hf
    · rw [if_neg c6] at hf
      exact b_S_load_9 C hr hlk hnm _ _ _ _ _ _ _ _ M (lv_sub hl [0] rfl) (by omega) (by omega) hf
theorem dS_file_0 : decode prog_1_method_4_code 0 = .ok (.aload_n 0, 1) := by decide +kernel
theorem dS_file_1 : decode prog_1_method_4_code 1 = .ok (.getfield 19, 3) := by decide +kernel
theorem dS_file_4 : decode prog_1_method_4_code 4 = .ok (.iload_n 1, 1) := by decide +kernel
theorem dS_file_5 : decode prog_1_method_4_code 5 = .ok (.invokevirtual 58, 3) := by decide +kernel
theorem dS_file_8 : decode prog_1_method_4_code 8 = .ok (.astore 5, 2) := by decide +kernel
theorem dS_file_10 : decode prog_1_method_4_code 10 = .ok (.aload 5, 2) := by decide +kernel
theorem dS_file_12 : decode prog_1_method_4_code 12 = .ok (.ifnull 26, 3) := by decide +kernel
theorem dS_file_15 : decode prog_1_method_4_code 15 = .ok (.iload 4, 2) := by decide +kernel
theorem dS_file_17 : decode prog_1_method_4_code 17 = .ok (.iconst 1, 1) := by decide +kernel
theorem dS_file_18 : decode prog_1_method_4_code 18 = .ok (.if_icmp .lt 20, 3) := by decide +kernel
theorem dS_file_21 : decode prog_1_method_4_code 21 = .ok (.iload 4, 2) := by decide +kernel
theorem dS_file_23 : decode prog_1_method_4_code 23 = .ok (.bipush 8, 2) := by decide +kernel
theorem dS_file_25 : decode prog_1_method_4_code 25 = .ok (.if_icmp .gt 13, 3) := by decide +kernel
theorem dS_file_28 : decode prog_1_method_4_code 28 = .ok (.aload 5, 2) := by decide +kernel
theorem dS_file_30 : decode prog_1_method_4_code 30 = .ok (.iload 4, 2) := by decide +kernel
theorem dS_file_32 : decode prog_1_method_4_code 32 = .ok (.invokevirtual 35, 3) := by decide +kernel
theorem dS_file_35 : decode prog_1_method_4_code 35 = .ok (.ifCond .ne 5, 3) := by decide +kernel
theorem dS_file_38 : decode prog_1_method_4_code 38 = .ok (.iconst 0, 1) := by decide +kernel
theorem dS_file_39 : decode prog_1_method_4_code 39 = .ok (.ireturn, 1) := by decide +kernel
theorem dS_file_40 : decode prog_1_method_4_code 40 = .ok (.iload 4, 2) := by decide +kernel
theorem dS_file_42 : decode prog_1_method_4_code 42 = .ok (.iconst 1, 1) := by decide +kernel
theorem dS_file_43 : decode prog_1_method_4_code 43 = .ok (.isub, 1) := by decide +kernel
theorem dS_file_44 : decode prog_1_method_4_code 44 = .ok (.istore 6, 2) := by decide +kernel
theorem dS_file_46 : decode prog_1_method_4_code 46 = .ok (.iload 6, 2) := by decide +kernel
theorem dS_file_48 : decode prog_1_method_4_code 48 = .ok (.ifCond .lt 20, 3) := by decide +kernel
theorem dS_file_51 : decode prog_1_method_4_code 51 = .ok (.aload 5, 2) := by decide +kernel
theorem dS_file_53 : decode prog_1_method_4_code 53 = .ok (.lload_n 2, 1) := by decide +kernel
theorem dS_file_54 : decode prog_1_method_4_code 54 = .ok (.iload 6, 2) := by decide +kernel
theorem dS_file_56 : decode prog_1_method_4_code 56 = .ok (.invokestatic 23, 3) := by decide +kernel
theorem dS_file_59 : decode prog_1_method_4_code 59 = .ok (.invokevirtual 40, 3) := by decide +kernel
theorem dS_file_62 : decode prog_1_method_4_code 62 = .ok (.iinc 6 (-1), 3) := by decide +kernel
theorem dS_file_65 : decode prog_1_method_4_code 65 = .ok (.goto (-19), 3) := by decide +kernel
theorem dS_file_68 : decode prog_1_method_4_code 68 = .ok (.iconst 1, 1) := by decide +kernel
theorem dS_file_69 : decode prog_1_method_4_code 69 = .ok (.ireturn, 1) := by decide +kernel
abbrev rm_S_file : Room := { frames := 1, cells := 0, slots := 0, locals := 22 }
def f_S_file_b46 (N : Nat) : Nat → Int64 → Option Nat → Int32 → hE → Option (Int32 × hE)
  | 0, _, _, _, _ => none
  | n + 1, y2, y5, y6, E => (
  if y6 < 0 then (
  some (1, E)
  ) else (
  (f_S_byteAt E y2 y6).bind fun v56 =>
  (gO E y5 0).bind fun o59 =>
  (f_Row_add o59.1 v56 E).bind fun v59 =>
  f_S_file_b46 N n y2 y5 (y6 + (-1)) v59
  ))
set_option maxHeartbeats 4000000 in
set_option maxRecDepth 100000 in
theorem b_S_file_46 {p : Program} {l : Launch} {e : Env} {s : State} {m : MethodId} {args : Array Value} {below : List Frame} {meth : Method} {c : Code} {D : va_G} {kA : Nat → ClassId} {S : hE} {g : Nat → Nat} {n0 nx : Nat} {N : Nat} {res : Int32 × hE} (C : hX p s m args c prog_1_method_4_code 7 R_S ws_S_file D kA S g n0) (hr : meth.sig.returnType = (some .boolean)) (hlk : meth.locks = false) (hnm : meth.name = "file") : ∀ n : Nat, ∀ (y2 : Int64) (y5 : Option Nat) (y6 : Int32) (E : hE) (H : Heap) (locs : List Loc) (ls : Array Slot), hY D kA n0 s E nx H locs → lv_has ls 7 [(2, .long y2), (5, va_rf y5), (6, .int y6)] → f_S_file_b46 N n y2 y5 y6 E = some res → W p l e rm_S_file s m args below meth c H locs 0 0 (MQ below (va_Qi (fun r w => r = res.1 ∧ w = (res.2, nx)) (hJ D kA S g n0) (fun q => n0 ≤ q)) args s 0 0 (fun q => n0 ≤ q)) (F0 m 46 ls []) := by
  intro n
  induction n with
  | zero =>
    intro y2 y5 y6 E H locs ls M hl hf
    simp [f_S_file_b46] at hf
  | succ n ih =>
    intro y2 y5 y6 E H locs ls M hl hf
    rw [f_S_file_b46] at hf
    refine lv_iload C.x C.b dS_file_46 (lv_at hl 2 rfl) ?_
    refine lv_if_lt (tgt := 68) C.x C.b dS_file_48 (by decide) (fun c48 => ?_) (fun c48 => ?_)
    · rw [if_pos c48] at hf
      refine lv_iconst (v := 1) C.x C.b dS_file_68 (by decide) ?_
      cases hf
      exact w_iret C M hr hlk rfl (Nat.le_refl _) (Nat.le_refl _) dS_file_69 rfl rfl
    · rw [if_neg c48] at hf
      refine w_aload C.x C.b dS_file_51 (lv_at hl 1 rfl) ?_
      refine lv_lload_n C.x C.b dS_file_53 rfl (lv_at hl 0 rfl) ?_
      refine lv_iload C.x C.b dS_file_54 (lv_at hl 2 rfl) ?_
      obtain ⟨v56, h56, hf⟩ := Option.bind_eq_some_iff.mp hf
      refine w_ci M (w_runS C M (c_S_byteAt h56) (cwS 2 C.ts (hgS wm_193 wm_194 wm_1 wm_195) rfl rfl rfl (by decide +kernel) ⟨Nat.le_of_ble_eq_true rfl, Nat.le_of_ble_eq_true rfl⟩) rfl hl.1 rfl (by simp [va_rf_cat, cat_i, cat_l, cat_n]) dS_file_56 ⟨Nat.le_refl _, Nat.le_refl _⟩) (fun H locs M => ?_)
      obtain ⟨o59, g59, hf⟩ := Option.bind_eq_some_iff.mp hf
      obtain ⟨v59, h59, hf⟩ := Option.bind_eq_some_iff.mp hf
      refine w_cv M (w_runV C M g59 rfl (c_Row_add h59) (cwV 1 C.ts (hgV wm_203 wm_204 wm_205 wm_3 wm_206) rfl rfl rfl (by decide +kernel) ⟨Nat.le_of_ble_eq_true rfl, Nat.le_of_ble_eq_true rfl⟩) rfl hl.1 rfl (Nat.zero_le _) dS_file_59 ⟨Nat.le_refl _, Nat.le_refl _⟩) (fun H locs M => ?_)
      refine lv_iinc (v := y6 + (-1)) (lv' := [(6, .int (y6 + (-1))), (2, .long y2), (5, va_rf y5)]) C.x C.b dS_file_62 hl (k := 2) rfl rfl (by decide) (by simp only [List.filter, va_rf_cat] <;> rfl) (fun ls hl => ?_)
      refine lv_goto (tgt := 46) C.x C.b dS_file_65 (by decide) ?_
      exact ih _ _ _ _ _ _ _ M (lv_sub hl [1, 2, 0] rfl) hf
def f_S_file_b38 (N : Nat) (E : hE) : Option (Int32 × hE) := (
  some (0, E))
set_option maxHeartbeats 4000000 in
set_option maxRecDepth 100000 in
theorem b_S_file_38 {p : Program} {l : Launch} {e : Env} {s : State} {m : MethodId} {args : Array Value} {below : List Frame} {meth : Method} {c : Code} {D : va_G} {kA : Nat → ClassId} {S : hE} {g : Nat → Nat} {n0 nx : Nat} {N : Nat} {res : Int32 × hE} (C : hX p s m args c prog_1_method_4_code 7 R_S ws_S_file D kA S g n0) (hr : meth.sig.returnType = (some .boolean)) (hlk : meth.locks = false) (hnm : meth.name = "file") : ∀  (E : hE) (H : Heap) (locs : List Loc) (ls : Array Slot), hY D kA n0 s E nx H locs → lv_has ls 7 [] → f_S_file_b38 N  E = some res → W p l e rm_S_file s m args below meth c H locs 0 0 (MQ below (va_Qi (fun r w => r = res.1 ∧ w = (res.2, nx)) (hJ D kA S g n0) (fun q => n0 ≤ q)) args s 0 0 (fun q => n0 ≤ q)) (F0 m 38 ls []) := by
  intro E H locs ls M hl hf
  unfold f_S_file_b38 at hf
  refine lv_iconst (v := 0) C.x C.b dS_file_38 (by decide) ?_
  cases hf
  exact w_iret C M hr hlk rfl (Nat.le_refl _) (Nat.le_refl _) dS_file_39 rfl rfl
def f_S_file (N : Nat) (x0 : Nat) (x1 : Int32) (x2 : Int64) (x4 : Int32) (E : hE) : Option (Int32 × hE) := (
  (gR E (some x0) 6 1).bind fun v1 =>
  (gO E v1 2).bind fun o5 =>
  (f_Mach_fileAt E o5.1 x1).bind fun v5 =>
  if v5 = none then (
  f_S_file_b38 N E
  ) else (
  if x4 < 1 then (
  f_S_file_b38 N E
  ) else (
  if 8 < x4 then (
  f_S_file_b38 N E
  ) else (
  (gO E v5 0).bind fun o32 =>
  (f_Row_hasRoomFor E o32.1 x4).bind fun v32 =>
  if v32 = 0 then (
  f_S_file_b38 N E
  ) else (
  f_S_file_b46 N N x2 v5 (x4 - 1) E
  )
  )
  )
  ))
set_option maxHeartbeats 4000000 in
set_option maxRecDepth 100000 in
theorem c_S_file {l : Launch} {D : va_G} {kA : Nat → ClassId} {S : hE} {g : Nat → Nat} {n0 nx : Nat} {N : Nat} {x0 : Nat} {x1 : Int32} {x2 : Int64} {x4 : Int32} {E : hE} {res : Int32 × hE} (hf : f_S_file N x0 x1 x2 x4 E = some res) : Met l y_S_file ws_S_file rm_S_file (va_Pc [va_rf (some x0), .int x1, .long x2, .int x4] (hJ D kA S g n0 (E, nx))) (va_Qi (fun r w => r = res.1 ∧ w = (res.2, nx)) (hJ D kA S g n0) (fun q => n0 ≤ q)) 0 0 (fun q => n0 ≤ q) := by
  refine h_met (cc := prog_1_method_4_code) (maxL := 7) (ret := (some .boolean)) (lvs := [(0, va_rf (some x0)), (1, .int x1), (2, .long x2), (4, .int x4)]) zZ_k (by decide) rfl (by simp [lg_sl, va_rf_cat, cat_i, cat_l, cat_n]) (by simp [lv_args, va_rf_cat, cat_i, cat_l, cat_n]) ?_
  intro p e s m below meth c ls C M hr hlk hnm hl
  unfold f_S_file at hf
  refine w_aload_n C.x C.b dS_file_0 rfl (lv_at hl 0 rfl) ?_
  obtain ⟨v1, h1, hf⟩ := Option.bind_eq_some_iff.mp hf
  refine w_getR C M h1 rfl (hm_in in_S) (by decide) (List.mem_cons_of_mem _ wm_183) rfl dS_file_1 ?_
  refine lv_iload_n C.x C.b dS_file_4 rfl (lv_at hl 1 rfl) ?_
  obtain ⟨o5, g5, hf⟩ := Option.bind_eq_some_iff.mp hf
  obtain ⟨v5, h5, hf⟩ := Option.bind_eq_some_iff.mp hf
  refine w_cq M (w_runV C M g5 rfl (c_Mach_fileAt h5) (cwV 1 C.ts (hgV wm_553 wm_554 wm_555 wm_4 wm_556) rfl rfl rfl (by decide +kernel) ⟨Nat.le_of_ble_eq_true rfl, Nat.le_of_ble_eq_true rfl⟩) rfl hl.1 rfl (Nat.zero_le _) dS_file_5 ⟨Nat.le_refl _, Nat.le_refl _⟩) (fun H locs M => ?_)
  refine w_astore (lv' := [(5, va_rf v5), (0, va_rf (some x0)), (1, .int x1), (2, .long x2), (4, .int x4)]) C.x C.b dS_file_8 hl (by decide) rfl (fun ls hl => ?_)
  refine w_aload C.x C.b dS_file_10 (lv_at hl 0 rfl) ?_
  refine w_ifnull (tgt := 38) C.x C.b dS_file_12 (by decide) (fun c12 => ?_) (fun c12 => ?_)
  · rw [if_pos c12] at hf
    exact b_S_file_38 C hr hlk hnm _ _ _ _ M (lv_sub hl [] rfl) hf
  · rw [if_neg c12] at hf
    refine lv_iload C.x C.b dS_file_15 (lv_at hl 4 rfl) ?_
    refine lv_iconst (v := 1) C.x C.b dS_file_17 (by decide) ?_
    refine lv_icmp_lt (tgt := 38) C.x C.b dS_file_18 (by decide) (fun c18 => ?_) (fun c18 => ?_)
    · rw [if_pos c18] at hf
      exact b_S_file_38 C hr hlk hnm _ _ _ _ M (lv_sub hl [] rfl) hf
    · rw [if_neg c18] at hf
      refine lv_iload C.x C.b dS_file_21 (lv_at hl 4 rfl) ?_
      refine lv_bipush (v := 8) C.x C.b dS_file_23 (by decide) ?_
      refine lv_icmp_gt (tgt := 38) C.x C.b dS_file_25 (by decide) (fun c25 => ?_) (fun c25 => ?_)
      · rw [if_pos c25] at hf
        exact b_S_file_38 C hr hlk hnm _ _ _ _ M (lv_sub hl [] rfl) hf
      · rw [if_neg c25] at hf
        refine w_aload C.x C.b dS_file_28 (lv_at hl 0 rfl) ?_
        refine lv_iload C.x C.b dS_file_30 (lv_at hl 4 rfl) ?_
        obtain ⟨o32, g32, hf⟩ := Option.bind_eq_some_iff.mp hf
        obtain ⟨v32, h32, hf⟩ := Option.bind_eq_some_iff.mp hf
        refine w_ci M (w_runV C M g32 rfl (c_Row_hasRoomFor h32) (cwV 1 C.ts (hgV wm_199 wm_200 wm_201 wm_3 wm_202) rfl rfl rfl (by decide +kernel) ⟨Nat.le_of_ble_eq_true rfl, Nat.le_of_ble_eq_true rfl⟩) rfl hl.1 rfl (Nat.zero_le _) dS_file_32 ⟨Nat.le_refl _, Nat.le_refl _⟩) (fun H locs M => ?_)
        refine lv_if_ne (tgt := 40) C.x C.b dS_file_35 (by decide) (fun c35 => ?_) (fun c35 => ?_)
        · rw [if_neg c35] at hf
          refine lv_iload C.x C.b dS_file_40 (lv_at hl 4 rfl) ?_
          refine lv_iconst (v := 1) C.x C.b dS_file_42 (by decide) ?_
          refine lv_isub C.x C.b dS_file_43 ?_
          refine lv_istore (lv' := [(6, .int (x4 - 1)), (5, va_rf v5), (0, va_rf (some x0)), (1, .int x1), (2, .long x2), (4, .int x4)]) C.x C.b dS_file_44 hl (by decide) (by simp only [List.filter, va_rf_cat] <;> rfl) (fun ls hl => ?_)
          exact b_S_file_46 C hr hlk hnm N _ _ _ _ _ _ _ M (lv_sub hl [4, 1, 0] rfl) hf
        · rw [if_pos c35] at hf
          exact b_S_file_38 C hr hlk hnm _ _ _ _ M (lv_sub hl [] rfl) hf
theorem dS_clear_0 : decode prog_1_method_5_code 0 = .ok (.aload_n 0, 1) := by decide +kernel
theorem dS_clear_1 : decode prog_1_method_5_code 1 = .ok (.getfield 19, 3) := by decide +kernel
theorem dS_clear_4 : decode prog_1_method_5_code 4 = .ok (.iload_n 1, 1) := by decide +kernel
theorem dS_clear_5 : decode prog_1_method_5_code 5 = .ok (.invokevirtual 58, 3) := by decide +kernel
theorem dS_clear_8 : decode prog_1_method_5_code 8 = .ok (.astore_n 3, 1) := by decide +kernel
theorem dS_clear_9 : decode prog_1_method_5_code 9 = .ok (.aload_n 3, 1) := by decide +kernel
theorem dS_clear_10 : decode prog_1_method_5_code 10 = .ok (.ifnonnull 5, 3) := by decide +kernel
theorem dS_clear_13 : decode prog_1_method_5_code 13 = .ok (.iconst 0, 1) := by decide +kernel
theorem dS_clear_14 : decode prog_1_method_5_code 14 = .ok (.ireturn, 1) := by decide +kernel
theorem dS_clear_15 : decode prog_1_method_5_code 15 = .ok (.iload_n 2, 1) := by decide +kernel
theorem dS_clear_16 : decode prog_1_method_5_code 16 = .ok (.ifCond .eq 10, 3) := by decide +kernel
theorem dS_clear_19 : decode prog_1_method_5_code 19 = .ok (.aload_n 3, 1) := by decide +kernel
theorem dS_clear_20 : decode prog_1_method_5_code 20 = .ok (.invokevirtual 44, 3) := by decide +kernel
theorem dS_clear_23 : decode prog_1_method_5_code 23 = .ok (.goto 7, 3) := by decide +kernel
theorem dS_clear_26 : decode prog_1_method_5_code 26 = .ok (.aload_n 3, 1) := by decide +kernel
theorem dS_clear_27 : decode prog_1_method_5_code 27 = .ok (.invokevirtual 62, 3) := by decide +kernel
theorem dS_clear_30 : decode prog_1_method_5_code 30 = .ok (.iconst 1, 1) := by decide +kernel
theorem dS_clear_31 : decode prog_1_method_5_code 31 = .ok (.ireturn, 1) := by decide +kernel
abbrev rm_S_clear : Room := { frames := 1, cells := 0, slots := 0, locals := 21 }
def f_S_clear_b30  (E : hE) : Option (Int32 × hE) := (
  some (1, E))
set_option maxHeartbeats 4000000 in
set_option maxRecDepth 100000 in
theorem b_S_clear_30 {p : Program} {l : Launch} {e : Env} {s : State} {m : MethodId} {args : Array Value} {below : List Frame} {meth : Method} {c : Code} {D : va_G} {kA : Nat → ClassId} {S : hE} {g : Nat → Nat} {n0 nx : Nat} {res : Int32 × hE} (C : hX p s m args c prog_1_method_5_code 4 R_S ws_S_clear D kA S g n0) (hr : meth.sig.returnType = (some .boolean)) (hlk : meth.locks = false) (hnm : meth.name = "clear") : ∀  (E : hE) (H : Heap) (locs : List Loc) (ls : Array Slot), hY D kA n0 s E nx H locs → lv_has ls 4 [] → f_S_clear_b30  E = some res → W p l e rm_S_clear s m args below meth c H locs 0 0 (MQ below (va_Qi (fun r w => r = res.1 ∧ w = (res.2, nx)) (hJ D kA S g n0) (fun q => n0 ≤ q)) args s 0 0 (fun q => n0 ≤ q)) (F0 m 30 ls []) := by
  intro E H locs ls M hl hf
  unfold f_S_clear_b30 at hf
  refine lv_iconst (v := 1) C.x C.b dS_clear_30 (by decide) ?_
  cases hf
  exact w_iret C M hr hlk rfl (Nat.le_refl _) (Nat.le_refl _) dS_clear_31 rfl rfl
def f_S_clear  (x0 : Nat) (x1 : Int32) (x2 : Int32) (E : hE) : Option (Int32 × hE) := (
  (gR E (some x0) 6 1).bind fun v1 =>
  (gO E v1 2).bind fun o5 =>
  (f_Mach_fileAt E o5.1 x1).bind fun v5 =>
  if v5 = none then (
  some (0, E)
  ) else (
  if x2 = 0 then (
  (gO E v5 0).bind fun o27 =>
  (f_Row_remove o27.1 E).bind fun v27 =>
  f_S_clear_b30 v27
  ) else (
  (gO E v5 0).bind fun o20 =>
  (f_Row_makeEmpty o20.1 E).bind fun v20 =>
  f_S_clear_b30 v20
  )
  ))
set_option maxHeartbeats 4000000 in
set_option maxRecDepth 100000 in
theorem c_S_clear {l : Launch} {D : va_G} {kA : Nat → ClassId} {S : hE} {g : Nat → Nat} {n0 nx : Nat} {x0 : Nat} {x1 : Int32} {x2 : Int32} {E : hE} {res : Int32 × hE} (hf : f_S_clear x0 x1 x2 E = some res) : Met l y_S_clear ws_S_clear rm_S_clear (va_Pc [va_rf (some x0), .int x1, .int x2] (hJ D kA S g n0 (E, nx))) (va_Qi (fun r w => r = res.1 ∧ w = (res.2, nx)) (hJ D kA S g n0) (fun q => n0 ≤ q)) 0 0 (fun q => n0 ≤ q) := by
  refine h_met (cc := prog_1_method_5_code) (maxL := 4) (ret := (some .boolean)) (lvs := [(0, va_rf (some x0)), (1, .int x1), (2, .int x2)]) zZ_k (by decide) rfl (by simp [lg_sl, va_rf_cat, cat_i, cat_l, cat_n]) (by simp [lv_args, va_rf_cat, cat_i, cat_l, cat_n]) ?_
  intro p e s m below meth c ls C M hr hlk hnm hl
  unfold f_S_clear at hf
  refine w_aload_n C.x C.b dS_clear_0 rfl (lv_at hl 0 rfl) ?_
  obtain ⟨v1, h1, hf⟩ := Option.bind_eq_some_iff.mp hf
  refine w_getR C M h1 rfl (hm_in in_S) (by decide) (List.mem_cons_of_mem _ wm_183) rfl dS_clear_1 ?_
  refine lv_iload_n C.x C.b dS_clear_4 rfl (lv_at hl 1 rfl) ?_
  obtain ⟨o5, g5, hf⟩ := Option.bind_eq_some_iff.mp hf
  obtain ⟨v5, h5, hf⟩ := Option.bind_eq_some_iff.mp hf
  refine w_cq M (w_runV C M g5 rfl (c_Mach_fileAt h5) (cwV 1 C.ts (hgV wm_553 wm_554 wm_555 wm_4 wm_556) rfl rfl rfl (by decide +kernel) ⟨Nat.le_of_ble_eq_true rfl, Nat.le_of_ble_eq_true rfl⟩) rfl hl.1 rfl (Nat.zero_le _) dS_clear_5 ⟨Nat.le_refl _, Nat.le_refl _⟩) (fun H locs M => ?_)
  refine w_astore_n (lv' := [(3, va_rf v5), (0, va_rf (some x0)), (1, .int x1), (2, .int x2)]) C.x C.b dS_clear_8 rfl hl (by decide) rfl (fun ls hl => ?_)
  refine w_aload_n C.x C.b dS_clear_9 rfl (lv_at hl 0 rfl) ?_
  refine w_ifnonnull (tgt := 15) C.x C.b dS_clear_10 (by decide) (fun c10 => ?_) (fun c10 => ?_)
  · rw [if_neg c10] at hf
    refine lv_iload_n C.x C.b dS_clear_15 rfl (lv_at hl 3 rfl) ?_
    refine lv_if_eq (tgt := 26) C.x C.b dS_clear_16 (by decide) (fun c16 => ?_) (fun c16 => ?_)
    · rw [if_pos c16] at hf
      refine w_aload_n C.x C.b dS_clear_26 rfl (lv_at hl 0 rfl) ?_
      obtain ⟨o27, g27, hf⟩ := Option.bind_eq_some_iff.mp hf
      obtain ⟨v27, h27, hf⟩ := Option.bind_eq_some_iff.mp hf
      refine w_cv M (w_runV C M g27 rfl (c_Row_remove h27) (cwV 0 C.ts (hgV wm_561 wm_562 wm_563 wm_3 wm_564) rfl rfl rfl (by decide +kernel) ⟨Nat.le_of_ble_eq_true rfl, Nat.le_of_ble_eq_true rfl⟩) rfl hl.1 rfl (Nat.zero_le _) dS_clear_27 ⟨Nat.le_refl _, Nat.le_refl _⟩) (fun H locs M => ?_)
      exact b_S_clear_30 C hr hlk hnm _ _ _ _ M (lv_sub hl [] rfl) hf
    · rw [if_neg c16] at hf
      refine w_aload_n C.x C.b dS_clear_19 rfl (lv_at hl 0 rfl) ?_
      obtain ⟨o20, g20, hf⟩ := Option.bind_eq_some_iff.mp hf
      obtain ⟨v20, h20, hf⟩ := Option.bind_eq_some_iff.mp hf
      refine w_cv M (w_runV C M g20 rfl (c_Row_makeEmpty h20) (cwV 0 C.ts (hgV wm_211 wm_212 wm_213 wm_3 wm_214) rfl rfl rfl (by decide +kernel) ⟨Nat.le_of_ble_eq_true rfl, Nat.le_of_ble_eq_true rfl⟩) rfl hl.1 rfl (Nat.zero_le _) dS_clear_20 ⟨Nat.le_refl _, Nat.le_refl _⟩) (fun H locs M => ?_)
      refine lv_goto (tgt := 30) C.x C.b dS_clear_23 (by decide) ?_
      exact b_S_clear_30 C hr hlk hnm _ _ _ _ M (lv_sub hl [] rfl) hf
  · rw [if_pos c10] at hf
    refine lv_iconst (v := 0) C.x C.b dS_clear_13 (by decide) ?_
    cases hf
    exact w_iret C M hr hlk rfl (Nat.le_refl _) (Nat.le_refl _) dS_clear_14 rfl rfl
theorem dS_plant_0 : decode prog_1_method_6_code 0 = .ok (.iload_n 1, 1) := by decide +kernel
theorem dS_plant_1 : decode prog_1_method_6_code 1 = .ok (.ifCond .lt 8, 3) := by decide +kernel
theorem dS_plant_4 : decode prog_1_method_6_code 4 = .ok (.iload_n 1, 1) := by decide +kernel
theorem dS_plant_5 : decode prog_1_method_6_code 5 = .ok (.iconst 3, 1) := by decide +kernel
theorem dS_plant_6 : decode prog_1_method_6_code 6 = .ok (.if_icmp .lt 5, 3) := by decide +kernel
theorem dS_plant_9 : decode prog_1_method_6_code 9 = .ok (.iconst 0, 1) := by decide +kernel
theorem dS_plant_10 : decode prog_1_method_6_code 10 = .ok (.ireturn, 1) := by decide +kernel
theorem dS_plant_11 : decode prog_1_method_6_code 11 = .ok (.aload_n 0, 1) := by decide +kernel
theorem dS_plant_12 : decode prog_1_method_6_code 12 = .ok (.getfield 19, 3) := by decide +kernel
theorem dS_plant_15 : decode prog_1_method_6_code 15 = .ok (.getfield 65, 3) := by decide +kernel
theorem dS_plant_18 : decode prog_1_method_6_code 18 = .ok (.iload_n 1, 1) := by decide +kernel
theorem dS_plant_19 : decode prog_1_method_6_code 19 = .ok (.iload_n 2, 1) := by decide +kernel
theorem dS_plant_20 : decode prog_1_method_6_code 20 = .ok (.bastore, 1) := by decide +kernel
theorem dS_plant_21 : decode prog_1_method_6_code 21 = .ok (.iconst 1, 1) := by decide +kernel
theorem dS_plant_22 : decode prog_1_method_6_code 22 = .ok (.ireturn, 1) := by decide +kernel
abbrev rm_S_plant : Room := { frames := 0, cells := 0, slots := 0, locals := 0 }
def f_S_plant_b9  (E : hE) : Option (Int32 × hE) := (
  some (0, E))
set_option maxHeartbeats 4000000 in
set_option maxRecDepth 100000 in
theorem b_S_plant_9 {p : Program} {l : Launch} {e : Env} {s : State} {m : MethodId} {args : Array Value} {below : List Frame} {meth : Method} {c : Code} {D : va_G} {kA : Nat → ClassId} {S : hE} {g : Nat → Nat} {n0 nx : Nat} {res : Int32 × hE} (C : hX p s m args c prog_1_method_6_code 3 R_S ws_S_plant D kA S g n0) (hr : meth.sig.returnType = (some .boolean)) (hlk : meth.locks = false) (hnm : meth.name = "plant") : ∀  (E : hE) (H : Heap) (locs : List Loc) (ls : Array Slot), hY D kA n0 s E nx H locs → lv_has ls 3 [] → f_S_plant_b9  E = some res → W p l e rm_S_plant s m args below meth c H locs 0 0 (MQ below (va_Qi (fun r w => r = res.1 ∧ w = (res.2, nx)) (hJ D kA S g n0) (fun q => n0 ≤ q)) args s 0 0 (fun q => n0 ≤ q)) (F0 m 9 ls []) := by
  intro E H locs ls M hl hf
  unfold f_S_plant_b9 at hf
  refine lv_iconst (v := 0) C.x C.b dS_plant_9 (by decide) ?_
  cases hf
  exact w_iret C M hr hlk rfl (Nat.le_refl _) (Nat.le_refl _) dS_plant_10 rfl rfl
def f_S_plant  (x0 : Nat) (x1 : Int32) (x2 : Int32) (E : hE) : Option (Int32 × hE) := (
  if x1 < 0 then (
  f_S_plant_b9 E
  ) else (
  if x1 < 3 then (
  (gR E (some x0) 6 1).bind fun v12 =>
  (gR E v12 2 1).bind fun v15 =>
  (tZ E v15 1 x1 x2).bind fun E20 =>
  some (1, E20)
  ) else (
  f_S_plant_b9 E
  )
  ))
set_option maxHeartbeats 4000000 in
set_option maxRecDepth 100000 in
theorem c_S_plant {l : Launch} {D : va_G} {kA : Nat → ClassId} {S : hE} {g : Nat → Nat} {n0 nx : Nat} {x0 : Nat} {x1 : Int32} {x2 : Int32} {E : hE} {res : Int32 × hE} (hf : f_S_plant x0 x1 x2 E = some res) : Met l y_S_plant ws_S_plant rm_S_plant (va_Pc [va_rf (some x0), .int x1, .int x2] (hJ D kA S g n0 (E, nx))) (va_Qi (fun r w => r = res.1 ∧ w = (res.2, nx)) (hJ D kA S g n0) (fun q => n0 ≤ q)) 0 0 (fun q => n0 ≤ q) := by
  refine h_met (cc := prog_1_method_6_code) (maxL := 3) (ret := (some .boolean)) (lvs := [(0, va_rf (some x0)), (1, .int x1), (2, .int x2)]) zZ_k (by decide) rfl (by simp [lg_sl, va_rf_cat, cat_i, cat_l, cat_n]) (by simp [lv_args, va_rf_cat, cat_i, cat_l, cat_n]) ?_
  intro p e s m below meth c ls C M hr hlk hnm hl
  unfold f_S_plant at hf
  refine lv_iload_n C.x C.b dS_plant_0 rfl (lv_at hl 1 rfl) ?_
  refine lv_if_lt (tgt := 9) C.x C.b dS_plant_1 (by decide) (fun c1 => ?_) (fun c1 => ?_)
  · rw [if_pos c1] at hf
    exact b_S_plant_9 C hr hlk hnm _ _ _ _ M (lv_sub hl [] rfl) hf
  · rw [if_neg c1] at hf
    refine lv_iload_n C.x C.b dS_plant_4 rfl (lv_at hl 1 rfl) ?_
    refine lv_iconst (v := 3) C.x C.b dS_plant_5 (by decide) ?_
    refine lv_icmp_lt (tgt := 11) C.x C.b dS_plant_6 (by decide) (fun c6 => ?_) (fun c6 => ?_)
    · rw [if_pos c6] at hf
      refine w_aload_n C.x C.b dS_plant_11 rfl (lv_at hl 0 rfl) ?_
      obtain ⟨v12, h12, hf⟩ := Option.bind_eq_some_iff.mp hf
      refine w_getR C M h12 rfl (hm_in in_S) (by decide) (List.mem_cons_of_mem _ wm_183) rfl dS_plant_12 ?_
      obtain ⟨v15, h15, hf⟩ := Option.bind_eq_some_iff.mp hf
      refine w_getR C M h15 rfl (hm_in in_Mach) (by decide) (List.mem_cons_of_mem _ wm_136) rfl dS_plant_15 ?_
      refine lv_iload_n C.x C.b dS_plant_18 rfl (lv_at hl 1 rfl) ?_
      refine lv_iload_n C.x C.b dS_plant_19 rfl (lv_at hl 2 rfl) ?_
      obtain ⟨E20, h20, hf⟩ := Option.bind_eq_some_iff.mp hf
      refine w_zast C M h20 rfl dS_plant_20 (fun H locs M => ?_)
      refine lv_iconst (v := 1) C.x C.b dS_plant_21 (by decide) ?_
      cases hf
      exact w_iret C M hr hlk rfl (Nat.le_refl _) (Nat.le_refl _) dS_plant_22 rfl rfl
    · rw [if_neg c6] at hf
      exact b_S_plant_9 C hr hlk hnm _ _ _ _ M (lv_sub hl [] rfl) hf
theorem dS_run_0 : decode prog_1_method_7_code 0 = .ok (.aload_n 0, 1) := by decide +kernel
theorem dS_run_1 : decode prog_1_method_7_code 1 = .ok (.getfield 19, 3) := by decide +kernel
theorem dS_run_4 : decode prog_1_method_7_code 4 = .ok (.iload_n 1, 1) := by decide +kernel
theorem dS_run_5 : decode prog_1_method_7_code 5 = .ok (.invokevirtual 69, 3) := by decide +kernel
theorem dS_run_8 : decode prog_1_method_7_code 8 = .ok (.astore 4, 2) := by decide +kernel
theorem dS_run_10 : decode prog_1_method_7_code 10 = .ok (.aload 4, 2) := by decide +kernel
theorem dS_run_12 : decode prog_1_method_7_code 12 = .ok (.ifnull 15, 3) := by decide +kernel
theorem dS_run_15 : decode prog_1_method_7_code 15 = .ok (.iload_n 3, 1) := by decide +kernel
theorem dS_run_16 : decode prog_1_method_7_code 16 = .ok (.iconst 1, 1) := by decide +kernel
theorem dS_run_17 : decode prog_1_method_7_code 17 = .ok (.if_icmp .lt 10, 3) := by decide +kernel
theorem dS_run_20 : decode prog_1_method_7_code 20 = .ok (.iload_n 3, 1) := by decide +kernel
theorem dS_run_21 : decode prog_1_method_7_code 21 = .ok (.sipush 2000, 3) := by decide +kernel
theorem dS_run_24 : decode prog_1_method_7_code 24 = .ok (.if_icmp .le 5, 3) := by decide +kernel
theorem dS_run_27 : decode prog_1_method_7_code 27 = .ok (.iconst (-1), 1) := by decide +kernel
theorem dS_run_28 : decode prog_1_method_7_code 28 = .ok (.ireturn, 1) := by decide +kernel
theorem dS_run_29 : decode prog_1_method_7_code 29 = .ok (.aload_n 0, 1) := by decide +kernel
theorem dS_run_30 : decode prog_1_method_7_code 30 = .ok (.getfield 19, 3) := by decide +kernel
theorem dS_run_33 : decode prog_1_method_7_code 33 = .ok (.aload 4, 2) := by decide +kernel
theorem dS_run_35 : decode prog_1_method_7_code 35 = .ok (.iload_n 2, 1) := by decide +kernel
theorem dS_run_36 : decode prog_1_method_7_code 36 = .ok (.iload_n 3, 1) := by decide +kernel
theorem dS_run_37 : decode prog_1_method_7_code 37 = .ok (.invokevirtual 73, 3) := by decide +kernel
theorem dS_run_40 : decode prog_1_method_7_code 40 = .ok (.ireturn, 1) := by decide +kernel
abbrev rm_S_run (fr lo : Nat) : Room := { frames := fr + 2, cells := 0, slots := 0, locals := lo + 49 }
def f_S_run_b27 (N : Nat) (fol : Nat → Option Nat → Option Nat → Int32 → hE → Option (Int32 × hE)) (E : hE) : Option (Int32 × hE) := (
  some ((-1), E))
set_option maxHeartbeats 4000000 in
set_option maxRecDepth 100000 in
theorem b_S_run_27 {p : Program} {l : Launch} {e : Env} {s : State} {m : MethodId} {args : Array Value} {below : List Frame} {meth : Method} {c : Code} {D : va_G} {kA : Nat → ClassId} {S : hE} {g : Nat → Nat} {n0 nx : Nat} {N : Nat} {fr lo : Nat} {res : Int32 × hE} (C : hX p s m args c prog_1_method_7_code 5 R_S ws_S_run D kA S g n0) (hr : meth.sig.returnType = (some .int)) (hlk : meth.locks = false) (hnm : meth.name = "run") (fol : Nat → Option Nat → Option Nat → Int32 → hE → Option (Int32 × hE)) (hfol : ∀ {x0 : Nat} {x1 x2 : Option Nat} {x3 : Int32} {E : hE} {res : Int32 × hE}, fol x0 x1 x2 x3 E = some res → Met l y_Mach_follow ws_Mach_follow { frames := fr, cells := 0, slots := 0, locals := lo } (va_Pc [va_rf (some x0), va_rf x1, va_rf x2, .int x3] (hJ D kA S g n0 (E, nx))) (va_Qi (fun r w => r = res.1 ∧ w = (res.2, nx)) (hJ D kA S g n0) (fun q => n0 ≤ q)) 0 0 (fun q => n0 ≤ q)) : ∀  (E : hE) (H : Heap) (locs : List Loc) (ls : Array Slot), hY D kA n0 s E nx H locs → lv_has ls 5 [] → f_S_run_b27 N fol  E = some res → W p l e (rm_S_run fr lo) s m args below meth c H locs 0 0 (MQ below (va_Qi (fun r w => r = res.1 ∧ w = (res.2, nx)) (hJ D kA S g n0) (fun q => n0 ≤ q)) args s 0 0 (fun q => n0 ≤ q)) (F0 m 27 ls []) := by
  intro E H locs ls M hl hf
  unfold f_S_run_b27 at hf
  refine lv_iconst (v := (-1)) C.x C.b dS_run_27 (by decide) ?_
  cases hf
  exact w_iret C M hr hlk rfl (Nat.le_refl _) (Nat.le_refl _) dS_run_28 rfl rfl
def f_S_run (N : Nat) (fol : Nat → Option Nat → Option Nat → Int32 → hE → Option (Int32 × hE)) (x0 : Nat) (x1 : Int32) (x2 : Int32) (x3 : Int32) (E : hE) : Option (Int32 × hE) := (
  (gR E (some x0) 6 1).bind fun v1 =>
  (gO E v1 2).bind fun o5 =>
  (f_Mach_scriptAt E o5.1 x1).bind fun v5 =>
  if v5 = none then (
  f_S_run_b27 N fol E
  ) else (
  if x3 < 1 then (
  f_S_run_b27 N fol E
  ) else (
  if x3 ≤ 2000 then (
  (gR E (some x0) 6 1).bind fun v30 =>
  (gO E v30 2).bind fun o37 =>
  (f_Mach_start N fol o37.1 v5 x2 x3 E).bind fun v37 =>
  some (v37.1, v37.2)
  ) else (
  f_S_run_b27 N fol E
  )
  )
  ))
set_option maxHeartbeats 4000000 in
set_option maxRecDepth 100000 in
theorem c_S_run {l : Launch} {D : va_G} {kA : Nat → ClassId} {S : hE} {g : Nat → Nat} {n0 nx : Nat} {N : Nat} {fr lo : Nat} {x0 : Nat} {x1 : Int32} {x2 : Int32} {x3 : Int32} {E : hE} {res : Int32 × hE} {fol : Nat → Option Nat → Option Nat → Int32 → hE → Option (Int32 × hE)} (hfol : ∀ {x0 : Nat} {x1 x2 : Option Nat} {x3 : Int32} {E : hE} {res : Int32 × hE}, fol x0 x1 x2 x3 E = some res → Met l y_Mach_follow ws_Mach_follow { frames := fr, cells := 0, slots := 0, locals := lo } (va_Pc [va_rf (some x0), va_rf x1, va_rf x2, .int x3] (hJ D kA S g n0 (E, nx))) (va_Qi (fun r w => r = res.1 ∧ w = (res.2, nx)) (hJ D kA S g n0) (fun q => n0 ≤ q)) 0 0 (fun q => n0 ≤ q)) (hf : f_S_run N fol x0 x1 x2 x3 E = some res) : Met l y_S_run ws_S_run (rm_S_run fr lo) (va_Pc [va_rf (some x0), .int x1, .int x2, .int x3] (hJ D kA S g n0 (E, nx))) (va_Qi (fun r w => r = res.1 ∧ w = (res.2, nx)) (hJ D kA S g n0) (fun q => n0 ≤ q)) 0 0 (fun q => n0 ≤ q) := by
  refine h_met (cc := prog_1_method_7_code) (maxL := 5) (ret := (some .int)) (lvs := [(0, va_rf (some x0)), (1, .int x1), (2, .int x2), (3, .int x3)]) zZ_k (by decide) rfl (by simp [lg_sl, va_rf_cat, cat_i, cat_l, cat_n]) (by simp [lv_args, va_rf_cat, cat_i, cat_l, cat_n]) ?_
  intro p e s m below meth c ls C M hr hlk hnm hl
  unfold f_S_run at hf
  refine w_aload_n C.x C.b dS_run_0 rfl (lv_at hl 0 rfl) ?_
  obtain ⟨v1, h1, hf⟩ := Option.bind_eq_some_iff.mp hf
  refine w_getR C M h1 rfl (hm_in in_S) (by decide) (List.mem_cons_of_mem _ wm_183) rfl dS_run_1 ?_
  refine lv_iload_n C.x C.b dS_run_4 rfl (lv_at hl 1 rfl) ?_
  obtain ⟨o5, g5, hf⟩ := Option.bind_eq_some_iff.mp hf
  obtain ⟨v5, h5, hf⟩ := Option.bind_eq_some_iff.mp hf
  refine w_cq M (w_runV C M g5 rfl (c_Mach_scriptAt h5) (cwV 1 C.ts (hgV wm_573 wm_574 wm_575 wm_4 wm_576) rfl rfl rfl (by decide +kernel) ⟨by show 0 + 1 ≤ fr + 2; omega, by show 8 + (2 + 11) + (0) ≤ lo + 49; omega⟩) rfl hl.1 rfl (Nat.zero_le _) dS_run_5 ⟨Nat.le_refl _, Nat.le_refl _⟩) (fun H locs M => ?_)
  refine w_astore (lv' := [(4, va_rf v5), (0, va_rf (some x0)), (1, .int x1), (2, .int x2), (3, .int x3)]) C.x C.b dS_run_8 hl (by decide) rfl (fun ls hl => ?_)
  refine w_aload C.x C.b dS_run_10 (lv_at hl 0 rfl) ?_
  refine w_ifnull (tgt := 27) C.x C.b dS_run_12 (by decide) (fun c12 => ?_) (fun c12 => ?_)
  · rw [if_pos c12] at hf
    exact b_S_run_27 C hr hlk hnm fol hfol _ _ _ _ M (lv_sub hl [] rfl) hf
  · rw [if_neg c12] at hf
    refine lv_iload_n C.x C.b dS_run_15 rfl (lv_at hl 4 rfl) ?_
    refine lv_iconst (v := 1) C.x C.b dS_run_16 (by decide) ?_
    refine lv_icmp_lt (tgt := 27) C.x C.b dS_run_17 (by decide) (fun c17 => ?_) (fun c17 => ?_)
    · rw [if_pos c17] at hf
      exact b_S_run_27 C hr hlk hnm fol hfol _ _ _ _ M (lv_sub hl [] rfl) hf
    · rw [if_neg c17] at hf
      refine lv_iload_n C.x C.b dS_run_20 rfl (lv_at hl 4 rfl) ?_
      refine lv_sipush (v := 2000) C.x C.b dS_run_21 (by decide) ?_
      refine lv_icmp_le (tgt := 29) C.x C.b dS_run_24 (by decide) (fun c24 => ?_) (fun c24 => ?_)
      · rw [if_pos c24] at hf
        refine w_aload_n C.x C.b dS_run_29 rfl (lv_at hl 1 rfl) ?_
        obtain ⟨v30, h30, hf⟩ := Option.bind_eq_some_iff.mp hf
        refine w_getR C M h30 rfl (hm_in in_S) (by decide) (List.mem_cons_of_mem _ wm_183) rfl dS_run_30 ?_
        refine w_aload C.x C.b dS_run_33 (lv_at hl 0 rfl) ?_
        refine lv_iload_n C.x C.b dS_run_35 rfl (lv_at hl 3 rfl) ?_
        refine lv_iload_n C.x C.b dS_run_36 rfl (lv_at hl 4 rfl) ?_
        obtain ⟨o37, g37, hf⟩ := Option.bind_eq_some_iff.mp hf
        obtain ⟨v37, h37, hf⟩ := Option.bind_eq_some_iff.mp hf
        refine w_ci M (w_runV C M g37 rfl (c_Mach_start hfol h37) (cwV 3 C.ts (hgV wm_577 wm_578 wm_579 wm_4 wm_580) rfl rfl rfl (by decide +kernel) ⟨by show fr + 1 + 1 ≤ fr + 2; omega, by show 8 + (4 + 11) + (lo + 26) ≤ lo + 49; omega⟩) rfl hl.1 rfl (Nat.zero_le _) dS_run_37 ⟨Nat.le_refl _, Nat.le_refl _⟩) (fun H locs M => ?_)
        cases hf
        exact w_iret C M hr hlk rfl (Nat.le_refl _) (Nat.le_refl _) dS_run_40 rfl rfl
      · rw [if_neg c24] at hf
        exact b_S_run_27 C hr hlk hnm fol hfol _ _ _ _ M (lv_sub hl [] rfl) hf
theorem dS_about_0 : decode prog_1_method_8_code 0 = .ok (.aload_n 0, 1) := by decide +kernel
theorem dS_about_1 : decode prog_1_method_8_code 1 = .ok (.getfield 19, 3) := by decide +kernel
theorem dS_about_4 : decode prog_1_method_8_code 4 = .ok (.getfield 77, 3) := by decide +kernel
theorem dS_about_7 : decode prog_1_method_8_code 7 = .ok (.ifCond .ne 5, 3) := by decide +kernel
theorem dS_about_10 : decode prog_1_method_8_code 10 = .ok (.iconst (-1), 1) := by decide +kernel
theorem dS_about_11 : decode prog_1_method_8_code 11 = .ok (.ireturn, 1) := by decide +kernel
theorem dS_about_12 : decode prog_1_method_8_code 12 = .ok (.iload_n 1, 1) := by decide +kernel
theorem dS_about_13 : decode prog_1_method_8_code 13 = .ok (.tableswitch 96 0 5 #[39, 47, 58, 69, 77, 88], 39) := by decide +kernel
theorem dS_about_52 : decode prog_1_method_8_code 52 = .ok (.aload_n 0, 1) := by decide +kernel
theorem dS_about_53 : decode prog_1_method_8_code 53 = .ok (.getfield 19, 3) := by decide +kernel
theorem dS_about_56 : decode prog_1_method_8_code 56 = .ok (.getfield 81, 3) := by decide +kernel
theorem dS_about_59 : decode prog_1_method_8_code 59 = .ok (.ireturn, 1) := by decide +kernel
theorem dS_about_60 : decode prog_1_method_8_code 60 = .ok (.aload_n 0, 1) := by decide +kernel
theorem dS_about_61 : decode prog_1_method_8_code 61 = .ok (.getfield 19, 3) := by decide +kernel
theorem dS_about_64 : decode prog_1_method_8_code 64 = .ok (.getfield 85, 3) := by decide +kernel
theorem dS_about_67 : decode prog_1_method_8_code 67 = .ok (.getfield 88, 3) := by decide +kernel
theorem dS_about_70 : decode prog_1_method_8_code 70 = .ok (.ireturn, 1) := by decide +kernel
theorem dS_about_71 : decode prog_1_method_8_code 71 = .ok (.aload_n 0, 1) := by decide +kernel
theorem dS_about_72 : decode prog_1_method_8_code 72 = .ok (.getfield 19, 3) := by decide +kernel
theorem dS_about_75 : decode prog_1_method_8_code 75 = .ok (.getfield 91, 3) := by decide +kernel
theorem dS_about_78 : decode prog_1_method_8_code 78 = .ok (.getfield 88, 3) := by decide +kernel
theorem dS_about_81 : decode prog_1_method_8_code 81 = .ok (.ireturn, 1) := by decide +kernel
theorem dS_about_82 : decode prog_1_method_8_code 82 = .ok (.aload_n 0, 1) := by decide +kernel
theorem dS_about_83 : decode prog_1_method_8_code 83 = .ok (.getfield 19, 3) := by decide +kernel
theorem dS_about_86 : decode prog_1_method_8_code 86 = .ok (.getfield 94, 3) := by decide +kernel
theorem dS_about_89 : decode prog_1_method_8_code 89 = .ok (.ireturn, 1) := by decide +kernel
theorem dS_about_90 : decode prog_1_method_8_code 90 = .ok (.aload_n 0, 1) := by decide +kernel
theorem dS_about_91 : decode prog_1_method_8_code 91 = .ok (.getfield 19, 3) := by decide +kernel
theorem dS_about_94 : decode prog_1_method_8_code 94 = .ok (.getfield 97, 3) := by decide +kernel
theorem dS_about_97 : decode prog_1_method_8_code 97 = .ok (.getfield 101, 3) := by decide +kernel
theorem dS_about_100 : decode prog_1_method_8_code 100 = .ok (.ireturn, 1) := by decide +kernel
theorem dS_about_101 : decode prog_1_method_8_code 101 = .ok (.aload_n 0, 1) := by decide +kernel
theorem dS_about_102 : decode prog_1_method_8_code 102 = .ok (.getfield 19, 3) := by decide +kernel
theorem dS_about_105 : decode prog_1_method_8_code 105 = .ok (.getfield 106, 3) := by decide +kernel
theorem dS_about_108 : decode prog_1_method_8_code 108 = .ok (.ireturn, 1) := by decide +kernel
theorem dS_about_109 : decode prog_1_method_8_code 109 = .ok (.iconst (-1), 1) := by decide +kernel
theorem dS_about_110 : decode prog_1_method_8_code 110 = .ok (.ireturn, 1) := by decide +kernel
abbrev rm_S_about : Room := { frames := 0, cells := 0, slots := 0, locals := 0 }
def f_S_about (E : hE) (x0 : Nat) (x1 : Int32) : Option (Int32) := (
  (gR E (some x0) 6 1).bind fun v1 =>
  (gI E v1 2 7).bind fun v4 =>
  if v4 = 0 then (
  some (-1)
  ) else (
  if x1 = 0 then (
  (gR E (some x0) 6 1).bind fun v53 =>
  (gI E v53 2 8).bind fun v56 =>
  some v56
  ) else (
  if x1 = 1 then (
  (gR E (some x0) 6 1).bind fun v61 =>
  (gR E v61 2 2).bind fun v64 =>
  (gI E v64 0 1).bind fun v67 =>
  some v67
  ) else (
  if x1 = 2 then (
  (gR E (some x0) 6 1).bind fun v72 =>
  (gR E v72 2 3).bind fun v75 =>
  (gI E v75 0 1).bind fun v78 =>
  some v78
  ) else (
  if x1 = 3 then (
  (gR E (some x0) 6 1).bind fun v83 =>
  (gI E v83 2 9).bind fun v86 =>
  some v86
  ) else (
  if x1 = 4 then (
  (gR E (some x0) 6 1).bind fun v91 =>
  (gR E v91 2 4).bind fun v94 =>
  (gI E v94 1 6).bind fun v97 =>
  some v97
  ) else (
  if x1 = 5 then (
  (gR E (some x0) 6 1).bind fun v102 =>
  (gI E v102 2 10).bind fun v105 =>
  some v105
  ) else (
  some (-1)
  ))))))
  ))
set_option maxHeartbeats 4000000 in
set_option maxRecDepth 100000 in
theorem c_S_about {l : Launch} {D : va_G} {kA : Nat → ClassId} {S : hE} {g : Nat → Nat} {n0 nx : Nat} {x0 : Nat} {x1 : Int32} {E : hE} {res : Int32} (hf : f_S_about E x0 x1 = some res) : Met l y_S_about ws_S_about rm_S_about (va_Pc [va_rf (some x0), .int x1] (hJ D kA S g n0 (E, nx))) (va_Qi (fun r w => r = res ∧ w = (E, nx)) (hJ D kA S g n0) (fun q => n0 ≤ q)) 0 0 (fun q => n0 ≤ q) := by
  refine h_met (cc := prog_1_method_8_code) (maxL := 2) (ret := (some .int)) (lvs := [(0, va_rf (some x0)), (1, .int x1)]) zZ_k (by decide) rfl (by simp [lg_sl, va_rf_cat, cat_i, cat_l, cat_n]) (by simp [lv_args, va_rf_cat, cat_i, cat_l, cat_n]) ?_
  intro p e s m below meth c ls C M hr hlk hnm hl
  unfold f_S_about at hf
  refine w_aload_n C.x C.b dS_about_0 rfl (lv_at hl 0 rfl) ?_
  obtain ⟨v1, h1, hf⟩ := Option.bind_eq_some_iff.mp hf
  refine w_getR C M h1 rfl (hm_in in_S) (by decide) (List.mem_cons_of_mem _ wm_183) rfl dS_about_1 ?_
  obtain ⟨v4, h4, hf⟩ := Option.bind_eq_some_iff.mp hf
  refine w_getI C M h4 rfl (hm_in in_Mach) (by decide) (List.mem_cons_of_mem _ wm_146) rfl dS_about_4 ?_
  refine lv_if_ne (tgt := 12) C.x C.b dS_about_7 (by decide) (fun c7 => ?_) (fun c7 => ?_)
  · rw [if_neg c7] at hf
    refine lv_iload_n C.x C.b dS_about_12 rfl (lv_at hl 1 rfl) ?_
    by_cases c13_0 : x1 = 0
    · rw [if_pos c13_0] at hf
      refine lv_tableIn (tgt := 52) C.x C.b dS_about_13 (by rw [c13_0]; decide) (by rw [c13_0]; decide) (by rw [c13_0]; rfl) (by decide) ?_
      refine w_aload_n C.x C.b dS_about_52 rfl (lv_at hl 0 rfl) ?_
      obtain ⟨v53, h53, hf⟩ := Option.bind_eq_some_iff.mp hf
      refine w_getR C M h53 rfl (hm_in in_S) (by decide) (List.mem_cons_of_mem _ wm_183) rfl dS_about_53 ?_
      obtain ⟨v56, h56, hf⟩ := Option.bind_eq_some_iff.mp hf
      refine w_getI C M h56 rfl (hm_in in_Mach) (by decide) (List.mem_cons_of_mem _ wm_148) rfl dS_about_56 ?_
      cases hf
      exact w_iret C M hr hlk rfl (Nat.le_refl _) (Nat.le_refl _) dS_about_59 rfl rfl
    · rw [if_neg c13_0] at hf
      by_cases c13_1 : x1 = 1
      · rw [if_pos c13_1] at hf
        refine lv_tableIn (tgt := 60) C.x C.b dS_about_13 (by rw [c13_1]; decide) (by rw [c13_1]; decide) (by rw [c13_1]; rfl) (by decide) ?_
        refine w_aload_n C.x C.b dS_about_60 rfl (lv_at hl 0 rfl) ?_
        obtain ⟨v61, h61, hf⟩ := Option.bind_eq_some_iff.mp hf
        refine w_getR C M h61 rfl (hm_in in_S) (by decide) (List.mem_cons_of_mem _ wm_183) rfl dS_about_61 ?_
        obtain ⟨v64, h64, hf⟩ := Option.bind_eq_some_iff.mp hf
        refine w_getR C M h64 rfl (hm_in in_Mach) (by decide) (List.mem_cons_of_mem _ wm_138) rfl dS_about_64 ?_
        obtain ⟨v67, h67, hf⟩ := Option.bind_eq_some_iff.mp hf
        refine w_getI C M h67 rfl (hm_in in_Row) (by decide) (List.mem_cons_of_mem _ wm_47) rfl dS_about_67 ?_
        cases hf
        exact w_iret C M hr hlk rfl (Nat.le_refl _) (Nat.le_refl _) dS_about_70 rfl rfl
      · rw [if_neg c13_1] at hf
        by_cases c13_2 : x1 = 2
        · rw [if_pos c13_2] at hf
          refine lv_tableIn (tgt := 71) C.x C.b dS_about_13 (by rw [c13_2]; decide) (by rw [c13_2]; decide) (by rw [c13_2]; rfl) (by decide) ?_
          refine w_aload_n C.x C.b dS_about_71 rfl (lv_at hl 0 rfl) ?_
          obtain ⟨v72, h72, hf⟩ := Option.bind_eq_some_iff.mp hf
          refine w_getR C M h72 rfl (hm_in in_S) (by decide) (List.mem_cons_of_mem _ wm_183) rfl dS_about_72 ?_
          obtain ⟨v75, h75, hf⟩ := Option.bind_eq_some_iff.mp hf
          refine w_getR C M h75 rfl (hm_in in_Mach) (by decide) (List.mem_cons_of_mem _ wm_140) rfl dS_about_75 ?_
          obtain ⟨v78, h78, hf⟩ := Option.bind_eq_some_iff.mp hf
          refine w_getI C M h78 rfl (hm_in in_Row) (by decide) (List.mem_cons_of_mem _ wm_47) rfl dS_about_78 ?_
          cases hf
          exact w_iret C M hr hlk rfl (Nat.le_refl _) (Nat.le_refl _) dS_about_81 rfl rfl
        · rw [if_neg c13_2] at hf
          by_cases c13_3 : x1 = 3
          · rw [if_pos c13_3] at hf
            refine lv_tableIn (tgt := 82) C.x C.b dS_about_13 (by rw [c13_3]; decide) (by rw [c13_3]; decide) (by rw [c13_3]; rfl) (by decide) ?_
            refine w_aload_n C.x C.b dS_about_82 rfl (lv_at hl 0 rfl) ?_
            obtain ⟨v83, h83, hf⟩ := Option.bind_eq_some_iff.mp hf
            refine w_getR C M h83 rfl (hm_in in_S) (by decide) (List.mem_cons_of_mem _ wm_183) rfl dS_about_83 ?_
            obtain ⟨v86, h86, hf⟩ := Option.bind_eq_some_iff.mp hf
            refine w_getI C M h86 rfl (hm_in in_Mach) (by decide) (List.mem_cons_of_mem _ wm_150) rfl dS_about_86 ?_
            cases hf
            exact w_iret C M hr hlk rfl (Nat.le_refl _) (Nat.le_refl _) dS_about_89 rfl rfl
          · rw [if_neg c13_3] at hf
            by_cases c13_4 : x1 = 4
            · rw [if_pos c13_4] at hf
              refine lv_tableIn (tgt := 90) C.x C.b dS_about_13 (by rw [c13_4]; decide) (by rw [c13_4]; decide) (by rw [c13_4]; rfl) (by decide) ?_
              refine w_aload_n C.x C.b dS_about_90 rfl (lv_at hl 0 rfl) ?_
              obtain ⟨v91, h91, hf⟩ := Option.bind_eq_some_iff.mp hf
              refine w_getR C M h91 rfl (hm_in in_S) (by decide) (List.mem_cons_of_mem _ wm_183) rfl dS_about_91 ?_
              obtain ⟨v94, h94, hf⟩ := Option.bind_eq_some_iff.mp hf
              refine w_getR C M h94 rfl (hm_in in_Mach) (by decide) (List.mem_cons_of_mem _ wm_142) rfl dS_about_94 ?_
              obtain ⟨v97, h97, hf⟩ := Option.bind_eq_some_iff.mp hf
              refine w_getI C M h97 rfl (hm_in in_Frame) (by decide) (List.mem_cons_of_mem _ wm_114) rfl dS_about_97 ?_
              cases hf
              exact w_iret C M hr hlk rfl (Nat.le_refl _) (Nat.le_refl _) dS_about_100 rfl rfl
            · rw [if_neg c13_4] at hf
              by_cases c13_5 : x1 = 5
              · rw [if_pos c13_5] at hf
                refine lv_tableIn (tgt := 101) C.x C.b dS_about_13 (by rw [c13_5]; decide) (by rw [c13_5]; decide) (by rw [c13_5]; rfl) (by decide) ?_
                refine w_aload_n C.x C.b dS_about_101 rfl (lv_at hl 0 rfl) ?_
                obtain ⟨v102, h102, hf⟩ := Option.bind_eq_some_iff.mp hf
                refine w_getR C M h102 rfl (hm_in in_S) (by decide) (List.mem_cons_of_mem _ wm_183) rfl dS_about_102 ?_
                obtain ⟨v105, h105, hf⟩ := Option.bind_eq_some_iff.mp hf
                refine w_getI C M h105 rfl (hm_in in_Mach) (by decide) (List.mem_cons_of_mem _ wm_152) rfl dS_about_105 ?_
                cases hf
                exact w_iret C M hr hlk rfl (Nat.le_refl _) (Nat.le_refl _) dS_about_108 rfl rfl
              · rw [if_neg c13_5] at hf
                have z13_0 := lv_neT c13_0 (a := 0) (by decide)
                have z13_1 := lv_neT c13_1 (a := 1) (by decide)
                have z13_2 := lv_neT c13_2 (a := 2) (by decide)
                have z13_3 := lv_neT c13_3 (a := 3) (by decide)
                have z13_4 := lv_neT c13_4 (a := 4) (by decide)
                have z13_5 := lv_neT c13_5 (a := 5) (by decide)
                refine lv_tableOut (tgt := 109) C.x C.b dS_about_13 (by omega) (by decide) ?_
                refine lv_iconst (v := (-1)) C.x C.b dS_about_109 (by decide) ?_
                cases hf
                exact w_iret C M hr hlk rfl (Nat.le_refl _) (Nat.le_refl _) dS_about_110 rfl rfl
  · rw [if_pos c7] at hf
    refine lv_iconst (v := (-1)) C.x C.b dS_about_10 (by decide) ?_
    cases hf
    exact w_iret C M hr hlk rfl (Nat.le_refl _) (Nat.le_refl _) dS_about_11 rfl rfl
theorem dS_said_0 : decode prog_1_method_9_code 0 = .ok (.iload_n 1, 1) := by decide +kernel
theorem dS_said_1 : decode prog_1_method_9_code 1 = .ok (.ifCond .ne 15, 3) := by decide +kernel
theorem dS_said_4 : decode prog_1_method_9_code 4 = .ok (.aload_n 0, 1) := by decide +kernel
theorem dS_said_5 : decode prog_1_method_9_code 5 = .ok (.getfield 19, 3) := by decide +kernel
theorem dS_said_8 : decode prog_1_method_9_code 8 = .ok (.getfield 85, 3) := by decide +kernel
theorem dS_said_11 : decode prog_1_method_9_code 11 = .ok (.iload_n 2, 1) := by decide +kernel
theorem dS_said_12 : decode prog_1_method_9_code 12 = .ok (.invokevirtual 109, 3) := by decide +kernel
theorem dS_said_15 : decode prog_1_method_9_code 15 = .ok (.ireturn, 1) := by decide +kernel
theorem dS_said_16 : decode prog_1_method_9_code 16 = .ok (.iload_n 1, 1) := by decide +kernel
theorem dS_said_17 : decode prog_1_method_9_code 17 = .ok (.iconst 1, 1) := by decide +kernel
theorem dS_said_18 : decode prog_1_method_9_code 18 = .ok (.if_icmp .ne 17, 3) := by decide +kernel
theorem dS_said_21 : decode prog_1_method_9_code 21 = .ok (.aload_n 0, 1) := by decide +kernel
theorem dS_said_22 : decode prog_1_method_9_code 22 = .ok (.getfield 19, 3) := by decide +kernel
theorem dS_said_25 : decode prog_1_method_9_code 25 = .ok (.getfield 91, 3) := by decide +kernel
theorem dS_said_28 : decode prog_1_method_9_code 28 = .ok (.iload_n 2, 1) := by decide +kernel
theorem dS_said_29 : decode prog_1_method_9_code 29 = .ok (.invokevirtual 109, 3) := by decide +kernel
theorem dS_said_32 : decode prog_1_method_9_code 32 = .ok (.goto 4, 3) := by decide +kernel
theorem dS_said_35 : decode prog_1_method_9_code 35 = .ok (.iconst (-1), 1) := by decide +kernel
theorem dS_said_36 : decode prog_1_method_9_code 36 = .ok (.ireturn, 1) := by decide +kernel
abbrev rm_S_said : Room := { frames := 1, cells := 0, slots := 0, locals := 21 }
def f_S_said_b36 (E : hE) (t0 : Int32) : Option (Int32) := (
  some t0)
set_option maxHeartbeats 4000000 in
set_option maxRecDepth 100000 in
theorem b_S_said_36 {p : Program} {l : Launch} {e : Env} {s : State} {m : MethodId} {args : Array Value} {below : List Frame} {meth : Method} {c : Code} {D : va_G} {kA : Nat → ClassId} {S : hE} {g : Nat → Nat} {n0 nx : Nat} {E : hE} {res : Int32} (C : hX p s m args c prog_1_method_9_code 3 R_S ws_S_said D kA S g n0) (hr : meth.sig.returnType = (some .int)) (hlk : meth.locks = false) (hnm : meth.name = "said") : ∀ (t0 : Int32) (H : Heap) (locs : List Loc) (ls : Array Slot), hY D kA n0 s E nx H locs → lv_has ls 3 [] → f_S_said_b36 E  t0 = some res → W p l e rm_S_said s m args below meth c H locs 0 0 (MQ below (va_Qi (fun r w => r = res ∧ w = (E, nx)) (hJ D kA S g n0) (fun q => n0 ≤ q)) args s 0 0 (fun q => n0 ≤ q)) (F0 m 36 ls [.int t0]) := by
  intro t0 H locs ls M hl hf
  unfold f_S_said_b36 at hf
  cases hf
  exact w_iret C M hr hlk rfl (Nat.le_refl _) (Nat.le_refl _) dS_said_36 rfl rfl
def f_S_said (E : hE) (x0 : Nat) (x1 : Int32) (x2 : Int32) : Option (Int32) := (
  if x1 = 0 then (
  (gR E (some x0) 6 1).bind fun v5 =>
  (gR E v5 2 2).bind fun v8 =>
  (gO E v8 0).bind fun o12 =>
  (f_Row_at E o12.1 x2).bind fun v12 =>
  some v12
  ) else (
  if x1 = 1 then (
  (gR E (some x0) 6 1).bind fun v22 =>
  (gR E v22 2 3).bind fun v25 =>
  (gO E v25 0).bind fun o29 =>
  (f_Row_at E o29.1 x2).bind fun v29 =>
  f_S_said_b36 E v29
  ) else (
  f_S_said_b36 E (-1)
  )
  ))
set_option maxHeartbeats 4000000 in
set_option maxRecDepth 100000 in
theorem c_S_said {l : Launch} {D : va_G} {kA : Nat → ClassId} {S : hE} {g : Nat → Nat} {n0 nx : Nat} {x0 : Nat} {x1 : Int32} {x2 : Int32} {E : hE} {res : Int32} (hf : f_S_said E x0 x1 x2 = some res) : Met l y_S_said ws_S_said rm_S_said (va_Pc [va_rf (some x0), .int x1, .int x2] (hJ D kA S g n0 (E, nx))) (va_Qi (fun r w => r = res ∧ w = (E, nx)) (hJ D kA S g n0) (fun q => n0 ≤ q)) 0 0 (fun q => n0 ≤ q) := by
  refine h_met (cc := prog_1_method_9_code) (maxL := 3) (ret := (some .int)) (lvs := [(0, va_rf (some x0)), (1, .int x1), (2, .int x2)]) zZ_k (by decide) rfl (by simp [lg_sl, va_rf_cat, cat_i, cat_l, cat_n]) (by simp [lv_args, va_rf_cat, cat_i, cat_l, cat_n]) ?_
  intro p e s m below meth c ls C M hr hlk hnm hl
  unfold f_S_said at hf
  refine lv_iload_n C.x C.b dS_said_0 rfl (lv_at hl 1 rfl) ?_
  refine lv_if_ne (tgt := 16) C.x C.b dS_said_1 (by decide) (fun c1 => ?_) (fun c1 => ?_)
  · rw [if_neg c1] at hf
    refine lv_iload_n C.x C.b dS_said_16 rfl (lv_at hl 1 rfl) ?_
    refine lv_iconst (v := 1) C.x C.b dS_said_17 (by decide) ?_
    refine lv_icmp_ne (tgt := 35) C.x C.b dS_said_18 (by decide) (fun c18 => ?_) (fun c18 => ?_)
    · rw [if_neg c18] at hf
      refine lv_iconst (v := (-1)) C.x C.b dS_said_35 (by decide) ?_
      exact b_S_said_36 C hr hlk hnm _ _ _ _ M (lv_sub hl [] rfl) hf
    · rw [if_pos c18] at hf
      refine w_aload_n C.x C.b dS_said_21 rfl (lv_at hl 0 rfl) ?_
      obtain ⟨v22, h22, hf⟩ := Option.bind_eq_some_iff.mp hf
      refine w_getR C M h22 rfl (hm_in in_S) (by decide) (List.mem_cons_of_mem _ wm_183) rfl dS_said_22 ?_
      obtain ⟨v25, h25, hf⟩ := Option.bind_eq_some_iff.mp hf
      refine w_getR C M h25 rfl (hm_in in_Mach) (by decide) (List.mem_cons_of_mem _ wm_140) rfl dS_said_25 ?_
      refine lv_iload_n C.x C.b dS_said_28 rfl (lv_at hl 2 rfl) ?_
      obtain ⟨o29, g29, hf⟩ := Option.bind_eq_some_iff.mp hf
      obtain ⟨v29, h29, hf⟩ := Option.bind_eq_some_iff.mp hf
      refine w_ci M (w_runV C M g29 rfl (c_Row_at h29) (cwV 1 C.ts (hgV wm_703 wm_267 wm_268 wm_3 wm_269) rfl rfl rfl (by decide +kernel) ⟨Nat.le_of_ble_eq_true rfl, Nat.le_of_ble_eq_true rfl⟩) rfl hl.1 rfl (Nat.zero_le _) dS_said_29 ⟨Nat.le_refl _, Nat.le_refl _⟩) (fun H locs M => ?_)
      refine lv_goto (tgt := 36) C.x C.b dS_said_32 (by decide) ?_
      exact b_S_said_36 C hr hlk hnm _ _ _ _ M (lv_sub hl [] rfl) hf
  · rw [if_pos c1] at hf
    refine w_aload_n C.x C.b dS_said_4 rfl (lv_at hl 0 rfl) ?_
    obtain ⟨v5, h5, hf⟩ := Option.bind_eq_some_iff.mp hf
    refine w_getR C M h5 rfl (hm_in in_S) (by decide) (List.mem_cons_of_mem _ wm_183) rfl dS_said_5 ?_
    obtain ⟨v8, h8, hf⟩ := Option.bind_eq_some_iff.mp hf
    refine w_getR C M h8 rfl (hm_in in_Mach) (by decide) (List.mem_cons_of_mem _ wm_138) rfl dS_said_8 ?_
    refine lv_iload_n C.x C.b dS_said_11 rfl (lv_at hl 2 rfl) ?_
    obtain ⟨o12, g12, hf⟩ := Option.bind_eq_some_iff.mp hf
    obtain ⟨v12, h12, hf⟩ := Option.bind_eq_some_iff.mp hf
    refine w_ci M (w_runV C M g12 rfl (c_Row_at h12) (cwV 1 C.ts (hgV wm_703 wm_267 wm_268 wm_3 wm_269) rfl rfl rfl (by decide +kernel) ⟨Nat.le_of_ble_eq_true rfl, Nat.le_of_ble_eq_true rfl⟩) rfl hl.1 rfl (Nat.zero_le _) dS_said_12 ⟨Nat.le_refl _, Nat.le_refl _⟩) (fun H locs M => ?_)
    cases hf
    exact w_iret C M hr hlk rfl (Nat.le_refl _) (Nat.le_refl _) dS_said_15 rfl rfl
theorem dS_register_0 : decode prog_1_method_10_code 0 = .ok (.iload_n 1, 1) := by decide +kernel
theorem dS_register_1 : decode prog_1_method_10_code 1 = .ok (.ifCond .lt 24, 3) := by decide +kernel
theorem dS_register_4 : decode prog_1_method_10_code 4 = .ok (.iload_n 1, 1) := by decide +kernel
theorem dS_register_5 : decode prog_1_method_10_code 5 = .ok (.bipush 8, 2) := by decide +kernel
theorem dS_register_7 : decode prog_1_method_10_code 7 = .ok (.if_icmp .ge 18, 3) := by decide +kernel
theorem dS_register_10 : decode prog_1_method_10_code 10 = .ok (.aload_n 0, 1) := by decide +kernel
theorem dS_register_11 : decode prog_1_method_10_code 11 = .ok (.getfield 19, 3) := by decide +kernel
theorem dS_register_14 : decode prog_1_method_10_code 14 = .ok (.getfield 97, 3) := by decide +kernel
theorem dS_register_17 : decode prog_1_method_10_code 17 = .ok (.getfield 113, 3) := by decide +kernel
theorem dS_register_20 : decode prog_1_method_10_code 20 = .ok (.iload_n 1, 1) := by decide +kernel
theorem dS_register_21 : decode prog_1_method_10_code 21 = .ok (.iaload, 1) := by decide +kernel
theorem dS_register_22 : decode prog_1_method_10_code 22 = .ok (.goto 4, 3) := by decide +kernel
theorem dS_register_25 : decode prog_1_method_10_code 25 = .ok (.iconst 0, 1) := by decide +kernel
theorem dS_register_26 : decode prog_1_method_10_code 26 = .ok (.ireturn, 1) := by decide +kernel
abbrev rm_S_register : Room := { frames := 0, cells := 0, slots := 0, locals := 0 }
def f_S_register_b26 (E : hE) (t0 : Int32) : Option (Int32) := (
  some t0)
set_option maxHeartbeats 4000000 in
set_option maxRecDepth 100000 in
theorem b_S_register_26 {p : Program} {l : Launch} {e : Env} {s : State} {m : MethodId} {args : Array Value} {below : List Frame} {meth : Method} {c : Code} {D : va_G} {kA : Nat → ClassId} {S : hE} {g : Nat → Nat} {n0 nx : Nat} {E : hE} {res : Int32} (C : hX p s m args c prog_1_method_10_code 2 R_S ws_S_register D kA S g n0) (hr : meth.sig.returnType = (some .int)) (hlk : meth.locks = false) (hnm : meth.name = "register") : ∀ (t0 : Int32) (H : Heap) (locs : List Loc) (ls : Array Slot), hY D kA n0 s E nx H locs → lv_has ls 2 [] → f_S_register_b26 E  t0 = some res → W p l e rm_S_register s m args below meth c H locs 0 0 (MQ below (va_Qi (fun r w => r = res ∧ w = (E, nx)) (hJ D kA S g n0) (fun q => n0 ≤ q)) args s 0 0 (fun q => n0 ≤ q)) (F0 m 26 ls [.int t0]) := by
  intro t0 H locs ls M hl hf
  unfold f_S_register_b26 at hf
  cases hf
  exact w_iret C M hr hlk rfl (Nat.le_refl _) (Nat.le_refl _) dS_register_26 rfl rfl
def f_S_register_b25 (E : hE) : Option (Int32) := (
  f_S_register_b26 E 0)
set_option maxHeartbeats 4000000 in
set_option maxRecDepth 100000 in
theorem b_S_register_25 {p : Program} {l : Launch} {e : Env} {s : State} {m : MethodId} {args : Array Value} {below : List Frame} {meth : Method} {c : Code} {D : va_G} {kA : Nat → ClassId} {S : hE} {g : Nat → Nat} {n0 nx : Nat} {E : hE} {res : Int32} (C : hX p s m args c prog_1_method_10_code 2 R_S ws_S_register D kA S g n0) (hr : meth.sig.returnType = (some .int)) (hlk : meth.locks = false) (hnm : meth.name = "register") : ∀  (H : Heap) (locs : List Loc) (ls : Array Slot), hY D kA n0 s E nx H locs → lv_has ls 2 [] → f_S_register_b25 E   = some res → W p l e rm_S_register s m args below meth c H locs 0 0 (MQ below (va_Qi (fun r w => r = res ∧ w = (E, nx)) (hJ D kA S g n0) (fun q => n0 ≤ q)) args s 0 0 (fun q => n0 ≤ q)) (F0 m 25 ls []) := by
  intro  H locs ls M hl hf
  unfold f_S_register_b25 at hf
  refine lv_iconst (v := 0) C.x C.b dS_register_25 (by decide) ?_
  exact b_S_register_26 C hr hlk hnm _ _ _ _ M (lv_sub hl [] rfl) hf
def f_S_register (E : hE) (x0 : Nat) (x1 : Int32) : Option (Int32) := (
  if x1 < 0 then (
  f_S_register_b25 E 
  ) else (
  if 8 ≤ x1 then (
  f_S_register_b25 E 
  ) else (
  (gR E (some x0) 6 1).bind fun v11 =>
  (gR E v11 2 4).bind fun v14 =>
  (gR E v14 1 1).bind fun v17 =>
  (aI E v17 0 x1).bind fun v21 =>
  f_S_register_b26 E v21
  )
  ))
set_option maxHeartbeats 4000000 in
set_option maxRecDepth 100000 in
theorem c_S_register {l : Launch} {D : va_G} {kA : Nat → ClassId} {S : hE} {g : Nat → Nat} {n0 nx : Nat} {x0 : Nat} {x1 : Int32} {E : hE} {res : Int32} (hf : f_S_register E x0 x1 = some res) : Met l y_S_register ws_S_register rm_S_register (va_Pc [va_rf (some x0), .int x1] (hJ D kA S g n0 (E, nx))) (va_Qi (fun r w => r = res ∧ w = (E, nx)) (hJ D kA S g n0) (fun q => n0 ≤ q)) 0 0 (fun q => n0 ≤ q) := by
  refine h_met (cc := prog_1_method_10_code) (maxL := 2) (ret := (some .int)) (lvs := [(0, va_rf (some x0)), (1, .int x1)]) zZ_k (by decide) rfl (by simp [lg_sl, va_rf_cat, cat_i, cat_l, cat_n]) (by simp [lv_args, va_rf_cat, cat_i, cat_l, cat_n]) ?_
  intro p e s m below meth c ls C M hr hlk hnm hl
  unfold f_S_register at hf
  refine lv_iload_n C.x C.b dS_register_0 rfl (lv_at hl 1 rfl) ?_
  refine lv_if_lt (tgt := 25) C.x C.b dS_register_1 (by decide) (fun c1 => ?_) (fun c1 => ?_)
  · rw [if_pos c1] at hf
    exact b_S_register_25 C hr hlk hnm _ _ _ M (lv_sub hl [] rfl) hf
  · rw [if_neg c1] at hf
    refine lv_iload_n C.x C.b dS_register_4 rfl (lv_at hl 1 rfl) ?_
    refine lv_bipush (v := 8) C.x C.b dS_register_5 (by decide) ?_
    refine lv_icmp_ge (tgt := 25) C.x C.b dS_register_7 (by decide) (fun c7 => ?_) (fun c7 => ?_)
    · rw [if_pos c7] at hf
      exact b_S_register_25 C hr hlk hnm _ _ _ M (lv_sub hl [] rfl) hf
    · rw [if_neg c7] at hf
      refine w_aload_n C.x C.b dS_register_10 rfl (lv_at hl 0 rfl) ?_
      obtain ⟨v11, h11, hf⟩ := Option.bind_eq_some_iff.mp hf
      refine w_getR C M h11 rfl (hm_in in_S) (by decide) (List.mem_cons_of_mem _ wm_183) rfl dS_register_11 ?_
      obtain ⟨v14, h14, hf⟩ := Option.bind_eq_some_iff.mp hf
      refine w_getR C M h14 rfl (hm_in in_Mach) (by decide) (List.mem_cons_of_mem _ wm_142) rfl dS_register_14 ?_
      obtain ⟨v17, h17, hf⟩ := Option.bind_eq_some_iff.mp hf
      refine w_getR C M h17 rfl (hm_in in_Frame) (by decide) (List.mem_cons_of_mem _ wm_106) rfl dS_register_17 ?_
      refine lv_iload_n C.x C.b dS_register_20 rfl (lv_at hl 1 rfl) ?_
      obtain ⟨v21, h21, hf⟩ := Option.bind_eq_some_iff.mp hf
      refine w_iald C M h21 rfl dS_register_21 ?_
      refine lv_goto (tgt := 26) C.x C.b dS_register_22 (by decide) ?_
      exact b_S_register_26 C hr hlk hnm _ _ _ _ M (lv_sub hl [] rfl) hf
theorem dS_size_0 : decode prog_1_method_11_code 0 = .ok (.aload_n 0, 1) := by decide +kernel
theorem dS_size_1 : decode prog_1_method_11_code 1 = .ok (.getfield 19, 3) := by decide +kernel
theorem dS_size_4 : decode prog_1_method_11_code 4 = .ok (.iload_n 1, 1) := by decide +kernel
theorem dS_size_5 : decode prog_1_method_11_code 5 = .ok (.invokevirtual 58, 3) := by decide +kernel
theorem dS_size_8 : decode prog_1_method_11_code 8 = .ok (.astore_n 2, 1) := by decide +kernel
theorem dS_size_9 : decode prog_1_method_11_code 9 = .ok (.aload_n 2, 1) := by decide +kernel
theorem dS_size_10 : decode prog_1_method_11_code 10 = .ok (.ifnonnull 7, 3) := by decide +kernel
theorem dS_size_13 : decode prog_1_method_11_code 13 = .ok (.iconst (-1), 1) := by decide +kernel
theorem dS_size_14 : decode prog_1_method_11_code 14 = .ok (.goto 7, 3) := by decide +kernel
theorem dS_size_17 : decode prog_1_method_11_code 17 = .ok (.aload_n 2, 1) := by decide +kernel
theorem dS_size_18 : decode prog_1_method_11_code 18 = .ok (.invokevirtual 117, 3) := by decide +kernel
theorem dS_size_21 : decode prog_1_method_11_code 21 = .ok (.ireturn, 1) := by decide +kernel
abbrev rm_S_size : Room := { frames := 1, cells := 0, slots := 0, locals := 21 }
def f_S_size_b21 (E : hE) (t0 : Int32) : Option (Int32) := (
  some t0)
set_option maxHeartbeats 4000000 in
set_option maxRecDepth 100000 in
theorem b_S_size_21 {p : Program} {l : Launch} {e : Env} {s : State} {m : MethodId} {args : Array Value} {below : List Frame} {meth : Method} {c : Code} {D : va_G} {kA : Nat → ClassId} {S : hE} {g : Nat → Nat} {n0 nx : Nat} {E : hE} {res : Int32} (C : hX p s m args c prog_1_method_11_code 3 R_S ws_S_size D kA S g n0) (hr : meth.sig.returnType = (some .int)) (hlk : meth.locks = false) (hnm : meth.name = "size") : ∀ (t0 : Int32) (H : Heap) (locs : List Loc) (ls : Array Slot), hY D kA n0 s E nx H locs → lv_has ls 3 [] → f_S_size_b21 E  t0 = some res → W p l e rm_S_size s m args below meth c H locs 0 0 (MQ below (va_Qi (fun r w => r = res ∧ w = (E, nx)) (hJ D kA S g n0) (fun q => n0 ≤ q)) args s 0 0 (fun q => n0 ≤ q)) (F0 m 21 ls [.int t0]) := by
  intro t0 H locs ls M hl hf
  unfold f_S_size_b21 at hf
  cases hf
  exact w_iret C M hr hlk rfl (Nat.le_refl _) (Nat.le_refl _) dS_size_21 rfl rfl
def f_S_size (E : hE) (x0 : Nat) (x1 : Int32) : Option (Int32) := (
  (gR E (some x0) 6 1).bind fun v1 =>
  (gO E v1 2).bind fun o5 =>
  (f_Mach_fileAt E o5.1 x1).bind fun v5 =>
  if v5 = none then (
  f_S_size_b21 E (-1)
  ) else (
  (gO E v5 0).bind fun o18 =>
  (f_Row_countIfThere E o18.1).bind fun v18 =>
  f_S_size_b21 E v18
  ))
set_option maxHeartbeats 4000000 in
set_option maxRecDepth 100000 in
theorem c_S_size {l : Launch} {D : va_G} {kA : Nat → ClassId} {S : hE} {g : Nat → Nat} {n0 nx : Nat} {x0 : Nat} {x1 : Int32} {E : hE} {res : Int32} (hf : f_S_size E x0 x1 = some res) : Met l y_S_size ws_S_size rm_S_size (va_Pc [va_rf (some x0), .int x1] (hJ D kA S g n0 (E, nx))) (va_Qi (fun r w => r = res ∧ w = (E, nx)) (hJ D kA S g n0) (fun q => n0 ≤ q)) 0 0 (fun q => n0 ≤ q) := by
  refine h_met (cc := prog_1_method_11_code) (maxL := 3) (ret := (some .int)) (lvs := [(0, va_rf (some x0)), (1, .int x1)]) zZ_k (by decide) rfl (by simp [lg_sl, va_rf_cat, cat_i, cat_l, cat_n]) (by simp [lv_args, va_rf_cat, cat_i, cat_l, cat_n]) ?_
  intro p e s m below meth c ls C M hr hlk hnm hl
  unfold f_S_size at hf
  refine w_aload_n C.x C.b dS_size_0 rfl (lv_at hl 0 rfl) ?_
  obtain ⟨v1, h1, hf⟩ := Option.bind_eq_some_iff.mp hf
  refine w_getR C M h1 rfl (hm_in in_S) (by decide) (List.mem_cons_of_mem _ wm_183) rfl dS_size_1 ?_
  refine lv_iload_n C.x C.b dS_size_4 rfl (lv_at hl 1 rfl) ?_
  obtain ⟨o5, g5, hf⟩ := Option.bind_eq_some_iff.mp hf
  obtain ⟨v5, h5, hf⟩ := Option.bind_eq_some_iff.mp hf
  refine w_cq M (w_runV C M g5 rfl (c_Mach_fileAt h5) (cwV 1 C.ts (hgV wm_553 wm_554 wm_555 wm_4 wm_556) rfl rfl rfl (by decide +kernel) ⟨Nat.le_of_ble_eq_true rfl, Nat.le_of_ble_eq_true rfl⟩) rfl hl.1 rfl (Nat.zero_le _) dS_size_5 ⟨Nat.le_refl _, Nat.le_refl _⟩) (fun H locs M => ?_)
  refine w_astore_n (lv' := [(2, va_rf v5), (0, va_rf (some x0)), (1, .int x1)]) C.x C.b dS_size_8 rfl hl (by decide) rfl (fun ls hl => ?_)
  refine w_aload_n C.x C.b dS_size_9 rfl (lv_at hl 0 rfl) ?_
  refine w_ifnonnull (tgt := 17) C.x C.b dS_size_10 (by decide) (fun c10 => ?_) (fun c10 => ?_)
  · rw [if_neg c10] at hf
    refine w_aload_n C.x C.b dS_size_17 rfl (lv_at hl 0 rfl) ?_
    obtain ⟨o18, g18, hf⟩ := Option.bind_eq_some_iff.mp hf
    obtain ⟨v18, h18, hf⟩ := Option.bind_eq_some_iff.mp hf
    refine w_ci M (w_runV C M g18 rfl (c_Row_countIfThere h18) (cwV 0 C.ts (hgV wm_712 wm_641 wm_642 wm_3 wm_643) rfl rfl rfl (by decide +kernel) ⟨Nat.le_of_ble_eq_true rfl, Nat.le_of_ble_eq_true rfl⟩) rfl hl.1 rfl (Nat.zero_le _) dS_size_18 ⟨Nat.le_refl _, Nat.le_refl _⟩) (fun H locs M => ?_)
    exact b_S_size_21 C hr hlk hnm _ _ _ _ M (lv_sub hl [] rfl) hf
  · rw [if_pos c10] at hf
    refine lv_iconst (v := (-1)) C.x C.b dS_size_13 (by decide) ?_
    refine lv_goto (tgt := 21) C.x C.b dS_size_14 (by decide) ?_
    exact b_S_size_21 C hr hlk hnm _ _ _ _ M (lv_sub hl [] rfl) hf
theorem dS_byteOf_0 : decode prog_1_method_12_code 0 = .ok (.aload_n 0, 1) := by decide +kernel
theorem dS_byteOf_1 : decode prog_1_method_12_code 1 = .ok (.getfield 19, 3) := by decide +kernel
theorem dS_byteOf_4 : decode prog_1_method_12_code 4 = .ok (.iload_n 1, 1) := by decide +kernel
theorem dS_byteOf_5 : decode prog_1_method_12_code 5 = .ok (.invokevirtual 58, 3) := by decide +kernel
theorem dS_byteOf_8 : decode prog_1_method_12_code 8 = .ok (.astore_n 3, 1) := by decide +kernel
theorem dS_byteOf_9 : decode prog_1_method_12_code 9 = .ok (.aload_n 3, 1) := by decide +kernel
theorem dS_byteOf_10 : decode prog_1_method_12_code 10 = .ok (.ifnonnull 7, 3) := by decide +kernel
theorem dS_byteOf_13 : decode prog_1_method_12_code 13 = .ok (.iconst (-1), 1) := by decide +kernel
theorem dS_byteOf_14 : decode prog_1_method_12_code 14 = .ok (.goto 8, 3) := by decide +kernel
theorem dS_byteOf_17 : decode prog_1_method_12_code 17 = .ok (.aload_n 3, 1) := by decide +kernel
theorem dS_byteOf_18 : decode prog_1_method_12_code 18 = .ok (.iload_n 2, 1) := by decide +kernel
theorem dS_byteOf_19 : decode prog_1_method_12_code 19 = .ok (.invokevirtual 109, 3) := by decide +kernel
theorem dS_byteOf_22 : decode prog_1_method_12_code 22 = .ok (.ireturn, 1) := by decide +kernel
abbrev rm_S_byteOf : Room := { frames := 1, cells := 0, slots := 0, locals := 21 }
def f_S_byteOf_b22 (E : hE) (t0 : Int32) : Option (Int32) := (
  some t0)
set_option maxHeartbeats 4000000 in
set_option maxRecDepth 100000 in
theorem b_S_byteOf_22 {p : Program} {l : Launch} {e : Env} {s : State} {m : MethodId} {args : Array Value} {below : List Frame} {meth : Method} {c : Code} {D : va_G} {kA : Nat → ClassId} {S : hE} {g : Nat → Nat} {n0 nx : Nat} {E : hE} {res : Int32} (C : hX p s m args c prog_1_method_12_code 4 R_S ws_S_byteOf D kA S g n0) (hr : meth.sig.returnType = (some .int)) (hlk : meth.locks = false) (hnm : meth.name = "byteOf") : ∀ (t0 : Int32) (H : Heap) (locs : List Loc) (ls : Array Slot), hY D kA n0 s E nx H locs → lv_has ls 4 [] → f_S_byteOf_b22 E  t0 = some res → W p l e rm_S_byteOf s m args below meth c H locs 0 0 (MQ below (va_Qi (fun r w => r = res ∧ w = (E, nx)) (hJ D kA S g n0) (fun q => n0 ≤ q)) args s 0 0 (fun q => n0 ≤ q)) (F0 m 22 ls [.int t0]) := by
  intro t0 H locs ls M hl hf
  unfold f_S_byteOf_b22 at hf
  cases hf
  exact w_iret C M hr hlk rfl (Nat.le_refl _) (Nat.le_refl _) dS_byteOf_22 rfl rfl
def f_S_byteOf (E : hE) (x0 : Nat) (x1 : Int32) (x2 : Int32) : Option (Int32) := (
  (gR E (some x0) 6 1).bind fun v1 =>
  (gO E v1 2).bind fun o5 =>
  (f_Mach_fileAt E o5.1 x1).bind fun v5 =>
  if v5 = none then (
  f_S_byteOf_b22 E (-1)
  ) else (
  (gO E v5 0).bind fun o19 =>
  (f_Row_at E o19.1 x2).bind fun v19 =>
  f_S_byteOf_b22 E v19
  ))
set_option maxHeartbeats 4000000 in
set_option maxRecDepth 100000 in
theorem c_S_byteOf {l : Launch} {D : va_G} {kA : Nat → ClassId} {S : hE} {g : Nat → Nat} {n0 nx : Nat} {x0 : Nat} {x1 : Int32} {x2 : Int32} {E : hE} {res : Int32} (hf : f_S_byteOf E x0 x1 x2 = some res) : Met l y_S_byteOf ws_S_byteOf rm_S_byteOf (va_Pc [va_rf (some x0), .int x1, .int x2] (hJ D kA S g n0 (E, nx))) (va_Qi (fun r w => r = res ∧ w = (E, nx)) (hJ D kA S g n0) (fun q => n0 ≤ q)) 0 0 (fun q => n0 ≤ q) := by
  refine h_met (cc := prog_1_method_12_code) (maxL := 4) (ret := (some .int)) (lvs := [(0, va_rf (some x0)), (1, .int x1), (2, .int x2)]) zZ_k (by decide) rfl (by simp [lg_sl, va_rf_cat, cat_i, cat_l, cat_n]) (by simp [lv_args, va_rf_cat, cat_i, cat_l, cat_n]) ?_
  intro p e s m below meth c ls C M hr hlk hnm hl
  unfold f_S_byteOf at hf
  refine w_aload_n C.x C.b dS_byteOf_0 rfl (lv_at hl 0 rfl) ?_
  obtain ⟨v1, h1, hf⟩ := Option.bind_eq_some_iff.mp hf
  refine w_getR C M h1 rfl (hm_in in_S) (by decide) (List.mem_cons_of_mem _ wm_183) rfl dS_byteOf_1 ?_
  refine lv_iload_n C.x C.b dS_byteOf_4 rfl (lv_at hl 1 rfl) ?_
  obtain ⟨o5, g5, hf⟩ := Option.bind_eq_some_iff.mp hf
  obtain ⟨v5, h5, hf⟩ := Option.bind_eq_some_iff.mp hf
  refine w_cq M (w_runV C M g5 rfl (c_Mach_fileAt h5) (cwV 1 C.ts (hgV wm_553 wm_554 wm_555 wm_4 wm_556) rfl rfl rfl (by decide +kernel) ⟨Nat.le_of_ble_eq_true rfl, Nat.le_of_ble_eq_true rfl⟩) rfl hl.1 rfl (Nat.zero_le _) dS_byteOf_5 ⟨Nat.le_refl _, Nat.le_refl _⟩) (fun H locs M => ?_)
  refine w_astore_n (lv' := [(3, va_rf v5), (0, va_rf (some x0)), (1, .int x1), (2, .int x2)]) C.x C.b dS_byteOf_8 rfl hl (by decide) rfl (fun ls hl => ?_)
  refine w_aload_n C.x C.b dS_byteOf_9 rfl (lv_at hl 0 rfl) ?_
  refine w_ifnonnull (tgt := 17) C.x C.b dS_byteOf_10 (by decide) (fun c10 => ?_) (fun c10 => ?_)
  · rw [if_neg c10] at hf
    refine w_aload_n C.x C.b dS_byteOf_17 rfl (lv_at hl 0 rfl) ?_
    refine lv_iload_n C.x C.b dS_byteOf_18 rfl (lv_at hl 3 rfl) ?_
    obtain ⟨o19, g19, hf⟩ := Option.bind_eq_some_iff.mp hf
    obtain ⟨v19, h19, hf⟩ := Option.bind_eq_some_iff.mp hf
    refine w_ci M (w_runV C M g19 rfl (c_Row_at h19) (cwV 1 C.ts (hgV wm_703 wm_267 wm_268 wm_3 wm_269) rfl rfl rfl (by decide +kernel) ⟨Nat.le_of_ble_eq_true rfl, Nat.le_of_ble_eq_true rfl⟩) rfl hl.1 rfl (Nat.zero_le _) dS_byteOf_19 ⟨Nat.le_refl _, Nat.le_refl _⟩) (fun H locs M => ?_)
    exact b_S_byteOf_22 C hr hlk hnm _ _ _ _ M (lv_sub hl [] rfl) hf
  · rw [if_pos c10] at hf
    refine lv_iconst (v := (-1)) C.x C.b dS_byteOf_13 (by decide) ?_
    refine lv_goto (tgt := 22) C.x C.b dS_byteOf_14 (by decide) ?_
    exact b_S_byteOf_22 C hr hlk hnm _ _ _ _ M (lv_sub hl [] rfl) hf
