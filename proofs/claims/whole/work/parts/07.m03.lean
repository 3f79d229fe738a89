/-! m03: by wip/whole/gen.py -/
theorem dM_begin_0 : decode prog_11_method_25_code 0 = .ok (.aload_n 0, 1) := by decide +kernel
theorem dM_begin_1 : decode prog_11_method_25_code 1 = .ok (.iload_n 1, 1) := by decide +kernel
theorem dM_begin_2 : decode prog_11_method_25_code 2 = .ok (.putfield 238, 3) := by decide +kernel
theorem dM_begin_5 : decode prog_11_method_25_code 5 = .ok (.aload_n 0, 1) := by decide +kernel
theorem dM_begin_6 : decode prog_11_method_25_code 6 = .ok (.iload_n 1, 1) := by decide +kernel
theorem dM_begin_7 : decode prog_11_method_25_code 7 = .ok (.aload_n 0, 1) := by decide +kernel
theorem dM_begin_8 : decode prog_11_method_25_code 8 = .ok (.getfield 225, 3) := by decide +kernel
theorem dM_begin_11 : decode prog_11_method_25_code 11 = .ok (.if_icmp .le 7, 3) := by decide +kernel
theorem dM_begin_14 : decode prog_11_method_25_code 14 = .ok (.iload_n 1, 1) := by decide +kernel
theorem dM_begin_15 : decode prog_11_method_25_code 15 = .ok (.goto 7, 3) := by decide +kernel
theorem dM_begin_18 : decode prog_11_method_25_code 18 = .ok (.aload_n 0, 1) := by decide +kernel
theorem dM_begin_19 : decode prog_11_method_25_code 19 = .ok (.getfield 225, 3) := by decide +kernel
theorem dM_begin_22 : decode prog_11_method_25_code 22 = .ok (.putfield 225, 3) := by decide +kernel
theorem dM_begin_25 : decode prog_11_method_25_code 25 = .ok (.aload_n 0, 1) := by decide +kernel
theorem dM_begin_26 : decode prog_11_method_25_code 26 = .ok (.dup, 1) := by decide +kernel
theorem dM_begin_27 : decode prog_11_method_25_code 27 = .ok (.getfield 222, 3) := by decide +kernel
theorem dM_begin_30 : decode prog_11_method_25_code 30 = .ok (.iconst 1, 1) := by decide +kernel
theorem dM_begin_31 : decode prog_11_method_25_code 31 = .ok (.iadd, 1) := by decide +kernel
theorem dM_begin_32 : decode prog_11_method_25_code 32 = .ok (.putfield 222, 3) := by decide +kernel
theorem dM_begin_35 : decode prog_11_method_25_code 35 = .ok (.aload_n 0, 1) := by decide +kernel
theorem dM_begin_36 : decode prog_11_method_25_code 36 = .ok (.getfield 60, 3) := by decide +kernel
theorem dM_begin_39 : decode prog_11_method_25_code 39 = .ok (.iload_n 1, 1) := by decide +kernel
theorem dM_begin_40 : decode prog_11_method_25_code 40 = .ok (.iload_n 2, 1) := by decide +kernel
theorem dM_begin_41 : decode prog_11_method_25_code 41 = .ok (.iastore, 1) := by decide +kernel
theorem dM_begin_42 : decode prog_11_method_25_code 42 = .ok (.aload_n 0, 1) := by decide +kernel
theorem dM_begin_43 : decode prog_11_method_25_code 43 = .ok (.getfield 63, 3) := by decide +kernel
theorem dM_begin_46 : decode prog_11_method_25_code 46 = .ok (.iload_n 1, 1) := by decide +kernel
theorem dM_begin_47 : decode prog_11_method_25_code 47 = .ok (.iconst 0, 1) := by decide +kernel
theorem dM_begin_48 : decode prog_11_method_25_code 48 = .ok (.iastore, 1) := by decide +kernel
theorem dM_begin_49 : decode prog_11_method_25_code 49 = .ok (.aload_n 0, 1) := by decide +kernel
theorem dM_begin_50 : decode prog_11_method_25_code 50 = .ok (.getfield 75, 3) := by decide +kernel
theorem dM_begin_53 : decode prog_11_method_25_code 53 = .ok (.iload_n 1, 1) := by decide +kernel
theorem dM_begin_54 : decode prog_11_method_25_code 54 = .ok (.iconst 0, 1) := by decide +kernel
theorem dM_begin_55 : decode prog_11_method_25_code 55 = .ok (.iastore, 1) := by decide +kernel
theorem dM_begin_56 : decode prog_11_method_25_code 56 = .ok (.iconst 0, 1) := by decide +kernel
theorem dM_begin_57 : decode prog_11_method_25_code 57 = .ok (.istore 4, 2) := by decide +kernel
theorem dM_begin_59 : decode prog_11_method_25_code 59 = .ok (.iload 4, 2) := by decide +kernel
theorem dM_begin_61 : decode prog_11_method_25_code 61 = .ok (.bipush 8, 2) := by decide +kernel
theorem dM_begin_63 : decode prog_11_method_25_code 63 = .ok (.if_icmp .ge 22, 3) := by decide +kernel
theorem dM_begin_66 : decode prog_11_method_25_code 66 = .ok (.aload_n 0, 1) := by decide +kernel
theorem dM_begin_67 : decode prog_11_method_25_code 67 = .ok (.getfield 69, 3) := by decide +kernel
theorem dM_begin_70 : decode prog_11_method_25_code 70 = .ok (.bipush 8, 2) := by decide +kernel
theorem dM_begin_72 : decode prog_11_method_25_code 72 = .ok (.iload_n 1, 1) := by decide +kernel
theorem dM_begin_73 : decode prog_11_method_25_code 73 = .ok (.imul, 1) := by decide +kernel
theorem dM_begin_74 : decode prog_11_method_25_code 74 = .ok (.iload 4, 2) := by decide +kernel
theorem dM_begin_76 : decode prog_11_method_25_code 76 = .ok (.iadd, 1) := by decide +kernel
theorem dM_begin_77 : decode prog_11_method_25_code 77 = .ok (.iconst 0, 1) := by decide +kernel
theorem dM_begin_78 : decode prog_11_method_25_code 78 = .ok (.iastore, 1) := by decide +kernel
theorem dM_begin_79 : decode prog_11_method_25_code 79 = .ok (.iinc 4 1, 3) := by decide +kernel
theorem dM_begin_82 : decode prog_11_method_25_code 82 = .ok (.goto (-23), 3) := by decide +kernel
theorem dM_begin_85 : decode prog_11_method_25_code 85 = .ok (.iconst 0, 1) := by decide +kernel
theorem dM_begin_86 : decode prog_11_method_25_code 86 = .ok (.istore 4, 2) := by decide +kernel
theorem dM_begin_88 : decode prog_11_method_25_code 88 = .ok (.iload 4, 2) := by decide +kernel
theorem dM_begin_90 : decode prog_11_method_25_code 90 = .ok (.bipush 32, 2) := by decide +kernel
theorem dM_begin_92 : decode prog_11_method_25_code 92 = .ok (.if_icmp .ge 22, 3) := by decide +kernel
theorem dM_begin_95 : decode prog_11_method_25_code 95 = .ok (.aload_n 0, 1) := by decide +kernel
theorem dM_begin_96 : decode prog_11_method_25_code 96 = .ok (.getfield 72, 3) := by decide +kernel
theorem dM_begin_99 : decode prog_11_method_25_code 99 = .ok (.bipush 32, 2) := by decide +kernel
theorem dM_begin_101 : decode prog_11_method_25_code 101 = .ok (.iload_n 1, 1) := by decide +kernel
theorem dM_begin_102 : decode prog_11_method_25_code 102 = .ok (.imul, 1) := by decide +kernel
theorem dM_begin_103 : decode prog_11_method_25_code 103 = .ok (.iload 4, 2) := by decide +kernel
theorem dM_begin_105 : decode prog_11_method_25_code 105 = .ok (.iadd, 1) := by decide +kernel
theorem dM_begin_106 : decode prog_11_method_25_code 106 = .ok (.iconst 0, 1) := by decide +kernel
theorem dM_begin_107 : decode prog_11_method_25_code 107 = .ok (.iastore, 1) := by decide +kernel
theorem dM_begin_108 : decode prog_11_method_25_code 108 = .ok (.iinc 4 1, 3) := by decide +kernel
theorem dM_begin_111 : decode prog_11_method_25_code 111 = .ok (.goto (-23), 3) := by decide +kernel
theorem dM_begin_114 : decode prog_11_method_25_code 114 = .ok (.aload_n 0, 1) := by decide +kernel
theorem dM_begin_115 : decode prog_11_method_25_code 115 = .ok (.getfield 69, 3) := by decide +kernel
theorem dM_begin_118 : decode prog_11_method_25_code 118 = .ok (.bipush 8, 2) := by decide +kernel
theorem dM_begin_120 : decode prog_11_method_25_code 120 = .ok (.iload_n 1, 1) := by decide +kernel
theorem dM_begin_121 : decode prog_11_method_25_code 121 = .ok (.imul, 1) := by decide +kernel
theorem dM_begin_122 : decode prog_11_method_25_code 122 = .ok (.iload_n 3, 1) := by decide +kernel
theorem dM_begin_123 : decode prog_11_method_25_code 123 = .ok (.iastore, 1) := by decide +kernel
theorem dM_begin_124 : decode prog_11_method_25_code 124 = .ok (.return_, 1) := by decide +kernel
abbrev rm_M_begin : Room := { frames := 0, cells := 0, slots := 0, locals := 0 }
def f_M_begin_b88 (N : Nat) : Nat → Option Nat → Int32 → Int32 → Int32 → hE → Option (hE)
  | 0, _, _, _, _, _ => none
  | n + 1, y0, y1, y3, y4, E => (
  if 32 ≤ y4 then (
  (gR E y0 7 29).bind fun v115 =>
  (tI E v115 0 (8 * y1) y3).bind fun E123 =>
  some E123
  ) else (
  (gR E y0 7 30).bind fun v96 =>
  (tI E v96 0 ((32 * y1) + y4) 0).bind fun E107 =>
  f_M_begin_b88 N n y0 y1 y3 (y4 + 1) E107
  ))
set_option maxHeartbeats 4000000 in
set_option maxRecDepth 100000 in
theorem b_M_begin_88 {p : Program} {l : Launch} {e : Env} {s : State} {m : MethodId} {args : Array Value} {below : List Frame} {meth : Method} {c : Code} {D : va_G} {kA : Nat → ClassId} {S : hE} {g : Nat → Nat} {n0 nx : Nat} {N : Nat} {res : hE} (C : hX p s m args c prog_11_method_25_code 5 R_M ws_M_begin D kA S g n0) (hr : meth.sig.returnType = none) (hlk : meth.locks = false) (hnm : meth.name = "begin") : ∀ n : Nat, ∀ (y0 : Option Nat) (y1 : Int32) (y3 : Int32) (y4 : Int32) (E : hE) (H : Heap) (locs : List Loc) (ls : Array Slot), hY D kA n0 s E nx H locs → lv_has ls 5 [(0, va_rf y0), (1, .int y1), (3, .int y3), (4, .int y4)] → f_M_begin_b88 N n y0 y1 y3 y4 E = some res → W p l e rm_M_begin s m args below meth c H locs 0 0 (MQ below (va_Qv (fun w => w = (res, nx)) (hJ D kA S g n0) (fun q => n0 ≤ q)) args s 0 0 (fun q => n0 ≤ q)) (F0 m 88 ls []) := by
  intro n
  induction n with
  | zero =>
    intro y0 y1 y3 y4 E H locs ls M hl hf
    simp [f_M_begin_b88] at hf
  | succ n ih =>
    intro y0 y1 y3 y4 E H locs ls M hl hf
    rw [f_M_begin_b88] at hf
    refine lv_iload C.x C.b dM_begin_88 (lv_at hl 3 rfl) ?_
    refine lv_bipush (v := 32) C.x C.b dM_begin_90 (by decide) ?_
    refine lv_icmp_ge (tgt := 114) C.x C.b dM_begin_92 (by decide) (fun c92 => ?_) (fun c92 => ?_)
    · rw [if_pos c92] at hf
      refine w_aload_n C.x C.b dM_begin_114 rfl (lv_at hl 0 rfl) ?_
      obtain ⟨v115, h115, hf⟩ := Option.bind_eq_some_iff.mp hf
      refine w_getR C M h115 rfl (hm_in in_M) (by decide) (List.mem_cons_of_mem _ wm_752) rfl dM_begin_115 ?_
      refine lv_bipush (v := 8) C.x C.b dM_begin_118 (by decide) ?_
      refine lv_iload_n C.x C.b dM_begin_120 rfl (lv_at hl 1 rfl) ?_
      refine lv_imul C.x C.b dM_begin_121 ?_
      refine lv_iload_n C.x C.b dM_begin_122 rfl (lv_at hl 2 rfl) ?_
      obtain ⟨E123, h123, hf⟩ := Option.bind_eq_some_iff.mp hf
      refine w_iast C M h123 rfl dM_begin_123 (fun H locs M => ?_)
      cases hf
      exact w_vret C M hr hlk (Nat.le_refl _) (Nat.le_refl _) dM_begin_124 rfl
    · rw [if_neg c92] at hf
      refine w_aload_n C.x C.b dM_begin_95 rfl (lv_at hl 0 rfl) ?_
      obtain ⟨v96, h96, hf⟩ := Option.bind_eq_some_iff.mp hf
      refine w_getR C M h96 rfl (hm_in in_M) (by decide) (List.mem_cons_of_mem _ wm_753) rfl dM_begin_96 ?_
      refine lv_bipush (v := 32) C.x C.b dM_begin_99 (by decide) ?_
      refine lv_iload_n C.x C.b dM_begin_101 rfl (lv_at hl 1 rfl) ?_
      refine lv_imul C.x C.b dM_begin_102 ?_
      refine lv_iload C.x C.b dM_begin_103 (lv_at hl 3 rfl) ?_
      refine lv_iadd C.x C.b dM_begin_105 ?_
      refine lv_iconst (v := 0) C.x C.b dM_begin_106 (by decide) ?_
      obtain ⟨E107, h107, hf⟩ := Option.bind_eq_some_iff.mp hf
      refine w_iast C M h107 rfl dM_begin_107 (fun H locs M => ?_)
      refine lv_iinc (v := y4 + 1) (lv' := [(4, .int (y4 + 1)), (0, va_rf y0), (1, .int y1), (3, .int y3)]) C.x C.b dM_begin_108 hl (k := 3) rfl rfl (by decide) rfl (fun ls hl => ?_)
      refine lv_goto (tgt := 88) C.x C.b dM_begin_111 (by decide) ?_
      exact ih _ _ _ _ _ _ _ _ M (lv_sub hl [1, 2, 3, 0] rfl) hf
def f_M_begin_b59 (N : Nat) : Nat → Option Nat → Int32 → Int32 → Int32 → hE → Option (hE)
  | 0, _, _, _, _, _ => none
  | n + 1, y0, y1, y3, y4, E => (
  if 8 ≤ y4 then (
  f_M_begin_b88 N N y0 y1 y3 0 E
  ) else (
  (gR E y0 7 29).bind fun v67 =>
  (tI E v67 0 ((8 * y1) + y4) 0).bind fun E78 =>
  f_M_begin_b59 N n y0 y1 y3 (y4 + 1) E78
  ))
set_option maxHeartbeats 4000000 in
set_option maxRecDepth 100000 in
theorem b_M_begin_59 {p : Program} {l : Launch} {e : Env} {s : State} {m : MethodId} {args : Array Value} {below : List Frame} {meth : Method} {c : Code} {D : va_G} {kA : Nat → ClassId} {S : hE} {g : Nat → Nat} {n0 nx : Nat} {N : Nat} {res : hE} (C : hX p s m args c prog_11_method_25_code 5 R_M ws_M_begin D kA S g n0) (hr : meth.sig.returnType = none) (hlk : meth.locks = false) (hnm : meth.name = "begin") : ∀ n : Nat, ∀ (y0 : Option Nat) (y1 : Int32) (y3 : Int32) (y4 : Int32) (E : hE) (H : Heap) (locs : List Loc) (ls : Array Slot), hY D kA n0 s E nx H locs → lv_has ls 5 [(0, va_rf y0), (1, .int y1), (3, .int y3), (4, .int y4)] → f_M_begin_b59 N n y0 y1 y3 y4 E = some res → W p l e rm_M_begin s m args below meth c H locs 0 0 (MQ below (va_Qv (fun w => w = (res, nx)) (hJ D kA S g n0) (fun q => n0 ≤ q)) args s 0 0 (fun q => n0 ≤ q)) (F0 m 59 ls []) := by
  intro n
  induction n with
  | zero =>
    intro y0 y1 y3 y4 E H locs ls M hl hf
    simp [f_M_begin_b59] at hf
  | succ n ih =>
    intro y0 y1 y3 y4 E H locs ls M hl hf
    rw [f_M_begin_b59] at hf
    refine lv_iload C.x C.b dM_begin_59 (lv_at hl 3 rfl) ?_
    refine lv_bipush (v := 8) C.x C.b dM_begin_61 (by decide) ?_
    refine lv_icmp_ge (tgt := 85) C.x C.b dM_begin_63 (by decide) (fun c63 => ?_) (fun c63 => ?_)
    · rw [if_pos c63] at hf
      refine lv_iconst (v := 0) C.x C.b dM_begin_85 (by decide) ?_
      refine lv_istore (lv' := [(4, .int 0), (0, va_rf y0), (1, .int y1), (3, .int y3)]) C.x C.b dM_begin_86 hl (by decide) rfl (fun ls hl => ?_)
      exact b_M_begin_88 C hr hlk hnm N _ _ _ _ _ _ _ _ M (lv_sub hl [1, 2, 3, 0] rfl) hf
    · rw [if_neg c63] at hf
      refine w_aload_n C.x C.b dM_begin_66 rfl (lv_at hl 0 rfl) ?_
      obtain ⟨v67, h67, hf⟩ := Option.bind_eq_some_iff.mp hf
      refine w_getR C M h67 rfl (hm_in in_M) (by decide) (List.mem_cons_of_mem _ wm_752) rfl dM_begin_67 ?_
      refine lv_bipush (v := 8) C.x C.b dM_begin_70 (by decide) ?_
      refine lv_iload_n C.x C.b dM_begin_72 rfl (lv_at hl 1 rfl) ?_
      refine lv_imul C.x C.b dM_begin_73 ?_
      refine lv_iload C.x C.b dM_begin_74 (lv_at hl 3 rfl) ?_
      refine lv_iadd C.x C.b dM_begin_76 ?_
      refine lv_iconst (v := 0) C.x C.b dM_begin_77 (by decide) ?_
      obtain ⟨E78, h78, hf⟩ := Option.bind_eq_some_iff.mp hf
      refine w_iast C M h78 rfl dM_begin_78 (fun H locs M => ?_)
      refine lv_iinc (v := y4 + 1) (lv' := [(4, .int (y4 + 1)), (0, va_rf y0), (1, .int y1), (3, .int y3)]) C.x C.b dM_begin_79 hl (k := 3) rfl rfl (by decide) rfl (fun ls hl => ?_)
      refine lv_goto (tgt := 59) C.x C.b dM_begin_82 (by decide) ?_
      exact ih _ _ _ _ _ _ _ _ M (lv_sub hl [1, 2, 3, 0] rfl) hf
def f_M_begin_b22 (N : Nat) (y0 : Option Nat) (y1 : Int32) (y2 : Int32) (y3 : Int32) (t0 : Option Nat) (t1 : Int32) (E : hE) : Option (hE) := (
  (sI E t0 7 19 t1).bind fun E22 =>
  (gI E22 y0 7 18).bind fun v27 =>
  (sI E22 y0 7 18 (v27 + 1)).bind fun E32 =>
  (gR E32 y0 7 26).bind fun v36 =>
  (tI E32 v36 0 y1 y2).bind fun E41 =>
  (gR E41 y0 7 27).bind fun v43 =>
  (tI E41 v43 0 y1 0).bind fun E48 =>
  (gR E48 y0 7 31).bind fun v50 =>
  (tI E48 v50 0 y1 0).bind fun E55 =>
  f_M_begin_b59 N N y0 y1 y3 0 E55)
set_option maxHeartbeats 4000000 in
set_option maxRecDepth 100000 in
theorem b_M_begin_22 {p : Program} {l : Launch} {e : Env} {s : State} {m : MethodId} {args : Array Value} {below : List Frame} {meth : Method} {c : Code} {D : va_G} {kA : Nat → ClassId} {S : hE} {g : Nat → Nat} {n0 nx : Nat} {N : Nat} {res : hE} (C : hX p s m args c prog_11_method_25_code 5 R_M ws_M_begin D kA S g n0) (hr : meth.sig.returnType = none) (hlk : meth.locks = false) (hnm : meth.name = "begin") : ∀ (y0 : Option Nat) (y1 : Int32) (y2 : Int32) (y3 : Int32) (t0 : Option Nat) (t1 : Int32) (E : hE) (H : Heap) (locs : List Loc) (ls : Array Slot), hY D kA n0 s E nx H locs → lv_has ls 5 [(0, va_rf y0), (1, .int y1), (2, .int y2), (3, .int y3)] → f_M_begin_b22 N  y0 y1 y2 y3 t0 t1 E = some res → W p l e rm_M_begin s m args below meth c H locs 0 0 (MQ below (va_Qv (fun w => w = (res, nx)) (hJ D kA S g n0) (fun q => n0 ≤ q)) args s 0 0 (fun q => n0 ≤ q)) (F0 m 22 ls [.int t1, va_rf t0]) := by
  intro y0 y1 y2 y3 t0 t1 E H locs ls M hl hf
  unfold f_M_begin_b22 at hf
  obtain ⟨E22, h22, hf⟩ := Option.bind_eq_some_iff.mp hf
  refine w_putV (ty := .int) C M ty_M h22 rfl (hm_in in_M) tyok_M nm_M (by decide) (List.mem_cons_of_mem _ wm_742) rfl rfl (by decide +kernel) rfl rfl dM_begin_22 (fun H locs M => ?_)
  refine w_aload_n C.x C.b dM_begin_25 rfl (lv_at hl 0 rfl) ?_
  refine lv_dup C.x C.b dM_begin_26 (va_rf_cat _) ?_
  obtain ⟨v27, h27, hf⟩ := Option.bind_eq_some_iff.mp hf
  refine w_getI C M h27 rfl (hm_in in_M) (by decide) (List.mem_cons_of_mem _ wm_741) rfl dM_begin_27 ?_
  refine lv_iconst (v := 1) C.x C.b dM_begin_30 (by decide) ?_
  refine lv_iadd C.x C.b dM_begin_31 ?_
  obtain ⟨E32, h32, hf⟩ := Option.bind_eq_some_iff.mp hf
  refine w_putV (ty := .int) C M ty_M h32 rfl (hm_in in_M) tyok_M nm_M (by decide) (List.mem_cons_of_mem _ wm_741) rfl rfl (by decide +kernel) rfl rfl dM_begin_32 (fun H locs M => ?_)
  refine w_aload_n C.x C.b dM_begin_35 rfl (lv_at hl 0 rfl) ?_
  obtain ⟨v36, h36, hf⟩ := Option.bind_eq_some_iff.mp hf
  refine w_getR C M h36 rfl (hm_in in_M) (by decide) (List.mem_cons_of_mem _ wm_749) rfl dM_begin_36 ?_
  refine lv_iload_n C.x C.b dM_begin_39 rfl (lv_at hl 1 rfl) ?_
  refine lv_iload_n C.x C.b dM_begin_40 rfl (lv_at hl 2 rfl) ?_
  obtain ⟨E41, h41, hf⟩ := Option.bind_eq_some_iff.mp hf
  refine w_iast C M h41 rfl dM_begin_41 (fun H locs M => ?_)
  refine w_aload_n C.x C.b dM_begin_42 rfl (lv_at hl 0 rfl) ?_
  obtain ⟨v43, h43, hf⟩ := Option.bind_eq_some_iff.mp hf
  refine w_getR C M h43 rfl (hm_in in_M) (by decide) (List.mem_cons_of_mem _ wm_750) rfl dM_begin_43 ?_
  refine lv_iload_n C.x C.b dM_begin_46 rfl (lv_at hl 1 rfl) ?_
  refine lv_iconst (v := 0) C.x C.b dM_begin_47 (by decide) ?_
  obtain ⟨E48, h48, hf⟩ := Option.bind_eq_some_iff.mp hf
  refine w_iast C M h48 rfl dM_begin_48 (fun H locs M => ?_)
  refine w_aload_n C.x C.b dM_begin_49 rfl (lv_at hl 0 rfl) ?_
  obtain ⟨v50, h50, hf⟩ := Option.bind_eq_some_iff.mp hf
  refine w_getR C M h50 rfl (hm_in in_M) (by decide) (List.mem_cons_of_mem _ wm_754) rfl dM_begin_50 ?_
  refine lv_iload_n C.x C.b dM_begin_53 rfl (lv_at hl 1 rfl) ?_
  refine lv_iconst (v := 0) C.x C.b dM_begin_54 (by decide) ?_
  obtain ⟨E55, h55, hf⟩ := Option.bind_eq_some_iff.mp hf
  refine w_iast C M h55 rfl dM_begin_55 (fun H locs M => ?_)
  refine lv_iconst (v := 0) C.x C.b dM_begin_56 (by decide) ?_
  refine lv_istore (lv' := [(4, .int 0), (0, va_rf y0), (1, .int y1), (2, .int y2), (3, .int y3)]) C.x C.b dM_begin_57 hl (by decide) rfl (fun ls hl => ?_)
  exact b_M_begin_59 C hr hlk hnm N _ _ _ _ _ _ _ _ M (lv_sub hl [1, 2, 4, 0] rfl) hf
def f_M_begin (N : Nat) (x0 : Nat) (x1 : Int32) (x2 : Int32) (x3 : Int32) (E : hE) : Option (hE) := (
  (sI E (some x0) 7 25 x1).bind fun E2 =>
  (gI E2 (some x0) 7 19).bind fun v8 =>
  if x1 ≤ v8 then (
  (gI E2 (some x0) 7 19).bind fun v19 =>
  f_M_begin_b22 N (some x0) x1 x2 x3 (some x0) v19 E2
  ) else (
  f_M_begin_b22 N (some x0) x1 x2 x3 (some x0) x1 E2
  ))
set_option maxHeartbeats 4000000 in
set_option maxRecDepth 100000 in
theorem c_M_begin {l : Launch} {D : va_G} {kA : Nat → ClassId} {S : hE} {g : Nat → Nat} {n0 nx : Nat} {N : Nat} {x0 : Nat} {x1 : Int32} {x2 : Int32} {x3 : Int32} {E : hE} {res : hE} (hf : f_M_begin N x0 x1 x2 x3 E = some res) : Met l y_M_begin ws_M_begin rm_M_begin (va_Pc [va_rf (some x0), .int x1, .int x2, .int x3] (hJ D kA S g n0 (E, nx))) (va_Qv (fun w => w = (res, nx)) (hJ D kA S g n0) (fun q => n0 ≤ q)) 0 0 (fun q => n0 ≤ q) := by
  refine h_met (cc := prog_11_method_25_code) (maxL := 5) (ret := none) (lvs := [(0, va_rf (some x0)), (1, .int x1), (2, .int x2), (3, .int x3)]) zZ_k (by decide) rfl (by simp [lg_sl, va_rf_cat, cat_i, cat_l, cat_n]) (by simp [lv_args, va_rf_cat, cat_i, cat_l, cat_n]) ?_
  intro p e s m below meth c ls C M hr hlk hnm hl
  unfold f_M_begin at hf
  refine w_aload_n C.x C.b dM_begin_0 rfl (lv_at hl 0 rfl) ?_
  refine lv_iload_n C.x C.b dM_begin_1 rfl (lv_at hl 1 rfl) ?_
  obtain ⟨E2, h2, hf⟩ := Option.bind_eq_some_iff.mp hf
  refine w_putV (ty := .int) C M ty_M h2 rfl (hm_in in_M) tyok_M nm_M (by decide) (List.mem_cons_of_mem _ wm_748) rfl rfl (by decide +kernel) rfl rfl dM_begin_2 (fun H locs M => ?_)
  refine w_aload_n C.x C.b dM_begin_5 rfl (lv_at hl 0 rfl) ?_
  refine lv_iload_n C.x C.b dM_begin_6 rfl (lv_at hl 1 rfl) ?_
  refine w_aload_n C.x C.b dM_begin_7 rfl (lv_at hl 0 rfl) ?_
  obtain ⟨v8, h8, hf⟩ := Option.bind_eq_some_iff.mp hf
  refine w_getI C M h8 rfl (hm_in in_M) (by decide) (List.mem_cons_of_mem _ wm_742) rfl dM_begin_8 ?_
  refine lv_icmp_le (tgt := 18) C.x C.b dM_begin_11 (by decide) (fun c11 => ?_) (fun c11 => ?_)
  · rw [if_pos c11] at hf
    refine w_aload_n C.x C.b dM_begin_18 rfl (lv_at hl 0 rfl) ?_
    obtain ⟨v19, h19, hf⟩ := Option.bind_eq_some_iff.mp hf
    refine w_getI C M h19 rfl (hm_in in_M) (by decide) (List.mem_cons_of_mem _ wm_742) rfl dM_begin_19 ?_
    exact b_M_begin_22 C hr hlk hnm _ _ _ _ _ _ _ _ _ _ M (lv_sub hl [0, 1, 2, 3] rfl) hf
  · rw [if_neg c11] at hf
    refine lv_iload_n C.x C.b dM_begin_14 rfl (lv_at hl 1 rfl) ?_
    refine lv_goto (tgt := 22) C.x C.b dM_begin_15 (by decide) ?_
    exact b_M_begin_22 C hr hlk hnm _ _ _ _ _ _ _ _ _ _ M (lv_sub hl [0, 1, 2, 3] rfl) hf
theorem dM_comesToStatement_0 : decode prog_11_method_26_code 0 = .ok (.aload_n 0, 1) := by decide +kernel
theorem dM_comesToStatement_1 : decode prog_11_method_26_code 1 = .ok (.getfield 238, 3) := by decide +kernel
theorem dM_comesToStatement_4 : decode prog_11_method_26_code 4 = .ok (.istore_n 1, 1) := by decide +kernel
theorem dM_comesToStatement_5 : decode prog_11_method_26_code 5 = .ok (.aload_n 0, 1) := by decide +kernel
theorem dM_comesToStatement_6 : decode prog_11_method_26_code 6 = .ok (.getfield 63, 3) := by decide +kernel
theorem dM_comesToStatement_9 : decode prog_11_method_26_code 9 = .ok (.iload_n 1, 1) := by decide +kernel
theorem dM_comesToStatement_10 : decode prog_11_method_26_code 10 = .ok (.iaload, 1) := by decide +kernel
theorem dM_comesToStatement_11 : decode prog_11_method_26_code 11 = .ok (.aload_n 0, 1) := by decide +kernel
theorem dM_comesToStatement_12 : decode prog_11_method_26_code 12 = .ok (.getfield 22, 3) := by decide +kernel
theorem dM_comesToStatement_15 : decode prog_11_method_26_code 15 = .ok (.aload_n 0, 1) := by decide +kernel
theorem dM_comesToStatement_16 : decode prog_11_method_26_code 16 = .ok (.getfield 60, 3) := by decide +kernel
theorem dM_comesToStatement_19 : decode prog_11_method_26_code 19 = .ok (.iload_n 1, 1) := by decide +kernel
theorem dM_comesToStatement_20 : decode prog_11_method_26_code 20 = .ok (.iaload, 1) := by decide +kernel
theorem dM_comesToStatement_21 : decode prog_11_method_26_code 21 = .ok (.iaload, 1) := by decide +kernel
theorem dM_comesToStatement_22 : decode prog_11_method_26_code 22 = .ok (.if_icmp .ge 48, 3) := by decide +kernel
theorem dM_comesToStatement_25 : decode prog_11_method_26_code 25 = .ok (.aload_n 0, 1) := by decide +kernel
theorem dM_comesToStatement_26 : decode prog_11_method_26_code 26 = .ok (.aload_n 0, 1) := by decide +kernel
theorem dM_comesToStatement_27 : decode prog_11_method_26_code 27 = .ok (.getfield 60, 3) := by decide +kernel
theorem dM_comesToStatement_30 : decode prog_11_method_26_code 30 = .ok (.iload_n 1, 1) := by decide +kernel
theorem dM_comesToStatement_31 : decode prog_11_method_26_code 31 = .ok (.iaload, 1) := by decide +kernel
theorem dM_comesToStatement_32 : decode prog_11_method_26_code 32 = .ok (.aload_n 0, 1) := by decide +kernel
theorem dM_comesToStatement_33 : decode prog_11_method_26_code 33 = .ok (.getfield 63, 3) := by decide +kernel
theorem dM_comesToStatement_36 : decode prog_11_method_26_code 36 = .ok (.iload_n 1, 1) := by decide +kernel
theorem dM_comesToStatement_37 : decode prog_11_method_26_code 37 = .ok (.iaload, 1) := by decide +kernel
theorem dM_comesToStatement_38 : decode prog_11_method_26_code 38 = .ok (.invokevirtual 192, 3) := by decide +kernel
theorem dM_comesToStatement_41 : decode prog_11_method_26_code 41 = .ok (.aload_n 0, 1) := by decide +kernel
theorem dM_comesToStatement_42 : decode prog_11_method_26_code 42 = .ok (.getfield 102, 3) := by decide +kernel
theorem dM_comesToStatement_45 : decode prog_11_method_26_code 45 = .ok (.ifCond .le 12, 3) := by decide +kernel
theorem dM_comesToStatement_48 : decode prog_11_method_26_code 48 = .ok (.aload_n 0, 1) := by decide +kernel
theorem dM_comesToStatement_49 : decode prog_11_method_26_code 49 = .ok (.invokevirtual 196, 3) := by decide +kernel
theorem dM_comesToStatement_52 : decode prog_11_method_26_code 52 = .ok (.ifCond .ne 5, 3) := by decide +kernel
theorem dM_comesToStatement_55 : decode prog_11_method_26_code 55 = .ok (.iconst 1, 1) := by decide +kernel
theorem dM_comesToStatement_56 : decode prog_11_method_26_code 56 = .ok (.ireturn, 1) := by decide +kernel
theorem dM_comesToStatement_57 : decode prog_11_method_26_code 57 = .ok (.aload_n 0, 1) := by decide +kernel
theorem dM_comesToStatement_58 : decode prog_11_method_26_code 58 = .ok (.getfield 63, 3) := by decide +kernel
theorem dM_comesToStatement_61 : decode prog_11_method_26_code 61 = .ok (.iload_n 1, 1) := by decide +kernel
theorem dM_comesToStatement_62 : decode prog_11_method_26_code 62 = .ok (.dup2, 1) := by decide +kernel
theorem dM_comesToStatement_63 : decode prog_11_method_26_code 63 = .ok (.iaload, 1) := by decide +kernel
theorem dM_comesToStatement_64 : decode prog_11_method_26_code 64 = .ok (.iconst 1, 1) := by decide +kernel
theorem dM_comesToStatement_65 : decode prog_11_method_26_code 65 = .ok (.iadd, 1) := by decide +kernel
theorem dM_comesToStatement_66 : decode prog_11_method_26_code 66 = .ok (.iastore, 1) := by decide +kernel
theorem dM_comesToStatement_67 : decode prog_11_method_26_code 67 = .ok (.goto (-62), 3) := by decide +kernel
theorem dM_comesToStatement_70 : decode prog_11_method_26_code 70 = .ok (.iconst 0, 1) := by decide +kernel
theorem dM_comesToStatement_71 : decode prog_11_method_26_code 71 = .ok (.ireturn, 1) := by decide +kernel
abbrev rm_M_comesToStatement : Room := { frames := 1, cells := 0, slots := 0, locals := 28 }
def f_M_comesToStatement_b57 (N : Nat) (k5 : Option Nat → Int32 → hE → Option (Int32 × hE)) (y0 : Option Nat) (y1 : Int32) (E : hE) : Option (Int32 × hE) := (
  (gR E y0 7 27).bind fun v58 =>
  (aI E v58 0 y1).bind fun v63 =>
  (tI E v58 0 y1 (v63 + 1)).bind fun E66 =>
  k5 y0 y1 E66)
set_option maxHeartbeats 4000000 in
set_option maxRecDepth 100000 in
theorem b_M_comesToStatement_57 {p : Program} {l : Launch} {e : Env} {s : State} {m : MethodId} {args : Array Value} {below : List Frame} {meth : Method} {c : Code} {D : va_G} {kA : Nat → ClassId} {S : hE} {g : Nat → Nat} {n0 nx : Nat} {N : Nat} {res : Int32 × hE} (C : hX p s m args c prog_11_method_26_code 2 R_M ws_M_comesToStatement D kA S g n0) (hr : meth.sig.returnType = (some .boolean)) (hlk : meth.locks = false) (hnm : meth.name = "comesToStatement") (k5 : Option Nat → Int32 → hE → Option (Int32 × hE)) (hk5 : ∀ (y0 : Option Nat) (y1 : Int32) (E : hE) (H : Heap) (locs : List Loc) (ls : Array Slot), hY D kA n0 s E nx H locs → lv_has ls 2 [(0, va_rf y0), (1, .int y1)] → k5 y0 y1 E = some res → W p l e rm_M_comesToStatement s m args below meth c H locs 0 0 (MQ below (va_Qi (fun r w => r = res.1 ∧ w = (res.2, nx)) (hJ D kA S g n0) (fun q => n0 ≤ q)) args s 0 0 (fun q => n0 ≤ q)) (F0 m 5 ls [])) : ∀ (y0 : Option Nat) (y1 : Int32) (E : hE) (H : Heap) (locs : List Loc) (ls : Array Slot), hY D kA n0 s E nx H locs → lv_has ls 2 [(0, va_rf y0), (1, .int y1)] → f_M_comesToStatement_b57 N k5 y0 y1 E = some res → W p l e rm_M_comesToStatement s m args below meth c H locs 0 0 (MQ below (va_Qi (fun r w => r = res.1 ∧ w = (res.2, nx)) (hJ D kA S g n0) (fun q => n0 ≤ q)) args s 0 0 (fun q => n0 ≤ q)) (F0 m 57 ls []) := by
  intro y0 y1 E H locs ls M hl hf
  unfold f_M_comesToStatement_b57 at hf
  refine w_aload_n C.x C.b dM_comesToStatement_57 rfl (lv_at hl 0 rfl) ?_
  obtain ⟨v58, h58, hf⟩ := Option.bind_eq_some_iff.mp hf
  refine w_getR C M h58 rfl (hm_in in_M) (by decide) (List.mem_cons_of_mem _ wm_750) rfl dM_comesToStatement_58 ?_
  refine lv_iload_n C.x C.b dM_comesToStatement_61 rfl (lv_at hl 1 rfl) ?_
  refine lv_dup2_11 C.x C.b dM_comesToStatement_62 rfl (va_rf_cat _) ?_
  obtain ⟨v63, h63, hf⟩ := Option.bind_eq_some_iff.mp hf
  refine w_iald C M h63 rfl dM_comesToStatement_63 ?_
  refine lv_iconst (v := 1) C.x C.b dM_comesToStatement_64 (by decide) ?_
  refine lv_iadd C.x C.b dM_comesToStatement_65 ?_
  obtain ⟨E66, h66, hf⟩ := Option.bind_eq_some_iff.mp hf
  refine w_iast C M h66 rfl dM_comesToStatement_66 (fun H locs M => ?_)
  refine lv_goto (tgt := 5) C.x C.b dM_comesToStatement_67 (by decide) ?_
  exact hk5 _ _ _ _ _ _ M (lv_sub hl [0, 1] rfl) hf
def f_M_comesToStatement_b5 (N : Nat) : Nat → Option Nat → Int32 → hE → Option (Int32 × hE)
  | 0, _, _, _ => none
  | n + 1, y0, y1, E => (
  (gR E y0 7 27).bind fun v6 =>
  (aI E v6 0 y1).bind fun v10 =>
  (gR E y0 7 5).bind fun v12 =>
  (gR E y0 7 26).bind fun v16 =>
  (aI E v16 0 y1).bind fun v20 =>
  (aI E v12 0 v20).bind fun v21 =>
  if v21 ≤ v10 then (
  some (0, E)
  ) else (
  (gR E y0 7 26).bind fun v27 =>
  (aI E v27 0 y1).bind fun v31 =>
  (gR E y0 7 27).bind fun v33 =>
  (aI E v33 0 y1).bind fun v37 =>
  (gO E y0 7).bind fun o38 =>
  (f_M_split N o38.1 v31 v37 E).bind fun v38 =>
  (gI v38 y0 7 8).bind fun v42 =>
  if v42 ≤ 0 then (
  f_M_comesToStatement_b57 N (f_M_comesToStatement_b5 N n) y0 y1 v38
  ) else (
  (gO v38 y0 7).bind fun o49 =>
  (f_M_isLabel v38 o49.1).bind fun v49 =>
  if v49 = 0 then (
  some (1, v38)
  ) else (
  f_M_comesToStatement_b57 N (f_M_comesToStatement_b5 N n) y0 y1 v38
  )
  )
  ))
set_option maxHeartbeats 4000000 in
set_option maxRecDepth 100000 in
theorem b_M_comesToStatement_5 {p : Program} {l : Launch} {e : Env} {s : State} {m : MethodId} {args : Array Value} {below : List Frame} {meth : Method} {c : Code} {D : va_G} {kA : Nat → ClassId} {S : hE} {g : Nat → Nat} {n0 nx : Nat} {N : Nat} {res : Int32 × hE} (C : hX p s m args c prog_11_method_26_code 2 R_M ws_M_comesToStatement D kA S g n0) (hr : meth.sig.returnType = (some .boolean)) (hlk : meth.locks = false) (hnm : meth.name = "comesToStatement") : ∀ n : Nat, ∀ (y0 : Option Nat) (y1 : Int32) (E : hE) (H : Heap) (locs : List Loc) (ls : Array Slot), hY D kA n0 s E nx H locs → lv_has ls 2 [(0, va_rf y0), (1, .int y1)] → f_M_comesToStatement_b5 N n y0 y1 E = some res → W p l e rm_M_comesToStatement s m args below meth c H locs 0 0 (MQ below (va_Qi (fun r w => r = res.1 ∧ w = (res.2, nx)) (hJ D kA S g n0) (fun q => n0 ≤ q)) args s 0 0 (fun q => n0 ≤ q)) (F0 m 5 ls []) := by
  intro n
  induction n with
  | zero =>
    intro y0 y1 E H locs ls M hl hf
    simp [f_M_comesToStatement_b5] at hf
  | succ n ih =>
    intro y0 y1 E H locs ls M hl hf
    rw [f_M_comesToStatement_b5] at hf
    refine w_aload_n C.x C.b dM_comesToStatement_5 rfl (lv_at hl 0 rfl) ?_
    obtain ⟨v6, h6, hf⟩ := Option.bind_eq_some_iff.mp hf
    refine w_getR C M h6 rfl (hm_in in_M) (by decide) (List.mem_cons_of_mem _ wm_750) rfl dM_comesToStatement_6 ?_
    refine lv_iload_n C.x C.b dM_comesToStatement_9 rfl (lv_at hl 1 rfl) ?_
    obtain ⟨v10, h10, hf⟩ := Option.bind_eq_some_iff.mp hf
    refine w_iald C M h10 rfl dM_comesToStatement_10 ?_
    refine w_aload_n C.x C.b dM_comesToStatement_11 rfl (lv_at hl 0 rfl) ?_
    obtain ⟨v12, h12, hf⟩ := Option.bind_eq_some_iff.mp hf
    refine w_getR C M h12 rfl (hm_in in_M) (by decide) (List.mem_cons_of_mem _ wm_728) rfl dM_comesToStatement_12 ?_
    refine w_aload_n C.x C.b dM_comesToStatement_15 rfl (lv_at hl 0 rfl) ?_
    obtain ⟨v16, h16, hf⟩ := Option.bind_eq_some_iff.mp hf
    refine w_getR C M h16 rfl (hm_in in_M) (by decide) (List.mem_cons_of_mem _ wm_749) rfl dM_comesToStatement_16 ?_
    refine lv_iload_n C.x C.b dM_comesToStatement_19 rfl (lv_at hl 1 rfl) ?_
    obtain ⟨v20, h20, hf⟩ := Option.bind_eq_some_iff.mp hf
    refine w_iald C M h20 rfl dM_comesToStatement_20 ?_
    obtain ⟨v21, h21, hf⟩ := Option.bind_eq_some_iff.mp hf
    refine w_iald C M h21 rfl dM_comesToStatement_21 ?_
    refine lv_icmp_ge (tgt := 70) C.x C.b dM_comesToStatement_22 (by decide) (fun c22 => ?_) (fun c22 => ?_)
    · rw [if_pos c22] at hf
      refine lv_iconst (v := 0) C.x C.b dM_comesToStatement_70 (by decide) ?_
      cases hf
      exact w_iret C M hr hlk rfl (Nat.le_refl _) (Nat.le_refl _) dM_comesToStatement_71 rfl rfl
    · rw [if_neg c22] at hf
      refine w_aload_n C.x C.b dM_comesToStatement_25 rfl (lv_at hl 0 rfl) ?_
      refine w_aload_n C.x C.b dM_comesToStatement_26 rfl (lv_at hl 0 rfl) ?_
      obtain ⟨v27, h27, hf⟩ := Option.bind_eq_some_iff.mp hf
      refine w_getR C M h27 rfl (hm_in in_M) (by decide) (List.mem_cons_of_mem _ wm_749) rfl dM_comesToStatement_27 ?_
      refine lv_iload_n C.x C.b dM_comesToStatement_30 rfl (lv_at hl 1 rfl) ?_
      obtain ⟨v31, h31, hf⟩ := Option.bind_eq_some_iff.mp hf
      refine w_iald C M h31 rfl dM_comesToStatement_31 ?_
      refine w_aload_n C.x C.b dM_comesToStatement_32 rfl (lv_at hl 0 rfl) ?_
      obtain ⟨v33, h33, hf⟩ := Option.bind_eq_some_iff.mp hf
      refine w_getR C M h33 rfl (hm_in in_M) (by decide) (List.mem_cons_of_mem _ wm_750) rfl dM_comesToStatement_33 ?_
      refine lv_iload_n C.x C.b dM_comesToStatement_36 rfl (lv_at hl 1 rfl) ?_
      obtain ⟨v37, h37, hf⟩ := Option.bind_eq_some_iff.mp hf
      refine w_iald C M h37 rfl dM_comesToStatement_37 ?_
      obtain ⟨o38, g38, hf⟩ := Option.bind_eq_some_iff.mp hf
      obtain ⟨v38, h38, hf⟩ := Option.bind_eq_some_iff.mp hf
      refine w_cv M (w_runV C M g38 rfl (c_M_split h38) (cwV 2 C.ts (hgV wm_844 wm_846 sel_M_split wm_6 wm_847) rfl rfl rfl (by decide +kernel) ⟨Nat.le_of_ble_eq_true rfl, Nat.le_of_ble_eq_true rfl⟩) rfl hl.1 rfl (Nat.zero_le _) dM_comesToStatement_38 ⟨Nat.le_refl _, Nat.le_refl _⟩) (fun H locs M => ?_)
      refine w_aload_n C.x C.b dM_comesToStatement_41 rfl (lv_at hl 0 rfl) ?_
      obtain ⟨v42, h42, hf⟩ := Option.bind_eq_some_iff.mp hf
      refine w_getI C M h42 rfl (hm_in in_M) (by decide) (List.mem_cons_of_mem _ wm_731) rfl dM_comesToStatement_42 ?_
      refine lv_if_le (tgt := 57) C.x C.b dM_comesToStatement_45 (by decide) (fun c45 => ?_) (fun c45 => ?_)
      · rw [if_pos c45] at hf
        exact b_M_comesToStatement_57 C hr hlk hnm (f_M_comesToStatement_b5 N n) ih _ _ _ _ _ _ M (lv_sub hl [0, 1] rfl) hf
      · rw [if_neg c45] at hf
        refine w_aload_n C.x C.b dM_comesToStatement_48 rfl (lv_at hl 0 rfl) ?_
        obtain ⟨o49, g49, hf⟩ := Option.bind_eq_some_iff.mp hf
        obtain ⟨v49, h49, hf⟩ := Option.bind_eq_some_iff.mp hf
        refine w_ci M (w_runV C M g49 rfl (c_M_isLabel h49) (cwV 0 C.ts (hgV wm_849 wm_851 sel_M_isLabel wm_6 wm_852) rfl rfl rfl (by decide +kernel) ⟨Nat.le_of_ble_eq_true rfl, Nat.le_of_ble_eq_true rfl⟩) rfl hl.1 rfl (Nat.zero_le _) dM_comesToStatement_49 ⟨Nat.le_refl _, Nat.le_refl _⟩) (fun H locs M => ?_)
        refine lv_if_ne (tgt := 57) C.x C.b dM_comesToStatement_52 (by decide) (fun c52 => ?_) (fun c52 => ?_)
        · rw [if_neg c52] at hf
          exact b_M_comesToStatement_57 C hr hlk hnm (f_M_comesToStatement_b5 N n) ih _ _ _ _ _ _ M (lv_sub hl [0, 1] rfl) hf
        · rw [if_pos c52] at hf
          refine lv_iconst (v := 1) C.x C.b dM_comesToStatement_55 (by decide) ?_
          cases hf
          exact w_iret C M hr hlk rfl (Nat.le_refl _) (Nat.le_refl _) dM_comesToStatement_56 rfl rfl
def f_M_comesToStatement (N : Nat) (x0 : Nat) (E : hE) : Option (Int32 × hE) := (
  (gI E (some x0) 7 25).bind fun v1 =>
  f_M_comesToStatement_b5 N N (some x0) v1 E)
set_option maxHeartbeats 4000000 in
set_option maxRecDepth 100000 in
theorem c_M_comesToStatement {l : Launch} {D : va_G} {kA : Nat → ClassId} {S : hE} {g : Nat → Nat} {n0 nx : Nat} {N : Nat} {x0 : Nat} {E : hE} {res : Int32 × hE} (hf : f_M_comesToStatement N x0 E = some res) : Met l y_M_comesToStatement ws_M_comesToStatement rm_M_comesToStatement (va_Pc [va_rf (some x0)] (hJ D kA S g n0 (E, nx))) (va_Qi (fun r w => r = res.1 ∧ w = (res.2, nx)) (hJ D kA S g n0) (fun q => n0 ≤ q)) 0 0 (fun q => n0 ≤ q) := by
  refine h_met (cc := prog_11_method_26_code) (maxL := 2) (ret := (some .boolean)) (lvs := [(0, va_rf (some x0))]) zZ_k (by decide) rfl (by simp [lg_sl, va_rf_cat, cat_i, cat_l, cat_n]) (by simp [lv_args, va_rf_cat, cat_i, cat_l, cat_n]) ?_
  intro p e s m below meth c ls C M hr hlk hnm hl
  unfold f_M_comesToStatement at hf
  refine w_aload_n C.x C.b dM_comesToStatement_0 rfl (lv_at hl 0 rfl) ?_
  obtain ⟨v1, h1, hf⟩ := Option.bind_eq_some_iff.mp hf
  refine w_getI C M h1 rfl (hm_in in_M) (by decide) (List.mem_cons_of_mem _ wm_748) rfl dM_comesToStatement_1 ?_
  refine lv_istore_n (lv' := [(1, .int v1), (0, va_rf (some x0))]) C.x C.b dM_comesToStatement_4 rfl hl (by decide) rfl (fun ls hl => ?_)
  exact b_M_comesToStatement_5 C hr hlk hnm N _ _ _ _ _ _ M (lv_sub hl [1, 0] rfl) hf
theorem dM_registerOf_0 : decode prog_11_method_27_code 0 = .ok (.aload_n 0, 1) := by decide +kernel
theorem dM_registerOf_1 : decode prog_11_method_27_code 1 = .ok (.getfield 32, 3) := by decide +kernel
theorem dM_registerOf_4 : decode prog_11_method_27_code 4 = .ok (.iload_n 1, 1) := by decide +kernel
theorem dM_registerOf_5 : decode prog_11_method_27_code 5 = .ok (.laload, 1) := by decide +kernel
theorem dM_registerOf_6 : decode prog_11_method_27_code 6 = .ok (.l2i, 1) := by decide +kernel
theorem dM_registerOf_7 : decode prog_11_method_27_code 7 = .ok (.bipush 97, 2) := by decide +kernel
theorem dM_registerOf_9 : decode prog_11_method_27_code 9 = .ok (.isub, 1) := by decide +kernel
theorem dM_registerOf_10 : decode prog_11_method_27_code 10 = .ok (.ireturn, 1) := by decide +kernel
abbrev rm_M_registerOf : Room := { frames := 0, cells := 0, slots := 0, locals := 0 }
def f_M_registerOf (E : hE) (x0 : Nat) (x1 : Int32) : Option (Int32) := (
  (gR E (some x0) 7 9).bind fun v1 =>
  (aJ E v1 2 x1).bind fun v5 =>
  some (v5.toInt32 - 97))
set_option maxHeartbeats 4000000 in
set_option maxRecDepth 100000 in
theorem c_M_registerOf {l : Launch} {D : va_G} {kA : Nat → ClassId} {S : hE} {g : Nat → Nat} {n0 nx : Nat} {x0 : Nat} {x1 : Int32} {E : hE} {res : Int32} (hf : f_M_registerOf E x0 x1 = some res) : Met l y_M_registerOf ws_M_registerOf rm_M_registerOf (va_Pc [va_rf (some x0), .int x1] (hJ D kA S g n0 (E, nx))) (va_Qi (fun r w => r = res ∧ w = (E, nx)) (hJ D kA S g n0) (fun q => n0 ≤ q)) 0 0 (fun q => n0 ≤ q) := by
  refine h_met (cc := prog_11_method_27_code) (maxL := 2) (ret := (some .int)) (lvs := [(0, va_rf (some x0)), (1, .int x1)]) zZ_k (by decide) rfl (by simp [lg_sl, va_rf_cat, cat_i, cat_l, cat_n]) (by simp [lv_args, va_rf_cat, cat_i, cat_l, cat_n]) ?_
  intro p e s m below meth c ls C M hr hlk hnm hl
  unfold f_M_registerOf at hf
  refine w_aload_n C.x C.b dM_registerOf_0 rfl (lv_at hl 0 rfl) ?_
  obtain ⟨v1, h1, hf⟩ := Option.bind_eq_some_iff.mp hf
  refine w_getR C M h1 rfl (hm_in in_M) (by decide) (List.mem_cons_of_mem _ wm_732) rfl dM_registerOf_1 ?_
  refine lv_iload_n C.x C.b dM_registerOf_4 rfl (lv_at hl 1 rfl) ?_
  obtain ⟨v5, h5, hf⟩ := Option.bind_eq_some_iff.mp hf
  refine w_lald C M h5 rfl dM_registerOf_5 ?_
  refine lv_l2i C.x C.b dM_registerOf_6 rfl ?_
  refine lv_bipush (v := 97) C.x C.b dM_registerOf_7 (by decide) ?_
  refine lv_isub C.x C.b dM_registerOf_9 ?_
  cases hf
  exact w_iret C M hr hlk rfl (Nat.le_refl _) (Nat.le_refl _) dM_registerOf_10 rfl rfl
theorem dM_value_0 : decode prog_11_method_29_code 0 = .ok (.aload_n 0, 1) := by decide +kernel
theorem dM_value_1 : decode prog_11_method_29_code 1 = .ok (.iload_n 2, 1) := by decide +kernel
theorem dM_value_2 : decode prog_11_method_29_code 2 = .ok (.invokevirtual 115, 3) := by decide +kernel
theorem dM_value_5 : decode prog_11_method_29_code 5 = .ok (.ifCond .eq 19, 3) := by decide +kernel
theorem dM_value_8 : decode prog_11_method_29_code 8 = .ok (.aload_n 0, 1) := by decide +kernel
theorem dM_value_9 : decode prog_11_method_29_code 9 = .ok (.getfield 69, 3) := by decide +kernel
theorem dM_value_12 : decode prog_11_method_29_code 12 = .ok (.bipush 8, 2) := by decide +kernel
theorem dM_value_14 : decode prog_11_method_29_code 14 = .ok (.iload_n 1, 1) := by decide +kernel
theorem dM_value_15 : decode prog_11_method_29_code 15 = .ok (.imul, 1) := by decide +kernel
theorem dM_value_16 : decode prog_11_method_29_code 16 = .ok (.aload_n 0, 1) := by decide +kernel
theorem dM_value_17 : decode prog_11_method_29_code 17 = .ok (.iload_n 2, 1) := by decide +kernel
theorem dM_value_18 : decode prog_11_method_29_code 18 = .ok (.invokevirtual 254, 3) := by decide +kernel
theorem dM_value_21 : decode prog_11_method_29_code 21 = .ok (.iadd, 1) := by decide +kernel
theorem dM_value_22 : decode prog_11_method_29_code 22 = .ok (.iaload, 1) := by decide +kernel
theorem dM_value_23 : decode prog_11_method_29_code 23 = .ok (.ireturn, 1) := by decide +kernel
theorem dM_value_24 : decode prog_11_method_29_code 24 = .ok (.aload_n 0, 1) := by decide +kernel
theorem dM_value_25 : decode prog_11_method_29_code 25 = .ok (.getfield 13, 3) := by decide +kernel
theorem dM_value_28 : decode prog_11_method_29_code 28 = .ok (.aload_n 0, 1) := by decide +kernel
theorem dM_value_29 : decode prog_11_method_29_code 29 = .ok (.getfield 36, 3) := by decide +kernel
theorem dM_value_32 : decode prog_11_method_29_code 32 = .ok (.iload_n 2, 1) := by decide +kernel
theorem dM_value_33 : decode prog_11_method_29_code 33 = .ok (.iaload, 1) := by decide +kernel
theorem dM_value_34 : decode prog_11_method_29_code 34 = .ok (.iaload, 1) := by decide +kernel
theorem dM_value_35 : decode prog_11_method_29_code 35 = .ok (.bipush 45, 2) := by decide +kernel
theorem dM_value_37 : decode prog_11_method_29_code 37 = .ok (.if_icmp .ne 7, 3) := by decide +kernel
theorem dM_value_40 : decode prog_11_method_29_code 40 = .ok (.iconst 1, 1) := by decide +kernel
theorem dM_value_41 : decode prog_11_method_29_code 41 = .ok (.goto 4, 3) := by decide +kernel
theorem dM_value_44 : decode prog_11_method_29_code 44 = .ok (.iconst 0, 1) := by decide +kernel
theorem dM_value_45 : decode prog_11_method_29_code 45 = .ok (.istore_n 3, 1) := by decide +kernel
theorem dM_value_46 : decode prog_11_method_29_code 46 = .ok (.iconst 0, 1) := by decide +kernel
theorem dM_value_47 : decode prog_11_method_29_code 47 = .ok (.istore 4, 2) := by decide +kernel
theorem dM_value_49 : decode prog_11_method_29_code 49 = .ok (.iload_n 3, 1) := by decide +kernel
theorem dM_value_50 : decode prog_11_method_29_code 50 = .ok (.ifCond .eq 14, 3) := by decide +kernel
theorem dM_value_53 : decode prog_11_method_29_code 53 = .ok (.aload_n 0, 1) := by decide +kernel
theorem dM_value_54 : decode prog_11_method_29_code 54 = .ok (.getfield 36, 3) := by decide +kernel
theorem dM_value_57 : decode prog_11_method_29_code 57 = .ok (.iload_n 2, 1) := by decide +kernel
theorem dM_value_58 : decode prog_11_method_29_code 58 = .ok (.iaload, 1) := by decide +kernel
theorem dM_value_59 : decode prog_11_method_29_code 59 = .ok (.iconst 1, 1) := by decide +kernel
theorem dM_value_60 : decode prog_11_method_29_code 60 = .ok (.iadd, 1) := by decide +kernel
theorem dM_value_61 : decode prog_11_method_29_code 61 = .ok (.goto 9, 3) := by decide +kernel
theorem dM_value_64 : decode prog_11_method_29_code 64 = .ok (.aload_n 0, 1) := by decide +kernel
theorem dM_value_65 : decode prog_11_method_29_code 65 = .ok (.getfield 36, 3) := by decide +kernel
theorem dM_value_68 : decode prog_11_method_29_code 68 = .ok (.iload_n 2, 1) := by decide +kernel
theorem dM_value_69 : decode prog_11_method_29_code 69 = .ok (.iaload, 1) := by decide +kernel
theorem dM_value_70 : decode prog_11_method_29_code 70 = .ok (.istore 5, 2) := by decide +kernel
theorem dM_value_72 : decode prog_11_method_29_code 72 = .ok (.iload 5, 2) := by decide +kernel
theorem dM_value_74 : decode prog_11_method_29_code 74 = .ok (.aload_n 0, 1) := by decide +kernel
theorem dM_value_75 : decode prog_11_method_29_code 75 = .ok (.getfield 39, 3) := by decide +kernel
theorem dM_value_78 : decode prog_11_method_29_code 78 = .ok (.iload_n 2, 1) := by decide +kernel
theorem dM_value_79 : decode prog_11_method_29_code 79 = .ok (.iaload, 1) := by decide +kernel
theorem dM_value_80 : decode prog_11_method_29_code 80 = .ok (.if_icmp .ge 27, 3) := by decide +kernel
theorem dM_value_83 : decode prog_11_method_29_code 83 = .ok (.bipush 10, 2) := by decide +kernel
theorem dM_value_85 : decode prog_11_method_29_code 85 = .ok (.iload 4, 2) := by decide +kernel
theorem dM_value_87 : decode prog_11_method_29_code 87 = .ok (.imul, 1) := by decide +kernel
theorem dM_value_88 : decode prog_11_method_29_code 88 = .ok (.aload_n 0, 1) := by decide +kernel
theorem dM_value_89 : decode prog_11_method_29_code 89 = .ok (.getfield 13, 3) := by decide +kernel
theorem dM_value_92 : decode prog_11_method_29_code 92 = .ok (.iload 5, 2) := by decide +kernel
theorem dM_value_94 : decode prog_11_method_29_code 94 = .ok (.iaload, 1) := by decide +kernel
theorem dM_value_95 : decode prog_11_method_29_code 95 = .ok (.iadd, 1) := by decide +kernel
theorem dM_value_96 : decode prog_11_method_29_code 96 = .ok (.bipush 48, 2) := by decide +kernel
theorem dM_value_98 : decode prog_11_method_29_code 98 = .ok (.isub, 1) := by decide +kernel
theorem dM_value_99 : decode prog_11_method_29_code 99 = .ok (.istore 4, 2) := by decide +kernel
theorem dM_value_101 : decode prog_11_method_29_code 101 = .ok (.iinc 5 1, 3) := by decide +kernel
theorem dM_value_104 : decode prog_11_method_29_code 104 = .ok (.goto (-32), 3) := by decide +kernel
theorem dM_value_107 : decode prog_11_method_29_code 107 = .ok (.iload_n 3, 1) := by decide +kernel
theorem dM_value_108 : decode prog_11_method_29_code 108 = .ok (.ifCond .eq 9, 3) := by decide +kernel
theorem dM_value_111 : decode prog_11_method_29_code 111 = .ok (.iload 4, 2) := by decide +kernel
theorem dM_value_113 : decode prog_11_method_29_code 113 = .ok (.ineg, 1) := by decide +kernel
theorem dM_value_114 : decode prog_11_method_29_code 114 = .ok (.goto 5, 3) := by decide +kernel
theorem dM_value_117 : decode prog_11_method_29_code 117 = .ok (.iload 4, 2) := by decide +kernel
theorem dM_value_119 : decode prog_11_method_29_code 119 = .ok (.ireturn, 1) := by decide +kernel
abbrev rm_M_value : Room := { frames := 1, cells := 0, slots := 0, locals := 21 }
def f_M_value_b119 (N : Nat) (E : hE) (t0 : Int32) : Option (Int32) := (
  some t0)
set_option maxHeartbeats 4000000 in
set_option maxRecDepth 100000 in
theorem b_M_value_119 {p : Program} {l : Launch} {e : Env} {s : State} {m : MethodId} {args : Array Value} {below : List Frame} {meth : Method} {c : Code} {D : va_G} {kA : Nat → ClassId} {S : hE} {g : Nat → Nat} {n0 nx : Nat} {N : Nat} {E : hE} {res : Int32} (C : hX p s m args c prog_11_method_29_code 6 R_M ws_M_value D kA S g n0) (hr : meth.sig.returnType = (some .int)) (hlk : meth.locks = false) (hnm : meth.name = "value") : ∀ (t0 : Int32) (H : Heap) (locs : List Loc) (ls : Array Slot), hY D kA n0 s E nx H locs → lv_has ls 6 [] → f_M_value_b119 N E  t0 = some res → W p l e rm_M_value s m args below meth c H locs 0 0 (MQ below (va_Qi (fun r w => r = res ∧ w = (E, nx)) (hJ D kA S g n0) (fun q => n0 ≤ q)) args s 0 0 (fun q => n0 ≤ q)) (F0 m 119 ls [.int t0]) := by
  intro t0 H locs ls M hl hf
  unfold f_M_value_b119 at hf
  cases hf
  exact w_iret C M hr hlk rfl (Nat.le_refl _) (Nat.le_refl _) dM_value_119 rfl rfl
def f_M_value_b72 (N : Nat) (E : hE) : Nat → Option Nat → Int32 → Int32 → Int32 → Int32 → Option (Int32)
  | 0, _, _, _, _, _ => none
  | n + 1, y0, y2, y3, y4, y5 => (
  (gR E y0 7 11).bind fun v75 =>
  (aI E v75 0 y2).bind fun v79 =>
  if v79 ≤ y5 then (
  if y3 = 0 then (
  f_M_value_b119 N E y4
  ) else (
  f_M_value_b119 N E (-y4)
  )
  ) else (
  (gR E y0 7 2).bind fun v89 =>
  (aI E v89 0 y5).bind fun v94 =>
  f_M_value_b72 N E n y0 y2 y3 (((10 * y4) + v94) - 48) (y5 + 1)
  ))
set_option maxHeartbeats 4000000 in
set_option maxRecDepth 100000 in
theorem b_M_value_72 {p : Program} {l : Launch} {e : Env} {s : State} {m : MethodId} {args : Array Value} {below : List Frame} {meth : Method} {c : Code} {D : va_G} {kA : Nat → ClassId} {S : hE} {g : Nat → Nat} {n0 nx : Nat} {N : Nat} {E : hE} {res : Int32} (C : hX p s m args c prog_11_method_29_code 6 R_M ws_M_value D kA S g n0) (hr : meth.sig.returnType = (some .int)) (hlk : meth.locks = false) (hnm : meth.name = "value") : ∀ n : Nat, ∀ (y0 : Option Nat) (y2 : Int32) (y3 : Int32) (y4 : Int32) (y5 : Int32) (H : Heap) (locs : List Loc) (ls : Array Slot), hY D kA n0 s E nx H locs → lv_has ls 6 [(0, va_rf y0), (2, .int y2), (3, .int y3), (4, .int y4), (5, .int y5)] → f_M_value_b72 N E n y0 y2 y3 y4 y5 = some res → W p l e rm_M_value s m args below meth c H locs 0 0 (MQ below (va_Qi (fun r w => r = res ∧ w = (E, nx)) (hJ D kA S g n0) (fun q => n0 ≤ q)) args s 0 0 (fun q => n0 ≤ q)) (F0 m 72 ls []) := by
  intro n
  induction n with
  | zero =>
    intro y0 y2 y3 y4 y5 H locs ls M hl hf
    simp [f_M_value_b72] at hf
  | succ n ih =>
    intro y0 y2 y3 y4 y5 H locs ls M hl hf
    rw [f_M_value_b72] at hf
    refine lv_iload C.x C.b dM_value_72 (lv_at hl 4 rfl) ?_
    refine w_aload_n C.x C.b dM_value_74 rfl (lv_at hl 0 rfl) ?_
    obtain ⟨v75, h75, hf⟩ := Option.bind_eq_some_iff.mp hf
    refine w_getR C M h75 rfl (hm_in in_M) (by decide) (List.mem_cons_of_mem _ wm_734) rfl dM_value_75 ?_
    refine lv_iload_n C.x C.b dM_value_78 rfl (lv_at hl 1 rfl) ?_
    obtain ⟨v79, h79, hf⟩ := Option.bind_eq_some_iff.mp hf
    refine w_iald C M h79 rfl dM_value_79 ?_
    refine lv_icmp_ge (tgt := 107) C.x C.b dM_value_80 (by decide) (fun c80 => ?_) (fun c80 => ?_)
    · rw [if_pos c80] at hf
      refine lv_iload_n C.x C.b dM_value_107 rfl (lv_at hl 2 rfl) ?_
      refine lv_if_eq (tgt := 117) C.x C.b dM_value_108 (by decide) (fun c108 => ?_) (fun c108 => ?_)
      · rw [if_pos c108] at hf
        refine lv_iload C.x C.b dM_value_117 (lv_at hl 3 rfl) ?_
        exact b_M_value_119 C hr hlk hnm _ _ _ _ M (lv_sub hl [] rfl) hf
      · rw [if_neg c108] at hf
        refine lv_iload C.x C.b dM_value_111 (lv_at hl 3 rfl) ?_
        refine lv_ineg C.x C.b dM_value_113 ?_
        refine lv_goto (tgt := 119) C.x C.b dM_value_114 (by decide) ?_
        exact b_M_value_119 C hr hlk hnm _ _ _ _ M (lv_sub hl [] rfl) hf
    · rw [if_neg c80] at hf
      refine lv_bipush (v := 10) C.x C.b dM_value_83 (by decide) ?_
      refine lv_iload C.x C.b dM_value_85 (lv_at hl 3 rfl) ?_
      refine lv_imul C.x C.b dM_value_87 ?_
      refine w_aload_n C.x C.b dM_value_88 rfl (lv_at hl 0 rfl) ?_
      obtain ⟨v89, h89, hf⟩ := Option.bind_eq_some_iff.mp hf
      refine w_getR C M h89 rfl (hm_in in_M) (by decide) (List.mem_cons_of_mem _ wm_725) rfl dM_value_89 ?_
      refine lv_iload C.x C.b dM_value_92 (lv_at hl 4 rfl) ?_
      obtain ⟨v94, h94, hf⟩ := Option.bind_eq_some_iff.mp hf
      refine w_iald C M h94 rfl dM_value_94 ?_
      refine lv_iadd C.x C.b dM_value_95 ?_
      refine lv_bipush (v := 48) C.x C.b dM_value_96 (by decide) ?_
      refine lv_isub C.x C.b dM_value_98 ?_
      refine lv_istore (lv' := [(4, .int (((10 * y4) + v94) - 48)), (0, va_rf y0), (2, .int y2), (3, .int y3), (5, .int y5)]) C.x C.b dM_value_99 hl (by decide) rfl (fun ls hl => ?_)
      refine lv_iinc (v := y5 + 1) (lv' := [(5, .int (y5 + 1)), (4, .int (((10 * y4) + v94) - 48)), (0, va_rf y0), (2, .int y2), (3, .int y3)]) C.x C.b dM_value_101 hl (k := 4) rfl rfl (by decide) rfl (fun ls hl => ?_)
      refine lv_goto (tgt := 72) C.x C.b dM_value_104 (by decide) ?_
      exact ih _ _ _ _ _ _ _ _ M (lv_sub hl [2, 3, 4, 1, 0] rfl) hf
def f_M_value_b70 (N : Nat) (E : hE) (y0 : Option Nat) (y2 : Int32) (y3 : Int32) (y4 : Int32) (t0 : Int32) : Option (Int32) := (
  f_M_value_b72 N E N y0 y2 y3 y4 t0)
set_option maxHeartbeats 4000000 in
set_option maxRecDepth 100000 in
theorem b_M_value_70 {p : Program} {l : Launch} {e : Env} {s : State} {m : MethodId} {args : Array Value} {below : List Frame} {meth : Method} {c : Code} {D : va_G} {kA : Nat → ClassId} {S : hE} {g : Nat → Nat} {n0 nx : Nat} {N : Nat} {E : hE} {res : Int32} (C : hX p s m args c prog_11_method_29_code 6 R_M ws_M_value D kA S g n0) (hr : meth.sig.returnType = (some .int)) (hlk : meth.locks = false) (hnm : meth.name = "value") : ∀ (y0 : Option Nat) (y2 : Int32) (y3 : Int32) (y4 : Int32) (t0 : Int32) (H : Heap) (locs : List Loc) (ls : Array Slot), hY D kA n0 s E nx H locs → lv_has ls 6 [(0, va_rf y0), (2, .int y2), (3, .int y3), (4, .int y4)] → f_M_value_b70 N E  y0 y2 y3 y4 t0 = some res → W p l e rm_M_value s m args below meth c H locs 0 0 (MQ below (va_Qi (fun r w => r = res ∧ w = (E, nx)) (hJ D kA S g n0) (fun q => n0 ≤ q)) args s 0 0 (fun q => n0 ≤ q)) (F0 m 70 ls [.int t0]) := by
  intro y0 y2 y3 y4 t0 H locs ls M hl hf
  unfold f_M_value_b70 at hf
  refine lv_istore (lv' := [(5, .int t0), (0, va_rf y0), (2, .int y2), (3, .int y3), (4, .int y4)]) C.x C.b dM_value_70 hl (by decide) rfl (fun ls hl => ?_)
  exact b_M_value_72 C hr hlk hnm N _ _ _ _ _ _ _ _ M (lv_sub hl [1, 2, 3, 4, 0] rfl) hf
def f_M_value_b45 (N : Nat) (E : hE) (y0 : Option Nat) (y2 : Int32) (t0 : Int32) : Option (Int32) := (
  if t0 = 0 then (
  (gR E y0 7 10).bind fun v65 =>
  (aI E v65 0 y2).bind fun v69 =>
  f_M_value_b70 N E y0 y2 t0 0 v69
  ) else (
  (gR E y0 7 10).bind fun v54 =>
  (aI E v54 0 y2).bind fun v58 =>
  f_M_value_b70 N E y0 y2 t0 0 (v58 + 1)
  ))
set_option maxHeartbeats 4000000 in
set_option maxRecDepth 100000 in
theorem b_M_value_45 {p : Program} {l : Launch} {e : Env} {s : State} {m : MethodId} {args : Array Value} {below : List Frame} {meth : Method} {c : Code} {D : va_G} {kA : Nat → ClassId} {S : hE} {g : Nat → Nat} {n0 nx : Nat} {N : Nat} {E : hE} {res : Int32} (C : hX p s m args c prog_11_method_29_code 6 R_M ws_M_value D kA S g n0) (hr : meth.sig.returnType = (some .int)) (hlk : meth.locks = false) (hnm : meth.name = "value") : ∀ (y0 : Option Nat) (y2 : Int32) (t0 : Int32) (H : Heap) (locs : List Loc) (ls : Array Slot), hY D kA n0 s E nx H locs → lv_has ls 6 [(0, va_rf y0), (2, .int y2)] → f_M_value_b45 N E  y0 y2 t0 = some res → W p l e rm_M_value s m args below meth c H locs 0 0 (MQ below (va_Qi (fun r w => r = res ∧ w = (E, nx)) (hJ D kA S g n0) (fun q => n0 ≤ q)) args s 0 0 (fun q => n0 ≤ q)) (F0 m 45 ls [.int t0]) := by
  intro y0 y2 t0 H locs ls M hl hf
  unfold f_M_value_b45 at hf
  refine lv_istore_n (lv' := [(3, .int t0), (0, va_rf y0), (2, .int y2)]) C.x C.b dM_value_45 rfl hl (by decide) rfl (fun ls hl => ?_)
  refine lv_iconst (v := 0) C.x C.b dM_value_46 (by decide) ?_
  refine lv_istore (lv' := [(4, .int 0), (3, .int t0), (0, va_rf y0), (2, .int y2)]) C.x C.b dM_value_47 hl (by decide) rfl (fun ls hl => ?_)
  refine lv_iload_n C.x C.b dM_value_49 rfl (lv_at hl 1 rfl) ?_
  refine lv_if_eq (tgt := 64) C.x C.b dM_value_50 (by decide) (fun c50 => ?_) (fun c50 => ?_)
  · rw [if_pos c50] at hf
    refine w_aload_n C.x C.b dM_value_64 rfl (lv_at hl 2 rfl) ?_
    obtain ⟨v65, h65, hf⟩ := Option.bind_eq_some_iff.mp hf
    refine w_getR C M h65 rfl (hm_in in_M) (by decide) (List.mem_cons_of_mem _ wm_733) rfl dM_value_65 ?_
    refine lv_iload_n C.x C.b dM_value_68 rfl (lv_at hl 3 rfl) ?_
    obtain ⟨v69, h69, hf⟩ := Option.bind_eq_some_iff.mp hf
    refine w_iald C M h69 rfl dM_value_69 ?_
    exact b_M_value_70 C hr hlk hnm _ _ _ _ _ _ _ _ M (lv_sub hl [2, 3, 1, 0] rfl) hf
  · rw [if_neg c50] at hf
    refine w_aload_n C.x C.b dM_value_53 rfl (lv_at hl 2 rfl) ?_
    obtain ⟨v54, h54, hf⟩ := Option.bind_eq_some_iff.mp hf
    refine w_getR C M h54 rfl (hm_in in_M) (by decide) (List.mem_cons_of_mem _ wm_733) rfl dM_value_54 ?_
    refine lv_iload_n C.x C.b dM_value_57 rfl (lv_at hl 3 rfl) ?_
    obtain ⟨v58, h58, hf⟩ := Option.bind_eq_some_iff.mp hf
    refine w_iald C M h58 rfl dM_value_58 ?_
    refine lv_iconst (v := 1) C.x C.b dM_value_59 (by decide) ?_
    refine lv_iadd C.x C.b dM_value_60 ?_
    refine lv_goto (tgt := 70) C.x C.b dM_value_61 (by decide) ?_
    exact b_M_value_70 C hr hlk hnm _ _ _ _ _ _ _ _ M (lv_sub hl [2, 3, 1, 0] rfl) hf
def f_M_value (N : Nat) (E : hE) (x0 : Nat) (x1 : Int32) (x2 : Int32) : Option (Int32) := (
  (gO E (some x0) 7).bind fun o2 =>
  (f_M_isRegister E o2.1 x2).bind fun v2 =>
  if v2 = 0 then (
  (gR E (some x0) 7 2).bind fun v25 =>
  (gR E (some x0) 7 10).bind fun v29 =>
  (aI E v29 0 x2).bind fun v33 =>
  (aI E v25 0 v33).bind fun v34 =>
  if v34 = 45 then (
  f_M_value_b45 N E (some x0) x2 1
  ) else (
  f_M_value_b45 N E (some x0) x2 0
  )
  ) else (
  (gR E (some x0) 7 29).bind fun v9 =>
  (gO E (some x0) 7).bind fun o18 =>
  (f_M_registerOf E o18.1 x2).bind fun v18 =>
  (aI E v9 0 ((8 * x1) + v18)).bind fun v22 =>
  some v22
  ))
set_option maxHeartbeats 4000000 in
set_option maxRecDepth 100000 in
theorem c_M_value {l : Launch} {D : va_G} {kA : Nat → ClassId} {S : hE} {g : Nat → Nat} {n0 nx : Nat} {N : Nat} {x0 : Nat} {x1 : Int32} {x2 : Int32} {E : hE} {res : Int32} (hf : f_M_value N E x0 x1 x2 = some res) : Met l y_M_value ws_M_value rm_M_value (va_Pc [va_rf (some x0), .int x1, .int x2] (hJ D kA S g n0 (E, nx))) (va_Qi (fun r w => r = res ∧ w = (E, nx)) (hJ D kA S g n0) (fun q => n0 ≤ q)) 0 0 (fun q => n0 ≤ q) := by
  refine h_met (cc := prog_11_method_29_code) (maxL := 6) (ret := (some .int)) (lvs := [(0, va_rf (some x0)), (1, .int x1), (2, .int x2)]) zZ_k (by decide) rfl (by simp [lg_sl, va_rf_cat, cat_i, cat_l, cat_n]) (by simp [lv_args, va_rf_cat, cat_i, cat_l, cat_n]) ?_
  intro p e s m below meth c ls C M hr hlk hnm hl
  unfold f_M_value at hf
  refine w_aload_n C.x C.b dM_value_0 rfl (lv_at hl 0 rfl) ?_
  refine lv_iload_n C.x C.b dM_value_1 rfl (lv_at hl 2 rfl) ?_
  obtain ⟨o2, g2, hf⟩ := Option.bind_eq_some_iff.mp hf
  obtain ⟨v2, h2, hf⟩ := Option.bind_eq_some_iff.mp hf
  refine w_ci M (w_runV C M g2 rfl (c_M_isRegister h2) (cwV 1 C.ts (hgV wm_879 wm_881 sel_M_isRegister wm_6 wm_882) rfl rfl rfl (by decide +kernel) ⟨Nat.le_of_ble_eq_true rfl, Nat.le_of_ble_eq_true rfl⟩) rfl hl.1 rfl (Nat.zero_le _) dM_value_2 ⟨Nat.le_refl _, Nat.le_refl _⟩) (fun H locs M => ?_)
  refine lv_if_eq (tgt := 24) C.x C.b dM_value_5 (by decide) (fun c5 => ?_) (fun c5 => ?_)
  · rw [if_pos c5] at hf
    refine w_aload_n C.x C.b dM_value_24 rfl (lv_at hl 0 rfl) ?_
    obtain ⟨v25, h25, hf⟩ := Option.bind_eq_some_iff.mp hf
    refine w_getR C M h25 rfl (hm_in in_M) (by decide) (List.mem_cons_of_mem _ wm_725) rfl dM_value_25 ?_
    refine w_aload_n C.x C.b dM_value_28 rfl (lv_at hl 0 rfl) ?_
    obtain ⟨v29, h29, hf⟩ := Option.bind_eq_some_iff.mp hf
    refine w_getR C M h29 rfl (hm_in in_M) (by decide) (List.mem_cons_of_mem _ wm_733) rfl dM_value_29 ?_
    refine lv_iload_n C.x C.b dM_value_32 rfl (lv_at hl 2 rfl) ?_
    obtain ⟨v33, h33, hf⟩ := Option.bind_eq_some_iff.mp hf
    refine w_iald C M h33 rfl dM_value_33 ?_
    obtain ⟨v34, h34, hf⟩ := Option.bind_eq_some_iff.mp hf
    refine w_iald C M h34 rfl dM_value_34 ?_
    refine lv_bipush (v := 45) C.x C.b dM_value_35 (by decide) ?_
    refine lv_icmp_ne (tgt := 44) C.x C.b dM_value_37 (by decide) (fun c37 => ?_) (fun c37 => ?_)
    · rw [if_neg c37] at hf
      refine lv_iconst (v := 0) C.x C.b dM_value_44 (by decide) ?_
      exact b_M_value_45 C hr hlk hnm _ _ _ _ _ _ M (lv_sub hl [0, 2] rfl) hf
    · rw [if_pos c37] at hf
      refine lv_iconst (v := 1) C.x C.b dM_value_40 (by decide) ?_
      refine lv_goto (tgt := 45) C.x C.b dM_value_41 (by decide) ?_
      exact b_M_value_45 C hr hlk hnm _ _ _ _ _ _ M (lv_sub hl [0, 2] rfl) hf
  · rw [if_neg c5] at hf
    refine w_aload_n C.x C.b dM_value_8 rfl (lv_at hl 0 rfl) ?_
    obtain ⟨v9, h9, hf⟩ := Option.bind_eq_some_iff.mp hf
    refine w_getR C M h9 rfl (hm_in in_M) (by decide) (List.mem_cons_of_mem _ wm_752) rfl dM_value_9 ?_
    refine lv_bipush (v := 8) C.x C.b dM_value_12 (by decide) ?_
    refine lv_iload_n C.x C.b dM_value_14 rfl (lv_at hl 1 rfl) ?_
    refine lv_imul C.x C.b dM_value_15 ?_
    refine w_aload_n C.x C.b dM_value_16 rfl (lv_at hl 0 rfl) ?_
    refine lv_iload_n C.x C.b dM_value_17 rfl (lv_at hl 2 rfl) ?_
    obtain ⟨o18, g18, hf⟩ := Option.bind_eq_some_iff.mp hf
    obtain ⟨v18, h18, hf⟩ := Option.bind_eq_some_iff.mp hf
    refine w_ci M (w_runV C M g18 rfl (c_M_registerOf h18) (cwV 1 C.ts (hgV wm_969 wm_971 sel_M_registerOf wm_6 wm_972) rfl rfl rfl (by decide +kernel) ⟨Nat.le_of_ble_eq_true rfl, Nat.le_of_ble_eq_true rfl⟩) rfl hl.1 rfl (by simp [va_rf_cat, cat_i, cat_l, cat_n]) dM_value_18 ⟨Nat.le_refl _, Nat.le_refl _⟩) (fun H locs M => ?_)
    refine lv_iadd C.x C.b dM_value_21 ?_
    obtain ⟨v22, h22, hf⟩ := Option.bind_eq_some_iff.mp hf
    refine w_iald C M h22 rfl dM_value_22 ?_
    cases hf
    exact w_iret C M hr hlk rfl (Nat.le_refl _) (Nat.le_refl _) dM_value_23 rfl rfl
theorem dM_set_0 : decode prog_11_method_28_code 0 = .ok (.aload_n 0, 1) := by decide +kernel
theorem dM_set_1 : decode prog_11_method_28_code 1 = .ok (.getfield 69, 3) := by decide +kernel
theorem dM_set_4 : decode prog_11_method_28_code 4 = .ok (.bipush 8, 2) := by decide +kernel
theorem dM_set_6 : decode prog_11_method_28_code 6 = .ok (.iload_n 1, 1) := by decide +kernel
theorem dM_set_7 : decode prog_11_method_28_code 7 = .ok (.imul, 1) := by decide +kernel
theorem dM_set_8 : decode prog_11_method_28_code 8 = .ok (.iload_n 2, 1) := by decide +kernel
theorem dM_set_9 : decode prog_11_method_28_code 9 = .ok (.iadd, 1) := by decide +kernel
theorem dM_set_10 : decode prog_11_method_28_code 10 = .ok (.iload_n 3, 1) := by decide +kernel
theorem dM_set_11 : decode prog_11_method_28_code 11 = .ok (.iastore, 1) := by decide +kernel
theorem dM_set_12 : decode prog_11_method_28_code 12 = .ok (.return_, 1) := by decide +kernel
abbrev rm_M_set : Room := { frames := 0, cells := 0, slots := 0, locals := 0 }
def f_M_set  (x0 : Nat) (x1 : Int32) (x2 : Int32) (x3 : Int32) (E : hE) : Option (hE) := (
  (gR E (some x0) 7 29).bind fun v1 =>
  (tI E v1 0 ((8 * x1) + x2) x3).bind fun E11 =>
  some E11)
set_option maxHeartbeats 4000000 in
set_option maxRecDepth 100000 in
theorem c_M_set {l : Launch} {D : va_G} {kA : Nat → ClassId} {S : hE} {g : Nat → Nat} {n0 nx : Nat} {x0 : Nat} {x1 : Int32} {x2 : Int32} {x3 : Int32} {E : hE} {res : hE} (hf : f_M_set x0 x1 x2 x3 E = some res) : Met l y_M_set ws_M_set rm_M_set (va_Pc [va_rf (some x0), .int x1, .int x2, .int x3] (hJ D kA S g n0 (E, nx))) (va_Qv (fun w => w = (res, nx)) (hJ D kA S g n0) (fun q => n0 ≤ q)) 0 0 (fun q => n0 ≤ q) := by
  refine h_met (cc := prog_11_method_28_code) (maxL := 4) (ret := none) (lvs := [(0, va_rf (some x0)), (1, .int x1), (2, .int x2), (3, .int x3)]) zZ_k (by decide) rfl (by simp [lg_sl, va_rf_cat, cat_i, cat_l, cat_n]) (by simp [lv_args, va_rf_cat, cat_i, cat_l, cat_n]) ?_
  intro p e s m below meth c ls C M hr hlk hnm hl
  unfold f_M_set at hf
  refine w_aload_n C.x C.b dM_set_0 rfl (lv_at hl 0 rfl) ?_
  obtain ⟨v1, h1, hf⟩ := Option.bind_eq_some_iff.mp hf
  refine w_getR C M h1 rfl (hm_in in_M) (by decide) (List.mem_cons_of_mem _ wm_752) rfl dM_set_1 ?_
  refine lv_bipush (v := 8) C.x C.b dM_set_4 (by decide) ?_
  refine lv_iload_n C.x C.b dM_set_6 rfl (lv_at hl 1 rfl) ?_
  refine lv_imul C.x C.b dM_set_7 ?_
  refine lv_iload_n C.x C.b dM_set_8 rfl (lv_at hl 2 rfl) ?_
  refine lv_iadd C.x C.b dM_set_9 ?_
  refine lv_iload_n C.x C.b dM_set_10 rfl (lv_at hl 3 rfl) ?_
  obtain ⟨E11, h11, hf⟩ := Option.bind_eq_some_iff.mp hf
  refine w_iast C M h11 rfl dM_set_11 (fun H locs M => ?_)
  cases hf
  exact w_vret C M hr hlk (Nat.le_refl _) (Nat.le_refl _) dM_set_12 rfl
theorem dM_goesOn_0 : decode prog_11_method_31_code 0 = .ok (.aload_n 0, 1) := by decide +kernel
theorem dM_goesOn_1 : decode prog_11_method_31_code 1 = .ok (.getfield 63, 3) := by decide +kernel
theorem dM_goesOn_4 : decode prog_11_method_31_code 4 = .ok (.iload_n 1, 1) := by decide +kernel
theorem dM_goesOn_5 : decode prog_11_method_31_code 5 = .ok (.dup2, 1) := by decide +kernel
theorem dM_goesOn_6 : decode prog_11_method_31_code 6 = .ok (.iaload, 1) := by decide +kernel
theorem dM_goesOn_7 : decode prog_11_method_31_code 7 = .ok (.iconst 1, 1) := by decide +kernel
theorem dM_goesOn_8 : decode prog_11_method_31_code 8 = .ok (.iadd, 1) := by decide +kernel
theorem dM_goesOn_9 : decode prog_11_method_31_code 9 = .ok (.iastore, 1) := by decide +kernel
theorem dM_goesOn_10 : decode prog_11_method_31_code 10 = .ok (.iconst (-1), 1) := by decide +kernel
theorem dM_goesOn_11 : decode prog_11_method_31_code 11 = .ok (.ireturn, 1) := by decide +kernel
abbrev rm_M_goesOn : Room := { frames := 0, cells := 0, slots := 0, locals := 0 }
def f_M_goesOn  (x0 : Nat) (x1 : Int32) (E : hE) : Option (Int32 × hE) := (
  (gR E (some x0) 7 27).bind fun v1 =>
  (aI E v1 0 x1).bind fun v6 =>
  (tI E v1 0 x1 (v6 + 1)).bind fun E9 =>
  some ((-1), E9))
set_option maxHeartbeats 4000000 in
set_option maxRecDepth 100000 in
theorem c_M_goesOn {l : Launch} {D : va_G} {kA : Nat → ClassId} {S : hE} {g : Nat → Nat} {n0 nx : Nat} {x0 : Nat} {x1 : Int32} {E : hE} {res : Int32 × hE} (hf : f_M_goesOn x0 x1 E = some res) : Met l y_M_goesOn ws_M_goesOn rm_M_goesOn (va_Pc [va_rf (some x0), .int x1] (hJ D kA S g n0 (E, nx))) (va_Qi (fun r w => r = res.1 ∧ w = (res.2, nx)) (hJ D kA S g n0) (fun q => n0 ≤ q)) 0 0 (fun q => n0 ≤ q) := by
  refine h_met (cc := prog_11_method_31_code) (maxL := 2) (ret := (some .int)) (lvs := [(0, va_rf (some x0)), (1, .int x1)]) zZ_k (by decide) rfl (by simp [lg_sl, va_rf_cat, cat_i, cat_l, cat_n]) (by simp [lv_args, va_rf_cat, cat_i, cat_l, cat_n]) ?_
  intro p e s m below meth c ls C M hr hlk hnm hl
  unfold f_M_goesOn at hf
  refine w_aload_n C.x C.b dM_goesOn_0 rfl (lv_at hl 0 rfl) ?_
  obtain ⟨v1, h1, hf⟩ := Option.bind_eq_some_iff.mp hf
  refine w_getR C M h1 rfl (hm_in in_M) (by decide) (List.mem_cons_of_mem _ wm_750) rfl dM_goesOn_1 ?_
  refine lv_iload_n C.x C.b dM_goesOn_4 rfl (lv_at hl 1 rfl) ?_
  refine lv_dup2_11 C.x C.b dM_goesOn_5 rfl (va_rf_cat _) ?_
  obtain ⟨v6, h6, hf⟩ := Option.bind_eq_some_iff.mp hf
  refine w_iald C M h6 rfl dM_goesOn_6 ?_
  refine lv_iconst (v := 1) C.x C.b dM_goesOn_7 (by decide) ?_
  refine lv_iadd C.x C.b dM_goesOn_8 ?_
  obtain ⟨E9, h9, hf⟩ := Option.bind_eq_some_iff.mp hf
  refine w_iast C M h9 rfl dM_goesOn_9 (fun H locs M => ?_)
  refine lv_iconst (v := (-1)) C.x C.b dM_goesOn_10 (by decide) ?_
  cases hf
  exact w_iret C M hr hlk rfl (Nat.le_refl _) (Nat.le_refl _) dM_goesOn_11 rfl rfl
theorem dM_gives_0 : decode prog_11_method_30_code 0 = .ok (.aload_n 0, 1) := by decide +kernel
theorem dM_gives_1 : decode prog_11_method_30_code 1 = .ok (.iload_n 1, 1) := by decide +kernel
theorem dM_gives_2 : decode prog_11_method_30_code 2 = .ok (.aload_n 0, 1) := by decide +kernel
theorem dM_gives_3 : decode prog_11_method_30_code 3 = .ok (.iconst 1, 1) := by decide +kernel
theorem dM_gives_4 : decode prog_11_method_30_code 4 = .ok (.invokevirtual 254, 3) := by decide +kernel
theorem dM_gives_7 : decode prog_11_method_30_code 7 = .ok (.iload_n 2, 1) := by decide +kernel
theorem dM_gives_8 : decode prog_11_method_30_code 8 = .ok (.invokevirtual 248, 3) := by decide +kernel
theorem dM_gives_11 : decode prog_11_method_30_code 11 = .ok (.aload_n 0, 1) := by decide +kernel
theorem dM_gives_12 : decode prog_11_method_30_code 12 = .ok (.iload_n 1, 1) := by decide +kernel
theorem dM_gives_13 : decode prog_11_method_30_code 13 = .ok (.invokevirtual 257, 3) := by decide +kernel
theorem dM_gives_16 : decode prog_11_method_30_code 16 = .ok (.ireturn, 1) := by decide +kernel
abbrev rm_M_gives : Room := { frames := 1, cells := 0, slots := 0, locals := 23 }
def f_M_gives  (x0 : Nat) (x1 : Int32) (x2 : Int32) (E : hE) : Option (Int32 × hE) := (
  (gO E (some x0) 7).bind fun o4 =>
  (f_M_registerOf E o4.1 1).bind fun v4 =>
  (gO E (some x0) 7).bind fun o8 =>
  (f_M_set o8.1 x1 v4 x2 E).bind fun v8 =>
  (gO v8 (some x0) 7).bind fun o13 =>
  (f_M_goesOn o13.1 x1 v8).bind fun v13 =>
  some (v13.1, v13.2))
set_option maxHeartbeats 4000000 in
set_option maxRecDepth 100000 in
theorem c_M_gives {l : Launch} {D : va_G} {kA : Nat → ClassId} {S : hE} {g : Nat → Nat} {n0 nx : Nat} {x0 : Nat} {x1 : Int32} {x2 : Int32} {E : hE} {res : Int32 × hE} (hf : f_M_gives x0 x1 x2 E = some res) : Met l y_M_gives ws_M_gives rm_M_gives (va_Pc [va_rf (some x0), .int x1, .int x2] (hJ D kA S g n0 (E, nx))) (va_Qi (fun r w => r = res.1 ∧ w = (res.2, nx)) (hJ D kA S g n0) (fun q => n0 ≤ q)) 0 0 (fun q => n0 ≤ q) := by
  refine h_met (cc := prog_11_method_30_code) (maxL := 3) (ret := (some .int)) (lvs := [(0, va_rf (some x0)), (1, .int x1), (2, .int x2)]) zZ_k (by decide) rfl (by simp [lg_sl, va_rf_cat, cat_i, cat_l, cat_n]) (by simp [lv_args, va_rf_cat, cat_i, cat_l, cat_n]) ?_
  intro p e s m below meth c ls C M hr hlk hnm hl
  unfold f_M_gives at hf
  refine w_aload_n C.x C.b dM_gives_0 rfl (lv_at hl 0 rfl) ?_
  refine lv_iload_n C.x C.b dM_gives_1 rfl (lv_at hl 1 rfl) ?_
  refine w_aload_n C.x C.b dM_gives_2 rfl (lv_at hl 0 rfl) ?_
  refine lv_iconst (v := 1) C.x C.b dM_gives_3 (by decide) ?_
  obtain ⟨o4, g4, hf⟩ := Option.bind_eq_some_iff.mp hf
  obtain ⟨v4, h4, hf⟩ := Option.bind_eq_some_iff.mp hf
  refine w_ci M (w_runV C M g4 rfl (c_M_registerOf h4) (cwV 1 C.ts (hgV wm_969 wm_971 sel_M_registerOf wm_6 wm_972) rfl rfl rfl (by decide +kernel) ⟨Nat.le_of_ble_eq_true rfl, Nat.le_of_ble_eq_true rfl⟩) rfl hl.1 rfl (by simp [va_rf_cat, cat_i, cat_l, cat_n]) dM_gives_4 ⟨Nat.le_refl _, Nat.le_refl _⟩) (fun H locs M => ?_)
  refine lv_iload_n C.x C.b dM_gives_7 rfl (lv_at hl 2 rfl) ?_
  obtain ⟨o8, g8, hf⟩ := Option.bind_eq_some_iff.mp hf
  obtain ⟨v8, h8, hf⟩ := Option.bind_eq_some_iff.mp hf
  refine w_cv M (w_runV C M g8 rfl (c_M_set h8) (cwV 3 C.ts (hgV wm_977 wm_979 sel_M_set wm_6 wm_980) rfl rfl rfl (by decide +kernel) ⟨Nat.le_of_ble_eq_true rfl, Nat.le_of_ble_eq_true rfl⟩) rfl hl.1 rfl (Nat.zero_le _) dM_gives_8 ⟨Nat.le_refl _, Nat.le_refl _⟩) (fun H locs M => ?_)
  refine w_aload_n C.x C.b dM_gives_11 rfl (lv_at hl 0 rfl) ?_
  refine lv_iload_n C.x C.b dM_gives_12 rfl (lv_at hl 1 rfl) ?_
  obtain ⟨o13, g13, hf⟩ := Option.bind_eq_some_iff.mp hf
  obtain ⟨v13, h13, hf⟩ := Option.bind_eq_some_iff.mp hf
  refine w_ci M (w_runV C M g13 rfl (c_M_goesOn h13) (cwV 1 C.ts (hgV wm_981 wm_983 sel_M_goesOn wm_6 wm_984) rfl rfl rfl (by decide +kernel) ⟨Nat.le_of_ble_eq_true rfl, Nat.le_of_ble_eq_true rfl⟩) rfl hl.1 rfl (Nat.zero_le _) dM_gives_13 ⟨Nat.le_refl _, Nat.le_refl _⟩) (fun H locs M => ?_)
  cases hf
  exact w_iret C M hr hlk rfl (Nat.le_refl _) (Nat.le_refl _) dM_gives_16 rfl rfl
theorem dM_let_0 : decode prog_11_method_35_code 0 = .ok (.aload_n 0, 1) := by decide +kernel
theorem dM_let_1 : decode prog_11_method_35_code 1 = .ok (.iload_n 1, 1) := by decide +kernel
theorem dM_let_2 : decode prog_11_method_35_code 2 = .ok (.iconst 2, 1) := by decide +kernel
theorem dM_let_3 : decode prog_11_method_35_code 3 = .ok (.invokevirtual 263, 3) := by decide +kernel
theorem dM_let_6 : decode prog_11_method_35_code 6 = .ok (.istore_n 2, 1) := by decide +kernel
theorem dM_let_7 : decode prog_11_method_35_code 7 = .ok (.aload_n 0, 1) := by decide +kernel
theorem dM_let_8 : decode prog_11_method_35_code 8 = .ok (.getfield 102, 3) := by decide +kernel
theorem dM_let_11 : decode prog_11_method_35_code 11 = .ok (.iconst 3, 1) := by decide +kernel
theorem dM_let_12 : decode prog_11_method_35_code 12 = .ok (.if_icmp .ne 10, 3) := by decide +kernel
theorem dM_let_15 : decode prog_11_method_35_code 15 = .ok (.aload_n 0, 1) := by decide +kernel
theorem dM_let_16 : decode prog_11_method_35_code 16 = .ok (.iload_n 1, 1) := by decide +kernel
theorem dM_let_17 : decode prog_11_method_35_code 17 = .ok (.iload_n 2, 1) := by decide +kernel
theorem dM_let_18 : decode prog_11_method_35_code 18 = .ok (.invokevirtual 267, 3) := by decide +kernel
theorem dM_let_21 : decode prog_11_method_35_code 21 = .ok (.ireturn, 1) := by decide +kernel
theorem dM_let_22 : decode prog_11_method_35_code 22 = .ok (.aload_n 0, 1) := by decide +kernel
theorem dM_let_23 : decode prog_11_method_35_code 23 = .ok (.iload_n 1, 1) := by decide +kernel
theorem dM_let_24 : decode prog_11_method_35_code 24 = .ok (.iconst 4, 1) := by decide +kernel
theorem dM_let_25 : decode prog_11_method_35_code 25 = .ok (.invokevirtual 263, 3) := by decide +kernel
theorem dM_let_28 : decode prog_11_method_35_code 28 = .ok (.istore_n 3, 1) := by decide +kernel
theorem dM_let_29 : decode prog_11_method_35_code 29 = .ok (.aload_n 0, 1) := by decide +kernel
theorem dM_let_30 : decode prog_11_method_35_code 30 = .ok (.getfield 32, 3) := by decide +kernel
theorem dM_let_33 : decode prog_11_method_35_code 33 = .ok (.iconst 3, 1) := by decide +kernel
theorem dM_let_34 : decode prog_11_method_35_code 34 = .ok (.laload, 1) := by decide +kernel
theorem dM_let_35 : decode prog_11_method_35_code 35 = .ok (.l2i, 1) := by decide +kernel
theorem dM_let_36 : decode prog_11_method_35_code 36 = .ok (.istore 4, 2) := by decide +kernel
theorem dM_let_38 : decode prog_11_method_35_code 38 = .ok (.iload 4, 2) := by decide +kernel
theorem dM_let_40 : decode prog_11_method_35_code 40 = .ok (.lookupswitch 162 #[(38, 103), (42, 94), (43, 76), (45, 85), (60, 130), (61, 146), (94, 121), (124, 112)], 76) := by decide +kernel
theorem dM_let_116 : decode prog_11_method_35_code 116 = .ok (.aload_n 0, 1) := by decide +kernel
theorem dM_let_117 : decode prog_11_method_35_code 117 = .ok (.iload_n 1, 1) := by decide +kernel
theorem dM_let_118 : decode prog_11_method_35_code 118 = .ok (.iload_n 2, 1) := by decide +kernel
theorem dM_let_119 : decode prog_11_method_35_code 119 = .ok (.iload_n 3, 1) := by decide +kernel
theorem dM_let_120 : decode prog_11_method_35_code 120 = .ok (.iadd, 1) := by decide +kernel
theorem dM_let_121 : decode prog_11_method_35_code 121 = .ok (.invokevirtual 267, 3) := by decide +kernel
theorem dM_let_124 : decode prog_11_method_35_code 124 = .ok (.ireturn, 1) := by decide +kernel
theorem dM_let_125 : decode prog_11_method_35_code 125 = .ok (.aload_n 0, 1) := by decide +kernel
theorem dM_let_126 : decode prog_11_method_35_code 126 = .ok (.iload_n 1, 1) := by decide +kernel
theorem dM_let_127 : decode prog_11_method_35_code 127 = .ok (.iload_n 2, 1) := by decide +kernel
theorem dM_let_128 : decode prog_11_method_35_code 128 = .ok (.iload_n 3, 1) := by decide +kernel
theorem dM_let_129 : decode prog_11_method_35_code 129 = .ok (.isub, 1) := by decide +kernel
theorem dM_let_130 : decode prog_11_method_35_code 130 = .ok (.invokevirtual 267, 3) := by decide +kernel
theorem dM_let_133 : decode prog_11_method_35_code 133 = .ok (.ireturn, 1) := by decide +kernel
theorem dM_let_134 : decode prog_11_method_35_code 134 = .ok (.aload_n 0, 1) := by decide +kernel
theorem dM_let_135 : decode prog_11_method_35_code 135 = .ok (.iload_n 1, 1) := by decide +kernel
theorem dM_let_136 : decode prog_11_method_35_code 136 = .ok (.iload_n 2, 1) := by decide +kernel
theorem dM_let_137 : decode prog_11_method_35_code 137 = .ok (.iload_n 3, 1) := by decide +kernel
theorem dM_let_138 : decode prog_11_method_35_code 138 = .ok (.imul, 1) := by decide +kernel
theorem dM_let_139 : decode prog_11_method_35_code 139 = .ok (.invokevirtual 267, 3) := by decide +kernel
theorem dM_let_142 : decode prog_11_method_35_code 142 = .ok (.ireturn, 1) := by decide +kernel
theorem dM_let_143 : decode prog_11_method_35_code 143 = .ok (.aload_n 0, 1) := by decide +kernel
theorem dM_let_144 : decode prog_11_method_35_code 144 = .ok (.iload_n 1, 1) := by decide +kernel
theorem dM_let_145 : decode prog_11_method_35_code 145 = .ok (.iload_n 2, 1) := by decide +kernel
theorem dM_let_146 : decode prog_11_method_35_code 146 = .ok (.iload_n 3, 1) := by decide +kernel
theorem dM_let_147 : decode prog_11_method_35_code 147 = .ok (.iand, 1) := by decide +kernel
theorem dM_let_148 : decode prog_11_method_35_code 148 = .ok (.invokevirtual 267, 3) := by decide +kernel
theorem dM_let_151 : decode prog_11_method_35_code 151 = .ok (.ireturn, 1) := by decide +kernel
theorem dM_let_152 : decode prog_11_method_35_code 152 = .ok (.aload_n 0, 1) := by decide +kernel
theorem dM_let_153 : decode prog_11_method_35_code 153 = .ok (.iload_n 1, 1) := by decide +kernel
theorem dM_let_154 : decode prog_11_method_35_code 154 = .ok (.iload_n 2, 1) := by decide +kernel
theorem dM_let_155 : decode prog_11_method_35_code 155 = .ok (.iload_n 3, 1) := by decide +kernel
theorem dM_let_156 : decode prog_11_method_35_code 156 = .ok (.ior, 1) := by decide +kernel
theorem dM_let_157 : decode prog_11_method_35_code 157 = .ok (.invokevirtual 267, 3) := by decide +kernel
theorem dM_let_160 : decode prog_11_method_35_code 160 = .ok (.ireturn, 1) := by decide +kernel
theorem dM_let_161 : decode prog_11_method_35_code 161 = .ok (.aload_n 0, 1) := by decide +kernel
theorem dM_let_162 : decode prog_11_method_35_code 162 = .ok (.iload_n 1, 1) := by decide +kernel
theorem dM_let_163 : decode prog_11_method_35_code 163 = .ok (.iload_n 2, 1) := by decide +kernel
theorem dM_let_164 : decode prog_11_method_35_code 164 = .ok (.iload_n 3, 1) := by decide +kernel
theorem dM_let_165 : decode prog_11_method_35_code 165 = .ok (.ixor, 1) := by decide +kernel
theorem dM_let_166 : decode prog_11_method_35_code 166 = .ok (.invokevirtual 267, 3) := by decide +kernel
theorem dM_let_169 : decode prog_11_method_35_code 169 = .ok (.ireturn, 1) := by decide +kernel
theorem dM_let_170 : decode prog_11_method_35_code 170 = .ok (.aload_n 0, 1) := by decide +kernel
theorem dM_let_171 : decode prog_11_method_35_code 171 = .ok (.iload_n 1, 1) := by decide +kernel
theorem dM_let_172 : decode prog_11_method_35_code 172 = .ok (.iload_n 2, 1) := by decide +kernel
theorem dM_let_173 : decode prog_11_method_35_code 173 = .ok (.iload_n 3, 1) := by decide +kernel
theorem dM_let_174 : decode prog_11_method_35_code 174 = .ok (.if_icmp .ge 7, 3) := by decide +kernel
theorem dM_let_177 : decode prog_11_method_35_code 177 = .ok (.iconst 1, 1) := by decide +kernel
theorem dM_let_178 : decode prog_11_method_35_code 178 = .ok (.goto 4, 3) := by decide +kernel
theorem dM_let_181 : decode prog_11_method_35_code 181 = .ok (.iconst 0, 1) := by decide +kernel
theorem dM_let_182 : decode prog_11_method_35_code 182 = .ok (.invokevirtual 267, 3) := by decide +kernel
theorem dM_let_185 : decode prog_11_method_35_code 185 = .ok (.ireturn, 1) := by decide +kernel
theorem dM_let_186 : decode prog_11_method_35_code 186 = .ok (.aload_n 0, 1) := by decide +kernel
theorem dM_let_187 : decode prog_11_method_35_code 187 = .ok (.iload_n 1, 1) := by decide +kernel
theorem dM_let_188 : decode prog_11_method_35_code 188 = .ok (.iload_n 2, 1) := by decide +kernel
theorem dM_let_189 : decode prog_11_method_35_code 189 = .ok (.iload_n 3, 1) := by decide +kernel
theorem dM_let_190 : decode prog_11_method_35_code 190 = .ok (.if_icmp .ne 7, 3) := by decide +kernel
theorem dM_let_193 : decode prog_11_method_35_code 193 = .ok (.iconst 1, 1) := by decide +kernel
theorem dM_let_194 : decode prog_11_method_35_code 194 = .ok (.goto 4, 3) := by decide +kernel
theorem dM_let_197 : decode prog_11_method_35_code 197 = .ok (.iconst 0, 1) := by decide +kernel
theorem dM_let_198 : decode prog_11_method_35_code 198 = .ok (.invokevirtual 267, 3) := by decide +kernel
theorem dM_let_201 : decode prog_11_method_35_code 201 = .ok (.ireturn, 1) := by decide +kernel
theorem dM_let_202 : decode prog_11_method_35_code 202 = .ok (.iload_n 3, 1) := by decide +kernel
theorem dM_let_203 : decode prog_11_method_35_code 203 = .ok (.ifCond .ne 6, 3) := by decide +kernel
theorem dM_let_206 : decode prog_11_method_35_code 206 = .ok (.bipush 103, 2) := by decide +kernel
theorem dM_let_208 : decode prog_11_method_35_code 208 = .ok (.ireturn, 1) := by decide +kernel
theorem dM_let_209 : decode prog_11_method_35_code 209 = .ok (.iload_n 3, 1) := by decide +kernel
theorem dM_let_210 : decode prog_11_method_35_code 210 = .ok (.iconst (-1), 1) := by decide +kernel
theorem dM_let_211 : decode prog_11_method_35_code 211 = .ok (.if_icmp .ne 22, 3) := by decide +kernel
theorem dM_let_214 : decode prog_11_method_35_code 214 = .ok (.aload_n 0, 1) := by decide +kernel
theorem dM_let_215 : decode prog_11_method_35_code 215 = .ok (.iload_n 1, 1) := by decide +kernel
theorem dM_let_216 : decode prog_11_method_35_code 216 = .ok (.iload 4, 2) := by decide +kernel
theorem dM_let_218 : decode prog_11_method_35_code 218 = .ok (.bipush 47, 2) := by decide +kernel
theorem dM_let_220 : decode prog_11_method_35_code 220 = .ok (.if_icmp .ne 8, 3) := by decide +kernel
theorem dM_let_223 : decode prog_11_method_35_code 223 = .ok (.iload_n 2, 1) := by decide +kernel
theorem dM_let_224 : decode prog_11_method_35_code 224 = .ok (.ineg, 1) := by decide +kernel
theorem dM_let_225 : decode prog_11_method_35_code 225 = .ok (.goto 4, 3) := by decide +kernel
theorem dM_let_228 : decode prog_11_method_35_code 228 = .ok (.iconst 0, 1) := by decide +kernel
theorem dM_let_229 : decode prog_11_method_35_code 229 = .ok (.invokevirtual 267, 3) := by decide +kernel
theorem dM_let_232 : decode prog_11_method_35_code 232 = .ok (.ireturn, 1) := by decide +kernel
theorem dM_let_233 : decode prog_11_method_35_code 233 = .ok (.aload_n 0, 1) := by decide +kernel
theorem dM_let_234 : decode prog_11_method_35_code 234 = .ok (.iload_n 1, 1) := by decide +kernel
theorem dM_let_235 : decode prog_11_method_35_code 235 = .ok (.iload 4, 2) := by decide +kernel
theorem dM_let_237 : decode prog_11_method_35_code 237 = .ok (.bipush 47, 2) := by decide +kernel
theorem dM_let_239 : decode prog_11_method_35_code 239 = .ok (.if_icmp .ne 9, 3) := by decide +kernel
theorem dM_let_242 : decode prog_11_method_35_code 242 = .ok (.iload_n 2, 1) := by decide +kernel
theorem dM_let_243 : decode prog_11_method_35_code 243 = .ok (.iload_n 3, 1) := by decide +kernel
theorem dM_let_244 : decode prog_11_method_35_code 244 = .ok (.idiv, 1) := by decide +kernel
theorem dM_let_245 : decode prog_11_method_35_code 245 = .ok (.goto 6, 3) := by decide +kernel
theorem dM_let_248 : decode prog_11_method_35_code 248 = .ok (.iload_n 2, 1) := by decide +kernel
theorem dM_let_249 : decode prog_11_method_35_code 249 = .ok (.iload_n 3, 1) := by decide +kernel
theorem dM_let_250 : decode prog_11_method_35_code 250 = .ok (.irem, 1) := by decide +kernel
theorem dM_let_251 : decode prog_11_method_35_code 251 = .ok (.invokevirtual 267, 3) := by decide +kernel
theorem dM_let_254 : decode prog_11_method_35_code 254 = .ok (.ireturn, 1) := by decide +kernel
abbrev rm_M_let : Room := { frames := 2, cells := 0, slots := 0, locals := 46 }
def f_M_let_b251 (N : Nat) (t0 : Option Nat) (t1 : Int32) (t2 : Int32) (E : hE) : Option (Int32 × hE) := (
  (gO E t0 7).bind fun o251 =>
  (f_M_gives o251.1 t1 t2 E).bind fun v251 =>
  some (v251.1, v251.2))
set_option maxHeartbeats 4000000 in
set_option maxRecDepth 100000 in
theorem b_M_let_251 {p : Program} {l : Launch} {e : Env} {s : State} {m : MethodId} {args : Array Value} {below : List Frame} {meth : Method} {c : Code} {D : va_G} {kA : Nat → ClassId} {S : hE} {g : Nat → Nat} {n0 nx : Nat} {N : Nat} {res : Int32 × hE} (C : hX p s m args c prog_11_method_35_code 5 R_M ws_M_let D kA S g n0) (hr : meth.sig.returnType = (some .int)) (hlk : meth.locks = false) (hnm : meth.name = "let") : ∀ (t0 : Option Nat) (t1 : Int32) (t2 : Int32) (E : hE) (H : Heap) (locs : List Loc) (ls : Array Slot), hY D kA n0 s E nx H locs → lv_has ls 5 [] → f_M_let_b251 N  t0 t1 t2 E = some res → W p l e rm_M_let s m args below meth c H locs 0 0 (MQ below (va_Qi (fun r w => r = res.1 ∧ w = (res.2, nx)) (hJ D kA S g n0) (fun q => n0 ≤ q)) args s 0 0 (fun q => n0 ≤ q)) (F0 m 251 ls [.int t2, .int t1, va_rf t0]) := by
  intro t0 t1 t2 E H locs ls M hl hf
  unfold f_M_let_b251 at hf
  obtain ⟨o251, g251, hf⟩ := Option.bind_eq_some_iff.mp hf
  obtain ⟨v251, h251, hf⟩ := Option.bind_eq_some_iff.mp hf
  refine w_ci M (w_runV C M g251 rfl (c_M_gives h251) (cwV 2 C.ts (hgV wm_973 wm_975 sel_M_gives wm_6 wm_976) rfl rfl rfl (by decide +kernel) ⟨Nat.le_of_ble_eq_true rfl, Nat.le_of_ble_eq_true rfl⟩) rfl hl.1 rfl (Nat.zero_le _) dM_let_251 ⟨Nat.le_refl _, Nat.le_refl _⟩) (fun H locs M => ?_)
  cases hf
  exact w_iret C M hr hlk rfl (Nat.le_refl _) (Nat.le_refl _) dM_let_254 rfl rfl
def f_M_let_b229 (N : Nat) (t0 : Option Nat) (t1 : Int32) (t2 : Int32) (E : hE) : Option (Int32 × hE) := (
  (gO E t0 7).bind fun o229 =>
  (f_M_gives o229.1 t1 t2 E).bind fun v229 =>
  some (v229.1, v229.2))
set_option maxHeartbeats 4000000 in
set_option maxRecDepth 100000 in
theorem b_M_let_229 {p : Program} {l : Launch} {e : Env} {s : State} {m : MethodId} {args : Array Value} {below : List Frame} {meth : Method} {c : Code} {D : va_G} {kA : Nat → ClassId} {S : hE} {g : Nat → Nat} {n0 nx : Nat} {N : Nat} {res : Int32 × hE} (C : hX p s m args c prog_11_method_35_code 5 R_M ws_M_let D kA S g n0) (hr : meth.sig.returnType = (some .int)) (hlk : meth.locks = false) (hnm : meth.name = "let") : ∀ (t0 : Option Nat) (t1 : Int32) (t2 : Int32) (E : hE) (H : Heap) (locs : List Loc) (ls : Array Slot), hY D kA n0 s E nx H locs → lv_has ls 5 [] → f_M_let_b229 N  t0 t1 t2 E = some res → W p l e rm_M_let s m args below meth c H locs 0 0 (MQ below (va_Qi (fun r w => r = res.1 ∧ w = (res.2, nx)) (hJ D kA S g n0) (fun q => n0 ≤ q)) args s 0 0 (fun q => n0 ≤ q)) (F0 m 229 ls [.int t2, .int t1, va_rf t0]) := by
  intro t0 t1 t2 E H locs ls M hl hf
  unfold f_M_let_b229 at hf
  obtain ⟨o229, g229, hf⟩ := Option.bind_eq_some_iff.mp hf
  obtain ⟨v229, h229, hf⟩ := Option.bind_eq_some_iff.mp hf
  refine w_ci M (w_runV C M g229 rfl (c_M_gives h229) (cwV 2 C.ts (hgV wm_973 wm_975 sel_M_gives wm_6 wm_976) rfl rfl rfl (by decide +kernel) ⟨Nat.le_of_ble_eq_true rfl, Nat.le_of_ble_eq_true rfl⟩) rfl hl.1 rfl (Nat.zero_le _) dM_let_229 ⟨Nat.le_refl _, Nat.le_refl _⟩) (fun H locs M => ?_)
  cases hf
  exact w_iret C M hr hlk rfl (Nat.le_refl _) (Nat.le_refl _) dM_let_232 rfl rfl
def f_M_let_b198 (N : Nat) (t0 : Option Nat) (t1 : Int32) (t2 : Int32) (E : hE) : Option (Int32 × hE) := (
  (gO E t0 7).bind fun o198 =>
  (f_M_gives o198.1 t1 t2 E).bind fun v198 =>
  some (v198.1, v198.2))
set_option maxHeartbeats 4000000 in
set_option maxRecDepth 100000 in
theorem b_M_let_198 {p : Program} {l : Launch} {e : Env} {s : State} {m : MethodId} {args : Array Value} {below : List Frame} {meth : Method} {c : Code} {D : va_G} {kA : Nat → ClassId} {S : hE} {g : Nat → Nat} {n0 nx : Nat} {N : Nat} {res : Int32 × hE} (C : hX p s m args c prog_11_method_35_code 5 R_M ws_M_let D kA S g n0) (hr : meth.sig.returnType = (some .int)) (hlk : meth.locks = false) (hnm : meth.name = "let") : ∀ (t0 : Option Nat) (t1 : Int32) (t2 : Int32) (E : hE) (H : Heap) (locs : List Loc) (ls : Array Slot), hY D kA n0 s E nx H locs → lv_has ls 5 [] → f_M_let_b198 N  t0 t1 t2 E = some res → W p l e rm_M_let s m args below meth c H locs 0 0 (MQ below (va_Qi (fun r w => r = res.1 ∧ w = (res.2, nx)) (hJ D kA S g n0) (fun q => n0 ≤ q)) args s 0 0 (fun q => n0 ≤ q)) (F0 m 198 ls [.int t2, .int t1, va_rf t0]) := by
  intro t0 t1 t2 E H locs ls M hl hf
  unfold f_M_let_b198 at hf
  obtain ⟨o198, g198, hf⟩ := Option.bind_eq_some_iff.mp hf
  obtain ⟨v198, h198, hf⟩ := Option.bind_eq_some_iff.mp hf
  refine w_ci M (w_runV C M g198 rfl (c_M_gives h198) (cwV 2 C.ts (hgV wm_973 wm_975 sel_M_gives wm_6 wm_976) rfl rfl rfl (by decide +kernel) ⟨Nat.le_of_ble_eq_true rfl, Nat.le_of_ble_eq_true rfl⟩) rfl hl.1 rfl (Nat.zero_le _) dM_let_198 ⟨Nat.le_refl _, Nat.le_refl _⟩) (fun H locs M => ?_)
  cases hf
  exact w_iret C M hr hlk rfl (Nat.le_refl _) (Nat.le_refl _) dM_let_201 rfl rfl
def f_M_let_b182 (N : Nat) (t0 : Option Nat) (t1 : Int32) (t2 : Int32) (E : hE) : Option (Int32 × hE) := (
  (gO E t0 7).bind fun o182 =>
  (f_M_gives o182.1 t1 t2 E).bind fun v182 =>
  some (v182.1, v182.2))
set_option maxHeartbeats 4000000 in
set_option maxRecDepth 100000 in
theorem b_M_let_182 {p : Program} {l : Launch} {e : Env} {s : State} {m : MethodId} {args : Array Value} {below : List Frame} {meth : Method} {c : Code} {D : va_G} {kA : Nat → ClassId} {S : hE} {g : Nat → Nat} {n0 nx : Nat} {N : Nat} {res : Int32 × hE} (C : hX p s m args c prog_11_method_35_code 5 R_M ws_M_let D kA S g n0) (hr : meth.sig.returnType = (some .int)) (hlk : meth.locks = false) (hnm : meth.name = "let") : ∀ (t0 : Option Nat) (t1 : Int32) (t2 : Int32) (E : hE) (H : Heap) (locs : List Loc) (ls : Array Slot), hY D kA n0 s E nx H locs → lv_has ls 5 [] → f_M_let_b182 N  t0 t1 t2 E = some res → W p l e rm_M_let s m args below meth c H locs 0 0 (MQ below (va_Qi (fun r w => r = res.1 ∧ w = (res.2, nx)) (hJ D kA S g n0) (fun q => n0 ≤ q)) args s 0 0 (fun q => n0 ≤ q)) (F0 m 182 ls [.int t2, .int t1, va_rf t0]) := by
  intro t0 t1 t2 E H locs ls M hl hf
  unfold f_M_let_b182 at hf
  obtain ⟨o182, g182, hf⟩ := Option.bind_eq_some_iff.mp hf
  obtain ⟨v182, h182, hf⟩ := Option.bind_eq_some_iff.mp hf
  refine w_ci M (w_runV C M g182 rfl (c_M_gives h182) (cwV 2 C.ts (hgV wm_973 wm_975 sel_M_gives wm_6 wm_976) rfl rfl rfl (by decide +kernel) ⟨Nat.le_of_ble_eq_true rfl, Nat.le_of_ble_eq_true rfl⟩) rfl hl.1 rfl (Nat.zero_le _) dM_let_182 ⟨Nat.le_refl _, Nat.le_refl _⟩) (fun H locs M => ?_)
  cases hf
  exact w_iret C M hr hlk rfl (Nat.le_refl _) (Nat.le_refl _) dM_let_185 rfl rfl
def f_M_let (N : Nat) (x0 : Nat) (x1 : Int32) (E : hE) : Option (Int32 × hE) := (
  (gO E (some x0) 7).bind fun o3 =>
  (f_M_value N E o3.1 x1 2).bind fun v3 =>
  (gI E (some x0) 7 8).bind fun v8 =>
  if v8 = 3 then (
  (gO E (some x0) 7).bind fun o18 =>
  (f_M_gives o18.1 x1 v3 E).bind fun v18 =>
  some (v18.1, v18.2)
  ) else (
  (gO E (some x0) 7).bind fun o25 =>
  (f_M_value N E o25.1 x1 4).bind fun v25 =>
  (gR E (some x0) 7 9).bind fun v30 =>
  (aJ E v30 2 3).bind fun v34 =>
  if v34.toInt32 = 38 then (
  (gO E (some x0) 7).bind fun o148 =>
  (f_M_gives o148.1 x1 (v3 &&& v25) E).bind fun v148 =>
  some (v148.1, v148.2)
  ) else (
  if v34.toInt32 = 42 then (
  (gO E (some x0) 7).bind fun o139 =>
  (f_M_gives o139.1 x1 (v3 * v25) E).bind fun v139 =>
  some (v139.1, v139.2)
  ) else (
  if v34.toInt32 = 43 then (
  (gO E (some x0) 7).bind fun o121 =>
  (f_M_gives o121.1 x1 (v3 + v25) E).bind fun v121 =>
  some (v121.1, v121.2)
  ) else (
  if v34.toInt32 = 45 then (
  (gO E (some x0) 7).bind fun o130 =>
  (f_M_gives o130.1 x1 (v3 - v25) E).bind fun v130 =>
  some (v130.1, v130.2)
  ) else (
  if v34.toInt32 = 60 then (
  if v25 ≤ v3 then (
  f_M_let_b182 N (some x0) x1 0 E
  ) else (
  f_M_let_b182 N (some x0) x1 1 E
  )
  ) else (
  if v34.toInt32 = 61 then (
  if v3 = v25 then (
  f_M_let_b198 N (some x0) x1 1 E
  ) else (
  f_M_let_b198 N (some x0) x1 0 E
  )
  ) else (
  if v34.toInt32 = 94 then (
  (gO E (some x0) 7).bind fun o166 =>
  (f_M_gives o166.1 x1 (v3 ^^^ v25) E).bind fun v166 =>
  some (v166.1, v166.2)
  ) else (
  if v34.toInt32 = 124 then (
  (gO E (some x0) 7).bind fun o157 =>
  (f_M_gives o157.1 x1 (v3 ||| v25) E).bind fun v157 =>
  some (v157.1, v157.2)
  ) else (
  if v25 = 0 then (
  some (103, E)
  ) else (
  if v25 = (-1) then (
  if v34.toInt32 = 47 then (
  f_M_let_b229 N (some x0) x1 (-v3) E
  ) else (
  f_M_let_b229 N (some x0) x1 0 E
  )
  ) else (
  if v34.toInt32 = 47 then (
  if v25 = 0 then none else (
  f_M_let_b251 N (some x0) x1 (v3 / v25) E
  )
  ) else (
  if v25 = 0 then none else (
  f_M_let_b251 N (some x0) x1 (v3 - v3 / v25 * v25) E
  )
  )
  )
  )
  ))))))))
  ))
set_option maxHeartbeats 4000000 in
set_option maxRecDepth 100000 in
theorem c_M_let {l : Launch} {D : va_G} {kA : Nat → ClassId} {S : hE} {g : Nat → Nat} {n0 nx : Nat} {N : Nat} {x0 : Nat} {x1 : Int32} {E : hE} {res : Int32 × hE} (hf : f_M_let N x0 x1 E = some res) : Met l y_M_let ws_M_let rm_M_let (va_Pc [va_rf (some x0), .int x1] (hJ D kA S g n0 (E, nx))) (va_Qi (fun r w => r = res.1 ∧ w = (res.2, nx)) (hJ D kA S g n0) (fun q => n0 ≤ q)) 0 0 (fun q => n0 ≤ q) := by
  refine h_met (cc := prog_11_method_35_code) (maxL := 5) (ret := (some .int)) (lvs := [(0, va_rf (some x0)), (1, .int x1)]) zZ_k (by decide) rfl (by simp [lg_sl, va_rf_cat, cat_i, cat_l, cat_n]) (by simp [lv_args, va_rf_cat, cat_i, cat_l, cat_n]) ?_
  intro p e s m below meth c ls C M hr hlk hnm hl
  unfold f_M_let at hf
  refine w_aload_n C.x C.b dM_let_0 rfl (lv_at hl 0 rfl) ?_
  refine lv_iload_n C.x C.b dM_let_1 rfl (lv_at hl 1 rfl) ?_
  refine lv_iconst (v := 2) C.x C.b dM_let_2 (by decide) ?_
  obtain ⟨o3, g3, hf⟩ := Option.bind_eq_some_iff.mp hf
  obtain ⟨v3, h3, hf⟩ := Option.bind_eq_some_iff.mp hf
  refine w_ci M (w_runV C M g3 rfl (c_M_value h3) (cwV 2 C.ts (hgV wm_965 wm_967 sel_M_value wm_6 wm_968) rfl rfl rfl (by decide +kernel) ⟨Nat.le_of_ble_eq_true rfl, Nat.le_of_ble_eq_true rfl⟩) rfl hl.1 rfl (Nat.zero_le _) dM_let_3 ⟨Nat.le_refl _, Nat.le_refl _⟩) (fun H locs M => ?_)
  refine lv_istore_n (lv' := [(2, .int v3), (0, va_rf (some x0)), (1, .int x1)]) C.x C.b dM_let_6 rfl hl (by decide) rfl (fun ls hl => ?_)
  refine w_aload_n C.x C.b dM_let_7 rfl (lv_at hl 1 rfl) ?_
  obtain ⟨v8, h8, hf⟩ := Option.bind_eq_some_iff.mp hf
  refine w_getI C M h8 rfl (hm_in in_M) (by decide) (List.mem_cons_of_mem _ wm_731) rfl dM_let_8 ?_
  refine lv_iconst (v := 3) C.x C.b dM_let_11 (by decide) ?_
  refine lv_icmp_ne (tgt := 22) C.x C.b dM_let_12 (by decide) (fun c12 => ?_) (fun c12 => ?_)
  · rw [if_neg c12] at hf
    refine w_aload_n C.x C.b dM_let_22 rfl (lv_at hl 1 rfl) ?_
    refine lv_iload_n C.x C.b dM_let_23 rfl (lv_at hl 2 rfl) ?_
    refine lv_iconst (v := 4) C.x C.b dM_let_24 (by decide) ?_
    obtain ⟨o25, g25, hf⟩ := Option.bind_eq_some_iff.mp hf
    obtain ⟨v25, h25, hf⟩ := Option.bind_eq_some_iff.mp hf
    refine w_ci M (w_runV C M g25 rfl (c_M_value h25) (cwV 2 C.ts (hgV wm_965 wm_967 sel_M_value wm_6 wm_968) rfl rfl rfl (by decide +kernel) ⟨Nat.le_of_ble_eq_true rfl, Nat.le_of_ble_eq_true rfl⟩) rfl hl.1 rfl (Nat.zero_le _) dM_let_25 ⟨Nat.le_refl _, Nat.le_refl _⟩) (fun H locs M => ?_)
    refine lv_istore_n (lv' := [(3, .int v25), (2, .int v3), (0, va_rf (some x0)), (1, .int x1)]) C.x C.b dM_let_28 rfl hl (by decide) rfl (fun ls hl => ?_)
    refine w_aload_n C.x C.b dM_let_29 rfl (lv_at hl 2 rfl) ?_
    obtain ⟨v30, h30, hf⟩ := Option.bind_eq_some_iff.mp hf
    refine w_getR C M h30 rfl (hm_in in_M) (by decide) (List.mem_cons_of_mem _ wm_732) rfl dM_let_30 ?_
    refine lv_iconst (v := 3) C.x C.b dM_let_33 (by decide) ?_
    obtain ⟨v34, h34, hf⟩ := Option.bind_eq_some_iff.mp hf
    refine w_lald C M h34 rfl dM_let_34 ?_
    refine lv_l2i C.x C.b dM_let_35 rfl ?_
    refine lv_istore (lv' := [(4, .int v34.toInt32), (3, .int v25), (2, .int v3), (0, va_rf (some x0)), (1, .int x1)]) C.x C.b dM_let_36 hl (by decide) rfl (fun ls hl => ?_)
    refine lv_iload C.x C.b dM_let_38 (lv_at hl 0 rfl) ?_
    by_cases c40_0 : v34.toInt32 = 38
    · rw [if_pos c40_0] at hf
      refine lv_lookup (off := 103) (tgt := 143) C.x C.b dM_let_40 (by decide) (by rw [c40_0] <;> rfl) (by decide) ?_
      refine w_aload_n C.x C.b dM_let_143 rfl (lv_at hl 3 rfl) ?_
      refine lv_iload_n C.x C.b dM_let_144 rfl (lv_at hl 4 rfl) ?_
      refine lv_iload_n C.x C.b dM_let_145 rfl (lv_at hl 2 rfl) ?_
      refine lv_iload_n C.x C.b dM_let_146 rfl (lv_at hl 1 rfl) ?_
      refine lv_iand C.x C.b dM_let_147 ?_
      obtain ⟨o148, g148, hf⟩ := Option.bind_eq_some_iff.mp hf
      obtain ⟨v148, h148, hf⟩ := Option.bind_eq_some_iff.mp hf
      refine w_ci M (w_runV C M g148 rfl (c_M_gives h148) (cwV 2 C.ts (hgV wm_973 wm_975 sel_M_gives wm_6 wm_976) rfl rfl rfl (by decide +kernel) ⟨Nat.le_of_ble_eq_true rfl, Nat.le_of_ble_eq_true rfl⟩) rfl hl.1 rfl (Nat.zero_le _) dM_let_148 ⟨Nat.le_refl _, Nat.le_refl _⟩) (fun H locs M => ?_)
      cases hf
      exact w_iret C M hr hlk rfl (Nat.le_refl _) (Nat.le_refl _) dM_let_151 rfl rfl
    · rw [if_neg c40_0] at hf
      by_cases c40_1 : v34.toInt32 = 42
      · rw [if_pos c40_1] at hf
        refine lv_lookup (off := 94) (tgt := 134) C.x C.b dM_let_40 (by decide) (by rw [c40_1] <;> rfl) (by decide) ?_
        refine w_aload_n C.x C.b dM_let_134 rfl (lv_at hl 3 rfl) ?_
        refine lv_iload_n C.x C.b dM_let_135 rfl (lv_at hl 4 rfl) ?_
        refine lv_iload_n C.x C.b dM_let_136 rfl (lv_at hl 2 rfl) ?_
        refine lv_iload_n C.x C.b dM_let_137 rfl (lv_at hl 1 rfl) ?_
        refine lv_imul C.x C.b dM_let_138 ?_
        obtain ⟨o139, g139, hf⟩ := Option.bind_eq_some_iff.mp hf
        obtain ⟨v139, h139, hf⟩ := Option.bind_eq_some_iff.mp hf
        refine w_ci M (w_runV C M g139 rfl (c_M_gives h139) (cwV 2 C.ts (hgV wm_973 wm_975 sel_M_gives wm_6 wm_976) rfl rfl rfl (by decide +kernel) ⟨Nat.le_of_ble_eq_true rfl, Nat.le_of_ble_eq_true rfl⟩) rfl hl.1 rfl (Nat.zero_le _) dM_let_139 ⟨Nat.le_refl _, Nat.le_refl _⟩) (fun H locs M => ?_)
        cases hf
        exact w_iret C M hr hlk rfl (Nat.le_refl _) (Nat.le_refl _) dM_let_142 rfl rfl
      · rw [if_neg c40_1] at hf
        by_cases c40_2 : v34.toInt32 = 43
        · rw [if_pos c40_2] at hf
          refine lv_lookup (off := 76) (tgt := 116) C.x C.b dM_let_40 (by decide) (by rw [c40_2] <;> rfl) (by decide) ?_
          refine w_aload_n C.x C.b dM_let_116 rfl (lv_at hl 3 rfl) ?_
          refine lv_iload_n C.x C.b dM_let_117 rfl (lv_at hl 4 rfl) ?_
          refine lv_iload_n C.x C.b dM_let_118 rfl (lv_at hl 2 rfl) ?_
          refine lv_iload_n C.x C.b dM_let_119 rfl (lv_at hl 1 rfl) ?_
          refine lv_iadd C.x C.b dM_let_120 ?_
          obtain ⟨o121, g121, hf⟩ := Option.bind_eq_some_iff.mp hf
          obtain ⟨v121, h121, hf⟩ := Option.bind_eq_some_iff.mp hf
          refine w_ci M (w_runV C M g121 rfl (c_M_gives h121) (cwV 2 C.ts (hgV wm_973 wm_975 sel_M_gives wm_6 wm_976) rfl rfl rfl (by decide +kernel) ⟨Nat.le_of_ble_eq_true rfl, Nat.le_of_ble_eq_true rfl⟩) rfl hl.1 rfl (Nat.zero_le _) dM_let_121 ⟨Nat.le_refl _, Nat.le_refl _⟩) (fun H locs M => ?_)
          cases hf
          exact w_iret C M hr hlk rfl (Nat.le_refl _) (Nat.le_refl _) dM_let_124 rfl rfl
        · rw [if_neg c40_2] at hf
          by_cases c40_3 : v34.toInt32 = 45
          · rw [if_pos c40_3] at hf
            refine lv_lookup (off := 85) (tgt := 125) C.x C.b dM_let_40 (by decide) (by rw [c40_3] <;> rfl) (by decide) ?_
            refine w_aload_n C.x C.b dM_let_125 rfl (lv_at hl 3 rfl) ?_
            refine lv_iload_n C.x C.b dM_let_126 rfl (lv_at hl 4 rfl) ?_
            refine lv_iload_n C.x C.b dM_let_127 rfl (lv_at hl 2 rfl) ?_
            refine lv_iload_n C.x C.b dM_let_128 rfl (lv_at hl 1 rfl) ?_
            refine lv_isub C.x C.b dM_let_129 ?_
            obtain ⟨o130, g130, hf⟩ := Option.bind_eq_some_iff.mp hf
            obtain ⟨v130, h130, hf⟩ := Option.bind_eq_some_iff.mp hf
            refine w_ci M (w_runV C M g130 rfl (c_M_gives h130) (cwV 2 C.ts (hgV wm_973 wm_975 sel_M_gives wm_6 wm_976) rfl rfl rfl (by decide +kernel) ⟨Nat.le_of_ble_eq_true rfl, Nat.le_of_ble_eq_true rfl⟩) rfl hl.1 rfl (Nat.zero_le _) dM_let_130 ⟨Nat.le_refl _, Nat.le_refl _⟩) (fun H locs M => ?_)
            cases hf
            exact w_iret C M hr hlk rfl (Nat.le_refl _) (Nat.le_refl _) dM_let_133 rfl rfl
          · rw [if_neg c40_3] at hf
            by_cases c40_4 : v34.toInt32 = 60
            · rw [if_pos c40_4] at hf
              refine lv_lookup (off := 130) (tgt := 170) C.x C.b dM_let_40 (by decide) (by rw [c40_4] <;> rfl) (by decide) ?_
              refine w_aload_n C.x C.b dM_let_170 rfl (lv_at hl 3 rfl) ?_
              refine lv_iload_n C.x C.b dM_let_171 rfl (lv_at hl 4 rfl) ?_
              refine lv_iload_n C.x C.b dM_let_172 rfl (lv_at hl 2 rfl) ?_
              refine lv_iload_n C.x C.b dM_let_173 rfl (lv_at hl 1 rfl) ?_
              refine lv_icmp_ge (tgt := 181) C.x C.b dM_let_174 (by decide) (fun c174 => ?_) (fun c174 => ?_)
              · rw [if_pos c174] at hf
                refine lv_iconst (v := 0) C.x C.b dM_let_181 (by decide) ?_
                exact b_M_let_182 C hr hlk hnm _ _ _ _ _ _ _ M (lv_sub hl [] rfl) hf
              · rw [if_neg c174] at hf
                refine lv_iconst (v := 1) C.x C.b dM_let_177 (by decide) ?_
                refine lv_goto (tgt := 182) C.x C.b dM_let_178 (by decide) ?_
                exact b_M_let_182 C hr hlk hnm _ _ _ _ _ _ _ M (lv_sub hl [] rfl) hf
            · rw [if_neg c40_4] at hf
              by_cases c40_5 : v34.toInt32 = 61
              · rw [if_pos c40_5] at hf
                refine lv_lookup (off := 146) (tgt := 186) C.x C.b dM_let_40 (by decide) (by rw [c40_5] <;> rfl) (by decide) ?_
                refine w_aload_n C.x C.b dM_let_186 rfl (lv_at hl 3 rfl) ?_
                refine lv_iload_n C.x C.b dM_let_187 rfl (lv_at hl 4 rfl) ?_
                refine lv_iload_n C.x C.b dM_let_188 rfl (lv_at hl 2 rfl) ?_
                refine lv_iload_n C.x C.b dM_let_189 rfl (lv_at hl 1 rfl) ?_
                refine lv_icmp_ne (tgt := 197) C.x C.b dM_let_190 (by decide) (fun c190 => ?_) (fun c190 => ?_)
                · rw [if_neg c190] at hf
                  refine lv_iconst (v := 0) C.x C.b dM_let_197 (by decide) ?_
                  exact b_M_let_198 C hr hlk hnm _ _ _ _ _ _ _ M (lv_sub hl [] rfl) hf
                · rw [if_pos c190] at hf
                  refine lv_iconst (v := 1) C.x C.b dM_let_193 (by decide) ?_
                  refine lv_goto (tgt := 198) C.x C.b dM_let_194 (by decide) ?_
                  exact b_M_let_198 C hr hlk hnm _ _ _ _ _ _ _ M (lv_sub hl [] rfl) hf
              · rw [if_neg c40_5] at hf
                by_cases c40_6 : v34.toInt32 = 94
                · rw [if_pos c40_6] at hf
                  refine lv_lookup (off := 121) (tgt := 161) C.x C.b dM_let_40 (by decide) (by rw [c40_6] <;> rfl) (by decide) ?_
                  refine w_aload_n C.x C.b dM_let_161 rfl (lv_at hl 3 rfl) ?_
                  refine lv_iload_n C.x C.b dM_let_162 rfl (lv_at hl 4 rfl) ?_
                  refine lv_iload_n C.x C.b dM_let_163 rfl (lv_at hl 2 rfl) ?_
                  refine lv_iload_n C.x C.b dM_let_164 rfl (lv_at hl 1 rfl) ?_
                  refine lv_ixor C.x C.b dM_let_165 ?_
                  obtain ⟨o166, g166, hf⟩ := Option.bind_eq_some_iff.mp hf
                  obtain ⟨v166, h166, hf⟩ := Option.bind_eq_some_iff.mp hf
                  refine w_ci M (w_runV C M g166 rfl (c_M_gives h166) (cwV 2 C.ts (hgV wm_973 wm_975 sel_M_gives wm_6 wm_976) rfl rfl rfl (by decide +kernel) ⟨Nat.le_of_ble_eq_true rfl, Nat.le_of_ble_eq_true rfl⟩) rfl hl.1 rfl (Nat.zero_le _) dM_let_166 ⟨Nat.le_refl _, Nat.le_refl _⟩) (fun H locs M => ?_)
                  cases hf
                  exact w_iret C M hr hlk rfl (Nat.le_refl _) (Nat.le_refl _) dM_let_169 rfl rfl
                · rw [if_neg c40_6] at hf
                  by_cases c40_7 : v34.toInt32 = 124
                  · rw [if_pos c40_7] at hf
                    refine lv_lookup (off := 112) (tgt := 152) C.x C.b dM_let_40 (by decide) (by rw [c40_7] <;> rfl) (by decide) ?_
                    refine w_aload_n C.x C.b dM_let_152 rfl (lv_at hl 3 rfl) ?_
                    refine lv_iload_n C.x C.b dM_let_153 rfl (lv_at hl 4 rfl) ?_
                    refine lv_iload_n C.x C.b dM_let_154 rfl (lv_at hl 2 rfl) ?_
                    refine lv_iload_n C.x C.b dM_let_155 rfl (lv_at hl 1 rfl) ?_
                    refine lv_ior C.x C.b dM_let_156 ?_
                    obtain ⟨o157, g157, hf⟩ := Option.bind_eq_some_iff.mp hf
                    obtain ⟨v157, h157, hf⟩ := Option.bind_eq_some_iff.mp hf
                    refine w_ci M (w_runV C M g157 rfl (c_M_gives h157) (cwV 2 C.ts (hgV wm_973 wm_975 sel_M_gives wm_6 wm_976) rfl rfl rfl (by decide +kernel) ⟨Nat.le_of_ble_eq_true rfl, Nat.le_of_ble_eq_true rfl⟩) rfl hl.1 rfl (Nat.zero_le _) dM_let_157 ⟨Nat.le_refl _, Nat.le_refl _⟩) (fun H locs M => ?_)
                    cases hf
                    exact w_iret C M hr hlk rfl (Nat.le_refl _) (Nat.le_refl _) dM_let_160 rfl rfl
                  · rw [if_neg c40_7] at hf
                    refine lv_lookup (off := 162) (tgt := 202) C.x C.b dM_let_40 (by decide) (by rw [lv_osw c40_0 (by decide), lv_osw c40_1 (by decide), lv_osw c40_2 (by decide), lv_osw c40_3 (by decide), lv_osw c40_4 (by decide), lv_osw c40_5 (by decide), lv_osw c40_6 (by decide), lv_osw c40_7 (by decide)] <;> rfl) (by decide) ?_
                    refine lv_iload_n C.x C.b dM_let_202 rfl (lv_at hl 1 rfl) ?_
                    refine lv_if_ne (tgt := 209) C.x C.b dM_let_203 (by decide) (fun c203 => ?_) (fun c203 => ?_)
                    · rw [if_neg c203] at hf
                      refine lv_iload_n C.x C.b dM_let_209 rfl (lv_at hl 1 rfl) ?_
                      refine lv_iconst (v := (-1)) C.x C.b dM_let_210 (by decide) ?_
                      refine lv_icmp_ne (tgt := 233) C.x C.b dM_let_211 (by decide) (fun c211 => ?_) (fun c211 => ?_)
                      · rw [if_neg c211] at hf
                        refine w_aload_n C.x C.b dM_let_233 rfl (lv_at hl 3 rfl) ?_
                        refine lv_iload_n C.x C.b dM_let_234 rfl (lv_at hl 4 rfl) ?_
                        refine lv_iload C.x C.b dM_let_235 (lv_at hl 0 rfl) ?_
                        refine lv_bipush (v := 47) C.x C.b dM_let_237 (by decide) ?_
                        refine lv_icmp_ne (tgt := 248) C.x C.b dM_let_239 (by decide) (fun c239 => ?_) (fun c239 => ?_)
                        · rw [if_neg c239] at hf
                          refine lv_iload_n C.x C.b dM_let_248 rfl (lv_at hl 2 rfl) ?_
                          refine lv_iload_n C.x C.b dM_let_249 rfl (lv_at hl 1 rfl) ?_
                          have c250 : ¬ v25 = 0 := fun z => by rw [if_pos z] at hf; cases hf
                          rw [if_neg c250] at hf
                          refine lv_irem C.x C.b dM_let_250 c250 ?_
                          exact b_M_let_251 C hr hlk hnm _ _ _ _ _ _ _ M (lv_sub hl [] rfl) hf
                        · rw [if_pos c239] at hf
                          refine lv_iload_n C.x C.b dM_let_242 rfl (lv_at hl 2 rfl) ?_
                          refine lv_iload_n C.x C.b dM_let_243 rfl (lv_at hl 1 rfl) ?_
                          have c244 : ¬ v25 = 0 := fun z => by rw [if_pos z] at hf; cases hf
                          rw [if_neg c244] at hf
                          refine lv_idiv C.x C.b dM_let_244 c244 ?_
                          refine lv_goto (tgt := 251) C.x C.b dM_let_245 (by decide) ?_
                          exact b_M_let_251 C hr hlk hnm _ _ _ _ _ _ _ M (lv_sub hl [] rfl) hf
                      · rw [if_pos c211] at hf
                        refine w_aload_n C.x C.b dM_let_214 rfl (lv_at hl 3 rfl) ?_
                        refine lv_iload_n C.x C.b dM_let_215 rfl (lv_at hl 4 rfl) ?_
                        refine lv_iload C.x C.b dM_let_216 (lv_at hl 0 rfl) ?_
                        refine lv_bipush (v := 47) C.x C.b dM_let_218 (by decide) ?_
                        refine lv_icmp_ne (tgt := 228) C.x C.b dM_let_220 (by decide) (fun c220 => ?_) (fun c220 => ?_)
                        · rw [if_neg c220] at hf
                          refine lv_iconst (v := 0) C.x C.b dM_let_228 (by decide) ?_
                          exact b_M_let_229 C hr hlk hnm _ _ _ _ _ _ _ M (lv_sub hl [] rfl) hf
                        · rw [if_pos c220] at hf
                          refine lv_iload_n C.x C.b dM_let_223 rfl (lv_at hl 2 rfl) ?_
                          refine lv_ineg C.x C.b dM_let_224 ?_
                          refine lv_goto (tgt := 229) C.x C.b dM_let_225 (by decide) ?_
                          exact b_M_let_229 C hr hlk hnm _ _ _ _ _ _ _ M (lv_sub hl [] rfl) hf
                    · rw [if_pos c203] at hf
                      refine lv_bipush (v := 103) C.x C.b dM_let_206 (by decide) ?_
                      cases hf
                      exact w_iret C M hr hlk rfl (Nat.le_refl _) (Nat.le_refl _) dM_let_208 rfl rfl
  · rw [if_pos c12] at hf
    refine w_aload_n C.x C.b dM_let_15 rfl (lv_at hl 1 rfl) ?_
    refine lv_iload_n C.x C.b dM_let_16 rfl (lv_at hl 2 rfl) ?_
    refine lv_iload_n C.x C.b dM_let_17 rfl (lv_at hl 0 rfl) ?_
    obtain ⟨o18, g18, hf⟩ := Option.bind_eq_some_iff.mp hf
    obtain ⟨v18, h18, hf⟩ := Option.bind_eq_some_iff.mp hf
    refine w_ci M (w_runV C M g18 rfl (c_M_gives h18) (cwV 2 C.ts (hgV wm_973 wm_975 sel_M_gives wm_6 wm_976) rfl rfl rfl (by decide +kernel) ⟨Nat.le_of_ble_eq_true rfl, Nat.le_of_ble_eq_true rfl⟩) rfl hl.1 rfl (Nat.zero_le _) dM_let_18 ⟨Nat.le_refl _, Nat.le_refl _⟩) (fun H locs M => ?_)
    cases hf
    exact w_iret C M hr hlk rfl (Nat.le_refl _) (Nat.le_refl _) dM_let_21 rfl rfl
theorem dM_put_0 : decode prog_11_method_36_code 0 = .ok (.iload_n 2, 1) := by decide +kernel
theorem dM_put_1 : decode prog_11_method_36_code 1 = .ok (.iconst 0, 1) := by decide +kernel
theorem dM_put_2 : decode prog_11_method_36_code 2 = .ok (.bipush 31, 2) := by decide +kernel
theorem dM_put_4 : decode prog_11_method_36_code 4 = .ok (.invokestatic 83, 3) := by decide +kernel
theorem dM_put_7 : decode prog_11_method_36_code 7 = .ok (.ifCond .ne 6, 3) := by decide +kernel
theorem dM_put_10 : decode prog_11_method_36_code 10 = .ok (.bipush 102, 2) := by decide +kernel
theorem dM_put_12 : decode prog_11_method_36_code 12 = .ok (.ireturn, 1) := by decide +kernel
theorem dM_put_13 : decode prog_11_method_36_code 13 = .ok (.aload_n 0, 1) := by decide +kernel
theorem dM_put_14 : decode prog_11_method_36_code 14 = .ok (.getfield 72, 3) := by decide +kernel
theorem dM_put_17 : decode prog_11_method_36_code 17 = .ok (.bipush 32, 2) := by decide +kernel
theorem dM_put_19 : decode prog_11_method_36_code 19 = .ok (.iload_n 1, 1) := by decide +kernel
theorem dM_put_20 : decode prog_11_method_36_code 20 = .ok (.imul, 1) := by decide +kernel
theorem dM_put_21 : decode prog_11_method_36_code 21 = .ok (.iload_n 2, 1) := by decide +kernel
theorem dM_put_22 : decode prog_11_method_36_code 22 = .ok (.iadd, 1) := by decide +kernel
theorem dM_put_23 : decode prog_11_method_36_code 23 = .ok (.iload_n 3, 1) := by decide +kernel
theorem dM_put_24 : decode prog_11_method_36_code 24 = .ok (.iastore, 1) := by decide +kernel
theorem dM_put_25 : decode prog_11_method_36_code 25 = .ok (.aload_n 0, 1) := by decide +kernel
theorem dM_put_26 : decode prog_11_method_36_code 26 = .ok (.iload_n 1, 1) := by decide +kernel
theorem dM_put_27 : decode prog_11_method_36_code 27 = .ok (.invokevirtual 257, 3) := by decide +kernel
theorem dM_put_30 : decode prog_11_method_36_code 30 = .ok (.ireturn, 1) := by decide +kernel
abbrev rm_M_put : Room := { frames := 1, cells := 0, slots := 0, locals := 22 }
def f_M_put  (x0 : Nat) (x1 : Int32) (x2 : Int32) (x3 : Int32) (E : hE) : Option (Int32 × hE) := (
  (f_M_in E x2 0 31).bind fun v4 =>
  if v4 = 0 then (
  some (102, E)
  ) else (
  (gR E (some x0) 7 30).bind fun v14 =>
  (tI E v14 0 ((32 * x1) + x2) x3).bind fun E24 =>
  (gO E24 (some x0) 7).bind fun o27 =>
  (f_M_goesOn o27.1 x1 E24).bind fun v27 =>
  some (v27.1, v27.2)
  ))
set_option maxHeartbeats 4000000 in
set_option maxRecDepth 100000 in
theorem c_M_put {l : Launch} {D : va_G} {kA : Nat → ClassId} {S : hE} {g : Nat → Nat} {n0 nx : Nat} {x0 : Nat} {x1 : Int32} {x2 : Int32} {x3 : Int32} {E : hE} {res : Int32 × hE} (hf : f_M_put x0 x1 x2 x3 E = some res) : Met l y_M_put ws_M_put rm_M_put (va_Pc [va_rf (some x0), .int x1, .int x2, .int x3] (hJ D kA S g n0 (E, nx))) (va_Qi (fun r w => r = res.1 ∧ w = (res.2, nx)) (hJ D kA S g n0) (fun q => n0 ≤ q)) 0 0 (fun q => n0 ≤ q) := by
  refine h_met (cc := prog_11_method_36_code) (maxL := 4) (ret := (some .int)) (lvs := [(0, va_rf (some x0)), (1, .int x1), (2, .int x2), (3, .int x3)]) zZ_k (by decide) rfl (by simp [lg_sl, va_rf_cat, cat_i, cat_l, cat_n]) (by simp [lv_args, va_rf_cat, cat_i, cat_l, cat_n]) ?_
  intro p e s m below meth c ls C M hr hlk hnm hl
  unfold f_M_put at hf
  refine lv_iload_n C.x C.b dM_put_0 rfl (lv_at hl 2 rfl) ?_
  refine lv_iconst (v := 0) C.x C.b dM_put_1 (by decide) ?_
  refine lv_bipush (v := 31) C.x C.b dM_put_2 (by decide) ?_
  obtain ⟨v4, h4, hf⟩ := Option.bind_eq_some_iff.mp hf
  refine w_ci M (w_runS C M (c_M_in h4) (cwS 3 C.ts (hgS wm_829 wm_830 wm_6 wm_831) rfl rfl rfl (by decide +kernel) ⟨Nat.le_of_ble_eq_true rfl, Nat.le_of_ble_eq_true rfl⟩) rfl hl.1 rfl (Nat.zero_le _) dM_put_4 ⟨Nat.le_refl _, Nat.le_refl _⟩) (fun H locs M => ?_)
  refine lv_if_ne (tgt := 13) C.x C.b dM_put_7 (by decide) (fun c7 => ?_) (fun c7 => ?_)
  · rw [if_neg c7] at hf
    refine w_aload_n C.x C.b dM_put_13 rfl (lv_at hl 0 rfl) ?_
    obtain ⟨v14, h14, hf⟩ := Option.bind_eq_some_iff.mp hf
    refine w_getR C M h14 rfl (hm_in in_M) (by decide) (List.mem_cons_of_mem _ wm_753) rfl dM_put_14 ?_
    refine lv_bipush (v := 32) C.x C.b dM_put_17 (by decide) ?_
    refine lv_iload_n C.x C.b dM_put_19 rfl (lv_at hl 1 rfl) ?_
    refine lv_imul C.x C.b dM_put_20 ?_
    refine lv_iload_n C.x C.b dM_put_21 rfl (lv_at hl 2 rfl) ?_
    refine lv_iadd C.x C.b dM_put_22 ?_
    refine lv_iload_n C.x C.b dM_put_23 rfl (lv_at hl 3 rfl) ?_
    obtain ⟨E24, h24, hf⟩ := Option.bind_eq_some_iff.mp hf
    refine w_iast C M h24 rfl dM_put_24 (fun H locs M => ?_)
    refine w_aload_n C.x C.b dM_put_25 rfl (lv_at hl 0 rfl) ?_
    refine lv_iload_n C.x C.b dM_put_26 rfl (lv_at hl 1 rfl) ?_
    obtain ⟨o27, g27, hf⟩ := Option.bind_eq_some_iff.mp hf
    obtain ⟨v27, h27, hf⟩ := Option.bind_eq_some_iff.mp hf
    refine w_ci M (w_runV C M g27 rfl (c_M_goesOn h27) (cwV 1 C.ts (hgV wm_981 wm_983 sel_M_goesOn wm_6 wm_984) rfl rfl rfl (by decide +kernel) ⟨Nat.le_of_ble_eq_true rfl, Nat.le_of_ble_eq_true rfl⟩) rfl hl.1 rfl (Nat.zero_le _) dM_put_27 ⟨Nat.le_refl _, Nat.le_refl _⟩) (fun H locs M => ?_)
    cases hf
    exact w_iret C M hr hlk rfl (Nat.le_refl _) (Nat.le_refl _) dM_put_30 rfl rfl
  · rw [if_pos c7] at hf
    refine lv_bipush (v := 102) C.x C.b dM_put_10 (by decide) ?_
    cases hf
    exact w_iret C M hr hlk rfl (Nat.le_refl _) (Nat.le_refl _) dM_put_12 rfl rfl
theorem dM_read_0 : decode prog_11_method_38_code 0 = .ok (.iload_n 2, 1) := by decide +kernel
theorem dM_read_1 : decode prog_11_method_38_code 1 = .ok (.invokestatic 206, 3) := by decide +kernel
theorem dM_read_4 : decode prog_11_method_38_code 4 = .ok (.ifCond .ne 6, 3) := by decide +kernel
theorem dM_read_7 : decode prog_11_method_38_code 7 = .ok (.bipush 102, 2) := by decide +kernel
theorem dM_read_9 : decode prog_11_method_38_code 9 = .ok (.ireturn, 1) := by decide +kernel
theorem dM_read_10 : decode prog_11_method_38_code 10 = .ok (.aload_n 0, 1) := by decide +kernel
theorem dM_read_11 : decode prog_11_method_38_code 11 = .ok (.getfield 42, 3) := by decide +kernel
theorem dM_read_14 : decode prog_11_method_38_code 14 = .ok (.iload_n 2, 1) := by decide +kernel
theorem dM_read_15 : decode prog_11_method_38_code 15 = .ok (.baload, 1) := by decide +kernel
theorem dM_read_16 : decode prog_11_method_38_code 16 = .ok (.ifCond .ne 6, 3) := by decide +kernel
theorem dM_read_19 : decode prog_11_method_38_code 19 = .ok (.bipush 101, 2) := by decide +kernel
theorem dM_read_21 : decode prog_11_method_38_code 21 = .ok (.ireturn, 1) := by decide +kernel
theorem dM_read_22 : decode prog_11_method_38_code 22 = .ok (.iload_n 3, 1) := by decide +kernel
theorem dM_read_23 : decode prog_11_method_38_code 23 = .ok (.iconst 0, 1) := by decide +kernel
theorem dM_read_24 : decode prog_11_method_38_code 24 = .ok (.aload_n 0, 1) := by decide +kernel
theorem dM_read_25 : decode prog_11_method_38_code 25 = .ok (.getfield 45, 3) := by decide +kernel
theorem dM_read_28 : decode prog_11_method_38_code 28 = .ok (.iload_n 2, 1) := by decide +kernel
theorem dM_read_29 : decode prog_11_method_38_code 29 = .ok (.iaload, 1) := by decide +kernel
theorem dM_read_30 : decode prog_11_method_38_code 30 = .ok (.iconst 1, 1) := by decide +kernel
theorem dM_read_31 : decode prog_11_method_38_code 31 = .ok (.isub, 1) := by decide +kernel
theorem dM_read_32 : decode prog_11_method_38_code 32 = .ok (.invokestatic 83, 3) := by decide +kernel
theorem dM_read_35 : decode prog_11_method_38_code 35 = .ok (.ifCond .eq 22, 3) := by decide +kernel
theorem dM_read_38 : decode prog_11_method_38_code 38 = .ok (.aload_n 0, 1) := by decide +kernel
theorem dM_read_39 : decode prog_11_method_38_code 39 = .ok (.iload_n 1, 1) := by decide +kernel
theorem dM_read_40 : decode prog_11_method_38_code 40 = .ok (.aload_n 0, 1) := by decide +kernel
theorem dM_read_41 : decode prog_11_method_38_code 41 = .ok (.getfield 48, 3) := by decide +kernel
theorem dM_read_44 : decode prog_11_method_38_code 44 = .ok (.bipush 40, 2) := by decide +kernel
theorem dM_read_46 : decode prog_11_method_38_code 46 = .ok (.iload_n 2, 1) := by decide +kernel
theorem dM_read_47 : decode prog_11_method_38_code 47 = .ok (.imul, 1) := by decide +kernel
theorem dM_read_48 : decode prog_11_method_38_code 48 = .ok (.iload_n 3, 1) := by decide +kernel
theorem dM_read_49 : decode prog_11_method_38_code 49 = .ok (.iadd, 1) := by decide +kernel
theorem dM_read_50 : decode prog_11_method_38_code 50 = .ok (.iaload, 1) := by decide +kernel
theorem dM_read_51 : decode prog_11_method_38_code 51 = .ok (.invokevirtual 267, 3) := by decide +kernel
theorem dM_read_54 : decode prog_11_method_38_code 54 = .ok (.goto 5, 3) := by decide +kernel
theorem dM_read_57 : decode prog_11_method_38_code 57 = .ok (.bipush 102, 2) := by decide +kernel
theorem dM_read_59 : decode prog_11_method_38_code 59 = .ok (.ireturn, 1) := by decide +kernel
abbrev rm_M_read : Room := { frames := 2, cells := 0, slots := 0, locals := 45 }
def f_M_read_b59  (t0 : Int32) (E : hE) : Option (Int32 × hE) := (
  some (t0, E))
set_option maxHeartbeats 4000000 in
set_option maxRecDepth 100000 in
theorem b_M_read_59 {p : Program} {l : Launch} {e : Env} {s : State} {m : MethodId} {args : Array Value} {below : List Frame} {meth : Method} {c : Code} {D : va_G} {kA : Nat → ClassId} {S : hE} {g : Nat → Nat} {n0 nx : Nat} {res : Int32 × hE} (C : hX p s m args c prog_11_method_38_code 4 R_M ws_M_read D kA S g n0) (hr : meth.sig.returnType = (some .int)) (hlk : meth.locks = false) (hnm : meth.name = "read") : ∀ (t0 : Int32) (E : hE) (H : Heap) (locs : List Loc) (ls : Array Slot), hY D kA n0 s E nx H locs → lv_has ls 4 [] → f_M_read_b59  t0 E = some res → W p l e rm_M_read s m args below meth c H locs 0 0 (MQ below (va_Qi (fun r w => r = res.1 ∧ w = (res.2, nx)) (hJ D kA S g n0) (fun q => n0 ≤ q)) args s 0 0 (fun q => n0 ≤ q)) (F0 m 59 ls [.int t0]) := by
  intro t0 E H locs ls M hl hf
  unfold f_M_read_b59 at hf
  cases hf
  exact w_iret C M hr hlk rfl (Nat.le_refl _) (Nat.le_refl _) dM_read_59 rfl rfl
def f_M_read  (x0 : Nat) (x1 : Int32) (x2 : Int32) (x3 : Int32) (E : hE) : Option (Int32 × hE) := (
  (f_M_isFile E x2).bind fun v1 =>
  if v1 = 0 then (
  some (102, E)
  ) else (
  (gR E (some x0) 7 12).bind fun v11 =>
  (aI E v11 1 x2).bind fun v15 =>
  if v15 = 0 then (
  some (101, E)
  ) else (
  (gR E (some x0) 7 13).bind fun v25 =>
  (aI E v25 0 x2).bind fun v29 =>
  (f_M_in E x3 0 (v29 - 1)).bind fun v32 =>
  if v32 = 0 then (
  f_M_read_b59 102 E
  ) else (
  (gR E (some x0) 7 14).bind fun v41 =>
  (aI E v41 0 ((40 * x2) + x3)).bind fun v50 =>
  (gO E (some x0) 7).bind fun o51 =>
  (f_M_gives o51.1 x1 v50 E).bind fun v51 =>
  f_M_read_b59 v51.1 v51.2
  )
  )
  ))
set_option maxHeartbeats 4000000 in
set_option maxRecDepth 100000 in
theorem c_M_read {l : Launch} {D : va_G} {kA : Nat → ClassId} {S : hE} {g : Nat → Nat} {n0 nx : Nat} {x0 : Nat} {x1 : Int32} {x2 : Int32} {x3 : Int32} {E : hE} {res : Int32 × hE} (hf : f_M_read x0 x1 x2 x3 E = some res) : Met l y_M_read ws_M_read rm_M_read (va_Pc [va_rf (some x0), .int x1, .int x2, .int x3] (hJ D kA S g n0 (E, nx))) (va_Qi (fun r w => r = res.1 ∧ w = (res.2, nx)) (hJ D kA S g n0) (fun q => n0 ≤ q)) 0 0 (fun q => n0 ≤ q) := by
  refine h_met (cc := prog_11_method_38_code) (maxL := 4) (ret := (some .int)) (lvs := [(0, va_rf (some x0)), (1, .int x1), (2, .int x2), (3, .int x3)]) zZ_k (by decide) rfl (by simp [lg_sl, va_rf_cat, cat_i, cat_l, cat_n]) (by simp [lv_args, va_rf_cat, cat_i, cat_l, cat_n]) ?_
  intro p e s m below meth c ls C M hr hlk hnm hl
  unfold f_M_read at hf
  refine lv_iload_n C.x C.b dM_read_0 rfl (lv_at hl 2 rfl) ?_
  obtain ⟨v1, h1, hf⟩ := Option.bind_eq_some_iff.mp hf
  refine w_ci M (w_runS C M (c_M_isFile h1) (cwS 1 C.ts (hgS wm_926 wm_927 wm_6 wm_928) rfl rfl rfl (by decide +kernel) ⟨Nat.le_of_ble_eq_true rfl, Nat.le_of_ble_eq_true rfl⟩) rfl hl.1 rfl (Nat.zero_le _) dM_read_1 ⟨Nat.le_refl _, Nat.le_refl _⟩) (fun H locs M => ?_)
  refine lv_if_ne (tgt := 10) C.x C.b dM_read_4 (by decide) (fun c4 => ?_) (fun c4 => ?_)
  · rw [if_neg c4] at hf
    refine w_aload_n C.x C.b dM_read_10 rfl (lv_at hl 0 rfl) ?_
    obtain ⟨v11, h11, hf⟩ := Option.bind_eq_some_iff.mp hf
    refine w_getR C M h11 rfl (hm_in in_M) (by decide) (List.mem_cons_of_mem _ wm_735) rfl dM_read_11 ?_
    refine lv_iload_n C.x C.b dM_read_14 rfl (lv_at hl 2 rfl) ?_
    obtain ⟨v15, h15, hf⟩ := Option.bind_eq_some_iff.mp hf
    refine w_zald C M h15 rfl dM_read_15 ?_
    refine lv_if_ne (tgt := 22) C.x C.b dM_read_16 (by decide) (fun c16 => ?_) (fun c16 => ?_)
    · rw [if_neg c16] at hf
      refine lv_iload_n C.x C.b dM_read_22 rfl (lv_at hl 3 rfl) ?_
      refine lv_iconst (v := 0) C.x C.b dM_read_23 (by decide) ?_
      refine w_aload_n C.x C.b dM_read_24 rfl (lv_at hl 0 rfl) ?_
      obtain ⟨v25, h25, hf⟩ := Option.bind_eq_some_iff.mp hf
      refine w_getR C M h25 rfl (hm_in in_M) (by decide) (List.mem_cons_of_mem _ wm_736) rfl dM_read_25 ?_
      refine lv_iload_n C.x C.b dM_read_28 rfl (lv_at hl 2 rfl) ?_
      obtain ⟨v29, h29, hf⟩ := Option.bind_eq_some_iff.mp hf
      refine w_iald C M h29 rfl dM_read_29 ?_
      refine lv_iconst (v := 1) C.x C.b dM_read_30 (by decide) ?_
      refine lv_isub C.x C.b dM_read_31 ?_
      obtain ⟨v32, h32, hf⟩ := Option.bind_eq_some_iff.mp hf
      refine w_ci M (w_runS C M (c_M_in h32) (cwS 3 C.ts (hgS wm_829 wm_830 wm_6 wm_831) rfl rfl rfl (by decide +kernel) ⟨Nat.le_of_ble_eq_true rfl, Nat.le_of_ble_eq_true rfl⟩) rfl hl.1 rfl (Nat.zero_le _) dM_read_32 ⟨Nat.le_refl _, Nat.le_refl _⟩) (fun H locs M => ?_)
      refine lv_if_eq (tgt := 57) C.x C.b dM_read_35 (by decide) (fun c35 => ?_) (fun c35 => ?_)
      · rw [if_pos c35] at hf
        refine lv_bipush (v := 102) C.x C.b dM_read_57 (by decide) ?_
        exact b_M_read_59 C hr hlk hnm _ _ _ _ _ M (lv_sub hl [] rfl) hf
      · rw [if_neg c35] at hf
        refine w_aload_n C.x C.b dM_read_38 rfl (lv_at hl 0 rfl) ?_
        refine lv_iload_n C.x C.b dM_read_39 rfl (lv_at hl 1 rfl) ?_
        refine w_aload_n C.x C.b dM_read_40 rfl (lv_at hl 0 rfl) ?_
        obtain ⟨v41, h41, hf⟩ := Option.bind_eq_some_iff.mp hf
        refine w_getR C M h41 rfl (hm_in in_M) (by decide) (List.mem_cons_of_mem _ wm_737) rfl dM_read_41 ?_
        refine lv_bipush (v := 40) C.x C.b dM_read_44 (by decide) ?_
        refine lv_iload_n C.x C.b dM_read_46 rfl (lv_at hl 2 rfl) ?_
        refine lv_imul C.x C.b dM_read_47 ?_
        refine lv_iload_n C.x C.b dM_read_48 rfl (lv_at hl 3 rfl) ?_
        refine lv_iadd C.x C.b dM_read_49 ?_
        obtain ⟨v50, h50, hf⟩ := Option.bind_eq_some_iff.mp hf
        refine w_iald C M h50 rfl dM_read_50 ?_
        obtain ⟨o51, g51, hf⟩ := Option.bind_eq_some_iff.mp hf
        obtain ⟨v51, h51, hf⟩ := Option.bind_eq_some_iff.mp hf
        refine w_ci M (w_runV C M g51 rfl (c_M_gives h51) (cwV 2 C.ts (hgV wm_973 wm_975 sel_M_gives wm_6 wm_976) rfl rfl rfl (by decide +kernel) ⟨Nat.le_of_ble_eq_true rfl, Nat.le_of_ble_eq_true rfl⟩) rfl hl.1 rfl (Nat.zero_le _) dM_read_51 ⟨Nat.le_refl _, Nat.le_refl _⟩) (fun H locs M => ?_)
        refine lv_goto (tgt := 59) C.x C.b dM_read_54 (by decide) ?_
        exact b_M_read_59 C hr hlk hnm _ _ _ _ _ M (lv_sub hl [] rfl) hf
    · rw [if_pos c16] at hf
      refine lv_bipush (v := 101) C.x C.b dM_read_19 (by decide) ?_
      cases hf
      exact w_iret C M hr hlk rfl (Nat.le_refl _) (Nat.le_refl _) dM_read_21 rfl rfl
  · rw [if_pos c4] at hf
    refine lv_bipush (v := 102) C.x C.b dM_read_7 (by decide) ?_
    cases hf
    exact w_iret C M hr hlk rfl (Nat.le_refl _) (Nat.le_refl _) dM_read_9 rfl rfl
