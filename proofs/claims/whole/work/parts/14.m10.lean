/-! m10: by wip/whole/gen.py -/
theorem dTape_takeWord_0 : decode prog_9_method_6_code 0 = .ok (.iload_n 2, 1) := by decide +kernel
theorem dTape_takeWord_1 : decode prog_9_method_6_code 1 = .ok (.lookupswitch 231 #[(67, 169), (76, 197), (79, 141), (82, 67), (88, 93), (89, 117), (103, 223)], 67) := by decide +kernel
theorem dTape_takeWord_68 : decode prog_9_method_6_code 68 = .ok (.aload_n 0, 1) := by decide +kernel
theorem dTape_takeWord_69 : decode prog_9_method_6_code 69 = .ok (.aload_n 0, 1) := by decide +kernel
theorem dTape_takeWord_70 : decode prog_9_method_6_code 70 = .ok (.iload_n 1, 1) := by decide +kernel
theorem dTape_takeWord_71 : decode prog_9_method_6_code 71 = .ok (.invokevirtual 134, 3) := by decide +kernel
theorem dTape_takeWord_74 : decode prog_9_method_6_code 74 = .ok (.invokestatic 137, 3) := by decide +kernel
theorem dTape_takeWord_77 : decode prog_9_method_6_code 77 = .ok (.putfield 83, 3) := by decide +kernel
theorem dTape_takeWord_80 : decode prog_9_method_6_code 80 = .ok (.aload_n 0, 1) := by decide +kernel
theorem dTape_takeWord_81 : decode prog_9_method_6_code 81 = .ok (.getfield 83, 3) := by decide +kernel
theorem dTape_takeWord_84 : decode prog_9_method_6_code 84 = .ok (.iconst (-1), 1) := by decide +kernel
theorem dTape_takeWord_85 : decode prog_9_method_6_code 85 = .ok (.if_icmp .eq 7, 3) := by decide +kernel
theorem dTape_takeWord_88 : decode prog_9_method_6_code 88 = .ok (.iconst 1, 1) := by decide +kernel
theorem dTape_takeWord_89 : decode prog_9_method_6_code 89 = .ok (.goto 4, 3) := by decide +kernel
theorem dTape_takeWord_92 : decode prog_9_method_6_code 92 = .ok (.iconst 0, 1) := by decide +kernel
theorem dTape_takeWord_93 : decode prog_9_method_6_code 93 = .ok (.ireturn, 1) := by decide +kernel
theorem dTape_takeWord_94 : decode prog_9_method_6_code 94 = .ok (.aload_n 0, 1) := by decide +kernel
theorem dTape_takeWord_95 : decode prog_9_method_6_code 95 = .ok (.aload_n 0, 1) := by decide +kernel
theorem dTape_takeWord_96 : decode prog_9_method_6_code 96 = .ok (.iload_n 1, 1) := by decide +kernel
theorem dTape_takeWord_97 : decode prog_9_method_6_code 97 = .ok (.invokevirtual 140, 3) := by decide +kernel
theorem dTape_takeWord_100 : decode prog_9_method_6_code 100 = .ok (.putfield 86, 3) := by decide +kernel
theorem dTape_takeWord_103 : decode prog_9_method_6_code 103 = .ok (.aload_n 0, 1) := by decide +kernel
theorem dTape_takeWord_104 : decode prog_9_method_6_code 104 = .ok (.getfield 86, 3) := by decide +kernel
theorem dTape_takeWord_107 : decode prog_9_method_6_code 107 = .ok (.ldc 125, 2) := by decide +kernel
theorem dTape_takeWord_109 : decode prog_9_method_6_code 109 = .ok (.if_icmp .eq 7, 3) := by decide +kernel
theorem dTape_takeWord_112 : decode prog_9_method_6_code 112 = .ok (.iconst 1, 1) := by decide +kernel
theorem dTape_takeWord_113 : decode prog_9_method_6_code 113 = .ok (.goto 4, 3) := by decide +kernel
theorem dTape_takeWord_116 : decode prog_9_method_6_code 116 = .ok (.iconst 0, 1) := by decide +kernel
theorem dTape_takeWord_117 : decode prog_9_method_6_code 117 = .ok (.ireturn, 1) := by decide +kernel
theorem dTape_takeWord_118 : decode prog_9_method_6_code 118 = .ok (.aload_n 0, 1) := by decide +kernel
theorem dTape_takeWord_119 : decode prog_9_method_6_code 119 = .ok (.aload_n 0, 1) := by decide +kernel
theorem dTape_takeWord_120 : decode prog_9_method_6_code 120 = .ok (.iload_n 1, 1) := by decide +kernel
theorem dTape_takeWord_121 : decode prog_9_method_6_code 121 = .ok (.invokevirtual 140, 3) := by decide +kernel
theorem dTape_takeWord_124 : decode prog_9_method_6_code 124 = .ok (.putfield 92, 3) := by decide +kernel
theorem dTape_takeWord_127 : decode prog_9_method_6_code 127 = .ok (.aload_n 0, 1) := by decide +kernel
theorem dTape_takeWord_128 : decode prog_9_method_6_code 128 = .ok (.getfield 92, 3) := by decide +kernel
theorem dTape_takeWord_131 : decode prog_9_method_6_code 131 = .ok (.ldc 125, 2) := by decide +kernel
theorem dTape_takeWord_133 : decode prog_9_method_6_code 133 = .ok (.if_icmp .eq 7, 3) := by decide +kernel
theorem dTape_takeWord_136 : decode prog_9_method_6_code 136 = .ok (.iconst 1, 1) := by decide +kernel
theorem dTape_takeWord_137 : decode prog_9_method_6_code 137 = .ok (.goto 4, 3) := by decide +kernel
theorem dTape_takeWord_140 : decode prog_9_method_6_code 140 = .ok (.iconst 0, 1) := by decide +kernel
theorem dTape_takeWord_141 : decode prog_9_method_6_code 141 = .ok (.ireturn, 1) := by decide +kernel
theorem dTape_takeWord_142 : decode prog_9_method_6_code 142 = .ok (.aload_n 0, 1) := by decide +kernel
theorem dTape_takeWord_143 : decode prog_9_method_6_code 143 = .ok (.ldc 143, 2) := by decide +kernel
theorem dTape_takeWord_145 : decode prog_9_method_6_code 145 = .ok (.aload_n 0, 1) := by decide +kernel
theorem dTape_takeWord_146 : decode prog_9_method_6_code 146 = .ok (.iload_n 1, 1) := by decide +kernel
theorem dTape_takeWord_147 : decode prog_9_method_6_code 147 = .ok (.invokevirtual 134, 3) := by decide +kernel
theorem dTape_takeWord_150 : decode prog_9_method_6_code 150 = .ok (.invokestatic 145, 3) := by decide +kernel
theorem dTape_takeWord_153 : decode prog_9_method_6_code 153 = .ok (.putfield 89, 3) := by decide +kernel
theorem dTape_takeWord_156 : decode prog_9_method_6_code 156 = .ok (.aload_n 0, 1) := by decide +kernel
theorem dTape_takeWord_157 : decode prog_9_method_6_code 157 = .ok (.getfield 89, 3) := by decide +kernel
theorem dTape_takeWord_160 : decode prog_9_method_6_code 160 = .ok (.iconst (-1), 1) := by decide +kernel
theorem dTape_takeWord_161 : decode prog_9_method_6_code 161 = .ok (.if_icmp .eq 7, 3) := by decide +kernel
theorem dTape_takeWord_164 : decode prog_9_method_6_code 164 = .ok (.iconst 1, 1) := by decide +kernel
theorem dTape_takeWord_165 : decode prog_9_method_6_code 165 = .ok (.goto 4, 3) := by decide +kernel
theorem dTape_takeWord_168 : decode prog_9_method_6_code 168 = .ok (.iconst 0, 1) := by decide +kernel
theorem dTape_takeWord_169 : decode prog_9_method_6_code 169 = .ok (.ireturn, 1) := by decide +kernel
theorem dTape_takeWord_170 : decode prog_9_method_6_code 170 = .ok (.aload_n 0, 1) := by decide +kernel
theorem dTape_takeWord_171 : decode prog_9_method_6_code 171 = .ok (.ldc 149, 2) := by decide +kernel
theorem dTape_takeWord_173 : decode prog_9_method_6_code 173 = .ok (.aload_n 0, 1) := by decide +kernel
theorem dTape_takeWord_174 : decode prog_9_method_6_code 174 = .ok (.iload_n 1, 1) := by decide +kernel
theorem dTape_takeWord_175 : decode prog_9_method_6_code 175 = .ok (.invokevirtual 134, 3) := by decide +kernel
theorem dTape_takeWord_178 : decode prog_9_method_6_code 178 = .ok (.invokestatic 145, 3) := by decide +kernel
theorem dTape_takeWord_181 : decode prog_9_method_6_code 181 = .ok (.putfield 89, 3) := by decide +kernel
theorem dTape_takeWord_184 : decode prog_9_method_6_code 184 = .ok (.aload_n 0, 1) := by decide +kernel
theorem dTape_takeWord_185 : decode prog_9_method_6_code 185 = .ok (.getfield 89, 3) := by decide +kernel
theorem dTape_takeWord_188 : decode prog_9_method_6_code 188 = .ok (.iconst (-1), 1) := by decide +kernel
theorem dTape_takeWord_189 : decode prog_9_method_6_code 189 = .ok (.if_icmp .eq 7, 3) := by decide +kernel
theorem dTape_takeWord_192 : decode prog_9_method_6_code 192 = .ok (.iconst 1, 1) := by decide +kernel
theorem dTape_takeWord_193 : decode prog_9_method_6_code 193 = .ok (.goto 4, 3) := by decide +kernel
theorem dTape_takeWord_196 : decode prog_9_method_6_code 196 = .ok (.iconst 0, 1) := by decide +kernel
theorem dTape_takeWord_197 : decode prog_9_method_6_code 197 = .ok (.ireturn, 1) := by decide +kernel
theorem dTape_takeWord_198 : decode prog_9_method_6_code 198 = .ok (.aload_n 0, 1) := by decide +kernel
theorem dTape_takeWord_199 : decode prog_9_method_6_code 199 = .ok (.aload_n 0, 1) := by decide +kernel
theorem dTape_takeWord_200 : decode prog_9_method_6_code 200 = .ok (.iload_n 1, 1) := by decide +kernel
theorem dTape_takeWord_201 : decode prog_9_method_6_code 201 = .ok (.invokevirtual 134, 3) := by decide +kernel
theorem dTape_takeWord_204 : decode prog_9_method_6_code 204 = .ok (.invokestatic 62, 3) := by decide +kernel
theorem dTape_takeWord_207 : decode prog_9_method_6_code 207 = .ok (.putfield 95, 3) := by decide +kernel
theorem dTape_takeWord_210 : decode prog_9_method_6_code 210 = .ok (.aload_n 0, 1) := by decide +kernel
theorem dTape_takeWord_211 : decode prog_9_method_6_code 211 = .ok (.getfield 95, 3) := by decide +kernel
theorem dTape_takeWord_214 : decode prog_9_method_6_code 214 = .ok (.iconst (-1), 1) := by decide +kernel
theorem dTape_takeWord_215 : decode prog_9_method_6_code 215 = .ok (.if_icmp .eq 7, 3) := by decide +kernel
theorem dTape_takeWord_218 : decode prog_9_method_6_code 218 = .ok (.iconst 1, 1) := by decide +kernel
theorem dTape_takeWord_219 : decode prog_9_method_6_code 219 = .ok (.goto 4, 3) := by decide +kernel
theorem dTape_takeWord_222 : decode prog_9_method_6_code 222 = .ok (.iconst 0, 1) := by decide +kernel
theorem dTape_takeWord_223 : decode prog_9_method_6_code 223 = .ok (.ireturn, 1) := by decide +kernel
theorem dTape_takeWord_224 : decode prog_9_method_6_code 224 = .ok (.aload_n 0, 1) := by decide +kernel
theorem dTape_takeWord_225 : decode prog_9_method_6_code 225 = .ok (.iload_n 1, 1) := by decide +kernel
theorem dTape_takeWord_226 : decode prog_9_method_6_code 226 = .ok (.ldc 151, 2) := by decide +kernel
theorem dTape_takeWord_228 : decode prog_9_method_6_code 228 = .ok (.invokevirtual 121, 3) := by decide +kernel
theorem dTape_takeWord_231 : decode prog_9_method_6_code 231 = .ok (.ireturn, 1) := by decide +kernel
theorem dTape_takeWord_232 : decode prog_9_method_6_code 232 = .ok (.iconst 0, 1) := by decide +kernel
theorem dTape_takeWord_233 : decode prog_9_method_6_code 233 = .ok (.ireturn, 1) := by decide +kernel
abbrev rm_Tape_takeWord : Room := { frames := 5, cells := 0, slots := 0, locals := 127 }
def f_Tape_takeWord_b223 (S : hE) (g : Nat → Nat) (N : Nat) (t0 : Int32) (E : hE) : Option (Int32 × hE) := (
  (bZ t0).bind fun v223 =>
  some (v223, E))
set_option maxHeartbeats 4000000 in
set_option maxRecDepth 100000 in
theorem b_Tape_takeWord_223 {p : Program} {l : Launch} {e : Env} {s : State} {m : MethodId} {args : Array Value} {below : List Frame} {meth : Method} {c : Code} {D : va_G} {kA : Nat → ClassId} {S : hE} {g : Nat → Nat} {n0 nx : Nat} {N : Nat} {res : Int32 × hE} (C : hX p s m args c prog_9_method_6_code 3 R_Tape ws_Tape_takeWord D kA S g n0) (hr : meth.sig.returnType = (some .boolean)) (hlk : meth.locks = false) (hnm : meth.name = "takeWord") : ∀ (t0 : Int32) (E : hE) (H : Heap) (locs : List Loc) (ls : Array Slot), hY D kA n0 s E nx H locs → lv_has ls 3 [] → f_Tape_takeWord_b223 S g N  t0 E = some res → W p l e rm_Tape_takeWord s m args below meth c H locs 0 0 (MQ below (va_Qi (fun r w => r = res.1 ∧ w = (res.2, nx)) (hJ D kA S g n0) (fun q => n0 ≤ q)) args s 0 0 (fun q => n0 ≤ q)) (F0 m 223 ls [.int t0]) := by
  intro t0 E H locs ls M hl hf
  unfold f_Tape_takeWord_b223 at hf
  obtain ⟨v223, h223, hf⟩ := Option.bind_eq_some_iff.mp hf
  obtain ⟨rfl, g223⟩ := bZ_some h223
  cases hf
  exact w_iret C M hr hlk (narrow_z g223) (Nat.le_refl _) (Nat.le_refl _) dTape_takeWord_223 rfl rfl
def f_Tape_takeWord_b197 (S : hE) (g : Nat → Nat) (N : Nat) (t0 : Int32) (E : hE) : Option (Int32 × hE) := (
  (bZ t0).bind fun v197 =>
  some (v197, E))
set_option maxHeartbeats 4000000 in
set_option maxRecDepth 100000 in
theorem b_Tape_takeWord_197 {p : Program} {l : Launch} {e : Env} {s : State} {m : MethodId} {args : Array Value} {below : List Frame} {meth : Method} {c : Code} {D : va_G} {kA : Nat → ClassId} {S : hE} {g : Nat → Nat} {n0 nx : Nat} {N : Nat} {res : Int32 × hE} (C : hX p s m args c prog_9_method_6_code 3 R_Tape ws_Tape_takeWord D kA S g n0) (hr : meth.sig.returnType = (some .boolean)) (hlk : meth.locks = false) (hnm : meth.name = "takeWord") : ∀ (t0 : Int32) (E : hE) (H : Heap) (locs : List Loc) (ls : Array Slot), hY D kA n0 s E nx H locs → lv_has ls 3 [] → f_Tape_takeWord_b197 S g N  t0 E = some res → W p l e rm_Tape_takeWord s m args below meth c H locs 0 0 (MQ below (va_Qi (fun r w => r = res.1 ∧ w = (res.2, nx)) (hJ D kA S g n0) (fun q => n0 ≤ q)) args s 0 0 (fun q => n0 ≤ q)) (F0 m 197 ls [.int t0]) := by
  intro t0 E H locs ls M hl hf
  unfold f_Tape_takeWord_b197 at hf
  obtain ⟨v197, h197, hf⟩ := Option.bind_eq_some_iff.mp hf
  obtain ⟨rfl, g197⟩ := bZ_some h197
  cases hf
  exact w_iret C M hr hlk (narrow_z g197) (Nat.le_refl _) (Nat.le_refl _) dTape_takeWord_197 rfl rfl
def f_Tape_takeWord_b169 (S : hE) (g : Nat → Nat) (N : Nat) (t0 : Int32) (E : hE) : Option (Int32 × hE) := (
  (bZ t0).bind fun v169 =>
  some (v169, E))
set_option maxHeartbeats 4000000 in
set_option maxRecDepth 100000 in
theorem b_Tape_takeWord_169 {p : Program} {l : Launch} {e : Env} {s : State} {m : MethodId} {args : Array Value} {below : List Frame} {meth : Method} {c : Code} {D : va_G} {kA : Nat → ClassId} {S : hE} {g : Nat → Nat} {n0 nx : Nat} {N : Nat} {res : Int32 × hE} (C : hX p s m args c prog_9_method_6_code 3 R_Tape ws_Tape_takeWord D kA S g n0) (hr : meth.sig.returnType = (some .boolean)) (hlk : meth.locks = false) (hnm : meth.name = "takeWord") : ∀ (t0 : Int32) (E : hE) (H : Heap) (locs : List Loc) (ls : Array Slot), hY D kA n0 s E nx H locs → lv_has ls 3 [] → f_Tape_takeWord_b169 S g N  t0 E = some res → W p l e rm_Tape_takeWord s m args below meth c H locs 0 0 (MQ below (va_Qi (fun r w => r = res.1 ∧ w = (res.2, nx)) (hJ D kA S g n0) (fun q => n0 ≤ q)) args s 0 0 (fun q => n0 ≤ q)) (F0 m 169 ls [.int t0]) := by
  intro t0 E H locs ls M hl hf
  unfold f_Tape_takeWord_b169 at hf
  obtain ⟨v169, h169, hf⟩ := Option.bind_eq_some_iff.mp hf
  obtain ⟨rfl, g169⟩ := bZ_some h169
  cases hf
  exact w_iret C M hr hlk (narrow_z g169) (Nat.le_refl _) (Nat.le_refl _) dTape_takeWord_169 rfl rfl
def f_Tape_takeWord_b141 (S : hE) (g : Nat → Nat) (N : Nat) (t0 : Int32) (E : hE) : Option (Int32 × hE) := (
  (bZ t0).bind fun v141 =>
  some (v141, E))
set_option maxHeartbeats 4000000 in
set_option maxRecDepth 100000 in
theorem b_Tape_takeWord_141 {p : Program} {l : Launch} {e : Env} {s : State} {m : MethodId} {args : Array Value} {below : List Frame} {meth : Method} {c : Code} {D : va_G} {kA : Nat → ClassId} {S : hE} {g : Nat → Nat} {n0 nx : Nat} {N : Nat} {res : Int32 × hE} (C : hX p s m args c prog_9_method_6_code 3 R_Tape ws_Tape_takeWord D kA S g n0) (hr : meth.sig.returnType = (some .boolean)) (hlk : meth.locks = false) (hnm : meth.name = "takeWord") : ∀ (t0 : Int32) (E : hE) (H : Heap) (locs : List Loc) (ls : Array Slot), hY D kA n0 s E nx H locs → lv_has ls 3 [] → f_Tape_takeWord_b141 S g N  t0 E = some res → W p l e rm_Tape_takeWord s m args below meth c H locs 0 0 (MQ below (va_Qi (fun r w => r = res.1 ∧ w = (res.2, nx)) (hJ D kA S g n0) (fun q => n0 ≤ q)) args s 0 0 (fun q => n0 ≤ q)) (F0 m 141 ls [.int t0]) := by
  intro t0 E H locs ls M hl hf
  unfold f_Tape_takeWord_b141 at hf
  obtain ⟨v141, h141, hf⟩ := Option.bind_eq_some_iff.mp hf
  obtain ⟨rfl, g141⟩ := bZ_some h141
  cases hf
  exact w_iret C M hr hlk (narrow_z g141) (Nat.le_refl _) (Nat.le_refl _) dTape_takeWord_141 rfl rfl
def f_Tape_takeWord_b117 (S : hE) (g : Nat → Nat) (N : Nat) (t0 : Int32) (E : hE) : Option (Int32 × hE) := (
  (bZ t0).bind fun v117 =>
  some (v117, E))
set_option maxHeartbeats 4000000 in
set_option maxRecDepth 100000 in
theorem b_Tape_takeWord_117 {p : Program} {l : Launch} {e : Env} {s : State} {m : MethodId} {args : Array Value} {below : List Frame} {meth : Method} {c : Code} {D : va_G} {kA : Nat → ClassId} {S : hE} {g : Nat → Nat} {n0 nx : Nat} {N : Nat} {res : Int32 × hE} (C : hX p s m args c prog_9_method_6_code 3 R_Tape ws_Tape_takeWord D kA S g n0) (hr : meth.sig.returnType = (some .boolean)) (hlk : meth.locks = false) (hnm : meth.name = "takeWord") : ∀ (t0 : Int32) (E : hE) (H : Heap) (locs : List Loc) (ls : Array Slot), hY D kA n0 s E nx H locs → lv_has ls 3 [] → f_Tape_takeWord_b117 S g N  t0 E = some res → W p l e rm_Tape_takeWord s m args below meth c H locs 0 0 (MQ below (va_Qi (fun r w => r = res.1 ∧ w = (res.2, nx)) (hJ D kA S g n0) (fun q => n0 ≤ q)) args s 0 0 (fun q => n0 ≤ q)) (F0 m 117 ls [.int t0]) := by
  intro t0 E H locs ls M hl hf
  unfold f_Tape_takeWord_b117 at hf
  obtain ⟨v117, h117, hf⟩ := Option.bind_eq_some_iff.mp hf
  obtain ⟨rfl, g117⟩ := bZ_some h117
  cases hf
  exact w_iret C M hr hlk (narrow_z g117) (Nat.le_refl _) (Nat.le_refl _) dTape_takeWord_117 rfl rfl
def f_Tape_takeWord_b93 (S : hE) (g : Nat → Nat) (N : Nat) (t0 : Int32) (E : hE) : Option (Int32 × hE) := (
  (bZ t0).bind fun v93 =>
  some (v93, E))
set_option maxHeartbeats 4000000 in
set_option maxRecDepth 100000 in
theorem b_Tape_takeWord_93 {p : Program} {l : Launch} {e : Env} {s : State} {m : MethodId} {args : Array Value} {below : List Frame} {meth : Method} {c : Code} {D : va_G} {kA : Nat → ClassId} {S : hE} {g : Nat → Nat} {n0 nx : Nat} {N : Nat} {res : Int32 × hE} (C : hX p s m args c prog_9_method_6_code 3 R_Tape ws_Tape_takeWord D kA S g n0) (hr : meth.sig.returnType = (some .boolean)) (hlk : meth.locks = false) (hnm : meth.name = "takeWord") : ∀ (t0 : Int32) (E : hE) (H : Heap) (locs : List Loc) (ls : Array Slot), hY D kA n0 s E nx H locs → lv_has ls 3 [] → f_Tape_takeWord_b93 S g N  t0 E = some res → W p l e rm_Tape_takeWord s m args below meth c H locs 0 0 (MQ below (va_Qi (fun r w => r = res.1 ∧ w = (res.2, nx)) (hJ D kA S g n0) (fun q => n0 ≤ q)) args s 0 0 (fun q => n0 ≤ q)) (F0 m 93 ls [.int t0]) := by
  intro t0 E H locs ls M hl hf
  unfold f_Tape_takeWord_b93 at hf
  obtain ⟨v93, h93, hf⟩ := Option.bind_eq_some_iff.mp hf
  obtain ⟨rfl, g93⟩ := bZ_some h93
  cases hf
  exact w_iret C M hr hlk (narrow_z g93) (Nat.le_refl _) (Nat.le_refl _) dTape_takeWord_93 rfl rfl
def f_Tape_takeWord (S : hE) (g : Nat → Nat) (N : Nat) (x0 : Nat) (x1 : Int32) (x2 : Int32) (E : hE) : Option (Int32 × hE) := (
  if x2 = 67 then (
  (gO E (some x0) 5).bind fun o175 =>
  (f_Tape_onlyLetter E o175.1 x1).bind fun v175 =>
  (f_Tape_signAmong S g N E (some (g 11)) v175).bind fun v178 =>
  (sI E (some x0) 5 6 v178).bind fun E181 =>
  (gI E181 (some x0) 5 6).bind fun v185 =>
  if v185 = (-1) then (
  f_Tape_takeWord_b197 S g N 0 E181
  ) else (
  f_Tape_takeWord_b197 S g N 1 E181
  )
  ) else (
  if x2 = 76 then (
  (gO E (some x0) 5).bind fun o201 =>
  (f_Tape_onlyLetter E o201.1 x1).bind fun v201 =>
  (f_Tape_labelNamed E v201).bind fun v204 =>
  (sI E (some x0) 5 8 v204).bind fun E207 =>
  (gI E207 (some x0) 5 8).bind fun v211 =>
  if v211 = (-1) then (
  f_Tape_takeWord_b223 S g N 0 E207
  ) else (
  f_Tape_takeWord_b223 S g N 1 E207
  )
  ) else (
  if x2 = 79 then (
  (gO E (some x0) 5).bind fun o147 =>
  (f_Tape_onlyLetter E o147.1 x1).bind fun v147 =>
  (f_Tape_signAmong S g N E (some (g 10)) v147).bind fun v150 =>
  (sI E (some x0) 5 6 v150).bind fun E153 =>
  (gI E153 (some x0) 5 6).bind fun v157 =>
  if v157 = (-1) then (
  f_Tape_takeWord_b169 S g N 0 E153
  ) else (
  f_Tape_takeWord_b169 S g N 1 E153
  )
  ) else (
  if x2 = 82 then (
  (gO E (some x0) 5).bind fun o71 =>
  (f_Tape_onlyLetter E o71.1 x1).bind fun v71 =>
  (f_Tape_registerNamed E v71).bind fun v74 =>
  (sI E (some x0) 5 4 v74).bind fun E77 =>
  (gI E77 (some x0) 5 4).bind fun v81 =>
  if v81 = (-1) then (
  f_Tape_takeWord_b93 S g N 0 E77
  ) else (
  f_Tape_takeWord_b93 S g N 1 E77
  )
  ) else (
  if x2 = 88 then (
  (gO E (some x0) 5).bind fun o97 =>
  (f_Tape_operandAt N E o97.1 x1).bind fun v97 =>
  (sI E (some x0) 5 5 v97).bind fun E100 =>
  (gI E100 (some x0) 5 5).bind fun v104 =>
  if v104 = (-1000000) then (
  f_Tape_takeWord_b117 S g N 0 E100
  ) else (
  f_Tape_takeWord_b117 S g N 1 E100
  )
  ) else (
  if x2 = 89 then (
  (gO E (some x0) 5).bind fun o121 =>
  (f_Tape_operandAt N E o121.1 x1).bind fun v121 =>
  (sI E (some x0) 5 7 v121).bind fun E124 =>
  (gI E124 (some x0) 5 7).bind fun v128 =>
  if v128 = (-1000000) then (
  f_Tape_takeWord_b141 S g N 0 E124
  ) else (
  f_Tape_takeWord_b141 S g N 1 E124
  )
  ) else (
  if x2 = 103 then (
  (gO E (some x0) 5).bind fun o228 =>
  (f_Tape_isWord S g N E o228.1 x1 (some (g 12))).bind fun v228 =>
  (bZ v228).bind fun v231 =>
  some (v231, E)
  ) else (
  some (0, E)
  ))))))))
set_option maxHeartbeats 4000000 in
set_option maxRecDepth 100000 in
theorem c_Tape_takeWord {l : Launch} {D : va_G} {kA : Nat → ClassId} {S : hE} {g : Nat → Nat} {n0 nx : Nat} {N : Nat} {x0 : Nat} {x1 : Int32} {x2 : Int32} {E : hE} {res : Int32 × hE} (hf : f_Tape_takeWord S g N x0 x1 x2 E = some res) : Met l y_Tape_takeWord ws_Tape_takeWord rm_Tape_takeWord (va_Pc [va_rf (some x0), .int x1, .int x2] (hJ D kA S g n0 (E, nx))) (va_Qi (fun r w => r = res.1 ∧ w = (res.2, nx)) (hJ D kA S g n0) (fun q => n0 ≤ q)) 0 0 (fun q => n0 ≤ q) := by
  refine h_met (cc := prog_9_method_6_code) (maxL := 3) (ret := (some .boolean)) (lvs := [(0, va_rf (some x0)), (1, .int x1), (2, .int x2)]) zZ_k (by decide) rfl (by simp [lg_sl, va_rf_cat, cat_i, cat_l, cat_n]) (by simp [lv_args, va_rf_cat, cat_i, cat_l, cat_n]) ?_
  intro p e s m below meth c ls C M hr hlk hnm hl
  unfold f_Tape_takeWord at hf
  refine lv_iload_n C.x C.b dTape_takeWord_0 rfl (lv_at hl 2 rfl) ?_
  by_cases c1_0 : x2 = 67
  · rw [if_pos c1_0] at hf
    refine lv_lookup (off := 169) (tgt := 170) C.x C.b dTape_takeWord_1 (by decide) (by rw [c1_0] <;> rfl) (by decide) ?_
    refine w_aload_n C.x C.b dTape_takeWord_170 rfl (lv_at hl 0 rfl) ?_
    refine w_ldcS C (zZ_S C.z) 11 (by decide) (by decide) rfl dTape_takeWord_171 ?_
    refine w_aload_n C.x C.b dTape_takeWord_173 rfl (lv_at hl 0 rfl) ?_
    refine lv_iload_n C.x C.b dTape_takeWord_174 rfl (lv_at hl 1 rfl) ?_
    obtain ⟨o175, g175, hf⟩ := Option.bind_eq_some_iff.mp hf
    obtain ⟨v175, h175, hf⟩ := Option.bind_eq_some_iff.mp hf
    refine w_ci M (w_runV C M g175 rfl (c_Tape_onlyLetter h175) (cwV 1 C.ts (hgV wm_360 wm_362 sel_Tape_onlyLetter wm_2 wm_363) rfl rfl rfl (by decide +kernel) ⟨Nat.le_of_ble_eq_true rfl, Nat.le_of_ble_eq_true rfl⟩) rfl hl.1 rfl (by simp [va_rf_cat, cat_i, cat_l, cat_n]) dTape_takeWord_175 ⟨Nat.le_refl _, Nat.le_refl _⟩) (fun H locs M => ?_)
    obtain ⟨v178, h178, hf⟩ := Option.bind_eq_some_iff.mp hf
    refine w_ci M (w_runS C M (c_Tape_signAmong h178) (cwS 2 C.ts (hgS wm_373 wm_374 wm_2 wm_375) rfl rfl rfl (by decide +kernel) ⟨Nat.le_of_ble_eq_true rfl, Nat.le_of_ble_eq_true rfl⟩) rfl hl.1 rfl (by simp [va_rf_cat, cat_i, cat_l, cat_n]) dTape_takeWord_178 ⟨Nat.le_refl _, Nat.le_refl _⟩) (fun H locs M => ?_)
    obtain ⟨E181, h181, hf⟩ := Option.bind_eq_some_iff.mp hf
    refine w_putV (ty := .int) C M ty_Tape h181 rfl (hm_in in_Tape) tyok_Tape nm_Tape (by decide) (List.mem_cons_of_mem _ wm_65) rfl rfl (by decide +kernel) rfl rfl dTape_takeWord_181 (fun H locs M => ?_)
    refine w_aload_n C.x C.b dTape_takeWord_184 rfl (lv_at hl 0 rfl) ?_
    obtain ⟨v185, h185, hf⟩ := Option.bind_eq_some_iff.mp hf
    refine w_getI C M h185 rfl (hm_in in_Tape) (by decide) (List.mem_cons_of_mem _ wm_65) rfl dTape_takeWord_185 ?_
    refine lv_iconst (v := (-1)) C.x C.b dTape_takeWord_188 (by decide) ?_
    refine lv_icmp_eq (tgt := 196) C.x C.b dTape_takeWord_189 (by decide) (fun c189 => ?_) (fun c189 => ?_)
    · rw [if_pos c189] at hf
      refine lv_iconst (v := 0) C.x C.b dTape_takeWord_196 (by decide) ?_
      exact b_Tape_takeWord_197 C hr hlk hnm _ _ _ _ _ M (lv_sub hl [] rfl) hf
    · rw [if_neg c189] at hf
      refine lv_iconst (v := 1) C.x C.b dTape_takeWord_192 (by decide) ?_
      refine lv_goto (tgt := 197) C.x C.b dTape_takeWord_193 (by decide) ?_
      exact b_Tape_takeWord_197 C hr hlk hnm _ _ _ _ _ M (lv_sub hl [] rfl) hf
  · rw [if_neg c1_0] at hf
    by_cases c1_1 : x2 = 76
    · rw [if_pos c1_1] at hf
      refine lv_lookup (off := 197) (tgt := 198) C.x C.b dTape_takeWord_1 (by decide) (by rw [c1_1] <;> rfl) (by decide) ?_
      refine w_aload_n C.x C.b dTape_takeWord_198 rfl (lv_at hl 0 rfl) ?_
      refine w_aload_n C.x C.b dTape_takeWord_199 rfl (lv_at hl 0 rfl) ?_
      refine lv_iload_n C.x C.b dTape_takeWord_200 rfl (lv_at hl 1 rfl) ?_
      obtain ⟨o201, g201, hf⟩ := Option.bind_eq_some_iff.mp hf
      obtain ⟨v201, h201, hf⟩ := Option.bind_eq_some_iff.mp hf
      refine w_ci M (w_runV C M g201 rfl (c_Tape_onlyLetter h201) (cwV 1 C.ts (hgV wm_360 wm_362 sel_Tape_onlyLetter wm_2 wm_363) rfl rfl rfl (by decide +kernel) ⟨Nat.le_of_ble_eq_true rfl, Nat.le_of_ble_eq_true rfl⟩) rfl hl.1 rfl (by simp [va_rf_cat, cat_i, cat_l, cat_n]) dTape_takeWord_201 ⟨Nat.le_refl _, Nat.le_refl _⟩) (fun H locs M => ?_)
      obtain ⟨v204, h204, hf⟩ := Option.bind_eq_some_iff.mp hf
      refine w_ci M (w_runS C M (c_Tape_labelNamed h204) (cwS 1 C.ts (hgS wm_286 wm_287 wm_2 wm_288) rfl rfl rfl (by decide +kernel) ⟨Nat.le_of_ble_eq_true rfl, Nat.le_of_ble_eq_true rfl⟩) rfl hl.1 rfl (by simp [va_rf_cat, cat_i, cat_l, cat_n]) dTape_takeWord_204 ⟨Nat.le_refl _, Nat.le_refl _⟩) (fun H locs M => ?_)
      obtain ⟨E207, h207, hf⟩ := Option.bind_eq_some_iff.mp hf
      refine w_putV (ty := .int) C M ty_Tape h207 rfl (hm_in in_Tape) tyok_Tape nm_Tape (by decide) (List.mem_cons_of_mem _ wm_67) rfl rfl (by decide +kernel) rfl rfl dTape_takeWord_207 (fun H locs M => ?_)
      refine w_aload_n C.x C.b dTape_takeWord_210 rfl (lv_at hl 0 rfl) ?_
      obtain ⟨v211, h211, hf⟩ := Option.bind_eq_some_iff.mp hf
      refine w_getI C M h211 rfl (hm_in in_Tape) (by decide) (List.mem_cons_of_mem _ wm_67) rfl dTape_takeWord_211 ?_
      refine lv_iconst (v := (-1)) C.x C.b dTape_takeWord_214 (by decide) ?_
      refine lv_icmp_eq (tgt := 222) C.x C.b dTape_takeWord_215 (by decide) (fun c215 => ?_) (fun c215 => ?_)
      · rw [if_pos c215] at hf
        refine lv_iconst (v := 0) C.x C.b dTape_takeWord_222 (by decide) ?_
        exact b_Tape_takeWord_223 C hr hlk hnm _ _ _ _ _ M (lv_sub hl [] rfl) hf
      · rw [if_neg c215] at hf
        refine lv_iconst (v := 1) C.x C.b dTape_takeWord_218 (by decide) ?_
        refine lv_goto (tgt := 223) C.x C.b dTape_takeWord_219 (by decide) ?_
        exact b_Tape_takeWord_223 C hr hlk hnm _ _ _ _ _ M (lv_sub hl [] rfl) hf
    · rw [if_neg c1_1] at hf
      by_cases c1_2 : x2 = 79
      · rw [if_pos c1_2] at hf
        refine lv_lookup (off := 141) (tgt := 142) C.x C.b dTape_takeWord_1 (by decide) (by rw [c1_2] <;> rfl) (by decide) ?_
        refine w_aload_n C.x C.b dTape_takeWord_142 rfl (lv_at hl 0 rfl) ?_
        refine w_ldcS C (zZ_S C.z) 10 (by decide) (by decide) rfl dTape_takeWord_143 ?_
        refine w_aload_n C.x C.b dTape_takeWord_145 rfl (lv_at hl 0 rfl) ?_
        refine lv_iload_n C.x C.b dTape_takeWord_146 rfl (lv_at hl 1 rfl) ?_
        obtain ⟨o147, g147, hf⟩ := Option.bind_eq_some_iff.mp hf
        obtain ⟨v147, h147, hf⟩ := Option.bind_eq_some_iff.mp hf
        refine w_ci M (w_runV C M g147 rfl (c_Tape_onlyLetter h147) (cwV 1 C.ts (hgV wm_360 wm_362 sel_Tape_onlyLetter wm_2 wm_363) rfl rfl rfl (by decide +kernel) ⟨Nat.le_of_ble_eq_true rfl, Nat.le_of_ble_eq_true rfl⟩) rfl hl.1 rfl (by simp [va_rf_cat, cat_i, cat_l, cat_n]) dTape_takeWord_147 ⟨Nat.le_refl _, Nat.le_refl _⟩) (fun H locs M => ?_)
        obtain ⟨v150, h150, hf⟩ := Option.bind_eq_some_iff.mp hf
        refine w_ci M (w_runS C M (c_Tape_signAmong h150) (cwS 2 C.ts (hgS wm_373 wm_374 wm_2 wm_375) rfl rfl rfl (by decide +kernel) ⟨Nat.le_of_ble_eq_true rfl, Nat.le_of_ble_eq_true rfl⟩) rfl hl.1 rfl (by simp [va_rf_cat, cat_i, cat_l, cat_n]) dTape_takeWord_150 ⟨Nat.le_refl _, Nat.le_refl _⟩) (fun H locs M => ?_)
        obtain ⟨E153, h153, hf⟩ := Option.bind_eq_some_iff.mp hf
        refine w_putV (ty := .int) C M ty_Tape h153 rfl (hm_in in_Tape) tyok_Tape nm_Tape (by decide) (List.mem_cons_of_mem _ wm_65) rfl rfl (by decide +kernel) rfl rfl dTape_takeWord_153 (fun H locs M => ?_)
        refine w_aload_n C.x C.b dTape_takeWord_156 rfl (lv_at hl 0 rfl) ?_
        obtain ⟨v157, h157, hf⟩ := Option.bind_eq_some_iff.mp hf
        refine w_getI C M h157 rfl (hm_in in_Tape) (by decide) (List.mem_cons_of_mem _ wm_65) rfl dTape_takeWord_157 ?_
        refine lv_iconst (v := (-1)) C.x C.b dTape_takeWord_160 (by decide) ?_
        refine lv_icmp_eq (tgt := 168) C.x C.b dTape_takeWord_161 (by decide) (fun c161 => ?_) (fun c161 => ?_)
        · rw [if_pos c161] at hf
          refine lv_iconst (v := 0) C.x C.b dTape_takeWord_168 (by decide) ?_
          exact b_Tape_takeWord_169 C hr hlk hnm _ _ _ _ _ M (lv_sub hl [] rfl) hf
        · rw [if_neg c161] at hf
          refine lv_iconst (v := 1) C.x C.b dTape_takeWord_164 (by decide) ?_
          refine lv_goto (tgt := 169) C.x C.b dTape_takeWord_165 (by decide) ?_
          exact b_Tape_takeWord_169 C hr hlk hnm _ _ _ _ _ M (lv_sub hl [] rfl) hf
      · rw [if_neg c1_2] at hf
        by_cases c1_3 : x2 = 82
        · rw [if_pos c1_3] at hf
          refine lv_lookup (off := 67) (tgt := 68) C.x C.b dTape_takeWord_1 (by decide) (by rw [c1_3] <;> rfl) (by decide) ?_
          refine w_aload_n C.x C.b dTape_takeWord_68 rfl (lv_at hl 0 rfl) ?_
          refine w_aload_n C.x C.b dTape_takeWord_69 rfl (lv_at hl 0 rfl) ?_
          refine lv_iload_n C.x C.b dTape_takeWord_70 rfl (lv_at hl 1 rfl) ?_
          obtain ⟨o71, g71, hf⟩ := Option.bind_eq_some_iff.mp hf
          obtain ⟨v71, h71, hf⟩ := Option.bind_eq_some_iff.mp hf
          refine w_ci M (w_runV C M g71 rfl (c_Tape_onlyLetter h71) (cwV 1 C.ts (hgV wm_360 wm_362 sel_Tape_onlyLetter wm_2 wm_363) rfl rfl rfl (by decide +kernel) ⟨Nat.le_of_ble_eq_true rfl, Nat.le_of_ble_eq_true rfl⟩) rfl hl.1 rfl (by simp [va_rf_cat, cat_i, cat_l, cat_n]) dTape_takeWord_71 ⟨Nat.le_refl _, Nat.le_refl _⟩) (fun H locs M => ?_)
          obtain ⟨v74, h74, hf⟩ := Option.bind_eq_some_iff.mp hf
          refine w_ci M (w_runS C M (c_Tape_registerNamed h74) (cwS 1 C.ts (hgS wm_364 wm_365 wm_2 wm_366) rfl rfl rfl (by decide +kernel) ⟨Nat.le_of_ble_eq_true rfl, Nat.le_of_ble_eq_true rfl⟩) rfl hl.1 rfl (by simp [va_rf_cat, cat_i, cat_l, cat_n]) dTape_takeWord_74 ⟨Nat.le_refl _, Nat.le_refl _⟩) (fun H locs M => ?_)
          obtain ⟨E77, h77, hf⟩ := Option.bind_eq_some_iff.mp hf
          refine w_putV (ty := .int) C M ty_Tape h77 rfl (hm_in in_Tape) tyok_Tape nm_Tape (by decide) (List.mem_cons_of_mem _ wm_63) rfl rfl (by decide +kernel) rfl rfl dTape_takeWord_77 (fun H locs M => ?_)
          refine w_aload_n C.x C.b dTape_takeWord_80 rfl (lv_at hl 0 rfl) ?_
          obtain ⟨v81, h81, hf⟩ := Option.bind_eq_some_iff.mp hf
          refine w_getI C M h81 rfl (hm_in in_Tape) (by decide) (List.mem_cons_of_mem _ wm_63) rfl dTape_takeWord_81 ?_
          refine lv_iconst (v := (-1)) C.x C.b dTape_takeWord_84 (by decide) ?_
          refine lv_icmp_eq (tgt := 92) C.x C.b dTape_takeWord_85 (by decide) (fun c85 => ?_) (fun c85 => ?_)
          · rw [if_pos c85] at hf
            refine lv_iconst (v := 0) C.x C.b dTape_takeWord_92 (by decide) ?_
            exact b_Tape_takeWord_93 C hr hlk hnm _ _ _ _ _ M (lv_sub hl [] rfl) hf
          · rw [if_neg c85] at hf
            refine lv_iconst (v := 1) C.x C.b dTape_takeWord_88 (by decide) ?_
            refine lv_goto (tgt := 93) C.x C.b dTape_takeWord_89 (by decide) ?_
            exact b_Tape_takeWord_93 C hr hlk hnm _ _ _ _ _ M (lv_sub hl [] rfl) hf
        · rw [if_neg c1_3] at hf
          by_cases c1_4 : x2 = 88
          · rw [if_pos c1_4] at hf
            refine lv_lookup (off := 93) (tgt := 94) C.x C.b dTape_takeWord_1 (by decide) (by rw [c1_4] <;> rfl) (by decide) ?_
            refine w_aload_n C.x C.b dTape_takeWord_94 rfl (lv_at hl 0 rfl) ?_
            refine w_aload_n C.x C.b dTape_takeWord_95 rfl (lv_at hl 0 rfl) ?_
            refine lv_iload_n C.x C.b dTape_takeWord_96 rfl (lv_at hl 1 rfl) ?_
            obtain ⟨o97, g97, hf⟩ := Option.bind_eq_some_iff.mp hf
            obtain ⟨v97, h97, hf⟩ := Option.bind_eq_some_iff.mp hf
            refine w_ci M (w_runV C M g97 rfl (c_Tape_operandAt h97) (cwV 1 C.ts (hgV wm_367 wm_369 sel_Tape_operandAt wm_2 wm_370) rfl rfl rfl (by decide +kernel) ⟨Nat.le_of_ble_eq_true rfl, Nat.le_of_ble_eq_true rfl⟩) rfl hl.1 rfl (by simp [va_rf_cat, cat_i, cat_l, cat_n]) dTape_takeWord_97 ⟨Nat.le_refl _, Nat.le_refl _⟩) (fun H locs M => ?_)
            obtain ⟨E100, h100, hf⟩ := Option.bind_eq_some_iff.mp hf
            refine w_putV (ty := .int) C M ty_Tape h100 rfl (hm_in in_Tape) tyok_Tape nm_Tape (by decide) (List.mem_cons_of_mem _ wm_64) rfl rfl (by decide +kernel) rfl rfl dTape_takeWord_100 (fun H locs M => ?_)
            refine w_aload_n C.x C.b dTape_takeWord_103 rfl (lv_at hl 0 rfl) ?_
            obtain ⟨v104, h104, hf⟩ := Option.bind_eq_some_iff.mp hf
            refine w_getI C M h104 rfl (hm_in in_Tape) (by decide) (List.mem_cons_of_mem _ wm_64) rfl dTape_takeWord_104 ?_
            refine lv_ldc (v := (-1000000)) C.x C.b C.ow (C.ts (.constant R_Tape 125 (-1000000)) (List.mem_cons_of_mem _ wm_355)) dTape_takeWord_107 ?_
            refine lv_icmp_eq (tgt := 116) C.x C.b dTape_takeWord_109 (by decide) (fun c109 => ?_) (fun c109 => ?_)
            · rw [if_pos c109] at hf
              refine lv_iconst (v := 0) C.x C.b dTape_takeWord_116 (by decide) ?_
              exact b_Tape_takeWord_117 C hr hlk hnm _ _ _ _ _ M (lv_sub hl [] rfl) hf
            · rw [if_neg c109] at hf
              refine lv_iconst (v := 1) C.x C.b dTape_takeWord_112 (by decide) ?_
              refine lv_goto (tgt := 117) C.x C.b dTape_takeWord_113 (by decide) ?_
              exact b_Tape_takeWord_117 C hr hlk hnm _ _ _ _ _ M (lv_sub hl [] rfl) hf
          · rw [if_neg c1_4] at hf
            by_cases c1_5 : x2 = 89
            · rw [if_pos c1_5] at hf
              refine lv_lookup (off := 117) (tgt := 118) C.x C.b dTape_takeWord_1 (by decide) (by rw [c1_5] <;> rfl) (by decide) ?_
              refine w_aload_n C.x C.b dTape_takeWord_118 rfl (lv_at hl 0 rfl) ?_
              refine w_aload_n C.x C.b dTape_takeWord_119 rfl (lv_at hl 0 rfl) ?_
              refine lv_iload_n C.x C.b dTape_takeWord_120 rfl (lv_at hl 1 rfl) ?_
              obtain ⟨o121, g121, hf⟩ := Option.bind_eq_some_iff.mp hf
              obtain ⟨v121, h121, hf⟩ := Option.bind_eq_some_iff.mp hf
              refine w_ci M (w_runV C M g121 rfl (c_Tape_operandAt h121) (cwV 1 C.ts (hgV wm_367 wm_369 sel_Tape_operandAt wm_2 wm_370) rfl rfl rfl (by decide +kernel) ⟨Nat.le_of_ble_eq_true rfl, Nat.le_of_ble_eq_true rfl⟩) rfl hl.1 rfl (by simp [va_rf_cat, cat_i, cat_l, cat_n]) dTape_takeWord_121 ⟨Nat.le_refl _, Nat.le_refl _⟩) (fun H locs M => ?_)
              obtain ⟨E124, h124, hf⟩ := Option.bind_eq_some_iff.mp hf
              refine w_putV (ty := .int) C M ty_Tape h124 rfl (hm_in in_Tape) tyok_Tape nm_Tape (by decide) (List.mem_cons_of_mem _ wm_66) rfl rfl (by decide +kernel) rfl rfl dTape_takeWord_124 (fun H locs M => ?_)
              refine w_aload_n C.x C.b dTape_takeWord_127 rfl (lv_at hl 0 rfl) ?_
              obtain ⟨v128, h128, hf⟩ := Option.bind_eq_some_iff.mp hf
              refine w_getI C M h128 rfl (hm_in in_Tape) (by decide) (List.mem_cons_of_mem _ wm_66) rfl dTape_takeWord_128 ?_
              refine lv_ldc (v := (-1000000)) C.x C.b C.ow (C.ts (.constant R_Tape 125 (-1000000)) (List.mem_cons_of_mem _ wm_355)) dTape_takeWord_131 ?_
              refine lv_icmp_eq (tgt := 140) C.x C.b dTape_takeWord_133 (by decide) (fun c133 => ?_) (fun c133 => ?_)
              · rw [if_pos c133] at hf
                refine lv_iconst (v := 0) C.x C.b dTape_takeWord_140 (by decide) ?_
                exact b_Tape_takeWord_141 C hr hlk hnm _ _ _ _ _ M (lv_sub hl [] rfl) hf
              · rw [if_neg c133] at hf
                refine lv_iconst (v := 1) C.x C.b dTape_takeWord_136 (by decide) ?_
                refine lv_goto (tgt := 141) C.x C.b dTape_takeWord_137 (by decide) ?_
                exact b_Tape_takeWord_141 C hr hlk hnm _ _ _ _ _ M (lv_sub hl [] rfl) hf
            · rw [if_neg c1_5] at hf
              by_cases c1_6 : x2 = 103
              · rw [if_pos c1_6] at hf
                refine lv_lookup (off := 223) (tgt := 224) C.x C.b dTape_takeWord_1 (by decide) (by rw [c1_6] <;> rfl) (by decide) ?_
                refine w_aload_n C.x C.b dTape_takeWord_224 rfl (lv_at hl 0 rfl) ?_
                refine lv_iload_n C.x C.b dTape_takeWord_225 rfl (lv_at hl 1 rfl) ?_
                refine w_ldcS C (zZ_S C.z) 12 (by decide) (by decide) rfl dTape_takeWord_226 ?_
                obtain ⟨o228, g228, hf⟩ := Option.bind_eq_some_iff.mp hf
                obtain ⟨v228, h228, hf⟩ := Option.bind_eq_some_iff.mp hf
                refine w_ci M (w_runV C M g228 rfl (c_Tape_isWord h228) (cwV 2 C.ts (hgV wm_313 wm_315 sel_Tape_isWord wm_2 wm_316) rfl rfl rfl (by decide +kernel) ⟨Nat.le_of_ble_eq_true rfl, Nat.le_of_ble_eq_true rfl⟩) rfl hl.1 rfl (Nat.zero_le _) dTape_takeWord_228 ⟨Nat.le_refl _, Nat.le_refl _⟩) (fun H locs M => ?_)
                obtain ⟨v231, h231, hf⟩ := Option.bind_eq_some_iff.mp hf
                obtain ⟨rfl, g231⟩ := bZ_some h231
                cases hf
                exact w_iret C M hr hlk (narrow_z g231) (Nat.le_refl _) (Nat.le_refl _) dTape_takeWord_231 rfl rfl
              · rw [if_neg c1_6] at hf
                refine lv_lookup (off := 231) (tgt := 232) C.x C.b dTape_takeWord_1 (by decide) (by rw [lv_osw c1_0 (by decide), lv_osw c1_1 (by decide), lv_osw c1_2 (by decide), lv_osw c1_3 (by decide), lv_osw c1_4 (by decide), lv_osw c1_5 (by decide), lv_osw c1_6 (by decide)] <;> rfl) (by decide) ?_
                refine lv_iconst (v := 0) C.x C.b dTape_takeWord_232 (by decide) ?_
                cases hf
                exact w_iret C M hr hlk rfl (Nat.le_refl _) (Nat.le_refl _) dTape_takeWord_233 rfl rfl
theorem dTape_isOfForm_0 : decode prog_9_method_5_code 0 = .ok (.aload_n 0, 1) := by decide +kernel
theorem dTape_isOfForm_1 : decode prog_9_method_5_code 1 = .ok (.getfield 27, 3) := by decide +kernel
theorem dTape_isOfForm_4 : decode prog_9_method_5_code 4 = .ok (.aload_n 1, 1) := by decide +kernel
theorem dTape_isOfForm_5 : decode prog_9_method_5_code 5 = .ok (.getfield 107, 3) := by decide +kernel
theorem dTape_isOfForm_8 : decode prog_9_method_5_code 8 = .ok (.invokevirtual 113, 3) := by decide +kernel
theorem dTape_isOfForm_11 : decode prog_9_method_5_code 11 = .ok (.iconst 1, 1) := by decide +kernel
theorem dTape_isOfForm_12 : decode prog_9_method_5_code 12 = .ok (.iadd, 1) := by decide +kernel
theorem dTape_isOfForm_13 : decode prog_9_method_5_code 13 = .ok (.if_icmp .ne 15, 3) := by decide +kernel
theorem dTape_isOfForm_16 : decode prog_9_method_5_code 16 = .ok (.aload_n 0, 1) := by decide +kernel
theorem dTape_isOfForm_17 : decode prog_9_method_5_code 17 = .ok (.iconst 0, 1) := by decide +kernel
theorem dTape_isOfForm_18 : decode prog_9_method_5_code 18 = .ok (.aload_n 1, 1) := by decide +kernel
theorem dTape_isOfForm_19 : decode prog_9_method_5_code 19 = .ok (.getfield 118, 3) := by decide +kernel
theorem dTape_isOfForm_22 : decode prog_9_method_5_code 22 = .ok (.invokevirtual 121, 3) := by decide +kernel
theorem dTape_isOfForm_25 : decode prog_9_method_5_code 25 = .ok (.ifCond .ne 5, 3) := by decide +kernel
theorem dTape_isOfForm_28 : decode prog_9_method_5_code 28 = .ok (.iconst 0, 1) := by decide +kernel
theorem dTape_isOfForm_29 : decode prog_9_method_5_code 29 = .ok (.ireturn, 1) := by decide +kernel
theorem dTape_isOfForm_30 : decode prog_9_method_5_code 30 = .ok (.aload_n 0, 1) := by decide +kernel
theorem dTape_isOfForm_31 : decode prog_9_method_5_code 31 = .ok (.iconst (-1), 1) := by decide +kernel
theorem dTape_isOfForm_32 : decode prog_9_method_5_code 32 = .ok (.putfield 83, 3) := by decide +kernel
theorem dTape_isOfForm_35 : decode prog_9_method_5_code 35 = .ok (.aload_n 0, 1) := by decide +kernel
theorem dTape_isOfForm_36 : decode prog_9_method_5_code 36 = .ok (.ldc 125, 2) := by decide +kernel
theorem dTape_isOfForm_38 : decode prog_9_method_5_code 38 = .ok (.putfield 86, 3) := by decide +kernel
theorem dTape_isOfForm_41 : decode prog_9_method_5_code 41 = .ok (.aload_n 0, 1) := by decide +kernel
theorem dTape_isOfForm_42 : decode prog_9_method_5_code 42 = .ok (.iconst (-1), 1) := by decide +kernel
theorem dTape_isOfForm_43 : decode prog_9_method_5_code 43 = .ok (.putfield 89, 3) := by decide +kernel
theorem dTape_isOfForm_46 : decode prog_9_method_5_code 46 = .ok (.aload_n 0, 1) := by decide +kernel
theorem dTape_isOfForm_47 : decode prog_9_method_5_code 47 = .ok (.ldc 125, 2) := by decide +kernel
theorem dTape_isOfForm_49 : decode prog_9_method_5_code 49 = .ok (.putfield 92, 3) := by decide +kernel
theorem dTape_isOfForm_52 : decode prog_9_method_5_code 52 = .ok (.aload_n 0, 1) := by decide +kernel
theorem dTape_isOfForm_53 : decode prog_9_method_5_code 53 = .ok (.iconst (-1), 1) := by decide +kernel
theorem dTape_isOfForm_54 : decode prog_9_method_5_code 54 = .ok (.putfield 95, 3) := by decide +kernel
theorem dTape_isOfForm_57 : decode prog_9_method_5_code 57 = .ok (.iconst 0, 1) := by decide +kernel
theorem dTape_isOfForm_58 : decode prog_9_method_5_code 58 = .ok (.istore_n 2, 1) := by decide +kernel
theorem dTape_isOfForm_59 : decode prog_9_method_5_code 59 = .ok (.iload_n 2, 1) := by decide +kernel
theorem dTape_isOfForm_60 : decode prog_9_method_5_code 60 = .ok (.aload_n 1, 1) := by decide +kernel
theorem dTape_isOfForm_61 : decode prog_9_method_5_code 61 = .ok (.getfield 107, 3) := by decide +kernel
theorem dTape_isOfForm_64 : decode prog_9_method_5_code 64 = .ok (.invokevirtual 113, 3) := by decide +kernel
theorem dTape_isOfForm_67 : decode prog_9_method_5_code 67 = .ok (.if_icmp .ge 29, 3) := by decide +kernel
theorem dTape_isOfForm_70 : decode prog_9_method_5_code 70 = .ok (.aload_n 0, 1) := by decide +kernel
theorem dTape_isOfForm_71 : decode prog_9_method_5_code 71 = .ok (.iload_n 2, 1) := by decide +kernel
theorem dTape_isOfForm_72 : decode prog_9_method_5_code 72 = .ok (.iconst 1, 1) := by decide +kernel
theorem dTape_isOfForm_73 : decode prog_9_method_5_code 73 = .ok (.iadd, 1) := by decide +kernel
theorem dTape_isOfForm_74 : decode prog_9_method_5_code 74 = .ok (.aload_n 1, 1) := by decide +kernel
theorem dTape_isOfForm_75 : decode prog_9_method_5_code 75 = .ok (.getfield 107, 3) := by decide +kernel
theorem dTape_isOfForm_78 : decode prog_9_method_5_code 78 = .ok (.iload_n 2, 1) := by decide +kernel
theorem dTape_isOfForm_79 : decode prog_9_method_5_code 79 = .ok (.invokevirtual 126, 3) := by decide +kernel
theorem dTape_isOfForm_82 : decode prog_9_method_5_code 82 = .ok (.invokevirtual 130, 3) := by decide +kernel
theorem dTape_isOfForm_85 : decode prog_9_method_5_code 85 = .ok (.ifCond .ne 5, 3) := by decide +kernel
theorem dTape_isOfForm_88 : decode prog_9_method_5_code 88 = .ok (.iconst 0, 1) := by decide +kernel
theorem dTape_isOfForm_89 : decode prog_9_method_5_code 89 = .ok (.ireturn, 1) := by decide +kernel
theorem dTape_isOfForm_90 : decode prog_9_method_5_code 90 = .ok (.iinc 2 1, 3) := by decide +kernel
theorem dTape_isOfForm_93 : decode prog_9_method_5_code 93 = .ok (.goto (-34), 3) := by decide +kernel
theorem dTape_isOfForm_96 : decode prog_9_method_5_code 96 = .ok (.iconst 1, 1) := by decide +kernel
theorem dTape_isOfForm_97 : decode prog_9_method_5_code 97 = .ok (.ireturn, 1) := by decide +kernel
abbrev rm_Tape_isOfForm : Room := { frames := 6, cells := 0, slots := 0, locals := 149 }
def f_Tape_isOfForm_b59 (S : hE) (g : Nat → Nat) (N : Nat) : Nat → Option Nat → Option Nat → Int32 → hE → Option (Int32 × hE)
  | 0, _, _, _, _ => none
  | n + 1, y0, y1, y2, E => (
  (gR (So S) y1 101 2).bind fun v61 =>
  (gO (So S) v61 100).bind fun o64 =>
  (f_Str_length S g E o64.1).bind fun v64 =>
  if v64 ≤ y2 then (
  some (1, E)
  ) else (
  (gR (So S) y1 101 2).bind fun v75 =>
  (gO (So S) v75 100).bind fun o79 =>
  (f_Str_charAt S g E o79.1 y2).bind fun v79 =>
  (gO E y0 5).bind fun o82 =>
  (f_Tape_takeWord S g N o82.1 (y2 + 1) v79 E).bind fun v82 =>
  if v82.1 = 0 then (
  some (0, v82.2)
  ) else (
  f_Tape_isOfForm_b59 S g N n y0 y1 (y2 + 1) v82.2
  )
  ))
set_option maxHeartbeats 4000000 in
set_option maxRecDepth 100000 in
theorem b_Tape_isOfForm_59 {p : Program} {l : Launch} {e : Env} {s : State} {m : MethodId} {args : Array Value} {below : List Frame} {meth : Method} {c : Code} {D : va_G} {kA : Nat → ClassId} {S : hE} {g : Nat → Nat} {n0 nx : Nat} {N : Nat} {res : Int32 × hE} (C : hX p s m args c prog_9_method_5_code 3 R_Tape ws_Tape_isOfForm D kA S g n0) (hr : meth.sig.returnType = (some .boolean)) (hlk : meth.locks = false) (hnm : meth.name = "isOfForm") : ∀ n : Nat, ∀ (y0 : Option Nat) (y1 : Option Nat) (y2 : Int32) (E : hE) (H : Heap) (locs : List Loc) (ls : Array Slot), hY D kA n0 s E nx H locs → lv_has ls 3 [(0, va_rf y0), (1, va_rf y1), (2, .int y2)] → f_Tape_isOfForm_b59 S g N n y0 y1 y2 E = some res → W p l e rm_Tape_isOfForm s m args below meth c H locs 0 0 (MQ below (va_Qi (fun r w => r = res.1 ∧ w = (res.2, nx)) (hJ D kA S g n0) (fun q => n0 ≤ q)) args s 0 0 (fun q => n0 ≤ q)) (F0 m 59 ls []) := by
  intro n
  induction n with
  | zero =>
    intro y0 y1 y2 E H locs ls M hl hf
    simp [f_Tape_isOfForm_b59] at hf
  | succ n ih =>
    intro y0 y1 y2 E H locs ls M hl hf
    rw [f_Tape_isOfForm_b59] at hf
    refine lv_iload_n C.x C.b dTape_isOfForm_59 rfl (lv_at hl 2 rfl) ?_
    refine w_aload_n C.x C.b dTape_isOfForm_60 rfl (lv_at hl 1 rfl) ?_
    obtain ⟨v61, h61, hf⟩ := Option.bind_eq_some_iff.mp hf
    refine w_sgetR C M (zZ_S C.z) h61 (List.mem_cons_of_mem _ wm_1067) rfl dTape_isOfForm_61 ?_
    obtain ⟨o64, g64, hf⟩ := Option.bind_eq_some_iff.mp hf
    obtain ⟨v64, h64, hf⟩ := Option.bind_eq_some_iff.mp hf
    refine w_ci M (w_runVs C M (zZ_S C.z) g64 (c_Str_length h64) (cwV 0 C.ts (hgV wm_303 wm_304 wm_305 wm_12 wm_306) rfl rfl rfl (by decide +kernel) ⟨Nat.le_of_ble_eq_true rfl, Nat.le_of_ble_eq_true rfl⟩) rfl hl.1 rfl (by simp [va_rf_cat, cat_i, cat_l, cat_n]) dTape_isOfForm_64 ⟨Nat.le_refl _, Nat.le_refl _⟩) (fun H locs M => ?_)
    refine lv_icmp_ge (tgt := 96) C.x C.b dTape_isOfForm_67 (by decide) (fun c67 => ?_) (fun c67 => ?_)
    · rw [if_pos c67] at hf
      refine lv_iconst (v := 1) C.x C.b dTape_isOfForm_96 (by decide) ?_
      cases hf
      exact w_iret C M hr hlk rfl (Nat.le_refl _) (Nat.le_refl _) dTape_isOfForm_97 rfl rfl
    · rw [if_neg c67] at hf
      refine w_aload_n C.x C.b dTape_isOfForm_70 rfl (lv_at hl 0 rfl) ?_
      refine lv_iload_n C.x C.b dTape_isOfForm_71 rfl (lv_at hl 2 rfl) ?_
      refine lv_iconst (v := 1) C.x C.b dTape_isOfForm_72 (by decide) ?_
      refine lv_iadd C.x C.b dTape_isOfForm_73 ?_
      refine w_aload_n C.x C.b dTape_isOfForm_74 rfl (lv_at hl 1 rfl) ?_
      obtain ⟨v75, h75, hf⟩ := Option.bind_eq_some_iff.mp hf
      refine w_sgetR C M (zZ_S C.z) h75 (List.mem_cons_of_mem _ wm_1067) rfl dTape_isOfForm_75 ?_
      refine lv_iload_n C.x C.b dTape_isOfForm_78 rfl (lv_at hl 2 rfl) ?_
      obtain ⟨o79, g79, hf⟩ := Option.bind_eq_some_iff.mp hf
      obtain ⟨v79, h79, hf⟩ := Option.bind_eq_some_iff.mp hf
      refine w_ci M (w_runVs C M (zZ_S C.z) g79 (c_Str_charAt h79) (cwV 1 C.ts (hgV wm_317 wm_318 wm_319 wm_12 wm_320) rfl rfl rfl (by decide +kernel) ⟨Nat.le_of_ble_eq_true rfl, Nat.le_of_ble_eq_true rfl⟩) rfl hl.1 rfl (by simp [va_rf_cat, cat_i, cat_l, cat_n]) dTape_isOfForm_79 ⟨Nat.le_refl _, Nat.le_refl _⟩) (fun H locs M => ?_)
      obtain ⟨o82, g82, hf⟩ := Option.bind_eq_some_iff.mp hf
      obtain ⟨v82, h82, hf⟩ := Option.bind_eq_some_iff.mp hf
      refine w_ci M (w_runV C M g82 rfl (c_Tape_takeWord h82) (cwV 2 C.ts (hgV wm_356 wm_358 sel_Tape_takeWord wm_2 wm_359) rfl rfl rfl (by decide +kernel) ⟨Nat.le_of_ble_eq_true rfl, Nat.le_of_ble_eq_true rfl⟩) rfl hl.1 rfl (Nat.zero_le _) dTape_isOfForm_82 ⟨Nat.le_refl _, Nat.le_refl _⟩) (fun H locs M => ?_)
      refine lv_if_ne (tgt := 90) C.x C.b dTape_isOfForm_85 (by decide) (fun c85 => ?_) (fun c85 => ?_)
      · rw [if_neg c85] at hf
        refine lv_iinc (v := y2 + 1) (lv' := [(2, .int (y2 + 1)), (0, va_rf y0), (1, va_rf y1)]) C.x C.b dTape_isOfForm_90 hl (k := 2) rfl rfl (by decide) (by simp only [List.filter, va_rf_cat] <;> rfl) (fun ls hl => ?_)
        refine lv_goto (tgt := 59) C.x C.b dTape_isOfForm_93 (by decide) ?_
        exact ih _ _ _ _ _ _ _ M (lv_sub hl [1, 2, 0] rfl) hf
      · rw [if_pos c85] at hf
        refine lv_iconst (v := 0) C.x C.b dTape_isOfForm_88 (by decide) ?_
        cases hf
        exact w_iret C M hr hlk rfl (Nat.le_refl _) (Nat.le_refl _) dTape_isOfForm_89 rfl rfl
def f_Tape_isOfForm_b28 (S : hE) (g : Nat → Nat) (N : Nat) (E : hE) : Option (Int32 × hE) := (
  some (0, E))
set_option maxHeartbeats 4000000 in
set_option maxRecDepth 100000 in
theorem b_Tape_isOfForm_28 {p : Program} {l : Launch} {e : Env} {s : State} {m : MethodId} {args : Array Value} {below : List Frame} {meth : Method} {c : Code} {D : va_G} {kA : Nat → ClassId} {S : hE} {g : Nat → Nat} {n0 nx : Nat} {N : Nat} {res : Int32 × hE} (C : hX p s m args c prog_9_method_5_code 3 R_Tape ws_Tape_isOfForm D kA S g n0) (hr : meth.sig.returnType = (some .boolean)) (hlk : meth.locks = false) (hnm : meth.name = "isOfForm") : ∀  (E : hE) (H : Heap) (locs : List Loc) (ls : Array Slot), hY D kA n0 s E nx H locs → lv_has ls 3 [] → f_Tape_isOfForm_b28 S g N  E = some res → W p l e rm_Tape_isOfForm s m args below meth c H locs 0 0 (MQ below (va_Qi (fun r w => r = res.1 ∧ w = (res.2, nx)) (hJ D kA S g n0) (fun q => n0 ≤ q)) args s 0 0 (fun q => n0 ≤ q)) (F0 m 28 ls []) := by
  intro E H locs ls M hl hf
  unfold f_Tape_isOfForm_b28 at hf
  refine lv_iconst (v := 0) C.x C.b dTape_isOfForm_28 (by decide) ?_
  cases hf
  exact w_iret C M hr hlk rfl (Nat.le_refl _) (Nat.le_refl _) dTape_isOfForm_29 rfl rfl
def f_Tape_isOfForm (S : hE) (g : Nat → Nat) (N : Nat) (x0 : Nat) (x1 : Option Nat) (E : hE) : Option (Int32 × hE) := (
  (gI E (some x0) 5 3).bind fun v1 =>
  (gR (So S) x1 101 2).bind fun v5 =>
  (gO (So S) v5 100).bind fun o8 =>
  (f_Str_length S g E o8.1).bind fun v8 =>
  if v1 = (v8 + 1) then (
  (gR (So S) x1 101 1).bind fun v19 =>
  (gO E (some x0) 5).bind fun o22 =>
  (f_Tape_isWord S g N E o22.1 0 v19).bind fun v22 =>
  if v22 = 0 then (
  f_Tape_isOfForm_b28 S g N E
  ) else (
  (sI E (some x0) 5 4 (-1)).bind fun E32 =>
  (sI E32 (some x0) 5 5 (-1000000)).bind fun E38 =>
  (sI E38 (some x0) 5 6 (-1)).bind fun E43 =>
  (sI E43 (some x0) 5 7 (-1000000)).bind fun E49 =>
  (sI E49 (some x0) 5 8 (-1)).bind fun E54 =>
  f_Tape_isOfForm_b59 S g N N (some x0) x1 0 E54
  )
  ) else (
  f_Tape_isOfForm_b28 S g N E
  ))
set_option maxHeartbeats 4000000 in
set_option maxRecDepth 100000 in
theorem c_Tape_isOfForm {l : Launch} {D : va_G} {kA : Nat → ClassId} {S : hE} {g : Nat → Nat} {n0 nx : Nat} {N : Nat} {x0 : Nat} {x1 : Option Nat} {E : hE} {res : Int32 × hE} (hf : f_Tape_isOfForm S g N x0 x1 E = some res) : Met l y_Tape_isOfForm ws_Tape_isOfForm rm_Tape_isOfForm (va_Pc [va_rf (some x0), va_rf x1] (hJ D kA S g n0 (E, nx))) (va_Qi (fun r w => r = res.1 ∧ w = (res.2, nx)) (hJ D kA S g n0) (fun q => n0 ≤ q)) 0 0 (fun q => n0 ≤ q) := by
  refine h_met (cc := prog_9_method_5_code) (maxL := 3) (ret := (some .boolean)) (lvs := [(0, va_rf (some x0)), (1, va_rf x1)]) zZ_k (by decide) rfl (by simp [lg_sl, va_rf_cat, cat_i, cat_l, cat_n]) (by simp [lv_args, va_rf_cat, cat_i, cat_l, cat_n]) ?_
  intro p e s m below meth c ls C M hr hlk hnm hl
  unfold f_Tape_isOfForm at hf
  refine w_aload_n C.x C.b dTape_isOfForm_0 rfl (lv_at hl 0 rfl) ?_
  obtain ⟨v1, h1, hf⟩ := Option.bind_eq_some_iff.mp hf
  refine w_getI C M h1 rfl (hm_in in_Tape) (by decide) (List.mem_cons_of_mem _ wm_62) rfl dTape_isOfForm_1 ?_
  refine w_aload_n C.x C.b dTape_isOfForm_4 rfl (lv_at hl 1 rfl) ?_
  obtain ⟨v5, h5, hf⟩ := Option.bind_eq_some_iff.mp hf
  refine w_sgetR C M (zZ_S C.z) h5 (List.mem_cons_of_mem _ wm_1067) rfl dTape_isOfForm_5 ?_
  obtain ⟨o8, g8, hf⟩ := Option.bind_eq_some_iff.mp hf
  obtain ⟨v8, h8, hf⟩ := Option.bind_eq_some_iff.mp hf
  refine w_ci M (w_runVs C M (zZ_S C.z) g8 (c_Str_length h8) (cwV 0 C.ts (hgV wm_303 wm_304 wm_305 wm_12 wm_306) rfl rfl rfl (by decide +kernel) ⟨Nat.le_of_ble_eq_true rfl, Nat.le_of_ble_eq_true rfl⟩) rfl hl.1 rfl (by simp [va_rf_cat, cat_i, cat_l, cat_n]) dTape_isOfForm_8 ⟨Nat.le_refl _, Nat.le_refl _⟩) (fun H locs M => ?_)
  refine lv_iconst (v := 1) C.x C.b dTape_isOfForm_11 (by decide) ?_
  refine lv_iadd C.x C.b dTape_isOfForm_12 ?_
  refine lv_icmp_ne (tgt := 28) C.x C.b dTape_isOfForm_13 (by decide) (fun c13 => ?_) (fun c13 => ?_)
  · rw [if_neg c13] at hf
    exact b_Tape_isOfForm_28 C hr hlk hnm _ _ _ _ M (lv_sub hl [] rfl) hf
  · rw [if_pos c13] at hf
    refine w_aload_n C.x C.b dTape_isOfForm_16 rfl (lv_at hl 0 rfl) ?_
    refine lv_iconst (v := 0) C.x C.b dTape_isOfForm_17 (by decide) ?_
    refine w_aload_n C.x C.b dTape_isOfForm_18 rfl (lv_at hl 1 rfl) ?_
    obtain ⟨v19, h19, hf⟩ := Option.bind_eq_some_iff.mp hf
    refine w_sgetR C M (zZ_S C.z) h19 (List.mem_cons_of_mem _ wm_1070) rfl dTape_isOfForm_19 ?_
    obtain ⟨o22, g22, hf⟩ := Option.bind_eq_some_iff.mp hf
    obtain ⟨v22, h22, hf⟩ := Option.bind_eq_some_iff.mp hf
    refine w_ci M (w_runV C M g22 rfl (c_Tape_isWord h22) (cwV 2 C.ts (hgV wm_313 wm_315 sel_Tape_isWord wm_2 wm_316) rfl rfl rfl (by decide +kernel) ⟨Nat.le_of_ble_eq_true rfl, Nat.le_of_ble_eq_true rfl⟩) rfl hl.1 rfl (Nat.zero_le _) dTape_isOfForm_22 ⟨Nat.le_refl _, Nat.le_refl _⟩) (fun H locs M => ?_)
    refine lv_if_ne (tgt := 30) C.x C.b dTape_isOfForm_25 (by decide) (fun c25 => ?_) (fun c25 => ?_)
    · rw [if_neg c25] at hf
      refine w_aload_n C.x C.b dTape_isOfForm_30 rfl (lv_at hl 0 rfl) ?_
      refine lv_iconst (v := (-1)) C.x C.b dTape_isOfForm_31 (by decide) ?_
      obtain ⟨E32, h32, hf⟩ := Option.bind_eq_some_iff.mp hf
      refine w_putV (ty := .int) C M ty_Tape h32 rfl (hm_in in_Tape) tyok_Tape nm_Tape (by decide) (List.mem_cons_of_mem _ wm_63) rfl rfl (by decide +kernel) rfl rfl dTape_isOfForm_32 (fun H locs M => ?_)
      refine w_aload_n C.x C.b dTape_isOfForm_35 rfl (lv_at hl 0 rfl) ?_
      refine lv_ldc (v := (-1000000)) C.x C.b C.ow (C.ts (.constant R_Tape 125 (-1000000)) (List.mem_cons_of_mem _ wm_355)) dTape_isOfForm_36 ?_
      obtain ⟨E38, h38, hf⟩ := Option.bind_eq_some_iff.mp hf
      refine w_putV (ty := .int) C M ty_Tape h38 rfl (hm_in in_Tape) tyok_Tape nm_Tape (by decide) (List.mem_cons_of_mem _ wm_64) rfl rfl (by decide +kernel) rfl rfl dTape_isOfForm_38 (fun H locs M => ?_)
      refine w_aload_n C.x C.b dTape_isOfForm_41 rfl (lv_at hl 0 rfl) ?_
      refine lv_iconst (v := (-1)) C.x C.b dTape_isOfForm_42 (by decide) ?_
      obtain ⟨E43, h43, hf⟩ := Option.bind_eq_some_iff.mp hf
      refine w_putV (ty := .int) C M ty_Tape h43 rfl (hm_in in_Tape) tyok_Tape nm_Tape (by decide) (List.mem_cons_of_mem _ wm_65) rfl rfl (by decide +kernel) rfl rfl dTape_isOfForm_43 (fun H locs M => ?_)
      refine w_aload_n C.x C.b dTape_isOfForm_46 rfl (lv_at hl 0 rfl) ?_
      refine lv_ldc (v := (-1000000)) C.x C.b C.ow (C.ts (.constant R_Tape 125 (-1000000)) (List.mem_cons_of_mem _ wm_355)) dTape_isOfForm_47 ?_
      obtain ⟨E49, h49, hf⟩ := Option.bind_eq_some_iff.mp hf
      refine w_putV (ty := .int) C M ty_Tape h49 rfl (hm_in in_Tape) tyok_Tape nm_Tape (by decide) (List.mem_cons_of_mem _ wm_66) rfl rfl (by decide +kernel) rfl rfl dTape_isOfForm_49 (fun H locs M => ?_)
      refine w_aload_n C.x C.b dTape_isOfForm_52 rfl (lv_at hl 0 rfl) ?_
      refine lv_iconst (v := (-1)) C.x C.b dTape_isOfForm_53 (by decide) ?_
      obtain ⟨E54, h54, hf⟩ := Option.bind_eq_some_iff.mp hf
      refine w_putV (ty := .int) C M ty_Tape h54 rfl (hm_in in_Tape) tyok_Tape nm_Tape (by decide) (List.mem_cons_of_mem _ wm_67) rfl rfl (by decide +kernel) rfl rfl dTape_isOfForm_54 (fun H locs M => ?_)
      refine lv_iconst (v := 0) C.x C.b dTape_isOfForm_57 (by decide) ?_
      refine lv_istore_n (lv' := [(2, .int 0), (0, va_rf (some x0)), (1, va_rf x1)]) C.x C.b dTape_isOfForm_58 rfl hl (by decide) (by simp only [List.filter, va_rf_cat] <;> rfl) (fun ls hl => ?_)
      exact b_Tape_isOfForm_59 C hr hlk hnm N _ _ _ _ _ _ _ M (lv_sub hl [1, 2, 0] rfl) hf
    · rw [if_pos c25] at hf
      exact b_Tape_isOfForm_28 C hr hlk hnm _ _ _ _ M (lv_sub hl [] rfl) hf
theorem dStat_init_0 : decode prog_8_method_1_code 0 = .ok (.aload_n 0, 1) := by decide +kernel
theorem dStat_init_1 : decode prog_8_method_1_code 1 = .ok (.invokespecial 1, 3) := by decide +kernel
theorem dStat_init_4 : decode prog_8_method_1_code 4 = .ok (.aload_n 0, 1) := by decide +kernel
theorem dStat_init_5 : decode prog_8_method_1_code 5 = .ok (.iload_n 1, 1) := by decide +kernel
theorem dStat_init_6 : decode prog_8_method_1_code 6 = .ok (.putfield 7, 3) := by decide +kernel
theorem dStat_init_9 : decode prog_8_method_1_code 9 = .ok (.aload_n 0, 1) := by decide +kernel
theorem dStat_init_10 : decode prog_8_method_1_code 10 = .ok (.aload_n 2, 1) := by decide +kernel
theorem dStat_init_11 : decode prog_8_method_1_code 11 = .ok (.putfield 13, 3) := by decide +kernel
theorem dStat_init_14 : decode prog_8_method_1_code 14 = .ok (.aload_n 0, 1) := by decide +kernel
theorem dStat_init_15 : decode prog_8_method_1_code 15 = .ok (.iload_n 3, 1) := by decide +kernel
theorem dStat_init_16 : decode prog_8_method_1_code 16 = .ok (.putfield 17, 3) := by decide +kernel
theorem dStat_init_19 : decode prog_8_method_1_code 19 = .ok (.aload_n 0, 1) := by decide +kernel
theorem dStat_init_20 : decode prog_8_method_1_code 20 = .ok (.iload 4, 2) := by decide +kernel
theorem dStat_init_22 : decode prog_8_method_1_code 22 = .ok (.putfield 20, 3) := by decide +kernel
theorem dStat_init_25 : decode prog_8_method_1_code 25 = .ok (.aload_n 0, 1) := by decide +kernel
theorem dStat_init_26 : decode prog_8_method_1_code 26 = .ok (.iload 5, 2) := by decide +kernel
theorem dStat_init_28 : decode prog_8_method_1_code 28 = .ok (.putfield 23, 3) := by decide +kernel
theorem dStat_init_31 : decode prog_8_method_1_code 31 = .ok (.aload_n 0, 1) := by decide +kernel
theorem dStat_init_32 : decode prog_8_method_1_code 32 = .ok (.iload 6, 2) := by decide +kernel
theorem dStat_init_34 : decode prog_8_method_1_code 34 = .ok (.putfield 26, 3) := by decide +kernel
theorem dStat_init_37 : decode prog_8_method_1_code 37 = .ok (.aload_n 0, 1) := by decide +kernel
theorem dStat_init_38 : decode prog_8_method_1_code 38 = .ok (.iload 7, 2) := by decide +kernel
theorem dStat_init_40 : decode prog_8_method_1_code 40 = .ok (.putfield 29, 3) := by decide +kernel
theorem dStat_init_43 : decode prog_8_method_1_code 43 = .ok (.return_, 1) := by decide +kernel
abbrev rm_Stat_init : Room := { frames := 1, cells := 0, slots := 0, locals := 40 }
def f_Stat_init  (x0 : Nat) (x1 : Int32) (x2 : Option Nat) (x3 : Int32) (x4 : Int32) (x5 : Int32) (x6 : Int32) (x7 : Int32) (E : hE) : Option (hE) := (
  (sI E (some x0) 4 0 x1).bind fun E6 =>
  (sR E6 (some x0) 4 1 x2).bind fun E11 =>
  (sI E11 (some x0) 4 2 x3).bind fun E16 =>
  (sI E16 (some x0) 4 3 x4).bind fun E22 =>
  (sI E22 (some x0) 4 4 x5).bind fun E28 =>
  (sI E28 (some x0) 4 5 x6).bind fun E34 =>
  (sI E34 (some x0) 4 6 x7).bind fun E40 =>
  some E40)
set_option maxHeartbeats 4000000 in
set_option maxRecDepth 100000 in
theorem c_Stat_init {l : Launch} {D : va_G} {kA : Nat → ClassId} {S : hE} {g : Nat → Nat} {n0 nx : Nat} {x0 : Nat} {x1 : Int32} {x2 : Option Nat} {x3 : Int32} {x4 : Int32} {x5 : Int32} {x6 : Int32} {x7 : Int32} {E : hE} {res : hE} (hf : f_Stat_init x0 x1 x2 x3 x4 x5 x6 x7 E = some res) : Met l y_Stat_init ws_Stat_init rm_Stat_init (va_Pc [va_rf (some x0), .int x1, va_rf x2, .int x3, .int x4, .int x5, .int x6, .int x7] (hJ D kA S g n0 (E, nx))) (va_Qv (fun w => w = (res, nx)) (hJ D kA S g n0) (fun q => n0 ≤ q)) 0 0 (fun q => n0 ≤ q) := by
  refine h_met (cc := prog_8_method_1_code) (maxL := 8) (ret := none) (lvs := [(0, va_rf (some x0)), (1, .int x1), (2, va_rf x2), (3, .int x3), (4, .int x4), (5, .int x5), (6, .int x6), (7, .int x7)]) zZ_k (by decide) rfl (by simp [lg_sl, va_rf_cat, cat_i, cat_l, cat_n]) (by simp [lv_args, va_rf_cat, cat_i, cat_l, cat_n]) ?_
  intro p e s m below meth c ls C M hr hlk hnm hl
  unfold f_Stat_init at hf
  refine w_aload_n C.x C.b dStat_init_0 rfl (lv_at hl 0 rfl) ?_
  refine W.objInit C.x C.b C.ow (C.ts (.methodLink R_Stat 1 objectInit) (List.mem_cons_of_mem _ wm_442)) (C.ts (.instanceMethod objectInit) (List.mem_cons_of_mem _ wm_29)) (C.ts _ (List.mem_cons_of_mem _ wm_30)) rfl (by rw [C.ml]; exact hl.1) rfl dStat_init_1 (Nat.le_of_ble_eq_true rfl) (Nat.le_of_ble_eq_true rfl) ?_
  refine W.eq (g2 := F0 m 4 ls []) rfl ?_
  refine w_aload_n C.x C.b dStat_init_4 rfl (lv_at hl 0 rfl) ?_
  refine lv_iload_n C.x C.b dStat_init_5 rfl (lv_at hl 1 rfl) ?_
  obtain ⟨E6, h6, hf⟩ := Option.bind_eq_some_iff.mp hf
  refine w_putVF (ty := .int) C M ty_Stat h6 rfl (hm_in in_Stat) tyok_Stat nm_Stat (by decide) (List.mem_cons_of_mem _ wm_443) rfl rfl hnm rfl (by decide +kernel) rfl rfl dStat_init_6 (fun H locs M => ?_)
  refine w_aload_n C.x C.b dStat_init_9 rfl (lv_at hl 0 rfl) ?_
  refine w_aload_n C.x C.b dStat_init_10 rfl (lv_at hl 2 rfl) ?_
  obtain ⟨E11, h11, hf⟩ := Option.bind_eq_some_iff.mp hf
  refine w_putVF (ty := .object "StepPrograms$Form") C M ty_Stat h11 rfl (hm_in in_Stat) tyok_Stat nm_Stat (by decide) (List.mem_cons_of_mem _ wm_446) rfl rfl hnm rfl (by decide +kernel) (narrow_o _ _) (fits_o _ _) dStat_init_11 (fun H locs M => ?_)
  refine w_aload_n C.x C.b dStat_init_14 rfl (lv_at hl 0 rfl) ?_
  refine lv_iload_n C.x C.b dStat_init_15 rfl (lv_at hl 3 rfl) ?_
  obtain ⟨E16, h16, hf⟩ := Option.bind_eq_some_iff.mp hf
  refine w_putVF (ty := .int) C M ty_Stat h16 rfl (hm_in in_Stat) tyok_Stat nm_Stat (by decide) (List.mem_cons_of_mem _ wm_448) rfl rfl hnm rfl (by decide +kernel) rfl rfl dStat_init_16 (fun H locs M => ?_)
  refine w_aload_n C.x C.b dStat_init_19 rfl (lv_at hl 0 rfl) ?_
  refine lv_iload C.x C.b dStat_init_20 (lv_at hl 4 rfl) ?_
  obtain ⟨E22, h22, hf⟩ := Option.bind_eq_some_iff.mp hf
  refine w_putVF (ty := .int) C M ty_Stat h22 rfl (hm_in in_Stat) tyok_Stat nm_Stat (by decide) (List.mem_cons_of_mem _ wm_450) rfl rfl hnm rfl (by decide +kernel) rfl rfl dStat_init_22 (fun H locs M => ?_)
  refine w_aload_n C.x C.b dStat_init_25 rfl (lv_at hl 0 rfl) ?_
  refine lv_iload C.x C.b dStat_init_26 (lv_at hl 5 rfl) ?_
  obtain ⟨E28, h28, hf⟩ := Option.bind_eq_some_iff.mp hf
  refine w_putVF (ty := .int) C M ty_Stat h28 rfl (hm_in in_Stat) tyok_Stat nm_Stat (by decide) (List.mem_cons_of_mem _ wm_452) rfl rfl hnm rfl (by decide +kernel) rfl rfl dStat_init_28 (fun H locs M => ?_)
  refine w_aload_n C.x C.b dStat_init_31 rfl (lv_at hl 0 rfl) ?_
  refine lv_iload C.x C.b dStat_init_32 (lv_at hl 6 rfl) ?_
  obtain ⟨E34, h34, hf⟩ := Option.bind_eq_some_iff.mp hf
  refine w_putVF (ty := .int) C M ty_Stat h34 rfl (hm_in in_Stat) tyok_Stat nm_Stat (by decide) (List.mem_cons_of_mem _ wm_454) rfl rfl hnm rfl (by decide +kernel) rfl rfl dStat_init_34 (fun H locs M => ?_)
  refine w_aload_n C.x C.b dStat_init_37 rfl (lv_at hl 0 rfl) ?_
  refine lv_iload C.x C.b dStat_init_38 (lv_at hl 7 rfl) ?_
  obtain ⟨E40, h40, hf⟩ := Option.bind_eq_some_iff.mp hf
  refine w_putVF (ty := .int) C M ty_Stat h40 rfl (hm_in in_Stat) tyok_Stat nm_Stat (by decide) (List.mem_cons_of_mem _ wm_456) rfl rfl hnm rfl (by decide +kernel) rfl rfl dStat_init_40 (fun H locs M => ?_)
  cases hf
  exact w_vret C M hr hlk (Nat.le_refl _) (Nat.le_refl _) dStat_init_43 rfl
theorem dAS_newLength_0 : decode prog_31_method_27_code 0 = .ok (.iload_n 0, 1) := by decide +kernel
theorem dAS_newLength_1 : decode prog_31_method_27_code 1 = .ok (.iload_n 1, 1) := by decide +kernel
theorem dAS_newLength_2 : decode prog_31_method_27_code 2 = .ok (.iload_n 2, 1) := by decide +kernel
theorem dAS_newLength_3 : decode prog_31_method_27_code 3 = .ok (.invokestatic 194, 3) := by decide +kernel
theorem dAS_newLength_6 : decode prog_31_method_27_code 6 = .ok (.iadd, 1) := by decide +kernel
theorem dAS_newLength_7 : decode prog_31_method_27_code 7 = .ok (.istore_n 3, 1) := by decide +kernel
theorem dAS_newLength_8 : decode prog_31_method_27_code 8 = .ok (.iconst 0, 1) := by decide +kernel
theorem dAS_newLength_9 : decode prog_31_method_27_code 9 = .ok (.iload_n 3, 1) := by decide +kernel
theorem dAS_newLength_10 : decode prog_31_method_27_code 10 = .ok (.if_icmp .ge 11, 3) := by decide +kernel
theorem dAS_newLength_13 : decode prog_31_method_27_code 13 = .ok (.iload_n 3, 1) := by decide +kernel
theorem dAS_newLength_14 : decode prog_31_method_27_code 14 = .ok (.ldc 200, 2) := by decide +kernel
theorem dAS_newLength_16 : decode prog_31_method_27_code 16 = .ok (.if_icmp .gt 5, 3) := by decide +kernel
theorem dAS_newLength_19 : decode prog_31_method_27_code 19 = .ok (.iload_n 3, 1) := by decide +kernel
theorem dAS_newLength_20 : decode prog_31_method_27_code 20 = .ok (.ireturn, 1) := by decide +kernel
abbrev rm_AS_newLength : Room := { frames := 1, cells := 0, slots := 0, locals := 40 }
def f_AS_newLength (E : hE) (x0 : Int32) (x1 : Int32) (x2 : Int32) : Option (Int32) := (
  if (x0 + (if x1 < x2 then x2 else x1)) ≤ 0 then (
  none
  ) else (
  if 2147483639 < (x0 + (if x1 < x2 then x2 else x1)) then (
  none
  ) else (
  some (x0 + (if x1 < x2 then x2 else x1))
  )
  ))
set_option maxHeartbeats 4000000 in
set_option maxRecDepth 100000 in
theorem c_AS_newLength {l : Launch} {D : va_G} {kA : Nat → ClassId} {S : hE} {g : Nat → Nat} {n0 nx : Nat} {x0 : Int32} {x1 : Int32} {x2 : Int32} {E : hE} {res : Int32} (hf : f_AS_newLength E x0 x1 x2 = some res) : Met l y_AS_newLength ws_AS_newLength rm_AS_newLength (va_Pc [.int x0, .int x1, .int x2] (hJ D kA S g n0 (E, nx))) (va_Qi (fun r w => r = res ∧ w = (E, nx)) (hJ D kA S g n0) (fun q => n0 ≤ q)) 0 0 (fun q => n0 ≤ q) := by
  refine h_met (cc := prog_31_method_27_code) (maxL := 4) (ret := (some .int)) (lvs := [(0, .int x0), (1, .int x1), (2, .int x2)]) zZ_k (by decide) rfl (by simp [lg_sl, va_rf_cat, cat_i, cat_l, cat_n]) (by simp [lv_args, va_rf_cat, cat_i, cat_l, cat_n]) ?_
  intro p e s m below meth c ls C M hr hlk hnm hl
  unfold f_AS_newLength at hf
  refine lv_iload_n C.x C.b dAS_newLength_0 rfl (lv_at hl 0 rfl) ?_
  refine lv_iload_n C.x C.b dAS_newLength_1 rfl (lv_at hl 1 rfl) ?_
  refine lv_iload_n C.x C.b dAS_newLength_2 rfl (lv_at hl 2 rfl) ?_
  refine va_mmax C.x C.b (C.ml.trans hl.1.symm) C.ow (C.ts (.methodLink R_AS 194 Lib.Math.max.name) (List.mem_cons_of_mem _ wm_494)) (C.ts (.static Lib.Math.max.name) (List.mem_cons_of_mem _ wm_392)) (C.ts (.initialized "java/lang/Math") (List.mem_cons_of_mem _ wm_16)) (C.ts (.code Lib.Math.max.name Lib.Math.max.code 2 (some .int)) (List.mem_cons_of_mem _ wm_393)) (Nat.le_of_ble_eq_true rfl) (by simp [va_rf_cat, cat_i, cat_l, cat_n]) (Nat.zero_le _) (Nat.zero_le _) dAS_newLength_3 ?_
  refine lv_iadd C.x C.b dAS_newLength_6 ?_
  refine lv_istore_n (lv' := [(3, .int (x0 + (if x1 < x2 then x2 else x1))), (0, .int x0), (1, .int x1), (2, .int x2)]) C.x C.b dAS_newLength_7 rfl hl (by decide) rfl (fun ls hl => ?_)
  refine lv_iconst (v := 0) C.x C.b dAS_newLength_8 (by decide) ?_
  refine lv_iload_n C.x C.b dAS_newLength_9 rfl (lv_at hl 0 rfl) ?_
  refine lv_icmp_ge (tgt := 21) C.x C.b dAS_newLength_10 (by decide) (fun c10 => ?_) (fun c10 => ?_)
  · rw [if_pos c10] at hf
    cases hf
  · rw [if_neg c10] at hf
    refine lv_iload_n C.x C.b dAS_newLength_13 rfl (lv_at hl 0 rfl) ?_
    refine lv_ldc (v := 2147483639) C.x C.b C.ow (C.ts (.constant R_AS 200 2147483639) (List.mem_cons_of_mem _ wm_495)) dAS_newLength_14 ?_
    refine lv_icmp_gt (tgt := 21) C.x C.b dAS_newLength_16 (by decide) (fun c16 => ?_) (fun c16 => ?_)
    · rw [if_pos c16] at hf
      cases hf
    · rw [if_neg c16] at hf
      refine lv_iload_n C.x C.b dAS_newLength_19 rfl (lv_at hl 0 rfl) ?_
      cases hf
      exact w_iret C M hr hlk rfl (Nat.le_refl _) (Nat.le_refl _) dAS_newLength_20 rfl rfl
theorem dArrs_copyOf3_0 : decode prog_25_method_120_code 0 = .ok (.aload_n 2, 1) := by decide +kernel
theorem dArrs_copyOf3_1 : decode prog_25_method_120_code 1 = .ok (.ldc 110, 2) := by decide +kernel
theorem dArrs_copyOf3_3 : decode prog_25_method_120_code 3 = .ok (.if_acmp .ne 10, 3) := by decide +kernel
theorem dArrs_copyOf3_6 : decode prog_25_method_120_code 6 = .ok (.iload_n 1, 1) := by decide +kernel
theorem dArrs_copyOf3_7 : decode prog_25_method_120_code 7 = .ok (.anewarray 2, 3) := by decide +kernel
theorem dArrs_copyOf3_10 : decode prog_25_method_120_code 10 = .ok (.goto 14, 3) := by decide +kernel
theorem dArrs_copyOf3_24 : decode prog_25_method_120_code 24 = .ok (.astore_n 3, 1) := by decide +kernel
theorem dArrs_copyOf3_25 : decode prog_25_method_120_code 25 = .ok (.aload_n 0, 1) := by decide +kernel
theorem dArrs_copyOf3_26 : decode prog_25_method_120_code 26 = .ok (.iconst 0, 1) := by decide +kernel
theorem dArrs_copyOf3_27 : decode prog_25_method_120_code 27 = .ok (.aload_n 3, 1) := by decide +kernel
theorem dArrs_copyOf3_28 : decode prog_25_method_120_code 28 = .ok (.iconst 0, 1) := by decide +kernel
theorem dArrs_copyOf3_29 : decode prog_25_method_120_code 29 = .ok (.aload_n 0, 1) := by decide +kernel
theorem dArrs_copyOf3_30 : decode prog_25_method_120_code 30 = .ok (.arraylength, 1) := by decide +kernel
theorem dArrs_copyOf3_31 : decode prog_25_method_120_code 31 = .ok (.iload_n 1, 1) := by decide +kernel
theorem dArrs_copyOf3_32 : decode prog_25_method_120_code 32 = .ok (.invokestatic 304, 3) := by decide +kernel
theorem dArrs_copyOf3_35 : decode prog_25_method_120_code 35 = .ok (.invokestatic 150, 3) := by decide +kernel
theorem dArrs_copyOf3_38 : decode prog_25_method_120_code 38 = .ok (.aload_n 3, 1) := by decide +kernel
theorem dArrs_copyOf3_39 : decode prog_25_method_120_code 39 = .ok (.areturn, 1) := by decide +kernel
abbrev rm_Arrs_copyOf3 (B : Nat) : Room := { frames := 1, cells := 1, slots := 0 + B, locals := 40 }
def f_Arrs_copyOf3 (S : hE) (g : Nat → Nat) (B : Nat) (x0 : Option Nat) (x1 : Int32) (x2 : Option Nat) (E : hE) (nx : Nat) : Option ((Option Nat) × hE × Nat) := (
  if x2 = (some (g 3)) then (
  (nQ E nx 6 x1 B).bind fun E7 =>
  (aL2 E7 S x0 6 103).bind fun v30 =>
  (cpQ E7 x0 (some nx) 6 4 0 0 (if x1 < v30 then x1 else v30)).bind fun E35 =>
  some (some nx, E35, nx + 1)
  ) else (
  none
  ))
set_option maxHeartbeats 4000000 in
set_option maxRecDepth 100000 in
theorem c_Arrs_copyOf3 {l : Launch} {D : va_G} {kA : Nat → ClassId} {S : hE} {g : Nat → Nat} {n0 nx : Nat} {B : Nat} {x0 : Option Nat} {x1 : Int32} {x2 : Option Nat} {E : hE} {res : (Option Nat) × hE × Nat} (hf : f_Arrs_copyOf3 S g B x0 x1 x2 E nx = some res) : Met l y_Arrs_copyOf3 ws_Arrs_copyOf3 (rm_Arrs_copyOf3 B) (va_Pc [va_rf x0, .int x1, va_rf x2] (hJ D kA S g n0 (E, nx))) (va_Qq (fun r w => r = res.1 ∧ w = res.2) (hJ D kA S g n0) (fun q => n0 ≤ q)) 1 (0 + B) (fun q => n0 ≤ q) := by
  refine h_met (cc := prog_25_method_120_code) (maxL := 4) (ret := (some (.array (.object "java/lang/Object")))) (lvs := [(0, va_rf x0), (1, .int x1), (2, va_rf x2)]) zZ_k (by decide) rfl (by simp [lg_sl, va_rf_cat, cat_i, cat_l, cat_n]) (by simp [lv_args, va_rf_cat, cat_i, cat_l, cat_n]) ?_
  intro p e s m below meth c ls C M hr hlk hnm hl
  have hz0 := M.z
  unfold f_Arrs_copyOf3 at hf
  refine w_aload_n C.x C.b dArrs_copyOf3_0 rfl (lv_at hl 2 rfl) ?_
  refine w_ldcM C (zZ_S C.z) (List.mem_cons_of_mem _ wm_519) dArrs_copyOf3_1 ?_
  refine lv_acmp_ne (tgt := 13) C.x C.b dArrs_copyOf3_3 (by decide) (fun c3 => ?_) (fun c3 => ?_)
  · rw [if_neg c3] at hf
    cases hf
  · rw [if_pos c3] at hf
    refine lv_iload_n C.x C.b dArrs_copyOf3_6 rfl (lv_at hl 1 rfl) ?_
    obtain ⟨E7, h7, hf⟩ := Option.bind_eq_some_iff.mp hf
    refine w_newO C M h7 (List.mem_cons_of_mem _ wm_521) (zZ_Obj C.z) rfl (by show _ ≤ 1; omega) (by show _ ≤ 0 + B; omega) dArrs_copyOf3_7 (fun H M => ?_)
    have hlast := nQ_last h7
    refine lv_goto (tgt := 24) C.x C.b dArrs_copyOf3_10 (by decide) ?_
    refine w_astore_n (lv' := [(3, va_rf (some nx)), (0, va_rf x0), (1, .int x1), (2, va_rf x2)]) C.x C.b dArrs_copyOf3_24 rfl hl (by decide) (by simp only [List.filter, va_rf_cat] <;> rfl) (fun ls hl => ?_)
    refine w_aload_n C.x C.b dArrs_copyOf3_25 rfl (lv_at hl 1 rfl) ?_
    refine lv_iconst (v := 0) C.x C.b dArrs_copyOf3_26 (by decide) ?_
    refine w_aload_n C.x C.b dArrs_copyOf3_27 rfl (lv_at hl 0 rfl) ?_
    refine lv_iconst (v := 0) C.x C.b dArrs_copyOf3_28 (by decide) ?_
    refine w_aload_n C.x C.b dArrs_copyOf3_29 rfl (lv_at hl 1 rfl) ?_
    obtain ⟨v30, h30, hf⟩ := Option.bind_eq_some_iff.mp hf
    refine w_aL2 C M (zZ_S C.z) h30 rfl dArrs_copyOf3_30 ?_
    refine lv_iload_n C.x C.b dArrs_copyOf3_31 rfl (lv_at hl 2 rfl) ?_
    refine va_mmin C.x C.b (C.ml.trans hl.1.symm) C.ow (C.ts (.methodLink R_Arrs 304 Lib.Math.min.name) (List.mem_cons_of_mem _ wm_522)) (C.ts (.static Lib.Math.min.name) (List.mem_cons_of_mem _ wm_395)) (C.ts (.initialized "java/lang/Math") (List.mem_cons_of_mem _ wm_16)) (C.ts (.code Lib.Math.min.name Lib.Math.min.code 2 (some .int)) (List.mem_cons_of_mem _ wm_396)) (Nat.le_of_ble_eq_true rfl) (by simp [va_rf_cat, cat_i, cat_l, cat_n]) (by show _ ≤ 1; omega) (by show _ ≤ 0 + B; omega) dArrs_copyOf3_32 ?_
    obtain ⟨E35, h35, hf⟩ := Option.bind_eq_some_iff.mp hf
    refine w_acopyQ C M h35 rfl rfl (vb_asgC (zZ_co C.z)) hl.1 (List.mem_cons_of_mem _ wm_523) (List.mem_cons_of_mem _ wm_525) (List.mem_cons_of_mem _ wm_524) (List.mem_cons_of_mem _ wm_20) (by omega) (Or.inr ⟨_, hlast⟩) (Nat.le_of_ble_eq_true rfl) (Nat.le_of_ble_eq_true rfl) dArrs_copyOf3_35 (fun H locs M => ?_)
    refine w_aload_n C.x C.b dArrs_copyOf3_38 rfl (lv_at hl 0 rfl) ?_
    cases hf
    exact w_aret C M hr (Or.inr ⟨_, rfl⟩) hlk (by omega) (by omega) dArrs_copyOf3_39 rfl rfl
theorem dArrs_copyOf2_0 : decode prog_25_method_119_code 0 = .ok (.aload_n 0, 1) := by decide +kernel
theorem dArrs_copyOf2_1 : decode prog_25_method_119_code 1 = .ok (.iload_n 1, 1) := by decide +kernel
theorem dArrs_copyOf2_2 : decode prog_25_method_119_code 2 = .ok (.aload_n 0, 1) := by decide +kernel
theorem dArrs_copyOf2_3 : decode prog_25_method_119_code 3 = .ok (.invokevirtual 86, 3) := by decide +kernel
theorem dArrs_copyOf2_6 : decode prog_25_method_119_code 6 = .ok (.invokestatic 300, 3) := by decide +kernel
theorem dArrs_copyOf2_9 : decode prog_25_method_119_code 9 = .ok (.areturn, 1) := by decide +kernel
abbrev rm_Arrs_copyOf2 (B : Nat) : Room := { frames := 2, cells := 1, slots := 0 + B, locals := 63 }
def f_Arrs_copyOf2 (S : hE) (g : Nat → Nat) (B : Nat) (x0 : Option Nat) (x1 : Int32) (E : hE) (nx : Nat) : Option ((Option Nat) × hE × Nat) := (
  (gA E x0 6).bind fun o3 =>
  (f_Arrs_copyOf3 S g B x0 x1 (some (g 3)) E nx).bind fun v6 =>
  some (v6.1, v6.2.1, v6.2.2))
set_option maxHeartbeats 4000000 in
set_option maxRecDepth 100000 in
theorem c_Arrs_copyOf2 {l : Launch} {D : va_G} {kA : Nat → ClassId} {S : hE} {g : Nat → Nat} {n0 nx : Nat} {B : Nat} {x0 : Option Nat} {x1 : Int32} {E : hE} {res : (Option Nat) × hE × Nat} (hf : f_Arrs_copyOf2 S g B x0 x1 E nx = some res) : Met l y_Arrs_copyOf2 ws_Arrs_copyOf2 (rm_Arrs_copyOf2 B) (va_Pc [va_rf x0, .int x1] (hJ D kA S g n0 (E, nx))) (va_Qq (fun r w => r = res.1 ∧ w = res.2) (hJ D kA S g n0) (fun q => n0 ≤ q)) 1 (0 + B) (fun q => n0 ≤ q) := by
  refine h_met (cc := prog_25_method_119_code) (maxL := 2) (ret := (some (.array (.object "java/lang/Object")))) (lvs := [(0, va_rf x0), (1, .int x1)]) zZ_k (by decide) rfl (by simp [lg_sl, va_rf_cat, cat_i, cat_l, cat_n]) (by simp [lv_args, va_rf_cat, cat_i, cat_l, cat_n]) ?_
  intro p e s m below meth c ls C M hr hlk hnm hl
  unfold f_Arrs_copyOf2 at hf
  refine w_aload_n C.x C.b dArrs_copyOf2_0 rfl (lv_at hl 0 rfl) ?_
  refine lv_iload_n C.x C.b dArrs_copyOf2_1 rfl (lv_at hl 1 rfl) ?_
  refine w_aload_n C.x C.b dArrs_copyOf2_2 rfl (lv_at hl 0 rfl) ?_
  obtain ⟨o3, h3, hf⟩ := Option.bind_eq_some_iff.mp hf
  refine w_getC C M (zZ_S C.z) h3 rfl hl.1 (List.mem_cons_of_mem _ wm_502) (List.mem_cons_of_mem _ wm_1055) (List.mem_cons_of_mem _ wm_503) (List.mem_cons_of_mem _ wm_515) (Nat.le_of_ble_eq_true rfl) (by simp [va_rf_cat, cat_i, cat_l, cat_n]) dArrs_copyOf2_3 ?_
  obtain ⟨v6, h6, hf⟩ := Option.bind_eq_some_iff.mp hf
  refine w_cq M (w_runS C M (c_Arrs_copyOf3 h6) (cwS 3 C.ts (hgS wm_516 wm_517 wm_11 wm_518) rfl rfl rfl (by decide +kernel) ⟨Nat.le_of_ble_eq_true rfl, Nat.le_of_ble_eq_true rfl⟩) rfl hl.1 rfl (Nat.zero_le _) dArrs_copyOf2_6 ⟨by show _ ≤ 1; omega, by show _ ≤ 0 + B; omega⟩) (fun H locs M => ?_)
  cases hf
  exact w_aret C M hr (Or.inr ⟨_, rfl⟩) hlk (by omega) (by omega) dArrs_copyOf2_9 rfl rfl
theorem dAL_grow1_0 : decode prog_24_method_6_code 0 = .ok (.aload_n 0, 1) := by decide +kernel
theorem dAL_grow1_1 : decode prog_24_method_6_code 1 = .ok (.getfield 9, 3) := by decide +kernel
theorem dAL_grow1_4 : decode prog_24_method_6_code 4 = .ok (.arraylength, 1) := by decide +kernel
theorem dAL_grow1_5 : decode prog_24_method_6_code 5 = .ok (.istore_n 2, 1) := by decide +kernel
theorem dAL_grow1_6 : decode prog_24_method_6_code 6 = .ok (.iload_n 2, 1) := by decide +kernel
theorem dAL_grow1_7 : decode prog_24_method_6_code 7 = .ok (.ifCond .gt 13, 3) := by decide +kernel
theorem dAL_grow1_10 : decode prog_24_method_6_code 10 = .ok (.aload_n 0, 1) := by decide +kernel
theorem dAL_grow1_11 : decode prog_24_method_6_code 11 = .ok (.getfield 9, 3) := by decide +kernel
theorem dAL_grow1_14 : decode prog_24_method_6_code 14 = .ok (.getstatic 39, 3) := by decide +kernel
theorem dAL_grow1_17 : decode prog_24_method_6_code 17 = .ok (.if_acmp .eq 28, 3) := by decide +kernel
theorem dAL_grow1_20 : decode prog_24_method_6_code 20 = .ok (.iload_n 2, 1) := by decide +kernel
theorem dAL_grow1_21 : decode prog_24_method_6_code 21 = .ok (.iload_n 1, 1) := by decide +kernel
theorem dAL_grow1_22 : decode prog_24_method_6_code 22 = .ok (.iload_n 2, 1) := by decide +kernel
theorem dAL_grow1_23 : decode prog_24_method_6_code 23 = .ok (.isub, 1) := by decide +kernel
theorem dAL_grow1_24 : decode prog_24_method_6_code 24 = .ok (.iload_n 2, 1) := by decide +kernel
theorem dAL_grow1_25 : decode prog_24_method_6_code 25 = .ok (.iconst 1, 1) := by decide +kernel
theorem dAL_grow1_26 : decode prog_24_method_6_code 26 = .ok (.ishr, 1) := by decide +kernel
theorem dAL_grow1_27 : decode prog_24_method_6_code 27 = .ok (.invokestatic 73, 3) := by decide +kernel
theorem dAL_grow1_30 : decode prog_24_method_6_code 30 = .ok (.istore_n 3, 1) := by decide +kernel
theorem dAL_grow1_31 : decode prog_24_method_6_code 31 = .ok (.aload_n 0, 1) := by decide +kernel
theorem dAL_grow1_32 : decode prog_24_method_6_code 32 = .ok (.aload_n 0, 1) := by decide +kernel
theorem dAL_grow1_33 : decode prog_24_method_6_code 33 = .ok (.getfield 9, 3) := by decide +kernel
theorem dAL_grow1_36 : decode prog_24_method_6_code 36 = .ok (.iload_n 3, 1) := by decide +kernel
theorem dAL_grow1_37 : decode prog_24_method_6_code 37 = .ok (.invokestatic 66, 3) := by decide +kernel
theorem dAL_grow1_40 : decode prog_24_method_6_code 40 = .ok (.dup_x1, 1) := by decide +kernel
theorem dAL_grow1_41 : decode prog_24_method_6_code 41 = .ok (.putfield 9, 3) := by decide +kernel
theorem dAL_grow1_44 : decode prog_24_method_6_code 44 = .ok (.areturn, 1) := by decide +kernel
theorem dAL_grow1_45 : decode prog_24_method_6_code 45 = .ok (.aload_n 0, 1) := by decide +kernel
theorem dAL_grow1_46 : decode prog_24_method_6_code 46 = .ok (.bipush 10, 2) := by decide +kernel
theorem dAL_grow1_48 : decode prog_24_method_6_code 48 = .ok (.iload_n 1, 1) := by decide +kernel
theorem dAL_grow1_49 : decode prog_24_method_6_code 49 = .ok (.invokestatic 79, 3) := by decide +kernel
theorem dAL_grow1_52 : decode prog_24_method_6_code 52 = .ok (.anewarray 7, 3) := by decide +kernel
theorem dAL_grow1_55 : decode prog_24_method_6_code 55 = .ok (.dup_x1, 1) := by decide +kernel
theorem dAL_grow1_56 : decode prog_24_method_6_code 56 = .ok (.putfield 9, 3) := by decide +kernel
theorem dAL_grow1_59 : decode prog_24_method_6_code 59 = .ok (.areturn, 1) := by decide +kernel
abbrev rm_AL_grow1 (B : Nat) : Room := { frames := 3, cells := 1, slots := 0 + B, locals := 84 }
def f_AL_grow1_b20 (S : hE) (g : Nat → Nat) (B : Nat) (y0 : Option Nat) (y1 : Int32) (y2 : Int32) (E : hE) (nx : Nat) : Option ((Option Nat) × hE × Nat) := (
  (f_AS_newLength E y2 (y1 - y2) (y2 >>> (1 &&& 31))).bind fun v27 =>
  (gR E y0 8 0).bind fun v33 =>
  (f_Arrs_copyOf2 S g B v33 v27 E nx).bind fun v37 =>
  (sR v37.2.1 y0 8 0 v37.1).bind fun E41 =>
  some (v37.1, E41, v37.2.2))
set_option maxHeartbeats 4000000 in
set_option maxRecDepth 100000 in
theorem b_AL_grow1_20 {p : Program} {l : Launch} {e : Env} {s : State} {m : MethodId} {args : Array Value} {below : List Frame} {meth : Method} {c : Code} {D : va_G} {kA : Nat → ClassId} {S : hE} {g : Nat → Nat} {n0 : Nat} {B : Nat} {res : (Option Nat) × hE × Nat} (C : hX p s m args c prog_24_method_6_code 4 R_AL ws_AL_grow1 D kA S g n0) (hr : meth.sig.returnType = (some (.array (.object "java/lang/Object")))) (hlk : meth.locks = false) (hnm : meth.name = "grow") : ∀ (y0 : Option Nat) (y1 : Int32) (y2 : Int32) (E : hE) (nx : Nat) (H : Heap) (locs : List Loc) (ls : Array Slot) (cells slots : Nat), hY D kA n0 s E nx H locs → lv_has ls 4 [(0, va_rf y0), (1, .int y1), (2, .int y2)] → cells + 1 ≤ 1 → slots + (0 + B) ≤ 0 + B → f_AL_grow1_b20 S g B  y0 y1 y2 E nx = some res → W p l e (rm_AL_grow1 B) s m args below meth c H locs cells slots (MQ below (va_Qq (fun r w => r = res.1 ∧ w = res.2) (hJ D kA S g n0) (fun q => n0 ≤ q)) args s 1 (0 + B) (fun q => n0 ≤ q)) (F0 m 20 ls []) := by
  intro y0 y1 y2 E nx H locs ls cells slots M hl hcb hsb hf
  unfold f_AL_grow1_b20 at hf
  refine lv_iload_n C.x C.b dAL_grow1_20 rfl (lv_at hl 2 rfl) ?_
  refine lv_iload_n C.x C.b dAL_grow1_21 rfl (lv_at hl 1 rfl) ?_
  refine lv_iload_n C.x C.b dAL_grow1_22 rfl (lv_at hl 2 rfl) ?_
  refine lv_isub C.x C.b dAL_grow1_23 ?_
  refine lv_iload_n C.x C.b dAL_grow1_24 rfl (lv_at hl 2 rfl) ?_
  refine lv_iconst (v := 1) C.x C.b dAL_grow1_25 (by decide) ?_
  refine lv_ishr C.x C.b dAL_grow1_26 ?_
  obtain ⟨v27, h27, hf⟩ := Option.bind_eq_some_iff.mp hf
  refine w_ci M (w_runS C M (c_AS_newLength h27) (va_cwS 3 C.ts (hgT wm_491 wm_492 wm_19 wm_493) rfl rfl rfl (by decide +kernel) ⟨Nat.le_of_ble_eq_true rfl, Nat.le_of_ble_eq_true rfl⟩) rfl hl.1 rfl (Nat.zero_le _) dAL_grow1_27 ⟨by show _ ≤ 1; omega, by show _ ≤ 0 + B; omega⟩) (fun H locs M => ?_)
  refine lv_istore_n (lv' := [(3, .int v27), (0, va_rf y0), (1, .int y1), (2, .int y2)]) C.x C.b dAL_grow1_30 rfl hl (by decide) rfl (fun ls hl => ?_)
  refine w_aload_n C.x C.b dAL_grow1_31 rfl (lv_at hl 1 rfl) ?_
  refine w_aload_n C.x C.b dAL_grow1_32 rfl (lv_at hl 1 rfl) ?_
  obtain ⟨v33, h33, hf⟩ := Option.bind_eq_some_iff.mp hf
  refine w_getR C M h33 rfl (hm_in in_AL) (by decide) (List.mem_cons_of_mem _ wm_235) rfl dAL_grow1_33 ?_
  refine lv_iload_n C.x C.b dAL_grow1_36 rfl (lv_at hl 0 rfl) ?_
  obtain ⟨v37, h37, hf⟩ := Option.bind_eq_some_iff.mp hf
  refine w_cq M (w_runS C M (c_Arrs_copyOf2 h37) (va_cwS 2 C.ts (hgT wm_499 wm_500 wm_11 wm_501) rfl rfl rfl (by decide +kernel) ⟨Nat.le_of_ble_eq_true rfl, Nat.le_of_ble_eq_true rfl⟩) rfl hl.1 rfl (by simp [va_rf_cat, cat_i, cat_l, cat_n]) dAL_grow1_37 ⟨by show _ ≤ 1; omega, by show _ ≤ 0 + B; omega⟩) (fun H locs M => ?_)
  refine lv_dup_x1 C.x C.b dAL_grow1_40 (va_rf_cat _) (va_rf_cat _) ?_
  obtain ⟨E41, h41, hf⟩ := Option.bind_eq_some_iff.mp hf
  refine w_putV (ty := (.array (.object "java/lang/Object"))) C M ty_AL h41 rfl (hm_in in_AL) tyok_AL nm_AL (by decide) (List.mem_cons_of_mem _ wm_235) rfl rfl (by decide +kernel) (narrow_a _ _) (fits_a _ _) dAL_grow1_41 (fun H locs M => ?_)
  cases hf
  exact w_aret C M hr (Or.inr ⟨_, rfl⟩) hlk (by omega) (by omega) dAL_grow1_44 rfl rfl
def f_AL_grow1 (S : hE) (g : Nat → Nat) (B : Nat) (x0 : Nat) (x1 : Int32) (E : hE) (nx : Nat) : Option ((Option Nat) × hE × Nat) := (
  (gR E (some x0) 8 0).bind fun v1 =>
  (aL2 E S v1 6 103).bind fun v4 =>
  if 0 < v4 then (
  f_AL_grow1_b20 S g B (some x0) x1 v4 E nx
  ) else (
  (gR E (some x0) 8 0).bind fun v11 =>
  if v11 = (some (g 0)) then (
  (nQ E nx 6 (if 10 < x1 then x1 else 10) B).bind fun E52 =>
  (sR E52 (some x0) 8 0 (some nx)).bind fun E56 =>
  some (some nx, E56, nx + 1)
  ) else (
  f_AL_grow1_b20 S g B (some x0) x1 v4 E nx
  )
  ))
set_option maxHeartbeats 4000000 in
set_option maxRecDepth 100000 in
theorem c_AL_grow1 {l : Launch} {D : va_G} {kA : Nat → ClassId} {S : hE} {g : Nat → Nat} {n0 nx : Nat} {B : Nat} {x0 : Nat} {x1 : Int32} {E : hE} {res : (Option Nat) × hE × Nat} (hf : f_AL_grow1 S g B x0 x1 E nx = some res) : Met l y_AL_grow1 ws_AL_grow1 (rm_AL_grow1 B) (va_Pc [va_rf (some x0), .int x1] (hJ D kA S g n0 (E, nx))) (va_Qq (fun r w => r = res.1 ∧ w = res.2) (hJ D kA S g n0) (fun q => n0 ≤ q)) 1 (0 + B) (fun q => n0 ≤ q) := by
  refine h_met (cc := prog_24_method_6_code) (maxL := 4) (ret := (some (.array (.object "java/lang/Object")))) (lvs := [(0, va_rf (some x0)), (1, .int x1)]) zZ_k (by decide) rfl (by simp [lg_sl, va_rf_cat, cat_i, cat_l, cat_n]) (by simp [lv_args, va_rf_cat, cat_i, cat_l, cat_n]) ?_
  intro p e s m below meth c ls C M hr hlk hnm hl
  unfold f_AL_grow1 at hf
  refine w_aload_n C.x C.b dAL_grow1_0 rfl (lv_at hl 0 rfl) ?_
  obtain ⟨v1, h1, hf⟩ := Option.bind_eq_some_iff.mp hf
  refine w_getR C M h1 rfl (hm_in in_AL) (by decide) (List.mem_cons_of_mem _ wm_235) rfl dAL_grow1_1 ?_
  obtain ⟨v4, h4, hf⟩ := Option.bind_eq_some_iff.mp hf
  refine w_aL2 C M (zZ_S C.z) h4 rfl dAL_grow1_4 ?_
  refine lv_istore_n (lv' := [(2, .int v4), (0, va_rf (some x0)), (1, .int x1)]) C.x C.b dAL_grow1_5 rfl hl (by decide) rfl (fun ls hl => ?_)
  refine lv_iload_n C.x C.b dAL_grow1_6 rfl (lv_at hl 0 rfl) ?_
  refine lv_if_gt (tgt := 20) C.x C.b dAL_grow1_7 (by decide) (fun c7 => ?_) (fun c7 => ?_)
  · rw [if_pos c7] at hf
    exact b_AL_grow1_20 C hr hlk hnm _ _ _ _ _ _ _ _ _ _ M (lv_sub hl [1, 2, 0] rfl) (by omega) (by omega) hf
  · rw [if_neg c7] at hf
    refine w_aload_n C.x C.b dAL_grow1_10 rfl (lv_at hl 1 rfl) ?_
    obtain ⟨v11, h11, hf⟩ := Option.bind_eq_some_iff.mp hf
    refine w_getR C M h11 rfl (hm_in in_AL) (by decide) (List.mem_cons_of_mem _ wm_235) rfl dAL_grow1_11 ?_
    refine w_gets C M (zZ_S C.z) (i := 0) (by decide) (List.mem_cons_of_mem _ wm_233) rfl dAL_grow1_14 ?_
    refine lv_acmp_eq (tgt := 45) C.x C.b dAL_grow1_17 (by decide) (fun c17 => ?_) (fun c17 => ?_)
    · rw [if_pos c17] at hf
      refine w_aload_n C.x C.b dAL_grow1_45 rfl (lv_at hl 1 rfl) ?_
      refine lv_bipush (v := 10) C.x C.b dAL_grow1_46 (by decide) ?_
      refine lv_iload_n C.x C.b dAL_grow1_48 rfl (lv_at hl 2 rfl) ?_
      refine va_mmax C.x C.b (C.ml.trans hl.1.symm) C.ow (C.ts (.methodLink R_AL 79 Lib.Math.max.name) (List.mem_cons_of_mem _ wm_526)) (C.ts (.static Lib.Math.max.name) (List.mem_cons_of_mem _ wm_392)) (C.ts (.initialized "java/lang/Math") (List.mem_cons_of_mem _ wm_16)) (C.ts (.code Lib.Math.max.name Lib.Math.max.code 2 (some .int)) (List.mem_cons_of_mem _ wm_393)) (Nat.le_of_ble_eq_true rfl) (by simp [va_rf_cat, cat_i, cat_l, cat_n]) (by show _ ≤ 1; omega) (by show _ ≤ 0 + B; omega) dAL_grow1_49 ?_
      obtain ⟨E52, h52, hf⟩ := Option.bind_eq_some_iff.mp hf
      refine w_newO C M h52 (List.mem_cons_of_mem _ wm_527) (zZ_Obj C.z) rfl (by show _ ≤ 1; omega) (by show _ ≤ 0 + B; omega) dAL_grow1_52 (fun H M => ?_)
      refine lv_dup_x1 C.x C.b dAL_grow1_55 (va_rf_cat _) (va_rf_cat _) ?_
      obtain ⟨E56, h56, hf⟩ := Option.bind_eq_some_iff.mp hf
      refine w_putV (ty := (.array (.object "java/lang/Object"))) C M ty_AL h56 rfl (hm_in in_AL) tyok_AL nm_AL (by decide) (List.mem_cons_of_mem _ wm_235) rfl rfl (by decide +kernel) (narrow_a _ _) (fits_a _ _) dAL_grow1_56 (fun H locs M => ?_)
      cases hf
      exact w_aret C M hr (Or.inr ⟨_, rfl⟩) hlk (by omega) (by omega) dAL_grow1_59 rfl rfl
    · rw [if_neg c17] at hf
      exact b_AL_grow1_20 C hr hlk hnm _ _ _ _ _ _ _ _ _ _ M (lv_sub hl [1, 2, 0] rfl) (by omega) (by omega) hf
theorem dAL_grow0_0 : decode prog_24_method_7_code 0 = .ok (.aload_n 0, 1) := by decide +kernel
theorem dAL_grow0_1 : decode prog_24_method_7_code 1 = .ok (.aload_n 0, 1) := by decide +kernel
theorem dAL_grow0_2 : decode prog_24_method_7_code 2 = .ok (.getfield 48, 3) := by decide +kernel
theorem dAL_grow0_5 : decode prog_24_method_7_code 5 = .ok (.iconst 1, 1) := by decide +kernel
theorem dAL_grow0_6 : decode prog_24_method_7_code 6 = .ok (.iadd, 1) := by decide +kernel
theorem dAL_grow0_7 : decode prog_24_method_7_code 7 = .ok (.invokevirtual 69, 3) := by decide +kernel
theorem dAL_grow0_10 : decode prog_24_method_7_code 10 = .ok (.areturn, 1) := by decide +kernel
abbrev rm_AL_grow0 (B : Nat) : Room := { frames := 4, cells := 1, slots := 0 + B, locals := 107 }
def f_AL_grow0 (S : hE) (g : Nat → Nat) (B : Nat) (x0 : Nat) (E : hE) (nx : Nat) : Option ((Option Nat) × hE × Nat) := (
  (gI E (some x0) 8 1).bind fun v2 =>
  (gO E (some x0) 8).bind fun o7 =>
  (f_AL_grow1 S g B o7.1 (v2 + 1) E nx).bind fun v7 =>
  some (v7.1, v7.2.1, v7.2.2))
set_option maxHeartbeats 4000000 in
set_option maxRecDepth 100000 in
theorem c_AL_grow0 {l : Launch} {D : va_G} {kA : Nat → ClassId} {S : hE} {g : Nat → Nat} {n0 nx : Nat} {B : Nat} {x0 : Nat} {E : hE} {res : (Option Nat) × hE × Nat} (hf : f_AL_grow0 S g B x0 E nx = some res) : Met l y_AL_grow0 ws_AL_grow0 (rm_AL_grow0 B) (va_Pc [va_rf (some x0)] (hJ D kA S g n0 (E, nx))) (va_Qq (fun r w => r = res.1 ∧ w = res.2) (hJ D kA S g n0) (fun q => n0 ≤ q)) 1 (0 + B) (fun q => n0 ≤ q) := by
  refine h_met (cc := prog_24_method_7_code) (maxL := 1) (ret := (some (.array (.object "java/lang/Object")))) (lvs := [(0, va_rf (some x0))]) zZ_k (by decide) rfl (by simp [lg_sl, va_rf_cat, cat_i, cat_l, cat_n]) (by simp [lv_args, va_rf_cat, cat_i, cat_l, cat_n]) ?_
  intro p e s m below meth c ls C M hr hlk hnm hl
  unfold f_AL_grow0 at hf
  refine w_aload_n C.x C.b dAL_grow0_0 rfl (lv_at hl 0 rfl) ?_
  refine w_aload_n C.x C.b dAL_grow0_1 rfl (lv_at hl 0 rfl) ?_
  obtain ⟨v2, h2, hf⟩ := Option.bind_eq_some_iff.mp hf
  refine w_getI C M h2 rfl (hm_in in_AL) (by decide) (List.mem_cons_of_mem _ wm_236) rfl dAL_grow0_2 ?_
  refine lv_iconst (v := 1) C.x C.b dAL_grow0_5 (by decide) ?_
  refine lv_iadd C.x C.b dAL_grow0_6 ?_
  obtain ⟨o7, g7, hf⟩ := Option.bind_eq_some_iff.mp hf
  obtain ⟨v7, h7, hf⟩ := Option.bind_eq_some_iff.mp hf
  refine w_cq M (w_runV C M g7 rfl (c_AL_grow1 h7) (cwV 1 C.ts (hgV wm_487 wm_489 sel_AL_grow1 wm_10 wm_490) rfl rfl rfl (by decide +kernel) ⟨Nat.le_of_ble_eq_true rfl, Nat.le_of_ble_eq_true rfl⟩) rfl hl.1 rfl (Nat.zero_le _) dAL_grow0_7 ⟨by show _ ≤ 1; omega, by show _ ≤ 0 + B; omega⟩) (fun H locs M => ?_)
  cases hf
  exact w_aret C M hr (Or.inr ⟨_, rfl⟩) hlk (by omega) (by omega) dAL_grow0_10 rfl rfl
theorem dAL_add3_0 : decode prog_24_method_24_code 0 = .ok (.iload_n 3, 1) := by decide +kernel
theorem dAL_add3_1 : decode prog_24_method_24_code 1 = .ok (.aload_n 2, 1) := by decide +kernel
theorem dAL_add3_2 : decode prog_24_method_24_code 2 = .ok (.arraylength, 1) := by decide +kernel
theorem dAL_add3_3 : decode prog_24_method_24_code 3 = .ok (.if_icmp .ne 8, 3) := by decide +kernel
theorem dAL_add3_6 : decode prog_24_method_24_code 6 = .ok (.aload_n 0, 1) := by decide +kernel
theorem dAL_add3_7 : decode prog_24_method_24_code 7 = .ok (.invokevirtual 129, 3) := by decide +kernel
theorem dAL_add3_10 : decode prog_24_method_24_code 10 = .ok (.astore_n 2, 1) := by decide +kernel
theorem dAL_add3_11 : decode prog_24_method_24_code 11 = .ok (.aload_n 2, 1) := by decide +kernel
theorem dAL_add3_12 : decode prog_24_method_24_code 12 = .ok (.iload_n 3, 1) := by decide +kernel
theorem dAL_add3_13 : decode prog_24_method_24_code 13 = .ok (.aload_n 1, 1) := by decide +kernel
theorem dAL_add3_14 : decode prog_24_method_24_code 14 = .ok (.aastore, 1) := by decide +kernel
theorem dAL_add3_15 : decode prog_24_method_24_code 15 = .ok (.aload_n 0, 1) := by decide +kernel
theorem dAL_add3_16 : decode prog_24_method_24_code 16 = .ok (.iload_n 3, 1) := by decide +kernel
theorem dAL_add3_17 : decode prog_24_method_24_code 17 = .ok (.iconst 1, 1) := by decide +kernel
theorem dAL_add3_18 : decode prog_24_method_24_code 18 = .ok (.iadd, 1) := by decide +kernel
theorem dAL_add3_19 : decode prog_24_method_24_code 19 = .ok (.putfield 48, 3) := by decide +kernel
theorem dAL_add3_22 : decode prog_24_method_24_code 22 = .ok (.return_, 1) := by decide +kernel
abbrev rm_AL_add3 (B : Nat) : Room := { frames := 5, cells := 1, slots := 0 + B, locals := 127 }
def f_AL_add3_b11 (S : hE) (g : Nat → Nat) (B : Nat) (y0 : Option Nat) (y1 : Option Nat) (y2 : Option Nat) (y3 : Int32) (E : hE) (nx : Nat) : Option (hE × Nat) := (
  (tQ E y2 6 y3 y1 4).bind fun E14 =>
  (sI E14 y0 8 1 (y3 + 1)).bind fun E19 =>
  some (E19, nx))
set_option maxHeartbeats 4000000 in
set_option maxRecDepth 100000 in
theorem b_AL_add3_11 {p : Program} {l : Launch} {e : Env} {s : State} {m : MethodId} {args : Array Value} {below : List Frame} {meth : Method} {c : Code} {D : va_G} {kA : Nat → ClassId} {S : hE} {g : Nat → Nat} {n0 : Nat} {B : Nat} {res : hE × Nat} (C : hX p s m args c prog_24_method_24_code 4 R_AL ws_AL_add3 D kA S g n0) (hr : meth.sig.returnType = none) (hlk : meth.locks = false) (hnm : meth.name = "add") : ∀ (y0 : Option Nat) (y1 : Option Nat) (y2 : Option Nat) (y3 : Int32) (E : hE) (nx : Nat) (H : Heap) (locs : List Loc) (ls : Array Slot) (cells slots : Nat), hY D kA n0 s E nx H locs → lv_has ls 4 [(0, va_rf y0), (1, va_rf y1), (2, va_rf y2), (3, .int y3)] → cells + 0 ≤ 1 → slots + 0 ≤ 0 + B → f_AL_add3_b11 S g B  y0 y1 y2 y3 E nx = some res → W p l e (rm_AL_add3 B) s m args below meth c H locs cells slots (MQ below (va_Qv (fun w => w = res) (hJ D kA S g n0) (fun q => n0 ≤ q)) args s 1 (0 + B) (fun q => n0 ≤ q)) (F0 m 11 ls []) := by
  intro y0 y1 y2 y3 E nx H locs ls cells slots M hl hcb hsb hf
  unfold f_AL_add3_b11 at hf
  refine w_aload_n C.x C.b dAL_add3_11 rfl (lv_at hl 2 rfl) ?_
  refine lv_iload_n C.x C.b dAL_add3_12 rfl (lv_at hl 3 rfl) ?_
  refine w_aload_n C.x C.b dAL_add3_13 rfl (lv_at hl 1 rfl) ?_
  obtain ⟨E14, h14, hf⟩ := Option.bind_eq_some_iff.mp hf
  refine w_aast C M h14 rfl rfl (vb_asgC (zZ_co C.z)) dAL_add3_14 (fun H locs M => ?_)
  refine w_aload_n C.x C.b dAL_add3_15 rfl (lv_at hl 0 rfl) ?_
  refine lv_iload_n C.x C.b dAL_add3_16 rfl (lv_at hl 3 rfl) ?_
  refine lv_iconst (v := 1) C.x C.b dAL_add3_17 (by decide) ?_
  refine lv_iadd C.x C.b dAL_add3_18 ?_
  obtain ⟨E19, h19, hf⟩ := Option.bind_eq_some_iff.mp hf
  refine w_putV (ty := .int) C M ty_AL h19 rfl (hm_in in_AL) tyok_AL nm_AL (by decide) (List.mem_cons_of_mem _ wm_236) rfl rfl (by decide +kernel) rfl rfl dAL_add3_19 (fun H locs M => ?_)
  cases hf
  exact w_vret C M hr hlk (by omega) (by omega) dAL_add3_22 rfl
def f_AL_add3 (S : hE) (g : Nat → Nat) (B : Nat) (x0 : Nat) (x1 : Option Nat) (x2 : Option Nat) (x3 : Int32) (E : hE) (nx : Nat) : Option (hE × Nat) := (
  (aL2 E S x2 6 103).bind fun v2 =>
  if x3 = v2 then (
  (gO E (some x0) 8).bind fun o7 =>
  (f_AL_grow0 S g B o7.1 E nx).bind fun v7 =>
  f_AL_add3_b11 S g B (some x0) x1 v7.1 x3 v7.2.1 v7.2.2
  ) else (
  f_AL_add3_b11 S g B (some x0) x1 x2 x3 E nx
  ))
set_option maxHeartbeats 4000000 in
set_option maxRecDepth 100000 in
theorem c_AL_add3 {l : Launch} {D : va_G} {kA : Nat → ClassId} {S : hE} {g : Nat → Nat} {n0 nx : Nat} {B : Nat} {x0 : Nat} {x1 : Option Nat} {x2 : Option Nat} {x3 : Int32} {E : hE} {res : hE × Nat} (hf : f_AL_add3 S g B x0 x1 x2 x3 E nx = some res) : Met l y_AL_add3 ws_AL_add3 (rm_AL_add3 B) (va_Pc [va_rf (some x0), va_rf x1, va_rf x2, .int x3] (hJ D kA S g n0 (E, nx))) (va_Qv (fun w => w = res) (hJ D kA S g n0) (fun q => n0 ≤ q)) 1 (0 + B) (fun q => n0 ≤ q) := by
  refine h_met (cc := prog_24_method_24_code) (maxL := 4) (ret := none) (lvs := [(0, va_rf (some x0)), (1, va_rf x1), (2, va_rf x2), (3, .int x3)]) zZ_k (by decide) rfl (by simp [lg_sl, va_rf_cat, cat_i, cat_l, cat_n]) (by simp [lv_args, va_rf_cat, cat_i, cat_l, cat_n]) ?_
  intro p e s m below meth c ls C M hr hlk hnm hl
  unfold f_AL_add3 at hf
  refine lv_iload_n C.x C.b dAL_add3_0 rfl (lv_at hl 3 rfl) ?_
  refine w_aload_n C.x C.b dAL_add3_1 rfl (lv_at hl 2 rfl) ?_
  obtain ⟨v2, h2, hf⟩ := Option.bind_eq_some_iff.mp hf
  refine w_aL2 C M (zZ_S C.z) h2 rfl dAL_add3_2 ?_
  refine lv_icmp_ne (tgt := 11) C.x C.b dAL_add3_3 (by decide) (fun c3 => ?_) (fun c3 => ?_)
  · rw [if_neg c3] at hf
    exact b_AL_add3_11 C hr hlk hnm _ _ _ _ _ _ _ _ _ _ _ M (lv_sub hl [0, 1, 2, 3] rfl) (by omega) (by omega) hf
  · rw [if_pos c3] at hf
    refine w_aload_n C.x C.b dAL_add3_6 rfl (lv_at hl 0 rfl) ?_
    obtain ⟨o7, g7, hf⟩ := Option.bind_eq_some_iff.mp hf
    obtain ⟨v7, h7, hf⟩ := Option.bind_eq_some_iff.mp hf
    refine w_cq M (w_runV C M g7 rfl (c_AL_grow0 h7) (cwV 0 C.ts (hgV wm_483 wm_485 sel_AL_grow0 wm_10 wm_486) rfl rfl rfl (by decide +kernel) ⟨Nat.le_of_ble_eq_true rfl, Nat.le_of_ble_eq_true rfl⟩) rfl hl.1 rfl (Nat.zero_le _) dAL_add3_7 ⟨by show _ ≤ 1; omega, by show _ ≤ 0 + B; omega⟩) (fun H locs M => ?_)
    refine w_astore_n (lv' := [(2, va_rf v7.1), (0, va_rf (some x0)), (1, va_rf x1), (3, .int x3)]) C.x C.b dAL_add3_10 rfl hl (by decide) (by simp only [List.filter, va_rf_cat] <;> rfl) (fun ls hl => ?_)
    exact b_AL_add3_11 C hr hlk hnm _ _ _ _ _ _ _ _ _ _ _ M (lv_sub hl [1, 2, 0, 3] rfl) (by omega) (by omega) hf
theorem dAL_add1_0 : decode prog_24_method_25_code 0 = .ok (.aload_n 0, 1) := by decide +kernel
theorem dAL_add1_1 : decode prog_24_method_25_code 1 = .ok (.dup, 1) := by decide +kernel
theorem dAL_add1_2 : decode prog_24_method_25_code 2 = .ok (.getfield 63, 3) := by decide +kernel
theorem dAL_add1_5 : decode prog_24_method_25_code 5 = .ok (.iconst 1, 1) := by decide +kernel
theorem dAL_add1_6 : decode prog_24_method_25_code 6 = .ok (.iadd, 1) := by decide +kernel
theorem dAL_add1_7 : decode prog_24_method_25_code 7 = .ok (.putfield 63, 3) := by decide +kernel
theorem dAL_add1_10 : decode prog_24_method_25_code 10 = .ok (.aload_n 0, 1) := by decide +kernel
theorem dAL_add1_11 : decode prog_24_method_25_code 11 = .ok (.aload_n 1, 1) := by decide +kernel
theorem dAL_add1_12 : decode prog_24_method_25_code 12 = .ok (.aload_n 0, 1) := by decide +kernel
theorem dAL_add1_13 : decode prog_24_method_25_code 13 = .ok (.getfield 9, 3) := by decide +kernel
theorem dAL_add1_16 : decode prog_24_method_25_code 16 = .ok (.aload_n 0, 1) := by decide +kernel
theorem dAL_add1_17 : decode prog_24_method_25_code 17 = .ok (.getfield 48, 3) := by decide +kernel
theorem dAL_add1_20 : decode prog_24_method_25_code 20 = .ok (.invokevirtual 131, 3) := by decide +kernel
theorem dAL_add1_23 : decode prog_24_method_25_code 23 = .ok (.iconst 1, 1) := by decide +kernel
theorem dAL_add1_24 : decode prog_24_method_25_code 24 = .ok (.ireturn, 1) := by decide +kernel
abbrev rm_AL_add1 (B : Nat) : Room := { frames := 6, cells := 1, slots := 0 + B, locals := 150 }
def f_AL_add1 (S : hE) (g : Nat → Nat) (B : Nat) (x0 : Nat) (x1 : Option Nat) (E : hE) (nx : Nat) : Option (Int32 × hE × Nat) := (
  (gI E (some x0) 8 2).bind fun v2 =>
  (sI E (some x0) 8 2 (v2 + 1)).bind fun E7 =>
  (gR E7 (some x0) 8 0).bind fun v13 =>
  (gI E7 (some x0) 8 1).bind fun v17 =>
  (gO E7 (some x0) 8).bind fun o20 =>
  (f_AL_add3 S g B o20.1 x1 v13 v17 E7 nx).bind fun v20 =>
  some (1, v20.1, v20.2))
set_option maxHeartbeats 4000000 in
set_option maxRecDepth 100000 in
theorem c_AL_add1 {l : Launch} {D : va_G} {kA : Nat → ClassId} {S : hE} {g : Nat → Nat} {n0 nx : Nat} {B : Nat} {x0 : Nat} {x1 : Option Nat} {E : hE} {res : Int32 × hE × Nat} (hf : f_AL_add1 S g B x0 x1 E nx = some res) : Met l y_AL_add1 ws_AL_add1 (rm_AL_add1 B) (va_Pc [va_rf (some x0), va_rf x1] (hJ D kA S g n0 (E, nx))) (va_Qi (fun r w => r = res.1 ∧ w = res.2) (hJ D kA S g n0) (fun q => n0 ≤ q)) 1 (0 + B) (fun q => n0 ≤ q) := by
  refine h_met (cc := prog_24_method_25_code) (maxL := 2) (ret := (some .boolean)) (lvs := [(0, va_rf (some x0)), (1, va_rf x1)]) zZ_k (by decide) rfl (by simp [lg_sl, va_rf_cat, cat_i, cat_l, cat_n]) (by simp [lv_args, va_rf_cat, cat_i, cat_l, cat_n]) ?_
  intro p e s m below meth c ls C M hr hlk hnm hl
  unfold f_AL_add1 at hf
  refine w_aload_n C.x C.b dAL_add1_0 rfl (lv_at hl 0 rfl) ?_
  refine lv_dup C.x C.b dAL_add1_1 (va_rf_cat _) ?_
  obtain ⟨v2, h2, hf⟩ := Option.bind_eq_some_iff.mp hf
  refine w_getIs C M h2 rfl (hm_in in_AL) (by decide) (List.mem_cons_of_mem _ wm_238) (List.mem_cons_of_mem _ wm_239) dAL_add1_2 ?_
  refine lv_iconst (v := 1) C.x C.b dAL_add1_5 (by decide) ?_
  refine lv_iadd C.x C.b dAL_add1_6 ?_
  obtain ⟨E7, h7, hf⟩ := Option.bind_eq_some_iff.mp hf
  refine w_putVs (ty := .int) C M ty_AL h7 rfl (hm_in in_AL) tyok_AL nm_AL (by decide) (List.mem_cons_of_mem _ wm_238) (List.mem_cons_of_mem _ wm_239) rfl (by decide +kernel) rfl rfl dAL_add1_7 (fun H locs M => ?_)
  refine w_aload_n C.x C.b dAL_add1_10 rfl (lv_at hl 0 rfl) ?_
  refine w_aload_n C.x C.b dAL_add1_11 rfl (lv_at hl 1 rfl) ?_
  refine w_aload_n C.x C.b dAL_add1_12 rfl (lv_at hl 0 rfl) ?_
  obtain ⟨v13, h13, hf⟩ := Option.bind_eq_some_iff.mp hf
  refine w_getR C M h13 rfl (hm_in in_AL) (by decide) (List.mem_cons_of_mem _ wm_235) rfl dAL_add1_13 ?_
  refine w_aload_n C.x C.b dAL_add1_16 rfl (lv_at hl 0 rfl) ?_
  obtain ⟨v17, h17, hf⟩ := Option.bind_eq_some_iff.mp hf
  refine w_getI C M h17 rfl (hm_in in_AL) (by decide) (List.mem_cons_of_mem _ wm_236) rfl dAL_add1_17 ?_
  obtain ⟨o20, g20, hf⟩ := Option.bind_eq_some_iff.mp hf
  obtain ⟨v20, h20, hf⟩ := Option.bind_eq_some_iff.mp hf
  refine w_cv M (w_runV C M g20 rfl (c_AL_add3 h20) (cwV 3 C.ts (hgV wm_479 wm_481 sel_AL_add3 wm_10 wm_482) rfl rfl rfl (by decide +kernel) ⟨Nat.le_of_ble_eq_true rfl, Nat.le_of_ble_eq_true rfl⟩) rfl hl.1 rfl (Nat.zero_le _) dAL_add1_20 ⟨by show _ ≤ 1; omega, by show _ ≤ 0 + B; omega⟩) (fun H locs M => ?_)
  refine lv_iconst (v := 1) C.x C.b dAL_add1_23 (by decide) ?_
  cases hf
  exact w_iret C M hr hlk rfl (by omega) (by omega) dAL_add1_24 rfl rfl
theorem dTape_takeLine_0 : decode prog_9_method_4_code 0 = .ok (.aload_n 0, 1) := by decide +kernel
theorem dTape_takeLine_1 : decode prog_9_method_4_code 1 = .ok (.getfield 27, 3) := by decide +kernel
theorem dTape_takeLine_4 : decode prog_9_method_4_code 4 = .ok (.ifCond .ne 5, 3) := by decide +kernel
theorem dTape_takeLine_7 : decode prog_9_method_4_code 7 = .ok (.iconst 1, 1) := by decide +kernel
theorem dTape_takeLine_8 : decode prog_9_method_4_code 8 = .ok (.ireturn, 1) := by decide +kernel
theorem dTape_takeLine_9 : decode prog_9_method_4_code 9 = .ok (.aload_n 0, 1) := by decide +kernel
theorem dTape_takeLine_10 : decode prog_9_method_4_code 10 = .ok (.getfield 27, 3) := by decide +kernel
theorem dTape_takeLine_13 : decode prog_9_method_4_code 13 = .ok (.iconst 1, 1) := by decide +kernel
theorem dTape_takeLine_14 : decode prog_9_method_4_code 14 = .ok (.if_icmp .ne 37, 3) := by decide +kernel
theorem dTape_takeLine_17 : decode prog_9_method_4_code 17 = .ok (.aload_n 0, 1) := by decide +kernel
theorem dTape_takeLine_18 : decode prog_9_method_4_code 18 = .ok (.iconst 0, 1) := by decide +kernel
theorem dTape_takeLine_19 : decode prog_9_method_4_code 19 = .ok (.invokevirtual 55, 3) := by decide +kernel
theorem dTape_takeLine_22 : decode prog_9_method_4_code 22 = .ok (.iconst 2, 1) := by decide +kernel
theorem dTape_takeLine_23 : decode prog_9_method_4_code 23 = .ok (.if_icmp .ne 28, 3) := by decide +kernel
theorem dTape_takeLine_26 : decode prog_9_method_4_code 26 = .ok (.aload_n 0, 1) := by decide +kernel
theorem dTape_takeLine_27 : decode prog_9_method_4_code 27 = .ok (.iconst 0, 1) := by decide +kernel
theorem dTape_takeLine_28 : decode prog_9_method_4_code 28 = .ok (.iconst 1, 1) := by decide +kernel
theorem dTape_takeLine_29 : decode prog_9_method_4_code 29 = .ok (.invokevirtual 58, 3) := by decide +kernel
theorem dTape_takeLine_32 : decode prog_9_method_4_code 32 = .ok (.bipush 58, 2) := by decide +kernel
theorem dTape_takeLine_34 : decode prog_9_method_4_code 34 = .ok (.if_icmp .ne 17, 3) := by decide +kernel
theorem dTape_takeLine_37 : decode prog_9_method_4_code 37 = .ok (.aload_n 1, 1) := by decide +kernel
theorem dTape_takeLine_38 : decode prog_9_method_4_code 38 = .ok (.aload_n 0, 1) := by decide +kernel
theorem dTape_takeLine_39 : decode prog_9_method_4_code 39 = .ok (.iconst 0, 1) := by decide +kernel
theorem dTape_takeLine_40 : decode prog_9_method_4_code 40 = .ok (.iconst 0, 1) := by decide +kernel
theorem dTape_takeLine_41 : decode prog_9_method_4_code 41 = .ok (.invokevirtual 58, 3) := by decide +kernel
theorem dTape_takeLine_44 : decode prog_9_method_4_code 44 = .ok (.invokestatic 62, 3) := by decide +kernel
theorem dTape_takeLine_47 : decode prog_9_method_4_code 47 = .ok (.invokevirtual 65, 3) := by decide +kernel
theorem dTape_takeLine_50 : decode prog_9_method_4_code 50 = .ok (.ireturn, 1) := by decide +kernel
theorem dTape_takeLine_51 : decode prog_9_method_4_code 51 = .ok (.iconst 0, 1) := by decide +kernel
theorem dTape_takeLine_52 : decode prog_9_method_4_code 52 = .ok (.istore_n 2, 1) := by decide +kernel
theorem dTape_takeLine_53 : decode prog_9_method_4_code 53 = .ok (.iload_n 2, 1) := by decide +kernel
theorem dTape_takeLine_54 : decode prog_9_method_4_code 54 = .ok (.getstatic 69, 3) := by decide +kernel
theorem dTape_takeLine_57 : decode prog_9_method_4_code 57 = .ok (.arraylength, 1) := by decide +kernel
theorem dTape_takeLine_58 : decode prog_9_method_4_code 58 = .ok (.if_icmp .ge 67, 3) := by decide +kernel
theorem dTape_takeLine_61 : decode prog_9_method_4_code 61 = .ok (.aload_n 0, 1) := by decide +kernel
theorem dTape_takeLine_62 : decode prog_9_method_4_code 62 = .ok (.getstatic 69, 3) := by decide +kernel
theorem dTape_takeLine_65 : decode prog_9_method_4_code 65 = .ok (.iload_n 2, 1) := by decide +kernel
theorem dTape_takeLine_66 : decode prog_9_method_4_code 66 = .ok (.aaload, 1) := by decide +kernel
theorem dTape_takeLine_67 : decode prog_9_method_4_code 67 = .ok (.invokevirtual 73, 3) := by decide +kernel
theorem dTape_takeLine_70 : decode prog_9_method_4_code 70 = .ok (.ifCond .eq 49, 3) := by decide +kernel
theorem dTape_takeLine_73 : decode prog_9_method_4_code 73 = .ok (.aload_n 1, 1) := by decide +kernel
theorem dTape_takeLine_74 : decode prog_9_method_4_code 74 = .ok (.getfield 77, 3) := by decide +kernel
theorem dTape_takeLine_77 : decode prog_9_method_4_code 77 = .ok (.new 81, 3) := by decide +kernel
theorem dTape_takeLine_80 : decode prog_9_method_4_code 80 = .ok (.dup, 1) := by decide +kernel
theorem dTape_takeLine_81 : decode prog_9_method_4_code 81 = .ok (.aload_n 1, 1) := by decide +kernel
theorem dTape_takeLine_82 : decode prog_9_method_4_code 82 = .ok (.getfield 46, 3) := by decide +kernel
theorem dTape_takeLine_85 : decode prog_9_method_4_code 85 = .ok (.getstatic 69, 3) := by decide +kernel
theorem dTape_takeLine_88 : decode prog_9_method_4_code 88 = .ok (.iload_n 2, 1) := by decide +kernel
theorem dTape_takeLine_89 : decode prog_9_method_4_code 89 = .ok (.aaload, 1) := by decide +kernel
theorem dTape_takeLine_90 : decode prog_9_method_4_code 90 = .ok (.aload_n 0, 1) := by decide +kernel
theorem dTape_takeLine_91 : decode prog_9_method_4_code 91 = .ok (.getfield 83, 3) := by decide +kernel
theorem dTape_takeLine_94 : decode prog_9_method_4_code 94 = .ok (.aload_n 0, 1) := by decide +kernel
theorem dTape_takeLine_95 : decode prog_9_method_4_code 95 = .ok (.getfield 86, 3) := by decide +kernel
theorem dTape_takeLine_98 : decode prog_9_method_4_code 98 = .ok (.aload_n 0, 1) := by decide +kernel
theorem dTape_takeLine_99 : decode prog_9_method_4_code 99 = .ok (.getfield 89, 3) := by decide +kernel
theorem dTape_takeLine_102 : decode prog_9_method_4_code 102 = .ok (.aload_n 0, 1) := by decide +kernel
theorem dTape_takeLine_103 : decode prog_9_method_4_code 103 = .ok (.getfield 92, 3) := by decide +kernel
theorem dTape_takeLine_106 : decode prog_9_method_4_code 106 = .ok (.aload_n 0, 1) := by decide +kernel
theorem dTape_takeLine_107 : decode prog_9_method_4_code 107 = .ok (.getfield 95, 3) := by decide +kernel
theorem dTape_takeLine_110 : decode prog_9_method_4_code 110 = .ok (.invokespecial 98, 3) := by decide +kernel
theorem dTape_takeLine_113 : decode prog_9_method_4_code 113 = .ok (.invokevirtual 101, 3) := by decide +kernel
theorem dTape_takeLine_116 : decode prog_9_method_4_code 116 = .ok (.pop, 1) := by decide +kernel
theorem dTape_takeLine_117 : decode prog_9_method_4_code 117 = .ok (.iconst 1, 1) := by decide +kernel
theorem dTape_takeLine_118 : decode prog_9_method_4_code 118 = .ok (.ireturn, 1) := by decide +kernel
theorem dTape_takeLine_119 : decode prog_9_method_4_code 119 = .ok (.iinc 2 1, 3) := by decide +kernel
theorem dTape_takeLine_122 : decode prog_9_method_4_code 122 = .ok (.goto (-69), 3) := by decide +kernel
theorem dTape_takeLine_125 : decode prog_9_method_4_code 125 = .ok (.iconst 0, 1) := by decide +kernel
theorem dTape_takeLine_126 : decode prog_9_method_4_code 126 = .ok (.ireturn, 1) := by decide +kernel
abbrev rm_Tape_takeLine (B : Nat) : Room := { frames := 7, cells := 2, slots := 7 + B, locals := 171 }
def f_Tape_takeLine_b53 (S : hE) (g : Nat → Nat) (N : Nat) (B : Nat) : Nat → Option Nat → Option Nat → Int32 → hE → Nat → Option (Int32 × hE × Nat)
  | 0, _, _, _, _, _ => none
  | n + 1, y0, y1, y2, E, nx => (
  (sL1 (Sa S) (some (g 1)) 101).bind fun v57 =>
  if v57 ≤ y2 then (
  some (0, E, nx)
  ) else (
  (aQ (Sa S) (some (g 1)) 101 y2).bind fun v66 =>
  (gO E y0 5).bind fun o67 =>
  (f_Tape_isOfForm S g N o67.1 v66 E).bind fun v67 =>
  if v67.1 = 0 then (
  f_Tape_takeLine_b53 S g N B n y0 y1 (y2 + 1) v67.2 nx
  ) else (
  (gR v67.2 y1 3 0).bind fun v74 =>
  (some (va_up v67.2 nx (some (.inr (4, [.int 0, .null, .int 0, .int 0, .int 0, .int 0, .int 0]))))).bind fun E77 =>
  (gI E77 y1 3 2).bind fun v82 =>
  (aQ (Sa S) (some (g 1)) 101 y2).bind fun v89 =>
  (gI E77 y0 5 4).bind fun v91 =>
  (gI E77 y0 5 5).bind fun v95 =>
  (gI E77 y0 5 6).bind fun v99 =>
  (gI E77 y0 5 7).bind fun v103 =>
  (gI E77 y0 5 8).bind fun v107 =>
  (f_Stat_init nx v82 v89 v91 v95 v99 v103 v107 E77).bind fun v110 =>
  (gO v110 v74 8).bind fun o113 =>
  (f_AL_add1 S g B o113.1 (some nx) v110 (nx + 1)).bind fun v113 =>
  some (1, v113.2.1, v113.2.2)
  )
  ))
set_option maxHeartbeats 4000000 in
set_option maxRecDepth 100000 in
theorem b_Tape_takeLine_53 {p : Program} {l : Launch} {e : Env} {s : State} {m : MethodId} {args : Array Value} {below : List Frame} {meth : Method} {c : Code} {D : va_G} {kA : Nat → ClassId} {S : hE} {g : Nat → Nat} {n0 : Nat} {N : Nat} {B : Nat} {res : Int32 × hE × Nat} (C : hX p s m args c prog_9_method_4_code 3 R_Tape ws_Tape_takeLine D kA S g n0) (hr : meth.sig.returnType = (some .boolean)) (hlk : meth.locks = false) (hnm : meth.name = "takeLine") : ∀ n : Nat, ∀ (y0 : Option Nat) (y1 : Option Nat) (y2 : Int32) (E : hE) (nx : Nat) (H : Heap) (locs : List Loc) (ls : Array Slot) (cells slots : Nat), hY D kA n0 s E nx H locs → lv_has ls 3 [(0, va_rf y0), (1, va_rf y1), (2, .int y2)] → cells + (n * 0 + 2) ≤ 2 → slots + (n * 0 + 7 + B) ≤ 7 + B → f_Tape_takeLine_b53 S g N B n y0 y1 y2 E nx = some res → W p l e (rm_Tape_takeLine B) s m args below meth c H locs cells slots (MQ below (va_Qi (fun r w => r = res.1 ∧ w = res.2) (hJ D kA S g n0) (fun q => n0 ≤ q)) args s 2 (7 + B) (fun q => n0 ≤ q)) (F0 m 53 ls []) := by
  intro n
  induction n with
  | zero =>
    intro y0 y1 y2 E nx H locs ls cells slots M hl hcb hsb hf
    simp [f_Tape_takeLine_b53] at hf
  | succ n ih =>
    intro y0 y1 y2 E nx H locs ls cells slots M hl hcb hsb hf
    rw [f_Tape_takeLine_b53] at hf
    refine lv_iload_n C.x C.b dTape_takeLine_53 rfl (lv_at hl 2 rfl) ?_
    refine w_gets C M (zZ_S C.z) (i := 1) (by decide) (List.mem_cons_of_mem _ wm_297) rfl dTape_takeLine_54 ?_
    obtain ⟨v57, h57, hf⟩ := Option.bind_eq_some_iff.mp hf
    refine w_sL1 C M (zZ_S C.z) h57 dTape_takeLine_57 ?_
    refine lv_icmp_ge (tgt := 125) C.x C.b dTape_takeLine_58 (by decide) (fun c58 => ?_) (fun c58 => ?_)
    · rw [if_pos c58] at hf
      refine lv_iconst (v := 0) C.x C.b dTape_takeLine_125 (by decide) ?_
      cases hf
      exact w_iret C M hr hlk rfl (by omega) (by omega) dTape_takeLine_126 rfl rfl
    · rw [if_neg c58] at hf
      refine w_aload_n C.x C.b dTape_takeLine_61 rfl (lv_at hl 0 rfl) ?_
      refine w_gets C M (zZ_S C.z) (i := 1) (by decide) (List.mem_cons_of_mem _ wm_297) rfl dTape_takeLine_62 ?_
      refine lv_iload_n C.x C.b dTape_takeLine_65 rfl (lv_at hl 2 rfl) ?_
      obtain ⟨v66, h66, hf⟩ := Option.bind_eq_some_iff.mp hf
      refine w_saQ C M (zZ_S C.z) h66 rfl dTape_takeLine_66 ?_
      obtain ⟨o67, g67, hf⟩ := Option.bind_eq_some_iff.mp hf
      obtain ⟨v67, h67, hf⟩ := Option.bind_eq_some_iff.mp hf
      refine w_ci M (w_runV C M g67 rfl (c_Tape_isOfForm h67) (cwV 1 C.ts (hgV wm_299 wm_301 sel_Tape_isOfForm wm_2 wm_302) rfl rfl rfl (by decide +kernel) ⟨Nat.le_of_ble_eq_true rfl, Nat.le_of_ble_eq_true rfl⟩) rfl hl.1 rfl (Nat.zero_le _) dTape_takeLine_67 ⟨by show _ ≤ 2; omega, by show _ ≤ 7 + B; omega⟩) (fun H locs M => ?_)
      refine lv_if_eq (tgt := 119) C.x C.b dTape_takeLine_70 (by decide) (fun c70 => ?_) (fun c70 => ?_)
      · rw [if_pos c70] at hf
        refine lv_iinc (v := y2 + 1) (lv' := [(2, .int (y2 + 1)), (0, va_rf y0), (1, va_rf y1)]) C.x C.b dTape_takeLine_119 hl (k := 2) rfl rfl (by decide) (by simp only [List.filter, va_rf_cat] <;> rfl) (fun ls hl => ?_)
        refine lv_goto (tgt := 53) C.x C.b dTape_takeLine_122 (by decide) ?_
        exact ih _ _ _ _ _ _ _ _ _ _ M (lv_sub hl [1, 2, 0] rfl) (by omega) (by omega) hf
      · rw [if_neg c70] at hf
        refine w_aload_n C.x C.b dTape_takeLine_73 rfl (lv_at hl 1 rfl) ?_
        obtain ⟨v74, h74, hf⟩ := Option.bind_eq_some_iff.mp hf
        refine w_getR C M h74 rfl (hm_in in_Script) (by decide) (List.mem_cons_of_mem _ wm_251) rfl dTape_takeLine_74 ?_
        obtain ⟨E77, h77, hf⟩ := Option.bind_eq_some_iff.mp hf
        have h77 := Option.some.inj h77
        refine w_new (ci := 4) C M (fs := [.int 0, .null, .int 0, .int 0, .int 0, .int 0, .int 0]) ty_Stat rfl (hm_in in_Stat) tyok_Stat (List.mem_cons_of_mem _ wm_437) (List.mem_cons_of_mem _ wm_438) (List.mem_cons_of_mem _ wm_18) (fun j hj => by rcases (show j = 0 ∨ j = 1 ∨ j = 2 ∨ j = 3 ∨ j = 4 ∨ j = 5 ∨ j = 6 by omega) with rfl | rfl | rfl | rfl | rfl | rfl | rfl <;> rfl) (by show _ ≤ 2; omega) (by show _ ≤ 7 + B; omega) dTape_takeLine_77 (fun H M => ?_)
        rw [h77] at M
        refine lv_dup C.x C.b dTape_takeLine_80 (va_rf_cat _) ?_
        refine w_aload_n C.x C.b dTape_takeLine_81 rfl (lv_at hl 1 rfl) ?_
        obtain ⟨v82, h82, hf⟩ := Option.bind_eq_some_iff.mp hf
        refine w_getI C M h82 rfl (hm_in in_Script) (by decide) (List.mem_cons_of_mem _ wm_253) rfl dTape_takeLine_82 ?_
        refine w_gets C M (zZ_S C.z) (i := 1) (by decide) (List.mem_cons_of_mem _ wm_297) rfl dTape_takeLine_85 ?_
        refine lv_iload_n C.x C.b dTape_takeLine_88 rfl (lv_at hl 2 rfl) ?_
        obtain ⟨v89, h89, hf⟩ := Option.bind_eq_some_iff.mp hf
        refine w_saQ C M (zZ_S C.z) h89 rfl dTape_takeLine_89 ?_
        refine w_aload_n C.x C.b dTape_takeLine_90 rfl (lv_at hl 0 rfl) ?_
        obtain ⟨v91, h91, hf⟩ := Option.bind_eq_some_iff.mp hf
        refine w_getI C M h91 rfl (hm_in in_Tape) (by decide) (List.mem_cons_of_mem _ wm_63) rfl dTape_takeLine_91 ?_
        refine w_aload_n C.x C.b dTape_takeLine_94 rfl (lv_at hl 0 rfl) ?_
        obtain ⟨v95, h95, hf⟩ := Option.bind_eq_some_iff.mp hf
        refine w_getI C M h95 rfl (hm_in in_Tape) (by decide) (List.mem_cons_of_mem _ wm_64) rfl dTape_takeLine_95 ?_
        refine w_aload_n C.x C.b dTape_takeLine_98 rfl (lv_at hl 0 rfl) ?_
        obtain ⟨v99, h99, hf⟩ := Option.bind_eq_some_iff.mp hf
        refine w_getI C M h99 rfl (hm_in in_Tape) (by decide) (List.mem_cons_of_mem _ wm_65) rfl dTape_takeLine_99 ?_
        refine w_aload_n C.x C.b dTape_takeLine_102 rfl (lv_at hl 0 rfl) ?_
        obtain ⟨v103, h103, hf⟩ := Option.bind_eq_some_iff.mp hf
        refine w_getI C M h103 rfl (hm_in in_Tape) (by decide) (List.mem_cons_of_mem _ wm_66) rfl dTape_takeLine_103 ?_
        refine w_aload_n C.x C.b dTape_takeLine_106 rfl (lv_at hl 0 rfl) ?_
        obtain ⟨v107, h107, hf⟩ := Option.bind_eq_some_iff.mp hf
        refine w_getI C M h107 rfl (hm_in in_Tape) (by decide) (List.mem_cons_of_mem _ wm_67) rfl dTape_takeLine_107 ?_
        obtain ⟨v110, h110, hf⟩ := Option.bind_eq_some_iff.mp hf
        refine w_cv M (w_runI C M (c_Stat_init h110) (cwI 7 C.ts (hgC wm_441) rfl rfl rfl (C.ts (.initialized R_Stat) (List.mem_cons_of_mem _ wm_18)) (C.ts (.methodLink R_Tape 98 y_Stat_init) (List.mem_cons_of_mem _ wm_439)) (C.ts (.instanceMethod y_Stat_init) (List.mem_cons_of_mem _ wm_440)) rfl (by decide +kernel) ⟨Nat.le_of_ble_eq_true rfl, Nat.le_of_ble_eq_true rfl⟩) rfl hl.1 rfl (by simp [va_rf_cat, cat_i, cat_l, cat_n]) dTape_takeLine_110 ⟨by show _ ≤ 2; omega, by show _ ≤ 7 + B; omega⟩) (fun H locs M => ?_)
        obtain ⟨o113, g113, hf⟩ := Option.bind_eq_some_iff.mp hf
        obtain ⟨v113, h113, hf⟩ := Option.bind_eq_some_iff.mp hf
        refine w_ci M (w_runV C M g113 rfl (c_AL_add1 h113) (cwV 1 C.ts (hgV wm_475 wm_476 wm_477 wm_10 wm_478) rfl rfl rfl (by decide +kernel) ⟨Nat.le_of_ble_eq_true rfl, Nat.le_of_ble_eq_true rfl⟩) rfl hl.1 rfl (Nat.zero_le _) dTape_takeLine_113 ⟨by show _ ≤ 2; omega, by show _ ≤ 7 + B; omega⟩) (fun H locs M => ?_)
        refine lv_pop C.x C.b dTape_takeLine_116 rfl ?_
        refine lv_iconst (v := 1) C.x C.b dTape_takeLine_117 (by decide) ?_
        cases hf
        exact w_iret C M hr hlk rfl (by omega) (by omega) dTape_takeLine_118 rfl rfl
def f_Tape_takeLine_b51 (S : hE) (g : Nat → Nat) (N : Nat) (B : Nat) (y0 : Option Nat) (y1 : Option Nat) (E : hE) (nx : Nat) : Option (Int32 × hE × Nat) := (
  f_Tape_takeLine_b53 S g N B N y0 y1 0 E nx)
set_option maxHeartbeats 4000000 in
set_option maxRecDepth 100000 in
theorem b_Tape_takeLine_51 {p : Program} {l : Launch} {e : Env} {s : State} {m : MethodId} {args : Array Value} {below : List Frame} {meth : Method} {c : Code} {D : va_G} {kA : Nat → ClassId} {S : hE} {g : Nat → Nat} {n0 : Nat} {N : Nat} {B : Nat} {res : Int32 × hE × Nat} (C : hX p s m args c prog_9_method_4_code 3 R_Tape ws_Tape_takeLine D kA S g n0) (hr : meth.sig.returnType = (some .boolean)) (hlk : meth.locks = false) (hnm : meth.name = "takeLine") : ∀ (y0 : Option Nat) (y1 : Option Nat) (E : hE) (nx : Nat) (H : Heap) (locs : List Loc) (ls : Array Slot) (cells slots : Nat), hY D kA n0 s E nx H locs → lv_has ls 3 [(0, va_rf y0), (1, va_rf y1)] → cells + 2 ≤ 2 → slots + (7 + B) ≤ 7 + B → f_Tape_takeLine_b51 S g N B  y0 y1 E nx = some res → W p l e (rm_Tape_takeLine B) s m args below meth c H locs cells slots (MQ below (va_Qi (fun r w => r = res.1 ∧ w = res.2) (hJ D kA S g n0) (fun q => n0 ≤ q)) args s 2 (7 + B) (fun q => n0 ≤ q)) (F0 m 51 ls []) := by
  intro y0 y1 E nx H locs ls cells slots M hl hcb hsb hf
  unfold f_Tape_takeLine_b51 at hf
  refine lv_iconst (v := 0) C.x C.b dTape_takeLine_51 (by decide) ?_
  refine lv_istore_n (lv' := [(2, .int 0), (0, va_rf y0), (1, va_rf y1)]) C.x C.b dTape_takeLine_52 rfl hl (by decide) (by simp only [List.filter, va_rf_cat] <;> rfl) (fun ls hl => ?_)
  exact b_Tape_takeLine_53 C hr hlk hnm N _ _ _ _ _ _ _ _ _ _ M (lv_sub hl [1, 2, 0] rfl) (by omega) (by omega) hf
def f_Tape_takeLine (S : hE) (g : Nat → Nat) (N : Nat) (B : Nat) (x0 : Nat) (x1 : Option Nat) (E : hE) (nx : Nat) : Option (Int32 × hE × Nat) := (
  (gI E (some x0) 5 3).bind fun v1 =>
  if v1 = 0 then (
  some (1, E, nx)
  ) else (
  (gI E (some x0) 5 3).bind fun v10 =>
  if v10 = 1 then (
  (gO E (some x0) 5).bind fun o19 =>
  (f_Tape_lengthOf E o19.1 0).bind fun v19 =>
  if v19 = 2 then (
  (gO E (some x0) 5).bind fun o29 =>
  (f_Tape_letterAt E o29.1 0 1).bind fun v29 =>
  if v29 = 58 then (
  (gO E (some x0) 5).bind fun o41 =>
  (f_Tape_letterAt E o41.1 0 0).bind fun v41 =>
  (f_Tape_labelNamed E v41).bind fun v44 =>
  (gO E x1 3).bind fun o47 =>
  (f_Script_addLabel o47.1 v44 E).bind fun v47 =>
  (bZ v47.1).bind fun v50 =>
  some (v50, v47.2, nx)
  ) else (
  f_Tape_takeLine_b51 S g N B (some x0) x1 E nx
  )
  ) else (
  f_Tape_takeLine_b51 S g N B (some x0) x1 E nx
  )
  ) else (
  f_Tape_takeLine_b51 S g N B (some x0) x1 E nx
  )
  ))
set_option maxHeartbeats 4000000 in
set_option maxRecDepth 100000 in
theorem c_Tape_takeLine {l : Launch} {D : va_G} {kA : Nat → ClassId} {S : hE} {g : Nat → Nat} {n0 nx : Nat} {N : Nat} {B : Nat} {x0 : Nat} {x1 : Option Nat} {E : hE} {res : Int32 × hE × Nat} (hf : f_Tape_takeLine S g N B x0 x1 E nx = some res) : Met l y_Tape_takeLine ws_Tape_takeLine (rm_Tape_takeLine B) (va_Pc [va_rf (some x0), va_rf x1] (hJ D kA S g n0 (E, nx))) (va_Qi (fun r w => r = res.1 ∧ w = res.2) (hJ D kA S g n0) (fun q => n0 ≤ q)) 2 (7 + B) (fun q => n0 ≤ q) := by
  refine h_met (cc := prog_9_method_4_code) (maxL := 3) (ret := (some .boolean)) (lvs := [(0, va_rf (some x0)), (1, va_rf x1)]) zZ_k (by decide) rfl (by simp [lg_sl, va_rf_cat, cat_i, cat_l, cat_n]) (by simp [lv_args, va_rf_cat, cat_i, cat_l, cat_n]) ?_
  intro p e s m below meth c ls C M hr hlk hnm hl
  unfold f_Tape_takeLine at hf
  refine w_aload_n C.x C.b dTape_takeLine_0 rfl (lv_at hl 0 rfl) ?_
  obtain ⟨v1, h1, hf⟩ := Option.bind_eq_some_iff.mp hf
  refine w_getI C M h1 rfl (hm_in in_Tape) (by decide) (List.mem_cons_of_mem _ wm_62) rfl dTape_takeLine_1 ?_
  refine lv_if_ne (tgt := 9) C.x C.b dTape_takeLine_4 (by decide) (fun c4 => ?_) (fun c4 => ?_)
  · rw [if_neg c4] at hf
    refine w_aload_n C.x C.b dTape_takeLine_9 rfl (lv_at hl 0 rfl) ?_
    obtain ⟨v10, h10, hf⟩ := Option.bind_eq_some_iff.mp hf
    refine w_getI C M h10 rfl (hm_in in_Tape) (by decide) (List.mem_cons_of_mem _ wm_62) rfl dTape_takeLine_10 ?_
    refine lv_iconst (v := 1) C.x C.b dTape_takeLine_13 (by decide) ?_
    refine lv_icmp_ne (tgt := 51) C.x C.b dTape_takeLine_14 (by decide) (fun c14 => ?_) (fun c14 => ?_)
    · rw [if_neg c14] at hf
      exact b_Tape_takeLine_51 C hr hlk hnm _ _ _ _ _ _ _ _ _ M (lv_sub hl [0, 1] rfl) (by omega) (by omega) hf
    · rw [if_pos c14] at hf
      refine w_aload_n C.x C.b dTape_takeLine_17 rfl (lv_at hl 0 rfl) ?_
      refine lv_iconst (v := 0) C.x C.b dTape_takeLine_18 (by decide) ?_
      obtain ⟨o19, g19, hf⟩ := Option.bind_eq_some_iff.mp hf
      obtain ⟨v19, h19, hf⟩ := Option.bind_eq_some_iff.mp hf
      refine w_ci M (w_runV C M g19 rfl (c_Tape_lengthOf h19) (cwV 1 C.ts (hgV wm_278 wm_280 sel_Tape_lengthOf wm_2 wm_281) rfl rfl rfl (by decide +kernel) ⟨Nat.le_of_ble_eq_true rfl, Nat.le_of_ble_eq_true rfl⟩) rfl hl.1 rfl (Nat.zero_le _) dTape_takeLine_19 ⟨by show _ ≤ 2; omega, by show _ ≤ 7 + B; omega⟩) (fun H locs M => ?_)
      refine lv_iconst (v := 2) C.x C.b dTape_takeLine_22 (by decide) ?_
      refine lv_icmp_ne (tgt := 51) C.x C.b dTape_takeLine_23 (by decide) (fun c23 => ?_) (fun c23 => ?_)
      · rw [if_neg c23] at hf
        exact b_Tape_takeLine_51 C hr hlk hnm _ _ _ _ _ _ _ _ _ M (lv_sub hl [0, 1] rfl) (by omega) (by omega) hf
      · rw [if_pos c23] at hf
        refine w_aload_n C.x C.b dTape_takeLine_26 rfl (lv_at hl 0 rfl) ?_
        refine lv_iconst (v := 0) C.x C.b dTape_takeLine_27 (by decide) ?_
        refine lv_iconst (v := 1) C.x C.b dTape_takeLine_28 (by decide) ?_
        obtain ⟨o29, g29, hf⟩ := Option.bind_eq_some_iff.mp hf
        obtain ⟨v29, h29, hf⟩ := Option.bind_eq_some_iff.mp hf
        refine w_ci M (w_runV C M g29 rfl (c_Tape_letterAt h29) (cwV 2 C.ts (hgV wm_282 wm_284 sel_Tape_letterAt wm_2 wm_285) rfl rfl rfl (by decide +kernel) ⟨Nat.le_of_ble_eq_true rfl, Nat.le_of_ble_eq_true rfl⟩) rfl hl.1 rfl (Nat.zero_le _) dTape_takeLine_29 ⟨by show _ ≤ 2; omega, by show _ ≤ 7 + B; omega⟩) (fun H locs M => ?_)
        refine lv_bipush (v := 58) C.x C.b dTape_takeLine_32 (by decide) ?_
        refine lv_icmp_ne (tgt := 51) C.x C.b dTape_takeLine_34 (by decide) (fun c34 => ?_) (fun c34 => ?_)
        · rw [if_neg c34] at hf
          exact b_Tape_takeLine_51 C hr hlk hnm _ _ _ _ _ _ _ _ _ M (lv_sub hl [0, 1] rfl) (by omega) (by omega) hf
        · rw [if_pos c34] at hf
          refine w_aload_n C.x C.b dTape_takeLine_37 rfl (lv_at hl 1 rfl) ?_
          refine w_aload_n C.x C.b dTape_takeLine_38 rfl (lv_at hl 0 rfl) ?_
          refine lv_iconst (v := 0) C.x C.b dTape_takeLine_39 (by decide) ?_
          refine lv_iconst (v := 0) C.x C.b dTape_takeLine_40 (by decide) ?_
          obtain ⟨o41, g41, hf⟩ := Option.bind_eq_some_iff.mp hf
          obtain ⟨v41, h41, hf⟩ := Option.bind_eq_some_iff.mp hf
          refine w_ci M (w_runV C M g41 rfl (c_Tape_letterAt h41) (cwV 2 C.ts (hgV wm_282 wm_284 sel_Tape_letterAt wm_2 wm_285) rfl rfl rfl (by decide +kernel) ⟨Nat.le_of_ble_eq_true rfl, Nat.le_of_ble_eq_true rfl⟩) rfl hl.1 rfl (by simp [va_rf_cat, cat_i, cat_l, cat_n]) dTape_takeLine_41 ⟨by show _ ≤ 2; omega, by show _ ≤ 7 + B; omega⟩) (fun H locs M => ?_)
          obtain ⟨v44, h44, hf⟩ := Option.bind_eq_some_iff.mp hf
          refine w_ci M (w_runS C M (c_Tape_labelNamed h44) (cwS 1 C.ts (hgS wm_286 wm_287 wm_2 wm_288) rfl rfl rfl (by decide +kernel) ⟨Nat.le_of_ble_eq_true rfl, Nat.le_of_ble_eq_true rfl⟩) rfl hl.1 rfl (by simp [va_rf_cat, cat_i, cat_l, cat_n]) dTape_takeLine_44 ⟨by show _ ≤ 2; omega, by show _ ≤ 7 + B; omega⟩) (fun H locs M => ?_)
          obtain ⟨o47, g47, hf⟩ := Option.bind_eq_some_iff.mp hf
          obtain ⟨v47, h47, hf⟩ := Option.bind_eq_some_iff.mp hf
          refine w_ci M (w_runV C M g47 rfl (c_Script_addLabel h47) (cwV 1 C.ts (hgV wm_289 wm_290 wm_291 wm_7 wm_292) rfl rfl rfl (by decide +kernel) ⟨Nat.le_of_ble_eq_true rfl, Nat.le_of_ble_eq_true rfl⟩) rfl hl.1 rfl (Nat.zero_le _) dTape_takeLine_47 ⟨by show _ ≤ 2; omega, by show _ ≤ 7 + B; omega⟩) (fun H locs M => ?_)
          obtain ⟨v50, h50, hf⟩ := Option.bind_eq_some_iff.mp hf
          obtain ⟨i50, g50⟩ := bZ_some h50
          rw [i50]
          cases hf
          exact w_iret C M hr hlk (narrow_z g50) (by omega) (by omega) dTape_takeLine_50 rfl rfl
  · rw [if_pos c4] at hf
    refine lv_iconst (v := 1) C.x C.b dTape_takeLine_7 (by decide) ?_
    cases hf
    exact w_iret C M hr hlk rfl (by omega) (by omega) dTape_takeLine_8 rfl rfl
theorem dScript_lineOfMissingLabel_0 : decode prog_7_method_5_code 0 = .ok (.iconst 0, 1) := by decide +kernel
theorem dScript_lineOfMissingLabel_1 : decode prog_7_method_5_code 1 = .ok (.istore_n 1, 1) := by decide +kernel
theorem dScript_lineOfMissingLabel_2 : decode prog_7_method_5_code 2 = .ok (.iload_n 1, 1) := by decide +kernel
theorem dScript_lineOfMissingLabel_3 : decode prog_7_method_5_code 3 = .ok (.aload_n 0, 1) := by decide +kernel
theorem dScript_lineOfMissingLabel_4 : decode prog_7_method_5_code 4 = .ok (.getfield 12, 3) := by decide +kernel
theorem dScript_lineOfMissingLabel_7 : decode prog_7_method_5_code 7 = .ok (.invokevirtual 28, 3) := by decide +kernel
theorem dScript_lineOfMissingLabel_10 : decode prog_7_method_5_code 10 = .ok (.if_icmp .ge 46, 3) := by decide +kernel
theorem dScript_lineOfMissingLabel_13 : decode prog_7_method_5_code 13 = .ok (.aload_n 0, 1) := by decide +kernel
theorem dScript_lineOfMissingLabel_14 : decode prog_7_method_5_code 14 = .ok (.getfield 12, 3) := by decide +kernel
theorem dScript_lineOfMissingLabel_17 : decode prog_7_method_5_code 17 = .ok (.iload_n 1, 1) := by decide +kernel
theorem dScript_lineOfMissingLabel_18 : decode prog_7_method_5_code 18 = .ok (.invokevirtual 32, 3) := by decide +kernel
theorem dScript_lineOfMissingLabel_21 : decode prog_7_method_5_code 21 = .ok (.checkcast 36, 3) := by decide +kernel
theorem dScript_lineOfMissingLabel_24 : decode prog_7_method_5_code 24 = .ok (.astore_n 2, 1) := by decide +kernel
theorem dScript_lineOfMissingLabel_25 : decode prog_7_method_5_code 25 = .ok (.aload_n 2, 1) := by decide +kernel
theorem dScript_lineOfMissingLabel_26 : decode prog_7_method_5_code 26 = .ok (.getfield 38, 3) := by decide +kernel
theorem dScript_lineOfMissingLabel_29 : decode prog_7_method_5_code 29 = .ok (.iconst (-1), 1) := by decide +kernel
theorem dScript_lineOfMissingLabel_30 : decode prog_7_method_5_code 30 = .ok (.if_icmp .eq 20, 3) := by decide +kernel
theorem dScript_lineOfMissingLabel_33 : decode prog_7_method_5_code 33 = .ok (.aload_n 0, 1) := by decide +kernel
theorem dScript_lineOfMissingLabel_34 : decode prog_7_method_5_code 34 = .ok (.aload_n 2, 1) := by decide +kernel
theorem dScript_lineOfMissingLabel_35 : decode prog_7_method_5_code 35 = .ok (.getfield 38, 3) := by decide +kernel
theorem dScript_lineOfMissingLabel_38 : decode prog_7_method_5_code 38 = .ok (.invokevirtual 42, 3) := by decide +kernel
theorem dScript_lineOfMissingLabel_41 : decode prog_7_method_5_code 41 = .ok (.iconst (-1), 1) := by decide +kernel
theorem dScript_lineOfMissingLabel_42 : decode prog_7_method_5_code 42 = .ok (.if_icmp .ne 8, 3) := by decide +kernel
theorem dScript_lineOfMissingLabel_45 : decode prog_7_method_5_code 45 = .ok (.aload_n 2, 1) := by decide +kernel
theorem dScript_lineOfMissingLabel_46 : decode prog_7_method_5_code 46 = .ok (.getfield 46, 3) := by decide +kernel
theorem dScript_lineOfMissingLabel_49 : decode prog_7_method_5_code 49 = .ok (.ireturn, 1) := by decide +kernel
theorem dScript_lineOfMissingLabel_50 : decode prog_7_method_5_code 50 = .ok (.iinc 1 1, 3) := by decide +kernel
theorem dScript_lineOfMissingLabel_53 : decode prog_7_method_5_code 53 = .ok (.goto (-51), 3) := by decide +kernel
theorem dScript_lineOfMissingLabel_56 : decode prog_7_method_5_code 56 = .ok (.iconst (-1), 1) := by decide +kernel
theorem dScript_lineOfMissingLabel_57 : decode prog_7_method_5_code 57 = .ok (.ireturn, 1) := by decide +kernel
abbrev rm_Script_lineOfMissingLabel : Room := { frames := 3, cells := 0, slots := 0, locals := 64 }
def f_Script_lineOfMissingLabel_b50 (N : Nat) (E : hE) (k2 : Option Nat → Int32 → Option (Int32)) (y0 : Option Nat) (y1 : Int32) : Option (Int32) := (
  k2 y0 (y1 + 1))
set_option maxHeartbeats 4000000 in
set_option maxRecDepth 100000 in
theorem b_Script_lineOfMissingLabel_50 {p : Program} {l : Launch} {e : Env} {s : State} {m : MethodId} {args : Array Value} {below : List Frame} {meth : Method} {c : Code} {D : va_G} {kA : Nat → ClassId} {S : hE} {g : Nat → Nat} {n0 nx : Nat} {N : Nat} {E : hE} {res : Int32} (C : hX p s m args c prog_7_method_5_code 3 R_Script ws_Script_lineOfMissingLabel D kA S g n0) (hr : meth.sig.returnType = (some .int)) (hlk : meth.locks = false) (hnm : meth.name = "lineOfMissingLabel") (k2 : Option Nat → Int32 → Option (Int32)) (hk2 : ∀ (y0 : Option Nat) (y1 : Int32) (H : Heap) (locs : List Loc) (ls : Array Slot), hY D kA n0 s E nx H locs → lv_has ls 3 [(0, va_rf y0), (1, .int y1)] → k2 y0 y1 = some res → W p l e rm_Script_lineOfMissingLabel s m args below meth c H locs 0 0 (MQ below (va_Qi (fun r w => r = res ∧ w = (E, nx)) (hJ D kA S g n0) (fun q => n0 ≤ q)) args s 0 0 (fun q => n0 ≤ q)) (F0 m 2 ls [])) : ∀ (y0 : Option Nat) (y1 : Int32) (H : Heap) (locs : List Loc) (ls : Array Slot), hY D kA n0 s E nx H locs → lv_has ls 3 [(0, va_rf y0), (1, .int y1)] → f_Script_lineOfMissingLabel_b50 N E k2 y0 y1 = some res → W p l e rm_Script_lineOfMissingLabel s m args below meth c H locs 0 0 (MQ below (va_Qi (fun r w => r = res ∧ w = (E, nx)) (hJ D kA S g n0) (fun q => n0 ≤ q)) args s 0 0 (fun q => n0 ≤ q)) (F0 m 50 ls []) := by
  intro y0 y1 H locs ls M hl hf
  unfold f_Script_lineOfMissingLabel_b50 at hf
  refine lv_iinc (v := y1 + 1) (lv' := [(1, .int (y1 + 1)), (0, va_rf y0)]) C.x C.b dScript_lineOfMissingLabel_50 hl (k := 1) rfl rfl (by decide) (by simp only [List.filter, va_rf_cat] <;> rfl) (fun ls hl => ?_)
  refine lv_goto (tgt := 2) C.x C.b dScript_lineOfMissingLabel_53 (by decide) ?_
  exact hk2 _ _ _ _ _ M (lv_sub hl [1, 0] rfl) hf
def f_Script_lineOfMissingLabel_b2 (N : Nat) (E : hE) : Nat → Option Nat → Int32 → Option (Int32)
  | 0, _, _ => none
  | n + 1, y0, y1 => (
  (gR E y0 3 0).bind fun v4 =>
  (gO E v4 8).bind fun o7 =>
  (f_AL_size E o7.1).bind fun v7 =>
  if v7 ≤ y1 then (
  some (-1)
  ) else (
  (gR E y0 3 0).bind fun v14 =>
  (gO E v14 8).bind fun o18 =>
  (f_AL_get E o18.1 y1).bind fun v18 =>
  (kC E v18 4).bind fun _ =>
  (gI E v18 4 6).bind fun v26 =>
  if v26 = (-1) then (
  f_Script_lineOfMissingLabel_b50 N E (f_Script_lineOfMissingLabel_b2 N E n) y0 y1
  ) else (
  (gI E v18 4 6).bind fun v35 =>
  (gO E y0 3).bind fun o38 =>
  (f_Script_placeOf E o38.1 v35).bind fun v38 =>
  if v38 = (-1) then (
  (gI E v18 4 0).bind fun v46 =>
  some v46
  ) else (
  f_Script_lineOfMissingLabel_b50 N E (f_Script_lineOfMissingLabel_b2 N E n) y0 y1
  )
  )
  ))
set_option maxHeartbeats 4000000 in
set_option maxRecDepth 100000 in
theorem b_Script_lineOfMissingLabel_2 {p : Program} {l : Launch} {e : Env} {s : State} {m : MethodId} {args : Array Value} {below : List Frame} {meth : Method} {c : Code} {D : va_G} {kA : Nat → ClassId} {S : hE} {g : Nat → Nat} {n0 nx : Nat} {N : Nat} {E : hE} {res : Int32} (C : hX p s m args c prog_7_method_5_code 3 R_Script ws_Script_lineOfMissingLabel D kA S g n0) (hr : meth.sig.returnType = (some .int)) (hlk : meth.locks = false) (hnm : meth.name = "lineOfMissingLabel") : ∀ n : Nat, ∀ (y0 : Option Nat) (y1 : Int32) (H : Heap) (locs : List Loc) (ls : Array Slot), hY D kA n0 s E nx H locs → lv_has ls 3 [(0, va_rf y0), (1, .int y1)] → f_Script_lineOfMissingLabel_b2 N E n y0 y1 = some res → W p l e rm_Script_lineOfMissingLabel s m args below meth c H locs 0 0 (MQ below (va_Qi (fun r w => r = res ∧ w = (E, nx)) (hJ D kA S g n0) (fun q => n0 ≤ q)) args s 0 0 (fun q => n0 ≤ q)) (F0 m 2 ls []) := by
  intro n
  induction n with
  | zero =>
    intro y0 y1 H locs ls M hl hf
    simp [f_Script_lineOfMissingLabel_b2] at hf
  | succ n ih =>
    intro y0 y1 H locs ls M hl hf
    rw [f_Script_lineOfMissingLabel_b2] at hf
    refine lv_iload_n C.x C.b dScript_lineOfMissingLabel_2 rfl (lv_at hl 1 rfl) ?_
    refine w_aload_n C.x C.b dScript_lineOfMissingLabel_3 rfl (lv_at hl 0 rfl) ?_
    obtain ⟨v4, h4, hf⟩ := Option.bind_eq_some_iff.mp hf
    refine w_getR C M h4 rfl (hm_in in_Script) (by decide) (List.mem_cons_of_mem _ wm_250) rfl dScript_lineOfMissingLabel_4 ?_
    obtain ⟨o7, g7, hf⟩ := Option.bind_eq_some_iff.mp hf
    obtain ⟨v7, h7, hf⟩ := Option.bind_eq_some_iff.mp hf
    refine w_ci M (w_runV C M g7 rfl (c_AL_size h7) (cwV 0 C.ts (hgV wm_293 wm_294 wm_295 wm_10 wm_296) rfl rfl rfl (by decide +kernel) ⟨Nat.le_of_ble_eq_true rfl, Nat.le_of_ble_eq_true rfl⟩) rfl hl.1 rfl (by simp [va_rf_cat, cat_i, cat_l, cat_n]) dScript_lineOfMissingLabel_7 ⟨Nat.le_refl _, Nat.le_refl _⟩) (fun H locs M => ?_)
    refine lv_icmp_ge (tgt := 56) C.x C.b dScript_lineOfMissingLabel_10 (by decide) (fun c10 => ?_) (fun c10 => ?_)
    · rw [if_pos c10] at hf
      refine lv_iconst (v := (-1)) C.x C.b dScript_lineOfMissingLabel_56 (by decide) ?_
      cases hf
      exact w_iret C M hr hlk rfl (Nat.le_refl _) (Nat.le_refl _) dScript_lineOfMissingLabel_57 rfl rfl
    · rw [if_neg c10] at hf
      refine w_aload_n C.x C.b dScript_lineOfMissingLabel_13 rfl (lv_at hl 0 rfl) ?_
      obtain ⟨v14, h14, hf⟩ := Option.bind_eq_some_iff.mp hf
      refine w_getR C M h14 rfl (hm_in in_Script) (by decide) (List.mem_cons_of_mem _ wm_250) rfl dScript_lineOfMissingLabel_14 ?_
      refine lv_iload_n C.x C.b dScript_lineOfMissingLabel_17 rfl (lv_at hl 1 rfl) ?_
      obtain ⟨o18, g18, hf⟩ := Option.bind_eq_some_iff.mp hf
      obtain ⟨v18, h18, hf⟩ := Option.bind_eq_some_iff.mp hf
      refine w_cq M (w_runV C M g18 rfl (c_AL_get h18) (cwV 1 C.ts (hgV wm_532 wm_533 wm_534 wm_10 wm_535) rfl rfl rfl (by decide +kernel) ⟨Nat.le_of_ble_eq_true rfl, Nat.le_of_ble_eq_true rfl⟩) rfl hl.1 rfl (Nat.zero_le _) dScript_lineOfMissingLabel_18 ⟨Nat.le_refl _, Nat.le_refl _⟩) (fun H locs M => ?_)
      obtain ⟨u21, h21, hf⟩ := Option.bind_eq_some_iff.mp hf
      refine w_cast C M h21 rfl (List.mem_cons_of_mem _ wm_544) (zZ_cc C.z) dScript_lineOfMissingLabel_21 ?_
      refine w_astore_n (lv' := [(2, va_rf v18), (0, va_rf y0), (1, .int y1)]) C.x C.b dScript_lineOfMissingLabel_24 rfl hl (by decide) rfl (fun ls hl => ?_)
      refine w_aload_n C.x C.b dScript_lineOfMissingLabel_25 rfl (lv_at hl 0 rfl) ?_
      obtain ⟨v26, h26, hf⟩ := Option.bind_eq_some_iff.mp hf
      refine w_getI C M h26 rfl (hm_in in_Stat) (by decide) (List.mem_cons_of_mem _ wm_457) rfl dScript_lineOfMissingLabel_26 ?_
      refine lv_iconst (v := (-1)) C.x C.b dScript_lineOfMissingLabel_29 (by decide) ?_
      refine lv_icmp_eq (tgt := 50) C.x C.b dScript_lineOfMissingLabel_30 (by decide) (fun c30 => ?_) (fun c30 => ?_)
      · rw [if_pos c30] at hf
        exact b_Script_lineOfMissingLabel_50 C hr hlk hnm (f_Script_lineOfMissingLabel_b2 N E n) ih _ _ _ _ _ M (lv_sub hl [1, 2] rfl) hf
      · rw [if_neg c30] at hf
        refine w_aload_n C.x C.b dScript_lineOfMissingLabel_33 rfl (lv_at hl 1 rfl) ?_
        refine w_aload_n C.x C.b dScript_lineOfMissingLabel_34 rfl (lv_at hl 0 rfl) ?_
        obtain ⟨v35, h35, hf⟩ := Option.bind_eq_some_iff.mp hf
        refine w_getI C M h35 rfl (hm_in in_Stat) (by decide) (List.mem_cons_of_mem _ wm_457) rfl dScript_lineOfMissingLabel_35 ?_
        obtain ⟨o38, g38, hf⟩ := Option.bind_eq_some_iff.mp hf
        obtain ⟨v38, h38, hf⟩ := Option.bind_eq_some_iff.mp hf
        refine w_ci M (w_runV C M g38 rfl (c_Script_placeOf h38) (cwV 1 C.ts (hgV wm_545 wm_546 wm_547 wm_7 wm_548) rfl rfl rfl (by decide +kernel) ⟨Nat.le_of_ble_eq_true rfl, Nat.le_of_ble_eq_true rfl⟩) rfl hl.1 rfl (Nat.zero_le _) dScript_lineOfMissingLabel_38 ⟨Nat.le_refl _, Nat.le_refl _⟩) (fun H locs M => ?_)
        refine lv_iconst (v := (-1)) C.x C.b dScript_lineOfMissingLabel_41 (by decide) ?_
        refine lv_icmp_ne (tgt := 50) C.x C.b dScript_lineOfMissingLabel_42 (by decide) (fun c42 => ?_) (fun c42 => ?_)
        · rw [if_neg c42] at hf
          exact b_Script_lineOfMissingLabel_50 C hr hlk hnm (f_Script_lineOfMissingLabel_b2 N E n) ih _ _ _ _ _ M (lv_sub hl [1, 2] rfl) hf
        · rw [if_pos c42] at hf
          refine w_aload_n C.x C.b dScript_lineOfMissingLabel_45 rfl (lv_at hl 0 rfl) ?_
          obtain ⟨v46, h46, hf⟩ := Option.bind_eq_some_iff.mp hf
          refine w_getI C M h46 rfl (hm_in in_Stat) (by decide) (List.mem_cons_of_mem _ wm_444) rfl dScript_lineOfMissingLabel_46 ?_
          cases hf
          exact w_iret C M hr hlk rfl (Nat.le_refl _) (Nat.le_refl _) dScript_lineOfMissingLabel_49 rfl rfl
def f_Script_lineOfMissingLabel (N : Nat) (E : hE) (x0 : Nat) : Option (Int32) := (
  f_Script_lineOfMissingLabel_b2 N E N (some x0) 0)
set_option maxHeartbeats 4000000 in
set_option maxRecDepth 100000 in
theorem c_Script_lineOfMissingLabel {l : Launch} {D : va_G} {kA : Nat → ClassId} {S : hE} {g : Nat → Nat} {n0 nx : Nat} {N : Nat} {x0 : Nat} {E : hE} {res : Int32} (hf : f_Script_lineOfMissingLabel N E x0 = some res) : Met l y_Script_lineOfMissingLabel ws_Script_lineOfMissingLabel rm_Script_lineOfMissingLabel (va_Pc [va_rf (some x0)] (hJ D kA S g n0 (E, nx))) (va_Qi (fun r w => r = res ∧ w = (E, nx)) (hJ D kA S g n0) (fun q => n0 ≤ q)) 0 0 (fun q => n0 ≤ q) := by
  refine h_met (cc := prog_7_method_5_code) (maxL := 3) (ret := (some .int)) (lvs := [(0, va_rf (some x0))]) zZ_k (by decide) rfl (by simp [lg_sl, va_rf_cat, cat_i, cat_l, cat_n]) (by simp [lv_args, va_rf_cat, cat_i, cat_l, cat_n]) ?_
  intro p e s m below meth c ls C M hr hlk hnm hl
  unfold f_Script_lineOfMissingLabel at hf
  refine lv_iconst (v := 0) C.x C.b dScript_lineOfMissingLabel_0 (by decide) ?_
  refine lv_istore_n (lv' := [(1, .int 0), (0, va_rf (some x0))]) C.x C.b dScript_lineOfMissingLabel_1 rfl hl (by decide) rfl (fun ls hl => ?_)
  exact b_Script_lineOfMissingLabel_2 C hr hlk hnm N _ _ _ _ _ M (lv_sub hl [1, 0] rfl) hf
