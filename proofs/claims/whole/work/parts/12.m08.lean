/-! m08: by wip/whole/gen.py -/
theorem dMach_perform_0 : decode prog_5_method_6_code 0 = .ok (.aload_n 3, 1) := by decide +kernel
theorem dMach_perform_1 : decode prog_5_method_6_code 1 = .ok (.aload_n 1, 1) := by decide +kernel
theorem dMach_perform_2 : decode prog_5_method_6_code 2 = .ok (.getfield 107, 3) := by decide +kernel
theorem dMach_perform_5 : decode prog_5_method_6_code 5 = .ok (.invokevirtual 110, 3) := by decide +kernel
theorem dMach_perform_8 : decode prog_5_method_6_code 8 = .ok (.istore 4, 2) := by decide +kernel
theorem dMach_perform_10 : decode prog_5_method_6_code 10 = .ok (.aload_n 3, 1) := by decide +kernel
theorem dMach_perform_11 : decode prog_5_method_6_code 11 = .ok (.aload_n 1, 1) := by decide +kernel
theorem dMach_perform_12 : decode prog_5_method_6_code 12 = .ok (.getfield 114, 3) := by decide +kernel
theorem dMach_perform_15 : decode prog_5_method_6_code 15 = .ok (.invokevirtual 110, 3) := by decide +kernel
theorem dMach_perform_18 : decode prog_5_method_6_code 18 = .ok (.istore 5, 2) := by decide +kernel
theorem dMach_perform_20 : decode prog_5_method_6_code 20 = .ok (.getstatic 117, 3) := by decide +kernel
theorem dMach_perform_23 : decode prog_5_method_6_code 23 = .ok (.aload_n 1, 1) := by decide +kernel
theorem dMach_perform_24 : decode prog_5_method_6_code 24 = .ok (.getfield 123, 3) := by decide +kernel
theorem dMach_perform_27 : decode prog_5_method_6_code 27 = .ok (.invokevirtual 127, 3) := by decide +kernel
theorem dMach_perform_30 : decode prog_5_method_6_code 30 = .ok (.iaload, 1) := by decide +kernel
theorem dMach_perform_31 : decode prog_5_method_6_code 31 = .ok (.tableswitch 308 1 18 #[85, 97, 107, 118, 127, 139, 153, 162, 169, 178, 188, 198, 212, 240, 262, 276, 290, 302], 85) := by decide +kernel
theorem dMach_perform_116 : decode prog_5_method_6_code 116 = .ok (.aload_n 3, 1) := by decide +kernel
theorem dMach_perform_117 : decode prog_5_method_6_code 117 = .ok (.aload_n 1, 1) := by decide +kernel
theorem dMach_perform_118 : decode prog_5_method_6_code 118 = .ok (.getfield 133, 3) := by decide +kernel
theorem dMach_perform_121 : decode prog_5_method_6_code 121 = .ok (.iload 4, 2) := by decide +kernel
theorem dMach_perform_123 : decode prog_5_method_6_code 123 = .ok (.invokevirtual 136, 3) := by decide +kernel
theorem dMach_perform_126 : decode prog_5_method_6_code 126 = .ok (.iconst (-1), 1) := by decide +kernel
theorem dMach_perform_127 : decode prog_5_method_6_code 127 = .ok (.ireturn, 1) := by decide +kernel
theorem dMach_perform_128 : decode prog_5_method_6_code 128 = .ok (.aload_n 3, 1) := by decide +kernel
theorem dMach_perform_129 : decode prog_5_method_6_code 129 = .ok (.aload_n 1, 1) := by decide +kernel
theorem dMach_perform_130 : decode prog_5_method_6_code 130 = .ok (.iload 4, 2) := by decide +kernel
theorem dMach_perform_132 : decode prog_5_method_6_code 132 = .ok (.iload 5, 2) := by decide +kernel
theorem dMach_perform_134 : decode prog_5_method_6_code 134 = .ok (.invokestatic 140, 3) := by decide +kernel
theorem dMach_perform_137 : decode prog_5_method_6_code 137 = .ok (.ireturn, 1) := by decide +kernel
theorem dMach_perform_138 : decode prog_5_method_6_code 138 = .ok (.aload_n 3, 1) := by decide +kernel
theorem dMach_perform_139 : decode prog_5_method_6_code 139 = .ok (.aload_n 1, 1) := by decide +kernel
theorem dMach_perform_140 : decode prog_5_method_6_code 140 = .ok (.getfield 133, 3) := by decide +kernel
theorem dMach_perform_143 : decode prog_5_method_6_code 143 = .ok (.iload 4, 2) := by decide +kernel
theorem dMach_perform_145 : decode prog_5_method_6_code 145 = .ok (.invokestatic 144, 3) := by decide +kernel
theorem dMach_perform_148 : decode prog_5_method_6_code 148 = .ok (.ireturn, 1) := by decide +kernel
theorem dMach_perform_149 : decode prog_5_method_6_code 149 = .ok (.aload_n 3, 1) := by decide +kernel
theorem dMach_perform_150 : decode prog_5_method_6_code 150 = .ok (.iload 4, 2) := by decide +kernel
theorem dMach_perform_152 : decode prog_5_method_6_code 152 = .ok (.iload 5, 2) := by decide +kernel
theorem dMach_perform_154 : decode prog_5_method_6_code 154 = .ok (.invokestatic 148, 3) := by decide +kernel
theorem dMach_perform_157 : decode prog_5_method_6_code 157 = .ok (.ireturn, 1) := by decide +kernel
theorem dMach_perform_158 : decode prog_5_method_6_code 158 = .ok (.aload_n 0, 1) := by decide +kernel
theorem dMach_perform_159 : decode prog_5_method_6_code 159 = .ok (.aload_n 3, 1) := by decide +kernel
theorem dMach_perform_160 : decode prog_5_method_6_code 160 = .ok (.aload_n 1, 1) := by decide +kernel
theorem dMach_perform_161 : decode prog_5_method_6_code 161 = .ok (.getfield 133, 3) := by decide +kernel
theorem dMach_perform_164 : decode prog_5_method_6_code 164 = .ok (.iload 4, 2) := by decide +kernel
theorem dMach_perform_166 : decode prog_5_method_6_code 166 = .ok (.invokevirtual 151, 3) := by decide +kernel
theorem dMach_perform_169 : decode prog_5_method_6_code 169 = .ok (.ireturn, 1) := by decide +kernel
theorem dMach_perform_170 : decode prog_5_method_6_code 170 = .ok (.aload_n 0, 1) := by decide +kernel
theorem dMach_perform_171 : decode prog_5_method_6_code 171 = .ok (.aload_n 3, 1) := by decide +kernel
theorem dMach_perform_172 : decode prog_5_method_6_code 172 = .ok (.aload_n 1, 1) := by decide +kernel
theorem dMach_perform_173 : decode prog_5_method_6_code 173 = .ok (.getfield 133, 3) := by decide +kernel
theorem dMach_perform_176 : decode prog_5_method_6_code 176 = .ok (.iload 4, 2) := by decide +kernel
theorem dMach_perform_178 : decode prog_5_method_6_code 178 = .ok (.iload 5, 2) := by decide +kernel
theorem dMach_perform_180 : decode prog_5_method_6_code 180 = .ok (.invokevirtual 154, 3) := by decide +kernel
theorem dMach_perform_183 : decode prog_5_method_6_code 183 = .ok (.ireturn, 1) := by decide +kernel
theorem dMach_perform_184 : decode prog_5_method_6_code 184 = .ok (.aload_n 0, 1) := by decide +kernel
theorem dMach_perform_185 : decode prog_5_method_6_code 185 = .ok (.iload 4, 2) := by decide +kernel
theorem dMach_perform_187 : decode prog_5_method_6_code 187 = .ok (.iload 5, 2) := by decide +kernel
theorem dMach_perform_189 : decode prog_5_method_6_code 189 = .ok (.invokevirtual 158, 3) := by decide +kernel
theorem dMach_perform_192 : decode prog_5_method_6_code 192 = .ok (.ireturn, 1) := by decide +kernel
theorem dMach_perform_193 : decode prog_5_method_6_code 193 = .ok (.aload_n 0, 1) := by decide +kernel
theorem dMach_perform_194 : decode prog_5_method_6_code 194 = .ok (.iload 4, 2) := by decide +kernel
theorem dMach_perform_196 : decode prog_5_method_6_code 196 = .ok (.invokevirtual 161, 3) := by decide +kernel
theorem dMach_perform_199 : decode prog_5_method_6_code 199 = .ok (.ireturn, 1) := by decide +kernel
theorem dMach_perform_200 : decode prog_5_method_6_code 200 = .ok (.aload_n 0, 1) := by decide +kernel
theorem dMach_perform_201 : decode prog_5_method_6_code 201 = .ok (.iload 4, 2) := by decide +kernel
theorem dMach_perform_203 : decode prog_5_method_6_code 203 = .ok (.iload 5, 2) := by decide +kernel
theorem dMach_perform_205 : decode prog_5_method_6_code 205 = .ok (.invokevirtual 164, 3) := by decide +kernel
theorem dMach_perform_208 : decode prog_5_method_6_code 208 = .ok (.ireturn, 1) := by decide +kernel
theorem dMach_perform_209 : decode prog_5_method_6_code 209 = .ok (.aload_n 0, 1) := by decide +kernel
theorem dMach_perform_210 : decode prog_5_method_6_code 210 = .ok (.getfield 26, 3) := by decide +kernel
theorem dMach_perform_213 : decode prog_5_method_6_code 213 = .ok (.iload 4, 2) := by decide +kernel
theorem dMach_perform_215 : decode prog_5_method_6_code 215 = .ok (.invokestatic 167, 3) := by decide +kernel
theorem dMach_perform_218 : decode prog_5_method_6_code 218 = .ok (.ireturn, 1) := by decide +kernel
theorem dMach_perform_219 : decode prog_5_method_6_code 219 = .ok (.aload_n 0, 1) := by decide +kernel
theorem dMach_perform_220 : decode prog_5_method_6_code 220 = .ok (.getfield 30, 3) := by decide +kernel
theorem dMach_perform_223 : decode prog_5_method_6_code 223 = .ok (.iload 4, 2) := by decide +kernel
theorem dMach_perform_225 : decode prog_5_method_6_code 225 = .ok (.invokestatic 167, 3) := by decide +kernel
theorem dMach_perform_228 : decode prog_5_method_6_code 228 = .ok (.ireturn, 1) := by decide +kernel
theorem dMach_perform_229 : decode prog_5_method_6_code 229 = .ok (.aload_n 3, 1) := by decide +kernel
theorem dMach_perform_230 : decode prog_5_method_6_code 230 = .ok (.aload_n 2, 1) := by decide +kernel
theorem dMach_perform_231 : decode prog_5_method_6_code 231 = .ok (.aload_n 1, 1) := by decide +kernel
theorem dMach_perform_232 : decode prog_5_method_6_code 232 = .ok (.getfield 171, 3) := by decide +kernel
theorem dMach_perform_235 : decode prog_5_method_6_code 235 = .ok (.invokevirtual 174, 3) := by decide +kernel
theorem dMach_perform_238 : decode prog_5_method_6_code 238 = .ok (.putfield 87, 3) := by decide +kernel
theorem dMach_perform_241 : decode prog_5_method_6_code 241 = .ok (.iconst (-1), 1) := by decide +kernel
theorem dMach_perform_242 : decode prog_5_method_6_code 242 = .ok (.ireturn, 1) := by decide +kernel
theorem dMach_perform_243 : decode prog_5_method_6_code 243 = .ok (.iload 4, 2) := by decide +kernel
theorem dMach_perform_245 : decode prog_5_method_6_code 245 = .ok (.aload_n 1, 1) := by decide +kernel
theorem dMach_perform_246 : decode prog_5_method_6_code 246 = .ok (.getfield 177, 3) := by decide +kernel
theorem dMach_perform_249 : decode prog_5_method_6_code 249 = .ok (.iload 5, 2) := by decide +kernel
theorem dMach_perform_251 : decode prog_5_method_6_code 251 = .ok (.invokestatic 180, 3) := by decide +kernel
theorem dMach_perform_254 : decode prog_5_method_6_code 254 = .ok (.ifCond .eq 15, 3) := by decide +kernel
theorem dMach_perform_257 : decode prog_5_method_6_code 257 = .ok (.aload_n 3, 1) := by decide +kernel
theorem dMach_perform_258 : decode prog_5_method_6_code 258 = .ok (.aload_n 2, 1) := by decide +kernel
theorem dMach_perform_259 : decode prog_5_method_6_code 259 = .ok (.aload_n 1, 1) := by decide +kernel
theorem dMach_perform_260 : decode prog_5_method_6_code 260 = .ok (.getfield 171, 3) := by decide +kernel
theorem dMach_perform_263 : decode prog_5_method_6_code 263 = .ok (.invokevirtual 174, 3) := by decide +kernel
theorem dMach_perform_266 : decode prog_5_method_6_code 266 = .ok (.putfield 87, 3) := by decide +kernel
theorem dMach_perform_269 : decode prog_5_method_6_code 269 = .ok (.iconst (-1), 1) := by decide +kernel
theorem dMach_perform_270 : decode prog_5_method_6_code 270 = .ok (.ireturn, 1) := by decide +kernel
theorem dMach_perform_271 : decode prog_5_method_6_code 271 = .ok (.aload_n 3, 1) := by decide +kernel
theorem dMach_perform_272 : decode prog_5_method_6_code 272 = .ok (.aload_n 2, 1) := by decide +kernel
theorem dMach_perform_273 : decode prog_5_method_6_code 273 = .ok (.aload_n 1, 1) := by decide +kernel
theorem dMach_perform_274 : decode prog_5_method_6_code 274 = .ok (.getfield 171, 3) := by decide +kernel
theorem dMach_perform_277 : decode prog_5_method_6_code 277 = .ok (.invokevirtual 174, 3) := by decide +kernel
theorem dMach_perform_280 : decode prog_5_method_6_code 280 = .ok (.invokevirtual 184, 3) := by decide +kernel
theorem dMach_perform_283 : decode prog_5_method_6_code 283 = .ok (.ifCond .eq 7, 3) := by decide +kernel
theorem dMach_perform_286 : decode prog_5_method_6_code 286 = .ok (.iconst (-1), 1) := by decide +kernel
theorem dMach_perform_287 : decode prog_5_method_6_code 287 = .ok (.goto 5, 3) := by decide +kernel
theorem dMach_perform_290 : decode prog_5_method_6_code 290 = .ok (.bipush 105, 2) := by decide +kernel
theorem dMach_perform_292 : decode prog_5_method_6_code 292 = .ok (.ireturn, 1) := by decide +kernel
theorem dMach_perform_293 : decode prog_5_method_6_code 293 = .ok (.aload_n 3, 1) := by decide +kernel
theorem dMach_perform_294 : decode prog_5_method_6_code 294 = .ok (.invokevirtual 188, 3) := by decide +kernel
theorem dMach_perform_297 : decode prog_5_method_6_code 297 = .ok (.ifCond .eq 7, 3) := by decide +kernel
theorem dMach_perform_300 : decode prog_5_method_6_code 300 = .ok (.iconst (-1), 1) := by decide +kernel
theorem dMach_perform_301 : decode prog_5_method_6_code 301 = .ok (.goto 5, 3) := by decide +kernel
theorem dMach_perform_304 : decode prog_5_method_6_code 304 = .ok (.bipush 105, 2) := by decide +kernel
theorem dMach_perform_306 : decode prog_5_method_6_code 306 = .ok (.ireturn, 1) := by decide +kernel
theorem dMach_perform_307 : decode prog_5_method_6_code 307 = .ok (.aload_n 0, 1) := by decide +kernel
theorem dMach_perform_308 : decode prog_5_method_6_code 308 = .ok (.aload_n 3, 1) := by decide +kernel
theorem dMach_perform_309 : decode prog_5_method_6_code 309 = .ok (.aload_n 1, 1) := by decide +kernel
theorem dMach_perform_310 : decode prog_5_method_6_code 310 = .ok (.getfield 133, 3) := by decide +kernel
theorem dMach_perform_313 : decode prog_5_method_6_code 313 = .ok (.iload 4, 2) := by decide +kernel
theorem dMach_perform_315 : decode prog_5_method_6_code 315 = .ok (.iload 5, 2) := by decide +kernel
theorem dMach_perform_317 : decode prog_5_method_6_code 317 = .ok (.invokevirtual 192, 3) := by decide +kernel
theorem dMach_perform_320 : decode prog_5_method_6_code 320 = .ok (.ireturn, 1) := by decide +kernel
theorem dMach_perform_321 : decode prog_5_method_6_code 321 = .ok (.aload_n 0, 1) := by decide +kernel
theorem dMach_perform_322 : decode prog_5_method_6_code 322 = .ok (.aload_n 3, 1) := by decide +kernel
theorem dMach_perform_323 : decode prog_5_method_6_code 323 = .ok (.aload_n 1, 1) := by decide +kernel
theorem dMach_perform_324 : decode prog_5_method_6_code 324 = .ok (.getfield 133, 3) := by decide +kernel
theorem dMach_perform_327 : decode prog_5_method_6_code 327 = .ok (.iload 4, 2) := by decide +kernel
theorem dMach_perform_329 : decode prog_5_method_6_code 329 = .ok (.invokevirtual 195, 3) := by decide +kernel
theorem dMach_perform_332 : decode prog_5_method_6_code 332 = .ok (.ireturn, 1) := by decide +kernel
theorem dMach_perform_333 : decode prog_5_method_6_code 333 = .ok (.iload 4, 2) := by decide +kernel
theorem dMach_perform_335 : decode prog_5_method_6_code 335 = .ok (.bipush 63, 2) := by decide +kernel
theorem dMach_perform_337 : decode prog_5_method_6_code 337 = .ok (.iand, 1) := by decide +kernel
theorem dMach_perform_338 : decode prog_5_method_6_code 338 = .ok (.ireturn, 1) := by decide +kernel
theorem dMach_perform_339 : decode prog_5_method_6_code 339 = .ok (.iconst (-1), 1) := by decide +kernel
theorem dMach_perform_340 : decode prog_5_method_6_code 340 = .ok (.ireturn, 1) := by decide +kernel
abbrev rm_Mach_perform (fr lo : Nat) : Room := { frames := fr + 3, cells := 0, slots := 0, locals := lo + 86 }
def f_Mach_perform_b306 (S : hE) (g : Nat → Nat) (N : Nat) (fol : Nat → Option Nat → Option Nat → Int32 → hE → Option (Int32 × hE)) (t0 : Int32) (E : hE) : Option (Int32 × hE) := (
  some (t0, E))
set_option maxHeartbeats 4000000 in
set_option maxRecDepth 100000 in
theorem b_Mach_perform_306 {p : Program} {l : Launch} {e : Env} {s : State} {m : MethodId} {args : Array Value} {below : List Frame} {meth : Method} {c : Code} {D : va_G} {kA : Nat → ClassId} {S : hE} {g : Nat → Nat} {n0 nx : Nat} {N : Nat} {fr lo : Nat} {res : Int32 × hE} (C : hX p s m args c prog_5_method_6_code 6 R_Mach ws_Mach_perform D kA S g n0) (hr : meth.sig.returnType = (some .int)) (hlk : meth.locks = false) (hnm : meth.name = "perform") (fol : Nat → Option Nat → Option Nat → Int32 → hE → Option (Int32 × hE)) (hfol : ∀ {x0 : Nat} {x1 x2 : Option Nat} {x3 : Int32} {E : hE} {res : Int32 × hE}, fol x0 x1 x2 x3 E = some res → Met l y_Mach_follow ws_Mach_follow { frames := fr, cells := 0, slots := 0, locals := lo } (va_Pc [va_rf (some x0), va_rf x1, va_rf x2, .int x3] (hJ D kA S g n0 (E, nx))) (va_Qi (fun r w => r = res.1 ∧ w = (res.2, nx)) (hJ D kA S g n0) (fun q => n0 ≤ q)) 0 0 (fun q => n0 ≤ q)) : ∀ (t0 : Int32) (E : hE) (H : Heap) (locs : List Loc) (ls : Array Slot), hY D kA n0 s E nx H locs → lv_has ls 6 [] → f_Mach_perform_b306 S g N fol  t0 E = some res → W p l e (rm_Mach_perform fr lo) s m args below meth c H locs 0 0 (MQ below (va_Qi (fun r w => r = res.1 ∧ w = (res.2, nx)) (hJ D kA S g n0) (fun q => n0 ≤ q)) args s 0 0 (fun q => n0 ≤ q)) (F0 m 306 ls [.int t0]) := by
  intro t0 E H locs ls M hl hf
  unfold f_Mach_perform_b306 at hf
  cases hf
  exact w_iret C M hr hlk rfl (Nat.le_refl _) (Nat.le_refl _) dMach_perform_306 rfl rfl
def f_Mach_perform_b292 (S : hE) (g : Nat → Nat) (N : Nat) (fol : Nat → Option Nat → Option Nat → Int32 → hE → Option (Int32 × hE)) (t0 : Int32) (E : hE) : Option (Int32 × hE) := (
  some (t0, E))
set_option maxHeartbeats 4000000 in
set_option maxRecDepth 100000 in
theorem b_Mach_perform_292 {p : Program} {l : Launch} {e : Env} {s : State} {m : MethodId} {args : Array Value} {below : List Frame} {meth : Method} {c : Code} {D : va_G} {kA : Nat → ClassId} {S : hE} {g : Nat → Nat} {n0 nx : Nat} {N : Nat} {fr lo : Nat} {res : Int32 × hE} (C : hX p s m args c prog_5_method_6_code 6 R_Mach ws_Mach_perform D kA S g n0) (hr : meth.sig.returnType = (some .int)) (hlk : meth.locks = false) (hnm : meth.name = "perform") (fol : Nat → Option Nat → Option Nat → Int32 → hE → Option (Int32 × hE)) (hfol : ∀ {x0 : Nat} {x1 x2 : Option Nat} {x3 : Int32} {E : hE} {res : Int32 × hE}, fol x0 x1 x2 x3 E = some res → Met l y_Mach_follow ws_Mach_follow { frames := fr, cells := 0, slots := 0, locals := lo } (va_Pc [va_rf (some x0), va_rf x1, va_rf x2, .int x3] (hJ D kA S g n0 (E, nx))) (va_Qi (fun r w => r = res.1 ∧ w = (res.2, nx)) (hJ D kA S g n0) (fun q => n0 ≤ q)) 0 0 (fun q => n0 ≤ q)) : ∀ (t0 : Int32) (E : hE) (H : Heap) (locs : List Loc) (ls : Array Slot), hY D kA n0 s E nx H locs → lv_has ls 6 [] → f_Mach_perform_b292 S g N fol  t0 E = some res → W p l e (rm_Mach_perform fr lo) s m args below meth c H locs 0 0 (MQ below (va_Qi (fun r w => r = res.1 ∧ w = (res.2, nx)) (hJ D kA S g n0) (fun q => n0 ≤ q)) args s 0 0 (fun q => n0 ≤ q)) (F0 m 292 ls [.int t0]) := by
  intro t0 E H locs ls M hl hf
  unfold f_Mach_perform_b292 at hf
  cases hf
  exact w_iret C M hr hlk rfl (Nat.le_refl _) (Nat.le_refl _) dMach_perform_292 rfl rfl
def f_Mach_perform_b269 (S : hE) (g : Nat → Nat) (N : Nat) (fol : Nat → Option Nat → Option Nat → Int32 → hE → Option (Int32 × hE)) (E : hE) : Option (Int32 × hE) := (
  some ((-1), E))
set_option maxHeartbeats 4000000 in
set_option maxRecDepth 100000 in
theorem b_Mach_perform_269 {p : Program} {l : Launch} {e : Env} {s : State} {m : MethodId} {args : Array Value} {below : List Frame} {meth : Method} {c : Code} {D : va_G} {kA : Nat → ClassId} {S : hE} {g : Nat → Nat} {n0 nx : Nat} {N : Nat} {fr lo : Nat} {res : Int32 × hE} (C : hX p s m args c prog_5_method_6_code 6 R_Mach ws_Mach_perform D kA S g n0) (hr : meth.sig.returnType = (some .int)) (hlk : meth.locks = false) (hnm : meth.name = "perform") (fol : Nat → Option Nat → Option Nat → Int32 → hE → Option (Int32 × hE)) (hfol : ∀ {x0 : Nat} {x1 x2 : Option Nat} {x3 : Int32} {E : hE} {res : Int32 × hE}, fol x0 x1 x2 x3 E = some res → Met l y_Mach_follow ws_Mach_follow { frames := fr, cells := 0, slots := 0, locals := lo } (va_Pc [va_rf (some x0), va_rf x1, va_rf x2, .int x3] (hJ D kA S g n0 (E, nx))) (va_Qi (fun r w => r = res.1 ∧ w = (res.2, nx)) (hJ D kA S g n0) (fun q => n0 ≤ q)) 0 0 (fun q => n0 ≤ q)) : ∀  (E : hE) (H : Heap) (locs : List Loc) (ls : Array Slot), hY D kA n0 s E nx H locs → lv_has ls 6 [] → f_Mach_perform_b269 S g N fol  E = some res → W p l e (rm_Mach_perform fr lo) s m args below meth c H locs 0 0 (MQ below (va_Qi (fun r w => r = res.1 ∧ w = (res.2, nx)) (hJ D kA S g n0) (fun q => n0 ≤ q)) args s 0 0 (fun q => n0 ≤ q)) (F0 m 269 ls []) := by
  intro E H locs ls M hl hf
  unfold f_Mach_perform_b269 at hf
  refine lv_iconst (v := (-1)) C.x C.b dMach_perform_269 (by decide) ?_
  cases hf
  exact w_iret C M hr hlk rfl (Nat.le_refl _) (Nat.le_refl _) dMach_perform_270 rfl rfl
def f_Mach_perform (S : hE) (g : Nat → Nat) (N : Nat) (fol : Nat → Option Nat → Option Nat → Int32 → hE → Option (Int32 × hE)) (x0 : Nat) (x1 : Option Nat) (x2 : Option Nat) (x3 : Option Nat) (E : hE) : Option (Int32 × hE) := (
  (gI E x1 4 3).bind fun v2 =>
  (gO E x3 1).bind fun o5 =>
  (f_Frame_valueOf E o5.1 v2).bind fun v5 =>
  (gI E x1 4 5).bind fun v12 =>
  (gO E x3 1).bind fun o15 =>
  (f_Frame_valueOf E o15.1 v12).bind fun v15 =>
  (gR E x1 4 1).bind fun v24 =>
  (gI (So S) v24 101 0).bind fun v27 =>
  (aI (Sa S) (some (g 2)) 102 v27).bind fun v30 =>
  if v30 = 1 then (
  (gI E x1 4 2).bind fun v118 =>
  (gO E x3 1).bind fun o123 =>
  (f_Frame_set o123.1 v118 v5 E).bind fun v123 =>
  some ((-1), v123)
  ) else (
  if v30 = 2 then (
  (f_Mach_calculate x3 x1 v5 v15 E).bind fun v134 =>
  some (v134.1, v134.2)
  ) else (
  if v30 = 3 then (
  (gI E x1 4 2).bind fun v140 =>
  (f_Mach_getCell x3 v140 v5 E).bind fun v145 =>
  some (v145.1, v145.2)
  ) else (
  if v30 = 4 then (
  (f_Mach_putCell x3 v5 v15 E).bind fun v154 =>
  some (v154.1, v154.2)
  ) else (
  if v30 = 5 then (
  (gI E x1 4 2).bind fun v161 =>
  (gO E (some x0) 2).bind fun o166 =>
  (f_Mach_sizeFile o166.1 x3 v161 v5 E).bind fun v166 =>
  some (v166.1, v166.2)
  ) else (
  if v30 = 6 then (
  (gI E x1 4 2).bind fun v173 =>
  (gO E (some x0) 2).bind fun o180 =>
  (f_Mach_readFile o180.1 x3 v173 v5 v15 E).bind fun v180 =>
  some (v180.1, v180.2)
  ) else (
  if v30 = 7 then (
  (gO E (some x0) 2).bind fun o189 =>
  (f_Mach_writeFile o189.1 v5 v15 E).bind fun v189 =>
  some (v189.1, v189.2)
  ) else (
  if v30 = 8 then (
  (gO E (some x0) 2).bind fun o196 =>
  (f_Mach_dropFile o196.1 v5 E).bind fun v196 =>
  some (v196.1, v196.2)
  ) else (
  if v30 = 9 then (
  (gO E (some x0) 2).bind fun o205 =>
  (f_Mach_copyFile o205.1 v5 v15 E).bind fun v205 =>
  some (v205.1, v205.2)
  ) else (
  if v30 = 10 then (
  (gR E (some x0) 2 2).bind fun v210 =>
  (f_Mach_speak v210 v5 E).bind fun v215 =>
  some (v215.1, v215.2)
  ) else (
  if v30 = 11 then (
  (gR E (some x0) 2 3).bind fun v220 =>
  (f_Mach_speak v220 v5 E).bind fun v225 =>
  some (v225.1, v225.2)
  ) else (
  if v30 = 12 then (
  (gI E x1 4 6).bind fun v232 =>
  (gO E x2 3).bind fun o235 =>
  (f_Script_placeOf E o235.1 v232).bind fun v235 =>
  (sI E x3 1 5 v235).bind fun E238 =>
  some ((-1), E238)
  ) else (
  if v30 = 13 then (
  (gI E x1 4 4).bind fun v246 =>
  (f_Mach_holds E v5 v246 v15).bind fun v251 =>
  if v251 = 0 then (
  f_Mach_perform_b269 S g N fol E
  ) else (
  (gI E x1 4 6).bind fun v260 =>
  (gO E x2 3).bind fun o263 =>
  (f_Script_placeOf E o263.1 v260).bind fun v263 =>
  (sI E x3 1 5 v263).bind fun E266 =>
  f_Mach_perform_b269 S g N fol E266
  )
  ) else (
  if v30 = 14 then (
  (gI E x1 4 6).bind fun v274 =>
  (gO E x2 3).bind fun o277 =>
  (f_Script_placeOf E o277.1 v274).bind fun v277 =>
  (gO E x3 1).bind fun o280 =>
  (f_Frame_call o280.1 v277 E).bind fun v280 =>
  if v280.1 = 0 then (
  f_Mach_perform_b292 S g N fol 105 v280.2
  ) else (
  f_Mach_perform_b292 S g N fol (-1) v280.2
  )
  ) else (
  if v30 = 15 then (
  (gO E x3 1).bind fun o294 =>
  (f_Frame_comeBack o294.1 E).bind fun v294 =>
  if v294.1 = 0 then (
  f_Mach_perform_b306 S g N fol 105 v294.2
  ) else (
  f_Mach_perform_b306 S g N fol (-1) v294.2
  )
  ) else (
  if v30 = 16 then (
  (gI E x1 4 2).bind fun v310 =>
  (gO E (some x0) 2).bind fun o317 =>
  (f_Mach_runChild N fol o317.1 x3 v310 v5 v15 E).bind fun v317 =>
  some (v317.1, v317.2)
  ) else (
  if v30 = 17 then (
  (gI E x1 4 2).bind fun v324 =>
  (gO E (some x0) 2).bind fun o329 =>
  (f_Mach_ask o329.1 x3 v324 v5 E).bind fun v329 =>
  some (v329.1, v329.2)
  ) else (
  if v30 = 18 then (
  some (v5 &&& 63, E)
  ) else (
  some ((-1), E)
  )))))))))))))))))))
set_option maxHeartbeats 4000000 in
set_option maxRecDepth 100000 in
theorem c_Mach_perform {l : Launch} {D : va_G} {kA : Nat → ClassId} {S : hE} {g : Nat → Nat} {n0 nx : Nat} {N : Nat} {fr lo : Nat} {x0 : Nat} {x1 : Option Nat} {x2 : Option Nat} {x3 : Option Nat} {E : hE} {res : Int32 × hE} {fol : Nat → Option Nat → Option Nat → Int32 → hE → Option (Int32 × hE)} (hfol : ∀ {x0 : Nat} {x1 x2 : Option Nat} {x3 : Int32} {E : hE} {res : Int32 × hE}, fol x0 x1 x2 x3 E = some res → Met l y_Mach_follow ws_Mach_follow { frames := fr, cells := 0, slots := 0, locals := lo } (va_Pc [va_rf (some x0), va_rf x1, va_rf x2, .int x3] (hJ D kA S g n0 (E, nx))) (va_Qi (fun r w => r = res.1 ∧ w = (res.2, nx)) (hJ D kA S g n0) (fun q => n0 ≤ q)) 0 0 (fun q => n0 ≤ q)) (hf : f_Mach_perform S g N fol x0 x1 x2 x3 E = some res) : Met l y_Mach_perform ws_Mach_perform (rm_Mach_perform fr lo) (va_Pc [va_rf (some x0), va_rf x1, va_rf x2, va_rf x3] (hJ D kA S g n0 (E, nx))) (va_Qi (fun r w => r = res.1 ∧ w = (res.2, nx)) (hJ D kA S g n0) (fun q => n0 ≤ q)) 0 0 (fun q => n0 ≤ q) := by
  refine h_met (cc := prog_5_method_6_code) (maxL := 6) (ret := (some .int)) (lvs := [(0, va_rf (some x0)), (1, va_rf x1), (2, va_rf x2), (3, va_rf x3)]) zZ_k (by decide) rfl (by simp [lg_sl, va_rf_cat, cat_i, cat_l, cat_n]) (by simp [lv_args, va_rf_cat, cat_i, cat_l, cat_n]) ?_
  intro p e s m below meth c ls C M hr hlk hnm hl
  unfold f_Mach_perform at hf
  refine w_aload_n C.x C.b dMach_perform_0 rfl (lv_at hl 3 rfl) ?_
  refine w_aload_n C.x C.b dMach_perform_1 rfl (lv_at hl 1 rfl) ?_
  obtain ⟨v2, h2, hf⟩ := Option.bind_eq_some_iff.mp hf
  refine w_getI C M h2 rfl (hm_in in_Stat) (by decide) (List.mem_cons_of_mem _ wm_451) rfl dMach_perform_2 ?_
  obtain ⟨o5, g5, hf⟩ := Option.bind_eq_some_iff.mp hf
  obtain ⟨v5, h5, hf⟩ := Option.bind_eq_some_iff.mp hf
  refine w_ci M (w_runV C M g5 rfl (c_Frame_valueOf h5) (cwV 1 C.ts (hgV wm_600 wm_601 wm_602 wm_5 wm_603) rfl rfl rfl (by decide +kernel) ⟨by show 0 + 1 ≤ fr + 3; omega, by show 8 + (3 + 11) + (0) ≤ lo + 86; omega⟩) rfl hl.1 rfl (Nat.zero_le _) dMach_perform_5 ⟨Nat.le_refl _, Nat.le_refl _⟩) (fun H locs M => ?_)
  refine lv_istore (lv' := [(4, .int v5), (0, va_rf (some x0)), (1, va_rf x1), (2, va_rf x2), (3, va_rf x3)]) C.x C.b dMach_perform_8 hl (by decide) (by simp only [List.filter, va_rf_cat] <;> rfl) (fun ls hl => ?_)
  refine w_aload_n C.x C.b dMach_perform_10 rfl (lv_at hl 4 rfl) ?_
  refine w_aload_n C.x C.b dMach_perform_11 rfl (lv_at hl 2 rfl) ?_
  obtain ⟨v12, h12, hf⟩ := Option.bind_eq_some_iff.mp hf
  refine w_getI C M h12 rfl (hm_in in_Stat) (by decide) (List.mem_cons_of_mem _ wm_455) rfl dMach_perform_12 ?_
  obtain ⟨o15, g15, hf⟩ := Option.bind_eq_some_iff.mp hf
  obtain ⟨v15, h15, hf⟩ := Option.bind_eq_some_iff.mp hf
  refine w_ci M (w_runV C M g15 rfl (c_Frame_valueOf h15) (cwV 1 C.ts (hgV wm_600 wm_601 wm_602 wm_5 wm_603) rfl rfl rfl (by decide +kernel) ⟨by show 0 + 1 ≤ fr + 3; omega, by show 8 + (3 + 11) + (0) ≤ lo + 86; omega⟩) rfl hl.1 rfl (Nat.zero_le _) dMach_perform_15 ⟨Nat.le_refl _, Nat.le_refl _⟩) (fun H locs M => ?_)
  refine lv_istore (lv' := [(5, .int v15), (4, .int v5), (0, va_rf (some x0)), (1, va_rf x1), (2, va_rf x2), (3, va_rf x3)]) C.x C.b dMach_perform_18 hl (by decide) rfl (fun ls hl => ?_)
  refine w_gets C M (zZ_S C.z) (i := 2) (by decide) (List.mem_cons_of_mem _ wm_605) rfl dMach_perform_20 ?_
  refine w_aload_n C.x C.b dMach_perform_23 rfl (lv_at hl 3 rfl) ?_
  obtain ⟨v24, h24, hf⟩ := Option.bind_eq_some_iff.mp hf
  refine w_getR C M h24 rfl (hm_in in_Stat) (by decide) (List.mem_cons_of_mem _ wm_447) rfl dMach_perform_24 ?_
  obtain ⟨v27, h27, hf⟩ := Option.bind_eq_some_iff.mp hf
  refine w_ord C M (zZ_S C.z) h27 hl.1 (List.mem_cons_of_mem _ wm_607) (List.mem_cons_of_mem _ wm_608) (List.mem_cons_of_mem _ wm_610) (List.mem_cons_of_mem _ wm_611) (List.mem_cons_of_mem _ wm_612) (List.mem_cons_of_mem _ wm_1071) dEnum_ordinal_0 dEnum_ordinal_1 dEnum_ordinal_4 (by show 1 ≤ fr + 3; omega) (by show _ ≤ lo + 86; simp [va_rf_cat, cat_i, cat_l, cat_n] <;> omega) dMach_perform_27 ?_
  obtain ⟨v30, h30, hf⟩ := Option.bind_eq_some_iff.mp hf
  refine w_saI C M (zZ_S C.z) h30 rfl dMach_perform_30 ?_
  by_cases c31_0 : v30 = 1
  · rw [if_pos c31_0] at hf
    refine lv_tableIn (tgt := 116) C.x C.b dMach_perform_31 (by rw [c31_0]; decide) (by rw [c31_0]; decide) (by rw [c31_0]; rfl) (by decide) ?_
    refine w_aload_n C.x C.b dMach_perform_116 rfl (lv_at hl 5 rfl) ?_
    refine w_aload_n C.x C.b dMach_perform_117 rfl (lv_at hl 3 rfl) ?_
    obtain ⟨v118, h118, hf⟩ := Option.bind_eq_some_iff.mp hf
    refine w_getI C M h118 rfl (hm_in in_Stat) (by decide) (List.mem_cons_of_mem _ wm_449) rfl dMach_perform_118 ?_
    refine lv_iload C.x C.b dMach_perform_121 (lv_at hl 1 rfl) ?_
    obtain ⟨o123, g123, hf⟩ := Option.bind_eq_some_iff.mp hf
    obtain ⟨v123, h123, hf⟩ := Option.bind_eq_some_iff.mp hf
    refine w_cv M (w_runV C M g123 rfl (c_Frame_set h123) (cwV 2 C.ts (hgV wm_613 wm_614 wm_615 wm_5 wm_616) rfl rfl rfl (by decide +kernel) ⟨by show 0 + 1 ≤ fr + 3; omega, by show 8 + (3 + 11) + (0) ≤ lo + 86; omega⟩) rfl hl.1 rfl (Nat.zero_le _) dMach_perform_123 ⟨Nat.le_refl _, Nat.le_refl _⟩) (fun H locs M => ?_)
    refine lv_iconst (v := (-1)) C.x C.b dMach_perform_126 (by decide) ?_
    cases hf
    exact w_iret C M hr hlk rfl (Nat.le_refl _) (Nat.le_refl _) dMach_perform_127 rfl rfl
  · rw [if_neg c31_0] at hf
    by_cases c31_1 : v30 = 2
    · rw [if_pos c31_1] at hf
      refine lv_tableIn (tgt := 128) C.x C.b dMach_perform_31 (by rw [c31_1]; decide) (by rw [c31_1]; decide) (by rw [c31_1]; rfl) (by decide) ?_
      refine w_aload_n C.x C.b dMach_perform_128 rfl (lv_at hl 5 rfl) ?_
      refine w_aload_n C.x C.b dMach_perform_129 rfl (lv_at hl 3 rfl) ?_
      refine lv_iload C.x C.b dMach_perform_130 (lv_at hl 1 rfl) ?_
      refine lv_iload C.x C.b dMach_perform_132 (lv_at hl 0 rfl) ?_
      obtain ⟨v134, h134, hf⟩ := Option.bind_eq_some_iff.mp hf
      refine w_ci M (w_runS C M (c_Mach_calculate h134) (cwS 4 C.ts (hgS wm_617 wm_618 wm_4 wm_619) rfl rfl rfl (by decide +kernel) ⟨by show 2 + 1 ≤ fr + 3; omega, by show 8 + (5 + 11) + (44) ≤ lo + 86; omega⟩) rfl hl.1 rfl (Nat.zero_le _) dMach_perform_134 ⟨Nat.le_refl _, Nat.le_refl _⟩) (fun H locs M => ?_)
      cases hf
      exact w_iret C M hr hlk rfl (Nat.le_refl _) (Nat.le_refl _) dMach_perform_137 rfl rfl
    · rw [if_neg c31_1] at hf
      by_cases c31_2 : v30 = 3
      · rw [if_pos c31_2] at hf
        refine lv_tableIn (tgt := 138) C.x C.b dMach_perform_31 (by rw [c31_2]; decide) (by rw [c31_2]; decide) (by rw [c31_2]; rfl) (by decide) ?_
        refine w_aload_n C.x C.b dMach_perform_138 rfl (lv_at hl 5 rfl) ?_
        refine w_aload_n C.x C.b dMach_perform_139 rfl (lv_at hl 3 rfl) ?_
        obtain ⟨v140, h140, hf⟩ := Option.bind_eq_some_iff.mp hf
        refine w_getI C M h140 rfl (hm_in in_Stat) (by decide) (List.mem_cons_of_mem _ wm_449) rfl dMach_perform_140 ?_
        refine lv_iload C.x C.b dMach_perform_143 (lv_at hl 1 rfl) ?_
        obtain ⟨v145, h145, hf⟩ := Option.bind_eq_some_iff.mp hf
        refine w_ci M (w_runS C M (c_Mach_getCell h145) (cwS 3 C.ts (hgS wm_629 wm_630 wm_4 wm_631) rfl rfl rfl (by decide +kernel) ⟨by show 1 + 1 ≤ fr + 3; omega, by show 8 + (3 + 11) + (22) ≤ lo + 86; omega⟩) rfl hl.1 rfl (Nat.zero_le _) dMach_perform_145 ⟨Nat.le_refl _, Nat.le_refl _⟩) (fun H locs M => ?_)
        cases hf
        exact w_iret C M hr hlk rfl (Nat.le_refl _) (Nat.le_refl _) dMach_perform_148 rfl rfl
      · rw [if_neg c31_2] at hf
        by_cases c31_3 : v30 = 4
        · rw [if_pos c31_3] at hf
          refine lv_tableIn (tgt := 149) C.x C.b dMach_perform_31 (by rw [c31_3]; decide) (by rw [c31_3]; decide) (by rw [c31_3]; rfl) (by decide) ?_
          refine w_aload_n C.x C.b dMach_perform_149 rfl (lv_at hl 5 rfl) ?_
          refine lv_iload C.x C.b dMach_perform_150 (lv_at hl 1 rfl) ?_
          refine lv_iload C.x C.b dMach_perform_152 (lv_at hl 0 rfl) ?_
          obtain ⟨v154, h154, hf⟩ := Option.bind_eq_some_iff.mp hf
          refine w_ci M (w_runS C M (c_Mach_putCell h154) (cwS 3 C.ts (hgS wm_632 wm_633 wm_4 wm_634) rfl rfl rfl (by decide +kernel) ⟨by show 0 + 1 ≤ fr + 3; omega, by show 8 + (3 + 11) + (0) ≤ lo + 86; omega⟩) rfl hl.1 rfl (Nat.zero_le _) dMach_perform_154 ⟨Nat.le_refl _, Nat.le_refl _⟩) (fun H locs M => ?_)
          cases hf
          exact w_iret C M hr hlk rfl (Nat.le_refl _) (Nat.le_refl _) dMach_perform_157 rfl rfl
        · rw [if_neg c31_3] at hf
          by_cases c31_4 : v30 = 5
          · rw [if_pos c31_4] at hf
            refine lv_tableIn (tgt := 158) C.x C.b dMach_perform_31 (by rw [c31_4]; decide) (by rw [c31_4]; decide) (by rw [c31_4]; rfl) (by decide) ?_
            refine w_aload_n C.x C.b dMach_perform_158 rfl (lv_at hl 2 rfl) ?_
            refine w_aload_n C.x C.b dMach_perform_159 rfl (lv_at hl 5 rfl) ?_
            refine w_aload_n C.x C.b dMach_perform_160 rfl (lv_at hl 3 rfl) ?_
            obtain ⟨v161, h161, hf⟩ := Option.bind_eq_some_iff.mp hf
            refine w_getI C M h161 rfl (hm_in in_Stat) (by decide) (List.mem_cons_of_mem _ wm_449) rfl dMach_perform_161 ?_
            refine lv_iload C.x C.b dMach_perform_164 (lv_at hl 1 rfl) ?_
            obtain ⟨o166, g166, hf⟩ := Option.bind_eq_some_iff.mp hf
            obtain ⟨v166, h166, hf⟩ := Option.bind_eq_some_iff.mp hf
            refine w_ci M (w_runV C M g166 rfl (c_Mach_sizeFile h166) (cwV 3 C.ts (hgV wm_635 wm_637 sel_Mach_sizeFile wm_4 wm_638) rfl rfl rfl (by decide +kernel) ⟨by show 1 + 1 ≤ fr + 3; omega, by show 8 + (5 + 11) + (22) ≤ lo + 86; omega⟩) rfl hl.1 rfl (Nat.zero_le _) dMach_perform_166 ⟨Nat.le_refl _, Nat.le_refl _⟩) (fun H locs M => ?_)
            cases hf
            exact w_iret C M hr hlk rfl (Nat.le_refl _) (Nat.le_refl _) dMach_perform_169 rfl rfl
          · rw [if_neg c31_4] at hf
            by_cases c31_5 : v30 = 6
            · rw [if_pos c31_5] at hf
              refine lv_tableIn (tgt := 170) C.x C.b dMach_perform_31 (by rw [c31_5]; decide) (by rw [c31_5]; decide) (by rw [c31_5]; rfl) (by decide) ?_
              refine w_aload_n C.x C.b dMach_perform_170 rfl (lv_at hl 2 rfl) ?_
              refine w_aload_n C.x C.b dMach_perform_171 rfl (lv_at hl 5 rfl) ?_
              refine w_aload_n C.x C.b dMach_perform_172 rfl (lv_at hl 3 rfl) ?_
              obtain ⟨v173, h173, hf⟩ := Option.bind_eq_some_iff.mp hf
              refine w_getI C M h173 rfl (hm_in in_Stat) (by decide) (List.mem_cons_of_mem _ wm_449) rfl dMach_perform_173 ?_
              refine lv_iload C.x C.b dMach_perform_176 (lv_at hl 1 rfl) ?_
              refine lv_iload C.x C.b dMach_perform_178 (lv_at hl 0 rfl) ?_
              obtain ⟨o180, g180, hf⟩ := Option.bind_eq_some_iff.mp hf
              obtain ⟨v180, h180, hf⟩ := Option.bind_eq_some_iff.mp hf
              refine w_ci M (w_runV C M g180 rfl (c_Mach_readFile h180) (cwV 4 C.ts (hgV wm_644 wm_646 sel_Mach_readFile wm_4 wm_647) rfl rfl rfl (by decide +kernel) ⟨by show 1 + 1 ≤ fr + 3; omega, by show 8 + (7 + 11) + (22) ≤ lo + 86; omega⟩) rfl hl.1 rfl (Nat.zero_le _) dMach_perform_180 ⟨Nat.le_refl _, Nat.le_refl _⟩) (fun H locs M => ?_)
              cases hf
              exact w_iret C M hr hlk rfl (Nat.le_refl _) (Nat.le_refl _) dMach_perform_183 rfl rfl
            · rw [if_neg c31_5] at hf
              by_cases c31_6 : v30 = 7
              · rw [if_pos c31_6] at hf
                refine lv_tableIn (tgt := 184) C.x C.b dMach_perform_31 (by rw [c31_6]; decide) (by rw [c31_6]; decide) (by rw [c31_6]; rfl) (by decide) ?_
                refine w_aload_n C.x C.b dMach_perform_184 rfl (lv_at hl 2 rfl) ?_
                refine lv_iload C.x C.b dMach_perform_185 (lv_at hl 1 rfl) ?_
                refine lv_iload C.x C.b dMach_perform_187 (lv_at hl 0 rfl) ?_
                obtain ⟨o189, g189, hf⟩ := Option.bind_eq_some_iff.mp hf
                obtain ⟨v189, h189, hf⟩ := Option.bind_eq_some_iff.mp hf
                refine w_ci M (w_runV C M g189 rfl (c_Mach_writeFile h189) (cwV 2 C.ts (hgV wm_649 wm_651 sel_Mach_writeFile wm_4 wm_652) rfl rfl rfl (by decide +kernel) ⟨by show 2 + 1 ≤ fr + 3; omega, by show 8 + (4 + 11) + (42) ≤ lo + 86; omega⟩) rfl hl.1 rfl (Nat.zero_le _) dMach_perform_189 ⟨Nat.le_refl _, Nat.le_refl _⟩) (fun H locs M => ?_)
                cases hf
                exact w_iret C M hr hlk rfl (Nat.le_refl _) (Nat.le_refl _) dMach_perform_192 rfl rfl
              · rw [if_neg c31_6] at hf
                by_cases c31_7 : v30 = 8
                · rw [if_pos c31_7] at hf
                  refine lv_tableIn (tgt := 193) C.x C.b dMach_perform_31 (by rw [c31_7]; decide) (by rw [c31_7]; decide) (by rw [c31_7]; rfl) (by decide) ?_
                  refine w_aload_n C.x C.b dMach_perform_193 rfl (lv_at hl 2 rfl) ?_
                  refine lv_iload C.x C.b dMach_perform_194 (lv_at hl 1 rfl) ?_
                  obtain ⟨o196, g196, hf⟩ := Option.bind_eq_some_iff.mp hf
                  obtain ⟨v196, h196, hf⟩ := Option.bind_eq_some_iff.mp hf
                  refine w_ci M (w_runV C M g196 rfl (c_Mach_dropFile h196) (cwV 1 C.ts (hgV wm_658 wm_660 sel_Mach_dropFile wm_4 wm_661) rfl rfl rfl (by decide +kernel) ⟨by show 1 + 1 ≤ fr + 3; omega, by show 8 + (3 + 11) + (21) ≤ lo + 86; omega⟩) rfl hl.1 rfl (Nat.zero_le _) dMach_perform_196 ⟨Nat.le_refl _, Nat.le_refl _⟩) (fun H locs M => ?_)
                  cases hf
                  exact w_iret C M hr hlk rfl (Nat.le_refl _) (Nat.le_refl _) dMach_perform_199 rfl rfl
                · rw [if_neg c31_7] at hf
                  by_cases c31_8 : v30 = 9
                  · rw [if_pos c31_8] at hf
                    refine lv_tableIn (tgt := 200) C.x C.b dMach_perform_31 (by rw [c31_8]; decide) (by rw [c31_8]; decide) (by rw [c31_8]; rfl) (by decide) ?_
                    refine w_aload_n C.x C.b dMach_perform_200 rfl (lv_at hl 2 rfl) ?_
                    refine lv_iload C.x C.b dMach_perform_201 (lv_at hl 1 rfl) ?_
                    refine lv_iload C.x C.b dMach_perform_203 (lv_at hl 0 rfl) ?_
                    obtain ⟨o205, g205, hf⟩ := Option.bind_eq_some_iff.mp hf
                    obtain ⟨v205, h205, hf⟩ := Option.bind_eq_some_iff.mp hf
                    refine w_ci M (w_runV C M g205 rfl (c_Mach_copyFile h205) (cwV 2 C.ts (hgV wm_663 wm_665 sel_Mach_copyFile wm_4 wm_666) rfl rfl rfl (by decide +kernel) ⟨by show 2 + 1 ≤ fr + 3; omega, by show 8 + (5 + 11) + (62) ≤ lo + 86; omega⟩) rfl hl.1 rfl (Nat.zero_le _) dMach_perform_205 ⟨Nat.le_refl _, Nat.le_refl _⟩) (fun H locs M => ?_)
                    cases hf
                    exact w_iret C M hr hlk rfl (Nat.le_refl _) (Nat.le_refl _) dMach_perform_208 rfl rfl
                  · rw [if_neg c31_8] at hf
                    by_cases c31_9 : v30 = 10
                    · rw [if_pos c31_9] at hf
                      refine lv_tableIn (tgt := 209) C.x C.b dMach_perform_31 (by rw [c31_9]; decide) (by rw [c31_9]; decide) (by rw [c31_9]; rfl) (by decide) ?_
                      refine w_aload_n C.x C.b dMach_perform_209 rfl (lv_at hl 2 rfl) ?_
                      obtain ⟨v210, h210, hf⟩ := Option.bind_eq_some_iff.mp hf
                      refine w_getR C M h210 rfl (hm_in in_Mach) (by decide) (List.mem_cons_of_mem _ wm_137) rfl dMach_perform_210 ?_
                      refine lv_iload C.x C.b dMach_perform_213 (lv_at hl 1 rfl) ?_
                      obtain ⟨v215, h215, hf⟩ := Option.bind_eq_some_iff.mp hf
                      refine w_ci M (w_runS C M (c_Mach_speak h215) (cwS 2 C.ts (hgS wm_653 wm_654 wm_4 wm_655) rfl rfl rfl (by decide +kernel) ⟨by show 1 + 1 ≤ fr + 3; omega, by show 8 + (2 + 11) + (21) ≤ lo + 86; omega⟩) rfl hl.1 rfl (Nat.zero_le _) dMach_perform_215 ⟨Nat.le_refl _, Nat.le_refl _⟩) (fun H locs M => ?_)
                      cases hf
                      exact w_iret C M hr hlk rfl (Nat.le_refl _) (Nat.le_refl _) dMach_perform_218 rfl rfl
                    · rw [if_neg c31_9] at hf
                      by_cases c31_10 : v30 = 11
                      · rw [if_pos c31_10] at hf
                        refine lv_tableIn (tgt := 219) C.x C.b dMach_perform_31 (by rw [c31_10]; decide) (by rw [c31_10]; decide) (by rw [c31_10]; rfl) (by decide) ?_
                        refine w_aload_n C.x C.b dMach_perform_219 rfl (lv_at hl 2 rfl) ?_
                        obtain ⟨v220, h220, hf⟩ := Option.bind_eq_some_iff.mp hf
                        refine w_getR C M h220 rfl (hm_in in_Mach) (by decide) (List.mem_cons_of_mem _ wm_139) rfl dMach_perform_220 ?_
                        refine lv_iload C.x C.b dMach_perform_223 (lv_at hl 1 rfl) ?_
                        obtain ⟨v225, h225, hf⟩ := Option.bind_eq_some_iff.mp hf
                        refine w_ci M (w_runS C M (c_Mach_speak h225) (cwS 2 C.ts (hgS wm_653 wm_654 wm_4 wm_655) rfl rfl rfl (by decide +kernel) ⟨by show 1 + 1 ≤ fr + 3; omega, by show 8 + (2 + 11) + (21) ≤ lo + 86; omega⟩) rfl hl.1 rfl (Nat.zero_le _) dMach_perform_225 ⟨Nat.le_refl _, Nat.le_refl _⟩) (fun H locs M => ?_)
                        cases hf
                        exact w_iret C M hr hlk rfl (Nat.le_refl _) (Nat.le_refl _) dMach_perform_228 rfl rfl
                      · rw [if_neg c31_10] at hf
                        by_cases c31_11 : v30 = 12
                        · rw [if_pos c31_11] at hf
                          refine lv_tableIn (tgt := 229) C.x C.b dMach_perform_31 (by rw [c31_11]; decide) (by rw [c31_11]; decide) (by rw [c31_11]; rfl) (by decide) ?_
                          refine w_aload_n C.x C.b dMach_perform_229 rfl (lv_at hl 5 rfl) ?_
                          refine w_aload_n C.x C.b dMach_perform_230 rfl (lv_at hl 4 rfl) ?_
                          refine w_aload_n C.x C.b dMach_perform_231 rfl (lv_at hl 3 rfl) ?_
                          obtain ⟨v232, h232, hf⟩ := Option.bind_eq_some_iff.mp hf
                          refine w_getI C M h232 rfl (hm_in in_Stat) (by decide) (List.mem_cons_of_mem _ wm_458) rfl dMach_perform_232 ?_
                          obtain ⟨o235, g235, hf⟩ := Option.bind_eq_some_iff.mp hf
                          obtain ⟨v235, h235, hf⟩ := Option.bind_eq_some_iff.mp hf
                          refine w_ci M (w_runV C M g235 rfl (c_Script_placeOf h235) (cwV 1 C.ts (hgV wm_673 wm_546 wm_547 wm_7 wm_548) rfl rfl rfl (by decide +kernel) ⟨by show 0 + 1 ≤ fr + 3; omega, by show 8 + (2 + 11) + (0) ≤ lo + 86; omega⟩) rfl hl.1 rfl (by simp [va_rf_cat, cat_i, cat_l, cat_n]) dMach_perform_235 ⟨Nat.le_refl _, Nat.le_refl _⟩) (fun H locs M => ?_)
                          obtain ⟨E238, h238, hf⟩ := Option.bind_eq_some_iff.mp hf
                          refine w_putV (ty := .int) C M ty_Frame h238 rfl (hm_in in_Frame) tyok_Frame nm_Frame (by decide) (List.mem_cons_of_mem _ wm_112) rfl rfl (by decide +kernel) rfl rfl dMach_perform_238 (fun H locs M => ?_)
                          refine lv_iconst (v := (-1)) C.x C.b dMach_perform_241 (by decide) ?_
                          cases hf
                          exact w_iret C M hr hlk rfl (Nat.le_refl _) (Nat.le_refl _) dMach_perform_242 rfl rfl
                        · rw [if_neg c31_11] at hf
                          by_cases c31_12 : v30 = 13
                          · rw [if_pos c31_12] at hf
                            refine lv_tableIn (tgt := 243) C.x C.b dMach_perform_31 (by rw [c31_12]; decide) (by rw [c31_12]; decide) (by rw [c31_12]; rfl) (by decide) ?_
                            refine lv_iload C.x C.b dMach_perform_243 (lv_at hl 1 rfl) ?_
                            refine w_aload_n C.x C.b dMach_perform_245 rfl (lv_at hl 3 rfl) ?_
                            obtain ⟨v246, h246, hf⟩ := Option.bind_eq_some_iff.mp hf
                            refine w_getI C M h246 rfl (hm_in in_Stat) (by decide) (List.mem_cons_of_mem _ wm_453) rfl dMach_perform_246 ?_
                            refine lv_iload C.x C.b dMach_perform_249 (lv_at hl 0 rfl) ?_
                            obtain ⟨v251, h251, hf⟩ := Option.bind_eq_some_iff.mp hf
                            refine w_ci M (w_runS C M (c_Mach_holds h251) (cwS 3 C.ts (hgS wm_626 wm_627 wm_4 wm_628) rfl rfl rfl (by decide +kernel) ⟨by show 0 + 1 ≤ fr + 3; omega, by show 8 + (3 + 11) + (0) ≤ lo + 86; omega⟩) rfl hl.1 rfl (Nat.zero_le _) dMach_perform_251 ⟨Nat.le_refl _, Nat.le_refl _⟩) (fun H locs M => ?_)
                            refine lv_if_eq (tgt := 269) C.x C.b dMach_perform_254 (by decide) (fun c254 => ?_) (fun c254 => ?_)
                            · rw [if_pos c254] at hf
                              exact b_Mach_perform_269 C hr hlk hnm fol hfol _ _ _ _ M (lv_sub hl [] rfl) hf
                            · rw [if_neg c254] at hf
                              refine w_aload_n C.x C.b dMach_perform_257 rfl (lv_at hl 5 rfl) ?_
                              refine w_aload_n C.x C.b dMach_perform_258 rfl (lv_at hl 4 rfl) ?_
                              refine w_aload_n C.x C.b dMach_perform_259 rfl (lv_at hl 3 rfl) ?_
                              obtain ⟨v260, h260, hf⟩ := Option.bind_eq_some_iff.mp hf
                              refine w_getI C M h260 rfl (hm_in in_Stat) (by decide) (List.mem_cons_of_mem _ wm_458) rfl dMach_perform_260 ?_
                              obtain ⟨o263, g263, hf⟩ := Option.bind_eq_some_iff.mp hf
                              obtain ⟨v263, h263, hf⟩ := Option.bind_eq_some_iff.mp hf
                              refine w_ci M (w_runV C M g263 rfl (c_Script_placeOf h263) (cwV 1 C.ts (hgV wm_673 wm_546 wm_547 wm_7 wm_548) rfl rfl rfl (by decide +kernel) ⟨by show 0 + 1 ≤ fr + 3; omega, by show 8 + (2 + 11) + (0) ≤ lo + 86; omega⟩) rfl hl.1 rfl (by simp [va_rf_cat, cat_i, cat_l, cat_n]) dMach_perform_263 ⟨Nat.le_refl _, Nat.le_refl _⟩) (fun H locs M => ?_)
                              obtain ⟨E266, h266, hf⟩ := Option.bind_eq_some_iff.mp hf
                              refine w_putV (ty := .int) C M ty_Frame h266 rfl (hm_in in_Frame) tyok_Frame nm_Frame (by decide) (List.mem_cons_of_mem _ wm_112) rfl rfl (by decide +kernel) rfl rfl dMach_perform_266 (fun H locs M => ?_)
                              exact b_Mach_perform_269 C hr hlk hnm fol hfol _ _ _ _ M (lv_sub hl [] rfl) hf
                          · rw [if_neg c31_12] at hf
                            by_cases c31_13 : v30 = 14
                            · rw [if_pos c31_13] at hf
                              refine lv_tableIn (tgt := 271) C.x C.b dMach_perform_31 (by rw [c31_13]; decide) (by rw [c31_13]; decide) (by rw [c31_13]; rfl) (by decide) ?_
                              refine w_aload_n C.x C.b dMach_perform_271 rfl (lv_at hl 5 rfl) ?_
                              refine w_aload_n C.x C.b dMach_perform_272 rfl (lv_at hl 4 rfl) ?_
                              refine w_aload_n C.x C.b dMach_perform_273 rfl (lv_at hl 3 rfl) ?_
                              obtain ⟨v274, h274, hf⟩ := Option.bind_eq_some_iff.mp hf
                              refine w_getI C M h274 rfl (hm_in in_Stat) (by decide) (List.mem_cons_of_mem _ wm_458) rfl dMach_perform_274 ?_
                              obtain ⟨o277, g277, hf⟩ := Option.bind_eq_some_iff.mp hf
                              obtain ⟨v277, h277, hf⟩ := Option.bind_eq_some_iff.mp hf
                              refine w_ci M (w_runV C M g277 rfl (c_Script_placeOf h277) (cwV 1 C.ts (hgV wm_673 wm_546 wm_547 wm_7 wm_548) rfl rfl rfl (by decide +kernel) ⟨by show 0 + 1 ≤ fr + 3; omega, by show 8 + (2 + 11) + (0) ≤ lo + 86; omega⟩) rfl hl.1 rfl (by simp [va_rf_cat, cat_i, cat_l, cat_n]) dMach_perform_277 ⟨Nat.le_refl _, Nat.le_refl _⟩) (fun H locs M => ?_)
                              obtain ⟨o280, g280, hf⟩ := Option.bind_eq_some_iff.mp hf
                              obtain ⟨v280, h280, hf⟩ := Option.bind_eq_some_iff.mp hf
                              refine w_ci M (w_runV C M g280 rfl (c_Frame_call h280) (cwV 1 C.ts (hgV wm_674 wm_675 wm_676 wm_5 wm_677) rfl rfl rfl (by decide +kernel) ⟨by show 0 + 1 ≤ fr + 3; omega, by show 8 + (2 + 11) + (0) ≤ lo + 86; omega⟩) rfl hl.1 rfl (Nat.zero_le _) dMach_perform_280 ⟨Nat.le_refl _, Nat.le_refl _⟩) (fun H locs M => ?_)
                              refine lv_if_eq (tgt := 290) C.x C.b dMach_perform_283 (by decide) (fun c283 => ?_) (fun c283 => ?_)
                              · rw [if_pos c283] at hf
                                refine lv_bipush (v := 105) C.x C.b dMach_perform_290 (by decide) ?_
                                exact b_Mach_perform_292 C hr hlk hnm fol hfol _ _ _ _ _ M (lv_sub hl [] rfl) hf
                              · rw [if_neg c283] at hf
                                refine lv_iconst (v := (-1)) C.x C.b dMach_perform_286 (by decide) ?_
                                refine lv_goto (tgt := 292) C.x C.b dMach_perform_287 (by decide) ?_
                                exact b_Mach_perform_292 C hr hlk hnm fol hfol _ _ _ _ _ M (lv_sub hl [] rfl) hf
                            · rw [if_neg c31_13] at hf
                              by_cases c31_14 : v30 = 15
                              · rw [if_pos c31_14] at hf
                                refine lv_tableIn (tgt := 293) C.x C.b dMach_perform_31 (by rw [c31_14]; decide) (by rw [c31_14]; decide) (by rw [c31_14]; rfl) (by decide) ?_
                                refine w_aload_n C.x C.b dMach_perform_293 rfl (lv_at hl 5 rfl) ?_
                                obtain ⟨o294, g294, hf⟩ := Option.bind_eq_some_iff.mp hf
                                obtain ⟨v294, h294, hf⟩ := Option.bind_eq_some_iff.mp hf
                                refine w_ci M (w_runV C M g294 rfl (c_Frame_comeBack h294) (cwV 0 C.ts (hgV wm_678 wm_679 wm_680 wm_5 wm_681) rfl rfl rfl (by decide +kernel) ⟨by show 0 + 1 ≤ fr + 3; omega, by show 8 + (1 + 11) + (0) ≤ lo + 86; omega⟩) rfl hl.1 rfl (Nat.zero_le _) dMach_perform_294 ⟨Nat.le_refl _, Nat.le_refl _⟩) (fun H locs M => ?_)
                                refine lv_if_eq (tgt := 304) C.x C.b dMach_perform_297 (by decide) (fun c297 => ?_) (fun c297 => ?_)
                                · rw [if_pos c297] at hf
                                  refine lv_bipush (v := 105) C.x C.b dMach_perform_304 (by decide) ?_
                                  exact b_Mach_perform_306 C hr hlk hnm fol hfol _ _ _ _ _ M (lv_sub hl [] rfl) hf
                                · rw [if_neg c297] at hf
                                  refine lv_iconst (v := (-1)) C.x C.b dMach_perform_300 (by decide) ?_
                                  refine lv_goto (tgt := 306) C.x C.b dMach_perform_301 (by decide) ?_
                                  exact b_Mach_perform_306 C hr hlk hnm fol hfol _ _ _ _ _ M (lv_sub hl [] rfl) hf
                              · rw [if_neg c31_14] at hf
                                by_cases c31_15 : v30 = 16
                                · rw [if_pos c31_15] at hf
                                  refine lv_tableIn (tgt := 307) C.x C.b dMach_perform_31 (by rw [c31_15]; decide) (by rw [c31_15]; decide) (by rw [c31_15]; rfl) (by decide) ?_
                                  refine w_aload_n C.x C.b dMach_perform_307 rfl (lv_at hl 2 rfl) ?_
                                  refine w_aload_n C.x C.b dMach_perform_308 rfl (lv_at hl 5 rfl) ?_
                                  refine w_aload_n C.x C.b dMach_perform_309 rfl (lv_at hl 3 rfl) ?_
                                  obtain ⟨v310, h310, hf⟩ := Option.bind_eq_some_iff.mp hf
                                  refine w_getI C M h310 rfl (hm_in in_Stat) (by decide) (List.mem_cons_of_mem _ wm_449) rfl dMach_perform_310 ?_
                                  refine lv_iload C.x C.b dMach_perform_313 (lv_at hl 1 rfl) ?_
                                  refine lv_iload C.x C.b dMach_perform_315 (lv_at hl 0 rfl) ?_
                                  obtain ⟨o317, g317, hf⟩ := Option.bind_eq_some_iff.mp hf
                                  obtain ⟨v317, h317, hf⟩ := Option.bind_eq_some_iff.mp hf
                                  refine w_ci M (w_runV C M g317 rfl (c_Mach_runChild hfol h317) (cwV 4 C.ts (hgV wm_682 wm_684 sel_Mach_runChild wm_4 wm_685) rfl rfl rfl (by decide +kernel) ⟨by show fr + 1 + 1 ≤ fr + 3; omega, by show 8 + (8 + 11) + (lo + 26) ≤ lo + 86; omega⟩) rfl hl.1 rfl (Nat.zero_le _) dMach_perform_317 ⟨Nat.le_refl _, Nat.le_refl _⟩) (fun H locs M => ?_)
                                  cases hf
                                  exact w_iret C M hr hlk rfl (Nat.le_refl _) (Nat.le_refl _) dMach_perform_320 rfl rfl
                                · rw [if_neg c31_15] at hf
                                  by_cases c31_16 : v30 = 17
                                  · rw [if_pos c31_16] at hf
                                    refine lv_tableIn (tgt := 321) C.x C.b dMach_perform_31 (by rw [c31_16]; decide) (by rw [c31_16]; decide) (by rw [c31_16]; rfl) (by decide) ?_
                                    refine w_aload_n C.x C.b dMach_perform_321 rfl (lv_at hl 2 rfl) ?_
                                    refine w_aload_n C.x C.b dMach_perform_322 rfl (lv_at hl 5 rfl) ?_
                                    refine w_aload_n C.x C.b dMach_perform_323 rfl (lv_at hl 3 rfl) ?_
                                    obtain ⟨v324, h324, hf⟩ := Option.bind_eq_some_iff.mp hf
                                    refine w_getI C M h324 rfl (hm_in in_Stat) (by decide) (List.mem_cons_of_mem _ wm_449) rfl dMach_perform_324 ?_
                                    refine lv_iload C.x C.b dMach_perform_327 (lv_at hl 1 rfl) ?_
                                    obtain ⟨o329, g329, hf⟩ := Option.bind_eq_some_iff.mp hf
                                    obtain ⟨v329, h329, hf⟩ := Option.bind_eq_some_iff.mp hf
                                    refine w_ci M (w_runV C M g329 rfl (c_Mach_ask h329) (cwV 3 C.ts (hgV wm_687 wm_689 sel_Mach_ask wm_4 wm_690) rfl rfl rfl (by decide +kernel) ⟨by show 1 + 1 ≤ fr + 3; omega, by show 8 + (4 + 11) + (22) ≤ lo + 86; omega⟩) rfl hl.1 rfl (Nat.zero_le _) dMach_perform_329 ⟨Nat.le_refl _, Nat.le_refl _⟩) (fun H locs M => ?_)
                                    cases hf
                                    exact w_iret C M hr hlk rfl (Nat.le_refl _) (Nat.le_refl _) dMach_perform_332 rfl rfl
                                  · rw [if_neg c31_16] at hf
                                    by_cases c31_17 : v30 = 18
                                    · rw [if_pos c31_17] at hf
                                      refine lv_tableIn (tgt := 333) C.x C.b dMach_perform_31 (by rw [c31_17]; decide) (by rw [c31_17]; decide) (by rw [c31_17]; rfl) (by decide) ?_
                                      refine lv_iload C.x C.b dMach_perform_333 (lv_at hl 1 rfl) ?_
                                      refine lv_bipush (v := 63) C.x C.b dMach_perform_335 (by decide) ?_
                                      refine lv_iand C.x C.b dMach_perform_337 ?_
                                      cases hf
                                      exact w_iret C M hr hlk rfl (Nat.le_refl _) (Nat.le_refl _) dMach_perform_338 rfl rfl
                                    · rw [if_neg c31_17] at hf
                                      have z31_0 := lv_neT c31_0 (a := 1) (by decide)
                                      have z31_1 := lv_neT c31_1 (a := 2) (by decide)
                                      have z31_2 := lv_neT c31_2 (a := 3) (by decide)
                                      have z31_3 := lv_neT c31_3 (a := 4) (by decide)
                                      have z31_4 := lv_neT c31_4 (a := 5) (by decide)
                                      have z31_5 := lv_neT c31_5 (a := 6) (by decide)
                                      have z31_6 := lv_neT c31_6 (a := 7) (by decide)
                                      have z31_7 := lv_neT c31_7 (a := 8) (by decide)
                                      have z31_8 := lv_neT c31_8 (a := 9) (by decide)
                                      have z31_9 := lv_neT c31_9 (a := 10) (by decide)
                                      have z31_10 := lv_neT c31_10 (a := 11) (by decide)
                                      have z31_11 := lv_neT c31_11 (a := 12) (by decide)
                                      have z31_12 := lv_neT c31_12 (a := 13) (by decide)
                                      have z31_13 := lv_neT c31_13 (a := 14) (by decide)
                                      have z31_14 := lv_neT c31_14 (a := 15) (by decide)
                                      have z31_15 := lv_neT c31_15 (a := 16) (by decide)
                                      have z31_16 := lv_neT c31_16 (a := 17) (by decide)
                                      have z31_17 := lv_neT c31_17 (a := 18) (by decide)
                                      refine lv_tableOut (tgt := 339) C.x C.b dMach_perform_31 (by omega) (by decide) ?_
                                      refine lv_iconst (v := (-1)) C.x C.b dMach_perform_339 (by decide) ?_
                                      cases hf
                                      exact w_iret C M hr hlk rfl (Nat.le_refl _) (Nat.le_refl _) dMach_perform_340 rfl rfl
theorem dMach_follow_0 : decode prog_5_method_5_code 0 = .ok (.aload_n 2, 1) := by decide +kernel
theorem dMach_follow_1 : decode prog_5_method_5_code 1 = .ok (.iload_n 3, 1) := by decide +kernel
theorem dMach_follow_2 : decode prog_5_method_5_code 2 = .ok (.invokevirtual 75, 3) := by decide +kernel
theorem dMach_follow_5 : decode prog_5_method_5_code 5 = .ok (.aload_n 0, 1) := by decide +kernel
theorem dMach_follow_6 : decode prog_5_method_5_code 6 = .ok (.dup, 1) := by decide +kernel
theorem dMach_follow_7 : decode prog_5_method_5_code 7 = .ok (.getfield 62, 3) := by decide +kernel
theorem dMach_follow_10 : decode prog_5_method_5_code 10 = .ok (.iconst 1, 1) := by decide +kernel
theorem dMach_follow_11 : decode prog_5_method_5_code 11 = .ok (.iadd, 1) := by decide +kernel
theorem dMach_follow_12 : decode prog_5_method_5_code 12 = .ok (.putfield 62, 3) := by decide +kernel
theorem dMach_follow_15 : decode prog_5_method_5_code 15 = .ok (.aload_n 0, 1) := by decide +kernel
theorem dMach_follow_16 : decode prog_5_method_5_code 16 = .ok (.aload_n 0, 1) := by decide +kernel
theorem dMach_follow_17 : decode prog_5_method_5_code 17 = .ok (.getfield 59, 3) := by decide +kernel
theorem dMach_follow_20 : decode prog_5_method_5_code 20 = .ok (.aload_n 2, 1) := by decide +kernel
theorem dMach_follow_21 : decode prog_5_method_5_code 21 = .ok (.getfield 78, 3) := by decide +kernel
theorem dMach_follow_24 : decode prog_5_method_5_code 24 = .ok (.invokestatic 81, 3) := by decide +kernel
theorem dMach_follow_27 : decode prog_5_method_5_code 27 = .ok (.putfield 59, 3) := by decide +kernel
theorem dMach_follow_30 : decode prog_5_method_5_code 30 = .ok (.iconst 0, 1) := by decide +kernel
theorem dMach_follow_31 : decode prog_5_method_5_code 31 = .ok (.istore 4, 2) := by decide +kernel
theorem dMach_follow_33 : decode prog_5_method_5_code 33 = .ok (.iload 4, 2) := by decide +kernel
theorem dMach_follow_35 : decode prog_5_method_5_code 35 = .ok (.sipush 2000, 3) := by decide +kernel
theorem dMach_follow_38 : decode prog_5_method_5_code 38 = .ok (.if_icmp .gt 96, 3) := by decide +kernel
theorem dMach_follow_41 : decode prog_5_method_5_code 41 = .ok (.aload_n 1, 1) := by decide +kernel
theorem dMach_follow_42 : decode prog_5_method_5_code 42 = .ok (.aload_n 2, 1) := by decide +kernel
theorem dMach_follow_43 : decode prog_5_method_5_code 43 = .ok (.getfield 87, 3) := by decide +kernel
theorem dMach_follow_46 : decode prog_5_method_5_code 46 = .ok (.invokevirtual 90, 3) := by decide +kernel
theorem dMach_follow_49 : decode prog_5_method_5_code 49 = .ok (.astore 5, 2) := by decide +kernel
theorem dMach_follow_51 : decode prog_5_method_5_code 51 = .ok (.aload 5, 2) := by decide +kernel
theorem dMach_follow_53 : decode prog_5_method_5_code 53 = .ok (.ifnonnull 13, 3) := by decide +kernel
theorem dMach_follow_56 : decode prog_5_method_5_code 56 = .ok (.aload_n 2, 1) := by decide +kernel
theorem dMach_follow_57 : decode prog_5_method_5_code 57 = .ok (.aload_n 1, 1) := by decide +kernel
theorem dMach_follow_58 : decode prog_5_method_5_code 58 = .ok (.getfield 94, 3) := by decide +kernel
theorem dMach_follow_61 : decode prog_5_method_5_code 61 = .ok (.putfield 97, 3) := by decide +kernel
theorem dMach_follow_64 : decode prog_5_method_5_code 64 = .ok (.iconst 0, 1) := by decide +kernel
theorem dMach_follow_65 : decode prog_5_method_5_code 65 = .ok (.ireturn, 1) := by decide +kernel
theorem dMach_follow_66 : decode prog_5_method_5_code 66 = .ok (.aload_n 2, 1) := by decide +kernel
theorem dMach_follow_67 : decode prog_5_method_5_code 67 = .ok (.aload 5, 2) := by decide +kernel
theorem dMach_follow_69 : decode prog_5_method_5_code 69 = .ok (.getfield 100, 3) := by decide +kernel
theorem dMach_follow_72 : decode prog_5_method_5_code 72 = .ok (.putfield 97, 3) := by decide +kernel
theorem dMach_follow_75 : decode prog_5_method_5_code 75 = .ok (.aload_n 0, 1) := by decide +kernel
theorem dMach_follow_76 : decode prog_5_method_5_code 76 = .ok (.getfield 56, 3) := by decide +kernel
theorem dMach_follow_79 : decode prog_5_method_5_code 79 = .ok (.aload_n 0, 1) := by decide +kernel
theorem dMach_follow_80 : decode prog_5_method_5_code 80 = .ok (.getfield 48, 3) := by decide +kernel
theorem dMach_follow_83 : decode prog_5_method_5_code 83 = .ok (.if_icmp .lt 6, 3) := by decide +kernel
theorem dMach_follow_86 : decode prog_5_method_5_code 86 = .ok (.goto 48, 3) := by decide +kernel
theorem dMach_follow_89 : decode prog_5_method_5_code 89 = .ok (.aload_n 0, 1) := by decide +kernel
theorem dMach_follow_90 : decode prog_5_method_5_code 90 = .ok (.dup, 1) := by decide +kernel
theorem dMach_follow_91 : decode prog_5_method_5_code 91 = .ok (.getfield 56, 3) := by decide +kernel
theorem dMach_follow_94 : decode prog_5_method_5_code 94 = .ok (.iconst 1, 1) := by decide +kernel
theorem dMach_follow_95 : decode prog_5_method_5_code 95 = .ok (.iadd, 1) := by decide +kernel
theorem dMach_follow_96 : decode prog_5_method_5_code 96 = .ok (.putfield 56, 3) := by decide +kernel
theorem dMach_follow_99 : decode prog_5_method_5_code 99 = .ok (.aload_n 2, 1) := by decide +kernel
theorem dMach_follow_100 : decode prog_5_method_5_code 100 = .ok (.dup, 1) := by decide +kernel
theorem dMach_follow_101 : decode prog_5_method_5_code 101 = .ok (.getfield 87, 3) := by decide +kernel
theorem dMach_follow_104 : decode prog_5_method_5_code 104 = .ok (.iconst 1, 1) := by decide +kernel
theorem dMach_follow_105 : decode prog_5_method_5_code 105 = .ok (.iadd, 1) := by decide +kernel
theorem dMach_follow_106 : decode prog_5_method_5_code 106 = .ok (.putfield 87, 3) := by decide +kernel
theorem dMach_follow_109 : decode prog_5_method_5_code 109 = .ok (.aload_n 0, 1) := by decide +kernel
theorem dMach_follow_110 : decode prog_5_method_5_code 110 = .ok (.aload 5, 2) := by decide +kernel
theorem dMach_follow_112 : decode prog_5_method_5_code 112 = .ok (.aload_n 1, 1) := by decide +kernel
theorem dMach_follow_113 : decode prog_5_method_5_code 113 = .ok (.aload_n 2, 1) := by decide +kernel
theorem dMach_follow_114 : decode prog_5_method_5_code 114 = .ok (.invokevirtual 103, 3) := by decide +kernel
theorem dMach_follow_117 : decode prog_5_method_5_code 117 = .ok (.istore 6, 2) := by decide +kernel
theorem dMach_follow_119 : decode prog_5_method_5_code 119 = .ok (.iload 6, 2) := by decide +kernel
theorem dMach_follow_121 : decode prog_5_method_5_code 121 = .ok (.iconst (-1), 1) := by decide +kernel
theorem dMach_follow_122 : decode prog_5_method_5_code 122 = .ok (.if_icmp .eq 6, 3) := by decide +kernel
theorem dMach_follow_125 : decode prog_5_method_5_code 125 = .ok (.iload 6, 2) := by decide +kernel
theorem dMach_follow_127 : decode prog_5_method_5_code 127 = .ok (.ireturn, 1) := by decide +kernel
theorem dMach_follow_128 : decode prog_5_method_5_code 128 = .ok (.iinc 4 1, 3) := by decide +kernel
theorem dMach_follow_131 : decode prog_5_method_5_code 131 = .ok (.goto (-98), 3) := by decide +kernel
theorem dMach_follow_134 : decode prog_5_method_5_code 134 = .ok (.aload_n 0, 1) := by decide +kernel
theorem dMach_follow_135 : decode prog_5_method_5_code 135 = .ok (.iconst 1, 1) := by decide +kernel
theorem dMach_follow_136 : decode prog_5_method_5_code 136 = .ok (.putfield 65, 3) := by decide +kernel
theorem dMach_follow_139 : decode prog_5_method_5_code 139 = .ok (.bipush 107, 2) := by decide +kernel
theorem dMach_follow_141 : decode prog_5_method_5_code 141 = .ok (.ireturn, 1) := by decide +kernel
abbrev rm_Mach_follow (fr lo : Nat) : Room := { frames := fr + 4, cells := 0, slots := 0, locals := lo + 111 }
def f_Mach_follow_b134 (S : hE) (g : Nat → Nat) (N : Nat) (fol : Nat → Option Nat → Option Nat → Int32 → hE → Option (Int32 × hE)) (y0 : Option Nat) (E : hE) : Option (Int32 × hE) := (
  (sZ E y0 2 12 1).bind fun E136 =>
  some (107, E136))
set_option maxHeartbeats 4000000 in
set_option maxRecDepth 100000 in
theorem b_Mach_follow_134 {p : Program} {l : Launch} {e : Env} {s : State} {m : MethodId} {args : Array Value} {below : List Frame} {meth : Method} {c : Code} {D : va_G} {kA : Nat → ClassId} {S : hE} {g : Nat → Nat} {n0 nx : Nat} {N : Nat} {fr lo : Nat} {res : Int32 × hE} (C : hX p s m args c prog_5_method_5_code 7 R_Mach ws_Mach_follow D kA S g n0) (hr : meth.sig.returnType = (some .int)) (hlk : meth.locks = false) (hnm : meth.name = "follow") (fol : Nat → Option Nat → Option Nat → Int32 → hE → Option (Int32 × hE)) (hfol : ∀ {x0 : Nat} {x1 x2 : Option Nat} {x3 : Int32} {E : hE} {res : Int32 × hE}, fol x0 x1 x2 x3 E = some res → Met l y_Mach_follow ws_Mach_follow { frames := fr, cells := 0, slots := 0, locals := lo } (va_Pc [va_rf (some x0), va_rf x1, va_rf x2, .int x3] (hJ D kA S g n0 (E, nx))) (va_Qi (fun r w => r = res.1 ∧ w = (res.2, nx)) (hJ D kA S g n0) (fun q => n0 ≤ q)) 0 0 (fun q => n0 ≤ q)) : ∀ (y0 : Option Nat) (E : hE) (H : Heap) (locs : List Loc) (ls : Array Slot), hY D kA n0 s E nx H locs → lv_has ls 7 [(0, va_rf y0)] → f_Mach_follow_b134 S g N fol  y0 E = some res → W p l e (rm_Mach_follow fr lo) s m args below meth c H locs 0 0 (MQ below (va_Qi (fun r w => r = res.1 ∧ w = (res.2, nx)) (hJ D kA S g n0) (fun q => n0 ≤ q)) args s 0 0 (fun q => n0 ≤ q)) (F0 m 134 ls []) := by
  intro y0 E H locs ls M hl hf
  unfold f_Mach_follow_b134 at hf
  refine w_aload_n C.x C.b dMach_follow_134 rfl (lv_at hl 0 rfl) ?_
  refine lv_iconst (v := 1) C.x C.b dMach_follow_135 (by decide) ?_
  obtain ⟨E136, h136, hf⟩ := Option.bind_eq_some_iff.mp hf
  refine w_putV (ty := .boolean) C M ty_Mach (sZ_some h136).2 rfl (hm_in in_Mach) tyok_Mach nm_Mach (by decide) (List.mem_cons_of_mem _ wm_154) rfl rfl (by decide +kernel) (narrow_z (sZ_some h136).1) (fits_z (sZ_some h136).1) dMach_follow_136 (fun H locs M => ?_)
  refine lv_bipush (v := 107) C.x C.b dMach_follow_139 (by decide) ?_
  cases hf
  exact w_iret C M hr hlk rfl (Nat.le_refl _) (Nat.le_refl _) dMach_follow_141 rfl rfl
def f_Mach_follow_b33 (S : hE) (g : Nat → Nat) (N : Nat) (fol : Nat → Option Nat → Option Nat → Int32 → hE → Option (Int32 × hE)) : Nat → Option Nat → Option Nat → Option Nat → Int32 → hE → Option (Int32 × hE)
  | 0, _, _, _, _, _ => none
  | n + 1, y0, y1, y2, y4, E => (
  if 2000 < y4 then (
  f_Mach_follow_b134 S g N fol y0 E
  ) else (
  (gI E y2 1 5).bind fun v43 =>
  (gO E y1 3).bind fun o46 =>
  (f_Script_at E o46.1 v43).bind fun v46 =>
  if v46 = none then (
  (gI E y1 3 2).bind fun v58 =>
  (sI E y2 1 6 v58).bind fun E61 =>
  some (0, E61)
  ) else (
  (gI E v46 4 0).bind fun v69 =>
  (sI E y2 1 6 v69).bind fun E72 =>
  (gI E72 y0 2 8).bind fun v76 =>
  (gI E72 y0 2 11).bind fun v80 =>
  if v76 < v80 then (
  (gI E72 y0 2 8).bind fun v91 =>
  (sI E72 y0 2 8 (v91 + 1)).bind fun E96 =>
  (gI E96 y2 1 5).bind fun v101 =>
  (sI E96 y2 1 5 (v101 + 1)).bind fun E106 =>
  (gO E106 y0 2).bind fun o114 =>
  (f_Mach_perform S g N fol o114.1 v46 y1 y2 E106).bind fun v114 =>
  if v114.1 = (-1) then (
  f_Mach_follow_b33 S g N fol n y0 y1 y2 (y4 + 1) v114.2
  ) else (
  some (v114.1, v114.2)
  )
  ) else (
  f_Mach_follow_b134 S g N fol y0 E72
  )
  )
  ))
set_option maxHeartbeats 4000000 in
set_option maxRecDepth 100000 in
theorem b_Mach_follow_33 {p : Program} {l : Launch} {e : Env} {s : State} {m : MethodId} {args : Array Value} {below : List Frame} {meth : Method} {c : Code} {D : va_G} {kA : Nat → ClassId} {S : hE} {g : Nat → Nat} {n0 nx : Nat} {N : Nat} {fr lo : Nat} {res : Int32 × hE} (C : hX p s m args c prog_5_method_5_code 7 R_Mach ws_Mach_follow D kA S g n0) (hr : meth.sig.returnType = (some .int)) (hlk : meth.locks = false) (hnm : meth.name = "follow") (fol : Nat → Option Nat → Option Nat → Int32 → hE → Option (Int32 × hE)) (hfol : ∀ {x0 : Nat} {x1 x2 : Option Nat} {x3 : Int32} {E : hE} {res : Int32 × hE}, fol x0 x1 x2 x3 E = some res → Met l y_Mach_follow ws_Mach_follow { frames := fr, cells := 0, slots := 0, locals := lo } (va_Pc [va_rf (some x0), va_rf x1, va_rf x2, .int x3] (hJ D kA S g n0 (E, nx))) (va_Qi (fun r w => r = res.1 ∧ w = (res.2, nx)) (hJ D kA S g n0) (fun q => n0 ≤ q)) 0 0 (fun q => n0 ≤ q)) : ∀ n : Nat, ∀ (y0 : Option Nat) (y1 : Option Nat) (y2 : Option Nat) (y4 : Int32) (E : hE) (H : Heap) (locs : List Loc) (ls : Array Slot), hY D kA n0 s E nx H locs → lv_has ls 7 [(0, va_rf y0), (1, va_rf y1), (2, va_rf y2), (4, .int y4)] → f_Mach_follow_b33 S g N fol n y0 y1 y2 y4 E = some res → W p l e (rm_Mach_follow fr lo) s m args below meth c H locs 0 0 (MQ below (va_Qi (fun r w => r = res.1 ∧ w = (res.2, nx)) (hJ D kA S g n0) (fun q => n0 ≤ q)) args s 0 0 (fun q => n0 ≤ q)) (F0 m 33 ls []) := by
  intro n
  induction n with
  | zero =>
    intro y0 y1 y2 y4 E H locs ls M hl hf
    simp [f_Mach_follow_b33] at hf
  | succ n ih =>
    intro y0 y1 y2 y4 E H locs ls M hl hf
    rw [f_Mach_follow_b33] at hf
    refine lv_iload C.x C.b dMach_follow_33 (lv_at hl 3 rfl) ?_
    refine lv_sipush (v := 2000) C.x C.b dMach_follow_35 (by decide) ?_
    refine lv_icmp_gt (tgt := 134) C.x C.b dMach_follow_38 (by decide) (fun c38 => ?_) (fun c38 => ?_)
    · rw [if_pos c38] at hf
      exact b_Mach_follow_134 C hr hlk hnm fol hfol _ _ _ _ _ M (lv_sub hl [0] rfl) hf
    · rw [if_neg c38] at hf
      refine w_aload_n C.x C.b dMach_follow_41 rfl (lv_at hl 1 rfl) ?_
      refine w_aload_n C.x C.b dMach_follow_42 rfl (lv_at hl 2 rfl) ?_
      obtain ⟨v43, h43, hf⟩ := Option.bind_eq_some_iff.mp hf
      refine w_getI C M h43 rfl (hm_in in_Frame) (by decide) (List.mem_cons_of_mem _ wm_112) rfl dMach_follow_43 ?_
      obtain ⟨o46, g46, hf⟩ := Option.bind_eq_some_iff.mp hf
      obtain ⟨v46, h46, hf⟩ := Option.bind_eq_some_iff.mp hf
      refine w_cq M (w_runV C M g46 rfl (c_Script_at h46) (cwV 1 C.ts (hgV wm_592 wm_593 wm_594 wm_7 wm_595) rfl rfl rfl (by decide +kernel) ⟨by show 3 + 1 ≤ fr + 4; omega, by show 8 + (2 + 11) + (64) ≤ lo + 111; omega⟩) rfl hl.1 rfl (Nat.zero_le _) dMach_follow_46 ⟨Nat.le_refl _, Nat.le_refl _⟩) (fun H locs M => ?_)
      refine w_astore (lv' := [(5, va_rf v46), (0, va_rf y0), (1, va_rf y1), (2, va_rf y2), (4, .int y4)]) C.x C.b dMach_follow_49 hl (by decide) rfl (fun ls hl => ?_)
      refine w_aload C.x C.b dMach_follow_51 (lv_at hl 0 rfl) ?_
      refine w_ifnonnull (tgt := 66) C.x C.b dMach_follow_53 (by decide) (fun c53 => ?_) (fun c53 => ?_)
      · rw [if_neg c53] at hf
        refine w_aload_n C.x C.b dMach_follow_66 rfl (lv_at hl 3 rfl) ?_
        refine w_aload C.x C.b dMach_follow_67 (lv_at hl 0 rfl) ?_
        obtain ⟨v69, h69, hf⟩ := Option.bind_eq_some_iff.mp hf
        refine w_getI C M h69 rfl (hm_in in_Stat) (by decide) (List.mem_cons_of_mem _ wm_445) rfl dMach_follow_69 ?_
        obtain ⟨E72, h72, hf⟩ := Option.bind_eq_some_iff.mp hf
        refine w_putV (ty := .int) C M ty_Frame h72 rfl (hm_in in_Frame) tyok_Frame nm_Frame (by decide) (List.mem_cons_of_mem _ wm_113) rfl rfl (by decide +kernel) rfl rfl dMach_follow_72 (fun H locs M => ?_)
        refine w_aload_n C.x C.b dMach_follow_75 rfl (lv_at hl 1 rfl) ?_
        obtain ⟨v76, h76, hf⟩ := Option.bind_eq_some_iff.mp hf
        refine w_getI C M h76 rfl (hm_in in_Mach) (by decide) (List.mem_cons_of_mem _ wm_147) rfl dMach_follow_76 ?_
        refine w_aload_n C.x C.b dMach_follow_79 rfl (lv_at hl 1 rfl) ?_
        obtain ⟨v80, h80, hf⟩ := Option.bind_eq_some_iff.mp hf
        refine w_getI C M h80 rfl (hm_in in_Mach) (by decide) (List.mem_cons_of_mem _ wm_153) rfl dMach_follow_80 ?_
        refine lv_icmp_lt (tgt := 89) C.x C.b dMach_follow_83 (by decide) (fun c83 => ?_) (fun c83 => ?_)
        · rw [if_pos c83] at hf
          refine w_aload_n C.x C.b dMach_follow_89 rfl (lv_at hl 1 rfl) ?_
          refine lv_dup C.x C.b dMach_follow_90 (va_rf_cat _) ?_
          obtain ⟨v91, h91, hf⟩ := Option.bind_eq_some_iff.mp hf
          refine w_getI C M h91 rfl (hm_in in_Mach) (by decide) (List.mem_cons_of_mem _ wm_147) rfl dMach_follow_91 ?_
          refine lv_iconst (v := 1) C.x C.b dMach_follow_94 (by decide) ?_
          refine lv_iadd C.x C.b dMach_follow_95 ?_
          obtain ⟨E96, h96, hf⟩ := Option.bind_eq_some_iff.mp hf
          refine w_putV (ty := .int) C M ty_Mach h96 rfl (hm_in in_Mach) tyok_Mach nm_Mach (by decide) (List.mem_cons_of_mem _ wm_147) rfl rfl (by decide +kernel) rfl rfl dMach_follow_96 (fun H locs M => ?_)
          refine w_aload_n C.x C.b dMach_follow_99 rfl (lv_at hl 3 rfl) ?_
          refine lv_dup C.x C.b dMach_follow_100 (va_rf_cat _) ?_
          obtain ⟨v101, h101, hf⟩ := Option.bind_eq_some_iff.mp hf
          refine w_getI C M h101 rfl (hm_in in_Frame) (by decide) (List.mem_cons_of_mem _ wm_112) rfl dMach_follow_101 ?_
          refine lv_iconst (v := 1) C.x C.b dMach_follow_104 (by decide) ?_
          refine lv_iadd C.x C.b dMach_follow_105 ?_
          obtain ⟨E106, h106, hf⟩ := Option.bind_eq_some_iff.mp hf
          refine w_putV (ty := .int) C M ty_Frame h106 rfl (hm_in in_Frame) tyok_Frame nm_Frame (by decide) (List.mem_cons_of_mem _ wm_112) rfl rfl (by decide +kernel) rfl rfl dMach_follow_106 (fun H locs M => ?_)
          refine w_aload_n C.x C.b dMach_follow_109 rfl (lv_at hl 1 rfl) ?_
          refine w_aload C.x C.b dMach_follow_110 (lv_at hl 0 rfl) ?_
          refine w_aload_n C.x C.b dMach_follow_112 rfl (lv_at hl 2 rfl) ?_
          refine w_aload_n C.x C.b dMach_follow_113 rfl (lv_at hl 3 rfl) ?_
          obtain ⟨o114, g114, hf⟩ := Option.bind_eq_some_iff.mp hf
          obtain ⟨v114, h114, hf⟩ := Option.bind_eq_some_iff.mp hf
          refine w_ci M (w_runV C M g114 rfl (c_Mach_perform hfol h114) (cwV 3 C.ts (hgV wm_596 wm_598 sel_Mach_perform wm_4 wm_599) rfl rfl rfl (by decide +kernel) ⟨by show fr + 3 + 1 ≤ fr + 4; omega, by show 8 + (6 + 11) + (lo + 86) ≤ lo + 111; omega⟩) rfl hl.1 rfl (Nat.zero_le _) dMach_follow_114 ⟨Nat.le_refl _, Nat.le_refl _⟩) (fun H locs M => ?_)
          refine lv_istore (lv' := [(6, .int v114.1), (5, va_rf v46), (0, va_rf y0), (1, va_rf y1), (2, va_rf y2), (4, .int y4)]) C.x C.b dMach_follow_117 hl (by decide) (by simp only [List.filter, va_rf_cat] <;> rfl) (fun ls hl => ?_)
          refine lv_iload C.x C.b dMach_follow_119 (lv_at hl 0 rfl) ?_
          refine lv_iconst (v := (-1)) C.x C.b dMach_follow_121 (by decide) ?_
          refine lv_icmp_eq (tgt := 128) C.x C.b dMach_follow_122 (by decide) (fun c122 => ?_) (fun c122 => ?_)
          · rw [if_pos c122] at hf
            refine lv_iinc (v := y4 + 1) (lv' := [(4, .int (y4 + 1)), (6, .int v114.1), (5, va_rf v46), (0, va_rf y0), (1, va_rf y1), (2, va_rf y2)]) C.x C.b dMach_follow_128 hl (k := 5) rfl rfl (by decide) rfl (fun ls hl => ?_)
            refine lv_goto (tgt := 33) C.x C.b dMach_follow_131 (by decide) ?_
            exact ih _ _ _ _ _ _ _ _ M (lv_sub hl [3, 4, 5, 0] rfl) hf
          · rw [if_neg c122] at hf
            refine lv_iload C.x C.b dMach_follow_125 (lv_at hl 0 rfl) ?_
            cases hf
            exact w_iret C M hr hlk rfl (Nat.le_refl _) (Nat.le_refl _) dMach_follow_127 rfl rfl
        · rw [if_neg c83] at hf
          refine lv_goto (tgt := 134) C.x C.b dMach_follow_86 (by decide) ?_
          exact b_Mach_follow_134 C hr hlk hnm fol hfol _ _ _ _ _ M (lv_sub hl [1] rfl) hf
      · rw [if_pos c53] at hf
        refine w_aload_n C.x C.b dMach_follow_56 rfl (lv_at hl 3 rfl) ?_
        refine w_aload_n C.x C.b dMach_follow_57 rfl (lv_at hl 2 rfl) ?_
        obtain ⟨v58, h58, hf⟩ := Option.bind_eq_some_iff.mp hf
        refine w_getI C M h58 rfl (hm_in in_Script) (by decide) (List.mem_cons_of_mem _ wm_254) rfl dMach_follow_58 ?_
        obtain ⟨E61, h61, hf⟩ := Option.bind_eq_some_iff.mp hf
        refine w_putV (ty := .int) C M ty_Frame h61 rfl (hm_in in_Frame) tyok_Frame nm_Frame (by decide) (List.mem_cons_of_mem _ wm_113) rfl rfl (by decide +kernel) rfl rfl dMach_follow_61 (fun H locs M => ?_)
        refine lv_iconst (v := 0) C.x C.b dMach_follow_64 (by decide) ?_
        cases hf
        exact w_iret C M hr hlk rfl (Nat.le_refl _) (Nat.le_refl _) dMach_follow_65 rfl rfl
def f_Mach_follow (S : hE) (g : Nat → Nat) (N : Nat) (fol : Nat → Option Nat → Option Nat → Int32 → hE → Option (Int32 × hE)) (x0 : Nat) (x1 : Option Nat) (x2 : Option Nat) (x3 : Int32) (E : hE) : Option (Int32 × hE) := (
  (gO E x2 1).bind fun o2 =>
  (f_Frame_begin N o2.1 x3 E).bind fun v2 =>
  (gI v2 (some x0) 2 10).bind fun v7 =>
  (sI v2 (some x0) 2 10 (v7 + 1)).bind fun E12 =>
  (gI E12 (some x0) 2 9).bind fun v17 =>
  (gI E12 x2 1 0).bind fun v21 =>
  (sI E12 (some x0) 2 9 (if v17 < v21 then v21 else v17)).bind fun E27 =>
  f_Mach_follow_b33 S g N fol N (some x0) x1 x2 0 E27)
set_option maxHeartbeats 4000000 in
set_option maxRecDepth 100000 in
theorem c_Mach_follow {l : Launch} {D : va_G} {kA : Nat → ClassId} {S : hE} {g : Nat → Nat} {n0 nx : Nat} {N : Nat} {fr lo : Nat} {x0 : Nat} {x1 : Option Nat} {x2 : Option Nat} {x3 : Int32} {E : hE} {res : Int32 × hE} {fol : Nat → Option Nat → Option Nat → Int32 → hE → Option (Int32 × hE)} (hfol : ∀ {x0 : Nat} {x1 x2 : Option Nat} {x3 : Int32} {E : hE} {res : Int32 × hE}, fol x0 x1 x2 x3 E = some res → Met l y_Mach_follow ws_Mach_follow { frames := fr, cells := 0, slots := 0, locals := lo } (va_Pc [va_rf (some x0), va_rf x1, va_rf x2, .int x3] (hJ D kA S g n0 (E, nx))) (va_Qi (fun r w => r = res.1 ∧ w = (res.2, nx)) (hJ D kA S g n0) (fun q => n0 ≤ q)) 0 0 (fun q => n0 ≤ q)) (hf : f_Mach_follow S g N fol x0 x1 x2 x3 E = some res) : Met l y_Mach_follow ws_Mach_follow (rm_Mach_follow fr lo) (va_Pc [va_rf (some x0), va_rf x1, va_rf x2, .int x3] (hJ D kA S g n0 (E, nx))) (va_Qi (fun r w => r = res.1 ∧ w = (res.2, nx)) (hJ D kA S g n0) (fun q => n0 ≤ q)) 0 0 (fun q => n0 ≤ q) := by
  refine h_met (cc := prog_5_method_5_code) (maxL := 7) (ret := (some .int)) (lvs := [(0, va_rf (some x0)), (1, va_rf x1), (2, va_rf x2), (3, .int x3)]) zZ_k (by decide) rfl (by simp [lg_sl, va_rf_cat, cat_i, cat_l, cat_n]) (by simp [lv_args, va_rf_cat, cat_i, cat_l, cat_n]) ?_
  intro p e s m below meth c ls C M hr hlk hnm hl
  unfold f_Mach_follow at hf
  refine w_aload_n C.x C.b dMach_follow_0 rfl (lv_at hl 2 rfl) ?_
  refine lv_iload_n C.x C.b dMach_follow_1 rfl (lv_at hl 3 rfl) ?_
  obtain ⟨o2, g2, hf⟩ := Option.bind_eq_some_iff.mp hf
  obtain ⟨v2, h2, hf⟩ := Option.bind_eq_some_iff.mp hf
  refine w_cv M (w_runV C M g2 rfl (c_Frame_begin h2) (cwV 1 C.ts (hgV wm_586 wm_587 wm_588 wm_5 wm_589) rfl rfl rfl (by decide +kernel) ⟨by show 1 + 1 ≤ fr + 4; omega, by show 8 + (2 + 11) + (23) ≤ lo + 111; omega⟩) rfl hl.1 rfl (Nat.zero_le _) dMach_follow_2 ⟨Nat.le_refl _, Nat.le_refl _⟩) (fun H locs M => ?_)
  refine w_aload_n C.x C.b dMach_follow_5 rfl (lv_at hl 0 rfl) ?_
  refine lv_dup C.x C.b dMach_follow_6 (va_rf_cat _) ?_
  obtain ⟨v7, h7, hf⟩ := Option.bind_eq_some_iff.mp hf
  refine w_getI C M h7 rfl (hm_in in_Mach) (by decide) (List.mem_cons_of_mem _ wm_151) rfl dMach_follow_7 ?_
  refine lv_iconst (v := 1) C.x C.b dMach_follow_10 (by decide) ?_
  refine lv_iadd C.x C.b dMach_follow_11 ?_
  obtain ⟨E12, h12, hf⟩ := Option.bind_eq_some_iff.mp hf
  refine w_putV (ty := .int) C M ty_Mach h12 rfl (hm_in in_Mach) tyok_Mach nm_Mach (by decide) (List.mem_cons_of_mem _ wm_151) rfl rfl (by decide +kernel) rfl rfl dMach_follow_12 (fun H locs M => ?_)
  refine w_aload_n C.x C.b dMach_follow_15 rfl (lv_at hl 0 rfl) ?_
  refine w_aload_n C.x C.b dMach_follow_16 rfl (lv_at hl 0 rfl) ?_
  obtain ⟨v17, h17, hf⟩ := Option.bind_eq_some_iff.mp hf
  refine w_getI C M h17 rfl (hm_in in_Mach) (by decide) (List.mem_cons_of_mem _ wm_149) rfl dMach_follow_17 ?_
  refine w_aload_n C.x C.b dMach_follow_20 rfl (lv_at hl 2 rfl) ?_
  obtain ⟨v21, h21, hf⟩ := Option.bind_eq_some_iff.mp hf
  refine w_getI C M h21 rfl (hm_in in_Frame) (by decide) (List.mem_cons_of_mem _ wm_104) rfl dMach_follow_21 ?_
  refine va_mmax C.x C.b (C.ml.trans hl.1.symm) C.ow (C.ts (.methodLink R_Mach 81 Lib.Math.max.name) (List.mem_cons_of_mem _ wm_591)) (C.ts (.static Lib.Math.max.name) (List.mem_cons_of_mem _ wm_392)) (C.ts (.initialized "java/lang/Math") (List.mem_cons_of_mem _ wm_16)) (C.ts (.code Lib.Math.max.name Lib.Math.max.code 2 (some .int)) (List.mem_cons_of_mem _ wm_393)) (Nat.le_of_ble_eq_true rfl) (by simp [va_rf_cat, cat_i, cat_l, cat_n]) (Nat.zero_le _) (Nat.zero_le _) dMach_follow_24 ?_
  obtain ⟨E27, h27, hf⟩ := Option.bind_eq_some_iff.mp hf
  refine w_putV (ty := .int) C M ty_Mach h27 rfl (hm_in in_Mach) tyok_Mach nm_Mach (by decide) (List.mem_cons_of_mem _ wm_149) rfl rfl (by decide +kernel) rfl rfl dMach_follow_27 (fun H locs M => ?_)
  refine lv_iconst (v := 0) C.x C.b dMach_follow_30 (by decide) ?_
  refine lv_istore (lv' := [(4, .int 0), (0, va_rf (some x0)), (1, va_rf x1), (2, va_rf x2), (3, .int x3)]) C.x C.b dMach_follow_31 hl (by decide) rfl (fun ls hl => ?_)
  exact b_Mach_follow_33 C hr hlk hnm fol hfol N _ _ _ _ _ _ _ _ M (lv_sub hl [1, 2, 3, 0] rfl) hf
theorem dTape_init_0 : decode prog_9_method_1_code 0 = .ok (.aload_n 0, 1) := by decide +kernel
theorem dTape_init_1 : decode prog_9_method_1_code 1 = .ok (.invokespecial 3, 3) := by decide +kernel
theorem dTape_init_4 : decode prog_9_method_1_code 4 = .ok (.aload_n 0, 1) := by decide +kernel
theorem dTape_init_5 : decode prog_9_method_1_code 5 = .ok (.new 9, 3) := by decide +kernel
theorem dTape_init_8 : decode prog_9_method_1_code 8 = .ok (.dup, 1) := by decide +kernel
theorem dTape_init_9 : decode prog_9_method_1_code 9 = .ok (.sipush 400, 3) := by decide +kernel
theorem dTape_init_12 : decode prog_9_method_1_code 12 = .ok (.invokespecial 11, 3) := by decide +kernel
theorem dTape_init_15 : decode prog_9_method_1_code 15 = .ok (.putfield 14, 3) := by decide +kernel
theorem dTape_init_18 : decode prog_9_method_1_code 18 = .ok (.aload_n 0, 1) := by decide +kernel
theorem dTape_init_19 : decode prog_9_method_1_code 19 = .ok (.bipush 6, 2) := by decide +kernel
theorem dTape_init_21 : decode prog_9_method_1_code 21 = .ok (.newarray .int, 2) := by decide +kernel
theorem dTape_init_23 : decode prog_9_method_1_code 23 = .ok (.putfield 20, 3) := by decide +kernel
theorem dTape_init_26 : decode prog_9_method_1_code 26 = .ok (.aload_n 0, 1) := by decide +kernel
theorem dTape_init_27 : decode prog_9_method_1_code 27 = .ok (.bipush 6, 2) := by decide +kernel
theorem dTape_init_29 : decode prog_9_method_1_code 29 = .ok (.newarray .int, 2) := by decide +kernel
theorem dTape_init_31 : decode prog_9_method_1_code 31 = .ok (.putfield 24, 3) := by decide +kernel
theorem dTape_init_34 : decode prog_9_method_1_code 34 = .ok (.return_, 1) := by decide +kernel
abbrev rm_Tape_init : Room := { frames := 2, cells := 4, slots := 415, locals := 61 }
def f_Tape_init  (x0 : Nat) (E : hE) (nx : Nat) : Option (hE × Nat) := (
  (some (va_up E nx (some (.inr (0, [.null, .int 0, .int 0]))))).bind fun E5 =>
  (f_Row_init nx 400 E5 (nx + 1)).bind fun v12 =>
  (sR v12.1 (some x0) 5 0 (some nx)).bind fun E15 =>
  (nA E15 v12.2 0 6 6).bind fun E21 =>
  (sR E21 (some x0) 5 1 (some v12.2)).bind fun E23 =>
  (nA E23 (v12.2 + 1) 0 6 6).bind fun E29 =>
  (sR E29 (some x0) 5 2 (some (v12.2 + 1))).bind fun E31 =>
  some (E31, v12.2 + 1 + 1))
set_option maxHeartbeats 4000000 in
set_option maxRecDepth 100000 in
theorem c_Tape_init {l : Launch} {D : va_G} {kA : Nat → ClassId} {S : hE} {g : Nat → Nat} {n0 nx : Nat} {x0 : Nat} {E : hE} {res : hE × Nat} (hf : f_Tape_init x0 E nx = some res) : Met l y_Tape_init ws_Tape_init rm_Tape_init (va_Pc [va_rf (some x0)] (hJ D kA S g n0 (E, nx))) (va_Qv (fun w => w = res) (hJ D kA S g n0) (fun q => n0 ≤ q)) 4 415 (fun q => n0 ≤ q) := by
  refine h_met (cc := prog_9_method_1_code) (maxL := 1) (ret := none) (lvs := [(0, va_rf (some x0))]) zZ_k (by decide) rfl (by simp [lg_sl, va_rf_cat, cat_i, cat_l, cat_n]) (by simp [lv_args, va_rf_cat, cat_i, cat_l, cat_n]) ?_
  intro p e s m below meth c ls C M hr hlk hnm hl
  unfold f_Tape_init at hf
  refine w_aload_n C.x C.b dTape_init_0 rfl (lv_at hl 0 rfl) ?_
  refine W.objInit C.x C.b C.ow (C.ts (.methodLink R_Tape 3 objectInit) (List.mem_cons_of_mem _ wm_36)) (C.ts (.instanceMethod objectInit) (List.mem_cons_of_mem _ wm_29)) (C.ts _ (List.mem_cons_of_mem _ wm_30)) rfl (by rw [C.ml]; exact hl.1) rfl dTape_init_1 (Nat.le_of_ble_eq_true rfl) (Nat.le_of_ble_eq_true rfl) ?_
  refine W.eq (g2 := F0 m 4 ls []) rfl ?_
  refine w_aload_n C.x C.b dTape_init_4 rfl (lv_at hl 0 rfl) ?_
  obtain ⟨E5, h5, hf⟩ := Option.bind_eq_some_iff.mp hf
  have h5 := Option.some.inj h5
  refine w_new (ci := 0) C M (fs := [.null, .int 0, .int 0]) ty_Row rfl (hm_in in_Row) tyok_Row (List.mem_cons_of_mem _ wm_37) (List.mem_cons_of_mem _ wm_38) (List.mem_cons_of_mem _ wm_3) (fun j hj => by rcases (show j = 0 ∨ j = 1 ∨ j = 2 by omega) with rfl | rfl | rfl <;> rfl) (by show _ ≤ 4; omega) (by show _ ≤ 415; omega) dTape_init_5 (fun H M => ?_)
  rw [h5] at M
  refine lv_dup C.x C.b dTape_init_8 (va_rf_cat _) ?_
  refine lv_sipush (v := 400) C.x C.b dTape_init_9 (by decide) ?_
  obtain ⟨v12, h12, hf⟩ := Option.bind_eq_some_iff.mp hf
  refine w_cv M (w_runI C M (c_Row_init h12) (cwI 1 C.ts (hgC wm_41) rfl rfl rfl (C.ts (.initialized R_Row) (List.mem_cons_of_mem _ wm_3)) (C.ts (.methodLink R_Tape 11 y_Row_init) (List.mem_cons_of_mem _ wm_39)) (C.ts (.instanceMethod y_Row_init) (List.mem_cons_of_mem _ wm_40)) rfl (by decide +kernel) ⟨Nat.le_of_ble_eq_true rfl, Nat.le_of_ble_eq_true rfl⟩) rfl hl.1 rfl (by simp [va_rf_cat, cat_i, cat_l, cat_n]) dTape_init_12 ⟨by show _ ≤ 4; omega, by show _ ≤ 415; omega⟩) (fun H locs M => ?_)
  obtain ⟨E15, h15, hf⟩ := Option.bind_eq_some_iff.mp hf
  refine w_putVF (ty := .object "StepPrograms$Row") C M ty_Tape h15 rfl (hm_in in_Tape) tyok_Tape nm_Tape (by decide) (List.mem_cons_of_mem _ wm_58) rfl rfl hnm rfl (by decide +kernel) (narrow_o _ _) (fits_o _ _) dTape_init_15 (fun H locs M => ?_)
  refine w_aload_n C.x C.b dTape_init_18 rfl (lv_at hl 0 rfl) ?_
  refine lv_bipush (v := 6) C.x C.b dTape_init_19 (by decide) ?_
  obtain ⟨E21, h21, hf⟩ := Option.bind_eq_some_iff.mp hf
  refine w_newI (atype := .int) (ty := .int) C M h21 (List.mem_cons_of_mem _ wm_57) rfl rfl (fun _ _ h => h) (fun _ _ => rfl) (by decide) (by show _ ≤ 4; omega) (by show _ ≤ 415; omega) dTape_init_21 (fun H M => ?_)
  obtain ⟨E23, h23, hf⟩ := Option.bind_eq_some_iff.mp hf
  refine w_putVF (ty := (.array .int)) C M ty_Tape h23 rfl (hm_in in_Tape) tyok_Tape nm_Tape (by decide) (List.mem_cons_of_mem _ wm_60) rfl rfl hnm rfl (by decide +kernel) (narrow_a _ _) (fits_a _ _) dTape_init_23 (fun H locs M => ?_)
  refine w_aload_n C.x C.b dTape_init_26 rfl (lv_at hl 0 rfl) ?_
  refine lv_bipush (v := 6) C.x C.b dTape_init_27 (by decide) ?_
  obtain ⟨E29, h29, hf⟩ := Option.bind_eq_some_iff.mp hf
  refine w_newI (atype := .int) (ty := .int) C M h29 (List.mem_cons_of_mem _ wm_57) rfl rfl (fun _ _ h => h) (fun _ _ => rfl) (by decide) (by show _ ≤ 4; omega) (by show _ ≤ 415; omega) dTape_init_29 (fun H M => ?_)
  obtain ⟨E31, h31, hf⟩ := Option.bind_eq_some_iff.mp hf
  refine w_putVF (ty := (.array .int)) C M ty_Tape h31 rfl (hm_in in_Tape) tyok_Tape nm_Tape (by decide) (List.mem_cons_of_mem _ wm_61) rfl rfl hnm rfl (by decide +kernel) (narrow_a _ _) (fits_a _ _) dTape_init_31 (fun H locs M => ?_)
  cases hf
  exact w_vret C M hr hlk (by omega) (by omega) dTape_init_34 rfl
theorem dS_init_0 : decode prog_1_method_1_code 0 = .ok (.aload_n 0, 1) := by decide +kernel
theorem dS_init_1 : decode prog_1_method_1_code 1 = .ok (.invokespecial 1, 3) := by decide +kernel
theorem dS_init_4 : decode prog_1_method_1_code 4 = .ok (.aload_n 0, 1) := by decide +kernel
theorem dS_init_5 : decode prog_1_method_1_code 5 = .ok (.new 7, 3) := by decide +kernel
theorem dS_init_8 : decode prog_1_method_1_code 8 = .ok (.dup, 1) := by decide +kernel
theorem dS_init_9 : decode prog_1_method_1_code 9 = .ok (.invokespecial 9, 3) := by decide +kernel
theorem dS_init_12 : decode prog_1_method_1_code 12 = .ok (.putfield 10, 3) := by decide +kernel
theorem dS_init_15 : decode prog_1_method_1_code 15 = .ok (.aload_n 0, 1) := by decide +kernel
theorem dS_init_16 : decode prog_1_method_1_code 16 = .ok (.new 16, 3) := by decide +kernel
theorem dS_init_19 : decode prog_1_method_1_code 19 = .ok (.dup, 1) := by decide +kernel
theorem dS_init_20 : decode prog_1_method_1_code 20 = .ok (.invokespecial 18, 3) := by decide +kernel
theorem dS_init_23 : decode prog_1_method_1_code 23 = .ok (.putfield 19, 3) := by decide +kernel
theorem dS_init_26 : decode prog_1_method_1_code 26 = .ok (.return_, 1) := by decide +kernel
abbrev rm_S_init : Room := { frames := 3, cells := 56, slots := 5971, locals := 82 }
def f_S_init (N : Nat) (x0 : Nat) (E : hE) (nx : Nat) : Option (hE × Nat) := (
  (some (va_up E nx (some (.inr (5, [.null, .null, .null, .int 0, .int 0, .int 0, .int 0, .int 0, .int 0]))))).bind fun E5 =>
  (f_Tape_init nx E5 (nx + 1)).bind fun v9 =>
  (sR v9.1 (some x0) 6 0 (some nx)).bind fun E12 =>
  (some (va_up E12 v9.2 (some (.inr (2, [.null, .null, .null, .null, .null, .null, .null, .int 0, .int 0, .int 0, .int 0, .int 0, .int 0]))))).bind fun E16 =>
  (f_Mach_init N v9.2 E16 (v9.2 + 1)).bind fun v20 =>
  (sR v20.1 (some x0) 6 1 (some v9.2)).bind fun E23 =>
  some (E23, v20.2))
set_option maxHeartbeats 4000000 in
set_option maxRecDepth 100000 in
theorem c_S_init {l : Launch} {D : va_G} {kA : Nat → ClassId} {S : hE} {g : Nat → Nat} {n0 nx : Nat} {N : Nat} {x0 : Nat} {E : hE} {res : hE × Nat} (hf : f_S_init N x0 E nx = some res) : Met l y_S_init ws_S_init rm_S_init (va_Pc [va_rf (some x0)] (hJ D kA S g n0 (E, nx))) (va_Qv (fun w => w = res) (hJ D kA S g n0) (fun q => n0 ≤ q)) 56 5971 (fun q => n0 ≤ q) := by
  refine h_met (cc := prog_1_method_1_code) (maxL := 1) (ret := none) (lvs := [(0, va_rf (some x0))]) zZ_k (by decide) rfl (by simp [lg_sl, va_rf_cat, cat_i, cat_l, cat_n]) (by simp [lv_args, va_rf_cat, cat_i, cat_l, cat_n]) ?_
  intro p e s m below meth c ls C M hr hlk hnm hl
  unfold f_S_init at hf
  refine w_aload_n C.x C.b dS_init_0 rfl (lv_at hl 0 rfl) ?_
  refine W.objInit C.x C.b C.ow (C.ts (.methodLink R_S 1 objectInit) (List.mem_cons_of_mem _ wm_28)) (C.ts (.instanceMethod objectInit) (List.mem_cons_of_mem _ wm_29)) (C.ts _ (List.mem_cons_of_mem _ wm_30)) rfl (by rw [C.ml]; exact hl.1) rfl dS_init_1 (Nat.le_of_ble_eq_true rfl) (Nat.le_of_ble_eq_true rfl) ?_
  refine W.eq (g2 := F0 m 4 ls []) rfl ?_
  refine w_aload_n C.x C.b dS_init_4 rfl (lv_at hl 0 rfl) ?_
  obtain ⟨E5, h5, hf⟩ := Option.bind_eq_some_iff.mp hf
  have h5 := Option.some.inj h5
  refine w_new (ci := 5) C M (fs := [.null, .null, .null, .int 0, .int 0, .int 0, .int 0, .int 0, .int 0]) ty_Tape rfl (hm_in in_Tape) tyok_Tape (List.mem_cons_of_mem _ wm_31) (List.mem_cons_of_mem _ wm_32) (List.mem_cons_of_mem _ wm_2) (fun j hj => by rcases (show j = 0 ∨ j = 1 ∨ j = 2 ∨ j = 3 ∨ j = 4 ∨ j = 5 ∨ j = 6 ∨ j = 7 ∨ j = 8 by omega) with rfl | rfl | rfl | rfl | rfl | rfl | rfl | rfl | rfl <;> rfl) (by show _ ≤ 56; omega) (by show _ ≤ 5971; omega) dS_init_5 (fun H M => ?_)
  rw [h5] at M
  refine lv_dup C.x C.b dS_init_8 (va_rf_cat _) ?_
  obtain ⟨v9, h9, hf⟩ := Option.bind_eq_some_iff.mp hf
  refine w_cv M (w_runIN C M (c_Tape_init h9) ⟨va_cnB 0 C.ts (hgC wm_35) rfl rfl rfl (zZ_nest C.z) (C.ts (.initialized R_Tape) (List.mem_cons_of_mem _ wm_2)) (by decide +kernel) ⟨Nat.le_of_ble_eq_true rfl, Nat.le_of_ble_eq_true rfl⟩, rfl, C.ts (.instanceMethod y_Tape_init) (List.mem_cons_of_mem _ wm_34)⟩ rfl hl.1 rfl (by simp [va_rf_cat, cat_i, cat_l, cat_n]) dS_init_9 ⟨by show _ ≤ 56; omega, by show _ ≤ 5971; omega⟩) (fun H locs M => ?_)
  obtain ⟨E12, h12, hf⟩ := Option.bind_eq_some_iff.mp hf
  refine w_putVF (ty := .object "StepPrograms$Tape") C M ty_S h12 rfl (hm_in in_S) tyok_S nm_S (by decide) (List.mem_cons_of_mem _ wm_182) rfl rfl hnm rfl (by decide +kernel) (narrow_o _ _) (fits_o _ _) dS_init_12 (fun H locs M => ?_)
  refine w_aload_n C.x C.b dS_init_15 rfl (lv_at hl 0 rfl) ?_
  obtain ⟨E16, h16, hf⟩ := Option.bind_eq_some_iff.mp hf
  have h16 := Option.some.inj h16
  refine w_new (ci := 2) C M (fs := [.null, .null, .null, .null, .null, .null, .null, .int 0, .int 0, .int 0, .int 0, .int 0, .int 0]) ty_Mach rfl (hm_in in_Mach) tyok_Mach (List.mem_cons_of_mem _ wm_87) (List.mem_cons_of_mem _ wm_88) (List.mem_cons_of_mem _ wm_4) (fun j hj => by rcases (show j = 0 ∨ j = 1 ∨ j = 2 ∨ j = 3 ∨ j = 4 ∨ j = 5 ∨ j = 6 ∨ j = 7 ∨ j = 8 ∨ j = 9 ∨ j = 10 ∨ j = 11 ∨ j = 12 by omega) with rfl | rfl | rfl | rfl | rfl | rfl | rfl | rfl | rfl | rfl | rfl | rfl | rfl <;> rfl) (by show _ ≤ 56; omega) (by show _ ≤ 5971; omega) dS_init_16 (fun H M => ?_)
  rw [h16] at M
  refine lv_dup C.x C.b dS_init_19 (va_rf_cat _) ?_
  obtain ⟨v20, h20, hf⟩ := Option.bind_eq_some_iff.mp hf
  refine w_cv M (w_runI C M (c_Mach_init h20) (cwI 0 C.ts (hgC wm_91) rfl rfl rfl (C.ts (.initialized R_Mach) (List.mem_cons_of_mem _ wm_4)) (C.ts (.methodLink R_S 18 y_Mach_init) (List.mem_cons_of_mem _ wm_89)) (C.ts (.instanceMethod y_Mach_init) (List.mem_cons_of_mem _ wm_90)) rfl (by decide +kernel) ⟨Nat.le_of_ble_eq_true rfl, Nat.le_of_ble_eq_true rfl⟩) rfl hl.1 rfl (by simp [va_rf_cat, cat_i, cat_l, cat_n]) dS_init_20 ⟨by show _ ≤ 56; omega, by show _ ≤ 5971; omega⟩) (fun H locs M => ?_)
  obtain ⟨E23, h23, hf⟩ := Option.bind_eq_some_iff.mp hf
  refine w_putVF (ty := .object "StepPrograms$Machine") C M ty_S h23 rfl (hm_in in_S) tyok_S nm_S (by decide) (List.mem_cons_of_mem _ wm_183) rfl rfl hnm rfl (by decide +kernel) (narrow_o _ _) (fits_o _ _) dS_init_23 (fun H locs M => ?_)
  cases hf
  exact w_vret C M hr hlk (by omega) (by omega) dS_init_26 rfl
theorem dS_byteAt_0 : decode prog_1_method_13_code 0 = .ok (.lload_n 0, 1) := by decide +kernel
theorem dS_byteAt_1 : decode prog_1_method_13_code 1 = .ok (.bipush 8, 2) := by decide +kernel
theorem dS_byteAt_3 : decode prog_1_method_13_code 3 = .ok (.iload_n 2, 1) := by decide +kernel
theorem dS_byteAt_4 : decode prog_1_method_13_code 4 = .ok (.imul, 1) := by decide +kernel
theorem dS_byteAt_5 : decode prog_1_method_13_code 5 = .ok (.lushr, 1) := by decide +kernel
theorem dS_byteAt_6 : decode prog_1_method_13_code 6 = .ok (.l2i, 1) := by decide +kernel
theorem dS_byteAt_7 : decode prog_1_method_13_code 7 = .ok (.sipush 255, 3) := by decide +kernel
theorem dS_byteAt_10 : decode prog_1_method_13_code 10 = .ok (.iand, 1) := by decide +kernel
theorem dS_byteAt_11 : decode prog_1_method_13_code 11 = .ok (.ireturn, 1) := by decide +kernel
abbrev rm_S_byteAt : Room := { frames := 0, cells := 0, slots := 0, locals := 0 }
def f_S_byteAt (E : hE) (x0 : Int64) (x2 : Int32) : Option (Int32) := (
  some ((((x0.toUInt64 >>> ((8 * x2).toInt64.toUInt64 &&& Int64.toUInt64 63)).toInt64).toInt32) &&& 255))
set_option maxHeartbeats 4000000 in
set_option maxRecDepth 100000 in
theorem c_S_byteAt {l : Launch} {D : va_G} {kA : Nat → ClassId} {S : hE} {g : Nat → Nat} {n0 nx : Nat} {x0 : Int64} {x2 : Int32} {E : hE} {res : Int32} (hf : f_S_byteAt E x0 x2 = some res) : Met l y_S_byteAt ws_S_byteAt rm_S_byteAt (va_Pc [.long x0, .int x2] (hJ D kA S g n0 (E, nx))) (va_Qi (fun r w => r = res ∧ w = (E, nx)) (hJ D kA S g n0) (fun q => n0 ≤ q)) 0 0 (fun q => n0 ≤ q) := by
  refine h_met (cc := prog_1_method_13_code) (maxL := 3) (ret := (some .int)) (lvs := [(0, .long x0), (2, .int x2)]) zZ_k (by decide) rfl (by simp [lg_sl, va_rf_cat, cat_i, cat_l, cat_n]) (by simp [lv_args, va_rf_cat, cat_i, cat_l, cat_n]) ?_
  intro p e s m below meth c ls C M hr hlk hnm hl
  unfold f_S_byteAt at hf
  refine lv_lload_n C.x C.b dS_byteAt_0 rfl (lv_at hl 0 rfl) ?_
  refine lv_bipush (v := 8) C.x C.b dS_byteAt_1 (by decide) ?_
  refine lv_iload_n C.x C.b dS_byteAt_3 rfl (lv_at hl 1 rfl) ?_
  refine lv_imul C.x C.b dS_byteAt_4 ?_
  refine lv_lushr C.x C.b dS_byteAt_5 rfl ?_
  refine lv_l2i C.x C.b dS_byteAt_6 rfl ?_
  refine lv_sipush (v := 255) C.x C.b dS_byteAt_7 (by decide) ?_
  refine lv_iand C.x C.b dS_byteAt_10 ?_
  cases hf
  exact w_iret C M hr hlk rfl (Nat.le_refl _) (Nat.le_refl _) dS_byteAt_11 rfl rfl
theorem dS_isCharacter_0 : decode prog_1_method_14_code 0 = .ok (.iload_n 0, 1) := by decide +kernel
theorem dS_isCharacter_1 : decode prog_1_method_14_code 1 = .ok (.bipush 10, 2) := by decide +kernel
theorem dS_isCharacter_3 : decode prog_1_method_14_code 3 = .ok (.if_icmp .eq 15, 3) := by decide +kernel
theorem dS_isCharacter_6 : decode prog_1_method_14_code 6 = .ok (.iload_n 0, 1) := by decide +kernel
theorem dS_isCharacter_7 : decode prog_1_method_14_code 7 = .ok (.bipush 32, 2) := by decide +kernel
theorem dS_isCharacter_9 : decode prog_1_method_14_code 9 = .ok (.if_icmp .lt 13, 3) := by decide +kernel
theorem dS_isCharacter_12 : decode prog_1_method_14_code 12 = .ok (.iload_n 0, 1) := by decide +kernel
theorem dS_isCharacter_13 : decode prog_1_method_14_code 13 = .ok (.bipush 126, 2) := by decide +kernel
theorem dS_isCharacter_15 : decode prog_1_method_14_code 15 = .ok (.if_icmp .gt 7, 3) := by decide +kernel
theorem dS_isCharacter_18 : decode prog_1_method_14_code 18 = .ok (.iconst 1, 1) := by decide +kernel
theorem dS_isCharacter_19 : decode prog_1_method_14_code 19 = .ok (.goto 4, 3) := by decide +kernel
theorem dS_isCharacter_22 : decode prog_1_method_14_code 22 = .ok (.iconst 0, 1) := by decide +kernel
theorem dS_isCharacter_23 : decode prog_1_method_14_code 23 = .ok (.ireturn, 1) := by decide +kernel
abbrev rm_S_isCharacter : Room := { frames := 0, cells := 0, slots := 0, locals := 0 }
def f_S_isCharacter_b23 (E : hE) (t0 : Int32) : Option (Int32) := (
  (bZ t0).bind fun v23 =>
  some v23)
set_option maxHeartbeats 4000000 in
set_option maxRecDepth 100000 in
theorem b_S_isCharacter_23 {p : Program} {l : Launch} {e : Env} {s : State} {m : MethodId} {args : Array Value} {below : List Frame} {meth : Method} {c : Code} {D : va_G} {kA : Nat → ClassId} {S : hE} {g : Nat → Nat} {n0 nx : Nat} {E : hE} {res : Int32} (C : hX p s m args c prog_1_method_14_code 1 R_S ws_S_isCharacter D kA S g n0) (hr : meth.sig.returnType = (some .boolean)) (hlk : meth.locks = false) (hnm : meth.name = "isCharacter") : ∀ (t0 : Int32) (H : Heap) (locs : List Loc) (ls : Array Slot), hY D kA n0 s E nx H locs → lv_has ls 1 [] → f_S_isCharacter_b23 E  t0 = some res → W p l e rm_S_isCharacter s m args below meth c H locs 0 0 (MQ below (va_Qi (fun r w => r = res ∧ w = (E, nx)) (hJ D kA S g n0) (fun q => n0 ≤ q)) args s 0 0 (fun q => n0 ≤ q)) (F0 m 23 ls [.int t0]) := by
  intro t0 H locs ls M hl hf
  unfold f_S_isCharacter_b23 at hf
  obtain ⟨v23, h23, hf⟩ := Option.bind_eq_some_iff.mp hf
  obtain ⟨rfl, g23⟩ := bZ_some h23
  cases hf
  exact w_iret C M hr hlk (narrow_z g23) (Nat.le_refl _) (Nat.le_refl _) dS_isCharacter_23 rfl rfl
def f_S_isCharacter_b22 (E : hE) : Option (Int32) := (
  f_S_isCharacter_b23 E 0)
set_option maxHeartbeats 4000000 in
set_option maxRecDepth 100000 in
theorem b_S_isCharacter_22 {p : Program} {l : Launch} {e : Env} {s : State} {m : MethodId} {args : Array Value} {below : List Frame} {meth : Method} {c : Code} {D : va_G} {kA : Nat → ClassId} {S : hE} {g : Nat → Nat} {n0 nx : Nat} {E : hE} {res : Int32} (C : hX p s m args c prog_1_method_14_code 1 R_S ws_S_isCharacter D kA S g n0) (hr : meth.sig.returnType = (some .boolean)) (hlk : meth.locks = false) (hnm : meth.name = "isCharacter") : ∀  (H : Heap) (locs : List Loc) (ls : Array Slot), hY D kA n0 s E nx H locs → lv_has ls 1 [] → f_S_isCharacter_b22 E   = some res → W p l e rm_S_isCharacter s m args below meth c H locs 0 0 (MQ below (va_Qi (fun r w => r = res ∧ w = (E, nx)) (hJ D kA S g n0) (fun q => n0 ≤ q)) args s 0 0 (fun q => n0 ≤ q)) (F0 m 22 ls []) := by
  intro  H locs ls M hl hf
  unfold f_S_isCharacter_b22 at hf
  refine lv_iconst (v := 0) C.x C.b dS_isCharacter_22 (by decide) ?_
  exact b_S_isCharacter_23 C hr hlk hnm _ _ _ _ M (lv_sub hl [] rfl) hf
def f_S_isCharacter_b18 (E : hE) : Option (Int32) := (
  f_S_isCharacter_b23 E 1)
set_option maxHeartbeats 4000000 in
set_option maxRecDepth 100000 in
theorem b_S_isCharacter_18 {p : Program} {l : Launch} {e : Env} {s : State} {m : MethodId} {args : Array Value} {below : List Frame} {meth : Method} {c : Code} {D : va_G} {kA : Nat → ClassId} {S : hE} {g : Nat → Nat} {n0 nx : Nat} {E : hE} {res : Int32} (C : hX p s m args c prog_1_method_14_code 1 R_S ws_S_isCharacter D kA S g n0) (hr : meth.sig.returnType = (some .boolean)) (hlk : meth.locks = false) (hnm : meth.name = "isCharacter") : ∀  (H : Heap) (locs : List Loc) (ls : Array Slot), hY D kA n0 s E nx H locs → lv_has ls 1 [] → f_S_isCharacter_b18 E   = some res → W p l e rm_S_isCharacter s m args below meth c H locs 0 0 (MQ below (va_Qi (fun r w => r = res ∧ w = (E, nx)) (hJ D kA S g n0) (fun q => n0 ≤ q)) args s 0 0 (fun q => n0 ≤ q)) (F0 m 18 ls []) := by
  intro  H locs ls M hl hf
  unfold f_S_isCharacter_b18 at hf
  refine lv_iconst (v := 1) C.x C.b dS_isCharacter_18 (by decide) ?_
  refine lv_goto (tgt := 23) C.x C.b dS_isCharacter_19 (by decide) ?_
  exact b_S_isCharacter_23 C hr hlk hnm _ _ _ _ M (lv_sub hl [] rfl) hf
def f_S_isCharacter (E : hE) (x0 : Int32) : Option (Int32) := (
  if x0 = 10 then (
  f_S_isCharacter_b18 E 
  ) else (
  if x0 < 32 then (
  f_S_isCharacter_b22 E 
  ) else (
  if 126 < x0 then (
  f_S_isCharacter_b22 E 
  ) else (
  f_S_isCharacter_b18 E 
  )
  )
  ))
set_option maxHeartbeats 4000000 in
set_option maxRecDepth 100000 in
theorem c_S_isCharacter {l : Launch} {D : va_G} {kA : Nat → ClassId} {S : hE} {g : Nat → Nat} {n0 nx : Nat} {x0 : Int32} {E : hE} {res : Int32} (hf : f_S_isCharacter E x0 = some res) : Met l y_S_isCharacter ws_S_isCharacter rm_S_isCharacter (va_Pc [.int x0] (hJ D kA S g n0 (E, nx))) (va_Qi (fun r w => r = res ∧ w = (E, nx)) (hJ D kA S g n0) (fun q => n0 ≤ q)) 0 0 (fun q => n0 ≤ q) := by
  refine h_met (cc := prog_1_method_14_code) (maxL := 1) (ret := (some .boolean)) (lvs := [(0, .int x0)]) zZ_k (by decide) rfl (by simp [lg_sl, va_rf_cat, cat_i, cat_l, cat_n]) (by simp [lv_args, va_rf_cat, cat_i, cat_l, cat_n]) ?_
  intro p e s m below meth c ls C M hr hlk hnm hl
  unfold f_S_isCharacter at hf
  refine lv_iload_n C.x C.b dS_isCharacter_0 rfl (lv_at hl 0 rfl) ?_
  refine lv_bipush (v := 10) C.x C.b dS_isCharacter_1 (by decide) ?_
  refine lv_icmp_eq (tgt := 18) C.x C.b dS_isCharacter_3 (by decide) (fun c3 => ?_) (fun c3 => ?_)
  · rw [if_pos c3] at hf
    exact b_S_isCharacter_18 C hr hlk hnm _ _ _ M (lv_sub hl [] rfl) hf
  · rw [if_neg c3] at hf
    refine lv_iload_n C.x C.b dS_isCharacter_6 rfl (lv_at hl 0 rfl) ?_
    refine lv_bipush (v := 32) C.x C.b dS_isCharacter_7 (by decide) ?_
    refine lv_icmp_lt (tgt := 22) C.x C.b dS_isCharacter_9 (by decide) (fun c9 => ?_) (fun c9 => ?_)
    · rw [if_pos c9] at hf
      exact b_S_isCharacter_22 C hr hlk hnm _ _ _ M (lv_sub hl [] rfl) hf
    · rw [if_neg c9] at hf
      refine lv_iload_n C.x C.b dS_isCharacter_12 rfl (lv_at hl 0 rfl) ?_
      refine lv_bipush (v := 126) C.x C.b dS_isCharacter_13 (by decide) ?_
      refine lv_icmp_gt (tgt := 22) C.x C.b dS_isCharacter_15 (by decide) (fun c15 => ?_) (fun c15 => ?_)
      · rw [if_pos c15] at hf
        exact b_S_isCharacter_22 C hr hlk hnm _ _ _ M (lv_sub hl [] rfl) hf
      · rw [if_neg c15] at hf
        exact b_S_isCharacter_18 C hr hlk hnm _ _ _ M (lv_sub hl [] rfl) hf
theorem dS_text_0 : decode prog_1_method_2_code 0 = .ok (.iconst 0, 1) := by decide +kernel
theorem dS_text_1 : decode prog_1_method_2_code 1 = .ok (.istore_n 3, 1) := by decide +kernel
theorem dS_text_2 : decode prog_1_method_2_code 2 = .ok (.bipush 7, 2) := by decide +kernel
theorem dS_text_4 : decode prog_1_method_2_code 4 = .ok (.istore 4, 2) := by decide +kernel
theorem dS_text_6 : decode prog_1_method_2_code 6 = .ok (.iload 4, 2) := by decide +kernel
theorem dS_text_8 : decode prog_1_method_2_code 8 = .ok (.ifCond .lt 35, 3) := by decide +kernel
theorem dS_text_11 : decode prog_1_method_2_code 11 = .ok (.lload_n 1, 1) := by decide +kernel
theorem dS_text_12 : decode prog_1_method_2_code 12 = .ok (.iload 4, 2) := by decide +kernel
theorem dS_text_14 : decode prog_1_method_2_code 14 = .ok (.invokestatic 23, 3) := by decide +kernel
theorem dS_text_17 : decode prog_1_method_2_code 17 = .ok (.istore 5, 2) := by decide +kernel
theorem dS_text_19 : decode prog_1_method_2_code 19 = .ok (.iload 5, 2) := by decide +kernel
theorem dS_text_21 : decode prog_1_method_2_code 21 = .ok (.ifCond .eq 16, 3) := by decide +kernel
theorem dS_text_24 : decode prog_1_method_2_code 24 = .ok (.iload 5, 2) := by decide +kernel
theorem dS_text_26 : decode prog_1_method_2_code 26 = .ok (.invokestatic 27, 3) := by decide +kernel
theorem dS_text_29 : decode prog_1_method_2_code 29 = .ok (.ifCond .ne 5, 3) := by decide +kernel
theorem dS_text_32 : decode prog_1_method_2_code 32 = .ok (.iconst 0, 1) := by decide +kernel
theorem dS_text_33 : decode prog_1_method_2_code 33 = .ok (.ireturn, 1) := by decide +kernel
theorem dS_text_34 : decode prog_1_method_2_code 34 = .ok (.iinc 3 1, 3) := by decide +kernel
theorem dS_text_37 : decode prog_1_method_2_code 37 = .ok (.iinc 4 (-1), 3) := by decide +kernel
theorem dS_text_40 : decode prog_1_method_2_code 40 = .ok (.goto (-34), 3) := by decide +kernel
theorem dS_text_43 : decode prog_1_method_2_code 43 = .ok (.aload_n 0, 1) := by decide +kernel
theorem dS_text_44 : decode prog_1_method_2_code 44 = .ok (.getfield 10, 3) := by decide +kernel
theorem dS_text_47 : decode prog_1_method_2_code 47 = .ok (.getfield 31, 3) := by decide +kernel
theorem dS_text_50 : decode prog_1_method_2_code 50 = .ok (.iload_n 3, 1) := by decide +kernel
theorem dS_text_51 : decode prog_1_method_2_code 51 = .ok (.invokevirtual 35, 3) := by decide +kernel
theorem dS_text_54 : decode prog_1_method_2_code 54 = .ok (.ifCond .ne 5, 3) := by decide +kernel
theorem dS_text_57 : decode prog_1_method_2_code 57 = .ok (.iconst 0, 1) := by decide +kernel
theorem dS_text_58 : decode prog_1_method_2_code 58 = .ok (.ireturn, 1) := by decide +kernel
theorem dS_text_59 : decode prog_1_method_2_code 59 = .ok (.bipush 7, 2) := by decide +kernel
theorem dS_text_61 : decode prog_1_method_2_code 61 = .ok (.istore 4, 2) := by decide +kernel
theorem dS_text_63 : decode prog_1_method_2_code 63 = .ok (.iload 4, 2) := by decide +kernel
theorem dS_text_65 : decode prog_1_method_2_code 65 = .ok (.ifCond .lt 34, 3) := by decide +kernel
theorem dS_text_68 : decode prog_1_method_2_code 68 = .ok (.lload_n 1, 1) := by decide +kernel
theorem dS_text_69 : decode prog_1_method_2_code 69 = .ok (.iload 4, 2) := by decide +kernel
theorem dS_text_71 : decode prog_1_method_2_code 71 = .ok (.invokestatic 23, 3) := by decide +kernel
theorem dS_text_74 : decode prog_1_method_2_code 74 = .ok (.istore 5, 2) := by decide +kernel
theorem dS_text_76 : decode prog_1_method_2_code 76 = .ok (.iload 5, 2) := by decide +kernel
theorem dS_text_78 : decode prog_1_method_2_code 78 = .ok (.ifCond .eq 15, 3) := by decide +kernel
theorem dS_text_81 : decode prog_1_method_2_code 81 = .ok (.aload_n 0, 1) := by decide +kernel
theorem dS_text_82 : decode prog_1_method_2_code 82 = .ok (.getfield 10, 3) := by decide +kernel
theorem dS_text_85 : decode prog_1_method_2_code 85 = .ok (.getfield 31, 3) := by decide +kernel
theorem dS_text_88 : decode prog_1_method_2_code 88 = .ok (.iload 5, 2) := by decide +kernel
theorem dS_text_90 : decode prog_1_method_2_code 90 = .ok (.invokevirtual 40, 3) := by decide +kernel
theorem dS_text_93 : decode prog_1_method_2_code 93 = .ok (.iinc 4 (-1), 3) := by decide +kernel
theorem dS_text_96 : decode prog_1_method_2_code 96 = .ok (.goto (-33), 3) := by decide +kernel
theorem dS_text_99 : decode prog_1_method_2_code 99 = .ok (.iconst 1, 1) := by decide +kernel
theorem dS_text_100 : decode prog_1_method_2_code 100 = .ok (.ireturn, 1) := by decide +kernel
abbrev rm_S_text : Room := { frames := 1, cells := 0, slots := 0, locals := 22 }
def f_S_text_b93 (N : Nat) (k63 : Option Nat → Int64 → Int32 → hE → Option (Int32 × hE)) (y0 : Option Nat) (y1 : Int64) (y4 : Int32) (E : hE) : Option (Int32 × hE) := (
  k63 y0 y1 (y4 + (-1)) E)
set_option maxHeartbeats 4000000 in
set_option maxRecDepth 100000 in
theorem b_S_text_93 {p : Program} {l : Launch} {e : Env} {s : State} {m : MethodId} {args : Array Value} {below : List Frame} {meth : Method} {c : Code} {D : va_G} {kA : Nat → ClassId} {S : hE} {g : Nat → Nat} {n0 nx : Nat} {N : Nat} {res : Int32 × hE} (C : hX p s m args c prog_1_method_2_code 6 R_S ws_S_text D kA S g n0) (hr : meth.sig.returnType = (some .boolean)) (hlk : meth.locks = false) (hnm : meth.name = "text") (k63 : Option Nat → Int64 → Int32 → hE → Option (Int32 × hE)) (hk63 : ∀ (y0 : Option Nat) (y1 : Int64) (y4 : Int32) (E : hE) (H : Heap) (locs : List Loc) (ls : Array Slot), hY D kA n0 s E nx H locs → lv_has ls 6 [(0, va_rf y0), (1, .long y1), (4, .int y4)] → k63 y0 y1 y4 E = some res → W p l e rm_S_text s m args below meth c H locs 0 0 (MQ below (va_Qi (fun r w => r = res.1 ∧ w = (res.2, nx)) (hJ D kA S g n0) (fun q => n0 ≤ q)) args s 0 0 (fun q => n0 ≤ q)) (F0 m 63 ls [])) : ∀ (y0 : Option Nat) (y1 : Int64) (y4 : Int32) (E : hE) (H : Heap) (locs : List Loc) (ls : Array Slot), hY D kA n0 s E nx H locs → lv_has ls 6 [(0, va_rf y0), (1, .long y1), (4, .int y4)] → f_S_text_b93 N k63 y0 y1 y4 E = some res → W p l e rm_S_text s m args below meth c H locs 0 0 (MQ below (va_Qi (fun r w => r = res.1 ∧ w = (res.2, nx)) (hJ D kA S g n0) (fun q => n0 ≤ q)) args s 0 0 (fun q => n0 ≤ q)) (F0 m 93 ls []) := by
  intro y0 y1 y4 E H locs ls M hl hf
  unfold f_S_text_b93 at hf
  refine lv_iinc (v := y4 + (-1)) (lv' := [(4, .int (y4 + (-1))), (0, va_rf y0), (1, .long y1)]) C.x C.b dS_text_93 hl (k := 2) rfl rfl (by decide) rfl (fun ls hl => ?_)
  refine lv_goto (tgt := 63) C.x C.b dS_text_96 (by decide) ?_
  exact hk63 _ _ _ _ _ _ _ M (lv_sub hl [1, 2, 0] rfl) hf
def f_S_text_b63 (N : Nat) : Nat → Option Nat → Int64 → Int32 → hE → Option (Int32 × hE)
  | 0, _, _, _, _ => none
  | n + 1, y0, y1, y4, E => (
  if y4 < 0 then (
  some (1, E)
  ) else (
  (f_S_byteAt E y1 y4).bind fun v71 =>
  if v71 = 0 then (
  f_S_text_b93 N (f_S_text_b63 N n) y0 y1 y4 E
  ) else (
  (gR E y0 6 0).bind fun v82 =>
  (gR E v82 5 0).bind fun v85 =>
  (gO E v85 0).bind fun o90 =>
  (f_Row_add o90.1 v71 E).bind fun v90 =>
  f_S_text_b93 N (f_S_text_b63 N n) y0 y1 y4 v90
  )
  ))
set_option maxHeartbeats 4000000 in
set_option maxRecDepth 100000 in
theorem b_S_text_63 {p : Program} {l : Launch} {e : Env} {s : State} {m : MethodId} {args : Array Value} {below : List Frame} {meth : Method} {c : Code} {D : va_G} {kA : Nat → ClassId} {S : hE} {g : Nat → Nat} {n0 nx : Nat} {N : Nat} {res : Int32 × hE} (C : hX p s m args c prog_1_method_2_code 6 R_S ws_S_text D kA S g n0) (hr : meth.sig.returnType = (some .boolean)) (hlk : meth.locks = false) (hnm : meth.name = "text") : ∀ n : Nat, ∀ (y0 : Option Nat) (y1 : Int64) (y4 : Int32) (E : hE) (H : Heap) (locs : List Loc) (ls : Array Slot), hY D kA n0 s E nx H locs → lv_has ls 6 [(0, va_rf y0), (1, .long y1), (4, .int y4)] → f_S_text_b63 N n y0 y1 y4 E = some res → W p l e rm_S_text s m args below meth c H locs 0 0 (MQ below (va_Qi (fun r w => r = res.1 ∧ w = (res.2, nx)) (hJ D kA S g n0) (fun q => n0 ≤ q)) args s 0 0 (fun q => n0 ≤ q)) (F0 m 63 ls []) := by
  intro n
  induction n with
  | zero =>
    intro y0 y1 y4 E H locs ls M hl hf
    simp [f_S_text_b63] at hf
  | succ n ih =>
    intro y0 y1 y4 E H locs ls M hl hf
    rw [f_S_text_b63] at hf
    refine lv_iload C.x C.b dS_text_63 (lv_at hl 2 rfl) ?_
    refine lv_if_lt (tgt := 99) C.x C.b dS_text_65 (by decide) (fun c65 => ?_) (fun c65 => ?_)
    · rw [if_pos c65] at hf
      refine lv_iconst (v := 1) C.x C.b dS_text_99 (by decide) ?_
      cases hf
      exact w_iret C M hr hlk rfl (Nat.le_refl _) (Nat.le_refl _) dS_text_100 rfl rfl
    · rw [if_neg c65] at hf
      refine lv_lload_n C.x C.b dS_text_68 rfl (lv_at hl 1 rfl) ?_
      refine lv_iload C.x C.b dS_text_69 (lv_at hl 2 rfl) ?_
      obtain ⟨v71, h71, hf⟩ := Option.bind_eq_some_iff.mp hf
      refine w_ci M (w_runS C M (c_S_byteAt h71) (cwS 2 C.ts (hgS wm_193 wm_194 wm_1 wm_195) rfl rfl rfl (by decide +kernel) ⟨Nat.le_of_ble_eq_true rfl, Nat.le_of_ble_eq_true rfl⟩) rfl hl.1 rfl (Nat.zero_le _) dS_text_71 ⟨Nat.le_refl _, Nat.le_refl _⟩) (fun H locs M => ?_)
      refine lv_istore (lv' := [(5, .int v71), (0, va_rf y0), (1, .long y1), (4, .int y4)]) C.x C.b dS_text_74 hl (by decide) rfl (fun ls hl => ?_)
      refine lv_iload C.x C.b dS_text_76 (lv_at hl 0 rfl) ?_
      refine lv_if_eq (tgt := 93) C.x C.b dS_text_78 (by decide) (fun c78 => ?_) (fun c78 => ?_)
      · rw [if_pos c78] at hf
        exact b_S_text_93 C hr hlk hnm (f_S_text_b63 N n) ih _ _ _ _ _ _ _ M (lv_sub hl [1, 2, 3] rfl) hf
      · rw [if_neg c78] at hf
        refine w_aload_n C.x C.b dS_text_81 rfl (lv_at hl 1 rfl) ?_
        obtain ⟨v82, h82, hf⟩ := Option.bind_eq_some_iff.mp hf
        refine w_getR C M h82 rfl (hm_in in_S) (by decide) (List.mem_cons_of_mem _ wm_182) rfl dS_text_82 ?_
        obtain ⟨v85, h85, hf⟩ := Option.bind_eq_some_iff.mp hf
        refine w_getR C M h85 rfl (hm_in in_Tape) (by decide) (List.mem_cons_of_mem _ wm_59) rfl dS_text_85 ?_
        refine lv_iload C.x C.b dS_text_88 (lv_at hl 0 rfl) ?_
        obtain ⟨o90, g90, hf⟩ := Option.bind_eq_some_iff.mp hf
        obtain ⟨v90, h90, hf⟩ := Option.bind_eq_some_iff.mp hf
        refine w_cv M (w_runV C M g90 rfl (c_Row_add h90) (cwV 1 C.ts (hgV wm_203 wm_204 wm_205 wm_3 wm_206) rfl rfl rfl (by decide +kernel) ⟨Nat.le_of_ble_eq_true rfl, Nat.le_of_ble_eq_true rfl⟩) rfl hl.1 rfl (Nat.zero_le _) dS_text_90 ⟨Nat.le_refl _, Nat.le_refl _⟩) (fun H locs M => ?_)
        exact b_S_text_93 C hr hlk hnm (f_S_text_b63 N n) ih _ _ _ _ _ _ _ M (lv_sub hl [1, 2, 3] rfl) hf
def f_S_text_b37 (N : Nat) (k6 : Option Nat → Int64 → Int32 → Int32 → hE → Option (Int32 × hE)) (y0 : Option Nat) (y1 : Int64) (y3 : Int32) (y4 : Int32) (E : hE) : Option (Int32 × hE) := (
  k6 y0 y1 y3 (y4 + (-1)) E)
set_option maxHeartbeats 4000000 in
set_option maxRecDepth 100000 in
theorem b_S_text_37 {p : Program} {l : Launch} {e : Env} {s : State} {m : MethodId} {args : Array Value} {below : List Frame} {meth : Method} {c : Code} {D : va_G} {kA : Nat → ClassId} {S : hE} {g : Nat → Nat} {n0 nx : Nat} {N : Nat} {res : Int32 × hE} (C : hX p s m args c prog_1_method_2_code 6 R_S ws_S_text D kA S g n0) (hr : meth.sig.returnType = (some .boolean)) (hlk : meth.locks = false) (hnm : meth.name = "text") (k6 : Option Nat → Int64 → Int32 → Int32 → hE → Option (Int32 × hE)) (hk6 : ∀ (y0 : Option Nat) (y1 : Int64) (y3 : Int32) (y4 : Int32) (E : hE) (H : Heap) (locs : List Loc) (ls : Array Slot), hY D kA n0 s E nx H locs → lv_has ls 6 [(0, va_rf y0), (1, .long y1), (3, .int y3), (4, .int y4)] → k6 y0 y1 y3 y4 E = some res → W p l e rm_S_text s m args below meth c H locs 0 0 (MQ below (va_Qi (fun r w => r = res.1 ∧ w = (res.2, nx)) (hJ D kA S g n0) (fun q => n0 ≤ q)) args s 0 0 (fun q => n0 ≤ q)) (F0 m 6 ls [])) : ∀ (y0 : Option Nat) (y1 : Int64) (y3 : Int32) (y4 : Int32) (E : hE) (H : Heap) (locs : List Loc) (ls : Array Slot), hY D kA n0 s E nx H locs → lv_has ls 6 [(0, va_rf y0), (1, .long y1), (3, .int y3), (4, .int y4)] → f_S_text_b37 N k6 y0 y1 y3 y4 E = some res → W p l e rm_S_text s m args below meth c H locs 0 0 (MQ below (va_Qi (fun r w => r = res.1 ∧ w = (res.2, nx)) (hJ D kA S g n0) (fun q => n0 ≤ q)) args s 0 0 (fun q => n0 ≤ q)) (F0 m 37 ls []) := by
  intro y0 y1 y3 y4 E H locs ls M hl hf
  unfold f_S_text_b37 at hf
  refine lv_iinc (v := y4 + (-1)) (lv' := [(4, .int (y4 + (-1))), (0, va_rf y0), (1, .long y1), (3, .int y3)]) C.x C.b dS_text_37 hl (k := 3) rfl rfl (by decide) rfl (fun ls hl => ?_)
  refine lv_goto (tgt := 6) C.x C.b dS_text_40 (by decide) ?_
  exact hk6 _ _ _ _ _ _ _ _ M (lv_sub hl [1, 2, 3, 0] rfl) hf
def f_S_text_b6 (N : Nat) : Nat → Option Nat → Int64 → Int32 → Int32 → hE → Option (Int32 × hE)
  | 0, _, _, _, _, _ => none
  | n + 1, y0, y1, y3, y4, E => (
  if y4 < 0 then (
  (gR E y0 6 0).bind fun v44 =>
  (gR E v44 5 0).bind fun v47 =>
  (gO E v47 0).bind fun o51 =>
  (f_Row_hasRoomFor E o51.1 y3).bind fun v51 =>
  if v51 = 0 then (
  some (0, E)
  ) else (
  f_S_text_b63 N N y0 y1 7 E
  )
  ) else (
  (f_S_byteAt E y1 y4).bind fun v14 =>
  if v14 = 0 then (
  f_S_text_b37 N (f_S_text_b6 N n) y0 y1 y3 y4 E
  ) else (
  (f_S_isCharacter E v14).bind fun v26 =>
  if v26 = 0 then (
  some (0, E)
  ) else (
  f_S_text_b37 N (f_S_text_b6 N n) y0 y1 (y3 + 1) y4 E
  )
  )
  ))
set_option maxHeartbeats 4000000 in
set_option maxRecDepth 100000 in
theorem b_S_text_6 {p : Program} {l : Launch} {e : Env} {s : State} {m : MethodId} {args : Array Value} {below : List Frame} {meth : Method} {c : Code} {D : va_G} {kA : Nat → ClassId} {S : hE} {g : Nat → Nat} {n0 nx : Nat} {N : Nat} {res : Int32 × hE} (C : hX p s m args c prog_1_method_2_code 6 R_S ws_S_text D kA S g n0) (hr : meth.sig.returnType = (some .boolean)) (hlk : meth.locks = false) (hnm : meth.name = "text") : ∀ n : Nat, ∀ (y0 : Option Nat) (y1 : Int64) (y3 : Int32) (y4 : Int32) (E : hE) (H : Heap) (locs : List Loc) (ls : Array Slot), hY D kA n0 s E nx H locs → lv_has ls 6 [(0, va_rf y0), (1, .long y1), (3, .int y3), (4, .int y4)] → f_S_text_b6 N n y0 y1 y3 y4 E = some res → W p l e rm_S_text s m args below meth c H locs 0 0 (MQ below (va_Qi (fun r w => r = res.1 ∧ w = (res.2, nx)) (hJ D kA S g n0) (fun q => n0 ≤ q)) args s 0 0 (fun q => n0 ≤ q)) (F0 m 6 ls []) := by
  intro n
  induction n with
  | zero =>
    intro y0 y1 y3 y4 E H locs ls M hl hf
    simp [f_S_text_b6] at hf
  | succ n ih =>
    intro y0 y1 y3 y4 E H locs ls M hl hf
    rw [f_S_text_b6] at hf
    refine lv_iload C.x C.b dS_text_6 (lv_at hl 3 rfl) ?_
    refine lv_if_lt (tgt := 43) C.x C.b dS_text_8 (by decide) (fun c8 => ?_) (fun c8 => ?_)
    · rw [if_pos c8] at hf
      refine w_aload_n C.x C.b dS_text_43 rfl (lv_at hl 0 rfl) ?_
      obtain ⟨v44, h44, hf⟩ := Option.bind_eq_some_iff.mp hf
      refine w_getR C M h44 rfl (hm_in in_S) (by decide) (List.mem_cons_of_mem _ wm_182) rfl dS_text_44 ?_
      obtain ⟨v47, h47, hf⟩ := Option.bind_eq_some_iff.mp hf
      refine w_getR C M h47 rfl (hm_in in_Tape) (by decide) (List.mem_cons_of_mem _ wm_59) rfl dS_text_47 ?_
      refine lv_iload_n C.x C.b dS_text_50 rfl (lv_at hl 2 rfl) ?_
      obtain ⟨o51, g51, hf⟩ := Option.bind_eq_some_iff.mp hf
      obtain ⟨v51, h51, hf⟩ := Option.bind_eq_some_iff.mp hf
      refine w_ci M (w_runV C M g51 rfl (c_Row_hasRoomFor h51) (cwV 1 C.ts (hgV wm_199 wm_200 wm_201 wm_3 wm_202) rfl rfl rfl (by decide +kernel) ⟨Nat.le_of_ble_eq_true rfl, Nat.le_of_ble_eq_true rfl⟩) rfl hl.1 rfl (Nat.zero_le _) dS_text_51 ⟨Nat.le_refl _, Nat.le_refl _⟩) (fun H locs M => ?_)
      refine lv_if_ne (tgt := 59) C.x C.b dS_text_54 (by decide) (fun c54 => ?_) (fun c54 => ?_)
      · rw [if_neg c54] at hf
        refine lv_bipush (v := 7) C.x C.b dS_text_59 (by decide) ?_
        refine lv_istore (lv' := [(4, .int 7), (0, va_rf y0), (1, .long y1), (3, .int y3)]) C.x C.b dS_text_61 hl (by decide) rfl (fun ls hl => ?_)
        exact b_S_text_63 C hr hlk hnm N _ _ _ _ _ _ _ M (lv_sub hl [1, 2, 0] rfl) hf
      · rw [if_pos c54] at hf
        refine lv_iconst (v := 0) C.x C.b dS_text_57 (by decide) ?_
        cases hf
        exact w_iret C M hr hlk rfl (Nat.le_refl _) (Nat.le_refl _) dS_text_58 rfl rfl
    · rw [if_neg c8] at hf
      refine lv_lload_n C.x C.b dS_text_11 rfl (lv_at hl 1 rfl) ?_
      refine lv_iload C.x C.b dS_text_12 (lv_at hl 3 rfl) ?_
      obtain ⟨v14, h14, hf⟩ := Option.bind_eq_some_iff.mp hf
      refine w_ci M (w_runS C M (c_S_byteAt h14) (cwS 2 C.ts (hgS wm_193 wm_194 wm_1 wm_195) rfl rfl rfl (by decide +kernel) ⟨Nat.le_of_ble_eq_true rfl, Nat.le_of_ble_eq_true rfl⟩) rfl hl.1 rfl (Nat.zero_le _) dS_text_14 ⟨Nat.le_refl _, Nat.le_refl _⟩) (fun H locs M => ?_)
      refine lv_istore (lv' := [(5, .int v14), (0, va_rf y0), (1, .long y1), (3, .int y3), (4, .int y4)]) C.x C.b dS_text_17 hl (by decide) rfl (fun ls hl => ?_)
      refine lv_iload C.x C.b dS_text_19 (lv_at hl 0 rfl) ?_
      refine lv_if_eq (tgt := 37) C.x C.b dS_text_21 (by decide) (fun c21 => ?_) (fun c21 => ?_)
      · rw [if_pos c21] at hf
        exact b_S_text_37 C hr hlk hnm (f_S_text_b6 N n) ih _ _ _ _ _ _ _ _ M (lv_sub hl [1, 2, 3, 4] rfl) hf
      · rw [if_neg c21] at hf
        refine lv_iload C.x C.b dS_text_24 (lv_at hl 0 rfl) ?_
        obtain ⟨v26, h26, hf⟩ := Option.bind_eq_some_iff.mp hf
        refine w_ci M (w_runS C M (c_S_isCharacter h26) (cwS 1 C.ts (hgS wm_196 wm_197 wm_1 wm_198) rfl rfl rfl (by decide +kernel) ⟨Nat.le_of_ble_eq_true rfl, Nat.le_of_ble_eq_true rfl⟩) rfl hl.1 rfl (Nat.zero_le _) dS_text_26 ⟨Nat.le_refl _, Nat.le_refl _⟩) (fun H locs M => ?_)
        refine lv_if_ne (tgt := 34) C.x C.b dS_text_29 (by decide) (fun c29 => ?_) (fun c29 => ?_)
        · rw [if_neg c29] at hf
          refine lv_iinc (v := y3 + 1) (lv' := [(3, .int (y3 + 1)), (5, .int v14), (0, va_rf y0), (1, .long y1), (4, .int y4)]) C.x C.b dS_text_34 hl (k := 3) rfl rfl (by decide) rfl (fun ls hl => ?_)
          exact b_S_text_37 C hr hlk hnm (f_S_text_b6 N n) ih _ _ _ _ _ _ _ _ M (lv_sub hl [2, 3, 0, 4] rfl) hf
        · rw [if_pos c29] at hf
          refine lv_iconst (v := 0) C.x C.b dS_text_32 (by decide) ?_
          cases hf
          exact w_iret C M hr hlk rfl (Nat.le_refl _) (Nat.le_refl _) dS_text_33 rfl rfl
def f_S_text (N : Nat) (x0 : Nat) (x1 : Int64) (E : hE) : Option (Int32 × hE) := (
  f_S_text_b6 N N (some x0) x1 0 7 E)
set_option maxHeartbeats 4000000 in
set_option maxRecDepth 100000 in
theorem c_S_text {l : Launch} {D : va_G} {kA : Nat → ClassId} {S : hE} {g : Nat → Nat} {n0 nx : Nat} {N : Nat} {x0 : Nat} {x1 : Int64} {E : hE} {res : Int32 × hE} (hf : f_S_text N x0 x1 E = some res) : Met l y_S_text ws_S_text rm_S_text (va_Pc [va_rf (some x0), .long x1] (hJ D kA S g n0 (E, nx))) (va_Qi (fun r w => r = res.1 ∧ w = (res.2, nx)) (hJ D kA S g n0) (fun q => n0 ≤ q)) 0 0 (fun q => n0 ≤ q) := by
  refine h_met (cc := prog_1_method_2_code) (maxL := 6) (ret := (some .boolean)) (lvs := [(0, va_rf (some x0)), (1, .long x1)]) zZ_k (by decide) rfl (by simp [lg_sl, va_rf_cat, cat_i, cat_l, cat_n]) (by simp [lv_args, va_rf_cat, cat_i, cat_l, cat_n]) ?_
  intro p e s m below meth c ls C M hr hlk hnm hl
  unfold f_S_text at hf
  refine lv_iconst (v := 0) C.x C.b dS_text_0 (by decide) ?_
  refine lv_istore_n (lv' := [(3, .int 0), (0, va_rf (some x0)), (1, .long x1)]) C.x C.b dS_text_1 rfl hl (by decide) rfl (fun ls hl => ?_)
  refine lv_bipush (v := 7) C.x C.b dS_text_2 (by decide) ?_
  refine lv_istore (lv' := [(4, .int 7), (3, .int 0), (0, va_rf (some x0)), (1, .long x1)]) C.x C.b dS_text_4 hl (by decide) rfl (fun ls hl => ?_)
  exact b_S_text_6 C hr hlk hnm N _ _ _ _ _ _ _ _ M (lv_sub hl [2, 3, 1, 0] rfl) hf
theorem dABC_init_0 : decode prog_22_method_1_code 0 = .ok (.aload_n 0, 1) := by decide +kernel
theorem dABC_init_1 : decode prog_22_method_1_code 1 = .ok (.invokespecial 1, 3) := by decide +kernel
theorem dABC_init_4 : decode prog_22_method_1_code 4 = .ok (.return_, 1) := by decide +kernel
abbrev rm_ABC_init : Room := { frames := 1, cells := 0, slots := 0, locals := 40 }
def f_ABC_init (E : hE) (x0 : Nat) : Option (Unit) := (
  some ())
set_option maxHeartbeats 4000000 in
set_option maxRecDepth 100000 in
theorem c_ABC_init {l : Launch} {D : va_G} {kA : Nat → ClassId} {S : hE} {g : Nat → Nat} {n0 nx : Nat} {x0 : Nat} {E : hE} {res : Unit} (hf : f_ABC_init E x0 = some res) : Met l y_ABC_init ws_ABC_init rm_ABC_init (va_Pc [va_rf (some x0)] (hJ D kA S g n0 (E, nx))) (va_Qv (fun w => w = (E, nx)) (hJ D kA S g n0) (fun q => n0 ≤ q)) 0 0 (fun q => n0 ≤ q) := by
  refine h_met (cc := prog_22_method_1_code) (maxL := 1) (ret := none) (lvs := [(0, va_rf (some x0))]) zZ_k (by decide) rfl (by simp [lg_sl, va_rf_cat, cat_i, cat_l, cat_n]) (by simp [lv_args, va_rf_cat, cat_i, cat_l, cat_n]) ?_
  intro p e s m below meth c ls C M hr hlk hnm hl
  unfold f_ABC_init at hf
  refine w_aload_n C.x C.b dABC_init_0 rfl (lv_at hl 0 rfl) ?_
  refine W.objInit C.x C.b C.ow (C.ts (.methodLink R_ABC 1 objectInit) (List.mem_cons_of_mem _ wm_232)) (C.ts (.instanceMethod objectInit) (List.mem_cons_of_mem _ wm_29)) (C.ts _ (List.mem_cons_of_mem _ wm_30)) rfl (by rw [C.ml]; exact hl.1) rfl dABC_init_1 (Nat.le_of_ble_eq_true rfl) (Nat.le_of_ble_eq_true rfl) ?_
  refine W.eq (g2 := F0 m 4 ls []) rfl ?_
  cases hf
  exact w_vret C M hr hlk (Nat.le_refl _) (Nat.le_refl _) dABC_init_4 rfl
theorem dABL_init_0 : decode prog_23_method_1_code 0 = .ok (.aload_n 0, 1) := by decide +kernel
theorem dABL_init_1 : decode prog_23_method_1_code 1 = .ok (.invokespecial 1, 3) := by decide +kernel
theorem dABL_init_4 : decode prog_23_method_1_code 4 = .ok (.aload_n 0, 1) := by decide +kernel
theorem dABL_init_5 : decode prog_23_method_1_code 5 = .ok (.iconst 0, 1) := by decide +kernel
theorem dABL_init_6 : decode prog_23_method_1_code 6 = .ok (.putfield 7, 3) := by decide +kernel
theorem dABL_init_9 : decode prog_23_method_1_code 9 = .ok (.return_, 1) := by decide +kernel
abbrev rm_ABL_init : Room := { frames := 2, cells := 0, slots := 0, locals := 60 }
def f_ABL_init  (x0 : Nat) (E : hE) : Option (hE) := (
  (f_ABC_init E x0).bind fun v1 =>
  (sI E (some x0) 8 2 0).bind fun E6 =>
  some E6)
set_option maxHeartbeats 4000000 in
set_option maxRecDepth 100000 in
theorem c_ABL_init {l : Launch} {D : va_G} {kA : Nat → ClassId} {S : hE} {g : Nat → Nat} {n0 nx : Nat} {x0 : Nat} {E : hE} {res : hE} (hf : f_ABL_init x0 E = some res) : Met l y_ABL_init ws_ABL_init rm_ABL_init (va_Pc [va_rf (some x0)] (hJ D kA S g n0 (E, nx))) (va_Qv (fun w => w = (res, nx)) (hJ D kA S g n0) (fun q => n0 ≤ q)) 0 0 (fun q => n0 ≤ q) := by
  refine h_met (cc := prog_23_method_1_code) (maxL := 1) (ret := none) (lvs := [(0, va_rf (some x0))]) zZ_k (by decide) rfl (by simp [lg_sl, va_rf_cat, cat_i, cat_l, cat_n]) (by simp [lv_args, va_rf_cat, cat_i, cat_l, cat_n]) ?_
  intro p e s m below meth c ls C M hr hlk hnm hl
  unfold f_ABL_init at hf
  refine w_aload_n C.x C.b dABL_init_0 rfl (lv_at hl 0 rfl) ?_
  obtain ⟨v1, h1, hf⟩ := Option.bind_eq_some_iff.mp hf
  refine w_cv M (w_runI C M (c_ABC_init h1) (cwI 0 C.ts (hgC wm_231) rfl rfl rfl (C.ts (.initialized R_ABC) (List.mem_cons_of_mem _ wm_8)) (C.ts (.methodLink R_ABL 1 y_ABC_init) (List.mem_cons_of_mem _ wm_229)) (C.ts (.instanceMethod y_ABC_init) (List.mem_cons_of_mem _ wm_230)) rfl (by decide +kernel) ⟨Nat.le_of_ble_eq_true rfl, Nat.le_of_ble_eq_true rfl⟩) rfl hl.1 rfl (Nat.zero_le _) dABL_init_1 ⟨Nat.le_refl _, Nat.le_refl _⟩) (fun H locs M => ?_)
  refine w_aload_n C.x C.b dABL_init_4 rfl (lv_at hl 0 rfl) ?_
  refine lv_iconst (v := 0) C.x C.b dABL_init_5 (by decide) ?_
  obtain ⟨E6, h6, hf⟩ := Option.bind_eq_some_iff.mp hf
  refine w_putV (ty := .int) C M ty_AL h6 rfl (hm_in in_AL) tyok_AL nm_AL (by decide) (List.mem_cons_of_mem _ wm_237) rfl rfl (by decide +kernel) rfl rfl dABL_init_6 (fun H locs M => ?_)
  cases hf
  exact w_vret C M hr hlk (Nat.le_refl _) (Nat.le_refl _) dABL_init_9 rfl
theorem dAL_init_0 : decode prog_24_method_2_code 0 = .ok (.aload_n 0, 1) := by decide +kernel
theorem dAL_init_1 : decode prog_24_method_2_code 1 = .ok (.invokespecial 1, 3) := by decide +kernel
theorem dAL_init_4 : decode prog_24_method_2_code 4 = .ok (.aload_n 0, 1) := by decide +kernel
theorem dAL_init_5 : decode prog_24_method_2_code 5 = .ok (.getstatic 39, 3) := by decide +kernel
theorem dAL_init_8 : decode prog_24_method_2_code 8 = .ok (.putfield 9, 3) := by decide +kernel
theorem dAL_init_11 : decode prog_24_method_2_code 11 = .ok (.return_, 1) := by decide +kernel
abbrev rm_AL_init : Room := { frames := 3, cells := 0, slots := 0, locals := 80 }
def f_AL_init (S : hE) (g : Nat → Nat) (x0 : Nat) (E : hE) : Option (hE) := (
  (f_ABL_init x0 E).bind fun v1 =>
  (sR v1 (some x0) 8 0 (some (g 0))).bind fun E8 =>
  some E8)
set_option maxHeartbeats 4000000 in
set_option maxRecDepth 100000 in
theorem c_AL_init {l : Launch} {D : va_G} {kA : Nat → ClassId} {S : hE} {g : Nat → Nat} {n0 nx : Nat} {x0 : Nat} {E : hE} {res : hE} (hf : f_AL_init S g x0 E = some res) : Met l y_AL_init ws_AL_init rm_AL_init (va_Pc [va_rf (some x0)] (hJ D kA S g n0 (E, nx))) (va_Qv (fun w => w = (res, nx)) (hJ D kA S g n0) (fun q => n0 ≤ q)) 0 0 (fun q => n0 ≤ q) := by
  refine h_met (cc := prog_24_method_2_code) (maxL := 1) (ret := none) (lvs := [(0, va_rf (some x0))]) zZ_k (by decide) rfl (by simp [lg_sl, va_rf_cat, cat_i, cat_l, cat_n]) (by simp [lv_args, va_rf_cat, cat_i, cat_l, cat_n]) ?_
  intro p e s m below meth c ls C M hr hlk hnm hl
  unfold f_AL_init at hf
  refine w_aload_n C.x C.b dAL_init_0 rfl (lv_at hl 0 rfl) ?_
  obtain ⟨v1, h1, hf⟩ := Option.bind_eq_some_iff.mp hf
  refine w_cv M (w_runI C M (c_ABL_init h1) (cwI 0 C.ts (hgC wm_228) rfl rfl rfl (C.ts (.initialized R_ABL) (List.mem_cons_of_mem _ wm_9)) (C.ts (.methodLink R_AL 1 y_ABL_init) (List.mem_cons_of_mem _ wm_226)) (C.ts (.instanceMethod y_ABL_init) (List.mem_cons_of_mem _ wm_227)) rfl (by decide +kernel) ⟨Nat.le_of_ble_eq_true rfl, Nat.le_of_ble_eq_true rfl⟩) rfl hl.1 rfl (Nat.zero_le _) dAL_init_1 ⟨Nat.le_refl _, Nat.le_refl _⟩) (fun H locs M => ?_)
  refine w_aload_n C.x C.b dAL_init_4 rfl (lv_at hl 0 rfl) ?_
  refine w_gets C M (zZ_S C.z) (i := 0) (by decide) (List.mem_cons_of_mem _ wm_233) rfl dAL_init_5 ?_
  obtain ⟨E8, h8, hf⟩ := Option.bind_eq_some_iff.mp hf
  refine w_putV (ty := (.array (.object "java/lang/Object"))) C M ty_AL h8 rfl (hm_in in_AL) tyok_AL nm_AL (by decide) (List.mem_cons_of_mem _ wm_235) rfl rfl (by decide +kernel) (narrow_a _ _) (fits_a _ _) dAL_init_8 (fun H locs M => ?_)
  cases hf
  exact w_vret C M hr hlk (Nat.le_refl _) (Nat.le_refl _) dAL_init_11 rfl
theorem dScript_init_0 : decode prog_7_method_1_code 0 = .ok (.aload_n 0, 1) := by decide +kernel
theorem dScript_init_1 : decode prog_7_method_1_code 1 = .ok (.invokespecial 3, 3) := by decide +kernel
theorem dScript_init_4 : decode prog_7_method_1_code 4 = .ok (.aload_n 0, 1) := by decide +kernel
theorem dScript_init_5 : decode prog_7_method_1_code 5 = .ok (.new 9, 3) := by decide +kernel
theorem dScript_init_8 : decode prog_7_method_1_code 8 = .ok (.dup, 1) := by decide +kernel
theorem dScript_init_9 : decode prog_7_method_1_code 9 = .ok (.invokespecial 11, 3) := by decide +kernel
theorem dScript_init_12 : decode prog_7_method_1_code 12 = .ok (.putfield 12, 3) := by decide +kernel
theorem dScript_init_15 : decode prog_7_method_1_code 15 = .ok (.aload_n 0, 1) := by decide +kernel
theorem dScript_init_16 : decode prog_7_method_1_code 16 = .ok (.bipush 26, 2) := by decide +kernel
theorem dScript_init_18 : decode prog_7_method_1_code 18 = .ok (.newarray .int, 2) := by decide +kernel
theorem dScript_init_20 : decode prog_7_method_1_code 20 = .ok (.putfield 18, 3) := by decide +kernel
theorem dScript_init_23 : decode prog_7_method_1_code 23 = .ok (.aload_n 0, 1) := by decide +kernel
theorem dScript_init_24 : decode prog_7_method_1_code 24 = .ok (.getfield 18, 3) := by decide +kernel
theorem dScript_init_27 : decode prog_7_method_1_code 27 = .ok (.iconst (-1), 1) := by decide +kernel
theorem dScript_init_28 : decode prog_7_method_1_code 28 = .ok (.invokestatic 22, 3) := by decide +kernel
theorem dScript_init_31 : decode prog_7_method_1_code 31 = .ok (.return_, 1) := by decide +kernel
abbrev rm_Script_init : Room := { frames := 4, cells := 2, slots := 29, locals := 100 }
def f_Script_init (S : hE) (g : Nat → Nat) (N : Nat) (x0 : Nat) (E : hE) (nx : Nat) : Option (hE × Nat) := (
  (some (va_up E nx (some (.inr (8, [.null, .int 0, .int 0]))))).bind fun E5 =>
  (f_AL_init S g nx E5).bind fun v9 =>
  (sR v9 (some x0) 3 0 (some nx)).bind fun E12 =>
  (nA E12 (nx + 1) 0 26 26).bind fun E18 =>
  (sR E18 (some x0) 3 1 (some (nx + 1))).bind fun E20 =>
  (gR E20 (some x0) 3 1).bind fun v24 =>
  (f_Arrs_fill N v24 (-1) E20).bind fun v28 =>
  some (v28, nx + 1 + 1))
set_option maxHeartbeats 4000000 in
set_option maxRecDepth 100000 in
theorem c_Script_init {l : Launch} {D : va_G} {kA : Nat → ClassId} {S : hE} {g : Nat → Nat} {n0 nx : Nat} {N : Nat} {x0 : Nat} {E : hE} {res : hE × Nat} (hf : f_Script_init S g N x0 E nx = some res) : Met l y_Script_init ws_Script_init rm_Script_init (va_Pc [va_rf (some x0)] (hJ D kA S g n0 (E, nx))) (va_Qv (fun w => w = res) (hJ D kA S g n0) (fun q => n0 ≤ q)) 2 29 (fun q => n0 ≤ q) := by
  refine h_met (cc := prog_7_method_1_code) (maxL := 1) (ret := none) (lvs := [(0, va_rf (some x0))]) zZ_k (by decide) rfl (by simp [lg_sl, va_rf_cat, cat_i, cat_l, cat_n]) (by simp [lv_args, va_rf_cat, cat_i, cat_l, cat_n]) ?_
  intro p e s m below meth c ls C M hr hlk hnm hl
  unfold f_Script_init at hf
  refine w_aload_n C.x C.b dScript_init_0 rfl (lv_at hl 0 rfl) ?_
  refine W.objInit C.x C.b C.ow (C.ts (.methodLink R_Script 3 objectInit) (List.mem_cons_of_mem _ wm_220)) (C.ts (.instanceMethod objectInit) (List.mem_cons_of_mem _ wm_29)) (C.ts _ (List.mem_cons_of_mem _ wm_30)) rfl (by rw [C.ml]; exact hl.1) rfl dScript_init_1 (Nat.le_of_ble_eq_true rfl) (Nat.le_of_ble_eq_true rfl) ?_
  refine W.eq (g2 := F0 m 4 ls []) rfl ?_
  refine w_aload_n C.x C.b dScript_init_4 rfl (lv_at hl 0 rfl) ?_
  obtain ⟨E5, h5, hf⟩ := Option.bind_eq_some_iff.mp hf
  have h5 := Option.some.inj h5
  refine w_new (ci := 8) C M (fs := [.null, .int 0, .int 0]) ty_AL rfl (hm_in in_AL) tyok_AL (List.mem_cons_of_mem _ wm_221) (List.mem_cons_of_mem _ wm_222) (List.mem_cons_of_mem _ wm_10) (fun j hj => by rcases (show j = 0 ∨ j = 1 ∨ j = 2 by omega) with rfl | rfl | rfl <;> rfl) (by show _ ≤ 2; omega) (by show _ ≤ 29; omega) dScript_init_5 (fun H M => ?_)
  rw [h5] at M
  refine lv_dup C.x C.b dScript_init_8 (va_rf_cat _) ?_
  obtain ⟨v9, h9, hf⟩ := Option.bind_eq_some_iff.mp hf
  refine w_cv M (w_runI C M (c_AL_init h9) (cwI 0 C.ts (hgC wm_225) rfl rfl rfl (C.ts (.initialized R_AL) (List.mem_cons_of_mem _ wm_10)) (C.ts (.methodLink R_Script 11 y_AL_init) (List.mem_cons_of_mem _ wm_223)) (C.ts (.instanceMethod y_AL_init) (List.mem_cons_of_mem _ wm_224)) rfl (by decide +kernel) ⟨Nat.le_of_ble_eq_true rfl, Nat.le_of_ble_eq_true rfl⟩) rfl hl.1 rfl (by simp [va_rf_cat, cat_i, cat_l, cat_n]) dScript_init_9 ⟨by show _ ≤ 2; omega, by show _ ≤ 29; omega⟩) (fun H locs M => ?_)
  obtain ⟨E12, h12, hf⟩ := Option.bind_eq_some_iff.mp hf
  refine w_putVF (ty := .object "java/util/ArrayList") C M ty_Script h12 rfl (hm_in in_Script) tyok_Script nm_Script (by decide) (List.mem_cons_of_mem _ wm_250) rfl rfl hnm rfl (by decide +kernel) (narrow_o _ _) (fits_o _ _) dScript_init_12 (fun H locs M => ?_)
  refine w_aload_n C.x C.b dScript_init_15 rfl (lv_at hl 0 rfl) ?_
  refine lv_bipush (v := 26) C.x C.b dScript_init_16 (by decide) ?_
  obtain ⟨E18, h18, hf⟩ := Option.bind_eq_some_iff.mp hf
  refine w_newI (atype := .int) (ty := .int) C M h18 (List.mem_cons_of_mem _ wm_57) rfl rfl (fun _ _ h => h) (fun _ _ => rfl) (by decide) (by show _ ≤ 2; omega) (by show _ ≤ 29; omega) dScript_init_18 (fun H M => ?_)
  obtain ⟨E20, h20, hf⟩ := Option.bind_eq_some_iff.mp hf
  refine w_putVF (ty := (.array .int)) C M ty_Script h20 rfl (hm_in in_Script) tyok_Script nm_Script (by decide) (List.mem_cons_of_mem _ wm_252) rfl rfl hnm rfl (by decide +kernel) (narrow_a _ _) (fits_a _ _) dScript_init_20 (fun H locs M => ?_)
  refine w_aload_n C.x C.b dScript_init_23 rfl (lv_at hl 0 rfl) ?_
  obtain ⟨v24, h24, hf⟩ := Option.bind_eq_some_iff.mp hf
  refine w_getR C M h24 rfl (hm_in in_Script) (by decide) (List.mem_cons_of_mem _ wm_252) rfl dScript_init_24 ?_
  refine lv_iconst (v := (-1)) C.x C.b dScript_init_27 (by decide) ?_
  obtain ⟨v28, h28, hf⟩ := Option.bind_eq_some_iff.mp hf
  refine w_cv M (w_runS C M (c_Arrs_fill h28) (va_cwS 2 C.ts (hgT wm_247 wm_248 wm_11 wm_249) rfl rfl rfl (by decide +kernel) ⟨Nat.le_of_ble_eq_true rfl, Nat.le_of_ble_eq_true rfl⟩) rfl hl.1 rfl (Nat.zero_le _) dScript_init_28 ⟨by show _ ≤ 2; omega, by show _ ≤ 29; omega⟩) (fun H locs M => ?_)
  cases hf
  exact w_vret C M hr hlk (by omega) (by omega) dScript_init_31 rfl
theorem dTape_takeCharacter_0 : decode prog_9_method_3_code 0 = .ok (.iload_n 2, 1) := by decide +kernel
theorem dTape_takeCharacter_1 : decode prog_9_method_3_code 1 = .ok (.ifCond .eq 13, 3) := by decide +kernel
theorem dTape_takeCharacter_4 : decode prog_9_method_3_code 4 = .ok (.aload_n 0, 1) := by decide +kernel
theorem dTape_takeCharacter_5 : decode prog_9_method_3_code 5 = .ok (.dup, 1) := by decide +kernel
theorem dTape_takeCharacter_6 : decode prog_9_method_3_code 6 = .ok (.getfield 27, 3) := by decide +kernel
theorem dTape_takeCharacter_9 : decode prog_9_method_3_code 9 = .ok (.iconst 1, 1) := by decide +kernel
theorem dTape_takeCharacter_10 : decode prog_9_method_3_code 10 = .ok (.iadd, 1) := by decide +kernel
theorem dTape_takeCharacter_11 : decode prog_9_method_3_code 11 = .ok (.putfield 27, 3) := by decide +kernel
theorem dTape_takeCharacter_14 : decode prog_9_method_3_code 14 = .ok (.aload_n 0, 1) := by decide +kernel
theorem dTape_takeCharacter_15 : decode prog_9_method_3_code 15 = .ok (.getfield 27, 3) := by decide +kernel
theorem dTape_takeCharacter_18 : decode prog_9_method_3_code 18 = .ok (.iconst 1, 1) := by decide +kernel
theorem dTape_takeCharacter_19 : decode prog_9_method_3_code 19 = .ok (.isub, 1) := by decide +kernel
theorem dTape_takeCharacter_20 : decode prog_9_method_3_code 20 = .ok (.istore_n 3, 1) := by decide +kernel
theorem dTape_takeCharacter_21 : decode prog_9_method_3_code 21 = .ok (.iload_n 3, 1) := by decide +kernel
theorem dTape_takeCharacter_22 : decode prog_9_method_3_code 22 = .ok (.ifCond .lt 9, 3) := by decide +kernel
theorem dTape_takeCharacter_25 : decode prog_9_method_3_code 25 = .ok (.iload_n 3, 1) := by decide +kernel
theorem dTape_takeCharacter_26 : decode prog_9_method_3_code 26 = .ok (.bipush 6, 2) := by decide +kernel
theorem dTape_takeCharacter_28 : decode prog_9_method_3_code 28 = .ok (.if_icmp .lt 4, 3) := by decide +kernel
theorem dTape_takeCharacter_31 : decode prog_9_method_3_code 31 = .ok (.return_, 1) := by decide +kernel
theorem dTape_takeCharacter_32 : decode prog_9_method_3_code 32 = .ok (.iload_n 2, 1) := by decide +kernel
theorem dTape_takeCharacter_33 : decode prog_9_method_3_code 33 = .ok (.ifCond .eq 10, 3) := by decide +kernel
theorem dTape_takeCharacter_36 : decode prog_9_method_3_code 36 = .ok (.aload_n 0, 1) := by decide +kernel
theorem dTape_takeCharacter_37 : decode prog_9_method_3_code 37 = .ok (.getfield 20, 3) := by decide +kernel
theorem dTape_takeCharacter_40 : decode prog_9_method_3_code 40 = .ok (.iload_n 3, 1) := by decide +kernel
theorem dTape_takeCharacter_41 : decode prog_9_method_3_code 41 = .ok (.iload_n 1, 1) := by decide +kernel
theorem dTape_takeCharacter_42 : decode prog_9_method_3_code 42 = .ok (.iastore, 1) := by decide +kernel
theorem dTape_takeCharacter_43 : decode prog_9_method_3_code 43 = .ok (.aload_n 0, 1) := by decide +kernel
theorem dTape_takeCharacter_44 : decode prog_9_method_3_code 44 = .ok (.getfield 24, 3) := by decide +kernel
theorem dTape_takeCharacter_47 : decode prog_9_method_3_code 47 = .ok (.iload_n 3, 1) := by decide +kernel
theorem dTape_takeCharacter_48 : decode prog_9_method_3_code 48 = .ok (.iload_n 1, 1) := by decide +kernel
theorem dTape_takeCharacter_49 : decode prog_9_method_3_code 49 = .ok (.iconst 1, 1) := by decide +kernel
theorem dTape_takeCharacter_50 : decode prog_9_method_3_code 50 = .ok (.iadd, 1) := by decide +kernel
theorem dTape_takeCharacter_51 : decode prog_9_method_3_code 51 = .ok (.iastore, 1) := by decide +kernel
theorem dTape_takeCharacter_52 : decode prog_9_method_3_code 52 = .ok (.return_, 1) := by decide +kernel
abbrev rm_Tape_takeCharacter : Room := { frames := 0, cells := 0, slots := 0, locals := 0 }
def f_Tape_takeCharacter_b43  (y0 : Option Nat) (y1 : Int32) (y3 : Int32) (E : hE) : Option (hE) := (
  (gR E y0 5 2).bind fun v44 =>
  (tI E v44 0 y3 (y1 + 1)).bind fun E51 =>
  some E51)
set_option maxHeartbeats 4000000 in
set_option maxRecDepth 100000 in
theorem b_Tape_takeCharacter_43 {p : Program} {l : Launch} {e : Env} {s : State} {m : MethodId} {args : Array Value} {below : List Frame} {meth : Method} {c : Code} {D : va_G} {kA : Nat → ClassId} {S : hE} {g : Nat → Nat} {n0 nx : Nat} {res : hE} (C : hX p s m args c prog_9_method_3_code 4 R_Tape ws_Tape_takeCharacter D kA S g n0) (hr : meth.sig.returnType = none) (hlk : meth.locks = false) (hnm : meth.name = "takeCharacter") : ∀ (y0 : Option Nat) (y1 : Int32) (y3 : Int32) (E : hE) (H : Heap) (locs : List Loc) (ls : Array Slot), hY D kA n0 s E nx H locs → lv_has ls 4 [(0, va_rf y0), (1, .int y1), (3, .int y3)] → f_Tape_takeCharacter_b43  y0 y1 y3 E = some res → W p l e rm_Tape_takeCharacter s m args below meth c H locs 0 0 (MQ below (va_Qv (fun w => w = (res, nx)) (hJ D kA S g n0) (fun q => n0 ≤ q)) args s 0 0 (fun q => n0 ≤ q)) (F0 m 43 ls []) := by
  intro y0 y1 y3 E H locs ls M hl hf
  unfold f_Tape_takeCharacter_b43 at hf
  refine w_aload_n C.x C.b dTape_takeCharacter_43 rfl (lv_at hl 0 rfl) ?_
  obtain ⟨v44, h44, hf⟩ := Option.bind_eq_some_iff.mp hf
  refine w_getR C M h44 rfl (hm_in in_Tape) (by decide) (List.mem_cons_of_mem _ wm_61) rfl dTape_takeCharacter_44 ?_
  refine lv_iload_n C.x C.b dTape_takeCharacter_47 rfl (lv_at hl 2 rfl) ?_
  refine lv_iload_n C.x C.b dTape_takeCharacter_48 rfl (lv_at hl 1 rfl) ?_
  refine lv_iconst (v := 1) C.x C.b dTape_takeCharacter_49 (by decide) ?_
  refine lv_iadd C.x C.b dTape_takeCharacter_50 ?_
  obtain ⟨E51, h51, hf⟩ := Option.bind_eq_some_iff.mp hf
  refine w_iast C M h51 rfl dTape_takeCharacter_51 (fun H locs M => ?_)
  cases hf
  exact w_vret C M hr hlk (Nat.le_refl _) (Nat.le_refl _) dTape_takeCharacter_52 rfl
def f_Tape_takeCharacter_b31  (E : hE) : Option (hE) := (
  some E)
set_option maxHeartbeats 4000000 in
set_option maxRecDepth 100000 in
theorem b_Tape_takeCharacter_31 {p : Program} {l : Launch} {e : Env} {s : State} {m : MethodId} {args : Array Value} {below : List Frame} {meth : Method} {c : Code} {D : va_G} {kA : Nat → ClassId} {S : hE} {g : Nat → Nat} {n0 nx : Nat} {res : hE} (C : hX p s m args c prog_9_method_3_code 4 R_Tape ws_Tape_takeCharacter D kA S g n0) (hr : meth.sig.returnType = none) (hlk : meth.locks = false) (hnm : meth.name = "takeCharacter") : ∀  (E : hE) (H : Heap) (locs : List Loc) (ls : Array Slot), hY D kA n0 s E nx H locs → lv_has ls 4 [] → f_Tape_takeCharacter_b31  E = some res → W p l e rm_Tape_takeCharacter s m args below meth c H locs 0 0 (MQ below (va_Qv (fun w => w = (res, nx)) (hJ D kA S g n0) (fun q => n0 ≤ q)) args s 0 0 (fun q => n0 ≤ q)) (F0 m 31 ls []) := by
  intro E H locs ls M hl hf
  unfold f_Tape_takeCharacter_b31 at hf
  cases hf
  exact w_vret C M hr hlk (Nat.le_refl _) (Nat.le_refl _) dTape_takeCharacter_31 rfl
def f_Tape_takeCharacter_b14  (y0 : Option Nat) (y1 : Int32) (y2 : Int32) (E : hE) : Option (hE) := (
  (gI E y0 5 3).bind fun v15 =>
  if (v15 - 1) < 0 then (
  f_Tape_takeCharacter_b31 E
  ) else (
  if (v15 - 1) < 6 then (
  if y2 = 0 then (
  f_Tape_takeCharacter_b43 y0 y1 (v15 - 1) E
  ) else (
  (gR E y0 5 1).bind fun v37 =>
  (tI E v37 0 (v15 - 1) y1).bind fun E42 =>
  f_Tape_takeCharacter_b43 y0 y1 (v15 - 1) E42
  )
  ) else (
  f_Tape_takeCharacter_b31 E
  )
  ))
set_option maxHeartbeats 4000000 in
set_option maxRecDepth 100000 in
theorem b_Tape_takeCharacter_14 {p : Program} {l : Launch} {e : Env} {s : State} {m : MethodId} {args : Array Value} {below : List Frame} {meth : Method} {c : Code} {D : va_G} {kA : Nat → ClassId} {S : hE} {g : Nat → Nat} {n0 nx : Nat} {res : hE} (C : hX p s m args c prog_9_method_3_code 4 R_Tape ws_Tape_takeCharacter D kA S g n0) (hr : meth.sig.returnType = none) (hlk : meth.locks = false) (hnm : meth.name = "takeCharacter") : ∀ (y0 : Option Nat) (y1 : Int32) (y2 : Int32) (E : hE) (H : Heap) (locs : List Loc) (ls : Array Slot), hY D kA n0 s E nx H locs → lv_has ls 4 [(0, va_rf y0), (1, .int y1), (2, .int y2)] → f_Tape_takeCharacter_b14  y0 y1 y2 E = some res → W p l e rm_Tape_takeCharacter s m args below meth c H locs 0 0 (MQ below (va_Qv (fun w => w = (res, nx)) (hJ D kA S g n0) (fun q => n0 ≤ q)) args s 0 0 (fun q => n0 ≤ q)) (F0 m 14 ls []) := by
  intro y0 y1 y2 E H locs ls M hl hf
  unfold f_Tape_takeCharacter_b14 at hf
  refine w_aload_n C.x C.b dTape_takeCharacter_14 rfl (lv_at hl 0 rfl) ?_
  obtain ⟨v15, h15, hf⟩ := Option.bind_eq_some_iff.mp hf
  refine w_getI C M h15 rfl (hm_in in_Tape) (by decide) (List.mem_cons_of_mem _ wm_62) rfl dTape_takeCharacter_15 ?_
  refine lv_iconst (v := 1) C.x C.b dTape_takeCharacter_18 (by decide) ?_
  refine lv_isub C.x C.b dTape_takeCharacter_19 ?_
  refine lv_istore_n (lv' := [(3, .int (v15 - 1)), (0, va_rf y0), (1, .int y1), (2, .int y2)]) C.x C.b dTape_takeCharacter_20 rfl hl (by decide) rfl (fun ls hl => ?_)
  refine lv_iload_n C.x C.b dTape_takeCharacter_21 rfl (lv_at hl 0 rfl) ?_
  refine lv_if_lt (tgt := 31) C.x C.b dTape_takeCharacter_22 (by decide) (fun c22 => ?_) (fun c22 => ?_)
  · rw [if_pos c22] at hf
    exact b_Tape_takeCharacter_31 C hr hlk hnm _ _ _ _ M (lv_sub hl [] rfl) hf
  · rw [if_neg c22] at hf
    refine lv_iload_n C.x C.b dTape_takeCharacter_25 rfl (lv_at hl 0 rfl) ?_
    refine lv_bipush (v := 6) C.x C.b dTape_takeCharacter_26 (by decide) ?_
    refine lv_icmp_lt (tgt := 32) C.x C.b dTape_takeCharacter_28 (by decide) (fun c28 => ?_) (fun c28 => ?_)
    · rw [if_pos c28] at hf
      refine lv_iload_n C.x C.b dTape_takeCharacter_32 rfl (lv_at hl 3 rfl) ?_
      refine lv_if_eq (tgt := 43) C.x C.b dTape_takeCharacter_33 (by decide) (fun c33 => ?_) (fun c33 => ?_)
      · rw [if_pos c33] at hf
        exact b_Tape_takeCharacter_43 C hr hlk hnm _ _ _ _ _ _ _ M (lv_sub hl [1, 2, 0] rfl) hf
      · rw [if_neg c33] at hf
        refine w_aload_n C.x C.b dTape_takeCharacter_36 rfl (lv_at hl 1 rfl) ?_
        obtain ⟨v37, h37, hf⟩ := Option.bind_eq_some_iff.mp hf
        refine w_getR C M h37 rfl (hm_in in_Tape) (by decide) (List.mem_cons_of_mem _ wm_60) rfl dTape_takeCharacter_37 ?_
        refine lv_iload_n C.x C.b dTape_takeCharacter_40 rfl (lv_at hl 0 rfl) ?_
        refine lv_iload_n C.x C.b dTape_takeCharacter_41 rfl (lv_at hl 2 rfl) ?_
        obtain ⟨E42, h42, hf⟩ := Option.bind_eq_some_iff.mp hf
        refine w_iast C M h42 rfl dTape_takeCharacter_42 (fun H locs M => ?_)
        exact b_Tape_takeCharacter_43 C hr hlk hnm _ _ _ _ _ _ _ M (lv_sub hl [1, 2, 0] rfl) hf
    · rw [if_neg c28] at hf
      exact b_Tape_takeCharacter_31 C hr hlk hnm _ _ _ _ M (lv_sub hl [] rfl) hf
def f_Tape_takeCharacter  (x0 : Nat) (x1 : Int32) (x2 : Int32) (E : hE) : Option (hE) := (
  if x2 = 0 then (
  f_Tape_takeCharacter_b14 (some x0) x1 x2 E
  ) else (
  (gI E (some x0) 5 3).bind fun v6 =>
  (sI E (some x0) 5 3 (v6 + 1)).bind fun E11 =>
  f_Tape_takeCharacter_b14 (some x0) x1 x2 E11
  ))
set_option maxHeartbeats 4000000 in
set_option maxRecDepth 100000 in
theorem c_Tape_takeCharacter {l : Launch} {D : va_G} {kA : Nat → ClassId} {S : hE} {g : Nat → Nat} {n0 nx : Nat} {x0 : Nat} {x1 : Int32} {x2 : Int32} {E : hE} {res : hE} (hf : f_Tape_takeCharacter x0 x1 x2 E = some res) : Met l y_Tape_takeCharacter ws_Tape_takeCharacter rm_Tape_takeCharacter (va_Pc [va_rf (some x0), .int x1, .int x2] (hJ D kA S g n0 (E, nx))) (va_Qv (fun w => w = (res, nx)) (hJ D kA S g n0) (fun q => n0 ≤ q)) 0 0 (fun q => n0 ≤ q) := by
  refine h_met (cc := prog_9_method_3_code) (maxL := 4) (ret := none) (lvs := [(0, va_rf (some x0)), (1, .int x1), (2, .int x2)]) zZ_k (by decide) rfl (by simp [lg_sl, va_rf_cat, cat_i, cat_l, cat_n]) (by simp [lv_args, va_rf_cat, cat_i, cat_l, cat_n]) ?_
  intro p e s m below meth c ls C M hr hlk hnm hl
  unfold f_Tape_takeCharacter at hf
  refine lv_iload_n C.x C.b dTape_takeCharacter_0 rfl (lv_at hl 2 rfl) ?_
  refine lv_if_eq (tgt := 14) C.x C.b dTape_takeCharacter_1 (by decide) (fun c1 => ?_) (fun c1 => ?_)
  · rw [if_pos c1] at hf
    exact b_Tape_takeCharacter_14 C hr hlk hnm _ _ _ _ _ _ _ M (lv_sub hl [0, 1, 2] rfl) hf
  · rw [if_neg c1] at hf
    refine w_aload_n C.x C.b dTape_takeCharacter_4 rfl (lv_at hl 0 rfl) ?_
    refine lv_dup C.x C.b dTape_takeCharacter_5 (va_rf_cat _) ?_
    obtain ⟨v6, h6, hf⟩ := Option.bind_eq_some_iff.mp hf
    refine w_getI C M h6 rfl (hm_in in_Tape) (by decide) (List.mem_cons_of_mem _ wm_62) rfl dTape_takeCharacter_6 ?_
    refine lv_iconst (v := 1) C.x C.b dTape_takeCharacter_9 (by decide) ?_
    refine lv_iadd C.x C.b dTape_takeCharacter_10 ?_
    obtain ⟨E11, h11, hf⟩ := Option.bind_eq_some_iff.mp hf
    refine w_putV (ty := .int) C M ty_Tape h11 rfl (hm_in in_Tape) tyok_Tape nm_Tape (by decide) (List.mem_cons_of_mem _ wm_62) rfl rfl (by decide +kernel) rfl rfl dTape_takeCharacter_11 (fun H locs M => ?_)
    exact b_Tape_takeCharacter_14 C hr hlk hnm _ _ _ _ _ _ _ M (lv_sub hl [0, 1, 2] rfl) hf
theorem dTape_lengthOf_0 : decode prog_9_method_7_code 0 = .ok (.iload_n 1, 1) := by decide +kernel
theorem dTape_lengthOf_1 : decode prog_9_method_7_code 1 = .ok (.ifCond .lt 21, 3) := by decide +kernel
theorem dTape_lengthOf_4 : decode prog_9_method_7_code 4 = .ok (.iload_n 1, 1) := by decide +kernel
theorem dTape_lengthOf_5 : decode prog_9_method_7_code 5 = .ok (.aload_n 0, 1) := by decide +kernel
theorem dTape_lengthOf_6 : decode prog_9_method_7_code 6 = .ok (.getfield 27, 3) := by decide +kernel
theorem dTape_lengthOf_9 : decode prog_9_method_7_code 9 = .ok (.if_icmp .ge 13, 3) := by decide +kernel
theorem dTape_lengthOf_12 : decode prog_9_method_7_code 12 = .ok (.iload_n 1, 1) := by decide +kernel
theorem dTape_lengthOf_13 : decode prog_9_method_7_code 13 = .ok (.bipush 6, 2) := by decide +kernel
theorem dTape_lengthOf_15 : decode prog_9_method_7_code 15 = .ok (.if_icmp .ge 7, 3) := by decide +kernel
theorem dTape_lengthOf_18 : decode prog_9_method_7_code 18 = .ok (.iconst 1, 1) := by decide +kernel
theorem dTape_lengthOf_19 : decode prog_9_method_7_code 19 = .ok (.goto 4, 3) := by decide +kernel
theorem dTape_lengthOf_22 : decode prog_9_method_7_code 22 = .ok (.iconst 0, 1) := by decide +kernel
theorem dTape_lengthOf_23 : decode prog_9_method_7_code 23 = .ok (.istore_n 2, 1) := by decide +kernel
theorem dTape_lengthOf_24 : decode prog_9_method_7_code 24 = .ok (.iload_n 2, 1) := by decide +kernel
theorem dTape_lengthOf_25 : decode prog_9_method_7_code 25 = .ok (.ifCond .eq 19, 3) := by decide +kernel
theorem dTape_lengthOf_28 : decode prog_9_method_7_code 28 = .ok (.aload_n 0, 1) := by decide +kernel
theorem dTape_lengthOf_29 : decode prog_9_method_7_code 29 = .ok (.getfield 24, 3) := by decide +kernel
theorem dTape_lengthOf_32 : decode prog_9_method_7_code 32 = .ok (.iload_n 1, 1) := by decide +kernel
theorem dTape_lengthOf_33 : decode prog_9_method_7_code 33 = .ok (.iaload, 1) := by decide +kernel
theorem dTape_lengthOf_34 : decode prog_9_method_7_code 34 = .ok (.aload_n 0, 1) := by decide +kernel
theorem dTape_lengthOf_35 : decode prog_9_method_7_code 35 = .ok (.getfield 20, 3) := by decide +kernel
theorem dTape_lengthOf_38 : decode prog_9_method_7_code 38 = .ok (.iload_n 1, 1) := by decide +kernel
theorem dTape_lengthOf_39 : decode prog_9_method_7_code 39 = .ok (.iaload, 1) := by decide +kernel
theorem dTape_lengthOf_40 : decode prog_9_method_7_code 40 = .ok (.isub, 1) := by decide +kernel
theorem dTape_lengthOf_41 : decode prog_9_method_7_code 41 = .ok (.goto 4, 3) := by decide +kernel
theorem dTape_lengthOf_44 : decode prog_9_method_7_code 44 = .ok (.iconst 0, 1) := by decide +kernel
theorem dTape_lengthOf_45 : decode prog_9_method_7_code 45 = .ok (.ireturn, 1) := by decide +kernel
abbrev rm_Tape_lengthOf : Room := { frames := 0, cells := 0, slots := 0, locals := 0 }
def f_Tape_lengthOf_b45 (E : hE) (t0 : Int32) : Option (Int32) := (
  some t0)
set_option maxHeartbeats 4000000 in
set_option maxRecDepth 100000 in
theorem b_Tape_lengthOf_45 {p : Program} {l : Launch} {e : Env} {s : State} {m : MethodId} {args : Array Value} {below : List Frame} {meth : Method} {c : Code} {D : va_G} {kA : Nat → ClassId} {S : hE} {g : Nat → Nat} {n0 nx : Nat} {E : hE} {res : Int32} (C : hX p s m args c prog_9_method_7_code 3 R_Tape ws_Tape_lengthOf D kA S g n0) (hr : meth.sig.returnType = (some .int)) (hlk : meth.locks = false) (hnm : meth.name = "lengthOf") : ∀ (t0 : Int32) (H : Heap) (locs : List Loc) (ls : Array Slot), hY D kA n0 s E nx H locs → lv_has ls 3 [] → f_Tape_lengthOf_b45 E  t0 = some res → W p l e rm_Tape_lengthOf s m args below meth c H locs 0 0 (MQ below (va_Qi (fun r w => r = res ∧ w = (E, nx)) (hJ D kA S g n0) (fun q => n0 ≤ q)) args s 0 0 (fun q => n0 ≤ q)) (F0 m 45 ls [.int t0]) := by
  intro t0 H locs ls M hl hf
  unfold f_Tape_lengthOf_b45 at hf
  cases hf
  exact w_iret C M hr hlk rfl (Nat.le_refl _) (Nat.le_refl _) dTape_lengthOf_45 rfl rfl
def f_Tape_lengthOf_b23 (E : hE) (y0 : Option Nat) (y1 : Int32) (t0 : Int32) : Option (Int32) := (
  if t0 = 0 then (
  f_Tape_lengthOf_b45 E 0
  ) else (
  (gR E y0 5 2).bind fun v29 =>
  (aI E v29 0 y1).bind fun v33 =>
  (gR E y0 5 1).bind fun v35 =>
  (aI E v35 0 y1).bind fun v39 =>
  f_Tape_lengthOf_b45 E (v33 - v39)
  ))
set_option maxHeartbeats 4000000 in
set_option maxRecDepth 100000 in
theorem b_Tape_lengthOf_23 {p : Program} {l : Launch} {e : Env} {s : State} {m : MethodId} {args : Array Value} {below : List Frame} {meth : Method} {c : Code} {D : va_G} {kA : Nat → ClassId} {S : hE} {g : Nat → Nat} {n0 nx : Nat} {E : hE} {res : Int32} (C : hX p s m args c prog_9_method_7_code 3 R_Tape ws_Tape_lengthOf D kA S g n0) (hr : meth.sig.returnType = (some .int)) (hlk : meth.locks = false) (hnm : meth.name = "lengthOf") : ∀ (y0 : Option Nat) (y1 : Int32) (t0 : Int32) (H : Heap) (locs : List Loc) (ls : Array Slot), hY D kA n0 s E nx H locs → lv_has ls 3 [(0, va_rf y0), (1, .int y1)] → f_Tape_lengthOf_b23 E  y0 y1 t0 = some res → W p l e rm_Tape_lengthOf s m args below meth c H locs 0 0 (MQ below (va_Qi (fun r w => r = res ∧ w = (E, nx)) (hJ D kA S g n0) (fun q => n0 ≤ q)) args s 0 0 (fun q => n0 ≤ q)) (F0 m 23 ls [.int t0]) := by
  intro y0 y1 t0 H locs ls M hl hf
  unfold f_Tape_lengthOf_b23 at hf
  refine lv_istore_n (lv' := [(2, .int t0), (0, va_rf y0), (1, .int y1)]) C.x C.b dTape_lengthOf_23 rfl hl (by decide) rfl (fun ls hl => ?_)
  refine lv_iload_n C.x C.b dTape_lengthOf_24 rfl (lv_at hl 0 rfl) ?_
  refine lv_if_eq (tgt := 44) C.x C.b dTape_lengthOf_25 (by decide) (fun c25 => ?_) (fun c25 => ?_)
  · rw [if_pos c25] at hf
    refine lv_iconst (v := 0) C.x C.b dTape_lengthOf_44 (by decide) ?_
    exact b_Tape_lengthOf_45 C hr hlk hnm _ _ _ _ M (lv_sub hl [] rfl) hf
  · rw [if_neg c25] at hf
    refine w_aload_n C.x C.b dTape_lengthOf_28 rfl (lv_at hl 1 rfl) ?_
    obtain ⟨v29, h29, hf⟩ := Option.bind_eq_some_iff.mp hf
    refine w_getR C M h29 rfl (hm_in in_Tape) (by decide) (List.mem_cons_of_mem _ wm_61) rfl dTape_lengthOf_29 ?_
    refine lv_iload_n C.x C.b dTape_lengthOf_32 rfl (lv_at hl 2 rfl) ?_
    obtain ⟨v33, h33, hf⟩ := Option.bind_eq_some_iff.mp hf
    refine w_iald C M h33 rfl dTape_lengthOf_33 ?_
    refine w_aload_n C.x C.b dTape_lengthOf_34 rfl (lv_at hl 1 rfl) ?_
    obtain ⟨v35, h35, hf⟩ := Option.bind_eq_some_iff.mp hf
    refine w_getR C M h35 rfl (hm_in in_Tape) (by decide) (List.mem_cons_of_mem _ wm_60) rfl dTape_lengthOf_35 ?_
    refine lv_iload_n C.x C.b dTape_lengthOf_38 rfl (lv_at hl 2 rfl) ?_
    obtain ⟨v39, h39, hf⟩ := Option.bind_eq_some_iff.mp hf
    refine w_iald C M h39 rfl dTape_lengthOf_39 ?_
    refine lv_isub C.x C.b dTape_lengthOf_40 ?_
    refine lv_goto (tgt := 45) C.x C.b dTape_lengthOf_41 (by decide) ?_
    exact b_Tape_lengthOf_45 C hr hlk hnm _ _ _ _ M (lv_sub hl [] rfl) hf
def f_Tape_lengthOf_b22 (E : hE) (y0 : Option Nat) (y1 : Int32) : Option (Int32) := (
  f_Tape_lengthOf_b23 E y0 y1 0)
set_option maxHeartbeats 4000000 in
set_option maxRecDepth 100000 in
theorem b_Tape_lengthOf_22 {p : Program} {l : Launch} {e : Env} {s : State} {m : MethodId} {args : Array Value} {below : List Frame} {meth : Method} {c : Code} {D : va_G} {kA : Nat → ClassId} {S : hE} {g : Nat → Nat} {n0 nx : Nat} {E : hE} {res : Int32} (C : hX p s m args c prog_9_method_7_code 3 R_Tape ws_Tape_lengthOf D kA S g n0) (hr : meth.sig.returnType = (some .int)) (hlk : meth.locks = false) (hnm : meth.name = "lengthOf") : ∀ (y0 : Option Nat) (y1 : Int32) (H : Heap) (locs : List Loc) (ls : Array Slot), hY D kA n0 s E nx H locs → lv_has ls 3 [(0, va_rf y0), (1, .int y1)] → f_Tape_lengthOf_b22 E  y0 y1 = some res → W p l e rm_Tape_lengthOf s m args below meth c H locs 0 0 (MQ below (va_Qi (fun r w => r = res ∧ w = (E, nx)) (hJ D kA S g n0) (fun q => n0 ≤ q)) args s 0 0 (fun q => n0 ≤ q)) (F0 m 22 ls []) := by
  intro y0 y1 H locs ls M hl hf
  unfold f_Tape_lengthOf_b22 at hf
  refine lv_iconst (v := 0) C.x C.b dTape_lengthOf_22 (by decide) ?_
  exact b_Tape_lengthOf_23 C hr hlk hnm _ _ _ _ _ _ M (lv_sub hl [0, 1] rfl) hf
def f_Tape_lengthOf (E : hE) (x0 : Nat) (x1 : Int32) : Option (Int32) := (
  if x1 < 0 then (
  f_Tape_lengthOf_b22 E (some x0) x1
  ) else (
  (gI E (some x0) 5 3).bind fun v6 =>
  if v6 ≤ x1 then (
  f_Tape_lengthOf_b22 E (some x0) x1
  ) else (
  if 6 ≤ x1 then (
  f_Tape_lengthOf_b22 E (some x0) x1
  ) else (
  f_Tape_lengthOf_b23 E (some x0) x1 1
  )
  )
  ))
set_option maxHeartbeats 4000000 in
set_option maxRecDepth 100000 in
theorem c_Tape_lengthOf {l : Launch} {D : va_G} {kA : Nat → ClassId} {S : hE} {g : Nat → Nat} {n0 nx : Nat} {x0 : Nat} {x1 : Int32} {E : hE} {res : Int32} (hf : f_Tape_lengthOf E x0 x1 = some res) : Met l y_Tape_lengthOf ws_Tape_lengthOf rm_Tape_lengthOf (va_Pc [va_rf (some x0), .int x1] (hJ D kA S g n0 (E, nx))) (va_Qi (fun r w => r = res ∧ w = (E, nx)) (hJ D kA S g n0) (fun q => n0 ≤ q)) 0 0 (fun q => n0 ≤ q) := by
  refine h_met (cc := prog_9_method_7_code) (maxL := 3) (ret := (some .int)) (lvs := [(0, va_rf (some x0)), (1, .int x1)]) zZ_k (by decide) rfl (by simp [lg_sl, va_rf_cat, cat_i, cat_l, cat_n]) (by simp [lv_args, va_rf_cat, cat_i, cat_l, cat_n]) ?_
  intro p e s m below meth c ls C M hr hlk hnm hl
  unfold f_Tape_lengthOf at hf
  refine lv_iload_n C.x C.b dTape_lengthOf_0 rfl (lv_at hl 1 rfl) ?_
  refine lv_if_lt (tgt := 22) C.x C.b dTape_lengthOf_1 (by decide) (fun c1 => ?_) (fun c1 => ?_)
  · rw [if_pos c1] at hf
    exact b_Tape_lengthOf_22 C hr hlk hnm _ _ _ _ _ M (lv_sub hl [0, 1] rfl) hf
  · rw [if_neg c1] at hf
    refine lv_iload_n C.x C.b dTape_lengthOf_4 rfl (lv_at hl 1 rfl) ?_
    refine w_aload_n C.x C.b dTape_lengthOf_5 rfl (lv_at hl 0 rfl) ?_
    obtain ⟨v6, h6, hf⟩ := Option.bind_eq_some_iff.mp hf
    refine w_getI C M h6 rfl (hm_in in_Tape) (by decide) (List.mem_cons_of_mem _ wm_62) rfl dTape_lengthOf_6 ?_
    refine lv_icmp_ge (tgt := 22) C.x C.b dTape_lengthOf_9 (by decide) (fun c9 => ?_) (fun c9 => ?_)
    · rw [if_pos c9] at hf
      exact b_Tape_lengthOf_22 C hr hlk hnm _ _ _ _ _ M (lv_sub hl [0, 1] rfl) hf
    · rw [if_neg c9] at hf
      refine lv_iload_n C.x C.b dTape_lengthOf_12 rfl (lv_at hl 1 rfl) ?_
      refine lv_bipush (v := 6) C.x C.b dTape_lengthOf_13 (by decide) ?_
      refine lv_icmp_ge (tgt := 22) C.x C.b dTape_lengthOf_15 (by decide) (fun c15 => ?_) (fun c15 => ?_)
      · rw [if_pos c15] at hf
        exact b_Tape_lengthOf_22 C hr hlk hnm _ _ _ _ _ M (lv_sub hl [0, 1] rfl) hf
      · rw [if_neg c15] at hf
        refine lv_iconst (v := 1) C.x C.b dTape_lengthOf_18 (by decide) ?_
        refine lv_goto (tgt := 23) C.x C.b dTape_lengthOf_19 (by decide) ?_
        exact b_Tape_lengthOf_23 C hr hlk hnm _ _ _ _ _ _ M (lv_sub hl [0, 1] rfl) hf
