/-! ===== the constructors: cells laid one behind the other ===== -/
section ENI
variable {x n : Nat} {c : Nat → va_E} {F : hE}
theorem en_0 : enc x 0 c F = F := by
  funext a
  unfold enc
  rw [if_neg (by omega)]
theorem en_new {e : va_E} : va_up (enc x n c F) (x + n) (some e) = enc x (n + 1) (va_up c n e) F := by
  funext a
  by_cases ha : a = x + n
  · subst ha
    rw [va_up_self, enc_at (by omega), va_up_self]
  · rw [va_up_ne _ _ ha]
    unfold enc
    by_cases hr : x ≤ a ∧ a < x + n
    · rw [if_pos hr, if_pos (by omega), va_up_ne _ _ (by omega)]
    · rw [if_neg hr, if_neg (by omega)]
theorem en_set {k : Nat} {e : va_E} (h : k < n) : va_up (enc x n c F) (x + k) (some e) = enc x n (va_up c k e) F := enc_up h (va_up_self _ _ _) (fun j hj => va_up_ne _ _ hj)
theorem en_nA {t L bd : Nat} {z : Int32} (hz : z = nI L) (hL : L ≤ bd) (hb : L < 2 ^ 31) : nA (enc x n c F) (x + n) t z bd = some (enc x (n + 1) (va_up c n (.inl (t, L, .inl (fun _ => 0)))) F) := by
  unfold nA
  rw [hz, nI_clamp hb, if_neg (fun h => h.elim (nI_pos hb) (fun h => by omega)), en_new]
theorem en_nJ {t L bd : Nat} {z : Int32} (hz : z = nI L) (hL : L ≤ bd) (hb : L < 2 ^ 31) : nJ (enc x n c F) (x + n) t z bd = some (enc x (n + 1) (va_up c n (.inl (t, L, .inr (.inl (fun _ => 0))))) F) := by
  unfold nJ
  rw [hz, nI_clamp hb, if_neg (fun h => h.elim (nI_pos hb) (fun h => by omega)), en_new]
theorem en_nQ {t L bd : Nat} {z : Int32} (hz : z = nI L) (hL : L ≤ bd) (hb : L ≤ 100000) : nQ (enc x n c F) (x + n) t z bd = some (enc x (n + 1) (va_up c n (.inl (t, L, .inr (.inr (.inr (.inr (fun _ => none))))))) F) := by
  unfold nQ
  rw [hz, nI_clamp (by omega), if_neg (fun h => h.elim (nI_pos (by omega)) (fun h => by omega)), en_new]
theorem en_sF {k ci j : Nat} {fs : List Value} {v : Value} (h : k < n) (hc : c k = .inr (ci, fs)) (hj : j < fs.length) : sF (enc x n c F) (some (x + k)) ci j v = some (enc x n (va_up c k (.inr (ci, fs.set j v))) F) := by
  rw [sF_at (by rw [enc_at h, hc]) hj, en_set h]
theorem en_gR {k ci j a : Nat} {fs : List Value} (h : k < n) (hc : c k = .inr (ci, fs)) (hj : fs[j]? = some (.ref a)) : gR (enc x n c F) (some (x + k)) ci j = some (some a) := gR_at (by rw [enc_at h, hc]) hj
theorem en_tQ {k t L i b ci : Nat} {f : Nat → Option Nat} {fs : List Value} (h : k < n) (hc : c k = .inl (t, L, .inr (.inr (.inr (.inr f))))) (hi : i < L) (hL : L < 2 ^ 31) (hb : b < n) (hcb : c b = .inr (ci, fs)) : tQ (enc x n c F) (some (x + k)) t (nI i) (some (x + b)) ci = some (enc x n (va_up c k (.inl (t, L, .inr (.inr (.inr (.inr (va_up f i (some (x + b))))))))) F) := by
  rw [tQ_at (by rw [enc_at h, hc]) hi hL (by rw [enc_at hb, hcb]), en_set h]
theorem en_cg {c' : Nat → va_E} (h : ∀ k, k < n → c k = c' k) : enc x n c F = enc x n c' F := by
  funext a
  unfold enc
  by_cases hr : x ≤ a ∧ a < x + n
  · rw [if_pos hr, if_pos hr, h _ (by omega)]
  · rw [if_neg hr, if_neg hr]
end ENI
def ci_0 (x : Nat) : Nat → va_E := fun _ => .inr (6, [.null, .null])
def ci_1 (x : Nat) : Nat → va_E := va_up (ci_0 x) 1 (.inr (5, [.null, .null, .null, .int 0, .int 0, .int 0, .int 0, .int 0, .int 0]))
theorem ci_s1 {x : Nat} {F : hE} : va_up (enc x 1 (ci_0 x) F) (x + 1) (some (.inr (5, [.null, .null, .null, .int 0, .int 0, .int 0, .int 0, .int 0, .int 0]))) = enc x 2 (ci_1 x) F := en_new (n := 1)
def ci_2 (x : Nat) : Nat → va_E := va_up (ci_1 x) 2 (.inr (0, [.null, .int 0, .int 0]))
theorem ci_s2 {x : Nat} {F : hE} : va_up (enc x 2 (ci_1 x) F) (x + 2) (some (.inr (0, [.null, .int 0, .int 0]))) = enc x 3 (ci_2 x) F := en_new (n := 2)
def ci_3 (x : Nat) : Nat → va_E := va_up (ci_2 x) 3 (.inl (0, 400, .inl (fun _ => 0)))
theorem ci_s3 {x : Nat} {F : hE} : nA (enc x 3 (ci_2 x) F) (x + 3) 0 400 400 = some (enc x 4 (ci_3 x) F) := en_nA (n := 3) (L := 400) rfl (by decide) (by decide)
def ci_4 (x : Nat) : Nat → va_E := va_up (ci_3 x) 2 (.inr (0, [.ref (x + 3), .int 0, .int 0]))
theorem ci_s4 {x : Nat} {F : hE} : sR (enc x 4 (ci_3 x) F) (some (x + 2)) 0 0 (some (x + 3)) = some (enc x 4 (ci_4 x) F) := en_sF (x := x) (n := 4) (c := ci_3 x) (F := F) (k := 2) (ci := 0) (j := 0) (fs := [.null, .int 0, .int 0]) (v := va_rf (some (x + 3))) (by decide) rfl (show 0 < 3 by decide)
def ci_5 (x : Nat) : Nat → va_E := va_up (ci_4 x) 1 (.inr (5, [.ref (x + 2), .null, .null, .int 0, .int 0, .int 0, .int 0, .int 0, .int 0]))
theorem ci_s5 {x : Nat} {F : hE} : sR (enc x 4 (ci_4 x) F) (some (x + 1)) 5 0 (some (x + 2)) = some (enc x 4 (ci_5 x) F) := en_sF (x := x) (n := 4) (c := ci_4 x) (F := F) (k := 1) (ci := 5) (j := 0) (fs := [.null, .null, .null, .int 0, .int 0, .int 0, .int 0, .int 0, .int 0]) (v := va_rf (some (x + 2))) (by decide) rfl (show 0 < 9 by decide)
def ci_6 (x : Nat) : Nat → va_E := va_up (ci_5 x) 4 (.inl (0, 6, .inl (fun _ => 0)))
theorem ci_s6 {x : Nat} {F : hE} : nA (enc x 4 (ci_5 x) F) (x + 4) 0 6 6 = some (enc x 5 (ci_6 x) F) := en_nA (n := 4) (L := 6) rfl (by decide) (by decide)
def ci_7 (x : Nat) : Nat → va_E := va_up (ci_6 x) 1 (.inr (5, [.ref (x + 2), .ref (x + 4), .null, .int 0, .int 0, .int 0, .int 0, .int 0, .int 0]))
theorem ci_s7 {x : Nat} {F : hE} : sR (enc x 5 (ci_6 x) F) (some (x + 1)) 5 1 (some (x + 4)) = some (enc x 5 (ci_7 x) F) := en_sF (x := x) (n := 5) (c := ci_6 x) (F := F) (k := 1) (ci := 5) (j := 1) (fs := [.ref (x + 2), .null, .null, .int 0, .int 0, .int 0, .int 0, .int 0, .int 0]) (v := va_rf (some (x + 4))) (by decide) rfl (show 1 < 9 by decide)
def ci_8 (x : Nat) : Nat → va_E := va_up (ci_7 x) 5 (.inl (0, 6, .inl (fun _ => 0)))
theorem ci_s8 {x : Nat} {F : hE} : nA (enc x 5 (ci_7 x) F) (x + 5) 0 6 6 = some (enc x 6 (ci_8 x) F) := en_nA (n := 5) (L := 6) rfl (by decide) (by decide)
def ci_9 (x : Nat) : Nat → va_E := va_up (ci_8 x) 1 (.inr (5, [.ref (x + 2), .ref (x + 4), .ref (x + 5), .int 0, .int 0, .int 0, .int 0, .int 0, .int 0]))
theorem ci_s9 {x : Nat} {F : hE} : sR (enc x 6 (ci_8 x) F) (some (x + 1)) 5 2 (some (x + 5)) = some (enc x 6 (ci_9 x) F) := en_sF (x := x) (n := 6) (c := ci_8 x) (F := F) (k := 1) (ci := 5) (j := 2) (fs := [.ref (x + 2), .ref (x + 4), .null, .int 0, .int 0, .int 0, .int 0, .int 0, .int 0]) (v := va_rf (some (x + 5))) (by decide) rfl (show 2 < 9 by decide)
def ci_10 (x : Nat) : Nat → va_E := va_up (ci_9 x) 0 (.inr (6, [.ref (x + 1), .null]))
theorem ci_s10 {x : Nat} {F : hE} : sR (enc x 6 (ci_9 x) F) (some x) 6 0 (some (x + 1)) = some (enc x 6 (ci_10 x) F) := en_sF (x := x) (n := 6) (c := ci_9 x) (F := F) (k := 0) (ci := 6) (j := 0) (fs := [.null, .null]) (v := va_rf (some (x + 1))) (by decide) rfl (show 0 < 2 by decide)
def ci_11 (x : Nat) : Nat → va_E := va_up (ci_10 x) 6 (.inr (2, [.null, .null, .null, .null, .null, .null, .null, .int 0, .int 0, .int 0, .int 0, .int 0, .int 0]))
theorem ci_s11 {x : Nat} {F : hE} : va_up (enc x 6 (ci_10 x) F) (x + 6) (some (.inr (2, [.null, .null, .null, .null, .null, .null, .null, .int 0, .int 0, .int 0, .int 0, .int 0, .int 0]))) = enc x 7 (ci_11 x) F := en_new (n := 6)
def ci_12 (x : Nat) : Nat → va_E := va_up (ci_11 x) 7 (.inl (5, 4, .inr (.inr (.inr (.inr (fun _ => none))))))
theorem ci_s12 {x : Nat} {F : hE} : nQ (enc x 7 (ci_11 x) F) (x + 7) 5 4 4 = some (enc x 8 (ci_12 x) F) := en_nQ (n := 7) (L := 4) rfl (by decide) (by decide)
def ci_13 (x : Nat) : Nat → va_E := va_up (ci_12 x) 6 (.inr (2, [.ref (x + 7), .null, .null, .null, .null, .null, .null, .int 0, .int 0, .int 0, .int 0, .int 0, .int 0]))
theorem ci_s13 {x : Nat} {F : hE} : sR (enc x 8 (ci_12 x) F) (some (x + 6)) 2 0 (some (x + 7)) = some (enc x 8 (ci_13 x) F) := en_sF (x := x) (n := 8) (c := ci_12 x) (F := F) (k := 6) (ci := 2) (j := 0) (fs := [.null, .null, .null, .null, .null, .null, .null, .int 0, .int 0, .int 0, .int 0, .int 0, .int 0]) (v := va_rf (some (x + 7))) (by decide) rfl (show 0 < 13 by decide)
def ci_14 (x : Nat) : Nat → va_E := va_up (ci_13 x) 8 (.inl (1, 3, .inl (fun _ => 0)))
theorem ci_s14 {x : Nat} {F : hE} : nA (enc x 8 (ci_13 x) F) (x + 8) 1 3 3 = some (enc x 9 (ci_14 x) F) := en_nA (n := 8) (L := 3) rfl (by decide) (by decide)
def ci_15 (x : Nat) : Nat → va_E := va_up (ci_14 x) 6 (.inr (2, [.ref (x + 7), .ref (x + 8), .null, .null, .null, .null, .null, .int 0, .int 0, .int 0, .int 0, .int 0, .int 0]))
theorem ci_s15 {x : Nat} {F : hE} : sR (enc x 9 (ci_14 x) F) (some (x + 6)) 2 1 (some (x + 8)) = some (enc x 9 (ci_15 x) F) := en_sF (x := x) (n := 9) (c := ci_14 x) (F := F) (k := 6) (ci := 2) (j := 1) (fs := [.ref (x + 7), .null, .null, .null, .null, .null, .null, .int 0, .int 0, .int 0, .int 0, .int 0, .int 0]) (v := va_rf (some (x + 8))) (by decide) rfl (show 1 < 13 by decide)
def ci_16 (x : Nat) : Nat → va_E := va_up (ci_15 x) 9 (.inr (0, [.null, .int 0, .int 0]))
theorem ci_s16 {x : Nat} {F : hE} : va_up (enc x 9 (ci_15 x) F) (x + 9) (some (.inr (0, [.null, .int 0, .int 0]))) = enc x 10 (ci_16 x) F := en_new (n := 9)
def ci_17 (x : Nat) : Nat → va_E := va_up (ci_16 x) 10 (.inl (0, 60, .inl (fun _ => 0)))
theorem ci_s17 {x : Nat} {F : hE} : nA (enc x 10 (ci_16 x) F) (x + 10) 0 60 400 = some (enc x 11 (ci_17 x) F) := en_nA (n := 10) (L := 60) rfl (by decide) (by decide)
def ci_18 (x : Nat) : Nat → va_E := va_up (ci_17 x) 9 (.inr (0, [.ref (x + 10), .int 0, .int 0]))
theorem ci_s18 {x : Nat} {F : hE} : sR (enc x 11 (ci_17 x) F) (some (x + 9)) 0 0 (some (x + 10)) = some (enc x 11 (ci_18 x) F) := en_sF (x := x) (n := 11) (c := ci_17 x) (F := F) (k := 9) (ci := 0) (j := 0) (fs := [.null, .int 0, .int 0]) (v := va_rf (some (x + 10))) (by decide) rfl (show 0 < 3 by decide)
def ci_19 (x : Nat) : Nat → va_E := va_up (ci_18 x) 6 (.inr (2, [.ref (x + 7), .ref (x + 8), .ref (x + 9), .null, .null, .null, .null, .int 0, .int 0, .int 0, .int 0, .int 0, .int 0]))
theorem ci_s19 {x : Nat} {F : hE} : sR (enc x 11 (ci_18 x) F) (some (x + 6)) 2 2 (some (x + 9)) = some (enc x 11 (ci_19 x) F) := en_sF (x := x) (n := 11) (c := ci_18 x) (F := F) (k := 6) (ci := 2) (j := 2) (fs := [.ref (x + 7), .ref (x + 8), .null, .null, .null, .null, .null, .int 0, .int 0, .int 0, .int 0, .int 0, .int 0]) (v := va_rf (some (x + 9))) (by decide) rfl (show 2 < 13 by decide)
def ci_20 (x : Nat) : Nat → va_E := va_up (ci_19 x) 11 (.inr (0, [.null, .int 0, .int 0]))
theorem ci_s20 {x : Nat} {F : hE} : va_up (enc x 11 (ci_19 x) F) (x + 11) (some (.inr (0, [.null, .int 0, .int 0]))) = enc x 12 (ci_20 x) F := en_new (n := 11)
def ci_21 (x : Nat) : Nat → va_E := va_up (ci_20 x) 12 (.inl (0, 60, .inl (fun _ => 0)))
theorem ci_s21 {x : Nat} {F : hE} : nA (enc x 12 (ci_20 x) F) (x + 12) 0 60 400 = some (enc x 13 (ci_21 x) F) := en_nA (n := 12) (L := 60) rfl (by decide) (by decide)
def ci_22 (x : Nat) : Nat → va_E := va_up (ci_21 x) 11 (.inr (0, [.ref (x + 12), .int 0, .int 0]))
theorem ci_s22 {x : Nat} {F : hE} : sR (enc x 13 (ci_21 x) F) (some (x + 11)) 0 0 (some (x + 12)) = some (enc x 13 (ci_22 x) F) := en_sF (x := x) (n := 13) (c := ci_21 x) (F := F) (k := 11) (ci := 0) (j := 0) (fs := [.null, .int 0, .int 0]) (v := va_rf (some (x + 12))) (by decide) rfl (show 0 < 3 by decide)
def ci_23 (x : Nat) : Nat → va_E := va_up (ci_22 x) 6 (.inr (2, [.ref (x + 7), .ref (x + 8), .ref (x + 9), .ref (x + 11), .null, .null, .null, .int 0, .int 0, .int 0, .int 0, .int 0, .int 0]))
theorem ci_s23 {x : Nat} {F : hE} : sR (enc x 13 (ci_22 x) F) (some (x + 6)) 2 3 (some (x + 11)) = some (enc x 13 (ci_23 x) F) := en_sF (x := x) (n := 13) (c := ci_22 x) (F := F) (k := 6) (ci := 2) (j := 3) (fs := [.ref (x + 7), .ref (x + 8), .ref (x + 9), .null, .null, .null, .null, .int 0, .int 0, .int 0, .int 0, .int 0, .int 0]) (v := va_rf (some (x + 11))) (by decide) rfl (show 3 < 13 by decide)
def ci_24 (x : Nat) : Nat → va_E := va_up (ci_23 x) 13 (.inr (1, [.int 0, .null, .null, .null, .int 0, .int 0, .int 0]))
theorem ci_s24 {x : Nat} {F : hE} : va_up (enc x 13 (ci_23 x) F) (x + 13) (some (.inr (1, [.int 0, .null, .null, .null, .int 0, .int 0, .int 0]))) = enc x 14 (ci_24 x) F := en_new (n := 13)
def ci_25 (x : Nat) : Nat → va_E := va_up (ci_24 x) 14 (.inl (0, 8, .inl (fun _ => 0)))
theorem ci_s25 {x : Nat} {F : hE} : nA (enc x 14 (ci_24 x) F) (x + 14) 0 8 8 = some (enc x 15 (ci_25 x) F) := en_nA (n := 14) (L := 8) rfl (by decide) (by decide)
def ci_26 (x : Nat) : Nat → va_E := va_up (ci_25 x) 13 (.inr (1, [.int 0, .ref (x + 14), .null, .null, .int 0, .int 0, .int 0]))
theorem ci_s26 {x : Nat} {F : hE} : sR (enc x 15 (ci_25 x) F) (some (x + 13)) 1 1 (some (x + 14)) = some (enc x 15 (ci_26 x) F) := en_sF (x := x) (n := 15) (c := ci_25 x) (F := F) (k := 13) (ci := 1) (j := 1) (fs := [.int 0, .null, .null, .null, .int 0, .int 0, .int 0]) (v := va_rf (some (x + 14))) (by decide) rfl (show 1 < 7 by decide)
def ci_27 (x : Nat) : Nat → va_E := va_up (ci_26 x) 15 (.inl (0, 32, .inl (fun _ => 0)))
theorem ci_s27 {x : Nat} {F : hE} : nA (enc x 15 (ci_26 x) F) (x + 15) 0 32 32 = some (enc x 16 (ci_27 x) F) := en_nA (n := 15) (L := 32) rfl (by decide) (by decide)
def ci_28 (x : Nat) : Nat → va_E := va_up (ci_27 x) 13 (.inr (1, [.int 0, .ref (x + 14), .ref (x + 15), .null, .int 0, .int 0, .int 0]))
theorem ci_s28 {x : Nat} {F : hE} : sR (enc x 16 (ci_27 x) F) (some (x + 13)) 1 2 (some (x + 15)) = some (enc x 16 (ci_28 x) F) := en_sF (x := x) (n := 16) (c := ci_27 x) (F := F) (k := 13) (ci := 1) (j := 2) (fs := [.int 0, .ref (x + 14), .null, .null, .int 0, .int 0, .int 0]) (v := va_rf (some (x + 15))) (by decide) rfl (show 2 < 7 by decide)
def ci_29 (x : Nat) : Nat → va_E := va_up (ci_28 x) 16 (.inl (0, 8, .inl (fun _ => 0)))
theorem ci_s29 {x : Nat} {F : hE} : nA (enc x 16 (ci_28 x) F) (x + 16) 0 8 8 = some (enc x 17 (ci_29 x) F) := en_nA (n := 16) (L := 8) rfl (by decide) (by decide)
def ci_30 (x : Nat) : Nat → va_E := va_up (ci_29 x) 13 (.inr (1, [.int 0, .ref (x + 14), .ref (x + 15), .ref (x + 16), .int 0, .int 0, .int 0]))
theorem ci_s30 {x : Nat} {F : hE} : sR (enc x 17 (ci_29 x) F) (some (x + 13)) 1 3 (some (x + 16)) = some (enc x 17 (ci_30 x) F) := en_sF (x := x) (n := 17) (c := ci_29 x) (F := F) (k := 13) (ci := 1) (j := 3) (fs := [.int 0, .ref (x + 14), .ref (x + 15), .null, .int 0, .int 0, .int 0]) (v := va_rf (some (x + 16))) (by decide) rfl (show 3 < 7 by decide)
def ci_31 (x : Nat) : Nat → va_E := va_up (ci_30 x) 13 (.inr (1, [.int 0, .ref (x + 14), .ref (x + 15), .ref (x + 16), .int 0, .int 0, .int 0]))
theorem ci_s31 {x : Nat} {F : hE} : sI (enc x 17 (ci_30 x) F) (some (x + 13)) 1 0 0 = some (enc x 17 (ci_31 x) F) := en_sF (x := x) (n := 17) (c := ci_30 x) (F := F) (k := 13) (ci := 1) (j := 0) (fs := [.int 0, .ref (x + 14), .ref (x + 15), .ref (x + 16), .int 0, .int 0, .int 0]) (v := .int 0) (by decide) rfl (show 0 < 7 by decide)
def ci_32 (x : Nat) : Nat → va_E := va_up (ci_31 x) 6 (.inr (2, [.ref (x + 7), .ref (x + 8), .ref (x + 9), .ref (x + 11), .ref (x + 13), .null, .null, .int 0, .int 0, .int 0, .int 0, .int 0, .int 0]))
theorem ci_s32 {x : Nat} {F : hE} : sR (enc x 17 (ci_31 x) F) (some (x + 6)) 2 4 (some (x + 13)) = some (enc x 17 (ci_32 x) F) := en_sF (x := x) (n := 17) (c := ci_31 x) (F := F) (k := 6) (ci := 2) (j := 4) (fs := [.ref (x + 7), .ref (x + 8), .ref (x + 9), .ref (x + 11), .null, .null, .null, .int 0, .int 0, .int 0, .int 0, .int 0, .int 0]) (v := va_rf (some (x + 13))) (by decide) rfl (show 4 < 13 by decide)
def ci_33 (x : Nat) : Nat → va_E := va_up (ci_32 x) 17 (.inl (3, 10, .inr (.inr (.inr (.inr (fun _ => none))))))
theorem ci_s33 {x : Nat} {F : hE} : nQ (enc x 17 (ci_32 x) F) (x + 17) 3 10 10 = some (enc x 18 (ci_33 x) F) := en_nQ (n := 17) (L := 10) rfl (by decide) (by decide)
def ci_34 (x : Nat) : Nat → va_E := va_up (ci_33 x) 6 (.inr (2, [.ref (x + 7), .ref (x + 8), .ref (x + 9), .ref (x + 11), .ref (x + 13), .ref (x + 17), .null, .int 0, .int 0, .int 0, .int 0, .int 0, .int 0]))
theorem ci_s34 {x : Nat} {F : hE} : sR (enc x 18 (ci_33 x) F) (some (x + 6)) 2 5 (some (x + 17)) = some (enc x 18 (ci_34 x) F) := en_sF (x := x) (n := 18) (c := ci_33 x) (F := F) (k := 6) (ci := 2) (j := 5) (fs := [.ref (x + 7), .ref (x + 8), .ref (x + 9), .ref (x + 11), .ref (x + 13), .null, .null, .int 0, .int 0, .int 0, .int 0, .int 0, .int 0]) (v := va_rf (some (x + 17))) (by decide) rfl (show 5 < 13 by decide)
def ci_35 (x : Nat) : Nat → va_E := va_up (ci_34 x) 18 (.inl (4, 3, .inr (.inr (.inr (.inr (fun _ => none))))))
theorem ci_s35 {x : Nat} {F : hE} : nQ (enc x 18 (ci_34 x) F) (x + 18) 4 3 3 = some (enc x 19 (ci_35 x) F) := en_nQ (n := 18) (L := 3) rfl (by decide) (by decide)
def ci_36 (x : Nat) : Nat → va_E := va_up (ci_35 x) 6 (.inr (2, [.ref (x + 7), .ref (x + 8), .ref (x + 9), .ref (x + 11), .ref (x + 13), .ref (x + 17), .ref (x + 18), .int 0, .int 0, .int 0, .int 0, .int 0, .int 0]))
theorem ci_s36 {x : Nat} {F : hE} : sR (enc x 19 (ci_35 x) F) (some (x + 6)) 2 6 (some (x + 18)) = some (enc x 19 (ci_36 x) F) := en_sF (x := x) (n := 19) (c := ci_35 x) (F := F) (k := 6) (ci := 2) (j := 6) (fs := [.ref (x + 7), .ref (x + 8), .ref (x + 9), .ref (x + 11), .ref (x + 13), .ref (x + 17), .null, .int 0, .int 0, .int 0, .int 0, .int 0, .int 0]) (v := va_rf (some (x + 18))) (by decide) rfl (show 6 < 13 by decide)
/-! the loops over files and children -/
def fF (x i : Nat) : Nat → Option Nat := fun j => if j < i then some (x + (19 + 2 * j)) else none
def fH (x i : Nat) : Nat → Option Nat := fun j => if j < i then some (x + (39 + 4 * j)) else none
theorem fF_s (x i : Nat) : va_up (fF x i) i (some (x + (19 + 2 * i))) = fF x (i + 1) := by
  funext j
  by_cases h : j = i
  · subst h
    rw [va_up_self]
    unfold fF
    rw [if_pos (by omega)]
  · rw [va_up_ne _ _ h]
    unfold fF
    by_cases h1 : j < i
    · rw [if_pos h1, if_pos (by omega)]
    · rw [if_neg h1, if_neg (by omega)]
theorem fH_s (x i : Nat) : va_up (fH x i) i (some (x + (39 + 4 * i))) = fH x (i + 1) := by
  funext j
  by_cases h : j = i
  · subst h
    rw [va_up_self]
    unfold fH
    rw [if_pos (by omega)]
  · rw [va_up_ne _ _ h]
    unfold fH
    by_cases h1 : j < i
    · rw [if_pos h1, if_pos (by omega)]
    · rw [if_neg h1, if_neg (by omega)]
section LPI
variable {x N : Nat} {F : hE}
theorem ini_files : ∀ (r i : Nat) (c : Nat → va_E), i + r = 10 → c 6 = .inr (2, [.ref (x + 7), .ref (x + 8), .ref (x + 9), .ref (x + 11), .ref (x + 13), .ref (x + 17), .ref (x + 18), .int 0, .int 0, .int 0, .int 0, .int 0, .int 0]) → c 17 = .inl (3, 10, .inr (.inr (.inr (.inr (fF x i))))) →
    ∃ c' : Nat → va_E, f_Mach_init_b76 N (r + 1) (some (x + 6)) (nI i) (enc x (19 + 2 * i) c F) (x + (19 + 2 * i)) = f_Mach_init_b105 N 4 (some (x + 6)) 0 (enc x 39 c' F) (x + 39) ∧ (∀ k, k < 19 → k ≠ 17 → c' k = c k) ∧ c' 17 = .inl (3, 10, .inr (.inr (.inr (.inr (fF x 10))))) ∧ (∀ j, i ≤ j → j < 10 → c' (19 + 2 * j) = .inr (0, [.ref (x + (19 + 2 * j + 1)), .int 0, .int 0]) ∧ c' (19 + 2 * j + 1) = .inl (0, 40, .inl (fun _ => 0))) ∧ ∀ k, 19 ≤ k → k < 19 + 2 * i → c' k = c k := by
  intro r
  induction r with
  | zero =>
    intro i c h1 h6 h17
    have hi : i = 10 := by omega
    subst hi
    rw [f_Mach_init_b76, if_pos (show (10 : Int32) ≤ nI 10 from by decide)]
    exact ⟨c, rfl, fun _ _ _ => rfl, h17, fun j h1 h2 => by omega, fun _ _ _ => rfl⟩
  | succ r ih =>
    intro i c h1 h6 h17
    rw [f_Mach_init_b76, if_neg (show ¬ (10 : Int32) ≤ nI i from nI_ge (b := 10) (by omega) (by decide)), en_gR (k := 6) (by omega) h6 (j := 5) rfl, Option.bind_some, en_new, Option.bind_some]
    unfold f_Row_init
    obtain ⟨c1, hc1⟩ : ∃ c1, c1 = va_up c (19 + 2 * i) (.inr (0, [.null, .int 0, .int 0])) := ⟨_, rfl⟩
    obtain ⟨c2, hc2⟩ : ∃ c2 : Nat → va_E, c2 = va_up c1 (19 + 2 * i + 1) (.inl (0, 40, .inl (fun _ => 0))) := ⟨_, rfl⟩
    obtain ⟨c3, hc3⟩ : ∃ c3 : Nat → va_E, c3 = va_up c2 (19 + 2 * i) (.inr (0, [.ref (x + (19 + 2 * i + 1)), .int 0, .int 0])) := ⟨_, rfl⟩
    have d2 : c2 (19 + 2 * i) = .inr (0, [.null, .int 0, .int 0]) := by rw [hc2, va_up_ne _ _ (by omega), hc1, va_up_self]
    have d3 : c3 (19 + 2 * i) = .inr (0, [.ref (x + (19 + 2 * i + 1)), .int 0, .int 0]) := by rw [hc3, va_up_self]
    have o3 : ∀ k, k < 19 + 2 * i → c3 k = c k := fun k hk => by rw [hc3, va_up_ne _ _ (by omega), hc2, va_up_ne _ _ (by omega), hc1, va_up_ne _ _ (by omega)]
    have sR1 : sR (enc x (19 + 2 * i + 1 + 1) c2 F) (some (x + (19 + 2 * i))) 0 0 (some (x + (19 + 2 * i + 1))) = some (enc x (19 + 2 * i + 1 + 1) c3 F) := by
      rw [hc3]
      exact en_sF (v := va_rf (some (x + (19 + 2 * i + 1)))) (by omega) d2 (show 0 < 3 by decide)
    have n1 : nA (enc x (19 + 2 * i + 1) c1 F) (x + (19 + 2 * i + 1)) 0 40 400 = some (enc x (19 + 2 * i + 1 + 1) c2 F) := by rw [hc2]; exact en_nA (L := 40) rfl (by decide) (by decide)
    rw [← hc1, Nat.add_assoc x (19 + 2 * i) 1, n1, Option.bind_some, sR1, Option.bind_some, Option.bind_some, en_tQ (k := 17) (t := 3) (f := fF x i) (by omega) (by rw [o3 17 (by omega)]; exact h17) (show i < 10 by omega) (by decide) (show 19 + 2 * i < 19 + 2 * i + 1 + 1 by omega) d3, Option.bind_some, fF_s, nI_1]
    obtain ⟨c', e1, e2, e3, e4, e5⟩ := ih (i + 1) (va_up c3 17 (.inl (3, 10, .inr (.inr (.inr (.inr (fF x (i + 1)))))))) (by omega) (by rw [va_up_ne _ _ (by decide), o3 6 (by omega)]; exact h6) (va_up_self _ _ _)
    refine ⟨c', ?_, fun k h1 h2 => by rw [e2 k h1 h2, va_up_ne _ _ h2, o3 k (by omega)], e3, fun j h1 h2 => ?_, fun k h1 h2 => by rw [e5 k h1 (by omega), va_up_ne _ _ (by omega), o3 k h2]⟩
    · exact e1
    · by_cases hji : j = i
      · subst hji
        refine ⟨by rw [e5 _ (by omega) (by omega), va_up_ne _ _ (by omega), d3], ?_⟩
        rw [e5 _ (by omega) (by omega), va_up_ne _ _ (by omega), hc3, va_up_ne _ _ (by omega), hc2, va_up_self]
      · exact e4 j (by omega) h2
theorem ini_kids : ∀ (r i : Nat) (c : Nat → va_E), i + r = 3 → c 6 = .inr (2, [.ref (x + 7), .ref (x + 8), .ref (x + 9), .ref (x + 11), .ref (x + 13), .ref (x + 17), .ref (x + 18), .int 0, .int 0, .int 0, .int 0, .int 0, .int 0]) → c 18 = .inl (4, 3, .inr (.inr (.inr (.inr (fH x i))))) →
    ∃ c' : Nat → va_E, f_Mach_init_b105 N (r + 1) (some (x + 6)) (nI i) (enc x (39 + 4 * i) c F) (x + (39 + 4 * i)) = some (enc x 51 c' F, x + 51) ∧ (∀ k, k < 39 → k ≠ 18 → c' k = c k) ∧ c' 18 = .inl (4, 3, .inr (.inr (.inr (.inr (fH x 3))))) ∧ (∀ j, i ≤ j → j < 3 → c' (39 + 4 * j) = .inr (1, [.int (nI (j + 1)), .ref (x + (39 + 4 * j + 1)), .ref (x + (39 + 4 * j + 2)), .ref (x + (39 + 4 * j + 3)), .int 0, .int 0, .int 0]) ∧ c' (39 + 4 * j + 1) = .inl (0, 8, .inl (fun _ => 0)) ∧ c' (39 + 4 * j + 2) = .inl (0, 32, .inl (fun _ => 0)) ∧ c' (39 + 4 * j + 3) = .inl (0, 8, .inl (fun _ => 0))) ∧ ∀ k, 39 ≤ k → k < 39 + 4 * i → c' k = c k := by
  intro r
  induction r with
  | zero =>
    intro i c h1 h6 h18
    have hi : i = 3 := by omega
    subst hi
    rw [f_Mach_init_b105, if_pos (show (3 : Int32) ≤ nI 3 from by decide)]
    exact ⟨c, rfl, fun _ _ _ => rfl, h18, fun j h1 h2 => by omega, fun _ _ _ => rfl⟩
  | succ r ih =>
    intro i c h1 h6 h18
    rw [f_Mach_init_b105, if_neg (show ¬ (3 : Int32) ≤ nI i from nI_ge (b := 3) (by omega) (by decide)), en_gR (k := 6) (by omega) h6 (j := 6) rfl, Option.bind_some, en_new, Option.bind_some]
    unfold f_Frame_init
    obtain ⟨y, hy⟩ : ∃ y, y = 39 + 4 * i := ⟨_, rfl⟩
    rw [← hy]
    obtain ⟨c1, hc1⟩ : ∃ c1, c1 = va_up c y (.inr (1, [.int 0, .null, .null, .null, .int 0, .int 0, .int 0])) := ⟨_, rfl⟩
    obtain ⟨c2, hc2⟩ : ∃ c2 : Nat → va_E, c2 = va_up c1 (y + 1) (.inl (0, 8, .inl (fun _ => 0))) := ⟨_, rfl⟩
    obtain ⟨c3, hc3⟩ : ∃ c3 : Nat → va_E, c3 = va_up c2 y (.inr (1, [.int 0, .ref (x + (y + 1)), .null, .null, .int 0, .int 0, .int 0])) := ⟨_, rfl⟩
    obtain ⟨c4, hc4⟩ : ∃ c4 : Nat → va_E, c4 = va_up c3 (y + 1 + 1) (.inl (0, 32, .inl (fun _ => 0))) := ⟨_, rfl⟩
    obtain ⟨c5, hc5⟩ : ∃ c5 : Nat → va_E, c5 = va_up c4 y (.inr (1, [.int 0, .ref (x + (y + 1)), .ref (x + (y + 1 + 1)), .null, .int 0, .int 0, .int 0])) := ⟨_, rfl⟩
    obtain ⟨c7, hc7⟩ : ∃ c7 : Nat → va_E, c7 = va_up c5 (y + 1 + 1 + 1) (.inl (0, 8, .inl (fun _ => 0))) := ⟨_, rfl⟩
    obtain ⟨c8, hc8⟩ : ∃ c8 : Nat → va_E, c8 = va_up c7 y (.inr (1, [.int 0, .ref (x + (y + 1)), .ref (x + (y + 1 + 1)), .ref (x + (y + 1 + 1 + 1)), .int 0, .int 0, .int 0])) := ⟨_, rfl⟩
    obtain ⟨c9, hc9⟩ : ∃ c9 : Nat → va_E, c9 = va_up c8 y (.inr (1, [.int (nI (i + 1)), .ref (x + (y + 1)), .ref (x + (y + 1 + 1)), .ref (x + (y + 1 + 1 + 1)), .int 0, .int 0, .int 0])) := ⟨_, rfl⟩
    have d2 : c2 y = .inr (1, [.int 0, .null, .null, .null, .int 0, .int 0, .int 0]) := by rw [hc2, va_up_ne _ _ (by omega), hc1, va_up_self]
    have d4 : c4 y = .inr (1, [.int 0, .ref (x + (y + 1)), .null, .null, .int 0, .int 0, .int 0]) := by rw [hc4, va_up_ne _ _ (by omega), hc3, va_up_self]
    have d7 : c7 y = .inr (1, [.int 0, .ref (x + (y + 1)), .ref (x + (y + 1 + 1)), .null, .int 0, .int 0, .int 0]) := by rw [hc7, va_up_ne _ _ (by omega), hc5, va_up_self]
    have d8 : c8 y = .inr (1, [.int 0, .ref (x + (y + 1)), .ref (x + (y + 1 + 1)), .ref (x + (y + 1 + 1 + 1)), .int 0, .int 0, .int 0]) := by rw [hc8, va_up_self]
    have d9 : c9 y = .inr (1, [.int (nI (i + 1)), .ref (x + (y + 1)), .ref (x + (y + 1 + 1)), .ref (x + (y + 1 + 1 + 1)), .int 0, .int 0, .int 0]) := by rw [hc9, va_up_self]
    have s1 : sR (enc x (y + 1 + 1) c2 F) (some (x + y)) 1 1 (some (x + (y + 1))) = some (enc x (y + 1 + 1) c3 F) := by rw [hc3]; exact en_sF (v := va_rf (some (x + (y + 1)))) (by omega) d2 (show 1 < 7 by decide)
    have s2 : sR (enc x (y + 1 + 1 + 1) c4 F) (some (x + y)) 1 2 (some (x + (y + 1 + 1))) = some (enc x (y + 1 + 1 + 1) c5 F) := by rw [hc5]; exact en_sF (v := va_rf (some (x + (y + 1 + 1)))) (by omega) d4 (show 2 < 7 by decide)
    have s3 : sR (enc x (y + 1 + 1 + 1 + 1) c7 F) (some (x + y)) 1 3 (some (x + (y + 1 + 1 + 1))) = some (enc x (y + 1 + 1 + 1 + 1) c8 F) := by rw [hc8]; exact en_sF (v := va_rf (some (x + (y + 1 + 1 + 1)))) (by omega) d7 (show 3 < 7 by decide)
    have s4 : sI (enc x (y + 1 + 1 + 1 + 1) c8 F) (some (x + y)) 1 0 (nI (i + 1)) = some (enc x (y + 1 + 1 + 1 + 1) c9 F) := by rw [hc9]; exact en_sF (v := .int (nI (i + 1))) (by omega) d8 (show 0 < 7 by decide)
    have o9 : ∀ k, k < y → c9 k = c k := fun k hk => by rw [hc9, va_up_ne _ _ (by omega), hc8, va_up_ne _ _ (by omega), hc7, va_up_ne _ _ (by omega), hc5, va_up_ne _ _ (by omega), hc4, va_up_ne _ _ (by omega), hc3, va_up_ne _ _ (by omega), hc2, va_up_ne _ _ (by omega), hc1, va_up_ne _ _ (by omega)]
    have n1 : nA (enc x (y + 1) c1 F) (x + (y + 1)) 0 8 8 = some (enc x (y + 1 + 1) c2 F) := by rw [hc2]; exact en_nA (L := 8) rfl (by decide) (by decide)
    have n2 : nA (enc x (y + 1 + 1) c3 F) (x + (y + 1 + 1)) 0 32 32 = some (enc x (y + 1 + 1 + 1) c4 F) := by rw [hc4]; exact en_nA (L := 32) rfl (by decide) (by decide)
    have n3 : nA (enc x (y + 1 + 1 + 1) c5 F) (x + (y + 1 + 1 + 1)) 0 8 8 = some (enc x (y + 1 + 1 + 1 + 1) c7 F) := by rw [hc7]; exact en_nA (L := 8) rfl (by decide) (by decide)
    rw [← hc1, Nat.add_assoc x y 1, n1, Option.bind_some, s1, Option.bind_some, Nat.add_assoc x (y + 1) 1, n2, Option.bind_some, s2, Option.bind_some, Nat.add_assoc x (y + 1 + 1) 1, n3, Option.bind_some, s3, Option.bind_some, nI_1, s4, Option.bind_some, Option.bind_some, en_tQ (k := 18) (t := 4) (f := fH x i) (by omega) (by rw [o9 18 (by omega)]; exact h18) (show i < 3 by omega) (by decide) (show y < y + 1 + 1 + 1 + 1 by omega) d9, Option.bind_some, hy, fH_s]
    rw [← hy]
    obtain ⟨c', e1, e2, e3, e4, e5⟩ := ih (i + 1) (va_up c9 18 (.inl (4, 3, .inr (.inr (.inr (.inr (fH x (i + 1)))))))) (by omega) (by rw [va_up_ne _ _ (by decide), o9 6 (by omega)]; exact h6) (va_up_self _ _ _)
    rw [show 39 + 4 * (i + 1) = y + 1 + 1 + 1 + 1 by omega] at e1 e5
    refine ⟨c', ?_, fun k h1 h2 => by rw [e2 k h1 h2, va_up_ne _ _ h2, o9 k (by omega)], e3, fun j h1 h2 => ?_, fun k h1 h2 => by rw [e5 k h1 (by omega), va_up_ne _ _ (by omega), o9 k (by omega)]⟩
    · exact e1
    · by_cases hji : j = i
      · subst hji
        rw [← hy]
        refine ⟨by rw [e5 _ (by omega) (by omega), va_up_ne _ _ (by omega), d9], ?_, ?_, ?_⟩
        · rw [e5 _ (by omega) (by omega), va_up_ne _ _ (by omega), hc9, va_up_ne _ _ (by omega), hc8, va_up_ne _ _ (by omega), hc7, va_up_ne _ _ (by omega), hc5, va_up_ne _ _ (by omega), hc4, va_up_ne _ _ (by omega), hc3, va_up_ne _ _ (by omega), hc2, va_up_self]
        · rw [e5 _ (by omega) (by omega), va_up_ne _ _ (by omega), hc9, va_up_ne _ _ (by omega), hc8, va_up_ne _ _ (by omega), hc7, va_up_ne _ _ (by omega), hc5, va_up_ne _ _ (by omega), hc4, va_up_self]
        · rw [e5 _ (by omega) (by omega), va_up_ne _ _ (by omega), hc9, va_up_ne _ _ (by omega), hc8, va_up_ne _ _ (by omega), hc7, va_up_self]
      · exact e4 j (by omega) h2
end LPI
def cm_0 (m : Nat) : Nat → va_E := fun _ => .inr (7, [.int 0, .null, .null, .null, .null, .null, .null, .null, .int 0, .null, .null, .null, .null, .null, .null, .null, .int 0, .int 0, .int 0, .int 0, .int 0, .int 0, .int 0, .null, .null, .int 0, .null, .null, .null, .null, .null, .null, .null])
def cm_1 (m : Nat) : Nat → va_E := va_up (cm_0 m) 1 (.inl (0, 400, .inl (fun _ => 0)))
theorem cm_s1 {m : Nat} {F : hE} : nA (enc m 1 (cm_0 m) F) (m + 1) 0 400 400 = some (enc m 2 (cm_1 m) F) := en_nA (n := 1) (L := 400) rfl (by decide) (by decide)
def cm_2 (m : Nat) : Nat → va_E := va_up (cm_1 m) 0 (.inr (7, [.int 0, .ref (m + 1), .null, .null, .null, .null, .null, .null, .int 0, .null, .null, .null, .null, .null, .null, .null, .int 0, .int 0, .int 0, .int 0, .int 0, .int 0, .int 0, .null, .null, .int 0, .null, .null, .null, .null, .null, .null, .null]))
theorem cm_s2 {m : Nat} {F : hE} : sR (enc m 2 (cm_1 m) F) (some m) 7 1 (some (m + 1)) = some (enc m 2 (cm_2 m) F) := en_sF (x := m) (n := 2) (c := cm_1 m) (F := F) (k := 0) (ci := 7) (j := 1) (fs := [.int 0, .null, .null, .null, .null, .null, .null, .null, .int 0, .null, .null, .null, .null, .null, .null, .null, .int 0, .int 0, .int 0, .int 0, .int 0, .int 0, .int 0, .null, .null, .int 0, .null, .null, .null, .null, .null, .null, .null]) (v := va_rf (some (m + 1))) (by decide) rfl (show 1 < 33 by decide)
def cm_3 (m : Nat) : Nat → va_E := va_up (cm_2 m) 2 (.inl (0, 2000, .inl (fun _ => 0)))
theorem cm_s3 {m : Nat} {F : hE} : nA (enc m 2 (cm_2 m) F) (m + 2) 0 2000 2000 = some (enc m 3 (cm_3 m) F) := en_nA (n := 2) (L := 2000) rfl (by decide) (by decide)
def cm_4 (m : Nat) : Nat → va_E := va_up (cm_3 m) 0 (.inr (7, [.int 0, .ref (m + 1), .ref (m + 2), .null, .null, .null, .null, .null, .int 0, .null, .null, .null, .null, .null, .null, .null, .int 0, .int 0, .int 0, .int 0, .int 0, .int 0, .int 0, .null, .null, .int 0, .null, .null, .null, .null, .null, .null, .null]))
theorem cm_s4 {m : Nat} {F : hE} : sR (enc m 3 (cm_3 m) F) (some m) 7 2 (some (m + 2)) = some (enc m 3 (cm_4 m) F) := en_sF (x := m) (n := 3) (c := cm_3 m) (F := F) (k := 0) (ci := 7) (j := 2) (fs := [.int 0, .ref (m + 1), .null, .null, .null, .null, .null, .null, .int 0, .null, .null, .null, .null, .null, .null, .null, .int 0, .int 0, .int 0, .int 0, .int 0, .int 0, .int 0, .null, .null, .int 0, .null, .null, .null, .null, .null, .null, .null]) (v := va_rf (some (m + 2))) (by decide) rfl (show 2 < 33 by decide)
def cm_5 (m : Nat) : Nat → va_E := va_up (cm_4 m) 3 (.inl (0, 2000, .inl (fun _ => 0)))
theorem cm_s5 {m : Nat} {F : hE} : nA (enc m 3 (cm_4 m) F) (m + 3) 0 2000 2000 = some (enc m 4 (cm_5 m) F) := en_nA (n := 3) (L := 2000) rfl (by decide) (by decide)
def cm_6 (m : Nat) : Nat → va_E := va_up (cm_5 m) 0 (.inr (7, [.int 0, .ref (m + 1), .ref (m + 2), .ref (m + 3), .null, .null, .null, .null, .int 0, .null, .null, .null, .null, .null, .null, .null, .int 0, .int 0, .int 0, .int 0, .int 0, .int 0, .int 0, .null, .null, .int 0, .null, .null, .null, .null, .null, .null, .null]))
theorem cm_s6 {m : Nat} {F : hE} : sR (enc m 4 (cm_5 m) F) (some m) 7 3 (some (m + 3)) = some (enc m 4 (cm_6 m) F) := en_sF (x := m) (n := 4) (c := cm_5 m) (F := F) (k := 0) (ci := 7) (j := 3) (fs := [.int 0, .ref (m + 1), .ref (m + 2), .null, .null, .null, .null, .null, .int 0, .null, .null, .null, .null, .null, .null, .null, .int 0, .int 0, .int 0, .int 0, .int 0, .int 0, .int 0, .null, .null, .int 0, .null, .null, .null, .null, .null, .null, .null]) (v := va_rf (some (m + 3))) (by decide) rfl (show 3 < 33 by decide)
def cm_7 (m : Nat) : Nat → va_E := va_up (cm_6 m) 4 (.inl (0, 2000, .inl (fun _ => 0)))
theorem cm_s7 {m : Nat} {F : hE} : nA (enc m 4 (cm_6 m) F) (m + 4) 0 2000 2000 = some (enc m 5 (cm_7 m) F) := en_nA (n := 4) (L := 2000) rfl (by decide) (by decide)
def cm_8 (m : Nat) : Nat → va_E := va_up (cm_7 m) 0 (.inr (7, [.int 0, .ref (m + 1), .ref (m + 2), .ref (m + 3), .ref (m + 4), .null, .null, .null, .int 0, .null, .null, .null, .null, .null, .null, .null, .int 0, .int 0, .int 0, .int 0, .int 0, .int 0, .int 0, .null, .null, .int 0, .null, .null, .null, .null, .null, .null, .null]))
theorem cm_s8 {m : Nat} {F : hE} : sR (enc m 5 (cm_7 m) F) (some m) 7 4 (some (m + 4)) = some (enc m 5 (cm_8 m) F) := en_sF (x := m) (n := 5) (c := cm_7 m) (F := F) (k := 0) (ci := 7) (j := 4) (fs := [.int 0, .ref (m + 1), .ref (m + 2), .ref (m + 3), .null, .null, .null, .null, .int 0, .null, .null, .null, .null, .null, .null, .null, .int 0, .int 0, .int 0, .int 0, .int 0, .int 0, .int 0, .null, .null, .int 0, .null, .null, .null, .null, .null, .null, .null]) (v := va_rf (some (m + 4))) (by decide) rfl (show 4 < 33 by decide)
def cm_9 (m : Nat) : Nat → va_E := va_up (cm_8 m) 5 (.inl (0, 5, .inl (fun _ => 0)))
theorem cm_s9 {m : Nat} {F : hE} : nA (enc m 5 (cm_8 m) F) (m + 5) 0 5 5 = some (enc m 6 (cm_9 m) F) := en_nA (n := 5) (L := 5) rfl (by decide) (by decide)
def cm_10 (m : Nat) : Nat → va_E := va_up (cm_9 m) 0 (.inr (7, [.int 0, .ref (m + 1), .ref (m + 2), .ref (m + 3), .ref (m + 4), .ref (m + 5), .null, .null, .int 0, .null, .null, .null, .null, .null, .null, .null, .int 0, .int 0, .int 0, .int 0, .int 0, .int 0, .int 0, .null, .null, .int 0, .null, .null, .null, .null, .null, .null, .null]))
theorem cm_s10 {m : Nat} {F : hE} : sR (enc m 6 (cm_9 m) F) (some m) 7 5 (some (m + 5)) = some (enc m 6 (cm_10 m) F) := en_sF (x := m) (n := 6) (c := cm_9 m) (F := F) (k := 0) (ci := 7) (j := 5) (fs := [.int 0, .ref (m + 1), .ref (m + 2), .ref (m + 3), .ref (m + 4), .null, .null, .null, .int 0, .null, .null, .null, .null, .null, .null, .null, .int 0, .int 0, .int 0, .int 0, .int 0, .int 0, .int 0, .null, .null, .int 0, .null, .null, .null, .null, .null, .null, .null]) (v := va_rf (some (m + 5))) (by decide) rfl (show 5 < 33 by decide)
def cm_11 (m : Nat) : Nat → va_E := va_up (cm_10 m) 6 (.inl (1, 5, .inl (fun _ => 0)))
theorem cm_s11 {m : Nat} {F : hE} : nA (enc m 6 (cm_10 m) F) (m + 6) 1 5 5 = some (enc m 7 (cm_11 m) F) := en_nA (n := 6) (L := 5) rfl (by decide) (by decide)
def cm_12 (m : Nat) : Nat → va_E := va_up (cm_11 m) 0 (.inr (7, [.int 0, .ref (m + 1), .ref (m + 2), .ref (m + 3), .ref (m + 4), .ref (m + 5), .ref (m + 6), .null, .int 0, .null, .null, .null, .null, .null, .null, .null, .int 0, .int 0, .int 0, .int 0, .int 0, .int 0, .int 0, .null, .null, .int 0, .null, .null, .null, .null, .null, .null, .null]))
theorem cm_s12 {m : Nat} {F : hE} : sR (enc m 7 (cm_11 m) F) (some m) 7 6 (some (m + 6)) = some (enc m 7 (cm_12 m) F) := en_sF (x := m) (n := 7) (c := cm_11 m) (F := F) (k := 0) (ci := 7) (j := 6) (fs := [.int 0, .ref (m + 1), .ref (m + 2), .ref (m + 3), .ref (m + 4), .ref (m + 5), .null, .null, .int 0, .null, .null, .null, .null, .null, .null, .null, .int 0, .int 0, .int 0, .int 0, .int 0, .int 0, .int 0, .null, .null, .int 0, .null, .null, .null, .null, .null, .null, .null]) (v := va_rf (some (m + 6))) (by decide) rfl (show 6 < 33 by decide)
def cm_13 (m : Nat) : Nat → va_E := va_up (cm_12 m) 7 (.inl (0, 130, .inl (fun _ => 0)))
theorem cm_s13 {m : Nat} {F : hE} : nA (enc m 7 (cm_12 m) F) (m + 7) 0 130 130 = some (enc m 8 (cm_13 m) F) := en_nA (n := 7) (L := 130) rfl (by decide) (by decide)
def cm_14 (m : Nat) : Nat → va_E := va_up (cm_13 m) 0 (.inr (7, [.int 0, .ref (m + 1), .ref (m + 2), .ref (m + 3), .ref (m + 4), .ref (m + 5), .ref (m + 6), .ref (m + 7), .int 0, .null, .null, .null, .null, .null, .null, .null, .int 0, .int 0, .int 0, .int 0, .int 0, .int 0, .int 0, .null, .null, .int 0, .null, .null, .null, .null, .null, .null, .null]))
theorem cm_s14 {m : Nat} {F : hE} : sR (enc m 8 (cm_13 m) F) (some m) 7 7 (some (m + 7)) = some (enc m 8 (cm_14 m) F) := en_sF (x := m) (n := 8) (c := cm_13 m) (F := F) (k := 0) (ci := 7) (j := 7) (fs := [.int 0, .ref (m + 1), .ref (m + 2), .ref (m + 3), .ref (m + 4), .ref (m + 5), .ref (m + 6), .null, .int 0, .null, .null, .null, .null, .null, .null, .null, .int 0, .int 0, .int 0, .int 0, .int 0, .int 0, .int 0, .null, .null, .int 0, .null, .null, .null, .null, .null, .null, .null]) (v := va_rf (some (m + 7))) (by decide) rfl (show 7 < 33 by decide)
def cm_15 (m : Nat) : Nat → va_E := va_up (cm_14 m) 8 (.inl (2, 7, .inr (.inl (fun _ => 0))))
theorem cm_s15 {m : Nat} {F : hE} : nJ (enc m 8 (cm_14 m) F) (m + 8) 2 7 7 = some (enc m 9 (cm_15 m) F) := en_nJ (n := 8) (L := 7) rfl (by decide) (by decide)
def cm_16 (m : Nat) : Nat → va_E := va_up (cm_15 m) 0 (.inr (7, [.int 0, .ref (m + 1), .ref (m + 2), .ref (m + 3), .ref (m + 4), .ref (m + 5), .ref (m + 6), .ref (m + 7), .int 0, .ref (m + 8), .null, .null, .null, .null, .null, .null, .int 0, .int 0, .int 0, .int 0, .int 0, .int 0, .int 0, .null, .null, .int 0, .null, .null, .null, .null, .null, .null, .null]))
theorem cm_s16 {m : Nat} {F : hE} : sR (enc m 9 (cm_15 m) F) (some m) 7 9 (some (m + 8)) = some (enc m 9 (cm_16 m) F) := en_sF (x := m) (n := 9) (c := cm_15 m) (F := F) (k := 0) (ci := 7) (j := 9) (fs := [.int 0, .ref (m + 1), .ref (m + 2), .ref (m + 3), .ref (m + 4), .ref (m + 5), .ref (m + 6), .ref (m + 7), .int 0, .null, .null, .null, .null, .null, .null, .null, .int 0, .int 0, .int 0, .int 0, .int 0, .int 0, .int 0, .null, .null, .int 0, .null, .null, .null, .null, .null, .null, .null]) (v := va_rf (some (m + 8))) (by decide) rfl (show 9 < 33 by decide)
def cm_17 (m : Nat) : Nat → va_E := va_up (cm_16 m) 9 (.inl (0, 7, .inl (fun _ => 0)))
theorem cm_s17 {m : Nat} {F : hE} : nA (enc m 9 (cm_16 m) F) (m + 9) 0 7 7 = some (enc m 10 (cm_17 m) F) := en_nA (n := 9) (L := 7) rfl (by decide) (by decide)
def cm_18 (m : Nat) : Nat → va_E := va_up (cm_17 m) 0 (.inr (7, [.int 0, .ref (m + 1), .ref (m + 2), .ref (m + 3), .ref (m + 4), .ref (m + 5), .ref (m + 6), .ref (m + 7), .int 0, .ref (m + 8), .ref (m + 9), .null, .null, .null, .null, .null, .int 0, .int 0, .int 0, .int 0, .int 0, .int 0, .int 0, .null, .null, .int 0, .null, .null, .null, .null, .null, .null, .null]))
theorem cm_s18 {m : Nat} {F : hE} : sR (enc m 10 (cm_17 m) F) (some m) 7 10 (some (m + 9)) = some (enc m 10 (cm_18 m) F) := en_sF (x := m) (n := 10) (c := cm_17 m) (F := F) (k := 0) (ci := 7) (j := 10) (fs := [.int 0, .ref (m + 1), .ref (m + 2), .ref (m + 3), .ref (m + 4), .ref (m + 5), .ref (m + 6), .ref (m + 7), .int 0, .ref (m + 8), .null, .null, .null, .null, .null, .null, .int 0, .int 0, .int 0, .int 0, .int 0, .int 0, .int 0, .null, .null, .int 0, .null, .null, .null, .null, .null, .null, .null]) (v := va_rf (some (m + 9))) (by decide) rfl (show 10 < 33 by decide)
def cm_19 (m : Nat) : Nat → va_E := va_up (cm_18 m) 10 (.inl (0, 7, .inl (fun _ => 0)))
theorem cm_s19 {m : Nat} {F : hE} : nA (enc m 10 (cm_18 m) F) (m + 10) 0 7 7 = some (enc m 11 (cm_19 m) F) := en_nA (n := 10) (L := 7) rfl (by decide) (by decide)
def cm_20 (m : Nat) : Nat → va_E := va_up (cm_19 m) 0 (.inr (7, [.int 0, .ref (m + 1), .ref (m + 2), .ref (m + 3), .ref (m + 4), .ref (m + 5), .ref (m + 6), .ref (m + 7), .int 0, .ref (m + 8), .ref (m + 9), .ref (m + 10), .null, .null, .null, .null, .int 0, .int 0, .int 0, .int 0, .int 0, .int 0, .int 0, .null, .null, .int 0, .null, .null, .null, .null, .null, .null, .null]))
theorem cm_s20 {m : Nat} {F : hE} : sR (enc m 11 (cm_19 m) F) (some m) 7 11 (some (m + 10)) = some (enc m 11 (cm_20 m) F) := en_sF (x := m) (n := 11) (c := cm_19 m) (F := F) (k := 0) (ci := 7) (j := 11) (fs := [.int 0, .ref (m + 1), .ref (m + 2), .ref (m + 3), .ref (m + 4), .ref (m + 5), .ref (m + 6), .ref (m + 7), .int 0, .ref (m + 8), .ref (m + 9), .null, .null, .null, .null, .null, .int 0, .int 0, .int 0, .int 0, .int 0, .int 0, .int 0, .null, .null, .int 0, .null, .null, .null, .null, .null, .null, .null]) (v := va_rf (some (m + 10))) (by decide) rfl (show 11 < 33 by decide)
def cm_21 (m : Nat) : Nat → va_E := va_up (cm_20 m) 11 (.inl (1, 10, .inl (fun _ => 0)))
theorem cm_s21 {m : Nat} {F : hE} : nA (enc m 11 (cm_20 m) F) (m + 11) 1 10 10 = some (enc m 12 (cm_21 m) F) := en_nA (n := 11) (L := 10) rfl (by decide) (by decide)
def cm_22 (m : Nat) : Nat → va_E := va_up (cm_21 m) 0 (.inr (7, [.int 0, .ref (m + 1), .ref (m + 2), .ref (m + 3), .ref (m + 4), .ref (m + 5), .ref (m + 6), .ref (m + 7), .int 0, .ref (m + 8), .ref (m + 9), .ref (m + 10), .ref (m + 11), .null, .null, .null, .int 0, .int 0, .int 0, .int 0, .int 0, .int 0, .int 0, .null, .null, .int 0, .null, .null, .null, .null, .null, .null, .null]))
theorem cm_s22 {m : Nat} {F : hE} : sR (enc m 12 (cm_21 m) F) (some m) 7 12 (some (m + 11)) = some (enc m 12 (cm_22 m) F) := en_sF (x := m) (n := 12) (c := cm_21 m) (F := F) (k := 0) (ci := 7) (j := 12) (fs := [.int 0, .ref (m + 1), .ref (m + 2), .ref (m + 3), .ref (m + 4), .ref (m + 5), .ref (m + 6), .ref (m + 7), .int 0, .ref (m + 8), .ref (m + 9), .ref (m + 10), .null, .null, .null, .null, .int 0, .int 0, .int 0, .int 0, .int 0, .int 0, .int 0, .null, .null, .int 0, .null, .null, .null, .null, .null, .null, .null]) (v := va_rf (some (m + 11))) (by decide) rfl (show 12 < 33 by decide)
def cm_23 (m : Nat) : Nat → va_E := va_up (cm_22 m) 12 (.inl (0, 10, .inl (fun _ => 0)))
theorem cm_s23 {m : Nat} {F : hE} : nA (enc m 12 (cm_22 m) F) (m + 12) 0 10 10 = some (enc m 13 (cm_23 m) F) := en_nA (n := 12) (L := 10) rfl (by decide) (by decide)
def cm_24 (m : Nat) : Nat → va_E := va_up (cm_23 m) 0 (.inr (7, [.int 0, .ref (m + 1), .ref (m + 2), .ref (m + 3), .ref (m + 4), .ref (m + 5), .ref (m + 6), .ref (m + 7), .int 0, .ref (m + 8), .ref (m + 9), .ref (m + 10), .ref (m + 11), .ref (m + 12), .null, .null, .int 0, .int 0, .int 0, .int 0, .int 0, .int 0, .int 0, .null, .null, .int 0, .null, .null, .null, .null, .null, .null, .null]))
theorem cm_s24 {m : Nat} {F : hE} : sR (enc m 13 (cm_23 m) F) (some m) 7 13 (some (m + 12)) = some (enc m 13 (cm_24 m) F) := en_sF (x := m) (n := 13) (c := cm_23 m) (F := F) (k := 0) (ci := 7) (j := 13) (fs := [.int 0, .ref (m + 1), .ref (m + 2), .ref (m + 3), .ref (m + 4), .ref (m + 5), .ref (m + 6), .ref (m + 7), .int 0, .ref (m + 8), .ref (m + 9), .ref (m + 10), .ref (m + 11), .null, .null, .null, .int 0, .int 0, .int 0, .int 0, .int 0, .int 0, .int 0, .null, .null, .int 0, .null, .null, .null, .null, .null, .null, .null]) (v := va_rf (some (m + 12))) (by decide) rfl (show 13 < 33 by decide)
def cm_25 (m : Nat) : Nat → va_E := va_up (cm_24 m) 13 (.inl (0, 400, .inl (fun _ => 0)))
theorem cm_s25 {m : Nat} {F : hE} : nA (enc m 13 (cm_24 m) F) (m + 13) 0 400 400 = some (enc m 14 (cm_25 m) F) := en_nA (n := 13) (L := 400) rfl (by decide) (by decide)
def cm_26 (m : Nat) : Nat → va_E := va_up (cm_25 m) 0 (.inr (7, [.int 0, .ref (m + 1), .ref (m + 2), .ref (m + 3), .ref (m + 4), .ref (m + 5), .ref (m + 6), .ref (m + 7), .int 0, .ref (m + 8), .ref (m + 9), .ref (m + 10), .ref (m + 11), .ref (m + 12), .ref (m + 13), .null, .int 0, .int 0, .int 0, .int 0, .int 0, .int 0, .int 0, .null, .null, .int 0, .null, .null, .null, .null, .null, .null, .null]))
theorem cm_s26 {m : Nat} {F : hE} : sR (enc m 14 (cm_25 m) F) (some m) 7 14 (some (m + 13)) = some (enc m 14 (cm_26 m) F) := en_sF (x := m) (n := 14) (c := cm_25 m) (F := F) (k := 0) (ci := 7) (j := 14) (fs := [.int 0, .ref (m + 1), .ref (m + 2), .ref (m + 3), .ref (m + 4), .ref (m + 5), .ref (m + 6), .ref (m + 7), .int 0, .ref (m + 8), .ref (m + 9), .ref (m + 10), .ref (m + 11), .ref (m + 12), .null, .null, .int 0, .int 0, .int 0, .int 0, .int 0, .int 0, .int 0, .null, .null, .int 0, .null, .null, .null, .null, .null, .null, .null]) (v := va_rf (some (m + 13))) (by decide) rfl (show 14 < 33 by decide)
def cm_27 (m : Nat) : Nat → va_E := va_up (cm_26 m) 14 (.inl (1, 3, .inl (fun _ => 0)))
theorem cm_s27 {m : Nat} {F : hE} : nA (enc m 14 (cm_26 m) F) (m + 14) 1 3 3 = some (enc m 15 (cm_27 m) F) := en_nA (n := 14) (L := 3) rfl (by decide) (by decide)
def cm_28 (m : Nat) : Nat → va_E := va_up (cm_27 m) 0 (.inr (7, [.int 0, .ref (m + 1), .ref (m + 2), .ref (m + 3), .ref (m + 4), .ref (m + 5), .ref (m + 6), .ref (m + 7), .int 0, .ref (m + 8), .ref (m + 9), .ref (m + 10), .ref (m + 11), .ref (m + 12), .ref (m + 13), .ref (m + 14), .int 0, .int 0, .int 0, .int 0, .int 0, .int 0, .int 0, .null, .null, .int 0, .null, .null, .null, .null, .null, .null, .null]))
theorem cm_s28 {m : Nat} {F : hE} : sR (enc m 15 (cm_27 m) F) (some m) 7 15 (some (m + 14)) = some (enc m 15 (cm_28 m) F) := en_sF (x := m) (n := 15) (c := cm_27 m) (F := F) (k := 0) (ci := 7) (j := 15) (fs := [.int 0, .ref (m + 1), .ref (m + 2), .ref (m + 3), .ref (m + 4), .ref (m + 5), .ref (m + 6), .ref (m + 7), .int 0, .ref (m + 8), .ref (m + 9), .ref (m + 10), .ref (m + 11), .ref (m + 12), .ref (m + 13), .null, .int 0, .int 0, .int 0, .int 0, .int 0, .int 0, .int 0, .null, .null, .int 0, .null, .null, .null, .null, .null, .null, .null]) (v := va_rf (some (m + 14))) (by decide) rfl (show 15 < 33 by decide)
def cm_29 (m : Nat) : Nat → va_E := va_up (cm_28 m) 15 (.inl (0, 60, .inl (fun _ => 0)))
theorem cm_s29 {m : Nat} {F : hE} : nA (enc m 15 (cm_28 m) F) (m + 15) 0 60 60 = some (enc m 16 (cm_29 m) F) := en_nA (n := 15) (L := 60) rfl (by decide) (by decide)
def cm_30 (m : Nat) : Nat → va_E := va_up (cm_29 m) 0 (.inr (7, [.int 0, .ref (m + 1), .ref (m + 2), .ref (m + 3), .ref (m + 4), .ref (m + 5), .ref (m + 6), .ref (m + 7), .int 0, .ref (m + 8), .ref (m + 9), .ref (m + 10), .ref (m + 11), .ref (m + 12), .ref (m + 13), .ref (m + 14), .int 0, .int 0, .int 0, .int 0, .int 0, .int 0, .int 0, .ref (m + 15), .null, .int 0, .null, .null, .null, .null, .null, .null, .null]))
theorem cm_s30 {m : Nat} {F : hE} : sR (enc m 16 (cm_29 m) F) (some m) 7 23 (some (m + 15)) = some (enc m 16 (cm_30 m) F) := en_sF (x := m) (n := 16) (c := cm_29 m) (F := F) (k := 0) (ci := 7) (j := 23) (fs := [.int 0, .ref (m + 1), .ref (m + 2), .ref (m + 3), .ref (m + 4), .ref (m + 5), .ref (m + 6), .ref (m + 7), .int 0, .ref (m + 8), .ref (m + 9), .ref (m + 10), .ref (m + 11), .ref (m + 12), .ref (m + 13), .ref (m + 14), .int 0, .int 0, .int 0, .int 0, .int 0, .int 0, .int 0, .null, .null, .int 0, .null, .null, .null, .null, .null, .null, .null]) (v := va_rf (some (m + 15))) (by decide) rfl (show 23 < 33 by decide)
def cm_31 (m : Nat) : Nat → va_E := va_up (cm_30 m) 16 (.inl (0, 60, .inl (fun _ => 0)))
theorem cm_s31 {m : Nat} {F : hE} : nA (enc m 16 (cm_30 m) F) (m + 16) 0 60 60 = some (enc m 17 (cm_31 m) F) := en_nA (n := 16) (L := 60) rfl (by decide) (by decide)
def cm_32 (m : Nat) : Nat → va_E := va_up (cm_31 m) 0 (.inr (7, [.int 0, .ref (m + 1), .ref (m + 2), .ref (m + 3), .ref (m + 4), .ref (m + 5), .ref (m + 6), .ref (m + 7), .int 0, .ref (m + 8), .ref (m + 9), .ref (m + 10), .ref (m + 11), .ref (m + 12), .ref (m + 13), .ref (m + 14), .int 0, .int 0, .int 0, .int 0, .int 0, .int 0, .int 0, .ref (m + 15), .ref (m + 16), .int 0, .null, .null, .null, .null, .null, .null, .null]))
theorem cm_s32 {m : Nat} {F : hE} : sR (enc m 17 (cm_31 m) F) (some m) 7 24 (some (m + 16)) = some (enc m 17 (cm_32 m) F) := en_sF (x := m) (n := 17) (c := cm_31 m) (F := F) (k := 0) (ci := 7) (j := 24) (fs := [.int 0, .ref (m + 1), .ref (m + 2), .ref (m + 3), .ref (m + 4), .ref (m + 5), .ref (m + 6), .ref (m + 7), .int 0, .ref (m + 8), .ref (m + 9), .ref (m + 10), .ref (m + 11), .ref (m + 12), .ref (m + 13), .ref (m + 14), .int 0, .int 0, .int 0, .int 0, .int 0, .int 0, .int 0, .ref (m + 15), .null, .int 0, .null, .null, .null, .null, .null, .null, .null]) (v := va_rf (some (m + 16))) (by decide) rfl (show 24 < 33 by decide)
def cm_33 (m : Nat) : Nat → va_E := va_up (cm_32 m) 17 (.inl (0, 4, .inl (fun _ => 0)))
theorem cm_s33 {m : Nat} {F : hE} : nA (enc m 17 (cm_32 m) F) (m + 17) 0 4 4 = some (enc m 18 (cm_33 m) F) := en_nA (n := 17) (L := 4) rfl (by decide) (by decide)
def cm_34 (m : Nat) : Nat → va_E := va_up (cm_33 m) 0 (.inr (7, [.int 0, .ref (m + 1), .ref (m + 2), .ref (m + 3), .ref (m + 4), .ref (m + 5), .ref (m + 6), .ref (m + 7), .int 0, .ref (m + 8), .ref (m + 9), .ref (m + 10), .ref (m + 11), .ref (m + 12), .ref (m + 13), .ref (m + 14), .int 0, .int 0, .int 0, .int 0, .int 0, .int 0, .int 0, .ref (m + 15), .ref (m + 16), .int 0, .ref (m + 17), .null, .null, .null, .null, .null, .null]))
theorem cm_s34 {m : Nat} {F : hE} : sR (enc m 18 (cm_33 m) F) (some m) 7 26 (some (m + 17)) = some (enc m 18 (cm_34 m) F) := en_sF (x := m) (n := 18) (c := cm_33 m) (F := F) (k := 0) (ci := 7) (j := 26) (fs := [.int 0, .ref (m + 1), .ref (m + 2), .ref (m + 3), .ref (m + 4), .ref (m + 5), .ref (m + 6), .ref (m + 7), .int 0, .ref (m + 8), .ref (m + 9), .ref (m + 10), .ref (m + 11), .ref (m + 12), .ref (m + 13), .ref (m + 14), .int 0, .int 0, .int 0, .int 0, .int 0, .int 0, .int 0, .ref (m + 15), .ref (m + 16), .int 0, .null, .null, .null, .null, .null, .null, .null]) (v := va_rf (some (m + 17))) (by decide) rfl (show 26 < 33 by decide)
def cm_35 (m : Nat) : Nat → va_E := va_up (cm_34 m) 18 (.inl (0, 4, .inl (fun _ => 0)))
theorem cm_s35 {m : Nat} {F : hE} : nA (enc m 18 (cm_34 m) F) (m + 18) 0 4 4 = some (enc m 19 (cm_35 m) F) := en_nA (n := 18) (L := 4) rfl (by decide) (by decide)
def cm_36 (m : Nat) : Nat → va_E := va_up (cm_35 m) 0 (.inr (7, [.int 0, .ref (m + 1), .ref (m + 2), .ref (m + 3), .ref (m + 4), .ref (m + 5), .ref (m + 6), .ref (m + 7), .int 0, .ref (m + 8), .ref (m + 9), .ref (m + 10), .ref (m + 11), .ref (m + 12), .ref (m + 13), .ref (m + 14), .int 0, .int 0, .int 0, .int 0, .int 0, .int 0, .int 0, .ref (m + 15), .ref (m + 16), .int 0, .ref (m + 17), .ref (m + 18), .null, .null, .null, .null, .null]))
theorem cm_s36 {m : Nat} {F : hE} : sR (enc m 19 (cm_35 m) F) (some m) 7 27 (some (m + 18)) = some (enc m 19 (cm_36 m) F) := en_sF (x := m) (n := 19) (c := cm_35 m) (F := F) (k := 0) (ci := 7) (j := 27) (fs := [.int 0, .ref (m + 1), .ref (m + 2), .ref (m + 3), .ref (m + 4), .ref (m + 5), .ref (m + 6), .ref (m + 7), .int 0, .ref (m + 8), .ref (m + 9), .ref (m + 10), .ref (m + 11), .ref (m + 12), .ref (m + 13), .ref (m + 14), .int 0, .int 0, .int 0, .int 0, .int 0, .int 0, .int 0, .ref (m + 15), .ref (m + 16), .int 0, .ref (m + 17), .null, .null, .null, .null, .null, .null]) (v := va_rf (some (m + 18))) (by decide) rfl (show 27 < 33 by decide)
def cm_37 (m : Nat) : Nat → va_E := va_up (cm_36 m) 19 (.inl (0, 4, .inl (fun _ => 0)))
theorem cm_s37 {m : Nat} {F : hE} : nA (enc m 19 (cm_36 m) F) (m + 19) 0 4 4 = some (enc m 20 (cm_37 m) F) := en_nA (n := 19) (L := 4) rfl (by decide) (by decide)
def cm_38 (m : Nat) : Nat → va_E := va_up (cm_37 m) 0 (.inr (7, [.int 0, .ref (m + 1), .ref (m + 2), .ref (m + 3), .ref (m + 4), .ref (m + 5), .ref (m + 6), .ref (m + 7), .int 0, .ref (m + 8), .ref (m + 9), .ref (m + 10), .ref (m + 11), .ref (m + 12), .ref (m + 13), .ref (m + 14), .int 0, .int 0, .int 0, .int 0, .int 0, .int 0, .int 0, .ref (m + 15), .ref (m + 16), .int 0, .ref (m + 17), .ref (m + 18), .ref (m + 19), .null, .null, .null, .null]))
theorem cm_s38 {m : Nat} {F : hE} : sR (enc m 20 (cm_37 m) F) (some m) 7 28 (some (m + 19)) = some (enc m 20 (cm_38 m) F) := en_sF (x := m) (n := 20) (c := cm_37 m) (F := F) (k := 0) (ci := 7) (j := 28) (fs := [.int 0, .ref (m + 1), .ref (m + 2), .ref (m + 3), .ref (m + 4), .ref (m + 5), .ref (m + 6), .ref (m + 7), .int 0, .ref (m + 8), .ref (m + 9), .ref (m + 10), .ref (m + 11), .ref (m + 12), .ref (m + 13), .ref (m + 14), .int 0, .int 0, .int 0, .int 0, .int 0, .int 0, .int 0, .ref (m + 15), .ref (m + 16), .int 0, .ref (m + 17), .ref (m + 18), .null, .null, .null, .null, .null]) (v := va_rf (some (m + 19))) (by decide) rfl (show 28 < 33 by decide)
def cm_39 (m : Nat) : Nat → va_E := va_up (cm_38 m) 20 (.inl (0, 32, .inl (fun _ => 0)))
theorem cm_s39 {m : Nat} {F : hE} : nA (enc m 20 (cm_38 m) F) (m + 20) 0 32 32 = some (enc m 21 (cm_39 m) F) := en_nA (n := 20) (L := 32) rfl (by decide) (by decide)
def cm_40 (m : Nat) : Nat → va_E := va_up (cm_39 m) 0 (.inr (7, [.int 0, .ref (m + 1), .ref (m + 2), .ref (m + 3), .ref (m + 4), .ref (m + 5), .ref (m + 6), .ref (m + 7), .int 0, .ref (m + 8), .ref (m + 9), .ref (m + 10), .ref (m + 11), .ref (m + 12), .ref (m + 13), .ref (m + 14), .int 0, .int 0, .int 0, .int 0, .int 0, .int 0, .int 0, .ref (m + 15), .ref (m + 16), .int 0, .ref (m + 17), .ref (m + 18), .ref (m + 19), .ref (m + 20), .null, .null, .null]))
theorem cm_s40 {m : Nat} {F : hE} : sR (enc m 21 (cm_39 m) F) (some m) 7 29 (some (m + 20)) = some (enc m 21 (cm_40 m) F) := en_sF (x := m) (n := 21) (c := cm_39 m) (F := F) (k := 0) (ci := 7) (j := 29) (fs := [.int 0, .ref (m + 1), .ref (m + 2), .ref (m + 3), .ref (m + 4), .ref (m + 5), .ref (m + 6), .ref (m + 7), .int 0, .ref (m + 8), .ref (m + 9), .ref (m + 10), .ref (m + 11), .ref (m + 12), .ref (m + 13), .ref (m + 14), .int 0, .int 0, .int 0, .int 0, .int 0, .int 0, .int 0, .ref (m + 15), .ref (m + 16), .int 0, .ref (m + 17), .ref (m + 18), .ref (m + 19), .null, .null, .null, .null]) (v := va_rf (some (m + 20))) (by decide) rfl (show 29 < 33 by decide)
def cm_41 (m : Nat) : Nat → va_E := va_up (cm_40 m) 21 (.inl (0, 128, .inl (fun _ => 0)))
theorem cm_s41 {m : Nat} {F : hE} : nA (enc m 21 (cm_40 m) F) (m + 21) 0 128 128 = some (enc m 22 (cm_41 m) F) := en_nA (n := 21) (L := 128) rfl (by decide) (by decide)
def cm_42 (m : Nat) : Nat → va_E := va_up (cm_41 m) 0 (.inr (7, [.int 0, .ref (m + 1), .ref (m + 2), .ref (m + 3), .ref (m + 4), .ref (m + 5), .ref (m + 6), .ref (m + 7), .int 0, .ref (m + 8), .ref (m + 9), .ref (m + 10), .ref (m + 11), .ref (m + 12), .ref (m + 13), .ref (m + 14), .int 0, .int 0, .int 0, .int 0, .int 0, .int 0, .int 0, .ref (m + 15), .ref (m + 16), .int 0, .ref (m + 17), .ref (m + 18), .ref (m + 19), .ref (m + 20), .ref (m + 21), .null, .null]))
theorem cm_s42 {m : Nat} {F : hE} : sR (enc m 22 (cm_41 m) F) (some m) 7 30 (some (m + 21)) = some (enc m 22 (cm_42 m) F) := en_sF (x := m) (n := 22) (c := cm_41 m) (F := F) (k := 0) (ci := 7) (j := 30) (fs := [.int 0, .ref (m + 1), .ref (m + 2), .ref (m + 3), .ref (m + 4), .ref (m + 5), .ref (m + 6), .ref (m + 7), .int 0, .ref (m + 8), .ref (m + 9), .ref (m + 10), .ref (m + 11), .ref (m + 12), .ref (m + 13), .ref (m + 14), .int 0, .int 0, .int 0, .int 0, .int 0, .int 0, .int 0, .ref (m + 15), .ref (m + 16), .int 0, .ref (m + 17), .ref (m + 18), .ref (m + 19), .ref (m + 20), .null, .null, .null]) (v := va_rf (some (m + 21))) (by decide) rfl (show 30 < 33 by decide)
def cm_43 (m : Nat) : Nat → va_E := va_up (cm_42 m) 22 (.inl (0, 4, .inl (fun _ => 0)))
theorem cm_s43 {m : Nat} {F : hE} : nA (enc m 22 (cm_42 m) F) (m + 22) 0 4 4 = some (enc m 23 (cm_43 m) F) := en_nA (n := 22) (L := 4) rfl (by decide) (by decide)
def cm_44 (m : Nat) : Nat → va_E := va_up (cm_43 m) 0 (.inr (7, [.int 0, .ref (m + 1), .ref (m + 2), .ref (m + 3), .ref (m + 4), .ref (m + 5), .ref (m + 6), .ref (m + 7), .int 0, .ref (m + 8), .ref (m + 9), .ref (m + 10), .ref (m + 11), .ref (m + 12), .ref (m + 13), .ref (m + 14), .int 0, .int 0, .int 0, .int 0, .int 0, .int 0, .int 0, .ref (m + 15), .ref (m + 16), .int 0, .ref (m + 17), .ref (m + 18), .ref (m + 19), .ref (m + 20), .ref (m + 21), .ref (m + 22), .null]))
theorem cm_s44 {m : Nat} {F : hE} : sR (enc m 23 (cm_43 m) F) (some m) 7 31 (some (m + 22)) = some (enc m 23 (cm_44 m) F) := en_sF (x := m) (n := 23) (c := cm_43 m) (F := F) (k := 0) (ci := 7) (j := 31) (fs := [.int 0, .ref (m + 1), .ref (m + 2), .ref (m + 3), .ref (m + 4), .ref (m + 5), .ref (m + 6), .ref (m + 7), .int 0, .ref (m + 8), .ref (m + 9), .ref (m + 10), .ref (m + 11), .ref (m + 12), .ref (m + 13), .ref (m + 14), .int 0, .int 0, .int 0, .int 0, .int 0, .int 0, .int 0, .ref (m + 15), .ref (m + 16), .int 0, .ref (m + 17), .ref (m + 18), .ref (m + 19), .ref (m + 20), .ref (m + 21), .null, .null]) (v := va_rf (some (m + 22))) (by decide) rfl (show 31 < 33 by decide)
def cm_45 (m : Nat) : Nat → va_E := va_up (cm_44 m) 23 (.inl (0, 32, .inl (fun _ => 0)))
theorem cm_s45 {m : Nat} {F : hE} : nA (enc m 23 (cm_44 m) F) (m + 23) 0 32 32 = some (enc m 24 (cm_45 m) F) := en_nA (n := 23) (L := 32) rfl (by decide) (by decide)
def cm_46 (m : Nat) : Nat → va_E := va_up (cm_45 m) 0 (.inr (7, [.int 0, .ref (m + 1), .ref (m + 2), .ref (m + 3), .ref (m + 4), .ref (m + 5), .ref (m + 6), .ref (m + 7), .int 0, .ref (m + 8), .ref (m + 9), .ref (m + 10), .ref (m + 11), .ref (m + 12), .ref (m + 13), .ref (m + 14), .int 0, .int 0, .int 0, .int 0, .int 0, .int 0, .int 0, .ref (m + 15), .ref (m + 16), .int 0, .ref (m + 17), .ref (m + 18), .ref (m + 19), .ref (m + 20), .ref (m + 21), .ref (m + 22), .ref (m + 23)]))
theorem cm_s46 {m : Nat} {F : hE} : sR (enc m 24 (cm_45 m) F) (some m) 7 32 (some (m + 23)) = some (enc m 24 (cm_46 m) F) := en_sF (x := m) (n := 24) (c := cm_45 m) (F := F) (k := 0) (ci := 7) (j := 32) (fs := [.int 0, .ref (m + 1), .ref (m + 2), .ref (m + 3), .ref (m + 4), .ref (m + 5), .ref (m + 6), .ref (m + 7), .int 0, .ref (m + 8), .ref (m + 9), .ref (m + 10), .ref (m + 11), .ref (m + 12), .ref (m + 13), .ref (m + 14), .int 0, .int 0, .int 0, .int 0, .int 0, .int 0, .int 0, .ref (m + 15), .ref (m + 16), .int 0, .ref (m + 17), .ref (m + 18), .ref (m + 19), .ref (m + 20), .ref (m + 21), .ref (m + 22), .null]) (v := va_rf (some (m + 23))) (by decide) rfl (show 32 < 33 by decide)
theorem bind_s {α β : Type} {x : Option α} {a : α} {f : α → Option β} {r : Option β} (h : x = some a) (h2 : f a = r) : x.bind f = r := by
  rw [h]
  exact h2
set_option maxRecDepth 10000 in
theorem cmM_eq {m : Nat} : ∀ k, k < 24 → cm_46 m k = cM m (fun _ => 0) (fun _ _ => 0) (fun _ => 0) k := by
  intro k hk
  rcases (show k = 0 ∨ k = 1 ∨ k = 2 ∨ k = 3 ∨ k = 4 ∨ k = 5 ∨ k = 6 ∨ k = 7 ∨ k = 8 ∨ k = 9 ∨ k = 10 ∨ k = 11 ∨ k = 12 ∨ k = 13 ∨ k = 14 ∨ k = 15 ∨ k = 16 ∨ k = 17 ∨ k = 18 ∨ k = 19 ∨ k = 20 ∨ k = 21 ∨ k = 22 ∨ k = 23 by omega) with rfl | rfl | rfl | rfl | rfl | rfl | rfl | rfl | rfl | rfl | rfl | rfl | rfl | rfl | rfl | rfl | rfl | rfl | rfl | rfl | rfl | rfl | rfl | rfl
  · rfl
  · rfl
  · rfl
  · rfl
  · rfl
  · rfl
  · rfl
  · rfl
  · rfl
  · rfl
  · rfl
  · rfl
  · rfl
  · rfl
  · rfl
  · rfl
  · rfl
  · rfl
  · rfl
  · rfl
  · rfl
  · rfl
  · rfl
  · rfl
set_option maxRecDepth 10000 in
theorem M_ini {m : Nat} {F : hE} : f_M_init m (va_up F m (some (.inr (7, [.int 0, .null, .null, .null, .null, .null, .null, .null, .int 0, .null, .null, .null, .null, .null, .null, .null, .int 0, .int 0, .int 0, .int 0, .int 0, .int 0, .int 0, .null, .null, .int 0, .null, .null, .null, .null, .null, .null, .null])))) (m + 1) = some (eM m (fun _ => 0) (fun _ _ => 0) (fun _ => 0) F, m + 24) := by
  have e0 : va_up F m (some (.inr (7, [.int 0, .null, .null, .null, .null, .null, .null, .null, .int 0, .null, .null, .null, .null, .null, .null, .null, .int 0, .int 0, .int 0, .int 0, .int 0, .int 0, .int 0, .null, .null, .int 0, .null, .null, .null, .null, .null, .null, .null]))) = enc m 1 (cm_0 m) F := by
    have := en_new (x := m) (n := 0) (c := cm_0 m) (F := F) (e := .inr (7, [.int 0, .null, .null, .null, .null, .null, .null, .null, .int 0, .null, .null, .null, .null, .null, .null, .null, .int 0, .int 0, .int 0, .int 0, .int 0, .int 0, .int 0, .null, .null, .int 0, .null, .null, .null, .null, .null, .null, .null]))
    rw [en_0] at this
    exact this.trans (en_cg (fun k hk => by rcases (show k = 0 by omega) with rfl; rfl))
  rw [e0]
  unfold f_M_init
  refine bind_s cm_s1 ?_
  refine bind_s cm_s2 ?_
  refine bind_s cm_s3 ?_
  refine bind_s cm_s4 ?_
  refine bind_s cm_s5 ?_
  refine bind_s cm_s6 ?_
  refine bind_s cm_s7 ?_
  refine bind_s cm_s8 ?_
  refine bind_s cm_s9 ?_
  refine bind_s cm_s10 ?_
  refine bind_s cm_s11 ?_
  refine bind_s cm_s12 ?_
  refine bind_s cm_s13 ?_
  refine bind_s cm_s14 ?_
  refine bind_s cm_s15 ?_
  refine bind_s cm_s16 ?_
  refine bind_s cm_s17 ?_
  refine bind_s cm_s18 ?_
  refine bind_s cm_s19 ?_
  refine bind_s cm_s20 ?_
  refine bind_s cm_s21 ?_
  refine bind_s cm_s22 ?_
  refine bind_s cm_s23 ?_
  refine bind_s cm_s24 ?_
  refine bind_s cm_s25 ?_
  refine bind_s cm_s26 ?_
  refine bind_s cm_s27 ?_
  refine bind_s cm_s28 ?_
  refine bind_s cm_s29 ?_
  refine bind_s cm_s30 ?_
  refine bind_s cm_s31 ?_
  refine bind_s cm_s32 ?_
  refine bind_s cm_s33 ?_
  refine bind_s cm_s34 ?_
  refine bind_s cm_s35 ?_
  refine bind_s cm_s36 ?_
  refine bind_s cm_s37 ?_
  refine bind_s cm_s38 ?_
  refine bind_s cm_s39 ?_
  refine bind_s cm_s40 ?_
  refine bind_s cm_s41 ?_
  refine bind_s cm_s42 ?_
  refine bind_s cm_s43 ?_
  refine bind_s cm_s44 ?_
  refine bind_s cm_s45 ?_
  refine bind_s cm_s46 ?_
  exact congrArg some (Prod.ext (en_cg cmM_eq) rfl)
set_option maxRecDepth 10000 in
theorem S_ini {N x : Nat} {F : hE} : f_S_init N x (va_up F x (some (.inr (6, [.null, .null])))) (x + 1) = some (eX x (fun _ _ => 0) (fun _ _ => 0) (fun _ => none) F, x + 51) := by
  have e0 : va_up F x (some (.inr (6, [.null, .null]))) = enc x 1 (ci_0 x) F := by
    have := en_new (x := x) (n := 0) (c := ci_0 x) (F := F) (e := .inr (6, [.null, .null]))
    rw [en_0] at this
    exact this.trans (en_cg (fun k hk => by rcases (show k = 0 by omega) with rfl; rfl))
  rw [e0]
  obtain ⟨c1, a1, a2, a3, a4, -⟩ := ini_files (x := x) (N := N) (F := F) 10 0 (ci_36 x) rfl rfl (congrArg (fun f => (.inl (3, 10, .inr (.inr (.inr (.inr f)))) : va_E)) (funext fun j => (if_neg (Nat.not_lt_zero j)).symm))
  obtain ⟨c2, b1, b2, b3, b4, -⟩ := ini_kids (x := x) (N := N) (F := F) 3 0 c1 rfl (by rw [a2 6 (by decide) (by decide)]; rfl) (by rw [a2 18 (by decide) (by decide)]; exact congrArg (fun f => (.inl (4, 3, .inr (.inr (.inr (.inr f)))) : va_E)) (funext fun j => (if_neg (Nat.not_lt_zero j)).symm))
  have a1 : f_Mach_init_b76 N 11 (some (x + 6)) 0 (enc x 19 (ci_36 x) F) (x + 19) = f_Mach_init_b105 N 4 (some (x + 6)) 0 (enc x 39 c1 F) (x + 39) := a1
  have b1 : f_Mach_init_b105 N 4 (some (x + 6)) 0 (enc x 39 c1 F) (x + 39) = some (enc x 51 c2 F, x + 51) := b1
  have h0 : c2 0 = .inr (6, [.ref (x + 1), .null]) := by rw [b2 0 (by decide) (by decide), a2 0 (by decide) (by decide)]; rfl
  have s0 : sR (enc x 51 c2 F) (some x) 6 1 (some (x + 6)) = some (enc x 51 (va_up c2 0 (.inr (6, [.ref (x + 1), .ref (x + 6)]))) F) := en_sF (x := x) (n := 51) (c := c2) (F := F) (k := 0) (ci := 6) (j := 1) (fs := [.ref (x + 1), .null]) (v := va_rf (some (x + 6))) (by decide) h0 (show 1 < 2 by decide)
  unfold f_S_init f_Tape_init f_Mach_init f_Row_init f_Frame_init
  simp only [Nat.add_assoc, Nat.reduceAdd, Option.bind_some, ci_s1, ci_s2, ci_s3, ci_s4, ci_s5, ci_s6, ci_s7, ci_s8, ci_s9, ci_s10, ci_s11, ci_s12, ci_s13, ci_s14, ci_s15, ci_s16, ci_s17, ci_s18, ci_s19, ci_s20, ci_s21, ci_s22, ci_s23, ci_s24, ci_s25, ci_s26, ci_s27, ci_s28, ci_s29, ci_s30, ci_s31, ci_s32, ci_s33, ci_s34, ci_s35, ci_s36, a1, b1, s0]
  refine congrArg some (Prod.ext ?_ rfl)
  refine en_cg (fun k hk => ?_)
  by_cases k0 : k = 0
  · subst k0
    rw [va_up_self]
    rfl
  · rw [va_up_ne _ _ k0]
    by_cases k19 : k < 19
    · by_cases k17 : k = 17
      · subst k17
        rw [b2 17 (by decide) (by decide), a3]
        rfl
      · by_cases k18 : k = 18
        · subst k18
          rw [b3]
          rfl
        · rw [b2 k (by omega) k18, a2 k k19 k17]
          rcases (show k = 1 ∨ k = 2 ∨ k = 3 ∨ k = 4 ∨ k = 5 ∨ k = 6 ∨ k = 7 ∨ k = 8 ∨ k = 9 ∨ k = 10 ∨ k = 11 ∨ k = 12 ∨ k = 13 ∨ k = 14 ∨ k = 15 ∨ k = 16 by omega) with rfl | rfl | rfl | rfl | rfl | rfl | rfl | rfl | rfl | rfl | rfl | rfl | rfl | rfl | rfl | rfl <;> rfl
    · by_cases k39 : k < 39
      · rw [b2 k k39 (by omega)]
        rcases Nat.mod_two_eq_zero_or_one k with hm | hm
        · obtain ⟨j, hj, rfl⟩ : ∃ j, j < 10 ∧ k = 19 + 2 * j + 1 := ⟨(k - 20) / 2, by omega, by omega⟩
          rw [(a4 j (Nat.zero_le _) hj).2, cX_ar (by unfold isAr; omega), F_len hj]
        · obtain ⟨j, hj, rfl⟩ : ∃ j, j < 10 ∧ k = 19 + 2 * j := ⟨(k - 19) / 2, by omega, by omega⟩
          rw [(a4 j (Nat.zero_le _) hj).1, cX_row (F_row hj)]
      · obtain ⟨h1, h2, h3, h4⟩ := b4 0 (by decide) (by decide)
        obtain ⟨h5, h6, h7, h8⟩ := b4 1 (by decide) (by decide)
        obtain ⟨h9, h10, h11, h12⟩ := b4 2 (by decide) (by decide)
        rcases (show k = 39 ∨ k = 40 ∨ k = 41 ∨ k = 42 ∨ k = 43 ∨ k = 44 ∨ k = 45 ∨ k = 46 ∨ k = 47 ∨ k = 48 ∨ k = 49 ∨ k = 50 by omega) with rfl | rfl | rfl | rfl | rfl | rfl | rfl | rfl | rfl | rfl | rfl | rfl
        · exact h1
        · exact h2
        · exact h3
        · exact h4
        · exact h5
        · exact h6
        · exact h7
        · exact h8
        · exact h9
        · exact h10
        · exact h11
        · exact h12
