/-! ===== the two objects as pictures: enc x n c F is the map F with the cells c 0 .. c (n - 1) laid from x on ===== -/
def enc (x n : Nat) (c : Nat → va_E) (F : hE) : hE := fun a => if x ≤ a ∧ a < x + n then some (c (a - x)) else F a
theorem enc_at {x n k : Nat} {c : Nat → va_E} {F : hE} (h : k < n) : enc x n c F (x + k) = some (c k) := by
  unfold enc
  rw [if_pos ⟨Nat.le_add_right _ _, Nat.add_lt_add_left h x⟩, Nat.add_sub_cancel_left]
theorem enc_out {x n a : Nat} {c : Nat → va_E} {F : hE} (h : a < x ∨ x + n ≤ a) : enc x n c F a = F a := by
  unfold enc
  rw [if_neg (by omega)]
theorem enc_up {x n k : Nat} {c c1 : Nat → va_E} {F : hE} {e : va_E} (h : k < n) (h1 : c1 k = e) (h2 : ∀ j, j ≠ k → c1 j = c j) : va_up (enc x n c F) (x + k) (some e) = enc x n c1 F := by
  funext a
  by_cases ha : a = x + k
  · subst ha
    rw [va_up_self, enc_at h, h1]
  · rw [va_up_ne _ _ ha]
    unfold enc
    by_cases hr : x ≤ a ∧ a < x + n
    · rw [if_pos hr, if_pos hr, h2 _ (by omega)]
    · rw [if_neg hr, if_neg hr]
theorem enc_upo {x n a : Nat} {c : Nat → va_E} {F : hE} {e : Option va_E} (h : a < x ∨ x + n ≤ a) : va_up (enc x n c F) a e = enc x n c (va_up F a e) := by
  funext b
  by_cases hb : b = a
  · subst hb
    rw [va_up_self, enc_out h, va_up_self]
  · rw [va_up_ne _ _ hb]
    unfold enc
    by_cases hr : x ≤ b ∧ b < x + n
    · rw [if_pos hr, if_pos hr]
    · rw [if_neg hr, if_neg hr, va_up_ne _ _ hb]
theorem enc_swap {x n y k : Nat} {c d : Nat → va_E} {F : hE} (h : x + n ≤ y ∨ y + k ≤ x) : enc x n c (enc y k d F) = enc y k d (enc x n c F) := by
  funext a
  unfold enc
  by_cases h1 : x ≤ a ∧ a < x + n
  · rw [if_pos h1, if_neg (by omega), if_pos h1]
  · by_cases h2 : y ≤ a ∧ a < y + k
    · rw [if_neg h1, if_pos h2, if_pos h2]
    · rw [if_neg h1, if_neg h2, if_neg h2, if_neg h1]
theorem upd_self (f : Nat → Int32) (k : Nat) (v : Int32) : upd f k v k = v := by simp [upd]
theorem upd_ne (f : Nat → Int32) {k j : Nat} (v : Int32) (h : j ≠ k) : upd f k v j = f j := by simp [upd, h]
def u2 (o : Nat → Nat → Int32) (k j : Nat) (v : Int32) : Nat → Nat → Int32 := va_up o k (upd (o k) j v)
theorem u2_a (o : Nat → Nat → Int32) (k j : Nat) (v : Int32) : u2 o k j v k = upd (o k) j v := va_up_self _ _ _
theorem u2_n (o : Nat → Nat → Int32) {k a : Nat} (j : Nat) (v : Int32) (h : a ≠ k) : u2 o k j v a = o a := va_up_ne _ _ h
theorem u2_self (o : Nat → Nat → Int32) (k j : Nat) (v : Int32) : u2 o k j v k j = v := by rw [u2_a, upd_self]
theorem u2_ne (o : Nat → Nat → Int32) {k j b : Nat} (v : Int32) (h : b ≠ j) : u2 o k j v k b = o k b := by rw [u2_a, upd_ne _ _ h]
theorem gO_at {E : hE} {a ci : Nat} {fs : List Value} (h : E a = some (.inr (ci, fs))) : gO E (some a) ci = some (a, fs) := by
  simp [gO, h]
theorem gI_at {E : hE} {a ci k : Nat} {fs : List Value} {v : Int32} (h : E a = some (.inr (ci, fs))) (hv : fs[k]? = some (.int v)) : gI E (some a) ci k = some v := by
  simp [gI, gO_at h, hv, vI]
theorem gR_at {E : hE} {a ci k b : Nat} {fs : List Value} (h : E a = some (.inr (ci, fs))) (hv : fs[k]? = some (.ref b)) : gR E (some a) ci k = some (some b) := by
  simp [gR, gO_at h, hv, vR]
theorem gR_atn {E : hE} {a ci k : Nat} {fs : List Value} (h : E a = some (.inr (ci, fs))) (hv : fs[k]? = some .null) : gR E (some a) ci k = some none := by
  simp [gR, gO_at h, hv, vR]
theorem sF_at {E : hE} {a ci k : Nat} {fs : List Value} {v : Value} (h : E a = some (.inr (ci, fs))) (hk : k < fs.length) : sF E (some a) ci k v = some (va_up E a (some (.inr (ci, fs.set k v)))) := by
  simp [sF, gO_at h, hk]
theorem gA_at {E : hE} {a t : Nat} {x : vp_A} (h : E a = some (.inl (t, x))) : gA E (some a) t = some (a, x) := by
  simp [gA, h]
theorem aL_at {E : hE} {a t n : Nat} {f : Nat → Int32} (h : E a = some (.inl (t, n, .inl f))) : aL E (some a) t = some (nI n) := by
  simp [aL, gA_at h]
theorem aI_at {E : hE} {a t n i : Nat} {f : Nat → Int32} (h : E a = some (.inl (t, n, .inl f))) (hi : i < n) (hn : n < 2 ^ 31) : aI E (some a) t (nI i) = some (f i) := by
  have hc : (nI i).toNatClampNeg = i := nI_clamp (by omega)
  have h0 : ¬ (nI i < 0 ∨ n ≤ (nI i).toNatClampNeg) := nI_in hi hn
  simp [aI, gA_at h, vAi, hc] at h0 ⊢
  exact ⟨h0.1, hi⟩
theorem tI_at {E : hE} {a t n i : Nat} {f : Nat → Int32} {v : Int32} (h : E a = some (.inl (t, n, .inl f))) (hi : i < n) (hn : n < 2 ^ 31) : tI E (some a) t (nI i) v = some (va_up E a (some (.inl (t, n, .inl (upd f i v))))) := by
  have hc : (nI i).toNatClampNeg = i := nI_clamp (by omega)
  have h0 : ¬ (nI i < 0 ∨ n ≤ (nI i).toNatClampNeg) := nI_in hi hn
  simp [tI, gA_at h, vAi, hc] at h0 ⊢
  exact ⟨h0.1, hi⟩
theorem aJ_at {E : hE} {a t n i : Nat} {f : Nat → Int64} (h : E a = some (.inl (t, n, .inr (.inl f)))) (hi : i < n) (hn : n < 2 ^ 31) : aJ E (some a) t (nI i) = some (f i) := by
  have hc : (nI i).toNatClampNeg = i := nI_clamp (by omega)
  have h0 : ¬ (nI i < 0 ∨ n ≤ (nI i).toNatClampNeg) := nI_in hi hn
  simp [aJ, gA_at h, vAl, hc] at h0 ⊢
  exact ⟨h0.1, hi⟩
theorem tJ_at {E : hE} {a t n i : Nat} {f : Nat → Int64} {v : Int64} (h : E a = some (.inl (t, n, .inr (.inl f)))) (hi : i < n) (hn : n < 2 ^ 31) : tJ E (some a) t (nI i) v = some (va_up E a (some (.inl (t, n, .inr (.inl (vp_updL f i v)))))) := by
  have hc : (nI i).toNatClampNeg = i := nI_clamp (by omega)
  have h0 : ¬ (nI i < 0 ∨ n ≤ (nI i).toNatClampNeg) := nI_in hi hn
  simp [tJ, gA_at h, vAl, hc] at h0 ⊢
  exact ⟨h0.1, hi⟩
theorem aQ_at {E : hE} {a t n i : Nat} {f : Nat → Option Nat} (h : E a = some (.inl (t, n, .inr (.inr (.inr (.inr f)))))) (hi : i < n) (hn : n < 2 ^ 31) : aQ E (some a) t (nI i) = some (f i) := by
  have hc : (nI i).toNatClampNeg = i := nI_clamp (by omega)
  have h0 : ¬ (nI i < 0 ∨ n ≤ (nI i).toNatClampNeg) := nI_in hi hn
  simp [aQ, gA_at h, vAq, hc] at h0 ⊢
  exact ⟨h0.1, hi⟩
theorem tQ_at {E : hE} {a t n i ci b : Nat} {fs : List Value} {f : Nat → Option Nat} (h : E a = some (.inl (t, n, .inr (.inr (.inr (.inr f)))))) (hi : i < n) (hn : n < 2 ^ 31) (hb : E b = some (.inr (ci, fs))) : tQ E (some a) t (nI i) (some b) ci = some (va_up E a (some (.inl (t, n, .inr (.inr (.inr (.inr (va_up f i (some b))))))))) := by
  have hc : (nI i).toNatClampNeg = i := nI_clamp (by omega)
  have h0 : ¬ (nI i < 0 ∨ n ≤ (nI i).toNatClampNeg) := nI_in hi hn
  simp [tQ, gA_at h, vAq, hc, gO_at hb] at h0 ⊢
  exact ⟨h0.1, hi⟩
/-! ===== the reference's object: int fields s, int and boolean arrays A, the words w ===== -/
def mF (m : Nat) (s : Nat → Int32) : List Value := [.int (s 0), .ref (m + 1), .ref (m + 2), .ref (m + 3), .ref (m + 4), .ref (m + 5), .ref (m + 6), .ref (m + 7), .int (s 8), .ref (m + 8), .ref (m + 9), .ref (m + 10), .ref (m + 11), .ref (m + 12), .ref (m + 13), .ref (m + 14), .int (s 16), .int (s 17), .int (s 18), .int (s 19), .int (s 20), .int (s 21), .int (s 22), .ref (m + 15), .ref (m + 16), .int (s 25), .ref (m + 17), .ref (m + 18), .ref (m + 19), .ref (m + 20), .ref (m + 21), .ref (m + 22), .ref (m + 23)]
def mT (k : Nat) : Nat := if k = 6 ∨ k = 11 ∨ k = 14 then 1 else 0
def mN (k : Nat) : Nat := if k = 1 then 400 else if k = 2 then 2000 else if k = 3 then 2000 else if k = 4 then 2000 else if k = 5 then 5 else if k = 6 then 5 else if k = 7 then 130 else if k = 9 then 7 else if k = 10 then 7 else if k = 11 then 10 else if k = 12 then 10 else if k = 13 then 400 else if k = 14 then 3 else if k = 15 then 60 else if k = 16 then 60 else if k = 17 then 4 else if k = 18 then 4 else if k = 19 then 4 else if k = 20 then 32 else if k = 21 then 128 else if k = 22 then 4 else if k = 23 then 32 else 0
def cM (m : Nat) (s : Nat → Int32) (A : Nat → Nat → Int32) (w : Nat → Int64) (k : Nat) : va_E := if k = 0 then .inr (7, mF m s) else if k = 8 then .inl (2, 7, .inr (.inl w)) else .inl (mT k, mN k, .inl (A k))
def eM (m : Nat) (s : Nat → Int32) (A : Nat → Nat → Int32) (w : Nat → Int64) (F : hE) : hE := enc m 24 (cM m s A w) F
section EM
variable {m : Nat} {s : Nat → Int32} {A : Nat → Nat → Int32} {w : Nat → Int64} {F : hE}
theorem eM_0 : eM m s A w F m = some (.inr (7, mF m s)) := enc_at (k := 0) (by decide)
theorem eM_8 : eM m s A w F (m + 8) = some (.inl (2, 7, .inr (.inl w))) := enc_at (k := 8) (by decide)
theorem eM_s (k : Nat) (v : Int32) (h : (mF m s).set k (.int v) = mF m (upd s k v)) : va_up (eM m s A w F) m (some (.inr (7, (mF m s).set k (.int v)))) = eM m (upd s k v) A w F := by
  refine enc_up (k := 0) (by decide) (by rw [h]; rfl) (fun j hj => ?_)
  simp [cM, hj]
theorem eM_a (k : Nat) (f : Nat → Int32) (h0 : k ≠ 0) (h8 : k ≠ 8) (h : k < 24) : va_up (eM m s A w F) (m + k) (some (.inl (mT k, mN k, .inl f))) = eM m s (va_up A k f) w F := by
  refine enc_up h (by simp [cM, h0, h8, va_up]) (fun j hj => ?_)
  unfold cM
  rw [va_up_ne _ _ hj]
theorem eM_w (f : Nat → Int64) : va_up (eM m s A w F) (m + 8) (some (.inl (2, 7, .inr (.inl f)))) = eM m s A f F := by
  refine enc_up (by decide) (by simp [cM]) (fun j hj => ?_)
  simp [cM, hj]
theorem eM_out {a : Nat} (h : a < m ∨ m + 24 ≤ a) : eM m s A w F a = F a := enc_out h
theorem mgO : gO (eM m s A w F) (some m) 7 = some (m, mF m s) := gO_at eM_0
theorem mg_w {i : Nat} (hi : i < 7) : aJ (eM m s A w F) (some (m + 8)) 2 (nI i) = some (w i) := aJ_at eM_8 hi (by decide)
theorem mt_w {i : Nat} {v : Int64} (hi : i < 7) : tJ (eM m s A w F) (some (m + 8)) 2 (nI i) v = some (eM m s A (vp_updL w i v) F) := by
  rw [tJ_at eM_8 hi (by decide), eM_w]
theorem mg_0 : gI (eM m s A w F) (some m) 7 0 = some (s 0) := gI_at eM_0 rfl
theorem ms_0 {v : Int32} : sI (eM m s A w F) (some m) 7 0 v = some (eM m (upd s 0 v) A w F) := by
  unfold sI
  rw [sF_at eM_0 (by decide : 0 < 33), eM_s 0 v rfl]
theorem mg_8 : gI (eM m s A w F) (some m) 7 8 = some (s 8) := gI_at eM_0 rfl
theorem ms_8 {v : Int32} : sI (eM m s A w F) (some m) 7 8 v = some (eM m (upd s 8 v) A w F) := by
  unfold sI
  rw [sF_at eM_0 (by decide : 8 < 33), eM_s 8 v rfl]
theorem mg_16 : gI (eM m s A w F) (some m) 7 16 = some (s 16) := gI_at eM_0 rfl
theorem ms_16 {v : Int32} : sI (eM m s A w F) (some m) 7 16 v = some (eM m (upd s 16 v) A w F) := by
  unfold sI
  rw [sF_at eM_0 (by decide : 16 < 33), eM_s 16 v rfl]
theorem mg_17 : gI (eM m s A w F) (some m) 7 17 = some (s 17) := gI_at eM_0 rfl
theorem ms_17 {v : Int32} : sI (eM m s A w F) (some m) 7 17 v = some (eM m (upd s 17 v) A w F) := by
  unfold sI
  rw [sF_at eM_0 (by decide : 17 < 33), eM_s 17 v rfl]
theorem mg_18 : gI (eM m s A w F) (some m) 7 18 = some (s 18) := gI_at eM_0 rfl
theorem ms_18 {v : Int32} : sI (eM m s A w F) (some m) 7 18 v = some (eM m (upd s 18 v) A w F) := by
  unfold sI
  rw [sF_at eM_0 (by decide : 18 < 33), eM_s 18 v rfl]
theorem mg_19 : gI (eM m s A w F) (some m) 7 19 = some (s 19) := gI_at eM_0 rfl
theorem ms_19 {v : Int32} : sI (eM m s A w F) (some m) 7 19 v = some (eM m (upd s 19 v) A w F) := by
  unfold sI
  rw [sF_at eM_0 (by decide : 19 < 33), eM_s 19 v rfl]
theorem mg_20 : gI (eM m s A w F) (some m) 7 20 = some (s 20) := gI_at eM_0 rfl
theorem ms_20 {v : Int32} : sI (eM m s A w F) (some m) 7 20 v = some (eM m (upd s 20 v) A w F) := by
  unfold sI
  rw [sF_at eM_0 (by decide : 20 < 33), eM_s 20 v rfl]
theorem mg_21 : gI (eM m s A w F) (some m) 7 21 = some (s 21) := gI_at eM_0 rfl
theorem ms_21 {v : Int32} : sI (eM m s A w F) (some m) 7 21 v = some (eM m (upd s 21 v) A w F) := by
  unfold sI
  rw [sF_at eM_0 (by decide : 21 < 33), eM_s 21 v rfl]
theorem mg_22 : gI (eM m s A w F) (some m) 7 22 = some (s 22) := gI_at eM_0 rfl
theorem ms_22 {v : Int32} : sI (eM m s A w F) (some m) 7 22 v = some (eM m (upd s 22 v) A w F) := by
  unfold sI
  rw [sF_at eM_0 (by decide : 22 < 33), eM_s 22 v rfl]
theorem mg_25 : gI (eM m s A w F) (some m) 7 25 = some (s 25) := gI_at eM_0 rfl
theorem ms_25 {v : Int32} : sI (eM m s A w F) (some m) 7 25 v = some (eM m (upd s 25 v) A w F) := by
  unfold sI
  rw [sF_at eM_0 (by decide : 25 < 33), eM_s 25 v rfl]
theorem mg_1 : gR (eM m s A w F) (some m) 7 1 = some (some (m + 1)) := gR_at eM_0 rfl
theorem mg_2 : gR (eM m s A w F) (some m) 7 2 = some (some (m + 2)) := gR_at eM_0 rfl
theorem mg_3 : gR (eM m s A w F) (some m) 7 3 = some (some (m + 3)) := gR_at eM_0 rfl
theorem mg_4 : gR (eM m s A w F) (some m) 7 4 = some (some (m + 4)) := gR_at eM_0 rfl
theorem mg_5 : gR (eM m s A w F) (some m) 7 5 = some (some (m + 5)) := gR_at eM_0 rfl
theorem mg_6 : gR (eM m s A w F) (some m) 7 6 = some (some (m + 6)) := gR_at eM_0 rfl
theorem mg_7 : gR (eM m s A w F) (some m) 7 7 = some (some (m + 7)) := gR_at eM_0 rfl
theorem mg_9 : gR (eM m s A w F) (some m) 7 9 = some (some (m + 8)) := gR_at eM_0 rfl
theorem mg_10 : gR (eM m s A w F) (some m) 7 10 = some (some (m + 9)) := gR_at eM_0 rfl
theorem mg_11 : gR (eM m s A w F) (some m) 7 11 = some (some (m + 10)) := gR_at eM_0 rfl
theorem mg_12 : gR (eM m s A w F) (some m) 7 12 = some (some (m + 11)) := gR_at eM_0 rfl
theorem mg_13 : gR (eM m s A w F) (some m) 7 13 = some (some (m + 12)) := gR_at eM_0 rfl
theorem mg_14 : gR (eM m s A w F) (some m) 7 14 = some (some (m + 13)) := gR_at eM_0 rfl
theorem mg_15 : gR (eM m s A w F) (some m) 7 15 = some (some (m + 14)) := gR_at eM_0 rfl
theorem mg_23 : gR (eM m s A w F) (some m) 7 23 = some (some (m + 15)) := gR_at eM_0 rfl
theorem mg_24 : gR (eM m s A w F) (some m) 7 24 = some (some (m + 16)) := gR_at eM_0 rfl
theorem mg_26 : gR (eM m s A w F) (some m) 7 26 = some (some (m + 17)) := gR_at eM_0 rfl
theorem mg_27 : gR (eM m s A w F) (some m) 7 27 = some (some (m + 18)) := gR_at eM_0 rfl
theorem mg_28 : gR (eM m s A w F) (some m) 7 28 = some (some (m + 19)) := gR_at eM_0 rfl
theorem mg_29 : gR (eM m s A w F) (some m) 7 29 = some (some (m + 20)) := gR_at eM_0 rfl
theorem mg_30 : gR (eM m s A w F) (some m) 7 30 = some (some (m + 21)) := gR_at eM_0 rfl
theorem mg_31 : gR (eM m s A w F) (some m) 7 31 = some (some (m + 22)) := gR_at eM_0 rfl
theorem mg_32 : gR (eM m s A w F) (some m) 7 32 = some (some (m + 23)) := gR_at eM_0 rfl
theorem ea_1 : eM m s A w F (m + 1) = some (.inl (0, 400, .inl (A 1))) := enc_at (k := 1) (by decide)
theorem ma_1 {i : Nat} (hi : i < 400) : aI (eM m s A w F) (some (m + 1)) 0 (nI i) = some (A 1 i) := aI_at ea_1 hi (by decide)
theorem mt_1 {i : Nat} {v : Int32} (hi : i < 400) : tI (eM m s A w F) (some (m + 1)) 0 (nI i) v = some (eM m s (va_up A 1 (upd (A 1) i v)) w F) := by
  rw [tI_at ea_1 hi (by decide)]
  exact congrArg some (eM_a 1 _ (by decide) (by decide) (by decide))
theorem ea_2 : eM m s A w F (m + 2) = some (.inl (0, 2000, .inl (A 2))) := enc_at (k := 2) (by decide)
theorem ma_2 {i : Nat} (hi : i < 2000) : aI (eM m s A w F) (some (m + 2)) 0 (nI i) = some (A 2 i) := aI_at ea_2 hi (by decide)
theorem mt_2 {i : Nat} {v : Int32} (hi : i < 2000) : tI (eM m s A w F) (some (m + 2)) 0 (nI i) v = some (eM m s (va_up A 2 (upd (A 2) i v)) w F) := by
  rw [tI_at ea_2 hi (by decide)]
  exact congrArg some (eM_a 2 _ (by decide) (by decide) (by decide))
theorem ea_3 : eM m s A w F (m + 3) = some (.inl (0, 2000, .inl (A 3))) := enc_at (k := 3) (by decide)
theorem ma_3 {i : Nat} (hi : i < 2000) : aI (eM m s A w F) (some (m + 3)) 0 (nI i) = some (A 3 i) := aI_at ea_3 hi (by decide)
theorem mt_3 {i : Nat} {v : Int32} (hi : i < 2000) : tI (eM m s A w F) (some (m + 3)) 0 (nI i) v = some (eM m s (va_up A 3 (upd (A 3) i v)) w F) := by
  rw [tI_at ea_3 hi (by decide)]
  exact congrArg some (eM_a 3 _ (by decide) (by decide) (by decide))
theorem ea_4 : eM m s A w F (m + 4) = some (.inl (0, 2000, .inl (A 4))) := enc_at (k := 4) (by decide)
theorem ma_4 {i : Nat} (hi : i < 2000) : aI (eM m s A w F) (some (m + 4)) 0 (nI i) = some (A 4 i) := aI_at ea_4 hi (by decide)
theorem mt_4 {i : Nat} {v : Int32} (hi : i < 2000) : tI (eM m s A w F) (some (m + 4)) 0 (nI i) v = some (eM m s (va_up A 4 (upd (A 4) i v)) w F) := by
  rw [tI_at ea_4 hi (by decide)]
  exact congrArg some (eM_a 4 _ (by decide) (by decide) (by decide))
theorem ea_5 : eM m s A w F (m + 5) = some (.inl (0, 5, .inl (A 5))) := enc_at (k := 5) (by decide)
theorem ma_5 {i : Nat} (hi : i < 5) : aI (eM m s A w F) (some (m + 5)) 0 (nI i) = some (A 5 i) := aI_at ea_5 hi (by decide)
theorem mt_5 {i : Nat} {v : Int32} (hi : i < 5) : tI (eM m s A w F) (some (m + 5)) 0 (nI i) v = some (eM m s (va_up A 5 (upd (A 5) i v)) w F) := by
  rw [tI_at ea_5 hi (by decide)]
  exact congrArg some (eM_a 5 _ (by decide) (by decide) (by decide))
theorem ea_6 : eM m s A w F (m + 6) = some (.inl (1, 5, .inl (A 6))) := enc_at (k := 6) (by decide)
theorem ma_6 {i : Nat} (hi : i < 5) : aI (eM m s A w F) (some (m + 6)) 1 (nI i) = some (A 6 i) := aI_at ea_6 hi (by decide)
theorem mt_6 {i : Nat} {v : Int32} (hi : i < 5) : tI (eM m s A w F) (some (m + 6)) 1 (nI i) v = some (eM m s (va_up A 6 (upd (A 6) i v)) w F) := by
  rw [tI_at ea_6 hi (by decide)]
  exact congrArg some (eM_a 6 _ (by decide) (by decide) (by decide))
theorem ea_7 : eM m s A w F (m + 7) = some (.inl (0, 130, .inl (A 7))) := enc_at (k := 7) (by decide)
theorem ma_7 {i : Nat} (hi : i < 130) : aI (eM m s A w F) (some (m + 7)) 0 (nI i) = some (A 7 i) := aI_at ea_7 hi (by decide)
theorem mt_7 {i : Nat} {v : Int32} (hi : i < 130) : tI (eM m s A w F) (some (m + 7)) 0 (nI i) v = some (eM m s (va_up A 7 (upd (A 7) i v)) w F) := by
  rw [tI_at ea_7 hi (by decide)]
  exact congrArg some (eM_a 7 _ (by decide) (by decide) (by decide))
theorem ea_9 : eM m s A w F (m + 9) = some (.inl (0, 7, .inl (A 9))) := enc_at (k := 9) (by decide)
theorem ma_9 {i : Nat} (hi : i < 7) : aI (eM m s A w F) (some (m + 9)) 0 (nI i) = some (A 9 i) := aI_at ea_9 hi (by decide)
theorem mt_9 {i : Nat} {v : Int32} (hi : i < 7) : tI (eM m s A w F) (some (m + 9)) 0 (nI i) v = some (eM m s (va_up A 9 (upd (A 9) i v)) w F) := by
  rw [tI_at ea_9 hi (by decide)]
  exact congrArg some (eM_a 9 _ (by decide) (by decide) (by decide))
theorem ea_10 : eM m s A w F (m + 10) = some (.inl (0, 7, .inl (A 10))) := enc_at (k := 10) (by decide)
theorem ma_10 {i : Nat} (hi : i < 7) : aI (eM m s A w F) (some (m + 10)) 0 (nI i) = some (A 10 i) := aI_at ea_10 hi (by decide)
theorem mt_10 {i : Nat} {v : Int32} (hi : i < 7) : tI (eM m s A w F) (some (m + 10)) 0 (nI i) v = some (eM m s (va_up A 10 (upd (A 10) i v)) w F) := by
  rw [tI_at ea_10 hi (by decide)]
  exact congrArg some (eM_a 10 _ (by decide) (by decide) (by decide))
theorem ea_11 : eM m s A w F (m + 11) = some (.inl (1, 10, .inl (A 11))) := enc_at (k := 11) (by decide)
theorem ma_11 {i : Nat} (hi : i < 10) : aI (eM m s A w F) (some (m + 11)) 1 (nI i) = some (A 11 i) := aI_at ea_11 hi (by decide)
theorem mt_11 {i : Nat} {v : Int32} (hi : i < 10) : tI (eM m s A w F) (some (m + 11)) 1 (nI i) v = some (eM m s (va_up A 11 (upd (A 11) i v)) w F) := by
  rw [tI_at ea_11 hi (by decide)]
  exact congrArg some (eM_a 11 _ (by decide) (by decide) (by decide))
theorem ea_12 : eM m s A w F (m + 12) = some (.inl (0, 10, .inl (A 12))) := enc_at (k := 12) (by decide)
theorem ma_12 {i : Nat} (hi : i < 10) : aI (eM m s A w F) (some (m + 12)) 0 (nI i) = some (A 12 i) := aI_at ea_12 hi (by decide)
theorem mt_12 {i : Nat} {v : Int32} (hi : i < 10) : tI (eM m s A w F) (some (m + 12)) 0 (nI i) v = some (eM m s (va_up A 12 (upd (A 12) i v)) w F) := by
  rw [tI_at ea_12 hi (by decide)]
  exact congrArg some (eM_a 12 _ (by decide) (by decide) (by decide))
theorem ea_13 : eM m s A w F (m + 13) = some (.inl (0, 400, .inl (A 13))) := enc_at (k := 13) (by decide)
theorem ma_13 {i : Nat} (hi : i < 400) : aI (eM m s A w F) (some (m + 13)) 0 (nI i) = some (A 13 i) := aI_at ea_13 hi (by decide)
theorem mt_13 {i : Nat} {v : Int32} (hi : i < 400) : tI (eM m s A w F) (some (m + 13)) 0 (nI i) v = some (eM m s (va_up A 13 (upd (A 13) i v)) w F) := by
  rw [tI_at ea_13 hi (by decide)]
  exact congrArg some (eM_a 13 _ (by decide) (by decide) (by decide))
theorem ea_14 : eM m s A w F (m + 14) = some (.inl (1, 3, .inl (A 14))) := enc_at (k := 14) (by decide)
theorem ma_14 {i : Nat} (hi : i < 3) : aI (eM m s A w F) (some (m + 14)) 1 (nI i) = some (A 14 i) := aI_at ea_14 hi (by decide)
theorem mt_14 {i : Nat} {v : Int32} (hi : i < 3) : tI (eM m s A w F) (some (m + 14)) 1 (nI i) v = some (eM m s (va_up A 14 (upd (A 14) i v)) w F) := by
  rw [tI_at ea_14 hi (by decide)]
  exact congrArg some (eM_a 14 _ (by decide) (by decide) (by decide))
theorem ea_15 : eM m s A w F (m + 15) = some (.inl (0, 60, .inl (A 15))) := enc_at (k := 15) (by decide)
theorem ma_15 {i : Nat} (hi : i < 60) : aI (eM m s A w F) (some (m + 15)) 0 (nI i) = some (A 15 i) := aI_at ea_15 hi (by decide)
theorem mt_15 {i : Nat} {v : Int32} (hi : i < 60) : tI (eM m s A w F) (some (m + 15)) 0 (nI i) v = some (eM m s (va_up A 15 (upd (A 15) i v)) w F) := by
  rw [tI_at ea_15 hi (by decide)]
  exact congrArg some (eM_a 15 _ (by decide) (by decide) (by decide))
theorem ea_16 : eM m s A w F (m + 16) = some (.inl (0, 60, .inl (A 16))) := enc_at (k := 16) (by decide)
theorem ma_16 {i : Nat} (hi : i < 60) : aI (eM m s A w F) (some (m + 16)) 0 (nI i) = some (A 16 i) := aI_at ea_16 hi (by decide)
theorem mt_16 {i : Nat} {v : Int32} (hi : i < 60) : tI (eM m s A w F) (some (m + 16)) 0 (nI i) v = some (eM m s (va_up A 16 (upd (A 16) i v)) w F) := by
  rw [tI_at ea_16 hi (by decide)]
  exact congrArg some (eM_a 16 _ (by decide) (by decide) (by decide))
theorem ea_17 : eM m s A w F (m + 17) = some (.inl (0, 4, .inl (A 17))) := enc_at (k := 17) (by decide)
theorem ma_17 {i : Nat} (hi : i < 4) : aI (eM m s A w F) (some (m + 17)) 0 (nI i) = some (A 17 i) := aI_at ea_17 hi (by decide)
theorem mt_17 {i : Nat} {v : Int32} (hi : i < 4) : tI (eM m s A w F) (some (m + 17)) 0 (nI i) v = some (eM m s (va_up A 17 (upd (A 17) i v)) w F) := by
  rw [tI_at ea_17 hi (by decide)]
  exact congrArg some (eM_a 17 _ (by decide) (by decide) (by decide))
theorem ea_18 : eM m s A w F (m + 18) = some (.inl (0, 4, .inl (A 18))) := enc_at (k := 18) (by decide)
theorem ma_18 {i : Nat} (hi : i < 4) : aI (eM m s A w F) (some (m + 18)) 0 (nI i) = some (A 18 i) := aI_at ea_18 hi (by decide)
theorem mt_18 {i : Nat} {v : Int32} (hi : i < 4) : tI (eM m s A w F) (some (m + 18)) 0 (nI i) v = some (eM m s (va_up A 18 (upd (A 18) i v)) w F) := by
  rw [tI_at ea_18 hi (by decide)]
  exact congrArg some (eM_a 18 _ (by decide) (by decide) (by decide))
theorem ea_19 : eM m s A w F (m + 19) = some (.inl (0, 4, .inl (A 19))) := enc_at (k := 19) (by decide)
theorem ma_19 {i : Nat} (hi : i < 4) : aI (eM m s A w F) (some (m + 19)) 0 (nI i) = some (A 19 i) := aI_at ea_19 hi (by decide)
theorem mt_19 {i : Nat} {v : Int32} (hi : i < 4) : tI (eM m s A w F) (some (m + 19)) 0 (nI i) v = some (eM m s (va_up A 19 (upd (A 19) i v)) w F) := by
  rw [tI_at ea_19 hi (by decide)]
  exact congrArg some (eM_a 19 _ (by decide) (by decide) (by decide))
theorem ea_20 : eM m s A w F (m + 20) = some (.inl (0, 32, .inl (A 20))) := enc_at (k := 20) (by decide)
theorem ma_20 {i : Nat} (hi : i < 32) : aI (eM m s A w F) (some (m + 20)) 0 (nI i) = some (A 20 i) := aI_at ea_20 hi (by decide)
theorem mt_20 {i : Nat} {v : Int32} (hi : i < 32) : tI (eM m s A w F) (some (m + 20)) 0 (nI i) v = some (eM m s (va_up A 20 (upd (A 20) i v)) w F) := by
  rw [tI_at ea_20 hi (by decide)]
  exact congrArg some (eM_a 20 _ (by decide) (by decide) (by decide))
theorem ea_21 : eM m s A w F (m + 21) = some (.inl (0, 128, .inl (A 21))) := enc_at (k := 21) (by decide)
theorem ma_21 {i : Nat} (hi : i < 128) : aI (eM m s A w F) (some (m + 21)) 0 (nI i) = some (A 21 i) := aI_at ea_21 hi (by decide)
theorem mt_21 {i : Nat} {v : Int32} (hi : i < 128) : tI (eM m s A w F) (some (m + 21)) 0 (nI i) v = some (eM m s (va_up A 21 (upd (A 21) i v)) w F) := by
  rw [tI_at ea_21 hi (by decide)]
  exact congrArg some (eM_a 21 _ (by decide) (by decide) (by decide))
theorem ea_22 : eM m s A w F (m + 22) = some (.inl (0, 4, .inl (A 22))) := enc_at (k := 22) (by decide)
theorem ma_22 {i : Nat} (hi : i < 4) : aI (eM m s A w F) (some (m + 22)) 0 (nI i) = some (A 22 i) := aI_at ea_22 hi (by decide)
theorem mt_22 {i : Nat} {v : Int32} (hi : i < 4) : tI (eM m s A w F) (some (m + 22)) 0 (nI i) v = some (eM m s (va_up A 22 (upd (A 22) i v)) w F) := by
  rw [tI_at ea_22 hi (by decide)]
  exact congrArg some (eM_a 22 _ (by decide) (by decide) (by decide))
theorem ea_23 : eM m s A w F (m + 23) = some (.inl (0, 32, .inl (A 23))) := enc_at (k := 23) (by decide)
theorem ma_23 {i : Nat} (hi : i < 32) : aI (eM m s A w F) (some (m + 23)) 0 (nI i) = some (A 23 i) := aI_at ea_23 hi (by decide)
theorem mt_23 {i : Nat} {v : Int32} (hi : i < 32) : tI (eM m s A w F) (some (m + 23)) 0 (nI i) v = some (eM m s (va_up A 23 (upd (A 23) i v)) w F) := by
  rw [tI_at ea_23 hi (by decide)]
  exact congrArg some (eM_a 23 _ (by decide) (by decide) (by decide))
theorem msz_16 {v : Int32} (h : v = 0 ∨ v = 1) : sZ (eM m s A w F) (some m) 7 16 v = some (eM m (upd s 16 v) A w F) := by
  unfold sZ
  rw [if_pos h]
  exact ms_16
theorem mz_6 {i : Nat} {v : Int32} (hi : i < 5) (h : v = 0 ∨ v = 1) : tZ (eM m s A w F) (some (m + 6)) 1 (nI i) v = some (eM m s (va_up A 6 (upd (A 6) i v)) w F) := by
  unfold tZ
  rw [if_pos h]
  exact mt_6 hi
theorem mz_11 {i : Nat} {v : Int32} (hi : i < 10) (h : v = 0 ∨ v = 1) : tZ (eM m s A w F) (some (m + 11)) 1 (nI i) v = some (eM m s (va_up A 11 (upd (A 11) i v)) w F) := by
  unfold tZ
  rw [if_pos h]
  exact mt_11 hi
theorem mz_14 {i : Nat} {v : Int32} (hi : i < 3) (h : v = 0 ∨ v = 1) : tZ (eM m s A w F) (some (m + 14)) 1 (nI i) v = some (eM m s (va_up A 14 (upd (A 14) i v)) w F) := by
  unfold tZ
  rw [if_pos h]
  exact mt_14 hi
end EM
/-! ===== the class's object: int fields o, int and boolean arrays A by their place, the scripts q ===== -/
def isRow (k : Nat) : Prop := k = 2 ∨ k = 9 ∨ k = 11 ∨ (19 ≤ k ∧ k < 39 ∧ k % 2 = 1)
def xN (k : Nat) : Nat := if k = 3 then 400 else if k = 4 ∨ k = 5 then 6 else if k = 10 ∨ k = 12 then 60 else if k < 39 ∧ 19 ≤ k then 40 else if k = 15 ∨ k = 41 ∨ k = 45 ∨ k = 49 then 32 else 8
def xD (k : Nat) : Nat := if k = 13 then 0 else (k - 35) / 4
def cX (x : Nat) (o : Nat → Nat → Int32) (A : Nat → Nat → Int32) (q : Nat → Option Nat) (k : Nat) : va_E :=
  if k = 0 then .inr (6, [.ref (x + 1), .ref (x + 6)])
  else if k = 1 then .inr (5, [.ref (x + 2), .ref (x + 4), .ref (x + 5), .int (o k 3), .int (o k 4), .int (o k 5), .int (o k 6), .int (o k 7), .int (o k 8)])
  else if k = 6 then .inr (2, [.ref (x + 7), .ref (x + 8), .ref (x + 9), .ref (x + 11), .ref (x + 13), .ref (x + 17), .ref (x + 18), .int (o k 7), .int (o k 8), .int (o k 9), .int (o k 10), .int (o k 11), .int (o k 12)])
  else if k = 7 then .inl (5, 4, .inr (.inr (.inr (.inr q))))
  else if k = 8 then .inl (1, 3, .inl (A k))
  else if k = 17 then .inl (3, 10, .inr (.inr (.inr (.inr (fun i => if i < 10 then some (x + (19 + 2 * i)) else none)))))
  else if k = 18 then .inl (4, 3, .inr (.inr (.inr (.inr (fun i => if i < 3 then some (x + (39 + 4 * i)) else none)))))
  else if k = 2 ∨ k = 9 ∨ k = 11 ∨ (19 ≤ k ∧ k < 39 ∧ k % 2 = 1) then .inr (0, [.ref (x + (k + 1)), .int (o k 1), .int (o k 2)])
  else if k = 13 ∨ k = 39 ∨ k = 43 ∨ k = 47 then .inr (1, [.int (nI (xD k)), .ref (x + (k + 1)), .ref (x + (k + 2)), .ref (x + (k + 3)), .int (o k 4), .int (o k 5), .int (o k 6)])
  else .inl (0, xN k, .inl (A k))
def isFr (k : Nat) : Prop := k = 13 ∨ k = 39 ∨ k = 43 ∨ k = 47
def isAr (k : Nat) : Prop := k = 3 ∨ k = 4 ∨ k = 5 ∨ k = 10 ∨ k = 12 ∨ k = 14 ∨ k = 15 ∨ k = 16 ∨ (20 ≤ k ∧ k < 39 ∧ k % 2 = 0) ∨ k = 40 ∨ k = 41 ∨ k = 42 ∨ k = 44 ∨ k = 45 ∨ k = 46 ∨ k = 48 ∨ k = 49 ∨ k = 50
def eX (x : Nat) (o : Nat → Nat → Int32) (A : Nat → Nat → Int32) (q : Nat → Option Nat) (F : hE) : hE := enc x 51 (cX x o A q) F
section EX
variable {x : Nat} {o : Nat → Nat → Int32} {A : Nat → Nat → Int32} {q : Nat → Option Nat} {F : hE} {k : Nat}
theorem cX_row (h : isRow k) : cX x o A q k = .inr (0, [.ref (x + (k + 1)), .int (o k 1), .int (o k 2)]) := by
  have h' : k = 2 ∨ k = 9 ∨ k = 11 ∨ (19 ≤ k ∧ k < 39 ∧ k % 2 = 1) := h
  unfold cX
  rw [if_neg (by omega), if_neg (by omega), if_neg (by omega), if_neg (by omega), if_neg (by omega), if_neg (by omega), if_neg (by omega), if_pos h']
theorem cX_fr (h : isFr k) : cX x o A q k = .inr (1, [.int (nI (xD k)), .ref (x + (k + 1)), .ref (x + (k + 2)), .ref (x + (k + 3)), .int (o k 4), .int (o k 5), .int (o k 6)]) := by
  have h' : k = 13 ∨ k = 39 ∨ k = 43 ∨ k = 47 := h
  unfold cX
  rw [if_neg (by omega), if_neg (by omega), if_neg (by omega), if_neg (by omega), if_neg (by omega), if_neg (by omega), if_neg (by omega), if_neg (by omega), if_pos h']
theorem cX_ar (h : isAr k) : cX x o A q k = .inl (0, xN k, .inl (A k)) := by
  have h' : k = 3 ∨ k = 4 ∨ k = 5 ∨ k = 10 ∨ k = 12 ∨ k = 14 ∨ k = 15 ∨ k = 16 ∨ (20 ≤ k ∧ k < 39 ∧ k % 2 = 0) ∨ k = 40 ∨ k = 41 ∨ k = 42 ∨ k = 44 ∨ k = 45 ∨ k = 46 ∨ k = 48 ∨ k = 49 ∨ k = 50 := h
  unfold cX
  rw [if_neg (by omega), if_neg (by omega), if_neg (by omega), if_neg (by omega), if_neg (by omega), if_neg (by omega), if_neg (by omega), if_neg (by omega), if_neg (by omega)]
theorem cX_o {j : Nat} {f : Nat → Int32} (h : j ≠ k) : cX x (va_up o k f) A q j = cX x o A q j := by
  unfold cX
  rw [va_up_ne _ _ h]
theorem cX_A {j : Nat} {f : Nat → Int32} (h : j ≠ k) : cX x o (va_up A k f) q j = cX x o A q j := by
  unfold cX
  rw [va_up_ne _ _ h]
theorem eX_at (h : k < 51) : eX x o A q F (x + k) = some (cX x o A q k) := enc_at h
theorem eX_0 : eX x o A q F x = some (.inr (6, [.ref (x + 1), .ref (x + 6)])) := enc_at (k := 0) (by decide)
theorem eX_out {a : Nat} (h : a < x ∨ x + 51 ≤ a) : eX x o A q F a = F a := enc_out h
theorem eX_u2 {e : va_E} (j : Nat) (v : Int32) (hk : k < 51) (h : cX x (u2 o k j v) A q k = e) : va_up (eX x o A q F) (x + k) (some e) = eX x (u2 o k j v) A q F := enc_up hk h (fun _ hj => cX_o hj)
theorem eX_uA {e : va_E} (f : Nat → Int32) (hk : k < 51) (h : cX x o (va_up A k f) q k = e) : va_up (eX x o A q F) (x + k) (some e) = eX x o (va_up A k f) q F := enc_up hk h (fun _ hj => cX_A hj)
theorem eX_q (f : Nat → Option Nat) : va_up (eX x o A q F) (x + 7) (some (.inl (5, 4, .inr (.inr (.inr (.inr f)))))) = eX x o A f F := by
  refine enc_up (by decide) (by simp [cX]) (fun j hj => ?_)
  simp [cX, hj]
theorem isRow_lt (h : isRow k) : k < 39 := by
  have h' : k = 2 ∨ k = 9 ∨ k = 11 ∨ (19 ≤ k ∧ k < 39 ∧ k % 2 = 1) := h
  omega
theorem isFr_lt (h : isFr k) : k < 48 := by
  have h' : k = 13 ∨ k = 39 ∨ k = 43 ∨ k = 47 := h
  omega
theorem isAr_lt (h : isAr k) : k < 51 := by
  have h' : k = 3 ∨ k = 4 ∨ k = 5 ∨ k = 10 ∨ k = 12 ∨ k = 14 ∨ k = 15 ∨ k = 16 ∨ (20 ≤ k ∧ k < 39 ∧ k % 2 = 0) ∨ k = 40 ∨ k = 41 ∨ k = 42 ∨ k = 44 ∨ k = 45 ∨ k = 46 ∨ k = 48 ∨ k = 49 ∨ k = 50 := h
  omega
theorem xN_lt : xN k < 2 ^ 31 := by
  unfold xN
  repeat' split
  all_goals decide
theorem row_ar (h : isRow k) : isAr (k + 1) := by
  have h' : k = 2 ∨ k = 9 ∨ k = 11 ∨ (19 ≤ k ∧ k < 39 ∧ k % 2 = 1) := h
  unfold isAr
  omega
theorem fr_ar1 (h : isFr k) : isAr (k + 1) := by
  have h' : k = 13 ∨ k = 39 ∨ k = 43 ∨ k = 47 := h
  unfold isAr
  omega
theorem fr_ar2 (h : isFr k) : isAr (k + 2) := by
  have h' : k = 13 ∨ k = 39 ∨ k = 43 ∨ k = 47 := h
  unfold isAr
  omega
theorem fr_ar3 (h : isFr k) : isAr (k + 3) := by
  have h' : k = 13 ∨ k = 39 ∨ k = 43 ∨ k = 47 := h
  unfold isAr
  omega
theorem fr_n1 (h : isFr k) : xN (k + 1) = 8 := by
  rcases h with rfl | rfl | rfl | rfl <;> rfl
theorem fr_n2 (h : isFr k) : xN (k + 2) = 32 := by
  rcases h with rfl | rfl | rfl | rfl <;> rfl
theorem fr_n3 (h : isFr k) : xN (k + 3) = 8 := by
  rcases h with rfl | rfl | rfl | rfl <;> rfl
/-! rows -/
theorem xr_at (h : isRow k) : eX x o A q F (x + k) = some (.inr (0, [.ref (x + (k + 1)), .int (o k 1), .int (o k 2)])) := by
  rw [eX_at (by have := isRow_lt h; omega), cX_row h]
theorem xr_O (h : isRow k) : gO (eX x o A q F) (some (x + k)) 0 = some (x + k, [.ref (x + (k + 1)), .int (o k 1), .int (o k 2)]) := gO_at (xr_at h)
theorem xr_0 (h : isRow k) : gR (eX x o A q F) (some (x + k)) 0 0 = some (some (x + (k + 1))) := gR_at (xr_at h) rfl
theorem xr_1 (h : isRow k) : gI (eX x o A q F) (some (x + k)) 0 1 = some (o k 1) := gI_at (xr_at h) rfl
theorem xr_2 (h : isRow k) : gI (eX x o A q F) (some (x + k)) 0 2 = some (o k 2) := gI_at (xr_at h) rfl
theorem xs_1 {v : Int32} (h : isRow k) : sI (eX x o A q F) (some (x + k)) 0 1 v = some (eX x (u2 o k 1 v) A q F) := by
  unfold sI
  rw [sF_at (xr_at h) (by decide : 1 < 3)]
  exact congrArg some (eX_u2 1 v (by have := isRow_lt h; omega) (by rw [cX_row h, u2_self, u2_ne _ _ (by decide)]; rfl))
theorem xs_2 {v : Int32} (h : isRow k) (hv : v = 0 ∨ v = 1) : sZ (eX x o A q F) (some (x + k)) 0 2 v = some (eX x (u2 o k 2 v) A q F) := by
  unfold sZ
  rw [if_pos hv, sF_at (xr_at h) (by decide : 2 < 3)]
  exact congrArg some (eX_u2 2 v (by have := isRow_lt h; omega) (by rw [cX_row h, u2_self, u2_ne _ _ (by decide)]; rfl))
/-! int arrays -/
theorem xa_at (h : isAr k) : eX x o A q F (x + k) = some (.inl (0, xN k, .inl (A k))) := by
  rw [eX_at (isAr_lt h), cX_ar h]
theorem xa_L (h : isAr k) : aL (eX x o A q F) (some (x + k)) 0 = some (nI (xN k)) := aL_at (xa_at h)
theorem xa_I {i : Nat} (h : isAr k) (hi : i < xN k) : aI (eX x o A q F) (some (x + k)) 0 (nI i) = some (A k i) := aI_at (xa_at h) hi xN_lt
theorem xa_T {i : Nat} {v : Int32} (h : isAr k) (hi : i < xN k) : tI (eX x o A q F) (some (x + k)) 0 (nI i) v = some (eX x o (va_up A k (upd (A k) i v)) q F) := by
  rw [tI_at (xa_at h) hi xN_lt]
  exact congrArg some (eX_uA _ (isAr_lt h) (by rw [cX_ar h, va_up_self]))
/-! frames -/
theorem xf_at (h : isFr k) : eX x o A q F (x + k) = some (.inr (1, [.int (nI (xD k)), .ref (x + (k + 1)), .ref (x + (k + 2)), .ref (x + (k + 3)), .int (o k 4), .int (o k 5), .int (o k 6)])) := by
  rw [eX_at (by have := isFr_lt h; omega), cX_fr h]
theorem xf_O (h : isFr k) : gO (eX x o A q F) (some (x + k)) 1 = some (x + k, [.int (nI (xD k)), .ref (x + (k + 1)), .ref (x + (k + 2)), .ref (x + (k + 3)), .int (o k 4), .int (o k 5), .int (o k 6)]) := gO_at (xf_at h)
theorem xf_0 (h : isFr k) : gI (eX x o A q F) (some (x + k)) 1 0 = some (nI (xD k)) := gI_at (xf_at h) rfl
theorem xf_1 (h : isFr k) : gR (eX x o A q F) (some (x + k)) 1 1 = some (some (x + (k + 1))) := gR_at (xf_at h) rfl
theorem xf_2 (h : isFr k) : gR (eX x o A q F) (some (x + k)) 1 2 = some (some (x + (k + 2))) := gR_at (xf_at h) rfl
theorem xf_3 (h : isFr k) : gR (eX x o A q F) (some (x + k)) 1 3 = some (some (x + (k + 3))) := gR_at (xf_at h) rfl
theorem xf_4 (h : isFr k) : gI (eX x o A q F) (some (x + k)) 1 4 = some (o k 4) := gI_at (xf_at h) rfl
theorem xfs_4 {v : Int32} (h : isFr k) : sI (eX x o A q F) (some (x + k)) 1 4 v = some (eX x (u2 o k 4 v) A q F) := by
  unfold sI
  rw [sF_at (xf_at h) (by decide : 4 < 7)]
  exact congrArg some (eX_u2 4 v (by have := isFr_lt h; omega) (by rw [cX_fr h, u2_self, u2_ne _ _ (by decide), u2_ne _ _ (by decide)]; rfl))
theorem xf_5 (h : isFr k) : gI (eX x o A q F) (some (x + k)) 1 5 = some (o k 5) := gI_at (xf_at h) rfl
theorem xfs_5 {v : Int32} (h : isFr k) : sI (eX x o A q F) (some (x + k)) 1 5 v = some (eX x (u2 o k 5 v) A q F) := by
  unfold sI
  rw [sF_at (xf_at h) (by decide : 5 < 7)]
  exact congrArg some (eX_u2 5 v (by have := isFr_lt h; omega) (by rw [cX_fr h, u2_self, u2_ne _ _ (by decide), u2_ne _ _ (by decide)]; rfl))
theorem xf_6 (h : isFr k) : gI (eX x o A q F) (some (x + k)) 1 6 = some (o k 6) := gI_at (xf_at h) rfl
theorem xfs_6 {v : Int32} (h : isFr k) : sI (eX x o A q F) (some (x + k)) 1 6 v = some (eX x (u2 o k 6 v) A q F) := by
  unfold sI
  rw [sF_at (xf_at h) (by decide : 6 < 7)]
  exact congrArg some (eX_u2 6 v (by have := isFr_lt h; omega) (by rw [cX_fr h, u2_self, u2_ne _ _ (by decide), u2_ne _ _ (by decide)]; rfl))
/-! the tape, the machine -/
theorem xt_at : eX x o A q F (x + 1) = some (.inr (5, [.ref (x + 2), .ref (x + 4), .ref (x + 5), .int (o 1 3), .int (o 1 4), .int (o 1 5), .int (o 1 6), .int (o 1 7), .int (o 1 8)])) := enc_at (k := 1) (by decide)
theorem xt_O : gO (eX x o A q F) (some (x + 1)) 5 = some (x + 1, [.ref (x + 2), .ref (x + 4), .ref (x + 5), .int (o 1 3), .int (o 1 4), .int (o 1 5), .int (o 1 6), .int (o 1 7), .int (o 1 8)]) := gO_at xt_at
theorem xt_0 : gR (eX x o A q F) (some (x + 1)) 5 0 = some (some (x + 2)) := gR_at xt_at rfl
theorem xt_1 : gR (eX x o A q F) (some (x + 1)) 5 1 = some (some (x + 4)) := gR_at xt_at rfl
theorem xt_2 : gR (eX x o A q F) (some (x + 1)) 5 2 = some (some (x + 5)) := gR_at xt_at rfl
theorem xt_3 : gI (eX x o A q F) (some (x + 1)) 5 3 = some (o 1 3) := gI_at xt_at rfl
theorem xts_3 {v : Int32} : sI (eX x o A q F) (some (x + 1)) 5 3 v = some (eX x (u2 o 1 3 v) A q F) := by
  unfold sI
  rw [sF_at xt_at (by decide : 3 < 9)]
  exact congrArg some (eX_u2 3 v (by decide) rfl)
theorem xt_4 : gI (eX x o A q F) (some (x + 1)) 5 4 = some (o 1 4) := gI_at xt_at rfl
theorem xts_4 {v : Int32} : sI (eX x o A q F) (some (x + 1)) 5 4 v = some (eX x (u2 o 1 4 v) A q F) := by
  unfold sI
  rw [sF_at xt_at (by decide : 4 < 9)]
  exact congrArg some (eX_u2 4 v (by decide) rfl)
theorem xt_5 : gI (eX x o A q F) (some (x + 1)) 5 5 = some (o 1 5) := gI_at xt_at rfl
theorem xts_5 {v : Int32} : sI (eX x o A q F) (some (x + 1)) 5 5 v = some (eX x (u2 o 1 5 v) A q F) := by
  unfold sI
  rw [sF_at xt_at (by decide : 5 < 9)]
  exact congrArg some (eX_u2 5 v (by decide) rfl)
theorem xt_6 : gI (eX x o A q F) (some (x + 1)) 5 6 = some (o 1 6) := gI_at xt_at rfl
theorem xts_6 {v : Int32} : sI (eX x o A q F) (some (x + 1)) 5 6 v = some (eX x (u2 o 1 6 v) A q F) := by
  unfold sI
  rw [sF_at xt_at (by decide : 6 < 9)]
  exact congrArg some (eX_u2 6 v (by decide) rfl)
theorem xt_7 : gI (eX x o A q F) (some (x + 1)) 5 7 = some (o 1 7) := gI_at xt_at rfl
theorem xts_7 {v : Int32} : sI (eX x o A q F) (some (x + 1)) 5 7 v = some (eX x (u2 o 1 7 v) A q F) := by
  unfold sI
  rw [sF_at xt_at (by decide : 7 < 9)]
  exact congrArg some (eX_u2 7 v (by decide) rfl)
theorem xt_8 : gI (eX x o A q F) (some (x + 1)) 5 8 = some (o 1 8) := gI_at xt_at rfl
theorem xts_8 {v : Int32} : sI (eX x o A q F) (some (x + 1)) 5 8 v = some (eX x (u2 o 1 8 v) A q F) := by
  unfold sI
  rw [sF_at xt_at (by decide : 8 < 9)]
  exact congrArg some (eX_u2 8 v (by decide) rfl)
theorem xm_at : eX x o A q F (x + 6) = some (.inr (2, [.ref (x + 7), .ref (x + 8), .ref (x + 9), .ref (x + 11), .ref (x + 13), .ref (x + 17), .ref (x + 18), .int (o 6 7), .int (o 6 8), .int (o 6 9), .int (o 6 10), .int (o 6 11), .int (o 6 12)])) := enc_at (k := 6) (by decide)
theorem xm_O : gO (eX x o A q F) (some (x + 6)) 2 = some (x + 6, [.ref (x + 7), .ref (x + 8), .ref (x + 9), .ref (x + 11), .ref (x + 13), .ref (x + 17), .ref (x + 18), .int (o 6 7), .int (o 6 8), .int (o 6 9), .int (o 6 10), .int (o 6 11), .int (o 6 12)]) := gO_at xm_at
theorem xm_0 : gR (eX x o A q F) (some (x + 6)) 2 0 = some (some (x + 7)) := gR_at xm_at rfl
theorem xm_1 : gR (eX x o A q F) (some (x + 6)) 2 1 = some (some (x + 8)) := gR_at xm_at rfl
theorem xm_2 : gR (eX x o A q F) (some (x + 6)) 2 2 = some (some (x + 9)) := gR_at xm_at rfl
theorem xm_3 : gR (eX x o A q F) (some (x + 6)) 2 3 = some (some (x + 11)) := gR_at xm_at rfl
theorem xm_4 : gR (eX x o A q F) (some (x + 6)) 2 4 = some (some (x + 13)) := gR_at xm_at rfl
theorem xm_5 : gR (eX x o A q F) (some (x + 6)) 2 5 = some (some (x + 17)) := gR_at xm_at rfl
theorem xm_6 : gR (eX x o A q F) (some (x + 6)) 2 6 = some (some (x + 18)) := gR_at xm_at rfl
theorem xm_7 : gI (eX x o A q F) (some (x + 6)) 2 7 = some (o 6 7) := gI_at xm_at rfl
theorem xms_7 {v : Int32} : sI (eX x o A q F) (some (x + 6)) 2 7 v = some (eX x (u2 o 6 7 v) A q F) := by
  unfold sI
  rw [sF_at xm_at (by decide : 7 < 13)]
  exact congrArg some (eX_u2 7 v (by decide) rfl)
theorem xmz_7 {v : Int32} (h : v = 0 ∨ v = 1) : sZ (eX x o A q F) (some (x + 6)) 2 7 v = some (eX x (u2 o 6 7 v) A q F) := by
  unfold sZ
  rw [if_pos h]
  exact xms_7
theorem xm_8 : gI (eX x o A q F) (some (x + 6)) 2 8 = some (o 6 8) := gI_at xm_at rfl
theorem xms_8 {v : Int32} : sI (eX x o A q F) (some (x + 6)) 2 8 v = some (eX x (u2 o 6 8 v) A q F) := by
  unfold sI
  rw [sF_at xm_at (by decide : 8 < 13)]
  exact congrArg some (eX_u2 8 v (by decide) rfl)
theorem xm_9 : gI (eX x o A q F) (some (x + 6)) 2 9 = some (o 6 9) := gI_at xm_at rfl
theorem xms_9 {v : Int32} : sI (eX x o A q F) (some (x + 6)) 2 9 v = some (eX x (u2 o 6 9 v) A q F) := by
  unfold sI
  rw [sF_at xm_at (by decide : 9 < 13)]
  exact congrArg some (eX_u2 9 v (by decide) rfl)
theorem xm_10 : gI (eX x o A q F) (some (x + 6)) 2 10 = some (o 6 10) := gI_at xm_at rfl
theorem xms_10 {v : Int32} : sI (eX x o A q F) (some (x + 6)) 2 10 v = some (eX x (u2 o 6 10 v) A q F) := by
  unfold sI
  rw [sF_at xm_at (by decide : 10 < 13)]
  exact congrArg some (eX_u2 10 v (by decide) rfl)
theorem xm_11 : gI (eX x o A q F) (some (x + 6)) 2 11 = some (o 6 11) := gI_at xm_at rfl
theorem xms_11 {v : Int32} : sI (eX x o A q F) (some (x + 6)) 2 11 v = some (eX x (u2 o 6 11 v) A q F) := by
  unfold sI
  rw [sF_at xm_at (by decide : 11 < 13)]
  exact congrArg some (eX_u2 11 v (by decide) rfl)
theorem xm_12 : gI (eX x o A q F) (some (x + 6)) 2 12 = some (o 6 12) := gI_at xm_at rfl
theorem xms_12 {v : Int32} : sI (eX x o A q F) (some (x + 6)) 2 12 v = some (eX x (u2 o 6 12 v) A q F) := by
  unfold sI
  rw [sF_at xm_at (by decide : 12 < 13)]
  exact congrArg some (eX_u2 12 v (by decide) rfl)
theorem xmz_12 {v : Int32} (h : v = 0 ∨ v = 1) : sZ (eX x o A q F) (some (x + 6)) 2 12 v = some (eX x (u2 o 6 12 v) A q F) := by
  unfold sZ
  rw [if_pos h]
  exact xms_12
theorem x0_O : gO (eX x o A q F) (some x) 6 = some (x, [.ref (x + 1), .ref (x + 6)]) := gO_at eX_0
theorem x0_0 : gR (eX x o A q F) (some x) 6 0 = some (some (x + 1)) := gR_at eX_0 rfl
theorem x0_1 : gR (eX x o A q F) (some x) 6 1 = some (some (x + 6)) := gR_at eX_0 rfl
theorem xq_at : eX x o A q F (x + 7) = some (.inl (5, 4, .inr (.inr (.inr (.inr q))))) := enc_at (k := 7) (by decide)
theorem xq_Q {i : Nat} (hi : i < 4) : aQ (eX x o A q F) (some (x + 7)) 5 (nI i) = some (q i) := aQ_at xq_at hi (by decide)
theorem xp_at : eX x o A q F (x + 8) = some (.inl (1, 3, .inl (A 8))) := enc_at (k := 8) (by decide)
theorem xp_I {i : Nat} (hi : i < 3) : aI (eX x o A q F) (some (x + 8)) 1 (nI i) = some (A 8 i) := aI_at xp_at hi (by decide)
theorem xp_T {i : Nat} {v : Int32} (hi : i < 3) (h : v = 0 ∨ v = 1) : tZ (eX x o A q F) (some (x + 8)) 1 (nI i) v = some (eX x o (va_up A 8 (upd (A 8) i v)) q F) := by
  unfold tZ
  rw [if_pos h, tI_at xp_at hi (by decide)]
  exact congrArg some (eX_uA _ (by decide) rfl)
theorem xw_Q {i : Nat} (hi : i < 10) : aQ (eX x o A q F) (some (x + 17)) 3 (nI i) = some (some (x + (19 + 2 * i))) := by
  rw [aQ_at (enc_at (k := 17) (by decide)) hi (by decide), if_pos hi]
theorem xv_Q {i : Nat} (hi : i < 3) : aQ (eX x o A q F) (some (x + 18)) 4 (nI i) = some (some (x + (39 + 4 * i))) := by
  rw [aQ_at (enc_at (k := 18) (by decide)) hi (by decide), if_pos hi]
end EX
