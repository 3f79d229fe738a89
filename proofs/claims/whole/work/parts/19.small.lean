/-! ===== small methods of both sides, in closed form ===== -/
theorem M_in1 {E : hE} {x a b : Int32} (h1 : a ≤ x) (h2 : x ≤ b) : f_M_in E x a b = some 1 := by
  unfold f_M_in
  rw [if_neg (Int32.not_lt.mpr h1), if_neg (Int32.not_lt.mpr h2)]
  rfl
theorem M_in0 {E : hE} {x a b : Int32} (h : x < a ∨ b < x) : f_M_in E x a b = some 0 := by
  unfold f_M_in
  rcases h with h | h
  · rw [if_pos h]
    rfl
  · by_cases h2 : x < a
    · rw [if_pos h2]
      rfl
    · rw [if_neg h2, if_pos h]
      rfl
theorem nI_up {x : Int32} {n : Nat} (h : nI (n + 1) ≤ x) (hn : n + 1 < 2 ^ 31) : nI n < x := by
  rw [Int32.lt_iff_toInt_lt, nI_toInt (by omega)]
  rw [Int32.le_iff_toInt_le, nI_toInt hn] at h
  omega
theorem M_ix1 {E : hE} {j n : Nat} (h : j ≤ n) (hn : n < 2 ^ 31) : f_M_in E (nI j) 0 (nI n) = some 1 := M_in1 (nI_pos' (by omega)) (nI_le h hn)
theorem M_ix0 {E : hE} {x : Int32} {n : Nat} (h : x < 0 ∨ nI (n + 1) ≤ x) (hn : n + 1 < 2 ^ 31) : f_M_in E x 0 (nI n) = some 0 := M_in0 (h.imp id fun h => nI_up h hn)
theorem M_fi1 {E : hE} {j : Nat} (h : j < 10) : f_M_isFile E (nI j) = some 1 := by
  unfold f_M_isFile
  rw [show f_M_in E (nI j) 0 9 = some 1 from M_ix1 (n := 9) (by omega) (by decide)]
  rfl
theorem M_fi0 {E : hE} {x : Int32} (h : x < 0 ∨ nI 10 ≤ x) : f_M_isFile E x = some 0 := by
  unfold f_M_isFile
  rw [show f_M_in E x 0 9 = some 0 from M_ix0 (n := 9) h (by decide)]
  rfl
section RW
variable {x : Nat} {o : Nat → Nat → Int32} {A : Nat → Nat → Int32} {q : Nat → Option Nat} {F : hE} {k n : Nat}
theorem R_room1 (h : isRow k) (ho : o k 1 = nI n) {c : Nat} (hc : n + c ≤ xN (k + 1)) : f_Row_hasRoomFor (eX x o A q F) (x + k) (nI c) = some 1 := by
  unfold f_Row_hasRoomFor
  have hN := xN_lt (k := k + 1)
  simp only [xr_0 h, xa_L (row_ar h), xr_1 h, Option.bind_some, ho]
  rw [pk_sub (by omega), if_neg (nI_nlt (by omega) (by omega))]
  rfl
theorem R_room0 (h : isRow k) (ho : o k 1 = nI n) {c : Nat} (hn : n ≤ xN (k + 1)) (hc : xN (k + 1) < n + c) (hc2 : c < 2 ^ 31) : f_Row_hasRoomFor (eX x o A q F) (x + k) (nI c) = some 0 := by
  unfold f_Row_hasRoomFor
  have hN := xN_lt (k := k + 1)
  simp only [xr_0 h, xa_L (row_ar h), xr_1 h, Option.bind_some, ho]
  rw [pk_sub (by omega), if_pos (nI_lt (by omega) (by omega))]
  rfl
theorem R_add (h : isRow k) (ho : o k 1 = nI n) (hn : n < xN (k + 1)) (b : Int32) : f_Row_add (x + k) b (eX x o A q F) = some (eX x (u2 (u2 o k 1 (nI (n + 1))) k 2 1) (va_up A (k + 1) (upd (A (k + 1)) n (b &&& 255))) q F) := by
  unfold f_Row_add
  have hN := xN_lt (k := k + 1)
  simp only [xr_1 h, xr_0 h, xa_L (row_ar h), Option.bind_some, ho]
  rw [if_neg (nI_ge hn hN), xa_T (row_ar h) hn, Option.bind_some, xr_1 h, Option.bind_some, ho, nI_1, xs_1 h, Option.bind_some, xs_2 h (Or.inr rfl), Option.bind_some]
  rfl
theorem R_empty (h : isRow k) : f_Row_makeEmpty (x + k) (eX x o A q F) = some (eX x (u2 (u2 o k 1 0) k 2 1) A q F) := by
  unfold f_Row_makeEmpty
  rw [xs_1 h, Option.bind_some, xs_2 h (Or.inr rfl), Option.bind_some]
theorem R_rem (h : isRow k) : f_Row_remove (x + k) (eX x o A q F) = some (eX x (u2 (u2 o k 1 0) k 2 0) A q F) := by
  unfold f_Row_remove
  rw [xs_1 h, Option.bind_some, xs_2 h (Or.inl rfl), Option.bind_some]
theorem R_at1 (h : isRow k) (ho : o k 1 = nI n) (hn : n ≤ xN (k + 1)) {i : Nat} (hi : i < n) : f_Row_at (eX x o A q F) (x + k) (nI i) = some (A (k + 1) i) := by
  unfold f_Row_at
  have hN := xN_lt (k := k + 1)
  rw [if_neg (nI_pos (by omega)), xr_1 h, Option.bind_some, ho, if_neg (nI_ge hi (by omega)), xr_0 h, Option.bind_some, xa_I (row_ar h) (by omega), Option.bind_some]
  rfl
theorem R_at0 (h : isRow k) (ho : o k 1 = nI n) {i : Int32} (hi : i < 0 ∨ nI n ≤ i) : f_Row_at (eX x o A q F) (x + k) i = some (-1) := by
  unfold f_Row_at
  by_cases h0 : i < 0
  · rw [if_pos h0]
    rfl
  · have h1 : nI n ≤ i := hi.resolve_left h0
    rw [if_neg h0, xr_1 h, Option.bind_some, ho, if_pos h1]
    rfl
theorem R_cit (h : isRow k) : f_Row_countIfThere (eX x o A q F) (x + k) = some (if o k 2 = 0 then -1 else o k 1) := by
  unfold f_Row_countIfThere
  rw [xr_2 h, Option.bind_some, xr_1 h]
  by_cases h0 : o k 2 = 0
  · rw [if_pos h0, if_pos h0]
    rfl
  · rw [if_neg h0, if_neg h0]
    rfl
theorem F_row {i : Nat} (h : i < 10) : isRow (19 + 2 * i) := by
  unfold isRow
  omega
theorem F_len {i : Nat} (h : i < 10) : xN (19 + 2 * i + 1) = 40 := by
  unfold xN
  rw [if_neg (by omega), if_neg (by omega), if_neg (by omega), if_pos (by omega)]
theorem X_file1 {i : Nat} (h : i < 10) : f_Mach_fileAt (eX x o A q F) (x + 6) (nI i) = some (some (x + (19 + 2 * i))) := by
  unfold f_Mach_fileAt
  rw [if_neg (nI_pos (by omega)), if_neg (show ¬ (10 : Int32) ≤ nI i from nI_ge (b := 10) h (by decide)), xm_5, Option.bind_some, xw_Q h, Option.bind_some]
  rfl
theorem X_file0 {i : Int32} (h : i < 0 ∨ nI 10 ≤ i) : f_Mach_fileAt (eX x o A q F) (x + 6) i = some none := by
  unfold f_Mach_fileAt
  by_cases h0 : i < 0
  · rw [if_pos h0]
    rfl
  · have h1 : nI 10 ≤ i := h.resolve_left h0
    rw [if_neg h0, if_pos (show (10 : Int32) ≤ i from h1)]
    rfl
end RW
/-! ===== the relation between the two objects ===== -/
def isB (v : Int32) : Prop := v = 0 ∨ v = 1
def isCh (v : Int32) : Prop := ∃ k : Nat, v = nI k ∧ (k = 10 ∨ 32 ≤ k ∧ k ≤ 126)
def isBy (v : Int32) : Prop := ∃ k : Nat, v = nI k ∧ k < 256
def rTape (o2 a3 : Nat → Int32) (s0 : Int32) (b1 : Nat → Int32) : Prop := ∃ n : Nat, n ≤ 400 ∧ o2 1 = nI n ∧ s0 = nI n ∧ ∀ i, i < n → a3 i = b1 i ∧ isCh (b1 i)
def rFile (f : Nat) (ro ra : Nat → Int32) (b11 b12 : Int32) (b13 : Nat → Int32) : Prop := ∃ n : Nat, n ≤ 40 ∧ ro 1 = nI n ∧ b12 = nI n ∧ ro 2 = b11 ∧ isB b11 ∧ (b11 = 0 → n = 0) ∧ ∀ i, i < n → ra i = b13 (40 * f + i) ∧ isBy (ra i)
def rOut (ro ra : Nat → Int32) (s : Int32) (b : Nat → Int32) : Prop := ∃ n : Nat, n ≤ 60 ∧ ro 1 = nI n ∧ s = nI n ∧ ∀ i, i < n → ra i = b i
def rPl (a8 b14 : Nat → Int32) : Prop := ∀ i, i < 3 → a8 i = b14 i ∧ isB (b14 i)
def rRun (o6 o13 a14 s b20 : Nat → Int32) : Prop := o6 7 = s 16 ∧ isB (s 16) ∧ o6 8 = s 17 ∧ o6 9 = s 19 ∧ o6 10 = s 18 ∧ o13 6 = s 20 ∧ ∀ i, i < 8 → a14 i = b20 i ∧ (s 16 = 0 → b20 i = 0)
def rFiles (o A B : Nat → Nat → Int32) : Prop := ∀ f, f < 10 → rFile f (o (19 + 2 * f)) (A (19 + 2 * f + 1)) (B 11 f) (B 12 f) (B 13)
def rSta (o A : Nat → Nat → Int32) (s : Nat → Int32) (B : Nat → Nat → Int32) : Prop := rTape (o 2) (A 3) (s 0) (B 1) ∧ rFiles o A B ∧ rOut (o 9) (A 10) (s 21) (B 15) ∧ rOut (o 11) (A 12) (s 22) (B 16) ∧ rPl (A 8) (B 14) ∧ rRun (o 6) (o 13) (A 14) s (B 20)
section REL
variable {x m : Nat} {o A B : Nat → Nat → Int32} {s : Nat → Int32} {w : Nat → Int64} {q : Nat → Option Nat} {F G : hE}
/-! size, byteOf, said, register, about: answers alike -/
theorem L_size (h : rSta o A s B) (i : Int32) : ∃ v, f_S_size (eX x o A q F) x i = some v ∧ f_M_size (eM m s B w G) m i = some v := by
  obtain ⟨-, hf, -⟩ := h
  unfold f_S_size f_M_size
  rw [x0_1, Option.bind_some, xm_O, Option.bind_some]
  rcases pk_ix i (n := 10) (by decide) with h0 | h0 | ⟨j, hj, rfl⟩
  · rw [X_file0 (Or.inl h0), M_fi0 (Or.inl h0)]
    exact ⟨-1, rfl, rfl⟩
  · rw [X_file0 (Or.inr h0), M_fi0 (Or.inr h0)]
    exact ⟨-1, rfl, rfl⟩
  · obtain ⟨n, -, h1, h2, h3, -⟩ := hf j hj
    simp only [X_file1 hj, M_fi1 hj, Option.bind_some, reduceCtorEq, if_false, xr_O (F_row hj), R_cit (F_row hj), mg_12, ma_11 hj, mg_13, ma_12 hj, h1, h2, h3, show ¬ (1 : Int32) = 0 from by decide]
    by_cases hz : B 11 j = 0
    · rw [if_pos hz, if_pos hz]
      exact ⟨_, rfl, rfl⟩
    · rw [if_neg hz, if_neg hz]
      exact ⟨_, rfl, rfl⟩
theorem nI_top {x : Int32} {n : Nat} (h : nI n ≤ x) (hn : n < 2 ^ 31) : nI n - 1 < x := by
  cases n with
  | zero =>
    rw [nI_0] at h ⊢
    exact Int32.lt_iff_toInt_lt.mpr (by have := Int32.le_iff_toInt_le.mp h; simp at this ⊢; omega)
  | succ n => rw [nI_pred]; exact nI_up h hn
theorem L_byteOf (h : rSta o A s B) (i k : Int32) : ∃ v, f_S_byteOf (eX x o A q F) x i k = some v ∧ f_M_byteOf (eM m s B w G) m i k = some v := by
  obtain ⟨-, hf, -⟩ := h
  unfold f_S_byteOf f_M_byteOf
  rw [x0_1, Option.bind_some, xm_O, Option.bind_some]
  rcases pk_ix i (n := 10) (by decide) with h0 | h0 | ⟨j, hj, rfl⟩
  · rw [X_file0 (Or.inl h0), M_fi0 (Or.inl h0)]
    exact ⟨-1, rfl, rfl⟩
  · rw [X_file0 (Or.inr h0), M_fi0 (Or.inr h0)]
    exact ⟨-1, rfl, rfl⟩
  · obtain ⟨n, hn, h1, h2, h3, h4, h5, h6⟩ := hf j hj
    rw [X_file1 hj, M_fi1 hj, Option.bind_some, Option.bind_some, if_neg (by simp), if_neg (by decide), xr_O (F_row hj), Option.bind_some, mg_12, Option.bind_some, ma_11 hj, Option.bind_some, mg_13, Option.bind_some, ma_12 hj, Option.bind_some, h2]
    have hl := F_len hj
    rcases pk_ix k (n := n) (by omega) with h0 | h0 | ⟨c, hc, rfl⟩
    · rw [R_at0 (F_row hj) h1 (Or.inl h0), M_in0 (Or.inl h0)]
      refine ⟨-1, rfl, ?_⟩
      split <;> rfl
    · rw [R_at0 (F_row hj) h1 (Or.inr h0), M_in0 (Or.inr (nI_top h0 (by omega)))]
      refine ⟨-1, rfl, ?_⟩
      split <;> rfl
    · have hz : ¬ B 11 j = 0 := fun z => by have := h5 z; omega
      obtain ⟨n', rfl⟩ : ∃ n', n = n' + 1 := ⟨n - 1, by omega⟩
      rw [R_at1 (F_row hj) h1 (by omega) hc, if_neg hz, nI_pred, M_ix1 (by omega) (by omega)]
      simp only [Option.bind_some, show ¬ (1 : Int32) = 0 from by decide, if_false, mg_14]
      rw [show (40 : Int32) = nI 40 from rfl, pk_mul, nI_add, ma_13 (by omega), (h6 c hc).1]
      exact ⟨_, rfl, rfl⟩
theorem L_said (h : rSta o A s B) (i k : Int32) : ∃ v, f_S_said (eX x o A q F) x i k = some v ∧ f_M_said (eM m s B w G) m i k = some v := by
  obtain ⟨-, -, hO, hE, -⟩ := h
  unfold f_S_said f_M_said
  by_cases h0 : i = 0
  · obtain ⟨n, hn, h1, h2, h3⟩ := hO
    rw [if_pos h0, if_pos h0, x0_1, Option.bind_some, xm_2, Option.bind_some, xr_O (k := 9) (by unfold isRow; omega), Option.bind_some, mg_21, Option.bind_some, h2]
    rcases pk_ix k (n := n) (by omega) with h0 | h0 | ⟨c, hc, rfl⟩
    · rw [R_at0 (k := 9) (by unfold isRow; omega) h1 (Or.inl h0), M_in0 (Or.inl h0)]
      exact ⟨-1, rfl, rfl⟩
    · rw [R_at0 (k := 9) (by unfold isRow; omega) h1 (Or.inr h0), M_in0 (Or.inr (nI_top h0 (by omega)))]
      exact ⟨-1, rfl, rfl⟩
    · obtain ⟨n', rfl⟩ : ∃ n', n = n' + 1 := ⟨n - 1, by omega⟩
      rw [R_at1 (k := 9) (by unfold isRow; omega) h1 hn hc, nI_pred, M_ix1 (by omega) (by omega), Option.bind_some, Option.bind_some, if_neg (by decide), mg_23, Option.bind_some, ma_15 (by omega), h3 c hc]
      exact ⟨_, rfl, rfl⟩
  · rw [if_neg h0, if_neg h0]
    by_cases h1' : i = 1
    · obtain ⟨n, hn, h1, h2, h3⟩ := hE
      rw [if_pos h1', if_pos h1', x0_1, Option.bind_some, xm_3, Option.bind_some, xr_O (k := 11) (by unfold isRow; omega), Option.bind_some, mg_22, Option.bind_some, h2]
      rcases pk_ix k (n := n) (by omega) with h0 | h0 | ⟨c, hc, rfl⟩
      · rw [R_at0 (k := 11) (by unfold isRow; omega) h1 (Or.inl h0), M_in0 (Or.inl h0)]
        exact ⟨-1, rfl, rfl⟩
      · rw [R_at0 (k := 11) (by unfold isRow; omega) h1 (Or.inr h0), M_in0 (Or.inr (nI_top h0 (by omega)))]
        exact ⟨-1, rfl, rfl⟩
      · obtain ⟨n', rfl⟩ : ∃ n', n = n' + 1 := ⟨n - 1, by omega⟩
        rw [R_at1 (k := 11) (by unfold isRow; omega) h1 hn hc, nI_pred, M_ix1 (by omega) (by omega), Option.bind_some, Option.bind_some, if_neg (by decide), mg_24, Option.bind_some, ma_16 (by omega), h3 c hc]
        exact ⟨_, rfl, rfl⟩
    · rw [if_neg h1', if_neg h1']
      exact ⟨-1, rfl, rfl⟩
theorem L_register (h : rSta o A s B) (i : Int32) : ∃ v, f_S_register (eX x o A q F) x i = some v ∧ f_M_register (eM m s B w G) m i = some v := by
  obtain ⟨-, -, -, -, -, hR⟩ := h
  obtain ⟨-, -, -, -, -, -, hr⟩ := hR
  unfold f_S_register f_M_register
  rw [mg_16, Option.bind_some]
  rcases pk_ix i (n := 8) (by decide) with h0 | h0 | ⟨j, hj, rfl⟩
  · rw [if_pos h0, M_in0 (Or.inl h0)]
    refine ⟨0, rfl, ?_⟩
    split <;> rfl
  · have h00 : ¬ i < 0 := fun z => by
      have h1 := Int32.lt_iff_toInt_lt.mp z
      have h2 := Int32.le_iff_toInt_le.mp h0
      rw [nI_toInt (by decide)] at h2
      simp at h1
      omega
    rw [if_neg h00, if_pos (show (8 : Int32) ≤ i from h0), show f_M_in (eM m s B w G) i 0 7 = some 0 from M_ix0 (n := 7) (Or.inr h0) (by decide)]
    refine ⟨0, rfl, ?_⟩
    split <;> rfl
  · rw [if_neg (nI_pos (by omega)), if_neg (show ¬ (8 : Int32) ≤ nI j from nI_ge (b := 8) hj (by decide)), x0_1, Option.bind_some, xm_4, Option.bind_some, xf_1 (k := 13) (by unfold isFr; omega), Option.bind_some, xa_I (k := 14) (by unfold isAr; omega) (show j < 8 from hj), Option.bind_some, show f_M_in (eM m s B w G) (nI j) 0 7 = some 1 from M_ix1 (n := 7) (by omega) (by decide), mg_29, Option.bind_some, Option.bind_some, ma_20 (by omega)]
    obtain ⟨h1, h2⟩ := hr j hj
    by_cases hz : s 16 = 0
    · rw [if_pos hz, h1, h2 hz]
      exact ⟨0, rfl, rfl⟩
    · rw [if_neg hz, if_neg (by decide), h1]
      exact ⟨_, rfl, rfl⟩
theorem L_about (h : rSta o A s B) (i : Int32) : ∃ v, f_S_about (eX x o A q F) x i = some v ∧ f_M_about (eM m s B w G) m i = some v := by
  obtain ⟨-, -, hO, hE, -, hR⟩ := h
  obtain ⟨h1, h2, h3, h4, h5, h6, -⟩ := hR
  obtain ⟨n, -, o1, o2, -⟩ := hO
  obtain ⟨n', -, e1, e2, -⟩ := hE
  unfold f_S_about f_M_about
  have r9 : isRow 9 := by unfold isRow; omega
  have r11 : isRow 11 := by unfold isRow; omega
  have f13 : isFr 13 := by unfold isFr; omega
  simp only [x0_1, xm_7, xm_8, xm_9, xm_10, xm_2, xm_3, xm_4, xr_1 r9, xr_1 r11, xf_6 f13, mg_16, mg_17, mg_18, mg_19, mg_20, mg_21, mg_22, Option.bind_some, h1, h3, h4, h5, h6, o1, o2, e1, e2]
  repeat' split
  all_goals exact ⟨_, rfl, rfl⟩
end REL
