/-! ===== the class: texts that were there before, words of the tape's line ===== -/
/-- a text of plain letters -/
def strS (S : hE) (a : Nat) (kw : List Nat) : Prop := ∃ (b : Nat) (f : Nat → Int32), So S a = some (.inr (100, [.ref b, .int 0])) ∧ Sa S b = some (.inl (100, kw.length, .inl f)) ∧ (∀ i, i < kw.length → f i = nI (kw.getD i 0)) ∧ kw.length < 100 ∧ ∀ d ∈ kw, d < 128
section STR
variable {S E : hE} {g : Nat → Nat} {a N : Nat} {kw : List Nat}
theorem sL1_at {b n t : Nat} {f : Nat → Int32} (h : Sa S b = some (.inl (t, n, .inl f))) : sL1 (Sa S) (some b) t = some (nI n) := by
  simp [sL1, gA_at h, vAi]
theorem str_O (h : strS S a kw) : ∃ fs, gO (So S) (some a) 100 = some (a, fs) := by
  obtain ⟨b, f, h1, h2⟩ := h
  exact ⟨_, gO_at h1⟩
theorem str_len (h : strS S a kw) : f_Str_length S g E a = some (nI kw.length) := by
  obtain ⟨b, f, h1, h2, h3, h4, h5⟩ := h
  unfold f_Str_length f_Str_coder f_Str_coder_b14
  rw [gR_at h1 rfl, Option.bind_some, sL1_at h2, Option.bind_some, gO_at h1, Option.bind_some, if_neg (by decide), gI_at (k := 1) h1 rfl, Option.bind_some, show bT .byte 0 = some 0 from by decide, Option.bind_some, Option.bind_some]
  rw [show ((0 : Int32) &&& 31) = 0 from by decide]
  congr 1
  exact sc_shr0 (by omega)
theorem gD_mem {l : List Nat} {i : Nat} (h : i < l.length) : l.getD i 0 ∈ l := by
  have : l.getD i 0 = l[i] := by simp [List.getD, h]
  rw [this]
  exact List.getElem_mem _
theorem str_at (h : strS S a kw) {i : Nat} (hi : i < kw.length) : f_Str_charAt S g E a (nI i) = some (nI (kw.getD i 0)) := by
  obtain ⟨b, f, h1, h2, h3, h4, h5⟩ := h
  have hd := h5 _ (gD_mem hi)
  unfold f_Str_charAt f_Str_isLatin1 f_Str_isLatin1_b18 f_SL1_charAt f_Str_checkIndex f_Pre_checkIndex
  simp only [gO_at h1, Option.bind_some, gI_at (k := 1) h1 (show [Value.ref b, Value.int 0][1]? = some (.int 0) from rfl), if_neg (show ¬ (1 : Int32) = 0 from by decide), if_true, show bZ 1 = some 1 from rfl, gR_at (k := 0) h1 (show [Value.ref b, Value.int 0][0]? = some (.ref b) from rfl), sL1_at h2, if_neg (nI_pos (show i < 2 ^ 31 by omega)), if_pos (nI_lt hi (show kw.length < 2 ^ 31 by omega)), aI_at h2 hi (by omega), h3 i hi]
  have e : ((nI (kw.getD i 0) &&& 255).toUInt32 % 65536).toInt32 = nI (kw.getD i 0) := by
    rw [pk_andN (by omega) 8 (by decide), Nat.mod_eq_of_lt (by omega)]
    exact (sb_byte _ (by omega)).2.1
  rw [e]
  have hb : ∀ c, c < 128 → bT .char (nI c) = some (nI c) := by decide +kernel
  rw [hb _ hd, Option.bind_some]
end STR
/-- the tape's view of the words of its line -/
def tvw (o A : Nat → Nat → Int32) (t : Nat → Int32) (n : Nat) (W : Nat × (Nat → Nat) × (Nat → Nat)) : Prop := o 1 3 = nI W.1 ∧ W.1 ≤ 400 ∧ n ≤ 400 ∧ (∀ i, i < n → A 3 i = t i) ∧ ∀ k, k < W.1 → k < 6 → A 4 k = nI (W.2.1 k) ∧ A 5 k = nI (W.2.2 k) ∧ wok t (W.2.1 k) (W.2.2 k) ∧ W.2.2 k ≤ n
section TAP
variable {S : hE} {g : Nat → Nat} {x N n k : Nat} {o A : Nat → Nat → Int32} {q : Nat → Option Nat} {F : hE} {t : Nat → Int32} {W : Nat × (Nat → Nat) × (Nat → Nat)}
theorem a4 : isAr 4 := by unfold isAr; omega
theorem a5 : isAr 5 := by unfold isAr; omega
theorem a3 : isAr 3 := by unfold isAr; omega
theorem r2' : isRow 2 := by unfold isRow; omega
theorem T_len (h : tvw o A t n W) (hk : k < W.1) (h6 : k < 6) : f_Tape_lengthOf (eX x o A q F) (x + 1) (nI k) = some (nI (W.2.2 k - W.2.1 k)) := by
  obtain ⟨h1, hW, h2, h3, h4⟩ := h
  obtain ⟨b1, b2, b3, b4⟩ := h4 k hk h6
  unfold f_Tape_lengthOf f_Tape_lengthOf_b23 f_Tape_lengthOf_b45
  rw [if_neg (nI_pos (by omega)), xt_3, Option.bind_some, h1, if_neg (nI_ge hk (by omega)), if_neg (show ¬ (6 : Int32) ≤ nI k from nI_ge (b := 6) h6 (by decide)), if_neg (by decide), xt_2, Option.bind_some, xa_I (k := 5) a5 (show k < 6 from h6), Option.bind_some, xt_1, Option.bind_some, xa_I (k := 4) a4 (show k < 6 from h6), Option.bind_some, b1, b2, pk_sub (by have := b3.1; omega)]
theorem T_let (h : tvw o A t n W) (hk : k < W.1) (h6 : k < 6) {i : Nat} (hi : i < 400) : f_Tape_letterAt (eX x o A q F) (x + 1) (nI k) (nI i) = some (if i < W.2.2 k - W.2.1 k then t (W.2.1 k + i) else -1) := by
  obtain ⟨h1, hW, h2, h3, h4⟩ := h
  obtain ⟨b1, b2, b3, b4⟩ := h4 k hk h6
  have hf := b3.1
  unfold f_Tape_letterAt f_Tape_letterAt_b63 f_Tape_letterAt_b64 f_Tape_letterAt_b84
  rw [if_neg (nI_pos (by omega)), xt_3, Option.bind_some, h1, if_neg (nI_ge hk (by omega)), if_pos (show nI k < 6 from nI_lt (b := 6) h6 (by decide)), xt_1, Option.bind_some, xa_I (k := 4) a4 (show k < 6 from h6), Option.bind_some, b1, if_neg (nI_pos (by omega)), nI_add, if_neg (nI_pos (by omega)), xt_2, Option.bind_some, xa_I (k := 5) a5 (show k < 6 from h6), Option.bind_some, b2]
  by_cases hl : i < W.2.2 k - W.2.1 k
  · rw [if_neg (nI_ge (by omega) (by omega)), xt_0, Option.bind_some, xr_0 r2', Option.bind_some, xa_L a3, Option.bind_some, if_neg (show ¬ nI (xN 3) ≤ nI (W.2.1 k + i) from nI_ge (show W.2.1 k + i < 400 by omega) (by decide)), if_neg (show ¬ (1 : Int32) = 0 from by decide), if_pos hl, Option.bind_some, xr_0 r2', Option.bind_some, xa_I a3 (show W.2.1 k + i < 400 by omega), Option.bind_some, h3 _ (by omega)]
  · rw [if_pos (nI_le (by omega) (by omega)), if_pos rfl, if_neg hl]
theorem T_ol (h : tvw o A t n W) (hk : k < W.1) (h6 : k < 6) : f_Tape_onlyLetter (eX x o A q F) (x + 1) (nI k) = some (ol t (W.2.1 k) (W.2.2 k)) := by
  obtain ⟨b1, b2, b3, b4⟩ := h.2.2.2.2 k hk h6
  have hn := h.2.2.1
  unfold f_Tape_onlyLetter f_Tape_onlyLetter_b19 ol
  rw [xt_O, Option.bind_some, T_len h hk h6, Option.bind_some]
  by_cases h1 : W.2.2 k - W.2.1 k = 1
  · rw [if_pos (show nI (W.2.2 k - W.2.1 k) = 1 from by rw [h1]; rfl), if_pos h1, Option.bind_some, show (0 : Int32) = nI 0 from rfl, T_let h hk h6 (by decide), Option.bind_some, if_pos (show 0 < W.2.2 k - W.2.1 k by omega)]
    rfl
  · rw [if_neg (show ¬ nI (W.2.2 k - W.2.1 k) = 1 from fun z => h1 ((nI_eq (b := 1) (by omega) (by decide)).mp z)), if_neg h1]
theorem T_reg {E : hE} (v : Int32) : f_Tape_registerNamed E v = some (if isRg v = true then v - 97 else -1) := by
  unfold f_Tape_registerNamed f_Tape_registerNamed_b19 f_Tape_registerNamed_b20 isRg
  have key : (105 ≤ v) ↔ ¬ v ≤ 104 := by
    rw [Int32.le_iff_toInt_le, Int32.le_iff_toInt_le, show (105 : Int32).toInt = 105 from by decide, show (104 : Int32).toInt = 104 from by decide]
    omega
  by_cases h1 : v < 97
  · rw [if_pos h1, decide_eq_false (Int32.not_le.mpr h1)]
    rfl
  · rw [if_neg h1, decide_eq_true (Int32.not_lt.mp h1)]
    by_cases h2 : v ≤ 104
    · rw [if_neg (fun z => key.mp z h2), decide_eq_true h2]
      rfl
    · rw [if_pos (key.mpr h2), decide_eq_false h2]
      rfl
theorem T_lab {E : hE} (v : Int32) : f_Tape_labelNamed E v = some (if isLt v = true then v - 65 else -1) := by
  unfold f_Tape_labelNamed f_Tape_labelNamed_b19 f_Tape_labelNamed_b20 isLt
  by_cases h1 : v < 65
  · rw [if_pos h1, decide_eq_false (Int32.not_le.mpr h1)]
    rfl
  · rw [if_neg h1, decide_eq_true (Int32.not_lt.mp h1)]
    by_cases h2 : 90 < v
    · rw [if_pos h2, decide_eq_false (Int32.not_le.mpr h2)]
      rfl
    · rw [if_neg h2, decide_eq_true (Int32.not_lt.mp h2)]
      rfl
theorem T_isW16 {a : Nat} {kw : List Nat} (hs : strS S a kw) (h : tvw o A t n W) (hk : k < W.1) (h6 : k < 6) (hl : W.2.2 k - W.2.1 k = kw.length) : ∀ (r i fuel : Nat), i + r = kw.length → r < fuel → f_Tape_isWord_b16 S g N (eX x o A q F) fuel (some (x + 1)) (nI k) (some a) (nI i) = some (bI (isWl t (W.2.1 k + i) (kw.drop i))) := by
  have hlen : kw.length < 100 := by obtain ⟨_, _, _, _, _, h, _⟩ := hs; exact h
  have hd : ∀ d ∈ kw, d < 128 := by obtain ⟨_, _, _, _, _, _, h⟩ := hs; exact h
  obtain ⟨b1, b2, b3, b4⟩ := h.2.2.2.2 k hk h6
  have hn := h.2.2.1
  intro r
  induction r with
  | zero =>
    intro i fuel hi hf
    obtain ⟨fuel, rfl⟩ : ∃ j, fuel = j + 1 := ⟨fuel - 1, by omega⟩
    obtain ⟨fs, ho⟩ := str_O hs
    rw [f_Tape_isWord_b16, ho, Option.bind_some, str_len hs, Option.bind_some, if_pos (nI_le (by omega) (by omega)), List.drop_eq_nil_of_le (by omega)]
    rfl
  | succ r ih =>
    intro i fuel hi hf
    obtain ⟨fuel, rfl⟩ : ∃ j, fuel = j + 1 := ⟨fuel - 1, by omega⟩
    obtain ⟨fs, ho⟩ := str_O hs
    have hil : i < kw.length := by omega
    have e : kw.drop i = kw.getD i 0 :: kw.drop (i + 1) := by
      rw [List.drop_eq_getElem_cons hil]
      simp [List.getD, hil]
    rw [f_Tape_isWord_b16, ho, Option.bind_some, str_len hs, Option.bind_some, if_neg (nI_ge (by omega) (by omega)), xt_O, Option.bind_some, T_let h hk h6 (by omega), Option.bind_some, if_pos (show i < W.2.2 k - W.2.1 k by omega), Option.bind_some, str_at hs hil, Option.bind_some, e, isWl]
    by_cases hc : t (W.2.1 k + i) = nI (kw.getD i 0)
    · rw [if_pos hc, decide_eq_true hc, Bool.true_and, nI_1, ih (i + 1) fuel (by omega) (by omega)]
      rfl
    · rw [if_neg hc, decide_eq_false hc]
      rfl
theorem T_isW (hN : 400 < N) {a : Nat} {kw : List Nat} (hs : strS S a kw) (h : tvw o A t n W) (hk : k < W.1) (h6 : k < 6) : f_Tape_isWord S g N (eX x o A q F) (x + 1) (nI k) (some a) = some (bI (isWb t (W.2.1 k) (W.2.2 k) kw)) := by
  have hlen : kw.length < 100 := by obtain ⟨_, _, _, _, _, h, _⟩ := hs; exact h
  obtain ⟨b1, b2, b3, b4⟩ := h.2.2.2.2 k hk h6
  have hn := h.2.2.1
  obtain ⟨fs, ho⟩ := str_O hs
  unfold f_Tape_isWord isWb
  rw [xt_O, Option.bind_some, T_len h hk h6, Option.bind_some, ho, Option.bind_some, str_len hs, Option.bind_some]
  by_cases hl : W.2.2 k - W.2.1 k = kw.length
  · rw [if_pos (by rw [hl]), decide_eq_true hl, Bool.true_and, show (0 : Int32) = nI 0 from rfl, T_isW16 hs h hk h6 hl kw.length 0 N (by omega) (by omega)]
    rfl
  · rw [if_neg (fun z => hl ((nI_eq (by omega) (by omega)).mp z)), decide_eq_false hl]
    rfl
theorem T_op83 (h : tvw o A t n W) (hk : k < W.1) (h6 : k < 6) {y3 : Int32} : ∀ (r i fuel : Nat) (a : Int32), i + r = W.2.2 k - W.2.1 k → r < fuel → f_Tape_operandAt_b83 N (eX x o A q F) fuel (some (x + 1)) (nI k) y3 (nI (W.2.2 k - W.2.1 k)) a (nI i) = some ((nv t (W.2.1 k + i) r a).elim (-1000000) (fun v => if y3 = 0 then v else -v)) := by
  obtain ⟨b1, b2, b3, b4⟩ := h.2.2.2.2 k hk h6
  have hn := h.2.2.1
  intro r
  induction r with
  | zero =>
    intro i fuel a hi hf
    obtain ⟨fuel, rfl⟩ : ∃ j, fuel = j + 1 := ⟨fuel - 1, by omega⟩
    rw [f_Tape_operandAt_b83, if_pos (nI_le (by omega) (by omega)), nv]
    unfold f_Tape_operandAt_b147
    split <;> simp_all
  | succ r ih =>
    intro i fuel a hi hf
    obtain ⟨fuel, rfl⟩ : ∃ j, fuel = j + 1 := ⟨fuel - 1, by omega⟩
    rw [f_Tape_operandAt_b83, if_neg (nI_ge (by omega) (by omega)), xt_O, Option.bind_some, T_let h hk h6 (by omega), Option.bind_some, if_pos (show i < W.2.2 k - W.2.1 k by omega), nv]
    by_cases h1 : t (W.2.1 k + i) < 48
    · rw [if_pos h1, if_neg (fun z => absurd h1 (Int32.not_lt.mpr z.1))]
      rfl
    · by_cases h2 : t (W.2.1 k + i) ≤ 57
      · rw [if_neg h1, if_pos h2, if_pos ⟨Int32.not_lt.mp h1, h2⟩, nI_1, ih (i + 1) fuel _ (by omega) (by omega)]
        rfl
      · rw [if_neg h1, if_neg h2, if_neg (fun z => h2 z.2)]
        rfl
theorem T_op (hN : 400 < N) (h : tvw o A t n W) (hk : k < W.1) (h6 : k < 6) : f_Tape_operandAt N (eX x o A q F) (x + 1) (nI k) = some (opd t (W.2.1 k) (W.2.2 k)) := by
  obtain ⟨b1, b2, b3, b4⟩ := h.2.2.2.2 k hk h6
  have hn := h.2.2.1
  have hf := b3.1
  unfold f_Tape_operandAt opd
  rw [xt_O, Option.bind_some, T_ol h hk h6, Option.bind_some, T_reg, Option.bind_some]
  by_cases hr : isRg (ol t (W.2.1 k) (W.2.2 k)) = true
  · rw [if_pos hr, if_pos hr, if_neg]
    obtain ⟨r, hr8, hv⟩ := isRg_i.mp hr
    rw [hv, show (97 : Int32) = nI 97 from rfl, pk_sub (by omega)]
    intro z
    have := congrArg Int32.toInt z
    rw [nI_toInt (by omega), show (-1 : Int32).toInt = -1 from by decide] at this
    omega
  · rw [if_neg hr, if_neg hr, if_pos rfl, Option.bind_some, show (0 : Int32) = nI 0 from rfl, T_let h hk h6 (by decide), Option.bind_some, if_pos (show 0 < W.2.2 k - W.2.1 k by omega), Nat.add_zero]
    have key : ∀ y3 : Int32, ((y3 = 0) ↔ ¬ t (W.2.1 k) = 45) → f_Tape_operandAt_b45 N (eX x o A q F) (some (x + 1)) (nI k) y3 (nI (sgz t (W.2.1 k))) = some ((opv t (W.2.1 k) (W.2.2 k)).getD (-1000000)) := by
      intro y3 hy
      have hz : sgz t (W.2.1 k) ≤ 1 := by unfold sgz; split <;> omega
      unfold f_Tape_operandAt_b45 opv f_Tape_operandAt_b73
      rw [xt_O, Option.bind_some, T_len h hk h6, Option.bind_some, pk_sub (by omega)]
      by_cases h1 : W.2.2 k - W.2.1 k - sgz t (W.2.1 k) < 1
      · rw [if_pos (show nI _ < 1 from nI_lt (b := 1) h1 (by decide)), if_pos (Or.inl h1)]
        rfl
      · by_cases h2 : 6 < W.2.2 k - W.2.1 k - sgz t (W.2.1 k)
        · rw [if_neg (show ¬ nI _ < 1 from nI_nlt (b := 1) (by omega) (by omega)), if_neg (show ¬ nI _ ≤ 6 from nI_ge (a := 6) h2 (by omega)), if_pos (Or.inr h2)]
          rfl
        · rw [if_neg (show ¬ nI _ < 1 from nI_nlt (b := 1) (by omega) (by omega)), if_pos (show nI _ ≤ 6 from nI_le (b := 6) (by omega) (by decide)), if_neg (by omega), T_op83 h hk h6 (W.2.2 k - W.2.1 k - sgz t (W.2.1 k)) (sgz t (W.2.1 k)) N 0 (by omega) (by omega)]
          cases nv t (W.2.1 k + sgz t (W.2.1 k)) (W.2.2 k - W.2.1 k - sgz t (W.2.1 k)) 0 with
          | none => rfl
          | some v =>
            by_cases h45 : t (W.2.1 k) = 45
            · simp only [Option.elim_some, Option.map_some, Option.getD_some]
              rw [if_pos h45, if_neg (fun z => hy.mp z h45)]
            · simp only [Option.elim_some, Option.map_some, Option.getD_some]
              rw [if_neg h45, if_pos (hy.mpr h45)]
    unfold f_Tape_operandAt_b35
    unfold sgz at key
    by_cases h45 : t (W.2.1 k) = 45
    · have := key 1 ⟨fun z => absurd z (by decide), fun z => absurd h45 z⟩
      rw [if_pos h45] at this
      rw [if_pos h45, if_neg (by decide)]
      exact this
    · have := key 0 ⟨fun _ => h45, fun _ => rfl⟩
      rw [if_neg h45] at this
      rw [if_neg h45, if_pos (by rfl)]
      exact this
end TAP
