/-! ===== plant, clear, file, text ===== -/
def Alk (x m : Nat) (q : Nat → Option Nat) (B : Nat → Nat → Int32) (F G : hE) (rS rM : Option (Int32 × hE)) : Prop := ∃ (v : Int32) (o' A' : Nat → Nat → Int32) (s' : Nat → Int32) (B' : Nat → Nat → Int32) (w' : Nat → Int64), rS = some (v, eX x o' A' q F) ∧ rM = some (v, eM m s' B' w' G) ∧ rSta o' A' s' B' ∧ ∀ k, 2 ≤ k → k ≤ 7 → B' k = B k
theorem lt0_big {i : Int32} {n : Nat} (h : nI n ≤ i) (hn : n < 2 ^ 31) : ¬ i < 0 := fun z => by
  have h1 := Int32.lt_iff_toInt_lt.mp z
  have h2 := Int32.le_iff_toInt_le.mp h
  rw [nI_toInt hn] at h2
  simp at h1
  omega
section CAL
variable {x m : Nat} {o A o' A' B B' : Nat → Nat → Int32} {s : Nat → Int32} {w : Nat → Int64} {q : Nat → Option Nat} {F G : hE}
theorem L_plant (h : rSta o A s B) (i b : Int32) (hb : isB b) : Alk x m q B F G (f_S_plant x i b (eX x o A q F)) (f_M_plant m i b (eM m s B w G)) := by
  obtain ⟨hT, hF, hO, hE, hP, hR⟩ := h
  unfold f_S_plant f_M_plant
  rcases pk_ix i (n := 3) (by decide) with h0 | h0 | ⟨j, hj, rfl⟩
  · rw [if_pos h0, M_in0 (Or.inl h0)]
    exact ⟨0, o, A, s, B, w, rfl, rfl, ⟨hT, hF, hO, hE, hP, hR⟩, fun _ _ _ => rfl⟩
  · rw [if_neg (lt0_big h0 (by decide)), if_neg (show ¬ i < 3 from Int32.not_lt.mpr h0), show f_M_in (eM m s B w G) i 0 2 = some 0 from M_ix0 (n := 2) (Or.inr h0) (by decide)]
    exact ⟨0, o, A, s, B, w, rfl, rfl, ⟨hT, hF, hO, hE, hP, hR⟩, fun _ _ _ => rfl⟩
  · rw [if_neg (nI_pos (by omega)), if_pos (show nI j < 3 from nI_lt (b := 3) hj (by decide)), show f_M_in (eM m s B w G) (nI j) 0 2 = some 1 from M_ix1 (n := 2) (by omega) (by decide)]
    simp only [x0_1, xm_1, xp_T hj hb, Option.bind_some, show ¬ (1 : Int32) = 0 from by decide, if_false, mg_15, mz_14 hj hb]
    refine ⟨1, o, _, s, _, w, rfl, rfl, ⟨?_, ?_, ?_, ?_, ?_, ?_⟩, fun k h1 h2 => va_up_ne _ _ (by omega)⟩
    · rw [va_up_ne _ _ (by decide), va_up_ne _ _ (by decide)]; exact hT
    · intro f hf
      rw [va_up_ne _ _ (by omega), va_up_ne _ _ (by decide), va_up_ne _ _ (by decide), va_up_ne _ _ (by decide)]; exact hF f hf
    · rw [va_up_ne _ _ (by decide), va_up_ne _ _ (by decide)]; exact hO
    · rw [va_up_ne _ _ (by decide), va_up_ne _ _ (by decide)]; exact hE
    · rw [va_up_self, va_up_self]
      intro c hc
      by_cases hcj : c = j
      · subst hcj
        rw [upd_self, upd_self]
        exact ⟨rfl, hb⟩
      · rw [upd_ne _ _ hcj, upd_ne _ _ hcj]
        exact hP c hc
    · rw [va_up_ne _ _ (by decide), va_up_ne _ _ (by decide)]; exact hR
theorem rSta_files (h : rSta o A s B) (ho : ∀ k, k < 19 → o' k = o k) (hA : ∀ k, k < 19 → A' k = A k) (hB : ∀ k, k ≠ 11 → k ≠ 12 → k ≠ 13 → B' k = B k) (hf : rFiles o' A' B') : rSta o' A' s B' := by
  obtain ⟨hT, hF, hO, hE, hP, hR⟩ := h
  refine ⟨?_, hf, ?_, ?_, ?_, ?_⟩
  · rw [ho _ (by decide), hA _ (by decide), hB _ (by decide) (by decide) (by decide)]; exact hT
  · rw [ho _ (by decide), hA _ (by decide), hB _ (by decide) (by decide) (by decide)]; exact hO
  · rw [ho _ (by decide), hA _ (by decide), hB _ (by decide) (by decide) (by decide)]; exact hE
  · rw [hA _ (by decide), hB _ (by decide) (by decide) (by decide)]; exact hP
  · rw [ho _ (by decide), ho _ (by decide), hA _ (by decide), hB _ (by decide) (by decide) (by decide)]; exact hR
/-- files but one are as they were -/
def oneF (j : Nat) (o A B o' A' B' : Nat → Nat → Int32) : Prop := (∀ k, k ≠ 19 + 2 * j → o' k = o k) ∧ (∀ k, k ≠ 19 + 2 * j + 1 → A' k = A k) ∧ (∀ k, k ≠ 11 → k ≠ 12 → k ≠ 13 → B' k = B k) ∧ ∀ f, f ≠ j → B' 11 f = B 11 f ∧ B' 12 f = B 12 f ∧ ∀ i, i < 40 → B' 13 (40 * f + i) = B 13 (40 * f + i)
theorem oneF_files {j : Nat} (h : rFiles o A B) (h1 : oneF j o A B o' A' B') (h2 : rFile j (o' (19 + 2 * j)) (A' (19 + 2 * j + 1)) (B' 11 j) (B' 12 j) (B' 13)) : rFiles o' A' B' := by
  intro f hf
  by_cases hj : f = j
  · subst hj
    exact h2
  · obtain ⟨n, a1, a2, a3, a4, a5, a6, a7⟩ := h f hf
    obtain ⟨b1, b2, b3⟩ := h1.2.2.2 f hj
    rw [h1.1 _ (by omega), h1.2.1 _ (by omega), b1, b2]
    exact ⟨n, a1, a2, a3, a4, a5, a6, fun i hi => by rw [b3 i (by omega)]; exact a7 i hi⟩
theorem oneF_sta {j : Nat} (h : rSta o A s B) (h1 : oneF j o A B o' A' B') (h2 : rFile j (o' (19 + 2 * j)) (A' (19 + 2 * j + 1)) (B' 11 j) (B' 12 j) (B' 13)) : rSta o' A' s B' :=
  rSta_files h (fun k hk => h1.1 k (by omega)) (fun k hk => h1.2.1 k (by omega)) h1.2.2.1 (oneF_files h.2.1 h1 h2)
theorem oneF_refl {j : Nat} : oneF j o A B o A B := ⟨fun _ _ => rfl, fun _ _ => rfl, fun _ _ _ _ => rfl, fun _ _ => ⟨rfl, rfl, fun _ _ => rfl⟩⟩
theorem oneF_trans {j : Nat} {o1 A1 B1 : Nat → Nat → Int32} (h : oneF j o A B o1 A1 B1) (h' : oneF j o1 A1 B1 o' A' B') : oneF j o A B o' A' B' :=
  ⟨fun k hk => (h'.1 k hk).trans (h.1 k hk), fun k hk => (h'.2.1 k hk).trans (h.2.1 k hk), fun k a b c => (h'.2.2.1 k a b c).trans (h.2.2.1 k a b c), fun f hf => ⟨(h'.2.2.2 f hf).1.trans (h.2.2.2 f hf).1, (h'.2.2.2 f hf).2.1.trans (h.2.2.2 f hf).2.1, fun i hi => ((h'.2.2.2 f hf).2.2 i hi).trans ((h.2.2.2 f hf).2.2 i hi)⟩⟩
theorem L_clear (h : rSta o A s B) (i b : Int32) (hb : isB b) : Alk x m q B F G (f_S_clear x i b (eX x o A q F)) (f_M_clear m i b (eM m s B w G)) := by
  unfold f_S_clear f_M_clear
  rw [x0_1, Option.bind_some, xm_O, Option.bind_some]
  rcases pk_ix i (n := 10) (by decide) with h0 | h0 | ⟨j, hj, rfl⟩
  · rw [X_file0 (Or.inl h0), M_fi0 (Or.inl h0)]
    exact ⟨0, o, A, s, B, w, rfl, rfl, h, fun _ _ _ => rfl⟩
  · rw [X_file0 (Or.inr h0), M_fi0 (Or.inr h0)]
    exact ⟨0, o, A, s, B, w, rfl, rfl, h, fun _ _ _ => rfl⟩
  · simp only [X_file1 hj, M_fi1 hj, Option.bind_some, reduceCtorEq, if_false, xr_O (F_row hj), R_rem (F_row hj), R_empty (F_row hj), mg_12, mz_11 hj hb, mg_13, show (0 : Int32) = nI 0 from rfl, mt_12 hj, show ¬ (1 : Int32) = nI 0 from by decide]
    have e1 : oneF j o A B (u2 (u2 o (19 + 2 * j) 1 (nI 0)) (19 + 2 * j) 2 b) A (va_up (va_up B 11 (upd (B 11) j b)) 12 (upd (va_up B 11 (upd (B 11) j b) 12) j (nI 0))) := by
      refine ⟨fun k hk => by rw [u2_n _ _ _ hk, u2_n _ _ _ hk], fun _ _ => rfl, fun k h1 h2 h3 => by rw [va_up_ne _ _ h2, va_up_ne _ _ h1], fun f hf => ⟨?_, ?_, fun i hi => ?_⟩⟩
      · rw [va_up_ne _ _ (by decide), va_up_self, upd_ne _ _ hf]
      · rw [va_up_self, upd_ne _ _ hf, va_up_ne _ _ (by decide)]
      · rw [va_up_ne _ _ (by decide), va_up_ne _ _ (by decide)]
    have e2 : rSta (u2 (u2 o (19 + 2 * j) 1 (nI 0)) (19 + 2 * j) 2 b) A s (va_up (va_up B 11 (upd (B 11) j b)) 12 (upd (va_up B 11 (upd (B 11) j b) 12) j (nI 0))) := by
      refine oneF_sta h e1 ⟨0, by decide, ?_, ?_, ?_, ?_, fun _ => rfl, fun i hi => absurd hi (Nat.not_lt_zero i)⟩
      · rw [u2_ne _ _ (by decide), u2_self]
      · rw [va_up_self, upd_self]
      · rw [u2_self, va_up_ne _ _ (by decide), va_up_self, upd_self]
      · rw [va_up_ne _ _ (by decide), va_up_self, upd_self]; exact hb
    rcases hb with rfl | rfl
    · rw [if_pos (by rfl)]
      exact ⟨1, _, _, s, _, w, rfl, rfl, e2, fun k h1 h2 => by rw [va_up_ne _ _ (by omega), va_up_ne _ _ (by omega)]⟩
    · rw [if_neg (by decide)]
      exact ⟨1, _, _, s, _, w, rfl, rfl, e2, fun k h1 h2 => by rw [va_up_ne _ _ (by omega), va_up_ne _ _ (by omega)]⟩
/-! bytes of a number -/
def byt (v : Int64) (c : Nat) : Int32 := (((v.toUInt64 >>> ((nI (8 * c)).toInt64.toUInt64 &&& Int64.toUInt64 63)).toInt64).toInt32) &&& 255
theorem byt_by (v : Int64) (c : Nat) : isBy (byt v c) := by
  obtain ⟨j, h1, h2⟩ := pk_andE (((v.toUInt64 >>> ((nI (8 * c)).toInt64.toUInt64 &&& Int64.toUInt64 63)).toInt64).toInt32) (m := 255) 8 (by decide)
  exact ⟨j, h2, h1⟩
theorem and_255 {b : Int32} (h : isBy b) : b &&& 255 = b := by
  obtain ⟨k, rfl, hk⟩ := h
  rw [pk_andN (by omega) 8 (by decide), Nat.mod_eq_of_lt (by omega)]
theorem byt_M (v : Int64) (c : Nat) : (((v.toUInt64 >>> ((nI (8 * c)).toInt64.toUInt64 &&& Int64.toUInt64 63)).toInt64) &&& 255).toInt32 = byt v c := by
  unfold byt
  rw [Int64.toInt32_and]
  rfl
theorem byt_S (E : hE) (v : Int64) (c : Nat) : f_S_byteAt E v (nI c) = some (byt v c) := by
  unfold f_S_byteAt byt
  rw [show (8 : Int32) = nI 8 from rfl, pk_mul]
theorem M_app {j n : Nat} (hj : j < 10) (hn : n < 40) (h : B 12 j = nI n) (b : Int32) : f_M_append m (nI j) b (eM m s B w G) = some (eM m s (va_up (va_up (va_up B 11 (upd (B 11) j 1)) 13 (upd (B 13) (40 * j + n) b)) 12 (upd (B 12) j (nI (n + 1)))) w G) := by
  unfold f_M_append
  have e1 : va_up B 11 (upd (B 11) j 1) 12 = B 12 := va_up_ne _ _ (by decide)
  have e2 : va_up B 11 (upd (B 11) j 1) 13 = B 13 := va_up_ne _ _ (by decide)
  have e3 : va_up (va_up B 11 (upd (B 11) j 1)) 13 (upd (B 13) (40 * j + n) b) 12 = B 12 := by rw [va_up_ne _ _ (by decide), e1]
  simp only [mg_12, mz_11 hj (Or.inr rfl), Option.bind_some, mg_14, mg_13, ma_12 hj, e1, h, show (40 : Int32) = nI 40 from rfl, pk_mul, nI_add, mt_13 (show 40 * j + n < 400 by omega), e2, e3, nI_1, mt_12 hj]
theorem file_loop {j : Nat} (hj : j < 10) (N : Nat) (v : Int64) : ∀ (c : Nat) (o A B : Nat → Nat → Int32) (n f1 f2 : Nat), c < f1 → c < f2 → n + c ≤ 40 → o (19 + 2 * j) 1 = nI n → B 12 j = nI n → o (19 + 2 * j) 2 = B 11 j → isB (B 11 j) → (c = 0 → B 11 j = 0 → n = 0) → (∀ i, i < n → A (19 + 2 * j + 1) i = B 13 (40 * j + i) ∧ isBy (A (19 + 2 * j + 1) i)) →
    ∃ o' A' B' : Nat → Nat → Int32, f_S_file_b46 N f1 v (some (x + (19 + 2 * j))) (nI c + (-1)) (eX x o A q F) = some (1, eX x o' A' q F) ∧ f_M_file_b40 N f2 (some m) (nI j) v (nI c + (-1)) (eM m s B w G) = some (1, eM m s B' w G) ∧ oneF j o A B o' A' B' ∧ rFile j (o' (19 + 2 * j)) (A' (19 + 2 * j + 1)) (B' 11 j) (B' 12 j) (B' 13) := by
  intro c
  induction c with
  | zero =>
    intro o A B n f1 f2 h1 h2 h3 ho hb h5 h6 h7 h8
    obtain ⟨f1, rfl⟩ : ∃ k, f1 = k + 1 := ⟨f1 - 1, by omega⟩
    obtain ⟨f2, rfl⟩ : ∃ k, f2 = k + 1 := ⟨f2 - 1, by omega⟩
    rw [f_S_file_b46, f_M_file_b40, if_pos (by decide), if_pos (by decide)]
    exact ⟨o, A, B, rfl, rfl, oneF_refl, n, by omega, ho, hb, h5, h6, h7 rfl, h8⟩
  | succ c ih =>
    intro o A B n f1 f2 h1 h2 h3 ho hb h5 h6 h7 h8
    obtain ⟨f1, rfl⟩ : ∃ k, f1 = k + 1 := ⟨f1 - 1, by omega⟩
    obtain ⟨f2, rfl⟩ : ∃ k, f2 = k + 1 := ⟨f2 - 1, by omega⟩
    have hl := F_len hj
    rw [f_S_file_b46, f_M_file_b40, pk_m1, if_neg (nI_pos (by omega)), if_neg (nI_pos (by omega)), byt_S, Option.bind_some, xr_O (F_row hj), Option.bind_some, R_add (F_row hj) ho (by omega), Option.bind_some, mgO, Option.bind_some, show (8 : Int32) = nI 8 from rfl, pk_mul, byt_M, M_app hj (by omega) hb, Option.bind_some, and_255 (byt_by v c)]
    obtain ⟨o', A', B', g1, g2, g3, g4⟩ := ih (u2 (u2 o (19 + 2 * j) 1 (nI (n + 1))) (19 + 2 * j) 2 1) (va_up A (19 + 2 * j + 1) (upd (A (19 + 2 * j + 1)) n (byt v c))) (va_up (va_up (va_up B 11 (upd (B 11) j 1)) 13 (upd (B 13) (40 * j + n) (byt v c))) 12 (upd (B 12) j (nI (n + 1)))) (n + 1) f1 f2 (by omega) (by omega) (by omega)
      (by rw [u2_ne _ _ (by decide), u2_self]) (by rw [va_up_self, upd_self]) (by rw [u2_self, va_up_ne _ _ (by decide), va_up_ne _ _ (by decide), va_up_self, upd_self]) (by rw [va_up_ne _ _ (by decide), va_up_ne _ _ (by decide), va_up_self, upd_self]; exact Or.inr rfl) (fun _ z => by rw [va_up_ne _ _ (by decide), va_up_ne _ _ (by decide), va_up_self, upd_self] at z; cases z) (fun i hi => by
        rw [va_up_self, va_up_ne _ _ (by decide), va_up_self]
        by_cases hin : i = n
        · subst hin
          rw [upd_self, upd_self]
          exact ⟨rfl, byt_by v c⟩
        · rw [upd_ne _ _ hin, upd_ne _ _ (by omega)]
          exact h8 i (by omega))
    refine ⟨o', A', B', g1, g2, oneF_trans ⟨fun k hk => by rw [u2_n _ _ _ hk, u2_n _ _ _ hk], fun k hk => va_up_ne _ _ hk, fun k a1 a2 a3 => by rw [va_up_ne _ _ a2, va_up_ne _ _ a3, va_up_ne _ _ a1], fun f hf => ⟨?_, ?_, fun i hi => ?_⟩⟩ g3, g4⟩
    · rw [va_up_ne _ _ (by decide), va_up_ne _ _ (by decide), va_up_self, upd_ne _ _ hf]
    · rw [va_up_self, upd_ne _ _ hf]
    · rw [va_up_ne _ _ (by decide), va_up_self, upd_ne _ _ (by omega)]
theorem L_file (N : Nat) (hN : 9 ≤ N) (h : rSta o A s B) (i : Int32) (v : Int64) (k : Int32) : Alk x m q B F G (f_S_file N x i v k (eX x o A q F)) (f_M_file N m i v k (eM m s B w G)) := by
  have out : Alk x m q B F G (some (0, eX x o A q F)) (some (0, eM m s B w G)) := ⟨0, o, A, s, B, w, rfl, rfl, h, fun _ _ _ => rfl⟩
  unfold f_S_file f_M_file
  rw [x0_1, Option.bind_some, xm_O, Option.bind_some]
  rcases pk_ix i (n := 10) (by decide) with h0 | h0 | ⟨j, hj, rfl⟩
  · rw [X_file0 (Or.inl h0), M_fi0 (Or.inl h0)]
    exact out
  · rw [X_file0 (Or.inr h0), M_fi0 (Or.inr h0)]
    exact out
  · simp only [X_file1 hj, M_fi1 hj, Option.bind_some, reduceCtorEq, if_false, show ¬ (1 : Int32) = 0 from by decide]
    by_cases h1 : k < 1
    · rw [if_pos h1, M_in0 (Or.inl h1)]
      exact out
    · by_cases h2 : 8 < k
      · rw [if_neg h1, if_pos h2, M_in0 (Or.inr h2)]
        exact out
      · rw [if_neg h1, if_neg h2, M_in1 (Int32.not_lt.mp h1) (Int32.not_lt.mp h2)]
        have hk0 : ¬ k < 0 := fun z => h1 (by have := Int32.lt_iff_toInt_lt.mp z; exact Int32.lt_iff_toInt_lt.mpr (by simp at this ⊢; omega))
        obtain ⟨c, hc, rfl⟩ := nI_of2 (M := 8) (n := 8) (by decide) hk0 (Int32.not_lt.mp h2)
        have hc1 : 1 ≤ c := by
          rcases Nat.eq_zero_or_pos c with rfl | hp
          · exact absurd (by decide) h1
          · exact hp
        obtain ⟨n, hn, a1, a2, a3, a4, a5, a6⟩ := h.2.1 j hj
        have hl := F_len hj
        simp only [xr_O (F_row hj), Option.bind_some, show ¬ (1 : Int32) = 0 from by decide, if_false, mg_13, ma_12 hj, a2, nI_add]
        by_cases h3 : n + c ≤ 40
        · rw [R_room1 (F_row hj) a1 (by omega), Option.bind_some, if_neg (by decide), if_pos (show nI (n + c) ≤ 40 from nI_le (b := 40) h3 (by decide)), Int32.sub_eq_add_neg]
          obtain ⟨o', A', B', g1, g2, g3, g4⟩ := file_loop (x := x) (m := m) (s := s) (w := w) (q := q) (F := F) (G := G) hj N v c o A B n N N (by omega) (by omega) h3 a1 a2 a3 a4 (fun z => by omega) a6
          exact ⟨1, o', A', s, B', w, g1, g2, oneF_sta h g3 g4, fun k h1 h2 => g3.2.2.1 k (by omega) (by omega) (by omega)⟩
        · rw [R_room0 (F_row hj) a1 (by omega) (by omega) (by omega), Option.bind_some, if_pos rfl, if_neg (show ¬ nI (n + c) ≤ 40 from nI_ge (a := 40) (by omega) (by omega))]
          exact out
end CAL
