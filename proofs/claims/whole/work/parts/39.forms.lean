/-! pieces of the forms -/
section PCS
variable {x m N bd st d p j f n k : Nat} {o A B o' A' B' : Nat → Nat → Int32} {s : Nat → Int32} {w : Nat → Int64} {q : Nat → Option Nat} {F G : hE} {z : Int32}
theorem jR_file (h : jR bd st z o A s B) (hj : j < 10) (h1 : oneF j o A B o' A' B') (h2 : rFile j (o' (19 + 2 * j)) (A' (19 + 2 * j + 1)) (B' 11 j) (B' 12 j) (B' 13)) : jR bd st z o' A' s B' := by
  obtain ⟨a1, a2, a3, a4, a5, a6⟩ := h
  refine ⟨?_, oneF_files a2 h1 h2, ?_, ?_, ?_, ?_⟩
  · rw [h1.1 2 (by omega), h1.2.1 3 (by omega), h1.2.2.1 1 (by decide) (by decide) (by decide)]; exact a1
  · rw [h1.1 9 (by omega), h1.2.1 10 (by omega), h1.2.2.1 15 (by decide) (by decide) (by decide)]; exact a3
  · rw [h1.1 11 (by omega), h1.2.1 12 (by omega), h1.2.2.1 16 (by decide) (by decide) (by decide)]; exact a4
  · rw [h1.2.1 8 (by omega), h1.2.2.1 14 (by decide) (by decide) (by decide)]; exact a5
  · rw [h1.1 6 (by omega)]; exact a6
theorem X_fileE (Y : Int32) : ∃ z, f_Mach_fileAt (eX x o A q F) (x + 6) Y = some z := by
  rcases pk_ix Y (n := 10) (by decide) with h0 | h0 | ⟨j, hj, rfl⟩
  · exact ⟨_, X_file0 (Or.inl h0)⟩
  · exact ⟨_, X_file0 (Or.inr h0)⟩
  · exact ⟨_, X_file1 hj⟩
theorem M_to {c r : Nat} {i : Int32} {k' : Nat} (hd : d < 4) (hp : p < 4) (hi : i = nI r) (hr : r < 7) (hc : c < 26) (hw : (w r).toInt32 = nI (65 + c)) (h17 : B 17 d = nI p) (h7 : B 7 (26 * p + c) = nI k') : f_M_goesTo m (nI d) i (eM m s B w G) = some (-1, eM m s (va_up B 18 (upd (B 18) d (nI k'))) w G) := by
  unfold f_M_goesTo
  simp only [mg_27, mg_7, mg_26, ma_17 hd, h17, mg_9, hi, mg_w hr, hw, Option.bind_some, show (26 : Int32) = nI 26 from rfl, pk_mul, nI_add]
  rw [show (65 : Int32) = nI 65 from rfl, pk_sub (by omega), show 26 * p + (65 + c) - 65 = 26 * p + c by omega, ma_7 (by omega), Option.bind_some, h7, mt_18 hd]
  rfl
theorem M_copyL {B0 : Nat → Nat → Int32} (hd : d < 4) (hj : j < 10) (hf : f < 10) : ∀ (r c fuel : Nat) (B : Nat → Nat → Int32), c + r = 40 → r < fuel → (∀ y, (y < 40 * f ∨ 40 * f + c ≤ y) → B 13 y = B0 13 y) → (∀ i, i < c → B 13 (40 * f + i) = B0 13 (40 * j + i)) → B 18 d = nI k →
    ∃ B2, f_M_copy_b51 N fuel (some m) (nI d) (nI j) (nI f) (nI c) (eM m s B w G) = some (-1, eM m s (va_up B2 18 (upd (B 18) d (nI (k + 1)))) w G) ∧ (∀ i, i ≠ 13 → B2 i = B i) ∧ (∀ i, i < 40 → B2 13 (40 * f + i) = B0 13 (40 * j + i)) ∧ ∀ y, (y < 40 * f ∨ 40 * f + 40 ≤ y) → B2 13 y = B0 13 y := by
  intro r
  induction r with
  | zero =>
    intro c fuel B h1 h2 h3 h4 hk
    obtain ⟨fuel, rfl⟩ : ∃ k, fuel = k + 1 := ⟨fuel - 1, by omega⟩
    have hc : c = 40 := by omega
    subst hc
    rw [f_M_copy_b51, if_pos (show (40 : Int32) ≤ nI 40 from by decide), mgO, Option.bind_some, M_on hd hk]
    exact ⟨B, rfl, fun _ _ => rfl, h4, h3⟩
  | succ r ih =>
    intro c fuel B h1 h2 h3 h4 hk
    obtain ⟨fuel, rfl⟩ : ∃ k, fuel = k + 1 := ⟨fuel - 1, by omega⟩
    rw [f_M_copy_b51, if_neg (show ¬ (40 : Int32) ≤ nI c from nI_ge (b := 40) (by omega) (by decide)), mg_14, Option.bind_some, Option.bind_some, show (40 : Int32) = nI 40 from rfl, pk_mul, pk_mul, nI_add, nI_add, ma_13 (by omega), Option.bind_some, mt_13 (by omega), Option.bind_some, nI_1]
    have hv : B 13 (40 * j + c) = B0 13 (40 * j + c) := by
      by_cases hjf : j = f
      · subst hjf
        exact h3 _ (by omega)
      · exact h3 _ (by omega)
    obtain ⟨B2, a1, a2, a3, a4⟩ := ih (c + 1) fuel (va_up B 13 (upd (B 13) (40 * f + c) (B 13 (40 * j + c)))) (by omega) (by omega)
      (fun y hy => by rw [va_up_self, upd_ne _ _ (by omega)]; exact h3 y (by omega))
      (fun i hi => by
        rw [va_up_self]
        by_cases hic : i = c
        · subst hic
          rw [upd_self, hv]
        · rw [upd_ne _ _ (by omega)]
          exact h4 i (by omega))
      (by rw [va_up_ne _ _ (by decide)]; exact hk)
    rw [va_up_ne _ _ (by decide)] at a1
    exact ⟨B2, a1, fun i hi => by rw [a2 i hi, va_up_ne _ _ hi], a3, a4⟩
theorem X_become (hj : j < 10) (hf : f < 10) (hn : n ≤ 40) (h1 : o (19 + 2 * j) 1 = nI n) (h2 : o (19 + 2 * j) 2 = 1) : f_Row_become (x + (19 + 2 * f)) (some (x + (19 + 2 * j))) (eX x o A q F) = some (eX x (u2 (u2 o (19 + 2 * f) 1 (nI n)) (19 + 2 * f) 2 1) (va_up A (19 + 2 * f + 1) (va_cpy (A (19 + 2 * j + 1)) (A (19 + 2 * f + 1)) 0 0 n)) q F) := by
  have hl1 := F_len hj
  have hl2 := F_len hf
  have rj := row_ar (F_row hj)
  have rf := row_ar (F_row hf)
  unfold f_Row_become
  simp only [xr_1 (F_row hj), h1, xr_0 (F_row hf), xa_L rf, xr_0 (F_row hj), hl2, Option.bind_some]
  have hm : (if nI 40 < nI n then nI 40 else nI n) = nI n := if_neg (nI_nlt hn (by decide))
  rw [hm]
  have hcp : cpI (eX x o A q F) (some (x + (19 + 2 * j + 1))) (some (x + (19 + 2 * f + 1))) 0 0 0 (nI n) = some (eX x o (va_up A (19 + 2 * f + 1) (va_cpy (A (19 + 2 * j + 1)) (A (19 + 2 * f + 1)) 0 0 n)) q F) := by
    unfold cpI
    rw [gA_at (xa_at rj), Option.bind_some, show vAi (xN (19 + 2 * j + 1), .inl (A (19 + 2 * j + 1))) = some (A (19 + 2 * j + 1)) from rfl, Option.bind_some, gA_at (xa_at rf), Option.bind_some, show vAi (xN (19 + 2 * f + 1), .inl (A (19 + 2 * f + 1))) = some (A (19 + 2 * f + 1)) from rfl, Option.bind_some]
    have z0 : (0 : Int32).toNatClampNeg = 0 := rfl
    have zn : (nI n).toNatClampNeg = n := nI_clamp (by omega)
    have hno : ¬ ((0 : Int32) < 0 ∨ (0 : Int32) < 0 ∨ nI n < 0 ∨ xN (19 + 2 * j + 1) < (0 : Int32).toNatClampNeg + (nI n).toNatClampNeg ∨ xN (19 + 2 * f + 1) < (0 : Int32).toNatClampNeg + (nI n).toNatClampNeg) := by
      rw [z0, zn, hl1, hl2]
      rintro (h | h | h | h | h)
      · exact absurd h (by decide)
      · exact absurd h (by decide)
      · exact nI_pos (by omega) h
      · omega
      · omega
    rw [if_neg hno, z0, zn]
    exact congrArg some (eX_uA _ (isAr_lt rf) (by rw [cX_ar rf, va_up_self]))
  rw [hcp, Option.bind_some, xs_1 (F_row hf), Option.bind_some, xr_2 (F_row hj), Option.bind_some]
  have e2 : u2 o (19 + 2 * f) 1 (nI n) (19 + 2 * j) 2 = 1 := by
    by_cases hjf : 19 + 2 * j = 19 + 2 * f
    · rw [hjf, u2_ne _ _ (by decide), ← hjf]; exact h2
    · rw [u2_n _ _ _ hjf]; exact h2
  rw [e2, xs_2 (F_row hf) (Or.inr rfl), Option.bind_some]
theorem jR_say9 {X : Int32} (h : jR bd st z o A s B) (hn : n ≤ 60) (h1 : o 9 1 = nI n) (h2 : s 21 = nI n) (h3 : ∀ i, i < n → A (9 + 1) i = B 15 i) (h60 : n < 60) : jR bd st z (u2 (u2 o 9 1 (nI (n + 1))) 9 2 1) (va_up A (9 + 1) (upd (A (9 + 1)) n X)) (upd s 21 (nI (n + 1))) (va_up B 15 (upd (B 15) n X)) := by
  obtain ⟨a1, a2, a3, a4, a5, a6, a7, a8, a9, a10, a11, a12, a13, a14⟩ := h
  refine ⟨?_, ?_, ?_, ?_, ?_, ?_, ?_, ?_, ?_, ?_, ?_, ?_, ?_, ?_⟩
  · rw [u2_n _ _ _ (by decide), u2_n _ _ _ (by decide), va_up_ne _ _ (by decide), upd_ne _ _ (by decide), va_up_ne _ _ (by decide)]; exact a1
  · intro f hf
    rw [u2_n _ _ _ (by omega), u2_n _ _ _ (by omega), va_up_ne _ _ (by omega), va_up_ne _ _ (by decide), va_up_ne _ _ (by decide), va_up_ne _ _ (by decide)]; exact a2 f hf
  · refine ⟨n + 1, by omega, ?_, upd_self _ _ _, fun i hi => ?_⟩
    · rw [u2_ne _ _ (by decide), u2_self]
    · rw [va_up_self, va_up_self]
      by_cases hin : i = n
      · subst hin
        rw [upd_self, upd_self]
      · rw [upd_ne _ _ hin, upd_ne _ _ hin]
        exact h3 i (by omega)
  · rw [u2_n _ _ _ (by decide), u2_n _ _ _ (by decide), va_up_ne _ _ (by decide), upd_ne _ _ (by decide), va_up_ne _ _ (by decide)]; exact a4
  · rw [va_up_ne _ _ (by decide), va_up_ne _ _ (by decide)]; exact a5
  · rw [u2_n _ _ _ (by decide), u2_n _ _ _ (by decide)]; exact a6
  · rw [upd_ne _ _ (by decide)]; exact a7
  · rw [u2_n _ _ _ (by decide), u2_n _ _ _ (by decide)]; exact a8
  · rw [upd_ne _ _ (by decide)]; exact a9
  · rw [u2_n _ _ _ (by decide), u2_n _ _ _ (by decide), upd_ne _ _ (by decide)]; exact a10
  · rw [u2_n _ _ _ (by decide), u2_n _ _ _ (by decide), upd_ne _ _ (by decide)]; exact a11
  · rw [u2_n _ _ _ (by decide), u2_n _ _ _ (by decide)]; exact a12
  · rw [u2_n _ _ _ (by decide), u2_n _ _ _ (by decide)]; exact a13
  · rw [upd_ne _ _ (by decide)]; exact a14
theorem jR_say10 {X : Int32} (h : jR bd st z o A s B) (hn : n ≤ 60) (h1 : o 11 1 = nI n) (h2 : s 22 = nI n) (h3 : ∀ i, i < n → A (11 + 1) i = B 16 i) (h60 : n < 60) : jR bd st z (u2 (u2 o 11 1 (nI (n + 1))) 11 2 1) (va_up A (11 + 1) (upd (A (11 + 1)) n X)) (upd s 22 (nI (n + 1))) (va_up B 16 (upd (B 16) n X)) := by
  obtain ⟨a1, a2, a3, a4, a5, a6, a7, a8, a9, a10, a11, a12, a13, a14⟩ := h
  refine ⟨?_, ?_, ?_, ?_, ?_, ?_, ?_, ?_, ?_, ?_, ?_, ?_, ?_, ?_⟩
  · rw [u2_n _ _ _ (by decide), u2_n _ _ _ (by decide), va_up_ne _ _ (by decide), upd_ne _ _ (by decide), va_up_ne _ _ (by decide)]; exact a1
  · intro f hf
    rw [u2_n _ _ _ (by omega), u2_n _ _ _ (by omega), va_up_ne _ _ (by omega), va_up_ne _ _ (by decide), va_up_ne _ _ (by decide), va_up_ne _ _ (by decide)]; exact a2 f hf
  · rw [u2_n _ _ _ (by decide), u2_n _ _ _ (by decide), va_up_ne _ _ (by decide), upd_ne _ _ (by decide), va_up_ne _ _ (by decide)]; exact a3
  · refine ⟨n + 1, by omega, ?_, upd_self _ _ _, fun i hi => ?_⟩
    · rw [u2_ne _ _ (by decide), u2_self]
    · rw [va_up_self, va_up_self]
      by_cases hin : i = n
      · subst hin
        rw [upd_self, upd_self]
      · rw [upd_ne _ _ hin, upd_ne _ _ hin]
        exact h3 i (by omega)
  · rw [va_up_ne _ _ (by decide), va_up_ne _ _ (by decide)]; exact a5
  · rw [u2_n _ _ _ (by decide), u2_n _ _ _ (by decide)]; exact a6
  · rw [upd_ne _ _ (by decide)]; exact a7
  · rw [u2_n _ _ _ (by decide), u2_n _ _ _ (by decide)]; exact a8
  · rw [upd_ne _ _ (by decide)]; exact a9
  · rw [u2_n _ _ _ (by decide), u2_n _ _ _ (by decide), upd_ne _ _ (by decide)]; exact a10
  · rw [u2_n _ _ _ (by decide), u2_n _ _ _ (by decide), upd_ne _ _ (by decide)]; exact a11
  · rw [u2_n _ _ _ (by decide), u2_n _ _ _ (by decide)]; exact a12
  · rw [u2_n _ _ _ (by decide), u2_n _ _ _ (by decide)]; exact a13
  · rw [upd_ne _ _ (by decide)]; exact a14
end PCS
/-! ===== each form of a statement ===== -/
section FORMS
variable {S : hE} {g fa wa ka : Nat → Nat} {x m N bd st d p k a sc : Nat} {o A B : Nat → Nat → Int32} {s : Nat → Int32} {w : Nat → Int64} {q : Nat → Option Nat} {F G : hE} {t : Nat → Int32} {l W : Nat × (Nat → Nat) × (Nat → Nat)} {fol : Nat → Option Nat → Option Nat → Int32 → hE → Option (Int32 × hE)} {u : vSt}
theorem X_no : f_Frame_valueOf (eX x o A q F) (x + fo d) (-1000000) = some (-1000000) := X_vneg _ (by decide)
theorem M_in31 {E : hE} {X : Int32} (h : X < 0 ∨ nI 32 ≤ X) : f_M_in E X 0 31 = some 0 := M_ix0 (n := 31) h (by decide)
theorem M_in31' {E : hE} {c : Nat} (h : c < 32) : f_M_in E (nI c) 0 31 = some 1 := M_ix1 (n := 31) (by omega) (by decide)
theorem M_in2 {E : hE} {X : Int32} (h : X < 0 ∨ nI 3 ≤ X) : f_M_in E X 0 2 = some 0 := M_ix0 (n := 2) h (by decide)
theorem M_in2' {E : hE} {c : Nat} (h : c < 3) : f_M_in E (nI c) 0 2 = some 1 := M_ix1 (n := 2) (by omega) (by decide)
set_option maxRecDepth 10000 in
theorem st_0 (hN : 400 < N) (hc : conS S g fa wa ka) (h : mid bd st d p k t l o A s B) (hl : lSt s B w t (400 * p) W) (he : ∀ j, j < W.1 → W.2.2 j ≤ 400) (ha : eX x o A q F a = some (.inr (4, stL fa (k, 0, u)))) (hf : fit t W 0 = some u) : okS x m q F G w bd st d p t l o A B (f_Mach_perform S g N fol (x + 6) (some a) (some sc) (some (x + fo d)) (eX x o A q F)) (f_M_work N m (nI d) (eM m s B w G)) := by
  obtain ⟨h1, h2, b0, b1, rfl⟩ := fi_0 hf
  have hd := h.2.2.2.2.2
  have hk := h.2.1.2.2.2.1
  have hw : w 0 = 7103860 := (kw_w hl (by omega) [108, 101, 116] (by decide) (by decide)).mpr h2
  obtain ⟨g0, g1, g2, g3, g4, g5, g6⟩ := st_rd ha
  obtain ⟨r, hr, e1, e2⟩ := reg1 hl (by omega) b0
  obtain ⟨X, hx1, hx2⟩ := M_val (x := x) (o := o) (q := q) (F := F) (m := m) (G := G) (N := N) hN hd hl (k := 2) (by omega) (by decide) (he 2 (by omega)) b1 h.2.1.1
  have hx1 : f_M_value N (eM m s B w G) m (nI d) 2 = some X := hx1
  have hy2 := X_no (x := x) (o := o) (A := A) (q := q) (F := F) (d := d)
  have h8 : s 8 = 3 := by rw [hl.1.1, h1]; rfl
  refine ok_give h hr (v := X) ?_ ?_
  · unfold f_Mach_perform
    simp only [g3, xf_O (fo_fr hd), Option.bind_some, hx2, g5, hy2, g1, con_f hc (i := 0) (by decide), con_s hc (i := 0) (by decide)]
    rw [if_pos (by decide)]
    simp only [g2, xf_O (fo_fr hd), Option.bind_some, e1, X_set hd hr]
  · unfold f_M_work
    simp only [mg_9, mg_w0, hw, Option.bind_some]
    rw [if_pos (by decide)]
    unfold f_M_let
    simp only [mgO, Option.bind_some, hx1, mg_8, h8]
    rw [if_pos (by decide)]
    simp only [M_giv hd hr e2 hk, Option.bind_some]
set_option maxRecDepth 10000 in
theorem cal_43 {X Y : Int32} {r : Nat} {into : Int32} (h : mid bd st d p k t l o A s B) (hr : r < 8) (e1 : into = nI r) (e2 : (w 1).toInt32 - 97 = nI r) (g2 : gI (eX x o A q F) (some a) 4 2 = some into) (g4 : gI (eX x o A q F) (some a) 4 4 = some 43) (hx1 : f_M_value N (eM m s B w G) m (nI d) 2 = some X) (hy1 : f_M_value N (eM m s B w G) m (nI d) 4 = some Y) (h8 : s 8 = 5) (hw3 : (w 3).toInt32 = 43) : okS x m q F G w bd st d p t l o A B (f_Mach_calculate (some (x + fo d)) (some a) X Y (eX x o A q F)) (f_M_let N m (nI d) (eM m s B w G)) := by
  have hd := h.2.2.2.2.2
  have hk := h.2.1.2.2.2.1
  unfold f_M_let
  simp only [mgO, Option.bind_some, hx1, hy1, mg_8, h8, mg_9, mg_w3, hw3]
  rw [if_neg (by decide)]
  unfold f_Mach_calculate
  simp only [g4, Option.bind_some]
  rw [if_neg (by decide), if_neg (by decide), if_neg (by decide), if_neg (by decide), if_pos (by decide)]
  refine ok_give h hr (v := X + Y) ?_ ?_
  · unfold f_Mach_calculate_b23
    rw [if_pos (by decide)]
    unfold f_Mach_calculate_b37 f_Mach_calculate_b68
    rw [g2, Option.bind_some, if_pos (show (0 : Int32) = 0 from rfl), g4, Option.bind_some]
    unfold f_Mach_combined
    rw [if_neg (by decide), if_neg (by decide), if_pos (by decide), Option.bind_some, xf_O (fo_fr hd), Option.bind_some, e1, X_set hd hr, Option.bind_some]
  · simp only [M_giv hd hr e2 hk, Option.bind_some]
set_option maxRecDepth 10000 in
theorem cal_45 {X Y : Int32} {r : Nat} {into : Int32} (h : mid bd st d p k t l o A s B) (hr : r < 8) (e1 : into = nI r) (e2 : (w 1).toInt32 - 97 = nI r) (g2 : gI (eX x o A q F) (some a) 4 2 = some into) (g4 : gI (eX x o A q F) (some a) 4 4 = some 45) (hx1 : f_M_value N (eM m s B w G) m (nI d) 2 = some X) (hy1 : f_M_value N (eM m s B w G) m (nI d) 4 = some Y) (h8 : s 8 = 5) (hw3 : (w 3).toInt32 = 45) : okS x m q F G w bd st d p t l o A B (f_Mach_calculate (some (x + fo d)) (some a) X Y (eX x o A q F)) (f_M_let N m (nI d) (eM m s B w G)) := by
  have hd := h.2.2.2.2.2
  have hk := h.2.1.2.2.2.1
  unfold f_M_let
  simp only [mgO, Option.bind_some, hx1, hy1, mg_8, h8, mg_9, mg_w3, hw3]
  rw [if_neg (by decide)]
  unfold f_Mach_calculate
  simp only [g4, Option.bind_some]
  rw [if_neg (by decide), if_neg (by decide), if_neg (by decide), if_neg (by decide), if_neg (by decide), if_pos (by decide)]
  refine ok_give h hr (v := X - Y) ?_ ?_
  · unfold f_Mach_calculate_b23
    rw [if_pos (by decide)]
    unfold f_Mach_calculate_b37 f_Mach_calculate_b68
    rw [g2, Option.bind_some, if_pos (show (0 : Int32) = 0 from rfl), g4, Option.bind_some]
    unfold f_Mach_combined
    rw [if_neg (by decide), if_neg (by decide), if_neg (by decide), if_pos (by decide), Option.bind_some, xf_O (fo_fr hd), Option.bind_some, e1, X_set hd hr, Option.bind_some]
  · simp only [M_giv hd hr e2 hk, Option.bind_some]
set_option maxRecDepth 10000 in
theorem cal_42 {X Y : Int32} {r : Nat} {into : Int32} (h : mid bd st d p k t l o A s B) (hr : r < 8) (e1 : into = nI r) (e2 : (w 1).toInt32 - 97 = nI r) (g2 : gI (eX x o A q F) (some a) 4 2 = some into) (g4 : gI (eX x o A q F) (some a) 4 4 = some 42) (hx1 : f_M_value N (eM m s B w G) m (nI d) 2 = some X) (hy1 : f_M_value N (eM m s B w G) m (nI d) 4 = some Y) (h8 : s 8 = 5) (hw3 : (w 3).toInt32 = 42) : okS x m q F G w bd st d p t l o A B (f_Mach_calculate (some (x + fo d)) (some a) X Y (eX x o A q F)) (f_M_let N m (nI d) (eM m s B w G)) := by
  have hd := h.2.2.2.2.2
  have hk := h.2.1.2.2.2.1
  unfold f_M_let
  simp only [mgO, Option.bind_some, hx1, hy1, mg_8, h8, mg_9, mg_w3, hw3]
  rw [if_neg (by decide)]
  unfold f_Mach_calculate
  simp only [g4, Option.bind_some]
  rw [if_neg (by decide), if_neg (by decide), if_neg (by decide), if_pos (by decide)]
  refine ok_give h hr (v := X * Y) ?_ ?_
  · unfold f_Mach_calculate_b23
    rw [if_pos (by decide)]
    unfold f_Mach_calculate_b37 f_Mach_calculate_b68
    rw [g2, Option.bind_some, if_pos (show (0 : Int32) = 0 from rfl), g4, Option.bind_some]
    unfold f_Mach_combined
    rw [if_neg (by decide), if_pos (by decide), Option.bind_some, xf_O (fo_fr hd), Option.bind_some, e1, X_set hd hr, Option.bind_some]
  · simp only [M_giv hd hr e2 hk, Option.bind_some]
set_option maxRecDepth 10000 in
theorem cal_47 {X Y : Int32} {r : Nat} {into : Int32} (h : mid bd st d p k t l o A s B) (hr : r < 8) (e1 : into = nI r) (e2 : (w 1).toInt32 - 97 = nI r) (g2 : gI (eX x o A q F) (some a) 4 2 = some into) (g4 : gI (eX x o A q F) (some a) 4 4 = some 47) (hx1 : f_M_value N (eM m s B w G) m (nI d) 2 = some X) (hy1 : f_M_value N (eM m s B w G) m (nI d) 4 = some Y) (h8 : s 8 = 5) (hw3 : (w 3).toInt32 = 47) : okS x m q F G w bd st d p t l o A B (f_Mach_calculate (some (x + fo d)) (some a) X Y (eX x o A q F)) (f_M_let N m (nI d) (eM m s B w G)) := by
  have hd := h.2.2.2.2.2
  have hk := h.2.1.2.2.2.1
  unfold f_M_let
  simp only [mgO, Option.bind_some, hx1, hy1, mg_8, h8, mg_9, mg_w3, hw3]
  rw [if_neg (by decide)]
  unfold f_Mach_calculate
  simp only [g4, Option.bind_some]
  rw [if_pos (by decide), if_neg (by decide), if_neg (by decide), if_neg (by decide), if_neg (by decide), if_neg (by decide), if_neg (by decide), if_neg (by decide), if_neg (by decide)]
  unfold f_Mach_calculate_b18 f_Mach_calculate_b23
  rw [if_neg (by decide)]
  by_cases hz : Y = 0
  · rw [if_pos hz, if_pos hz]
    exact ok_exit h (by decide) rfl rfl
  · rw [if_neg hz, if_neg hz]
    unfold f_Mach_calculate_b37 f_Mach_calculate_b68 f_Mach_divided f_Mach_divided_b21
    simp only [g2, g4, e1, Option.bind_some]
    rw [if_neg (by decide), if_neg hz, if_pos (by decide), if_neg hz]
    simp only [xf_O (fo_fr hd), Option.bind_some, X_set hd hr]
    by_cases hm : Y = -1
    · rw [if_pos hm, if_pos (by decide)]
      refine ok_give h hr (v := -X) ?_ ?_
      · rw [hm, div_m1]
      · unfold f_M_let_b229
        simp only [mgO, Option.bind_some, M_giv hd hr e2 hk]
    · rw [if_neg hm, if_pos (by decide), if_neg hz]
      refine ok_give h hr (v := X / Y) rfl ?_
      unfold f_M_let_b251
      simp only [mgO, Option.bind_some, M_giv hd hr e2 hk]
set_option maxRecDepth 10000 in
theorem cal_37 {X Y : Int32} {r : Nat} {into : Int32} (h : mid bd st d p k t l o A s B) (hr : r < 8) (e1 : into = nI r) (e2 : (w 1).toInt32 - 97 = nI r) (g2 : gI (eX x o A q F) (some a) 4 2 = some into) (g4 : gI (eX x o A q F) (some a) 4 4 = some 37) (hx1 : f_M_value N (eM m s B w G) m (nI d) 2 = some X) (hy1 : f_M_value N (eM m s B w G) m (nI d) 4 = some Y) (h8 : s 8 = 5) (hw3 : (w 3).toInt32 = 37) : okS x m q F G w bd st d p t l o A B (f_Mach_calculate (some (x + fo d)) (some a) X Y (eX x o A q F)) (f_M_let N m (nI d) (eM m s B w G)) := by
  have hd := h.2.2.2.2.2
  have hk := h.2.1.2.2.2.1
  unfold f_M_let
  simp only [mgO, Option.bind_some, hx1, hy1, mg_8, h8, mg_9, mg_w3, hw3]
  rw [if_neg (by decide)]
  unfold f_Mach_calculate
  simp only [g4, Option.bind_some]
  rw [if_neg (by decide), if_pos (by decide), if_neg (by decide), if_neg (by decide), if_neg (by decide), if_neg (by decide), if_neg (by decide), if_neg (by decide), if_neg (by decide), if_neg (by decide)]
  unfold f_Mach_calculate_b18 f_Mach_calculate_b23
  rw [if_neg (by decide)]
  by_cases hz : Y = 0
  · rw [if_pos hz, if_pos hz]
    exact ok_exit h (by decide) rfl rfl
  · rw [if_neg hz, if_neg hz]
    unfold f_Mach_calculate_b37 f_Mach_calculate_b68 f_Mach_divided f_Mach_divided_b21
    simp only [g2, g4, e1, Option.bind_some]
    rw [if_neg (by decide), if_neg hz, if_neg (by decide), if_neg hz]
    simp only [xf_O (fo_fr hd), Option.bind_some, X_set hd hr]
    by_cases hm : Y = -1
    · rw [if_pos hm, if_neg (by decide)]
      refine ok_give h hr (v := 0) ?_ ?_
      · rw [hm, rem_m1]
      · unfold f_M_let_b229
        simp only [mgO, Option.bind_some, M_giv hd hr e2 hk]
    · rw [if_neg hm, if_neg (by decide), if_neg hz]
      refine ok_give h hr (v := X - X / Y * Y) rfl ?_
      unfold f_M_let_b251
      simp only [mgO, Option.bind_some, M_giv hd hr e2 hk]
set_option maxRecDepth 10000 in
theorem cal_38 {X Y : Int32} {r : Nat} {into : Int32} (h : mid bd st d p k t l o A s B) (hr : r < 8) (e1 : into = nI r) (e2 : (w 1).toInt32 - 97 = nI r) (g2 : gI (eX x o A q F) (some a) 4 2 = some into) (g4 : gI (eX x o A q F) (some a) 4 4 = some 38) (hx1 : f_M_value N (eM m s B w G) m (nI d) 2 = some X) (hy1 : f_M_value N (eM m s B w G) m (nI d) 4 = some Y) (h8 : s 8 = 5) (hw3 : (w 3).toInt32 = 38) : okS x m q F G w bd st d p t l o A B (f_Mach_calculate (some (x + fo d)) (some a) X Y (eX x o A q F)) (f_M_let N m (nI d) (eM m s B w G)) := by
  have hd := h.2.2.2.2.2
  have hk := h.2.1.2.2.2.1
  unfold f_M_let
  simp only [mgO, Option.bind_some, hx1, hy1, mg_8, h8, mg_9, mg_w3, hw3]
  rw [if_neg (by decide)]
  unfold f_Mach_calculate
  simp only [g4, Option.bind_some]
  rw [if_neg (by decide), if_neg (by decide), if_pos (by decide)]
  refine ok_give h hr (v := X &&& Y) ?_ ?_
  · unfold f_Mach_calculate_b23
    rw [if_pos (by decide)]
    unfold f_Mach_calculate_b37 f_Mach_calculate_b68
    rw [g2, Option.bind_some, if_pos (show (0 : Int32) = 0 from rfl), g4, Option.bind_some]
    unfold f_Mach_combined
    rw [if_pos (by decide), Option.bind_some, xf_O (fo_fr hd), Option.bind_some, e1, X_set hd hr, Option.bind_some]
  · simp only [M_giv hd hr e2 hk, Option.bind_some]
set_option maxRecDepth 10000 in
theorem cal_124 {X Y : Int32} {r : Nat} {into : Int32} (h : mid bd st d p k t l o A s B) (hr : r < 8) (e1 : into = nI r) (e2 : (w 1).toInt32 - 97 = nI r) (g2 : gI (eX x o A q F) (some a) 4 2 = some into) (g4 : gI (eX x o A q F) (some a) 4 4 = some 124) (hx1 : f_M_value N (eM m s B w G) m (nI d) 2 = some X) (hy1 : f_M_value N (eM m s B w G) m (nI d) 4 = some Y) (h8 : s 8 = 5) (hw3 : (w 3).toInt32 = 124) : okS x m q F G w bd st d p t l o A B (f_Mach_calculate (some (x + fo d)) (some a) X Y (eX x o A q F)) (f_M_let N m (nI d) (eM m s B w G)) := by
  have hd := h.2.2.2.2.2
  have hk := h.2.1.2.2.2.1
  unfold f_M_let
  simp only [mgO, Option.bind_some, hx1, hy1, mg_8, h8, mg_9, mg_w3, hw3]
  rw [if_neg (by decide)]
  unfold f_Mach_calculate
  simp only [g4, Option.bind_some]
  rw [if_neg (by decide), if_neg (by decide), if_neg (by decide), if_neg (by decide), if_neg (by decide), if_neg (by decide), if_neg (by decide), if_neg (by decide), if_neg (by decide), if_pos (by decide)]
  refine ok_give h hr (v := X ||| Y) ?_ ?_
  · unfold f_Mach_calculate_b23
    rw [if_pos (by decide)]
    unfold f_Mach_calculate_b37 f_Mach_calculate_b68
    rw [g2, Option.bind_some, if_pos (show (0 : Int32) = 0 from rfl), g4, Option.bind_some]
    unfold f_Mach_combined
    rw [if_neg (by decide), if_neg (by decide), if_neg (by decide), if_neg (by decide), if_neg (by decide), if_pos (by decide), Option.bind_some, xf_O (fo_fr hd), Option.bind_some, e1, X_set hd hr, Option.bind_some]
  · simp only [M_giv hd hr e2 hk, Option.bind_some]
set_option maxRecDepth 10000 in
theorem cal_94 {X Y : Int32} {r : Nat} {into : Int32} (h : mid bd st d p k t l o A s B) (hr : r < 8) (e1 : into = nI r) (e2 : (w 1).toInt32 - 97 = nI r) (g2 : gI (eX x o A q F) (some a) 4 2 = some into) (g4 : gI (eX x o A q F) (some a) 4 4 = some 94) (hx1 : f_M_value N (eM m s B w G) m (nI d) 2 = some X) (hy1 : f_M_value N (eM m s B w G) m (nI d) 4 = some Y) (h8 : s 8 = 5) (hw3 : (w 3).toInt32 = 94) : okS x m q F G w bd st d p t l o A B (f_Mach_calculate (some (x + fo d)) (some a) X Y (eX x o A q F)) (f_M_let N m (nI d) (eM m s B w G)) := by
  have hd := h.2.2.2.2.2
  have hk := h.2.1.2.2.2.1
  unfold f_M_let
  simp only [mgO, Option.bind_some, hx1, hy1, mg_8, h8, mg_9, mg_w3, hw3]
  rw [if_neg (by decide)]
  unfold f_Mach_calculate
  simp only [g4, Option.bind_some]
  rw [if_neg (by decide), if_neg (by decide), if_neg (by decide), if_neg (by decide), if_neg (by decide), if_neg (by decide), if_neg (by decide), if_neg (by decide), if_pos (by decide)]
  refine ok_give h hr (v := X ^^^ Y) ?_ ?_
  · unfold f_Mach_calculate_b23
    rw [if_pos (by decide)]
    unfold f_Mach_calculate_b37 f_Mach_calculate_b68
    rw [g2, Option.bind_some, if_pos (show (0 : Int32) = 0 from rfl), g4, Option.bind_some]
    unfold f_Mach_combined
    rw [if_neg (by decide), if_neg (by decide), if_neg (by decide), if_neg (by decide), if_pos (by decide), Option.bind_some, xf_O (fo_fr hd), Option.bind_some, e1, X_set hd hr, Option.bind_some]
  · simp only [M_giv hd hr e2 hk, Option.bind_some]
set_option maxRecDepth 10000 in
theorem cal_60 {X Y : Int32} {r : Nat} {into : Int32} (h : mid bd st d p k t l o A s B) (hr : r < 8) (e1 : into = nI r) (e2 : (w 1).toInt32 - 97 = nI r) (g2 : gI (eX x o A q F) (some a) 4 2 = some into) (g4 : gI (eX x o A q F) (some a) 4 4 = some 60) (hx1 : f_M_value N (eM m s B w G) m (nI d) 2 = some X) (hy1 : f_M_value N (eM m s B w G) m (nI d) 4 = some Y) (h8 : s 8 = 5) (hw3 : (w 3).toInt32 = 60) : okS x m q F G w bd st d p t l o A B (f_Mach_calculate (some (x + fo d)) (some a) X Y (eX x o A q F)) (f_M_let N m (nI d) (eM m s B w G)) := by
  have hd := h.2.2.2.2.2
  have hk := h.2.1.2.2.2.1
  unfold f_M_let
  simp only [mgO, Option.bind_some, hx1, hy1, mg_8, h8, mg_9, mg_w3, hw3]
  rw [if_neg (by decide)]
  unfold f_Mach_calculate
  simp only [g4, Option.bind_some]
  rw [if_neg (by decide), if_neg (by decide), if_neg (by decide), if_neg (by decide), if_neg (by decide), if_neg (by decide), if_pos (by decide)]
  by_cases hz : Y ≤ X
  · rw [if_pos hz]
    refine ok_give h hr (v := 0) ?_ ?_
    · unfold f_Mach_calculate_b23
      rw [if_pos (by decide)]
      unfold f_Mach_calculate_b37 f_Mach_calculate_b68 f_Mach_combined f_Mach_holds f_Mach_holds_b38
      simp only [g2, g4, e1, Option.bind_some]
      rw [if_pos (by decide), if_neg (by decide), if_neg (by decide), if_neg (by decide), if_neg (by decide), if_neg (by decide), if_neg (by decide), if_pos (by decide), if_pos hz]
      simp only [show bZ (0 : Int32) = some 0 from rfl, Option.bind_some]
      rw [if_pos (by decide)]
      unfold f_Mach_combined_b98
      simp only [xf_O (fo_fr hd), Option.bind_some, X_set hd hr]
    · unfold f_M_let_b182
      simp only [mgO, Option.bind_some, M_giv hd hr e2 hk]
  · rw [if_neg hz]
    refine ok_give h hr (v := 1) ?_ ?_
    · unfold f_Mach_calculate_b23
      rw [if_pos (by decide)]
      unfold f_Mach_calculate_b37 f_Mach_calculate_b68 f_Mach_combined f_Mach_holds f_Mach_holds_b38
      simp only [g2, g4, e1, Option.bind_some]
      rw [if_pos (by decide), if_neg (by decide), if_neg (by decide), if_neg (by decide), if_neg (by decide), if_neg (by decide), if_neg (by decide), if_pos (by decide), if_neg hz]
      simp only [show bZ (1 : Int32) = some 1 from rfl, Option.bind_some]
      rw [if_neg (by decide)]
      unfold f_Mach_combined_b98
      simp only [xf_O (fo_fr hd), Option.bind_some, X_set hd hr]
    · unfold f_M_let_b182
      simp only [mgO, Option.bind_some, M_giv hd hr e2 hk]
set_option maxRecDepth 10000 in
theorem cal_61 {X Y : Int32} {r : Nat} {into : Int32} (h : mid bd st d p k t l o A s B) (hr : r < 8) (e1 : into = nI r) (e2 : (w 1).toInt32 - 97 = nI r) (g2 : gI (eX x o A q F) (some a) 4 2 = some into) (g4 : gI (eX x o A q F) (some a) 4 4 = some 61) (hx1 : f_M_value N (eM m s B w G) m (nI d) 2 = some X) (hy1 : f_M_value N (eM m s B w G) m (nI d) 4 = some Y) (h8 : s 8 = 5) (hw3 : (w 3).toInt32 = 61) : okS x m q F G w bd st d p t l o A B (f_Mach_calculate (some (x + fo d)) (some a) X Y (eX x o A q F)) (f_M_let N m (nI d) (eM m s B w G)) := by
  have hd := h.2.2.2.2.2
  have hk := h.2.1.2.2.2.1
  unfold f_M_let
  simp only [mgO, Option.bind_some, hx1, hy1, mg_8, h8, mg_9, mg_w3, hw3]
  rw [if_neg (by decide)]
  unfold f_Mach_calculate
  simp only [g4, Option.bind_some]
  rw [if_neg (by decide), if_neg (by decide), if_neg (by decide), if_neg (by decide), if_neg (by decide), if_neg (by decide), if_neg (by decide), if_pos (by decide)]
  by_cases hz : X = Y
  · rw [if_pos hz]
    refine ok_give h hr (v := 1) ?_ ?_
    · unfold f_Mach_calculate_b23
      rw [if_pos (by decide)]
      unfold f_Mach_calculate_b37 f_Mach_calculate_b68 f_Mach_combined f_Mach_holds f_Mach_holds_b49
      simp only [g2, g4, e1, Option.bind_some]
      rw [if_pos (by decide), if_neg (by decide), if_neg (by decide), if_neg (by decide), if_neg (by decide), if_neg (by decide), if_neg (by decide), if_neg (by decide), if_pos (by decide), if_pos hz]
      simp only [show bZ (1 : Int32) = some 1 from rfl, Option.bind_some]
      rw [if_neg (by decide)]
      unfold f_Mach_combined_b98
      simp only [xf_O (fo_fr hd), Option.bind_some, X_set hd hr]
    · unfold f_M_let_b198
      simp only [mgO, Option.bind_some, M_giv hd hr e2 hk]
  · rw [if_neg hz]
    refine ok_give h hr (v := 0) ?_ ?_
    · unfold f_Mach_calculate_b23
      rw [if_pos (by decide)]
      unfold f_Mach_calculate_b37 f_Mach_calculate_b68 f_Mach_combined f_Mach_holds f_Mach_holds_b49
      simp only [g2, g4, e1, Option.bind_some]
      rw [if_pos (by decide), if_neg (by decide), if_neg (by decide), if_neg (by decide), if_neg (by decide), if_neg (by decide), if_neg (by decide), if_neg (by decide), if_pos (by decide), if_neg hz]
      simp only [show bZ (0 : Int32) = some 0 from rfl, Option.bind_some]
      rw [if_pos (by decide)]
      unfold f_Mach_combined_b98
      simp only [xf_O (fo_fr hd), Option.bind_some, X_set hd hr]
    · unfold f_M_let_b198
      simp only [mgO, Option.bind_some, M_giv hd hr e2 hk]
set_option maxRecDepth 10000 in
theorem st_1 (hN : 400 < N) (hc : conS S g fa wa ka) (h : mid bd st d p k t l o A s B) (hl : lSt s B w t (400 * p) W) (he : ∀ j, j < W.1 → W.2.2 j ≤ 400) (ha : eX x o A q F a = some (.inr (4, stL fa (k, 1, u)))) (hf : fit t W 1 = some u) : okS x m q F G w bd st d p t l o A B (f_Mach_perform S g N fol (x + 6) (some a) (some sc) (some (x + fo d)) (eX x o A q F)) (f_M_work N m (nI d) (eM m s B w G)) := by
  obtain ⟨h1, h2, b0, b1, b2, b3, rfl⟩ := fi_1 hf
  have hd := h.2.2.2.2.2
  have hk := h.2.1.2.2.2.1
  have hw : w 0 = 7103860 := (kw_w hl (by omega) [108, 101, 116] (by decide) (by decide)).mpr h2
  obtain ⟨g0, g1, g2, g3, g4, g5, g6⟩ := st_rd ha
  obtain ⟨r, hr, e1, e2⟩ := reg1 hl (by omega) b0
  obtain ⟨X, hx1, hx2⟩ := M_val (x := x) (o := o) (q := q) (F := F) (m := m) (G := G) (N := N) hN hd hl (k := 2) (by omega) (by decide) (he 2 (by omega)) b1 h.2.1.1
  have hx1 : f_M_value N (eM m s B w G) m (nI d) 2 = some X := hx1
  obtain ⟨Y, hy1, hy2⟩ := M_val (x := x) (o := o) (q := q) (F := F) (m := m) (G := G) (N := N) hN hd hl (k := 4) (by omega) (by decide) (he 4 (by omega)) b3 h.2.1.1
  have hy1 : f_M_value N (eM m s B w G) m (nI d) 4 = some Y := hy1
  have h8 : s 8 = 5 := by rw [hl.1.1, h1]; rfl
  have hw3 : (w 3).toInt32 = ol t (W.2.1 3) (W.2.2 3) := wd_i hl (by omega) (by decide) (fun z => by rw [z] at b2; exact absurd b2 (by decide))
  have hS : f_Mach_perform S g N fol (x + 6) (some a) (some sc) (some (x + fo d)) (eX x o A q F) = f_Mach_calculate (some (x + fo d)) (some a) X Y (eX x o A q F) := by
    unfold f_Mach_perform
    simp only [g3, xf_O (fo_fr hd), Option.bind_some, hx2, g5, hy2, g1, con_f hc (i := 1) (by decide), con_s hc (i := 1) (by decide)]
    rw [if_neg (by decide), if_pos (by decide)]
    cases f_Mach_calculate (some (x + fo d)) (some a) X Y (eX x o A q F) <;> rfl
  have hM : f_M_work N m (nI d) (eM m s B w G) = f_M_let N m (nI d) (eM m s B w G) := by
    unfold f_M_work
    simp only [mg_9, mg_w0, hw, Option.bind_some]
    rw [if_pos (by decide)]
    simp only [mgO, Option.bind_some]
    cases f_M_let N m (nI d) (eM m s B w G) <;> rfl
  rw [hS, hM]
  rcases isSg_cs b2 with z | z | z | z | z | z | z | z | z | z
  · exact cal_43 h hr e1 e2 g2 (by rw [g4, z]) hx1 hy1 h8 (by rw [hw3, z])
  · exact cal_45 h hr e1 e2 g2 (by rw [g4, z]) hx1 hy1 h8 (by rw [hw3, z])
  · exact cal_42 h hr e1 e2 g2 (by rw [g4, z]) hx1 hy1 h8 (by rw [hw3, z])
  · exact cal_47 h hr e1 e2 g2 (by rw [g4, z]) hx1 hy1 h8 (by rw [hw3, z])
  · exact cal_37 h hr e1 e2 g2 (by rw [g4, z]) hx1 hy1 h8 (by rw [hw3, z])
  · exact cal_38 h hr e1 e2 g2 (by rw [g4, z]) hx1 hy1 h8 (by rw [hw3, z])
  · exact cal_124 h hr e1 e2 g2 (by rw [g4, z]) hx1 hy1 h8 (by rw [hw3, z])
  · exact cal_94 h hr e1 e2 g2 (by rw [g4, z]) hx1 hy1 h8 (by rw [hw3, z])
  · exact cal_60 h hr e1 e2 g2 (by rw [g4, z]) hx1 hy1 h8 (by rw [hw3, z])
  · exact cal_61 h hr e1 e2 g2 (by rw [g4, z]) hx1 hy1 h8 (by rw [hw3, z])
set_option maxRecDepth 10000 in
theorem st_2 (hN : 400 < N) (hc : conS S g fa wa ka) (h : mid bd st d p k t l o A s B) (hl : lSt s B w t (400 * p) W) (he : ∀ j, j < W.1 → W.2.2 j ≤ 400) (ha : eX x o A q F a = some (.inr (4, stL fa (k, 2, u)))) (hf : fit t W 2 = some u) : okS x m q F G w bd st d p t l o A B (f_Mach_perform S g N fol (x + 6) (some a) (some sc) (some (x + fo d)) (eX x o A q F)) (f_M_work N m (nI d) (eM m s B w G)) := by
  obtain ⟨h1, h2, b0, b1, rfl⟩ := fi_2 hf
  have hd := h.2.2.2.2.2
  have hk := h.2.1.2.2.2.1
  have hw : w 0 = 6776180 := (kw_w hl (by omega) [103, 101, 116] (by decide) (by decide)).mpr h2
  obtain ⟨g0, g1, g2, g3, g4, g5, g6⟩ := st_rd ha
  obtain ⟨r, hr, e1, e2⟩ := reg1 hl (by omega) b0
  obtain ⟨X, hx1, hx2⟩ := M_val (x := x) (o := o) (q := q) (F := F) (m := m) (G := G) (N := N) hN hd hl (k := 2) (by omega) (by decide) (he 2 (by omega)) b1 h.2.1.1
  have hx1 : f_M_value N (eM m s B w G) m (nI d) 2 = some X := hx1
  have hy2 := X_no (x := x) (o := o) (A := A) (q := q) (F := F) (d := d)
  have hS : f_Mach_perform S g N fol (x + 6) (some a) (some sc) (some (x + fo d)) (eX x o A q F) = f_Mach_getCell (some (x + fo d)) (nI r) X (eX x o A q F) := by
    unfold f_Mach_perform
    simp only [g3, xf_O (fo_fr hd), Option.bind_some, hx2, g5, hy2, g1, con_f hc (i := 2) (by decide), con_s hc (i := 2) (by decide)]
    rw [if_neg (by decide), if_neg (by decide), if_pos (by decide)]
    simp only [g2, e1, Option.bind_some]
    cases f_Mach_getCell (some (x + fo d)) (nI r) X (eX x o A q F) <;> rfl
  rw [hS]
  unfold f_M_work
  simp only [mg_9, mg_w0, hw, Option.bind_some]
  rw [if_neg (by decide), if_pos (by decide)]
  simp only [mgO, Option.bind_some, hx1]
  unfold f_Mach_getCell
  rcases pk_ix X (n := 32) (by decide) with h0 | h0 | ⟨c, hcc, rfl⟩
  · rw [if_pos h0, M_in31 (Or.inl h0)]
    exact ok_exit h (v := 102) (by decide) rfl rfl
  · rw [if_neg (lt0_big h0 (by decide)), if_neg (show ¬ X < 32 from Int32.not_lt.mpr h0), M_in31 (Or.inr h0)]
    exact ok_exit h (v := 102) (by decide) rfl rfl
  · rw [if_neg (nI_pos (by omega)), if_pos (show nI c < 32 from nI_lt (b := 32) hcc (by decide)), M_in31' hcc]
    have hg := h.2.1.1.2 c hcc
    refine ok_give h hr (v := A (fo d + 2) c) ?_ ?_
    · simp only [xf_2 (fo_fr hd), Option.bind_some, xa_I (fr_ar2 (fo_fr hd)) (show c < xN (fo d + 2) by rw [fr_n2 (fo_fr hd)]; exact hcc), xf_O (fo_fr hd), X_set hd hr]
    · simp only [Option.bind_some, show ¬ (1 : Int32) = 0 from by decide, if_false, mg_30, mgO, hx1, show (32 : Int32) = nI 32 from rfl, pk_mul, nI_add, ma_21 (show 32 * d + c < 128 by omega), hg, M_giv hd hr e2 hk]
      rfl
set_option maxRecDepth 10000 in
theorem st_3 (hN : 400 < N) (hc : conS S g fa wa ka) (h : mid bd st d p k t l o A s B) (hl : lSt s B w t (400 * p) W) (he : ∀ j, j < W.1 → W.2.2 j ≤ 400) (ha : eX x o A q F a = some (.inr (4, stL fa (k, 3, u)))) (hf : fit t W 3 = some u) : okS x m q F G w bd st d p t l o A B (f_Mach_perform S g N fol (x + 6) (some a) (some sc) (some (x + fo d)) (eX x o A q F)) (f_M_work N m (nI d) (eM m s B w G)) := by
  obtain ⟨h1, h2, b0, b1, rfl⟩ := fi_3 hf
  have hd := h.2.2.2.2.2
  have hk := h.2.1.2.2.2.1
  have hw : w 0 = 7370100 := (kw_w hl (by omega) [112, 117, 116] (by decide) (by decide)).mpr h2
  obtain ⟨g0, g1, g2, g3, g4, g5, g6⟩ := st_rd ha
  obtain ⟨X, hx1, hx2⟩ := M_val (x := x) (o := o) (q := q) (F := F) (m := m) (G := G) (N := N) hN hd hl (k := 1) (by omega) (by decide) (he 1 (by omega)) b0 h.2.1.1
  have hx1 : f_M_value N (eM m s B w G) m (nI d) 1 = some X := hx1
  obtain ⟨Y, hy1, hy2⟩ := M_val (x := x) (o := o) (q := q) (F := F) (m := m) (G := G) (N := N) hN hd hl (k := 2) (by omega) (by decide) (he 2 (by omega)) b1 h.2.1.1
  have hy1 : f_M_value N (eM m s B w G) m (nI d) 2 = some Y := hy1
  have hS : f_Mach_perform S g N fol (x + 6) (some a) (some sc) (some (x + fo d)) (eX x o A q F) = f_Mach_putCell (some (x + fo d)) X Y (eX x o A q F) := by
    unfold f_Mach_perform
    simp only [g3, xf_O (fo_fr hd), Option.bind_some, hx2, g5, hy2, g1, con_f hc (i := 3) (by decide), con_s hc (i := 3) (by decide)]
    rw [if_neg (by decide), if_neg (by decide), if_neg (by decide), if_pos (by decide)]
    cases f_Mach_putCell (some (x + fo d)) X Y (eX x o A q F) <;> rfl
  have hM : f_M_work N m (nI d) (eM m s B w G) = f_M_put m (nI d) X Y (eM m s B w G) := by
    unfold f_M_work
    simp only [mg_9, mg_w0, hw, Option.bind_some]
    rw [if_neg (by decide), if_neg (by decide), if_pos (by decide)]
    simp only [mgO, hx1, hy1, Option.bind_some]
    cases f_M_put m (nI d) X Y (eM m s B w G) <;> rfl
  rw [hS, hM]
  unfold f_Mach_putCell f_M_put
  rcases pk_ix X (n := 32) (by decide) with h0 | h0 | ⟨c, hcc, rfl⟩
  · rw [if_pos h0, M_in31 (Or.inl h0)]
    exact ok_exit h (v := 102) (by decide) rfl rfl
  · rw [if_neg (lt0_big h0 (by decide)), if_neg (show ¬ X < 32 from Int32.not_lt.mpr h0), M_in31 (Or.inr h0)]
    exact ok_exit h (v := 102) (by decide) rfl rfl
  · rw [if_neg (nI_pos (by omega)), if_pos (show nI c < 32 from nI_lt (b := 32) hcc (by decide)), M_in31' hcc]
    refine ok_put h hcc (v := Y) ?_ ?_
    · simp only [xf_2 (fo_fr hd), Option.bind_some, xa_T (fr_ar2 (fo_fr hd)) (show c < xN (fo d + 2) by rw [fr_n2 (fo_fr hd)]; exact hcc)]
    · simp only [Option.bind_some, show ¬ (1 : Int32) = 0 from by decide, if_false, mg_30, show (32 : Int32) = nI 32 from rfl, pk_mul, nI_add, mt_21 (show 32 * d + c < 128 by omega), mgO]
      have e : va_up B 21 (upd (B 21) (32 * d + c) Y) 18 = B 18 := va_up_ne _ _ (by decide)
      rw [M_on hd (by rw [e]; exact hk), Option.bind_some, e]
set_option maxRecDepth 10000 in
theorem st_4 (hN : 400 < N) (hc : conS S g fa wa ka) (h : mid bd st d p k t l o A s B) (hl : lSt s B w t (400 * p) W) (he : ∀ j, j < W.1 → W.2.2 j ≤ 400) (ha : eX x o A q F a = some (.inr (4, stL fa (k, 4, u)))) (hf : fit t W 4 = some u) : okS x m q F G w bd st d p t l o A B (f_Mach_perform S g N fol (x + 6) (some a) (some sc) (some (x + fo d)) (eX x o A q F)) (f_M_work N m (nI d) (eM m s B w G)) := by
  obtain ⟨h1, h2, b0, b1, rfl⟩ := fi_4 hf
  have hd := h.2.2.2.2.2
  have hk := h.2.1.2.2.2.1
  have hw : w 0 = 1936292453 := (kw_w hl (by omega) [115, 105, 122, 101] (by decide) (by decide)).mpr h2
  obtain ⟨g0, g1, g2, g3, g4, g5, g6⟩ := st_rd ha
  obtain ⟨r, hr, e1, e2⟩ := reg1 hl (by omega) b0
  obtain ⟨X, hx1, hx2⟩ := M_val (x := x) (o := o) (q := q) (F := F) (m := m) (G := G) (N := N) hN hd hl (k := 2) (by omega) (by decide) (he 2 (by omega)) b1 h.2.1.1
  have hx1 : f_M_value N (eM m s B w G) m (nI d) 2 = some X := hx1
  have hy2 := X_no (x := x) (o := o) (A := A) (q := q) (F := F) (d := d)
  have hS : f_Mach_perform S g N fol (x + 6) (some a) (some sc) (some (x + fo d)) (eX x o A q F) = f_Mach_sizeFile (x + 6) (some (x + fo d)) (nI r) X (eX x o A q F) := by
    unfold f_Mach_perform
    simp only [g3, xf_O (fo_fr hd), Option.bind_some, hx2, g5, hy2, g1, con_f hc (i := 4) (by decide), con_s hc (i := 4) (by decide)]
    rw [if_neg (by decide), if_neg (by decide), if_neg (by decide), if_neg (by decide), if_pos (by decide)]
    simp only [g2, e1, xm_O, Option.bind_some]
    cases f_Mach_sizeFile (x + 6) (some (x + fo d)) (nI r) X (eX x o A q F) <;> rfl
  have hM : f_M_work N m (nI d) (eM m s B w G) = f_M_withFiles N m (nI d) (eM m s B w G) := by
    unfold f_M_work
    simp only [mg_9, mg_w0, hw, Option.bind_some]
    rw [if_neg (by decide), if_neg (by decide), if_neg (by decide), if_pos (by decide)]
    unfold f_M_work_b137
    simp only [mgO, Option.bind_some]
    cases f_M_withFiles N m (nI d) (eM m s B w G) <;> rfl
  rw [hS, hM]
  unfold f_M_withFiles f_Mach_sizeFile
  simp only [mg_9, mg_w0, hw, Option.bind_some, xm_O]
  rw [if_pos (by decide)]
  simp only [mgO, Option.bind_some, hx1]
  rcases pk_ix X (n := 10) (by decide) with h0 | h0 | ⟨j, hj, rfl⟩
  · rw [X_file0 (Or.inl h0), M_fi0 (Or.inl h0)]
    exact ok_exit h (v := 102) (by decide) rfl rfl
  · rw [X_file0 (Or.inr h0), M_fi0 (Or.inr h0)]
    exact ok_exit h (v := 102) (by decide) rfl rfl
  · obtain ⟨n, hn, a1, a2, a3, a4, a5, a6⟩ := h.1.2.1 j hj
    simp only [X_file1 hj, M_fi1 hj, Option.bind_some, reduceCtorEq, if_false, xr_O (F_row hj), R_cit (F_row hj), mg_12, ma_11 hj, mg_13, ma_12 hj, a1, a2, a3, show ¬ (1 : Int32) = 0 from by decide, xf_O (fo_fr hd), X_set hd hr]
    unfold f_M_withFiles_b54 f_M_withFiles_b62
    by_cases hz : B 11 j = 0
    · rw [if_pos hz, if_pos hz]
      refine ok_give h hr (v := -1) rfl ?_
      simp only [mgO, Option.bind_some, M_giv hd hr e2 hk]
    · rw [if_neg hz, if_neg hz]
      refine ok_give h hr (v := nI n) rfl ?_
      simp only [mgO, Option.bind_some, M_giv hd hr e2 hk]
set_option maxRecDepth 10000 in
theorem st_5 (hN : 400 < N) (hc : conS S g fa wa ka) (h : mid bd st d p k t l o A s B) (hl : lSt s B w t (400 * p) W) (he : ∀ j, j < W.1 → W.2.2 j ≤ 400) (ha : eX x o A q F a = some (.inr (4, stL fa (k, 5, u)))) (hf : fit t W 5 = some u) : okS x m q F G w bd st d p t l o A B (f_Mach_perform S g N fol (x + 6) (some a) (some sc) (some (x + fo d)) (eX x o A q F)) (f_M_work N m (nI d) (eM m s B w G)) := by
  obtain ⟨h1, h2, b0, b1, b2, rfl⟩ := fi_5 hf
  have hd := h.2.2.2.2.2
  have hk := h.2.1.2.2.2.1
  have hw : w 0 = 1919246692 := (kw_w hl (by omega) [114, 101, 97, 100] (by decide) (by decide)).mpr h2
  obtain ⟨g0, g1, g2, g3, g4, g5, g6⟩ := st_rd ha
  obtain ⟨r, hr, e1, e2⟩ := reg1 hl (by omega) b0
  obtain ⟨X, hx1, hx2⟩ := M_val (x := x) (o := o) (q := q) (F := F) (m := m) (G := G) (N := N) hN hd hl (k := 2) (by omega) (by decide) (he 2 (by omega)) b1 h.2.1.1
  have hx1 : f_M_value N (eM m s B w G) m (nI d) 2 = some X := hx1
  obtain ⟨Y, hy1, hy2⟩ := M_val (x := x) (o := o) (q := q) (F := F) (m := m) (G := G) (N := N) hN hd hl (k := 3) (by omega) (by decide) (he 3 (by omega)) b2 h.2.1.1
  have hy1 : f_M_value N (eM m s B w G) m (nI d) 3 = some Y := hy1
  have hS : f_Mach_perform S g N fol (x + 6) (some a) (some sc) (some (x + fo d)) (eX x o A q F) = f_Mach_readFile (x + 6) (some (x + fo d)) (nI r) X Y (eX x o A q F) := by
    unfold f_Mach_perform
    simp only [g3, xf_O (fo_fr hd), Option.bind_some, hx2, g5, hy2, g1, con_f hc (i := 5) (by decide), con_s hc (i := 5) (by decide)]
    rw [if_neg (by decide), if_neg (by decide), if_neg (by decide), if_neg (by decide), if_neg (by decide), if_pos (by decide)]
    simp only [g2, e1, xm_O, Option.bind_some]
    cases f_Mach_readFile (x + 6) (some (x + fo d)) (nI r) X Y (eX x o A q F) <;> rfl
  have hM : f_M_work N m (nI d) (eM m s B w G) = f_M_withFiles N m (nI d) (eM m s B w G) := by
    unfold f_M_work
    simp only [mg_9, mg_w0, hw, Option.bind_some]
    rw [if_neg (by decide), if_neg (by decide), if_neg (by decide), if_neg (by decide), if_pos (by decide)]
    unfold f_M_work_b137
    simp only [mgO, Option.bind_some]
    cases f_M_withFiles N m (nI d) (eM m s B w G) <;> rfl
  have hM2 : f_M_withFiles N m (nI d) (eM m s B w G) = f_M_read m (nI d) X Y (eM m s B w G) := by
    unfold f_M_withFiles
    simp only [mg_9, mg_w0, hw, Option.bind_some]
    rw [if_neg (by decide), if_pos (by decide)]
    simp only [mgO, Option.bind_some, hx1, hy1]
    cases f_M_read m (nI d) X Y (eM m s B w G) <;> rfl
  rw [hS, hM, hM2]
  unfold f_Mach_readFile f_M_read
  simp only [xm_O, Option.bind_some]
  rcases pk_ix X (n := 10) (by decide) with h0 | h0 | ⟨j, hj, rfl⟩
  · rw [X_file0 (Or.inl h0), M_fi0 (Or.inl h0)]
    exact ok_exit h (v := 102) (by decide) rfl rfl
  · rw [X_file0 (Or.inr h0), M_fi0 (Or.inr h0)]
    exact ok_exit h (v := 102) (by decide) rfl rfl
  · obtain ⟨n, hn, a1, a2, a3, a4, a5, a6⟩ := h.1.2.1 j hj
    have hl40 := F_len hj
    simp only [X_file1 hj, M_fi1 hj, Option.bind_some, reduceCtorEq, if_false, xr_O (F_row hj), xr_2 (F_row hj), mg_12, ma_11 hj, mg_13, ma_12 hj, a2, a3, show ¬ (1 : Int32) = 0 from by decide]
    by_cases hz : B 11 j = 0
    · rw [if_pos hz, if_pos hz]
      exact ok_exit h (v := 101) (by decide) rfl rfl
    · rw [if_neg hz, if_neg hz]
      rcases pk_ix Y (n := n) (by omega) with h0 | h0 | ⟨c, hcc, rfl⟩
      · rw [R_at0 (F_row hj) a1 (Or.inl h0), M_in0 (Or.inl h0)]
        exact ok_exit h (v := 102) (by decide) rfl rfl
      · rw [R_at0 (F_row hj) a1 (Or.inr h0), M_in0 (Or.inr (nI_top h0 (by omega)))]
        exact ok_exit h (v := 102) (by decide) rfl rfl
      · obtain ⟨n', rfl⟩ : ∃ n', n = n' + 1 := ⟨n - 1, by omega⟩
        obtain ⟨c1, b, c2, c3⟩ := a6 c hcc
        rw [R_at1 (F_row hj) a1 (by omega) hcc, nI_pred, M_ix1 (by omega) (by omega)]
        have hb : ¬ A (19 + 2 * j + 1) c = -1 := by rw [c2]; exact neg2 (by omega)
        simp only [Option.bind_some, show ¬ (1 : Int32) = 0 from by decide, if_false, hb]
        refine ok_give h hr (v := A (19 + 2 * j + 1) c) ?_ ?_
        · simp only [xf_O (fo_fr hd), Option.bind_some, X_set hd hr]
        · simp only [mg_14, Option.bind_some, show (40 : Int32) = nI 40 from rfl, pk_mul, nI_add, ma_13 (show 40 * j + c < 400 by omega), ← c1, mgO, M_giv hd hr e2 hk]
          rfl
set_option maxRecDepth 10000 in
theorem st_6 (hN : 400 < N) (hc : conS S g fa wa ka) (h : mid bd st d p k t l o A s B) (hl : lSt s B w t (400 * p) W) (he : ∀ j, j < W.1 → W.2.2 j ≤ 400) (ha : eX x o A q F a = some (.inr (4, stL fa (k, 6, u)))) (hf : fit t W 6 = some u) : okS x m q F G w bd st d p t l o A B (f_Mach_perform S g N fol (x + 6) (some a) (some sc) (some (x + fo d)) (eX x o A q F)) (f_M_work N m (nI d) (eM m s B w G)) := by
  obtain ⟨h1, h2, b0, b1, rfl⟩ := fi_6 hf
  have hd := h.2.2.2.2.2
  have hk := h.2.1.2.2.2.1
  have hw : w 0 = 513020621925 := (kw_w hl (by omega) [119, 114, 105, 116, 101] (by decide) (by decide)).mpr h2
  obtain ⟨g0, g1, g2, g3, g4, g5, g6⟩ := st_rd ha
  obtain ⟨X, hx1, hx2⟩ := M_val (x := x) (o := o) (q := q) (F := F) (m := m) (G := G) (N := N) hN hd hl (k := 1) (by omega) (by decide) (he 1 (by omega)) b0 h.2.1.1
  have hx1 : f_M_value N (eM m s B w G) m (nI d) 1 = some X := hx1
  obtain ⟨Y, hy1, hy2⟩ := M_val (x := x) (o := o) (q := q) (F := F) (m := m) (G := G) (N := N) hN hd hl (k := 2) (by omega) (by decide) (he 2 (by omega)) b1 h.2.1.1
  have hy1 : f_M_value N (eM m s B w G) m (nI d) 2 = some Y := hy1
  have hS : f_Mach_perform S g N fol (x + 6) (some a) (some sc) (some (x + fo d)) (eX x o A q F) = f_Mach_writeFile (x + 6) X Y (eX x o A q F) := by
    unfold f_Mach_perform
    simp only [g3, xf_O (fo_fr hd), Option.bind_some, hx2, g5, hy2, g1, con_f hc (i := 6) (by decide), con_s hc (i := 6) (by decide)]
    rw [if_neg (by decide), if_neg (by decide), if_neg (by decide), if_neg (by decide), if_neg (by decide), if_neg (by decide), if_pos (by decide)]
    simp only [xm_O, Option.bind_some]
    cases f_Mach_writeFile (x + 6) X Y (eX x o A q F) <;> rfl
  have hM : f_M_work N m (nI d) (eM m s B w G) = f_M_withFiles N m (nI d) (eM m s B w G) := by
    unfold f_M_work
    simp only [mg_9, mg_w0, hw, Option.bind_some]
    rw [if_neg (by decide), if_neg (by decide), if_neg (by decide), if_neg (by decide), if_neg (by decide), if_pos (by decide)]
    unfold f_M_work_b137
    simp only [mgO, Option.bind_some]
    cases f_M_withFiles N m (nI d) (eM m s B w G) <;> rfl
  have hM2 : f_M_withFiles N m (nI d) (eM m s B w G) = f_M_write m (nI d) X (Y &&& 255) (eM m s B w G) := by
    unfold f_M_withFiles
    simp only [mg_9, mg_w0, hw, Option.bind_some]
    rw [if_neg (by decide), if_neg (by decide)]
    simp only [mgO, Option.bind_some, hx1, hy1]
    rw [if_pos (by decide)]
    cases f_M_write m (nI d) X (Y &&& 255) (eM m s B w G) <;> rfl
  rw [hS, hM, hM2]
  unfold f_Mach_writeFile f_M_write f_Mach_writeFile_b20 f_Mach_speak
  simp only [xm_O, Option.bind_some]
  rcases pk_ix X (n := 10) (by decide) with h0 | h0 | ⟨j, hj, rfl⟩
  · rw [X_file0 (Or.inl h0), M_fi0 (Or.inl h0)]
    exact ok_exit h (v := 102) (by decide) rfl rfl
  · rw [X_file0 (Or.inr h0), M_fi0 (Or.inr h0)]
    exact ok_exit h (v := 102) (by decide) rfl rfl
  · obtain ⟨n, hn, a1, a2, a3, a4, a5, a6⟩ := h.1.2.1 j hj
    have hl40 := F_len hj
    simp only [X_file1 hj, M_fi1 hj, Option.bind_some, reduceCtorEq, if_false, xr_O (F_row hj), mg_13, ma_12 hj, a2, show ¬ (1 : Int32) = 0 from by decide]
    by_cases h40 : n = 40
    · subst h40
      rw [show f_Row_hasRoomFor (eX x o A q F) (x + (19 + 2 * j)) 1 = some 0 from R_room0 (c := 1) (F_row hj) a1 (by omega) (by omega) (by decide), if_pos (show nI 40 = 40 from rfl)]
      exact ok_exit h (v := 104) (by decide) rfl rfl
    · rw [show f_Row_hasRoomFor (eX x o A q F) (x + (19 + 2 * j)) 1 = some 1 from R_room1 (c := 1) (F_row hj) a1 (by omega), if_neg (show ¬ nI n = 40 from fun z => h40 ((nI_eq (by omega) (by decide)).mp z))]
      obtain ⟨b, hb, hbe⟩ := pk_andE Y (m := 255) 8 (by decide)
      have hBy : isBy (Y &&& 255) := ⟨b, hbe, hb⟩
      simp only [Option.bind_some, show ¬ (1 : Int32) = 0 from by decide, if_false, R_add (F_row hj) a1 (show n < xN (19 + 2 * j + 1) by omega), mgO, M_app hj (show n < 40 by omega) a2]
      have e18 : va_up (va_up (va_up B 11 (upd (B 11) j 1)) 13 (upd (B 13) (40 * j + n) (Y &&& 255))) 12 (upd (B 12) j (nI (n + 1))) 18 = B 18 := by rw [va_up_ne _ _ (by decide), va_up_ne _ _ (by decide), va_up_ne _ _ (by decide)]
      have e1 : oneF j o A B (u2 (u2 o (19 + 2 * j) 1 (nI (n + 1))) (19 + 2 * j) 2 1) (va_up A (19 + 2 * j + 1) (upd (A (19 + 2 * j + 1)) n (Y &&& 255))) (va_up (va_up (va_up B 11 (upd (B 11) j 1)) 13 (upd (B 13) (40 * j + n) (Y &&& 255))) 12 (upd (B 12) j (nI (n + 1)))) := by
        refine ⟨fun k hk => by rw [u2_n _ _ _ hk, u2_n _ _ _ hk], fun k hk => va_up_ne _ _ hk, fun k a1 a2 a3 => by rw [va_up_ne _ _ a2, va_up_ne _ _ a3, va_up_ne _ _ a1], fun f hf => ⟨?_, ?_, fun i hi => ?_⟩⟩
        · rw [va_up_ne _ _ (by decide), va_up_ne _ _ (by decide), va_up_self, upd_ne _ _ hf]
        · rw [va_up_self, upd_ne _ _ hf]
        · rw [va_up_ne _ _ (by decide), va_up_self, upd_ne _ _ (by omega)]
      refine ok_on h rfl (by rw [M_on hd (by rw [e18]; exact hk), Option.bind_some, e18]) (jR_file h.1 hj e1 ⟨n + 1, by omega, ?_, ?_, ?_, ?_, ?_, fun i hi => ?_⟩) (fun i hi => e1.1 i (by omega)) (fun i hi => e1.2.1 i (by omega)) rfl (fun i hi => e1.2.2.1 i (by omega) (by omega) (by omega))
      · rw [u2_ne _ _ (by decide), u2_self]
      · rw [va_up_self, upd_self]
      · rw [u2_self, va_up_ne _ _ (by decide), va_up_ne _ _ (by decide), va_up_self, upd_self]
      · rw [va_up_ne _ _ (by decide), va_up_ne _ _ (by decide), va_up_self, upd_self]; exact Or.inr rfl
      · intro z
        rw [va_up_ne _ _ (by decide), va_up_ne _ _ (by decide), va_up_self, upd_self] at z
        cases z
      · rw [va_up_self, va_up_ne _ _ (by decide), va_up_self]
        by_cases hin : i = n
        · subst hin
          rw [upd_self, upd_self]
          exact ⟨rfl, hBy⟩
        · rw [upd_ne _ _ hin, upd_ne _ _ (by omega)]
          exact a6 i (by omega)
set_option maxRecDepth 10000 in
theorem st_7 (hN : 400 < N) (hc : conS S g fa wa ka) (h : mid bd st d p k t l o A s B) (hl : lSt s B w t (400 * p) W) (he : ∀ j, j < W.1 → W.2.2 j ≤ 400) (ha : eX x o A q F a = some (.inr (4, stL fa (k, 7, u)))) (hf : fit t W 7 = some u) : okS x m q F G w bd st d p t l o A B (f_Mach_perform S g N fol (x + 6) (some a) (some sc) (some (x + fo d)) (eX x o A q F)) (f_M_work N m (nI d) (eM m s B w G)) := by
  obtain ⟨h1, h2, b0, rfl⟩ := fi_7 hf
  have hd := h.2.2.2.2.2
  have hk := h.2.1.2.2.2.1
  have hw : w 0 = 1685221232 := (kw_w hl (by omega) [100, 114, 111, 112] (by decide) (by decide)).mpr h2
  obtain ⟨g0, g1, g2, g3, g4, g5, g6⟩ := st_rd ha
  obtain ⟨X, hx1, hx2⟩ := M_val (x := x) (o := o) (q := q) (F := F) (m := m) (G := G) (N := N) hN hd hl (k := 1) (by omega) (by decide) (he 1 (by omega)) b0 h.2.1.1
  have hx1 : f_M_value N (eM m s B w G) m (nI d) 1 = some X := hx1
  have hy2 := X_no (x := x) (o := o) (A := A) (q := q) (F := F) (d := d)
  have hS : f_Mach_perform S g N fol (x + 6) (some a) (some sc) (some (x + fo d)) (eX x o A q F) = f_Mach_dropFile (x + 6) X (eX x o A q F) := by
    unfold f_Mach_perform
    simp only [g3, xf_O (fo_fr hd), Option.bind_some, hx2, g5, hy2, g1, con_f hc (i := 7) (by decide), con_s hc (i := 7) (by decide)]
    rw [if_neg (by decide), if_neg (by decide), if_neg (by decide), if_neg (by decide), if_neg (by decide), if_neg (by decide), if_neg (by decide), if_pos (by decide)]
    simp only [xm_O, Option.bind_some]
    cases f_Mach_dropFile (x + 6) X (eX x o A q F) <;> rfl
  have hM : f_M_work N m (nI d) (eM m s B w G) = f_M_withFiles N m (nI d) (eM m s B w G) := by
    unfold f_M_work
    simp only [mg_9, mg_w0, hw, Option.bind_some]
    rw [if_neg (by decide), if_neg (by decide), if_neg (by decide), if_neg (by decide), if_neg (by decide), if_neg (by decide), if_pos (by decide)]
    unfold f_M_work_b137
    simp only [mgO, Option.bind_some]
    cases f_M_withFiles N m (nI d) (eM m s B w G) <;> rfl
  rw [hS, hM]
  unfold f_M_withFiles f_Mach_dropFile
  simp only [mg_9, mg_w0, hw, Option.bind_some, xm_O]
  rw [if_neg (by decide), if_neg (by decide)]
  simp only [mgO, Option.bind_some, hx1]
  rw [if_neg (by decide), if_neg (by decide)]
  rcases pk_ix X (n := 10) (by decide) with h0 | h0 | ⟨j, hj, rfl⟩
  · rw [X_file0 (Or.inl h0), M_fi0 (Or.inl h0)]
    exact ok_exit h (v := 102) (by decide) rfl rfl
  · rw [X_file0 (Or.inr h0), M_fi0 (Or.inr h0)]
    exact ok_exit h (v := 102) (by decide) rfl rfl
  · obtain ⟨n, hn, a1, a2, a3, a4, a5, a6⟩ := h.1.2.1 j hj
    simp only [X_file1 hj, M_fi1 hj, Option.bind_some, reduceCtorEq, if_false, xr_O (F_row hj), xr_2 (F_row hj), mg_12, ma_11 hj, a3, show ¬ (1 : Int32) = 0 from by decide]
    by_cases hz : B 11 j = 0
    · rw [if_pos hz, if_pos hz]
      exact ok_exit h (v := 101) (by decide) rfl rfl
    · rw [if_neg hz, if_neg hz]
      simp only [R_rem (F_row hj), Option.bind_some, mz_11 hj (Or.inl rfl), mg_13, mt_12 hj, mgO]
      have e18 : va_up (va_up B 11 (upd (B 11) j 0)) 12 (upd (va_up B 11 (upd (B 11) j 0) 12) j 0) 18 = B 18 := by rw [va_up_ne _ _ (by decide), va_up_ne _ _ (by decide)]
      have e1 : oneF j o A B (u2 (u2 o (19 + 2 * j) 1 0) (19 + 2 * j) 2 0) A (va_up (va_up B 11 (upd (B 11) j 0)) 12 (upd (va_up B 11 (upd (B 11) j 0) 12) j 0)) := by
        refine ⟨fun k hk => by rw [u2_n _ _ _ hk, u2_n _ _ _ hk], fun _ _ => rfl, fun k h1 h2 h3 => by rw [va_up_ne _ _ h2, va_up_ne _ _ h1], fun f hf => ⟨?_, ?_, fun i hi => ?_⟩⟩
        · rw [va_up_ne _ _ (by decide), va_up_self, upd_ne _ _ hf]
        · rw [va_up_self, upd_ne _ _ hf, va_up_ne _ _ (by decide)]
        · rw [va_up_ne _ _ (by decide), va_up_ne _ _ (by decide)]
      refine ok_on h rfl (by rw [M_on hd (by rw [e18]; exact hk), Option.bind_some, e18]) (jR_file h.1 hj e1 ⟨0, by omega, ?_, ?_, ?_, ?_, fun _ => rfl, fun i hi => absurd hi (Nat.not_lt_zero i)⟩) (fun i hi => e1.1 i (by omega)) (fun i hi => rfl) rfl (fun i hi => e1.2.2.1 i (by omega) (by omega) (by omega))
      · rw [u2_ne _ _ (by decide), u2_self]; rfl
      · rw [va_up_self, upd_self]; rfl
      · rw [u2_self, va_up_ne _ _ (by decide), va_up_self, upd_self]
      · rw [va_up_ne _ _ (by decide), va_up_self, upd_self]; exact Or.inl rfl
set_option maxRecDepth 10000 in
theorem st_8 (hN : 400 < N) (hc : conS S g fa wa ka) (h : mid bd st d p k t l o A s B) (hl : lSt s B w t (400 * p) W) (he : ∀ j, j < W.1 → W.2.2 j ≤ 400) (ha : eX x o A q F a = some (.inr (4, stL fa (k, 8, u)))) (hf : fit t W 8 = some u) : okS x m q F G w bd st d p t l o A B (f_Mach_perform S g N fol (x + 6) (some a) (some sc) (some (x + fo d)) (eX x o A q F)) (f_M_work N m (nI d) (eM m s B w G)) := by
  obtain ⟨h1, h2, b0, b1, rfl⟩ := fi_8 hf
  have hd := h.2.2.2.2.2
  have hk := h.2.1.2.2.2.1
  have hw : w 0 = 1668247673 := (kw_w hl (by omega) [99, 111, 112, 121] (by decide) (by decide)).mpr h2
  obtain ⟨g0, g1, g2, g3, g4, g5, g6⟩ := st_rd ha
  obtain ⟨X, hx1, hx2⟩ := M_val (x := x) (o := o) (q := q) (F := F) (m := m) (G := G) (N := N) hN hd hl (k := 1) (by omega) (by decide) (he 1 (by omega)) b0 h.2.1.1
  have hx1 : f_M_value N (eM m s B w G) m (nI d) 1 = some X := hx1
  obtain ⟨Y, hy1, hy2⟩ := M_val (x := x) (o := o) (q := q) (F := F) (m := m) (G := G) (N := N) hN hd hl (k := 2) (by omega) (by decide) (he 2 (by omega)) b1 h.2.1.1
  have hy1 : f_M_value N (eM m s B w G) m (nI d) 2 = some Y := hy1
  have hS : f_Mach_perform S g N fol (x + 6) (some a) (some sc) (some (x + fo d)) (eX x o A q F) = f_Mach_copyFile (x + 6) X Y (eX x o A q F) := by
    unfold f_Mach_perform
    simp only [g3, xf_O (fo_fr hd), Option.bind_some, hx2, g5, hy2, g1, con_f hc (i := 8) (by decide), con_s hc (i := 8) (by decide)]
    rw [if_neg (by decide), if_neg (by decide), if_neg (by decide), if_neg (by decide), if_neg (by decide), if_neg (by decide), if_neg (by decide), if_neg (by decide), if_pos (by decide)]
    simp only [xm_O, Option.bind_some]
    cases f_Mach_copyFile (x + 6) X Y (eX x o A q F) <;> rfl
  have hM : f_M_work N m (nI d) (eM m s B w G) = f_M_withFiles N m (nI d) (eM m s B w G) := by
    unfold f_M_work
    simp only [mg_9, mg_w0, hw, Option.bind_some]
    rw [if_neg (by decide), if_neg (by decide), if_neg (by decide), if_neg (by decide), if_neg (by decide), if_neg (by decide), if_neg (by decide), if_pos (by decide)]
    unfold f_M_work_b137
    simp only [mgO, Option.bind_some]
    cases f_M_withFiles N m (nI d) (eM m s B w G) <;> rfl
  have hM2 : f_M_withFiles N m (nI d) (eM m s B w G) = f_M_copy N m (nI d) X Y (eM m s B w G) := by
    unfold f_M_withFiles
    simp only [mg_9, mg_w0, hw, Option.bind_some]
    rw [if_neg (by decide), if_neg (by decide)]
    simp only [mgO, Option.bind_some, hx1, hy1]
    rw [if_neg (by decide), if_pos (by decide)]
    cases f_M_copy N m (nI d) X Y (eM m s B w G) <;> rfl
  rw [hS, hM, hM2]
  unfold f_Mach_copyFile f_M_copy
  simp only [xm_O, Option.bind_some]
  rcases pk_ix X (n := 10) (by decide) with h0 | h0 | ⟨j, hj, rfl⟩
  · obtain ⟨z, hz⟩ := X_fileE (x := x) (o := o) (A := A) (q := q) (F := F) Y
    rw [X_file0 (Or.inl h0), M_fi0 (Or.inl h0), hz]
    exact ok_exit h (v := 102) (by decide) rfl rfl
  · obtain ⟨z, hz⟩ := X_fileE (x := x) (o := o) (A := A) (q := q) (F := F) Y
    rw [X_file0 (Or.inr h0), M_fi0 (Or.inr h0), hz]
    exact ok_exit h (v := 102) (by decide) rfl rfl
  · rcases pk_ix Y (n := 10) (by decide) with h0 | h0 | ⟨f, hff, rfl⟩
    · rw [X_file1 hj, X_file0 (Or.inl h0), M_fi1 hj, M_fi0 (Or.inl h0)]
      exact ok_exit h (v := 102) (by decide) rfl rfl
    · rw [X_file1 hj, X_file0 (Or.inr h0), M_fi1 hj, M_fi0 (Or.inr h0)]
      exact ok_exit h (v := 102) (by decide) rfl rfl
    · obtain ⟨n, hn, a1, a2, a3, a4, a5, a6⟩ := h.1.2.1 j hj
      simp only [X_file1 hj, X_file1 hff, M_fi1 hj, M_fi1 hff, Option.bind_some, reduceCtorEq, if_false, xr_O (F_row hff), xr_2 (F_row hj), mg_12, ma_11 hj, a3, show ¬ (1 : Int32) = 0 from by decide]
      by_cases hz : B 11 j = 0
      · rw [if_pos hz, if_pos hz]
        exact ok_exit h (v := 101) (by decide) rfl rfl
      · rw [if_neg hz, if_neg hz]
        have b1 : B 11 j = 1 := a4.resolve_left hz
        have e12 : va_up B 11 (upd (B 11) f 1) 12 = B 12 := va_up_ne _ _ (by decide)
        simp only [mz_11 hff (Or.inr rfl), Option.bind_some, mg_13, ma_12 hj, mt_12 hff, e12, a2]
        obtain ⟨B2, c1, c2, c3⟩ := M_copyL (m := m) (N := N) (s := s) (w := w) (G := G) (B0 := B) hd hj hff 40 0 N (va_up (va_up B 11 (upd (B 11) f 1)) 12 (upd (B 12) f (nI n))) rfl (by omega) (fun i hi => by rw [va_up_ne _ _ (by decide), va_up_ne _ _ (by decide)]) (by rw [va_up_ne _ _ (by decide), va_up_ne _ _ (by decide)]; exact fun i hi => absurd hi (Nat.not_lt_zero i)) (by rw [va_up_ne _ _ (by decide), va_up_ne _ _ (by decide)]; exact hk)
        have c1 : f_M_copy_b51 N N (some m) (nI d) (nI j) (nI f) 0 (eM m s (va_up (va_up B 11 (upd (B 11) f 1)) 12 (upd (B 12) f (nI n))) w G) = some (-1, eM m s (va_up B2 18 (upd (B 18) d (nI (k + 1)))) w G) := by
          have e18 : va_up (va_up B 11 (upd (B 11) f 1)) 12 (upd (B 12) f (nI n)) 18 = B 18 := by rw [va_up_ne _ _ (by decide), va_up_ne _ _ (by decide)]
          rw [← e18]
          exact c1
        have o11 : B2 11 = upd (B 11) f 1 := by rw [c2 11 (by decide), va_up_ne _ _ (by decide), va_up_self]
        have o12 : B2 12 = upd (B 12) f (nI n) := by rw [c2 12 (by decide), va_up_self]
        have oo : ∀ i, i ≠ 11 → i ≠ 12 → i ≠ 13 → B2 i = B i := fun i h1 h2 h3 => by rw [c2 i h3, va_up_ne _ _ h2, va_up_ne _ _ h1]
        have hbc := X_become (x := x) (o := o) (A := A) (q := q) (F := F) hj hff hn a1 (by rw [a3, b1])
        rw [hbc]
        have e1 : oneF f o A B (u2 (u2 o (19 + 2 * f) 1 (nI n)) (19 + 2 * f) 2 1) (va_up A (19 + 2 * f + 1) (va_cpy (A (19 + 2 * j + 1)) (A (19 + 2 * f + 1)) 0 0 n)) B2 := by
          refine ⟨fun k hk => by rw [u2_n _ _ _ hk, u2_n _ _ _ hk], fun k hk => va_up_ne _ _ hk, oo, fun i hi => ⟨?_, ?_, fun y hy => ?_⟩⟩
          · rw [o11, upd_ne _ _ hi]
          · rw [o12, upd_ne _ _ hi]
          · exact c3.2 _ (by omega)
        refine ok_on h rfl c1 (jR_file h.1 hff e1 ⟨n, hn, ?_, ?_, ?_, ?_, ?_, fun i hi => ?_⟩) (fun i hi => e1.1 i (by omega)) (fun i hi => e1.2.1 i (by omega)) rfl (fun i hi => e1.2.2.1 i (by omega) (by omega) (by omega))
        · rw [u2_ne _ _ (by decide), u2_self]
        · rw [o12, upd_self]
        · rw [u2_self, o11, upd_self]
        · rw [o11, upd_self]; exact Or.inr rfl
        · intro z
          rw [o11, upd_self] at z
          cases z
        · rw [va_up_self, pk_cpy_in (by omega) (by omega), c3.1 i (by omega), show 0 + (i - 0) = i by omega]
          exact a6 i hi
set_option maxRecDepth 10000 in
theorem st_9 (hN : 400 < N) (hc : conS S g fa wa ka) (h : mid bd st d p k t l o A s B) (hl : lSt s B w t (400 * p) W) (he : ∀ j, j < W.1 → W.2.2 j ≤ 400) (ha : eX x o A q F a = some (.inr (4, stL fa (k, 9, u)))) (hf : fit t W 9 = some u) : okS x m q F G w bd st d p t l o A B (f_Mach_perform S g N fol (x + 6) (some a) (some sc) (some (x + fo d)) (eX x o A q F)) (f_M_work N m (nI d) (eM m s B w G)) := by
  obtain ⟨h1, h2, b0, rfl⟩ := fi_9 hf
  have hd := h.2.2.2.2.2
  have hk := h.2.1.2.2.2.1
  have hw : w 0 = 7304564 := (kw_w hl (by omega) [111, 117, 116] (by decide) (by decide)).mpr h2
  obtain ⟨g0, g1, g2, g3, g4, g5, g6⟩ := st_rd ha
  obtain ⟨X, hx1, hx2⟩ := M_val (x := x) (o := o) (q := q) (F := F) (m := m) (G := G) (N := N) hN hd hl (k := 1) (by omega) (by decide) (he 1 (by omega)) b0 h.2.1.1
  have hx1 : f_M_value N (eM m s B w G) m (nI d) 1 = some X := hx1
  have hy2 := X_no (x := x) (o := o) (A := A) (q := q) (F := F) (d := d)
  have hS : f_Mach_perform S g N fol (x + 6) (some a) (some sc) (some (x + fo d)) (eX x o A q F) = f_Mach_speak (some (x + 9)) X (eX x o A q F) := by
    unfold f_Mach_perform
    simp only [g3, xf_O (fo_fr hd), Option.bind_some, hx2, g5, hy2, g1, con_f hc (i := 9) (by decide), con_s hc (i := 9) (by decide)]
    rw [if_neg (by decide), if_neg (by decide), if_neg (by decide), if_neg (by decide), if_neg (by decide), if_neg (by decide), if_neg (by decide), if_neg (by decide), if_neg (by decide), if_pos (by decide)]
    simp only [xm_2, Option.bind_some]
    cases f_Mach_speak (some (x + 9)) X (eX x o A q F) <;> rfl
  have hM : f_M_work N m (nI d) (eM m s B w G) = f_M_says m (nI d) 1 (X &&& 255) (eM m s B w G) := by
    unfold f_M_work
    simp only [mg_9, mg_w0, hw, Option.bind_some]
    rw [if_neg (by decide), if_neg (by decide), if_neg (by decide), if_neg (by decide), if_neg (by decide), if_neg (by decide), if_neg (by decide), if_neg (by decide), if_pos (by decide)]
    unfold f_M_work_b159
    rw [if_pos (by decide)]
    unfold f_M_work_b174
    simp only [mgO, Option.bind_some, hx1]
    cases f_M_says m (nI d) 1 (X &&& 255) (eM m s B w G) <;> rfl
  rw [hS, hM]
  unfold f_Mach_speak f_M_says f_M_says_b15
  have hrow : isRow 9 := by unfold isRow; omega
  obtain ⟨n, hn, a1, a2, a3⟩ := h.1.2.2.1
  have hl60 : xN (9 + 1) = 60 := rfl
  simp only [xr_O hrow, Option.bind_some]
  rw [if_neg (by decide), mg_21, Option.bind_some, a2]
  by_cases h60 : n = 60
  · subst h60
    rw [show f_Row_hasRoomFor (eX x o A q F) (x + 9) 1 = some 0 from R_room0 (c := 1) hrow a1 (by omega) (by omega) (by decide), if_pos (show nI 60 = 60 from rfl)]
    exact ok_exit h (v := 104) (by decide) rfl rfl
  · rw [show f_Row_hasRoomFor (eX x o A q F) (x + 9) 1 = some 1 from R_room1 (c := 1) hrow a1 (by omega), if_neg (show ¬ nI n = 60 from fun z => h60 ((nI_eq (by omega) (by decide)).mp z)), if_neg (by decide)]
    simp only [Option.bind_some, show ¬ (1 : Int32) = 0 from by decide, if_false, R_add hrow a1 (show n < xN (9 + 1) by omega), mg_23, mg_21, a2, mt_15 (show n < 60 by omega), nI_1, ms_21]
    unfold f_M_says_b70
    have e18 : va_up B 15 (upd (B 15) n (X &&& 255)) 18 = B 18 := va_up_ne _ _ (by decide)
    simp only [mgO, Option.bind_some, M_on hd (show va_up B 15 (upd (B 15) n (X &&& 255)) 18 d = nI k by rw [e18]; exact hk), e18]
    have hj := h.1
    refine ok_on h rfl rfl (jR_say9 hj hn a1 a2 a3 (by omega)) (fun i hi => by rw [u2_n _ _ _ (by omega), u2_n _ _ _ (by omega)]) (fun i hi => va_up_ne _ _ (by omega)) (upd_ne _ _ (by decide)) (fun i hi => va_up_ne _ _ (by omega))
set_option maxRecDepth 10000 in
theorem st_10 (hN : 400 < N) (hc : conS S g fa wa ka) (h : mid bd st d p k t l o A s B) (hl : lSt s B w t (400 * p) W) (he : ∀ j, j < W.1 → W.2.2 j ≤ 400) (ha : eX x o A q F a = some (.inr (4, stL fa (k, 10, u)))) (hf : fit t W 10 = some u) : okS x m q F G w bd st d p t l o A B (f_Mach_perform S g N fol (x + 6) (some a) (some sc) (some (x + fo d)) (eX x o A q F)) (f_M_work N m (nI d) (eM m s B w G)) := by
  obtain ⟨h1, h2, b0, rfl⟩ := fi_10 hf
  have hd := h.2.2.2.2.2
  have hk := h.2.1.2.2.2.1
  have hw : w 0 = 6648434 := (kw_w hl (by omega) [101, 114, 114] (by decide) (by decide)).mpr h2
  obtain ⟨g0, g1, g2, g3, g4, g5, g6⟩ := st_rd ha
  obtain ⟨X, hx1, hx2⟩ := M_val (x := x) (o := o) (q := q) (F := F) (m := m) (G := G) (N := N) hN hd hl (k := 1) (by omega) (by decide) (he 1 (by omega)) b0 h.2.1.1
  have hx1 : f_M_value N (eM m s B w G) m (nI d) 1 = some X := hx1
  have hy2 := X_no (x := x) (o := o) (A := A) (q := q) (F := F) (d := d)
  have hS : f_Mach_perform S g N fol (x + 6) (some a) (some sc) (some (x + fo d)) (eX x o A q F) = f_Mach_speak (some (x + 11)) X (eX x o A q F) := by
    unfold f_Mach_perform
    simp only [g3, xf_O (fo_fr hd), Option.bind_some, hx2, g5, hy2, g1, con_f hc (i := 10) (by decide), con_s hc (i := 10) (by decide)]
    rw [if_neg (by decide), if_neg (by decide), if_neg (by decide), if_neg (by decide), if_neg (by decide), if_neg (by decide), if_neg (by decide), if_neg (by decide), if_neg (by decide), if_neg (by decide), if_pos (by decide)]
    simp only [xm_3, Option.bind_some]
    cases f_Mach_speak (some (x + 11)) X (eX x o A q F) <;> rfl
  have hM : f_M_work N m (nI d) (eM m s B w G) = f_M_says m (nI d) 0 (X &&& 255) (eM m s B w G) := by
    unfold f_M_work
    simp only [mg_9, mg_w0, hw, Option.bind_some]
    rw [if_neg (by decide), if_neg (by decide), if_neg (by decide), if_neg (by decide), if_neg (by decide), if_neg (by decide), if_neg (by decide), if_neg (by decide), if_neg (by decide), if_pos (by decide)]
    unfold f_M_work_b159
    rw [if_neg (by decide)]
    unfold f_M_work_b174
    simp only [mgO, Option.bind_some, hx1]
    cases f_M_says m (nI d) 0 (X &&& 255) (eM m s B w G) <;> rfl
  rw [hS, hM]
  unfold f_Mach_speak f_M_says f_M_says_b15
  have hrow : isRow 11 := by unfold isRow; omega
  obtain ⟨n, hn, a1, a2, a3⟩ := h.1.2.2.2.1
  have hl60 : xN (11 + 1) = 60 := rfl
  simp only [xr_O hrow, Option.bind_some]
  rw [if_pos (by decide), mg_22, Option.bind_some, a2]
  by_cases h60 : n = 60
  · subst h60
    rw [show f_Row_hasRoomFor (eX x o A q F) (x + 11) 1 = some 0 from R_room0 (c := 1) hrow a1 (by omega) (by omega) (by decide), if_pos (show nI 60 = 60 from rfl)]
    exact ok_exit h (v := 104) (by decide) rfl rfl
  · rw [show f_Row_hasRoomFor (eX x o A q F) (x + 11) 1 = some 1 from R_room1 (c := 1) hrow a1 (by omega), if_neg (show ¬ nI n = 60 from fun z => h60 ((nI_eq (by omega) (by decide)).mp z)), if_pos (by decide)]
    simp only [Option.bind_some, show ¬ (1 : Int32) = 0 from by decide, if_false, R_add hrow a1 (show n < xN (11 + 1) by omega), mg_24, mg_22, a2, mt_16 (show n < 60 by omega), nI_1, ms_22]
    unfold f_M_says_b70
    have e18 : va_up B 16 (upd (B 16) n (X &&& 255)) 18 = B 18 := va_up_ne _ _ (by decide)
    simp only [mgO, Option.bind_some, M_on hd (show va_up B 16 (upd (B 16) n (X &&& 255)) 18 d = nI k by rw [e18]; exact hk), e18]
    have hj := h.1
    refine ok_on h rfl rfl (jR_say10 hj hn a1 a2 a3 (by omega)) (fun i hi => by rw [u2_n _ _ _ (by omega), u2_n _ _ _ (by omega)]) (fun i hi => va_up_ne _ _ (by omega)) (upd_ne _ _ (by decide)) (fun i hi => va_up_ne _ _ (by omega))
set_option maxRecDepth 10000 in
theorem st_11 (hN : 400 < N) (hc : conS S g fa wa ka) (h : mid bd st d p k t l o A s B) (hl : lSt s B w t (400 * p) W) (he : ∀ j, j < W.1 → W.2.2 j ≤ 400) (ha : eX x o A q F a = some (.inr (4, stL fa (k, 11, u)))) (hf : fit t W 11 = some u) (hL : ∀ c, c < 26 → u.2.2.2.2 = nI c → ∃ k', k' < l.1 ∧ B 7 (26 * p + c) = nI k' ∧ f_Script_placeOf (eX x o A q F) sc (nI c) = some (nI (cst t l k')) ∧ ∃ fs, gO (eX x o A q F) (some sc) 3 = some (sc, fs)) (hp : p < 4) : okS x m q F G w bd st d p t l o A B (f_Mach_perform S g N fol (x + 6) (some a) (some sc) (some (x + fo d)) (eX x o A q F)) (f_M_work N m (nI d) (eM m s B w G)) := by
  obtain ⟨h1, h2, b0, rfl⟩ := fi_11 hf
  have hd := h.2.2.2.2.2
  have hk := h.2.1.2.2.2.1
  have hw : w 0 = 26479 := (kw_w hl (by omega) [103, 111] (by decide) (by decide)).mpr h2
  obtain ⟨g0, g1, g2, g3, g4, g5, g6⟩ := st_rd ha
  have hx2 := X_no (x := x) (o := o) (A := A) (q := q) (F := F) (d := d)
  have hy2 := X_no (x := x) (o := o) (A := A) (q := q) (F := F) (d := d)
  obtain ⟨c, h26, hcl⟩ := isLt_i.mp b0
  have eLb : ol t (W.2.1 1) (W.2.2 1) - 65 = nI c := by rw [hcl, show (65 : Int32) = nI 65 from rfl, pk_sub (by omega), show 65 + c - 65 = c by omega]
  obtain ⟨k', hk', h7, hpl, fs, hsc⟩ := hL c h26 eLb
  have hwl : (w 1).toInt32 = nI (65 + c) := by rw [wd_i hl (by omega) (by decide) (by rw [hcl]; exact neg2 (by omega)), hcl]
  rw [eLb] at g6
  refine ok_jump h (k' := k') (by omega) ?_ ?_
  · unfold f_Mach_perform
    simp only [g3, xf_O (fo_fr hd), Option.bind_some, hx2, g5, hy2, g1, con_f hc (i := 11) (by decide), con_s hc (i := 11) (by decide)]
    rw [if_neg (by decide), if_neg (by decide), if_neg (by decide), if_neg (by decide), if_neg (by decide), if_neg (by decide), if_neg (by decide), if_neg (by decide), if_neg (by decide), if_neg (by decide), if_neg (by decide), if_pos (by decide)]
    simp only [g6, hsc, Option.bind_some, hpl, xfs_5 (fo_fr hd)]
  · unfold f_M_work
    simp only [mg_9, mg_w0, hw, Option.bind_some]
    rw [if_neg (by decide), if_neg (by decide), if_neg (by decide), if_neg (by decide), if_neg (by decide), if_neg (by decide), if_neg (by decide), if_neg (by decide), if_neg (by decide), if_neg (by decide), if_pos (by decide)]
    simp only [mgO, Option.bind_some, M_to hd hp (show (1 : Int32) = nI 1 from rfl) (by decide) h26 hwl h.2.1.2.2.1 h7]
set_option maxRecDepth 10000 in
theorem st_12 (hN : 400 < N) (hc : conS S g fa wa ka) (h : mid bd st d p k t l o A s B) (hl : lSt s B w t (400 * p) W) (he : ∀ j, j < W.1 → W.2.2 j ≤ 400) (ha : eX x o A q F a = some (.inr (4, stL fa (k, 12, u)))) (hf : fit t W 12 = some u) (hL : ∀ c, c < 26 → u.2.2.2.2 = nI c → ∃ k', k' < l.1 ∧ B 7 (26 * p + c) = nI k' ∧ f_Script_placeOf (eX x o A q F) sc (nI c) = some (nI (cst t l k')) ∧ ∃ fs, gO (eX x o A q F) (some sc) 3 = some (sc, fs)) (hp : p < 4) : okS x m q F G w bd st d p t l o A B (f_Mach_perform S g N fol (x + 6) (some a) (some sc) (some (x + fo d)) (eX x o A q F)) (f_M_work N m (nI d) (eM m s B w G)) := by
  obtain ⟨h1, h2, b0, b1, b2, b3, b4, rfl⟩ := fi_12 hf
  have hd := h.2.2.2.2.2
  have hk := h.2.1.2.2.2.1
  have hw : w 0 = 26982 := (kw_w hl (by omega) [105, 102] (by decide) (by decide)).mpr h2
  obtain ⟨g0, g1, g2, g3, g4, g5, g6⟩ := st_rd ha
  obtain ⟨X, hx1, hx2⟩ := M_val (x := x) (o := o) (q := q) (F := F) (m := m) (G := G) (N := N) hN hd hl (k := 1) (by omega) (by decide) (he 1 (by omega)) b0 h.2.1.1
  have hx1 : f_M_value N (eM m s B w G) m (nI d) 1 = some X := hx1
  obtain ⟨Y, hy1, hy2⟩ := M_val (x := x) (o := o) (q := q) (F := F) (m := m) (G := G) (N := N) hN hd hl (k := 3) (by omega) (by decide) (he 3 (by omega)) b2 h.2.1.1
  have hy1 : f_M_value N (eM m s B w G) m (nI d) 3 = some Y := hy1
  obtain ⟨c, h26, hcl⟩ := isLt_i.mp b4
  have eLb : ol t (W.2.1 5) (W.2.2 5) - 65 = nI c := by rw [hcl, show (65 : Int32) = nI 65 from rfl, pk_sub (by omega), show 65 + c - 65 = c by omega]
  obtain ⟨k', hk', h7, hpl, fs, hsc⟩ := hL c h26 eLb
  have hwl : (w 5).toInt32 = nI (65 + c) := by rw [wd_i hl (by omega) (by decide) (by rw [hcl]; exact neg2 (by omega)), hcl]
  rw [eLb] at g6
  have hw2 : (w 2).toInt32 = ol t (W.2.1 2) (W.2.2 2) := wd_i hl (by omega) (by decide) (fun z => by rw [z] at b1; exact absurd b1 (by decide))
  obtain ⟨sg, hsg⟩ : ∃ sg, sg = ol t (W.2.1 2) (W.2.2 2) := ⟨_, rfl⟩
  rw [← hsg] at b1 hw2 g4
  unfold f_Mach_perform
  simp only [g3, xf_O (fo_fr hd), Option.bind_some, hx2, g5, hy2, g1, con_f hc (i := 12) (by decide), con_s hc (i := 12) (by decide)]
  rw [if_neg (by decide), if_neg (by decide), if_neg (by decide), if_neg (by decide), if_neg (by decide), if_neg (by decide), if_neg (by decide), if_neg (by decide), if_neg (by decide), if_neg (by decide), if_neg (by decide), if_neg (by decide), if_pos (by decide)]
  simp only [g4, Option.bind_some]
  unfold f_M_work
  simp only [mg_9, mg_w0, hw, Option.bind_some]
  rw [if_neg (by decide), if_neg (by decide), if_neg (by decide), if_neg (by decide), if_neg (by decide), if_neg (by decide), if_neg (by decide), if_neg (by decide), if_neg (by decide), if_neg (by decide), if_neg (by decide), if_pos (by decide)]
  simp only [mgO, Option.bind_some, hx1, hy1, mg_9, mg_w2, hw2]
  have hb : ∃ b : Int32, (b = 0 ∨ b = 1) ∧ f_Mach_holds (eX x o A q F) X sg Y = some b ∧ f_M_isSo (eM m s B w G) X sg Y = some b := by
    unfold f_Mach_holds f_M_isSo
    rcases isCp_cs b1 with z | z | z
    · rw [z, if_pos (show (60 : Int32) = 60 from rfl), if_pos (show (60 : Int32) = 60 from rfl)]
      by_cases hz : Y ≤ X
      · rw [if_pos hz, if_pos hz]; exact ⟨0, Or.inl rfl, rfl, rfl⟩
      · rw [if_neg hz, if_neg hz]; exact ⟨1, Or.inr rfl, rfl, rfl⟩
    · rw [z, if_neg (show ¬ (61 : Int32) = 60 by decide), if_pos (show (61 : Int32) = 61 from rfl), if_neg (show ¬ (61 : Int32) = 60 by decide), if_neg (show ¬ (61 : Int32) = 62 by decide)]
      by_cases hz : X = Y
      · rw [if_pos hz, if_pos hz]; exact ⟨1, Or.inr rfl, rfl, rfl⟩
      · rw [if_neg hz, if_neg hz]; exact ⟨0, Or.inl rfl, rfl, rfl⟩
    · rw [z, if_neg (show ¬ (62 : Int32) = 60 by decide), if_neg (show ¬ (62 : Int32) = 61 by decide), if_neg (show ¬ (62 : Int32) = 60 by decide), if_pos (show (62 : Int32) = 62 from rfl)]
      by_cases hz : X ≤ Y
      · rw [if_pos hz, if_pos hz]; exact ⟨0, Or.inl rfl, rfl, rfl⟩
      · rw [if_neg hz, if_neg hz]; exact ⟨1, Or.inr rfl, rfl, rfl⟩
  obtain ⟨b, hb0, hb1, hb2⟩ := hb
  rw [hb1, hb2, Option.bind_some, Option.bind_some]
  rcases hb0 with rfl | rfl
  · rw [if_pos rfl, if_pos rfl, M_on hd hk]
    exact ok_on h rfl rfl h.1 (fun _ _ => rfl) (fun _ _ => rfl) rfl (fun _ _ => rfl)
  · rw [if_neg (by decide), if_neg (by decide)]
    refine ok_jump h (k' := k') (by omega) ?_ ?_
    · simp only [g6, hsc, Option.bind_some, hpl, xfs_5 (fo_fr hd)]
      rfl
    · rw [M_to hd hp (show (5 : Int32) = nI 5 from rfl) (by decide) h26 hwl h.2.1.2.2.1 h7]
      rfl
set_option maxRecDepth 10000 in
theorem st_13 (hN : 400 < N) (hc : conS S g fa wa ka) (h : mid bd st d p k t l o A s B) (hl : lSt s B w t (400 * p) W) (he : ∀ j, j < W.1 → W.2.2 j ≤ 400) (ha : eX x o A q F a = some (.inr (4, stL fa (k, 13, u)))) (hf : fit t W 13 = some u) (hL : ∀ c, c < 26 → u.2.2.2.2 = nI c → ∃ k', k' < l.1 ∧ B 7 (26 * p + c) = nI k' ∧ f_Script_placeOf (eX x o A q F) sc (nI c) = some (nI (cst t l k')) ∧ ∃ fs, gO (eX x o A q F) (some sc) 3 = some (sc, fs)) (hp : p < 4) : okS x m q F G w bd st d p t l o A B (f_Mach_perform S g N fol (x + 6) (some a) (some sc) (some (x + fo d)) (eX x o A q F)) (f_M_work N m (nI d) (eM m s B w G)) := by
  obtain ⟨h1, h2, b0, rfl⟩ := fi_13 hf
  have hd := h.2.2.2.2.2
  have hk := h.2.1.2.2.2.1
  have hw : w 0 = 1667329132 := (kw_w hl (by omega) [99, 97, 108, 108] (by decide) (by decide)).mpr h2
  obtain ⟨g0, g1, g2, g3, g4, g5, g6⟩ := st_rd ha
  have hx2 := X_no (x := x) (o := o) (A := A) (q := q) (F := F) (d := d)
  have hy2 := X_no (x := x) (o := o) (A := A) (q := q) (F := F) (d := d)
  obtain ⟨c, h26, hcl⟩ := isLt_i.mp b0
  have eLb : ol t (W.2.1 1) (W.2.2 1) - 65 = nI c := by rw [hcl, show (65 : Int32) = nI 65 from rfl, pk_sub (by omega), show 65 + c - 65 = c by omega]
  obtain ⟨k', hk', h7, hpl, fs, hsc⟩ := hL c h26 eLb
  have hwl : (w 1).toInt32 = nI (65 + c) := by rw [wd_i hl (by omega) (by decide) (by rw [hcl]; exact neg2 (by omega)), hcl]
  rw [eLb] at g6
  unfold f_Mach_perform
  simp only [g3, xf_O (fo_fr hd), Option.bind_some, hx2, g5, hy2, g1, con_f hc (i := 13) (by decide), con_s hc (i := 13) (by decide)]
  rw [if_neg (by decide), if_neg (by decide), if_neg (by decide), if_neg (by decide), if_neg (by decide), if_neg (by decide), if_neg (by decide), if_neg (by decide), if_neg (by decide), if_neg (by decide), if_neg (by decide), if_neg (by decide), if_neg (by decide), if_pos (by decide)]
  simp only [g6, hsc, hpl, xf_O (fo_fr hd), Option.bind_some]
  unfold f_M_work
  simp only [mg_9, mg_w0, hw, Option.bind_some]
  rw [if_neg (by decide), if_neg (by decide), if_neg (by decide), if_neg (by decide), if_neg (by decide), if_neg (by decide), if_neg (by decide), if_neg (by decide), if_neg (by decide), if_neg (by decide), if_neg (by decide), if_neg (by decide), if_pos (by decide)]
  unfold f_M_work_b267
  rw [if_pos (by decide)]
  unfold f_M_work_b288
  simp only [mgO, Option.bind_some]
  unfold f_M_call f_Frame_call
  obtain ⟨⟨y1, y2⟩, ⟨n, c1, c2, c3, c4⟩, f3, f4, f5⟩ := h.2.1
  simp only [xf_4 (fo_fr hd), c2, mg_31, ma_22 hd, c3, Option.bind_some]
  rw [if_neg (nI_pos (by omega))]
  by_cases h8 : n = 8
  · subst h8
    rw [if_neg (show ¬ nI 8 < 8 from by decide), if_pos (show nI 8 = 8 from rfl)]
    exact ok_exit h (v := 105) (by decide) rfl rfl
  · rw [if_pos (show nI n < 8 from nI_lt (b := 8) (by omega) (by decide)), if_neg (show ¬ nI n = 8 from fun z => h8 ((nI_eq (by omega) (by decide)).mp z))]
    simp only [xf_3 (fo_fr hd), xf_5 (fo_fr hd), f5, Option.bind_some, xa_T (fr_ar3 (fo_fr hd)) (show n < xN (fo d + 3) by rw [fr_n3 (fo_fr hd)]; omega), xf_4 (fo_fr hd), c2, nI_1, xfs_4 (fo_fr hd), xfs_5 (fo_fr hd), mg_32, mg_27, ma_18 hd, f4, show (8 : Int32) = nI 8 from rfl, pk_mul, nI_add, mt_23 (show 8 * d + n < 32 by omega)]
    have v22 : va_up B 23 (upd (B 23) (8 * d + n) (nI (k + 1))) 22 = B 22 := va_up_ne _ _ (by decide)
    simp only [mg_31, ma_22 hd, v22, c3, nI_1, mt_22 hd, Option.bind_some, mgO]
    obtain ⟨B2, hB2⟩ : ∃ B2, B2 = va_up (va_up B 23 (upd (B 23) (8 * d + n) (nI (k + 1)))) 22 (upd (B 22) d (nI (n + 1))) := ⟨_, rfl⟩
    have o23 : B2 23 = upd (B 23) (8 * d + n) (nI (k + 1)) := by rw [hB2, va_up_ne _ _ (by decide), va_up_self]
    have o22 : B2 22 = upd (B 22) d (nI (n + 1)) := by rw [hB2, va_up_self]
    have oo : ∀ i, i ≠ 22 → i ≠ 23 → B2 i = B i := fun i h1 h2 => by rw [hB2, va_up_ne _ _ h1, va_up_ne _ _ h2]
    rw [← hB2, M_to hd hp (show (1 : Int32) = nI 1 from rfl) (by decide) h26 hwl (by rw [oo 17 (by decide) (by decide)]; exact f3) (by rw [oo 7 (by decide) (by decide)]; exact h7), if_neg (by decide)]
    obtain ⟨B', hB'⟩ : ∃ B', B' = va_up B2 18 (upd (B2 18) d (nI k')) := ⟨_, rfl⟩
    have e18 : B' 18 = upd (B 18) d (nI k') := by rw [hB', va_up_self, oo 18 (by decide) (by decide)]
    have eo : ∀ i, i ≠ 18 → B' i = B2 i := fun i h1 => by rw [hB', va_up_ne _ _ h1]
    rw [← hB']
    refine ok_gen h (k' := k') rfl rfl (fun j hj => by rw [u2_n _ _ _ hj, u2_n _ _ _ hj]) (fun j _ _ h1 => va_up_ne _ _ h1) (fun j hj => by rw [eo j (by omega), oo j (by omega) (by omega)]) (by rw [eo 19 (by decide), oo 19 (by decide) (by decide)]) (fun j hj => ⟨by rw [eo 20 (by decide), oo 20 (by decide) (by decide)], by rw [eo 23 (by decide), o23, upd_ne _ _ (by omega)]⟩) (fun j hj => by rw [eo 21 (by decide), oo 21 (by decide) (by decide)]) (fun e he => ⟨by rw [e18, upd_ne _ _ (by omega)], by rw [eo 22 (by decide), o22, upd_ne _ _ (by omega)]⟩) (by omega) ⟨⟨fun i hi => ?_, fun i hi => ?_⟩, ⟨n + 1, by omega, ?_, ?_, fun i hi => ?_⟩, ?_, ?_, ?_⟩
    · rw [va_up_ne _ _ (by omega), eo 20 (by decide), oo 20 (by decide) (by decide)]; exact y1 i hi
    · rw [va_up_ne _ _ (by omega), eo 21 (by decide), oo 21 (by decide) (by decide)]; exact y2 i hi
    · rw [u2_ne _ _ (by decide), u2_self]
    · rw [eo 22 (by decide), o22, upd_self]
    · rw [eo 23 (by decide), o23, va_up_self]
      by_cases hin : i = n
      · subst hin
        rw [upd_self, upd_self]
        exact ⟨k + 1, by have := h.2.2.2.1; omega, rfl, rfl⟩
      · rw [upd_ne _ _ hin, upd_ne _ _ (by omega)]
        exact c4 i (by omega)
    · rw [eo 17 (by decide), oo 17 (by decide) (by decide)]; exact f3
    · rw [e18, upd_self]
    · rw [u2_self]
set_option maxRecDepth 10000 in
theorem st_14 (hN : 400 < N) (hc : conS S g fa wa ka) (h : mid bd st d p k t l o A s B) (hl : lSt s B w t (400 * p) W) (he : ∀ j, j < W.1 → W.2.2 j ≤ 400) (ha : eX x o A q F a = some (.inr (4, stL fa (k, 14, u)))) (hf : fit t W 14 = some u) : okS x m q F G w bd st d p t l o A B (f_Mach_perform S g N fol (x + 6) (some a) (some sc) (some (x + fo d)) (eX x o A q F)) (f_M_work N m (nI d) (eM m s B w G)) := by
  obtain ⟨h1, h2, rfl⟩ := fi_14 hf
  have hd := h.2.2.2.2.2
  have hk := h.2.1.2.2.2.1
  have hw : w 0 = 1650549611 := (kw_w hl (by omega) [98, 97, 99, 107] (by decide) (by decide)).mpr h2
  obtain ⟨g0, g1, g2, g3, g4, g5, g6⟩ := st_rd ha
  have hx2 := X_no (x := x) (o := o) (A := A) (q := q) (F := F) (d := d)
  have hy2 := X_no (x := x) (o := o) (A := A) (q := q) (F := F) (d := d)
  unfold f_Mach_perform
  simp only [g3, xf_O (fo_fr hd), Option.bind_some, hx2, g5, hy2, g1, con_f hc (i := 14) (by decide), con_s hc (i := 14) (by decide)]
  rw [if_neg (by decide), if_neg (by decide), if_neg (by decide), if_neg (by decide), if_neg (by decide), if_neg (by decide), if_neg (by decide), if_neg (by decide), if_neg (by decide), if_neg (by decide), if_neg (by decide), if_neg (by decide), if_neg (by decide), if_neg (by decide), if_pos (by decide)]
  unfold f_M_work
  simp only [mg_9, mg_w0, hw, Option.bind_some]
  rw [if_neg (by decide), if_neg (by decide), if_neg (by decide), if_neg (by decide), if_neg (by decide), if_neg (by decide), if_neg (by decide), if_neg (by decide), if_neg (by decide), if_neg (by decide), if_neg (by decide), if_neg (by decide), if_neg (by decide), if_pos (by decide)]
  unfold f_M_work_b267
  rw [if_neg (by decide)]
  unfold f_M_work_b288
  simp only [mgO, Option.bind_some]
  unfold f_M_back f_Frame_comeBack
  obtain ⟨⟨y1, y2⟩, ⟨n, c1, c2, c3, c4⟩, f3, f4, f5⟩ := h.2.1
  simp only [xf_4 (fo_fr hd), c2, mg_31, ma_22 hd, c3, Option.bind_some]
  cases n with
  | zero =>
    rw [if_pos (by decide), if_pos (by rfl)]
    exact ok_exit h (v := 105) (by decide) rfl rfl
  | succ n =>
    rw [if_neg (show ¬ nI (n + 1) < 1 from nI_nlt (b := 1) (by omega) (by omega)), if_pos (show nI (n + 1) ≤ 8 from nI_le (b := 8) c1 (by decide)), if_neg (nI_ne0 (by omega) (by omega))]
    obtain ⟨k', d1, d2, d3⟩ := c4 n (by omega)
    simp only [nI_pred, xfs_4 (fo_fr hd), Option.bind_some, xf_3 (fo_fr hd), xf_4 (fo_fr hd), u2_self, xa_I (fr_ar3 (fo_fr hd)) (show n < xN (fo d + 3) by rw [fr_n3 (fo_fr hd)]; omega), d3, xfs_5 (fo_fr hd), mt_22 hd, mg_27, mg_32, mg_31, ma_22 hd, va_up_self, upd_self]
    have v23 : va_up B 22 (upd (B 22) d (nI n)) 23 = B 23 := va_up_ne _ _ (by decide)
    have v18 : va_up B 22 (upd (B 22) d (nI n)) 18 = B 18 := va_up_ne _ _ (by decide)
    simp only [show (8 : Int32) = nI 8 from rfl, pk_mul, nI_add, ma_23 (show 8 * d + n < 32 by omega), v23, d2, Option.bind_some, mt_18 hd, v18]
    rw [if_neg (by decide)]
    obtain ⟨B', hB'⟩ : ∃ B', B' = va_up (va_up B 22 (upd (B 22) d (nI n))) 18 (upd (B 18) d (nI k')) := ⟨_, rfl⟩
    have e18 : B' 18 = upd (B 18) d (nI k') := by rw [hB', va_up_self]
    have e22 : B' 22 = upd (B 22) d (nI n) := by rw [hB', va_up_ne _ _ (by decide), va_up_self]
    have eo : ∀ i, i ≠ 18 → i ≠ 22 → B' i = B i := fun i h1 h2 => by rw [hB', va_up_ne _ _ h1, va_up_ne _ _ h2]
    rw [← hB']
    refine ok_gen h (k' := k') rfl rfl (fun j hj => by rw [u2_n _ _ _ hj, u2_n _ _ _ hj]) (fun j _ _ _ => rfl) (fun j hj => eo j (by omega) (by omega)) (eo 19 (by decide) (by decide)) (fun j hj => ⟨by rw [eo 20 (by decide) (by decide)], by rw [eo 23 (by decide) (by decide)]⟩) (fun j hj => by rw [eo 21 (by decide) (by decide)]) (fun e he => ⟨by rw [e18, upd_ne _ _ (by omega)], by rw [e22, upd_ne _ _ (by omega)]⟩) d1 ⟨⟨fun i hi => ?_, fun i hi => ?_⟩, ⟨n, by omega, ?_, ?_, fun i hi => ?_⟩, ?_, ?_, ?_⟩
    · rw [eo 20 (by decide) (by decide)]; exact y1 i hi
    · rw [eo 21 (by decide) (by decide)]; exact y2 i hi
    · rw [u2_ne _ _ (by decide), u2_self]
    · rw [e22, upd_self]
    · rw [eo 23 (by decide) (by decide)]; exact c4 i (by omega)
    · rw [eo 17 (by decide) (by decide)]; exact f3
    · rw [e18, upd_self]
    · rw [u2_self]
set_option maxRecDepth 10000 in
theorem st_16 (hN : 400 < N) (hc : conS S g fa wa ka) (h : mid bd st d p k t l o A s B) (hl : lSt s B w t (400 * p) W) (he : ∀ j, j < W.1 → W.2.2 j ≤ 400) (ha : eX x o A q F a = some (.inr (4, stL fa (k, 16, u)))) (hf : fit t W 16 = some u) : okS x m q F G w bd st d p t l o A B (f_Mach_perform S g N fol (x + 6) (some a) (some sc) (some (x + fo d)) (eX x o A q F)) (f_M_work N m (nI d) (eM m s B w G)) := by
  obtain ⟨h1, h2, b0, b1, rfl⟩ := fi_16 hf
  have hd := h.2.2.2.2.2
  have hk := h.2.1.2.2.2.1
  have hw : w 0 = 6386539 := (kw_w hl (by omega) [97, 115, 107] (by decide) (by decide)).mpr h2
  obtain ⟨g0, g1, g2, g3, g4, g5, g6⟩ := st_rd ha
  obtain ⟨r, hr, e1, e2⟩ := reg1 hl (by omega) b0
  obtain ⟨X, hx1, hx2⟩ := M_val (x := x) (o := o) (q := q) (F := F) (m := m) (G := G) (N := N) hN hd hl (k := 2) (by omega) (by decide) (he 2 (by omega)) b1 h.2.1.1
  have hx1 : f_M_value N (eM m s B w G) m (nI d) 2 = some X := hx1
  have hy2 := X_no (x := x) (o := o) (A := A) (q := q) (F := F) (d := d)
  have hS : f_Mach_perform S g N fol (x + 6) (some a) (some sc) (some (x + fo d)) (eX x o A q F) = f_Mach_ask (x + 6) (some (x + fo d)) (nI r) X (eX x o A q F) := by
    unfold f_Mach_perform
    simp only [g3, xf_O (fo_fr hd), Option.bind_some, hx2, g5, hy2, g1, con_f hc (i := 16) (by decide), con_s hc (i := 16) (by decide)]
    rw [if_neg (by decide), if_neg (by decide), if_neg (by decide), if_neg (by decide), if_neg (by decide), if_neg (by decide), if_neg (by decide), if_neg (by decide), if_neg (by decide), if_neg (by decide), if_neg (by decide), if_neg (by decide), if_neg (by decide), if_neg (by decide), if_neg (by decide), if_neg (by decide), if_pos (by decide)]
    simp only [g2, e1, xm_O, Option.bind_some]
    cases f_Mach_ask (x + 6) (some (x + fo d)) (nI r) X (eX x o A q F) <;> rfl
  have hM : f_M_work N m (nI d) (eM m s B w G) = f_M_ask m (nI d) X (eM m s B w G) := by
    unfold f_M_work
    simp only [mg_9, mg_w0, hw, Option.bind_some]
    rw [if_neg (by decide), if_neg (by decide), if_neg (by decide), if_neg (by decide), if_neg (by decide), if_neg (by decide), if_neg (by decide), if_neg (by decide), if_neg (by decide), if_neg (by decide), if_neg (by decide), if_neg (by decide), if_neg (by decide), if_neg (by decide), if_neg (by decide), if_pos (by decide)]
    simp only [mgO, hx1, Option.bind_some]
    cases f_M_ask m (nI d) X (eM m s B w G) <;> rfl
  rw [hS, hM]
  unfold f_Mach_ask f_M_ask
  obtain ⟨-, -, -, -, hP, -, -, j8, j9, -, j11, -⟩ := h.1
  rcases pk_ix X (n := 3) (by decide) with h0 | h0 | ⟨c, hcc, rfl⟩
  · rw [if_pos h0, M_in2 (Or.inl h0)]
    exact ok_exit h (v := 102) (by decide) rfl rfl
  · rw [if_neg (lt0_big h0 (by decide)), if_neg (show ¬ X < 3 from Int32.not_lt.mpr h0), M_in2 (Or.inr h0)]
    exact ok_exit h (v := 102) (by decide) rfl rfl
  · obtain ⟨p1, p2⟩ := hP c hcc
    rw [if_neg (nI_pos (by omega)), if_pos (show nI c < 3 from nI_lt (b := 3) hcc (by decide)), M_in2' hcc]
    simp only [Option.bind_some, show ¬ (1 : Int32) = 0 from by decide, if_false, xm_1, xp_I hcc, p1, mg_15, ma_14 hcc, xm_O]
    by_cases hz : B 14 c = 0
    · rw [if_pos hz, if_pos hz]
      exact ok_exit h (v := 106) (by decide) rfl rfl
    · rw [if_neg hz, if_neg hz]
      unfold f_Mach_answer f_M_ask_b63
      rcases (show c = 0 ∨ c = 1 ∨ c = 2 by omega) with rfl | rfl | rfl
      · rw [if_pos (by rfl), if_pos (by rfl)]
        refine ok_give h hr (v := nI st - 1) ?_ ?_
        · simp only [xm_8, j8, Option.bind_some, xf_O (fo_fr hd), X_set hd hr]
        · simp only [mg_17, j9, Option.bind_some, mgO, M_giv hd hr e2 hk]
      · rw [if_neg (by decide), if_pos (by rfl), if_neg (by decide), if_pos (by rfl)]
        refine ok_give h hr (v := s 18) ?_ ?_
        · simp only [xm_10, j11, Option.bind_some, xf_O (fo_fr hd), X_set hd hr]
        · simp only [mg_18, Option.bind_some, mgO, M_giv hd hr e2 hk]
      · rw [if_neg (by decide), if_neg (by decide), if_neg (by decide), if_neg (by decide)]
        refine ok_give h hr (v := 1000 * nI d + nI k) ?_ ?_
        · simp only [xf_0 (fo_fr hd), xf_6 (fo_fr hd), fo_D hd, h.2.2.1, Option.bind_some, xf_O (fo_fr hd), X_set hd hr]
        · simp only [mg_27, ma_18 hd, hk, Option.bind_some, mgO, M_giv hd hr e2 hk]
set_option maxRecDepth 10000 in
theorem st_17 (hN : 400 < N) (hc : conS S g fa wa ka) (h : mid bd st d p k t l o A s B) (hl : lSt s B w t (400 * p) W) (he : ∀ j, j < W.1 → W.2.2 j ≤ 400) (ha : eX x o A q F a = some (.inr (4, stL fa (k, 17, u)))) (hf : fit t W 17 = some u) : okS x m q F G w bd st d p t l o A B (f_Mach_perform S g N fol (x + 6) (some a) (some sc) (some (x + fo d)) (eX x o A q F)) (f_M_work N m (nI d) (eM m s B w G)) := by
  obtain ⟨h1, h2, b0, rfl⟩ := fi_17 hf
  have hd := h.2.2.2.2.2
  have hk := h.2.1.2.2.2.1
  have hw : w 0 = 1702390132 := (kw_w hl (by omega) [101, 120, 105, 116] (by decide) (by decide)).mpr h2
  obtain ⟨g0, g1, g2, g3, g4, g5, g6⟩ := st_rd ha
  obtain ⟨X, hx1, hx2⟩ := M_val (x := x) (o := o) (q := q) (F := F) (m := m) (G := G) (N := N) hN hd hl (k := 1) (by omega) (by decide) (he 1 (by omega)) b0 h.2.1.1
  have hx1 : f_M_value N (eM m s B w G) m (nI d) 1 = some X := hx1
  have hy2 := X_no (x := x) (o := o) (A := A) (q := q) (F := F) (d := d)
  obtain ⟨b, hb, hbe⟩ := pk_andE X (m := 63) 6 (by decide)
  refine ok_exit h (v := X &&& 63) (by rw [hbe]; exact neg2 (by omega)) ?_ ?_
  · unfold f_Mach_perform
    simp only [g3, xf_O (fo_fr hd), Option.bind_some, hx2, g5, hy2, g1, con_f hc (i := 17) (by decide), con_s hc (i := 17) (by decide)]
    rw [if_neg (by decide), if_neg (by decide), if_neg (by decide), if_neg (by decide), if_neg (by decide), if_neg (by decide), if_neg (by decide), if_neg (by decide), if_neg (by decide), if_neg (by decide), if_neg (by decide), if_neg (by decide), if_neg (by decide), if_neg (by decide), if_neg (by decide), if_neg (by decide), if_neg (by decide), if_pos (by decide)]
  · unfold f_M_work
    simp only [mg_9, mg_w0, hw, Option.bind_some]
    rw [if_neg (by decide), if_neg (by decide), if_neg (by decide), if_neg (by decide), if_neg (by decide), if_neg (by decide), if_neg (by decide), if_neg (by decide), if_neg (by decide), if_neg (by decide), if_neg (by decide), if_neg (by decide), if_neg (by decide), if_neg (by decide), if_neg (by decide), if_neg (by decide)]
    simp only [mgO, Option.bind_some, hx1]
end FORMS
