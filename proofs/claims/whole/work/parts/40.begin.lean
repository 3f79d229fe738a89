/-! ===== a run: coming to a statement, beginning ===== -/
section COME
variable {m N n p d : Nat} {G : hE} {t la : Nat → Int32}
theorem M_come57 {s : Nat → Int32} {B : Nat → Nat → Int32} {w : Nat → Int64} {k : Nat} (hd : d < 4) (hk : B 18 d = nI k) (k5 : Option Nat → Int32 → hE → Option (Int32 × hE)) : f_M_comesToStatement_b57 N k5 (some m) (nI d) (eM m s B w G) = k5 (some m) (nI d) (eM m s (va_up B 18 (upd (B 18) d (nI (k + 1)))) w G) := by
  unfold f_M_comesToStatement_b57
  simp only [mg_27, Option.bind_some, ma_18 hd, hk, nI_1, mt_18 hd]
theorem M_come5 (hN : 400 < N) (hd : d < 4) (hp : p < 4) : ∀ (r k fuel : Nat) (s : Nat → Int32) (B : Nat → Nat → Int32) (w : Nat → Int64), k + r = (lns t n).1 → r < fuel → progM B p t n la → B 17 d = nI p → B 18 d = nI k →
    ∃ (s' : Nat → Int32) (B' : Nat → Nat → Int32) (w' : Nat → Int64), (∀ i, i ≠ 8 → s' i = s i) ∧ (∀ i, i ≠ 9 → i ≠ 10 → i ≠ 18 → B' i = B i) ∧ (∀ e, e ≠ d → B' 18 e = B 18 e) ∧
      ((∃ k', k ≤ k' ∧ k' < (lns t n).1 ∧ stmtL t (Wl t (lns t n) k') = true ∧ cst t (lns t n) k' = cst t (lns t n) k ∧ B' 18 d = nI k' ∧ lSt s' B' w' t (400 * p) (Wl t (lns t n) k') ∧ f_M_comesToStatement_b5 N fuel (some m) (nI d) (eM m s B w G) = some (1, eM m s' B' w' G)) ∨ (cst t (lns t n) (lns t n).1 = cst t (lns t n) k ∧ B' 18 d = nI (lns t n).1 ∧ f_M_comesToStatement_b5 N fuel (some m) (nI d) (eM m s B w G) = some (0, eM m s' B' w' G))) := by
  intro r
  induction r with
  | zero =>
    intro k fuel s B w h1 h2 hP h17 h18
    obtain ⟨fuel, rfl⟩ : ∃ f, fuel = f + 1 := ⟨fuel - 1, by omega⟩
    obtain ⟨hn, hc, hl, ht, h7, -, -⟩ := hP
    have hln := (lns_ok t n).1
    have hk : k = (lns t n).1 := by omega
    refine ⟨s, B, w, fun _ _ => rfl, fun _ _ _ _ => rfl, fun _ _ => rfl, Or.inr ⟨by rw [hk], by rw [h18, hk], ?_⟩⟩
    rw [f_M_comesToStatement_b5]
    simp only [mg_27, Option.bind_some, ma_18 hd, h18, mg_5, mg_26, ma_17 hd, h17, ma_5 (show p < 5 by omega), hl.1]
    rw [if_pos (nI_le (by omega) (by omega))]
  | succ r ih =>
    intro k fuel s B w h1 h2 hP h17 h18
    obtain ⟨fuel, rfl⟩ : ∃ f, fuel = f + 1 := ⟨fuel - 1, by omega⟩
    have hP0 := hP
    obtain ⟨hn, hc, hl, ht, h7, -, -⟩ := hP
    have hln := (lns_ok t n).1
    obtain ⟨s1, B1, w1, a1, a2, a3, a4⟩ := M_line (m := m) (G := G) (N := N) (p := p) (k := k) (s := s) (w := w) hn hN (by omega) hc (by omega) hl ht
    have hW := (Wl_ok hc (show k < (lns t n).1 by omega)).1
    have b18 : B1 18 d = nI k := by rw [a4 18 (by decide) (by decide)]; exact h18
    have hs8 : s1 8 = nI (Wl t (lns t n) k).1 := a2.1.1
    have go : ¬ stmtL t (Wl t (lns t n) k) = true → ∃ (s' : Nat → Int32) (B' : Nat → Nat → Int32) (w' : Nat → Int64), (∀ i, i ≠ 8 → s' i = s i) ∧ (∀ i, i ≠ 9 → i ≠ 10 → i ≠ 18 → B' i = B i) ∧ (∀ e, e ≠ d → B' 18 e = B 18 e) ∧
      ((∃ k', k ≤ k' ∧ k' < (lns t n).1 ∧ stmtL t (Wl t (lns t n) k') = true ∧ cst t (lns t n) k' = cst t (lns t n) k ∧ B' 18 d = nI k' ∧ lSt s' B' w' t (400 * p) (Wl t (lns t n) k') ∧ f_M_comesToStatement_b57 N (f_M_comesToStatement_b5 N fuel) (some m) (nI d) (eM m s1 B1 w1 G) = some (1, eM m s' B' w' G)) ∨ (cst t (lns t n) (lns t n).1 = cst t (lns t n) k ∧ B' 18 d = nI (lns t n).1 ∧ f_M_comesToStatement_b57 N (f_M_comesToStatement_b5 N fuel) (some m) (nI d) (eM m s1 B1 w1 G) = some (0, eM m s' B' w' G))) := by
      intro hst
      rw [M_come57 hd b18]
      have e18 : va_up B1 18 (upd (B1 18) d (nI (k + 1))) 18 = upd (B1 18) d (nI (k + 1)) := va_up_self _ _ _
      have eo : ∀ i, i ≠ 18 → va_up B1 18 (upd (B1 18) d (nI (k + 1))) i = B1 i := fun i hi => va_up_ne _ _ hi
      obtain ⟨s', B', w', c1, c2, c3, c4⟩ := ih (k + 1) fuel s1 (va_up B1 18 (upd (B1 18) d (nI (k + 1)))) w1 (by omega) (by omega) (progM_reg hP0 (regQ_of (fun i hi1 hi2 => by rw [eo i (by omega), a4 i (by omega) (by omega)]))) (by rw [eo 17 (by decide), a4 17 (by decide) (by decide)]; exact h17) (by rw [e18, upd_self])
      refine ⟨s', B', w', fun i hi => by rw [c1 i hi, a3 i hi], fun i hi1 hi2 hi3 => by rw [c2 i hi1 hi2 hi3, eo i hi3, a4 i hi1 hi2], fun e he => by rw [c3 e he, e18, upd_ne _ _ he, a4 18 (by decide) (by decide)], ?_⟩
      rw [cst_n hst] at c4
      rcases c4 with ⟨k', d1, d2, d3, d4, d5, d6, d7⟩ | ⟨d1, d2, d3⟩
      · exact Or.inl ⟨k', by omega, d2, d3, d4, d5, d6, d7⟩
      · exact Or.inr ⟨d1, d2, d3⟩
    rw [f_M_comesToStatement_b5]
    simp only [mg_27, Option.bind_some, ma_18 hd, h18, mg_5, mg_26, ma_17 hd, h17, ma_5 (show p < 5 by omega), hl.1]
    rw [if_neg (nI_ge (by omega) (by omega))]
    simp only [mgO, Option.bind_some, a1, mg_8, hs8]
    by_cases h0 : (Wl t (lns t n) k).1 = 0
    · rw [if_pos (show nI (Wl t (lns t n) k).1 ≤ 0 by rw [h0]; decide)]
      exact go (by unfold stmtL; rw [h0]; simp)
    · rw [if_neg (nI_nle (by omega) (by omega)), M_lab a2 (by omega) (by omega), Option.bind_some]
      by_cases hlb : labL t (Wl t (lns t n) k) = true
      · have hlb' : (decide ((Wl t (lns t n) k).1 = 1) && isLb t ((Wl t (lns t n) k).2.1 0) ((Wl t (lns t n) k).2.2 0)) = true := hlb
        rw [hlb', if_neg (by decide)]
        exact go (by unfold stmtL; rw [hlb]; simp)
      · have hlb' : (decide ((Wl t (lns t n) k).1 = 1) && isLb t ((Wl t (lns t n) k).2.1 0) ((Wl t (lns t n) k).2.2 0)) = false := Bool.eq_false_iff.mpr hlb
        rw [hlb', if_pos (by decide)]
        refine ⟨s1, B1, w1, fun i hi => a3 i hi, fun i hi1 hi2 _ => a4 i hi1 hi2, fun e he => by rw [a4 18 (by decide) (by decide)], Or.inl ⟨k, Nat.le_refl _, by omega, ?_, rfl, b18, a2, rfl⟩⟩
        unfold stmtL
        rw [decide_eq_false h0, Bool.eq_false_iff.mpr hlb]
        rfl
end COME
section BEG
variable {m N p d : Nat} {G : hE} {s : Nat → Int32} {w : Nat → Int64} {arg : Int32}
theorem M_bg88 (hd : d < 4) : ∀ (r c fuel : Nat) (B : Nat → Nat → Int32), c + r = 32 → r < fuel → (∀ i, i < c → B 21 (32 * d + i) = 0) →
    ∃ B' : Nat → Nat → Int32, f_M_begin_b88 N fuel (some m) (nI d) arg (nI c) (eM m s B w G) = some (eM m s B' w G) ∧ (∀ i, i ≠ 20 → i ≠ 21 → B' i = B i) ∧ B' 20 = upd (B 20) (8 * d) arg ∧ (∀ i, i < 32 → B' 21 (32 * d + i) = 0) ∧ ∀ y, y < 32 * d → B' 21 y = B 21 y := by
  intro r
  induction r with
  | zero =>
    intro c fuel B h1 h2 h3
    obtain ⟨fuel, rfl⟩ : ∃ f, fuel = f + 1 := ⟨fuel - 1, by omega⟩
    have hc : c = 32 := by omega
    subst hc
    rw [f_M_begin_b88, if_pos (show (32 : Int32) ≤ nI 32 from by decide), mg_29, Option.bind_some, show (8 : Int32) = nI 8 from rfl, pk_mul, mt_20 (by omega), Option.bind_some]
    refine ⟨_, rfl, fun i h1 h2 => va_up_ne _ _ h1, va_up_self _ _ _, fun i hi => ?_, fun y hy => ?_⟩
    · rw [va_up_ne _ _ (by decide)]; exact h3 i hi
    · rw [va_up_ne _ _ (by decide)]
  | succ r ih =>
    intro c fuel B h1 h2 h3
    obtain ⟨fuel, rfl⟩ : ∃ f, fuel = f + 1 := ⟨fuel - 1, by omega⟩
    rw [f_M_begin_b88, if_neg (show ¬ (32 : Int32) ≤ nI c from nI_ge (b := 32) (by omega) (by decide)), mg_30, Option.bind_some, show (32 : Int32) = nI 32 from rfl, pk_mul, nI_add, mt_21 (by omega), Option.bind_some, nI_1]
    obtain ⟨B', a1, a2, a3, a4, a5⟩ := ih (c + 1) fuel (va_up B 21 (upd (B 21) (32 * d + c) 0)) (by omega) (by omega) (fun i hi => by
      rw [va_up_self]
      by_cases hic : i = c
      · subst hic
        rw [upd_self]
      · rw [upd_ne _ _ (by omega)]
        exact h3 i (by omega))
    refine ⟨B', a1, fun i h1 h2 => by rw [a2 i h1 h2, va_up_ne _ _ h2], by rw [a3, va_up_ne _ _ (by decide)], a4, fun y hy => by rw [a5 y hy, va_up_self, upd_ne _ _ (by omega)]⟩
theorem M_bg59 (hN : 400 < N) (hd : d < 4) : ∀ (r c fuel : Nat) (B : Nat → Nat → Int32), c + r = 8 → r < fuel → (∀ i, i < c → B 20 (8 * d + i) = 0) →
    ∃ B' : Nat → Nat → Int32, f_M_begin_b59 N fuel (some m) (nI d) arg (nI c) (eM m s B w G) = some (eM m s B' w G) ∧ (∀ i, i ≠ 20 → i ≠ 21 → B' i = B i) ∧ (∀ i, i < 8 → B' 20 (8 * d + i) = if i = 0 then arg else 0) ∧ (∀ y, y < 8 * d → B' 20 y = B 20 y) ∧ (∀ i, i < 32 → B' 21 (32 * d + i) = 0) ∧ ∀ y, y < 32 * d → B' 21 y = B 21 y := by
  intro r
  induction r with
  | zero =>
    intro c fuel B h1 h2 h3
    obtain ⟨fuel, rfl⟩ : ∃ f, fuel = f + 1 := ⟨fuel - 1, by omega⟩
    have hc : c = 8 := by omega
    subst hc
    rw [f_M_begin_b59, if_pos (show (8 : Int32) ≤ nI 8 from by decide)]
    obtain ⟨B', a1, a2, a3, a4, a5⟩ := M_bg88 (m := m) (N := N) (G := G) (s := s) (w := w) (arg := arg) hd 32 0 N B rfl (by omega) (fun i hi => absurd hi (Nat.not_lt_zero i))
    refine ⟨B', a1, a2, fun i hi => ?_, fun y hy => by rw [a3, upd_ne _ _ (by omega)], a4, a5⟩
    rw [a3]
    by_cases hi0 : i = 0
    · subst hi0
      rw [if_pos rfl]
      exact upd_self _ _ _
    · rw [if_neg hi0, upd_ne _ _ (by omega)]
      exact h3 i hi
  | succ r ih =>
    intro c fuel B h1 h2 h3
    obtain ⟨fuel, rfl⟩ : ∃ f, fuel = f + 1 := ⟨fuel - 1, by omega⟩
    rw [f_M_begin_b59, if_neg (show ¬ (8 : Int32) ≤ nI c from nI_ge (b := 8) (by omega) (by decide)), mg_29, Option.bind_some, show (8 : Int32) = nI 8 from rfl, pk_mul, nI_add, mt_20 (by omega), Option.bind_some, nI_1]
    obtain ⟨B', a1, a2, a3, a4, a5, a6⟩ := ih (c + 1) fuel (va_up B 20 (upd (B 20) (8 * d + c) 0)) (by omega) (by omega) (fun i hi => by
      rw [va_up_self]
      by_cases hic : i = c
      · subst hic
        rw [upd_self]
      · rw [upd_ne _ _ (by omega)]
        exact h3 i (by omega))
    refine ⟨B', a1, fun i h1 h2 => by rw [a2 i h1 h2, va_up_ne _ _ h1], a3, fun y hy => by rw [a4 y hy, va_up_self, upd_ne _ _ (by omega)], a5, fun y hy => by rw [a6 y hy, va_up_ne _ _ (by decide)]⟩
theorem M_bg (hN : 400 < N) (hd : d < 4) (hp : p < 4) {B : Nat → Nat → Int32} {D : Int32} (hD : D = if nI d ≤ s 19 then s 19 else nI d) :
    ∃ (s1 : Nat → Int32) (B1 : Nat → Nat → Int32), f_M_begin N m (nI d) (nI p) arg (eM m s B w G) = some (eM m s1 B1 w G) ∧ s1 25 = nI d ∧ s1 19 = D ∧ s1 18 = s 18 + 1 ∧ (∀ i, i ≠ 18 → i ≠ 19 → i ≠ 25 → s1 i = s i) ∧ (∀ i, (i ≤ 16 ∨ i = 19 ∨ i = 23) → B1 i = B i) ∧ B1 17 = upd (B 17) d (nI p) ∧ B1 18 = upd (B 18) d 0 ∧ B1 22 = upd (B 22) d 0 ∧ (∀ i, i < 8 → B1 20 (8 * d + i) = if i = 0 then arg else 0) ∧ (∀ y, y < 8 * d → B1 20 y = B 20 y) ∧ (∀ i, i < 32 → B1 21 (32 * d + i) = 0) ∧ ∀ y, y < 32 * d → B1 21 y = B 21 y := by
  have e19 : upd s 25 (nI d) 19 = s 19 := upd_ne _ _ (by decide)
  have hb : f_M_begin N m (nI d) (nI p) arg (eM m s B w G) = f_M_begin_b22 N (some m) (nI d) (nI p) arg (some m) D (eM m (upd s 25 (nI d)) B w G) := by
    unfold f_M_begin
    simp only [ms_25, Option.bind_some, mg_19, e19]
    rw [hD]
    by_cases hz : nI d ≤ s 19
    · rw [if_pos hz, if_pos hz]
    · rw [if_neg hz, if_neg hz]
  rw [hb]
  unfold f_M_begin_b22
  have e18 : upd (upd s 25 (nI d)) 19 D 18 = s 18 := by rw [upd_ne _ _ (by decide), upd_ne _ _ (by decide)]
  simp only [ms_19, Option.bind_some, mg_18, e18, ms_18, mg_26, mt_17 hd, mg_27, mt_18 hd, mg_31, mt_22 hd]
  obtain ⟨s1, hs1⟩ : ∃ s1, s1 = upd (upd (upd s 25 (nI d)) 19 D) 18 (s 18 + 1) := ⟨_, rfl⟩
  rw [← hs1]
  obtain ⟨B2, hB2⟩ : ∃ B2, B2 = va_up (va_up (va_up B 17 (upd (B 17) d (nI p))) 18 (upd (va_up B 17 (upd (B 17) d (nI p)) 18) d 0)) 22 (upd (va_up (va_up B 17 (upd (B 17) d (nI p))) 18 (upd (va_up B 17 (upd (B 17) d (nI p)) 18) d 0) 22) d 0) := ⟨_, rfl⟩
  rw [← hB2]
  have o22 : B2 22 = upd (B 22) d 0 := by rw [hB2, va_up_self, va_up_ne _ _ (by decide), va_up_ne _ _ (by decide)]
  have o18 : B2 18 = upd (B 18) d 0 := by rw [hB2, va_up_ne _ _ (by decide), va_up_self, va_up_ne _ _ (by decide)]
  have o17 : B2 17 = upd (B 17) d (nI p) := by rw [hB2, va_up_ne _ _ (by decide), va_up_ne _ _ (by decide), va_up_self]
  have oo : ∀ i, i ≠ 17 → i ≠ 18 → i ≠ 22 → B2 i = B i := fun i h1 h2 h3 => by rw [hB2, va_up_ne _ _ h3, va_up_ne _ _ h2, va_up_ne _ _ h1]
  obtain ⟨B1, a1, a2, a3, a4, a5, a6⟩ := M_bg59 (m := m) (N := N) (G := G) (s := s1) (w := w) (arg := arg) hN hd 8 0 N B2 rfl (by omega) (fun i hi => absurd hi (Nat.not_lt_zero i))
  refine ⟨s1, B1, a1, ?_, ?_, ?_, fun i h1 h2 h3 => ?_, fun i hi => ?_, ?_, ?_, ?_, a3, fun y hy => ?_, a5, fun y hy => ?_⟩
  · rw [hs1, upd_ne _ _ (by decide), upd_ne _ _ (by decide), upd_self]
  · rw [hs1, upd_ne _ _ (by decide), upd_self]
  · rw [hs1, upd_self]
  · rw [hs1, upd_ne _ _ h1, upd_ne _ _ h2, upd_ne _ _ h3]
  · rw [a2 i (by omega) (by omega), oo i (by omega) (by omega) (by omega)]
  · rw [a2 17 (by decide) (by decide), o17]
  · rw [a2 18 (by decide) (by decide), o18]
  · rw [a2 22 (by decide) (by decide), o22]
  · rw [a4 y hy, oo 20 (by decide) (by decide) (by decide)]
  · rw [a6 y hy, oo 21 (by decide) (by decide) (by decide)]
end BEG
section BEX
variable {S : hE} {g : Nat → Nat} {x m N p d bd st : Nat} {o A B : Nat → Nat → Int32} {s : Nat → Int32} {w : Nat → Int64} {q : Nat → Option Nat} {F G : hE} {arg : Int32}
theorem X_fill {k : Nat} {v : Int32} (h : isAr k) (hN : xN k < N) : ∃ f', f_Arrs_fill N (some (x + k)) v (eX x o A q F) = some (eX x o (va_up A k f') q F) ∧ ∀ j, j < xN k → f' j = v := by
  obtain ⟨f', h1, h2⟩ := fill_at (v := v) xN_lt hN (xa_at (x := x) (o := o) (A := A) (q := q) (F := F) h)
  refine ⟨f', ?_, h2⟩
  rw [h1]
  exact congrArg some (eX_uA _ (isAr_lt h) (by rw [cX_ar h, va_up_self]))
theorem X_bg (hN : 400 < N) (hd : d < 4) : ∃ A', f_Frame_begin N (x + fo d) arg (eX x o A q F) = some (eX x (u2 (u2 o (fo d) 4 0) (fo d) 5 0) A' q F) ∧ (∀ j, j ≠ fo d + 1 → j ≠ fo d + 2 → A' j = A j) ∧ (∀ i, i < 8 → A' (fo d + 1) i = if i = 0 then arg else 0) ∧ ∀ i, i < 32 → A' (fo d + 2) i = 0 := by
  have hf := fo_fr hd
  have n1 := fr_n1 hf
  have n2 := fr_n2 hf
  obtain ⟨f1, a1, a2⟩ := X_fill (x := x) (o := o) (A := A) (q := q) (F := F) (N := N) (v := 0) (fr_ar1 hf) (by omega)
  obtain ⟨f2, b1, b2⟩ := X_fill (x := x) (o := o) (A := va_up A (fo d + 1) f1) (q := q) (F := F) (N := N) (v := 0) (fr_ar2 hf) (by omega)
  unfold f_Frame_begin
  have ht := xa_T (x := x) (o := o) (A := va_up (va_up A (fo d + 1) f1) (fo d + 2) f2) (q := q) (F := F) (i := 0) (v := arg) (fr_ar1 hf) (by omega)
  rw [nI_0] at ht
  simp only [xf_1 hf, a1, xf_2 hf, b1, Option.bind_some, ht, xfs_4 hf, xfs_5 hf]
  refine ⟨_, rfl, fun j h1 h2 => ?_, fun i hi => ?_, fun i hi => ?_⟩
  · rw [va_up_ne _ _ h1, va_up_ne _ _ h2, va_up_ne _ _ h1]
  · rw [va_up_self, va_up_ne _ _ (by omega), va_up_self]
    by_cases hi0 : i = 0
    · subst hi0
      rw [if_pos rfl, upd_self]
    · rw [if_neg hi0, upd_ne _ _ hi0, a2 i (by omega)]
  · rw [va_up_ne _ _ (by omega), va_up_self, b2 i (by omega)]
theorem L_begin (hN : 400 < N) (hd : d < 4) (hp : p < 4) (h : jR bd st 0 o A s B) : ∃ (o1 A1 : Nat → Nat → Int32) (s1 : Nat → Int32) (B1 : Nat → Nat → Int32),
    (∀ (fol : Nat → Option Nat → Option Nat → Int32 → hE → Option (Int32 × hE)) (sc : Nat), f_Mach_follow S g N fol (x + 6) (some sc) (some (x + fo d)) arg (eX x o A q F) = f_Mach_follow_b33 S g N fol N (some (x + 6)) (some sc) (some (x + fo d)) 0 (eX x o1 A1 q F)) ∧
    f_M_begin N m (nI d) (nI p) arg (eM m s B w G) = some (eM m s1 B1 w G) ∧ jR bd st 0 o1 A1 s1 B1 ∧ s1 25 = nI d ∧ (∀ k, k ≤ 16 → B1 k = B k) ∧ B1 19 = B 19 ∧ loFr d o A B o1 A1 B1 ∧ ∀ t l, fR d p 0 0 t l o1 A1 B1 := by
  have hf := fo_fr hd
  have hfo := fo_eq hd
  obtain ⟨A1, a1, a2, a3, a4⟩ := X_bg (x := x) (o := o) (A := A) (q := q) (F := F) (arg := arg) hN hd
  obtain ⟨s1, B1, b1, b2, b3, b4, b5, b6, b7, b8, b9, b10, b11, b12, b13⟩ := M_bg (m := m) (G := G) (s := s) (w := w) (B := B) (arg := arg) hN hd hp rfl
  obtain ⟨h1, h2, h3, h4, h5, h6, h7, h8, h9, h10, h11, h12, h13, y, hy, h14⟩ := h
  obtain ⟨o0, ho0⟩ : ∃ o0, o0 = u2 (u2 o (fo d) 4 0) (fo d) 5 0 := ⟨_, rfl⟩
  have oN : ∀ j, j ≠ fo d → o0 j = o j := fun j hj => by rw [ho0, u2_n _ _ _ hj, u2_n _ _ _ hj]
  have o6 : o0 6 = o 6 := oN 6 (by omega)
  obtain ⟨o1, ho1⟩ : ∃ o1, o1 = u2 (u2 o0 6 10 (s 18 + 1)) 6 9 (if s 19 < nI d then nI d else s 19) := ⟨_, rfl⟩
  have oN1 : ∀ j, j ≠ 6 → o1 j = o0 j := fun j hj => by rw [ho1, u2_n _ _ _ hj, u2_n _ _ _ hj]
  have o1f : o1 (fo d) = o0 (fo d) := oN1 _ (by omega)
  have o16 : ∀ j, j ≠ 9 → j ≠ 10 → o1 6 j = o 6 j := fun j hj1 hj2 => by rw [ho1, u2_ne _ _ hj1, u2_ne _ _ hj2, o6]
  have hD : (if s 19 < nI d then nI d else s 19) = (if nI d ≤ s 19 then s 19 else nI d) := by
    by_cases hz : nI d ≤ s 19
    · rw [if_pos hz, if_neg (Int32.not_lt.mpr hz)]
    · rw [if_neg hz, if_pos (Int32.not_le.mp hz)]
  refine ⟨o1, A1, s1, B1, fun fol sc => ?_, b1, ⟨?_, ?_, ?_, ?_, ?_, ?_, ?_, ?_, ?_, ?_, ?_, ?_, ?_, ?_⟩, b2, fun k hk => b6 k (by omega), b6 19 (by omega), ⟨fun e he => ?_, fun j hj => ⟨b11 j hj, by rw [b6 23 (by omega)]⟩, b13, fun e he => ⟨by rw [b7, upd_ne _ _ (by omega)], by rw [b8, upd_ne _ _ (by omega)], by rw [b6 19 (by omega)], by rw [b9, upd_ne _ _ (by omega)]⟩⟩, fun t l => ⟨⟨fun i hi => by rw [a3 i hi, b10 i hi], fun i hi => by rw [a4 i hi, b12 i hi]⟩, ⟨0, by decide, ?_, ?_, fun i hi => absurd hi (Nat.not_lt_zero i)⟩, ?_, ?_, ?_⟩⟩
  · unfold f_Mach_follow
    have e10 : o0 6 10 = s 18 := by rw [o6]; exact h11
    have e9 : u2 o0 6 10 (s 18 + 1) 6 9 = s 19 := by rw [u2_ne _ _ (by decide), o6]; exact h10
    simp only [xf_O hf, a1, Option.bind_some, ← ho0, xm_10, e10, xms_10, xm_9, e9, xf_0 hf, fo_D hd, xms_9, ← ho1]
  · rw [oN1 2 (by decide), oN 2 (by omega), a2 3 (by omega) (by omega), b5 0 (by decide) (by decide) (by decide), b6 1 (by omega)]; exact h1
  · intro f hf
    rw [oN1 _ (by omega), oN _ (by omega), a2 _ (by omega) (by omega), b6 11 (by omega), b6 12 (by omega), b6 13 (by omega)]; exact h2 f hf
  · rw [oN1 9 (by decide), oN 9 (by omega), a2 10 (by omega) (by omega), b5 21 (by decide) (by decide) (by decide), b6 15 (by omega)]; exact h3
  · rw [oN1 11 (by decide), oN 11 (by omega), a2 12 (by omega) (by omega), b5 22 (by decide) (by decide) (by decide), b6 16 (by omega)]; exact h4
  · rw [a2 8 (by omega) (by omega), b6 14 (by omega)]; exact h5
  · rw [o16 7 (by decide) (by decide)]; exact h6
  · rw [b5 16 (by decide) (by decide) (by decide)]; exact h7
  · rw [o16 8 (by decide) (by decide)]; exact h8
  · rw [b5 17 (by decide) (by decide) (by decide)]; exact h9
  · rw [ho1, u2_self, b3]; exact hD
  · rw [ho1, u2_ne _ _ (by decide), u2_self, b4]
  · rw [o16 11 (by decide) (by decide)]; exact h12
  · rw [o16 12 (by decide) (by decide)]; exact h13
  · rw [b3, h14]
    by_cases hz : nI d ≤ nI y
    · rw [if_pos hz]; exact ⟨y, hy, rfl⟩
    · rw [if_neg hz]; exact ⟨d, hd, rfl⟩
  · have hfe := fo_eq (show e < 4 by omega)
    exact ⟨by rw [oN1 _ (by omega), oN _ (by omega)], a2 _ (by omega) (by omega), a2 _ (by omega) (by omega), a2 _ (by omega) (by omega)⟩
  · rw [o1f, ho0, u2_ne _ _ (by decide), u2_self]; rfl
  · rw [b9, upd_self]; rfl
  · rw [b7, upd_self]
  · rw [b8, upd_self]; rfl
  · rw [o1f, ho0, u2_self]; rfl
end BEX
