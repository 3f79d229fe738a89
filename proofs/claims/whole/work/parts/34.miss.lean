/-! ===== the class: missing labels, check ===== -/
section GETS
variable {S : hE} {g fa : Nat → Nat} {x N : Nat} {o A : Nat → Nat → Int32} {q : Nat → Option Nat} {F : hE} {nx sc cnt ln cap g0 : Nat} {pl : Nat → Int32} {sts : Nat → stI}
theorem sc_size (hx : x + 51 ≤ sc) (h : scB g0 fa F nx sc cnt pl ln cap sts) : gR (eX x o A q F) (some sc) 3 0 = some (some (sc + 1)) ∧ (∃ fs, gO (eX x o A q F) (some (sc + 1)) 8 = some (sc + 1, fs)) ∧ f_AL_size (eX x o A q F) (sc + 1) = some (nI cnt) ∧ gI (eX x o A q F) (some sc) 3 2 = some (nI ln) ∧ ∃ fs, gO (eX x o A q F) (some sc) 3 = some (sc, fs) := by
  obtain ⟨h1, h2, h3, arr, md, h4, h5⟩ := h
  have c3 : eX x o A q F sc = some (.inr (3, [.ref (sc + 1), .ref (sc + 2), .int (nI ln)])) := by rw [eX_hi (by omega)]; exact h2
  have c5 : eX x o A q F (sc + 1) = some (.inr (8, [.ref arr, .int (nI cnt), .int md])) := by rw [eX_hi (by omega)]; exact h4
  refine ⟨gR_at c3 rfl, ⟨_, gO_at c5⟩, ?_, gI_at c3 rfl, ⟨_, gO_at c3⟩⟩
  unfold f_AL_size
  rw [gI_at (k := 1) c5 rfl, Option.bind_some]
theorem sc_get (hx : x + 51 ≤ sc) (hn : cap < 2 ^ 31) (h : scB g0 fa F nx sc cnt pl ln cap sts) {i : Nat} (hi : i < cnt) : ∃ a, f_AL_get (eX x o A q F) (sc + 1) (nI i) = some (some a) ∧ eX x o A q F a = some (.inr (4, stL fa (sts i))) ∧ kC (eX x o A q F) (some a) 4 = some () := by
  obtain ⟨h1, h2, h3, arr, md, h4, h5⟩ := h
  rcases h5 with ⟨c1, -⟩ | ⟨b1, b2, b3, b4, el, b5, -, b6⟩
  · omega
  · obtain ⟨a, d1, d2, d3, d4, d5⟩ := b6 i hi
    have c5 : eX x o A q F (sc + 1) = some (.inr (8, [.ref arr, .int (nI cnt), .int md])) := by rw [eX_hi (by omega)]; exact h4
    have c6 : eX x o A q F arr = some (.inl (6, cap, .inr (.inr (.inr (.inr el))))) := by rw [eX_hi (by omega)]; exact b5
    have c7 : eX x o A q F a = some (.inr (4, stL fa (sts i))) := by rw [eX_hi (by omega)]; exact d5
    refine ⟨a, ?_, c7, ?_⟩
    · unfold f_AL_get f_Objs_checkIndex f_Pre_checkIndex f_AL_elementData
      rw [gI_at (k := 1) c5 rfl, Option.bind_some, if_neg (nI_pos (by omega)), if_pos (nI_lt hi (by omega)), Option.bind_some, Option.bind_some, gO_at c5, Option.bind_some, gR_at (k := 0) c5 rfl, Option.bind_some, aQ_at c6 (by omega) (by omega), d1, Option.bind_some, Option.bind_some]
    · unfold kC
      rw [gO_at c7]
      rfl
theorem sc_place (hx : x + 51 ≤ sc) (h : scB g0 fa F nx sc cnt pl ln cap sts) {c : Nat} (hc : c < 26) : f_Script_placeOf (eX x o A q F) sc (nI c) = some (pl c) := by
  obtain ⟨h1, h2, h3, arr, md, h4, h5⟩ := h
  have c3 : eX x o A q F sc = some (.inr (3, [.ref (sc + 1), .ref (sc + 2), .int (nI ln)])) := by rw [eX_hi (by omega)]; exact h2
  have c4 : eX x o A q F (sc + 2) = some (.inl (0, 26, .inl pl)) := by rw [eX_hi (by omega)]; exact h3
  unfold f_Script_placeOf f_Script_placeOf_b20
  rw [if_neg (nI_pos (by omega)), if_neg (show ¬ (26 : Int32) ≤ nI c from nI_ge (b := 26) hc (by decide)), gR_at (k := 1) c3 rfl, Option.bind_some, aI_at c4 hc (by decide), Option.bind_some]
end GETS
theorem cst_mono (t : Nat → Int32) (l : Nat × (Nat → Nat) × (Nat → Nat)) (k : Nat) : ∀ d, cst t l k ≤ cst t l (k + d) := by
  intro d
  induction d with
  | zero => exact Nat.le_refl _
  | succ d ih =>
    have : cst t l (k + d) ≤ cst t l (k + d + 1) := by
      rw [cst]
      split <;> omega
    rw [show k + (d + 1) = k + d + 1 from rfl]
    omega
section MIS
variable {g fa : Nat → Nat} {x N : Nat} {o A : Nat → Nat → Int32} {q : Nat → Option Nat} {F : hE} {nx sc ln j : Nat} {t : Nat → Int32} {l : Nat × (Nat → Nat) × (Nat → Nat)} {la : Nat → Int32}
theorem T_miss (hx : x + 51 ≤ sc) (hL : l.1 ≤ 400) (hj : j ≤ 11) (h : scK (g 0) fa F nx sc t l l.1 ln la j) : ∀ (r k fuel : Nat), k + r = l.1 → cst t l l.1 - cst t l k < fuel → f_Script_lineOfMissingLabel_b2 N (eX x o A q F) fuel (some sc) (nI (cst t l k)) = some (match sc2 t l la r k with
    | some i => nI i
    | none => -1) := by
  obtain ⟨pl, sts, s1, s2, s3, s4⟩ := h
  have hcl := cst_le t l l.1
  obtain ⟨e1, ⟨fs, e2⟩, e3, e4, ⟨fs', e5⟩⟩ := sc_size (o := o) (A := A) (q := q) hx s1
  intro r
  induction r with
  | zero =>
    intro k fuel hk hf
    obtain ⟨fuel, rfl⟩ : ∃ i, fuel = i + 1 := ⟨fuel - 1, by omega⟩
    rw [f_Script_lineOfMissingLabel_b2, e1, Option.bind_some, e2, Option.bind_some, e3, Option.bind_some, if_pos (by rw [show k = l.1 from by omega]; exact nI_le (Nat.le_refl _) (by omega))]
    rfl
  | succ r ih =>
    intro k fuel hk hf
    have hm1 := cst_mono t l (k + 1) r
    rw [show k + 1 + r = l.1 from by omega] at hm1
    have hck := cst_le t l k
    by_cases hst : stmtL t (Wl t l k) = true
    · have ec : cst t l (k + 1) = cst t l k + 1 := by rw [cst, if_pos hst]
      obtain ⟨fuel, rfl⟩ : ∃ i, fuel = i + 1 := ⟨fuel - 1, by omega⟩
      obtain ⟨u, u1, u2'⟩ := s3 k (by omega) hst
      obtain ⟨u3, u4, -⟩ := stm_some u1
      obtain ⟨a, a1, a2, a3⟩ := sc_get (o := o) (A := A) (q := q) hx (by have := (cap_m j hj).2.1; omega) s1 (show cst t l k < cst t l l.1 by omega)
      rw [u2'] at a2
      have hm : miss t (Wl t l k) la = lbm la u.2.2.2.2.2 := by
        unfold miss
        unfold stmtL at hst
        rw [u1, hst]
        rfl
      have next : miss t (Wl t l k) la = false → f_Script_lineOfMissingLabel_b50 N (eX x o A q F) (f_Script_lineOfMissingLabel_b2 N (eX x o A q F) fuel) (some sc) (nI (cst t l k)) = some (match sc2 t l la (r + 1) k with
          | some i => nI i
          | none => -1) := fun hz => by
        unfold f_Script_lineOfMissingLabel_b50
        rw [nI_1, ← ec, ih (k + 1) fuel (by omega) (by omega), sc2, hz]
        rfl
      rw [f_Script_lineOfMissingLabel_b2, e1, Option.bind_some, e2, Option.bind_some, e3, Option.bind_some, if_neg (nI_ge (by omega) (by omega)), Option.bind_some, e2, Option.bind_some, a1, Option.bind_some, a3, Option.bind_some, gI_at (k := 6) a2 rfl, Option.bind_some]
      simp only
      rcases fit_lab u3 u4 with hz | ⟨c, hc, hz⟩
      · rw [hz, if_pos rfl]
        exact next (by rw [hm, hz]; rfl)
      · rw [hz, if_neg (neg2 (by omega)), Option.bind_some, e5, Option.bind_some, sc_place hx s1 hc, Option.bind_some]
        have hpm := plc_m1 (t := t) (l := l) hL (s4 c hc)
        rw [← s2 c hc] at hpm
        by_cases hd : la c = -1
        · rw [if_pos (hpm.mpr hd), gI_at (k := 0) a2 rfl, Option.bind_some, sc2, hm, hz, lbm, cN_nI (by omega), decide_eq_true hd, decide_eq_false (neg2 (by omega))]
          rfl
        · rw [if_neg (fun z => hd (hpm.mp z))]
          exact next (by rw [hm, hz, lbm, cN_nI (by omega), decide_eq_false hd]; simp)
    · have ec : cst t l (k + 1) = cst t l k := by rw [cst, if_neg hst]
      have hz : miss t (Wl t l k) la = false := by
        unfold miss
        unfold stmtL at hst
        rw [Bool.eq_false_iff.mpr hst]
        rfl
      rw [← ec, ih (k + 1) fuel (by omega) (by omega), sc2, hz]
      rfl
end MIS
/-! lines as the class meets them -/
theorem lg_keep (t : Nat → Int32) (i : Nat) : ∀ d, (lg t i).1 ≤ (lg t (i + d)).1 ∧ ∀ k, k < (lg t i).1 → (lg t (i + d)).2.1 k = (lg t i).2.1 k ∧ (lg t (i + d)).2.2.1 k = (lg t i).2.2.1 k := by
  intro d
  induction d with
  | zero => exact ⟨Nat.le_refl _, fun k _ => ⟨rfl, rfl⟩⟩
  | succ d ih =>
    rw [show i + (d + 1) = i + d + 1 from rfl, lg]
    by_cases h : t (i + d) = 10
    · rw [if_pos h]
      refine ⟨by simp only; omega, fun k hk => ?_⟩
      simp only
      rw [va_up_ne _ _ (by omega), va_up_ne _ _ (by omega)]
      exact ih.2 k hk
    · rw [if_neg h]
      exact ih
theorem lns_nl {t : Nat → Int32} {n i : Nat} (hi : i < n) (h : t i = 10) : (lg t i).1 < (lns t n).1 ∧ (lns t n).2.1 (lg t i).1 = (lg t i).2.2.2 ∧ (lns t n).2.2 (lg t i).1 = i := by
  have e : lg t (i + 1) = ((lg t i).1 + 1, va_up (lg t i).2.1 (lg t i).1 (lg t i).2.2.2, va_up (lg t i).2.2.1 (lg t i).1 i, i + 1) := by rw [lg, if_pos h]
  obtain ⟨h1, h2⟩ := lg_keep t (i + 1) (n - (i + 1))
  rw [show i + 1 + (n - (i + 1)) = n from by omega, e] at h1 h2
  obtain ⟨a, b⟩ := h2 (lg t i).1 (by simp only; omega)
  simp only [va_up_self] at a b h1
  unfold lns
  by_cases hs : (lg t n).2.2.2 < n
  · rw [if_pos hs]
    simp only
    rw [va_up_ne _ _ (by omega), va_up_ne _ _ (by omega)]
    exact ⟨by omega, a, b⟩
  · rw [if_neg hs]
    exact ⟨by omega, a, b⟩
theorem lns_last {t : Nat → Int32} {n i : Nat} (hi : i + 1 = n) (h : ¬ t i = 10) : (lns t n).1 = (lg t i).1 + 1 ∧ (lns t n).2.1 (lg t i).1 = (lg t i).2.2.2 ∧ (lns t n).2.2 (lg t i).1 = n := by
  have e : lg t n = lg t i := by rw [← hi, lg, if_neg h]
  have hs := (lg_ok t i).2.1
  unfold lns
  rw [e, if_pos (by omega)]
  simp only [va_up_self]
  exact ⟨trivial, trivial, trivial⟩
theorem lns_end {t : Nat → Int32} {n i : Nat} (hi : i + 1 = n) (h : t i = 10) : (lns t n).1 = (lg t i).1 + 1 := by
  have e : lg t n = ((lg t i).1 + 1, va_up (lg t i).2.1 (lg t i).1 (lg t i).2.2.2, va_up (lg t i).2.2.1 (lg t i).1 i, i + 1) := by rw [← hi, lg, if_pos h]
  unfold lns
  rw [e, if_neg (by simp only; omega)]
/-! budgets -/
theorem sumB_cg {bo bo' : Nat → Nat} : ∀ n, (∀ j, j < n → bo j = bo' j) → sumB bo n = sumB bo' n := by
  intro n
  induction n with
  | zero => intro _; rfl
  | succ n ih =>
    intro h
    rw [sumB, sumB, ih (fun j hj => h j (by omega)), h n (by omega)]
theorem sumB_0 : ∀ n, sumB (fun _ => 0) n = 0 := by
  intro n
  induction n with
  | zero => rfl
  | succ n ih => rw [sumB, ih]
theorem chk_cg {S : hE} {g : Nat → Nat} {N : Nat} {bo bo' : Nat → Nat} : ∀ n, (∀ j, j < n → bo j = bo' j) → f_Tape_check_b9 S g N bo n = f_Tape_check_b9 S g N bo' n := by
  intro n
  induction n with
  | zero => intro _; rfl
  | succ n ih =>
    intro h
    have e := ih (fun j hj => h j (by omega))
    funext y0 y1 y2 y3 E nx
    rw [f_Tape_check_b9, f_Tape_check_b9, e, h n (by omega)]
    rfl
/-! a character -/
def twv (o A : Nat → Nat → Int32) (W : Nat × (Nat → Nat) × (Nat → Nat)) : Prop := o 1 3 = nI W.1 ∧ ∀ k, k < W.1 → k < 6 → A 4 k = nI (W.2.1 k) ∧ A 5 k = nI (W.2.2 k)
theorem T_chr {x : Nat} {o A : Nat → Nat → Int32} {q : Nat → Option Nat} {F : hE} {t : Nat → Int32} {st d : Nat} (hi : st + d < 400) (hc : ¬ t (st + d) = 32) (h : twv o A (wst t st d)) : ∃ o' A', f_Tape_takeCharacter (x + 1) (nI (st + d)) (bI (decide (d = 0 ∨ t (st + d - 1) = 32))) (eX x o A q F) = some (eX x o' A' q F) ∧ twv o' A' (wst t st (d + 1)) ∧ (∀ k, k ≠ 1 → o' k = o k) ∧ (∀ k, k ≠ 4 → k ≠ 5 → A' k = A k) := by
  obtain ⟨h1, h2⟩ := h
  obtain ⟨w1, w2, w3⟩ := wst_ok t st d
  unfold f_Tape_takeCharacter f_Tape_takeCharacter_b14 f_Tape_takeCharacter_b43 f_Tape_takeCharacter_b31
  by_cases hb : d = 0 ∨ t (st + d - 1) = 32
  · have e : wst t st (d + 1) = ((wst t st d).1 + 1, va_up (wst t st d).2.1 (wst t st d).1 (st + d), va_up (wst t st d).2.2 (wst t st d).1 (st + d + 1)) := by rw [wst, if_neg hc, if_pos hb]
    rw [decide_eq_true hb, if_neg (by decide), xt_3, Option.bind_some, h1, nI_1, xts_3, Option.bind_some, xt_3, Option.bind_some, u2_self, nI_pred, if_neg (nI_pos (by omega)), e]
    by_cases h6 : (wst t st d).1 < 6
    · rw [if_pos (show nI (wst t st d).1 < 6 from nI_lt (b := 6) h6 (by decide)), if_neg (by decide), xt_1, Option.bind_some, xa_T a4 (show (wst t st d).1 < 6 from h6), Option.bind_some, xt_2, Option.bind_some, xa_T a5 (show (wst t st d).1 < 6 from h6), Option.bind_some, nI_1]
      refine ⟨_, _, rfl, ⟨u2_self _ _ _ _, fun k hk hk6 => ?_⟩, fun k hk => u2_n _ _ _ hk, fun k h4 h5 => by rw [va_up_ne _ _ h5, va_up_ne _ _ h4]⟩
      simp only at hk ⊢
      rw [va_up_ne _ _ (show (4 : Nat) ≠ 5 by decide), va_up_self, va_up_self, va_up_ne _ _ (show (5 : Nat) ≠ 4 by decide)]
      by_cases hkc : k = (wst t st d).1
      · rw [hkc, upd_self, upd_self, va_up_self, va_up_self]
        exact ⟨rfl, rfl⟩
      · rw [upd_ne _ _ hkc, upd_ne _ _ hkc, va_up_ne _ _ hkc, va_up_ne _ _ hkc]
        exact h2 k (by omega) hk6
    · rw [if_neg (show ¬ nI (wst t st d).1 < 6 from nI_nlt (b := 6) (by omega) (by omega))]
      refine ⟨_, _, rfl, ⟨u2_self _ _ _ _, fun k hk hk6 => ?_⟩, fun k hk => u2_n _ _ _ hk, fun k _ _ => rfl⟩
      simp only at hk ⊢
      rw [va_up_ne _ _ (by omega), va_up_ne _ _ (by omega)]
      exact h2 k (by omega) hk6
  · have hd : 0 < d := by
      rcases Nat.eq_zero_or_pos d with z | z
      · exact absurd (Or.inl z) hb
      · exact z
    obtain ⟨c1, c2⟩ := w3 hd (fun z => hb (Or.inr z))
    have e : wst t st (d + 1) = ((wst t st d).1, (wst t st d).2.1, va_up (wst t st d).2.2 ((wst t st d).1 - 1) (st + d + 1)) := by rw [wst, if_neg hc, if_neg hb]
    rw [decide_eq_false hb, if_pos (by rfl), xt_3, Option.bind_some, h1, show nI (wst t st d).1 - 1 = nI ((wst t st d).1 - 1) from by rw [show (1 : Int32) = nI 1 from rfl, pk_sub (by omega)], if_neg (nI_pos (by omega)), e]
    by_cases h6 : (wst t st d).1 - 1 < 6
    · rw [if_pos (show nI ((wst t st d).1 - 1) < 6 from nI_lt (b := 6) h6 (by decide)), if_pos (by rfl), xt_2, Option.bind_some, xa_T a5 (show (wst t st d).1 - 1 < 6 from h6), Option.bind_some, nI_1]
      refine ⟨_, _, rfl, ⟨h1, fun k hk hk6 => ?_⟩, fun _ _ => rfl, fun k h4 h5 => va_up_ne _ _ h5⟩
      simp only at hk ⊢
      rw [va_up_ne _ _ (by decide), va_up_self]
      obtain ⟨f1, f2⟩ := h2 k hk hk6
      by_cases hkc : k = (wst t st d).1 - 1
      · rw [hkc, upd_self, va_up_self]
        exact ⟨by rw [← hkc]; exact f1, rfl⟩
      · rw [upd_ne _ _ hkc, va_up_ne _ _ hkc]
        exact ⟨f1, f2⟩
    · rw [if_neg (show ¬ nI ((wst t st d).1 - 1) < 6 from nI_nlt (b := 6) (by omega) (by omega))]
      refine ⟨_, _, rfl, ⟨h1, fun k hk hk6 => ?_⟩, fun _ _ => rfl, fun k _ _ => rfl⟩
      simp only at hk ⊢
      rw [va_up_ne _ _ (by omega)]
      exact h2 k hk hk6
