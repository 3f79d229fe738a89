/-! ===== lines of a text: how many, from where, up to where, and where the open one begins ===== -/
def lg (t : Nat → Int32) : Nat → Nat × (Nat → Nat) × (Nat → Nat) × Nat
  | 0 => (0, fun _ => 0, fun _ => 0, 0)
  | i + 1 => if t i = 10 then ((lg t i).1 + 1, va_up (lg t i).2.1 (lg t i).1 (lg t i).2.2.2, va_up (lg t i).2.2.1 (lg t i).1 i, i + 1) else lg t i
def lns (t : Nat → Int32) (n : Nat) : Nat × (Nat → Nat) × (Nat → Nat) := if (lg t n).2.2.2 < n then ((lg t n).1 + 1, va_up (lg t n).2.1 (lg t n).1 (lg t n).2.2.2, va_up (lg t n).2.2.1 (lg t n).1 n) else ((lg t n).1, (lg t n).2.1, (lg t n).2.2.1)
theorem lg_ok (t : Nat → Int32) : ∀ i, (lg t i).1 ≤ (lg t i).2.2.2 ∧ (lg t i).2.2.2 ≤ i ∧ (∀ j, (lg t i).2.2.2 ≤ j → j < i → ¬ t j = 10) ∧ ∀ k, k < (lg t i).1 → (lg t i).2.1 k ≤ (lg t i).2.2.1 k ∧ (lg t i).2.2.1 k < i ∧ ∀ j, (lg t i).2.1 k ≤ j → j < (lg t i).2.2.1 k → ¬ t j = 10 := by
  intro i
  induction i with
  | zero => exact ⟨Nat.le_refl _, Nat.le_refl _, fun j _ h => absurd h (Nat.not_lt_zero j), fun k h => absurd h (Nat.not_lt_zero k)⟩
  | succ i ih =>
    obtain ⟨h1, h2, h3, h4⟩ := ih
    rw [lg]
    by_cases h : t i = 10
    · rw [if_pos h]
      refine ⟨by simp only; omega, Nat.le_refl _, fun j a b => by simp only at a; omega, fun k hk => ?_⟩
      simp only at hk ⊢
      by_cases hkc : k = (lg t i).1
      · rw [hkc, va_up_self, va_up_self]
        exact ⟨h2, by omega, h3⟩
      · rw [va_up_ne _ _ hkc, va_up_ne _ _ hkc]
        obtain ⟨a, b, c⟩ := h4 k (by omega)
        exact ⟨a, by omega, c⟩
    · rw [if_neg h]
      refine ⟨h1, by omega, fun j a b => ?_, fun k hk => by obtain ⟨a, b, c⟩ := h4 k hk; exact ⟨a, by omega, c⟩⟩
      by_cases hj : j = i
      · rw [hj]; exact h
      · exact h3 j a (by omega)
theorem lns_ok (t : Nat → Int32) (n : Nat) : (lns t n).1 ≤ n ∧ ∀ k, k < (lns t n).1 → (lns t n).2.1 k ≤ (lns t n).2.2 k ∧ (lns t n).2.2 k ≤ n ∧ ∀ j, (lns t n).2.1 k ≤ j → j < (lns t n).2.2 k → ¬ t j = 10 := by
  obtain ⟨h1, h2, h3, h4⟩ := lg_ok t n
  unfold lns
  by_cases h : (lg t n).2.2.2 < n
  · rw [if_pos h]
    refine ⟨by simp only; omega, fun k hk => ?_⟩
    simp only at hk ⊢
    by_cases hkc : k = (lg t n).1
    · rw [hkc, va_up_self, va_up_self]
      exact ⟨h2, Nat.le_refl _, h3⟩
    · rw [va_up_ne _ _ hkc, va_up_ne _ _ hkc]
      obtain ⟨a, b, c⟩ := h4 k (by omega)
      exact ⟨a, by omega, c⟩
  · rw [if_neg h]
    refine ⟨by simp only; omega, fun k hk => ?_⟩
    obtain ⟨a, b, c⟩ := h4 k hk
    exact ⟨a, Nat.le_of_lt b, c⟩
/-- the reference's view of the lines of program p -/
def linV (B : Nat → Nat → Int32) (p : Nat) (l : Nat × (Nat → Nat) × (Nat → Nat)) : Prop := B 5 p = nI l.1 ∧ ∀ k, k < l.1 → B 3 (400 * p + k) = nI (l.2.1 k) ∧ B 4 (400 * p + k) = nI (l.2.2 k)
def offR (f f' : Nat → Int32) : Prop := ∀ j, j < 1600 → f' j = f j
section LAYL
variable {m N n : Nat} {s : Nat → Int32} {w : Nat → Int64} {t : Nat → Int32} {G : hE}
theorem M_lay12 (hn : n ≤ 400) : ∀ (r i fuel : Nat) (B : Nat → Nat → Int32), i + r = n → r < fuel → (∀ j, j < n → B 2 (1600 + j) = t j) → (∀ k, k < (lg t i).1 → B 3 (1600 + k) = nI ((lg t i).2.1 k) ∧ B 4 (1600 + k) = nI ((lg t i).2.2.1 k)) →
    ∃ B' : Nat → Nat → Int32, f_M_layLines_b12 N fuel (some m) (nI n) (nI 1600) (nI (lg t i).1) (nI (lg t i).2.2.2) (nI i) (eM m s B w G) = some (eM m s B' w G) ∧ linV B' 4 (lns t n) ∧ (∀ k, k ≠ 3 → k ≠ 4 → k ≠ 5 → B' k = B k) ∧ offR (B 3) (B' 3) ∧ offR (B 4) (B' 4) ∧ (∀ j, j < 4 → B' 5 j = B 5 j) := by
  intro r
  induction r with
  | zero =>
    intro i fuel B hi hf ht hl
    obtain ⟨fuel, rfl⟩ : ∃ k, fuel = k + 1 := ⟨fuel - 1, by omega⟩
    have hi' : i = n := by omega
    subst hi'
    obtain ⟨h1, h2, h3, h4⟩ := lg_ok t i
    rw [f_M_layLines_b12, if_pos (nI_le (Nat.le_refl _) (by omega))]
    unfold lns
    by_cases h : (lg t i).2.2.2 < i
    · rw [if_neg (nI_ge h (by omega)), if_pos h]
      unfold f_M_layLines_b98
      simp only [mg_3, Option.bind_some, nI_add, mt_3 (show 1600 + (lg t i).1 < 2000 by omega), mg_4, mt_4 (show 1600 + (lg t i).1 < 2000 by omega), mg_5, nI_1, show (4 : Int32) = nI 4 from rfl, mt_5 (show 4 < 5 by decide)]
      refine ⟨_, rfl, ⟨by rw [va_up_self, upd_self], fun k hk => ?_⟩, fun k a b c => by rw [va_up_ne _ _ c, va_up_ne _ _ b, va_up_ne _ _ a], fun j hj => ?_, fun j hj => ?_, fun j hj => ?_⟩
      · simp only at hk ⊢
        rw [va_up_ne _ _ (show (3 : Nat) ≠ 5 by decide), va_up_ne _ _ (show (3 : Nat) ≠ 4 by decide), va_up_self, va_up_ne _ _ (show (4 : Nat) ≠ 5 by decide), va_up_self, va_up_ne _ _ (show (4 : Nat) ≠ 3 by decide)]
        by_cases hkc : k = (lg t i).1
        · rw [hkc, show 400 * 4 + (lg t i).1 = 1600 + (lg t i).1 from rfl, upd_self, upd_self, va_up_self, va_up_self]
          exact ⟨rfl, rfl⟩
        · rw [show 400 * 4 + k = 1600 + k from rfl, upd_ne _ _ (by omega), upd_ne _ _ (by omega), va_up_ne _ _ hkc, va_up_ne _ _ hkc]
          exact hl k (by omega)
      · rw [va_up_ne _ _ (show (3 : Nat) ≠ 5 by decide), va_up_ne _ _ (show (3 : Nat) ≠ 4 by decide), va_up_self, upd_ne _ _ (by omega)]
      · rw [va_up_ne _ _ (show (4 : Nat) ≠ 5 by decide), va_up_self, upd_ne _ _ (by omega), va_up_ne _ _ (show (4 : Nat) ≠ 3 by decide)]
      · rw [va_up_self, upd_ne _ _ (by omega), va_up_ne _ _ (by decide), va_up_ne _ _ (by decide)]
    · rw [if_pos (nI_le (by omega) (by omega)), if_neg h]
      unfold f_M_layLines_b98
      simp only [mg_5, Option.bind_some, show (4 : Int32) = nI 4 from rfl, mt_5 (show 4 < 5 by decide)]
      refine ⟨_, rfl, ⟨by rw [va_up_self, upd_self], fun k hk => ?_⟩, fun k a b c => by rw [va_up_ne _ _ c], fun j hj => ?_, fun j hj => ?_, fun j hj => ?_⟩
      · rw [va_up_ne _ _ (by decide), va_up_ne _ _ (by decide)]
        exact hl k hk
      · rw [va_up_ne _ _ (by decide)]
      · rw [va_up_ne _ _ (by decide)]
      · rw [va_up_self, upd_ne _ _ (by omega)]
  | succ r ih =>
    intro i fuel B hi hf ht hl
    obtain ⟨fuel, rfl⟩ : ∃ k, fuel = k + 1 := ⟨fuel - 1, by omega⟩
    obtain ⟨h1, h2, h3, h4⟩ := lg_ok t i
    rw [f_M_layLines_b12, if_neg (nI_ge (by omega) (by omega)), mg_2, Option.bind_some, nI_add, ma_2 (by omega), Option.bind_some, ht i (by omega)]
    unfold f_M_layLines_b64
    by_cases h : t i = 10
    · have e : lg t (i + 1) = ((lg t i).1 + 1, va_up (lg t i).2.1 (lg t i).1 (lg t i).2.2.2, va_up (lg t i).2.2.1 (lg t i).1 i, i + 1) := by rw [lg, if_pos h]
      rw [if_pos h]
      simp only [mg_3, Option.bind_some, nI_add, mt_3 (show 1600 + (lg t i).1 < 2000 by omega), mg_4, mt_4 (show 1600 + (lg t i).1 < 2000 by omega), nI_1]
      have := ih (i + 1) fuel (va_up (va_up B 3 (upd (B 3) (1600 + (lg t i).1) (nI (lg t i).2.2.2))) 4 (upd (va_up B 3 (upd (B 3) (1600 + (lg t i).1) (nI (lg t i).2.2.2)) 4) (1600 + (lg t i).1) (nI i))) (by omega) (by omega) (fun j hj => by rw [va_up_ne _ _ (by decide), va_up_ne _ _ (by decide)]; exact ht j hj) (fun k hk => by
        rw [e] at hk ⊢
        simp only at hk ⊢
        rw [va_up_ne _ _ (show (3 : Nat) ≠ 4 by decide), va_up_self, va_up_self, va_up_ne _ _ (show (4 : Nat) ≠ 3 by decide)]
        by_cases hkc : k = (lg t i).1
        · rw [hkc, upd_self, upd_self, va_up_self, va_up_self]
          exact ⟨rfl, rfl⟩
        · rw [upd_ne _ _ (by omega), upd_ne _ _ (by omega), va_up_ne _ _ hkc, va_up_ne _ _ hkc]
          exact hl k (by omega))
      rw [e] at this
      obtain ⟨B', g1, g2, g3, g4, g5, g6⟩ := this
      refine ⟨B', g1, g2, fun k a b c => by rw [g3 k a b c, va_up_ne _ _ b, va_up_ne _ _ a], fun j hj => ?_, fun j hj => ?_, fun j hj => ?_⟩
      · rw [g4 j hj, va_up_ne _ _ (by decide), va_up_self, upd_ne _ _ (by omega)]
      · rw [g5 j hj, va_up_self, upd_ne _ _ (by omega), va_up_ne _ _ (by decide)]
      · rw [g6 j hj, va_up_ne _ _ (by decide), va_up_ne _ _ (by decide)]
    · have e : lg t (i + 1) = lg t i := by rw [lg, if_neg h]
      rw [if_neg h, nI_1]
      have := ih (i + 1) fuel B (by omega) (by omega) ht (by rw [e]; exact hl)
      rw [e] at this
      exact this
theorem M_lay (hn : n ≤ 400) (hN : 400 < N) {B : Nat → Nat → Int32} (ht : ∀ j, j < n → B 2 (1600 + j) = t j) :
    ∃ B' : Nat → Nat → Int32, f_M_layLines N m (nI n) (eM m s B w G) = some (eM m s B' w G) ∧ linV B' 4 (lns t n) ∧ (∀ k, k ≠ 3 → k ≠ 4 → k ≠ 5 → B' k = B k) ∧ offR (B 3) (B' 3) ∧ offR (B 4) (B' 4) ∧ (∀ j, j < 4 → B' 5 j = B 5 j) :=
  M_lay12 hn n 0 N B (by omega) (by omega) ht (fun k hk => absurd hk (Nat.not_lt_zero k))
end LAYL
