/-! ===== text ===== -/
def nz (v : Int64) : Nat → Nat
  | 0 => 0
  | c + 1 => if byt v c = 0 then nz v c else nz v c + 1
theorem nz_le (v : Int64) : ∀ c, nz v c ≤ c := by
  intro c
  induction c with
  | zero => exact Nat.le_refl _
  | succ c ih =>
    rw [nz]
    split <;> omega
def gd (v : Int64) (c : Nat) : Prop := ∀ i, i < c → byt v i = 0 ∨ isCh (byt v i)
theorem m8 (a : Nat) : nI (8 * (a + 1)) + (-8) = nI (8 * a) := by
  rw [Nat.mul_succ, ← nI_add, Int32.add_assoc, show nI 8 + (-8) = 0 from by decide, Int32.add_zero]
theorem ch_iff {b : Int32} (hb : isBy b) : isCh b ↔ (b = 10 ∨ (¬ b < 32 ∧ ¬ 126 < b)) := by
  obtain ⟨k, rfl, hk⟩ := hb
  constructor
  · rintro ⟨j, hj, h⟩
    have e : k = j := (nI_eq (by omega) (by rcases h with h | h <;> omega)).mp hj
    subst e
    rcases h with rfl | ⟨h1, h2⟩
    · exact Or.inl rfl
    · exact Or.inr ⟨nI_nlt (b := 32) h1 (by omega), nI_nlt (a := 126) h2 (by decide)⟩
  · rintro (h | ⟨h1, h2⟩)
    · exact ⟨10, h, Or.inl rfl⟩
    · refine ⟨k, rfl, Or.inr ⟨?_, ?_⟩⟩
      · exact Nat.not_lt.mp fun z => h1 (nI_lt (b := 32) z (by decide))
      · exact Nat.not_lt.mp fun z => h2 (nI_lt (a := 126) z (by omega))
theorem S_ch1 {E : hE} {b : Int32} (hb : isBy b) (h : isCh b) : f_S_isCharacter E b = some 1 := by
  unfold f_S_isCharacter
  rcases (ch_iff hb).mp h with h | ⟨h1, h2⟩
  · rw [if_pos h]
    rfl
  · rw [if_neg h1, if_neg h2]
    split <;> rfl
theorem S_ch0 {E : hE} {b : Int32} (hb : isBy b) (h : ¬ isCh b) : f_S_isCharacter E b = some 0 := by
  unfold f_S_isCharacter
  have h' := fun z => h ((ch_iff hb).mpr z)
  rw [if_neg (fun z => h' (Or.inl z))]
  by_cases h1 : b < 32
  · rw [if_pos h1]
    rfl
  · rw [if_neg h1, if_pos (Classical.byContradiction fun z => h' (Or.inr ⟨h1, z⟩))]
    rfl
section TXT
variable {x m N : Nat} {o A B : Nat → Nat → Int32} {s : Nat → Int32} {w : Nat → Int64} {q : Nat → Option Nat} {F G E : hE} {v : Int64}
theorem S_t6g : ∀ (c a f : Nat), c ≤ 8 → c < f → gd v c → f_S_text_b6 N f (some x) v (nI a) (nI c + (-1)) E = f_S_text_b6 N 1 (some x) v (nI (a + nz v c)) (-1) E := by
  intro c
  induction c with
  | zero =>
    intro a f h8 hf hg
    obtain ⟨f, rfl⟩ : ∃ k, f = k + 1 := ⟨f - 1, by omega⟩
    rw [f_S_text_b6, f_S_text_b6, if_pos (by decide), if_pos (by decide)]
    rfl
  | succ c ih =>
    intro a f h8 hf hg
    obtain ⟨f, rfl⟩ : ∃ k, f = k + 1 := ⟨f - 1, by omega⟩
    have hg' : gd v c := fun i hi => hg i (by omega)
    rw [f_S_text_b6, pk_m1, if_neg (nI_pos (by omega)), byt_S, Option.bind_some, nz]
    by_cases h0 : byt v c = 0
    · rw [if_pos h0, if_pos h0]
      unfold f_S_text_b37
      exact ih a f (by omega) (by omega) hg'
    · rw [if_neg h0, if_neg h0, S_ch1 (byt_by v c) ((hg c (by omega)).resolve_left h0), Option.bind_some, if_neg (by decide), nI_1]
      unfold f_S_text_b37
      rw [ih (a + 1) f (by omega) (by omega) hg', show a + 1 + nz v c = a + (nz v c + 1) from by omega]
theorem S_t6b : ∀ (c a f : Nat), c ≤ 8 → c < f → ¬ gd v c → f_S_text_b6 N f (some x) v (nI a) (nI c + (-1)) E = some (0, E) := by
  intro c
  induction c with
  | zero =>
    intro a f h8 hf hg
    exact absurd (fun i hi => absurd hi (Nat.not_lt_zero i)) hg
  | succ c ih =>
    intro a f h8 hf hg
    obtain ⟨f, rfl⟩ : ∃ k, f = k + 1 := ⟨f - 1, by omega⟩
    rw [f_S_text_b6, pk_m1, if_neg (nI_pos (by omega)), byt_S, Option.bind_some]
    have key : (byt v c = 0 ∨ isCh (byt v c)) → ¬ gd v c := fun h1 h2 => hg (fun i hi => (Nat.lt_succ_iff_lt_or_eq.mp hi).elim (h2 i) (fun e => e ▸ h1))
    by_cases h0 : byt v c = 0
    · rw [if_pos h0]
      unfold f_S_text_b37
      exact ih a f (by omega) (by omega) (key (Or.inl h0))
    · rw [if_neg h0]
      by_cases hc : isCh (byt v c)
      · rw [S_ch1 (byt_by v c) hc, Option.bind_some, if_neg (by decide), nI_1]
        unfold f_S_text_b37
        exact ih (a + 1) f (by omega) (by omega) (key (Or.inr hc))
      · rw [S_ch0 (byt_by v c) hc, Option.bind_some, if_pos rfl]
theorem M_t6g : ∀ (c a f : Nat), c ≤ 8 → c < f → gd v c → f_M_text_b6 N f (some m) v (nI a) (nI (8 * c) + (-8)) E = f_M_text_b6 N 1 (some m) v (nI (a + nz v c)) (-8) E := by
  intro c
  induction c with
  | zero =>
    intro a f h8 hf hg
    obtain ⟨f, rfl⟩ : ∃ k, f = k + 1 := ⟨f - 1, by omega⟩
    rw [f_M_text_b6, f_M_text_b6, if_pos (by decide), if_pos (by decide)]
    rfl
  | succ c ih =>
    intro a f h8 hf hg
    obtain ⟨f, rfl⟩ : ∃ k, f = k + 1 := ⟨f - 1, by omega⟩
    have hg' : gd v c := fun i hi => hg i (by omega)
    rw [f_M_text_b6, m8, if_neg (nI_pos (by omega)), byt_M, nz]
    by_cases h0 : byt v c = 0
    · rw [if_pos h0, if_pos h0]
      unfold f_M_text_b54
      exact ih a f (by omega) (by omega) hg'
    · have hc := (hg c (by omega)).resolve_left h0
      rw [if_neg h0, if_neg h0]
      have goal : f_M_text_b51 N (f_M_text_b6 N f) (some m) v (nI a) (nI (8 * c)) E = f_M_text_b6 N 1 (some m) v (nI (a + (nz v c + 1))) (-8) E := by
        unfold f_M_text_b51 f_M_text_b54
        rw [nI_1, ih (a + 1) f (by omega) (by omega) hg', show a + 1 + nz v c = a + (nz v c + 1) from by omega]
      rcases (ch_iff (byt_by v c)).mp hc with h1 | ⟨h1, h2⟩
      · rw [if_pos h1]
        exact goal
      · rw [M_in1 (Int32.not_lt.mp h1) (Int32.not_lt.mp h2), Option.bind_some, if_neg (show ¬ (1 : Int32) = 0 from by decide), goal]
        split <;> rfl
theorem M_t6b : ∀ (c a f : Nat), c ≤ 8 → c < f → ¬ gd v c → f_M_text_b6 N f (some m) v (nI a) (nI (8 * c) + (-8)) E = some (0, E) := by
  intro c
  induction c with
  | zero =>
    intro a f h8 hf hg
    exact absurd (fun i hi => absurd hi (Nat.not_lt_zero i)) hg
  | succ c ih =>
    intro a f h8 hf hg
    obtain ⟨f, rfl⟩ : ∃ k, f = k + 1 := ⟨f - 1, by omega⟩
    rw [f_M_text_b6, m8, if_neg (nI_pos (by omega)), byt_M]
    have key : (byt v c = 0 ∨ isCh (byt v c)) → ¬ gd v c := fun h1 h2 => hg (fun i hi => (Nat.lt_succ_iff_lt_or_eq.mp hi).elim (h2 i) (fun e => e ▸ h1))
    by_cases h0 : byt v c = 0
    · rw [if_pos h0]
      unfold f_M_text_b54
      exact ih a f (by omega) (by omega) (key (Or.inl h0))
    · rw [if_neg h0]
      by_cases hc : isCh (byt v c)
      · have goal : f_M_text_b51 N (f_M_text_b6 N f) (some m) v (nI a) (nI (8 * c)) E = some (0, E) := by
          unfold f_M_text_b51 f_M_text_b54
          rw [nI_1]
          exact ih (a + 1) f (by omega) (by omega) (key (Or.inr hc))
        rcases (ch_iff (byt_by v c)).mp hc with h1 | ⟨h1, h2⟩
        · rw [if_pos h1]
          exact goal
        · rw [M_in1 (Int32.not_lt.mp h1) (Int32.not_lt.mp h2), Option.bind_some, if_neg (show ¬ (1 : Int32) = 0 from by decide), goal]
          split <;> rfl
      · have h' := fun z => hc ((ch_iff (byt_by v c)).mpr z)
        rw [if_neg (fun z => h' (Or.inl z)), M_in0 (Classical.byContradiction fun z => h' (Or.inr ⟨fun y => z (Or.inl y), fun y => z (Or.inr y)⟩)), Option.bind_some, if_pos rfl]
theorem text_loop : ∀ (c : Nat) (o A B : Nat → Nat → Int32) (s : Nat → Int32) (n f1 f2 : Nat), c ≤ 8 → c < f1 → c < f2 → gd v c → n + nz v c ≤ 400 → o 2 1 = nI n → s 0 = nI n → (∀ i, i < n → A 3 i = B 1 i ∧ isCh (B 1 i)) →
    ∃ (o' A' B' : Nat → Nat → Int32) (s' : Nat → Int32), f_S_text_b63 N f1 (some x) v (nI c + (-1)) (eX x o A q F) = some (1, eX x o' A' q F) ∧ f_M_text_b78 N f2 (some m) v (nI (8 * c) + (-8)) (eM m s B w G) = some (1, eM m s' B' w G) ∧ (∀ k, k ≠ 2 → o' k = o k) ∧ (∀ k, k ≠ 3 → A' k = A k) ∧ (∀ k, k ≠ 1 → B' k = B k) ∧ (∀ k, k ≠ 0 → s' k = s k) ∧ rTape (o' 2) (A' 3) (s' 0) (B' 1) := by
  have r2 : isRow 2 := by unfold isRow; omega
  intro c
  induction c with
  | zero =>
    intro o A B s n f1 f2 h8 h1 h2 hg hn ho hs hr
    obtain ⟨f1, rfl⟩ : ∃ k, f1 = k + 1 := ⟨f1 - 1, by omega⟩
    obtain ⟨f2, rfl⟩ : ∃ k, f2 = k + 1 := ⟨f2 - 1, by omega⟩
    rw [f_S_text_b63, f_M_text_b78, if_pos (by decide), if_pos (by decide)]
    exact ⟨o, A, B, s, rfl, rfl, fun _ _ => rfl, fun _ _ => rfl, fun _ _ => rfl, fun _ _ => rfl, n, by omega, ho, hs, hr⟩
  | succ c ih =>
    intro o A B s n f1 f2 h8 h1 h2 hg hn ho hs hr
    obtain ⟨f1, rfl⟩ : ∃ k, f1 = k + 1 := ⟨f1 - 1, by omega⟩
    obtain ⟨f2, rfl⟩ : ∃ k, f2 = k + 1 := ⟨f2 - 1, by omega⟩
    have hg' : gd v c := fun i hi => hg i (by omega)
    rw [nz] at hn
    rw [f_S_text_b63, f_M_text_b78, pk_m1, m8, if_neg (nI_pos (by omega)), if_neg (nI_pos (by omega)), byt_S, byt_M, Option.bind_some]
    by_cases h0 : byt v c = 0
    · rw [if_pos h0] at hn
      rw [if_pos h0, if_pos h0]
      unfold f_S_text_b93 f_M_text_b123
      exact ih o A B s n f1 f2 (by omega) (by omega) (by omega) hg' hn ho hs hr
    · have hc := (hg c (by omega)).resolve_left h0
      rw [if_neg h0] at hn
      rw [if_neg h0, if_neg h0]
      simp only [x0_0, xt_0, Option.bind_some, xr_O r2, R_add r2 ho (show n < 400 by omega), mg_1, mg_0, hs, mt_1 (show n < 400 by omega), nI_1, ms_0, and_255 (byt_by v c)]
      unfold f_S_text_b93 f_M_text_b123
      obtain ⟨o', A', B', s', g1, g2, g3, g4, g5, g6, g7⟩ := ih (u2 (u2 o 2 1 (nI (n + 1))) 2 2 1) (va_up A 3 (upd (A 3) n (byt v c))) (va_up B 1 (upd (B 1) n (byt v c))) (upd s 0 (nI (n + 1))) (n + 1) f1 f2 (by omega) (by omega) (by omega) hg' (by omega) (by rw [u2_ne _ _ (by decide), u2_self]) (upd_self _ _ _) (fun i hi => by
        rw [va_up_self, va_up_self]
        by_cases hin : i = n
        · subst hin
          rw [upd_self, upd_self]
          exact ⟨rfl, hc⟩
        · rw [upd_ne _ _ hin, upd_ne _ _ hin]
          exact hr i (by omega))
      exact ⟨o', A', B', s', g1, g2, fun k hk => by rw [g3 k hk, u2_n _ _ _ hk, u2_n _ _ _ hk], fun k hk => by rw [g4 k hk, va_up_ne _ _ hk], fun k hk => by rw [g5 k hk, va_up_ne _ _ hk], fun k hk => by rw [g6 k hk, upd_ne _ _ hk], g7⟩
theorem rSta_tape {o' A' B' : Nat → Nat → Int32} {s' : Nat → Int32} (h : rSta o A s B) (ho : ∀ k, k ≠ 2 → o' k = o k) (hA : ∀ k, k ≠ 3 → A' k = A k) (hB : ∀ k, k ≠ 1 → B' k = B k) (hs : ∀ k, k ≠ 0 → s' k = s k) (ht : rTape (o' 2) (A' 3) (s' 0) (B' 1)) : rSta o' A' s' B' := by
  obtain ⟨hT, hF, hO, hE, hP, hR⟩ := h
  refine ⟨ht, fun f hf => ?_, ?_, ?_, ?_, ?_⟩
  · rw [ho _ (by omega), hA _ (by omega), hB _ (by decide), hB _ (by decide), hB _ (by decide)]
    exact hF f hf
  · rw [ho _ (by decide), hA _ (by decide), hB _ (by decide), hs _ (by decide)]; exact hO
  · rw [ho _ (by decide), hA _ (by decide), hB _ (by decide), hs _ (by decide)]; exact hE
  · rw [hA _ (by decide), hB _ (by decide)]; exact hP
  · rw [ho _ (by decide), ho _ (by decide), hA _ (by decide), hB _ (by decide)]
    obtain ⟨h1, h2, h3, h4, h5, h6, h7⟩ := hR
    exact ⟨by rw [hs _ (by decide)]; exact h1, by rw [hs _ (by decide)]; exact h2, by rw [hs _ (by decide)]; exact h3, by rw [hs _ (by decide)]; exact h4, by rw [hs _ (by decide)]; exact h5, by rw [hs _ (by decide)]; exact h6, fun i hi => by rw [hs _ (by decide)]; exact h7 i hi⟩
theorem L_text (hN : 9 ≤ N) (h : rSta o A s B) (v : Int64) : Alk x m q B F G (f_S_text N x v (eX x o A q F)) (f_M_text N m v (eM m s B w G)) := by
  have r2 : isRow 2 := by unfold isRow; omega
  have out : Alk x m q B F G (some (0, eX x o A q F)) (some (0, eM m s B w G)) := ⟨0, o, A, s, B, w, rfl, rfl, h, fun _ _ _ => rfl⟩
  unfold f_S_text f_M_text
  rw [show (7 : Int32) = nI 8 + (-1) from by decide, show (56 : Int32) = nI (8 * 8) + (-8) from by decide, show (0 : Int32) = nI 0 from rfl]
  by_cases hg : gd v 8
  · rw [S_t6g 8 0 N (by decide) (by omega) hg, M_t6g 8 0 N (by decide) (by omega) hg, f_S_text_b6, f_M_text_b6, if_pos (by decide), if_pos (by decide)]
    obtain ⟨n, hn, a1, a2, a3⟩ := h.1
    have h8 := nz_le v 8
    simp only [x0_0, xt_0, xr_O r2, mg_0, a2, Option.bind_some, Nat.zero_add, nI_add]
    by_cases hc : n + nz v 8 ≤ 400
    · rw [R_room1 r2 a1 hc, Option.bind_some, if_neg (by decide), if_pos (show nI (n + nz v 8) ≤ 400 from nI_le (b := 400) hc (by decide)), show (7 : Int32) = nI 8 + (-1) from by decide, show (56 : Int32) = nI (8 * 8) + (-8) from by decide]
      obtain ⟨o', A', B', s', g1, g2, g3, g4, g5, g6, g7⟩ := text_loop (x := x) (m := m) (N := N) (w := w) (q := q) (F := F) (G := G) (v := v) 8 o A B s n N N (by decide) (by omega) (by omega) hg hc a1 a2 a3
      exact ⟨1, o', A', s', B', w, g1, g2, rSta_tape h g3 g4 g5 g6 g7, fun k h1 h2 => g5 k (by omega)⟩
    · rw [R_room0 r2 a1 hn (show 400 < n + nz v 8 by omega) (by omega), Option.bind_some, if_pos rfl, if_neg (show ¬ nI (n + nz v 8) ≤ 400 from nI_ge (a := 400) (by omega) (by omega))]
      exact out
  · rw [S_t6b 8 0 N (by decide) (by omega) hg, M_t6b 8 0 N (by decide) (by omega) hg]
    exact out
end TXT
