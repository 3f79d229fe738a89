/-! ===== words of a line: how many, from where, up to where (the line's chars are t a .. t (a + d - 1)) ===== -/
def wst (t : Nat → Int32) (a : Nat) : Nat → Nat × (Nat → Nat) × (Nat → Nat)
  | 0 => (0, fun _ => 0, fun _ => 0)
  | d + 1 => if t (a + d) = 32 then wst t a d else if d = 0 ∨ t (a + d - 1) = 32 then ((wst t a d).1 + 1, va_up (wst t a d).2.1 (wst t a d).1 (a + d), va_up (wst t a d).2.2 (wst t a d).1 (a + d + 1)) else ((wst t a d).1, (wst t a d).2.1, va_up (wst t a d).2.2 ((wst t a d).1 - 1) (a + d + 1))
def pk (t : Nat → Int32) (f : Nat) : Nat → Int64
  | 0 => 0
  | j + 1 => if j < 7 then (pk t f j <<< ((8 : Int32).toInt64 &&& 63)) ||| (t (f + j)).toInt64 else -1
theorem va_up2 {α : Type} (f : Nat → α) (k : Nat) (u v : α) : va_up (va_up f k u) k v = va_up f k v := by
  funext j
  unfold va_up
  split <;> rfl
theorem wst_blank {t : Nat → Int32} {a d : Nat} (h : t (a + d) = 32) : wst t a (d + 1) = wst t a d := by
  rw [wst, if_pos h]
theorem wst_word {t : Nat → Int32} {a d : Nat} (h0 : d = 0 ∨ t (a + d - 1) = 32) : ∀ j, (∀ i, i ≤ j → ¬ t (a + d + i) = 32) → wst t a (d + (j + 1)) = ((wst t a d).1 + 1, va_up (wst t a d).2.1 (wst t a d).1 (a + d), va_up (wst t a d).2.2 (wst t a d).1 (a + d + (j + 1))) := by
  intro j
  induction j with
  | zero =>
    intro h
    rw [wst, if_neg (show ¬ t (a + d) = 32 from h 0 (Nat.le_refl _)), if_pos h0]
  | succ j ih =>
    intro h
    have e := ih (fun i hi => h i (by omega))
    rw [show d + (j + 1 + 1) = (d + (j + 1)) + 1 from rfl, wst, if_neg (by rw [show a + (d + (j + 1)) = a + d + (j + 1) from by omega]; exact h _ (Nat.le_refl _)), if_neg (by
      rintro (z | z)
      · omega
      · rw [show a + (d + (j + 1)) - 1 = a + d + j from by omega] at z
        exact h j (by omega) z), e]
    simp only [Nat.add_sub_cancel, va_up2]
    rw [show a + (d + (j + 1)) + 1 = a + d + (j + 1 + 1) from by omega]
theorem wst_ok (t : Nat → Int32) (a : Nat) : ∀ d, (wst t a d).1 ≤ d ∧ (∀ k, k < (wst t a d).1 → a ≤ (wst t a d).2.1 k ∧ (wst t a d).2.1 k < (wst t a d).2.2 k ∧ (wst t a d).2.2 k ≤ a + d ∧ ∀ i, (wst t a d).2.1 k ≤ i → i < (wst t a d).2.2 k → ¬ t i = 32) ∧ (0 < d → ¬ t (a + d - 1) = 32 → 0 < (wst t a d).1 ∧ (wst t a d).2.2 ((wst t a d).1 - 1) = a + d) := by
  intro d
  induction d with
  | zero => exact ⟨Nat.le_refl _, fun k hk => absurd hk (Nat.not_lt_zero k), fun h => absurd h (Nat.not_lt_zero 0)⟩
  | succ d ih =>
    obtain ⟨i1, i2, i3⟩ := ih
    rw [wst]
    by_cases h : t (a + d) = 32
    · rw [if_pos h]
      exact ⟨by omega, fun k hk => by obtain ⟨b1, b2, b3, b4⟩ := i2 k hk; exact ⟨b1, b2, by omega, b4⟩, fun _ z => absurd h z⟩
    · rw [if_neg h]
      by_cases h0 : d = 0 ∨ t (a + d - 1) = 32
      · rw [if_pos h0]
        refine ⟨by simp only; omega, fun k hk => ?_, fun _ _ => ⟨by simp only; omega, by simp only [Nat.add_sub_cancel, va_up_self]; omega⟩⟩
        simp only at hk ⊢
        by_cases hkc : k = (wst t a d).1
        · subst hkc
          rw [va_up_self, va_up_self]
          refine ⟨by omega, by omega, by omega, fun i h1 h2 => ?_⟩
          rw [show i = a + d from by omega]
          exact h
        · rw [va_up_ne _ _ hkc, va_up_ne _ _ hkc]
          obtain ⟨b1, b2, b3, b4⟩ := i2 k (by omega)
          exact ⟨b1, b2, by omega, b4⟩
      · rw [if_neg h0]
        have hd : 0 < d := by
          rcases Nat.eq_zero_or_pos d with z | z
          · exact absurd (Or.inl z) h0
          · exact z
        obtain ⟨c1, c2⟩ := i3 hd (fun z => h0 (Or.inr z))
        refine ⟨by simp only; omega, fun k hk => ?_, fun _ _ => ⟨c1, by simp only [va_up_self]; omega⟩⟩
        simp only at hk ⊢
        obtain ⟨b1, b2, b3, b4⟩ := i2 k hk
        by_cases hkc : k = (wst t a d).1 - 1
        · subst hkc
          rw [va_up_self]
          refine ⟨b1, by omega, by omega, fun i h1 h2 => ?_⟩
          by_cases hi : i = a + d
          · rw [hi]; exact h
          · exact b4 i h1 (by omega)
        · rw [va_up_ne _ _ hkc]
          exact ⟨b1, b2, by omega, b4⟩
/-- the reference's view of the words -/
def spl (s : Nat → Int32) (B : Nat → Nat → Int32) (w : Nat → Int64) (t : Nat → Int32) (base : Nat) (W : Nat × (Nat → Nat) × (Nat → Nat)) : Prop := s 8 = nI W.1 ∧ ∀ k, k < W.1 → k < 7 → w k = pk t (W.2.1 k) (W.2.2 k - W.2.1 k) ∧ B 9 k = nI (base + W.2.1 k) ∧ B 10 k = nI (base + W.2.2 k)
def sScr (s s' : Nat → Int32) (B B' : Nat → Nat → Int32) : Prop := (∀ k, k ≠ 8 → s' k = s k) ∧ ∀ k, k ≠ 9 → k ≠ 10 → B' k = B k
theorem sScr_refl {s : Nat → Int32} {B : Nat → Nat → Int32} : sScr s s B B := ⟨fun _ _ => rfl, fun _ _ _ => rfl⟩
theorem sScr_trans {s s1 s2 : Nat → Int32} {B B1 B2 : Nat → Nat → Int32} (h : sScr s s1 B B1) (h' : sScr s1 s2 B1 B2) : sScr s s2 B B2 := ⟨fun k hk => (h'.1 k hk).trans (h.1 k hk), fun k h1 h2 => (h'.2 k h1 h2).trans (h.2 k h1 h2)⟩
section SPL
variable {m N base a b : Nat} {t : Nat → Int32} {F : hE}
theorem sp65 {s : Nat → Int32} {B : Nat → Nat → Int32} {w : Nat → Int64} {d : Nat} (k31 : Option Nat → Int32 → Int32 → Int32 → hE → Option hE) (hb : base + b ≤ 2000) (ht : ∀ i, a ≤ i → i < b → B 2 (base + i) = t i) : ∀ (r j fuel : Nat), a + d + j + r = b → r < fuel → (∀ i, i < j → ¬ t (a + d + i) = 32) →
    ∃ j', j ≤ j' ∧ a + d + j' ≤ b ∧ (∀ i, i < j' → ¬ t (a + d + i) = 32) ∧ (a + d + j' = b ∨ t (a + d + j') = 32) ∧ f_M_split_b65 N k31 fuel (some m) (nI base) (nI (a + d + j)) (nI b) (nI (a + d)) (pk t (a + d) j) (eM m s B w F) = f_M_split_b126 N k31 (some m) (nI base) (nI (a + d + j')) (nI b) (nI (a + d)) (pk t (a + d) j') (eM m s B w F) := by
  intro r
  induction r with
  | zero =>
    intro j fuel hr hf hj
    obtain ⟨fuel, rfl⟩ : ∃ k, fuel = k + 1 := ⟨fuel - 1, by omega⟩
    refine ⟨j, Nat.le_refl _, by omega, hj, Or.inl (by omega), ?_⟩
    rw [f_M_split_b65, if_pos (nI_le (by omega) (by omega))]
  | succ r ih =>
    intro j fuel hr hf hj
    obtain ⟨fuel, rfl⟩ : ∃ k, fuel = k + 1 := ⟨fuel - 1, by omega⟩
    have hg : ∀ v, v = t (a + d + j) → B 2 (base + (a + d + j)) = v := fun v hv => by rw [ht _ (by omega) (by omega), hv]
    by_cases hbl : t (a + d + j) = 32
    · refine ⟨j, Nat.le_refl _, by omega, hj, Or.inr hbl, ?_⟩
      rw [f_M_split_b65, if_neg (nI_ge (by omega) (by omega)), mg_2, Option.bind_some, nI_add, ma_2 (by omega), Option.bind_some, hg _ rfl, if_pos hbl]
    · obtain ⟨j', g1, g2, g3, g4, g5⟩ := ih (j + 1) fuel (by omega) (by omega) (fun i hi => by
        by_cases hij : i = j
        · rw [hij]; exact hbl
        · exact hj i (by omega))
      refine ⟨j', by omega, g2, g3, g4, ?_⟩
      rw [f_M_split_b65, if_neg (nI_ge (by omega) (by omega)), mg_2, Option.bind_some, nI_add, ma_2 (by omega), Option.bind_some, hg _ rfl, if_neg hbl, pk_sub (by omega), show a + d + j - (a + d) = j from by omega]
      unfold f_M_split_b118
      rw [nI_1, Option.bind_some, ma_2 (by omega), Option.bind_some, hg _ rfl, ← g5, pk]
      by_cases h7 : j < 7
      · rw [if_neg (show ¬ (7 : Int32) ≤ nI j from nI_ge (b := 7) h7 (by decide)), if_pos h7]
        rfl
      · rw [if_pos (show (7 : Int32) ≤ nI j from nI_le (a := 7) (by omega) (by omega)), if_neg h7]
        rfl
theorem sp31 (hb : base + b ≤ 2000) (hN : b < N) : ∀ (r d fuel : Nat) (s : Nat → Int32) (B : Nat → Nat → Int32) (w : Nat → Int64), a + d + r = b → r < fuel → (∀ i, a ≤ i → i < b → B 2 (base + i) = t i) → (a + d = b ∨ t (a + d) = 32 ∨ d = 0 ∨ t (a + d - 1) = 32) → spl s B w t base (wst t a d) →
    ∃ (s' : Nat → Int32) (B' : Nat → Nat → Int32) (w' : Nat → Int64), f_M_split_b31 N fuel (some m) (nI base) (nI (a + d)) (nI b) (eM m s B w F) = some (eM m s' B' w' F) ∧ spl s' B' w' t base (wst t a (b - a)) ∧ sScr s s' B B' := by
  intro r
  induction r using Nat.strongRecOn with
  | ind r ih =>
    intro d fuel s B w hr hf ht hJ hs
    obtain ⟨fuel, rfl⟩ : ∃ k, fuel = k + 1 := ⟨fuel - 1, by omega⟩
    by_cases hr0 : r = 0
    · refine ⟨s, B, w, ?_, ?_, sScr_refl⟩
      · rw [f_M_split_b31, if_pos (nI_le (by omega) (by omega))]
      · rw [show b - a = d from by omega]
        exact hs
    · have hg : B 2 (base + (a + d)) = t (a + d) := ht _ (by omega) (by omega)
      rw [f_M_split_b31, if_neg (nI_ge (by omega) (by omega)), mg_2, Option.bind_some, nI_add, ma_2 (by omega), Option.bind_some, hg]
      by_cases hbl : t (a + d) = 32
      · rw [if_pos hbl, nI_1, show a + d + 1 = a + (d + 1) from rfl]
        exact ih (r - 1) (by omega) (d + 1) fuel s B w (by omega) (by omega) ht (Or.inr (Or.inr (Or.inr (by rw [show a + (d + 1) - 1 = a + d from by omega]; exact hbl)))) (by rw [wst_blank hbl]; exact hs)
      · rw [if_neg hbl]
        obtain ⟨j', g1, g2, g3, g4, g5⟩ := sp65 (m := m) (N := N) (F := F) (s := s) (B := B) (w := w) (d := d) (f_M_split_b31 N fuel) hb ht r 0 N (by omega) (by omega) (fun i hi => absurd hi (Nat.not_lt_zero i))
        rw [show f_M_split_b65 N (f_M_split_b31 N fuel) N (some m) (nI base) (nI (a + d)) (nI b) (nI (a + d)) 0 (eM m s B w F) = _ from g5]
        have hj1 : 0 < j' := by
          rcases Nat.eq_zero_or_pos j' with z | z
          · subst z
            rcases g4 with z | z
            · omega
            · exact absurd z hbl
          · exact z
        obtain ⟨j, rfl⟩ : ∃ k, j' = k + 1 := ⟨j' - 1, by omega⟩
        have hd0 : d = 0 ∨ t (a + d - 1) = 32 := by
          rcases hJ with z | z | z | z
          · omega
          · exact absurd z hbl
          · exact Or.inl z
          · exact Or.inr z
        have hw := wst_word (t := t) (a := a) (d := d) hd0 j (fun i hi => g3 i (by omega))
        obtain ⟨hs1, hs2⟩ := hs
        have hle := (wst_ok t a d).1
        unfold f_M_split_b126
        rw [mg_8, Option.bind_some, hs1]
        have fin : ∀ (s1 : Nat → Int32) (B1 : Nat → Nat → Int32) (w1 : Nat → Int64), sScr s s1 B B1 → spl s1 B1 w1 t base (wst t a (d + (j + 1))) → ∃ (s' : Nat → Int32) (B' : Nat → Nat → Int32) (w' : Nat → Int64), f_M_split_b31 N fuel (some m) (nI base) (nI (a + d + (j + 1))) (nI b) (eM m s1 B1 w1 F) = some (eM m s' B' w' F) ∧ spl s' B' w' t base (wst t a (b - a)) ∧ sScr s s' B B' := by
          intro s1 B1 w1 hsc hsp
          obtain ⟨s', B', w', e1, e2, e3⟩ := ih (b - (a + (d + (j + 1)))) (by omega) (d + (j + 1)) fuel s1 B1 w1 (by omega) (by omega) (fun i h1 h2 => by rw [hsc.2 2 (by decide) (by decide)]; exact ht i h1 h2) (by
            rcases g4 with z | z
            · exact Or.inl (by omega)
            · exact Or.inr (Or.inl (by rw [show a + (d + (j + 1)) = a + d + (j + 1) from by omega]; exact z))) hsp
          exact ⟨s', B', w', by rw [← e1, show a + d + (j + 1) = a + (d + (j + 1)) from by omega], e2, sScr_trans hsc e3⟩
        by_cases h7 : (wst t a d).1 < 7
        · rw [if_neg (show ¬ (7 : Int32) ≤ nI (wst t a d).1 from nI_ge (b := 7) h7 (by decide))]
          have e9 : va_up B 9 (upd (B 9) (wst t a d).1 (nI (base + (a + d)))) 10 = B 10 := va_up_ne _ _ (by decide)
          simp only [mg_9, mg_8, hs1, Option.bind_some, mt_w h7, mg_10, mt_9 h7, mg_11, mt_10 h7, nI_add, e9]
          unfold f_M_split_b172
          simp only [mg_8, hs1, Option.bind_some, ms_8, nI_1]
          refine fin _ _ _ ⟨fun k hk => upd_ne _ _ hk, fun k h1 h2 => by rw [va_up_ne _ _ h2, va_up_ne _ _ h1]⟩ ?_
          rw [hw]
          refine ⟨upd_self _ _ _, fun k hk h7 => ?_⟩
          simp only at hk ⊢
          rw [va_up_ne (va_up B 9 _) _ (show (9 : Nat) ≠ 10 by decide), va_up_self, va_up_self]
          by_cases hkc : k = (wst t a d).1
          · rw [hkc, va_up_self, va_up_self, upd_self, upd_self]
            refine ⟨?_, rfl, rfl⟩
            simp only [vp_updL, if_true]
            rw [show a + d + (j + 1) - (a + d) = j + 1 from by omega]
          · rw [va_up_ne _ _ hkc, va_up_ne _ _ hkc, upd_ne _ _ hkc, upd_ne _ _ hkc]
            simp only [vp_updL, if_neg hkc]
            exact hs2 k (by omega) h7
        · rw [if_pos (show (7 : Int32) ≤ nI (wst t a d).1 from nI_le (a := 7) (by omega) (by omega))]
          unfold f_M_split_b172
          simp only [mg_8, hs1, Option.bind_some, ms_8, nI_1]
          refine fin _ _ _ ⟨fun k hk => upd_ne _ _ hk, fun k h1 h2 => rfl⟩ ?_
          rw [hw]
          refine ⟨upd_self _ _ _, fun k hk h7' => ?_⟩
          simp only at hk ⊢
          rw [va_up_ne _ _ (by omega), va_up_ne _ _ (by omega)]
          exact hs2 k (by omega) h7'
theorem M_split {p k : Nat} {s : Nat → Int32} {B : Nat → Nat → Int32} {w : Nat → Int64} (hp : p ≤ 4) (hk : k < 400) (hab : a ≤ b) (hb : b ≤ 400) (hN : 400 < N) (h3 : B 3 (400 * p + k) = nI a) (h4 : B 4 (400 * p + k) = nI b) (ht : ∀ i, a ≤ i → i < b → B 2 (400 * p + i) = t i) :
    ∃ (s' : Nat → Int32) (B' : Nat → Nat → Int32) (w' : Nat → Int64), f_M_split N m (nI p) (nI k) (eM m s B w F) = some (eM m s' B' w' F) ∧ spl s' B' w' t (400 * p) (wst t a (b - a)) ∧ sScr s s' B B' := by
  unfold f_M_split
  simp only [ms_8, Option.bind_some, mg_3, mg_4, show (400 : Int32) = nI 400 from rfl, pk_mul, nI_add, ma_3 (show 400 * p + k < 2000 by omega), ma_4 (show 400 * p + k < 2000 by omega), h3, h4]
  obtain ⟨s', B', w', e1, e2, e3⟩ := sp31 (m := m) (N := N) (base := 400 * p) (a := a) (b := b) (t := t) (F := F) (by omega) (by omega) (b - a) 0 N (upd s 8 0) B w (by omega) (by omega) ht (Or.inr (Or.inr (Or.inl rfl))) ⟨upd_self _ _ _, fun k hk => absurd hk (Nat.not_lt_zero k)⟩
  exact ⟨s', B', w', e1, e2, sScr_trans ⟨fun k hk => upd_ne _ _ hk, fun _ _ _ => rfl⟩ e3⟩
end SPL
