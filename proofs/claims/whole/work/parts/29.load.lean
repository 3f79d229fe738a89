/-! ===== keep, load: the reference ===== -/
def regQ (B B' : Nat → Nat → Int32) (p : Nat) : Prop := (∀ i, i < 400 → B' 2 (400 * p + i) = B 2 (400 * p + i) ∧ B' 3 (400 * p + i) = B 3 (400 * p + i) ∧ B' 4 (400 * p + i) = B 4 (400 * p + i)) ∧ B' 5 p = B 5 p ∧ B' 6 p = B 6 p ∧ ∀ c, c < 26 → B' 7 (26 * p + c) = B 7 (26 * p + c)
theorem regQ_refl {B : Nat → Nat → Int32} {p : Nat} : regQ B B p := ⟨fun _ _ => ⟨rfl, rfl, rfl⟩, rfl, rfl, fun _ _ => rfl⟩
theorem regQ_trans {B B1 B2 : Nat → Nat → Int32} {p : Nat} (h : regQ B B1 p) (h' : regQ B1 B2 p) : regQ B B2 p := ⟨fun i hi => ⟨(h'.1 i hi).1.trans (h.1 i hi).1, (h'.1 i hi).2.1.trans (h.1 i hi).2.1, (h'.1 i hi).2.2.trans (h.1 i hi).2.2⟩, h'.2.1.trans h.2.1, h'.2.2.1.trans h.2.2.1, fun c hc => (h'.2.2.2 c hc).trans (h.2.2.2 c hc)⟩
theorem regQ_of {B B' : Nat → Nat → Int32} {p : Nat} (h : ∀ k, 2 ≤ k → k ≤ 7 → B' k = B k) : regQ B B' p := by
  refine ⟨fun i hi => ⟨?_, ?_, ?_⟩, ?_, ?_, fun c hc => ?_⟩
  all_goals rw [h _ (by decide) (by decide)]
/-- program p of the reference is the text t of n characters, whose labels are la -/
def progM (B : Nat → Nat → Int32) (p : Nat) (t : Nat → Int32) (n : Nat) (la : Nat → Int32) : Prop := n ≤ 400 ∧ (∀ i, i < n → isCh (t i)) ∧ linV B p (lns t n) ∧ (∀ i, i < n → B 2 (400 * p + i) = t i) ∧ (∀ c, c < 26 → B 7 (26 * p + c) = la c) ∧ sc1 t (lns t n) (lns t n).1 0 (fun _ => -1) = .inr la ∧ sc2 t (lns t n) la (lns t n).1 0 = none
theorem progM_reg {B B' : Nat → Nat → Int32} {p : Nat} {t : Nat → Int32} {n : Nat} {la : Nat → Int32} (h : progM B p t n la) (hq : regQ B B' p) : progM B' p t n la := by
  obtain ⟨h1, h2, h3, h4, h5, h6⟩ := h
  have hL := (lns_ok t n).1
  exact ⟨h1, h2, ⟨by rw [hq.2.1]; exact h3.1, fun k hk => by rw [(hq.1 k (by omega)).2.1, (hq.1 k (by omega)).2.2]; exact h3.2 k hk⟩, fun i hi => by rw [(hq.1 i (by omega)).1]; exact h4 i hi, fun c hc => by rw [hq.2.2.2 c hc]; exact h5 c hc, h6⟩
section KEEP
variable {m N n : Nat} {t : Nat → Int32} {G : hE} {s : Nat → Int32} {w : Nat → Int64}
def kp (f f' : Nat → Int32) (p c lim base : Nat) : Prop := (∀ k, k < c → f' (lim * p + k) = f (base + k)) ∧ ∀ j, (j < lim * p ∨ lim * p + c ≤ j) → f' j = f j
theorem M_keep2 {p : Nat} (hp : p < 4) {B0 : Nat → Nat → Int32} : ∀ (r c fuel : Nat) (B : Nat → Nat → Int32), c + r = 400 → r < fuel → kp (B0 2) (B 2) p c 400 1600 → kp (B0 3) (B 3) p c 400 1600 → kp (B0 4) (B 4) p c 400 1600 → (∀ k, k ≠ 2 → k ≠ 3 → k ≠ 4 → B k = B0 k) →
    ∃ B' : Nat → Nat → Int32, f_M_keep_b2 N fuel (some m) (nI p) (nI c) (eM m s B w G) = f_M_keep_b83 N N (some m) (nI p) 0 (eM m s B' w G) ∧ kp (B0 2) (B' 2) p 400 400 1600 ∧ kp (B0 3) (B' 3) p 400 400 1600 ∧ kp (B0 4) (B' 4) p 400 400 1600 ∧ (∀ k, k ≠ 2 → k ≠ 3 → k ≠ 4 → B' k = B0 k) := by
  have stp : ∀ (f0 f : Nat → Int32) (c : Nat), c < 400 → kp f0 f p c 400 1600 → kp f0 (upd f (400 * p + c) (f (1600 + c))) p (c + 1) 400 1600 := by
    intro f0 f c hc h
    have e : f (1600 + c) = f0 (1600 + c) := h.2 _ (Or.inr (by omega))
    refine ⟨fun k hk => ?_, fun j hj => ?_⟩
    · by_cases hkc : k = c
      · rw [hkc, upd_self, e]
      · rw [upd_ne _ _ (by omega)]
        exact h.1 k (by omega)
    · rw [upd_ne _ _ (by omega)]
      exact h.2 j (by omega)
  intro r
  induction r with
  | zero =>
    intro c fuel B hc hf h2 h3 h4 ho
    obtain ⟨fuel, rfl⟩ : ∃ j, fuel = j + 1 := ⟨fuel - 1, by omega⟩
    have : c = 400 := by omega
    subst this
    refine ⟨B, ?_, h2, h3, h4, ho⟩
    rw [f_M_keep_b2, if_pos (show (400 : Int32) ≤ nI 400 from nI_le (a := 400) (by omega) (by omega))]
  | succ r ih =>
    intro c fuel B hc hf h2 h3 h4 ho
    obtain ⟨fuel, rfl⟩ : ∃ j, fuel = j + 1 := ⟨fuel - 1, by omega⟩
    have e1 : va_up B 2 (upd (B 2) (400 * p + c) (B 2 (1600 + c))) 3 = B 3 := va_up_ne _ _ (by decide)
    have e2 : va_up (va_up B 2 (upd (B 2) (400 * p + c) (B 2 (1600 + c)))) 3 (upd (B 3) (400 * p + c) (B 3 (1600 + c))) 4 = B 4 := by rw [va_up_ne _ _ (by decide), va_up_ne _ _ (by decide)]
    obtain ⟨B', g1, g2, g3, g4, g5⟩ := ih (c + 1) fuel (va_up (va_up (va_up B 2 (upd (B 2) (400 * p + c) (B 2 (1600 + c)))) 3 (upd (B 3) (400 * p + c) (B 3 (1600 + c)))) 4 (upd (B 4) (400 * p + c) (B 4 (1600 + c)))) (by omega) (by omega) (by rw [va_up_ne _ _ (by decide), va_up_ne _ _ (by decide), va_up_self]; exact stp _ _ c (by omega) h2) (by rw [va_up_ne _ _ (by decide), va_up_self]; exact stp _ _ c (by omega) h3) (by rw [va_up_self]; exact stp _ _ c (by omega) h4) (fun k a b d => by rw [va_up_ne _ _ d, va_up_ne _ _ b, va_up_ne _ _ a]; exact ho k a b d)
    refine ⟨B', ?_, g2, g3, g4, g5⟩
    rw [f_M_keep_b2, if_neg (show ¬ (400 : Int32) ≤ nI c from nI_ge (b := 400) (by omega) (by decide))]
    simp only [mg_2, mg_3, mg_4, Option.bind_some, show (1600 : Int32) = nI 1600 from rfl, show (400 : Int32) = nI 400 from rfl, pk_mul, nI_add, ma_2 (show 1600 + c < 2000 by omega), mt_2 (show 400 * p + c < 2000 by omega), ma_3 (show 1600 + c < 2000 by omega), mt_3 (show 400 * p + c < 2000 by omega), ma_4 (show 1600 + c < 2000 by omega), mt_4 (show 400 * p + c < 2000 by omega), e1, e2, nI_1]
    exact g1
theorem M_keep83 {p : Nat} (hp : p < 4) {B0 : Nat → Nat → Int32} : ∀ (r c fuel : Nat) (B : Nat → Nat → Int32), c + r = 26 → r < fuel → kp (B0 7) (B 7) p c 26 104 → (∀ k, k ≠ 7 → B k = B0 k) →
    ∃ B' : Nat → Nat → Int32, f_M_keep_b83 N fuel (some m) (nI p) (nI c) (eM m s B w G) = some (eM m s B' w G) ∧ kp (B0 7) (B' 7) p 26 26 104 ∧ B' 5 = upd (B0 5) p (B0 5 4) ∧ B' 6 = upd (B0 6) p 1 ∧ (∀ k, k ≠ 5 → k ≠ 6 → k ≠ 7 → B' k = B0 k) := by
  intro r
  induction r with
  | zero =>
    intro c fuel B hc hf h7 ho
    obtain ⟨fuel, rfl⟩ : ∃ j, fuel = j + 1 := ⟨fuel - 1, by omega⟩
    have : c = 26 := by omega
    subst this
    refine ⟨va_up (va_up B 5 (upd (B 5) p (B 5 4))) 6 (upd (B 6) p 1), ?_, by rw [va_up_ne _ _ (by decide), va_up_ne _ _ (by decide)]; exact h7, by rw [va_up_ne _ _ (by decide), va_up_self, ho 5 (by decide)], by rw [va_up_self, ho 6 (by decide)], fun k a b d => by rw [va_up_ne _ _ b, va_up_ne _ _ a]; exact ho k d⟩
    have e1 : va_up B 5 (upd (B 5) p (B 5 4)) 6 = B 6 := va_up_ne _ _ (by decide)
    rw [f_M_keep_b83, if_pos (show (26 : Int32) ≤ nI 26 from nI_le (a := 26) (by omega) (by omega))]
    simp only [mg_5, mg_6, Option.bind_some, show (4 : Int32) = nI 4 from rfl, ma_5 (show 4 < 5 by decide), mt_5 (show p < 5 by omega), mz_6 (show p < 5 by omega) (Or.inr rfl), e1]
  | succ r ih =>
    intro c fuel B hc hf h7 ho
    obtain ⟨fuel, rfl⟩ : ∃ j, fuel = j + 1 := ⟨fuel - 1, by omega⟩
    have e : B 7 (104 + c) = B0 7 (104 + c) := h7.2 _ (Or.inr (by omega))
    obtain ⟨B', g1, g2⟩ := ih (c + 1) fuel (va_up B 7 (upd (B 7) (26 * p + c) (B 7 (104 + c)))) (by omega) (by omega) (by
      rw [va_up_self]
      refine ⟨fun k hk => ?_, fun j hj => ?_⟩
      · by_cases hkc : k = c
        · rw [hkc, upd_self, e]
        · rw [upd_ne _ _ (by omega)]
          exact h7.1 k (by omega)
      · rw [upd_ne _ _ (by omega)]
        exact h7.2 j (by omega)) (fun k hk => by rw [va_up_ne _ _ hk]; exact ho k hk)
    refine ⟨B', ?_, g2⟩
    rw [f_M_keep_b83, if_neg (show ¬ (26 : Int32) ≤ nI c from nI_ge (b := 26) (by omega) (by decide))]
    simp only [mg_7, Option.bind_some, show (104 : Int32) = nI 104 from rfl, show (26 : Int32) = nI 26 from rfl, pk_mul, nI_add, ma_7 (show 104 + c < 130 by omega), mt_7 (show 26 * p + c < 130 by omega), nI_1]
    exact g1
theorem M_keep {p : Nat} (hp : p < 4) (hN : 400 < N) (B : Nat → Nat → Int32) : ∃ B' : Nat → Nat → Int32, f_M_keep N m (nI p) (eM m s B w G) = some (eM m s B' w G) ∧ kp (B 2) (B' 2) p 400 400 1600 ∧ kp (B 3) (B' 3) p 400 400 1600 ∧ kp (B 4) (B' 4) p 400 400 1600 ∧ kp (B 7) (B' 7) p 26 26 104 ∧ B' 5 = upd (B 5) p (B 5 4) ∧ B' 6 = upd (B 6) p 1 ∧ ∀ k, (k < 2 ∨ 7 < k) → B' k = B k := by
  have z : ∀ (f : Nat → Int32) (lim base : Nat), kp f f p 0 lim base := fun f lim base => ⟨fun k hk => absurd hk (Nat.not_lt_zero k), fun _ _ => rfl⟩
  obtain ⟨B1, a1, a2, a3, a4, a5⟩ := M_keep2 (m := m) (N := N) (G := G) (s := s) (w := w) hp (B0 := B) 400 0 N B (by omega) (by omega) (z _ _ _) (z _ _ _) (z _ _ _) (fun _ _ _ _ => rfl)
  obtain ⟨B2, b1, b2, b3, b4, b5⟩ := M_keep83 (m := m) (N := N) (G := G) (s := s) (w := w) hp (B0 := B1) 26 0 N B1 (by omega) (by omega) (z _ _ _) (fun _ _ => rfl)
  refine ⟨B2, ?_, by rw [b5 2 (by decide) (by decide) (by decide)]; exact a2, by rw [b5 3 (by decide) (by decide) (by decide)]; exact a3, by rw [b5 4 (by decide) (by decide) (by decide)]; exact a4, by rw [← a5 7 (by decide) (by decide) (by decide)]; exact b2, by rw [b3, a5 5 (by decide) (by decide) (by decide)], by rw [b4, a5 6 (by decide) (by decide) (by decide)], fun k hk => by rw [b5 k (by omega) (by omega) (by omega), a5 k (by omega) (by omega) (by omega)]⟩
  unfold f_M_keep
  rw [show (0 : Int32) = nI 0 from rfl, a1]
  exact b1
theorem M_load24 (hn : n ≤ 400) {B0 : Nat → Nat → Int32} {p : Nat} : ∀ (r c fuel : Nat) (B : Nat → Nat → Int32), c + r = n → r < fuel → (∀ k, k < c → B 2 (1600 + k) = B0 1 k) → (∀ j, j < 1600 → B 2 j = B0 2 j) → (∀ k, k ≠ 2 → B k = B0 k) →
    ∃ B' : Nat → Nat → Int32, f_M_load_b24 N fuel (some m) (nI p) (nI n) (nI c) (eM m s B w G) = f_M_load_b24 N 1 (some m) (nI p) (nI n) (nI n) (eM m s B' w G) ∧ (∀ k, k < n → B' 2 (1600 + k) = B0 1 k) ∧ (∀ j, j < 1600 → B' 2 j = B0 2 j) ∧ (∀ k, k ≠ 2 → B' k = B0 k) := by
  intro r
  induction r with
  | zero =>
    intro c fuel B hc hf h1 h2 h3
    obtain ⟨fuel, rfl⟩ : ∃ j, fuel = j + 1 := ⟨fuel - 1, by omega⟩
    have : c = n := by omega
    subst this
    refine ⟨B, ?_, h1, h2, h3⟩
    rw [f_M_load_b24, f_M_load_b24, if_pos (nI_le (Nat.le_refl _) (by omega)), if_pos (nI_le (Nat.le_refl _) (by omega))]
  | succ r ih =>
    intro c fuel B hc hf h1 h2 h3
    obtain ⟨fuel, rfl⟩ : ∃ j, fuel = j + 1 := ⟨fuel - 1, by omega⟩
    obtain ⟨B', g1, g2⟩ := ih (c + 1) fuel (va_up B 2 (upd (B 2) (1600 + c) (B0 1 c))) (by omega) (by omega) (fun k hk => by
      rw [va_up_self]
      by_cases hkc : k = c
      · rw [hkc, upd_self]
      · rw [upd_ne _ _ (by omega)]
        exact h1 k (by omega)) (fun j hj => by rw [va_up_self, upd_ne _ _ (by omega)]; exact h2 j hj) (fun k hk => by rw [va_up_ne _ _ hk]; exact h3 k hk)
    refine ⟨B', ?_, g2⟩
    rw [f_M_load_b24, if_neg (nI_ge (by omega) (by omega))]
    simp only [mg_1, mg_2, Option.bind_some, show (1600 : Int32) = nI 1600 from rfl, nI_add, ma_1 (show c < 400 by omega), mt_2 (show 1600 + c < 2000 by omega), nI_1, h3 1 (by decide)]
    exact g1
/-- load at a good number -/
theorem M_load (hN : 400 < N) (hn : n ≤ 400) {p : Nat} (hp : p < 4) {B : Nat → Nat → Int32} (h0 : s 0 = nI n) (hc : ∀ i, i < n → isCh (B 1 i)) :
    ∃ (s' : Nat → Int32) (B' : Nat → Nat → Int32) (w' : Nat → Int64), f_M_load N m (nI p) (eM m s B w G) = some (illV (B 1) (lns (B 1) n) (sc1 (B 1) (lns (B 1) n) (lns (B 1) n).1 0 (fun _ => -1)), eM m s' B' w' G) ∧ s' 0 = 0 ∧ (∀ k, k ≠ 0 → k ≠ 8 → s' k = s k) ∧ (∀ k, k = 1 ∨ 10 < k → B' k = B k) ∧ (∀ p', p' < 4 → p' ≠ p → regQ B B' p') ∧ ((∃ la, illV (B 1) (lns (B 1) n) (sc1 (B 1) (lns (B 1) n) (lns (B 1) n).1 0 (fun _ => -1)) = -1 ∧ progM B' p (B 1) n la ∧ B' 6 p = 1) ∨ (¬ illV (B 1) (lns (B 1) n) (sc1 (B 1) (lns (B 1) n) (lns (B 1) n).1 0 (fun _ => -1)) = -1 ∧ regQ B B' p)) := by
  have hLn := (lns_ok (B 1) n).1
  obtain ⟨B1, a1, a2, a3, a4⟩ := M_load24 (m := m) (N := N) (G := G) (s := upd s 0 0) (w := w) hn (B0 := B) (p := p) n 0 N B (by omega) (by omega) (fun k hk => absurd hk (Nat.not_lt_zero k)) (fun _ _ => rfl) (fun _ _ => rfl)
  obtain ⟨B2, b1, b2, b3, b4, b5, b6⟩ := M_lay (m := m) (N := N) (G := G) (s := upd s 0 0) (w := w) (t := B 1) hn hN (B := B1) a2
  obtain ⟨s3, B3, w3, c1, c2, c3⟩ := M_ill (m := m) (N := N) (G := G) (s := upd s 0 0) (w := w) (t := B 1) hn hN hc b2 (fun i hi => by rw [b3 2 (by decide) (by decide) (by decide)]; exact a2 i hi)
  have hr : ∀ p', p' < 4 → regQ B B3 p' := fun p' hp' => by
    refine ⟨fun i hi => ⟨?_, ?_, ?_⟩, ?_, ?_, fun c hc => ?_⟩
    · rw [c1.2.1 2 (by decide) (by decide) (by decide), b3 2 (by decide) (by decide) (by decide)]
      exact a3 _ (by omega)
    · rw [c1.2.1 3 (by decide) (by decide) (by decide), b4 _ (by omega), a4 3 (by decide)]
    · rw [c1.2.1 4 (by decide) (by decide) (by decide), b5 _ (by omega), a4 4 (by decide)]
    · rw [c1.2.1 5 (by decide) (by decide) (by decide), b6 _ hp', a4 5 (by decide)]
    · rw [c1.2.1 6 (by decide) (by decide) (by decide), b3 6 (by decide) (by decide) (by decide), a4 6 (by decide)]
    · rw [c1.2.2 _ (by omega), b3 7 (by decide) (by decide) (by decide), a4 7 (by decide)]
  have hs : ∀ k, k ≠ 0 → k ≠ 8 → s3 k = s k := fun k h1 h2 => by rw [c1.1 k h2, upd_ne _ _ h1]
  have hs0 : s3 0 = 0 := by rw [c1.1 0 (by decide), upd_self]
  have hB3 : ∀ k, k = 1 ∨ 10 < k → B3 k = B k := fun k hk => by
    rw [c1.2.1 k (by omega) (by omega) (by omega), b3 k (by omega) (by omega) (by omega), a4 k (by omega)]
  have e0 : f_M_load N m (nI p) (eM m s B w G) = (f_M_ill N m (eM m (upd s 0 0) B2 w G)).bind (fun v57 => if v57.1 = (-1) then (gO v57.2 (some m) 7).bind fun o70 => (f_M_keep N o70.1 (nI p) v57.2).bind fun v70 => some ((-1), v70) else some (v57.1, v57.2)) := by
    unfold f_M_load
    rw [mg_0, Option.bind_some, ms_0, Option.bind_some, show f_M_in (eM m (upd s 0 0) B w G) (nI p) 0 3 = some 1 from M_ix1 (n := 3) (by omega) (by decide), Option.bind_some, if_neg (by decide), h0, show (0 : Int32) = nI 0 from rfl]
    have a1' : f_M_load_b24 N N (some m) (nI p) (nI n) (nI 0) (eM m (upd s 0 0) B w G) = _ := a1
    rw [show upd s 0 (nI 0) = upd s 0 0 from rfl, a1', f_M_load_b24, if_pos (nI_le (Nat.le_refl _) (by omega)), mgO, Option.bind_some, b1, Option.bind_some, mgO, Option.bind_some]
  rw [e0, c2, Option.bind_some]
  by_cases hv : illV (B 1) (lns (B 1) n) (sc1 (B 1) (lns (B 1) n) (lns (B 1) n).1 0 (fun _ => -1)) = -1
  · simp only [hv, if_true, mgO, Option.bind_some]
    obtain ⟨B4, d1, d2, d3, d4, d5, d6, d7, d8⟩ := M_keep (m := m) (N := N) (G := G) (s := s3) (w := w3) hp hN B3
    rw [d1, Option.bind_some]
    refine ⟨s3, B4, w3, rfl, hs0, hs, fun k hk => by rw [d8 k (by omega)]; exact hB3 k hk, fun p' h1 h2 => regQ_trans (hr p' h1) ⟨fun i hi => ⟨d2.2 _ (by omega), d3.2 _ (by omega), d4.2 _ (by omega)⟩, by rw [d6, upd_ne _ _ h2], by rw [d7, upd_ne _ _ h2], fun c hc => d5.2 _ (by omega)⟩, Or.inl ?_⟩
    cases hsc : sc1 (B 1) (lns (B 1) n) (lns (B 1) n).1 0 (fun _ => -1) with
    | inl j =>
      rw [hsc] at hv
      have hj : ∀ (r k : Nat) (la : Nat → Int32), k + r ≤ n → sc1 (B 1) (lns (B 1) n) r k la = .inl j → j < 2 ^ 31 := by
        intro r
        induction r with
        | zero => intro k la _ h; cases h
        | succ r ih =>
          intro k la hk h
          rw [sc1] at h
          split at h
          · have : k = j := Sum.inl.inj h
            omega
          · exact ih (k + 1) _ (by omega) h
      have hj' := hj _ _ _ (by omega) hsc
      have := congrArg Int32.toInt hv
      rw [illV, nI_toInt hj', show (-1 : Int32).toInt = -1 from by decide] at this
      omega
    | inr la =>
      have h2 : sc2 (B 1) (lns (B 1) n) la (lns (B 1) n).1 0 = none := by
        rw [hsc, illV] at hv
        cases h2 : sc2 (B 1) (lns (B 1) n) la (lns (B 1) n).1 0 with
        | none => rfl
        | some j =>
          rw [h2] at hv
          have hj : ∀ (r k : Nat), k + r ≤ n → sc2 (B 1) (lns (B 1) n) la r k = some j → j < 2 ^ 31 := by
            intro r
            induction r with
            | zero => intro k _ h; cases h
            | succ r ih =>
              intro k hk h
              rw [sc2] at h
              split at h
              · have : k = j := Option.some.inj h
                omega
              · exact ih (k + 1) (by omega) h
          have hj' := hj _ _ (by omega) h2
          have := congrArg Int32.toInt hv
          rw [nI_toInt hj', show (-1 : Int32).toInt = -1 from by decide] at this
          omega
      have c2' : B3 2 = B2 2 := c1.2.1 2 (by decide) (by decide) (by decide)
      refine ⟨la, trivial, ⟨hn, hc, ⟨?_, fun k hk => ⟨?_, ?_⟩⟩, fun i hi => ?_, fun c hc => ?_, hsc, h2⟩, by rw [d7, upd_self]⟩
      · rw [d6, upd_self, c1.2.1 5 (by decide) (by decide) (by decide)]
        exact b2.1
      · rw [d3.1 k (by omega), c1.2.1 3 (by decide) (by decide) (by decide)]
        exact (b2.2 k hk).1
      · rw [d4.1 k (by omega), c1.2.1 4 (by decide) (by decide) (by decide)]
        exact (b2.2 k hk).2
      · rw [d2.1 i (by omega), c2', b3 2 (by decide) (by decide) (by decide)]
        exact a2 i hi
      · rw [d5.1 c hc]
        exact c3 la hsc c hc
  · rw [if_neg hv]
    exact ⟨s3, B3, w3, rfl, hs0, hs, hB3, fun p' h1 _ => hr p' h1, Or.inr ⟨hv, hr p hp⟩⟩
theorem M_load_bad {p : Int32} (h : p < 0 ∨ nI 4 ≤ p) {B : Nat → Nat → Int32} : f_M_load N m p (eM m s B w G) = some (-2, eM m (upd s 0 0) B w G) := by
  unfold f_M_load
  rw [mg_0, Option.bind_some, ms_0, Option.bind_some, show f_M_in (eM m (upd s 0 0) B w G) p 0 3 = some 0 from M_ix0 (n := 3) h (by decide), Option.bind_some, if_pos rfl]
end KEEP
