/-! ===== ill: what is asked of a text, line by line ===== -/
def Wl (t : Nat → Int32) (l : Nat × (Nat → Nat) × (Nat → Nat)) (k : Nat) : Nat × (Nat → Nat) × (Nat → Nat) := wst t (l.2.1 k) (l.2.2 k - l.2.1 k)
def labL (t : Nat → Int32) (W : Nat × (Nat → Nat) × (Nat → Nat)) : Bool := decide (W.1 = 1) && isLb t (W.2.1 0) (W.2.2 0)
def stm (t : Nat → Int32) (W : Nat × (Nat → Nat) × (Nat → Nat)) : Option (Nat × vSt) := (List.range 18).findSome? (fun i => (fit t W i).map (fun st => (i, st)))
def lstep (t : Nat → Int32) (W : Nat × (Nat → Nat) × (Nat → Nat)) (k : Nat) (la : Nat → Int32) : Option (Nat → Int32) := if W.1 = 0 then some la else if labL t W = true then (if la (cN (t (W.2.1 0)) - 65) = -1 then some (upd la (cN (t (W.2.1 0)) - 65) (nI k)) else none) else if anyFit t W = true then some la else none
def sc1 (t : Nat → Int32) (l : Nat × (Nat → Nat) × (Nat → Nat)) : Nat → Nat → (Nat → Int32) → Nat ⊕ (Nat → Int32)
  | 0, _, la => .inr la
  | r + 1, k, la => match lstep t (Wl t l k) k la with
    | none => .inl k
    | some la' => sc1 t l r (k + 1) la'
def lbm (la : Nat → Int32) (v : Int32) : Bool := !decide (v = -1) && decide (la (cN v) = -1)
def miss (t : Nat → Int32) (W : Nat × (Nat → Nat) × (Nat → Nat)) (la : Nat → Int32) : Bool := !decide (W.1 = 0) && !labL t W && (match stm t W with
  | some q => lbm la q.2.2.2.2.2
  | none => false)
def sc2 (t : Nat → Int32) (l : Nat × (Nat → Nat) × (Nat → Nat)) (la : Nat → Int32) : Nat → Nat → Option Nat
  | 0, _ => none
  | r + 1, k => if miss t (Wl t l k) la = true then some k else sc2 t l la r (k + 1)
def illV (t : Nat → Int32) (l : Nat × (Nat → Nat) × (Nat → Nat)) : Nat ⊕ (Nat → Int32) → Int32
  | .inl k => nI k
  | .inr la => match sc2 t l la l.1 0 with
    | some k => nI k
    | none => -1
theorem stm_some {t : Nat → Int32} {W : Nat × (Nat → Nat) × (Nat → Nat)} {q : Nat × vSt} (h : stm t W = some q) : q.1 < 18 ∧ fit t W q.1 = some q.2 ∧ ∀ j, j < q.1 → fit t W j = none := by
  have key : ∀ (n a : Nat), (∀ j, j < a → fit t W j = none) → ((List.range' a n).findSome? (fun i => (fit t W i).map (fun st => (i, st)))) = some q → q.1 < a + n ∧ fit t W q.1 = some q.2 ∧ ∀ j, j < q.1 → fit t W j = none := by
    intro n
    induction n with
    | zero => intro a _ h; simp at h
    | succ n ih =>
      intro a ha h
      rw [List.range'_succ, List.findSome?_cons] at h
      cases hf : fit t W a with
      | none =>
        rw [hf] at h
        have := ih (a + 1) (fun j hj => by
          by_cases hja : j = a
          · rw [hja]; exact hf
          · exact ha j (by omega)) h
        exact ⟨by omega, this.2⟩
      | some st =>
        rw [hf] at h
        have e := Option.some.inj h
        rw [← e]
        exact ⟨by simp only; omega, hf, ha⟩
  rw [stm, List.range_eq_range'] at h
  have := key 18 0 (fun j hj => absurd hj (Nat.not_lt_zero j)) h
  exact ⟨by omega, this.2⟩
theorem stm_any {t : Nat → Int32} {W : Nat × (Nat → Nat) × (Nat → Nat)} : anyFit t W = (stm t W).isSome := by
  unfold anyFit stm
  induction List.range 18 with
  | nil => rfl
  | cons a as ih =>
    rw [List.any_cons, List.findSome?_cons, ih]
    cases fit t W a <;> simp
theorem fit_lab {t : Nat → Int32} {W : Nat × (Nat → Nat) × (Nat → Nat)} {i : Nat} {st : vSt} (hi : i < 18) (h : fit t W i = some st) : st.2.2.2.2 = -1 ∨ ∃ r, r < 26 ∧ st.2.2.2.2 = nI r := by
  have key : ∀ v : Int32, isLt v = true → ∃ r, r < 26 ∧ v - 65 = nI r := fun v hv => by
    obtain ⟨r, hr, rfl⟩ := isLt_i.mp hv
    refine ⟨r, hr, ?_⟩
    rw [show (65 : Int32) = nI 65 from rfl, pk_sub (by omega)]
    congr 1
    omega
  match i, hi, h with
  | 0, _, h => obtain ⟨-, -, -, -, rfl⟩ := fi_0 h; exact Or.inl rfl
  | 1, _, h => obtain ⟨-, -, -, -, -, -, rfl⟩ := fi_1 h; exact Or.inl rfl
  | 2, _, h => obtain ⟨-, -, -, -, rfl⟩ := fi_2 h; exact Or.inl rfl
  | 3, _, h => obtain ⟨-, -, -, -, rfl⟩ := fi_3 h; exact Or.inl rfl
  | 4, _, h => obtain ⟨-, -, -, -, rfl⟩ := fi_4 h; exact Or.inl rfl
  | 5, _, h => obtain ⟨-, -, -, -, -, rfl⟩ := fi_5 h; exact Or.inl rfl
  | 6, _, h => obtain ⟨-, -, -, -, rfl⟩ := fi_6 h; exact Or.inl rfl
  | 7, _, h => obtain ⟨-, -, -, rfl⟩ := fi_7 h; exact Or.inl rfl
  | 8, _, h => obtain ⟨-, -, -, -, rfl⟩ := fi_8 h; exact Or.inl rfl
  | 9, _, h => obtain ⟨-, -, -, rfl⟩ := fi_9 h; exact Or.inl rfl
  | 10, _, h => obtain ⟨-, -, -, rfl⟩ := fi_10 h; exact Or.inl rfl
  | 11, _, h => obtain ⟨-, -, b, rfl⟩ := fi_11 h; exact Or.inr (key _ b)
  | 12, _, h => obtain ⟨-, -, -, -, -, -, b, rfl⟩ := fi_12 h; exact Or.inr (key _ b)
  | 13, _, h => obtain ⟨-, -, b, rfl⟩ := fi_13 h; exact Or.inr (key _ b)
  | 14, _, h => obtain ⟨-, -, rfl⟩ := fi_14 h; exact Or.inl rfl
  | 15, _, h => obtain ⟨-, -, -, -, -, rfl⟩ := fi_15 h; exact Or.inl rfl
  | 16, _, h => obtain ⟨-, -, -, -, rfl⟩ := fi_16 h; exact Or.inl rfl
  | 17, _, h => obtain ⟨-, -, -, rfl⟩ := fi_17 h; exact Or.inl rfl
  | n + 18, hi, _ => exact absurd hi (by omega)
theorem ch_w {v : Int32} (h : isCh v) (h1 : ¬ v = 32) (h2 : ¬ v = 10) : wch v := by
  obtain ⟨k, rfl, h3⟩ := h
  refine ⟨k, rfl, ?_⟩
  rcases h3 with rfl | ⟨a, b⟩
  · exact absurd rfl h2
  · have : k ≠ 32 := fun z => h1 (by rw [z]; rfl)
    omega
theorem Wl_ok {t : Nat → Int32} {n : Nat} (hc : ∀ i, i < n → isCh (t i)) {k : Nat} (hk : k < (lns t n).1) : (Wl t (lns t n) k).1 ≤ n ∧ ∀ j, j < (Wl t (lns t n) k).1 → wok t ((Wl t (lns t n) k).2.1 j) ((Wl t (lns t n) k).2.2 j) ∧ (lns t n).2.1 k ≤ (Wl t (lns t n) k).2.1 j ∧ (Wl t (lns t n) k).2.2 j ≤ (lns t n).2.2 k ∧ (Wl t (lns t n) k).2.2 j ≤ n := by
  obtain ⟨-, h⟩ := lns_ok t n
  obtain ⟨h1, h2, h3⟩ := h k hk
  obtain ⟨w1, w2, -⟩ := wst_ok t ((lns t n).2.1 k) ((lns t n).2.2 k - (lns t n).2.1 k)
  unfold Wl
  refine ⟨by omega, fun j hj => ?_⟩
  obtain ⟨a, b, c, d⟩ := w2 j hj
  exact ⟨⟨b, fun i i1 i2 => ch_w (hc i (by omega)) (d i i1 i2) (h3 i (by omega) (by omega))⟩, a, by omega, by omega⟩
/-- what a call of ill leaves alone -/
def illF (s s' : Nat → Int32) (B B' : Nat → Nat → Int32) : Prop := (∀ k, k ≠ 8 → s' k = s k) ∧ (∀ k, k ≠ 7 → k ≠ 9 → k ≠ 10 → B' k = B k) ∧ ∀ j, j < 104 → B' 7 j = B 7 j
theorem illF_refl {s : Nat → Int32} {B : Nat → Nat → Int32} : illF s s B B := ⟨fun _ _ => rfl, fun _ _ _ _ => rfl, fun _ _ => rfl⟩
theorem illF_trans {s s1 s2 : Nat → Int32} {B B1 B2 : Nat → Nat → Int32} (h : illF s s1 B B1) (h' : illF s1 s2 B1 B2) : illF s s2 B B2 := ⟨fun k hk => (h'.1 k hk).trans (h.1 k hk), fun k a b c => (h'.2.1 k a b c).trans (h.2.1 k a b c), fun j hj => (h'.2.2 j hj).trans (h.2.2 j hj)⟩
theorem illF_scr {s s1 : Nat → Int32} {B B1 : Nat → Nat → Int32} (h : sScr s s1 B B1) : illF s s1 B B1 := ⟨h.1, fun k _ a b => h.2 k a b, fun j _ => by rw [h.2 7 (by decide) (by decide)]⟩
section ILL
variable {m N n : Nat} {t : Nat → Int32} {G : hE}
/-- a line split: the words as they are -/
theorem M_line {p k : Nat} (hn : n ≤ 400) (hN : 400 < N) (hp : p ≤ 4) (hc : ∀ i, i < n → isCh (t i)) (hk : k < (lns t n).1) {s : Nat → Int32} {B : Nat → Nat → Int32} {w : Nat → Int64} (hl : linV B p (lns t n)) (ht : ∀ i, i < n → B 2 (400 * p + i) = t i) :
    ∃ (s' : Nat → Int32) (B' : Nat → Nat → Int32) (w' : Nat → Int64), f_M_split N m (nI p) (nI k) (eM m s B w G) = some (eM m s' B' w' G) ∧ lSt s' B' w' t (400 * p) (Wl t (lns t n) k) ∧ sScr s s' B B' := by
  obtain ⟨h0, h⟩ := lns_ok t n
  obtain ⟨h1, h2, h3⟩ := h k hk
  obtain ⟨l1, l2⟩ := hl.2 k hk
  obtain ⟨s', B', w', e1, e2, e3⟩ := M_split (m := m) (N := N) (F := G) (t := t) (s := s) (B := B) (w := w) hp (show k < 400 by omega) h1 (by omega) hN l1 l2 (fun i _ i2 => ht i (by omega))
  refine ⟨s', B', w', e1, ⟨e2, fun j hj h7 => ?_⟩, e3⟩
  obtain ⟨-, hw⟩ := Wl_ok hc hk
  obtain ⟨a, b, c, d⟩ := hw j hj
  exact ⟨a, by omega, fun i i1 i2 => by rw [e3.2 2 (by decide) (by decide)]; exact ht i (by omega)⟩
theorem M_ill28 (hn : n ≤ 400) (hN : 400 < N) (hc : ∀ i, i < n → isCh (t i)) : ∀ (r k fuel : Nat) (la : Nat → Int32) (s : Nat → Int32) (B : Nat → Nat → Int32) (w : Nat → Int64), k + r = (lns t n).1 → r < fuel → linV B 4 (lns t n) → (∀ i, i < n → B 2 (400 * 4 + i) = t i) → (∀ c, c < 26 → B 7 (104 + c) = la c) →
    ∃ (s' : Nat → Int32) (B' : Nat → Nat → Int32) (w' : Nat → Int64), illF s s' B B' ∧ ((∃ j, sc1 t (lns t n) r k la = .inl j ∧ f_M_ill_b28 N fuel (some m) 104 (nI k) (eM m s B w G) = some (nI j, eM m s' B' w' G)) ∨ (∃ la', sc1 t (lns t n) r k la = .inr la' ∧ f_M_ill_b28 N fuel (some m) 104 (nI k) (eM m s B w G) = f_M_ill_b118 N N (some m) 104 0 (eM m s' B' w' G) ∧ ∀ c, c < 26 → B' 7 (104 + c) = la' c)) := by
  intro r
  induction r with
  | zero =>
    intro k fuel la s B w hk hf hl ht hla
    obtain ⟨fuel, rfl⟩ : ∃ j, fuel = j + 1 := ⟨fuel - 1, by omega⟩
    have hL := (lns_ok t n).1
    refine ⟨s, B, w, illF_refl, Or.inr ⟨la, rfl, ?_, hla⟩⟩
    rw [f_M_ill_b28, mg_5, Option.bind_some, show (4 : Int32) = nI 4 from rfl, ma_5 (by decide), Option.bind_some, hl.1, if_pos (nI_le (by omega) (by omega))]
  | succ r ih =>
    intro k fuel la s B w hk hf hl ht hla
    obtain ⟨fuel, rfl⟩ : ∃ j, fuel = j + 1 := ⟨fuel - 1, by omega⟩
    have hL := (lns_ok t n).1
    obtain ⟨s1, B1, w1, e1, e2, e3⟩ := M_line (m := m) (N := N) (G := G) (p := 4) (k := k) hn hN (by decide) hc (by omega) (s := s) (B := B) (w := w) hl ht
    obtain ⟨hW, hwk⟩ := Wl_ok hc (show k < (lns t n).1 by omega)
    have hl1 : linV B1 4 (lns t n) := ⟨by rw [e3.2 5 (by decide) (by decide)]; exact hl.1, fun j hj => by rw [e3.2 3 (by decide) (by decide), e3.2 4 (by decide) (by decide)]; exact hl.2 j hj⟩
    have ht1 : ∀ i, i < n → B1 2 (400 * 4 + i) = t i := fun i hi => by rw [e3.2 2 (by decide) (by decide)]; exact ht i hi
    have hla1 : ∀ c, c < 26 → B1 7 (104 + c) = la c := fun c hc => by rw [e3.2 7 (by decide) (by decide)]; exact hla c hc
    rw [f_M_ill_b28, mg_5, Option.bind_some, show (4 : Int32) = nI 4 from rfl, ma_5 (by decide), Option.bind_some, hl.1, if_neg (nI_ge (by omega) (by omega)), mgO, Option.bind_some, e1, Option.bind_some, mg_8, Option.bind_some, e2.1.1, sc1]
    have next : ∀ la1, lstep t (Wl t (lns t n) k) k la = some la1 → ∀ (B2 : Nat → Nat → Int32), illF s1 s1 B1 B2 → linV B2 4 (lns t n) → (∀ i, i < n → B2 2 (400 * 4 + i) = t i) → (∀ c, c < 26 → B2 7 (104 + c) = la1 c) → ∃ (s' : Nat → Int32) (B' : Nat → Nat → Int32) (w' : Nat → Int64), illF s s' B B' ∧ ((∃ j, (match lstep t (Wl t (lns t n) k) k la with
          | none => Sum.inl k
          | some la' => sc1 t (lns t n) r (k + 1) la') = .inl j ∧ f_M_ill_b110 N (f_M_ill_b28 N fuel) (some m) 104 (nI k) (eM m s1 B2 w1 G) = some (nI j, eM m s' B' w' G)) ∨ (∃ la', (match lstep t (Wl t (lns t n) k) k la with
          | none => Sum.inl k
          | some la' => sc1 t (lns t n) r (k + 1) la') = .inr la' ∧ f_M_ill_b110 N (f_M_ill_b28 N fuel) (some m) 104 (nI k) (eM m s1 B2 w1 G) = f_M_ill_b118 N N (some m) 104 0 (eM m s' B' w' G) ∧ ∀ c, c < 26 → B' 7 (104 + c) = la' c)) := by
      intro la1 hs B2 hf2 hl2 ht2 hla2
      obtain ⟨s', B', w', g1, g2⟩ := ih (k + 1) fuel la1 s1 B2 w1 (by omega) (by omega) hl2 ht2 hla2
      refine ⟨s', B', w', illF_trans (illF_scr e3) (illF_trans hf2 g1), ?_⟩
      unfold f_M_ill_b110
      rw [nI_1, hs]
      exact g2
    by_cases h0 : (Wl t (lns t n) k).1 = 0
    · rw [if_pos (by rw [h0]; rfl)]
      exact next la (by rw [lstep, if_pos h0]) B1 illF_refl hl1 ht1 hla1
    · have hpos : 0 < (Wl t (lns t n) k).1 := by omega
      rw [if_neg (nI_ne0 hpos (by omega)), mgO, Option.bind_some, M_lab e2 hpos (by omega), Option.bind_some]
      by_cases hlab : labL t (Wl t (lns t n) k) = true
      · have hlab' : (decide ((Wl t (lns t n) k).1 = 1) && isLb t ((Wl t (lns t n) k).2.1 0) ((Wl t (lns t n) k).2.2 0)) = true := hlab
        have hlb := (Bool.and_eq_true_iff.mp hlab').2
        have hlt : isLt (t ((Wl t (lns t n) k).2.1 0)) = true := (Bool.and_eq_true_iff.mp hlb).2
        obtain ⟨r', hr', hv⟩ := isLt_i.mp hlt
        have hcn : cN (t ((Wl t (lns t n) k).2.1 0)) - 65 = r' := by rw [hv, cN_nI (by omega)]; omega
        rw [hlab', if_neg (by decide), mg_9, Option.bind_some, mg_w0, Option.bind_some, mg_7, Option.bind_some, M_labc e2 hpos hlb, hv, show (65 : Int32) = nI 65 from rfl, pk_sub (by omega), show (104 : Int32) = nI 104 from rfl, nI_add, show 104 + (65 + r' - 65) = 104 + r' from by omega, ma_7 (by omega), Option.bind_some, hla1 r' hr']
        by_cases hdup : la r' = -1
        · rw [if_pos hdup, Option.bind_some, mt_7 (by omega), Option.bind_some]
          exact next (upd la r' (nI k)) (by rw [lstep, if_neg h0, if_pos hlab, hcn, if_pos hdup]) _ ⟨fun _ _ => rfl, fun j a b c => va_up_ne _ _ a, fun j hj => by rw [va_up_self, upd_ne _ _ (by omega)]⟩ ⟨by rw [va_up_ne _ _ (by decide)]; exact hl1.1, fun j hj => by rw [va_up_ne _ _ (by decide), va_up_ne _ _ (by decide)]; exact hl1.2 j hj⟩ (fun i hi => by rw [va_up_ne _ _ (by decide)]; exact ht1 i hi) (fun c hc => by
            rw [va_up_self]
            by_cases hcr : c = r'
            · rw [hcr, upd_self, upd_self]
            · rw [upd_ne _ _ (by omega), upd_ne _ _ hcr]
              exact hla1 c hc)
        · rw [if_neg hdup]
          refine ⟨s1, B1, w1, illF_scr e3, Or.inl ⟨k, ?_, rfl⟩⟩
          rw [lstep, if_neg h0, if_pos hlab, hcn, if_neg hdup]
      · have hlab' : (decide ((Wl t (lns t n) k).1 = 1) && isLb t ((Wl t (lns t n) k).2.1 0) ((Wl t (lns t n) k).2.2 0)) = false := Bool.eq_false_iff.mpr hlab
        rw [hlab', if_pos (show bI false = 0 from rfl), Option.bind_some, M_isStm hN e2 hpos (fun j hj => by have := (hwk j hj).2.2.2; omega) (by omega), Option.bind_some]
        by_cases hany : anyFit t (Wl t (lns t n) k) = true
        · rw [hany, if_neg (by decide)]
          exact next la (by rw [lstep, if_neg h0, if_neg hlab, if_pos hany]) B1 illF_refl hl1 ht1 hla1
        · rw [Bool.eq_false_iff.mpr hany, if_pos (show bI false = 0 from rfl)]
          refine ⟨s1, B1, w1, illF_scr e3, Or.inl ⟨k, ?_, rfl⟩⟩
          rw [lstep, if_neg h0, if_neg hlab, if_neg hany]
theorem sc1_any : ∀ (r k : Nat) (la la' : Nat → Int32) (l : Nat × (Nat → Nat) × (Nat → Nat)), sc1 t l r k la = .inr la' → ∀ j, k ≤ j → j < k + r → (Wl t l j).1 = 0 ∨ labL t (Wl t l j) = true ∨ anyFit t (Wl t l j) = true := by
  intro r
  induction r with
  | zero => intro k la la' l _ j h1 h2; omega
  | succ r ih =>
    intro k la la' l h j h1 h2
    rw [sc1] at h
    cases hs : lstep t (Wl t l k) k la with
    | none => rw [hs] at h; cases h
    | some la1 =>
      rw [hs] at h
      by_cases hj : j = k
      · rw [hj]
        unfold lstep at hs
        by_cases h0 : (Wl t l k).1 = 0
        · exact Or.inl h0
        · by_cases hlab : labL t (Wl t l k) = true
          · exact Or.inr (Or.inl hlab)
          · rw [if_neg h0, if_neg hlab] at hs
            by_cases hany : anyFit t (Wl t l k) = true
            · exact Or.inr (Or.inr hany)
            · rw [if_neg hany] at hs
              cases hs
      · exact ih (k + 1) la1 la' l h j (by omega) (by omega)
theorem M_ill118 (hn : n ≤ 400) (hN : 400 < N) (hc : ∀ i, i < n → isCh (t i)) {la : Nat → Int32} (hall : ∀ j, j < (lns t n).1 → (Wl t (lns t n) j).1 = 0 ∨ labL t (Wl t (lns t n) j) = true ∨ anyFit t (Wl t (lns t n) j) = true) : ∀ (r k fuel : Nat) (s : Nat → Int32) (B : Nat → Nat → Int32) (w : Nat → Int64), k + r = (lns t n).1 → r < fuel → linV B 4 (lns t n) → (∀ i, i < n → B 2 (400 * 4 + i) = t i) → (∀ c, c < 26 → B 7 (104 + c) = la c) →
    ∃ (s' : Nat → Int32) (B' : Nat → Nat → Int32) (w' : Nat → Int64), illF s s' B B' ∧ B' 7 = B 7 ∧ f_M_ill_b118 N fuel (some m) 104 (nI k) (eM m s B w G) = some ((match sc2 t (lns t n) la r k with
      | some j => nI j
      | none => -1), eM m s' B' w' G) := by
  intro r
  induction r with
  | zero =>
    intro k fuel s B w hk hf hl ht hla
    obtain ⟨fuel, rfl⟩ : ∃ j, fuel = j + 1 := ⟨fuel - 1, by omega⟩
    have hL := (lns_ok t n).1
    refine ⟨s, B, w, illF_refl, rfl, ?_⟩
    rw [f_M_ill_b118, mg_5, Option.bind_some, show (4 : Int32) = nI 4 from rfl, ma_5 (by decide), Option.bind_some, hl.1, if_pos (nI_le (by omega) (by omega))]
    rfl
  | succ r ih =>
    intro k fuel s B w hk hf hl ht hla
    obtain ⟨fuel, rfl⟩ : ∃ j, fuel = j + 1 := ⟨fuel - 1, by omega⟩
    have hL := (lns_ok t n).1
    obtain ⟨s1, B1, w1, e1, e2, e3⟩ := M_line (m := m) (N := N) (G := G) (p := 4) (k := k) hn hN (by decide) hc (by omega) (s := s) (B := B) (w := w) hl ht
    obtain ⟨hW, hwk⟩ := Wl_ok hc (show k < (lns t n).1 by omega)
    have hl1 : linV B1 4 (lns t n) := ⟨by rw [e3.2 5 (by decide) (by decide)]; exact hl.1, fun j hj => by rw [e3.2 3 (by decide) (by decide), e3.2 4 (by decide) (by decide)]; exact hl.2 j hj⟩
    have ht1 : ∀ i, i < n → B1 2 (400 * 4 + i) = t i := fun i hi => by rw [e3.2 2 (by decide) (by decide)]; exact ht i hi
    have h7 : B1 7 = B 7 := e3.2 7 (by decide) (by decide)
    have hla1 : ∀ c, c < 26 → B1 7 (104 + c) = la c := fun c hc => by rw [h7]; exact hla c hc
    have next : miss t (Wl t (lns t n) k) la = false → ∃ (s' : Nat → Int32) (B' : Nat → Nat → Int32) (w' : Nat → Int64), illF s s' B B' ∧ B' 7 = B 7 ∧ f_M_ill_b175 N (f_M_ill_b118 N fuel) (some m) 104 (nI k) (eM m s1 B1 w1 G) = some ((match sc2 t (lns t n) la (r + 1) k with
      | some j => nI j
      | none => -1), eM m s' B' w' G) := by
      intro hm
      obtain ⟨s', B', w', g1, g2, g3⟩ := ih (k + 1) fuel s1 B1 w1 (by omega) (by omega) hl1 ht1 hla1
      refine ⟨s', B', w', illF_trans (illF_scr e3) g1, g2.trans h7, ?_⟩
      unfold f_M_ill_b175
      rw [nI_1, sc2, hm]
      exact g3
    rw [f_M_ill_b118, mg_5, Option.bind_some, show (4 : Int32) = nI 4 from rfl, ma_5 (by decide), Option.bind_some, hl.1, if_neg (nI_ge (by omega) (by omega)), mgO, Option.bind_some, e1, Option.bind_some, mg_8, Option.bind_some, e2.1.1]
    by_cases h0 : (Wl t (lns t n) k).1 = 0
    · rw [if_pos (by rw [h0]; rfl)]
      exact next (by unfold miss; rw [decide_eq_true h0]; rfl)
    · have hpos : 0 < (Wl t (lns t n) k).1 := by omega
      rw [if_neg (nI_ne0 hpos (by omega)), mgO, Option.bind_some, M_lab e2 hpos (by omega), Option.bind_some]
      by_cases hlab : labL t (Wl t (lns t n) k) = true
      · have hlab' : (decide ((Wl t (lns t n) k).1 = 1) && isLb t ((Wl t (lns t n) k).2.1 0) ((Wl t (lns t n) k).2.2 0)) = true := hlab
        rw [hlab', if_neg (by decide)]
        exact next (by unfold miss; rw [hlab]; simp)
      · have hlab' : (decide ((Wl t (lns t n) k).1 = 1) && isLb t ((Wl t (lns t n) k).2.1 0) ((Wl t (lns t n) k).2.2 0)) = false := Bool.eq_false_iff.mpr hlab
        have hany := ((hall k (by omega)).resolve_left h0).resolve_left hlab
        rw [stm_any] at hany
        obtain ⟨q, hq⟩ := Option.isSome_iff_exists.mp hany
        obtain ⟨q1, q2, -⟩ := stm_some hq
        have hm : miss t (Wl t (lns t n) k) la = lbm la q.2.2.2.2.2 := by
          unfold miss
          rw [hq, decide_eq_false h0, Bool.eq_false_iff.mpr hlab]
          rfl
        rw [hlab', if_pos (show bI false = 0 from rfl), Option.bind_some, M_goal q1 e2 q2, Option.bind_some]
        rcases fit_lab q1 q2 with hz | ⟨r', hr', hz⟩
        · rw [hz, if_pos rfl]
          exact next (by rw [hm, hz]; rfl)
        · have hne : ¬ nI r' = -1 := fun z => by
            have := congrArg Int32.toInt z
            rw [nI_toInt (by omega), show (-1 : Int32).toInt = -1 from by decide] at this
            omega
          rw [hz, if_neg hne, mg_7, Option.bind_some, show (104 : Int32) = nI 104 from rfl, nI_add, ma_7 (by omega), Option.bind_some, hla1 r' hr']
          by_cases hd : la r' = -1
          · rw [if_pos hd]
            refine ⟨s1, B1, w1, illF_scr e3, h7, ?_⟩
            rw [sc2, hm, hz, lbm, cN_nI (by omega), decide_eq_true hd, decide_eq_false hne]
            rfl
          · rw [if_neg hd]
            exact next (by rw [hm, hz, lbm, cN_nI (by omega), decide_eq_false hd]; simp)
theorem M_ill5 : ∀ (r c fuel : Nat) (B : Nat → Nat → Int32) (s : Nat → Int32) (w : Nat → Int64), c + r = 26 → r < fuel → (∀ j, j < c → B 7 (104 + j) = -1) →
    ∃ B' : Nat → Nat → Int32, f_M_ill_b5 N fuel (some m) 104 (nI c) (eM m s B w G) = f_M_ill_b28 N N (some m) 104 0 (eM m s B' w G) ∧ illF s s B B' ∧ (∀ k, k ≠ 7 → B' k = B k) ∧ ∀ j, j < 26 → B' 7 (104 + j) = -1 := by
  intro r
  induction r with
  | zero =>
    intro c fuel B s w hc hf hj
    obtain ⟨fuel, rfl⟩ : ∃ j, fuel = j + 1 := ⟨fuel - 1, by omega⟩
    refine ⟨B, ?_, illF_refl, fun _ _ => rfl, fun j h => hj j (by omega)⟩
    rw [f_M_ill_b5, if_pos (show (26 : Int32) ≤ nI c from nI_le (a := 26) (by omega) (by omega))]
  | succ r ih =>
    intro c fuel B s w hc hf hj
    obtain ⟨fuel, rfl⟩ : ∃ j, fuel = j + 1 := ⟨fuel - 1, by omega⟩
    obtain ⟨B', g1, g2, g3, g4⟩ := ih (c + 1) fuel (va_up B 7 (upd (B 7) (104 + c) (-1))) s w (by omega) (by omega) (fun j h => by
      rw [va_up_self]
      by_cases hjc : j = c
      · rw [hjc, upd_self]
      · rw [upd_ne _ _ (by omega)]
        exact hj j (by omega))
    refine ⟨B', ?_, illF_trans ⟨fun _ _ => rfl, fun k a _ _ => va_up_ne _ _ a, fun j hj => by rw [va_up_self, upd_ne _ _ (by omega)]⟩ g2, fun k hk => by rw [g3 k hk, va_up_ne _ _ hk], g4⟩
    rw [f_M_ill_b5, if_neg (show ¬ (26 : Int32) ≤ nI c from nI_ge (b := 26) (by omega) (by decide)), mg_7, Option.bind_some, show (104 : Int32) = nI 104 from rfl, nI_add, mt_7 (by omega), Option.bind_some, nI_1]
    exact g1
theorem M_ill (hn : n ≤ 400) (hN : 400 < N) (hc : ∀ i, i < n → isCh (t i)) {s : Nat → Int32} {B : Nat → Nat → Int32} {w : Nat → Int64} (hl : linV B 4 (lns t n)) (ht : ∀ i, i < n → B 2 (400 * 4 + i) = t i) :
    ∃ (s' : Nat → Int32) (B' : Nat → Nat → Int32) (w' : Nat → Int64), illF s s' B B' ∧ f_M_ill N m (eM m s B w G) = some (illV t (lns t n) (sc1 t (lns t n) (lns t n).1 0 (fun _ => -1)), eM m s' B' w' G) ∧ ∀ la, sc1 t (lns t n) (lns t n).1 0 (fun _ => -1) = .inr la → ∀ c, c < 26 → B' 7 (104 + c) = la c := by
  have hL := (lns_ok t n).1
  obtain ⟨B0, a1, a2, a3, a4⟩ := M_ill5 (m := m) (N := N) (G := G) 26 0 N B s w (by omega) (by omega) (fun j hj => absurd hj (Nat.not_lt_zero j))
  have hl0 : linV B0 4 (lns t n) := ⟨by rw [a3 5 (by decide)]; exact hl.1, fun j hj => by rw [a3 3 (by decide), a3 4 (by decide)]; exact hl.2 j hj⟩
  have ht0 : ∀ i, i < n → B0 2 (400 * 4 + i) = t i := fun i hi => by rw [a3 2 (by decide)]; exact ht i hi
  obtain ⟨s1, B1, w1, b1, b2⟩ := M_ill28 (m := m) (N := N) (G := G) hn hN hc (lns t n).1 0 N (fun _ => -1) s B0 w (by omega) (by omega) hl0 ht0 a4
  have e0 : f_M_ill N m (eM m s B w G) = f_M_ill_b28 N N (some m) 104 0 (eM m s B0 w G) := a1
  rw [e0]
  rcases b2 with ⟨j, c1, c2⟩ | ⟨la, c1, c2, c3⟩
  · refine ⟨s1, B1, w1, illF_trans a2 b1, ?_, fun la h => by rw [c1] at h; cases h⟩
    rw [c1]
    exact c2
  · have hl1 : linV B1 4 (lns t n) := ⟨by rw [b1.2.1 5 (by decide) (by decide) (by decide)]; exact hl0.1, fun j hj => by rw [b1.2.1 3 (by decide) (by decide) (by decide), b1.2.1 4 (by decide) (by decide) (by decide)]; exact hl0.2 j hj⟩
    have ht1 : ∀ i, i < n → B1 2 (400 * 4 + i) = t i := fun i hi => by rw [b1.2.1 2 (by decide) (by decide) (by decide)]; exact ht0 i hi
    obtain ⟨s2, B2, w2, d1, d2, d3⟩ := M_ill118 (m := m) (N := N) (G := G) hn hN hc (la := la) (fun j hj => sc1_any _ _ _ _ _ c1 j (Nat.zero_le _) (by omega)) (lns t n).1 0 N s1 B1 w1 (by omega) (by omega) hl1 ht1 c3
    refine ⟨s2, B2, w2, illF_trans a2 (illF_trans b1 d1), ?_, fun la' h c hc => ?_⟩
    · rw [c1]
      rw [show (f_M_ill_b28 N N (some m) 104 0 (eM m s B0 w G)) = _ from c2]
      exact d3
    · rw [c1] at h
      have e : la = la' := Sum.inr.inj h
      rw [d2, c3 c hc, e]
end ILL
