/-! ===== load: both alike ===== -/
theorem va_up_id {E : hE} {a : Nat} {e : Option va_E} (h : E a = e) : va_up E a e = E := by
  funext b
  by_cases hb : b = a
  · rw [hb, va_up_self, h]
  · rw [va_up_ne _ _ hb]
theorem fill_loop {N a n : Nat} {v : Int32} (hn : n < 2 ^ 31) : ∀ (r i fuel : Nat) (E : hE) (f : Nat → Int32), i + r = n → r < fuel → E a = some (.inl (0, n, .inl f)) → (∀ j, j < i → f j = v) → ∃ f', f_Arrs_fill_b5 N fuel (some a) v (nI i) (nI n) E = some (va_up E a (some (.inl (0, n, .inl f')))) ∧ ∀ j, j < n → f' j = v := by
  intro r
  induction r with
  | zero =>
    intro i fuel E f hi hf he hv
    obtain ⟨fuel, rfl⟩ : ∃ m, fuel = m + 1 := ⟨fuel - 1, by omega⟩
    rw [f_Arrs_fill_b5, if_pos (nI_le (by omega) (by omega))]
    exact ⟨f, by rw [va_up_id he], fun j hj => hv j (by omega)⟩
  | succ r ih =>
    intro i fuel E f hi hf he hv
    obtain ⟨fuel, rfl⟩ : ∃ m, fuel = m + 1 := ⟨fuel - 1, by omega⟩
    rw [f_Arrs_fill_b5, if_neg (nI_ge (by omega) (by omega)), tI_at he (by omega) hn, Option.bind_some, nI_1]
    obtain ⟨f', g1, g2⟩ := ih (i + 1) fuel (va_up E a (some (.inl (0, n, .inl (upd f i v))))) (upd f i v) (by omega) (by omega) (va_up_self _ _ _) (fun j hj => by
      by_cases hji : j = i
      · rw [hji, upd_self]
      · rw [upd_ne _ _ hji]
        exact hv j (by omega))
    exact ⟨f', by rw [g1, va_up2], g2⟩
theorem fill_at {N a n : Nat} {v : Int32} (hn : n < 2 ^ 31) (hN : n < N) {E : hE} {f : Nat → Int32} (he : E a = some (.inl (0, n, .inl f))) : ∃ f', f_Arrs_fill N (some a) v E = some (va_up E a (some (.inl (0, n, .inl f')))) ∧ ∀ j, j < n → f' j = v := by
  unfold f_Arrs_fill
  rw [aL_at he, Option.bind_some]
  exact fill_loop hn n 0 N E f (by omega) hN he (fun j hj => absurd hj (Nat.not_lt_zero j))
/-- the programs of both sides -/
def rScr (x g0 : Nat) (fa : Nat → Nat) (q : Nat → Option Nat) (B : Nat → Nat → Int32) (F : hE) (nx : Nat) : Prop := ∀ p, p < 4 → (q p = none ∧ B 6 p = 0) ∨ ∃ (a : Nat) (t : Nat → Int32) (n : Nat) (la : Nat → Int32) (j : Nat), q p = some a ∧ B 6 p = 1 ∧ progM B p t n la ∧ x + 75 ≤ a ∧ j ≤ 11 ∧ scK g0 fa F nx a t (lns t n) (lns t n).1 (lns t n).1 la j
theorem scK_mv {g0 : Nat} {fa : Nat → Nat} {F F' : hE} {nx nx' sc k ln j : Nat} {t : Nat → Int32} {l : Nat × (Nat → Nat) × (Nat → Nat)} {la : Nat → Int32} (h : scK g0 fa F nx sc t l k ln la j) (hn : nx ≤ nx') (hF : ∀ a, sc ≤ a → a < nx → F' a = F a) : scK g0 fa F' nx' sc t l k ln la j := by
  obtain ⟨pl, sts, h1, h2⟩ := h
  exact ⟨pl, sts, scB_mv h1 hn hF, h2⟩
theorem rScr_mv {x g0 : Nat} {fa : Nat → Nat} {q : Nat → Option Nat} {B B' : Nat → Nat → Int32} {F F' : hE} {nx nx' : Nat} (h : rScr x g0 fa q B F nx) (hB : ∀ p, p < 4 → regQ B B' p) (hn : nx ≤ nx') (hF : ∀ a, x + 75 ≤ a → a < nx → F' a = F a) : rScr x g0 fa q B' F' nx' := by
  intro p hp
  rcases h p hp with ⟨h1, h2⟩ | ⟨a, t, n, la, j, h1, h2, h3, h4, h5, h6⟩
  · exact Or.inl ⟨h1, by rw [(hB p hp).2.2.1]; exact h2⟩
  · exact Or.inr ⟨a, t, n, la, j, h1, by rw [(hB p hp).2.2.1]; exact h2, progM_reg h3 (hB p hp), h4, h5, scK_mv h6 hn (fun b h1 h2 => hF b (by omega) h2)⟩
section LOAD
variable {S : hE} {g fa wa ka : Nat → Nat} {x m N nx : Nat} {o A B : Nat → Nat → Int32} {s : Nat → Int32} {w : Nat → Int64} {q : Nat → Option Nat} {F G : hE}
theorem X_sinit (hN : 400 < N) (hx : x + 51 ≤ nx) : ∃ F1 : hE, f_Script_init S g N nx (va_up (eX x o A q F) nx (some (.inr (3, [.null, .null, .int 0])))) (nx + 1) = some (eX x o A q F1, nx + 3) ∧ (∀ a, a < nx → F1 a = F a) ∧ ∃ (pl : Nat → Int32), scB (g 0) fa F1 (nx + 3) nx 0 pl 0 0 (fun _ => (0, 0, st0)) ∧ ∀ c, c < 26 → pl c = -1 := by
  -- the cells one by one
  have k1 : f_Script_init S g N nx (va_up (eX x o A q F) nx (some (.inr (3, [.null, .null, .int 0])))) (nx + 1) = (f_Arrs_fill N (some (nx + 2)) (-1) (eX x o A q (va_up (va_up (va_up F nx (some (.inr (3, [.ref (nx + 1), .ref (nx + 2), .int 0])))) (nx + 1) (some (.inr (8, [.ref (g 0), .int 0, .int 0])))) (nx + 2) (some (.inl (0, 26, .inl (fun _ => 0))))))).bind (fun v28 => some (v28, nx + 1 + 1 + 1)) := by
    unfold f_Script_init f_AL_init f_ABL_init f_ABC_init
    rw [Option.bind_some, eX_up (by omega), eX_up (by omega)]
    have cA : ∀ (fs gs : List Value), eX x o A q (va_up (va_up F nx (some (.inr (3, fs)))) (nx + 1) (some (.inr (8, gs)))) (nx + 1) = some (.inr (8, gs)) := fun fs gs => by rw [eX_hi (by omega), va_up_self]
    have cS : ∀ (fs gs : List Value), eX x o A q (va_up (va_up F nx (some (.inr (3, fs)))) (nx + 1) (some (.inr (8, gs)))) nx = some (.inr (3, fs)) := fun fs gs => by rw [eX_hi (by omega), va_up_ne _ _ (by omega), va_up_self]
    have sw : ∀ (fs fs' gs : List Value), va_up (va_up (va_up F nx (some (.inr (3, fs)))) (nx + 1) (some (.inr (8, gs)))) nx (some (.inr (3, fs'))) = va_up (va_up F nx (some (.inr (3, fs')))) (nx + 1) (some (.inr (8, gs))) := fun fs fs' gs => by
      funext b
      simp only [va_up]
      by_cases h1 : b = nx
      · have : b ≠ nx + 1 := by omega
        simp [h1]
      · by_cases h2 : b = nx + 1 <;> simp [h1, h2]
    have sw3 : ∀ (fs fs' gs : List Value) (e : va_E), va_up (va_up (va_up (va_up F nx (some (.inr (3, fs)))) (nx + 1) (some (.inr (8, gs)))) (nx + 2) (some e)) nx (some (.inr (3, fs'))) = va_up (va_up (va_up F nx (some (.inr (3, fs')))) (nx + 1) (some (.inr (8, gs)))) (nx + 2) (some e) := fun fs fs' gs e => by
      funext b
      simp only [va_up]
      by_cases h1 : b = nx
      · have : b ≠ nx + 1 := by omega
        have : b ≠ nx + 2 := by omega
        simp [h1]
      · by_cases h2 : b = nx + 1 <;> by_cases h3 : b = nx + 2 <;> simp [h1, h2, h3]
    have s1 : sI (eX x o A q (va_up (va_up F nx (some (.inr (3, [.null, .null, .int 0])))) (nx + 1) (some (.inr (8, [.null, .int 0, .int 0]))))) (some (nx + 1)) 8 2 0 = some (eX x o A q (va_up (va_up F nx (some (.inr (3, [.null, .null, .int 0])))) (nx + 1) (some (.inr (8, [.null, .int 0, .int 0]))))) := by
      unfold sI
      rw [sF_at (cA _ _) (by decide : 2 < 3), eX_up (by omega), va_up2]
      rfl
    have s2 : sR (eX x o A q (va_up (va_up F nx (some (.inr (3, [.null, .null, .int 0])))) (nx + 1) (some (.inr (8, [.null, .int 0, .int 0]))))) (some (nx + 1)) 8 0 (some (g 0)) = some (eX x o A q (va_up (va_up F nx (some (.inr (3, [.null, .null, .int 0])))) (nx + 1) (some (.inr (8, [.ref (g 0), .int 0, .int 0]))))) := by
      unfold sR
      rw [sF_at (cA _ _) (by decide : 0 < 3), eX_up (by omega), va_up2]
      rfl
    have s3 : sR (eX x o A q (va_up (va_up F nx (some (.inr (3, [.null, .null, .int 0])))) (nx + 1) (some (.inr (8, [.ref (g 0), .int 0, .int 0]))))) (some nx) 3 0 (some (nx + 1)) = some (eX x o A q (va_up (va_up F nx (some (.inr (3, [.ref (nx + 1), .null, .int 0])))) (nx + 1) (some (.inr (8, [.ref (g 0), .int 0, .int 0]))))) := by
      unfold sR
      rw [sF_at (cS _ _) (by decide : 0 < 3), eX_up (by omega), sw]
      rfl
    have s4 : nA (eX x o A q (va_up (va_up F nx (some (.inr (3, [.ref (nx + 1), .null, .int 0])))) (nx + 1) (some (.inr (8, [.ref (g 0), .int 0, .int 0]))))) (nx + 1 + 1) 0 26 26 = some (eX x o A q (va_up (va_up (va_up F nx (some (.inr (3, [.ref (nx + 1), .null, .int 0])))) (nx + 1) (some (.inr (8, [.ref (g 0), .int 0, .int 0])))) (nx + 2) (some (.inl (0, 26, .inl (fun _ => 0)))))) := by
      unfold nA
      rw [if_neg (by decide), eX_up (by omega)]
      rfl
    have cS3 : eX x o A q (va_up (va_up (va_up F nx (some (.inr (3, [.ref (nx + 1), .null, .int 0])))) (nx + 1) (some (.inr (8, [.ref (g 0), .int 0, .int 0])))) (nx + 2) (some (.inl (0, 26, .inl (fun _ => 0))))) nx = some (.inr (3, [.ref (nx + 1), .null, .int 0])) := by rw [eX_hi (by omega), va_up_ne _ _ (by omega), va_up_ne _ _ (by omega), va_up_self]
    have s5 : sR (eX x o A q (va_up (va_up (va_up F nx (some (.inr (3, [.ref (nx + 1), .null, .int 0])))) (nx + 1) (some (.inr (8, [.ref (g 0), .int 0, .int 0])))) (nx + 2) (some (.inl (0, 26, .inl (fun _ => 0)))))) (some nx) 3 1 (some (nx + 1 + 1)) = some (eX x o A q (va_up (va_up (va_up F nx (some (.inr (3, [.ref (nx + 1), .ref (nx + 2), .int 0])))) (nx + 1) (some (.inr (8, [.ref (g 0), .int 0, .int 0])))) (nx + 2) (some (.inl (0, 26, .inl (fun _ => 0)))))) := by
      unfold sR
      rw [sF_at cS3 (by decide : 1 < 3), eX_up (by omega), sw3]
      rfl
    have s6 : gR (eX x o A q (va_up (va_up (va_up F nx (some (.inr (3, [.ref (nx + 1), .ref (nx + 2), .int 0])))) (nx + 1) (some (.inr (8, [.ref (g 0), .int 0, .int 0])))) (nx + 2) (some (.inl (0, 26, .inl (fun _ => 0)))))) (some nx) 3 1 = some (some (nx + 2)) := by
      refine gR_at (fs := [.ref (nx + 1), .ref (nx + 2), .int 0]) ?_ rfl
      rw [eX_hi (by omega), va_up_ne _ _ (by omega), va_up_ne _ _ (by omega), va_up_self]
    rw [Option.bind_some, s1, Option.bind_some, Option.bind_some, s2, Option.bind_some, Option.bind_some, s3, Option.bind_some, s4, Option.bind_some, s5, Option.bind_some, s6, Option.bind_some]
  obtain ⟨pl, f1, f2⟩ := fill_at (N := N) (a := nx + 2) (n := 26) (v := -1) (by decide) (by omega) (E := eX x o A q (va_up (va_up (va_up F nx (some (.inr (3, [.ref (nx + 1), .ref (nx + 2), .int 0])))) (nx + 1) (some (.inr (8, [.ref (g 0), .int 0, .int 0])))) (nx + 2) (some (.inl (0, 26, .inl (fun _ => 0)))))) (f := fun _ => 0) (by rw [eX_hi (by omega), va_up_self])
  refine ⟨va_up (va_up (va_up F nx (some (.inr (3, [.ref (nx + 1), .ref (nx + 2), .int 0])))) (nx + 1) (some (.inr (8, [.ref (g 0), .int 0, .int 0])))) (nx + 2) (some (.inl (0, 26, .inl pl))), ?_, fun a ha => by rw [va_up_ne _ _ (by omega), va_up_ne _ _ (by omega), va_up_ne _ _ (by omega)], pl, ?_, f2⟩
  · rw [k1, f1, Option.bind_some, eX_up (by omega), va_up2]
  · exact ⟨Nat.le_refl _, by rw [va_up_ne _ _ (by omega), va_up_ne _ _ (by omega), va_up_self]; rfl, va_up_self _ _ _, g 0, 0, by rw [va_up_ne _ _ (by omega), va_up_self]; rfl, Or.inl ⟨rfl, rfl, rfl⟩⟩
theorem L_load (hN : 400 < N) (hc : conS S g fa wa ka) (hx : x + 75 ≤ nx) (hg : g 0 < x) (hF0 : F (g 0) = none) (h : rSta o A s B) (hq : rScr x (g 0) fa q B F nx) (p : Int32) :
    ∃ (bo : Nat → Nat) (v : Int32) (o' A' : Nat → Nat → Int32) (q' : Nat → Option Nat) (F' : hE) (nx' : Nat), sumB bo 401 ≤ 2154 ∧ f_S_load S g N bo x p (eX x o A q F) nx = some (v, eX x o' A' q' F', nx') ∧ nx ≤ nx' ∧ (∀ a, a < nx → F' a = F a) ∧ ∀ G : hE, ∃ (s' : Nat → Int32) (B' : Nat → Nat → Int32) (w' : Nat → Int64), f_M_load N m p (eM m s B w G) = some (v, eM m s' B' w' G) ∧ rSta o' A' s' B' ∧ rScr x (g 0) fa q' B' F' nx' := by
  obtain ⟨hT, hFi, hO, hEr, hP, hR⟩ := h
  -- what is left of the relation when tape, words and scripts change
  have keep : ∀ (o' A' : Nat → Nat → Int32) (s' : Nat → Int32) (B' : Nat → Nat → Int32), (∀ k, k ≠ 1 → k ≠ 2 → o' k = o k) → o' 2 1 = 0 → (∀ k, k ≠ 4 → k ≠ 5 → A' k = A k) → s' 0 = 0 → (∀ k, k ≠ 0 → k ≠ 8 → s' k = s k) → (∀ k, k = 1 ∨ 10 < k → B' k = B k) → rSta o' A' s' B' := by
    intro o' A' s' B' e1 e2 e3 e4 e5 e6
    refine ⟨⟨0, by decide, e2, e4, fun i hi => absurd hi (Nat.not_lt_zero i)⟩, fun f hf => ?_, ?_, ?_, ?_, ?_⟩
    · rw [e1 _ (by omega) (by omega), e3 _ (by omega) (by omega), e6 _ (by decide), e6 _ (by decide), e6 _ (by decide)]; exact hFi f hf
    · rw [e1 _ (by decide) (by decide), e3 _ (by decide) (by decide), e6 _ (by decide), e5 _ (by decide) (by decide)]; exact hO
    · rw [e1 _ (by decide) (by decide), e3 _ (by decide) (by decide), e6 _ (by decide), e5 _ (by decide) (by decide)]; exact hEr
    · rw [e3 _ (by decide) (by decide), e6 _ (by decide)]; exact hP
    · rw [e1 _ (by decide) (by decide), e1 _ (by decide) (by decide), e3 _ (by decide) (by decide), e6 _ (by decide)]
      obtain ⟨r1, r2, r3, r4, r5, r6, r7⟩ := hR
      exact ⟨by rw [e5 _ (by decide) (by decide)]; exact r1, by rw [e5 _ (by decide) (by decide)]; exact r2, by rw [e5 _ (by decide) (by decide)]; exact r3, by rw [e5 _ (by decide) (by decide)]; exact r4, by rw [e5 _ (by decide) (by decide)]; exact r5, by rw [e5 _ (by decide) (by decide)]; exact r6, fun i hi => by rw [e5 _ (by decide) (by decide)]; exact r7 i hi⟩
  have bad : p < 0 ∨ nI 4 ≤ p → ∃ (bo : Nat → Nat) (v : Int32) (o' A' : Nat → Nat → Int32) (q' : Nat → Option Nat) (F' : hE) (nx' : Nat), sumB bo 401 ≤ 2154 ∧ f_S_load S g N bo x p (eX x o A q F) nx = some (v, eX x o' A' q' F', nx') ∧ nx ≤ nx' ∧ (∀ a, a < nx → F' a = F a) ∧ ∀ G : hE, ∃ (s' : Nat → Int32) (B' : Nat → Nat → Int32) (w' : Nat → Int64), f_M_load N m p (eM m s B w G) = some (v, eM m s' B' w' G) ∧ rSta o' A' s' B' ∧ rScr x (g 0) fa q' B' F' nx' := by
    intro hp
    refine ⟨fun _ => 0, -2, u2 (u2 o 2 1 0) 2 2 1, A, q, F, nx, by rw [sumB_0]; decide, ?_, Nat.le_refl _, fun _ _ => rfl, fun G => ⟨upd s 0 0, B, w, M_load_bad hp, keep _ _ _ _ (fun k _ h2 => by rw [u2_n _ _ _ h2, u2_n _ _ _ h2]) (by rw [u2_ne _ _ (by decide), u2_self]) (fun _ _ _ => rfl) (upd_self _ _ _) (fun k h0 _ => upd_ne _ _ h0) (fun _ _ => rfl), hq⟩⟩
    have hb9 : f_S_load_b9 S g N (fun _ => 0) (some x) (eX x o A q F) nx = some (-2, eX x (u2 (u2 o 2 1 0) 2 2 1) A q F, nx) := by
      unfold f_S_load_b9
      rw [x0_0, Option.bind_some, xt_0, Option.bind_some, xr_O r2', Option.bind_some, R_empty r2', Option.bind_some]
    unfold f_S_load
    by_cases h0 : p < 0
    · rw [if_pos h0, hb9]
    · have h4 : nI 4 ≤ p := hp.resolve_left h0
      rw [if_neg h0, if_neg (show ¬ p < 4 from Int32.not_lt.mpr h4), hb9]
  rcases pk_ix p (n := 4) (by decide) with h0 | h0 | ⟨p, hp, rfl⟩
  · exact bad (Or.inl h0)
  · exact bad (Or.inr h0)
  · obtain ⟨n, hn, t1, t2, t3⟩ := hT
    have hch : ∀ i, i < n → isCh (B 1 i) := fun i hi => (t3 i hi).2
    obtain ⟨F1, i1, i2, pl, i3, i4⟩ := X_sinit (S := S) (g := g) (fa := fa) (x := x) (N := N) (o := o) (A := A) (q := q) (F := F) hN (show x + 51 ≤ nx by omega)
    have hs0 : scK (g 0) fa F1 (nx + 3) nx (B 1) (lns (B 1) n) 0 0 (fun _ => -1) 0 := ⟨pl, _, i3, fun c hc => by rw [i4 c hc]; rfl, fun k' hk' => absurd hk' (Nat.not_lt_zero k'), fun c hc => Or.inl rfl⟩
    obtain ⟨bo, o1, A1, F2, nx2, c1, c2, c3, c4, c5, c6, c7⟩ := chk_main (x := x) (q := q) (t := B 1) hN hc (show x + 51 ≤ nx by omega) hg hn hch n 0 401 0 0 (nx + 3) (u2 o 1 3 0) A F1 (fun _ => -1) 0 (by omega) (by omega) (fun hlt => ⟨rfl, ⟨u2_self _ _ _ _, fun k hk => absurd hk (Nat.not_lt_zero k)⟩, rfl⟩) (fun hz => by rw [← hz]; rfl) (by rw [u2_n _ _ _ (by decide)]; exact t1) (fun i hi => (t3 i hi).1) (by decide) (by rw [i2 _ (by omega)]; exact hF0) hs0
    rw [Nat.sub_zero] at c2 c7
    have hF2 : ∀ a, a < nx → F2 a = F a := fun a ha => by rw [c5 a ha, i2 a ha]
    have hload' : f_S_load S g N bo x (nI p) (eX x o A q F) nx = (if illV (B 1) (lns (B 1) n) (sc1 (B 1) (lns (B 1) n) (lns (B 1) n).1 0 (fun _ => -1)) = -1 then some (illV (B 1) (lns (B 1) n) (sc1 (B 1) (lns (B 1) n) (lns (B 1) n).1 0 (fun _ => -1)), va_up (eX x (u2 (u2 o1 2 1 0) 2 2 1) A1 q F2) (x + 7) (some (.inl (5, 4, .inr (.inr (.inr (.inr (va_up q p (some nx)))))))), nx2) else some (illV (B 1) (lns (B 1) n) (sc1 (B 1) (lns (B 1) n) (lns (B 1) n).1 0 (fun _ => -1)), eX x (u2 (u2 o1 2 1 0) 2 2 1) A1 q F2, nx2)) := by
      unfold f_S_load f_S_load_b64
      rw [if_neg (nI_pos (by omega)), if_pos (show nI p < 4 from nI_lt (b := 4) hp (by decide)), Option.bind_some, i1, Option.bind_some, x0_0, Option.bind_some, xt_O, Option.bind_some]
      unfold f_Tape_check
      rw [xts_3, Option.bind_some, show (0 : Int32) = nI 0 from rfl]
      have c2' : f_Tape_check_b9 S g N bo 401 (some (x + 1)) (some nx) (nI 0) (nI 0) (eX x (u2 o 1 3 (nI 0)) A q F1) (nx + 3) = _ := c2
      rw [c2', Option.bind_some, x0_0, Option.bind_some, xt_0, Option.bind_some, xr_O r2', Option.bind_some, R_empty r2', Option.bind_some]
      by_cases hv : illV (B 1) (lns (B 1) n) (sc1 (B 1) (lns (B 1) n) (lns (B 1) n).1 0 (fun _ => -1)) = -1
      · obtain ⟨la', j', d1, d2, d3⟩ := c7 hv
        obtain ⟨pl', sts', e1, -⟩ := d3
        have en : eX x (u2 (u2 o1 2 1 0) 2 2 1) A1 q F2 nx = some (.inr (3, [.ref (nx + 1), .ref (nx + 2), .int (nI (lns (B 1) n).1)])) := by rw [eX_hi (by omega)]; exact e1.2.1
        rw [if_pos hv, if_pos hv, x0_1, Option.bind_some, xm_0, Option.bind_some, tQ_at xq_at hp (by decide) en, Option.bind_some]
        rfl
      · rw [if_neg hv, if_neg hv]
        rfl
    have hst : ∀ (s' : Nat → Int32) (B' : Nat → Nat → Int32), s' 0 = 0 → (∀ k, k ≠ 0 → k ≠ 8 → s' k = s k) → (∀ k, k = 1 ∨ 10 < k → B' k = B k) → rSta (u2 (u2 o1 2 1 0) 2 2 1) A1 s' B' := fun s' B' m2 m3 m4 => keep _ _ _ _ (fun k h1 h2 => by rw [u2_n _ _ _ h2, u2_n _ _ _ h2, c3 k h1, u2_n _ _ _ h1]) (by rw [u2_ne _ _ (by decide), u2_self]) c4 m2 m3 m4
    by_cases hv : illV (B 1) (lns (B 1) n) (sc1 (B 1) (lns (B 1) n) (lns (B 1) n).1 0 (fun _ => -1)) = -1
    · obtain ⟨la', j', d1, d2, d3⟩ := c7 hv
      refine ⟨bo, _, u2 (u2 o1 2 1 0) 2 2 1, A1, va_up q p (some nx), F2, nx2, by omega, by rw [hload', if_pos hv, eX_q], by omega, hF2, fun G => ?_⟩
      obtain ⟨s', B', w', m1, m2, m3, m4, m5, m6⟩ := M_load (m := m) (N := N) (G := G) (s := s) (w := w) (n := n) hN hn hp (B := B) t2 hch
      rcases m6 with ⟨la, v1, v2, v3⟩ | ⟨v1, v2⟩
      · have ela : la' = la := by
          have h6 := v2.2.2.2.2.2.1
          rw [d2] at h6
          exact Sum.inr.inj h6
        refine ⟨s', B', w', m1, hst s' B' m2 m3 m4, fun p' hp' => ?_⟩
        by_cases hpp : p' = p
        · subst hpp
          rw [va_up_self]
          exact Or.inr ⟨nx, B 1, n, la, j', rfl, v3, v2, hx, d1, by rw [← ela]; exact d3⟩
        · rw [va_up_ne _ _ hpp]
          have hreg := m5 p' hp' hpp
          rcases hq p' hp' with ⟨h1, h2⟩ | ⟨a, t, n', la, j, h1, h2, h3, h4, h5, h6⟩
          · exact Or.inl ⟨h1, by rw [hreg.2.2.1]; exact h2⟩
          · exact Or.inr ⟨a, t, n', la, j, h1, by rw [hreg.2.2.1]; exact h2, progM_reg h3 hreg, h4, h5, scK_mv h6 (by omega) (fun b _ hb => hF2 b hb)⟩
      · exact absurd hv v1
    · refine ⟨bo, _, u2 (u2 o1 2 1 0) 2 2 1, A1, q, F2, nx2, by omega, by rw [hload', if_neg hv], by omega, hF2, fun G => ?_⟩
      obtain ⟨s', B', w', m1, m2, m3, m4, m5, m6⟩ := M_load (m := m) (N := N) (G := G) (s := s) (w := w) (n := n) hN hn hp (B := B) t2 hch
      rcases m6 with ⟨la, v1, v2, v3⟩ | ⟨v1, v2⟩
      · exact absurd v1 hv
      · refine ⟨s', B', w', m1, hst s' B' m2 m3 m4, rScr_mv hq (fun p' hp' => ?_) (by omega) (fun a _ ha => hF2 a ha)⟩
        by_cases hpp : p' = p
        · subst hpp
          exact v2
        · exact m5 p' hp' hpp
end LOAD
