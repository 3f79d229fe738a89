/-! ===== a run: frames of both sides ===== -/
def fo (d : Nat) : Nat := if d = 0 then 13 else 35 + 4 * d
theorem d4 {d : Nat} (h : d < 4) : d = 0 ∨ d = 1 ∨ d = 2 ∨ d = 3 := by omega
theorem fo_eq {d : Nat} (h : d < 4) : (d = 0 ∧ fo d = 13) ∨ (d = 1 ∧ fo d = 39) ∨ (d = 2 ∧ fo d = 43) ∨ (d = 3 ∧ fo d = 47) := by
  rcases d4 h with rfl | rfl | rfl | rfl
  · exact Or.inl ⟨rfl, rfl⟩
  · exact Or.inr (Or.inl ⟨rfl, rfl⟩)
  · exact Or.inr (Or.inr (Or.inl ⟨rfl, rfl⟩))
  · exact Or.inr (Or.inr (Or.inr ⟨rfl, rfl⟩))
theorem fo_fr {d : Nat} (h : d < 4) : isFr (fo d) := by
  have := fo_eq h
  unfold isFr
  omega
theorem fo_D {d : Nat} (h : d < 4) : xD (fo d) = d := by
  rcases d4 h with rfl | rfl | rfl | rfl <;> rfl
def jR (bd st : Nat) (z : Int32) (o A : Nat → Nat → Int32) (s : Nat → Int32) (B : Nat → Nat → Int32) : Prop :=
  rTape (o 2) (A 3) (s 0) (B 1) ∧ rFiles o A B ∧ rOut (o 9) (A 10) (s 21) (B 15) ∧ rOut (o 11) (A 12) (s 22) (B 16) ∧ rPl (A 8) (B 14) ∧ o 6 7 = 1 ∧ s 16 = 1 ∧ o 6 8 = nI st ∧ s 17 = nI st ∧ o 6 9 = s 19 ∧ o 6 10 = s 18 ∧ o 6 11 = nI bd ∧ o 6 12 = z ∧ ∃ h, h < 4 ∧ s 19 = nI h
section JR
variable {bd st d e p k kn : Nat} {z : Int32} {o A B o' A' B' o1 A1 B1 : Nat → Nat → Int32} {s s' : Nat → Int32} {t : Nat → Int32} {l : Nat × (Nat → Nat) × (Nat → Nat)}
theorem jR_mv (h : jR bd st z o A s B) (ho : ∀ k, (k < 13 ∨ (17 ≤ k ∧ k < 39)) → o' k = o k) (hA : ∀ k, (k < 13 ∨ (17 ≤ k ∧ k < 39)) → A' k = A k) (hs : ∀ k, k ≠ 8 → k ≠ 20 → k ≠ 25 → s' k = s k) (hB : ∀ k, k ≤ 16 → k ≠ 9 → k ≠ 10 → B' k = B k) : jR bd st z o' A' s' B' := by
  obtain ⟨h1, h2, h3, h4, h5, h6, h7, h8, h9, h10, h11, h12, h13, h14⟩ := h
  have o6 := ho 6 (by omega)
  refine ⟨?_, ?_, ?_, ?_, ?_, ?_, ?_, ?_, ?_, ?_, ?_, ?_, ?_, ?_⟩
  · rw [ho 2 (by omega), hA 3 (by omega), hs 0 (by decide) (by decide) (by decide), hB 1 (by decide) (by decide) (by decide)]; exact h1
  · intro f hf
    rw [ho (19 + 2 * f) (by omega), hA (19 + 2 * f + 1) (by omega), hB 11 (by decide) (by decide) (by decide), hB 12 (by decide) (by decide) (by decide), hB 13 (by decide) (by decide) (by decide)]; exact h2 f hf
  · rw [ho 9 (by omega), hA 10 (by omega), hs 21 (by decide) (by decide) (by decide), hB 15 (by decide) (by decide) (by decide)]; exact h3
  · rw [ho 11 (by omega), hA 12 (by omega), hs 22 (by decide) (by decide) (by decide), hB 16 (by decide) (by decide) (by decide)]; exact h4
  · rw [hA 8 (by omega), hB 14 (by decide) (by decide) (by decide)]; exact h5
  · rw [o6]; exact h6
  · rw [hs 16 (by decide) (by decide) (by decide)]; exact h7
  · rw [o6]; exact h8
  · rw [hs 17 (by decide) (by decide) (by decide)]; exact h9
  · rw [o6, hs 19 (by decide) (by decide) (by decide)]; exact h10
  · rw [o6, hs 18 (by decide) (by decide) (by decide)]; exact h11
  · rw [o6]; exact h12
  · rw [o6]; exact h13
  · rw [hs 19 (by decide) (by decide) (by decide)]; exact h14
def loFr (d : Nat) (o A B o' A' B' : Nat → Nat → Int32) : Prop := (∀ e, e < d → o' (fo e) = o (fo e) ∧ A' (fo e + 1) = A (fo e + 1) ∧ A' (fo e + 2) = A (fo e + 2) ∧ A' (fo e + 3) = A (fo e + 3)) ∧ (∀ j, j < 8 * d → B' 20 j = B 20 j ∧ B' 23 j = B 23 j) ∧ (∀ j, j < 32 * d → B' 21 j = B 21 j) ∧ ∀ e, e < d → B' 17 e = B 17 e ∧ B' 18 e = B 18 e ∧ B' 19 e = B 19 e ∧ B' 22 e = B 22 e
theorem loFr_refl : loFr d o A B o A B := ⟨fun _ _ => ⟨rfl, rfl, rfl, rfl⟩, fun _ _ => ⟨rfl, rfl⟩, fun _ _ => rfl, fun _ _ => ⟨rfl, rfl, rfl, rfl⟩⟩
theorem loFr_trans (h : loFr d o A B o1 A1 B1) (h' : loFr d o1 A1 B1 o' A' B') : loFr d o A B o' A' B' := by
  obtain ⟨a1, a2, a3, a4⟩ := h
  obtain ⟨b1, b2, b3, b4⟩ := h'
  refine ⟨fun e he => ?_, fun j hj => ?_, fun j hj => (b3 j hj).trans (a3 j hj), fun e he => ?_⟩
  · exact ⟨(b1 e he).1.trans (a1 e he).1, (b1 e he).2.1.trans (a1 e he).2.1, (b1 e he).2.2.1.trans (a1 e he).2.2.1, (b1 e he).2.2.2.trans (a1 e he).2.2.2⟩
  · exact ⟨(b2 j hj).1.trans (a2 j hj).1, (b2 j hj).2.trans (a2 j hj).2⟩
  · exact ⟨(b4 e he).1.trans (a4 e he).1, (b4 e he).2.1.trans (a4 e he).2.1, (b4 e he).2.2.1.trans (a4 e he).2.2.1, (b4 e he).2.2.2.trans (a4 e he).2.2.2⟩
theorem loFr_le (h : loFr d o A B o' A' B') (he : e ≤ d) : loFr e o A B o' A' B' :=
  ⟨fun i hi => h.1 i (by omega), fun j hj => h.2.1 j (by omega), fun j hj => h.2.2.1 j (by omega), fun i hi => h.2.2.2 i (by omega)⟩
def fG (d : Nat) (A B : Nat → Nat → Int32) : Prop := (∀ i, i < 8 → A (fo d + 1) i = B 20 (8 * d + i)) ∧ ∀ i, i < 32 → A (fo d + 2) i = B 21 (32 * d + i)
def fC (t : Nat → Int32) (l : Nat × (Nat → Nat) × (Nat → Nat)) (d : Nat) (o A B : Nat → Nat → Int32) : Prop := ∃ c, c ≤ 8 ∧ o (fo d) 4 = nI c ∧ B 22 d = nI c ∧ ∀ i, i < c → ∃ k, k ≤ l.1 ∧ B 23 (8 * d + i) = nI k ∧ A (fo d + 3) i = nI (cst t l k)
def fR (d p k kn : Nat) (t : Nat → Int32) (l : Nat × (Nat → Nat) × (Nat → Nat)) (o A B : Nat → Nat → Int32) : Prop := fG d A B ∧ fC t l d o A B ∧ B 17 d = nI p ∧ B 18 d = nI k ∧ o (fo d) 5 = nI (cst t l kn)
theorem fG_lo (h : fG e A B) (hl : loFr d o A B o' A' B') (he : e < d) : fG e A' B' := by
  obtain ⟨a1, a2⟩ := h
  obtain ⟨b1, b2, b3, -⟩ := hl
  refine ⟨fun i hi => ?_, fun i hi => ?_⟩
  · rw [(b1 e he).2.1, (b2 _ (by omega)).1]; exact a1 i hi
  · rw [(b1 e he).2.2.1, b3 _ (by omega)]; exact a2 i hi
theorem fC_lo (h : fC t l e o A B) (hl : loFr d o A B o' A' B') (he : e < d) : fC t l e o' A' B' := by
  obtain ⟨c, h1, h2, h3, h4⟩ := h
  obtain ⟨b1, b2, b3, b4⟩ := hl
  refine ⟨c, h1, by rw [(b1 e he).1]; exact h2, by rw [(b4 e he).2.2.2]; exact h3, fun i hi => ?_⟩
  obtain ⟨k, c1, c2, c3⟩ := h4 i hi
  exact ⟨k, c1, by rw [(b2 _ (by omega)).2]; exact c2, by rw [(b1 e he).2.2.2]; exact c3⟩
theorem fR_lo (h : fR e p k kn t l o A B) (hl : loFr d o A B o' A' B') (he : e < d) : fR e p k kn t l o' A' B' := by
  obtain ⟨a1, a2, a3, a4, a5⟩ := h
  refine ⟨fG_lo a1 hl he, fC_lo a2 hl he, ?_, ?_, ?_⟩
  · rw [(hl.2.2.2 e he).1]; exact a3
  · rw [(hl.2.2.2 e he).2.1]; exact a4
  · rw [(hl.1 e he).1]; exact a5
end JR
/-! values of operands -/
theorem opd_cs {t : Nat → Int32} {f e : Nat} (h : isVl t f e = true) : (∃ r, r < 8 ∧ ol t f e = nI (97 + r) ∧ opd t f e = nI (1000000 + r)) ∨ (isRg (ol t f e) = false ∧ ∃ v V, opv t f e = some v ∧ opd t f e = v ∧ V < 1000000 ∧ (v = nI V ∨ v = -nI V)) := by
  unfold isVl at h
  by_cases h1 : isRg (ol t f e) = true
  · obtain ⟨r, hr, hv⟩ := isRg_i.mp h1
    refine Or.inl ⟨r, hr, hv, ?_⟩
    unfold opd
    rw [if_pos h1, hv, show (97 : Int32) = nI 97 from rfl, pk_sub (by omega), show (1000000 : Int32) = nI 1000000 from rfl, nI_add, show 97 + r - 97 = r by omega]
  · have h1' : isRg (ol t f e) = false := Bool.eq_false_iff.mpr h1
    rw [h1', Bool.false_or] at h
    obtain ⟨v, hv⟩ := Option.isSome_iff_exists.mp h
    obtain ⟨V, hV, hvV⟩ := opv_bd hv
    refine Or.inr ⟨h1', v, V, hv, ?_, hV, hvV⟩
    unfold opd
    rw [if_neg h1, hv]
    rfl
section VAL
variable {x m N base d k : Nat} {o A B : Nat → Nat → Int32} {s : Nat → Int32} {w : Nat → Int64} {q : Nat → Option Nat} {F G : hE} {t : Nat → Int32} {W : Nat × (Nat → Nat) × (Nat → Nat)}
theorem X_vneg (v : Int32) (h : v - 1000000 < 0) : f_Frame_valueOf (eX x o A q F) (x + fo d) v = some v := by
  unfold f_Frame_valueOf
  rw [if_pos h]
  rfl
theorem X_vreg {r : Nat} (hd : d < 4) (hr : r < 8) : f_Frame_valueOf (eX x o A q F) (x + fo d) (nI (1000000 + r)) = some (A (fo d + 1) r) := by
  unfold f_Frame_valueOf
  rw [show (1000000 : Int32) = nI 1000000 from rfl, pk_sub (by omega), show 1000000 + r - 1000000 = r by omega, if_neg (nI_pos (by omega)), if_neg (show ¬ (8 : Int32) ≤ nI r from nI_ge (b := 8) hr (by decide)), xf_1 (fo_fr hd), Option.bind_some, xa_I (fr_ar1 (fo_fr hd)) (by rw [fr_n1 (fo_fr hd)]; exact hr), Option.bind_some]
  rfl
theorem val_neg {V : Nat} (h : V ≤ 1000000) : -nI V - 1000000 < 0 := by
  rw [Int32.lt_iff_toInt_lt, Int32.toInt_sub, nN_toInt (by omega)]
  have : ((1000000 : Int32)).toInt = 1000000 := rfl
  rw [this, Int.bmod_def]
  have h0 : ((0 : Int32)).toInt = 0 := rfl
  rw [h0]
  split <;> omega
theorem M_val72 (h7 : k < 7) (hb : base + W.2.2 k ≤ 2000) (hB : B 10 k = nI (base + W.2.2 k)) {y3 : Int32} : ∀ (r c fuel : Nat) (a v : Int32), c + r = W.2.2 k → r < fuel → (∀ i, c ≤ i → i < W.2.2 k → B 2 (base + i) = t i) → nv t c r a = some v → f_M_value_b72 N (eM m s B w G) fuel (some m) (nI k) y3 a (nI (base + c)) = some (if y3 = 0 then v else -v) := by
  intro r
  induction r with
  | zero =>
    intro c fuel a v h1 h2 h3 h4
    obtain ⟨fuel, rfl⟩ : ∃ f, fuel = f + 1 := ⟨fuel - 1, by omega⟩
    rw [f_M_value_b72, mg_11, Option.bind_some, ma_10 h7, Option.bind_some, hB, if_pos (nI_le (by omega) (by omega))]
    have h4' : some a = some v := h4
    rw [Option.some.inj h4']
    by_cases h0 : y3 = 0
    · rw [if_pos h0, if_pos h0]; rfl
    · rw [if_neg h0, if_neg h0]; rfl
  | succ r ih =>
    intro c fuel a v h1 h2 h3 h4
    obtain ⟨fuel, rfl⟩ : ∃ f, fuel = f + 1 := ⟨fuel - 1, by omega⟩
    rw [nv] at h4
    by_cases hd : 48 ≤ t c ∧ t c ≤ 57
    · rw [if_pos hd] at h4
      rw [f_M_value_b72, mg_11, Option.bind_some, ma_10 h7, Option.bind_some, hB, if_neg (nI_ge (by omega) (by omega)), mg_2, Option.bind_some, ma_2 (by omega), Option.bind_some, h3 c (by omega) (by omega), nI_1]
      exact ih (c + 1) fuel _ v (by omega) (by omega) (fun i hi1 hi2 => h3 i (by omega) hi2) h4
    · rw [if_neg hd] at h4
      cases h4
theorem M_val (hN : 400 < N) (hd : d < 4) (h : lSt s B w t base W) (hk : k < W.1) (h7 : k < 7) (he : W.2.2 k ≤ 400) (hv : isVl t (W.2.1 k) (W.2.2 k) = true) (hf : fG d A B) :
    ∃ v, f_M_value N (eM m s B w G) m (nI d) (nI k) = some v ∧ f_Frame_valueOf (eX x o A q F) (x + fo d) (opd t (W.2.1 k) (W.2.2 k)) = some v := by
  obtain ⟨hs, hrest⟩ := h
  obtain ⟨hok, hb, hc⟩ := hrest k hk h7
  obtain ⟨hw, h9, h10⟩ := hs.2 k hk h7
  unfold f_M_value
  rw [mgO, Option.bind_some, M_isReg (W := W) ⟨hs, hrest⟩ rfl hk h7, Option.bind_some]
  rcases opd_cs hv with ⟨r, hr, ho, hp⟩ | ⟨hn, v, V, hv1, hp, hV, hvV⟩
  · have e1 : isRg (ol t (W.2.1 k) (W.2.2 k)) = true := isRg_i.mpr ⟨r, hr, ho⟩
    obtain ⟨o1, o2⟩ := ol_one (t := t) (f := W.2.1 k) (e := W.2.2 k) (by rw [ho]; exact neg2 (by omega))
    rw [e1, if_neg (by decide), hp, X_vreg hd hr]
    refine ⟨_, ?_, rfl⟩
    unfold f_M_registerOf
    simp only [mg_29, Option.bind_some, mgO, mg_9, mg_w h7]
    rw [hw, pk_i32 hok o1, ← o2, ho, show (97 : Int32) = nI 97 from rfl, pk_sub (by omega), show 97 + r - 97 = r by omega, show (8 : Int32) = nI 8 from rfl, pk_mul, nI_add, ma_20 (by omega), hf.1 r hr]
    rfl
  · rw [hn, if_pos (by decide), hp]
    have hfe := hok.1
    simp only [mg_2, mg_10, ma_9 h7, Option.bind_some, h9, ma_2 (show base + W.2.1 k < 2000 by omega), hc _ (Nat.le_refl _) hfe]
    refine ⟨v, ?_, X_vneg v ?_⟩
    · unfold opv at hv1
      by_cases hz : W.2.2 k - W.2.1 k - sgz t (W.2.1 k) < 1 ∨ 6 < W.2.2 k - W.2.1 k - sgz t (W.2.1 k)
      · rw [if_pos hz] at hv1
        cases hv1
      · rw [if_neg hz] at hv1
        obtain ⟨u, hu, huv⟩ := Option.map_eq_some_iff.mp hv1
        by_cases h45 : t (W.2.1 k) = 45
        · have hsg : sgz t (W.2.1 k) = 1 := by unfold sgz; rw [if_pos h45]
          rw [if_pos h45] at huv ⊢
          rw [hsg] at hu hz
          unfold f_M_value_b45 f_M_value_b70
          simp only [show ¬ (1 : Int32) = 0 from by decide, if_false, mg_10, ma_9 h7, Option.bind_some, h9, nI_1]
          have := M_val72 (m := m) (N := N) (s := s) (w := w) (G := G) (W := W) (y3 := 1) h7 hb h10 (W.2.2 k - W.2.1 k - 1) (W.2.1 k + 1) N 0 u (by omega) (by omega) (fun i h1 h2 => hc i (by omega) h2) hu
          rw [← Nat.add_assoc] at this
          rw [this, if_neg (by decide), huv]
        · have hsg : sgz t (W.2.1 k) = 0 := by unfold sgz; rw [if_neg h45]
          rw [if_neg h45] at huv ⊢
          rw [hsg] at hu hz
          unfold f_M_value_b45 f_M_value_b70
          simp only [if_true, mg_10, ma_9 h7, Option.bind_some, h9]
          have := M_val72 (m := m) (N := N) (s := s) (w := w) (G := G) (W := W) (y3 := 0) h7 hb h10 (W.2.2 k - W.2.1 k) (W.2.1 k) N 0 u (by omega) (by omega) hc hu
          rw [this, if_pos rfl, huv]
    · rcases hvV with rfl | rfl
      · exact pk_sneg (b := 1000000) (by decide) hV
      · exact val_neg (by omega)
end VAL
/-! small moves of a frame -/
section MOV
variable {x m d k r : Nat} {o A B : Nat → Nat → Int32} {s : Nat → Int32} {w : Nat → Int64} {q : Nat → Option Nat} {F G : hE} {v : Int32}
theorem M_on (hd : d < 4) (hk : B 18 d = nI k) : f_M_goesOn m (nI d) (eM m s B w G) = some (-1, eM m s (va_up B 18 (upd (B 18) d (nI (k + 1)))) w G) := by
  unfold f_M_goesOn
  simp only [mg_27, Option.bind_some, ma_18 hd, hk, nI_1, mt_18 hd]
theorem M_giv (hd : d < 4) (hr : r < 8) (hw : (w 1).toInt32 - 97 = nI r) (hk : B 18 d = nI k) : f_M_gives m (nI d) v (eM m s B w G) = some (-1, eM m s (va_up (va_up B 20 (upd (B 20) (8 * d + r) v)) 18 (upd (B 18) d (nI (k + 1)))) w G) := by
  unfold f_M_gives f_M_registerOf f_M_set
  simp only [mgO, Option.bind_some, mg_9, mg_w1, hw, mg_29, show (8 : Int32) = nI 8 from rfl, pk_mul, nI_add, mt_20 (show 8 * d + r < 32 by omega)]
  have e : va_up B 20 (upd (B 20) (8 * d + r) v) 18 = B 18 := va_up_ne _ _ (by decide)
  rw [M_on hd (by rw [e]; exact hk), Option.bind_some, e]
theorem X_set (hd : d < 4) (hr : r < 8) : f_Frame_set (x + fo d) (nI r) v (eX x o A q F) = some (eX x o (va_up A (fo d + 1) (upd (A (fo d + 1)) r v)) q F) := by
  unfold f_Frame_set
  rw [if_neg (nI_pos (by omega)), if_neg (show ¬ (8 : Int32) ≤ nI r from nI_ge (b := 8) hr (by decide)), xf_1 (fo_fr hd), Option.bind_some, xa_T (fr_ar1 (fo_fr hd)) (by rw [fr_n1 (fo_fr hd)]; exact hr), Option.bind_some]
  rfl
theorem cst_s {t : Nat → Int32} {l : Nat × (Nat → Nat) × (Nat → Nat)} (h : stmtL t (Wl t l k) = true) : cst t l (k + 1) = cst t l k + 1 := by
  rw [cst, if_pos h]
theorem cst_n {t : Nat → Int32} {l : Nat × (Nat → Nat) × (Nat → Nat)} (h : ¬ stmtL t (Wl t l k) = true) : cst t l (k + 1) = cst t l k := by
  rw [cst, if_neg h]
end MOV
