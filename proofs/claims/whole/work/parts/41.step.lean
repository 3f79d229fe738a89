/-! ===== a run: the loop ===== -/
section LOO
variable {S : hE} {g fa wa ka : Nat → Nat} {x m N nx n p d bd sc j : Nat} {q : Nat → Option Nat} {F G : hE} {t la : Nat → Int32}
theorem X_at1 {o A : Nat → Nat → Int32} {g0 cnt ln cap i : Nat} {pl : Nat → Int32} {sts : Nat → stI} (hx : x + 51 ≤ sc) (hn : cap < 2 ^ 31) (hcnt : cnt < 2 ^ 31) (h : scB g0 fa F nx sc cnt pl ln cap sts) (hi : i < cnt) : ∃ a, f_Script_at (eX x o A q F) sc (nI i) = some (some a) ∧ x + 51 ≤ a ∧ F a = some (.inr (4, stL fa (sts i))) := by
  obtain ⟨e1, ⟨fs, e2⟩, e3, -, -⟩ := sc_size (x := x) (o := o) (A := A) (q := q) hx h
  obtain ⟨h1, h2, h3, arr, md, h4, h5⟩ := h
  rcases h5 with ⟨c1, -⟩ | ⟨b1, b2, b3, b4, el, b5, -, b6⟩
  · omega
  · obtain ⟨a, d1, d2, d3, d4, d5⟩ := b6 i hi
    have c5 : eX x o A q F (sc + 1) = some (.inr (8, [.ref arr, .int (nI cnt), .int md])) := by rw [eX_hi (by omega)]; exact h4
    have c6 : eX x o A q F arr = some (.inl (6, cap, .inr (.inr (.inr (.inr el))))) := by rw [eX_hi (by omega)]; exact b5
    have c7 : eX x o A q F a = some (.inr (4, stL fa (sts i))) := by rw [eX_hi (by omega)]; exact d5
    refine ⟨a, ?_, by omega, d5⟩
    have hg : f_AL_get (eX x o A q F) (sc + 1) (nI i) = some (some a) := by
      unfold f_AL_get f_Objs_checkIndex f_Pre_checkIndex f_AL_elementData
      rw [gI_at (k := 1) c5 rfl, Option.bind_some, if_neg (nI_pos (by omega)), if_pos (nI_lt hi (by omega)), Option.bind_some, Option.bind_some, gO_at c5, Option.bind_some, gR_at (k := 0) c5 rfl, Option.bind_some, aQ_at c6 (by omega) (by omega), d1, Option.bind_some, Option.bind_some]
    have hk : kC (eX x o A q F) (some a) 4 = some () := by
      unfold kC
      rw [gO_at c7]
      rfl
    unfold f_Script_at f_Script_at_b30
    rw [if_neg (nI_pos (by omega))]
    simp only [e1, e2, e3, Option.bind_some]
    rw [if_neg (nI_ge hi hcnt), hg, Option.bind_some, hk, Option.bind_some]
theorem X_at0 {o A : Nat → Nat → Int32} {g0 cnt ln cap : Nat} {pl : Nat → Int32} {sts : Nat → stI} (hx : x + 51 ≤ sc) (hcnt : cnt < 2 ^ 31) (h : scB g0 fa F nx sc cnt pl ln cap sts) : f_Script_at (eX x o A q F) sc (nI cnt) = some none := by
  obtain ⟨e1, ⟨fs, e2⟩, e3, -, -⟩ := sc_size (x := x) (o := o) (A := A) (q := q) hx h
  unfold f_Script_at f_Script_at_b29 f_Script_at_b30
  rw [if_neg (nI_pos hcnt)]
  simp only [e1, e2, e3, Option.bind_some]
  rw [if_pos (nI_le (Nat.le_refl _) hcnt)]
theorem sc2_no {l : Nat × (Nat → Nat) × (Nat → Nat)} : ∀ (r k : Nat), sc2 t l la r k = none → ∀ i, k ≤ i → i < k + r → miss t (Wl t l i) la = false := by
  intro r
  induction r with
  | zero => intro k _ i h1 h2; omega
  | succ r ih =>
    intro k h i h1 h2
    rw [sc2] at h
    by_cases hm : miss t (Wl t l k) la = true
    · rw [if_pos hm] at h
      cases h
    · rw [if_neg hm] at h
      by_cases hik : i = k
      · subst hik
        exact Bool.eq_false_iff.mpr hm
      · exact ih (k + 1) h i (by omega) (by omega)
/-- labels that a statement names are there -/
theorem lab_ok {l : Nat × (Nat → Nat) × (Nat → Nat)} {k c : Nat} {u : Nat × vSt} (hl4 : l.1 ≤ 400) (h2 : sc2 t l la l.1 0 = none) (hla : ∀ c, c < 26 → la c = -1 ∨ ∃ k', k' < l.1 ∧ la c = nI k') (hk : k < l.1) (hs : stmtL t (Wl t l k) = true) (hu : stm t (Wl t l k) = some u) (hc : c < 26) (hv : u.2.2.2.2.2 = nI c) : ∃ k', k' < l.1 ∧ la c = nI k' := by
  refine (hla c hc).resolve_left fun h1 => ?_
  have hm := sc2_no l.1 0 h2 k (Nat.zero_le _) (by omega)
  unfold miss at hm
  have hs' : (!decide ((Wl t l k).1 = 0) && !labL t (Wl t l k)) = true := hs
  rw [hs', hu, Bool.true_and] at hm
  have hm' : lbm la u.2.2.2.2.2 = false := hm
  unfold lbm at hm'
  rw [hv, cN_nI (by omega), h1] at hm'
  rw [decide_eq_false (neg2 (by omega))] at hm'
  exact absurd hm' (by decide)
/-- any statement but run -/
theorem L_step {bd st k a : Nat} {o A B : Nat → Nat → Int32} {s : Nat → Int32} {w : Nat → Int64} {l W : Nat × (Nat → Nat) × (Nat → Nat)} {fol : Nat → Option Nat → Option Nat → Int32 → hE → Option (Int32 × hE)} {i : Nat} {u : vSt} (hi : i < 18) (h15 : i ≠ 15) (hN : 400 < N) (hc : conS S g fa wa ka) (hp : p < 4) (h : mid bd st d p k t l o A s B) (hl : lSt s B w t (400 * p) W) (he : ∀ j, j < W.1 → W.2.2 j ≤ 400) (ha : eX x o A q F a = some (.inr (4, stL fa (k, i, u)))) (hf : fit t W i = some u) (hL : ∀ c, c < 26 → u.2.2.2.2 = nI c → ∃ k', k' < l.1 ∧ B 7 (26 * p + c) = nI k' ∧ f_Script_placeOf (eX x o A q F) sc (nI c) = some (nI (cst t l k')) ∧ ∃ fs, gO (eX x o A q F) (some sc) 3 = some (sc, fs)) : okS x m q F G w bd st d p t l o A B (f_Mach_perform S g N fol (x + 6) (some a) (some sc) (some (x + fo d)) (eX x o A q F)) (f_M_work N m (nI d) (eM m s B w G)) := by
  rcases (show i = 0 ∨ i = 1 ∨ i = 2 ∨ i = 3 ∨ i = 4 ∨ i = 5 ∨ i = 6 ∨ i = 7 ∨ i = 8 ∨ i = 9 ∨ i = 10 ∨ i = 11 ∨ i = 12 ∨ i = 13 ∨ i = 14 ∨ i = 16 ∨ i = 17 by omega) with rfl | rfl | rfl | rfl | rfl | rfl | rfl | rfl | rfl | rfl | rfl | rfl | rfl | rfl | rfl | rfl | rfl
  · exact st_0 hN hc h hl he ha hf
  · exact st_1 hN hc h hl he ha hf
  · exact st_2 hN hc h hl he ha hf
  · exact st_3 hN hc h hl he ha hf
  · exact st_4 hN hc h hl he ha hf
  · exact st_5 hN hc h hl he ha hf
  · exact st_6 hN hc h hl he ha hf
  · exact st_7 hN hc h hl he ha hf
  · exact st_8 hN hc h hl he ha hf
  · exact st_9 hN hc h hl he ha hf
  · exact st_10 hN hc h hl he ha hf
  · exact st_11 hN hc h hl he ha hf hL hp
  · exact st_12 hN hc h hl he ha hf hL hp
  · exact st_13 hN hc h hl he ha hf hL hp
  · exact st_14 hN hc h hl he ha hf
  · exact st_16 hN hc h hl he ha hf
  · exact st_17 hN hc h hl he ha hf
/-- how a program's run goes, on both sides -/
def outR (x m : Nat) (q : Nat → Option Nat) (F G : hE) (N bd st d : Nat) (o A B : Nat → Nat → Int32) (rS : Option (Int32 × hE)) (E0 : hE) : Prop := ∃ (v : Int32) (o' A' : Nat → Nat → Int32) (s' : Nat → Int32) (B' : Nat → Nat → Int32) (w' : Nat → Int64) (st' c : Nat), rS = some (v, eX x o' A' q F) ∧ c + 2 * st ≤ 2 * st' + 1 ∧ st ≤ st' ∧ st' ≤ bd ∧ (∀ k, k ≤ 7 → B' k = B k) ∧ loFr d o A B o' A' B' ∧ fG d A' B' ∧ o' (fo d) 6 = B' 18 d ∧
  ((¬ v = -1 ∧ jR bd st' 0 o' A' s' B' ∧ ∀ n, f_M_run_b61 N (n + c) (some m) (nI bd) (-1) E0 = f_M_run_b116 N (f_M_run_b61 N n) (some m) (nI bd) (-1) (nI d) v (eM m s' B' w' G)) ∨ (v = 107 ∧ jR bd st' 1 o' A' s' B' ∧ ∀ n, f_M_run_b61 N (n + c) (some m) (nI bd) (-1) E0 = f_M_run_b61 N n (some m) (nI bd) 107 (eM m s' B' w' G)))
/-- what a child's run is -/
def chl (S : hE) (g fa : Nat → Nat) (x m N nx bd : Nat) (q : Nat → Option Nat) (F G : hE) (d : Nat) (fol : Nat → Option Nat → Option Nat → Int32 → hE → Option (Int32 × hE)) : Prop := ∀ (p sc st : Nat) (o A : Nat → Nat → Int32) (s : Nat → Int32) (B : Nat → Nat → Int32) (w : Nat → Int64) (arg : Int32), p < 4 → q p = some sc → st ≤ bd → rScr x (g 0) fa q B F nx → jR bd st 0 o A s B → ∃ (s1 : Nat → Int32) (B1 : Nat → Nat → Int32), f_M_begin N m (nI d) (nI p) arg (eM m s B w G) = some (eM m s1 B1 w G) ∧ outR x m q F G N bd st d o A B (fol (x + 6) (some sc) (some (x + fo d)) arg (eX x o A q F)) (eM m s1 B1 w G)
theorem X_scr1 {o A : Nat → Nat → Int32} {i : Nat} (h : i < 4) : f_Mach_scriptAt (eX x o A q F) (x + 6) (nI i) = some (q i) := by
  unfold f_Mach_scriptAt
  rw [if_neg (nI_pos (by omega)), if_neg (show ¬ (4 : Int32) ≤ nI i from nI_ge (b := 4) h (by decide)), xm_0, Option.bind_some, xq_Q h, Option.bind_some]
  rfl
theorem X_scr0 {o A : Nat → Nat → Int32} {i : Int32} (h : i < 0 ∨ nI 4 ≤ i) : f_Mach_scriptAt (eX x o A q F) (x + 6) i = some none := by
  unfold f_Mach_scriptAt
  by_cases h0 : i < 0
  · rw [if_pos h0]
    rfl
  · have h1 : nI 4 ≤ i := h.resolve_left h0
    rw [if_neg h0, if_pos (show (4 : Int32) ≤ i from h1)]
    rfl
theorem M_prg0 {s : Nat → Int32} {B : Nat → Nat → Int32} {w : Nat → Int64} {i : Int32} (h : i < 0 ∨ nI 4 ≤ i) : f_M_isProgram (eM m s B w G) m i = some 0 := by
  unfold f_M_isProgram
  rw [show f_M_in (eM m s B w G) i 0 3 = some 0 from M_ix0 (n := 3) h (by decide)]
  rfl
theorem M_prg1 {s : Nat → Int32} {B : Nat → Nat → Int32} {w : Nat → Int64} {i : Nat} (h : i < 4) : f_M_isProgram (eM m s B w G) m (nI i) = some (if B 6 i = 0 then 0 else 1) := by
  unfold f_M_isProgram
  rw [show f_M_in (eM m s B w G) (nI i) 0 3 = some 1 from M_ix1 (n := 3) (by omega) (by decide)]
  simp only [Option.bind_some, show ¬ (1 : Int32) = 0 from by decide, if_false, mg_6, ma_6 (show i < 5 by omega)]
  by_cases hz : B 6 i = 0
  · rw [if_pos hz, if_pos hz]; rfl
  · rw [if_neg hz, if_neg hz]; rfl
set_option maxRecDepth 10000 in
theorem st_15 {bd st k a : Nat} {o A B : Nat → Nat → Int32} {s : Nat → Int32} {w : Nat → Int64} {l W : Nat × (Nat → Nat) × (Nat → Nat)} {fol : Nat → Option Nat → Option Nat → Int32 → hE → Option (Int32 × hE)} {u : vSt} (hN : 400 < N) (hc : conS S g fa wa ka) (hbd : st ≤ bd) (h : mid bd st d p k t l o A s B) (hl : lSt s B w t (400 * p) W) (he : ∀ j, j < W.1 → W.2.2 j ≤ 400) (ha : eX x o A q F a = some (.inr (4, stL fa (k, 15, u)))) (hf : fit t W 15 = some u) (hq : rScr x (g 0) fa q B F nx) (hch : d < 3 → chl S g fa x m N nx bd q F G (d + 1) fol) :
    okS x m q F G w bd st d p t l o A B (f_Mach_perform S g N fol (x + 6) (some a) (some sc) (some (x + fo d)) (eX x o A q F)) (f_M_work N m (nI d) (eM m s B w G)) ∨
    ∃ (s1 : Nat → Int32) (B1 o' A' : Nat → Nat → Int32) (s' : Nat → Int32) (B' : Nat → Nat → Int32) (w' : Nat → Int64) (st' c : Nat), f_M_work N m (nI d) (eM m s B w G) = some (-1, eM m s1 B1 w G) ∧ c + 2 * st ≤ 2 * st' + 1 ∧ st ≤ st' ∧ st' ≤ bd ∧ (∀ k, k ≤ 7 → B' k = B k) ∧ loFr d o A B o' A' B' ∧ fG d A' B' ∧
      ((f_Mach_perform S g N fol (x + 6) (some a) (some sc) (some (x + fo d)) (eX x o A q F) = some (-1, eX x o' A' q F) ∧ jR bd st' 0 o' A' s' B' ∧ s' 25 = nI d ∧ fR d p (k + 1) (k + 1) t l o' A' B' ∧ ∀ n, f_M_run_b61 N (n + c) (some m) (nI bd) (-1) (eM m s1 B1 w G) = f_M_run_b61 N n (some m) (nI bd) (-1) (eM m s' B' w' G)) ∨
       (f_Mach_perform S g N fol (x + 6) (some a) (some sc) (some (x + fo d)) (eX x o A q F) = some (107, eX x o' A' q F) ∧ jR bd st' 1 o' A' s' B' ∧ o' (fo d) 6 = B' 18 d ∧ ∀ n, f_M_run_b61 N (n + c) (some m) (nI bd) (-1) (eM m s1 B1 w G) = f_M_run_b61 N n (some m) (nI bd) 107 (eM m s' B' w' G))) := by
  obtain ⟨h1, h2, b0, b1, b2, rfl⟩ := fi_15 hf
  have hd := h.2.2.2.2.2
  have hfo := fo_eq hd
  have hk := h.2.1.2.2.2.1
  have hw : w 0 = 7501166 := (kw_w hl (by omega) [114, 117, 110] (by decide) (by decide)).mpr h2
  obtain ⟨g0, g1, g2, g3, g4, g5, g6⟩ := st_rd ha
  obtain ⟨r, hr, e1, e2⟩ := reg1 hl (by omega) b0
  obtain ⟨X, hx1, hx2⟩ := M_val (x := x) (o := o) (q := q) (F := F) (m := m) (G := G) (N := N) hN hd hl (k := 2) (by omega) (by decide) (he 2 (by omega)) b1 h.2.1.1
  have hx1 : f_M_value N (eM m s B w G) m (nI d) 2 = some X := hx1
  obtain ⟨Y, hy1, hy2⟩ := M_val (x := x) (o := o) (q := q) (F := F) (m := m) (G := G) (N := N) hN hd hl (k := 3) (by omega) (by decide) (he 3 (by omega)) b2 h.2.1.1
  have hy1 : f_M_value N (eM m s B w G) m (nI d) 3 = some Y := hy1
  have hS : f_Mach_perform S g N fol (x + 6) (some a) (some sc) (some (x + fo d)) (eX x o A q F) = f_Mach_runChild N fol (x + 6) (some (x + fo d)) (nI r) X Y (eX x o A q F) := by
    unfold f_Mach_perform
    simp only [g3, xf_O (fo_fr hd), Option.bind_some, hx2, g5, hy2, g1, con_f hc (i := 15) (by decide), con_s hc (i := 15) (by decide)]
    rw [if_neg (by decide), if_neg (by decide), if_neg (by decide), if_neg (by decide), if_neg (by decide), if_neg (by decide), if_neg (by decide), if_neg (by decide), if_neg (by decide), if_neg (by decide), if_neg (by decide), if_neg (by decide), if_neg (by decide), if_neg (by decide), if_neg (by decide), if_pos (by decide)]
    simp only [g2, e1, xm_O, Option.bind_some]
    cases f_Mach_runChild N fol (x + 6) (some (x + fo d)) (nI r) X Y (eX x o A q F) <;> rfl
  have hM : f_M_work N m (nI d) (eM m s B w G) = f_M_child N m (nI d) X Y (eM m s B w G) := by
    unfold f_M_work
    simp only [mg_9, mg_w0, hw, Option.bind_some]
    rw [if_neg (by decide), if_neg (by decide), if_neg (by decide), if_neg (by decide), if_neg (by decide), if_neg (by decide), if_neg (by decide), if_neg (by decide), if_neg (by decide), if_neg (by decide), if_neg (by decide), if_neg (by decide), if_neg (by decide), if_neg (by decide), if_pos (by decide)]
    simp only [mgO, hx1, hy1, Option.bind_some]
    cases f_M_child N m (nI d) X Y (eM m s B w G) <;> rfl
  rw [hS, hM]
  unfold f_Mach_runChild f_M_child
  simp only [xm_O, mgO, Option.bind_some]
  rcases pk_ix X (n := 4) (by decide) with h0 | h0 | ⟨p', hp', rfl⟩
  · rw [X_scr0 (Or.inl h0), M_prg0 (Or.inl h0)]
    exact Or.inl (ok_exit h (v := 102) (by decide) rfl rfl)
  · rw [X_scr0 (Or.inr h0), M_prg0 (Or.inr h0)]
    exact Or.inl (ok_exit h (v := 102) (by decide) rfl rfl)
  · rw [X_scr1 hp', M_prg1 hp']
    rcases hq p' hp' with ⟨q1, q2⟩ | ⟨sc', t', n', la', j', q1, q2, q3, q4, q5, q6⟩
    · rw [q1, q2]
      exact Or.inl (ok_exit h (v := 102) (by decide) rfl rfl)
    · rw [q1, q2]
      simp only [Option.bind_some, reduceCtorEq, if_false, show ¬ (1 : Int32) = 0 from by decide, xf_0 (fo_fr hd), fo_D hd]
      rw [if_neg (nI_pos (by omega))]
      by_cases h3 : d = 3
      · subst h3
        rw [if_neg (by decide), if_pos (by rfl)]
        exact Or.inl (ok_exit h (v := 105) (by decide) rfl rfl)
      · have h3' : d < 3 := by omega
        rw [if_pos (show nI d < 3 from nI_lt (b := 3) h3' (by decide)), if_neg (show ¬ nI d = 3 from fun z => h3 ((nI_eq (by omega) (by decide)).mp z))]
        have hfd : 39 + 4 * d = fo (d + 1) := by unfold fo; rw [if_neg (by omega)]; omega
        unfold f_M_registerOf
        simp only [xm_6, Option.bind_some, xv_Q h3', hfd, xm_O, mg_28, mgO, mg_9, mg_w1, e2, mt_19 hd, nI_1]
        obtain ⟨B2, hB2⟩ : ∃ B2, B2 = va_up B 19 (upd (B 19) d (nI r)) := ⟨_, rfl⟩
        have o19 : B2 19 = upd (B 19) d (nI r) := by rw [hB2, va_up_self]
        have oo : ∀ i, i ≠ 19 → B2 i = B i := fun i hi => by rw [hB2, va_up_ne _ _ hi]
        rw [← hB2]
        have hj2 : jR bd st 0 o A s B2 := jR_mv h.1 (fun _ _ => rfl) (fun _ _ => rfl) (fun _ _ _ _ => rfl) (fun i hi _ _ => oo i (by omega))
        have hq2 : rScr x (g 0) fa q B2 F nx := rScr_mv hq (fun i hi => regQ_of (fun y hy1 hy2 => oo y (by omega))) (Nat.le_refl _) (fun _ _ _ => rfl)
        have hR2 : fR d p k (k + 1) t l o A B2 := by
          obtain ⟨⟨f1, f2⟩, ⟨c, c1, c2, c3, c4⟩, f3, f4, f5⟩ := h.2.1
          exact ⟨⟨fun i hi => by rw [oo 20 (by decide)]; exact f1 i hi, fun i hi => by rw [oo 21 (by decide)]; exact f2 i hi⟩, ⟨c, c1, c2, by rw [oo 22 (by decide)]; exact c3, fun i hi => by rw [oo 23 (by decide)]; exact c4 i hi⟩, by rw [oo 17 (by decide)]; exact f3, by rw [oo 18 (by decide)]; exact f4, f5⟩
        have hl2 : loFr d o A B o A B2 := ⟨fun _ _ => ⟨rfl, rfl, rfl, rfl⟩, fun i hi => ⟨by rw [oo 20 (by decide)], by rw [oo 23 (by decide)]⟩, fun i hi => by rw [oo 21 (by decide)], fun e he => ⟨by rw [oo 17 (by decide)], by rw [oo 18 (by decide)], by rw [o19, upd_ne _ _ (by omega)], by rw [oo 22 (by decide)]⟩⟩
        obtain ⟨s1, B1, a1, v, o', A', s', B', w', st', c, a2, a3, a4, a5, a6, a7, a8, a9, a10⟩ := hch h3' p' sc' st o A s B2 w Y hp' q1 hbd hq2 hj2
        rw [a1, a2]
        simp only [Option.bind_some]
        have hRl := fR_lo hR2 a7 (show d < d + 1 by omega)
        have b19 : B' 19 d = nI r := by rw [(a7.2.2.2 d (by omega)).2.2.1, o19, upd_self]
        have l7 : loFr d o A B o' A' B' := loFr_trans hl2 (loFr_le a7 (by omega))
        have k7 : ∀ k, k ≤ 7 → B' k = B k := fun y hy => by rw [a6 y hy, oo y (by omega)]
        rcases a10 with ⟨hv, hj', hn⟩ | ⟨hv, hj', hn⟩
        · have z12 : o' 6 12 = 0 := hj'.2.2.2.2.2.2.2.2.2.2.2.2.1
          simp only [xm_12, z12, Option.bind_some, if_true, xf_O (fo_fr hd), X_set hd hr]
          obtain ⟨B3, hB3⟩ : ∃ B3, B3 = va_up (va_up B' 20 (upd (B' 20) (8 * d + r) v)) 18 (upd (B' 18) d (nI (k + 1))) := ⟨_, rfl⟩
          obtain ⟨A3, hA3⟩ : ∃ A3, A3 = va_up A' (fo d + 1) (upd (A' (fo d + 1)) r v) := ⟨_, rfl⟩
          have e18 : B3 18 = upd (B' 18) d (nI (k + 1)) := by rw [hB3, va_up_self]
          have e20 : B3 20 = upd (B' 20) (8 * d + r) v := by rw [hB3, va_up_ne _ _ (by decide), va_up_self]
          have eo : ∀ i, i ≠ 18 → i ≠ 20 → B3 i = B' i := fun i i1 i2 => by rw [hB3, va_up_ne _ _ i1, va_up_ne _ _ i2]
          have a31 : A3 (fo d + 1) = upd (A' (fo d + 1)) r v := by rw [hA3, va_up_self]
          have ao : ∀ i, i ≠ fo d + 1 → A3 i = A' i := fun i i1 => by rw [hA3, va_up_ne _ _ i1]
          obtain ⟨⟨f1, f2⟩, ⟨c', c1, c2, c3, c4⟩, f3, f4, f5⟩ := hRl
          have hg3 : fG d A3 B3 := by
            refine ⟨fun i hi => ?_, fun i hi => ?_⟩
            · rw [a31, e20]
              by_cases hir : i = r
              · subst hir
                rw [upd_self, upd_self]
              · rw [upd_ne _ _ hir, upd_ne _ _ (by omega)]
                exact f1 i hi
            · rw [ao _ (by omega), eo 21 (by decide) (by decide)]
              exact f2 i hi
          have l3 : loFr d o' A' B' o' A3 B3 := by
            refine ⟨fun e he => ?_, fun y hy => ⟨by rw [e20, upd_ne _ _ (by omega)], by rw [eo 23 (by decide) (by decide)]⟩, fun y hy => by rw [eo 21 (by decide) (by decide)], fun e he => ⟨by rw [eo 17 (by decide) (by decide)], by rw [e18, upd_ne _ _ (by omega)], by rw [eo 19 (by decide) (by decide)], by rw [eo 22 (by decide) (by decide)]⟩⟩
            have hfe := fo_eq (show e < 4 by omega)
            exact ⟨rfl, ao _ (by omega), ao _ (by omega), ao _ (by omega)⟩
          refine Or.inr ⟨s1, B1, o', A3, upd s' 25 (nI d), B3, w', st', c, rfl, a3, a4, a5, fun y hy => by rw [eo y (by omega) (by omega), k7 y hy], loFr_trans l7 l3, hg3, Or.inl ⟨by rw [← hA3], ?_, upd_self _ _ _, ⟨hg3, ⟨c', c1, c2, by rw [eo 22 (by decide) (by decide)]; exact c3, fun i hi => ?_⟩, by rw [eo 17 (by decide) (by decide)]; exact f3, by rw [e18, upd_self], f5⟩, fun y => ?_⟩⟩
          · exact jR_mv hj' (fun _ _ => rfl) (fun i hi => ao i (by omega)) (fun i _ _ i3 => upd_ne _ _ i3) (fun i i1 _ _ => eo i (by omega) (by omega))
          · obtain ⟨y1, y2, y3, y4⟩ := c4 i hi
            exact ⟨y1, y2, by rw [eo 23 (by decide) (by decide)]; exact y3, by rw [ao _ (by omega)]; exact y4⟩
          · rw [hn y]
            unfold f_M_run_b116 f_M_run_b177
            rw [if_neg hv, if_neg (nI_ne0 (by omega) (by omega)), nI_pred]
            unfold f_M_set
            simp only [ms_25, Option.bind_some, mg_28, ma_19 hd, b19, mgO, mg_29, show (8 : Int32) = nI 8 from rfl, pk_mul, nI_add, mt_20 (show 8 * d + r < 32 by omega), mg_27]
            have e18' : va_up B' 20 (upd (B' 20) (8 * d + r) v) 18 = B' 18 := va_up_ne _ _ (by decide)
            simp only [ma_18 hd, e18', f4, nI_1, mt_18 hd, Option.bind_some, ← hB3]
        · have z12 : o' 6 12 = 1 := hj'.2.2.2.2.2.2.2.2.2.2.2.2.1
          simp only [xm_12, z12, Option.bind_some, show ¬ (1 : Int32) = 0 from by decide, if_false]
          refine Or.inr ⟨s1, B1, o', A', s', B', w', st', c, rfl, a3, a4, a5, k7, l7, hRl.1, Or.inr ⟨rfl, hj', ?_, hn⟩⟩
          rw [(a7.1 d (by omega)).1, h.2.2.1, hRl.2.2.2.1]
end LOO
