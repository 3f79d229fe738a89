/-! ===== a run: both alike ===== -/
section LOP
variable {S : hE} {g fa wa ka : Nat → Nat} {x m N nx bd : Nat} {q : Nat → Option Nat} {F G : hE}
theorem outR_pre {st st1 d c0 : Nat} {o A B o1 A1 B1 : Nat → Nat → Int32} {rS : Option (Int32 × hE)} {E0 E1 : hE} (h : outR x m q F G N bd st1 d o1 A1 B1 rS E1) (hl : loFr d o A B o1 A1 B1) (hB : ∀ k, k ≤ 7 → B1 k = B k) (hc : c0 + 2 * st ≤ 2 * st1) (hst : st ≤ st1) (hr : ∀ n, f_M_run_b61 N (n + c0) (some m) (nI bd) (-1) E0 = f_M_run_b61 N n (some m) (nI bd) (-1) E1) : outR x m q F G N bd st d o A B rS E0 := by
  obtain ⟨v, o', A', s', B', w', st', c, a2, a3, a4, a5, a6, a7, a8, a9, a10⟩ := h
  refine ⟨v, o', A', s', B', w', st', c + c0, a2, by omega, by omega, a5, fun k hk => by rw [a6 k hk, hB k hk], loFr_trans hl a7, a8, a9, ?_⟩
  rcases a10 with ⟨b1, b2, b3⟩ | ⟨b1, b2, b3⟩
  · refine Or.inl ⟨b1, b2, fun n => ?_⟩
    rw [← Nat.add_assoc, hr (n + c), b3 n]
  · refine Or.inr ⟨b1, b2, fun n => ?_⟩
    rw [← Nat.add_assoc, hr (n + c), b3 n]
theorem jR_z {st : Nat} {z z' : Int32} {o A B : Nat → Nat → Int32} {s : Nat → Int32} (h : jR bd st z o A s B) : jR bd st z' (u2 o 6 12 z') A s B := by
  obtain ⟨a1, a2, a3, a4, a5, a6, a7, a8, a9, a10, a11, a12, a13, a14⟩ := h
  refine ⟨by rw [u2_n _ _ _ (by decide)]; exact a1, fun f hf => by rw [u2_n _ _ _ (by omega)]; exact a2 f hf, by rw [u2_n _ _ _ (by decide)]; exact a3, by rw [u2_n _ _ _ (by decide)]; exact a4, a5, by rw [u2_ne _ _ (by decide)]; exact a6, a7, by rw [u2_ne _ _ (by decide)]; exact a8, a9, by rw [u2_ne _ _ (by decide)]; exact a10, by rw [u2_ne _ _ (by decide)]; exact a11, by rw [u2_ne _ _ (by decide)]; exact a12, by rw [u2_self], a14⟩
theorem jR_st {st st' : Nat} {z : Int32} {o A B : Nat → Nat → Int32} {s : Nat → Int32} (h : jR bd st z o A s B) : jR bd st' z (u2 o 6 8 (nI st')) A (upd s 17 (nI st')) B := by
  obtain ⟨a1, a2, a3, a4, a5, a6, a7, a8, a9, a10, a11, a12, a13, a14⟩ := h
  refine ⟨by rw [u2_n _ _ _ (by decide), upd_ne _ _ (by decide)]; exact a1, fun f hf => by rw [u2_n _ _ _ (by omega)]; exact a2 f hf, by rw [u2_n _ _ _ (by decide), upd_ne _ _ (by decide)]; exact a3, by rw [u2_n _ _ _ (by decide), upd_ne _ _ (by decide)]; exact a4, a5, by rw [u2_ne _ _ (by decide)]; exact a6, by rw [upd_ne _ _ (by decide)]; exact a7, by rw [u2_self], by rw [upd_self], by rw [u2_ne _ _ (by decide), upd_ne _ _ (by decide)]; exact a10, by rw [u2_ne _ _ (by decide), upd_ne _ _ (by decide)]; exact a11, by rw [u2_ne _ _ (by decide)]; exact a12, by rw [u2_ne _ _ (by decide)]; exact a13, by rw [upd_ne _ _ (by decide)]; exact a14⟩
theorem L_loop {n p d sc j : Nat} {t la : Nat → Int32} {fol : Nat → Option Nat → Option Nat → Int32 → hE → Option (Int32 × hE)} (hN : 4100 < N) (hc : conS S g fa wa ka) (hbd : bd ≤ 2000) (hd : d < 4) (hp : p < 4) (hsc : x + 75 ≤ sc) (hj : j ≤ 11) (hK : scK (g 0) fa F nx sc t (lns t n) (lns t n).1 (lns t n).1 la j) (hch : d < 3 → chl S g fa x m N nx bd q F G (d + 1) fol) : ∀ (R st turn fuel k : Nat) (o A : Nat → Nat → Int32) (s : Nat → Int32) (B : Nat → Nat → Int32) (w : Nat → Int64), bd - st < R → st ≤ bd → turn ≤ st → 2001 < turn + fuel → k ≤ (lns t n).1 → progM B p t n la → rScr x (g 0) fa q B F nx → jR bd st 0 o A s B → fR d p k k t (lns t n) o A B → s 25 = nI d → outR x m q F G N bd st d o A B (f_Mach_follow_b33 S g N fol fuel (some (x + 6)) (some sc) (some (x + fo d)) (nI turn) (eX x o A q F)) (eM m s B w G) := by
  intro R
  induction R with
  | zero => intro st turn fuel k o A s B w hR; omega
  | succ R ih =>
    intro st turn fuel k o A s B w hR hst htn hfu hk hP hq hJ hF h25
    obtain ⟨fuel, rfl⟩ : ∃ f, fuel = f + 1 := ⟨fuel - 1, by omega⟩
    have hl4 : (lns t n).1 ≤ 400 := by have h1 := (lns_ok t n).1; have h2 := hP.1; omega
    obtain ⟨pl, sts, sB, sP, sT, sL⟩ := hK
    have hcap : capJ j < 2 ^ 31 := by have := (cap_m j hj).2.1; omega
    have hcl := cst_le t (lns t n) (lns t n).1
    have hf := fo_fr hd
    have hfo := fo_eq hd
    obtain ⟨s2, B2, w2, m1, m2, m3, m4⟩ := M_come5 (m := m) (G := G) (N := N) (by omega) hd hp ((lns t n).1 - k) k N s B w (by omega) (by omega) hP hF.2.2.1 hF.2.2.2.1
    have hcome : f_M_comesToStatement N m (eM m s B w G) = f_M_comesToStatement_b5 N N (some m) (nI d) (eM m s B w G) := by
      unfold f_M_comesToStatement
      rw [mg_25, Option.bind_some, h25]
    have hJ2 : jR bd st 0 o A s2 B2 := jR_mv hJ (fun _ _ => rfl) (fun _ _ => rfl) (fun i h8 _ _ => m1 i h8) (fun i h1 h9 h10 => m2 i h9 h10 (by omega))
    have hl2 : loFr d o A B o A B2 := ⟨fun _ _ => ⟨rfl, rfl, rfl, rfl⟩, fun i hi => ⟨by rw [m2 20 (by decide) (by decide) (by decide)], by rw [m2 23 (by decide) (by decide) (by decide)]⟩, fun i hi => by rw [m2 21 (by decide) (by decide) (by decide)], fun e he => ⟨by rw [m2 17 (by decide) (by decide) (by decide)], m3 e (by omega), by rw [m2 19 (by decide) (by decide) (by decide)], by rw [m2 22 (by decide) (by decide) (by decide)]⟩⟩
    obtain ⟨⟨f1, f2⟩, ⟨c', c1, c2, c3, c4⟩, f3, f4, f5⟩ := hF
    have hg2 : fG d A B2 := ⟨fun i hi => by rw [m2 20 (by decide) (by decide) (by decide)]; exact f1 i hi, fun i hi => by rw [m2 21 (by decide) (by decide) (by decide)]; exact f2 i hi⟩
    have hC2 : fC t (lns t n) d o A B2 := ⟨c', c1, c2, by rw [m2 22 (by decide) (by decide) (by decide)]; exact c3, fun i hi => by rw [m2 23 (by decide) (by decide) (by decide)]; exact c4 i hi⟩
    have k7 : ∀ k, k ≤ 7 → B2 k = B k := fun y hy => m2 y (by omega) (by omega) (by omega)
    have h172 : B2 17 d = nI p := by rw [m2 17 (by decide) (by decide) (by decide)]; exact f3
    obtain ⟨z1, -, -, z4, ⟨fs, z5⟩⟩ := sc_size (x := x) (o := o) (A := A) (q := q) (show x + 51 ≤ sc by omega) sB
    rw [f_Mach_follow_b33, if_neg (show ¬ (2000 : Int32) < nI turn from nI_nlt (a := 2000) (b := turn) (by omega) (by decide))]
    simp only [xf_5 hf, f5, z5, Option.bind_some]
    rcases m4 with ⟨k', d1, d2, d3, d4, d5, d6, d7⟩ | ⟨d1, d2, d3⟩
    · obtain ⟨u, hu, hsts⟩ := sT k' d2 d3
      have hlt : cst t (lns t n) k' < cst t (lns t n) (lns t n).1 := by
        have h1 := cst_s d3
        have h2 := cst_mono t (lns t n) (k' + 1) ((lns t n).1 - (k' + 1))
        rw [show k' + 1 + ((lns t n).1 - (k' + 1)) = (lns t n).1 by omega] at h2
        omega
      obtain ⟨a, y1, y2, y3⟩ := X_at1 (x := x) (o := o) (A := A) (q := q) (show x + 51 ≤ sc by omega) hcap (by omega) sB (i := cst t (lns t n) k) (by omega)
      rw [← d4, hsts] at y3
      have ha : ∀ o A, eX x o A q F a = some (.inr (4, stL fa (k', u.1, u.2))) := fun o A => by rw [eX_hi y2]; exact y3
      have g0 : gI (eX x o A q F) (some a) 4 0 = some (nI k') := gI_at (ha o A) rfl
      have u6 : u2 o (fo d) 6 (nI k') 6 = o 6 := u2_n _ _ _ (by omega)
      have j8 : o 6 8 = nI st := hJ.2.2.2.2.2.2.2.1
      have j11 : o 6 11 = nI bd := hJ.2.2.2.2.2.2.2.2.2.2.2.1
      have s17 : s2 17 = nI st := hJ2.2.2.2.2.2.2.2.2.1
      rw [y1, Option.bind_some, if_neg (by simp)]
      simp only [g0, Option.bind_some, xfs_6 hf, xm_8, xm_11, u6, j8, j11]
      have hJ3 : jR bd st 0 (u2 o (fo d) 6 (nI k')) A s2 B2 := jR_mv hJ2 (fun i hi => u2_n _ _ _ (by omega)) (fun _ _ => rfl) (fun _ _ _ _ => rfl) (fun _ _ _ _ => rfl)
      by_cases hb : st = bd
      · rw [if_neg (nI_nlt (by omega) (by omega))]
        unfold f_Mach_follow_b134
        rw [xmz_12 (Or.inr rfl), Option.bind_some]
        refine ⟨107, _, A, s2, B2, w2, st, 1, rfl, by omega, by omega, hst, k7, ?_, hg2, ?_, Or.inr ⟨rfl, jR_z hJ3, fun y => ?_⟩⟩
        · refine ⟨fun e he => ⟨?_, rfl, rfl, rfl⟩, hl2.2.1, hl2.2.2.1, hl2.2.2.2⟩
          have hfe := fo_eq (show e < 4 by omega)
          rw [u2_n _ _ _ (by omega), u2_n _ _ _ (by omega)]
        · rw [u2_n _ _ _ (by omega), u2_self, d5]
        · rw [f_M_run_b61, if_pos rfl]
          simp only [mg_25, h25, mgO, Option.bind_some, hcome, d7]
          rw [if_neg (by decide)]
          simp only [mg_17, s17, Option.bind_some]
          rw [if_pos (by rw [hb])]
      · rw [if_pos (nI_lt (by omega) (by omega))]
        simp only [nI_1, xms_8, Option.bind_some]
        have o5 : u2 (u2 o (fo d) 6 (nI k')) 6 8 (nI (st + 1)) (fo d) 5 = nI (cst t (lns t n) k) := by rw [u2_n _ _ _ (by omega), u2_ne _ _ (by decide)]; exact f5
        simp only [xf_5 hf, o5, nI_1, xfs_5 hf, Option.bind_some, xm_O]
        obtain ⟨o3, ho3⟩ : ∃ o3, o3 = u2 (u2 (u2 o (fo d) 6 (nI k')) 6 8 (nI (st + 1))) (fo d) 5 (nI (cst t (lns t n) k + 1)) := ⟨_, rfl⟩
        rw [← ho3]
        obtain ⟨s3, hs3⟩ : ∃ s3, s3 = upd s2 17 (nI (st + 1)) := ⟨_, rfl⟩
        have hJ4 : jR bd (st + 1) 0 o3 A s3 B2 := by
          rw [ho3, hs3]
          exact jR_mv (jR_st (st' := st + 1) hJ3) (fun i hi => u2_n _ _ _ (by omega)) (fun _ _ => rfl) (fun _ _ _ _ => rfl) (fun _ _ _ _ => rfl)
        have hl3 : loFr d o A B o3 A B2 := by
          refine ⟨fun e he => ⟨?_, rfl, rfl, rfl⟩, hl2.2.1, hl2.2.2.1, hl2.2.2.2⟩
          have hfe := fo_eq (show e < 4 by omega)
          rw [ho3, u2_n _ _ _ (by omega), u2_n _ _ _ (by omega), u2_n _ _ _ (by omega)]
        have hmid : mid bd (st + 1) d p k' t (lns t n) o3 A s3 B2 := by
          refine ⟨hJ4, ⟨hg2, ?_, h172, d5, ?_⟩, ?_, d2, ?_, hd⟩
          · obtain ⟨c', c1, c2, c3, c4⟩ := hC2
            exact ⟨c', c1, by rw [ho3, u2_ne _ _ (by decide), u2_n _ _ _ (by omega), u2_ne _ _ (by decide)]; exact c2, c3, c4⟩
          · rw [ho3, u2_self, cst_s d3, d4]
          · rw [ho3, u2_ne _ _ (by decide), u2_n _ _ _ (by omega), u2_self]
          · rw [hs3, upd_ne _ _ (by decide), m1 25 (by decide)]; exact h25
        have hlS : lSt s3 B2 w2 t (400 * p) (Wl t (lns t n) k') := ⟨⟨by rw [hs3, upd_ne _ _ (by decide)]; exact d6.1.1, d6.1.2⟩, d6.2⟩
        have hWo := Wl_ok hP.2.1 d2
        have hWe : ∀ i, i < (Wl t (lns t n) k').1 → (Wl t (lns t n) k').2.2 i ≤ 400 := fun i hi => by have h1 := (hWo.2 i hi).2.2.2; have h2 := hP.1; omega
        obtain ⟨hu1, hu2, -⟩ := stm_some hu
        have hone : ∀ (y : Nat) (v : Int32) (E' : hE), f_M_work N m (nI d) (eM m s3 B2 w2 G) = some (v, E') → f_M_run_b61 N (y + 1) (some m) (nI bd) (-1) (eM m s B w G) = f_M_run_b116 N (f_M_run_b61 N y) (some m) (nI bd) (-1) (nI d) v E' := by
          intro y v E' hv
          rw [f_M_run_b61, if_pos rfl]
          simp only [mg_25, h25, mgO, Option.bind_some, hcome, d7]
          rw [if_neg (by decide)]
          simp only [mg_17, s17, Option.bind_some]
          rw [if_neg (fun z => hb ((nI_eq (by omega) (by omega)).mp z))]
          simp only [nI_1, ms_17, Option.bind_some, mgO, ← hs3, hv]
        have hgo : ∀ (y : Nat) (E' : hE), f_M_run_b116 N (f_M_run_b61 N y) (some m) (nI bd) (-1) (nI d) (-1) E' = f_M_run_b61 N y (some m) (nI bd) (-1) E' := by
          intro y E'
          unfold f_M_run_b116
          rw [if_pos rfl]
        have hP2 : ∀ B', (∀ k, k ≤ 7 → B' k = B k) → progM B' p t n la ∧ rScr x (g 0) fa q B' F nx := fun B' hB' => ⟨progM_reg hP (regQ_of (fun y _ hy => hB' y hy)), rScr_mv hq (fun i hi => regQ_of (fun y _ hy => hB' y hy)) (Nat.le_refl _) (fun _ _ _ => rfl)⟩
        have step : okS x m q F G w2 bd (st + 1) d p t (lns t n) o3 A B2 (f_Mach_perform S g N fol (x + 6) (some a) (some sc) (some (x + fo d)) (eX x o3 A q F)) (f_M_work N m (nI d) (eM m s3 B2 w2 G)) → outR x m q F G N bd st d o A B ((f_Mach_perform S g N fol (x + 6) (some a) (some sc) (some (x + fo d)) (eX x o3 A q F)).bind fun v114 => if v114.1 = -1 then f_Mach_follow_b33 S g N fol fuel (some (x + 6)) (some sc) (some (x + fo d)) (nI (turn + 1)) v114.2 else some (v114.1, v114.2)) (eM m s B w G) := by
          rintro ⟨v, o', A', s', B', e1, e2, e3, e4, e5, e6, e7, e8⟩
          have k7' : ∀ k, k ≤ 7 → B' k = B k := fun y hy => by rw [e4 y hy, k7 y hy]
          rw [e1, Option.bind_some]
          rcases e8 with ⟨rfl, k'', x1, x2⟩ | ⟨x1, x2⟩
          · rw [if_pos rfl]
            obtain ⟨p1, p2⟩ := hP2 B' k7'
            exact outR_pre (c0 := 1) (ih (st + 1) (turn + 1) fuel k'' o' A' s' B' w2 (by omega) (by omega) (by omega) (by omega) x1 p1 p2 e3 x2 e7) (loFr_trans hl3 e5) k7' (by omega) (by omega) (fun y => by rw [hone y _ _ e2, hgo])
          · rw [if_neg x1]
            exact ⟨v, o', A', s', B', w2, st + 1, 1, rfl, by omega, by omega, by omega, k7', loFr_trans hl3 e5, e6, x2, Or.inl ⟨x1, e3, fun y => hone y _ _ e2⟩⟩
        by_cases h15 : u.1 = 15
        · have hu2' : fit t (Wl t (lns t n) k') 15 = some u.2 := by rw [← h15]; exact hu2
          have ha' : eX x o3 A q F a = some (.inr (4, stL fa (k', 15, u.2))) := by rw [ha, h15]
          rcases st_15 (G := G) (m := m) (sc := sc) (fol := fol) (bd := bd) (by omega) hc (by omega) hmid hlS hWe ha' hu2' (hP2 B2 k7).2 hch with hok | ⟨s1, B1, o', A', s', B', w', st', c, r1, r2, r3, r4, r5, r6, r7, r8⟩
          · exact step hok
          · have k7' : ∀ k, k ≤ 7 → B' k = B k := fun y hy => by rw [r5 y hy, k7 y hy]
            rcases r8 with ⟨x1, x2, x3, x4, x5⟩ | ⟨x1, x2, x3, x4⟩
            · rw [x1, Option.bind_some, if_pos rfl]
              obtain ⟨p1, p2⟩ := hP2 B' k7'
              exact outR_pre (c0 := c + 1) (ih st' (turn + 1) fuel (k' + 1) o' A' s' B' w' (by omega) (by omega) (by omega) (by omega) (by omega) p1 p2 x2 x4 x3) (loFr_trans hl3 r6) k7' (by omega) (by omega) (fun y => by rw [show y + (c + 1) = y + c + 1 from rfl, hone (y + c) _ _ r1, hgo, x5])
            · rw [x1, Option.bind_some, if_neg (show ¬ (107 : Int32) = -1 by decide)]
              exact ⟨107, o', A', s', B', w', st', c + 1, rfl, by omega, by omega, r4, k7', loFr_trans hl3 r6, r7, x3, Or.inr ⟨rfl, x2, fun y => by rw [show y + (c + 1) = y + c + 1 from rfl, hone (y + c) _ _ r1, hgo, x4]⟩⟩
        · refine step (L_step (sc := sc) (i := u.1) (u := u.2) hu1 h15 (by omega) hc hp hmid hlS hWe (ha _ _) hu2 (fun c hc26 hcv => ?_))
          obtain ⟨kk, v1, v2⟩ := lab_ok hl4 hP.2.2.2.2.2.2 sL d2 d3 hu hc26 hcv
          refine ⟨kk, v1, ?_, ?_, (sc_size (x := x) (o := o3) (A := A) (q := q) (show x + 51 ≤ sc by omega) sB).2.2.2.2⟩
          · rw [k7 7 (by omega), hP.2.2.2.2.1 c hc26, v2]
          · rw [sc_place (show x + 51 ≤ sc by omega) sB hc26, sP c hc26]
            unfold plc
            rw [v2, if_neg (neg2 (by omega)), cN_nI (by omega)]
    · rw [← d1, X_at0 (by omega) (by omega) sB, Option.bind_some, if_pos rfl]
      simp only [z4, Option.bind_some, xfs_6 hf]
      refine ⟨0, _, A, s2, B2, w2, st, 1, rfl, by omega, by omega, hst, k7, ?_, hg2, ?_, Or.inl ⟨by decide, jR_mv hJ2 (fun i hi => u2_n _ _ _ (by omega)) (fun _ _ => rfl) (fun _ _ _ _ => rfl) (fun _ _ _ _ => rfl), fun y => ?_⟩⟩
      · refine ⟨fun e he => ⟨?_, rfl, rfl, rfl⟩, hl2.2.1, hl2.2.2.1, hl2.2.2.2⟩
        have hfe := fo_eq (show e < 4 by omega)
        rw [u2_n _ _ _ (by omega)]
      · rw [u2_self, d2]
      · rw [f_M_run_b61, if_pos rfl]
        simp only [mg_25, h25, mgO, Option.bind_some, hcome, d3]
        rw [if_pos (by decide)]
theorem L_main {d : Nat} {fol : Nat → Option Nat → Option Nat → Int32 → hE → Option (Int32 × hE)} (hN : 4100 < N) (hc : conS S g fa wa ka) (hbd : bd ≤ 2000) (hd : d < 4) (hch : d < 3 → chl S g fa x m N nx bd q F G (d + 1) fol) : chl S g fa x m N nx bd q F G d (f_Mach_follow S g N fol) := by
  intro p sc st o A s B w arg hp hqp hst hq hJ
  rcases hq p hp with ⟨q1, -⟩ | ⟨a, t, n, la, j, q1, q2, q3, q4, q5, q6⟩
  · rw [q1] at hqp
    cases hqp
  · have ha : a = sc := by rw [q1] at hqp; exact Option.some.inj hqp
    subst ha
    obtain ⟨o1, A1, s1, B1, b1, b2, b3, b4, b5, b6, b7, b8⟩ := L_begin (S := S) (g := g) (x := x) (m := m) (w := w) (q := q) (F := F) (G := G) (arg := arg) (N := N) (by omega) hd hp hJ
    refine ⟨s1, B1, b2, ?_⟩
    rw [b1]
    have k7 : ∀ k, k ≤ 7 → B1 k = B k := fun y hy => b5 y (by omega)
    have hL := L_loop (S := S) (g := g) (x := x) (m := m) (q := q) (F := F) (G := G) (nx := nx) (fol := fol) hN hc hbd hd hp q4 q5 q6 hch (bd - st + 1) st 0 N 0 o1 A1 s1 B1 w (by omega) hst (by omega) (by omega) (by omega) (progM_reg q3 (regQ_of (fun y _ hy => k7 y hy))) (rScr_mv hq (fun i hi => regQ_of (fun y _ hy => k7 y hy)) (Nat.le_refl _) (fun _ _ _ => rfl)) b3 (b8 _ _) b4
    exact outR_pre (c0 := 0) hL b7 k7 (by omega) (by omega) (fun _ => rfl)
theorem L_fol (hN : 4100 < N) (hc : conS S g fa wa ka) (hbd : bd ≤ 2000) : ∀ (e d : Nat), e + d = 3 → chl S g fa x m N nx bd q F G d (F_fol S g N (e + 1)) := by
  intro e
  induction e with
  | zero => intro d hd; exact L_main hN hc hbd (by omega) (fun h => by omega)
  | succ e ih => intro d hd; exact L_main hN hc hbd (by omega) (fun _ => ih (d + 1) (by omega))
theorem L_run {o A B : Nat → Nat → Int32} {s : Nat → Int32} {w : Nat → Int64} (hN : 4100 < N) (hc : conS S g fa wa ka) (h : rSta o A s B) (hq : rScr x (g 0) fa q B F nx) (i arg bound : Int32) : Alk x m q B F G (f_S_run N (F_fol S g N 4) x i arg bound (eX x o A q F)) (f_M_run N m i arg bound (eM m s B w G)) := by
  have out : Alk x m q B F G (some (-1, eX x o A q F)) (some (-1, eM m s B w G)) := ⟨-1, o, A, s, B, w, rfl, rfl, h, fun _ _ _ => rfl⟩
  unfold f_S_run f_M_run
  simp only [x0_1, xm_O, mgO, Option.bind_some]
  rcases pk_ix i (n := 4) (by decide) with h0 | h0 | ⟨p, hp, rfl⟩
  · rw [X_scr0 (Or.inl h0), M_prg0 (Or.inl h0)]
    exact out
  · rw [X_scr0 (Or.inr h0), M_prg0 (Or.inr h0)]
    exact out
  · rw [X_scr1 hp, M_prg1 hp]
    rcases hq p hp with ⟨q1, q2⟩ | ⟨sc, t, n, la, j, q1, q2, q3, q4, q5, q6⟩
    · rw [q1, q2]
      exact out
    · rw [q1, q2]
      simp only [Option.bind_some, reduceCtorEq, if_false, show ¬ (1 : Int32) = 0 from by decide]
      by_cases h1 : bound < 1
      · rw [if_pos h1, M_in0 (Or.inl h1)]
        exact out
      · by_cases h2 : bound ≤ 2000
        · rw [if_neg h1, if_pos h2, M_in1 (Int32.not_lt.mp h1) h2]
          have hb0 : ¬ bound < 0 := fun z => h1 (by have := Int32.lt_iff_toInt_lt.mp z; exact Int32.lt_iff_toInt_lt.mpr (by simp at this ⊢; omega))
          obtain ⟨bd, hbd, rfl⟩ := nI_of2 (M := 2000) (n := 2000) (by decide) hb0 h2
          simp only [Option.bind_some, show ¬ (1 : Int32) = 0 from by decide, if_false]
          have r9 : isRow 9 := by unfold isRow; omega
          have r11 : isRow 11 := by unfold isRow; omega
          unfold f_Mach_start
          simp only [xms_11, xmz_7 (Or.inr rfl), xms_8, xms_9, xms_10, xmz_12 (Or.inl rfl), xm_2, xr_O r9, R_empty r9, xm_3, xr_O r11, R_empty r11, xm_4, xm_O, Option.bind_some, msz_16 (Or.inr rfl), ms_17, ms_18, ms_19, ms_21, ms_22, mgO]
          obtain ⟨o1, ho1⟩ : ∃ o1, o1 = u2 (u2 (u2 (u2 (u2 (u2 (u2 (u2 (u2 (u2 o 6 11 (nI bd)) 6 7 1) 6 8 0) 6 9 0) 6 10 0) 6 12 0) 9 1 0) 9 2 1) 11 1 0) 11 2 1 := ⟨_, rfl⟩
          obtain ⟨s1, hs1⟩ : ∃ s1, s1 = upd (upd (upd (upd (upd (upd s 16 1) 17 0) 18 0) 19 0) 21 0) 22 0 := ⟨_, rfl⟩
          rw [← ho1, ← hs1]
          obtain ⟨g1, g2, g3, g4, g5, g6⟩ := h
          have oN : ∀ y, y ≠ 6 → y ≠ 9 → y ≠ 11 → o1 y = o y := fun y y1 y2 y3 => by rw [ho1, u2_n _ _ _ y3, u2_n _ _ _ y3, u2_n _ _ _ y2, u2_n _ _ _ y2, u2_n _ _ _ y1, u2_n _ _ _ y1, u2_n _ _ _ y1, u2_n _ _ _ y1, u2_n _ _ _ y1, u2_n _ _ _ y1]
          have o6 : o1 6 = u2 (u2 (u2 (u2 (u2 (u2 o 6 11 (nI bd)) 6 7 1) 6 8 0) 6 9 0) 6 10 0) 6 12 0 6 := by rw [ho1, u2_n _ _ _ (by decide), u2_n _ _ _ (by decide), u2_n _ _ _ (by decide), u2_n _ _ _ (by decide)]
          have sN : ∀ y, y ≠ 16 → y ≠ 17 → y ≠ 18 → y ≠ 19 → y ≠ 21 → y ≠ 22 → s1 y = s y := fun y y1 y2 y3 y4 y5 y6 => by rw [hs1, upd_ne _ _ y6, upd_ne _ _ y5, upd_ne _ _ y4, upd_ne _ _ y3, upd_ne _ _ y2, upd_ne _ _ y1]
          have hJ : jR bd 0 0 o1 A s1 B := by
            refine ⟨by rw [oN 2 (by decide) (by decide) (by decide), sN 0 (by decide) (by decide) (by decide) (by decide) (by decide) (by decide)]; exact g1, fun f hf => by rw [oN _ (by omega) (by omega) (by omega)]; exact g2 f hf, ⟨0, by decide, ?_, ?_, fun i hi => absurd hi (Nat.not_lt_zero i)⟩, ⟨0, by decide, ?_, ?_, fun i hi => absurd hi (Nat.not_lt_zero i)⟩, g5, ?_, ?_, ?_, ?_, ?_, ?_, ?_, ?_, ⟨0, by decide, ?_⟩⟩
            · rw [ho1, u2_n _ _ _ (by decide), u2_n _ _ _ (by decide), u2_ne _ _ (by decide), u2_self]; rfl
            · rw [hs1, upd_ne _ _ (by decide), upd_self]; rfl
            · rw [ho1, u2_ne _ _ (by decide), u2_self]; rfl
            · rw [hs1, upd_self]; rfl
            · rw [o6, u2_ne _ _ (by decide), u2_ne _ _ (by decide), u2_ne _ _ (by decide), u2_ne _ _ (by decide), u2_self]
            · rw [hs1, upd_ne _ _ (by decide), upd_ne _ _ (by decide), upd_ne _ _ (by decide), upd_ne _ _ (by decide), upd_ne _ _ (by decide), upd_self]
            · rw [o6, u2_ne _ _ (by decide), u2_ne _ _ (by decide), u2_ne _ _ (by decide), u2_self]; rfl
            · rw [hs1, upd_ne _ _ (by decide), upd_ne _ _ (by decide), upd_ne _ _ (by decide), upd_ne _ _ (by decide), upd_self]; rfl
            · rw [o6, u2_ne _ _ (by decide), u2_ne _ _ (by decide), u2_self, hs1, upd_ne _ _ (by decide), upd_ne _ _ (by decide), upd_self]
            · rw [o6, u2_ne _ _ (by decide), u2_self, hs1, upd_ne _ _ (by decide), upd_ne _ _ (by decide), upd_ne _ _ (by decide), upd_self]
            · rw [o6, u2_ne _ _ (by decide), u2_ne _ _ (by decide), u2_ne _ _ (by decide), u2_ne _ _ (by decide), u2_ne _ _ (by decide), u2_self]
            · rw [o6, u2_self]
            · rw [hs1, upd_ne _ _ (by decide), upd_ne _ _ (by decide), upd_self]; rfl
          obtain ⟨s2, B2, b1, v, o', A', s', B', w', st', c, a2, a3, a4, a5, a6, a7, a8, a9, a10⟩ := L_fol (m := m) (G := G) hN hc hbd 3 0 rfl p sc 0 o1 A s1 B w arg hp q1 (Nat.zero_le _) hq hJ
          have a2 : F_fol S g N 4 (x + 6) (some sc) (some (x + 13)) arg (eX x o1 A q F) = some (v, eX x o' A' q F) := a2
          have b1 : f_M_begin N m 0 (nI p) arg (eM m s1 B w G) = some (eM m s2 B2 w G) := b1
          rw [a2, b1, Option.bind_some, Option.bind_some]
          have fin : ∀ (z y4 : Int32), ¬ y4 = -1 → jR bd st' z o' A' s' B' → ∀ y, f_M_run_b61 N (y + 1) (some m) (nI bd) y4 (eM m s' B' w' G) = some (y4, eM m (upd s' 20 (B' 18 0)) B' w' G) ∧ rSta o' A' (upd s' 20 (B' 18 0)) B' := by
            intro z y4 hy4 hj y
            obtain ⟨e1, e2, e3, e4, e5, e6, e7, e8, e9, e10, e11, e12, e13, e14⟩ := hj
            refine ⟨?_, ?_, e2, ?_, ?_, e5, ?_, ?_, ?_, ?_, ?_, ?_, fun i hi => ⟨?_, fun z => ?_⟩⟩
            · rw [f_M_run_b61, if_neg hy4]
              have := ma_18 (m := m) (s := s') (A := B') (w := w') (F := G) (i := 0) (by decide)
              rw [nI_0] at this
              simp only [mg_27, this, Option.bind_some, ms_20]
            · rw [upd_ne _ _ (by decide)]; exact e1
            · rw [upd_ne _ _ (by decide)]; exact e3
            · rw [upd_ne _ _ (by decide)]; exact e4
            · rw [upd_ne _ _ (by decide), e6, e7]
            · rw [upd_ne _ _ (by decide), e7]; exact Or.inr rfl
            · rw [upd_ne _ _ (by decide), e8, e9]
            · rw [upd_ne _ _ (by decide)]; exact e10
            · rw [upd_ne _ _ (by decide)]; exact e11
            · rw [upd_self]; exact a9
            · have := a8.1 i hi
              rw [show 8 * 0 + i = i by omega] at this
              exact this
            · rw [upd_ne _ _ (by decide), e7] at z
              exact absurd z (by decide)
          rcases a10 with ⟨hv, hj', hn⟩ | ⟨hv, hj', hn⟩
          · obtain ⟨y1, y2⟩ := fin 0 v hv hj' (N - c - 1)
            refine ⟨v, o', A', _, B', w', rfl, ?_, y2, fun k _ hk => a6 k hk⟩
            have e := hn (N - c)
            rw [show N - c + c = N by omega] at e
            rw [Option.bind_some, e]
            unfold f_M_run_b116 f_M_run_b177
            rw [if_neg hv, if_pos (by rfl), show N - c = N - c - 1 + 1 by omega]
            exact y1
          · subst hv
            obtain ⟨y1, y2⟩ := fin 1 107 (by decide) hj' (N - c - 1)
            refine ⟨107, o', A', _, B', w', rfl, ?_, y2, fun k _ hk => a6 k hk⟩
            have e := hn (N - c)
            rw [show N - c + c = N by omega] at e
            rw [Option.bind_some, e, show N - c = N - c - 1 + 1 by omega]
            exact y1
        · rw [if_neg h1, if_neg h2, M_in0 (Or.inr (Int32.not_le.mp h2))]
          exact out
end LOP
