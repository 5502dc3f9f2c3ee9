/-! hours ahead -/
def scC (a : LA) : Bool := scr a && !(Nat.beq a.2 842)
theorem scC_scr (a : LA) (h : scC a = true) : scr a = true := (and_t h).1
def pMor (i : Nat) : LA → Bool := fun a => morT a.1 && Nat.beq a.2 i
theorem pMor_at (i : Nat) {t : Nat} (h : morT t = true) : pMor i (t, i) = true := by
  show (morT t && Nat.beq i i) = true
  rw [h, Nat.beq_refl]
  rfl
theorem pMC_scC {i l : Nat} (hi : i = 181 ∨ i = 191) (hl : l = 312 ∨ l = 317) (a : LA) (h : pMC i l a = true) : scC a = true := by
  have h1 := pMC_scr hi a h
  obtain ⟨t, j⟩ := a
  show (scr (t, j) && !(Nat.beq j 842)) = true
  rw [h1]
  have : j ≠ 842 := by
    rcases or_t (a := pMo i (t, j)) (b := pLC l (t, j)) h with e | e
    · have e2 : j = i := Nat.eq_of_beq_eq_true (and_t (a := ((Nat.ble 402 t && Nat.ble t 409) || Nat.beq t 10409)) e).2
      omega
    · have e2 : j = l := Nat.eq_of_beq_eq_true (and_t (a := (Nat.beq t 303 || Nat.beq t 304)) e).2
      omega
  rw [beq_ne this]
  rfl
theorem pMor_scC {i : Nat} (hi : i = 181 ∨ i = 191) (a : LA) (h : pMor i a = true) : scC a = true := by
  obtain ⟨t, j⟩ := a
  obtain ⟨h1, h2⟩ := and_t (a := morT t) h
  have e2 : j = i := Nat.eq_of_beq_eq_true h2
  subst e2
  show ((scrT t || (morT t && (Nat.beq j 181 || Nat.beq j 191))) && !(Nat.beq j 842)) = true
  rw [h1]
  rcases hi with e | e <;> subst e <;> cases scrT t <;> rfl
theorem pLC_scC {l : Nat} (hl : l = 312 ∨ l = 317) (a : LA) (h : pLC l a = true) : scC a = true := pMC_scC (i := 181) (Or.inl rfl) hl a (pLC_pMC 181 l a h)
theorem take_C {w w1 : MEM} (f : Fr scC w w1) : takeF (m0 w1) = takeF (m0 w) := by
  unfold takeF
  have e1 : fA (m0 w1) (1019, 842) = fA (m0 w) (1019, 842) := f.1 _ rfl
  have e2 : fA (m0 w1) (1020, 842) = fA (m0 w) (1020, 842) := f.1 _ rfl
  rw [e1, e2]
theorem cB77 : cB (0 : Int32) (0 : Int32) (7 : Int32) 7 7 = true := by decide
def cp7 (f g : Nat → Int32) : Nat → Int32 := va_cpy f g (0 : Int32).toNatClampNeg (0 : Int32).toNatClampNeg (7 : Int32).toNatClampNeg
theorem cp7_at {f g : Nat → Int32} {j : Nat} (hj : j < 7) : cp7 f g j = f j := by
  have e0 : (0 : Int32).toNatClampNeg = 0 := by decide
  have e7 : (7 : Int32).toNatClampNeg = 7 := by decide
  unfold cp7 va_cpy
  rw [e0, e7, if_pos (by omega), Nat.sub_zero, Nat.zero_add]
theorem copy_C (fu : Nat) {i j : Nat} (hij : i ≠ j) (w : MEM) : ∃ w1, f_X4_copy fu i j w = some ((), w1) ∧ Fr (pMor i) w w1 ∧ ∀ (C : ACt) (f : Nat → Int32), cH C ≤ 7 → Rm w j C f → Rm w1 i C f := by
  rw [E_X4_copy]
  simp only [lt_eq, cB77, ck_tr]
  refine ⟨_, rfl, ?_, ?_⟩
  · refine Fr.A (a := (409, i)) ?_ _ (pMor_at i rfl)
    refine Fr.A (a := (408, i)) ?_ _ (pMor_at i rfl)
    refine Fr.A (a := (407, i)) ?_ _ (pMor_at i rfl)
    refine Fr.A (a := (406, i)) ?_ _ (pMor_at i rfl)
    refine Fr.A (a := (405, i)) ?_ _ (pMor_at i rfl)
    refine Fr.A (a := (404, i)) ?_ _ (pMor_at i rfl)
    refine Fr.A (a := (403, i)) ?_ _ (pMor_at i rfl)
    refine Fr.A (a := (402, i)) ?_ _ (pMor_at i rfl)
    refine Fr.A (a := (401, i)) ?_ _ (pMor_at i rfl)
    exact Fr.S (a := (10409, i)) (Fr.rf _ _) _ (pMor_at i rfl)
  · intro C f h7 hr
    obtain ⟨r1, r2, r3, r4⟩ := hr
    have hji : (j = i) = False := eq_false (fun e => hij e.symm)
    have A : ∀ t1 < 8, ∀ k < cH C, fA w (402 + t1, j) k = f (7 * t1 + k) := r1
    refine ⟨fun t1 ht1 k hk => ?_, fun k hk1 hk2 => ?_, ?_, fun k hk => ?_⟩
    · refine Eq.trans ?_ (A t1 ht1 k hk)
      rcases (by omega : t1 = 0 ∨ t1 = 1 ∨ t1 = 2 ∨ t1 = 3 ∨ t1 = 4 ∨ t1 = 5 ∨ t1 = 6 ∨ t1 = 7) with e | e | e | e | e | e | e | e <;> subst e <;> (simp only [fA_tA, fA_sS, Prod.mk.injEq, Nat.reduceAdd, Nat.reduceEqDiff, false_and, true_and, and_true, if_true, if_false, hji, and_false]; exact cp7_at (by omega))
    · obtain ⟨q1, q2, q3, q4⟩ := r2 k hk1 hk2
      refine ⟨Eq.trans ?_ q1, Eq.trans ?_ q2, Eq.trans ?_ q3, Eq.trans ?_ q4⟩ <;> (simp only [fA_tA, fA_sS, Prod.mk.injEq, Nat.reduceAdd, Nat.reduceEqDiff, false_and, true_and, and_true, if_true, if_false, hji, and_false]; exact cp7_at (by omega))
    · refine Eq.trans ?_ r3
      simp only [rS_tA, rS_sS, if_true]
    · refine Eq.trans ?_ (r4 k hk)
      simp only [fA_tA, fA_sS, Prod.mk.injEq, Nat.reduceAdd, Nat.reduceEqDiff, false_and, true_and, and_true, if_true, if_false, hji, and_false]
      exact cp7_at (by omega)
def hrs (C : ACt) (n : Nat) (f : Nat → Int32) : Nat → Int32 := lp n 0 (fun _ g => passS C g) f
theorem hrs_s (C : ACt) (n : Nat) (f : Nat → Int32) : hrs C (n + 1) f = passS C (hrs C n f) := by
  unfold hrs
  rw [lp_snoc]
theorem Bd_hrs {C : ACt} {t : Nat} {f : Nat → Int32} (hw : WFc C) (h : Bd C t f) : ∀ n, Bd C (t + n) (hrs C n f)
  | 0 => h
  | n + 1 => by
    rw [hrs_s]
    exact Bd_pass hw (Bd_hrs hw h n)
theorem passHours_C {w : MEM} {C : ACt} {f : Nat → Int32} {fu i c l t N : Nat} (hw : WFc C) (hc : CLS w c l C) (hr : Rm w i C f) (hb : Bd C t f) (ht : t + N < 100000) (hN : N < fu) (hfu : 200 ≤ fu) : ∃ w1, f_X4_passHours fu i (nI N) c l w = some ((), w1) ∧ Fr (pMC i l) w w1 ∧ Rm w1 i C (hrs C N f) := by
  rw [E_X4_passHours]
  obtain ⟨b, n1, e1, e2, e3⟩ := for_rel (F := fun n x (u : MEM) => f_X4_passHours_3 fu n i (nI N) c l x u) (N := N) (fun k u => Fr (pMC i l) w u ∧ Rm u i C (hrs C k f))
    (fun n k u hk p => by
      obtain ⟨p1, p2⟩ := p
      obtain ⟨u1, q1, q2, q3⟩ := passHour_C (fu := fu) hw (hc.fr p1 (okMC i c l l)) p2 (Bd_hrs hw hb k) (by omega) hfu
      refine ⟨u1, ?_, p1.tr q2, by rw [hrs_s]; exact q3⟩
      show f_X4_passHours_3 fu (n + 1) i (nI N) c l (nI k) u = f_X4_passHours_3 fu n i (nI N) c l (nI (k + 1)) u1
      rw [E_X4_passHours_3, if_pos (by rw [nlt _ _ (by omega) (by omega)]; exact hk), q1, bnd_some, naddL])
    N fu 0 w (by omega) hN ⟨Fr.rf _ _, hr⟩
  have e1 : f_X4_passHours_3 fu fu i (nI N) c l 0 w = f_X4_passHours_3 fu (n1 + 1) i (nI N) c l (nI N) b := e1
  refine ⟨b, ?_, e2, e3⟩
  rw [e1, E_X4_passHours_3, if_neg (by rw [nlt _ _ (by omega) (by omega)]; omega)]
theorem REF.l {w : MEM} {c l b : Nat} (h : REF w c l b) : l = 312 ∨ l = 317 := h.2.2.2.2.1.elim (fun e => Or.inl e.1) (fun e => Or.inr e.1)
theorem S_ahead (a a2 : Int32) {w : MEM} (hI : INV w) : SIM KI (f_X9_ahead 3000 0 a a2) (f_X10_ahead 3000 842 a a2) w := by
  rcases wit 3000 a (lo := 0) (hi := 99) 0 99 rfl rfl (by omega) (by omega) with ⟨e1, e2⟩ | ⟨N, hN1, hN, rfl, e1, e2⟩
  · refine SIM_W hI 1 ?_ ?_ rfl
    · rw [E_X9_ahead, e1]; rfl
    · rw [E_X10_ahead, lt_eq, m0_eq, e2, bnd_some, if_pos rfl, may_W 3000 (by decide) (rS_m0 _), bnd_some, if_pos rfl]
  rcases wit 3000 a2 (lo := 0) (hi := 3) 0 3 rfl rfl (by omega) (by omega) with ⟨e3, e4⟩ | ⟨j, h1, h2, rfl, e3, e4⟩
  · refine SIM_W hI 1 ?_ ?_ rfl
    · rw [E_X9_ahead, e1, bndT_inl, e3]; rfl
    · rw [E_X10_ahead, lt_eq, m0_eq, e2, bnd_some, if_neg (by decide), e4, bnd_some, if_pos rfl, may_W 3000 (by decide) (rS_m0 _), bnd_some, if_pos rfl]
  have h := hI
  obtain ⟨C, c, l, b, hr, hc, hk⟩ := h
  have hw := hc.1
  have h7 := hw.1
  have hl := hr.l
  obtain ⟨hR, t, ht, hb⟩ := hc.take (u := m0 w) rfl
  obtain ⟨w1, k1, k2, k3⟩ := copy_C 3000 (i := 181) (j := 9) (by decide) w
  have f1 : Fr scC w w1 := k2.mono (pMor_scC (Or.inl rfl))
  have hc1 := hc.fr (f1.mono scC_scr).K
  obtain ⟨w2, k4, k5, k6⟩ := passHours_C (fu := 3000) (N := N) hw hc1.2.1 (k3 C _ h7 hR) hb (by omega) (by omega) (by omega)
  have f2 : Fr scC w w2 := f1.tr (k5.mono (pMC_scC (Or.inl rfl) hl))
  have f2s : Fr scr w w2 := f2.mono scC_scr
  generalize hF : takeF (m0 w) = F at hR hb k6
  have et : takeF (m0 w2) = F := (take_C f2).trans hF
  have f3 : Fr scr w2 (tk (m0 w2)) := (m0_fr w2).tr (tk_fr _)
  have hm := ((hc.fr f2s.K).fr f3.K).2.2.1
  obtain ⟨u, n1, g1, g2, g3⟩ := for_rel (F := fun n x (u : MEM) => f_X10_ahead_46 3000 n 842 (nI N) (nI j) x u) (N := N) (fun k u => Fr pSM (tk (m0 w2)) u ∧ fA u (1020, 842) = hrs C k F)
    (fun n k u hk p => by
      obtain ⟨p1, p2⟩ := p
      obtain ⟨u1, q1, q2, q3⟩ := passes_M (fu := 3000) hw (hm.fr p1 okSM) (by omega)
      refine ⟨u1, ?_, p1.tr q2, by rw [hrs_s, q3, p2]⟩
      show f_X10_ahead_46 3000 (n + 1) 842 (nI N) (nI j) (nI k) u = f_X10_ahead_46 3000 n 842 (nI N) (nI j) (nI (k + 1)) u1
      rw [E_X10_ahead_46, if_pos (by rw [nlt _ _ (by omega) (by omega)]; exact hk), q1, bnd_some, naddL])
    N 3000 0 (tk (m0 w2)) (by omega) (by omega) ⟨Fr.rf _ _, by rw [fA_tk, et]; rfl⟩
  have g1 : f_X10_ahead_46 3000 3000 842 (nI N) (nI j) 0 (tk (m0 w2)) = f_X10_ahead_46 3000 (n1 + 1) 842 (nI N) (nI j) (nI N) u := g1
  have hmu := hm.fr g2 okSM
  have f4 : Fr scr w2 u := f3.tr (g2.mono pSM_scr)
  have t4 : rS u (11000, 842) = 0 := (g2.2.1 _ rfl).trans (by rw [rS_tk, rS_m0])
  have hX : f_X9_ahead 3000 0 (nI N) (nI j) w = _ := (E_X9_ahead _ _ _ _ _).trans (by rw [e1, bndT_inl, e3, bndT_inl, show (8 + 1 : Nat) = 9 from rfl, k1, bnd_some, (hr.fr f1).1, (hr.fr f1).2.1, k4, bnd_some, sumMist_C hw k6 (by omega), sumGasp_C hw k6 (by omega), clouded_C hw k6 (by omega), ranked_C 0 hw k6 (by omega), bnd_some, bnd_some, bnd_some, bnd_some])
  have hM : f_X10_ahead 3000 842 (nI N) (nI j) w2 = _ := (E_X10_ahead _ _ _ _ _).trans (by rw [lt_eq, m0_eq, e2, bnd_some, if_neg (by decide), e4, bnd_some, if_neg (by decide), may_1 3000 _ _ (rS_m0 _), bnd_some, if_neg (by decide), tk_M (by omega), bnd_some, g1, E_X10_ahead_46, if_neg (by rw [nlt _ _ (by omega) (by omega)]; omega), (show f_X10_sumOf 3000 842 (7 : Int32) u = _ from sumOf_M hw hmu (show 200 ≤ 3000 by omega) (show 7 ≤ 49 by omega)), (show f_X10_sumOf 3000 842 (49 : Int32) u = _ from sumOf_M hw hmu (show 200 ≤ 3000 by omega) (show 49 ≤ 49 by omega)), clouded_M hw hmu (by omega), ranked_M 0 hw hmu (by omega), bnd_some, bnd_some, bnd_some, bnd_some, g3])
  rcases (by omega : j = 0 ∨ j = 1 ∨ j = 2 ∨ j = 3) with e | e | e | e <;> subst e <;> exact SIM_ok hI hX f2s hM f4 t4
/-! clouds and gasp -/
def clx (C : ACt) (h m k : Nat) (f : Nat → Int32) : Int32 := lx m k (fun k f => if f (7 + h) < 50 then .inr (passS C f) else .inl (nI k)) (fun _ => -1) f
theorem S_clouds (a : Int32) {w : MEM} (hI : INV w) : SIM KN (f_X9_clouds 3000 0 a) (f_X10_clouds 3000 842 a) w := by
  have h := hI
  obtain ⟨C, c, l, b, hr, hc, hk⟩ := h
  have hw := hc.1
  have h7 := hw.1
  have hM1 := hc.2.2.1.1
  rcases witH (fu := 3000) a hw hr.1 hc.2.1.1 with ⟨e1, e2⟩ | ⟨h, hh, rfl, e1, e2⟩
  · refine SIM_M hI 1 ?_ ?_ rfl
    · rw [E_X9_clouds, e1]; rfl
    · rw [E_X10_clouds, lt_eq, m0_eq, e2 _ _ (by decide) ((bM_h w).trans hM1) (rS_m0 _), bnd_some, if_pos rfl]
  have hl := hr.l
  obtain ⟨hR, t, ht, hb⟩ := hc.take (u := m0 w) rfl
  obtain ⟨w1, k1, k2, k3⟩ := copy_C 3000 (i := 181) (j := 9) (by decide) w
  have f1 : Fr scC w w1 := k2.mono (pMor_scC (Or.inl rfl))
  have kC : ∀ m k n (u : MEM) (f : Nat → Int32), k + m = 49 → m < n → Fr scC w u → Rm u 181 C f → Bd C (t + k) f → ∃ u1, f_X9_clouds_21 3000 n 0 (nI h) (nI k) u = some (.inl (clx C h m k f), u1) ∧ Fr scC w u1 := by
    intro m
    induction m with
    | zero =>
      intro k n u f hk hn pf pr pb
      obtain ⟨n, rfl⟩ : ∃ n', n = n' + 1 := ⟨n - 1, by omega⟩
      refine ⟨u, ?_, pf⟩
      rw [E_X9_clouds_21, if_pos (by rw [nLlt _ _ (by omega) (by decide)]; omega)]
      rfl
    | succ m ih =>
      intro k n u f hk hn pf pr pb
      obtain ⟨n, rfl⟩ : ∃ n', n = n' + 1 := ⟨n - 1, by omega⟩
      have s1 : fA u (403, 181) h = f (7 + h) := pr.1 1 (by omega) h hh
      have hcu := (hc.fr (pf.mono scC_scr).K).2.1
      unfold clx
      rw [E_X9_clouds_21, if_neg (by rw [nLlt _ _ (by omega) (by decide)]; omega), bIn _ _ (by omega), decide_eq_true (show h < 7 by omega), ck_tr, rAn _ _ _ (by omega), s1, lx_s]
      by_cases c1 : f (7 + h) < 50
      · rw [if_pos c1, if_pos c1]
        obtain ⟨u1, q1, q2, q3⟩ := passHour_C (fu := 3000) hw hcu pr pb (by omega) (by omega)
        have pf1 := pf.tr (q2.mono (pMC_scC (Or.inl rfl) hl))
        rw [(hr.fr pf).1, (hr.fr pf).2.1, q1, bnd_some, naddL]
        exact ih (k + 1) n u1 (passS C f) (by omega) (by omega) pf1 q3 (Bd_pass hw pb)
      · rw [if_neg c1, if_neg c1]
        exact ⟨u, rfl, pf⟩
  obtain ⟨w2, k4, k5⟩ := kC 49 0 3000 w1 _ (by omega) (by omega) f1 (k3 C _ h7 hR) hb
  have f2s : Fr scr w w2 := k5.mono scC_scr
  generalize hF : takeF (m0 w) = F at hR hb k4
  have et : takeF (m0 w2) = F := (take_C k5).trans hF
  have f3 : Fr scr w2 (tk (m0 w2)) := (m0_fr w2).tr (tk_fr _)
  have hm := ((hc.fr f2s.K).fr f3.K).2.2.1
  have kM : ∀ m k n (u : MEM), k + m = 49 → m < n → Fr pSM (tk (m0 w2)) u → ∃ u1, f_X10_clouds_22 3000 n 842 (nI h) (nI k) u = some (clx C h m k (fA u (1020, 842)), u1) ∧ Fr pSM (tk (m0 w2)) u1 := by
    intro m
    induction m with
    | zero =>
      intro k n u hk hn pf
      obtain ⟨n, rfl⟩ : ∃ n', n = n' + 1 := ⟨n - 1, by omega⟩
      refine ⟨u, ?_, pf⟩
      rw [E_X10_clouds_22, if_pos (by rw [nLlt _ _ (by omega) (by decide)]; omega)]
      rfl
    | succ m ih =>
      intro k n u hk hn pf
      obtain ⟨n, rfl⟩ : ∃ n', n = n' + 1 := ⟨n - 1, by omega⟩
      unfold clx
      rw [E_X10_clouds_22, if_neg (by rw [nLlt _ _ (by omega) (by decide)]; omega), nLadd, bIn _ _ (by omega), decide_eq_true (show 7 + h < 57 by omega), ck_tr, rAn _ _ _ (by omega), lx_s]
      by_cases c1 : fA u (1020, 842) (7 + h) < 50
      · rw [if_pos c1, if_pos c1]
        obtain ⟨u1, q1, q2, q3⟩ := passes_M (fu := 3000) hw (hm.fr pf okSM) (by omega)
        rw [q1, bnd_some, naddL, ← q3]
        exact ih (k + 1) n u1 (by omega) (by omega) (pf.tr q2)
      · rw [if_neg c1, if_neg c1]
        exact ⟨u, rfl, pf⟩
  obtain ⟨u, g1, g2⟩ := kM 49 0 3000 (tk (m0 w2)) (by omega) (by omega) (Fr.rf _ _)
  rw [fA_tk, et] at g1
  have hM2 : rS (m0 w2) (11022, 842) = nI (cH C) := (k5.2.1 (11022, 842) rfl).trans hM1
  refine SIM_ok (v := clx C h 49 0 F) hI ?_ f2s ?_ (f3.tr (g2.mono pSM_scr)) ((g2.2.1 _ rfl).trans (by rw [rS_tk, rS_m0]))
  · rw [E_X9_clouds, e1, bndT_inl, show (8 + 1 : Nat) = 9 from rfl, k1, bnd_some]
    exact k4
  · rw [E_X10_clouds, lt_eq, m0_eq, e2 _ _ hM2 (rS_m0 _), bnd_some, if_neg (by decide), tk_M (by omega), bnd_some]
    exact g1
def gax (C : ACt) (h : Nat) (x : Int32) (m k : Nat) (f : Nat → Int32) : Int32 := lx m k (fun k f => if x < passS C f (49 + h) then .inl (nI k) else .inr (passS C f)) (fun _ => -1) f
theorem S_gasp (a : Int32) {w : MEM} (hI : INV w) : SIM KN (f_X9_gasp 3000 0 a) (f_X10_gasp 3000 842 a) w := by
  have h := hI
  obtain ⟨C, c, l, b, hr, hc, hk⟩ := h
  have hw := hc.1
  have h7 := hw.1
  have hM1 := hc.2.2.1.1
  rcases witH (fu := 3000) a hw hr.1 hc.2.1.1 with ⟨e1, e2⟩ | ⟨h, hh, rfl, e1, e2⟩
  · refine SIM_M hI 1 ?_ ?_ rfl
    · rw [E_X9_gasp, e1]; rfl
    · rw [E_X10_gasp, lt_eq, m0_eq, e2 _ _ (by decide) ((bM_h w).trans hM1) (rS_m0 _), bnd_some, if_pos rfl]
  have hl := hr.l
  obtain ⟨hR, t, ht, hb⟩ := hc.take (u := m0 w) rfl
  obtain ⟨w1, k1, k2, k3⟩ := copy_C 3000 (i := 181) (j := 9) (by decide) w
  have f1 : Fr scC w w1 := k2.mono (pMor_scC (Or.inl rfl))
  have hR1 := k3 C _ h7 hR
  have kC2 : ∀ (x : Int32) m k n (u : MEM) (f : Nat → Int32), k + m = 100 → 1 ≤ k → m < n → Fr scC w u → Rm u 181 C f → (∃ s, s ≤ t + k ∧ Bd C s f) → ∃ u1, f_X9_gasp_31 3000 n 0 (nI h) x (nI k) u = some (.inl (gax C h x m k f), u1) ∧ Fr scC w u1 := by
    intro x m
    induction m with
    | zero =>
      intro k n u f hk _ hn pf pr pb
      obtain ⟨n, rfl⟩ : ∃ n', n = n' + 1 := ⟨n - 1, by omega⟩
      refine ⟨u, ?_, pf⟩
      rw [E_X9_gasp_31, if_pos (by rw [nLlt _ _ (by omega) (by decide)]; omega)]
      rfl
    | succ m ih =>
      intro k n u f hk _ hn pf pr pb
      obtain ⟨s, hs, pb⟩ := pb
      obtain ⟨n, rfl⟩ : ∃ n', n = n' + 1 := ⟨n - 1, by omega⟩
      have hcu := (hc.fr (pf.mono scC_scr).K).2.1
      obtain ⟨u1, q1, q2, q3⟩ := passHour_C (fu := 3000) hw hcu pr pb (by omega) (by omega)
      have pf1 := pf.tr (q2.mono (pMC_scC (Or.inl rfl) hl))
      have s1 : fA u1 (409, 181) h = passS C f (49 + h) := q3.1 7 (by omega) h hh
      unfold gax
      rw [E_X9_gasp_31, if_neg (by rw [nLlt _ _ (by omega) (by decide)]; omega), (hr.fr pf).1, (hr.fr pf).2.1, q1, bnd_some, bIn _ _ (by omega), decide_eq_true (show h < 7 by omega), ck_tr, rAn _ _ _ (by omega), s1, lx_s, naddL]
      by_cases c1 : x < passS C f (49 + h)
      · rw [if_pos c1, if_pos c1]
        exact ⟨u1, rfl, pf1⟩
      · rw [if_neg c1, if_neg c1]
        exact ih (k + 1) n u1 (passS C f) (by omega) (by omega) (by omega) pf1 q3 ⟨s + 1, by omega, Bd_pass hw pb⟩
  obtain ⟨w2, k4, k5⟩ := kC2 (takeF (m0 w) (49 + h)) 99 1 3000 w1 _ (by omega) (by omega) (by omega) f1 hR1 ⟨t, by omega, hb⟩
  have s0 : fA w1 (409, 181) h = takeF (m0 w) (49 + h) := hR1.1 7 (by omega) h hh
  have f2s : Fr scr w w2 := k5.mono scC_scr
  have n0 : fA w (1019, 842) (49 + h) = takeF (m0 w) (49 + h) := takeF_now (m0 w) (49 + h) (by omega)
  generalize hF : takeF (m0 w) = F at hR hb k4 s0 n0
  have et : takeF (m0 w2) = F := (take_C k5).trans hF
  have f3 : Fr scr w2 (tk (m0 w2)) := (m0_fr w2).tr (tk_fr _)
  have hm := ((hc.fr f2s.K).fr f3.K).2.2.1
  have e19 : fA (tk (m0 w2)) (1019, 842) (49 + h) = F (49 + h) := by
    rw [← n0]
    have : fA (tk (m0 w2)) (1019, 842) = fA w (1019, 842) := (f2s.tr f3).1 _ rfl
    rw [this]
  have kM : ∀ m k n (u : MEM), k + m = 100 → m < n → Fr pSM (tk (m0 w2)) u → ∃ u1, f_X10_gasp_22 3000 n 842 (nI h) (nI k) u = some (gax C h (F (49 + h)) m k (fA u (1020, 842)), u1) ∧ Fr pSM (tk (m0 w2)) u1 := by
    intro m
    induction m with
    | zero =>
      intro k n u hk hn pf
      obtain ⟨n, rfl⟩ : ∃ n', n = n' + 1 := ⟨n - 1, by omega⟩
      refine ⟨u, ?_, pf⟩
      rw [E_X10_gasp_22, if_pos (by rw [nLlt _ _ (by omega) (by decide)]; omega)]
      rfl
    | succ m ih =>
      intro k n u hk hn pf
      obtain ⟨n, rfl⟩ : ∃ n', n = n' + 1 := ⟨n - 1, by omega⟩
      obtain ⟨u1, q1, q2, q3⟩ := passes_M (fu := 3000) hw (hm.fr pf okSM) (by omega)
      have e20 : fA u1 (1019, 842) (49 + h) = F (49 + h) := by
        rw [(pf.tr q2).1 _ rfl]
        exact e19
      unfold gax
      rw [E_X10_gasp_22, if_neg (by rw [nLlt _ _ (by omega) (by decide)]; omega), q1, bnd_some, nLadd, bIn _ _ (by omega), decide_eq_true (show 49 + h < 57 by omega), ck_tr, ck_tr, rAn _ _ _ (by omega), rAn _ _ _ (by omega), e20, q3, lx_s, naddL]
      by_cases c1 : F (49 + h) < passS C (fA u (1020, 842)) (49 + h)
      · rw [if_pos c1, if_pos c1]
        exact ⟨u1, rfl, pf.tr q2⟩
      · rw [if_neg c1, if_neg c1, ← q3]
        exact ih (k + 1) n u1 (by omega) (by omega) (pf.tr q2)
  obtain ⟨u, g1, g2⟩ := kM 99 1 3000 (tk (m0 w2)) (by omega) (by omega) (Fr.rf _ _)
  rw [fA_tk, et] at g1
  have hM2 : rS (m0 w2) (11022, 842) = nI (cH C) := (k5.2.1 (11022, 842) rfl).trans hM1
  refine SIM_ok (v := gax C h (F (49 + h)) 99 1 F) hI ?_ f2s ?_ (f3.tr (g2.mono pSM_scr)) ((g2.2.1 _ rfl).trans (by rw [rS_tk, rS_m0]))
  · rw [E_X9_gasp, e1, bndT_inl, show (8 + 1 : Nat) = 9 from rfl, k1, bnd_some, bIn _ _ (by omega), decide_eq_true (show h < 7 by omega), ck_tr, rAn _ _ _ (by omega), s0, lt_eq]
    exact k4
  · rw [E_X10_gasp, lt_eq, m0_eq, e2 _ _ hM2 (rS_m0 _), bnd_some, if_neg (by decide), tk_M (by omega), bnd_some]
    exact g1
