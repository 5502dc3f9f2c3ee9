/-! work -/
def wkT (t : Nat) : Bool := match t with
  | 303 => true
  | 304 => true
  | 701 => true
  | 702 => true
  | 703 => true
  | 704 => true
  | 10704 => true
  | 10705 => true
  | 10706 => true
  | 10707 => true
  | 10801 => true
  | 10802 => true
  | 10803 => true
  | 10804 => true
  | 10805 => true
  | 10806 => true
  | 10915 => true
  | 11000 => true
  | 11002 => true
  | 11003 => true
  | 11004 => true
  | 11005 => true
  | 11006 => true
  | 11007 => true
  | 11008 => true
  | 1015 => true
  | 1016 => true
  | 1017 => true
  | 1018 => true
  | 1019 => true
  | 1020 => true
  | 1021 => true
  | 11036 => true
  | 11037 => true
  | 11038 => true
  | 11039 => true
  | 11040 => true
  | 11041 => true
  | _ => false
def pWk (m : Nat) (a : LA) : Bool := wkT a.1 || ((morT a.1 && (Nat.beq a.2 9 || Nat.beq a.2 (20 + 10 * m))) || (Nat.beq a.1 10202 && Nat.beq a.2 8))
theorem wkT_pWk (m : Nat) (a : LA) (h : wkT a.1 = true) : pWk m a = true := by unfold pWk; rw [h, Bool.true_or]
theorem pTx_wk (a : LA) (h : pTx a = true) : wkT a.1 = true := by
  obtain ⟨t, i⟩ := a
  have h1 := (and_t (a := (Nat.beq t 10803 || (Nat.beq t 10804 || (Nat.beq t 10805 || Nat.beq t 10806)))) h).1
  rcases or_t h1 with e | e
  · have := Nat.eq_of_beq_eq_true e; subst this; rfl
  rcases or_t e with e | e
  · have := Nat.eq_of_beq_eq_true e; subst this; rfl
  rcases or_t e with e | e
  · have := Nat.eq_of_beq_eq_true e; subst this; rfl
  · have := Nat.eq_of_beq_eq_true e; subst this; rfl
theorem pTm_wk (a : LA) (h : pTm a = true) : wkT a.1 = true := by
  obtain ⟨t, i⟩ := a
  have h1 := (and_t (a := (Nat.beq t 11004 || (Nat.beq t 11005 || Nat.beq t 11006))) h).1
  rcases or_t h1 with e | e
  · have := Nat.eq_of_beq_eq_true e; subst this; rfl
  rcases or_t e with e | e
  · have := Nat.eq_of_beq_eq_true e; subst this; rfl
  · have := Nat.eq_of_beq_eq_true e; subst this; rfl
theorem pBg_wk (a : LA) (h : pBg a = true) : wkT a.1 = true := by
  obtain ⟨t, i⟩ := a
  have h1 := (and_t (a := (Nat.beq t 10801 || (Nat.beq t 10802 || (Nat.beq t 10803 || (Nat.beq t 10804 || (Nat.beq t 10805 || Nat.beq t 10806)))))) h).1
  rcases or_t h1 with e | e
  · have := Nat.eq_of_beq_eq_true e; subst this; rfl
  rcases or_t e with e | e
  · have := Nat.eq_of_beq_eq_true e; subst this; rfl
  rcases or_t e with e | e
  · have := Nat.eq_of_beq_eq_true e; subst this; rfl
  rcases or_t e with e | e
  · have := Nat.eq_of_beq_eq_true e; subst this; rfl
  rcases or_t e with e | e
  · have := Nat.eq_of_beq_eq_true e; subst this; rfl
  · have := Nat.eq_of_beq_eq_true e; subst this; rfl
theorem pBm_wk (a : LA) (h : pBm a = true) : wkT a.1 = true := by
  obtain ⟨t, i⟩ := a
  have h1 := (and_t (a := (Nat.beq t 11000 || (Nat.beq t 11002 || (Nat.beq t 11003 || (Nat.beq t 11004 || (Nat.beq t 11005 || (Nat.beq t 11006 || (Nat.beq t 11007 || Nat.beq t 11008)))))))) h).1
  rcases or_t h1 with e | e
  · have := Nat.eq_of_beq_eq_true e; subst this; rfl
  rcases or_t e with e | e
  · have := Nat.eq_of_beq_eq_true e; subst this; rfl
  rcases or_t e with e | e
  · have := Nat.eq_of_beq_eq_true e; subst this; rfl
  rcases or_t e with e | e
  · have := Nat.eq_of_beq_eq_true e; subst this; rfl
  rcases or_t e with e | e
  · have := Nat.eq_of_beq_eq_true e; subst this; rfl
  rcases or_t e with e | e
  · have := Nat.eq_of_beq_eq_true e; subst this; rfl
  rcases or_t e with e | e
  · have := Nat.eq_of_beq_eq_true e; subst this; rfl
  · have := Nat.eq_of_beq_eq_true e; subst this; rfl
theorem pWa_wk (a : LA) (h : pWa a = true) : wkT a.1 = true := by
  obtain ⟨t, i⟩ := a
  rcases or_t (a := pTx (t, i)) h with e | e
  · exact pTx_wk _ e
  have h1 := (and_t (a := (Nat.beq t 701 || (Nat.beq t 702 || (Nat.beq t 703 || (Nat.beq t 704 || Nat.beq t 10704))))) e).1
  rcases or_t h1 with e | e
  · have := Nat.eq_of_beq_eq_true e; subst this; rfl
  rcases or_t e with e | e
  · have := Nat.eq_of_beq_eq_true e; subst this; rfl
  rcases or_t e with e | e
  · have := Nat.eq_of_beq_eq_true e; subst this; rfl
  rcases or_t e with e | e
  · have := Nat.eq_of_beq_eq_true e; subst this; rfl
  · have := Nat.eq_of_beq_eq_true e; subst this; rfl
theorem pWm_wk (a : LA) (h : pWm a = true) : wkT a.1 = true := by
  obtain ⟨t, i⟩ := a
  rcases or_t (a := pTm (t, i)) h with e | e
  · exact pTm_wk _ e
  have h1 := (and_t (a := (Nat.beq t 1017 || (Nat.beq t 11036 || Nat.beq t 11007))) e).1
  rcases or_t h1 with e | e
  · have := Nat.eq_of_beq_eq_true e; subst this; rfl
  rcases or_t e with e | e
  · have := Nat.eq_of_beq_eq_true e; subst this; rfl
  · have := Nat.eq_of_beq_eq_true e; subst this; rfl
theorem pWm_q (a : LA) (h : pWm a = true) : q842 a = true := by
  rcases or_t (a := pTm a) h with e | e
  · exact (and_t e).2
  · exact (and_t e).2
theorem pBm_q (a : LA) (h : pBm a = true) : q842 a = true := (and_t h).2
theorem pRM_q (a : LA) (h : pRM a = true) : q842 a = true := by
  rcases or_t (a := pSM a) h with e | e
  · exact (and_t e).2
  · exact (and_t e).2
theorem pRM_wk (a : LA) (h : pRM a = true) : wkT a.1 = true := by
  obtain ⟨t, i⟩ := a
  rcases or_t (a := pSM (t, i)) h with e | e
  · have h1 := (and_t (a := (Nat.beq t 1015 || (Nat.beq t 1016 || Nat.beq t 1020))) e).1
    rcases or_t h1 with e | e
    · have := Nat.eq_of_beq_eq_true e; subst this; rfl
    rcases or_t e with e | e
    · have := Nat.eq_of_beq_eq_true e; subst this; rfl
    · have := Nat.eq_of_beq_eq_true e; subst this; rfl
  · have h1 := (and_t (a := (Nat.beq t 11039 || (Nat.beq t 11040 || Nat.beq t 11041))) e).1
    rcases or_t h1 with e | e
    · have := Nat.eq_of_beq_eq_true e; subst this; rfl
    rcases or_t e with e | e
    · have := Nat.eq_of_beq_eq_true e; subst this; rfl
    · have := Nat.eq_of_beq_eq_true e; subst this; rfl
theorem pMor_wk {m i : Nat} (hi : i = 9 ∨ i = 20 + 10 * m) (a : LA) (h : pMor i a = true) : pWk m a = true := by
  obtain ⟨t, x⟩ := a
  obtain ⟨g1, g2⟩ := and_t (a := morT t) h
  have e2 : x = i := Nat.eq_of_beq_eq_true g2
  subst e2
  show (wkT t || ((morT t && (Nat.beq x 9 || Nat.beq x (20 + 10 * m))) || _)) = true
  rw [g1]
  rcases hi with e | e
  · rw [e]; simp
  · rw [e, Nat.beq_refl]; simp
theorem pMo_pMor (i : Nat) (a : LA) (h : pMo i a = true) : pMor i a = true := by
  obtain ⟨t, j⟩ := a
  obtain ⟨h1, h2⟩ := and_t (a := ((Nat.ble 402 t && Nat.ble t 409) || Nat.beq t 10409)) h
  show (morT t && Nat.beq j i) = true
  rw [h2]
  have hm : morT t = true := by
    rcases or_t h1 with e | e
    · obtain ⟨e3, e4⟩ := and_t e
      have e3 := Nat.le_of_ble_eq_true e3
      have e4 := Nat.le_of_ble_eq_true e4
      rcases (by omega : t = 402 ∨ t = 403 ∨ t = 404 ∨ t = 405 ∨ t = 406 ∨ t = 407 ∨ t = 408 ∨ t = 409) with e | e | e | e | e | e | e | e <;> subst e <;> rfl
    · have := Nat.eq_of_beq_eq_true e; subst this; rfl
  rw [hm]
  rfl
theorem pRC_wk {m l : Nat} (a : LA) (h : pRC l a = true) : pWk m a = true := by
  obtain ⟨t, i⟩ := a
  rcases or_t (a := pMC 9 l (t, i)) h with e | e
  · rcases or_t (a := pMo 9 (t, i)) e with e | e
    · exact pMor_wk (Or.inl rfl) _ (pMo_pMor 9 _ e)
    · refine wkT_pWk m _ ?_
      have h1 := (and_t (a := (Nat.beq t 303 || Nat.beq t 304)) e).1
      rcases or_t h1 with e | e
      · have := Nat.eq_of_beq_eq_true e; subst this; rfl
      · have := Nat.eq_of_beq_eq_true e; subst this; rfl
  · refine wkT_pWk m _ ?_
    have h1 := (and_t (a := (Nat.beq t 10705 || (Nat.beq t 10706 || Nat.beq t 10707))) e).1
    rcases or_t h1 with e | e
    · have := Nat.eq_of_beq_eq_true e; subst this; rfl
    rcases or_t e with e | e
    · have := Nat.eq_of_beq_eq_true e; subst this; rfl
    · have := Nat.eq_of_beq_eq_true e; subst this; rfl
theorem pWk_out {m j : Nat} (h1 : j ≠ 9) (h2 : j ≠ 20 + 10 * m) (t : Nat) (ht : t < 9) : pWk m (401 + t, j) = false := by
  have e1 : wkT (401 + t) = false := all9 (Q := fun t => wkT (401 + t) = false) rfl rfl rfl rfl rfl rfl rfl rfl rfl t ht
  have e2 : Nat.beq (401 + t) 10202 = false := beq_ne (by omega)
  show (wkT (401 + t) || ((morT (401 + t) && (Nat.beq j 9 || Nat.beq j (20 + 10 * m))) || (Nat.beq (401 + t) 10202 && Nat.beq j 8))) = false
  rw [e1, e2, beq_ne h1, beq_ne h2]
  simp
theorem pWk_outS {m j : Nat} (h1 : j ≠ 9) (h2 : j ≠ 20 + 10 * m) : pWk m (10409, j) = false := by
  show (wkT 10409 || ((morT 10409 && (Nat.beq j 9 || Nat.beq j (20 + 10 * m))) || (Nat.beq 10409 10202 && Nat.beq j 8))) = false
  rw [beq_ne h1, beq_ne h2]
  rfl
theorem pWk_h {m i : Nat} (h : i ≠ 8) : pWk m (10202, i) = false := by
  show (wkT 10202 || ((morT 10202 && _) || (true && Nat.beq i 8))) = false
  rw [beq_ne h]
  rfl
theorem okX_wk (P : LA → Bool) (h : ∀ a, P a = true → pBg a = true ∨ pWa a = true ∨ pBm a = true ∨ pWm a = true) : okX P := by
  have key : ∀ a : LA, pBg a = false → pWa a = false → pBm a = false → pWm a = false → P a = false := by
    intro a h1 h2 h3 h4
    cases e : P a
    · rfl
    · rcases h a e with k | k | k | k
      · rw [h1] at k; cases k
      · rw [h2] at k; cases k
      · rw [h3] at k; cases k
      · rw [h4] at k; cases k
  exact ⟨fun t ht j => all9 (Q := fun t => P (401 + t, j) = false) (key _ rfl rfl rfl rfl) (key _ rfl rfl rfl rfl) (key _ rfl rfl rfl rfl) (key _ rfl rfl rfl rfl) (key _ rfl rfl rfl rfl) (key _ rfl rfl rfl rfl) (key _ rfl rfl rfl rfl) (key _ rfl rfl rfl rfl) (key _ rfl rfl rfl rfl) t ht, fun j => key _ rfl rfl rfl rfl, fun j => key _ rfl rfl rfl rfl, key _ rfl rfl rfl rfl, key _ rfl rfl rfl rfl, key _ rfl rfl rfl rfl, key _ rfl rfl rfl rfl, key _ rfl rfl rfl rfl, key _ rfl rfl rfl rfl, key _ rfl rfl rfl rfl, key _ rfl rfl rfl rfl⟩
def pW4 (a : LA) : Bool := pBg a || (pWa a || (pBm a || pWm a))
theorem pW4_or (a : LA) (h : pW4 a = true) : pBg a = true ∨ pWa a = true ∨ pBm a = true ∨ pWm a = true := by
  rcases or_t h with e | e
  · exact Or.inl e
  rcases or_t e with e | e
  · exact Or.inr (Or.inl e)
  rcases or_t e with e | e
  · exact Or.inr (Or.inr (Or.inl e))
  · exact Or.inr (Or.inr (Or.inr e))
theorem Fr.g4 {w w1 : MEM} (g : Fr pBg w w1) : Fr pW4 w w1 := g.mono (fun a h => by unfold pW4; rw [h, Bool.true_or])
theorem Fr.a4 {w w1 : MEM} (g : Fr pWa w w1) : Fr pW4 w w1 := g.mono (fun a h => by unfold pW4; rw [h, Bool.true_or, Bool.or_true])
theorem Fr.b4 {w w1 : MEM} (g : Fr pBm w w1) : Fr pW4 w w1 := g.mono (fun a h => by unfold pW4; rw [h, Bool.true_or, Bool.or_true, Bool.or_true])
theorem Fr.m4 {w w1 : MEM} (g : Fr pWm w w1) : Fr pW4 w w1 := g.mono (fun a h => by unfold pW4; rw [h, Bool.or_true, Bool.or_true, Bool.or_true])
theorem okC_W4 (c l : Nat) : okC pW4 c l := ⟨rfl, rfl, rfl, rfl, rfl, rfl, rfl, rfl, rfl, rfl, rfl, rfl, rfl⟩
theorem okM_W4 : okM pW4 := ⟨rfl, rfl, rfl, rfl, rfl, rfl, rfl, rfl, rfl, rfl⟩
theorem okC_Wk (m c l : Nat) : okC (pWk m) c l := ⟨rfl, rfl, rfl, rfl, rfl, rfl, rfl, rfl, rfl, rfl, rfl, rfl, rfl⟩
theorem okM_Wk (m : Nat) : okM (pWk m) := ⟨rfl, rfl, rfl, rfl, rfl, rfl, rfl, rfl, rfl, rfl⟩
theorem pW4_wk (m : Nat) (a : LA) (h : pW4 a = true) : pWk m a = true := by
  refine wkT_pWk m a ?_
  rcases pW4_or a h with e | e | e | e
  · exact pBg_wk a e
  · exact pWa_wk a e
  · exact pBm_wk a e
  · exact pWm_wk a e
def pWz (a : LA) : Bool := p1021 a || (pRM a || ((Nat.beq a.1 1018 || (Nat.beq a.1 11037 || (Nat.beq a.1 1019 || Nat.beq a.1 11038))) && Nat.beq a.2 842))
theorem pWz_q (a : LA) (h : pWz a = true) : q842 a = true := by
  rcases or_t (a := p1021 a) h with e | e
  · exact (and_t e).2
  rcases or_t e with e | e
  · exact pRM_q a e
  · exact (and_t e).2
theorem pWz_wk (a : LA) (h : pWz a = true) : wkT a.1 = true := by
  obtain ⟨t, i⟩ := a
  rcases or_t (a := p1021 (t, i)) h with e | e
  · have := Nat.eq_of_beq_eq_true (and_t (a := Nat.beq t 1021) e).1; subst this; rfl
  rcases or_t e with e | e
  · exact pRM_wk _ e
  have h1 := (and_t (a := (Nat.beq t 1018 || (Nat.beq t 11037 || (Nat.beq t 1019 || Nat.beq t 11038)))) e).1
  rcases or_t h1 with e | e
  · have := Nat.eq_of_beq_eq_true e; subst this; rfl
  rcases or_t e with e | e
  · have := Nat.eq_of_beq_eq_true e; subst this; rfl
  rcases or_t e with e | e
  · have := Nat.eq_of_beq_eq_true e; subst this; rfl
  · have := Nat.eq_of_beq_eq_true e; subst this; rfl
theorem Fr.z21 {w w1 : MEM} (g : Fr p1021 w w1) : Fr pWz w w1 := g.mono (fun a h => by unfold pWz; rw [h, Bool.true_or])
theorem Fr.zRM {w w1 : MEM} (g : Fr pRM w w1) : Fr pWz w w1 := g.mono (fun a h => by unfold pWz; rw [h, Bool.true_or, Bool.or_true])
theorem pRC_out {l j : Nat} (h : j ≠ 9) (t : Nat) (ht : t < 9) : pRC l (401 + t, j) = false := by
  have e1 : pMo 9 (401 + t, j) = false := by
    show (_ && Nat.beq j 9) = false
    rw [beq_ne h, Bool.and_false]
  have e2 : pLC l (401 + t, j) = false := by
    show ((Nat.beq (401 + t) 303 || Nat.beq (401 + t) 304) && Nat.beq j l) = false
    rw [beq_ne (show 401 + t ≠ 303 by omega), beq_ne (show 401 + t ≠ 304 by omega)]
    rfl
  have e3 : pC7 (401 + t, j) = false := by
    show ((Nat.beq (401 + t) 10705 || (Nat.beq (401 + t) 10706 || Nat.beq (401 + t) 10707)) && Nat.beq j 3) = false
    rw [beq_ne (show 401 + t ≠ 10705 by omega), beq_ne (show 401 + t ≠ 10706 by omega), beq_ne (show 401 + t ≠ 10707 by omega)]
    rfl
  show ((pMo 9 (401 + t, j) || pLC l (401 + t, j)) || pC7 (401 + t, j)) = false
  rw [e1, e2, e3]
  rfl
theorem pRC_outS {l j : Nat} (h : j ≠ 9) : pRC l (10409, j) = false := by
  have e1 : pMo 9 (10409, j) = false := by
    show (_ && Nat.beq j 9) = false
    rw [beq_ne h, Bool.and_false]
  show ((pMo 9 (10409, j) || pLC l (10409, j)) || pC7 (10409, j)) = false
  rw [e1]
  rfl
theorem S_work (a : Int32) {w : MEM} (hI : INV w) : SIM KI (f_X9_work 3000 0 a) (f_X10_work 3000 842 a) w := by
  have h := hI
  obtain ⟨C, cc, l, b, hr, hc, hk⟩ := h
  have hw := hc.1
  have h7 := hw.1
  have hT := hc.2.2.2.2.2.1
  rcases begin_C (a := a) (most := 150) hT 150 rfl (by omega) with ⟨e1, e2⟩ | ⟨N, w1, n1, rfl, n2, e1, T1, F1, z1, hT1⟩
  · refine SIM_W hI 1 (by rw [E_X9_work, e1]; rfl) ?_ rfl
    have e11 : rS (m0 (bW w)) (11002, 842) = rS w (11002, 842) := rfl
    rw [E_X10_work, lt_eq, m0_eq, may_W 3000 (by decide) (rS_m0 _), bnd_some, if_pos rfl, e11]
    by_cases c1 : a < 0
    · rw [if_pos c1]
    · rw [if_neg c1]
      by_cases c2 : rS w (11002, 842) < a
      · rw [if_pos c2]
      · rw [if_neg c2, if_pos]
        rcases e2 with e2 | e2 | e2
        · exact absurd e2 c1
        · exact absurd e2 c2
        · exact e2
  obtain ⟨m, m1, m2, m3, m4, m5⟩ := hc.2.2.2.1
  have m2 : rS w (11037, 842) = nI m := m2
  have hcr : rT w1 (10908, 0) = cc := (F1.2.2.1 _).trans hr.1
  have hH1 : rS w1 (10107, cc) = nI (cH C) := (F1.2.1 _ rfl).trans hc.2.1.1
  have hm1 : rS w1 (10202, 8) = nI m := (F1.2.1 _ rfl).trans m3
  -- the model up to its first line
  have mod : ∀ wx : MEM, rS wx (11002, 842) = rS w (11002, 842) → fA wx (1002, 842) = fA w (1002, 842) → rS wx (11037, 842) = nI m → ∃ v, TXM v (tapeT w) N 0 ∧ rS v (11007, 842) = 0 ∧ Fr pBm wx v ∧ rS v (11002, 842) = 0 ∧ rS v (11000, 842) = 0 ∧ f_X10_work 3000 842 (nI N) wx = (if nI m = (16 : Int32) then some (-20, sS v (11008, 842) (-1)) else f_X10_work_68 3000 3000 842 (sS v (11036, 842) 0)) := by
    intro wx g1 g2 g3
    obtain ⟨v, y1, y2, y3, y4, y5, y6⟩ := begins_M (u := m0 wx) (T := tapeT w) (N := N) (by omega) (fun k hk => ⟨(hT1 k hk).1, by
      have : fA (m0 wx) (1002, 842) = fA w (1002, 842) := g2
      rw [this]; exact (hT1 k hk).2⟩)
    have e11 : rS (m0 wx) (11002, 842) = rS w (11002, 842) := g1
    have e37 : rS v (11037, 842) = nI m := (y3.2.1 _ rfl).trans g3
    refine ⟨v, y2, y5, Fr.tr (w1 := m0 wx) ?_ y3, y4, y6.trans (rS_m0 wx), ?_⟩
    · unfold m0
      exact Fr.S (a := (11000, 842)) (Fr.rf _ _) _ rfl
    · rw [E_X10_work, lt_eq, m0_eq, if_neg (nI_pos (by omega)), e11, if_neg n2, if_neg (by rw [nLlt _ _ (by omega) (by decide)]; show ¬ 150 < N; omega), may_1 3000 _ _ (rS_m0 _), bnd_some, if_neg (by decide), y1, bnd_some, e37, result_ok _ y2, bnd_some, lt_eq]
  -- the end of a call that changes the text alone
  have txt : ∀ (x : Int32) (u1 v2 : MEM), Fr pW4 w u1 → Fr pW4 u1 v2 → Fr q842 u1 v2 → f_X9_work 3000 0 (nI N) w = some (.inl x, u1) → f_X10_work 3000 842 (nI N) u1 = some (x, v2) → rS v2 (11000, 842) = 0 → rS v2 (11002, 842) = 0 → rS u1 (10801, 1) = 0 → rS u1 (10806, 1) = rS v2 (11008, 842) → SIM KI (f_X9_work 3000 0 (nI N)) (f_X10_work 3000 842 (nI N)) w := by
    intro x u1 v2 g1 g2 g3 hX hM h0 h2 ht hq
    have g := g1.tr g2
    refine ⟨.inl x, u1, x, v2, hX, hM, ⟨C, cc, l, b, hr.fr g, ?_, hk.fr g rfl rfl rfl⟩, h0, rfl⟩
    refine hc.txt g (okC_W4 _ _) okM_W4 (okX_wk pW4 pW4_or) (tape0 ((g3.2.1 _ rfl).trans ht) h2) ((g3.2.1 _ rfl).trans hq) (hc.2.2.2.2.2.2.2.2.fr g rfl rfl rfl rfl)
  by_cases c16 : m = 16
  · have e16 : nI m = (16 : Int32) := by rw [c16]; rfl
    obtain ⟨v, k1, k2, k3, k4, k5, k6⟩ := mod w1 (F1.2.1 _ rfl) (F1.1 _ rfl) ((F1.2.1 _ rfl).trans m2)
    rw [if_pos e16] at k6
    refine txt (-20) w1 _ F1.g4 (Fr.S (a := (11008, 842)) k3.b4 _ rfl) (Fr.S (a := (11008, 842)) (k3.mono pBm_q) _ rfl) ?_ k6 k5 k4 z1 ?_
    · rw [E_X9_work, e1, bndT_inl, hm1, if_neg (by rw [nltL _ _ (by omega) (by decide)]; show ¬ m < 16; omega)]
    · exact T1.2.2.2.2.1
  have hm16 : m < 16 := by omega
  have n16 : ¬ nI m = (16 : Int32) := by rw [neqL _ _ (by omega) (by decide)]; exact c16
  have hX0 : f_X9_work 3000 0 (nI N) w = bnd (f_X7_read 3000 3 1 (nI (cH C)) w1) fun (x5 : Int32) (w4 : MEM) => if x5 = 0 then (some (.inl ((rS w4 (10805, 1)) - (10 : Int32)), w4)) else (bnd (f_X2_keep 3000 8 w4) fun (u7 : Unit) (w6 : MEM) => bnd (f_X7_run 3000 3 (8 + 1) (rT w6 (10908, 0)) (rT w6 (10910, 0)) w6) fun (u11 : Unit) (w10 : MEM) => lt (sS w10 (10915, 0) (rS w10 (10707, 3))) fun (w12 : MEM) => some (.inl (rS w12 (10706, 3)), w12)) := by
    rw [E_X9_work, e1, bndT_inl, hm1, if_pos (by rw [nltL _ _ (by omega) (by decide)]; show m < 16; omega), hcr, hH1]
  have hMH : ∀ (u v : MEM), Fr pW4 w u → Fr pBm u v → rS (sS v (11036, 842) 0) (11022, 842) = nI (cH C) := fun u v g1 g2 => (g2.2.1 (11022, 842) rfl).trans ((g1.2.1 (11022, 842) rfl).trans hc.2.2.1.1)
  rcases read_W n1 h7 T1 with ⟨S1, u1, f, i1, i2, i3, i4, i5, i6, i7, i8⟩ | ⟨d, q5, u1, i1, i2, i3, i4⟩
  · have g1 : Fr pW4 w u1 := F1.g4.tr i2.a4
    have X4 : okX pW4 := okX_wk pW4 pW4_or
    have r8 : rS u1 (10202, 8) = nI m := (i2.2.1 _ rfl).trans hm1
    have hR1 : Rm u1 9 C (nowH w) := Rm.fr (i := 9) m4.1 g1 (fun t ht => X4.1 t ht 9) (X4.2.1 9)
    obtain ⟨u2, b1, b2, b3⟩ := copy_C 3000 (i := 20 + 10 * m) (j := 9) (by omega) u1
    have b3 := b3 C _ h7 hR1
    obtain ⟨u3, hu3⟩ : ∃ u3, sS u2 (10202, 8) (nI (m + 1)) = u3 := ⟨_, rfl⟩
    have hkeep : f_X2_keep 3000 8 u1 = some ((), u3) := by
      rw [E_X2_keep, r8, if_pos (by rw [nltL _ _ (by omega) (by decide)]; show m < 16; omega), bIn _ _ (by omega), decide_eq_true (show m < 16 by omega), ck_tr, nI_clamp (by omega)]
      show bnd (f_X4_copy 3000 (20 + 10 * m) 9 u1) _ = _
      rw [b1, bnd_some, lt_eq, (b2.2.1 _ rfl).trans r8, naddL, hu3]
    have g3 : Fr (pWk m) w u3 := by
      rw [← hu3]
      exact Fr.S (a := (10202, 8)) ((g1.mono (pW4_wk m)).tr (b2.mono (pMor_wk (Or.inr rfl)))) _ rfl
    have hR3 : Rm u3 9 C (nowH w) := by
      have : Rm u2 9 C (nowH w) := hR1.fr b2 (fun t _ => pMor_out (by omega) _) (pMor_out (by omega) _)
      rw [← hu3]
      exact this
    have hS3 : SC u3 S1 := by
      have : SC u2 S1 := by
        unfold SC
        rw [b2.2.1 (10704, 3) rfl, b2.1 (701, 3) rfl, b2.1 (702, 3) rfl, b2.1 (703, 3) rfl, b2.1 (704, 3) rfl]
        exact i4
      rw [← hu3]
      exact this
    obtain ⟨G, hG⟩ : ∃ G : Nat → Int32, (fun j => if j < 57 then fA w (1019, 842) j else fA w (1020, 842) j) = G := ⟨_, rfl⟩
    have eG : ∀ j < 57, nowH w j = G j := by
      intro j hj
      rw [nowH_lt _ hj, ← hG]
      exact (if_pos hj).symm
    obtain ⟨t, ht, hb⟩ := m4.2
    obtain ⟨u4, hu4⟩ : ∃ u4, sS (sS (sS u3 (10705, 3) 0) (10706, 3) 0) (10707, 3) 0 = u4 := ⟨_, rfl⟩
    have f4 : Fr pC7 u3 u4 := by
      rw [← hu4]
      exact (fr5 _ _).tr ((fr6 _ _).tr (fr7 _ _))
    have R0 : RC C cc l S1 u4 G 0 0 0 := ⟨(hc.2.1.fr g3 (okC_Wk m cc l)).fr f4 (okC7 _ _), (Rm_ext h7 hR3 eG).fr f4 p7m rfl, ⟨t, ht, Bd_ext h7 hb eG⟩, hS3.fr7 f4, by rw [← hu4]; rfl, by rw [← hu4]; rfl, by rw [← hu4]; rfl⟩
    obtain ⟨G1, a1, b1', e1', u5, x1, x2, x3, x4, x5⟩ := run_row hw i5 i6 f 0 0 (sN S1) 39 39 0 2999 2999 u4 G 0 0 0 i7 (Nat.le_refl _) (by omega) (by omega) (by omega) (by omega) (by omega) (by omega) R0 (by omega)
    have x1 : f_X7_runRow 3000 40 3 (0 : Int32) (nI (sN S1)) (0 : Int32) 9 cc l u4 = some ((), u5) := x1
    have hrun : f_X7_run 3000 3 (8 + 1) cc l u3 = some ((), u5) := by
      rw [E_X7_run, lt_eq, lt_eq, lt_eq]
      show bnd (f_X7_runRow 3000 40 3 (0 : Int32) (rS (sS (sS (sS u3 (10705, 3) 0) (10706, 3) 0) (10707, 3) 0) (10704, 3)) (0 : Int32) 9 cc l (sS (sS (sS u3 (10705, 3) 0) (10706, 3) 0) (10707, 3) 0)) _ = _
      rw [hu4, R0.2.2.2.1.1, x1, bnd_some]
    have hc3 : rT u3 (10908, 0) = cc := (g3.2.2.1 _).trans hr.1
    have hl3 : rT u3 (10910, 0) = l := (g3.2.2.1 _).trans hr.2.1
    obtain ⟨u6, hu6⟩ : ∃ u6, sS u5 (10915, 0) (nI e1') = u6 := ⟨_, rfl⟩
    have hX : f_X9_work 3000 0 (nI N) w = some (.inl (nI b1'), u6) := by
      rw [hX0, i1, bnd_some, if_neg (by decide), hkeep, bnd_some, hc3, hl3, hrun, bnd_some, x2.2.2.2.2.2.2, lt_eq, hu6, ← hu6]
      have : rS (sS u5 (10915, 0) (nI e1')) (10706, 3) = nI b1' := x2.2.2.2.2.2.1
      rw [this]
    have g4 : Fr (pWk m) w u4 := g3.tr ((f4.c7 (l := l)).mono pRC_wk)
    have g6 : Fr (pWk m) w u6 := by
      rw [← hu6]
      exact Fr.S (a := (10915, 0)) (g4.tr (x4.mono pRC_wk)) _ rfl
    have clA : ∀ a : LA, pBg a = false → pWa a = false → pMor (20 + 10 * m) a = false → pC7 a = false → pRC l a = false → fA u6 a = fA w a := by
      intro a h1 h2 h3 h4 h5
      have e6 : fA u6 a = fA u5 a := by rw [← hu6]; rfl
      have e3 : fA u3 a = fA u2 a := by rw [← hu3]; rfl
      rw [e6, x4.1 a h5, f4.1 a h4, e3, b2.1 a h3, i2.1 a h2, F1.1 a h1]
    have s10202 : rS u6 (10202, 8) = nI (m + 1) := by
      have e6 : rS u6 (10202, 8) = rS u5 (10202, 8) := by rw [← hu6]; rfl
      have e3 : rS u3 (10202, 8) = nI (m + 1) := by rw [← hu3]; rfl
      rw [e6, x4.2.1 _ rfl, f4.2.1 _ rfl, e3]
    have clS : ∀ a : LA, pBg a = false → pWa a = false → pMor (20 + 10 * m) a = false → pC7 a = false → pRC l a = false → rS (sS u5 (10915, 0) (nI e1')) a = rS u5 a → rS (sS u2 (10202, 8) (nI (m + 1))) a = rS u2 a → rS u6 a = rS w a := by
      intro a h1 h2 h3 h4 h5 h6 h7
      rw [hu6] at h6
      rw [hu3] at h7
      rw [h6, x4.2.1 a h5, f4.2.1 a h4, h7, b2.2.1 a h3, i2.2.1 a h2, F1.2.1 a h1]
    have c1801 : rS u6 (10801, 1) = 0 := by
      have e6 : rS u6 (10801, 1) = rS u5 (10801, 1) := by rw [← hu6]; rfl
      have e3 : rS u3 (10801, 1) = rS u2 (10801, 1) := by rw [← hu3]; rfl
      rw [e6, x4.2.1 _ rfl, f4.2.1 _ rfl, e3, b2.2.1 _ rfl, i2.2.1 _ rfl, z1]
    have c1806 : rS u6 (10806, 1) = -1 := by
      have e6 : rS u6 (10806, 1) = rS u5 (10806, 1) := by rw [← hu6]; rfl
      have e3 : rS u3 (10806, 1) = rS u2 (10806, 1) := by rw [← hu3]; rfl
      rw [e6, x4.2.1 _ rfl, f4.2.1 _ rfl, e3, b2.2.1 _ rfl, i3.2.2.2.2.1]
    have c0915 : rS u6 (10915, 0) = nI e1' := by rw [← hu6]; rfl
    -- the model
    obtain ⟨v, k1, k2, k3, k4, k5, k6⟩ := mod u6 (clS _ rfl rfl rfl rfl rfl rfl rfl) (clA _ rfl rfl rfl rfl rfl) ((clS _ rfl rfl rfl rfl rfl rfl rfl).trans m2)
    rw [if_neg n16] at k6
    have h22 : rS (sS v (11036, 842) 0) (11022, 842) = nI (cH C) := (k3.2.1 (11022, 842) rfl).trans ((g6.2.1 (11022, 842) rfl).trans hc.2.2.1.1)
    obtain ⟨v1, j1, j2, j3, j4⟩ := i8 (sS v (11036, 842) 0) k1 rfl k2 h22
    have j5 : Fr pWm v v1 := Fr.tr (w1 := sS v (11036, 842) 0) (Fr.S (a := (11036, 842)) (Fr.rf _ _) _ rfl) j4
    have A1 : ∀ a : LA, pBm a = false → pWm a = false → fA v1 a = fA u6 a := fun a h1 h2 => (j5.1 a h2).trans (k3.1 a h1)
    have e36 : rS (sS v1 (11008, 842) (-1)) (11036, 842) = nI (3 * sN S1) := j3.1
    obtain ⟨v2, hv2⟩ : ∃ v2, sS v1 (11008, 842) (-1) = v2 := ⟨_, rfl⟩
    rw [hv2] at e36
    have cp := copies_M (fu := 3000) (w := v2) (a := (1017, 842)) (b := (1018, 842)) (n := 3 * sN S1) (by decide) (by show 3 * sN S1 ≤ 150; omega) (by show 3 * sN S1 ≤ 150; omega) (by omega) (by omega)
    obtain ⟨v3, hv3⟩ : ∃ v3, tA v2 (1018, 842) (fun j => if j < 3 * sN S1 then fA v2 (1017, 842) j else fA v2 (1018, 842) j) = v3 := ⟨_, rfl⟩
    rw [hv3] at cp
    have f23 : Fr pWz v2 v3 := by
      rw [← hv3]
      exact Fr.A (a := (1018, 842)) (Fr.rf _ _) _ rfl
    have A3 : ∀ a : LA, pBm a = false → pWm a = false → pWz a = false → fA v3 a = fA u6 a := fun a h1 h2 h3 => by
      have e2 : fA v2 a = fA v1 a := by rw [← hv2]; rfl
      rw [f23.1 a h3, e2, A1 a h1 h2]
    have e37 : rS v3 (11037, 842) = nI m := by
      have e3 : rS v3 (11037, 842) = rS v2 (11037, 842) := by rw [← hv3]; rfl
      have e2 : rS v2 (11037, 842) = rS v1 (11037, 842) := by rw [← hv2]; rfl
      rw [e3, e2, j5.2.1 _ rfl, k3.2.1 _ rfl, clS _ rfl rfl rfl rfl rfl rfl rfl, m2]
    obtain ⟨v4, w1', w2', w3', w4'⟩ := work_keep e37 hm16
    have e319 : fA v3 (1019, 842) = fA w (1019, 842) := by
      have e3 : fA v3 (1019, 842) = fA v2 (1019, 842) := by rw [← hv3]; rfl
      have e2 : fA v2 (1019, 842) = fA v1 (1019, 842) := by rw [← hv2]; rfl
      rw [e3, e2, A1 _ rfl rfl, clA _ rfl rfl rfl rfl rfl]
    have e320 : fA v3 (1020, 842) = fA w (1020, 842) := by
      have e3 : fA v3 (1020, 842) = fA v2 (1020, 842) := by rw [← hv3]; rfl
      have e2 : fA v2 (1020, 842) = fA v1 (1020, 842) := by rw [← hv2]; rfl
      rw [e3, e2, A1 _ rfl rfl, clA _ rfl rfl rfl rfl rfl]
    have e321 : fA v3 (1021, 842) = fA w (1021, 842) := by
      have e3 : fA v3 (1021, 842) = fA v2 (1021, 842) := by rw [← hv3]; rfl
      have e2 : fA v2 (1021, 842) = fA v1 (1021, 842) := by rw [← hv2]; rfl
      rw [e3, e2, A1 _ rfl rfl, clA _ rfl rfl rfl rfl rfl]
    obtain ⟨v5, hv5⟩ : ∃ v5, sS v4 (11037, 842) (nI (m + 1)) = v5 := ⟨_, rfl⟩
    have f45 : Fr pWz v4 v5 := by
      rw [← hv5]
      exact Fr.S (a := (11037, 842)) (Fr.rf _ _) _ rfl
    have tk := take_M (fu := 3000) v5 (by omega)
    have eT : takeF v5 = G := by
      have e19 : fA v5 (1019, 842) = fA w (1019, 842) := by
        have : fA v5 (1019, 842) = fA v4 (1019, 842) := by rw [← hv5]; rfl
        rw [this, w2'.1 _ rfl, e319]
      have e20 : fA v5 (1020, 842) = fA w (1020, 842) := by
        have : fA v5 (1020, 842) = fA v4 (1020, 842) := by rw [← hv5]; rfl
        rw [this, w2'.1 _ rfl, e320]
      rw [← hG]
      funext j
      show (if j < 57 then fA v5 (1019, 842) j else fA v5 (1020, 842) j) = _
      rw [e19, e20]
    rw [eT] at tk
    obtain ⟨v7, hv7⟩ : ∃ v7, sS (sS (sS (tA v5 (1020, 842) G) (11039, 842) 0) (11040, 842) 0) (11041, 842) 0 = v7 := ⟨_, rfl⟩
    have f57 : Fr pRM v5 v7 := by
      rw [← hv7]
      exact Fr.S (a := (11041, 842)) (Fr.S (a := (11040, 842)) (Fr.S (a := (11039, 842)) (Fr.A (a := (1020, 842)) (Fr.rf _ _) _ rfl) _ rfl) _ rfl) _ rfl
    have f27 : Fr pWz v2 v7 := ((f23.tr w2'.z21).tr f45).tr f57.zRM
    have g2 : Fr (pWk m) w v2 := by
      rw [← hv2]
      exact Fr.S (a := (11008, 842)) ((g6.tr (k3.b4.mono (pW4_wk m))).tr (j5.m4.mono (pW4_wk m))) _ rfl
    have g7 : Fr (pWk m) w v7 := g2.tr (f27.mono (fun a h => wkT_pWk m a (pWz_wk a h)))
    have e18 : SMc (fA v7 (1018, 842)) S1 := by
      have e1 : fA v7 (1018, 842) = fA v5 (1018, 842) := f57.1 _ rfl
      have e2 : fA v5 (1018, 842) = fA v4 (1018, 842) := by rw [← hv5]; rfl
      have e3 : fA v4 (1018, 842) = fA v3 (1018, 842) := w2'.1 _ rfl
      have e4 : fA v3 (1018, 842) = fun j => if j < 3 * sN S1 then fA v2 (1017, 842) j else fA v2 (1018, 842) j := by rw [← hv3, fA_tA, if_pos rfl]
      have e5 : fA v2 (1017, 842) = fA v1 (1017, 842) := by rw [← hv2]; rfl
      rw [e1, e2, e3, e4, e5]
      exact j3.2.cp (fun j hj => if_pos hj)
    have RM0 : RM C S1 v7 G 0 0 0 := ⟨hc.2.2.1.fr g7 (okM_Wk m), by rw [← hv7]; show fA (tA v5 (1020, 842) G) (1020, 842) = G; rw [fA_tA, if_pos rfl], e18, by rw [← hv7]; rfl, by rw [← hv7]; rfl, by rw [← hv7]; rfl⟩
    obtain ⟨v8, q1, q2, q3⟩ := x5 v7 RM0
    have q1 : f_X10_goesSteps 3000 40 842 (0 : Int32) (nI (3 * sN S1)) v7 = some ((), v8) := q1
    have cp2 := copies_M (fu := 3000) (w := v8) (a := (1020, 842)) (b := (1019, 842)) (n := 57) (by decide) (by decide) (by decide) (by omega) (by omega)
    have cp2 : f_X10_copies 3000 842 (1020, 842) (1019, 842) (57 : Int32) v8 = some ((), tA v8 (1019, 842) (fun j => if j < 57 then fA v8 (1020, 842) j else fA v8 (1019, 842) j)) := cp2
    obtain ⟨v9, hv9⟩ : ∃ v9, tA v8 (1019, 842) (fun j => if j < 57 then fA v8 (1020, 842) j else fA v8 (1019, 842) j) = v9 := ⟨_, rfl⟩
    rw [hv9] at cp2
    have r41 : rS v9 (11041, 842) = nI e1' := by
      rw [← hv9]
      exact q2.2.2.2.2.2
    obtain ⟨v10, hv10⟩ : ∃ v10, sS v9 (11038, 842) (nI e1') = v10 := ⟨_, rfl⟩
    have r40 : rS v10 (11040, 842) = nI b1' := by
      rw [← hv10, ← hv9]
      exact q2.2.2.2.2.1
    have e36' : rS v7 (11036, 842) = nI (3 * sN S1) := (f27.2.1 _ rfl).trans e36
    have hM : f_X10_work 3000 842 (nI N) u6 = some (nI b1', v10) := by
      rw [k6, j1]
      unfold wkE
      rw [hv2, e36, cp, bnd_some, w1']
      unfold wkT2
      have e4 : rS v4 (11037, 842) = nI m := (w2'.2.1 _ rfl).trans e37
      rw [e4, naddL, lt_eq, hv5, tk, bnd_some, lt_eq, lt_eq, lt_eq]
      show bnd (f_X10_goesSteps 3000 40 842 (0 : Int32) (rS (sS (sS (sS (tA v5 (1020, 842) G) (11039, 842) 0) (11040, 842) 0) (11041, 842) 0) (11036, 842)) (sS (sS (sS (tA v5 (1020, 842) G) (11039, 842) 0) (11040, 842) 0) (11041, 842) 0)) _ = _
      rw [hv7, e36', q1, bnd_some, cp2, bnd_some, r41, lt_eq, hv10, r40]
    have f810 : Fr pWz v8 v10 := by
      rw [← hv10, ← hv9]
      exact Fr.S (a := (11038, 842)) (Fr.A (a := (1019, 842)) (Fr.rf _ _) _ rfl) _ rfl
    have fz : Fr pWz v2 v10 := (f27.tr q3.zRM).tr f810
    have g : Fr (pWk m) w v10 := g2.tr (fz.mono (fun a h => wkT_pWk m a (pWz_wk a h)))
    have gq : Fr q842 u6 v10 := by
      have : Fr q842 u6 v2 := by
        rw [← hv2]
        exact Fr.S (a := (11008, 842)) ((k3.mono pBm_q).tr (j5.mono pWm_q)) _ rfl
      exact this.tr (fz.mono pWz_q)
    have top : rS v10 (11037, 842) = nI (m + 1) := by
      have e1 : rS v10 (11037, 842) = rS v8 (11037, 842) := by rw [← hv10, ← hv9]; rfl
      have e5 : rS v5 (11037, 842) = nI (m + 1) := by rw [← hv5]; rfl
      rw [e1, q3.2.1 _ rfl, f57.2.1 _ rfl, e5]
    have e21 : fA v10 (1021, 842) = fA v4 (1021, 842) := by
      have e1 : fA v10 (1021, 842) = fA v8 (1021, 842) := by rw [← hv10, ← hv9]; rfl
      have e5 : fA v5 (1021, 842) = fA v4 (1021, 842) := by rw [← hv5]; rfl
      rw [e1, q3.1 _ rfl, f57.1 _ rfl, e5]
    have e19 : ∀ j < 57, fA v10 (1019, 842) j = G1 j := by
      intro j hj
      have e1 : fA v10 (1019, 842) = fA v9 (1019, 842) := by rw [← hv10]; rfl
      rw [e1, ← hv9, fA_tA, if_pos rfl]
      show (if j < 57 then fA v8 (1020, 842) j else _) = _
      rw [if_pos hj, q2.2.1]
    have r2 : rS v10 (11002, 842) = 0 := by
      have e2 : rS v2 (11002, 842) = rS v1 (11002, 842) := by rw [← hv2]; rfl
      rw [fz.2.1 _ rfl, e2, j5.2.1 _ rfl, k4]
    have r0 : rS v10 (11000, 842) = 0 := by
      have e2 : rS v2 (11000, 842) = rS v1 (11000, 842) := by rw [← hv2]; rfl
      rw [fz.2.1 _ rfl, e2, j5.2.1 _ rfl, k5]
    have r8' : rS v10 (11008, 842) = -1 := by
      have e2 : rS v2 (11008, 842) = -1 := by rw [← hv2]; rfl
      rw [fz.2.1 _ rfl, e2]
    refine ⟨.inl (nI b1'), u6, nI b1', v10, hX, hM, ⟨C, cc, l, b, hr.fr g, ?_, hk.fr g rfl rfl rfl⟩, r0, rfl⟩
    refine ⟨hw, hc.2.1.fr g (okC_Wk m cc l), hc.2.2.1.fr g (okM_Wk m), ?_, ?_, tape0 ((gq.2.1 _ rfl).trans c1801) r2, ?_, ?_, hc.2.2.2.2.2.2.2.2.fr g rfl rfl rfl rfl⟩
    · refine ⟨m + 1, by omega, by rw [nowH_top]; exact top, (gq.2.1 _ rfl).trans s10202, ?_, fun k hk => ?_⟩
      · have q6 : Rm u6 9 C G1 := by
          rw [← hu6]
          exact x2.2.1
        have q7 : MORN v10 9 C G1 := ⟨q6.fr gq (fun t ht => rfl) rfl, x2.2.2.1⟩
        exact q7.ext h7 (fun j hj => by rw [nowH_lt _ hj, e19 j hj])
      · by_cases ck : k = m
        · subst ck
          have q5 : Rm u3 (20 + 10 * k) C (nowH w) := by
            rw [← hu3]
            exact b3
          have q6 : Rm u5 (20 + 10 * k) C (nowH w) := (q5.fr (f4.c7 (l := l)) (pRC_out (by omega)) (pRC_outS (by omega))).fr x4 (pRC_out (by omega)) (pRC_outS (by omega))
          have q7 : Rm u6 (20 + 10 * k) C (nowH w) := by
            rw [← hu6]
            exact q6
          have n842 : 20 + 10 * k ≠ 842 := by omega
          have q8 : MORN v10 (20 + 10 * k) C (nowH w) := ⟨q7.fr gq (fun t ht => beq_ne n842) (beq_ne n842), m4.2⟩
          have q9 : MORN v10 (8 + 12 + 10 * k) C (nowH w) := q8
          refine q9.ext h7 (fun j hj => ?_)
          rw [nowH_lt _ hj, nowH_mid _ (by omega) (by omega), e21, show 57 + 57 * k + j - 57 = 57 * k + j by omega, w3' j hj, e319]
        · refine ((m5 k (by omega)).fr2 g (fun t ht => pWk_out (by omega) (by omega) t ht) (pWk_outS (by omega) (by omega))).ext h7 (fun j hj => ?_)
          rw [nowH_mid _ (by omega) (by omega), nowH_mid _ (by omega) (by omega), e21, w4' _ (by omega), e321]
    · obtain ⟨n, a1, a2, a3, a4⟩ := hc.2.2.2.2.1
      refine ⟨n, a1, (g.2.1 _ rfl).trans a2, (g.2.1 _ rfl).trans a3, fun q hq => ?_⟩
      rw [g.1 (1028, 842) rfl]
      exact (a4 q hq).fr2 g (fun j h1 h2 => ⟨fun t ht => pWk_out (by omega) (by omega) t ht, pWk_outS (by omega) (by omega)⟩) (pWk_h (by omega))
    · rw [r8', gq.2.1 _ rfl, c1806]
    · have : rS v10 (11038, 842) = nI e1' := by rw [← hv10]; rfl
      rw [this, gq.2.1 _ rfl, c0915]
  · have g1 : Fr pW4 w u1 := F1.g4.tr i2.a4
    obtain ⟨v, k1, k2, k3, k4, k5, k6⟩ := mod u1 ((i2.2.1 _ rfl).trans (F1.2.1 _ rfl)) ((i2.1 _ rfl).trans (F1.1 _ rfl)) (((i2.2.1 _ rfl).trans (F1.2.1 _ rfl)).trans m2)
    rw [if_neg n16] at k6
    obtain ⟨v1, j1, j2⟩ := i4 (sS v (11036, 842) 0) k1 rfl k2 (hMH u1 v g1 k3)
    have hmod := k6.trans j1
    have j3 : Fr pWm v v1 := Fr.tr (w1 := sS v (11036, 842) 0) (Fr.S (a := (11036, 842)) (Fr.rf _ _) _ rfl) j2
    refine txt (nI d - 10) u1 _ g1 (Fr.S (a := (11008, 842)) (k3.b4.tr j3.m4) _ rfl) (Fr.S (a := (11008, 842)) ((k3.mono pBm_q).tr (j3.mono pWm_q)) _ rfl) ?_ hmod ((j3.2.1 _ rfl).trans k5) ((j3.2.1 _ rfl).trans k4) ((i2.2.1 _ rfl).trans z1) ?_
    · rw [hX0, i1, bnd_some, if_pos rfl, i3.1]
    · exact i3.2.trans rfl
