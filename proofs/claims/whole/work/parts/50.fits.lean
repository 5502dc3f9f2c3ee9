/-! fits and look -/
theorem INVc.hour {C : ACt} {c l b : Nat} {w : MEM} (hc : INVc C c l b w) : ∃ t, t ≤ 900 ∧ rS w (10409, 9) = nI t ∧ fA w (1019, 842) 56 = nI t := by
  obtain ⟨hR, t, ht, hb⟩ := hc.now
  exact ⟨t, ht, hR.2.2.1.trans hb.2, hb.2⟩
theorem pairs_both {w : MEM} {C : ACt} {c l b h : Nat} (hr : REF w c l b) (hc : INVc C c l b w) (hh : h < cH C) : ∃ t w1 w2, f_X9_findPairs 3000 0 (nI h) w = some ((), w1) ∧ PQ w w1 C (fA w (1, b)) h t 90 ∧ f_X10_findPairs 3000 842 (nI h) (m0 w1) = some ((), w2) ∧ PM (m0 w1) w2 C (fA w (1, b)) h t 90 := by
  obtain ⟨t, ht, t1, t2⟩ := hc.hour
  obtain ⟨w1, e1, e2⟩ := pairs_C hr hc hh ht t1
  have f1 : Fr scr w w1 := e2.1.mono scC_scr
  have hm := (hc.fr f1.m0.K).2.2.1
  have hT : fA (m0 w1) (1019, 842) 56 = nI t := by
    have : fA (m0 w1) (1019, 842) = fA w (1019, 842) := f1.1 _ rfl
    rw [this]; exact t2
  have hbk : ∀ k < 13, fA (m0 w1) (1023, 842) k = fA w (1, b) k := by
    intro k hk
    have : fA (m0 w1) (1023, 842) = fA w (1023, 842) := f1.1 _ rfl
    rw [this]
    obtain ⟨n, _, _, _, h4⟩ := hc.2.2.2.2.2.2.2.2
    exact ((h4 k hk).1).symm
  obtain ⟨w2, g1, g2⟩ := pairs_M (h := h) hc.1 hm ht hT hbk
  exact ⟨t, w1, w2, e1, e2, g1, g2⟩
theorem S_fits (a a2 : Int32) {w : MEM} (hI : INV w) : SIM KB (f_X9_fits 3000 0 a a2) (f_X10_fits 3000 842 a a2) w := by
  have h := hI
  obtain ⟨C, c, l, b, hr, hc, hk⟩ := h
  have hw := hc.1
  have h7 := hw.1
  have hM1 := hc.2.2.1.1
  rcases witH (fu := 3000) a hw hr.1 hc.2.1.1 with ⟨e1, e2⟩ | ⟨h, hh, rfl, e1, e2⟩
  · refine SIM_M hI 1 ?_ ?_ rfl
    · rw [E_X9_fits, e1]; rfl
    · rw [E_X10_fits, lt_eq, m0_eq, e2 _ _ (by decide) ((bM_h w).trans hM1) (rS_m0 _), bnd_some, if_pos rfl]
  rcases wit 3000 a2 (lo := 0) (hi := 1) 0 1 rfl rfl (by omega) (by omega) with ⟨e3, e4⟩ | ⟨j, h1, h2, rfl, e3, e4⟩
  · refine SIM_W hI 2 ?_ ?_ rfl
    · rw [E_X9_fits, e1, bndT_inl, e3]; rfl
    · rw [E_X10_fits, lt_eq, m0_eq, e2 _ _ ((bW_h w).trans hM1) (rS_m0 _), bnd_some, if_neg (by decide), e4, bnd_some, may_W 3000 (by decide) (rS_m0 _), bnd_some, if_pos rfl]
  obtain ⟨t, w1, w2, k1, k2, k3, k4⟩ := pairs_both hr hc hh
  generalize fA w (1, b) = bk at k2 k4
  have f1 : Fr scr w w1 := k2.1.mono scC_scr
  have f2 : Fr scr w1 w2 := (m0_fr w1).tr (k4.1.mono pPM_scr)
  have hM2 : rS (m0 w1) (11022, 842) = nI (cH C) := (f1.2.1 (11022, 842) rfl).trans hM1
  refine SIM_ok (v := if j = 0 then nI (cntP C bk h t 90) else fsP C bk h t 90) hI ?_ f1 ?_ f2 ((k4.1.2.1 _ rfl).trans (rS_m0 _))
  · rw [E_X9_fits, e1, bndT_inl, e3, bndT_inl, k1, bnd_some, k2.2.1, k2.2.2.1]
    simp (disch := omega) only [neqL]
    split <;> rfl
  · rw [E_X10_fits, lt_eq, m0_eq, e2 _ _ hM2 (rS_m0 _), bnd_some, if_neg (by decide), e4, bnd_some, may_1 3000 _ _ (rS_m0 _), bnd_some, if_neg (by decide), k3, bnd_some]
    obtain ⟨⟨x1, x2⟩, n1, g1, g2, g3⟩ := for_rel (F := fun n x (s : Nat × Int32) => f_X10_fits_44 3000 n 842 (nI j) (nI s.1) s.2 x w2) (N := 90) (fun p s => s.1 = cntP C bk h t p ∧ s.2 = fsP C bk h t p)
      (fun n p s hp q => by
        obtain ⟨x1, x2⟩ := s
        obtain ⟨q1, q2⟩ := q
        have q1 : x1 = cntP C bk h t p := q1
        have q2 : x2 = fsP C bk h t p := q2
        subst q1
        subst q2
        have hd : nI p / (10 : Int32) = nI (p / 10) := pk_div (d := 10) (by omega) (by omega) (by omega)
        have hmo : nI p - nI (p / 10) * (10 : Int32) = nI (p % 10) := by rw [← hd]; exact pk_rem (d := 10) (by omega) (by omega) (by omega)
        have h10 : ¬ ((10 : Int32) = 0) := by decide
        refine ⟨(cntP C bk h t (p + 1), fsP C bk h t (p + 1)), ?_, rfl, rfl⟩
        show f_X10_fits_44 3000 (n + 1) 842 (nI j) (nI (cntP C bk h t p)) (fsP C bk h t p) (nI p) w2 = _
        rw [E_X10_fits_44, if_pos (by rw [nltL _ _ (by omega) (by decide)]; exact hp), bIn _ _ (by omega), decide_eq_true hp, ck_tr, rAn _ _ _ (by omega), (k4.2 p hp).1, cntP_s, fsP_s]
        simp only [h10, if_false, hd, hmo, lt_eq, naddL, nLmul, nI_add]
        by_cases c1 : rgB C bk h t p = true
        · rw [if_pos c1, if_neg (by decide)]
          simp only [c1, if_true]
          split <;> rfl
        · rw [if_neg c1, if_pos rfl]
          simp only [c1]
          rfl)
      90 3000 0 (0, -1) (by omega) (by omega) ⟨rfl, rfl⟩
    have g1 : f_X10_fits_44 3000 3000 842 (nI j) 0 (-1) 0 w2 = f_X10_fits_44 3000 (n1 + 1) 842 (nI j) (nI x1) x2 (nI 90) w2 := g1
    have g2 : x1 = cntP C bk h t 90 := g2
    have g3 : x2 = fsP C bk h t 90 := g3
    rw [g1, E_X10_fits_44, if_neg (by decide), g2, g3]
    simp (disch := omega) only [neqL]
    split <;> rfl
/-! look -/
def ctP (C : ACt) (bk : Nat → Int32) (h t k p : Nat) (v : Nat) : Nat := lp p 0 (fun q a => if rgB C bk h t q = true then (if (msS C h t q k).1 = v then a + 1 else a) else a) 0
theorem ctP_s (C : ACt) (bk : Nat → Int32) (h t k p v : Nat) : ctP C bk h t k (p + 1) v = if rgB C bk h t p = true then (if (msS C h t p k).1 = v then ctP C bk h t k p v + 1 else ctP C bk h t k p v) else ctP C bk h t k p v := by
  unfold ctP
  rw [lp_snoc, Nat.zero_add]
theorem ctP_le (C : ACt) (bk : Nat → Int32) (h t k v : Nat) : ∀ p, ctP C bk h t k p v ≤ p
  | 0 => Nat.le_refl _
  | p + 1 => by
    have := ctP_le C bk h t k v p
    rw [ctP_s]
    split
    · split <;> omega
    · omega
def wrP (C : ACt) (bk : Nat → Int32) (h t k p : Nat) : Nat := lp p 0 (fun q a => if rgB C bk h t q = true then (if a < ctP C bk h t k (q + 1) (msS C h t q k).1 then ctP C bk h t k (q + 1) (msS C h t q k).1 else a) else a) 0
theorem wrP_s (C : ACt) (bk : Nat → Int32) (h t k p : Nat) : wrP C bk h t k (p + 1) = if rgB C bk h t p = true then (if wrP C bk h t k p < ctP C bk h t k (p + 1) (msS C h t p k).1 then ctP C bk h t k (p + 1) (msS C h t p k).1 else wrP C bk h t k p) else wrP C bk h t k p := by
  unfold wrP
  rw [lp_snoc, Nat.zero_add]
theorem wrP_ok (C : ACt) (bk : Nat → Int32) (h t k : Nat) : ∀ p, (∀ v, ctP C bk h t k p v ≤ wrP C bk h t k p) ∧ (wrP C bk h t k p = 0 ∨ ∃ v, v < 100 ∧ ctP C bk h t k p v = wrP C bk h t k p)
  | 0 => ⟨fun v => Nat.le_refl _, Or.inl rfl⟩
  | p + 1 => by
    obtain ⟨i1, i2⟩ := wrP_ok C bk h t k p
    have hm := (ms_le C h t p k).1
    rw [wrP_s]
    by_cases c : rgB C bk h t p = true
    · rw [if_pos c]
      have hv : ∀ v, v ≠ (msS C h t p k).1 → ctP C bk h t k (p + 1) v = ctP C bk h t k p v := by
        intro v hv
        rw [ctP_s, if_pos c, if_neg (fun e => hv e.symm)]
      by_cases c2 : wrP C bk h t k p < ctP C bk h t k (p + 1) (msS C h t p k).1
      · rw [if_pos c2]
        refine ⟨fun v => ?_, Or.inr ⟨(msS C h t p k).1, by omega, rfl⟩⟩
        by_cases e : v = (msS C h t p k).1
        · rw [e]
          exact Nat.le_refl _
        · rw [hv v e]
          have := i1 v
          omega
      · rw [if_neg c2]
        refine ⟨fun v => ?_, ?_⟩
        · by_cases e : v = (msS C h t p k).1
          · rw [e]; omega
          · rw [hv v e]; exact i1 v
        · rcases i2 with e | ⟨v, v1, v2⟩
          · exact Or.inl e
          · right
            refine ⟨v, v1, ?_⟩
            by_cases e : v = (msS C h t p k).1
            · exfalso
              have : ctP C bk h t k (p + 1) v = ctP C bk h t k p v + 1 := by rw [ctP_s, if_pos c, if_pos e.symm]
              rw [e] at this v2
              omega
            · rw [hv v e]; exact v2
    · rw [if_neg c]
      have hv : ∀ v, ctP C bk h t k (p + 1) v = ctP C bk h t k p v := fun v => by rw [ctP_s, if_neg c]
      refine ⟨fun v => by rw [hv]; exact i1 v, i2.elim Or.inl (fun ⟨v, v1, v2⟩ => Or.inr ⟨v, v1, by rw [hv]; exact v2⟩)⟩
theorem wr_am (C : ACt) (bk : Nat → Int32) (h t k : Nat) : ctP C bk h t k 90 (am (fun v => ctP C bk h t k 90 v) 100) = wrP C bk h t k 90 := by
  obtain ⟨i1, i2⟩ := wrP_ok C bk h t k 90
  have h1 := i1 (am (fun v => ctP C bk h t k 90 v) 100)
  rcases i2 with e | ⟨v, v1, v2⟩
  · omega
  · have := am_max (fun v => ctP C bk h t k 90 v) 100 v v1
    have this : ctP C bk h t k 90 v ≤ ctP C bk h t k 90 (am (fun v => ctP C bk h t k 90 v) 100) := this
    omega
def p503 : LA → Bool := fun a => Nat.beq a.1 503 && Nat.beq a.2 292
theorem p503_scC (a : LA) (h : p503 a = true) : scC a = true := by
  obtain ⟨t, i⟩ := a
  obtain ⟨h1, h2⟩ := and_t (a := Nat.beq t 503) h
  have h1 := Nat.eq_of_beq_eq_true h1
  have h3 : i = 292 := Nat.eq_of_beq_eq_true h2
  subst h1
  subst h3
  rfl
theorem mostAlike_ok {w u : MEM} {C : ACt} {bk : Nat → Int32} {h t k : Nat} (q : PQ w u C bk h t 90) (k1 : 1 ≤ k) (k2 : k ≤ 12) : ∃ u1, f_X5_mostAlike 3000 203 (nI k) u = some (nI (wrP C bk h t k 90), u1) ∧ Fr p503 u u1 := by
  obtain ⟨q1, q2, q3, q4⟩ := q
  rw [E_X5_mostAlike, fill_ok 3000 (503, 292) 0 u (show 100 < 3000 by omega) (show 100 < 2 ^ 31 by omega), bnd_some]
  have f0 : Fr p503 u (tA u (503, 292) (fun j => if j < aN ((503, 292) : LA).1 then 0 else fA u (503, 292) j)) := Fr.A (a := (503, 292)) (Fr.rf _ _) _ rfl
  have v0 : ∀ v < 100, fA (tA u (503, 292) (fun j => if j < aN ((503, 292) : LA).1 then 0 else fA u (503, 292) j)) (503, 292) v = nI (ctP C bk h t k 0 v) := by
    intro v hv
    rw [fA_tA, if_pos rfl]
    exact if_pos hv
  generalize tA u (503, 292) (fun j => if j < aN ((503, 292) : LA).1 then 0 else fA u (503, 292) j) = u0 at f0 v0
  have hcn := cntP_le C bk h t 90
  have key : ∀ p, p ≤ 90 → ∃ n' u', n' + cntP C bk h t p = 3000 ∧ f_X5_mostAlike_10 3000 3000 203 (nI k) 0 u0 = f_X5_mostAlike_10 3000 n' 203 (nI k) (nI (cntP C bk h t p)) u' ∧ Fr p503 u u' ∧ ∀ v < 100, fA u' (503, 292) v = nI (ctP C bk h t k p v) := by
    intro p
    induction p with
    | zero => intro _; exact ⟨3000, u0, rfl, rfl, f0, v0⟩
    | succ p ih =>
      intro hp
      obtain ⟨n', u', i1, i2, i3, i4⟩ := ih (by omega)
      have hcp := cntP_le C bk h t p
      by_cases c : rgB C bk h t p = true
      · obtain ⟨n', rfl⟩ : ∃ m, n' = m + 1 := ⟨n' - 1, by omega⟩
        have hlt := cntP_lt C bk h t p c 90 (by omega)
        have hm := (ms_le C h t p k).1
        have hc1 : cntP C bk h t (p + 1) = cntP C bk h t p + 1 := by rw [cntP_s, if_pos c]
        have hctb := ctP_le C bk h t k (msS C h t p k).1 p
        refine ⟨n', tA u' (503, 292) (upd (fA u' (503, 292)) (msS C h t p k).1 (nI (ctP C bk h t k p (msS C h t p k).1 + 1))), by omega, ?_, Fr.A (a := (503, 292)) i3 _ rfl, fun v hv => ?_⟩
        · have e2 : rS u' (10502, 203) = nI (cntP C bk h t 90) := (i3.2.1 _ rfl).trans q2
          have e3 : fA u' (502, 203 + cntP C bk h t p) k = nI (msS C h t p k).1 := by
            rw [i3.1 _ rfl]
            exact q4 p (by omega) c k k1 k2
          rw [i2, E_X5_mostAlike_10, e2, if_pos (by rw [nlt _ _ (by omega) (by omega)]; exact hlt), hc1]
          simp (disch := omega) only [bIn, decide_true, ck_tr, (show cntP C bk h t p < 90 by omega), (show k < 13 by omega), nI_clamp, rAn, e3, (show (msS C h t p k).1 < 100 by omega), lt_eq, sAn, i4 _ (show (msS C h t p k).1 < 100 by omega), naddL]
        · rw [fA_tA, if_pos rfl, upd_eq, ctP_s, if_pos c]
          by_cases e : v = (msS C h t p k).1
          · rw [if_pos e, if_pos e.symm, e]
          · rw [if_neg e, if_neg (fun e2 => e e2.symm)]
            exact i4 v hv
      · refine ⟨n', u', ?_, ?_, i3, fun v hv => ?_⟩
        · rw [cntP_s, if_neg c]; exact i1
        · rw [cntP_s, if_neg c]; exact i2
        · rw [ctP_s, if_neg c]; exact i4 v hv
  obtain ⟨n', u', i1, i2, i3, i4⟩ := key 90 (Nat.le_refl _)
  obtain ⟨n', rfl⟩ : ∃ m, n' = m + 1 := ⟨n' - 1, by omega⟩
  have e2 : rS u' (10502, 203) = nI (cntP C bk h t 90) := (i3.2.1 _ rfl).trans q2
  have hmo := mostOf_ok (u := u') (a := (503, 292)) (N := 100) (g := fun v => ctP C bk h t k 90 v) rfl (by omega) (by omega) (fun j => by have := ctP_le C bk h t k j 90; show ctP C bk h t k 90 j < 2 ^ 31; omega) i4
  have ham : am (fun v => ctP C bk h t k 90 v) 100 ≤ 99 := am_lt (fun v => ctP C bk h t k 90 v) 99
  refine ⟨u', ?_, i3⟩
  rw [i2, E_X5_mostAlike_10, e2, if_neg (by rw [nlt _ _ (by omega) (by omega)]; omega), hmo, bnd_some, bIn _ _ (by omega), decide_eq_true (show am (fun v => ctP C bk h t k 90 v) 100 < 100 by omega), ck_tr, rAn _ _ _ (by omega), i4 _ (by omega), wr_am]
theorem wrP_le (C : ACt) (bk : Nat → Int32) (h t k : Nat) : wrP C bk h t k 90 ≤ 90 := by
  rw [← wr_am]
  exact ctP_le _ _ _ _ _ _ _
def lkS (C : ACt) (bk : Nat → Int32) (h t k : Nat) (s : Int32 × Int32) : Int32 × Int32 := if bk k = -1 then (if s.1 = -1 then (nI k, nI (wrP C bk h t k 90)) else if nI (wrP C bk h t k 90) < s.2 then (nI k, nI (wrP C bk h t k 90)) else s) else s
def p1027 (a : LA) : Bool := Nat.beq a.1 1027
theorem S_look (a a2 : Int32) {w : MEM} (hI : INV w) : SIM KB (f_X9_look 3000 0 a a2) (f_X10_look 3000 842 a a2) w := by
  have h := hI
  obtain ⟨C, c, l, b, hr, hc, hk⟩ := h
  have hw := hc.1
  have h7 := hw.1
  have hM1 := hc.2.2.1.1
  rcases witH (fu := 3000) a hw hr.1 hc.2.1.1 with ⟨e1, e2⟩ | ⟨h, hh, rfl, e1, e2⟩
  · refine SIM_M hI 1 ?_ ?_ rfl
    · rw [E_X9_look, e1]; rfl
    · rw [E_X10_look, lt_eq, m0_eq, e2 _ _ (by decide) ((bM_h w).trans hM1) (rS_m0 _), bnd_some, if_pos rfl]
  rcases wit 3000 a2 (lo := 0) (hi := 1) 0 1 rfl rfl (by omega) (by omega) with ⟨e3, e4⟩ | ⟨j, h1, h2, rfl, e3, e4⟩
  · refine SIM_W hI 2 ?_ ?_ rfl
    · rw [E_X9_look, e1, bndT_inl, e3]; rfl
    · rw [E_X10_look, lt_eq, m0_eq, e2 _ _ ((bW_h w).trans hM1) (rS_m0 _), bnd_some, if_neg (by decide), e4, bnd_some, may_W 3000 (by decide) (rS_m0 _), bnd_some, if_pos rfl]
  obtain ⟨t, ht, t1, t2⟩ := hc.hour
  obtain ⟨w1, k1, k2⟩ := pairs_C hr hc hh ht t1
  obtain ⟨nb, _, _, _, bkm⟩ := hc.2.2.2.2.2.2.2.2
  generalize hbk : fA w (1, b) = bk at k2 bkm
  -- the class
  obtain ⟨⟨⟨x1, x2⟩, u⟩, n1, g1, g2, g3⟩ := for_rel (F := fun n x (s : (Int32 × Int32) × MEM) => f_X9_look_25 3000 n 0 (nI j) s.1.1 s.1.2 x s.2) (N := 13) (fun k s => Fr p503 w1 s.2 ∧ s.1 = lp (k - 1) 1 (lkS C bk h t) (-1, -1) ∧ 1 ≤ k)
    (fun n k s hk p => by
      obtain ⟨⟨x1, x2⟩, u⟩ := s
      obtain ⟨p1, p2, p3⟩ := p
      obtain ⟨k, rfl⟩ : ∃ k', k = k' + 1 := ⟨k - 1, by omega⟩
      have p1 : Fr p503 w1 u := p1
      have p2 : (x1, x2) = lp k 1 (lkS C bk h t) (-1, -1) := p2
      have f0 := k2.1.tr (p1.mono p503_scC)
      have hbu : fA u (1, b) = bk := (f0.1 (1, b) rfl).trans hbk
      have pq : PQ w u C bk h t 90 := k2.fr p1 p503_scC rfl rfl (fun x => rfl)
      obtain ⟨u1, y1, y2⟩ := mostAlike_ok pq (k := k + 1) (by omega) (by omega)
      show ∃ b : (Int32 × Int32) × MEM, f_X9_look_25 3000 (n + 1) 0 (nI j) x1 x2 (nI (k + 1)) u = f_X9_look_25 3000 n 0 (nI j) b.1.1 b.1.2 (nI (k + 1 + 1)) b.2 ∧ _
      rw [E_X9_look_25, if_neg (by rw [nLlt _ _ (by omega) (by decide)]; omega), bIn _ _ (by omega), decide_eq_true (show k + 1 < 13 by omega), ck_tr, (hr.fr f0).2.2.1, rAn _ _ _ (by omega), hbu, y1, bnd_some, naddL]
      have es : lp (k + 1 + 1 - 1) 1 (lkS C bk h t) (-1, -1) = lkS C bk h t (k + 1) (x1, x2) := by
        rw [show k + 1 + 1 - 1 = k + 1 by omega, lp_snoc, Nat.add_comm 1 k, ← p2]
      rw [es]
      unfold lkS
      by_cases c1 : bk (k + 1) = -1
      · rw [if_pos c1, if_pos c1]
        by_cases c2 : x1 = -1
        · rw [if_pos c2, if_pos c2]
          exact ⟨((nI (k + 1), nI (wrP C bk h t (k + 1) 90)), u1), rfl, p1.tr y2, rfl, by omega⟩
        · rw [if_neg c2, if_neg c2]
          by_cases c3 : nI (wrP C bk h t (k + 1) 90) < x2
          · rw [if_pos c3, if_pos c3]
            exact ⟨((nI (k + 1), nI (wrP C bk h t (k + 1) 90)), u1), rfl, p1.tr y2, rfl, by omega⟩
          · rw [if_neg c3, if_neg c3]
            exact ⟨((x1, x2), u1), rfl, p1.tr y2, rfl, by omega⟩
      · rw [if_neg c1, if_neg c1]
        exact ⟨((x1, x2), u), rfl, p1, rfl, by omega⟩)
    12 3000 1 ((-1, -1), w1) (by omega) (by omega) ⟨Fr.rf _ _, rfl, by omega⟩
  have g1 : f_X9_look_25 3000 3000 0 (nI j) (-1) (-1) 1 w1 = f_X9_look_25 3000 (n1 + 1) 0 (nI j) x1 x2 (nI 13) u := g1
  have g2 : Fr p503 w1 u := g2
  have g3 : (x1, x2) = lp 12 1 (lkS C bk h t) (-1, -1) := g3.1
  have fu : Fr scC w1 u := g2.mono p503_scC
  have f1 : Fr scr w u := (k2.1.tr fu).mono scC_scr
  have hM2 : rS (m0 u) (11022, 842) = nI (cH C) := (f1.2.1 (11022, 842) rfl).trans hM1
  have hm := (hc.fr f1.m0.K).2.2.1
  have hTu : fA (m0 u) (1019, 842) 56 = nI t := by
    have : fA (m0 u) (1019, 842) = fA w (1019, 842) := f1.1 _ rfl
    rw [this]; exact t2
  have hbku : ∀ k < 13, fA (m0 u) (1023, 842) k = bk k := by
    intro k hk
    have : fA (m0 u) (1023, 842) = fA w (1023, 842) := f1.1 _ rfl
    rw [this]
    exact ((bkm k hk).1).symm
  obtain ⟨w2, k3, k4⟩ := pairs_M (h := h) hw hm ht hTu hbku
  obtain ⟨⟨⟨y1, y2⟩, v⟩, n2, q1, q2, q3, _⟩ := for_rel (F := fun n x (s : (Int32 × Int32) × MEM) => f_X10_look_44 3000 n 842 (nI j) s.1.1 s.1.2 x s.2) (N := 13) (fun k s => Fr p1027 w2 s.2 ∧ s.1 = lp (k - 1) 1 (lkS C bk h t) (-1, -1) ∧ 1 ≤ k)
    (fun n k s hk p => by
      obtain ⟨⟨x1, x2⟩, v⟩ := s
      obtain ⟨p1, p2, p3⟩ := p
      obtain ⟨k, rfl⟩ : ∃ k', k = k' + 1 := ⟨k - 1, by omega⟩
      have p1 : Fr p1027 w2 v := p1
      have p2 : (x1, x2) = lp k 1 (lkS C bk h t) (-1, -1) := p2
      have hbv : fA v (1023, 842) (k + 1) = bk (k + 1) := by
        rw [p1.1 _ rfl, k4.1.1 _ rfl]
        exact hbku (k + 1) (by omega)
      show ∃ b : (Int32 × Int32) × MEM, f_X10_look_44 3000 (n + 1) 842 (nI j) x1 x2 (nI (k + 1)) v = f_X10_look_44 3000 n 842 (nI j) b.1.1 b.1.2 (nI (k + 1 + 1)) b.2 ∧ _
      rw [E_X10_look_44, if_neg (by rw [nLlt _ _ (by omega) (by decide)]; omega), bIn _ _ (by omega), decide_eq_true (show k + 1 < 13 by omega), ck_tr, rAn _ _ _ (by omega), hbv, naddL]
      have es : lp (k + 1 + 1 - 1) 1 (lkS C bk h t) (-1, -1) = lkS C bk h t (k + 1) (x1, x2) := by
        rw [show k + 1 + 1 - 1 = k + 1 by omega, lp_snoc, Nat.add_comm 1 k, ← p2]
      rw [es]
      unfold lkS
      by_cases c1 : bk (k + 1) = -1
      rotate_left
      · rw [if_neg c1, if_neg c1]
        exact ⟨((x1, x2), v), rfl, p1, rfl, by omega⟩
      rw [if_pos c1, if_pos c1]
      obtain ⟨v1, n3, z1, z2, z3⟩ := for_rel (F := fun m x (v : MEM) => f_X10_look_68 3000 (fun l0 l2 l3 l4 l5 w => f_X10_look_44 3000 n l0 l2 l3 l4 l5 w) m 842 (nI j) x1 x2 (nI (k + 1)) x v) (N := 100) (fun q v => Fr p1027 w2 v ∧ ∀ x < q, fA v (1027, 842) x = 0)
        (fun m q v hq p => by
          obtain ⟨p1, p2⟩ := p
          refine ⟨tA v (1027, 842) (upd (fA v (1027, 842)) q 0), ?_, Fr.A (a := (1027, 842)) p1 _ rfl, fun x hx => ?_⟩
          · show f_X10_look_68 3000 _ (m + 1) 842 (nI j) x1 x2 (nI (k + 1)) (nI q) v = _
            rw [E_X10_look_68, if_neg (by rw [nLlt _ _ (by omega) (by decide)]; omega), bIn _ _ (by omega), decide_eq_true hq, ck_tr, lt_eq, sAn _ _ _ _ (by omega), naddL]
          · rw [fA_tA, if_pos rfl, upd_eq]
            split
            · rfl
            · exact p2 x (by omega))
        100 3000 0 v (by omega) (by omega) ⟨p1, fun x hx => absurd hx (Nat.not_lt_zero _)⟩
      have z1 : f_X10_look_68 3000 (fun l0 l2 l3 l4 l5 w => f_X10_look_44 3000 n l0 l2 l3 l4 l5 w) 3000 842 (nI j) x1 x2 (nI (k + 1)) 0 v = f_X10_look_68 3000 (fun l0 l2 l3 l4 l5 w => f_X10_look_44 3000 n l0 l2 l3 l4 l5 w) (n3 + 1) 842 (nI j) x1 x2 (nI (k + 1)) (nI 100) v1 := z1
      obtain ⟨⟨wo, v2⟩, n4, a1, a2, a3, a4⟩ := for_rel (F := fun m x (s : Nat × MEM) => f_X10_look_95 3000 (fun l0 l2 l3 l4 l5 w => f_X10_look_44 3000 n l0 l2 l3 l4 l5 w) m 842 (nI j) x1 x2 (nI (k + 1)) (nI s.1) x s.2) (N := 90) (fun p s => Fr p1027 w2 s.2 ∧ s.1 = wrP C bk h t (k + 1) p ∧ ∀ x < 100, fA s.2 (1027, 842) x = nI (ctP C bk h t (k + 1) p x))
        (fun m p s hp q => by
          obtain ⟨wo, v⟩ := s
          obtain ⟨q1, q2, q3⟩ := q
          have q1 : Fr p1027 w2 v := q1
          have q2 : wo = wrP C bk h t (k + 1) p := q2
          have q3 : ∀ x < 100, fA v (1027, 842) x = nI (ctP C bk h t (k + 1) p x) := q3
          have e26 : fA v (1026, 842) p = (if rgB C bk h t p = true then 1 else 0) := by
            rw [q1.1 _ rfl]
            exact (k4.2 p hp).1
          have e25 : fA v (1025, 842) (13 * p + (k + 1)) = nI (msS C h t p (k + 1)).1 := by
            rw [q1.1 _ rfl]
            exact (k4.2 p hp).2 (k + 1) (by omega) (by omega)
          have hm9 := (ms_le C h t p (k + 1)).1
          have hct := ctP_le C bk h t (k + 1) (msS C h t p (k + 1)).1 p
          show ∃ b : Nat × MEM, f_X10_look_95 3000 _ (m + 1) 842 (nI j) x1 x2 (nI (k + 1)) (nI wo) (nI p) v = f_X10_look_95 3000 _ m 842 (nI j) x1 x2 (nI (k + 1)) (nI b.1) (nI (p + 1)) b.2 ∧ _
          rw [E_X10_look_95, if_pos (by rw [nltL _ _ (by omega) (by decide)]; exact hp), bIn _ _ (by omega), decide_eq_true hp, ck_tr, rAn _ _ _ (by omega), e26]
          by_cases c : rgB C bk h t p = true
          · have hct1 : ctP C bk h t (k + 1) (p + 1) (msS C h t p (k + 1)).1 = ctP C bk h t (k + 1) p (msS C h t p (k + 1)).1 + 1 := by rw [ctP_s, if_pos c, if_pos rfl]
            have hwl : wo ≤ 90 := by
              rw [q2]
              rcases (wrP_ok C bk h t (k + 1) p).2 with e | ⟨x, _, e⟩
              · omega
              · have := ctP_le C bk h t (k + 1) x p
                omega
            rw [if_pos c, if_neg (by decide)]
            refine ⟨(wrP C bk h t (k + 1) (p + 1), tA v (1027, 842) (upd (fA v (1027, 842)) (msS C h t p (k + 1)).1 (nI (ctP C bk h t (k + 1) p (msS C h t p (k + 1)).1 + 1)))), ?_, Fr.A (a := (1027, 842)) q1 _ rfl, rfl, fun x hx => ?_⟩
            · have e13 : (OfNat.ofNat 13 : Nat) * p + (k + 1) = 13 * p + (k + 1) := rfl
              rw [nLmul, nI_add, e13, bIn _ _ (by omega), decide_eq_true (show 13 * p + (k + 1) < 1170 by omega), ck_tr, rAn _ _ _ (by omega), e25, lt_eq]
              simp (disch := omega) only [bIn, decide_true, ck_tr, (show (msS C h t p (k + 1)).1 < 100 by omega), rAn, q3 _ (show (msS C h t p (k + 1)).1 < 100 by omega), lt_eq, sAn, naddL, fA_tA, if_true, upd_at, nlt]
              rw [wrP_s, if_pos c, hct1, ← q2]
              by_cases c2 : wo < ctP C bk h t (k + 1) p (msS C h t p (k + 1)).1 + 1
              · rw [if_pos c2]
                have c2' : wo < ctP C bk h t (k + 1) p (msS C h t p (k + 1)).1 + (OfNat.ofNat 1 : Nat) := c2
                rw [if_pos c2']
              · rw [if_neg c2]
                have c2' : ¬ wo < ctP C bk h t (k + 1) p (msS C h t p (k + 1)).1 + (OfNat.ofNat 1 : Nat) := c2
                rw [if_neg c2']
            · show fA (tA v (1027, 842) _) (1027, 842) x = _
              rw [fA_tA, if_pos rfl, upd_eq, ctP_s, if_pos c]
              by_cases e : x = (msS C h t p (k + 1)).1
              · rw [if_pos e, if_pos e.symm, e]
              · rw [if_neg e, if_neg (fun e2 => e e2.symm)]
                exact q3 x hx
          · rw [if_neg c, if_pos rfl, naddL]
            refine ⟨(wo, v), rfl, q1, ?_, fun x hx => ?_⟩
            · rw [wrP_s, if_neg c]; exact q2
            · rw [ctP_s, if_neg c]; exact q3 x hx)
        90 3000 0 (0, v1) (by omega) (by omega) ⟨z2, rfl, fun x hx => z3 x hx⟩
      have a1 : f_X10_look_95 3000 (fun l0 l2 l3 l4 l5 w => f_X10_look_44 3000 n l0 l2 l3 l4 l5 w) 3000 842 (nI j) x1 x2 (nI (k + 1)) 0 0 v1 = f_X10_look_95 3000 (fun l0 l2 l3 l4 l5 w => f_X10_look_44 3000 n l0 l2 l3 l4 l5 w) (n4 + 1) 842 (nI j) x1 x2 (nI (k + 1)) (nI wo) (nI 90) v2 := a1
      have a2 : Fr p1027 w2 v2 := a2
      have a3 : wo = wrP C bk h t (k + 1) 90 := a3
      rw [z1, E_X10_look_68, if_pos (by decide), a1, E_X10_look_95, if_neg (by decide), a3, naddL]
      by_cases c2 : x1 = -1
      · rw [if_pos c2, if_pos c2]
        exact ⟨((nI (k + 1), nI (wrP C bk h t (k + 1) 90)), v2), rfl, a2, rfl, by omega⟩
      · rw [if_neg c2, if_neg c2]
        by_cases c3 : nI (wrP C bk h t (k + 1) 90) < x2
        · rw [if_pos c3, if_pos c3]
          exact ⟨((nI (k + 1), nI (wrP C bk h t (k + 1) 90)), v2), rfl, a2, rfl, by omega⟩
        · rw [if_neg c3, if_neg c3]
          exact ⟨((x1, x2), v2), rfl, a2, rfl, by omega⟩)
    12 3000 1 ((-1, -1), w2) (by omega) (by omega) ⟨Fr.rf _ _, rfl, by omega⟩
  have q1 : f_X10_look_44 3000 3000 842 (nI j) (-1) (-1) 1 w2 = f_X10_look_44 3000 (n2 + 1) 842 (nI j) y1 y2 (nI 13) v := q1
  have q2 : Fr p1027 w2 v := q2
  have q3 : (y1, y2) = lp 12 1 (lkS C bk h t) (-1, -1) := q3
  have exy : (y1, y2) = (x1, x2) := q3.trans g3.symm
  have ey1 : y1 = x1 := congrArg Prod.fst exy
  have ey2 : y2 = x2 := congrArg Prod.snd exy
  have f2 : Fr scr u v := ((m0_fr u).tr (k4.1.mono pPM_scr)).tr (q2.mono (fun a h => by
    obtain ⟨t, i⟩ := a
    have := Nat.eq_of_beq_eq_true h
    have : t = 1027 := this
    subst this
    rfl))
  refine SIM_ok (v := if j = 0 then x1 else x2) hI ?_ f1 ?_ f2 ((q2.2.1 _ rfl).trans ((k4.1.2.1 _ rfl).trans (rS_m0 _)))
  · rw [E_X9_look, e1, bndT_inl, e3, bndT_inl, k1, bnd_some, g1, E_X9_look_25, if_pos (by decide)]
    simp (disch := omega) only [neqL]
    split <;> rfl
  · rw [E_X10_look, lt_eq, m0_eq, e2 _ _ hM2 (rS_m0 _), bnd_some, if_neg (by decide), e4, bnd_some, may_1 3000 _ _ (rS_m0 _), bnd_some, if_neg (by decide), k3, bnd_some, q1, E_X10_look_44, if_pos (by decide), ey1, ey2]
    simp (disch := omega) only [neqL]
    split <;> rfl
