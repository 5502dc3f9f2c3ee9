theorem Int_sub_sum (f g : Nat → Int32) : ∀ m, lp m 0 (fun h a => a + (f h - g h)) 0 = lp m 0 (fun h a => a + f h) 0 - lp m 0 (fun h a => a + g h) 0
  | 0 => by
    show (0 : Int32) = 0 - 0
    decide
  | m + 1 => by
    rw [lp_snoc, lp_snoc, lp_snoc, Nat.zero_add, Int_sub_sum f g m]
    simp only [Int32.sub_eq_add_neg, Int32.neg_add]
    ac_rfl
theorem gaspsMore_ok {u : MEM} {C : ACt} (hw : WFc C) (hm : MOD u C) : f_X10_gaspsMore 3000 842 u = some (sumS C 49 (fA u (1020, 842)) - sumS C 49 (fA u (1019, 842)), u) := by
  have h7 := hw.1
  rw [E_X10_gaspsMore]
  unfold sumS
  rw [← Int_sub_sum]
  exact for_lp0 (F := fun n x b => f_X10_gaspsMore_4 3000 n 842 b x u) (N := cH C) (fin := fun b => some (b, u)) (step := fun h a => a + (fA u (1020, 842) (49 + h) - fA u (1019, 842) (49 + h)))
    (fun n k b hk => by
      show f_X10_gaspsMore_4 3000 (n + 1) 842 b (nI k) u = _
      rw [E_X10_gaspsMore_4, hm.1]
      simp (disch := omega) only [nlt, hk, if_true, nLadd, bIn, rAn, decide_true, ck_tr, (show 49 + k < 57 by omega), lt_eq, naddL])
    (fun n b => by
      show f_X10_gaspsMore_4 3000 (n + 1) 842 b (nI (cH C)) u = _
      rw [E_X10_gaspsMore_4, hm.1, if_neg (by rw [nlt _ _ (by omega) (by omega)]; omega)]) (by omega) 0
theorem S_year (sd a a2 : Int32) {w : MEM} (hI : INV w) : SIM KI (f_X9_year 3000 0 sd a a2) (f_X10_year 3000 842 sd a a2) w := by
  rcases wit 3000 a (lo := 1) (hi := 96) 1 96 rfl rfl (by omega) (by omega) with ⟨e1, e2⟩ | ⟨N, hN1, hN, rfl, e1, e2⟩
  · refine SIM_W hI 1 ?_ ?_ rfl
    · rw [E_X9_year, e1]; rfl
    · rw [E_X10_year, lt_eq, m0_eq, e2, bnd_some, if_pos rfl, E_X10_year_30, may_W 3000 (by decide) (rS_m0 _), bnd_some, if_pos rfl]
  rcases wit 3000 a2 (lo := 0) (hi := 3) 0 3 rfl rfl (by omega) (by omega) with ⟨e3, e4⟩ | ⟨j, h1, h2, rfl, e3, e4⟩
  · refine SIM_W hI 1 ?_ ?_ rfl
    · rw [E_X9_year, e1, bndT_inl, e3]; rfl
    · rw [E_X10_year, lt_eq, m0_eq, e2, bnd_some, if_neg (by decide), e4, bnd_some, if_pos rfl, E_X10_year_30, may_W 3000 (by decide) (rS_m0 _), bnd_some, if_pos rfl]
  have h := hI
  obtain ⟨C, c, l, b, hr, hc, hk⟩ := h
  have hw := hc.1
  have h7 := hw.1
  obtain ⟨hR, t, ht, hb⟩ := hc.take (u := m0 w) rfl
  obtain ⟨w2, k4, f2, k6⟩ := passYear_C (N := N) (seed := sd) hr hc hR hb ht hN
  have f2s : Fr scr w w2 := f2.mono scC_scr
  have hR2 : Rm w2 9 C (takeF (m0 w)) := hR.fr f2s.K (scrK_mo (by omega)) (scrK_mS (by omega))
  have n57 : ∀ j < 57, fA (m0 w) (1019, 842) j = takeF (m0 w) j := takeF_now (m0 w)
  generalize hF : takeF (m0 w) = F at hR hb k6 hR2 n57
  have et : takeF (m0 w2) = F := (take_C f2).trans hF
  have hm := ((hc.fr f2s.K).fr (m0_fr w2).K).2.2.1
  obtain ⟨u, g1, g2, g3⟩ := yearGoes_M (N := N) sd hw hm hN
  rw [et] at g3
  have f4 : Fr scr w2 u := (m0_fr w2).tr (g2.mono pYM_scr)
  have hmu := hm.fr g2 okYM
  have e19 : sumS C 49 (fA u (1019, 842)) = sumS C 49 F := by
    refine sum57 h7 (by omega) (fun j hj => ?_)
    rw [g2.1 _ rfl, ← n57 j hj]
    have : fA (m0 w2) (1019, 842) = fA (m0 w) (1019, 842) := f2.1 _ rfl
    rw [this]
  have t4 : rS u (11000, 842) = 0 := (g2.2.1 _ rfl).trans (rS_m0 _)
  have hyg : f_X9_yearGasps 3000 0 w2 = some (sumS C 49 (yrS C N (sd, F)).2 - sumS C 49 F, w2) := by
    rw [E_X9_yearGasps, sumGasp_C hw k6 (by omega), bnd_some, show (8 + 1 : Nat) = 9 from rfl, sumGasp_C hw hR2 (by omega), bnd_some]
  have hX : f_X9_year 3000 0 sd (nI N) (nI j) w = _ := (E_X9_year _ _ _ _ _ _).trans (by rw [e1, bndT_inl, e3, bndT_inl, k4, bnd_some, sumMist_C hw k6 (by omega), hyg, standing_C hw k6 (by omega), ranked_C 0 hw k6 (by omega), bnd_some, bnd_some, bnd_some, bnd_some])
  have hM : f_X10_year 3000 842 sd (nI N) (nI j) w2 = _ := (E_X10_year _ _ _ _ _ _).trans (by rw [lt_eq, m0_eq, e2, bnd_some, if_neg (by decide), e4, bnd_some, if_neg (by decide), E_X10_year_30, may_1 3000 _ _ (rS_m0 _), bnd_some, if_neg (by decide), g1, bnd_some, (show f_X10_sumOf 3000 842 (7 : Int32) u = _ from sumOf_M hw hmu (show 200 ≤ 3000 by omega) (show 7 ≤ 49 by omega)), gaspsMore_ok hw hmu, standing_M hw hmu (by omega), ranked_M 0 hw hmu (by omega), bnd_some, bnd_some, bnd_some, bnd_some, g3, e19])
  rcases (by omega : j = 0 ∨ j = 1 ∨ j = 2 ∨ j = 3) with e | e | e | e <;> subst e <;> exact SIM_ok hI hX f2s hM f4 t4
def spv (C : ACt) (F : Nat → Int32) (sd : Int32) (N i : Nat) : Int32 := sumS C 49 (yrS C N (sd + nI i, F)).2 - sumS C 49 F
def spS (C : ACt) (F : Nat → Int32) (sd : Int32) (N i : Nat) (s : Int32 × (Int32 × Int32)) : Int32 × (Int32 × Int32) := (if i = 0 then spv C F sd N i else if spv C F sd N i < s.1 then spv C F sd N i else s.1, (if s.2.1 < spv C F sd N i then spv C F sd N i else s.2.1, if rankS C (yrS C N (sd + nI i, F)).2 0 = -1 then s.2.2 + 0 else s.2.2 + 1))
theorem spv_n {C : ACt} (hw : WFc C) (F : Nat → Int32) (sd : Int32) {N : Nat} (hN : N ≤ 96) (i : Nat) : ∃ d, d ≤ 672 ∧ spv C F sd N i = nI d := by
  obtain ⟨d, d1, d2⟩ := yr_gasp hw (sd + nI i) F N
  refine ⟨d, by omega, ?_⟩
  unfold spv
  rw [d2, Int32.sub_eq_add_neg, Int32.add_comm, ← Int32.add_assoc, Int32.add_left_neg, Int32.zero_add]
theorem S_span (sd a a2 a3 : Int32) {w : MEM} (hI : INV w) : SIM KI (f_X9_span 3000 0 sd a a2 a3) (f_X10_span 3000 842 sd a a2 a3) w := by
  rcases wit 3000 a (lo := 1) (hi := 20) 1 20 rfl rfl (by omega) (by omega) with ⟨e1, e2⟩ | ⟨M, hM1, hM2, rfl, e1, e2⟩
  · refine SIM_W hI 1 ?_ ?_ rfl
    · rw [E_X9_span, e1]; rfl
    · rw [E_X10_span, lt_eq, m0_eq, e2, bnd_some, if_pos rfl, may_W 3000 (by decide) (rS_m0 _), bnd_some, if_pos rfl]
  rcases wit 3000 a2 (lo := 1) (hi := 96) 1 96 rfl rfl (by omega) (by omega) with ⟨e3, e4⟩ | ⟨N, hN1, hN, rfl, e3, e4⟩
  · refine SIM_W hI 1 ?_ ?_ rfl
    · rw [E_X9_span, e1, bndT_inl, e3]; rfl
    · rw [E_X10_span, lt_eq, m0_eq, e2, bnd_some, if_neg (by decide), e4, bnd_some, if_pos rfl, may_W 3000 (by decide) (rS_m0 _), bnd_some, if_pos rfl]
  rcases wit 3000 a3 (lo := 0) (hi := 2) 0 2 rfl rfl (by omega) (by omega) with ⟨e5, e6⟩ | ⟨j, h1, h2, rfl, e5, e6⟩
  · refine SIM_W hI 1 ?_ ?_ rfl
    · rw [E_X9_span, e1, bndT_inl, e3, bndT_inl, e5]; rfl
    · rw [E_X10_span, lt_eq, m0_eq, e2, bnd_some, if_neg (by decide), e4, bnd_some, if_neg (by decide), e6, bnd_some, if_pos rfl, may_W 3000 (by decide) (rS_m0 _), bnd_some, if_pos rfl]
  have h := hI
  obtain ⟨C, c, l, b, hr, hc, hk⟩ := h
  have hw := hc.1
  have h7 := hw.1
  obtain ⟨hR, t, ht, hb⟩ := hc.take (u := m0 w) rfl
  have n57 : ∀ j < 57, fA (m0 w) (1019, 842) j = takeF (m0 w) j := takeF_now (m0 w)
  generalize hF : takeF (m0 w) = F at hR hb n57
  -- the class
  obtain ⟨y, n1, g1, g2, g3⟩ := for_rel (F := fun n x (s : (Int32 × (Int32 × Int32)) × MEM) => f_X9_span_36 3000 n 0 sd (nI M) (nI N) (nI j) s.1.1 s.1.2.1 s.1.2.2 x s.2) (N := M) (fun k s => Fr scC w s.2 ∧ s.1 = lp k 0 (spS C F sd N) (0, (0, 0)))
    (fun n k s hk p => by
      obtain ⟨⟨x1, x2, x3⟩, u⟩ := s
      obtain ⟨p1, p2⟩ := p
      have p1 : Fr scC w u := p1
      have p2 : (x1, (x2, x3)) = lp k 0 (spS C F sd N) (0, (0, 0)) := p2
      have fs := p1.mono scC_scr
      obtain ⟨u2, k4, k5, k6⟩ := passYear_C (N := N) (seed := sd + nI k) (hr.fr p1) (hc.fr fs.K) (hR.fr fs.K (scrK_mo (by omega)) (scrK_mS (by omega))) hb ht hN
      have f2 := p1.tr k5
      have hR2 : Rm u2 9 C F := hR.fr (f2.mono scC_scr).K (scrK_mo (by omega)) (scrK_mS (by omega))
      have hyg : f_X9_yearGasps 3000 0 u2 = some (spv C F sd N k, u2) := by
        rw [E_X9_yearGasps, sumGasp_C hw k6 (by omega), bnd_some, show (8 + 1 : Nat) = 9 from rfl, sumGasp_C hw hR2 (by omega), bnd_some]
        rfl
      show ∃ b : (Int32 × (Int32 × Int32)) × MEM, f_X9_span_36 3000 (n + 1) 0 sd (nI M) (nI N) (nI j) x1 x2 x3 (nI k) u = f_X9_span_36 3000 n 0 sd (nI M) (nI N) (nI j) b.1.1 b.1.2.1 b.1.2.2 (nI (k + 1)) b.2 ∧ _
      refine ⟨(spS C F sd N k (x1, (x2, x3)), u2), ?_, f2, by rw [lp_snoc, Nat.zero_add, ← p2]⟩
      rw [E_X9_span_36, if_pos (by rw [nlt _ _ (by omega) (by omega)]; exact hk), k4, bnd_some, hyg, bnd_some, naddL]
      unfold spS
      generalize spv C F sd N k = v
      simp (disch := omega) only [neqL, E_J9_max_7cf53, E_J9_min_7cf53]
      by_cases c0 : k = 0
      · rw [if_pos c0, if_pos c0]
        by_cases c1 : x2 < v
        · rw [if_pos c1, if_pos c1, bnd_some, ranked_C 0 hw k6 (by omega), bnd_some, lt_eq, lt_eq]
          split <;> rfl
        · rw [if_neg c1, if_neg c1, bnd_some, ranked_C 0 hw k6 (by omega), bnd_some, lt_eq, lt_eq]
          split <;> rfl
      · rw [if_neg c0, if_neg c0]
        by_cases c2 : v < x1
        · rw [if_pos c2, if_pos c2, bnd_some]
          by_cases c1 : x2 < v
          · rw [if_pos c1, if_pos c1, bnd_some, ranked_C 0 hw k6 (by omega), bnd_some, lt_eq, lt_eq]
            split <;> rfl
          · rw [if_neg c1, if_neg c1, bnd_some, ranked_C 0 hw k6 (by omega), bnd_some, lt_eq, lt_eq]
            split <;> rfl
        · rw [if_neg c2, if_neg c2, bnd_some]
          by_cases c1 : x2 < v
          · rw [if_pos c1, if_pos c1, bnd_some, ranked_C 0 hw k6 (by omega), bnd_some, lt_eq, lt_eq]
            split <;> rfl
          · rw [if_neg c1, if_neg c1, bnd_some, ranked_C 0 hw k6 (by omega), bnd_some, lt_eq, lt_eq]
            split <;> rfl)
    M 3000 0 ((0, (0, 0)), w) (by omega) (by omega) ⟨Fr.rf _ _, rfl⟩
  obtain ⟨⟨x1, x2, x3⟩, w2⟩ := y
  have g1 : f_X9_span_36 3000 3000 0 sd (nI M) (nI N) (nI j) 0 0 0 0 w = f_X9_span_36 3000 (n1 + 1) 0 sd (nI M) (nI N) (nI j) x1 x2 x3 (nI M) w2 := g1
  have g2 : Fr scC w w2 := g2
  have g3 : (x1, (x2, x3)) = lp M 0 (spS C F sd N) (0, (0, 0)) := g3
  have f2s : Fr scr w w2 := g2.mono scC_scr
  have hm := ((hc.fr f2s.K).fr (m0_fr w2).K).2.2.1
  have hnow : ∀ j < 57, fA (m0 w2) (1019, 842) j = F j := by
    intro j hj
    have e : fA (m0 w2) (1019, 842) = fA (m0 w) (1019, 842) := f2s.1 _ rfl
    rw [e]
    exact n57 j hj
  -- the model
  have hpos : ∀ k, 0 < k → ∃ d, d ≤ 672 ∧ (lp k 0 (spS C F sd N) (0, (0, 0))).1 = nI d := by
    intro k
    induction k with
    | zero => intro h; omega
    | succ k ih =>
      intro _
      obtain ⟨d, d1, d2⟩ := spv_n hw F sd hN k
      rw [lp_snoc, Nat.zero_add]
      unfold spS
      by_cases c0 : k = 0
      · rw [if_pos c0]
        exact ⟨d, d1, d2⟩
      · rw [if_neg c0]
        show ∃ d, d ≤ 672 ∧ (if spv C F sd N k < (lp k 0 (spS C F sd N) (0, (0, 0))).1 then spv C F sd N k else (lp k 0 (spS C F sd N) (0, (0, 0))).1) = nI d
        split
        · exact ⟨d, d1, d2⟩
        · exact ih (by omega)
  have m1n : ∀ d, d ≤ 672 → ¬ nI d = -1 := by
    intro d hd e
    have : ¬ nI d < 0 := nI_pos (by omega)
    rw [e] at this
    exact this (by decide)
  obtain ⟨z, n2, q1, q2, q3, q4⟩ := for_rel (F := fun n x (s : (Int32 × (Int32 × Int32)) × MEM) => f_X10_span_63 3000 n 842 sd (nI M) (nI N) (nI j) s.1.1 s.1.2.1 s.1.2.2 x s.2) (N := M) (fun k s => Fr pYM (m0 w2) s.2 ∧ s.1.1 = (if k = 0 then -1 else (lp k 0 (spS C F sd N) (0, (0, 0))).1) ∧ s.1.2 = (lp k 0 (spS C F sd N) (0, (0, 0))).2)
    (fun n k s hk p => by
      obtain ⟨⟨x1, x2, x3⟩, u⟩ := s
      obtain ⟨p1, p2, p3⟩ := p
      have p1 : Fr pYM (m0 w2) u := p1
      have p2 : x1 = (if k = 0 then -1 else (lp k 0 (spS C F sd N) (0, (0, 0))).1) := p2
      have p3 : (x2, x3) = (lp k 0 (spS C F sd N) (0, (0, 0))).2 := p3
      have hmu := hm.fr p1 okYM
      have ht57 : ∀ j < 57, takeF u j = F j := by
        intro j hj
        rw [← takeF_now u j hj, p1.1 (1019, 842) rfl]
        exact hnow j hj
      obtain ⟨u2, y1, y2, y3⟩ := yearGoes_M (N := N) (sd + nI k) hw hmu hN
      have f3 := p1.tr y2
      have hm2 := hm.fr f3 okYM
      have z57 := (yr57 hw (sd + nI k) ht57 N).2
      have hgm : f_X10_gaspsMore 3000 842 u2 = some (spv C F sd N k, u2) := by
        rw [gaspsMore_ok hw hm2, y3, sum57 h7 (by omega) z57, sum57 (f := fA u2 (1019, 842)) (g := F) h7 (by omega) (fun j hj => by rw [f3.1 _ rfl]; exact hnow j hj)]
        rfl
      have hrk : f_X10_ranked 3000 842 0 u2 = some (rankS C (yrS C N (sd + nI k, F)).2 0, u2) := by
        rw [ranked_M 0 hw hm2 (by omega), y3, rank57 0 h7 z57]
      have hst : ∀ fw, (fw = if k = 0 then spv C F sd N k else if spv C F sd N k < (lp k 0 (spS C F sd N) (0, (0, 0))).1 then spv C F sd N k else (lp k 0 (spS C F sd N) (0, (0, 0))).1) → f_X10_span_104 3000 (fun l0 l1 l2 l3 l4 l5 l6 l7 l8 w => f_X10_span_63 3000 n l0 l1 l2 l3 l4 l5 l6 l7 l8 w) 842 sd (nI M) (nI N) (nI j) x2 x3 (nI k) (spv C F sd N k) fw u2 = f_X10_span_63 3000 n 842 sd (nI M) (nI N) (nI j) (lp (k + 1) 0 (spS C F sd N) (0, (0, 0))).1 (lp (k + 1) 0 (spS C F sd N) (0, (0, 0))).2.1 (lp (k + 1) 0 (spS C F sd N) (0, (0, 0))).2.2 (nI (k + 1)) u2 := by
        intro fw hfw
        rw [E_X10_span_104, hrk, bnd_some, bnd_some, lp_snoc, Nat.zero_add, naddL]
        have ey : lp k 0 (spS C F sd N) (0, (0, 0)) = ((lp k 0 (spS C F sd N) (0, (0, 0))).1, (x2, x3)) := by rw [p3]
        generalize lp k 0 (spS C F sd N) (0, (0, 0)) = y at ey hfw
        rw [ey]
        unfold spS
        rw [← hfw]
        generalize spv C F sd N k = v
        simp only [lt_eq]
        by_cases c1 : x2 < v
        · rw [if_pos c1, if_pos c1]
          split <;> rfl
        · rw [if_neg c1, if_neg c1]
          split <;> rfl
      show ∃ b : (Int32 × (Int32 × Int32)) × MEM, f_X10_span_63 3000 (n + 1) 842 sd (nI M) (nI N) (nI j) x1 x2 x3 (nI k) u = f_X10_span_63 3000 n 842 sd (nI M) (nI N) (nI j) b.1.1 b.1.2.1 b.1.2.2 (nI (k + 1)) b.2 ∧ _
      refine ⟨(lp (k + 1) 0 (spS C F sd N) (0, (0, 0)), u2), ?_, f3, by rw [if_neg (by omega)], rfl⟩
      rw [E_X10_span_63, if_pos (by rw [nlt _ _ (by omega) (by omega)]; exact hk), y1, bnd_some, hgm, bnd_some]
      by_cases c0 : k = 0
      · rw [if_pos c0] at p2
        rw [if_pos p2]
        exact hst _ (by rw [if_pos c0])
      · rw [if_neg c0] at p2
        obtain ⟨d, d1, d2⟩ := hpos k (by omega)
        rw [if_neg (by rw [p2, d2]; exact m1n d d1)]
        by_cases c1 : spv C F sd N k < x1
        · rw [if_pos c1]
          exact hst _ (by rw [if_neg c0, if_pos (by rw [← p2]; exact c1)])
        · rw [if_neg c1]
          exact hst _ (by rw [if_neg c0, if_neg (by rw [← p2]; exact c1), p2]))
    M 3000 0 ((-1, (0, 0)), m0 w2) (by omega) (by omega) ⟨Fr.rf _ _, rfl, rfl⟩
  obtain ⟨⟨x4, x5, x6⟩, u⟩ := z
  have q1 : f_X10_span_63 3000 3000 842 sd (nI M) (nI N) (nI j) (-1) 0 0 0 (m0 w2) = f_X10_span_63 3000 (n2 + 1) 842 sd (nI M) (nI N) (nI j) x4 x5 x6 (nI M) u := q1
  have q2 : Fr pYM (m0 w2) u := q2
  have q3 : x4 = (if M = 0 then -1 else (lp M 0 (spS C F sd N) (0, (0, 0))).1) := q3
  have q4 : (x5, x6) = (lp M 0 (spS C F sd N) (0, (0, 0))).2 := q4
  rw [if_neg (by omega), ← g3] at q3
  rw [← g3] at q4
  have q3 : x4 = x1 := q3
  have q5 : x5 = x2 := congrArg Prod.fst q4
  have q6 : x6 = x3 := congrArg Prod.snd q4
  subst q3
  subst q5
  subst q6
  have f4 : Fr scr w2 u := (m0_fr w2).tr (q2.mono pYM_scr)
  have t4 : rS u (11000, 842) = 0 := (q2.2.1 _ rfl).trans (rS_m0 _)
  refine SIM_ok (v := if j = 0 then x4 else if j = 1 then x5 else x6) hI ?_ f2s ?_ f4 t4
  · rw [E_X9_span, e1, bndT_inl, e3, bndT_inl, e5, bndT_inl, g1, E_X9_span_36, if_neg (by rw [nlt _ _ (by omega) (by omega)]; omega)]
    simp (disch := omega) only [neqL]
    split
    · rfl
    · split <;> rfl
  · rw [E_X10_span, lt_eq, m0_eq, e2, bnd_some, if_neg (by decide), e4, bnd_some, if_neg (by decide), e6, bnd_some, if_neg (by decide), may_1 3000 _ _ (rS_m0 _), bnd_some, if_neg (by decide), q1, E_X10_span_63, if_neg (by rw [nlt _ _ (by omega) (by omega)]; omega)]
    simp (disch := omega) only [neqL]
    split
    · rfl
    · split <;> rfl
