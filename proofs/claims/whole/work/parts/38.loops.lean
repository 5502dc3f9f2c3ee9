/-! calls with a loop -/
def am (g : Nat → Nat) (m : Nat) : Nat := lp m 0 (fun j p => if g p < g j then j else p) 0
theorem am_s (g : Nat → Nat) (m : Nat) : am g (m + 1) = if g (am g m) < g m then m else am g m := by
  unfold am
  rw [lp_snoc, Nat.zero_add]
theorem am_lt (g : Nat → Nat) : ∀ m, am g (m + 1) ≤ m
  | 0 => by
    rw [am_s]
    split
    · exact Nat.le_refl _
    · exact Nat.le_refl _
  | m + 1 => by
    rw [am_s]
    split
    · exact Nat.le_refl _
    · exact Nat.le_succ_of_le (am_lt g m)
theorem am_max (g : Nat → Nat) : ∀ m, ∀ j < m, g j ≤ g (am g m)
  | 0, j, h => absurd h (Nat.not_lt_zero _)
  | m + 1, j, h => by
    rw [am_s]
    by_cases c : j < m
    · have := am_max g m j c
      split
      · omega
      · exact this
    · have : j = m := by omega
      subst this
      split
      · exact Nat.le_refl _
      · omega
theorem am_1 (g : Nat → Nat) (m : Nat) : lp m 1 (fun j p => if g p < g j then j else p) 0 = am g (m + 1) := by
  unfold am
  rw [lp_s]
  show _ = lp m 1 _ (if g 0 < g 0 then 0 else 0)
  rw [ite_self]
def ams (g : Nat → Nat) (m : Nat) : Int32 × Int32 := lp m 0 (fun j s => if s.2 < nI (g j) then (nI j, nI (g j)) else s) (-1, 0)
theorem ams_eq {g : Nat → Nat} (hg : ∀ j, g j < 2 ^ 31) : ∀ m, (m = 0 → g 0 = 0) → ams g m = (if g (am g m) = 0 then -1 else nI (am g m), nI (g (am g m)))
  | 0, h => by
    show ((-1 : Int32), (0 : Int32)) = _
    have e : am g 0 = 0 := rfl
    rw [e, h rfl, if_pos rfl]
    rfl
  | m + 1, h => by
    have e : ams g (m + 1) = (if (ams g m).2 < nI (g m) then (nI m, nI (g m)) else ams g m) := by
      unfold ams
      rw [lp_snoc, Nat.zero_add]
    by_cases c : m = 0
    · subst c
      rw [e, am_s]
      have e0 : am g 0 = 0 := rfl
      rw [e0, if_neg (Nat.lt_irrefl _)]
      show (if (0 : Int32) < nI (g 0) then (nI 0, nI (g 0)) else ((-1 : Int32), (0 : Int32))) = _
      by_cases c1 : g 0 = 0
      · rw [c1, if_pos rfl]; rfl
      · rw [if_neg c1, if_pos (by rw [nLlt _ _ (hg 0) (by decide)]; omega)]
    · rw [e, ams_eq hg m (fun c2 => absurd c2 c), am_s]
      have hlt : (nI (g (am g m)) < nI (g m)) = (g (am g m) < g m) := nlt _ _ (hg _) (hg _)
      simp only [hlt]
      by_cases c1 : g (am g m) < g m
      · rw [if_pos c1, if_pos c1, if_neg (by omega)]
      · rw [if_neg c1, if_neg c1]
theorem S_greenest (a : Int32) {w : MEM} (hI : INV w) : SIM KI (f_X9_greenest 3000 0 a) (f_X10_greenest 3000 842 a) w := by
  rcases wit 3000 a (lo := 0) (hi := 1) 0 1 rfl rfl (by omega) (by omega) with ⟨e1, e2⟩ | ⟨j, h1, h2, rfl, e1, e2⟩
  · refine SIM_W hI 1 ?_ ?_ rfl
    · rw [E_X9_greenest, e1]; rfl
    · rw [E_X10_greenest, lt_eq, m0_eq, e2, bnd_some, may_W 3000 (by decide) (rS_m0 _), bnd_some, if_pos rfl]
  have h := hI
  obtain ⟨C, c, l, b, hr, hc, hk⟩ := h
  have hw := hc.1
  have h7 := hw.1
  obtain ⟨hR, t, ht, hb⟩ := hc.now
  have hm := (hc.fr (m0_fr w).K).2.2.1
  have e19 : fA (m0 w) (1019, 842) = fA w (1019, 842) := rfl
  obtain ⟨g, hg⟩ : ∃ g : Nat → Nat, g = fun j => if j < cH C then (fA w (1019, 842) (7 + j)).toNatClampNeg else 0 := ⟨_, rfl⟩
  have g1 : ∀ j < cH C, fA w (1019, 842) (7 + j) = nI (g j) ∧ g j ≤ 99 := by
    intro j hj
    obtain ⟨v, hv, ev⟩ := (hb.1 j hj).1
    have : g j = v := by
      rw [hg]
      show (if j < cH C then _ else 0) = v
      rw [if_pos hj, ev, nI_clamp (by omega)]
    rw [this]
    exact ⟨ev, hv⟩
  have g0 : ∀ j, cH C ≤ j → g j = 0 := by
    intro j hj
    rw [hg]
    exact if_neg (by omega)
  have g9 : ∀ j, g j ≤ 99 := by
    intro j
    by_cases c : j < cH C
    · exact (g1 j c).2
    · rw [g0 j (by omega)]; omega
  have gc : ∀ j < 7, fA w (403, 9) j = nI (g j) := by
    intro j hj
    by_cases c : j < cH C
    · exact (hR.1 1 (by omega) j c).trans (g1 j c).1
    · rw [(hR.2.1 j (by omega) hj).1, g0 j (by omega)]; rfl
  have eam : am g 7 = am g (cH C) := lp_7 h7 0 (fun j p h1 _ => by rw [g0 j h1]; exact if_neg (by omega))
  have hcl : f_X9_mostOf 3000 (403, 9) w = some (nI (am g 7), w) := by
    rw [E_X9_mostOf]
    have e := (for_lp (F := fun n i p => f_X9_mostOf_4 3000 n (403, 9) (nI p) i w) (N := 7) (step := fun j p => if g p < g j then j else p) (fin := fun p => some (nI p, w)) (fun _ p => p < 7)
      (fun n k p hk hp => by
        refine ⟨?_, ?_⟩
        · show f_X9_mostOf_4 3000 (n + 1) (403, 9) (nI p) (nI k) w = _
          rw [E_X9_mostOf_4, show aN ((403, 9) : LA).1 = 7 from rfl]
          have l1 := g9 p
          have l2 := g9 k
          simp (disch := omega) only [nlt, hk, hp, if_true, bIn, rAn, decide_true, ck_tr, gc k hk, gc p hp, naddL]
          split <;> rfl
        · show (if g p < g k then k else p) < 7
          split <;> omega)
      (fun n p _ => by
        show f_X9_mostOf_4 3000 (n + 1) (403, 9) (nI p) (nI 7) w = _
        rw [E_X9_mostOf_4, show aN ((403, 9) : LA).1 = 7 from rfl, if_neg (by decide)])
      6 3000 1 0 (by omega) (by omega) (by omega)).1
    rw [am_1] at e
    exact e
  have hml : f_X10_greenest_29 3000 3000 842 (nI j) (-1) 0 0 (m0 w) = some (if j = 0 then (ams g (cH C)).1 else if (ams g (cH C)).1 = -1 then (ams g (cH C)).1 else (ams g (cH C)).2, m0 w) := by
    have e := for_lp0 (F := fun n i (s : Int32 × Int32) => f_X10_greenest_29 3000 n 842 (nI j) s.1 s.2 i (m0 w)) (N := cH C) (step := fun k s => if s.2 < nI (g k) then (nI k, nI (g k)) else s) (fin := fun s => some (if j = 0 then s.1 else if s.1 = -1 then s.1 else s.2, m0 w))
      (fun n k s hk => by
        show f_X10_greenest_29 3000 (n + 1) 842 (nI j) s.1 s.2 (nI k) (m0 w) = _
        rw [E_X10_greenest_29, hm.1]
        simp (disch := omega) only [nlt, hk, if_true, nLadd, bIn, rAn, decide_true, ck_tr, e19, (g1 k hk).1, (show 7 + k < 57 by omega), lt_eq, naddL]
        split <;> rfl)
      (fun n s => by
        show f_X10_greenest_29 3000 (n + 1) 842 (nI j) s.1 s.2 (nI (cH C)) (m0 w) = _
        rw [E_X10_greenest_29, hm.1, if_neg (by rw [nlt _ _ (by omega) (by omega)]; omega)]
        simp (disch := omega) only [neqL]
        split
        · rfl
        · split <;> rfl) (n := 3000) (by omega) (-1, 0)
    exact e
  have e5 := ams_eq (g := g) (fun j => by have := g9 j; omega) (cH C) (fun c => g0 0 (by omega))
  have l7 : am g 7 ≤ 6 := am_lt g 6
  have hX : f_X9_greenest 3000 0 (nI j) w = _ := (E_X9_greenest _ _ _ _).trans (by rw [e1, bndT_inl, show (8 + 1 : Nat) = 9 from rfl, hcl, bnd_some])
  have hM : f_X10_greenest 3000 842 (nI j) w = _ := (E_X10_greenest _ _ _ _).trans (by rw [lt_eq, m0_eq, e2, bnd_some, may_1 3000 _ _ (rS_m0 _), bnd_some, if_neg (by decide), hml])
  have l9 := g9 (am g 7)
  simp (disch := omega) only [bIn, rAn, decide_true, ck_tr, (show am g 7 < 7 by omega), gc (am g 7) (by omega), neqL] at hX
  rw [e5, ← eam] at hM
  refine SIM_q hI (m0_fr w) (rS_m0 _) ?_
  simp only at hM
  by_cases c1 : g (am g 7) = 0
  · rw [if_pos c1] at hX hM
    refine ⟨_, hX, hM.trans ?_⟩
    split
    · rfl
    · rw [if_pos rfl]
  · rw [if_neg c1] at hX hM
    by_cases c2 : j = 0
    · rw [if_pos c2] at hX hM
      exact ⟨_, hX, hM⟩
    · rw [if_neg c2] at hX hM
      refine ⟨_, hX, hM.trans ?_⟩
      rw [if_neg]
      intro c3
      have : ¬ nI (am g 7) < 0 := nI_pos (by omega)
      rw [c3] at this
      exact this (by decide)
theorem S_stalest (a : Int32) {w : MEM} (hI : INV w) : SIM KI (f_X9_stalest 3000 0 a) (f_X10_stalest 3000 842 a) w := by
  rcases wit 3000 a (lo := 0) (hi := 1) 0 1 rfl rfl (by omega) (by omega) with ⟨e1, e2⟩ | ⟨j, h1, h2, rfl, e1, e2⟩
  · refine SIM_W hI 1 ?_ ?_ rfl
    · rw [E_X9_stalest, e1]; rfl
    · rw [E_X10_stalest, lt_eq, m0_eq, e2, bnd_some, may_W 3000 (by decide) (rS_m0 _), bnd_some, if_pos rfl]
  have h := hI
  obtain ⟨C, c, l, b, hr, hc, hk⟩ := h
  have hw := hc.1
  have h7 := hw.1
  obtain ⟨hR, t, ht, hb⟩ := hc.now
  have hm := (hc.fr (m0_fr w).K).2.2.1
  have e19 : fA (m0 w) (1019, 842) = fA w (1019, 842) := rfl
  have hX : f_X9_stalest 3000 0 (nI j) w = _ := (E_X9_stalest _ _ _ _).trans (by rw [e1, bndT_inl, hr.1, hc.2.1.1])
  have hM : f_X10_stalest 3000 842 (nI j) w = _ := (E_X10_stalest _ _ _ _).trans (by rw [lt_eq, m0_eq, e2, bnd_some, may_1 3000 _ _ (rS_m0 _), bnd_some, if_neg (by decide)])
  simp (disch := omega) only [neqL, show (8 + 1 : Nat) = 9 from rfl] at hX
  refine SIM_q hI (m0_fr w) (rS_m0 _) ?_
  generalize hG : fA w (1019, 842) = G at hR hb e19
  have gc : ∀ j < cH C, fA w (404, 9) j = G (14 + j) := fun j hj => hR.1 2 (by omega) j hj
  by_cases c0 : cH C = 0
  · rw [if_pos c0] at hX
    refine ⟨_, hX, hM.trans ?_⟩
    show f_X10_stalest_26 3000 (2999 + 1) 842 (nI j) (-1) (nI 0) (m0 w) = _
    rw [E_X10_stalest_26, hm.1, if_neg (by rw [nlt _ _ (by omega) (by omega)]; omega), if_pos rfl]
    split <;> rfl
  rw [if_neg c0] at hX
  have sC := for_lp (F := fun n i p => f_X9_stalest_35 3000 n 0 (nI j) (404, 9) (nI p) i w) (N := cH C) (step := fun j p => if G (14 + j) < G (14 + p) then j else p) (fin := fun p => some (.inl (if j = 0 then nI p else G (14 + p)), w)) (fun _ p => p < cH C)
      (fun n k p hk hp => by
        refine ⟨?_, ?_⟩
        · show f_X9_stalest_35 3000 (n + 1) 0 (nI j) (404, 9) (nI p) (nI k) w = _
          rw [E_X9_stalest_35, hr.1, hc.2.1.1, show aN ((404, 9) : LA).1 = 7 from rfl]
          simp (disch := omega) only [nlt, hk, hp, if_true, bIn, rAn, decide_true, ck_tr, (show k < 7 by omega), (show p < 7 by omega), gc k hk, gc p hp, naddL]
          split <;> rfl
        · show (if G (14 + k) < G (14 + p) then k else p) < cH C
          split <;> omega)
      (fun n p hp => by
        show f_X9_stalest_35 3000 (n + 1) 0 (nI j) (404, 9) (nI p) (nI (cH C)) w = _
        rw [E_X9_stalest_35, hr.1, hc.2.1.1, show aN ((404, 9) : LA).1 = 7 from rfl, if_neg (by rw [nlt _ _ (by omega) (by omega)]; omega)]
        simp (disch := omega) only [neqL, bIn, rAn, decide_true, ck_tr, (show p < 7 by omega), gc p hp]
        split <;> rfl)
      (cH C - 1) 3000 1 0 (by omega) (by omega) (by omega)
  have sM := for_lp (F := fun n i p => f_X10_stalest_26 3000 n 842 (nI j) (nI p) i (m0 w)) (N := cH C) (step := fun j p => if G (14 + j) < G (14 + p) then j else p) (fin := fun p => some (if j = 0 then nI p else G (14 + p), m0 w)) (fun _ p => p < cH C)
      (fun n k p hk hp => by
        refine ⟨?_, ?_⟩
        · show f_X10_stalest_26 3000 (n + 1) 842 (nI j) (nI p) (nI k) (m0 w) = _
          rw [E_X10_stalest_26, hm.1, if_neg (c := nI p = -1) (by intro e; have := nI_pos (n := p) (by omega); rw [e] at this; exact this (by decide))]
          simp (disch := omega) only [nlt, hk, hp, if_true, nLadd, bIn, rAn, decide_true, ck_tr, (show 14 + k < 57 by omega), (show 14 + p < 57 by omega), e19, naddL]
          split <;> rfl
        · show (if G (14 + k) < G (14 + p) then k else p) < cH C
          split <;> omega)
      (fun n p hp => by
        show f_X10_stalest_26 3000 (n + 1) 842 (nI j) (nI p) (nI (cH C)) (m0 w) = _
        rw [E_X10_stalest_26, hm.1, if_neg (c := nI (cH C) < nI (cH C)) (by rw [nlt _ _ (by omega) (by omega)]; omega), if_neg (c := nI p = -1) (by intro e; have := nI_pos (n := p) (by omega); rw [e] at this; exact this (by decide))]
        simp (disch := omega) only [neqL, nLadd, bIn, rAn, decide_true, ck_tr, (show 14 + p < 57 by omega), e19]
        split <;> rfl)
      (cH C - 1) 2999 1 0 (by omega) (by omega) (by omega)
  refine ⟨_, hX.trans sC.1, hM.trans ?_⟩
  show f_X10_stalest_26 3000 (2999 + 1) 842 (nI j) (-1) (nI 0) (m0 w) = _
  rw [E_X10_stalest_26, hm.1, if_pos (by rw [nlt _ _ (by omega) (by omega)]; omega), if_pos rfl, naddL]
  exact sM.1
theorem lp_sum (g : Nat → Int32) : ∀ (m k : Nat) (x : Int32), lp m k (fun j a => a + g j) x = x + lp m k (fun j a => a + g j) 0
  | 0, k, x => (Int32.add_zero x).symm
  | m + 1, k, x => by
    rw [lp_s, lp_s, lp_sum g m (k + 1) (x + g k), lp_sum g m (k + 1) (0 + g k), Int32.zero_add, Int32.add_assoc]
theorem lp_sum2 (f g : Nat → Int32) : ∀ (m k : Nat), lp m k (fun j a => a + (f j + g j)) 0 = lp m k (fun j a => a + f j) 0 + lp m k (fun j a => a + g j) 0
  | 0, k => rfl
  | m + 1, k => by
    rw [lp_s, lp_s, lp_s, lp_sum _ m (k + 1), lp_sum f m (k + 1), lp_sum g m (k + 1), lp_sum2 f g m (k + 1), Int32.zero_add, Int32.zero_add, Int32.zero_add]
    ac_rfl
theorem lp_zero : ∀ (m k : Nat), lp m k (fun _ a => a + (0 : Int32)) 0 = 0
  | 0, k => rfl
  | m + 1, k => by rw [lp_s, Int32.add_zero]; exact lp_zero m (k + 1)
theorem lp_swap (f : Nat → Nat → Int32) (q : Nat) : ∀ (m : Nat), lp m 0 (fun i a => a + lp q 0 (fun k b => b + f k i) 0) 0 = lp q 0 (fun k a => a + lp m 0 (fun i b => b + f k i) 0) 0
  | 0 => (lp_zero q 0).symm
  | m + 1 => by
    rw [lp_snoc, Nat.zero_add, lp_swap f q m, ← lp_sum2]
    refine lp_ext _ _ _ _ _ (fun k a _ _ => ?_)
    rw [lp_snoc, Nat.zero_add]
def cgh (C : ACt) (h t k i : Nat) : Int32 := if cKh C k = h then (if (t + i) % cKp C k = 0 then 1 else 0) else 0
theorem coughsBeside_ok {fu : Nat} {w : MEM} {C : ACt} {c l h T i : Nat} (hw : WFc C) (hc : CLS w c l C) (hh : h < 2000) (hT : T + i < 100000) (hfu : 200 ≤ fu) : f_X1_coughsBeside fu c (nI h) (nI (T + i)) w = some (lp (cK C) 0 (fun k b => b + cgh C h T k i) 0, w) := by
  have h6 := hw.2.1
  have h7 := hw.1
  rw [E_X1_coughsBeside]
  exact for_lp0 (F := fun n x b => f_X1_coughsBeside_5 fu n c (nI h) (nI (T + i)) b x w) (N := cK C) (fin := fun b => some (b, w))
    (fun n k b hk => by
      show f_X1_coughsBeside_5 fu (n + 1) c (nI h) (nI (T + i)) b (nI k) w = _
      obtain ⟨p1, p2, p3⟩ := hw.2.2.1 k hk
      obtain ⟨f1, f2⟩ := hc.2.2.1 k hk
      have hlt := Nat.mod_lt (cKp C k - (T + i) % cKp C k) (show 0 < cKp C k by omega)
      rw [E_X1_coughsBeside_5, hc.2.1]
      simp (disch := omega) only [nlt, hk, if_true, bIn, rAn, decide_true, ck_tr, (show k < 6 by omega), f1, neqI, nextCough_ok (q := cKp C k) (show k < 6 by omega) (show T + i < 2 ^ 30 by omega) (show 0 < cKp C k by omega) (show cKp C k < 2 ^ 30 by omega) f2, bnd_some, neqL, naddL, cough0]
      unfold cgh
      by_cases c1 : cKh C k = h
      · rw [if_pos c1, if_pos c1]
        split
        · rfl
        · rw [Int32.add_zero]
      · rw [if_neg c1, if_neg c1, Int32.add_zero])
    (fun n b => by
      show f_X1_coughsBeside_5 fu (n + 1) c (nI h) (nI (T + i)) b (nI (cK C)) w = _
      rw [E_X1_coughsBeside_5, hc.2.1, if_neg (by rw [nlt _ _ (by omega) (by omega)]; omega)]) (by omega) 0
theorem S_coughs (a a2 : Int32) {w : MEM} (hI : INV w) : SIM KB (f_X9_coughs 3000 0 a a2) (f_X10_coughs 3000 842 a a2) w := by
  have h := hI
  obtain ⟨C, c, l, b, hr, hc, hk⟩ := h
  have hw := hc.1
  have h7 := hw.1
  have h6 := hw.2.1
  have hM1 := hc.2.2.1.1
  rcases witH (fu := 3000) a hw hr.1 hc.2.1.1 with ⟨e1, e2⟩ | ⟨h, hh, rfl, e1, e2⟩
  · refine SIM_M hI 1 ?_ ?_ rfl
    · rw [E_X9_coughs, e1]; rfl
    · rw [E_X10_coughs, lt_eq, m0_eq, e2 _ _ (by decide) ((bM_h w).trans hM1) (rS_m0 _), bnd_some, if_pos rfl]
  rcases wit 3000 a2 (lo := 0) (hi := 99) 0 99 rfl rfl (by omega) (by omega) with ⟨e3, e4⟩ | ⟨j, h1, h2, rfl, e3, e4⟩
  · refine SIM_W hI 2 ?_ ?_ rfl
    · rw [E_X9_coughs, e1, bndT_inl, e3]; rfl
    · rw [E_X10_coughs, lt_eq, m0_eq, e2 _ _ ((bW_h w).trans hM1) (rS_m0 _), bnd_some, if_neg (by decide), e4, bnd_some, may_W 3000 (by decide) (rS_m0 _), bnd_some, if_pos rfl]
  obtain ⟨hR, t, ht, hb⟩ := hc.now
  have hm := (hc.fr (m0_fr w).K).2.2.1
  have e19 : fA (m0 w) (1019, 842) = fA w (1019, 842) := rfl
  have hX : f_X9_coughs 3000 0 (nI h) (nI j) w = _ := (E_X9_coughs _ _ _ _ _).trans (by rw [e1, bndT_inl, e3, bndT_inl])
  have hM : f_X10_coughs 3000 842 (nI h) (nI j) w = _ := (E_X10_coughs _ _ _ _ _).trans (by rw [lt_eq, m0_eq, e2 _ _ ((m0_h w).trans hM1) (rS_m0 _), bnd_some, if_neg (by decide), e4, bnd_some, may_1 3000 _ _ (rS_m0 _), bnd_some, if_neg (by decide)])
  refine SIM_q hI (m0_fr w) (rS_m0 _) ⟨lp j 0 (fun i a => a + lp (cK C) 0 (fun k b => b + cgh C h t k i) 0) 0, hX.trans ?_, hM.trans ?_⟩
  · exact for_lp0 (F := fun n x b => f_X9_coughs_18 3000 n 0 (nI h) (nI j) b x w) (N := j) (fin := fun b => some (.inl b, w))
      (fun n i b hi => by
        show f_X9_coughs_18 3000 (n + 1) 0 (nI h) (nI j) b (nI i) w = _
        rw [E_X9_coughs_18, show (8 + 1 : Nat) = 9 from rfl, hR.2.2.1, hb.2, nI_add, hr.1, coughsBeside_ok hw hc.2.1 (by omega) (by omega) (by omega), bnd_some, if_pos (by rw [nlt _ _ (by omega) (by omega)]; omega), lt_eq, naddL])
      (fun n b => by
        show f_X9_coughs_18 3000 (n + 1) 0 (nI h) (nI j) b (nI j) w = _
        rw [E_X9_coughs_18, if_neg (by rw [nlt _ _ (by omega) (by omega)]; omega)]) (by omega) 0
  · rw [lp_swap]
    exact for_lp0 (F := fun n x b => f_X10_coughs_37 3000 n 842 (nI h) (nI j) b x (m0 w)) (N := cK C) (fin := fun b => some (b, m0 w)) (step := fun k a => a + lp j 0 (fun i b => b + cgh C h t k i) 0)
      (fun n k b hk => by
        show f_X10_coughs_37 3000 (n + 1) 842 (nI h) (nI j) b (nI k) (m0 w) = _
        obtain ⟨p1, p2, p3⟩ := hw.2.2.1 k hk
        obtain ⟨f1, f2⟩ := hm.2.2.2.1 k hk
        rw [E_X10_coughs_37, hm.2.2.1]
        simp (disch := omega) only [nlt, hk, if_true, nLmul, bIn, rAn, decide_true, ck_tr, (show 2 * k < 12 by omega), f1, neqI, naddL]
        by_cases c1 : cKh C k = h
        · rw [if_pos c1]
          have e := for_lp0 (F := fun m x b => f_X10_coughs_65 3000 (fun l0 l1 l2 l3 l4 w => f_X10_coughs_37 3000 n l0 l1 l2 l3 l4 w) m 842 (nI h) (nI j) b (nI k) x (m0 w)) (N := j) (fin := fun b => f_X10_coughs_37 3000 n 842 (nI h) (nI j) b (nI (k + 1)) (m0 w)) (step := fun i b => b + cgh C h t k i)
            (fun m i b hi => by
              show f_X10_coughs_65 3000 _ (m + 1) 842 (nI h) (nI j) b (nI k) (nI i) (m0 w) = _
              rw [E_X10_coughs_65]
              have hlt := Nat.mod_lt (t + i) (show 0 < cKp C k by omega)
              simp (disch := omega) only [nlt, hi, if_true, bIL, rAL, nLmul, naddL, bIn, rAn, decide_true, ck_tr, (show 56 < 57 by omega), (show 2 * k + 1 < 12 by omega), f2, e19, hb.2, nI_add, neqL, (show ¬ cKp C k = 0 by omega), if_false, nI_mod, lt_eq]
              unfold cgh
              rw [if_pos c1]
              split <;> rfl)
            (fun m b => by
              show f_X10_coughs_65 3000 _ (m + 1) 842 (nI h) (nI j) b (nI k) (nI j) (m0 w) = _
              rw [E_X10_coughs_65, if_neg (by rw [nlt _ _ (by omega) (by omega)]; omega), naddL]) (n := 3000) (by omega) b
          rw [← lp_sum]
          exact e
        · rw [if_neg c1]
          have e : lp j 0 (fun i b => b + cgh C h t k i) 0 = 0 := by
            rw [lp_ext _ (fun _ b => b + (0 : Int32)) _ _ _ (fun i b _ _ => by unfold cgh; rw [if_neg c1])]
            exact lp_zero j 0
          rw [e, Int32.add_zero])
      (fun n b => by
        show f_X10_coughs_37 3000 (n + 1) 842 (nI h) (nI j) b (nI (cK C)) (m0 w) = _
        rw [E_X10_coughs_37, hm.2.2.1, if_neg (by rw [nlt _ _ (by omega) (by omega)]; omega)]) (by omega) 0
def tw (B G : Nat → Int32) (k o : Nat) (s : Int32 × Int32) : Int32 × Int32 := if B k = B o then (if G k = G o then (s.1 + 1, if s.2 = -1 then nI (10 * k + o) else s.2) else s) else s
def twn (B G : Nat → Int32) (H : Nat) : Int32 × Int32 := lp H 0 (fun k s => lp (H - (k + 1)) (k + 1) (tw B G k) s) (0, -1)
theorem S_twins (a : Int32) {w : MEM} (hI : INV w) : SIM KI (f_X9_twins 3000 0 a) (f_X10_twins 3000 842 a) w := by
  rcases wit 3000 a (lo := 0) (hi := 1) 0 1 rfl rfl (by omega) (by omega) with ⟨e1, e2⟩ | ⟨j, h1, h2, rfl, e1, e2⟩
  · refine SIM_W hI 1 ?_ ?_ rfl
    · rw [E_X9_twins, e1]; rfl
    · rw [E_X10_twins, lt_eq, m0_eq, e2, bnd_some, may_W 3000 (by decide) (rS_m0 _), bnd_some, if_pos rfl]
  have h := hI
  obtain ⟨C, c, l, b, hr, hc, hk⟩ := h
  have hw := hc.1
  have h7 := hw.1
  obtain ⟨hR, t, ht, hb⟩ := hc.now
  have hm := (hc.fr (m0_fr w).K).2.2.1
  have e19 : fA (m0 w) (1019, 842) = fA w (1019, 842) := rfl
  have hX : f_X9_twins 3000 0 (nI j) w = _ := (E_X9_twins _ _ _ _).trans (by rw [e1, bndT_inl])
  have hM : f_X10_twins 3000 842 (nI j) w = _ := (E_X10_twins _ _ _ _).trans (by rw [lt_eq, m0_eq, e2, bnd_some, may_1 3000 _ _ (rS_m0 _), bnd_some, if_neg (by decide)])
  generalize hG : fA w (1019, 842) = G at hR hb e19
  have gB : ∀ k < cH C, fA w (401, 9) k = cBr C k := hR.2.2.2
  have gG : ∀ k < cH C, fA w (402, 9) k = G k := fun k hk => (hR.1 0 (by omega) k hk).trans (by rw [Nat.mul_zero, Nat.zero_add])
  have mB : ∀ k < cH C, fA (m0 w) (1007, 842) k = cBr C k := hm.2.1
  refine SIM_q hI (m0_fr w) (rS_m0 _) ⟨if j = 0 then (twn (cBr C) G (cH C)).1 else (twn (cBr C) G (cH C)).2, hX.trans ?_, hM.trans ?_⟩
  · rw [show (8 + 1 : Nat) = 9 from rfl]
    exact for_lp0 (F := fun n x (s : Int32 × Int32) => f_X9_twins_23 3000 n 0 (nI j) 9 s.1 s.2 x w) (N := cH C) (fin := fun s => some (.inl (if j = 0 then s.1 else s.2), w)) (step := fun k s => lp (cH C - (k + 1)) (k + 1) (tw (cBr C) G k) s)
      (fun n k s hk => by
        show f_X9_twins_23 3000 (n + 1) 0 (nI j) 9 s.1 s.2 (nI k) w = _
        rw [E_X9_twins_23, hr.1, hc.2.1.1, if_pos (by rw [nlt _ _ (by omega) (by omega)]; omega), lt_eq, naddL]
        exact (for_lp (F := fun m x (s : Int32 × Int32) => f_X9_twins_41 3000 (fun l0 l1 l2 l3 l4 l5 w => f_X9_twins_23 3000 n l0 l1 l2 l3 l4 l5 w) m 0 (nI j) 9 s.1 s.2 (nI k) x w) (N := cH C) (fin := fun s => f_X9_twins_23 3000 n 0 (nI j) 9 s.1 s.2 (nI (k + 1)) w) (step := tw (cBr C) G k) (fun _ _ => True)
          (fun m o s ho _ => by
            refine ⟨?_, trivial⟩
            show f_X9_twins_41 3000 _ (m + 1) 0 (nI j) 9 s.1 s.2 (nI k) (nI o) w = _
            rw [E_X9_twins_41, hr.1, hc.2.1.1]
            simp (disch := omega) only [nlt, ho, if_true, bIn, rAn, decide_true, ck_tr, (show k < 7 by omega), (show o < 7 by omega), gB k hk, gB o ho, gG k hk, gG o ho, nLmul, nI_add, naddL, lt_eq]
            unfold tw
            split
            · split
              · split <;> rfl
              · rfl
            · rfl)
          (fun m s _ => by
            show f_X9_twins_41 3000 _ (m + 1) 0 (nI j) 9 s.1 s.2 (nI k) (nI (cH C)) w = _
            rw [E_X9_twins_41, hr.1, hc.2.1.1, if_neg (by rw [nlt _ _ (by omega) (by omega)]; omega), naddL])
          (cH C - (k + 1)) 3000 (k + 1) s (by omega) (by omega) trivial).1)
      (fun n s => by
        show f_X9_twins_23 3000 (n + 1) 0 (nI j) 9 s.1 s.2 (nI (cH C)) w = _
        rw [E_X9_twins_23, hr.1, hc.2.1.1, if_neg (by rw [nlt _ _ (by omega) (by omega)]; omega)]
        simp (disch := omega) only [neqL]
        split <;> rfl) (n := 3000) (by omega) (0, -1)
  · exact for_lp0 (F := fun n x (s : Int32 × Int32) => f_X10_twins_29 3000 n 842 (nI j) s.1 s.2 x (m0 w)) (N := cH C) (fin := fun s => some (if j = 0 then s.1 else s.2, m0 w)) (step := fun k s => lp (cH C - (k + 1)) (k + 1) (tw (cBr C) G k) s)
      (fun n k s hk => by
        show f_X10_twins_29 3000 (n + 1) 842 (nI j) s.1 s.2 (nI k) (m0 w) = _
        rw [E_X10_twins_29, hm.1, if_pos (by rw [nlt _ _ (by omega) (by omega)]; omega), lt_eq, naddL]
        exact (for_lp (F := fun m x (s : Int32 × Int32) => f_X10_twins_44 3000 (fun l0 l1 l2 l3 l4 w => f_X10_twins_29 3000 n l0 l1 l2 l3 l4 w) m 842 (nI j) s.1 s.2 (nI k) x (m0 w)) (N := cH C) (fin := fun s => f_X10_twins_29 3000 n 842 (nI j) s.1 s.2 (nI (k + 1)) (m0 w)) (step := tw (cBr C) G k) (fun _ _ => True)
          (fun m o s ho _ => by
            refine ⟨?_, trivial⟩
            show f_X10_twins_44 3000 _ (m + 1) 842 (nI j) s.1 s.2 (nI k) (nI o) (m0 w) = _
            rw [E_X10_twins_44, hm.1]
            simp (disch := omega) only [nlt, ho, if_true, nLadd, bIn, rAn, decide_true, ck_tr, (show k < 7 by omega), (show o < 7 by omega), (show k < 57 by omega), (show o < 57 by omega), (show 0 + k < 57 by omega), (show 0 + o < 57 by omega), mB k hk, mB o ho, e19, Nat.zero_add, nLmul, nI_add, naddL, lt_eq]
            unfold tw
            split
            · split
              · split <;> rfl
              · rfl
            · rfl)
          (fun m s _ => by
            show f_X10_twins_44 3000 _ (m + 1) 842 (nI j) s.1 s.2 (nI k) (nI (cH C)) (m0 w) = _
            rw [E_X10_twins_44, hm.1, if_neg (by rw [nlt _ _ (by omega) (by omega)]; omega), naddL])
          (cH C - (k + 1)) 3000 (k + 1) s (by omega) (by omega) trivial).1)
      (fun n s => by
        show f_X10_twins_29 3000 (n + 1) 842 (nI j) s.1 s.2 (nI (cH C)) (m0 w) = _
        rw [E_X10_twins_29, hm.1, if_neg (by rw [nlt _ _ (by omega) (by omega)]; omega)]
        simp (disch := omega) only [neqL]
        split <;> rfl) (n := 3000) (by omega) (0, -1)
theorem floorMod_p {fu t q : Nat} {w : MEM} (ht : t < 2 ^ 30) (hq0 : 0 < q) (hq : q < 2 ^ 30) : f_J9_floorMod_7cf53 fu (nI t) (nI q) w = some (nI (t % q), w) := by
  rw [E_J9_floorMod_7cf53, if_neg (nI_ne0 hq0 (by omega)), lt_eq, nI_mod (by omega) hq0 (by omega)]
  rw [if_neg]
  intro h
  have h1 : ¬ nI t < 0 := nI_pos (by omega)
  have h2 : ¬ nI q < 0 := nI_pos (by omega)
  exact (xor_neg _ _).mp h (by simp [h1, h2])
theorem sun_at {t s k : Nat} (hs : s < 24) (hk : k < 24) : (t + k) % 24 = s ↔ k = (s + 24 - t % 24) % 24 := by omega
theorem S_sunny {w : MEM} (hI : INV w) : SIMn (f_X9_sunny 3000 0) (f_X10_sunny 3000 842) w := by
  have h := hI
  obtain ⟨C, c, l, b, hr, hc, hk⟩ := h
  have hw := hc.1
  obtain ⟨hR, t, ht, hb⟩ := hc.now
  have hm := (hc.fr (m0_fr w).K).2.2.1
  have e19 : fA (m0 w) (1019, 842) = fA w (1019, 842) := rfl
  obtain ⟨s, hs, es⟩ := hw.2.2.2.2.2.2.2
  refine ⟨nI ((s + 24 - t % 24) % 24), w, m0 w, ?_, ?_, hI.fr (m0_fr w)⟩
  · rw [E_X9_sunny, show (8 + 1 : Nat) = 9 from rfl, hr.1, hc.2.1.2.2.2.1, hR.2.2.1, hb.2, es, show (24 : Int32) = nI 24 from rfl]
    by_cases c1 : t ≤ s
    · rw [nI_sub _ _ c1, floorMod_p (by omega) (by omega) (by omega), bnd_some, show (s - t) % 24 = (s + 24 - t % 24) % 24 by omega]
    · have e : nI s - nI t = -nI (t - s) := by
        rw [← nI_sub t s (by omega), Int32.neg_sub]
      rw [e, floorMod_ok (by omega) (by omega) (by omega), bnd_some, show (24 - (t - s) % 24) % 24 = (s + 24 - t % 24) % 24 by omega]
  · rw [E_X10_sunny, lt_eq, m0_eq]
    generalize hN : (s + 24 - t % 24) % 24 = N
    have hlt : N < 24 := by omega
    have hsu : ∀ k, k < 24 → f_X10_sunOf 3000 842 (nI t + nI k) (m0 w) = some ((if k = N then 1 else 0), m0 w) := by
      intro k hk
      rw [sunOf_M hm, nI_add]
      unfold m24
      rw [show (24 : Int32) = nI 24 from rfl, nI_mod (by omega) (by omega) (by omega), es]
      have : (nI ((t + k) % 24) = nI s) = (k = N) := by
        rw [neqI _ _ (by omega) (by omega), ← hN]
        exact propext (sun_at hs hk)
      simp only [this]
    obtain ⟨u, n1, k1, k2⟩ := for_rel (F := fun n k (_ : Unit) => f_X10_sunny_7 3000 n 842 k (m0 w)) (N := N) (fun _ _ => True)
      (fun n k u hk _ => by
        refine ⟨(), ?_, trivial⟩
        show f_X10_sunny_7 3000 (n + 1) 842 (nI k) (m0 w) = f_X10_sunny_7 3000 n 842 (nI (k + 1)) (m0 w)
        rw [E_X10_sunny_7]
        simp (disch := omega) only [bIL, rAL, decide_true, ck_tr, (show 56 < 57 by omega), naddL, e19, hb.2, hsu k (by omega), bnd_some, (show ¬ k = N by omega), if_false, if_true])
      N 3000 0 () (by omega) (by omega) trivial
    have k1 : f_X10_sunny_7 3000 3000 842 0 (m0 w) = f_X10_sunny_7 3000 (n1 + 1) 842 (nI N) (m0 w) := k1
    rw [k1, E_X10_sunny_7]
    simp (disch := omega) only [bIL, rAL, decide_true, ck_tr, (show 56 < 57 by omega), e19, hb.2, hsu N hlt, bnd_some, if_true]
    rw [if_neg (by decide)]
