/-! court -/
def C0 : ACt := (0, (fun _ => 0, ((0, (fun _ => 0, fun _ => 0)), (12, ((0, (fun _ => 0, fun _ => 0)), usual)))))
theorem C0_wf : WFx C0 (fun _ => 0) := by
  refine ⟨⟨Nat.zero_le _, Nat.zero_le _, fun k hk => absurd hk (Nat.not_lt_zero _), Nat.zero_le _, fun k hk => absurd hk (Nat.not_lt_zero _), usual_wf, fun k hk => absurd hk (Nat.not_lt_zero _), ⟨12, by omega, rfl⟩⟩, rfl, fun k hk => absurd hk (Nat.not_lt_zero _)⟩
def pAll (a : LA) : Bool := !(Nat.beq a.1 10916 || (Nat.beq a.1 10917 || Nat.beq a.1 1001))
theorem Fr.all {P : LA → Bool} {w w1 : MEM} (g : Fr P w w1) (h1 : ∀ i, P (10916, i) = false) (h2 : ∀ i, P (10917, i) = false) (h3 : ∀ i, P (1001, i) = false) : Fr pAll w w1 := by
  refine g.mono (fun a h => ?_)
  obtain ⟨t, i⟩ := a
  show (!(Nat.beq t 10916 || (Nat.beq t 10917 || Nat.beq t 1001))) = true
  cases e : (Nat.beq t 10916 || (Nat.beq t 10917 || Nat.beq t 1001)) with
  | false => rfl
  | true =>
    exfalso
    rcases or_t e with e | e
    · have := Nat.eq_of_beq_eq_true e
      subst this
      rw [h1 i] at h
      cases h
    · rcases or_t e with e | e
      · have := Nat.eq_of_beq_eq_true e
        subst this
        rw [h2 i] at h
        cases h
      · have := Nat.eq_of_beq_eq_true e
        subst this
        rw [h3 i] at h
        cases h
theorem CC.fr2 {u u1 : MEM} {c : Nat} {C : ACt} {F : Nat → Int32} {P : LA → Bool} (h : CC u c C F) (g : Fr P u u1) (p1 : P (10107, c) = false) (p2 : P (10108, c) = false) (p3 : P (10109, c) = false) (p4 : P (10110, c) = false) (p5 : P (101, c) = false) (p6 : P (102, c) = false) (p7 : P (103, c) = false) (p8 : P (104, c) = false) (p9 : P (105, c) = false) (p10 : P (106, c) = false) (p11 : P (107, c) = false) : CC u1 c C F := by
  unfold CC
  rw [g.2.1 _ p1, g.2.1 _ p2, g.2.1 _ p3, g.2.1 _ p4, g.1 _ p5, g.1 _ p6, g.1 _ p7, g.1 _ p8, g.1 _ p9, g.1 _ p10, g.1 _ p11]
  exact h
def pKF (c : Nat) (a : LA) : Bool := pBg a || (pBm a || (pM8 a || pCo c a))
theorem okX_pKF (c : Nat) : okX (pKF c) := ⟨fun t ht j => all9 (Q := fun t => pKF c (401 + t, j) = false) rfl rfl rfl rfl rfl rfl rfl rfl rfl t ht, fun j => rfl, fun j => rfl, rfl, rfl, rfl, rfl, rfl, rfl, rfl, rfl⟩
theorem pBg_KF (c : Nat) (a : LA) (h : pBg a = true) : pKF c a = true := by unfold pKF; rw [h, Bool.true_or]
theorem pBm_KF (c : Nat) (a : LA) (h : pBm a = true) : pKF c a = true := by unfold pKF; rw [h, Bool.true_or, Bool.or_true]
theorem pM8_KF (c : Nat) (a : LA) (h : pM8 a = true) : pKF c a = true := by unfold pKF; rw [h, Bool.true_or, Bool.or_true, Bool.or_true]
theorem pCo_KF (c : Nat) (a : LA) (h : pCo c a = true) : pKF c a = true := by unfold pKF; rw [h, Bool.or_true, Bool.or_true, Bool.or_true]
theorem pMc_q (a : LA) (h : pMc a = true) : q842 a = true := by
  rcases or_t h with e | e
  · exact (and_t e).2
  · exact (and_t e).2
theorem pM8_q (a : LA) (h : pM8 a = true) : q842 a = true := by
  rcases or_t h with e | e
  · exact pMc_q a e
  · exact (and_t e).2
theorem MORN_new {v : MEM} {C : ACt} {c : Nat} {F : Nat → Int32} (hW : WFx C F) (h9 : rS v (10409, 9) = 0) (g : ∀ x < 57, fA v (1019, 842) x = gK (cH C) F 7 x) {w : MEM} (hw : ∀ j < cH C, fA w (101, c) j = cBr C j ∧ fA w (102, c) j = F j) (hb : ∀ j < 7, begV w c (cH C) j v) : MORN v 9 C (nowH v) := by
  have h7 := hW.1.1
  have gv : ∀ x < 57, nowH v x = gK (cH C) F 7 x := fun x hx => by rw [nowH_lt _ hx]; exact g x hx
  refine ⟨⟨?_, ?_, ?_, ?_⟩, 0, by omega, ?_⟩
  · intro t ht j hj
    obtain ⟨b1, b2, b3, b4, b5, b6, b7, b8, b9⟩ := hb j (by omega)
    have : t = 0 ∨ t = 1 ∨ t = 2 ∨ t = 3 ∨ t = 4 ∨ t = 5 ∨ t = 6 ∨ t = 7 := by omega
    rw [gv _ (by omega)]
    unfold gK
    rcases this with rfl | rfl | rfl | rfl | rfl | rfl | rfl | rfl
    · rw [if_pos (by omega), if_pos (by omega), show 7 * 0 + j = j by omega]
      exact b2.trans (hw j hj).2
    · rw [if_neg (by omega), if_neg (by omega), if_neg (by omega), if_neg (by omega)]
      exact b3
    · rw [if_neg (by omega), if_pos (by omega)]
      exact b4
    · rw [if_neg (by omega), if_neg (by omega), if_neg (by omega), if_neg (by omega)]
      exact b5
    · rw [if_neg (by omega), if_neg (by omega), if_neg (by omega), if_neg (by omega)]
      exact b6
    · rw [if_neg (by omega), if_neg (by omega), if_pos (by omega), if_pos (by omega)]
      rw [if_pos hj] at b7
      exact b7
    · rw [if_neg (by omega), if_neg (by omega), if_neg (by omega), if_pos (by omega)]
      exact b8
    · rw [if_neg (by omega), if_neg (by omega), if_neg (by omega), if_neg (by omega)]
      exact b9
  · intro j h1 h2
    obtain ⟨b1, b2, b3, b4, b5, b6, b7, b8, b9⟩ := hb j h2
    rw [if_neg (by omega)] at b7
    exact ⟨b3, b7, b8, b9⟩
  · rw [gv 56 (by omega), h9]
    unfold gK
    rw [if_neg (by omega), if_neg (by omega), if_neg (by omega), if_neg (by omega)]
  · intro j hj
    exact (hb j (by omega)).1.trans (hw j hj).1
  · refine ⟨fun j hj => ⟨⟨0, by omega, ?_⟩, ⟨99, by omega, ?_⟩, ?_⟩, ?_⟩
    · rw [gv _ (by omega)]
      unfold gK
      rw [if_neg (by omega), if_neg (by omega), if_neg (by omega), if_neg (by omega)]
      rfl
    · rw [gv _ (by omega)]
      unfold gK
      rw [if_neg (by omega), if_pos (by omega)]
      rfl
    · rw [gv _ (by omega)]
      unfold gK
      rw [if_neg (by omega), if_neg (by omega), if_pos (by omega), if_pos (by omega)]
      exact Or.inr rfl
    · rw [gv 56 (by omega)]
      unfold gK
      rw [if_neg (by omega), if_neg (by omega), if_neg (by omega), if_neg (by omega)]
      rfl
theorem S_court (a : Int32) {w : MEM} (hI : INV w) : SIM KI (f_X9_court 3000 0 a) (f_X10_court 3000 842 a) w := by
  have h := hI
  obtain ⟨C, cc, l, b, hr, hc, hk⟩ := h
  have hT := hc.2.2.2.2.2.1
  rcases begin_C (a := a) (most := 600) hT 600 rfl (by omega) with ⟨e1, e2⟩ | ⟨N, w1, n1, rfl, n2, e1, T1, F1, z1, hT1⟩
  · refine SIM_W hI 1 (by rw [E_X9_court, e1]; rfl) ?_ rfl
    have e11 : rS (m0 (bW w)) (11002, 842) = rS w (11002, 842) := rfl
    rw [E_X10_court, lt_eq, m0_eq, may_W 3000 (by decide) (rS_m0 _), bnd_some, if_pos rfl, e11]
    by_cases c1 : a < 0
    · rw [if_pos c1]
    · rw [if_neg c1]
      by_cases c2 : rS w (11002, 842) < a
      · rw [if_pos c2]
      · exfalso
        rcases e2 with e2 | e2 | e2
        · exact absurd e2 c1
        · exact absurd e2 c2
        · obtain ⟨nt, t1, t2, t3, _⟩ := hT
          obtain ⟨j, hj, rfl⟩ := nI_of c1
          rw [t3, nlt _ _ (by omega) (by omega)] at c2
          have e2 : nI 600 < nI j := e2
          rw [nlt _ _ (by omega) (by omega)] at e2
          omega
  obtain ⟨c', hc', hne⟩ : ∃ c', rT w (10909, 0) = c' ∧ ((cc = 296 ∧ c' = 304) ∨ (cc = 304 ∧ c' = 296)) := by
    rcases hr.2.2.2.1 with ⟨x, y⟩ | ⟨x, y⟩
    · exact ⟨304, y, Or.inl ⟨x, rfl⟩⟩
    · exact ⟨296, y, Or.inr ⟨x, rfl⟩⟩
  have hcr : rT w (10908, 0) = cc := hr.1
  have hlr : rT w (10910, 0) = l := hr.2.1
  have hbr : rT w (10912, 0) = b := hr.2.2.1
  have hcc : cc ≠ c' := by omega
  have f103 := fill_ok 3000 (103, c') 0 (sS (sS (sS (sS w1 (10107, c') 0) (10108, c') 0) (10109, c') 0) (10110, c') 12) (by decide : aN 103 < 3000) (by decide : aN 103 < 2 ^ 31)
  generalize hu0 : tA (sS (sS (sS (sS w1 (10107, c') 0) (10108, c') 0) (10109, c') 0) (10110, c') 12) (103, c') (fun j => if j < aN 103 then (0 : Int32) else fA (sS (sS (sS (sS w1 (10107, c') 0) (10108, c') 0) (10109, c') 0) (10110, c') 12) (103, c') j) = u0 at *
  have T0 : TXC u0 (tapeT w) N 0 := by rw [← hu0]; exact T1
  have F0a : Fr (pCo c') w1 u0 := by
    rw [← hu0]
    exact Fr.A (a := (103, c')) (Fr.S (a := (10110, c')) (Fr.S (a := (10109, c')) (Fr.S (a := (10108, c')) (Fr.S (a := (10107, c')) (Fr.rf _ _) _ (pCo_at c' rfl)) _ (pCo_at c' rfl)) _ (pCo_at c' rfl)) _ (pCo_at c' rfl)) _ (pCo_at c' rfl)
  have z0 : rS u0 (10801, 1) = 0 := by rw [← hu0]; exact z1
  have CC0 : CC u0 c' C0 (fun _ => 0) := by
    rw [← hu0]
    refine ⟨?_, ?_, ?_, ?_, fun j hj => absurd hj (Nat.not_lt_zero _), fun j hj => absurd hj (Nat.not_lt_zero _), fun j hj => absurd hj (Nat.not_lt_zero _), fun j hj => ?_⟩
    · simp only [rS_tA, rS_sS, Prod.mk.injEq, Nat.reduceEqDiff, false_and, and_true, if_true, if_false]; rfl
    · simp only [rS_tA, rS_sS, Prod.mk.injEq, Nat.reduceEqDiff, false_and, and_true, if_true, if_false]; rfl
    · simp only [rS_tA, rS_sS, Prod.mk.injEq, Nat.reduceEqDiff, false_and, and_true, if_true, if_false]; rfl
    · simp only [rS_tA, rS_sS, if_true]; rfl
    · rw [fA_tA, if_pos rfl, if_pos (show j < aN 103 from hj)]; rfl
  have ereq : rT w1 (10909, 0) = c' := (F1.2.2.1 _).trans hc'
  have hX0 : f_X9_court 3000 0 (nI N) w = bnd (f_X1_read_31 3000 3000 c' 1 (0 : Int32) u0) fun (x5 : Int32) (w4 : MEM) => if x5 = 0 then (some (.inl ((rS w4 (10805, 1)) - (10 : Int32)), w4)) else (lt (sT w4 (10909, 0) (rT w4 (10908, 0))) fun (w8 : MEM) => lt (sT w8 (10908, 0) (rT w4 (10909, 0))) fun (w9 : MEM) => bnd (f_X3_beUsual 3000 (rT w9 (10910, 0)) w9) fun (u12 : Unit) (w11 : MEM) => bnd (f_X0_clear 3000 (rT w11 (10912, 0)) w11) fun (u15 : Unit) (w14 : MEM) => bnd (f_X2_begin 3000 8 (rT w14 (10908, 0)) w14) fun (u18 : Unit) (w17 : MEM) => lt (sS w17 (10914, 0) (0 : Int32)) fun (w19 : MEM) => lt (sS w19 (10915, 0) (0 : Int32)) fun (w20 : MEM) => some (.inl (rS w20 (10107, (rT w20 (10908, 0)))), w20)) := by
    rw [E_X9_court, e1, bndT_inl, ereq, E_X1_read, lt_eq, lt_eq, lt_eq, lt_eq, f103, bnd_some]
  have mod : ∀ wx : MEM, rS wx (11002, 842) = rS w (11002, 842) → fA wx (1002, 842) = fA w (1002, 842) → ∃ v, f_X10_court 3000 842 (nI N) wx = f_X10_court_44 3000 3000 842 (nI 0) v ∧ TXM v (tapeT w) N 0 ∧ CM v C0 (fun _ => 0) ∧ Fr (fun a => pBm a || pM8 a) wx v ∧ rS v (11002, 842) = 0 ∧ rS v (11000, 842) = 0 := by
    intro wx g1 g2
    obtain ⟨v, y1, y2, y3, y4, y5, y6⟩ := begins_M (u := m0 wx) (T := tapeT w) (N := N) (by omega) (fun k hk => ⟨(hT1 k hk).1, by
      have : fA (m0 wx) (1002, 842) = fA w (1002, 842) := g2
      rw [this]; exact (hT1 k hk).2⟩)
    have e11 : rS (m0 wx) (11002, 842) = rS w (11002, 842) := g1
    refine ⟨sS (sS (sS (sS v (11018, 842) 0) (11019, 842) 0) (11020, 842) 0) (11021, 842) 12, ?_, y2, ⟨?_, ?_, ?_, ?_, fun j hj => absurd hj (Nat.not_lt_zero _), fun j hj => absurd hj (Nat.not_lt_zero _), fun j hj => absurd hj (Nat.not_lt_zero _)⟩, ?_, y4, y6.trans (rS_m0 wx)⟩
    · rw [E_X10_court, lt_eq, m0_eq, if_neg (nI_pos (by omega)), e11, if_neg n2, may_1 3000 _ _ (rS_m0 _), bnd_some, if_neg (by decide), y1, bnd_some, E_X10_clears, lt_eq, lt_eq, lt_eq, lt_eq, bnd_some]
      rfl
    · simp only [rS_sS, Prod.mk.injEq, Nat.reduceEqDiff, false_and, and_true, if_true, if_false]; rfl
    · simp only [rS_sS, Prod.mk.injEq, Nat.reduceEqDiff, false_and, and_true, if_true, if_false]; rfl
    · simp only [rS_sS, Prod.mk.injEq, Nat.reduceEqDiff, false_and, and_true, if_true, if_false]; rfl
    · simp only [rS_sS, if_true]; rfl
    · refine Fr.S (a := (11021, 842)) (Fr.S (a := (11020, 842)) (Fr.S (a := (11019, 842)) (Fr.S (a := (11018, 842)) (Fr.tr (w1 := m0 wx) ?_ (y3.mono (fun a h => by rw [h, Bool.true_or]))) _ rfl) _ rfl) _ rfl) _ rfl
      unfold m0
      exact Fr.S (a := (11000, 842)) (Fr.rf _ _) _ rfl
  have mq : ∀ a : LA, (pBm a || pM8 a) = true → q842 a = true := by
    intro a h
    rcases or_t h with e | e
    · exact (and_t e).2
    · exact pM8_q a e
  have mk : ∀ a : LA, (pBm a || pM8 a) = true → pKF c' a = true := by
    intro a h
    rcases or_t h with e | e
    · exact pBm_KF c' a e
    · exact pM8_KF c' a e
  rcases court_loop (c := c') 61 0 3000 u0 0 C0 (fun _ => 0) (by omega) (by omega) (by omega) T0 CC0 C0_wf with ⟨D, F, u1, i1, i2, i3, i4, i5, i6⟩ | ⟨d, q, u1, i1, i2, i3, i4⟩
  · have i1 : f_X1_read_31 3000 3000 c' 1 (0 : Int32) u0 = some (1, u1) := i1
    have g1 : Fr (pKF c') w u1 := ((F1.mono (pBg_KF c')).tr (F0a.mono (pCo_KF c'))).tr (i2.mono (pCo_KF c'))
    have gR : ∀ a, rT u1 a = rT w a := g1.2.2.1
    have r2 : rT u1 (10908, 0) = cc := (gR _).trans hcr
    have r3 : rT u1 (10909, 0) = c' := (gR _).trans hc'
    have hM2 : rS u1 (11002, 842) = rS w (11002, 842) := (i2.2.1 _ rfl).trans ((F0a.2.1 _ rfl).trans (F1.2.1 _ rfl))
    have hM3 : fA u1 (1002, 842) = fA w (1002, 842) := (i2.1 _ rfl).trans ((F0a.1 _ rfl).trans (F1.1 _ rfl))
    generalize hux : sT (sT u1 (10909, 0) cc) (10908, 0) c' = ux
    have x1 : rT ux (10908, 0) = c' := by rw [← hux, rT_sT, if_pos rfl]
    have x2 : rT ux (10910, 0) = l := by rw [← hux, rT_sT, if_neg (by decide), rT_sT, if_neg (by decide)]; exact (gR _).trans hlr
    have x3 : rT ux (10912, 0) = b := by rw [← hux, rT_sT, if_neg (by decide), rT_sT, if_neg (by decide)]; exact (gR _).trans hbr
    have x4 : CC ux c' D F := by rw [← hux]; exact i3
    obtain ⟨u2, b1, b2, b3⟩ := beUsual_C ux l
    have y1 : rT u2 (10912, 0) = b := (b3.2.2.1 _).trans x3
    have cl := fill_ok 3000 (1, b) (-1) u2 (by decide : aN 1 < 3000) (by decide : aN 1 < 2 ^ 31)
    generalize hu3 : sS (tA u2 (1, b) (fun j => if j < aN 1 then (-1 : Int32) else fA u2 (1, b) j)) (10001, b) 0 = u3 at *
    have f3 : Fr (fun a => Nat.beq a.1 1 || Nat.beq a.1 10001) u2 u3 := by
      rw [← hu3]
      exact Fr.S (a := (10001, b)) (Fr.A (a := (1, b)) (Fr.rf _ _) _ rfl) _ rfl
    have x5 : CC u3 c' D F := (x4.fr2 b3 rfl rfl rfl rfl rfl rfl rfl rfl rfl rfl rfl).fr2 f3 rfl rfl rfl rfl rfl rfl rfl rfl rfl rfl rfl
    have y2 : rT u3 (10908, 0) = c' := (f3.2.2.1 _).trans ((b3.2.2.1 _).trans x1)
    obtain ⟨u4, d1, d2, d3, d4⟩ := begin4_C x5.1 i4.1.1
    generalize hu5 : sS (sS (sS u4 (10202, 8) 0) (10914, 0) 0) (10915, 0) 0 = u5
    have f5 : Fr (fun a => Nat.beq a.1 10202 || (Nat.beq a.1 10914 || Nat.beq a.1 10915)) u4 u5 := by
      rw [← hu5]
      exact Fr.S (a := (10915, 0)) (Fr.S (a := (10914, 0)) (Fr.S (a := (10202, 8)) (Fr.rf _ _) _ rfl) _ rfl) _ rfl
    have x6 : CC u5 c' D F := (x5.fr2 d2 rfl rfl rfl rfl rfl rfl rfl rfl rfl rfl rfl).fr2 f5 rfl rfl rfl rfl rfl rfl rfl rfl rfl rfl rfl
    have y3 : rT u5 (10908, 0) = c' := (f5.2.2.1 _).trans ((d2.2.2.1 _).trans y2)
    have hX : f_X9_court 3000 0 (nI N) w = some (.inl (nI (cH D)), u5) := by
      have d1 : f_X4_begin 3000 (8 + 1) c' u3 = some ((), u4) := d1
      rw [hX0, i1, bnd_some, if_neg (by decide), lt_eq, lt_eq, r2, r3, hux, x2, b1, bnd_some, y1, E_X0_clear, cl, bnd_some, lt_eq, hu3, bnd_some, y2, E_X2_begin, d1, bnd_some, lt_eq, bnd_some, lt_eq, lt_eq, hu5, y3, x6.1]
    have fux : ∀ P, Fr P ux ux := fun P => Fr.rf P ux
    obtain ⟨v, k2, k3, k4, k5, k6, k7⟩ := mod u5 (by
      rw [f5.2.1 _ rfl, d2.2.1 _ rfl, f3.2.1 _ rfl, b3.2.1 _ rfl, ← hux]
      exact hM2) (by
      rw [f5.1 _ rfl, d2.1 _ rfl, f3.1 _ rfl, b3.1 _ rfl, ← hux]
      exact hM3)
    obtain ⟨v1, j1, j2, j3, j4⟩ := i6 v 3000 (by omega) k3 k4
    obtain ⟨v2, o1, o2, o3, o4, o5, o6, o7, o8, o9⟩ := sets_M j2 i4
    have gq : Fr q842 u5 v2 := ((k5.mono mq).tr (j3.mono pM8_q)).tr (o2.mono (fun a h => (and_t h).2))
    have h0 : rS v2 (11000, 842) = 0 := (o2.2.1 _ rfl).trans ((j3.2.1 _ rfl).trans k7)
    have n842 : ∀ t, q842 (t, b) = false := by
      intro t
      have : b = 322 ∨ b = 324 := by rcases hr.2.2.2.2.2 with ⟨x, _⟩ | ⟨x, _⟩ <;> omega
      exact beq_ne (show b ≠ 842 by omega)
    have c842 : ∀ t, q842 (t, c') = false := fun t => beq_ne (show c' ≠ 842 by omega)
    have l842 : ∀ t, q842 (t, l) = false := by
      intro t
      have : l = 312 ∨ l = 317 := by rcases hr.2.2.2.2.1 with ⟨x, _⟩ | ⟨x, _⟩ <;> omega
      exact beq_ne (show l ≠ 842 by omega)
    have gall : Fr pAll (sT (sT w (10909, 0) cc) (10908, 0) c') v2 := by
      have a0 : Fr pAll (sT (sT w (10909, 0) cc) (10908, 0) c') ux := by
        rw [← hux]
        exact ((g1.all (fun i => rfl) (fun i => rfl) (fun i => rfl)).sT _ _).sT _ _
      have a1 := b3.all (fun i => rfl) (fun i => rfl) (fun i => rfl)
      have a2 := f3.all (fun i => rfl) (fun i => rfl) (fun i => rfl)
      have a3 := d2.all (fun i => rfl) (fun i => rfl) (fun i => rfl)
      have a4 := f5.all (fun i => rfl) (fun i => rfl) (fun i => rfl)
      have a5 := k5.all (fun i => rfl) (fun i => rfl) (fun i => rfl)
      have a6 := j3.all (fun i => rfl) (fun i => rfl) (fun i => rfl)
      have a7 := o2.all (fun i => rfl) (fun i => rfl) (fun i => rfl)
      exact ((((((a0.tr a1).tr a2).tr a3).tr a4).tr a5).tr a6).tr a7
    have x7 : CC v2 c' D F := x6.fr2 gq (c842 _) (c842 _) (c842 _) (c842 _) (c842 _) (c842 _) (c842 _) (c842 _) (c842 _) (c842 _) (c842 _)
    obtain ⟨q1, q2, q3, q4, q5, q6, q7, q8⟩ := x7
    obtain ⟨r1, _, _, r4, r5, r6⟩ := hr
    refine ⟨.inl (nI (cH D)), u5, nI (cH D), v2, hX, by rw [k2, j1, o1, bnd_some], ⟨D, c', l, b, REF.fr (w := sT (sT w (10909, 0) cc) (10908, 0) c') ⟨?_, ?_, ?_, ?_, ?_, ?_⟩ gall, ?_, CNT.fr (w := sT (sT w (10909, 0) cc) (10908, 0) c') hk gall rfl rfl rfl⟩, h0, rfl⟩
    · rw [rT_sT, if_pos rfl]
    · rw [rT_sT, if_neg (by decide), rT_sT, if_neg (by decide)]; exact hlr
    · rw [rT_sT, if_neg (by decide), rT_sT, if_neg (by decide)]; exact hbr
    · rw [rT_sT, if_neg (by decide), rT_sT, if_pos rfl]; omega
    · rw [rT_sT, if_neg (by decide), rT_sT, if_neg (by decide)]; exact r5
    · rw [rT_sT, if_neg (by decide), rT_sT, if_neg (by decide)]; exact r6
    · have hv9 : rS v2 (10409, 9) = 0 := (gq.2.1 _ rfl).trans ((f5.2.1 _ rfl).trans d3)
      have hbv : ∀ j < 7, begV u3 c' (cH D) j v2 := by
        intro j hj
        have e : ∀ t, (Nat.beq t 10202 || (Nat.beq t 10914 || Nat.beq t 10915)) = false → fA v2 (t, 9) = fA u4 (t, 9) := fun t ht => (gq.1 (t, 9) rfl).trans (f5.1 (t, 9) ht)
        unfold begV
        rw [e 401 rfl, e 402 rfl, e 403 rfl, e 404 rfl, e 405 rfl, e 406 rfl, e 407 rfl, e 408 rfl, e 409 rfl]
        exact d4 j hj
      have hmo : MORN v2 9 D (nowH v2) := MORN_new i4 hv9 o4 x5.2.2.2.2.1 hbv
      have t22 : rS v2 (10202, 8) = 0 := (gq.2.1 _ rfl).trans (by rw [← hu5]; rfl)
      have t14 : rS v2 (10914, 0) = 0 := (gq.2.1 _ rfl).trans (by rw [← hu5]; rfl)
      have t15 : rS v2 (10915, 0) = 0 := (gq.2.1 _ rfl).trans (by rw [← hu5, rS_sS, if_pos rfl])
      have s34 : ∀ t : LA, q842 t = false → pMor 9 t = false → (Nat.beq t.1 10202 || (Nat.beq t.1 10914 || Nat.beq t.1 10915)) = false → rS v2 t = rS u3 t := fun t h1 h2 h3 => (gq.2.1 _ h1).trans ((f5.2.1 _ h3).trans (d2.2.1 _ h2))
      have f34 : ∀ t : LA, q842 t = false → pMor 9 t = false → (Nat.beq t.1 10202 || (Nat.beq t.1 10914 || Nat.beq t.1 10915)) = false → fA v2 t = fA u3 t := fun t h1 h2 h3 => (gq.1 _ h1).trans ((f5.1 _ h3).trans (d2.1 _ h2))
      refine ⟨i4.1, ⟨q1, q3, q6, q4, q2, q7, q8, fun j hj => (q5 j hj).1, ?_⟩, o3, ⟨0, by omega, ?_, ?_, hmo, fun k hk => by omega⟩, ⟨0, by omega, t14, o8, fun q hq => by omega⟩, tape0 ?_ ?_, ?_, ?_, ⟨0, by omega, ?_, o6, fun j hj => ⟨?_, ?_⟩⟩⟩
      · rw [i4.2.1]
        have : LawC u3 l usual := b2.fr f3 rfl rfl rfl
        have : LawC u4 l usual := this.fr d2 rfl rfl rfl
        have : LawC u5 l usual := this.fr f5 rfl rfl rfl
        exact this.fr gq (l842 _) (l842 _) (l842 _)
      · rw [nowH_top, o7]; rfl
      · rw [t22]; rfl
      · rw [s34 _ rfl rfl rfl, f3.2.1 _ rfl, b3.2.1 _ rfl, ← hux]
        exact (i2.2.1 (10801, 1) rfl).trans z0
      · exact (o2.2.1 _ rfl).trans ((j3.2.1 _ rfl).trans k6)
      · rw [s34 _ rfl rfl rfl, f3.2.1 _ rfl, b3.2.1 _ rfl, o2.2.1 (11008, 842) rfl, j4, ← hux]
        exact i5
      · rw [t15, o9]
      · rw [s34 _ (n842 _) rfl rfl, ← hu3, rS_sS, if_pos rfl]; rfl
      · rw [f34 _ (n842 _) rfl rfl, ← hu3, fA_sS, fA_tA, if_pos rfl, if_pos (show j < aN 1 from hj), o5 j hj]
      · rw [f34 _ (n842 _) rfl rfl, ← hu3, fA_sS, fA_tA, if_pos rfl, if_pos (show j < aN 1 from hj)]
        exact Or.inl rfl
  · have i1 : f_X1_read_31 3000 3000 c' 1 (0 : Int32) u0 = some (0, u1) := i1
    have g1 : Fr (pKF c') w u1 := ((F1.mono (pBg_KF c')).tr (F0a.mono (pCo_KF c'))).tr (i2.mono (pCo_KF c'))
    have hX : f_X9_court 3000 0 (nI N) w = some (.inl (nI d - 10), u1) := by
      rw [hX0, i1, bnd_some, if_pos rfl, i3.1]
    have hM2 : rS u1 (11002, 842) = rS w (11002, 842) := (i2.2.1 _ rfl).trans ((F0a.2.1 _ rfl).trans (F1.2.1 _ rfl))
    have hM3 : fA u1 (1002, 842) = fA w (1002, 842) := (i2.1 _ rfl).trans ((F0a.1 _ rfl).trans (F1.1 _ rfl))
    obtain ⟨v, k2, k3, k4, k5, k6, k7⟩ := mod u1 hM2 hM3
    obtain ⟨v1, j1, j2, j3⟩ := i4 v 3000 (by omega) k3 k4
    have g2 : Fr (pKF c') w v1 := (g1.tr (k5.mono mk)).tr (j2.mono (pM8_KF c'))
    have g3 : Fr q842 u1 v1 := (k5.mono mq).tr (j2.mono pM8_q)
    have h0 : rS v1 (11000, 842) = 0 := (j2.2.1 _ rfl).trans k7
    have nb : Nat.beq cc c' = false := beq_ne hcc
    have kc : ∀ t, pKF c' (t, cc) = (pBg (t, cc) || (pBm (t, cc) || (pM8 (t, cc) || (pTx (t, cc) || (coT t && false))))) := by
      intro t
      show (pBg (t, cc) || (pBm (t, cc) || (pM8 (t, cc) || (pTx (t, cc) || (coT t && Nat.beq cc c'))))) = _
      rw [nb]
    refine ⟨.inl (nI d - 10), _, nI d - 10, v1, hX, k2.trans j1, ⟨C, cc, l, b, hr.fr g2, ?_, hk.fr g2 rfl rfl rfl⟩, h0, rfl⟩
    refine hc.txt g2 ⟨(kc 10107).trans rfl, (kc 10109).trans rfl, (kc 106).trans rfl, (kc 107).trans rfl, (kc 10110).trans rfl, (kc 10108).trans rfl, (kc 104).trans rfl, (kc 105).trans rfl, (kc 103).trans rfl, (kc 101).trans rfl, rfl, rfl, rfl⟩ ⟨rfl, rfl, rfl, rfl, rfl, rfl, rfl, rfl, rfl, rfl⟩ (okX_pKF c') (tape0 ?_ ?_) ?_ (hc.2.2.2.2.2.2.2.2.fr g2 rfl rfl rfl rfl)
    · exact (g3.2.1 _ rfl).trans ((i2.2.1 (10801, 1) rfl).trans z0)
    · exact (j2.2.1 _ rfl).trans k6
    · rw [j3]
      exact (g3.2.1 _ rfl).trans i3.2
