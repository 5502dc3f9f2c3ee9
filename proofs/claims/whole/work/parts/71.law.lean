/-! law -/
def setL (C : ACt) (L : ALw) : ACt := (C.1, (C.2.1, (C.2.2.1, (C.2.2.2.1, (C.2.2.2.2.1, L)))))
def p3 (a : LA) : Bool := (Nat.beq a.1 11032 || (Nat.beq a.1 1013 || Nat.beq a.1 1014)) && Nat.beq a.2 842
theorem INVc.law {C : ACt} {c l l1 b : Nat} {w w1 : MEM} {L : ALw} (h : INVc C c l b w) (g : Fr p3 w w1) (hM : LawM w1 L) (hC : LawC w l1 L) (hW : WFl L) : INVc (setL C L) c l1 b w1 := by
  obtain ⟨h1, h2, h3, h4, h5, h6, h7, h8, h9⟩ := h
  have x1 : ∀ t < 9, ∀ j, p3 (401 + t, j) = false := fun t ht j => all9 (Q := fun t => p3 (401 + t, j) = false) rfl rfl rfl rfl rfl rfl rfl rfl rfl t ht
  refine ⟨?_, ?_, ?_, ?_, ?_, h6.fr g rfl rfl rfl rfl, ?_, ?_, h9.fr g rfl rfl rfl rfl⟩
  · obtain ⟨y1, y2, y3, y4, y5, y6, y7, y8⟩ := h1
    exact ⟨y1, y2, y3, y4, y5, hW, y7, y8⟩
  · obtain ⟨y1, y2, y3, y4, y5, y6, y7, y8, y9⟩ := h2.fr g ⟨rfl, rfl, rfl, rfl, rfl, rfl, rfl, rfl, rfl, rfl, rfl, rfl, rfl⟩
    exact ⟨y1, y2, y3, y4, y5, y6, y7, y8, hC.fr g rfl rfl rfl⟩
  · obtain ⟨y1, y2, y3, y4, y5, y6, y7, y8⟩ := h3
    refine ⟨?_, ?_, ?_, ?_, ?_, ?_, ?_, hM⟩
    · rw [g.2.1 (11022, 842) rfl]; exact y1
    · rw [g.1 (1007, 842) rfl]; exact y2
    · rw [g.2.1 (11024, 842) rfl]; exact y3
    · rw [g.1 (1010, 842) rfl]; exact y4
    · rw [g.2.1 (11025, 842) rfl]; exact y5
    · rw [g.2.1 (11023, 842) rfl]; exact y6
    · rw [g.1 (1009, 842) rfl]; exact y7
  · rw [nH_ext (g.1 _ rfl) (g.1 _ rfl) (g.2.1 _ rfl)]
    exact h4.fr2 g (fun j _ _ => ⟨fun t ht => x1 t ht j, rfl⟩) rfl
  · obtain ⟨n, a1, a2, a3, a4⟩ := h5
    refine ⟨n, a1, (g.2.1 _ rfl).trans a2, (g.2.1 _ rfl).trans a3, fun q hq => ?_⟩
    rw [g.1 (1028, 842) rfl]
    exact (a4 q hq).fr2 g (fun j _ _ => ⟨fun t ht => x1 t ht j, rfl⟩) rfl
  · rw [g.2.1 (10806, 1) rfl, g.2.1 (11008, 842) rfl]; exact h7
  · rw [g.2.1 (10915, 0) rfl, g.2.1 (11038, 842) rfl]; exact h8
def pLF (l : Nat) (a : LA) : Bool := pBg a || (pBm a || (pLm a || ((Nat.beq a.1 11008 && Nat.beq a.2 842) || pLa l a)))
theorem okX_pLF (l : Nat) : okX (pLF l) := ⟨fun t ht j => all9 (Q := fun t => pLF l (401 + t, j) = false) rfl rfl rfl rfl rfl rfl rfl rfl rfl t ht, fun j => rfl, fun j => rfl, rfl, rfl, rfl, rfl, rfl, rfl, rfl, rfl⟩
theorem pBg_LF (l : Nat) (a : LA) (h : pBg a = true) : pLF l a = true := by unfold pLF; rw [h, Bool.true_or]
theorem pBm_LF (l : Nat) (a : LA) (h : pBm a = true) : pLF l a = true := by unfold pLF; rw [h, Bool.true_or, Bool.or_true]
theorem pLm_LF (l : Nat) (a : LA) (h : pLm a = true) : pLF l a = true := by unfold pLF; rw [h, Bool.true_or, Bool.or_true, Bool.or_true]
theorem pLa_LF (l : Nat) (a : LA) (h : pLa l a = true) : pLF l a = true := by unfold pLF; rw [h, Bool.or_true, Bool.or_true, Bool.or_true, Bool.or_true]
def L0 : ALw := (0, (fun _ => 0, fun _ => 0))
theorem L0_wf : WFp L0 0 := ⟨fun _ => 0, rfl, rfl, fun i hi => absurd hi (Nat.not_lt_zero _)⟩
theorem law77_ok {v : MEM} {T : Nat → Nat} {N q : Nat} {L : ALw} (h : TXM v T N q) (hP : PgM v L) (h0 : 0 < L.1) (h150 : L.1 ≤ 150) : ∃ v1, f_X10_law_77 3000 842 v = some (1, v1) ∧ Fr p3 (sS v (11008, 842) (-1)) v1 ∧ LawM v1 L := by
  generalize hv0 : sS v (11008, 842) (-1) = v0
  have e5 : rS v0 (11005, 842) = -1 := by rw [← hv0, rS_sS, if_neg (by decide)]; exact h.2.2.2.2.1
  have e31 : rS v0 (11031, 842) = nI L.1 := by rw [← hv0, rS_sS, if_neg (by decide)]; exact hP.1
  have e11 : fA v0 (1011, 842) = fA v (1011, 842) := by rw [← hv0]; rfl
  have e12 : fA v0 (1012, 842) = fA v (1012, 842) := by rw [← hv0]; rfl
  generalize hv2 : sS v0 (11032, 842) (nI L.1) = v2
  have k1 := copies_ok (u := v2) (a := (1011, 842)) (b := (1013, 842)) (N := L.1) h150 h150 (by decide) (by omega)
  generalize hv3 : tA v2 (1013, 842) (fun j => if j < L.1 then fA v2 (1011, 842) j else fA v2 (1013, 842) j) = v3 at k1
  have k2 := copies_ok (u := v3) (a := (1012, 842)) (b := (1014, 842)) (N := L.1) h150 h150 (by decide) (by omega)
  have r2 : rS v2 (11031, 842) = nI L.1 := by rw [← hv2, rS_sS, if_neg (by decide)]; exact e31
  have r3 : rS v3 (11031, 842) = nI L.1 := by rw [← hv3]; exact r2
  have f12 : fA v3 (1012, 842) = fA v (1012, 842) := by rw [← hv3, ← hv2, ← e12]; rfl
  have f13 : fA v3 (1013, 842) = fun j => if j < L.1 then fA v2 (1011, 842) j else fA v2 (1013, 842) j := by rw [← hv3, fA_tA, if_pos rfl]
  have f11 : fA v2 (1011, 842) = fA v (1011, 842) := by rw [← hv2, ← e11]; rfl
  refine ⟨tA v3 (1014, 842) (fun j => if j < L.1 then fA v3 (1012, 842) j else fA v3 (1014, 842) j), ?_, ?_, Or.inr ⟨h0, ?_, ?_⟩⟩
  · rw [E_X10_law_77, result_ok _ h, bnd_some, hv0, if_pos e5, e31, lt_eq, hv2, r2, k1, bnd_some, r3, k2, bnd_some]
  · refine Fr.A (a := (1014, 842)) ?_ _ rfl
    rw [← hv3]
    refine Fr.A (a := (1013, 842)) ?_ _ rfl
    rw [← hv2]
    exact Fr.S (a := (11032, 842)) (Fr.rf _ _) _ rfl
  · rw [rS_tA, ← hv3, rS_tA, ← hv2, rS_sS, if_pos rfl]
  · intro i hi
    have n1 : ¬ (((1013, 842) : LA) = (1014, 842)) := by decide
    rw [fA_tA, if_neg n1, fA_tA, if_pos rfl, f13, f11, f12]
    show (if i < L.1 then fA v (1011, 842) i else _) = L.2.1 i ∧ (if i < L.1 then fA v (1012, 842) i else _) = L.2.2 i
    rw [if_pos hi, if_pos hi]
    exact hP.2 i hi
theorem law77_F {v : MEM} {k q : Nat} (h : TFM v k q) : f_X10_law_77 3000 842 v = some (nI k - 10, sS v (11008, 842) (nI q)) := by
  have e5 : ¬ rS (sS v (11008, 842) (nI q)) (11005, 842) = -1 := by
    have := h.1.1
    rw [rS_sS, if_neg (by decide), h.2.2]
    exact ne_m1 (by omega)
  rw [E_X10_law_77, result_F _ h, bnd_some, if_neg e5]
theorem S_law (a : Int32) {w : MEM} (hI : INV w) : SIM KI (f_X9_law 3000 0 a) (f_X10_law 3000 842 a) w := by
  have h := hI
  obtain ⟨C, cc, l, b, hr, hc, hk⟩ := h
  have hT := hc.2.2.2.2.2.1
  rcases begin_C (a := a) (most := 150) hT 150 rfl (by omega) with ⟨e1, e2⟩ | ⟨N, w1, n1, rfl, n2, e1, T1, F1, z1, hT1⟩
  · refine SIM_W hI 1 (by rw [E_X9_law, e1]; rfl) ?_ rfl
    have e11 : rS (m0 (bW w)) (11002, 842) = rS w (11002, 842) := rfl
    rw [E_X10_law, lt_eq, m0_eq, may_W 3000 (by decide) (rS_m0 _), bnd_some, if_pos rfl, e11]
    by_cases c1 : a < 0
    · rw [if_pos c1]
    · rw [if_neg c1]
      by_cases c2 : rS w (11002, 842) < a
      · rw [if_pos c2]
      · rw [if_neg c2, if_pos]
        rcases e2 with e2 | e2 | e2
        · exact absurd e2 c1
        · exact absurd e2 c2
        · exact e2
  obtain ⟨l', hl', hne⟩ : ∃ l', rT w (10911, 0) = l' ∧ ((l = 312 ∧ l' = 317) ∨ (l = 317 ∧ l' = 312)) := by
    rcases hr.2.2.2.2.1 with ⟨x, y⟩ | ⟨x, y⟩
    · exact ⟨317, y, Or.inl ⟨x, rfl⟩⟩
    · exact ⟨312, y, Or.inr ⟨x, rfl⟩⟩
  have hlr : rT w (10910, 0) = l := hr.2.1
  have hll : l ≠ l' := by omega
  generalize hu0 : sS w1 (10304, l') 0 = u0
  have T0 : TXC u0 (tapeT w) N 0 := by rw [← hu0]; exact T1
  have LC0 : LawC u0 l' L0 := by
    rw [← hu0]
    exact ⟨by rw [rS_sS, if_pos rfl]; rfl, fun i hi => absurd hi (Nat.not_lt_zero _)⟩
  have F0a : Fr (pLa l') w1 u0 := by
    rw [← hu0]
    exact Fr.S (a := (10304, l')) (Fr.rf _ _) _ (by unfold pLa; rw [pLw_at l' rfl, Bool.or_true])
  have z0 : rS u0 (10801, 1) = 0 := by rw [← hu0]; exact z1
  have ereq : rT w1 (10911, 0) = l' := (F1.2.2.1 _).trans hl'
  have hX0 : f_X9_law 3000 0 (nI N) w = bnd (bnd (f_X3_readSum 3000 40 l' 1 (0 : Int32) u0) fun (x3 : Int32) (w2 : MEM) => if x3 = 0 then (some ((0 : Int32), w2)) else (bnd (f_X8_needEnd 3000 1 w2) fun (x5 : Int32) (w4 : MEM) => if x5 = 0 then (some ((0 : Int32), w4)) else (some ((1 : Int32), w4)))) fun (x5 : Int32) (w4 : MEM) => if x5 = 0 then (some (.inl ((rS w4 (10805, 1)) - (10 : Int32)), w4)) else (lt (sT w4 (10911, 0) (rT w4 (10910, 0))) fun (w8 : MEM) => lt (sT w8 (10910, 0) (rT w4 (10911, 0))) fun (w9 : MEM) => some (.inl (1 : Int32), w9)) := by
    rw [E_X9_law, e1, bndT_inl, ereq, E_X3_read, lt_eq, hu0]
  have mod : ∀ wx : MEM, rS wx (11002, 842) = rS w (11002, 842) → fA wx (1002, 842) = fA w (1002, 842) → ∃ v, f_X10_law 3000 842 (nI N) wx = (bnd (f_X10_readSum 3000 40 842 v) fun (u47 : Unit) (w46 : MEM) => bnd (f_X10_fine 3000 842 w46) fun (x49 : Int32) (w48 : MEM) => if x49 = 0 then (f_X10_law_77 3000 842 w48) else (bnd (f_X10_isMore 3000 842 w48) fun (x51 : Int32) (w50 : MEM) => if x51 = 0 then (f_X10_law_77 3000 842 w50) else (bnd (f_X10_wrong 3000 842 (1 : Int32) (rS w50 (11004, 842)) w50) fun (u53 : Unit) (w52 : MEM) => f_X10_law_77 3000 842 w52))) ∧ TXM v (tapeT w) N 0 ∧ PgM v L0 ∧ rS v (11007, 842) = nI 0 ∧ Fr (fun a => pBm a || pLm a) wx v ∧ rS v (11002, 842) = 0 ∧ rS v (11000, 842) = 0 := by
    intro wx g1 g2
    obtain ⟨v, y1, y2, y3, y4, y5, y6⟩ := begins_M (u := m0 wx) (T := tapeT w) (N := N) (by omega) (fun k hk => ⟨(hT1 k hk).1, by
      have : fA (m0 wx) (1002, 842) = fA w (1002, 842) := g2
      rw [this]; exact (hT1 k hk).2⟩)
    have e11 : rS (m0 wx) (11002, 842) = rS w (11002, 842) := g1
    refine ⟨sS v (11031, 842) 0, ?_, y2, ⟨by rw [rS_sS, if_pos rfl]; rfl, fun i hi => absurd hi (Nat.not_lt_zero _)⟩, ?_, ?_, y4, y6.trans (rS_m0 wx)⟩
    · rw [E_X10_law, lt_eq, m0_eq, if_neg (nI_pos (by omega)), e11, if_neg n2, if_neg (by rw [nLlt _ _ (by omega) (by decide)]; show ¬ 150 < N; omega), may_1 3000 _ _ (rS_m0 _), bnd_some, if_neg (by decide), y1, bnd_some, lt_eq]
    · rw [rS_sS, if_neg (by decide), y5]; rfl
    · refine Fr.S (a := (11031, 842)) (Fr.tr (w1 := m0 wx) ?_ (y3.mono (fun a h => by rw [h, Bool.true_or]))) _ rfl
      unfold m0
      exact Fr.S (a := (11000, 842)) (Fr.rf _ _) _ rfl
  have mq : ∀ a : LA, (pBm a || pLm a) = true → q842 a = true := by
    intro a h
    rcases or_t h with e | e
    · exact (and_t e).2
    · rcases or_t e with e | e
      · exact (and_t e).2
      · exact (and_t e).2
  have lq : ∀ a : LA, pLm a = true → q842 a = true := by
    intro a e
    rcases or_t e with e | e
    · exact (and_t e).2
    · exact (and_t e).2
  have mk : ∀ a : LA, (pBm a || pLm a) = true → pLF l' a = true := by
    intro a h
    rcases or_t h with e | e
    · exact pBm_LF l' a e
    · exact pLm_LF l' a e
  have nb : Nat.beq l l' = false := beq_ne hll
  have okc : okC (pLF l') cc l := by
    have kc : ∀ t, pLF l' (t, l) = (pBg (t, l) || (pBm (t, l) || (pLm (t, l) || ((Nat.beq t 11008 && Nat.beq l 842) || (pTx (t, l) || ((Nat.beq t 301 || (Nat.beq t 302 || Nat.beq t 10304)) && false)))))) := by
      intro t
      show (pBg (t, l) || (pBm (t, l) || (pLm (t, l) || ((Nat.beq t 11008 && Nat.beq l 842) || (pTx (t, l) || ((Nat.beq t 301 || (Nat.beq t 302 || Nat.beq t 10304)) && Nat.beq l l')))))) = _
      rw [nb]
    exact ⟨rfl, rfl, rfl, rfl, rfl, rfl, rfl, rfl, rfl, rfl, (kc 10304).trans rfl, (kc 301).trans rfl, (kc 302).trans rfl⟩
  -- a failure, in whatever way the class and the model found it
  have bad : ∀ (d q : Nat) (u1 : MEM), Fr pBg w w1 → Fr (pLa l') u0 u1 → TFC u1 d q → f_X9_law 3000 0 (nI N) w = some (.inl (nI d - 10), u1) → (∀ v, TXM v (tapeT w) N 0 → PgM v L0 → rS v (11007, 842) = nI 0 → ∃ v1, (bnd (f_X10_readSum 3000 40 842 v) fun (u47 : Unit) (w46 : MEM) => bnd (f_X10_fine 3000 842 w46) fun (x49 : Int32) (w48 : MEM) => if x49 = 0 then (f_X10_law_77 3000 842 w48) else (bnd (f_X10_isMore 3000 842 w48) fun (x51 : Int32) (w50 : MEM) => if x51 = 0 then (f_X10_law_77 3000 842 w50) else (bnd (f_X10_wrong 3000 842 (1 : Int32) (rS w50 (11004, 842)) w50) fun (u53 : Unit) (w52 : MEM) => f_X10_law_77 3000 842 w52))) = some (nI d - 10, sS v1 (11008, 842) (nI q)) ∧ Fr pLm v v1) → SIM KI (f_X9_law 3000 0 (nI N)) (f_X10_law 3000 842 (nI N)) w := by
    intro d q u1 g0 i2 i3 hX hmo
    have hM2 : rS u1 (11002, 842) = rS w (11002, 842) := (i2.2.1 _ rfl).trans ((F0a.2.1 _ rfl).trans (F1.2.1 _ rfl))
    have hM3 : fA u1 (1002, 842) = fA w (1002, 842) := (i2.1 _ rfl).trans ((F0a.1 _ rfl).trans (F1.1 _ rfl))
    obtain ⟨v, k2, k3, k4, k4d, k5, k6, k7⟩ := mod u1 hM2 hM3
    obtain ⟨v1, j1, j2⟩ := hmo v k3 k4 k4d
    generalize hv2 : sS v1 (11008, 842) (nI q) = v2 at j1
    have f2 : Fr (fun a => pLm a || (Nat.beq a.1 11008 && Nat.beq a.2 842)) v v2 := by
      rw [← hv2]
      exact Fr.S (a := (11008, 842)) (j2.mono (fun a h => by rw [h, Bool.true_or])) _ rfl
    have g1 : Fr (pLF l') w u1 := ((F1.mono (pBg_LF l')).tr (F0a.mono (pLa_LF l'))).tr (i2.mono (pLa_LF l'))
    have g2 : Fr (pLF l') w v2 := (g1.tr (k5.mono mk)).tr (f2.mono (fun a h => by
      rcases or_t h with e | e
      · exact pLm_LF l' a e
      · unfold pLF; rw [e, Bool.true_or, Bool.or_true, Bool.or_true, Bool.or_true]))
    have g3 : Fr q842 u1 v2 := (k5.mono mq).tr (f2.mono (fun a h => by
      rcases or_t h with e | e
      · exact lq a e
      · exact (and_t e).2))
    have h0 : rS v2 (11000, 842) = 0 := (f2.2.1 _ rfl).trans k7
    refine ⟨.inl (nI d - 10), _, nI d - 10, v2, hX, k2.trans j1, ⟨C, cc, l, b, hr.fr g2, ?_, hk.fr g2 rfl rfl rfl⟩, h0, rfl⟩
    refine hc.txt g2 okc ⟨rfl, rfl, rfl, rfl, rfl, rfl, rfl, rfl, rfl, rfl⟩ (okX_pLF l') (tape0 ?_ ?_) ?_ (hc.2.2.2.2.2.2.2.2.fr g2 rfl rfl rfl rfl)
    · exact (g3.2.1 _ rfl).trans ((i2.2.1 (10801, 1) rfl).trans z0)
    · exact (f2.2.1 _ rfl).trans k6
    · have : rS v2 (11008, 842) = nI q := by rw [← hv2, rS_sS, if_pos rfl]
      rw [this]
      exact (g3.2.1 _ rfl).trans i3.2
  have rd := sum_all (l := l') (N := N) n1 6 0 (by omega) 40 40 (tapeT w) 0 L0 0 u0 (by omega) (by omega) T0 LC0 L0_wf (Nat.le_refl 0)
  rcases rd with ⟨L1, r, u1, i1, i2, i3, i4, i5, i6, i7, i8⟩ | ⟨d, q5, u1, i1, i2, i3, i4, i5⟩
  · have i1 : f_X3_readSum 3000 40 l' 1 (0 : Int32) u0 = some (1, u1) := i1
    have i7 : L1.1 + 0 ≤ 0 + r := i7
    have hrN := i3.2.1
    obtain ⟨q, s⟩ := sk_ex (tapeT w) N N r hrN (by omega)
    rcases C_end i3 s with ⟨x1, u2, x2, x3, x4⟩ | ⟨x1, u2, x2, x3, x4⟩
    · have f02 : Fr (pLa l') u0 u2 := i2.tr (x4.la l')
      have g1 : Fr (pLF l') w u2 := ((F1.mono (pBg_LF l')).tr (F0a.mono (pLa_LF l'))).tr (f02.mono (pLa_LF l'))
      have r2 : rT u2 (10910, 0) = l := (g1.2.2.1 _).trans hlr
      have r3 : rT u2 (10911, 0) = l' := (g1.2.2.1 _).trans hl'
      have hX : f_X9_law 3000 0 (nI N) w = some (.inl 1, sT (sT u2 (10911, 0) l) (10910, 0) l') := by
        rw [hX0, i1, bnd_some, if_neg (by decide), x2, bnd_some, if_neg (by decide), bnd_some, if_neg (by decide), lt_eq, lt_eq, r2, r3]
      have hM2 : rS u2 (11002, 842) = rS w (11002, 842) := (f02.2.1 _ rfl).trans ((F0a.2.1 _ rfl).trans (F1.2.1 _ rfl))
      have hM3 : fA u2 (1002, 842) = fA w (1002, 842) := (f02.1 _ rfl).trans ((F0a.1 _ rfl).trans (F1.1 _ rfl))
      obtain ⟨v, k2, k3, k4, k4d, k5, k6, k7⟩ := mod (sT (sT u2 (10911, 0) l) (10910, 0) l') hM2 hM3
      obtain ⟨v1, j1, j2, j3, j4, j5⟩ := i8 v k3 k4 k4d
      obtain ⟨v2, m1, m2, m3⟩ := M_more j2 s
      have pos : 0 < L1.1 := by
        obtain ⟨dp, d0, d1, _⟩ := i5
        rcases Nat.eq_zero_or_pos L1.1 with e | e
        · rw [e] at d1; omega
        · exact e
      have h150 : L1.1 ≤ 150 := by omega
      obtain ⟨v3, o1, o2, o3⟩ := law77_ok m2 (j3.fr m3) pos h150
      have hmod : f_X10_law 3000 842 (nI N) (sT (sT u2 (10911, 0) l) (10910, 0) l') = some (1, v3) := by
        rw [k2, j1, bnd_some, M_fine j2.2.2.2.2.1, bnd_some, if_neg (by decide), m1, if_neg (by omega), bnd_some, if_pos rfl, o1]
      generalize hvs : sS v2 (11008, 842) (-1) = vs at o2
      have fs : Fr (fun a => pLm a || (Nat.beq a.1 11008 && Nat.beq a.2 842)) v vs := by
        rw [← hvs]
        exact Fr.S (a := (11008, 842)) ((j5.tr m3.lm).mono (fun a h => by rw [h, Bool.true_or])) _ rfl
      have g2 : Fr (pLF l') (sT (sT w (10911, 0) l) (10910, 0) l') vs := (((g1.sT _ _).sT _ _).tr (k5.mono mk)).tr (fs.mono (fun a h => by
        rcases or_t h with e | e
        · exact pLm_LF l' a e
        · unfold pLF; rw [e, Bool.true_or, Bool.or_true, Bool.or_true, Bool.or_true]))
      have g3 : Fr q842 (sT (sT u2 (10911, 0) l) (10910, 0) l') vs := (k5.mono mq).tr (fs.mono (fun a h => by
        rcases or_t h with e | e
        · exact lq a e
        · exact (and_t e).2))
      have l842 : ∀ t, q842 (t, l') = false := fun t => beq_ne (show l' ≠ 842 by omega)
      have h0 : rS v3 (11000, 842) = 0 := (o2.2.1 _ rfl).trans ((fs.2.1 _ rfl).trans k7)
      have hc' : INVc C cc l b (sT (sT w (10911, 0) l) (10910, 0) l') := hc
      have hcs : INVc C cc l b vs := by
        refine hc'.txt g2 okc ⟨rfl, rfl, rfl, rfl, rfl, rfl, rfl, rfl, rfl, rfl⟩ (okX_pLF l') (tape0 ?_ ?_) ?_ (BOK.fr (w := sT (sT w (10911, 0) l) (10910, 0) l') hc.2.2.2.2.2.2.2.2 g2 rfl rfl rfl rfl)
        · exact (g3.2.1 _ rfl).trans ((f02.2.1 (10801, 1) rfl).trans z0)
        · exact (fs.2.1 _ rfl).trans k6
        · have : rS vs (11008, 842) = -1 := by rw [← hvs, rS_sS, if_pos rfl]
          rw [this]
          exact (g3.2.1 _ rfl).trans x3.2.2.2.2.1
      have lcs : LawC vs l' L1 := by
        have : LawC (sT (sT u2 (10911, 0) l) (10910, 0) l') l' L1 := (show LawC u2 l' L1 from i4.lx x4)
        exact this.fr g3 (l842 _) (l842 _) (l842 _)
      obtain ⟨r1, _, r3', r4, r5, r6⟩ := hr
      have gall : Fr (fun a => pLF l' a || p3 a) (sT (sT w (10911, 0) l) (10910, 0) l') v3 := (g2.mono (fun a h => by rw [h, Bool.true_or])).tr (o2.mono (fun a h => by rw [h, Bool.or_true]))
      refine ⟨.inl 1, _, 1, v3, hX, hmod, ⟨setL C L1, cc, l', b, REF.fr (w := sT (sT w (10911, 0) l) (10910, 0) l') ⟨?_, ?_, ?_, ?_, ?_, ?_⟩ gall, hcs.law o2 o3 lcs ⟨h150, i5⟩, CNT.fr (w := sT (sT w (10911, 0) l) (10910, 0) l') hk gall rfl rfl rfl⟩, h0, rfl⟩
      · rw [rT_sT, if_neg (by decide), rT_sT, if_neg (by decide)]; exact r1
      · rw [rT_sT, if_pos rfl]
      · rw [rT_sT, if_neg (by decide), rT_sT, if_neg (by decide)]; exact r3'
      · rw [rT_sT, if_neg (by decide), rT_sT, if_neg (by decide)]; exact r4
      · rw [rT_sT, if_neg (by decide), rT_sT, if_pos rfl]; omega
      · rw [rT_sT, if_neg (by decide), rT_sT, if_neg (by decide)]; exact r6
    · refine bad 1 q u2 F1 (i2.tr (x4.la l')) x3 ?_ (fun v hv hP hd => ?_)
      · rw [hX0, i1, bnd_some, if_neg (by decide), x2, bnd_some, if_pos rfl, bnd_some, if_pos rfl, x3.1]
      · obtain ⟨v1, j1, j2, j3, j4, j5⟩ := i8 v hv hP hd
        obtain ⟨v2, m1, m2, m3⟩ := M_more j2 s
        obtain ⟨v3, y1, y2, y3⟩ := M_wrong 1 (q := q) (by omega) m2
        have y1 : f_X10_wrong 3000 842 (1 : Int32) (nI q) v2 = some ((), v3) := y1
        refine ⟨v3, ?_, (j5.tr m3.lm).tr y3.lm⟩
        rw [j1, bnd_some, M_fine j2.2.2.2.2.1, bnd_some, if_neg (by decide), m1, if_pos x1, bnd_some, if_neg (by decide), m2.2.2.2.1, y1, bnd_some]
        exact law77_F y2
  · have i1 : f_X3_readSum 3000 40 l' 1 (0 : Int32) u0 = some (0, u1) := i1
    refine bad d q5 u1 F1 i2 i3 ?_ (fun v hv hP hd => ?_)
    · rw [hX0, i1, bnd_some, if_pos rfl, bnd_some, if_pos rfl, i3.1]
    · obtain ⟨v1, j1, j2, j3⟩ := i5 v hv hP hd
      refine ⟨v1, ?_, j3⟩
      rw [j1, bnd_some, M_fineF j2, bnd_some, if_pos rfl]
      exact law77_F j2
