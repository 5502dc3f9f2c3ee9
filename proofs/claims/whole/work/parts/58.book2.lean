/-! book -/
theorem all9 {Q : Nat → Prop} (h0 : Q 0) (h1 : Q 1) (h2 : Q 2) (h3 : Q 3) (h4 : Q 4) (h5 : Q 5) (h6 : Q 6) (h7 : Q 7) (h8 : Q 8) (t : Nat) (ht : t < 9) : Q t := by
  have : t = 0 ∨ t = 1 ∨ t = 2 ∨ t = 3 ∨ t = 4 ∨ t = 5 ∨ t = 6 ∨ t = 7 ∨ t = 8 := by omega
  rcases this with e | e | e | e | e | e | e | e | e <;> subst e <;> assumption
theorem Fr.sT {P : LA → Bool} {w w1 : MEM} (h : Fr P w w1) (a : LA) (t : Nat) : Fr P (sT w a t) (sT w1 a t) := ⟨h.1, h.2.1, fun b => by rw [rT_sT, rT_sT, h.2.2.1], h.2.2.2⟩
def okX (P : LA → Bool) : Prop := (∀ t < 9, ∀ j, P (401 + t, j) = false) ∧ (∀ j, P (10409, j) = false) ∧ (∀ j, P (10202, j) = false) ∧ P (1019, 842) = false ∧ P (1021, 842) = false ∧ P (11037, 842) = false ∧ P (1028, 842) = false ∧ P (10914, 0) = false ∧ P (11054, 842) = false ∧ P (10915, 0) = false ∧ P (11038, 842) = false
theorem INVc.txt {C : ACt} {c l b b1 : Nat} {w w1 : MEM} {P : LA → Bool} (h : INVc C c l b w) (g : Fr P w w1) (hC : okC P c l) (hM : okM P) (hX : okX P) (t : TAPE w1) (e : rS w1 (10806, 1) = rS w1 (11008, 842)) (hb : BOK w1 b1) : INVc C c l b1 w1 := by
  obtain ⟨h1, h2, h3, h4, h5, h6, h7, h8, h9⟩ := h
  obtain ⟨x1, x2, x3, x4, x5, x6, x7, x8, x9, x10, x11⟩ := hX
  refine ⟨h1, h2.fr g hC, h3.fr g hM, ?_, ?_, t, e, ?_, hb⟩
  · rw [nH_ext (g.1 _ x4) (g.1 _ x5) (g.2.1 _ x6)]
    exact h4.fr2 g (fun j _ _ => ⟨fun t ht => x1 t ht j, x2 j⟩) (x3 _)
  · obtain ⟨n, a1, a2, a3, a4⟩ := h5
    refine ⟨n, a1, (g.2.1 _ x8).trans a2, (g.2.1 _ x9).trans a3, fun q hq => ?_⟩
    rw [g.1 _ x7]
    exact (a4 q hq).fr2 g (fun j _ _ => ⟨fun t ht => x1 t ht j, x2 j⟩) (x3 _)
  · rw [g.2.1 _ x10, g.2.1 _ x11]
    exact h8
theorem tape0 {w : MEM} (h1 : rS w (10801, 1) = 0) (h2 : rS w (11002, 842) = 0) : TAPE w := ⟨0, by omega, h1, h2, fun k hk => by omega⟩
def bkT (t : Nat) : Bool := match t with
  | 10801 => true
  | 10802 => true
  | 10803 => true
  | 10804 => true
  | 10805 => true
  | 10806 => true
  | 11000 => true
  | 11002 => true
  | 11003 => true
  | 11004 => true
  | 11005 => true
  | 11006 => true
  | 11007 => true
  | 11008 => true
  | 1022 => true
  | _ => false
def pBF (b : Nat) (a : LA) : Bool := bkT a.1 || ((Nat.beq a.1 1 || Nat.beq a.1 10001) && Nat.beq a.2 b)
def pBS (b : Nat) (a : LA) : Bool := pBF b a || (Nat.beq a.1 11047 || Nat.beq a.1 1023)
theorem pBF_pBS (b : Nat) (a : LA) (h : pBF b a = true) : pBS b a = true := by unfold pBS; rw [h, Bool.true_or]
theorem bkT_pBF (b : Nat) (a : LA) (h : bkT a.1 = true) : pBF b a = true := by unfold pBF; rw [h, Bool.true_or]
theorem pBg_bk (a : LA) (h : pBg a = true) : bkT a.1 = true := by
  obtain ⟨t, i⟩ := a
  obtain ⟨h1, h2⟩ := and_t (a := (Nat.beq t 10801 || (Nat.beq t 10802 || (Nat.beq t 10803 || (Nat.beq t 10804 || (Nat.beq t 10805 || Nat.beq t 10806)))))) h
  rcases or_t h1 with e | e
  · have := Nat.eq_of_beq_eq_true e; subst this; rfl
  rcases or_t e with e | e
  · have := Nat.eq_of_beq_eq_true e; subst this; rfl
  rcases or_t e with e | e
  · have := Nat.eq_of_beq_eq_true e; subst this; rfl
  rcases or_t e with e | e
  · have := Nat.eq_of_beq_eq_true e; subst this; rfl
  rcases or_t e with e | e
  · have := Nat.eq_of_beq_eq_true e; subst this; rfl
  · have := Nat.eq_of_beq_eq_true e; subst this; rfl
theorem pBm_bk (a : LA) (h : pBm a = true) : bkT a.1 = true := by
  obtain ⟨t, i⟩ := a
  obtain ⟨h1, h2⟩ := and_t (a := (Nat.beq t 11000 || (Nat.beq t 11002 || (Nat.beq t 11003 || (Nat.beq t 11004 || (Nat.beq t 11005 || (Nat.beq t 11006 || (Nat.beq t 11007 || Nat.beq t 11008)))))))) h
  rcases or_t h1 with e | e
  · have := Nat.eq_of_beq_eq_true e; subst this; rfl
  rcases or_t e with e | e
  · have := Nat.eq_of_beq_eq_true e; subst this; rfl
  rcases or_t e with e | e
  · have := Nat.eq_of_beq_eq_true e; subst this; rfl
  rcases or_t e with e | e
  · have := Nat.eq_of_beq_eq_true e; subst this; rfl
  rcases or_t e with e | e
  · have := Nat.eq_of_beq_eq_true e; subst this; rfl
  rcases or_t e with e | e
  · have := Nat.eq_of_beq_eq_true e; subst this; rfl
  rcases or_t e with e | e
  · have := Nat.eq_of_beq_eq_true e; subst this; rfl
  · have := Nat.eq_of_beq_eq_true e; subst this; rfl
theorem pBk_pBF (b : Nat) (a : LA) (h : pBk b a = true) : pBF b a = true := by
  rcases or_t h with e | e
  · exact bkT_pBF b a (pBg_bk a (pTx_pBg a e))
  · unfold pBF
    rw [e, Bool.or_true]
theorem pBe_bk (a : LA) (h : pBe a = true) : bkT a.1 = true := by
  obtain ⟨t, i⟩ := a
  have h1 : beT t = true := (and_t h).1
  show bkT t = true
  revert h1
  unfold beT
  split <;> intro h1 <;> first | rfl | (cases h1)
theorem pBq_pBS (b : Nat) (a : LA) (h : pBq a = true) : pBS b a = true := by
  rcases or_t h with e | e
  · exact pBF_pBS b a (bkT_pBF b a (pBe_bk a e))
  · unfold pBS
    rw [(and_t e).1, Bool.or_true]
theorem okX_pBS (b : Nat) : okX (pBS b) := ⟨fun t ht j => all9 (Q := fun t => pBS b (401 + t, j) = false) rfl rfl rfl rfl rfl rfl rfl rfl rfl t ht, fun j => rfl, fun j => rfl, rfl, rfl, rfl, rfl, rfl, rfl, rfl, rfl⟩
theorem okX_pBF (b : Nat) : okX (pBF b) := ⟨fun t ht j => all9 (Q := fun t => pBF b (401 + t, j) = false) rfl rfl rfl rfl rfl rfl rfl rfl rfl t ht, fun j => rfl, fun j => rfl, rfl, rfl, rfl, rfl, rfl, rfl, rfl, rfl⟩
def pCk (b : Nat) (a : LA) : Bool := pBg a || ((Nat.beq a.1 1 || Nat.beq a.1 10001) && Nat.beq a.2 b)
theorem pBk_pCk (b : Nat) (a : LA) (h : pBk b a = true) : pCk b a = true := by
  unfold pCk
  rcases or_t h with e | e
  · rw [pTx_pBg a e, Bool.true_or]
  · rw [e, Bool.or_true]
theorem pBg_pCk (b : Nat) (a : LA) (h : pBg a = true) : pCk b a = true := by
  unfold pCk
  rw [h, Bool.true_or]
theorem pCk_pBF (b : Nat) (a : LA) (h : pCk b a = true) : pBF b a = true := by
  rcases or_t h with e | e
  · exact bkT_pBF b a (pBg_bk a e)
  · unfold pBF
    rw [e, Bool.or_true]
theorem pBq_q (a : LA) (h : pBq a = true) : q842 a = true := by
  rcases or_t h with e | e
  · exact (and_t e).2
  · exact (and_t e).2
theorem b46_M {u : MEM} : ∃ k, 7 < k ∧ f_X10_book_46 3000 3000 842 (0 : Int32) u = f_X10_book_67 3000 k 842 (0 : Int32) (tA u (1022, 842) (fun j => if j < 13 then (-1 : Int32) else fA u (1022, 842) j)) := by
  obtain ⟨v, n1, e1, e2⟩ := for_rel (F := fun n i (u : MEM) => f_X10_book_46 3000 n 842 i u) (N := 13)
    (fun k v => v = tA u (1022, 842) (fun j => if j < k then (-1 : Int32) else fA u (1022, 842) j))
    (fun n k v hk p => by
      subst p
      refine ⟨_, ?_, rfl⟩
      show f_X10_book_46 3000 (n + 1) 842 (nI k) _ = _
      have c1 : ¬ (OfNat.ofNat 12 : Nat) < k := by show ¬ 12 < k; omega
      have e4 : ∀ G, fA (tA u (1022, 842) G) (1022, 842) = G := fun G => by rw [fA_tA, if_pos rfl]
      rw [E_X10_book_46]
      simp (disch := omega) only [nLlt, c1, if_false, bIn, hk, decide_true, ck_tr, lt_eq, sAn, e4, tA_tA, naddL]
      have e : upd (fun j => if j < k then (-1 : Int32) else fA u (1022, 842) j) k (-1) = (fun j => if j < k + 1 then (-1 : Int32) else fA u (1022, 842) j) := by
        funext j
        rw [upd_eq]
        by_cases c : j = k
        · rw [if_pos c, if_pos (by omega)]
        · rw [if_neg c]
          by_cases c2 : j < k
          · rw [if_pos c2, if_pos (by omega)]
          · rw [if_neg c2, if_neg (by omega)]
      rw [e])
    13 3000 0 u (by omega) (by omega) (by
      have e : (fun j => if j < 0 then (-1 : Int32) else fA u (1022, 842) j) = fA u (1022, 842) := funext fun j => if_neg (by omega)
      show u = tA u (1022, 842) (fun j => if j < 0 then (-1 : Int32) else fA u (1022, 842) j)
      rw [e, tA_self])
  have e1 : f_X10_book_46 3000 3000 842 0 u = f_X10_book_46 3000 (n1 + 1) 842 (nI 13) v := e1
  refine ⟨3000, by omega, ?_⟩
  rw [e1, E_X10_book_46, if_pos (by decide), e2]
theorem S_book (a : Int32) {w : MEM} (hI : INV w) : SIM KI (f_X9_book 3000 0 a) (f_X10_book 3000 842 a) w := by
  have h := hI
  obtain ⟨C, cc, l, b, hr, hc, hk⟩ := h
  have hT := hc.2.2.2.2.2.1
  rcases begin_C (a := a) (most := 60) hT 60 rfl (by omega) with ⟨e1, e2⟩ | ⟨N, w1, n1, rfl, n2, e1, T1, F1, z1, hT1⟩
  · refine SIM_W hI 1 (by rw [E_X9_book, e1]; rfl) ?_ rfl
    have e11 : rS (m0 (bW w)) (11002, 842) = rS w (11002, 842) := rfl
    rw [E_X10_book, lt_eq, m0_eq, may_W 3000 (by decide) (rS_m0 _), bnd_some, if_pos rfl, e11]
    by_cases c1 : a < 0
    · rw [if_pos c1]
    · rw [if_neg c1]
      by_cases c2 : rS w (11002, 842) < a
      · rw [if_pos c2]
      · rw [if_neg c2, if_pos]
        rcases e2 with e2 | e2 | e2
        · exact absurd e2 c1
        · exact absurd e2 c2
        · exact e2
  obtain ⟨b', hb', hne⟩ : ∃ b', rT w (10913, 0) = b' ∧ ((b = 322 ∧ b' = 324) ∨ (b = 324 ∧ b' = 322)) := by
    rcases hr.2.2.2.2.2 with ⟨x, y⟩ | ⟨x, y⟩
    · exact ⟨324, y, Or.inl ⟨x, rfl⟩⟩
    · exact ⟨322, y, Or.inr ⟨x, rfl⟩⟩
  have hb : rT w (10912, 0) = b := hr.2.2.1
  have hb1 : b' ≠ 1 := by omega
  have hbb : b ≠ b' := by omega
  have c1 := fill_ok 3000 (1, b') (-1) w1 (by decide : aN 1 < 3000) (by decide : aN 1 < 2 ^ 31)
  generalize hu0 : sS (tA w1 (1, b') (fun j => if j < aN 1 then (-1 : Int32) else fA w1 (1, b') j)) (10001, b') 0 = u0 at *
  have T0 : TXC u0 (tapeT w) N 0 := by rw [← hu0]; exact T1
  have F0 : Fr (pCk b') w u0 := by
    rw [← hu0]
    have x1 : pCk b' (1, b') = true := pBk_pCk _ _ (pBk_1 b')
    have x2 : pCk b' (10001, b') = true := pBk_pCk _ _ (pBk_c b')
    exact Fr.S (a := (10001, b')) (Fr.A (a := (1, b')) (F1.mono (pBg_pCk b')) _ x1) _ x2
  have eC0 : rS u0 (10001, b') = nI 0 := by rw [← hu0, rS_sS, if_pos rfl]; rfl
  have eF0 : ∀ j < 13, fA u0 (1, b') j = -1 := by
    intro j hj
    rw [← hu0, fA_sS, fA_tA, if_pos rfl, if_pos (show j < aN 1 from hj)]
  have z0 : rS u0 (10801, 1) = 0 := by rw [← hu0]; exact z1
  have ereq : rT w1 (10913, 0) = b' := (F1.2.2.1 _).trans hb'
  have hX0 : f_X9_book 3000 0 (nI N) w = bnd (f_X0_read_6 3000 3000 b' 1 (0 : Int32) u0) fun (x5 : Int32) (w4 : MEM) => if x5 = 0 then (some (.inl ((rS w4 (10805, 1)) - (10 : Int32)), w4)) else (lt (sT w4 (10913, 0) (rT w4 (10912, 0))) fun (w8 : MEM) => lt (sT w8 (10912, 0) (rT w4 (10913, 0))) fun (w9 : MEM) => some (.inl (rS w9 (10001, (rT w9 (10912, 0)))), w9)) := by
    rw [E_X9_book, e1, bndT_inl, ereq, E_X0_read, E_X0_clear, c1, bnd_some, lt_eq, hu0, bnd_some]
  -- the model up to the loop
  have mod : ∀ wx : MEM, rS wx (11002, 842) = rS w (11002, 842) → fA wx (1002, 842) = fA w (1002, 842) → ∃ v k, 7 < k ∧ f_X10_book 3000 842 (nI N) wx = f_X10_book_67 3000 k 842 (nI 0) v ∧ TXM v (tapeT w) N 0 ∧ (∀ j < 13, fA v (1022, 842) j = fA u0 (1, b') j) ∧ Fr (fun a => pBm a || (Nat.beq a.1 1022 && Nat.beq a.2 842)) wx v ∧ rS v (11002, 842) = 0 ∧ rS v (11000, 842) = 0 := by
    intro wx g1 g2
    obtain ⟨v, y1, y2, y3, y4, y5, y6⟩ := begins_M (u := m0 wx) (T := tapeT w) (N := N) (by omega) (fun k hk => ⟨(hT1 k hk).1, by
      have : fA (m0 wx) (1002, 842) = fA w (1002, 842) := g2
      rw [this]; exact (hT1 k hk).2⟩)
    obtain ⟨k, k1, k2⟩ := b46_M (u := v)
    have e11 : rS (m0 wx) (11002, 842) = rS w (11002, 842) := g1
    refine ⟨tA v (1022, 842) (fun j => if j < 13 then (-1 : Int32) else fA v (1022, 842) j), k, k1, ?_, y2, ?_, ?_, y4, y6.trans (rS_m0 wx)⟩
    · rw [E_X10_book, lt_eq, m0_eq, if_neg (nI_pos (by omega)), e11, if_neg n2, if_neg (by rw [nLlt _ _ (by omega) (by decide)]; show ¬ 60 < N; omega), may_1 3000 _ _ (rS_m0 _), bnd_some, if_neg (by decide), y1, bnd_some, k2]
      rfl
    · intro j hj
      rw [fA_tA, if_pos rfl, if_pos hj, eF0 j hj]
    · refine Fr.A (a := (1022, 842)) (Fr.tr (w1 := m0 wx) ?_ (y3.mono (fun a h => by rw [h, Bool.true_or]))) _ rfl
      unfold m0
      exact Fr.S (a := (11000, 842)) (Fr.rf _ _) _ rfl
  have BL := book_loop (b := b') hb1 7 0 3000 u0 0 (by omega) (by omega) (by omega) T0 eC0 (fun j hj => Or.inl (eF0 j hj))
  have okc : ∀ P, (P = pBF b' ∨ P = pBS b') → okC P cc l ∧ okM P := by
    intro P hP
    rcases hP with rfl | rfl
    · exact ⟨⟨rfl, rfl, rfl, rfl, rfl, rfl, rfl, rfl, rfl, rfl, rfl, rfl, rfl⟩, ⟨rfl, rfl, rfl, rfl, rfl, rfl, rfl, rfl, rfl, rfl⟩⟩
    · exact ⟨⟨rfl, rfl, rfl, rfl, rfl, rfl, rfl, rfl, rfl, rfl, rfl, rfl, rfl⟩, ⟨rfl, rfl, rfl, rfl, rfl, rfl, rfl, rfl, rfl, rfl⟩⟩
  have m1 : ∀ a : LA, (pBm a || (Nat.beq a.1 1022 && Nat.beq a.2 842)) = true → q842 a = true := by
    intro a h
    rcases or_t h with e | e
    · exact (and_t e).2
    · exact (and_t e).2
  have m2 : ∀ a : LA, (pBm a || (Nat.beq a.1 1022 && Nat.beq a.2 842)) = true → pBF b' a = true := by
    intro a h
    rcases or_t h with e | e
    · exact bkT_pBF b' a (pBm_bk a e)
    · obtain ⟨t, i⟩ := a
      have := Nat.eq_of_beq_eq_true (and_t (a := Nat.beq t 1022) e).1
      subst this
      exact bkT_pBF b' (1022, i) rfl
  rcases BL with ⟨c, u1, i1, i2, i3, i4, i5, i6, i7⟩ | ⟨d, q, u1, i1, i2, i3, i4⟩
  · have i1 : f_X0_read_6 3000 3000 b' 1 (0 : Int32) u0 = some (1, u1) := i1
    have g1 : Fr (pCk b') w u1 := F0.tr (i2.mono (pBk_pCk b'))
    have r2 : rT u1 (10912, 0) = b := (g1.2.2.1 _).trans hb
    have r3 : rT u1 (10913, 0) = b' := (g1.2.2.1 _).trans hb'
    have hX : f_X9_book 3000 0 (nI N) w = some (.inl (nI c), sT (sT u1 (10913, 0) b) (10912, 0) b') := by
      rw [hX0, i1, bnd_some, if_neg (by decide), lt_eq, lt_eq, r2, r3, rT_sT, if_pos rfl, rS_sT, rS_sT, i4]
    obtain ⟨v, k, k1, k2, k3, k4, k5, k6, k7⟩ := mod (sT (sT u1 (10913, 0) b) (10912, 0) b') (g1.2.1 (11002, 842) rfl) (g1.1 (1002, 842) rfl)
    obtain ⟨v1, j1, j2, j3, j4, j5⟩ := i7 v k (by omega) k3 k4
    have g2 : Fr (pBS b') (sT (sT w (10913, 0) b) (10912, 0) b') v1 := ((Fr.sT (Fr.sT (g1.mono (fun a h => pBF_pBS b' a (pCk_pBF b' a h))) _ _) _ _).tr (k5.mono (fun a h => pBF_pBS b' a (m2 a h)))).tr (j2.mono (pBq_pBS b'))
    have g3 : Fr q842 (sT (sT u1 (10913, 0) b) (10912, 0) b') v1 := (k5.mono m1).tr (j2.mono pBq_q)
    have h0 : rS v1 (11000, 842) = 0 := (j2.2.1 _ rfl).trans k7
    have n842 : ∀ t, q842 (t, b') = false := fun t => beq_ne (show b' ≠ 842 by omega)
    obtain ⟨r1, _, _, r4, r5, r6⟩ := hr
    refine ⟨.inl (nI c), _, nI c, v1, hX, k2.trans j1, ⟨C, cc, l, b', REF.fr (w := sT (sT w (10913, 0) b) (10912, 0) b') ⟨?_, ?_, ?_, ?_, ?_, ?_⟩ g2, ?_, CNT.fr (w := sT (sT w (10913, 0) b) (10912, 0) b') hk g2 rfl rfl rfl⟩, h0, rfl⟩
    · rw [rT_sT, if_neg (by decide), rT_sT, if_neg (by decide)]; exact r1
    · rw [rT_sT, if_neg (by decide), rT_sT, if_neg (by decide)]; assumption
    · rw [rT_sT, if_pos rfl]
    · rw [rT_sT, if_neg (by decide), rT_sT, if_neg (by decide)]; exact r4
    · rw [rT_sT, if_neg (by decide), rT_sT, if_neg (by decide)]; exact r5
    · rw [rT_sT, if_neg (by decide), rT_sT, if_pos rfl]; omega
    · have hc' : INVc C cc l b (sT (sT w (10913, 0) b) (10912, 0) b') := hc
      refine hc'.txt g2 (okc _ (Or.inr rfl)).1 (okc _ (Or.inr rfl)).2 (okX_pBS b') (tape0 ?_ ?_) ?_ ⟨c, i3, ?_, j4, fun j hj => ⟨?_, ?_⟩⟩
      · exact (g3.2.1 _ rfl).trans ((i2.2.1 (10801, 1) rfl).trans z0)
      · exact (j2.2.1 _ rfl).trans k6
      · rw [j3]
        exact (g3.2.1 _ rfl).trans i5
      · exact (g3.2.1 _ (n842 _)).trans i4
      · rw [j5 j hj, g3.1 _ (n842 _)]
        rfl
      · rw [g3.1 _ (n842 _)]
        exact i6 j hj
  · have i1 : f_X0_read_6 3000 3000 b' 1 (0 : Int32) u0 = some (0, u1) := i1
    have g1 : Fr (pCk b') w u1 := F0.tr (i2.mono (pBk_pCk b'))
    have hX : f_X9_book 3000 0 (nI N) w = some (.inl (nI d - 10), u1) := by
      rw [hX0, i1, bnd_some, if_pos rfl, i3.1]
    obtain ⟨v, k, k1, k2, k3, k4, k5, k6, k7⟩ := mod u1 (g1.2.1 (11002, 842) rfl) (g1.1 (1002, 842) rfl)
    obtain ⟨v1, j1, j2, j3⟩ := i4 v k (by omega) k3 k4
    have g2 : Fr (pBF b') w v1 := ((g1.mono (pCk_pBF b')).tr (k5.mono m2)).tr (j2.mono (fun a h => bkT_pBF b' a (pBe_bk a h)))
    have g3 : Fr q842 u1 v1 := (k5.mono m1).tr (j2.mono (fun a h => (and_t h).2))
    have h0 : rS v1 (11000, 842) = 0 := (j2.2.1 _ rfl).trans k7
    have nb : Nat.beq b b' = false := beq_ne hbb
    have x1 : pBF b' (10001, b) = false := by
      show (false || (true && Nat.beq b b')) = false
      rw [nb]; rfl
    have x2 : pBF b' (1, b) = false := by
      show (false || (true && Nat.beq b b')) = false
      rw [nb]; rfl
    refine ⟨.inl (nI d - 10), _, nI d - 10, v1, hX, k2.trans j1, ⟨C, cc, l, b, hr.fr g2, ?_, hk.fr g2 rfl rfl rfl⟩, h0, rfl⟩
    refine hc.txt g2 (okc _ (Or.inl rfl)).1 (okc _ (Or.inl rfl)).2 (okX_pBF b') (tape0 ?_ ?_) ?_ (hc.2.2.2.2.2.2.2.2.fr g2 x1 rfl x2 rfl)
    · exact (g3.2.1 _ rfl).trans ((i2.2.1 (10801, 1) rfl).trans z0)
    · exact (j2.2.1 _ rfl).trans k6
    · rw [j3]
      exact (g3.2.1 _ rfl).trans i3.2
