/-! work: an again -/
def stP (H : Nat) (T : Nat → Nat) (N d f g : Nat) : Prop := ∀ p S u, TXC u T N p → SC u S → 3 * sN S ≤ p → SK T N p p → stO H T N p d p (sN S) S u (semi (f_X7_readStep 3000 f 3 1 (nI H) (nI d) u)) (f_X10_readStep 3000 g 842)
def agS (S : STP) (x : Nat) : STP := (sN S + 1, (updN (sK S) (sN S) 9, (updN (sH S) (sN S) 0, (updN (sB S) (sN S) x, updN (sE S) (sN S) 0))))
theorem agS_same (S : STP) (x a : Nat) : sameS S (agS S x) a (sN S) := fun i _ h2 => ⟨if_neg (by omega), if_neg (by omega), if_neg (by omega), if_neg (by omega)⟩
theorem agS_at (S : STP) (x : Nat) : sK (agS S x) (sN S) = 9 ∧ sH (agS S x) (sN S) = 0 ∧ sB (agS S x) (sN S) = x := ⟨if_pos rfl, if_pos rfl, if_pos rfl⟩
theorem SC.ag {u : MEM} {S : STP} {x : Nat} (hS : SC u (pushS S 9 0 x)) : SC u (agS S x) := by
  refine ⟨hS.1, ?_⟩
  intro i hi
  have hi : i < sN S + 1 := hi
  obtain ⟨g1, g2, g3, g4⟩ := hS.2 i hi
  refine ⟨g1, g2, g3, ?_⟩
  intro h9
  have g4 : updN (sE S) (sN S) (sN S + 1) i = 0 ∨ fA u (704, 3) i = nI (updN (sE S) (sN S) (sN S + 1) i) := g4 h9
  show updN (sE S) (sN S) 0 i = 0 ∨ fA u (704, 3) i = nI (updN (sE S) (sN S) 0 i)
  by_cases c : i = sN S
  · rw [updN_eq, if_pos c]
    exact Or.inl rfl
  · rw [updN_eq, if_neg c] at g4
    rw [updN_eq, if_neg c]
    exact g4
def w704 (w : MEM) (n : Nat) : MEM := tA w (704, 3) (upd (fA w (704, 3)) n (rS w (10704, 3)))
def w703 (w : MEM) (n : Nat) (x : Int32) : MEM := tA w (703, 3) (upd (fA w (703, 3)) n x)
theorem w704_fr (w : MEM) (n : Nat) : Fr pWa w (w704 w n) := Fr.A (a := (704, 3)) (Fr.rf _ _) _ rfl
theorem w703_fr (w : MEM) (n : Nat) (x : Int32) : Fr pWa w (w703 w n x) := Fr.A (a := (703, 3)) (Fr.rf _ _) _ rfl
theorem SC.en {w : MEM} {S1 : STP} (hS : SC w S1) (n : Nat) : SC (w704 w n) (endS S1 n) := by
  refine ⟨hS.1, ?_⟩
  intro i hi
  have hi : i < sN S1 := hi
  obtain ⟨g1, g2, g3, g4⟩ := hS.2 i hi
  refine ⟨g1, g2, g3, ?_⟩
  intro h9
  have g4 := g4 h9
  show updN (sE S1) n (sN S1) i = 0 ∨ upd (fA w (704, 3)) n (rS w (10704, 3)) i = nI (updN (sE S1) n (sN S1) i)
  rw [updN_eq, upd_eq]
  by_cases c : i = n
  · rw [if_pos c, if_pos c]
    exact Or.inr hS.1
  · rw [if_neg c, if_neg c]
    exact g4
theorem SMg.en {v : MEM} {S1 : STP} {n : Nat} (hP : SMg v S1) (h9 : sK S1 n = 9) : SMg (tA v (1017, 842) (upd (fA v (1017, 842)) (3 * n + 2) (nI (3 * sN S1)))) (endS S1 n) := by
  refine ⟨hP.1, ?_⟩
  intro i hi
  have hi : i < sN S1 := hi
  obtain ⟨g1, g2, g3⟩ := hP.2 i hi
  rw [fA_tA, if_pos rfl, upd_eq, upd_eq, upd_eq, if_neg (show ¬ 3 * i = 3 * n + 2 by omega), if_neg (show ¬ 3 * i + 1 = 3 * n + 2 by omega)]
  refine ⟨g1, g2, ?_⟩
  have e : cell2 (endS S1 n) i = if i = n then 3 * sN S1 else cell2 S1 i := by
    unfold cell2
    show (if sK S1 i = 9 then 3 * updN (sE S1) n (sN S1) i else sB S1 i) = _
    rw [updN_eq]
    by_cases c : i = n
    · rw [if_pos c, if_pos c, if_pos (by rw [c]; exact h9)]
    · rw [if_neg c, if_neg c]
  rw [e]
  by_cases c : i = n
  · rw [if_pos c, if_pos (by omega)]
  · rw [if_neg c, if_neg (by omega)]
    exact g3
theorem push_A {v : MEM} {T : Nat → Nat} {N p : Nat} {S : STP} (x : Nat) (hT : TXM v T N p) (hS : SMg v S) (h50 : 3 * sN S + 3 ≤ 150) : ∃ v1, f_X10_tellsStep 3000 842 (9 : Int32) (nI x) (0 : Int32) v = some ((), v1) ∧ TXM v1 T N p ∧ SMg v1 (agS S x) ∧ rS v1 (11007, 842) = rS v (11007, 842) ∧ Fr pWm v v1 := by
  obtain ⟨v1, k1, k2, k3, k4, k5⟩ := tells_M (9 : Int32) (nI x) (0 : Int32) hT hS.1 h50
  refine ⟨v1, k1, k2, ⟨k3, ?_⟩, k5.2.1 _ rfl, k5.mono p17_pWm⟩
  intro i hi
  have hi : i < sN S + 1 := hi
  rw [k4]
  have c1 : cell1 (agS S x) i = if i = sN S then x else cell1 S i := by
    unfold cell1
    show (if updN (sK S) (sN S) 9 i = 9 then updN (sB S) (sN S) x i else updN (sH S) (sN S) 0 i) = _
    rw [updN_eq, updN_eq, updN_eq]
    by_cases c : i = sN S
    · rw [if_pos c, if_pos c, if_pos c, if_pos c, if_pos rfl]
    · rw [if_neg c, if_neg c, if_neg c, if_neg c]
  have c2 : cell2 (agS S x) i = if i = sN S then 0 else cell2 S i := by
    unfold cell2
    show (if updN (sK S) (sN S) 9 i = 9 then 3 * updN (sE S) (sN S) 0 i else updN (sB S) (sN S) x i) = _
    rw [updN_eq, updN_eq, updN_eq]
    by_cases c : i = sN S
    · rw [if_pos c, if_pos c, if_pos c, if_pos c, if_pos rfl]
    · rw [if_neg c, if_neg c, if_neg c, if_neg c]
  have c0 : sK (agS S x) i = if i = sN S then 9 else sK S i := rfl
  rw [c0, c1, c2, upd_eq, upd_eq, upd_eq, upd_eq, upd_eq, upd_eq, upd_eq, upd_eq, upd_eq, if_neg (show ¬ 3 * i = 3 * sN S + 2 by omega), if_neg (show ¬ 3 * i = 3 * sN S + 1 by omega), if_neg (show ¬ 3 * i + 1 = 3 * sN S + 2 by omega), if_neg (show ¬ 3 * i + 1 = 3 * sN S by omega), if_neg (show ¬ 3 * i + 2 = 3 * sN S + 1 by omega), if_neg (show ¬ 3 * i + 2 = 3 * sN S by omega)]
  by_cases c : i = sN S
  · rw [if_pos c, if_pos c, if_pos c, if_pos (by omega), if_pos (by omega), if_pos (by omega)]
    exact ⟨rfl, rfl, rfl⟩
  · rw [if_neg c, if_neg c, if_neg c, if_neg (by omega), if_neg (by omega), if_neg (by omega)]
    exact hS.2 i (by omega)
theorem stEnd {H : Nat} {T : Nat → Nat} {N p r0 d p0 f : Nat} {S S2 : STP} {u u3 : MEM} {M : MEM → Option (Unit × MEM)} (hN : N ≤ 600) (fr : Fr pWa u u3) (hT : TXC u3 T N r0) (hS : SC u3 S2) (hs : sameS S S2 0 (sN S)) (ok : ∀ i, sN S ≤ i → i < sN S2 → okS H S2 i) (hB : Blk S2 f d (sN S) (sN S2)) (hr : p0 ≤ r0) (h3 : 3 * sN S2 + p0 ≤ 3 * sN S + r0 + 1) (hM : ∀ v, TXM v T N p → SMg v S → rS v (11007, 842) = nI d → rS v (11022, 842) = nI H → ∃ v3, TXM v3 T N r0 ∧ SMg v3 S2 ∧ rS v3 (11007, 842) = nI d ∧ Fr pWm v v3 ∧ M v = bnd (f_X10_sign 3000 842 (59 : Int32) v3) fun (u28 : Unit) (w27 : MEM) => some ((), w27)) : stO H T N p d p0 (sN S) S u (semi (some (1, u3))) M := by
  obtain ⟨q, y⟩ := sk_ex T N N r0 hT.2.1 (by omega)
  have y1 := y.1
  have es : semi (some (1, u3)) = f_X8_needSign 3000 1 (59 : Int32) u3 := by
    unfold semi
    rw [bnd_some, if_neg (by decide)]
  rw [es]
  rcases C_sign (c := 59) hT y (by omega) with ⟨z1, z2, u5, z3, z4, z5⟩ | ⟨z1, u5, z3, z4, z5⟩
  · have z3 : f_X8_needSign 3000 1 (59 : Int32) u3 = some (1, u5) := z3
    refine Or.inl ⟨S2, q + 1, u5, f, z3, fr.tr z5.wa, z4, hS.fr z5, hs, ok, hB, by omega, by omega, ?_⟩
    intro v hv hP hd hH
    obtain ⟨v3, b1, b2, b3, b4, b5⟩ := hM v hv hP hd hH
    rcases M_sign (c := 59) b1 y (by omega) (by omega) with ⟨x1, x2, v5, x3, x4, x5⟩ | ⟨x1, v5, x3, x4, x5⟩
    · have x3 : f_X10_sign 3000 842 (59 : Int32) v3 = some ((), v5) := x3
      exact ⟨v5, by rw [b5, x3, bnd_some], x4, b2.fr x5, (x5.2.1 _ rfl).trans b3, b4.tr x5.wm⟩
    · exact absurd ⟨z1, z2⟩ x1
  · have z3 : f_X8_needSign 3000 1 (59 : Int32) u3 = some (0, u5) := z3
    refine Or.inr ⟨1, q, u5, z3, fr.tr z5.wa, z4, ?_⟩
    intro v hv hP hd hH
    obtain ⟨v3, b1, b2, b3, b4, b5⟩ := hM v hv hP hd hH
    rcases M_sign (c := 59) b1 y (by omega) (by omega) with ⟨x1, x2, v5, x3, x4, x5⟩ | ⟨x1, v5, x3, x4, x5⟩
    · exact absurd ⟨x1, x2⟩ z1
    · have x3 : f_X10_sign 3000 842 (59 : Int32) v3 = some ((), v5) := x3
      exact ⟨v5, by rw [b5, x3, bnd_some], x4, b4.tr x5.wm⟩
def L63 (g : Nat) (l : Int32) (n : Nat) (v : MEM) : Option (Unit × MEM) := f_X10_readStep_63 3000 (f_X10_readStep 3000 g) n 842 l v
def sgM (g : Nat) (x : Int32) (v : MEM) : Option (Unit × MEM) := bnd (f_X10_sign 3000 842 (91 : Int32) v) fun (u34 : Unit) (w33 : MEM) => lt ((rS w33 (11036, 842))) fun (v35 : Int32) => bnd (f_X10_tellsStep 3000 842 (9 : Int32) x (0 : Int32) w33) fun (u37 : Unit) (w36 : MEM) => L63 g v35 3000 w36
def agM (g : Nat) (v : MEM) : Option (Unit × MEM) := bnd (f_X10_opensOne 3000 842 (5 : Int32) v) fun (u30 : Unit) (w29 : MEM) => bnd (f_X10_readNumber 3000 842 (0 : Int32) (30 : Int32) w29) fun (x32 : Int32) (w31 : MEM) => sgM g x32 w31
theorem r86F {v : MEM} {e q : Nat} (g : Nat) (l : Int32) (h : TFM v e q) : ∃ v1, f_X10_readStep_86 3000 (f_X10_readStep 3000 g) 842 l v = some ((), v1) ∧ TFM v1 e q ∧ Fr pWm v v1 := by
  have h1 : TFM (sS v (11007, 842) (rS v (11007, 842) - 1)) e q := h
  refine ⟨sS v (11007, 842) (rS v (11007, 842) - 1), ?_, h, Fr.S (a := (11007, 842)) (Fr.rf _ _) _ rfl⟩
  rw [E_X10_readStep_86, M_signF _ h, bnd_some, lt_eq, M_fineF h1, bnd_some, if_pos rfl, M_signF _ h1, bnd_some]
theorem r63F {v : MEM} {e q : Nat} (g : Nat) (l : Int32) (n : Nat) (h : TFM v e q) : ∃ v1, L63 g l (n + 1) v = some ((), v1) ∧ TFM v1 e q ∧ Fr pWm v v1 := by
  unfold L63
  rw [E_X10_readStep_63, M_fineF h, bnd_some, if_pos rfl]
  exact r86F g l h
theorem sgF {v : MEM} {e q : Nat} (g : Nat) (x : Int32) (h : TFM v e q) : ∃ v1, sgM g x v = some ((), v1) ∧ TFM v1 e q ∧ Fr pWm v v1 := by
  unfold sgM
  rw [M_signF _ h, bnd_some, lt_eq, tells_F _ _ _ h, bnd_some]
  exact r63F g _ 2999 h
theorem opens_badW {v1 : MEM} {T : Nat → Nat} {N q : Nat} (x : Int32) (hT : TXM v1 T N q) (hd : rS v1 (11007, 842) = nI 6) : ∃ v2, f_X10_opensOne 3000 842 x v1 = some ((), v2) ∧ TFM v2 3 q ∧ Fr pWm v1 v2 := by
  have hq := hT.2.1
  have hN := hT.1
  obtain ⟨v3, y1, y2, y3⟩ := M_wrong 3 (q := q) (by omega) hT
  have y1 : f_X10_wrong 3000 842 (3 : Int32) (nI q) v1 = some ((), v3) := y1
  refine ⟨sS v3 (11007, 842) (rS v3 (11007, 842) + 1), ?_, y2, Fr.S (a := (11007, 842)) y3.wm _ rfl⟩
  rw [E_X10_opensOne, M_fine hT.2.2.2.2.1, bnd_some, if_neg (by decide), hd, if_pos (show nI 6 = (6 : Int32) from rfl), hT.2.2.2.1, y1, bnd_some, M_fineF y2, bnd_some, if_pos rfl, lt_eq]
theorem agF {v : MEM} {T : Nat → Nat} {N q : Nat} (g : Nat) (hT : TXM v T N q) (hd : rS v (11007, 842) = nI 6) : ∃ v1, agM g v = some ((), v1) ∧ TFM v1 3 q ∧ Fr pWm v v1 := by
  obtain ⟨v2, a1, a2, a3⟩ := opens_badW (5 : Int32) hT hd
  obtain ⟨v3, b1, b2, b3⟩ := sgF g 0 a2
  refine ⟨v3, ?_, b2, a3.tr b3⟩
  unfold agM
  rw [a1, bnd_some, M_numF _ _ a2, bnd_some, b1]
theorem M_bad {v : MEM} {T : Nat → Nat} {N q n : Nat} (g : Nat) (hT : TXM v T N q) (s : SK T N q q) (hn : LTR T N q n) (hne : ∀ m < 10, wcT T q n ≠ wC (kwd m)) : ∃ v1, f_X10_readStep 3000 (g + 1) 842 v = some ((), v1) ∧ TFM v1 1 q ∧ Fr pTm v v1 := by
  have hq := hT.2.1
  have hN := hT.1
  obtain ⟨v1, b1, b2, b3⟩ := M_word hT s hn
  rcases M_kind (wcT_lt hn) v1 with ⟨m, hm, e, _⟩ | ⟨_, k⟩
  · exact absurd e (hne m hm)
  obtain ⟨v2, c1, c2, c3⟩ := M_wrong 1 (q := q) (by omega) b2
  have c1 : f_X10_wrong 3000 842 (1 : Int32) (nI q) v1 = some ((), v2) := c1
  refine ⟨v2, ?_, c2, b3.tr c3⟩
  rw [Et_X10_readStep, E_X10_readStep, b1, bnd_some, k, bnd_some, if_pos rfl, b2.2.2.2.1, c1, bnd_some, M_signF _ c2, bnd_some]
theorem wc0 : ∀ m < 10, 0 ≠ wC (kwd m) := by decide +kernel
theorem M_noStep {v : MEM} {T : Nat → Nat} {N q : Nat} (g : Nat) (hT : TXM v T N q) (s : SK T N q q) (h : q = N ∨ (q < N ∧ T q = 93)) : ∃ v1, f_X10_readStep 3000 (g + 1) 842 v = some ((), v1) ∧ TFM v1 1 q ∧ Fr pTm v v1 := by
  refine M_bad (n := 0) g hT s ⟨hT.2.1, fun j hj => by omega, fun hq => ?_⟩ wc0
  rw [Nat.add_zero] at hq ⊢
  omega
theorem M_good {v : MEM} {T : Nat → Nat} {N q n m : Nat} (g : Nat) (hT : TXM v T N q) (s : SK T N q q) (hn : LTR T N q n) (hm : m < 9) (he : wcT T q n = wC (kwd m)) : ∃ v1, TXM v1 T N (q + n) ∧ Fr pTm v v1 ∧ f_X10_readStep 3000 (g + 1) 842 v = leafM m v1 := by
  obtain ⟨v1, b1, b2, b3⟩ := M_word hT s hn
  rcases M_kind (wcT_lt hn) v1 with ⟨m2, hm2, e, k⟩ | ⟨k, _⟩
  · have e2 : m2 = m := kwd_inj m2 hm2 m (by omega) (e.symm.trans he)
    subst e2
    obtain ⟨v2, c1, c2, c3⟩ := M_pass b2 hn
    refine ⟨v2, c2, b3.tr c3, ?_⟩
    rw [Et_X10_readStep, E_X10_readStep, b1, bnd_some, k, bnd_some, if_neg (ne_m1 (by omega)), if_neg (by rw [neqL _ _ (by omega) (by decide)]; show ¬ m2 = 9; omega), c1, bnd_some]
    rfl
  · exact absurd he (k m (by omega))
theorem M_again {v : MEM} {T : Nat → Nat} {N q n : Nat} (g : Nat) (hT : TXM v T N q) (s : SK T N q q) (hn : LTR T N q n) (he : wcT T q n = wC (kwd 9)) : ∃ v1, TXM v1 T N q ∧ Fr pTm v v1 ∧ f_X10_readStep 3000 (g + 1) 842 v = agM g v1 := by
  obtain ⟨v1, b1, b2, b3⟩ := M_word hT s hn
  rcases M_kind (wcT_lt hn) v1 with ⟨m2, hm2, e, k⟩ | ⟨k, _⟩
  · have e2 : m2 = 9 := kwd_inj m2 hm2 9 (by omega) (e.symm.trans he)
    subst e2
    refine ⟨v1, b2, b3, ?_⟩
    rw [Et_X10_readStep, E_X10_readStep, b1, bnd_some, k, bnd_some, if_neg (ne_m1 (by omega)), if_pos (show nI 9 = (9 : Int32) from rfl)]
    rfl
  · exact absurd he (k 9 (by omega))
theorem cAg (cR cS : Nat → Nat → Int32 → Int32 → MEM → Option (Int32 × MEM)) (cA : Nat → Nat → Int32 → Int32 → Int32 → MEM → Option (Int32 × MEM)) {n : Nat} (hn : n < 150) (x d : Int32) (w : MEM) : b_X7_readAgain 3000 cR cS cA 3 1 x d (nI n) w = bnd (f_X8_number 3000 1 (0 : Int32) (30 : Int32) w) fun (x2 : Int32) (w1 : MEM) => if x2 = (-1 : Int32) then some ((0 : Int32), w704 (w703 w1 n x2) n) else (bnd (f_X8_needSign 3000 1 (91 : Int32) (w703 w1 n x2)) fun (x6 : Int32) (w5 : MEM) => if x6 = 0 then some ((0 : Int32), w704 w5 n) else (bnd (cR 3 1 x d w5) fun (x9 : Int32) (w8 : MEM) => if x9 = 0 then some ((0 : Int32), w704 w8 n) else (bnd (f_X8_needSign 3000 1 (93 : Int32) w8) fun (x12 : Int32) (w11 : MEM) => if x12 = 0 then some ((0 : Int32), w704 w11 n) else some ((1 : Int32), w704 w11 n)))) := by
  have e4 : ∀ (w : MEM) (a : LA) G, fA (tA w a G) a = G := fun w a G => by rw [fA_tA, if_pos rfl]
  have ea : ∀ k : Option (Int32 × MEM), ck (bI (nI n) 150) k = k := fun k => by rw [bIn _ _ (by omega), decide_eq_true hn, ck_tr]
  have es : ∀ (w : MEM) (a : LA) v, sA w a (nI n) v = tA w a (upd (fA w a) n v) := fun w a v => sAn _ _ _ _ (by omega)
  have er : ∀ (w : MEM) (a : LA), rA w a (nI n) = fA w a n := fun w a => rAn _ _ _ (by omega)
  rw [E_X7_readAgain]
  simp only [ea, es, lt_eq, er, e4, upd_at]
  rfl
