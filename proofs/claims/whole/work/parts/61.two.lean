/-! here, with or without a fault -/
def pHe (a : LA) : Bool := Nat.beq a.1 11004 && Nat.beq a.2 842
theorem M_hereP {w : MEM} {T : Nat → Nat} {N p q : Nat} (hN : N ≤ 600) (s : SK T N p q) (e3 : rS w (11003, 842) = nI N) (e4 : rS w (11004, 842) = nI p) (e5 : ∀ k < N, T k < 256 ∧ fA w (1002, 842) k = nI (T k)) : ∃ w1, f_X10_here 3000 842 w = some (hr T N q, w1) ∧ rS w1 (11004, 842) = nI q ∧ Fr pHe w w1 := by
  have key : ∀ m n p w, p + m = q → m < n → rS w (11003, 842) = nI N → rS w (11004, 842) = nI p → (∀ k < N, T k < 256 ∧ fA w (1002, 842) k = nI (T k)) → SK T N p q → ∃ w1, f_X10_here_0 3000 n 842 w = some (hr T N q, w1) ∧ rS w1 (11004, 842) = nI q ∧ Fr pHe w w1 := by
    intro m
    induction m with
    | zero =>
      intro n p w hp hn h3 h4 h6 s
      obtain ⟨n, rfl⟩ : ∃ n', n = n' + 1 := ⟨n - 1, by omega⟩
      have hp : p = q := by omega
      subst hp
      refine ⟨w, ?_, h4, Fr.rf _ _⟩
      have h2 := s.2.1
      rw [E_X10_here_0, h3, h4]
      unfold hr
      by_cases c : p < N
      · have ht := (h6 p c).1
        rw [if_pos (by rw [nlt _ _ (by omega) (by omega)]; exact c), bIn _ _ (by omega), decide_eq_true (show p < 600 by omega), ck_tr, rAn _ _ _ (by omega), (h6 p c).2, if_neg (by rw [neqL _ _ (by omega) (by decide)]; exact s.2.2.2 c), if_pos (by rw [nlt _ _ (by omega) (by omega)]; exact c), ck_tr, if_pos c]
      · rw [if_neg (by rw [nlt _ _ (by omega) (by omega)]; exact c), if_neg (by rw [nlt _ _ (by omega) (by omega)]; exact c), if_neg c]
    | succ m ih =>
      intro n p w hp hn h3 h4 h6 s
      obtain ⟨n, rfl⟩ : ∃ n', n = n' + 1 := ⟨n - 1, by omega⟩
      have hlt : p < N := by have := s.2.1; omega
      have ht := (h6 p hlt).1
      have e32 := s.2.2.1 p (Nat.le_refl _) (by omega)
      obtain ⟨w1, k1, k2, k4⟩ := ih n (p + 1) (sS w (11004, 842) (nI (p + 1))) (by omega) (by omega) (by rw [rS_sS, if_neg (by decide)]; exact h3) (by rw [rS_sS, if_pos rfl]) h6 ⟨by omega, s.2.1, fun j h1 h2 => s.2.2.1 j (by omega) h2, s.2.2.2⟩
      refine ⟨w1, ?_, k2, (Fr.S (a := (11004, 842)) (Fr.rf _ _) _ rfl).tr k4⟩
      rw [E_X10_here_0, h3, h4, if_pos (by rw [nlt _ _ (by omega) (by omega)]; exact hlt), bIn _ _ (by omega), decide_eq_true (show p < 600 by omega), ck_tr, rAn _ _ _ (by omega), (h6 p hlt).2, if_pos (by rw [e32]; rfl), lt_eq, naddL]
      exact k1
  have h1 := s.1
  have h2 := s.2.1
  exact key (q - p) 3000 p w (by omega) (by omega) e3 e4 e5 s
theorem pHe_pTm (a : LA) (h : pHe a = true) : pTm a = true := by
  obtain ⟨t, i⟩ := a
  have e1 : t = 11004 := Nat.eq_of_beq_eq_true (and_t (a := Nat.beq t 11004) h).1
  have e2 : i = 842 := Nat.eq_of_beq_eq_true (and_t (a := Nat.beq t 11004) h).2
  subst e1; subst e2; rfl
theorem M_hereF {w : MEM} {k q : Nat} (h : TFM w k q) : ∃ x w1, f_X10_here 3000 842 w = some (x, w1) ∧ (x = 0 ∨ ∃ t, t < 256 ∧ x = nI t) ∧ TFM w1 k q ∧ Fr pTm w w1 := by
  obtain ⟨⟨h1, T, N, p, g1, g2, g3, g4, g5⟩, h2, h3⟩ := h
  obtain ⟨q2, s⟩ := sk_ex T N N p g2 (by omega)
  obtain ⟨w1, k1, k2, k3⟩ := M_hereP g1 s g3 g4 g5
  refine ⟨hr T N q2, w1, k1, ?_, ⟨⟨h1, T, N, q2, g1, s.2.1, (k3.2.1 _ rfl).trans g3, k2, fun j hj => ?_⟩, (k3.2.1 _ rfl).trans h2, (k3.2.1 _ rfl).trans h3⟩, k3.mono pHe_pTm⟩
  · unfold hr
    by_cases c : q2 < N
    · rw [if_pos c]; exact Or.inr ⟨T q2, (g5 q2 c).1, rfl⟩
    · rw [if_neg c]; exact Or.inl rfl
  · rw [k3.1 (1002, 842) rfl]
    exact g5 j hj
/-! court: two -/
def wrT (v : MEM) (t : Nat) (x y : Int32) : MEM := sS (tA v (1005, 842) (upd (upd (fA v (1005, 842)) (2 * t) x) (2 * t + 1) y)) (11019, 842) (nI (t + 1))
theorem wrT_fr {w v : MEM} (h : Fr pMc w v) (t : Nat) (x y : Int32) : Fr pMc w (wrT v t x y) := Fr.S (a := (11019, 842)) (Fr.A (a := (1005, 842)) h _ rfl) _ rfl
theorem wr_eq {v : MEM} {t : Nat} (x y : Int32) (h : rS v (11019, 842) = nI t) (h12 : t < 12) : (ck (bI ((2 : Int32) * (rS v (11019, 842))) 24) (lt (sA v (1005, 842) ((2 : Int32) * (rS v (11019, 842))) x) fun (w6 : MEM) => ck (bI (((2 : Int32) * (rS w6 (11019, 842))) + (1 : Int32)) 24) (lt (sA w6 (1005, 842) (((2 : Int32) * (rS w6 (11019, 842))) + (1 : Int32)) y) fun (w7 : MEM) => lt (sS w7 (11019, 842) ((rS w7 (11019, 842)) + (1 : Int32))) fun (w8 : MEM) => some ((), w8)))) = some ((), wrT v t x y) := by
  have k2 : (2 : Int32) * nI t = nI (2 * t) := nI_mul 2 t
  rw [h, k2, bIn _ _ (by omega), decide_eq_true (show 2 * t < 24 by omega), ck_tr, sAn _ _ _ _ (by omega), lt_eq, rS_tA, h, k2, naddL, bIn _ _ (by omega), decide_eq_true (show 2 * t + 1 < 24 by omega), ck_tr, sAn _ _ _ _ (by omega), lt_eq, rS_tA, rS_tA, h, naddL, lt_eq, tA_tA, fA_tA, if_pos rfl]
  rfl
theorem two_F {v : MEM} {k q t n : Nat} (x l2 y : Int32) (e : Nat) (h : TFM v k q) (ht : rS v (11019, 842) = nI t) (h12 : t < 12) (he : e ≤ t) : f_X10_readTwo0_41 3000 (n + 1) 842 x l2 y (nI e) v = some ((), wrT v t x y) := by
  rw [E_X10_readTwo0_41, M_fineF h, bnd_some, if_pos rfl, wr_eq x y ht h12]
  split <;> rfl
theorem two_loop {C : ACt} {F : Nat → Int32} {T : Nat → Nat} {N r q2 a b : Nat} (hW : WFc C) (h12 : cT C < 12) (hq : q2 ≤ 600) (ha : a < 7) (hb : b < 7) : ∀ m e n v, e + m = cT C → m < n → TXM v T N r → CM v C F → ((∀ i, e ≤ i → i < cT C → ¬ ((cTa C i = a ∧ cTb C i = b) ∨ (cTb C i = a ∧ cTa C i = b))) ∧ f_X10_readTwo0_41 3000 n 842 (nI a) (nI q2) (nI b) (nI e) v = some ((), wrT v (cT C) (nI a) (nI b))) ∨ ((∃ i, e ≤ i ∧ i < cT C ∧ ((cTa C i = a ∧ cTb C i = b) ∨ (cTb C i = a ∧ cTa C i = b))) ∧ ∃ v1, TFM v1 2 q2 ∧ Fr pTm v v1 ∧ f_X10_readTwo0_41 3000 n 842 (nI a) (nI q2) (nI b) (nI e) v = some ((), wrT v1 (cT C) (nI a) (nI b)))
  | 0, e, n, v, he, hn, hT, hM => by
    obtain ⟨n, rfl⟩ : ∃ n', n = n' + 1 := ⟨n - 1, by omega⟩
    left
    refine ⟨fun i h1 h2 => by omega, ?_⟩
    have ht := hM.2.1
    rw [E_X10_readTwo0_41, wr_eq _ _ ht h12, if_neg (by rw [ht, nlt _ _ (by omega) (by omega)]; omega)]
  | m + 1, e, n, v, he, hn, hT, hM => by
    obtain ⟨n, rfl⟩ : ∃ n', n = n' + 1 := ⟨n - 1, by omega⟩
    have ht := hM.2.1
    obtain ⟨g1, g2⟩ := hM.2.2.2.2.2.2 e (by omega)
    obtain ⟨y1, y2, y3⟩ := hW.2.2.2.2.1 e (by omega)
    have h7 := hW.1
    have k2 : (2 : Int32) * nI e = nI (2 * e) := nI_mul 2 e
    have ex : f_X10_readTwo0_41 3000 (n + 1) 842 (nI a) (nI q2) (nI b) (nI e) v = if (cTa C e = a ∧ cTb C e = b) ∨ (cTb C e = a ∧ cTa C e = b) then (bnd (f_X10_wrong 3000 842 (2 : Int32) (nI q2) v) fun (u14 : Unit) (w13 : MEM) => f_X10_readTwo0_41 3000 n 842 (nI a) (nI q2) (nI b) (nI (e + 1)) w13) else f_X10_readTwo0_41 3000 n 842 (nI a) (nI q2) (nI b) (nI (e + 1)) v := by
      rw [E_X10_readTwo0_41, if_pos (by rw [ht, nlt _ _ (by omega) (by omega)]; omega), M_fine hT.2.2.2.2.1, bnd_some, if_neg (by decide), k2, bIn _ _ (by omega), decide_eq_true (show 2 * e < 24 by omega), ck_tr, lt_eq, naddL, bIn _ _ (by omega), decide_eq_true (show 2 * e + 1 < 24 by omega), ck_tr, lt_eq, rAn _ _ _ (by omega), rAn _ _ _ (by omega), g1]
      have g2 : fA v (1005, 842) (2 * e + (OfNat.ofNat 1 : Nat)) = nI (cTb C e) := g2
      rw [g2, naddL]
      simp (disch := omega) only [neqI]
      by_cases c1 : cTa C e = a
      · rw [if_pos c1]
        by_cases c2 : cTb C e = b
        · rw [if_pos c2, if_pos (Or.inl ⟨c1, c2⟩)]
        · rw [if_neg c2]
          by_cases c3 : cTa C e = b
          · rw [if_pos c3]
            by_cases c4 : cTb C e = a
            · rw [if_pos c4, if_pos (Or.inr ⟨c4, c3⟩)]
            · rw [if_neg c4, if_neg (by omega)]
          · rw [if_neg c3, if_neg (by omega)]
      · rw [if_neg c1]
        by_cases c3 : cTa C e = b
        · rw [if_pos c3]
          by_cases c4 : cTb C e = a
          · rw [if_pos c4, if_pos (Or.inr ⟨c4, c3⟩)]
          · rw [if_neg c4, if_neg (by omega)]
        · rw [if_neg c3, if_neg (by omega)]
    rw [ex]
    by_cases c : (cTa C e = a ∧ cTb C e = b) ∨ (cTb C e = a ∧ cTa C e = b)
    · right
      obtain ⟨v1, x1, x2, x3⟩ := M_wrong 2 hq hT
      have x1 : f_X10_wrong 3000 842 (2 : Int32) (nI q2) v = some ((), v1) := x1
      obtain ⟨n, rfl⟩ : ∃ n', n = n' + 1 := ⟨n - 1, by omega⟩
      refine ⟨⟨e, Nat.le_refl _, by omega, c⟩, v1, x2, x3, ?_⟩
      rw [if_pos c, x1, bnd_some]
      exact two_F _ _ _ _ x2 ((x3.2.1 _ rfl).trans ht) h12 (by omega)
    · rw [if_neg c]
      rcases two_loop hW h12 hq ha hb m (e + 1) n v (by omega) (by omega) hT hM with ⟨i1, i2⟩ | ⟨⟨i, i1, i2, i3⟩, i4⟩
      · left
        refine ⟨fun i h1 h2 => ?_, i2⟩
        by_cases c2 : i = e
        · rw [c2]; exact c
        · exact i1 i (by omega) h2
      · right
        exact ⟨⟨i, by omega, i2, i3⟩, i4⟩
theorem row_T {c : Nat} {T : Nat → Nat} {N p : Nat} {u : MEM} {C : ACt} {F : Nat → Int32} (hT : TXC u T N p) (hC : CC u c C F) (hW : WFx C F) (h12 : cT C < 12) : rowO c 1 T N p C F u (f_X1_readTwo 3000 c 1 u) := by
  have hN := hT.1
  have h7 := hW.1.1
  obtain ⟨q, s⟩ := sk_ex T N N p hT.2.1 (by omega)
  obtain ⟨r, d⟩ := rd_ex T N N q s.2.1 (by omega)
  have mod : ∀ v x1 v1 x3 v3 p3, CM v C F → Fr pTm v v1 → f_X10_readNumber 3000 842 (0 : Int32) (nI (cH C) - 1) v = some (x1, v1) → f_X10_here 3000 842 v1 = some (x3, v3) → Fr pTm v1 v3 → rS v3 (11004, 842) = nI p3 → f_X10_readRow 3000 842 (nI (wC 1)) v = bnd (bnd (f_X10_readNumber 3000 842 (0 : Int32) (nI (cH C) - 1) v3) fun (x7 : Int32) (w6 : MEM) => bnd (f_X10_fine 3000 842 w6) fun (x9 : Int32) (w8 : MEM) => if x9 = 0 then (f_X10_readTwo0_41 3000 3000 842 x1 (nI p3) x7 (0 : Int32) w8) else (if x1 = x7 then (bnd (f_X10_wrong 3000 842 (2 : Int32) (nI p3) w8) fun (u11 : Unit) (w10 : MEM) => f_X10_readTwo0_41 3000 3000 842 x1 (nI p3) x7 (0 : Int32) w10) else (f_X10_readTwo0_41 3000 3000 842 x1 (nI p3) x7 (0 : Int32) w8))) fun (u18 : Unit) (w17 : MEM) => some ((), w17) := by
    intro v x1 v1 x3 v3 p3 hM f1 e1 e2 f2 e3
    have b0 : rS v (11018, 842) = nI (cH C) := hM.1
    have b3 : rS v3 (11018, 842) = nI (cH C) := (f2.2.1 _ rfl).trans ((f1.2.1 _ rfl).trans b0)
    rw [E_X10_readRow, M_of (by omega), bnd_some, if_neg wc_10, M_of (by omega), bnd_some, if_pos rfl, E_X10_readTwo0, E_X10_readHeir, b0, e1, bnd_some, bnd_some, e2, bnd_some, lt_eq, e3, E_X10_readHeir, b3]
    cases f_X10_readNumber 3000 842 (0 : Int32) (nI (cH C) - 1) v3 with
    | none => rfl
    | some y => rfl
  have fin : ∀ v4 d q5, TFM v4 d q5 → ∀ v x y, CM v C F → Fr pTm v v4 → ∀ l2, f_X10_readTwo0_41 3000 3000 842 x l2 y (0 : Int32) v4 = some ((), wrT v4 (cT C) x y) := by
    intro v4 d q5 h4 v x y hM f4 l2
    exact two_F (n := 2999) x l2 y 0 h4 ((f4.2.1 _ rfl).trans hM.2.1) h12 (by omega)
  have bad : ∀ v v1 d q5, CM v C F → f_X10_readNumber 3000 842 (0 : Int32) (nI (cH C) - 1) v = some (0, v1) → TFM v1 d q5 → Fr pTm v v1 → ∃ v1, f_X10_readRow 3000 842 (nI (wC 1)) v = some ((), v1) ∧ TFM v1 d q5 ∧ Fr pMc v v1 := by
    intro v v1 d q5 hM e1 h1 f1
    obtain ⟨x, v3, z1, _, z2, z3⟩ := M_hereF h1
    obtain ⟨p3, hp3⟩ : ∃ p3, rS v3 (11004, 842) = nI p3 := by
      obtain ⟨⟨_, _, _, p3, _, _, _, g, _⟩, _⟩ := z2
      exact ⟨p3, g⟩
    refine ⟨wrT v3 (cT C) 0 0, ?_, z2, wrT_fr ((f1.tr z3).mc) _ _ _⟩
    rw [mod v 0 v1 x v3 p3 hM f1 e1 z1 z3 hp3, M_numF _ _ z2, bnd_some, M_fineF z2, bnd_some, if_pos rfl, fin v3 _ _ z2 v 0 0 hM (f1.tr z3), bnd_some]
  rw [E_X1_readTwo, hC.1]
  rcases C_num (lo := 0) (n := cH C) (hi := nI (cH C) - 1) hT s d (by omega) rfl (by omega) with ⟨k1, k2, k3, u2, k4, k5, k6, k7⟩ | ⟨k1, k2, u2, k4, k5, k6⟩ | ⟨k1, u2, k4, k5, k6⟩
  · obtain ⟨A, hA⟩ : ∃ A, dv T q (r - q) = A := ⟨_, rfl⟩
    rw [hA] at k2 k3 k4
    have k4 : f_X8_number 3000 1 (0 : Int32) (nI (cH C) - 1) u = some (nI A, u2) := k4
    obtain ⟨q2, t⟩ := sk_ex T N N r k5.2.1 (by omega)
    obtain ⟨r2, e⟩ := rd_ex T N N q2 t.2.1 (by omega)
    have hq2 := t.2.1
    have mod1 : ∀ v, TXM v T N p → CM v C F → ∃ v3, Fr pTm v v3 ∧ TXM v3 T N q2 ∧ f_X10_readRow 3000 842 (nI (wC 1)) v = bnd (bnd (f_X10_readNumber 3000 842 (0 : Int32) (nI (cH C) - 1) v3) fun (x7 : Int32) (w6 : MEM) => bnd (f_X10_fine 3000 842 w6) fun (x9 : Int32) (w8 : MEM) => if x9 = 0 then (f_X10_readTwo0_41 3000 3000 842 (nI A) (nI q2) x7 (0 : Int32) w8) else (if nI A = x7 then (bnd (f_X10_wrong 3000 842 (2 : Int32) (nI q2) w8) fun (u11 : Unit) (w10 : MEM) => f_X10_readTwo0_41 3000 3000 842 (nI A) (nI q2) x7 (0 : Int32) w10) else (f_X10_readTwo0_41 3000 3000 842 (nI A) (nI q2) x7 (0 : Int32) w8))) fun (u18 : Unit) (w17 : MEM) => some ((), w17) := by
      intro v hv hM
      rcases M_num (lo := 0) (n := cH C) (hi := nI (cH C) - 1) hv s d (by omega) rfl (by omega) with ⟨m1, m2, m3, v1, m4, m5, m6⟩ | ⟨m1, m2, v1, m4, m5, m6⟩ | ⟨m1, v1, m4, m5, m6⟩
      · rw [hA] at m4
        obtain ⟨v3, z1, z2, z3⟩ := M_here m5 t
        exact ⟨v3, m6.tr z3, z2, mod v _ v1 _ v3 q2 hM m6 m4 z1 z3 z2.2.2.2.1⟩
      · rw [hA] at m2
        exact absurd ⟨k2, k3⟩ m2
      · omega
    have hC2 := hC.fr k6
    rw [k4, bnd_some, if_neg (ne_m1 (by omega)), hC2.1]
    rcases C_num (lo := 0) (n := cH C) (hi := nI (cH C) - 1) k5 t e (by omega) rfl (by omega) with ⟨l1, l2, l3, u3, l4, l5, l6, l7⟩ | ⟨l1, l2, u3, l4, l5, l6⟩ | ⟨l1, u3, l4, l5, l6⟩
    · obtain ⟨B, hB⟩ : ∃ B, dv T q2 (r2 - q2) = B := ⟨_, rfl⟩
      rw [hB] at l2 l3 l4
      have l4 : f_X8_number 3000 1 (0 : Int32) (nI (cH C) - 1) u2 = some (nI B, u3) := l4
      have hC3 := hC2.fr l6
      have mod2 : ∀ v, TXM v T N p → CM v C F → ∃ v4, Fr pTm v v4 ∧ TXM v4 T N r2 ∧ f_X10_readRow 3000 842 (nI (wC 1)) v = bnd (if nI A = nI B then (bnd (f_X10_wrong 3000 842 (2 : Int32) (nI q2) v4) fun (u11 : Unit) (w10 : MEM) => f_X10_readTwo0_41 3000 3000 842 (nI A) (nI q2) (nI B) (0 : Int32) w10) else (f_X10_readTwo0_41 3000 3000 842 (nI A) (nI q2) (nI B) (0 : Int32) v4)) fun (u18 : Unit) (w17 : MEM) => some ((), w17) := by
        intro v hv hM
        obtain ⟨v3, b1, b2, b3⟩ := mod1 v hv hM
        rcases M_num (lo := 0) (n := cH C) (hi := nI (cH C) - 1) b2 t.idem e (by omega) rfl (by omega) with ⟨m1, m2, m3, v4, m4, m5, m6⟩ | ⟨m1, m2, v4, m4, m5, m6⟩ | ⟨m1, v4, m4, m5, m6⟩
        · rw [hB] at m4
          have m4 : f_X10_readNumber 3000 842 (0 : Int32) (nI (cH C) - 1) v3 = some (nI B, v4) := m4
          refine ⟨v4, b1.tr m6, m5, ?_⟩
          rw [b3, m4, bnd_some, M_fine m5.2.2.2.2.1, bnd_some, if_neg (by decide)]
        · rw [hB] at m2
          exact absurd ⟨l2, l3⟩ m2
        · omega
      rw [l4, bnd_some, E_X1_readTwo_32, if_neg (ne_m1 (by omega))]
      by_cases cAB : A = B
      · obtain ⟨u4, y1, y2, y3⟩ := C_refuse 2 l7
        have y1 : f_X8_refuse 3000 1 (2 : Int32) u3 = some (0, u4) := y1
        rw [if_pos (by rw [cAB]), y1, bnd_some, b01_0, ck_tr]
        refine Or.inr ⟨2, q2, u4, rfl, ((k6.tr l6).tr y3).co c, y2, ?_⟩
        intro v hv hM
        obtain ⟨v4, b1, b2, b3⟩ := mod2 v hv hM
        obtain ⟨v5, x1, x2, x3⟩ := M_wrong 2 (q := q2) (by omega) b2
        have x1 : f_X10_wrong 3000 842 (2 : Int32) (nI q2) v4 = some ((), v5) := x1
        refine ⟨wrT v5 (cT C) (nI A) (nI B), ?_, x2, wrT_fr ((b1.tr x3).mc) _ _ _⟩
        rw [b3, if_pos (by rw [cAB]), x1, bnd_some, fin v5 _ _ x2 v _ _ hM (b1.tr x3), bnd_some]
      · have nAB : ¬ nI A = nI B := by rw [neqI _ _ (by omega) (by omega)]; exact cAB
        have hfA := hC3.2.2.2.2.2.2.2 A (by omega)
        have hfB := hC3.2.2.2.2.2.2.2 B (by omega)
        have eA := frS_n hW.1 A
        have hare : f_X1_areTwo 3000 c (nI A) (nI B) u3 = some (if (frN C A).testBit B = true then 1 else 0, u3) := by
          rw [E_X1_areTwo, bIn _ _ (by omega), decide_eq_true (show A < 7 by omega), ck_tr, rAn _ _ _ (by omega), hfA, eA.1]
          by_cases c1 : (frN C A).testBit B = true
          · rw [if_pos c1, if_neg (by rw [bit_zero eA.2 (by omega), c1]; decide)]
          · rw [if_neg c1, if_pos (by rw [bit_zero eA.2 (by omega)]; exact Bool.eq_false_iff.mpr c1)]
        rw [if_neg nAB, hare, bnd_some]
        have lp2 : ∀ v4, TXM v4 T N r2 → CM v4 C F → _ := fun v4 h1 h2 => two_loop (q2 := q2) hW.1 h12 (by omega) (show A < 7 by omega) (show B < 7 by omega) (cT C) 0 3000 v4 (by omega) (by omega) h1 h2
        by_cases c1 : (frN C A).testBit B = true
        · obtain ⟨u4, y1, y2, y3⟩ := C_refuse 2 l7
          have y1 : f_X8_refuse 3000 1 (2 : Int32) u3 = some (0, u4) := y1
          rw [if_pos c1, if_neg (by decide), y1, bnd_some, b01_0, ck_tr]
          refine Or.inr ⟨2, q2, u4, rfl, ((k6.tr l6).tr y3).co c, y2, ?_⟩
          intro v hv hM
          obtain ⟨v4, b1, b2, b3⟩ := mod2 v hv hM
          rcases lp2 v4 b2 (hM.fr b1) with ⟨i1, i2⟩ | ⟨_, v5, i1, i2, i3⟩
          · obtain ⟨i, j1, j2⟩ := (frN_bit A B).mp c1
            exact absurd j2 (i1 i (by omega) j1)
          · have i3 : f_X10_readTwo0_41 3000 3000 842 (nI A) (nI q2) (nI B) (0 : Int32) v4 = some ((), wrT v5 (cT C) (nI A) (nI B)) := i3
            refine ⟨wrT v5 (cT C) (nI A) (nI B), ?_, i1, wrT_fr ((b1.tr i2).mc) _ _ _⟩
            rw [b3, if_neg nAB, i3, bnd_some]
        · have h2 := hC3.2.1
          have a7 : A < 7 := by omega
          have b7 : B < 7 := by omega
          rw [if_neg c1, if_pos rfl, h2, bIn _ _ (by omega), decide_eq_true h12, ck_tr, sAn _ _ _ _ (by omega), lt_eq, rS_tA, h2, bIn _ _ (by omega), decide_eq_true h12, ck_tr, sAn _ _ _ _ (by omega), lt_eq, rS_tA, rS_tA, h2, naddL, lt_eq, bIn _ _ (by omega), decide_eq_true a7, ck_tr, ck_tr, rAn _ _ _ (by omega), sAn _ _ _ _ (by omega), lt_eq, bIn _ _ (by omega), decide_eq_true b7, ck_tr, ck_tr, rAn _ _ _ (by omega), sAn _ _ _ _ (by omega), lt_eq]
          refine Or.inl ⟨mkT C A B, F, r2, _, rfl, Fr.A (a := (103, c)) (Fr.A (a := (103, c)) (Fr.S (a := (10108, c)) (Fr.A (a := (105, c)) (Fr.A (a := (104, c)) ((k6.tr l6).co c) _ (pCo_at c rfl)) _ (pCo_at c rfl)) _ (pCo_at c rfl)) _ (pCo_at c rfl)) _ (pCo_at c rfl), l5, ?_, ?_, ?_⟩
          · obtain ⟨x1, x2, x3, x4, x5, x6, x7, x8⟩ := hC3
            refine ⟨x1, ?_, x3, x4, x5, x6, ?_, ?_⟩
            · rw [rS_tA, rS_tA, rS_sS, if_pos rfl]; rfl
            · intro j hj
              have hj : j < cT C + 1 := hj
              simp only [fA_tA, fA_sS, Prod.mk.injEq, Nat.reduceEqDiff, false_and, and_true, if_true, if_false]
              show upd (fA u3 (104, c)) (cT C) (nI A) j = nI (updN (cTa C) (cT C) A j) ∧ upd (fA u3 (105, c)) (cT C) (nI B) j = nI (updN (cTb C) (cT C) B j)
              rw [upd_eq, upd_eq, updN_eq, updN_eq]
              by_cases cc : j = cT C
              · rw [if_pos cc, if_pos cc, if_pos cc, if_pos cc]; exact ⟨rfl, rfl⟩
              · rw [if_neg cc, if_neg cc, if_neg cc, if_neg cc]; exact x7 j (by omega)
            · intro j hj
              rw [frS_mkT cAB]
              simp only [fA_tA, fA_sS, Prod.mk.injEq, Nat.reduceEqDiff, false_and, and_true, if_true, if_false]
              by_cases j1 : B = j
              · rw [if_pos j1, ← j1, upd_at, upd_ne _ _ (fun e => cAB e.symm), hfB]; rfl
              · rw [if_neg j1, upd_ne _ _ (fun e => j1 e.symm)]
                by_cases j2 : A = j
                · rw [if_pos j2, ← j2, upd_at, hfA]; rfl
                · rw [if_neg j2, upd_ne _ _ (fun e => j2 e.symm)]
                  exact x8 j hj
          · obtain ⟨⟨y1, y2, y3, y4, y5, y6, y7, y8⟩, z1, z2⟩ := hW
            refine ⟨⟨y1, y2, y3, h12, ?_, y6, y7, y8⟩, z1, z2⟩
            intro j hj
            have hj : j < cT C + 1 := hj
            show updN (cTa C) (cT C) A j < cH C ∧ updN (cTb C) (cT C) B j < cH C ∧ updN (cTa C) (cT C) A j ≠ updN (cTb C) (cT C) B j
            rw [updN_eq, updN_eq]
            by_cases cc : j = cT C
            · rw [if_pos cc, if_pos cc]; exact ⟨k3, l3, cAB⟩
            · rw [if_neg cc, if_neg cc]; exact y5 j (by omega)
          · intro v hv hM
            obtain ⟨v4, b1, b2, b3⟩ := mod2 v hv hM
            have hM4 := hM.fr b1
            rcases lp2 v4 b2 hM4 with ⟨i1, i2⟩ | ⟨⟨i, _, j1, j2⟩, _⟩
            · have i2 : f_X10_readTwo0_41 3000 3000 842 (nI A) (nI q2) (nI B) (0 : Int32) v4 = some ((), wrT v4 (cT C) (nI A) (nI B)) := i2
              refine ⟨wrT v4 (cT C) (nI A) (nI B), ?_, b2, ?_, wrT_fr b1.mc _ _ _⟩
              · rw [b3, if_neg nAB, i2, bnd_some]
              · obtain ⟨x1, x2, x3, x4, x5, x6, x7⟩ := hM4
                refine ⟨x1, ?_, x3, x4, x5, x6, ?_⟩
                · unfold wrT
                  rw [rS_sS, if_pos rfl]; rfl
                · intro j hj
                  have hj : j < cT C + 1 := hj
                  unfold wrT
                  rw [fA_sS, fA_tA, if_pos rfl]
                  show upd (upd (fA v4 (1005, 842)) (2 * cT C) (nI A)) (2 * cT C + 1) (nI B) (2 * j) = nI (updN (cTa C) (cT C) A j) ∧ upd (upd (fA v4 (1005, 842)) (2 * cT C) (nI A)) (2 * cT C + 1) (nI B) (2 * j + 1) = nI (updN (cTb C) (cT C) B j)
                  rw [upd_eq, upd_eq, upd_eq, upd_eq, updN_eq, updN_eq, if_neg (show ¬ 2 * j = 2 * cT C + 1 by omega), if_neg (show ¬ 2 * j + 1 = 2 * cT C by omega)]
                  by_cases cc : j = cT C
                  · rw [if_pos cc, if_pos cc, if_pos (by omega), if_pos (by omega)]; exact ⟨rfl, rfl⟩
                  · rw [if_neg cc, if_neg cc, if_neg (by omega), if_neg (by omega)]; exact x7 j (by omega)
            · exact absurd ((frN_bit A B).mpr ⟨i, j1, j2⟩) c1
    · have l4 : f_X8_number 3000 1 (0 : Int32) (nI (cH C) - 1) u2 = some (-1, u3) := l4
      rw [l4, bnd_some, E_X1_readTwo_32, if_pos rfl]
      refine Or.inr ⟨2, q2, u3, rfl, (k6.tr l6).co c, l5, ?_⟩
      intro v hv hM
      obtain ⟨v3, b1, b2, b3⟩ := mod1 v hv hM
      rcases M_num (lo := 0) (n := cH C) (hi := nI (cH C) - 1) b2 t.idem e (by omega) rfl (by omega) with ⟨m1, m2, m3, v4, m4, m5, m6⟩ | ⟨m1, m2, v4, m4, m5, m6⟩ | ⟨m1, v4, m4, m5, m6⟩
      · exact absurd ⟨m2, m3⟩ l2
      · have m4 : f_X10_readNumber 3000 842 (0 : Int32) (nI (cH C) - 1) v3 = some (0, v4) := m4
        refine ⟨wrT v4 (cT C) (nI A) 0, ?_, m5, wrT_fr ((b1.tr m6).mc) _ _ _⟩
        rw [b3, m4, bnd_some, M_fineF m5, bnd_some, if_pos rfl, fin v4 _ _ m5 v _ _ hM (b1.tr m6), bnd_some]
      · omega
    · have l4 : f_X8_number 3000 1 (0 : Int32) (nI (cH C) - 1) u2 = some (-1, u3) := l4
      rw [l4, bnd_some, E_X1_readTwo_32, if_pos rfl]
      refine Or.inr ⟨1, q2, u3, rfl, (k6.tr l6).co c, l5, ?_⟩
      intro v hv hM
      obtain ⟨v3, b1, b2, b3⟩ := mod1 v hv hM
      rcases M_num (lo := 0) (n := cH C) (hi := nI (cH C) - 1) b2 t.idem e (by omega) rfl (by omega) with ⟨m1, m2, m3, v4, m4, m5, m6⟩ | ⟨m1, m2, v4, m4, m5, m6⟩ | ⟨m1, v4, m4, m5, m6⟩
      · omega
      · omega
      · have m4 : f_X10_readNumber 3000 842 (0 : Int32) (nI (cH C) - 1) v3 = some (0, v4) := m4
        refine ⟨wrT v4 (cT C) (nI A) 0, ?_, m5, wrT_fr ((b1.tr m6).mc) _ _ _⟩
        rw [b3, m4, bnd_some, M_fineF m5, bnd_some, if_pos rfl, fin v4 _ _ m5 v _ _ hM (b1.tr m6), bnd_some]
  · have k4 : f_X8_number 3000 1 (0 : Int32) (nI (cH C) - 1) u = some (-1, u2) := k4
    rw [k4, bnd_some, if_pos rfl, E_X1_readTwo_32, if_pos rfl]
    refine Or.inr ⟨2, q, u2, rfl, k6.co c, k5, ?_⟩
    intro v hv hM
    rcases M_num (lo := 0) (n := cH C) (hi := nI (cH C) - 1) hv s d (by omega) rfl (by omega) with ⟨m1, m2, m3, v3, m4, m5, m6⟩ | ⟨m1, m2, v3, m4, m5, m6⟩ | ⟨m1, v3, m4, m5, m6⟩
    · exact absurd ⟨m2, m3⟩ k2
    · exact bad v v3 2 q hM m4 m5 m6
    · omega
  · have k4 : f_X8_number 3000 1 (0 : Int32) (nI (cH C) - 1) u = some (-1, u2) := k4
    rw [k4, bnd_some, if_pos rfl, E_X1_readTwo_32, if_pos rfl]
    refine Or.inr ⟨1, q, u2, rfl, k6.co c, k5, ?_⟩
    intro v hv hM
    rcases M_num (lo := 0) (n := cH C) (hi := nI (cH C) - 1) hv s d (by omega) rfl (by omega) with ⟨m1, m2, m3, v3, m4, m5, m6⟩ | ⟨m1, m2, v3, m4, m5, m6⟩ | ⟨m1, v3, m4, m5, m6⟩
    · omega
    · omega
    · exact bad v v3 1 q hM m4 m5 m6
