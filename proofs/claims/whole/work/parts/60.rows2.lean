/-! court: keepers -/
theorem row_K {c : Nat} {T : Nat → Nat} {N p : Nat} {u : MEM} {C : ACt} {F : Nat → Int32} (hT : TXC u T N p) (hC : CC u c C F) (hW : WFx C F) (h6 : cK C < 6) : rowO c 2 T N p C F u (f_X1_readKeeper 3000 c 1 u) := by
  have hN := hT.1
  have h7 := hW.1.1
  obtain ⟨q, s⟩ := sk_ex T N N p hT.2.1 (by omega)
  obtain ⟨r, d⟩ := rd_ex T N N q s.2.1 (by omega)
  have mod : ∀ v x1 v1 x2 v2, CM v C F → Fr pTm v v1 → f_X10_readNumber 3000 842 (0 : Int32) (nI (cH C) - 1) v = some (x1, v1) → f_X10_readNumber 3000 842 (1 : Int32) (24 : Int32) (tA v1 (1006, 842) (upd (fA v (1006, 842)) (2 * cK C) x1)) = some (x2, v2) → Fr pTm (tA v1 (1006, 842) (upd (fA v (1006, 842)) (2 * cK C) x1)) v2 → f_X10_readRow 3000 842 (nI (wC 2)) v = some ((), sS (tA v2 (1006, 842) (upd (upd (fA v (1006, 842)) (2 * cK C) x1) (2 * cK C + 1) x2)) (11020, 842) (nI (cK C + 1))) := by
    intro v x1 v1 x2 v2 hM f1 e1 e2 f2
    have b0 : rS v (11018, 842) = nI (cH C) := hM.1
    have b1 : rS v (11020, 842) = nI (cK C) := hM.2.2.1
    have b2 : fA v1 (1006, 842) = fA v (1006, 842) := f1.1 _ rfl
    have b3 : rS v1 (11020, 842) = nI (cK C) := (f1.2.1 _ rfl).trans b1
    have b4 : rS v2 (11020, 842) = nI (cK C) := (f2.2.1 _ rfl).trans b3
    have b5 : fA v2 (1006, 842) = upd (fA v (1006, 842)) (2 * cK C) x1 := by rw [f2.1 _ rfl, fA_tA, if_pos rfl]
    have k2 : (2 : Int32) * nI (cK C) = nI (2 * cK C) := nI_mul 2 (cK C)
    rw [E_X10_readRow, M_of (by omega), bnd_some, if_neg wc_20, M_of (by omega), bnd_some, if_neg wc_21, M_of (by omega), bnd_some, if_pos rfl, E_X10_readHeir, b0, e1, bnd_some, bnd_some, b1, k2, bIn _ _ (by omega), decide_eq_true (show 2 * cK C < 12 by omega), ck_tr, sAn _ _ _ _ (by omega), lt_eq, b2, e2, bnd_some, rS_tA, b3, k2, naddL, bIn _ _ (by omega), decide_eq_true (show 2 * cK C + 1 < 12 by omega), ck_tr, sAn _ _ _ _ (by omega), lt_eq, b5, rS_tA, b4, naddL, lt_eq]
  rw [E_X1_readKeeper, hC.1]
  rcases C_num (lo := 0) (n := cH C) (hi := nI (cH C) - 1) hT s d (by omega) rfl (by omega) with ⟨k1, k2, k3, u2, k4, k5, k6, k7⟩ | ⟨k1, k2, u2, k4, k5, k6⟩ | ⟨k1, u2, k4, k5, k6⟩
  · obtain ⟨A, hA⟩ : ∃ A, dv T q (r - q) = A := ⟨_, rfl⟩
    rw [hA] at k2 k3 k4
    have k4 : f_X8_number 3000 1 (0 : Int32) (nI (cH C) - 1) u = some (nI A, u2) := k4
    obtain ⟨q2, t⟩ := sk_ex T N N r k5.2.1 (by omega)
    obtain ⟨r2, e⟩ := rd_ex T N N q2 t.2.1 (by omega)
    have mod1 : ∀ v, TXM v T N p → CM v C F → ∃ v1, f_X10_readNumber 3000 842 (0 : Int32) (nI (cH C) - 1) v = some (nI A, v1) ∧ TXM v1 T N r ∧ Fr pTm v v1 := by
      intro v hv hM
      rcases M_num (lo := 0) (n := cH C) (hi := nI (cH C) - 1) hv s d (by omega) rfl (by omega) with ⟨m1, m2, m3, v3, m4, m5, m6⟩ | ⟨m1, m2, v3, m4, m5, m6⟩ | ⟨m1, v3, m4, m5, m6⟩
      · rw [hA] at m4
        exact ⟨v3, m4, m5, m6⟩
      · rw [hA] at m2
        exact absurd ⟨k2, k3⟩ m2
      · omega
    rw [k4, bnd_some, if_neg (ne_m1 (by omega))]
    rcases C_num (lo := 1) (n := 25) (hi := 24) k5 t e (by omega) rfl (by omega) with ⟨l1, l2, l3, u3, l4, l5, l6, l7⟩ | ⟨l1, l2, u3, l4, l5, l6⟩ | ⟨l1, u3, l4, l5, l6⟩
    · obtain ⟨B, hB⟩ : ∃ B, dv T q2 (r2 - q2) = B := ⟨_, rfl⟩
      rw [hB] at l2 l3 l4
      have l4 : f_X8_number 3000 1 (1 : Int32) (24 : Int32) u2 = some (nI B, u3) := l4
      have hC3 := (hC.fr k6).fr l6
      have h1 := hC3.2.2.1
      rw [l4, bnd_some, if_neg (ne_m1 (by omega)), h1, bIn _ _ (by omega), decide_eq_true h6, ck_tr, sAn _ _ _ _ (by omega), lt_eq, rS_tA, h1, bIn _ _ (by omega), decide_eq_true h6, ck_tr, sAn _ _ _ _ (by omega), lt_eq, rS_tA, rS_tA, h1, naddL, lt_eq]
      refine Or.inl ⟨mkK C A B, F, r2, _, rfl, Fr.S (a := (10109, c)) (Fr.A (a := (107, c)) (Fr.A (a := (106, c)) ((k6.tr l6).co c) _ (pCo_at c rfl)) _ (pCo_at c rfl)) _ (pCo_at c rfl), l5, ?_, ?_, ?_⟩
      · obtain ⟨x1, x2, x3, x4, x5, x6, x7⟩ := hC3
        refine ⟨x1, x2, by rw [rS_sS, if_pos rfl]; rfl, x4, x5, ?_, x7⟩
        intro j hj
        have hj : j < cK C + 1 := hj
        have n1 : fA (sS (tA (tA u3 (106, c) (upd (fA u3 (106, c)) (cK C) (nI A))) (107, c) (upd (fA (tA u3 (106, c) (upd (fA u3 (106, c)) (cK C) (nI A))) (107, c)) (cK C) (nI B))) (10109, c) (nI (cK C + 1))) (106, c) = upd (fA u3 (106, c)) (cK C) (nI A) := by
          rw [fA_sS, fA_tA, if_neg (by intro e; injection e with e1 e2; omega), fA_tA, if_pos rfl]
        have n2 : fA (sS (tA (tA u3 (106, c) (upd (fA u3 (106, c)) (cK C) (nI A))) (107, c) (upd (fA (tA u3 (106, c) (upd (fA u3 (106, c)) (cK C) (nI A))) (107, c)) (cK C) (nI B))) (10109, c) (nI (cK C + 1))) (107, c) = upd (fA u3 (107, c)) (cK C) (nI B) := by
          rw [fA_sS, fA_tA, if_pos rfl, fA_tA, if_neg (by intro e; injection e with e1 e2; omega)]
        rw [n1, n2]
        show upd (fA u3 (106, c)) (cK C) (nI A) j = nI (updN (cKh C) (cK C) A j) ∧ _ = nI (updN (cKp C) (cK C) B j)
        rw [upd_eq, upd_eq, updN_eq, updN_eq]
        by_cases cc : j = cK C
        · rw [if_pos cc, if_pos cc, if_pos cc, if_pos cc]; exact ⟨rfl, rfl⟩
        · rw [if_neg cc, if_neg cc, if_neg cc, if_neg cc]; exact x6 j (by omega)
      · obtain ⟨⟨y1, y2, y3, y4, y5, y6, y7, y8⟩, z1, z2⟩ := hW
        refine ⟨⟨y1, h6, ?_, y4, y5, y6, y7, y8⟩, z1, z2⟩
        intro j hj
        have hj : j < cK C + 1 := hj
        show updN (cKh C) (cK C) A j < cH C ∧ 1 ≤ updN (cKp C) (cK C) B j ∧ updN (cKp C) (cK C) B j ≤ 24
        rw [updN_eq, updN_eq]
        by_cases cc : j = cK C
        · rw [if_pos cc, if_pos cc]; omega
        · rw [if_neg cc, if_neg cc]; exact y3 j (by omega)
      · intro v hv hM
        obtain ⟨v1, m1, m2, m3⟩ := mod1 v hv hM
        have g2 : TXM (tA v1 (1006, 842) (upd (fA v (1006, 842)) (2 * cK C) (nI A))) T N r := m2
        rcases M_num (lo := 1) (n := 25) (hi := 24) g2 t e (by omega) rfl (by omega) with ⟨o1, o2, o3, v3, o4, o5, o6⟩ | ⟨o1, o2, v3, o4, o5, o6⟩ | ⟨o1, v3, o4, o5, o6⟩
        · rw [hB] at o4
          refine ⟨_, mod v _ _ _ _ hM m3 m1 o4 o6, o5, ?_, ?_⟩
          · obtain ⟨x1, x2, x3, x4, x5, x6, x7⟩ := hM.fr m3
            have f1 : Fr pTm (tA v1 (1006, 842) (upd (fA v (1006, 842)) (2 * cK C) (nI A))) v3 := o6
            have c1 : ∀ t, pTm (t, 842) = false → rS v3 (t, 842) = rS v1 (t, 842) := fun t ht => f1.2.1 _ ht
            refine ⟨?_, ?_, by rw [rS_sS, if_pos rfl]; rfl, ?_, ?_, ?_, ?_⟩
            · exact (c1 11018 rfl).trans x1
            · exact (c1 11019 rfl).trans x2
            · exact (c1 11021 rfl).trans x4
            · have n1 : fA (sS (tA v3 (1006, 842) (upd (upd (fA v (1006, 842)) (2 * cK C) (nI A)) (2 * cK C + 1) (nI B))) (11020, 842) (nI (cK C + 1))) (1003, 842) = fA v1 (1003, 842) := f1.1 (1003, 842) rfl
              have n2 : fA (sS (tA v3 (1006, 842) (upd (upd (fA v (1006, 842)) (2 * cK C) (nI A)) (2 * cK C + 1) (nI B))) (11020, 842) (nI (cK C + 1))) (1004, 842) = fA v1 (1004, 842) := f1.1 (1004, 842) rfl
              rw [n1, n2]
              exact x5
            · intro j hj
              have hj : j < cK C + 1 := hj
              rw [fA_sS, fA_tA, if_pos rfl]
              show upd (upd (fA v (1006, 842)) (2 * cK C) (nI A)) (2 * cK C + 1) (nI B) (2 * j) = nI (updN (cKh C) (cK C) A j) ∧ upd (upd (fA v (1006, 842)) (2 * cK C) (nI A)) (2 * cK C + 1) (nI B) (2 * j + 1) = nI (updN (cKp C) (cK C) B j)
              rw [upd_eq, upd_eq, upd_eq, upd_eq, updN_eq, updN_eq, if_neg (show ¬ 2 * j = 2 * cK C + 1 by omega), if_neg (show ¬ 2 * j + 1 = 2 * cK C by omega)]
              by_cases cc : j = cK C
              · rw [if_pos cc, if_pos cc, if_pos (by omega), if_pos (by omega)]; exact ⟨rfl, rfl⟩
              · rw [if_neg cc, if_neg cc, if_neg (by omega), if_neg (by omega)]; exact hM.2.2.2.2.2.1 j (by omega)
            · have n1 : fA (sS (tA v3 (1006, 842) (upd (upd (fA v (1006, 842)) (2 * cK C) (nI A)) (2 * cK C + 1) (nI B))) (11020, 842) (nI (cK C + 1))) (1005, 842) = fA v1 (1005, 842) := f1.1 (1005, 842) rfl
              rw [n1]
              exact x7
          · exact Fr.S (a := (11020, 842)) (Fr.A (a := (1006, 842)) ((Fr.A (a := (1006, 842)) m3.mc _ rfl).tr o6.mc) _ rfl) _ rfl
        · rw [hB] at o2
          exact absurd ⟨l2, by omega⟩ o2
        · omega
    · have l4 : f_X8_number 3000 1 (1 : Int32) (24 : Int32) u2 = some (-1, u3) := l4
      rw [l4, bnd_some, if_pos rfl]
      refine Or.inr ⟨2, q2, u3, rfl, (k6.tr l6).co c, l5, ?_⟩
      intro v hv hM
      obtain ⟨v1, m1, m2, m3⟩ := mod1 v hv hM
      have g2 : TXM (tA v1 (1006, 842) (upd (fA v (1006, 842)) (2 * cK C) (nI A))) T N r := m2
      rcases M_num (lo := 1) (n := 25) (hi := 24) g2 t e (by omega) rfl (by omega) with ⟨o1, o2, o3, v3, o4, o5, o6⟩ | ⟨o1, o2, v3, o4, o5, o6⟩ | ⟨o1, v3, o4, o5, o6⟩
      · exact absurd ⟨o2, o3⟩ l2
      · exact ⟨_, mod v _ _ _ _ hM m3 m1 o4 o6, o5, Fr.S (a := (11020, 842)) (Fr.A (a := (1006, 842)) ((Fr.A (a := (1006, 842)) m3.mc _ rfl).tr o6.mc) _ rfl) _ rfl⟩
      · omega
    · have l4 : f_X8_number 3000 1 (1 : Int32) (24 : Int32) u2 = some (-1, u3) := l4
      rw [l4, bnd_some, if_pos rfl]
      refine Or.inr ⟨1, q2, u3, rfl, (k6.tr l6).co c, l5, ?_⟩
      intro v hv hM
      obtain ⟨v1, m1, m2, m3⟩ := mod1 v hv hM
      have g2 : TXM (tA v1 (1006, 842) (upd (fA v (1006, 842)) (2 * cK C) (nI A))) T N r := m2
      rcases M_num (lo := 1) (n := 25) (hi := 24) g2 t e (by omega) rfl (by omega) with ⟨o1, o2, o3, v3, o4, o5, o6⟩ | ⟨o1, o2, v3, o4, o5, o6⟩ | ⟨o1, v3, o4, o5, o6⟩
      · omega
      · omega
      · exact ⟨_, mod v _ _ _ _ hM m3 m1 o4 o6, o5, Fr.S (a := (11020, 842)) (Fr.A (a := (1006, 842)) ((Fr.A (a := (1006, 842)) m3.mc _ rfl).tr o6.mc) _ rfl) _ rfl⟩
  · have k4 : f_X8_number 3000 1 (0 : Int32) (nI (cH C) - 1) u = some (-1, u2) := k4
    rw [k4, bnd_some, if_pos rfl, if_pos rfl]
    refine Or.inr ⟨2, q, u2, rfl, k6.co c, k5, ?_⟩
    intro v hv hM
    rcases M_num (lo := 0) (n := cH C) (hi := nI (cH C) - 1) hv s d (by omega) rfl (by omega) with ⟨m1, m2, m3, v3, m4, m5, m6⟩ | ⟨m1, m2, v3, m4, m5, m6⟩ | ⟨m1, v3, m4, m5, m6⟩
    · exact absurd ⟨m2, m3⟩ k2
    · have g2 : TFM (tA v3 (1006, 842) (upd (fA v (1006, 842)) (2 * cK C) 0)) 2 q := m5
      exact ⟨_, mod v _ _ _ _ hM m6 m4 (M_numF _ _ g2) (Fr.rf _ _), m5, Fr.S (a := (11020, 842)) (Fr.A (a := (1006, 842)) (Fr.A (a := (1006, 842)) m6.mc _ rfl) _ rfl) _ rfl⟩
    · omega
  · have k4 : f_X8_number 3000 1 (0 : Int32) (nI (cH C) - 1) u = some (-1, u2) := k4
    rw [k4, bnd_some, if_pos rfl, if_pos rfl]
    refine Or.inr ⟨1, q, u2, rfl, k6.co c, k5, ?_⟩
    intro v hv hM
    rcases M_num (lo := 0) (n := cH C) (hi := nI (cH C) - 1) hv s d (by omega) rfl (by omega) with ⟨m1, m2, m3, v3, m4, m5, m6⟩ | ⟨m1, m2, v3, m4, m5, m6⟩ | ⟨m1, v3, m4, m5, m6⟩
    · omega
    · omega
    · have g2 : TFM (tA v3 (1006, 842) (upd (fA v (1006, 842)) (2 * cK C) 0)) 1 q := m5
      exact ⟨_, mod v _ _ _ _ hM m6 m4 (M_numF _ _ g2) (Fr.rf _ _), m5, Fr.S (a := (11020, 842)) (Fr.A (a := (1006, 842)) (Fr.A (a := (1006, 842)) m6.mc _ rfl) _ rfl) _ rfl⟩
/-! court: twos -/
theorem frS_mkT {C : ACt} {a b : Nat} (hab : a ≠ b) (j : Nat) : frS (mkT C a b) j = if b = j then frS C j ||| bit a else if a = j then frS C j ||| bit b else frS C j := by
  have e : frS (mkT C a b) j = lp (cT C + 1) 0 (fun e b1 => if updN (cTb C) (cT C) b e = j then (if updN (cTa C) (cT C) a e = j then b1 ||| bit (updN (cTb C) (cT C) b e) else b1) ||| bit (updN (cTa C) (cT C) a e) else if updN (cTa C) (cT C) a e = j then b1 ||| bit (updN (cTb C) (cT C) b e) else b1) 0 := rfl
  have e2 : lp (cT C) 0 (fun e b1 => if updN (cTb C) (cT C) b e = j then (if updN (cTa C) (cT C) a e = j then b1 ||| bit (updN (cTb C) (cT C) b e) else b1) ||| bit (updN (cTa C) (cT C) a e) else if updN (cTa C) (cT C) a e = j then b1 ||| bit (updN (cTb C) (cT C) b e) else b1) 0 = frS C j := by
    refine lp_ext _ _ _ _ _ ?_
    intro i x h1 h2
    have n1 : updN (cTb C) (cT C) b i = cTb C i := if_neg (by omega)
    have n2 : updN (cTa C) (cT C) a i = cTa C i := if_neg (by omega)
    rw [n1, n2]
  have n1 : updN (cTb C) (cT C) b (0 + cT C) = b := if_pos (by omega)
  have n2 : updN (cTa C) (cT C) a (0 + cT C) = a := if_pos (by omega)
  rw [e, lp_snoc, e2, n1, n2]
  by_cases c1 : b = j
  · rw [if_pos c1, if_pos c1, if_neg (by omega)]
  · rw [if_neg c1, if_neg c1]
