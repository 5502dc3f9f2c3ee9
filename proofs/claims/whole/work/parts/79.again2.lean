/-! work: an again, read by both -/
theorem again_ok {H : Nat} {T : Nat → Nat} {N d f g p : Nat} {S : STP} {u0 u : MEM} {M : MEM → Option (Unit × MEM)} (hN : N ≤ 150) (hd6 : d < 6) (hP : stP H T N (d + 1) f (g + 1)) (fr : Fr pTx u0 u) (hT : TXC u T N (p + 5)) (hS : SC u S) (h3 : 3 * sN S ≤ p) (hM : ∀ v, TXM v T N p → ∃ v1, TXM v1 T N p ∧ Fr pTm v v1 ∧ M v = agM (g + 1) v1) : stO H T N p d p (sN S) S u0 (semi (f_X7_readAgain 3000 (f + 2) 3 1 (nI H) (nI d + (1 : Int32)) (nI (sN S)) (w31 u (sN S) (nI (kcl 9))))) M := by
  have hp5 := hT.2.1
  have hTT : ∀ k < N, T k < 256 := fun k hk => (hT.2.2.2.2.2 k hk).1
  have h50 : 3 * sN S + 3 ≤ 150 := by omega
  have d1 : nI d + (1 : Int32) = nI (d + 1) := nI_add d 1
  obtain ⟨n, hn⟩ : ∃ n, sN S = n := ⟨_, rfl⟩
  rw [d1, Et_X7_readAgain, cAg _ _ _ (show sN S < 150 by omega)]
  generalize hw : w31 u (sN S) (nI (kcl 9)) = w6
  have S6 : SC w6 (pushS S 9 0 0) := by rw [← hw]; exact w31_SC hS 9
  have T6 : TXC w6 T N (p + 5) := by rw [← hw]; exact hT
  have f6 : Fr pWa u0 w6 := by rw [← hw]; exact fr.wa.tr (w31_fr _ _ _)
  have m0 : ∀ v, TXM v T N p → rS v (11007, 842) = nI d → ∃ v1, TXM v1 T N (p + 5) ∧ Fr pWm v v1 ∧ rS v1 (11007, 842) = nI (d + 1) ∧ rS v1 (11036, 842) = rS v (11036, 842) ∧ fA v1 (1017, 842) = fA v (1017, 842) ∧ M v = bnd (f_X10_readNumber 3000 842 (0 : Int32) (30 : Int32) v1) fun (x32 : Int32) (w31 : MEM) => sgM (g + 1) x32 w31 := by
    intro v hv hd
    obtain ⟨v1, b1, b2, b3⟩ := hM v hv
    have o := opens_ok (k := 5) b1 ((b2.2.1 _ rfl).trans hd) hd6
    have o : f_X10_opensOne 3000 842 (5 : Int32) v1 = _ := o
    refine ⟨dp1 (sS v1 (11004, 842) (nI (p + 5))) d, b1.at hp5, Fr.S (a := (11007, 842)) (Fr.S (a := (11004, 842)) b2.wm _ rfl) _ rfl, ?_, ?_, ?_, ?_⟩
    · rfl
    · exact b2.2.1 (11036, 842) rfl
    · exact b2.1 (1017, 842) rfl
    · rw [b3]
      unfold agM
      rw [o, bnd_some]
  obtain ⟨q, s⟩ := sk_ex T N N (p + 5) hp5 (by omega)
  obtain ⟨r, e⟩ := rd_ex T N N q s.2.1 (by omega)
  have s1 := s.1
  rcases C_num (lo := 0) (n := 31) (hi := 30) T6 s e (by omega) rfl (by omega) with ⟨k1, k2, k3, u2, k4, k5, k6, k7⟩ | ⟨k1, k2, u2, k4, k5, k6⟩ | ⟨k1, u2, k4, k5, k6⟩
  · obtain ⟨A, hA⟩ : ∃ A, dv T q (r - q) = A := ⟨_, rfl⟩
    rw [hA] at k2 k3 k4
    have k4 : f_X8_number 3000 1 (0 : Int32) (30 : Int32) w6 = some (nI A, u2) := k4
    rw [k4, bnd_some, if_neg (ne_m1 (by omega))]
    have S7 : SC (w703 u2 (sN S) (nI A)) (agS S A) := ((S6.fr k6).b A).ag
    have T7 : TXC (w703 u2 (sN S) (nI A)) T N r := k5
    have f7 : Fr pWa u0 (w703 u2 (sN S) (nI A)) := (f6.tr k6.wa).tr (w703_fr _ _ _)
    have hrN := k5.2.1
    have m1 : ∀ v, TXM v T N p → SMg v S → rS v (11007, 842) = nI d → rS v (11022, 842) = nI H → ∃ v2, TXM v2 T N r ∧ Fr pWm v v2 ∧ rS v2 (11007, 842) = nI (d + 1) ∧ rS v2 (11022, 842) = nI H ∧ SMg v2 S ∧ M v = sgM (g + 1) (nI A) v2 := by
      intro v hv hP hd hh
      obtain ⟨v1, b1, b2, b3, b4, b5, b6⟩ := m0 v hv hd
      rcases M_num (lo := 0) (n := 31) (hi := 30) b1 s e (by omega) rfl (by omega) with ⟨o1, o2, o3, v3, o4, o5, o6⟩ | ⟨o1, o2, v3, o4, o5, o6⟩ | ⟨o1, v3, o4, o5, o6⟩
      · rw [hA] at o4
        have o4 : f_X10_readNumber 3000 842 (0 : Int32) (30 : Int32) v1 = some (nI A, v3) := o4
        refine ⟨v3, o5, b2.tr o6.wm, (o6.2.1 _ rfl).trans b3, (o6.2.1 _ rfl).trans ((b2.2.1 _ rfl).trans hh), ?_, by rw [b6, o4, bnd_some]⟩
        have hP1 : SMg v1 S := by
          unfold SMg
          rw [b4, b5]
          exact hP
        exact hP1.fr o6
      · rw [hA] at o2
        exact absurd ⟨k2, k3⟩ o2
      · omega
    obtain ⟨q2, t⟩ := sk_ex T N N r hrN (by omega)
    have t1 := t.1
    rcases C_sign (c := 91) T7 t (by omega) with ⟨t2, t3, u3, a1, a2, a3⟩ | ⟨t2, u3, a1, a2, a3⟩
    · have a1 : f_X8_needSign 3000 1 (91 : Int32) (w703 u2 (sN S) (nI A)) = some (1, u3) := a1
      rw [a1, bnd_some, if_neg (by decide), Et_X7_readRow, E_X7_readRow]
      have m2 : ∀ v, TXM v T N p → SMg v S → rS v (11007, 842) = nI d → rS v (11022, 842) = nI H → ∃ v2, TXM v2 T N (q2 + 1) ∧ Fr pWm v v2 ∧ rS v2 (11007, 842) = nI (d + 1) ∧ rS v2 (11022, 842) = nI H ∧ SMg v2 (agS S A) ∧ M v = L63 (g + 1) (nI (3 * sN S)) 3000 v2 := by
        intro v hv hP hd hh
        obtain ⟨v1, b1, b2, b3, b4, b5, b6⟩ := m1 v hv hP hd hh
        rcases M_sign (c := 91) b1 t (by omega) (by omega) with ⟨x1, x2, v3, x3, x4, x5⟩ | ⟨x1, v3, x3, x4, x5⟩
        · have x3 : f_X10_sign 3000 842 (91 : Int32) v1 = some ((), v3) := x3
          obtain ⟨v4, y1, y2, y3, y4, y5⟩ := push_A A x4 (b5.fr x5) h50
          refine ⟨v4, y2, (b2.tr x5.wm).tr y5, y4.trans ((x5.2.1 _ rfl).trans b3), (y5.2.1 _ rfl).trans ((x5.2.1 _ rfl).trans b4), y3, ?_⟩
          rw [b6]
          unfold sgM
          rw [x3, bnd_some, lt_eq, y1, bnd_some, (b5.fr x5).1]
        · exact absurd ⟨t2, t3⟩ x1
      have hL : ∀ v p' q', TXM v T N p' → SK T N p' q' → q' < N → T q' ≠ 93 → ∃ v1, TXM v1 T N q' ∧ Fr pTm v v1 ∧ ∀ n, L63 (g + 1) (nI (3 * sN S)) (n + 1) v = bnd (f_X10_readStep 3000 (g + 1) 842 v1) fun (_ : Unit) (w : MEM) => L63 (g + 1) (nI (3 * sN S)) n w := by
        intro v p' q' hv s' h1 h2
        obtain ⟨v1, b1, b2, b3⟩ := M_here hv s'
        have ht := hTT q' h1
        refine ⟨v1, b2, b3, fun n => ?_⟩
        unfold L63
        rw [E_X10_readStep_63, M_fine hv.2.2.2.2.1, bnd_some, if_neg (by decide), b1, bnd_some, hrq h1 rfl, if_neg (by rw [neqL _ _ (by omega) (by decide)]; exact h2)]
      have hrow := row_loop hN (L63 (g + 1) (nI (3 * sN S))) (f_X10_readStep 3000 (g + 1) 842) (f_X7_readRow 3000 f) (f_X7_readStep 3000 f) (f_X7_readAgain 3000 f) hP hL 150 2999 0 (q2 + 1) (agS S A) u3 rfl (by omega) (by omega) a2 (S7.fr a3) (by show 3 * (sN S + 1) ≤ q2 + 1; omega)
      have hrow : rwO H T N (q2 + 1) (d + 1) (q2 + 1) (sN S + 1) (agS S A) u3 150 (f_X7_readRow_3 3000 (f_X7_readRow 3000 f) (f_X7_readStep 3000 f) (f_X7_readAgain 3000 f) 3000 3 1 (nI H) (nI (d + 1)) (0 : Int32) u3) (L63 (g + 1) (nI (3 * sN S))) := hrow
      rcases hrow with ⟨S1, r1, p1, u4, ff, kk, l0, l1, l2, l3, l4, l5, l6, l7, l8, l9, l10, l11, l12, l13⟩ | ⟨ee, q1, u4, kk, l0, l1, l2, l3, l4⟩
      · have l7 : sameS (agS S A) S1 0 (sN S + 1) := l7
        have l8 : ∀ i, sN S + 1 ≤ i → i < sN S1 → okS H S1 i := l8
        have l9 : Blk S1 ff (d + 1) (sN S + 1) (sN S1) := l9
        have l10 : sN S + 1 ≤ sN S1 := l10
        have sr : SK T N r1 r1 := l4.idem
        have hr1 := l3.2.1
        obtain ⟨i1, i2, i3, i4⟩ := l7 (sN S) (Nat.zero_le _) (Nat.lt_succ_self _)
        obtain ⟨j1, j2, j3⟩ := agS_at S A
        have h9 : sK S1 (sN S) = 9 := i1.trans j1
        rw [l1, bnd_some, if_neg (by decide)]
        rcases C_sign (c := 93) l3 sr (by omega) with ⟨t4, t5, u5, c1, c2, c3⟩ | ⟨t4, u5, c1, c2, c3⟩
        · have c1 : f_X8_needSign 3000 1 (93 : Int32) u4 = some (1, u5) := c1
          rw [c1, bnd_some, if_neg (by decide)]
          refine stEnd (S2 := endS S1 (sN S)) (r0 := r1 + 1) (f := ff + 1) (by omega) (((((f7.tr a3.wa).tr l2).tr c3.wa)).tr (w704_fr _ _)) c2 ((l6.fr c3).en _) ?_ ?_ ?_ (by omega) ?_ ?_
          · exact ((agS_same S A 0).tr (l7.sub (Nat.le_refl _) (Nat.le_succ _))).tr (endS_same S1 (sN S) 0 (sN S) (Or.inl (Nat.le_refl _)))
          · intro i h1 h2
            have h2 : i < sN S1 := h2
            by_cases c : i = sN S
            · rw [c]
              show okS H S1 (sN S)
              unfold okS
              rw [i1, i2, i3, j1, j2, j3]
              omega
            · exact l8 i (by omega) h2
          · have eE : sE (endS S1 (sN S)) (sN S) = sN S1 := endS_at S1 (sN S)
            refine Or.inr ⟨by show sN S < sN S1; omega, Or.inr ⟨h9, hd6, by rw [eE]; exact l10, by rw [eE]; exact Nat.le_refl _, ?_, ?_⟩⟩
            · rw [eE]
              exact Blk.same ff (d + 1) (sN S + 1) (sN S1) (endS_same S1 (sN S) _ _ (Or.inr (Nat.lt_succ_self _))) l9
            · rw [eE]
              exact Blk.rf _ _ _ _
          · show 3 * sN S1 + p ≤ 3 * sN S + (r1 + 1) + 1
            omega
          · intro v hv hP hd hh
            obtain ⟨v1, b1, b2, b3, b4, b5, b6⟩ := m2 v hv hP hd hh
            obtain ⟨v2, y1, y2, y3, y4, y5⟩ := l13 v1 b1 b5 b3 b4
            obtain ⟨v3, z1, z2, z3⟩ := M_here y2 l4
            rcases M_sign (c := 93) z2 sr (by omega) (by omega) with ⟨x1, x2, v4, x3, x4, x5⟩ | ⟨x1, v4, x3, x4, x5⟩
            · have x3 : f_X10_sign 3000 842 (93 : Int32) v3 = some ((), v4) := x3
              have P4 : SMg v4 S1 := (y3.fr z3).fr x5
              have D4 : rS v4 (11007, 842) = nI (d + 1) := (x5.2.1 _ rfl).trans ((z3.2.1 _ rfl).trans y4)
              refine ⟨tA (sS v4 (11007, 842) (nI d)) (1017, 842) (upd (fA v4 (1017, 842)) (3 * sN S + 2) (nI (3 * sN S1))), x4, ?_, ?_, ?_, ?_⟩
              · exact SMg.en (v := sS v4 (11007, 842) (nI d)) P4 h9
              · rfl
              · exact Fr.A (a := (1017, 842)) (Fr.S (a := (11007, 842)) ((((b2.tr y5).tr z3.wm).tr x5.wm)) _ rfl) _ rfl
              · have y1 := y1 (2999 - kk + 1)
                rw [show 2999 - kk + 1 + kk = 3000 by omega] at y1
                have F5 : rS (sS v4 (11007, 842) (nI d)) (11005, 842) = -1 := x4.2.2.2.2.1
                have N5 : rS (sS v4 (11007, 842) (nI d)) (11036, 842) = nI (3 * sN S1) := P4.1
                rw [b6, y1]
                unfold L63
                rw [E_X10_readStep_63, M_fine y2.2.2.2.2.1, bnd_some, if_neg (by decide), z1, bnd_some, hrq t4 t5, if_pos (show nI 93 = (93 : Int32) from rfl), E_X10_readStep_86, x3, bnd_some, D4, nsubL _ _ (by show 1 ≤ d + 1; omega), lt_eq]
                show bnd (f_X10_fine 3000 842 (sS v4 (11007, 842) (nI d))) _ = _
                rw [M_fine F5, bnd_some, if_neg (by decide), naddL, bIn _ _ (by omega), decide_eq_true (show 3 * sN S + 2 < 150 by omega), ck_tr, sAn _ _ _ _ (by omega), lt_eq, N5]
                rfl
            · exact absurd ⟨t4, t5⟩ x1
        · have c1 : f_X8_needSign 3000 1 (93 : Int32) u4 = some (0, u5) := c1
          rw [c1, bnd_some, if_pos rfl, semi0]
          have e1 : r1 = N := by
            rcases l5 with h | h
            · exact h
            · exact absurd h t4
          refine Or.inr ⟨1, r1, _, rfl, ((((f7.tr a3.wa).tr l2).tr c3.wa)).tr (w704_fr _ _), c2, ?_⟩
          intro v hv hP hd hh
          obtain ⟨v1, b1, b2, b3, b4, b5, b6⟩ := m2 v hv hP hd hh
          obtain ⟨v2, y1, y2, y3, y4, y5⟩ := l13 v1 b1 b5 b3 b4
          obtain ⟨v3, z1, z2, z3⟩ := M_here y2 l4
          obtain ⟨v4, x1, x2, x3⟩ := M_noStep g z2 sr (Or.inl e1)
          obtain ⟨v5, w1, w2, w3⟩ := r63F (g + 1) (nI (3 * sN S)) (2998 - kk) x2
          have y1 := y1 (2998 - kk + 1 + 1)
          rw [show 2998 - kk + 1 + 1 + kk = 3000 by omega] at y1
          refine ⟨v5, ?_, w2, ((((b2.tr y5).tr z3.wm).tr x3.wm)).tr w3⟩
          have eh : hr T N r1 = 0 := by unfold hr; rw [if_neg (by omega)]
          have h1 : L63 (g + 1) (nI (3 * sN S)) (2998 - kk + 1 + 1) v2 = L63 (g + 1) (nI (3 * sN S)) (2998 - kk + 1) v4 := by
            unfold L63
            rw [E_X10_readStep_63, M_fine y2.2.2.2.2.1, bnd_some, if_neg (by decide), z1, bnd_some, eh, if_neg (by decide), x1, bnd_some]
          rw [b6, y1, h1, w1]
      · rw [l1, bnd_some, if_pos rfl, semi0]
        refine Or.inr ⟨ee, q1, _, rfl, (((f7.tr a3.wa).tr l2)).tr (w704_fr _ _), l3, ?_⟩
        intro v hv hP hd hh
        obtain ⟨v1, b1, b2, b3, b4, b5, b6⟩ := m2 v hv hP hd hh
        obtain ⟨v2, y1, y2, y3⟩ := l4 v1 b1 b5 b3 b4
        obtain ⟨v3, w1, w2, w3⟩ := r63F (g + 1) (nI (3 * sN S)) (2999 - kk) y2
        have y1 := y1 (2999 - kk + 1)
        rw [show 2999 - kk + 1 + kk = 3000 by omega] at y1
        exact ⟨v3, by rw [b6, y1, w1], w2, (b2.tr y3).tr w3⟩
    · have a1 : f_X8_needSign 3000 1 (91 : Int32) (w703 u2 (sN S) (nI A)) = some (0, u3) := a1
      rw [a1, bnd_some, if_pos rfl, semi0]
      refine Or.inr ⟨1, q2, _, rfl, (f7.tr a3.wa).tr (w704_fr _ _), a2, ?_⟩
      intro v hv hP hd hh
      obtain ⟨v1, b1, b2, b3, b4, b5, b6⟩ := m1 v hv hP hd hh
      rcases M_sign (c := 91) b1 t (by omega) (by omega) with ⟨x1, x2, v3, x3, x4, x5⟩ | ⟨x1, v3, x3, x4, x5⟩
      · exact absurd ⟨x1, x2⟩ t2
      · have x3 : f_X10_sign 3000 842 (91 : Int32) v1 = some ((), v3) := x3
        obtain ⟨v4, w1, w2, w3⟩ := r63F (g + 1) (rS v3 (11036, 842)) 2999 x4
        refine ⟨v4, ?_, w2, (b2.tr x5.wm).tr w3⟩
        rw [b6]
        unfold sgM
        rw [x3, bnd_some, lt_eq, tells_F _ _ _ x4, bnd_some, w1]
  · have k4 : f_X8_number 3000 1 (0 : Int32) (30 : Int32) w6 = some (-1, u2) := k4
    rw [k4, bnd_some, if_pos rfl, semi0]
    refine Or.inr ⟨2, q, _, rfl, ((f6.tr k6.wa).tr (w703_fr _ _ _)).tr (w704_fr _ _), k5, ?_⟩
    intro v hv hP hd hh
    obtain ⟨v1, b1, b2, b3, b4, b5, b6⟩ := m0 v hv hd
    rcases M_num (lo := 0) (n := 31) (hi := 30) b1 s e (by omega) rfl (by omega) with ⟨o1, o2, o3, v3, o4, o5, o6⟩ | ⟨o1, o2, v3, o4, o5, o6⟩ | ⟨o1, v3, o4, o5, o6⟩
    · exact absurd ⟨o2, o3⟩ k2
    · have o4 : f_X10_readNumber 3000 842 (0 : Int32) (30 : Int32) v1 = some (0, v3) := o4
      obtain ⟨v4, w1, w2, w3⟩ := sgF (g + 1) 0 o5
      exact ⟨v4, by rw [b6, o4, bnd_some, w1], w2, (b2.tr o6.wm).tr w3⟩
    · omega
  · have k4 : f_X8_number 3000 1 (0 : Int32) (30 : Int32) w6 = some (-1, u2) := k4
    rw [k4, bnd_some, if_pos rfl, semi0]
    refine Or.inr ⟨1, q, _, rfl, ((f6.tr k6.wa).tr (w703_fr _ _ _)).tr (w704_fr _ _), k5, ?_⟩
    intro v hv hP hd hh
    obtain ⟨v1, b1, b2, b3, b4, b5, b6⟩ := m0 v hv hd
    rcases M_num (lo := 0) (n := 31) (hi := 30) b1 s e (by omega) rfl (by omega) with ⟨o1, o2, o3, v3, o4, o5, o6⟩ | ⟨o1, o2, v3, o4, o5, o6⟩ | ⟨o1, v3, o4, o5, o6⟩
    · omega
    · omega
    · have o4 : f_X10_readNumber 3000 842 (0 : Int32) (30 : Int32) v1 = some (0, v3) := o4
      obtain ⟨v4, w1, w2, w3⟩ := sgF (g + 1) 0 o5
      exact ⟨v4, by rw [b6, o4, bnd_some, w1], w2, (b2.tr o6.wm).tr w3⟩
def R01 (x : Option (Int32 × MEM)) : Prop := ∀ y w, x = some (y, w) → y = 0 ∨ y = 1
theorem R01.bn {α : Type} (x : Option (α × MEM)) (k : α → MEM → Option (Int32 × MEM)) (h : ∀ a w, R01 (k a w)) : R01 (bnd x k) := by
  intro y w e
  cases x with
  | none => cases e
  | some z => exact h z.1 z.2 y w e
theorem R01.it {c : Prop} [Decidable c] {a b : Option (Int32 × MEM)} (h : R01 a) (g : R01 b) : R01 (if c then a else b) := by
  by_cases k : c
  · rw [if_pos k]
    exact h
  · rw [if_neg k]
    exact g
theorem R01.s0 (w : MEM) : R01 (some (0, w)) := fun y v e => by cases e; exact Or.inl rfl
theorem R01.s1 (w : MEM) : R01 (some (1, w)) := fun y v e => by cases e; exact Or.inr rfl
theorem R01.ck {x : Option (Int32 × MEM)} (h : R01 x) : (bnd x fun (x14 : Int32) (w13 : MEM) => ck (b01 x14) (some (x14, w13))) = x := by
  cases x with
  | none => rfl
  | some y =>
    obtain ⟨y, w⟩ := y
    rcases h y w rfl with c | c
    · subst c
      rfl
    · subst c
      rfl
theorem again_R (f : Nat) {n : Nat} (hn : n < 150) (x d : Int32) (w : MEM) : R01 (f_X7_readAgain 3000 (f + 1) 3 1 x d (nI n) w) := by
  rw [Et_X7_readAgain, cAg _ _ _ hn]
  exact R01.bn _ _ fun _ _ => R01.it (R01.s0 _) (R01.bn _ _ fun _ _ => R01.it (R01.s0 _) (R01.bn _ _ fun _ _ => R01.it (R01.s0 _) (R01.bn _ _ fun _ _ => R01.it (R01.s0 _) (R01.s1 _))))
theorem kcl_9 : ∀ m < 9, ¬ nI (kcl m) = (9 : Int32) := by decide +kernel
theorem kcl_m1 : ∀ m < 10, ¬ nI (kcl m) = (-1 : Int32) := by decide +kernel
theorem step_ok {H : Nat} {T : Nat → Nat} {N d f g : Nat} (hN : N ≤ 150) (hH : H ≤ 7) (hd : d ≤ 6) (hP : d < 6 → stP H T N (d + 1) f (g + 1)) : stP H T N d (f + 3) (g + 2) := by
  intro p S u hT hS h3 s
  have hp := hT.2.1
  have d6 : (nI d < (6 : Int32)) = (d < 6) := nltL d 6 (by omega) (by decide)
  obtain ⟨n, hn⟩ := rl_ex T N N p hp (by omega)
  rw [Et_X7_readStep, E_X7_readStep]
  rcases C_kind hT s hn with ⟨m, u1, hm, he, a1, a2, a3, a4⟩ | ⟨hne, u1, a1, a2, a3, a4⟩
  · have en := ((wc_iff (kwd_lt m hm) hn).mp he).1
    have l2 := kwd_len m hm
    rw [a1, bnd_some, if_neg (kcl_m1 m hm)]
    by_cases c9 : m = 9
    · subst c9
      have w5 : wL (kwd 9) = 5 := by decide
      rw [w5] at en
      subst en
      rw [if_pos (show nI (kcl 9) = (9 : Int32) from rfl)]
      by_cases c6 : d < 6
      · have h150 : sN S < 150 := by have := a2.2.1; omega
        rw [if_pos (by rw [d6]; exact c6), c31 9 _ _ _ (hS.fr a4) h150, if_neg (show ¬ nI (kcl 9) = (7 : Int32) by decide), if_neg (show ¬ nI (kcl 9) = (8 : Int32) by decide), if_pos (show nI (kcl 9) = (9 : Int32) from rfl)]
        have hA := again_ok (M := f_X10_readStep 3000 (g + 2) 842) hN c6 (hP c6) a4 a2 (hS.fr a4) h3 (fun v hv => M_again (g + 1) hv s hn he)
        rw [R01.ck (again_R _ h150 _ _ _)]
        exact hA
      · rw [if_neg (by rw [d6]; exact c6)]
        obtain ⟨u3, y1, y2, y3⟩ := C_refuse 3 a3
        have y1 : f_X8_refuse 3000 1 (3 : Int32) u1 = some (0, u3) := y1
        rw [y1, bnd_some, b01_0, ck_tr, semi0]
        refine Or.inr ⟨3, p, u3, rfl, (a4.tr y3).wa, y2, ?_⟩
        intro v hv hP hd hh
        obtain ⟨v1, b1, b2, b3⟩ := M_again (g + 1) hv s hn he
        obtain ⟨v2, c1, c2, c3⟩ := agF (g + 1) b1 (((b2.2.1 _ rfl).trans hd).trans (by rw [show d = 6 by omega]))
        exact ⟨v2, by rw [b3, c1], c2, b2.wm.tr c3⟩
    · have hm9 : m < 9 := by omega
      rw [if_neg (kcl_9 m hm9)]
      rw [← en] at l2
      exact leaf_ok _ _ _ hm9 hH hN a4 a2 (hS.fr a4) h3 (by omega) (fun v hv => M_good (g + 1) hv s hn hm9 he)
  · rw [a1, bnd_some, if_pos rfl]
    obtain ⟨u3, y1, y2, y3⟩ := C_refuse 1 a3
    have y1 : f_X8_refuse 3000 1 (1 : Int32) u1 = some (0, u3) := y1
    rw [y1, bnd_some, b01_0, ck_tr, semi0]
    refine Or.inr ⟨1, p, u3, rfl, (a4.tr y3).wa, y2, ?_⟩
    intro v hv hP hd hh
    obtain ⟨v1, b1, b2, b3⟩ := M_bad (g + 1) hv s hn hne
    exact ⟨v1, b1, b2, b3.wm⟩
theorem step_all {H : Nat} {T : Nat → Nat} {N : Nat} (hN : N ≤ 150) (hH : H ≤ 7) : ∀ k d, d + k = 6 → stP H T N d (21 + 3 * k) (34 + k)
  | 0, d, h => step_ok (T := T) (f := 18) (g := 32) hN hH (by omega) (fun h6 => by omega)
  | k + 1, d, h => by
    have ih := step_all (T := T) hN hH k (d + 1) (by omega)
    have r := step_ok (T := T) (f := 21 + 3 * k) (g := 33 + k) hN hH (show d ≤ 6 by omega) (fun _ => by
      rw [show 33 + k + 1 = 34 + k by omega]
      exact ih)
    rw [show 21 + 3 * k + 3 = 21 + 3 * (k + 1) by omega, show 33 + k + 2 = 34 + (k + 1) by omega] at r
    exact r
