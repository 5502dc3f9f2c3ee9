/-! law: a unit; every depth -/
theorem wL4 : wL 4 = 5 := by decide
theorem wL5 : wL 5 = 4 := by decide
theorem unit_ok {l N dd g : Nat} (hN : N ≤ 150) (hdd : dd ≤ 6) (hg : 3 ≤ g) (hS : dd < 6 → rdOK l N (dd + 1) g (f_X3_readSum 3000) (f_X10_readSum 3000)) : rdOK l N dd (g + 2) (f_X3_readUnit 3000) (f_X10_readUnit 3000) := by
  intro f f' T p L h u hf hf' hT hL hW hp
  obtain ⟨f, rfl⟩ : ∃ k, f = k + 2 := ⟨f - 2, by omega⟩
  obtain ⟨f', rfl⟩ : ∃ k, f' = k + 2 := ⟨f' - 2, by omega⟩
  have hpN := hT.2.1
  obtain ⟨q, s⟩ := sk_ex T N N p hpN (by omega)
  have s2 := s.idem
  have hpq := s.1
  have hqN := s.2.1
  obtain ⟨n, hn⟩ := rl_ex T N N q hqN (by omega)
  have d6 : (nI dd < (6 : Int32)) = (dd < 6) := nltL dd 6 (by omega) (by decide)
  have ad : nI dd + (1 : Int32) = nI (dd + 1) := nI_add dd 1
  have ex3 : ∀ u2, Fr pTx u u2 → rS u2 (10804, 1) = nI q → dd = 6 → (∀ v, TXM v T N p → rS v (11007, 842) = nI dd → ∃ v1, f_X10_readUnit 3000 (f' + 2) 842 v = some ((), v1) ∧ TFM v1 3 q ∧ Fr pLm v v1) → exO l T N p dd p L.1 (h + 1) L u (bnd (f_X8_refuse 3000 1 (3 : Int32) u2) fun (x12 : Int32) (w11 : MEM) => ck (b01 x12) (some (x12, w11))) (f_X10_readUnit 3000 (f' + 2) 842) := by
    intro u2 g1 g2 g3 g4
    obtain ⟨u3, y1, y2, y3⟩ := C_refuse 3 g2
    have y1 : f_X8_refuse 3000 1 (3 : Int32) u2 = some (0, u3) := y1
    rw [y1, bnd_some, b01_0, ck_tr]
    exact Or.inr ⟨3, q, u3, rfl, (g1.tr y3).la l, y2, (cntl hL (by omega)).fr (g1.tr y3), fun v hv hP hd => g4 v hv hd⟩
  rw [Et_X3_readUnit, E_X3_readUnit]
  rcases C_take (c := 40) hT s (by omega) with ⟨t1, t2, u1, a1, a2, a3, a4⟩ | ⟨t1, u1, a1, a2, a3, a4⟩
  · have a1 : f_X8_takeSign 3000 1 (40 : Int32) u = some (1, u1) := a1
    rw [a1, bnd_some, if_neg (by decide)]
    have mo : ∀ v, TXM v T N p → ∃ v1, TXM v1 T N q ∧ Fr pTm v v1 ∧ f_X10_readUnit 3000 (f' + 2) 842 v = bnd (f_X10_opensOne 3000 842 (1 : Int32) v1) fun (u42 : Unit) (w41 : MEM) => bnd (f_X10_readSum 3000 (f' + 1) 842 w41) fun (u44 : Unit) (w43 : MEM) => bnd (f_X10_sign 3000 842 (41 : Int32) w43) fun (u46 : Unit) (w45 : MEM) => lt (sS w45 (11007, 842) ((rS w45 (11007, 842)) - (1 : Int32))) fun (w47 : MEM) => some ((), w47) := by
      intro v hv
      obtain ⟨v1, b1, b2, b3⟩ := M_here hv s
      refine ⟨v1, b2, b3, ?_⟩
      rw [Et_X10_readUnit, E_X10_readUnit, M_fine hv.2.2.2.2.1, bnd_some, if_neg (by decide), b1, bnd_some, hrq t1 t2, if_pos (show nI 40 = (40 : Int32) from rfl)]
    by_cases c6 : dd < 6
    · rw [if_pos (by rw [d6]; exact c6), ad]
      refine exO.pre2 a4 (paren_ok (hS c6) hN (f := f + 1) (f' := f' + 1) (by omega) (by omega) a2 (hL.lx a4) hW (by omega) (by omega) (by omega)) (fun v hv hd => ?_)
      obtain ⟨v1, b1, b2, b3⟩ := mo v hv
      have o := opens_ok (k := 1) b1 ((b2.2.1 _ rfl).trans hd) c6
      have o : f_X10_opensOne 3000 842 (1 : Int32) v1 = _ := o
      refine ⟨sS v1 (11004, 842) (nI (q + 1)), b1.at (by omega), b2.tr (Fr.S (a := (11004, 842)) (Fr.rf _ _) _ rfl), ?_⟩
      rw [b3, o, bnd_some]
    · rw [if_neg (by rw [d6]; exact c6)]
      refine ex3 u1 a4 a3 (by omega) (fun v hv hd => ?_)
      obtain ⟨v1, b1, b2, b3⟩ := mo v hv
      obtain ⟨v2, o1, o2, o3⟩ := opens_bad 1 b1 (((b2.2.1 _ rfl).trans hd).trans (by rw [show dd = 6 by omega]))
      refine ⟨sS v2 (11007, 842) (rS v2 (11007, 842) - 1), ?_, o2, Fr.S (a := (11007, 842)) (b2.lm.tr o3) _ rfl⟩
      rw [b3, o1, bnd_some, sumF (by omega) o2, bnd_some, M_signF _ o2, bnd_some, lt_eq]
  · have a1 : f_X8_takeSign 3000 1 (40 : Int32) u = some (0, u1) := a1
    rw [a1, bnd_some, if_pos rfl]
    have nd : 0 < n → ¬ (q < N ∧ (48 ≤ T q ∧ T q ≤ 57)) := by
      intro h0 h1
      have := hn.2.1 0 h0
      rw [Nat.add_zero] at this
      omega
    have eith : ∀ (kc : Int32) (o k : Nat) (u2 : MEM), (2 ≤ o ∧ o ≤ 8) → kc = kmap (nI o) → ¬ kc = -1 → TXC u2 T N (q + k) → Fr pTx u u2 → rS u2 (10804, 1) = nI q → 0 < k → (∀ v, TXM v T N p → ∃ v1, TXM v1 T N q ∧ Fr pTm v v1 ∧ f_X10_readUnit 3000 (f' + 2) 842 v = f_X10_readTwo 3000 (f' + 1) 842 (nI k) (nI o) v1) → exO l T N p dd p L.1 (h + 1) L u (f_X3_readUnit_76 3000 (f_X3_readSum 3000 (f + 1)) (f_X3_readProduct 3000 (f + 1)) (f_X3_readUnit 3000 (f + 1)) (f_X3_readEither 3000 (f + 1)) l 1 (nI dd) kc u2) (f_X10_readUnit 3000 (f' + 2) 842) := by
      intro kc o k u2 ho hk h1 hT2 g2 g3 hk0 mo
      have hqk := hT2.2.1
      rw [E_X3_readUnit_76, if_neg h1]
      by_cases c6 : dd < 6
      · rw [if_pos (by rw [d6]; exact c6), ad]
        refine exO.pre2 g2 (either_ok (hS c6) hN hg ho hk (f := f) (f' := f') (by omega) (by omega) hT2 (hL.lx g2) hW (by omega) (by omega) (by omega)).ck (fun v hv hd => ?_)
        obtain ⟨v1, b1, b2, b3⟩ := mo v hv
        refine ⟨sS v1 (11004, 842) (nI (q + k)), b1.at (by omega), b2.tr (Fr.S (a := (11004, 842)) (Fr.rf _ _) _ rfl), ?_⟩
        rw [b3, Et_X10_readTwo, E_X10_readTwo, opens_ok (k := k) b1 ((b2.2.1 _ rfl).trans hd) c6, bnd_some]
      · rw [if_neg (by rw [d6]; exact c6)]
        refine ex3 u2 g2 g3 (by omega) (fun v hv hd => ?_)
        obtain ⟨v1, b1, b2, b3⟩ := mo v hv
        obtain ⟨v2, o1, o2, o3⟩ := opens_bad (nI k) b1 (((b2.2.1 _ rfl).trans hd).trans (by rw [show dd = 6 by omega]))
        refine ⟨sS v2 (11007, 842) (rS v2 (11007, 842) - 1), ?_, o2, Fr.S (a := (11007, 842)) (b2.lm.tr o3) _ rfl⟩
        rw [b3, Et_X10_readTwo, E_X10_readTwo, o1, bnd_some, M_signF _ o2, bnd_some, sumF (by omega) o2, bnd_some]
        exact tailF (by omega) _ o2
    have hx := wcT_lt hn
    rcases C_word (l := 4) (by omega) a2 s2 hn with ⟨e4, u2, k1, k2, k3, k4⟩ | ⟨e4, u2, k1, k2, k3, k4⟩
    · have en := ((wc_iff (by omega) hn).mp e4).1
      rw [wL4] at en
      subst en
      rw [k1, bnd_some, if_neg (by decide)]
      refine eith 2 6 5 u2 (by omega) (by decide) (by decide) k2 (a4.tr k4) k3 (by omega) (fun v hv => ?_)
      obtain ⟨v1, b1, b2, b3⟩ := un_M (f1 := f' + 1) hv s t1
      obtain ⟨v2, c1, c2, c3⟩ := M_word b1 s2 hn
      refine ⟨v2, c2, b2.tr c3, ?_⟩
      rw [b3, if_neg (nd (by omega))]
      unfold unW
      rw [c1, bnd_some, M_of (by omega), bnd_some, if_pos (by rw [e4]), bnd_id]
      rfl
    rw [k1, bnd_some, if_pos rfl]
    have n4 : ¬ nI (wcT T q n) = nI (wC 4) := by rw [neqI _ _ hx (wC_lt 4 (by omega))]; exact e4
    rcases C_word (l := 5) (by omega) k2 s2 hn with ⟨e5, u3, l1, l2, l3, l4⟩ | ⟨e5, u3, l1, l2, l3, l4⟩
    · have en := ((wc_iff (by omega) hn).mp e5).1
      rw [wL5] at en
      subst en
      rw [l1, bnd_some, if_neg (by decide)]
      refine eith 3 7 4 u3 (by omega) (by decide) (by decide) l2 ((a4.tr k4).tr l4) l3 (by omega) (fun v hv => ?_)
      obtain ⟨v1, b1, b2, b3⟩ := un_M (f1 := f' + 1) hv s t1
      obtain ⟨v2, c1, c2, c3⟩ := M_word b1 s2 hn
      obtain ⟨v3, g1, g2, g3⟩ := M_word c2 s2 hn
      refine ⟨v3, g2, (b2.tr c3).tr g3, ?_⟩
      rw [b3, if_neg (nd (by omega))]
      unfold unW
      rw [c1, bnd_some, M_of (by omega), bnd_some, if_neg n4, g1, bnd_some, M_of (by omega), bnd_some, if_pos (by rw [e5]), bnd_id]
      rfl
    rw [l1, bnd_some, if_pos rfl, E_X3_readUnit_76, if_pos rfl]
    have n5 : ¬ nI (wcT T q n) = nI (wC 5) := by rw [neqI _ _ hx (wC_lt 5 (by omega))]; exact e5
    have f3 : Fr pTx u u3 := (a4.tr k4).tr l4
    have mo : ∀ v, TXM v T N p → ¬ (q < N ∧ (48 ≤ T q ∧ T q ≤ 57)) → ∃ v1, TXM v1 T N q ∧ Fr pTm v v1 ∧ f_X10_readUnit 3000 (f' + 2) 842 v = bnd (f_X10_factHere 3000 842 v1) fun (x18 : Int32) (w17 : MEM) => if x18 = (-1 : Int32) then (bnd (f_X10_wrong 3000 842 (1 : Int32) (rS w17 (11004, 842)) w17) fun (u26 : Unit) (w25 : MEM) => bnd (f_X10_fine 3000 842 w25) fun (x28 : Int32) (w27 : MEM) => if x28 = 0 then (some ((), w27)) else (bnd (f_X10_pass 3000 842 w27) fun (u30 : Unit) (w29 : MEM) => bnd (f_X10_emit 3000 842 (1 : Int32) x18 w29) fun (u32 : Unit) (w31 : MEM) => some ((), w31))) else (bnd (f_X10_fine 3000 842 w17) fun (x20 : Int32) (w19 : MEM) => if x20 = 0 then (some ((), w19)) else (bnd (f_X10_pass 3000 842 w19) fun (u22 : Unit) (w21 : MEM) => bnd (f_X10_emit 3000 842 (1 : Int32) x18 w21) fun (u24 : Unit) (w23 : MEM) => some ((), w23))) := by
      intro v hv hnd
      obtain ⟨v1, b1, b2, b3⟩ := un_M (f1 := f' + 1) hv s t1
      obtain ⟨v2, c1, c2, c3⟩ := M_word b1 s2 hn
      obtain ⟨v3, g1, g2, g3⟩ := M_word c2 s2 hn
      refine ⟨v3, g2, (b2.tr c3).tr g3, ?_⟩
      rw [b3, if_neg hnd]
      unfold unW
      rw [c1, bnd_some, M_of (by omega), bnd_some, if_neg n4, g1, bnd_some, M_of (by omega), bnd_some, if_neg n5]
    rcases C_fact l2 s2 hn with ⟨j, u4, hj, ej, y1, y2, y3⟩ | ⟨hne, u4, y1, y2, y3⟩
    · have en := ((wc_iff (fwd_lt j hj) hn).mp ej).1
      have w0 := (wN_ok (fwd j) (fwd_lt j hj)).1
      have hqn := hn.1
      have h150 : L.1 < 150 := by omega
      obtain ⟨u5, z1, z2, z3, z4⟩ := add_C (kk := 1) 1 (nI j) (by decide) y2 (hL.lx (f3.tr y3)) h150
      rw [y1, bnd_some, if_neg (ne_m1 (by omega)), z1, bnd_some]
      refine Or.inl ⟨psh L 1 (nI j), q + n, u5, rfl, ((f3.tr y3).la l).tr z4, z2, z3, hW.psh (h + 1) (Or.inl ⟨Or.inr ⟨rfl, j, hj, rfl⟩, rfl⟩), by omega, ?_, ?_⟩
      · show L.1 + 1 + p ≤ L.1 + (q + n)
        omega
      · intro v hv hP hd
        obtain ⟨v1, b1, b2, b3⟩ := mo v hv (nd (by omega))
        obtain ⟨v2, c1, c2, c3⟩ := M_fact b1 s2 hn
        obtain ⟨v3, g1, g2, g3⟩ := M_pass c1 hn
        have hP3 : PgM v3 L := ((hP.fr b2).fr c2).fr g3
        obtain ⟨v4, m1, m2, m3, m4, m5⟩ := emit_M 1 (nI j) g2 hP3 h150
        rcases c3 with ⟨j2, hj2, ej2, c4⟩ | ⟨c4, _⟩
        · have : j2 = j := fwd_inj j2 hj2 j hj (ej2.symm.trans ej)
          subst this
          refine ⟨v4, ?_, m2, m3, m5.trans ((g3.2.1 _ rfl).trans ((c2.2.1 _ rfl).trans ((b2.2.1 _ rfl).trans hd))), ((b2.tr c2).tr g3).lm.tr m4⟩
          rw [b3, c4, bnd_some, if_neg (ne_m1 (by omega)), M_fine c1.2.2.2.2.1, bnd_some, if_neg (by decide), g1, bnd_some, m1, bnd_some]
        · exact absurd ej (c4 j hj)
    · obtain ⟨r, d⟩ := rd_ex T N N q hqN (by omega)
      have f4 : Fr pTx u u4 := f3.tr y3
      rw [y1, bnd_some, if_pos rfl]
      rcases C_num (lo := 0) (n := 1000) (hi := 999) y2 s2 d (by omega) rfl (by omega) with ⟨z1, z2, z3, u5, z4, z5, z6, z7⟩ | ⟨z1, z2, u5, z4, z5, z6⟩ | ⟨z1, u5, z4, z5, z6⟩
      · obtain ⟨A, hA⟩ : ∃ A, dv T q (r - q) = A := ⟨_, rfl⟩
        rw [hA] at z2 z3 z4
        have z4 : f_X8_number 3000 1 (0 : Int32) (999 : Int32) u4 = some (nI A, u5) := z4
        have hrN := z5.2.1
        have h150 : L.1 < 150 := by omega
        obtain ⟨u6, o1, o2, o3, o4⟩ := add_C (kk := 0) 0 (nI A) (by decide) z5 (hL.lx (f4.tr z6)) h150
        rw [z4, bnd_some, o1, bnd_some, if_neg (ne_m1 (by omega))]
        refine Or.inl ⟨psh L 0 (nI A), r, u6, rfl, ((f4.tr z6).la l).tr o4, o2, o3, hW.psh (h + 1) (Or.inl ⟨Or.inl rfl, rfl⟩), by omega, ?_, ?_⟩
        · show L.1 + 1 + p ≤ L.1 + r
          omega
        · intro v hv hP hd
          obtain ⟨v1, b1, b2, b3⟩ := un_M (f1 := f' + 1) hv s t1
          rcases M_num (lo := 0) (n := 1000) (hi := 999) b1 s2 d (by omega) rfl (by omega) with ⟨m1, m2, m3, v3, m4, m5, m6⟩ | ⟨m1, m2, v3, m4, m5, m6⟩ | ⟨m1, v3, m4, m5, m6⟩
          · rw [hA] at m4
            have m4 : f_X10_readNumber 3000 842 (0 : Int32) (999 : Int32) v1 = some (nI A, v3) := m4
            have hP3 : PgM v3 L := (hP.fr b2).fr m6
            obtain ⟨v4, x1, x2, x3, x4, x5⟩ := emit_M 0 (nI A) m5 hP3 h150
            refine ⟨v4, ?_, x2, x3, x5.trans ((m6.2.1 _ rfl).trans ((b2.2.1 _ rfl).trans hd)), (b2.tr m6).lm.tr x4⟩
            rw [b3, if_pos ⟨by omega, d.2.2.1 q (Nat.le_refl _) z1⟩, m4, bnd_some, x1, bnd_some]
          · rw [hA] at m2
            exact absurd ⟨z2, z3⟩ m2
          · omega
      · have z4 : f_X8_number 3000 1 (0 : Int32) (999 : Int32) u4 = some (-1, u5) := z4
        obtain ⟨u6, o1, o2, o3, o4⟩ := add_any 0 (-1) ((cntl hL (by omega)).fr (f4.tr z6)) z5
        have hrN := d.2.1
        rw [z4, bnd_some, o1, bnd_some, if_pos rfl]
        refine Or.inr ⟨2, q, u6, rfl, ((f4.tr z6).la l).tr o4, o3, o2, ?_⟩
        intro v hv hP hd
        obtain ⟨v1, b1, b2, b3⟩ := un_M (f1 := f' + 1) hv s t1
        rcases M_num (lo := 0) (n := 1000) (hi := 999) b1 s2 d (by omega) rfl (by omega) with ⟨m1, m2, m3, v3, m4, m5, m6⟩ | ⟨m1, m2, v3, m4, m5, m6⟩ | ⟨m1, v3, m4, m5, m6⟩
        · exact absurd ⟨m2, m3⟩ z2
        · have m4 : f_X10_readNumber 3000 842 (0 : Int32) (999 : Int32) v1 = some (0, v3) := m4
          refine ⟨v3, ?_, m5, (b2.tr m6).lm⟩
          rw [b3, if_pos ⟨by omega, d.2.2.1 q (Nat.le_refl _) z1⟩, m4, bnd_some, emit_F _ _ m5, bnd_some]
        · omega
      · have z4 : f_X8_number 3000 1 (0 : Int32) (999 : Int32) u4 = some (-1, u5) := z4
        obtain ⟨u6, o1, o2, o3, o4⟩ := add_any 0 (-1) ((cntl hL (by omega)).fr (f4.tr z6)) z5
        rw [z4, bnd_some, o1, bnd_some, if_pos rfl]
        refine Or.inr ⟨1, q, u6, rfl, ((f4.tr z6).la l).tr o4, o3, o2, ?_⟩
        intro v hv hP hd
        have hnd : ¬ (q < N ∧ (48 ≤ T q ∧ T q ≤ 57)) := fun x => d.2.2.2 (by omega) (z1 ▸ x.2)
        obtain ⟨v1, b1, b2, b3⟩ := mo v hv hnd
        obtain ⟨v2, c1, c2, c3⟩ := M_fact b1 s2 hn
        obtain ⟨v3, x1, x2, x3⟩ := M_wrong 1 (q := q) (by omega) c1
        have x1 : f_X10_wrong 3000 842 (1 : Int32) (nI q) v2 = some ((), v3) := x1
        rcases c3 with ⟨j2, hj2, ej2, c4⟩ | ⟨_, c4⟩
        · exact absurd ej2 (hne j2 hj2)
        · refine ⟨v3, ?_, x2, ((b2.tr c2).tr x3).lm⟩
          rw [b3, c4, bnd_some, if_pos rfl, c1.2.2.2.1, x1, bnd_some, M_fineF x2, bnd_some, if_pos rfl]
theorem sum_all {l N : Nat} (hN : N ≤ 150) : ∀ e dd, dd + e = 6 → rdOK l N dd (4 * e + 7) (f_X3_readSum 3000) (f_X10_readSum 3000)
  | 0, dd, h => sum_ok (prod_ok (unit_ok (g := 3) hN (by omega) (by omega) (fun h2 => by omega)) hN) hN
  | e + 1, dd, h => sum_ok (prod_ok (unit_ok (g := 4 * e + 7) hN (by omega) (by omega) (fun _ => sum_all hN e (dd + 1) (by omega))) hN) hN
