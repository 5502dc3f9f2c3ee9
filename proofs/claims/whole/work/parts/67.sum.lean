/-! law: sums -/
theorem sum_end {l N dd : Nat} (hN : N ≤ 150) {f f' : Nat} {T : Nat → Nat} (cS cU : Nat → Nat → Int32 → MEM → Option (Int32 × MEM)) (cE : Nat → Nat → Int32 → Int32 → MEM → Option (Int32 × MEM)) (mS mU : Nat → MEM → Option (Unit × MEM)) (mT : Nat → Int32 → Int32 → MEM → Option (Unit × MEM)) (n n' j p p0 n0 h : Nat) (L : ALw) (u : MEM) (h1 : p = N) (h2 : 0 < n) (h3 : 0 < n') (hj : j ≤ p) (hT : TXC u T N p) (hL : LawC u l L) (hW : WFp L (h + 1)) (hp : L.1 ≤ p) (hp0 : p0 < p) (hn0 : L.1 + p0 ≤ n0 + p) : exO l T N p dd p0 n0 (h + 1) L u (f_X3_readSum_10 3000 cS (f_X3_readProduct 3000 f) cU cE n l 1 (nI dd) 1 (nI j) u) (f_X10_readSum_4 3000 mS (f_X10_readProduct 3000 f') mU mT n' 842) := by
  obtain ⟨n, rfl⟩ : ∃ k, n = k + 1 := ⟨n - 1, by omega⟩
  obtain ⟨n', rfl⟩ : ∃ k, n' = k + 1 := ⟨n' - 1, by omega⟩
  have hpN := hT.2.1
  have s : SK T N p p := ⟨Nat.le_refl _, hpN, fun j h1 h2 => by omega, fun h => by omega⟩
  have hTT : ∀ k < N, T k < 256 := fun k hk => (hT.2.2.2.2.2 k hk).1
  have hn : ¬ (p < N) := by omega
  have n43 : ¬ hr T N p = (43 : Int32) := hr_ne (c := 43) hTT (by omega) (by omega) (fun h => hn h.1)
  have n45 : ¬ hr T N p = (45 : Int32) := hr_ne (c := 45) hTT (by omega) (by omega) (fun h => hn h.1)
  have n37 : ¬ hr T N p = (37 : Int32) := hr_ne (c := 37) hTT (by omega) (by omega) (fun h => hn h.1)
  have p43 : ¬ pk T N p = (43 : Int32) := pk_ne (c := 43) hTT (by omega) (fun h => hn h.1)
  have p45 : ¬ pk T N p = (45 : Int32) := pk_ne (c := 45) hTT (by omega) (fun h => hn h.1)
  have p37 : ¬ pk T N p = (37 : Int32) := pk_ne (c := 37) hTT (by omega) (fun h => hn h.1)
  have mo : ∀ v, TXM v T N p → ∃ v1, TXM v1 T N p ∧ Fr pTm v v1 ∧ f_X10_readSum_4 3000 mS (f_X10_readProduct 3000 f') mU mT (n' + 1) 842 v = some ((), v1) := by
    intro v hv
    obtain ⟨v1, b1, b2, b3⟩ := M_here hv s
    obtain ⟨v2, c1, c2, c3⟩ := M_here b2 s
    refine ⟨v2, c2, b3.tr c3, ?_⟩
    rw [E_X10_readSum_4, M_fine hv.2.2.2.2.1, bnd_some, if_neg (by decide), b1, bnd_some, if_neg n43, c1, bnd_some, if_neg n45]
  obtain ⟨u1, a1, a2, a3, a4⟩ := C_peek hT s
  rw [E_X3_readSum_10, if_neg (by decide)]
  by_cases c : j < 150
  · rw [if_pos (by rw [nltL _ _ (by omega) (by decide)]; exact c), a1, bnd_some, if_neg p43, if_neg p45]
    exact exO.stop a4 a2 hL hW hp0 hn0 mo
  · rw [if_neg (by rw [nltL _ _ (by omega) (by decide)]; exact c), b01_1, ck_tr]
    exact exO.stop (Fr.rf _ _) hT hL hW hp0 hn0 mo
theorem sum_loop {l N dd g : Nat} (hU : rdOK l N dd g (f_X3_readProduct 3000) (f_X10_readProduct 3000)) (hN : N ≤ 150) {f f' : Nat} (hf : g ≤ f) (hf' : g ≤ f') {T : Nat → Nat} (cS cU : Nat → Nat → Int32 → MEM → Option (Int32 × MEM)) (cE : Nat → Nat → Int32 → Int32 → MEM → Option (Int32 × MEM)) (mS mU : Nat → MEM → Option (Unit × MEM)) (mT : Nat → Int32 → Int32 → MEM → Option (Unit × MEM)) : ∀ m n n' j p p0 n0 h (L : ALw) u, N - p ≤ m → m < n → m < n' → j ≤ p → TXC u T N p → LawC u l L → WFp L (h + 1) → L.1 ≤ p → p0 < p → L.1 + p0 ≤ n0 + p → exO l T N p dd p0 n0 (h + 1) L u (f_X3_readSum_10 3000 cS (f_X3_readProduct 3000 f) cU cE n l 1 (nI dd) 1 (nI j) u) (f_X10_readSum_4 3000 mS (f_X10_readProduct 3000 f') mU mT n' 842) := by
  intro m
  induction m with
  | zero =>
    intro n n' j p p0 n0 h L u h1 h2 h3 hj hT hL hW hp hp0 hn0
    have hpN := hT.2.1
    exact sum_end hN cS cU cE mS mU mT n n' j p p0 n0 h L u (by omega) (by omega) (by omega) hj hT hL hW hp hp0 hn0
  | succ m ih =>
    intro n n' j p p0 n0 h L u h1 h2 h3 hj hT hL hW hp hp0 hn0
    obtain ⟨n, rfl⟩ : ∃ k, n = k + 1 := ⟨n - 1, by omega⟩
    obtain ⟨n', rfl⟩ : ∃ k, n' = k + 1 := ⟨n' - 1, by omega⟩
    have hpN := hT.2.1
    obtain ⟨q, s⟩ := sk_ex T N N p hpN (by omega)
    have s2 := s.idem
    have hpq := s.1
    have hqN := s.2.1
    have hTT : ∀ k < N, T k < 256 := fun k hk => (hT.2.2.2.2.2 k hk).1
    obtain ⟨u1, a1, a2, a3, a4⟩ := C_peek hT s
    have cont : ∀ L2 r u2, q < r → L2.1 ≤ r → L2.1 + p0 ≤ n0 + r → TXC u2 T N r → LawC u2 l L2 → WFp L2 (h + 1) → exO l T N r dd p0 n0 (h + 1) L2 u2 (f_X3_readSum_10 3000 cS (f_X3_readProduct 3000 f) cU cE n l 1 (nI dd) 1 (nI j + (1 : Int32)) u2) (f_X10_readSum_4 3000 mS (f_X10_readProduct 3000 f') mU mT n' 842) := by
      intro L2 r u2 g1 g2 g3 g4 g5 g6
      rw [show nI j + (1 : Int32) = nI (j + 1) from nI_add j 1]
      exact ih n n' (j + 1) r p0 n0 h L2 u2 (by omega) (by omega) (by omega) (by omega) g4 g5 g6 g2 (by omega) g3
    have rd : ∀ u2, TXC u2 T N (q + 1) → LawC u2 l L → exO l T N (q + 1) dd (q + 1) L.1 (h + 2) L u2 (f_X3_readProduct 3000 f l 1 (nI dd) u2) (f_X10_readProduct 3000 f' 842) := fun u2 g1 g2 => hU f f' T (q + 1) L (h + 1) u2 hf hf' g1 g2 hW (by omega)
    by_cases c : j < 150
    · rw [E_X3_readSum_10, if_neg (by decide), if_pos (by rw [nltL _ _ (by omega) (by decide)]; exact c), a1, bnd_some]
      by_cases d1 : q < N ∧ T q = 43
      · obtain ⟨n, rfl⟩ : ∃ k, n = k + 1 := ⟨n - 1, by omega⟩
        obtain ⟨n', rfl⟩ : ∃ k, n' = k + 1 := ⟨n' - 1, by omega⟩
        have e43 : pk T N q = nI 43 := pkq d1.1 d1.2
        rw [e43, if_pos (show nI 43 = (43 : Int32) from rfl), E_X3_readSum_44, show ((nI 43).toUInt32 % 65536).toInt32 = nI 43 by decide]
        refine exO.pre a4 (opStep (c := 43) (o := 2) (M := fun v1 => (lt (sS v1 (11004, 842) ((rS v1 (11004, 842)) + (1 : Int32))) fun (w8 : MEM) => bnd (f_X10_readProduct 3000 f' 842 w8) fun (u10 : Unit) (w9 : MEM) => bnd (f_X10_emit 3000 842 (nI 2) (0 : Int32) w9) fun (u12 : Unit) (w11 : MEM) => f_X10_readSum_4 3000 mS (f_X10_readProduct 3000 f') mU mT (n' + 1) 842 w11)) (kC := fun x w => f_X3_readSum_10 3000 cS (f_X3_readProduct 3000 f) cU cE (n + 1) l 1 (nI dd) x (nI j + (1 : Int32)) w) (kM := f_X10_readSum_4 3000 mS (f_X10_readProduct 3000 f') mU mT (n' + 1) 842) (f1 := 0) a2 (hL.lx a4) s2 d1.1 d1.2 (by omega) (by omega) (by omega) (by decide) hN hW (by omega) (by omega) (by omega) rd (fun u2 => ?_) (fun v d q5 hF => sm4F _ _ _ _ hF) cont (fun v hv => ⟨v, hv, Fr.rf _ _, rfl⟩)) (fun v hv => ?_)
        · show f_X3_readSum_10 3000 cS (f_X3_readProduct 3000 f) cU cE (n + 1) l 1 (nI dd) 0 (nI j + (1 : Int32)) u2 = _
          rw [E_X3_readSum_10, if_pos rfl, b01_0, ck_tr]
        · obtain ⟨v1, b1, b2, b3⟩ := M_here hv s
          obtain ⟨v2, c1, c2, c3⟩ := M_here b2 s2
          refine ⟨v2, c2, b3.tr c3, ?_⟩
          have e := hrq d1.1 d1.2
          rw [e] at b1 c1
          rw [E_X10_readSum_4, M_fine hv.2.2.2.2.1, bnd_some, if_neg (by decide), b1, bnd_some, if_pos (show nI 43 = (43 : Int32) from rfl), E_X10_readSum_29, c1, bnd_some, if_pos (show nI 43 = (43 : Int32) from rfl)]
          rfl
      have p43 : ¬ pk T N q = (43 : Int32) := pk_ne (c := 43) hTT (by omega) d1
      have n43 : ¬ hr T N q = (43 : Int32) := hr_ne (c := 43) hTT (by omega) (by omega) d1
      rw [if_neg p43]
      by_cases d2 : q < N ∧ T q = 45
      · obtain ⟨n, rfl⟩ : ∃ k, n = k + 1 := ⟨n - 1, by omega⟩
        obtain ⟨n', rfl⟩ : ∃ k, n' = k + 1 := ⟨n' - 1, by omega⟩
        have e45 : pk T N q = nI 45 := pkq d2.1 d2.2
        rw [e45, if_pos (show nI 45 = (45 : Int32) from rfl), E_X3_readSum_44, show ((nI 45).toUInt32 % 65536).toInt32 = nI 45 by decide]
        refine exO.pre a4 (opStep (c := 45) (o := 3) (M := fun v1 => (lt (sS v1 (11004, 842) ((rS v1 (11004, 842)) + (1 : Int32))) fun (w8 : MEM) => bnd (f_X10_readProduct 3000 f' 842 w8) fun (u10 : Unit) (w9 : MEM) => bnd (f_X10_emit 3000 842 (nI 3) (0 : Int32) w9) fun (u12 : Unit) (w11 : MEM) => f_X10_readSum_4 3000 mS (f_X10_readProduct 3000 f') mU mT (n' + 1) 842 w11)) (kC := fun x w => f_X3_readSum_10 3000 cS (f_X3_readProduct 3000 f) cU cE (n + 1) l 1 (nI dd) x (nI j + (1 : Int32)) w) (kM := f_X10_readSum_4 3000 mS (f_X10_readProduct 3000 f') mU mT (n' + 1) 842) (f1 := 0) a2 (hL.lx a4) s2 d2.1 d2.2 (by omega) (by omega) (by omega) (by decide) hN hW (by omega) (by omega) (by omega) rd (fun u2 => ?_) (fun v d q5 hF => sm4F _ _ _ _ hF) cont (fun v hv => ⟨v, hv, Fr.rf _ _, rfl⟩)) (fun v hv => ?_)
        · show f_X3_readSum_10 3000 cS (f_X3_readProduct 3000 f) cU cE (n + 1) l 1 (nI dd) 0 (nI j + (1 : Int32)) u2 = _
          rw [E_X3_readSum_10, if_pos rfl, b01_0, ck_tr]
        · obtain ⟨v1, b1, b2, b3⟩ := M_here hv s
          obtain ⟨v2, c1, c2, c3⟩ := M_here b2 s2
          obtain ⟨v3, g1, g2, g3⟩ := M_here c2 s2
          refine ⟨v3, g2, (b3.tr c3).tr g3, ?_⟩
          have e := hrq d2.1 d2.2
          rw [e] at b1 c1 g1
          rw [E_X10_readSum_4, M_fine hv.2.2.2.2.1, bnd_some, if_neg (by decide), b1, bnd_some, if_neg (by decide), c1, bnd_some, if_pos (show nI 45 = (45 : Int32) from rfl), E_X10_readSum_29, g1, bnd_some, if_neg (by decide)]
          rfl
      have p45 : ¬ pk T N q = (45 : Int32) := pk_ne (c := 45) hTT (by omega) d2
      have n45 : ¬ hr T N q = (45 : Int32) := hr_ne (c := 45) hTT (by omega) (by omega) d2
      rw [if_neg p45]
      refine exO.stop a4 a2 hL hW (by omega) (by omega) (fun v hv => ?_)
      obtain ⟨v1, b1, b2, b3⟩ := M_here hv s
      obtain ⟨v2, c1, c2, c3⟩ := M_here b2 s2
      refine ⟨v2, c2, b3.tr c3, ?_⟩
      rw [E_X10_readSum_4, M_fine hv.2.2.2.2.1, bnd_some, if_neg (by decide), b1, bnd_some, if_neg n43, c1, bnd_some, if_neg n45]
    · exact sum_end hN cS cU cE mS mU mT (n + 1) (n' + 1) j p p0 n0 h L u (by omega) (by omega) (by omega) hj hT hL hW hp hp0 hn0
theorem sum_ok {l N dd g : Nat} (hU : rdOK l N dd g (f_X3_readProduct 3000) (f_X10_readProduct 3000)) (hN : N ≤ 150) : rdOK l N dd (g + 1) (f_X3_readSum 3000) (f_X10_readSum 3000) := by
  intro f f' T p L h u hf hf' hT hL hW hp
  obtain ⟨f, rfl⟩ : ∃ k, f = k + 1 := ⟨f - 1, by omega⟩
  obtain ⟨f', rfl⟩ : ∃ k, f' = k + 1 := ⟨f' - 1, by omega⟩
  rw [Et_X3_readSum, E_X3_readSum]
  rcases hU f f' T p L h u (by omega) (by omega) hT hL hW hp with ⟨L1, r, u1, i1, i2, i3, i4, i5, i6, i7, i8⟩ | ⟨d, q5, u1, i1, i2, i3, i4, i5⟩
  · rw [i1, bnd_some]
    have hr := i3.2.1
    have pl := sum_loop (T := T) hU hN (f := f) (f' := f') (by omega) (by omega) (f_X3_readSum 3000 f) (f_X3_readUnit 3000 f) (f_X3_readEither 3000 f) (f_X10_readSum 3000 f') (f_X10_readUnit 3000 f') (f_X10_readTwo 3000 f') N 3000 3000 0 r p L.1 h L1 u1 (by omega) (by omega) (by omega) (by omega) i3 i4 i5 (by omega) i6 i7
    have pl : exO l T N r dd p L.1 (h + 1) L1 u1 (f_X3_readSum_10 3000 (f_X3_readSum 3000 f) (f_X3_readProduct 3000 f) (f_X3_readUnit 3000 f) (f_X3_readEither 3000 f) 3000 l 1 (nI dd) 1 0 u1) (f_X10_readSum_4 3000 (f_X10_readSum 3000 f') (f_X10_readProduct 3000 f') (f_X10_readUnit 3000 f') (f_X10_readTwo 3000 f') 3000 842) := pl
    rcases pl with ⟨L2, r2, u2, j1, j2, j3, j4, j5, j6, j7, j8⟩ | ⟨d, q5, u2, j1, j2, j3, j4, j5⟩
    · refine Or.inl ⟨L2, r2, u2, j1, i2.tr j2, j3, j4, j5, j6, j7, ?_⟩
      intro v hv hP hd
      obtain ⟨v1, b1, b2, b3, b4, b5⟩ := i8 v hv hP hd
      obtain ⟨v2, d1, d2, d3, d4, d5⟩ := j8 v1 b2 b3 b4
      exact ⟨v2, by rw [Et_X10_readSum, E_X10_readSum, b1, bnd_some, d1], d2, d3, d4, b5.tr d5⟩
    · refine Or.inr ⟨d, q5, u2, j1, i2.tr j2, j3, j4, ?_⟩
      intro v hv hP hd
      obtain ⟨v1, b1, b2, b3, b4, b5⟩ := i8 v hv hP hd
      obtain ⟨v2, d1, d2, d5⟩ := j5 v1 b2 b3 b4
      exact ⟨v2, by rw [Et_X10_readSum, E_X10_readSum, b1, bnd_some, d1], d2, b5.tr d5⟩
  · rw [i1, bnd_some, E_X3_readSum_10, if_pos rfl, b01_0, ck_tr]
    refine Or.inr ⟨d, q5, u1, rfl, i2, i3, i4, ?_⟩
    intro v hv hP hd
    obtain ⟨v1, b1, b2, b5⟩ := i5 v hv hP hd
    exact ⟨v1, by rw [Et_X10_readSum, E_X10_readSum, b1, bnd_some, sm4F _ _ _ _ b2], b2, b5⟩
