/-! law: products and sums -/
theorem exO.pre {l : Nat} {T : Nat → Nat} {N p q dd p0 n0 h1 : Nat} {L : ALw} {u u1 : MEM} {x : Option (Int32 × MEM)} {M M1 : MEM → Option (Unit × MEM)} (f : Fr pTx u u1) (h : exO l T N q dd p0 n0 h1 L u1 x M1) (hM : ∀ v, TXM v T N p → ∃ v1, TXM v1 T N q ∧ Fr pTm v v1 ∧ M v = M1 v1) : exO l T N p dd p0 n0 h1 L u x M := by
  rcases h with ⟨L1, r, u2, i1, i2, i3, i4, i5, i6, i7, i8⟩ | ⟨d, q5, u2, i1, i2, i3, i4, i5⟩
  · refine Or.inl ⟨L1, r, u2, i1, (f.la l).tr i2, i3, i4, i5, i6, i7, ?_⟩
    intro v hv hP hd
    obtain ⟨v1, b1, b2, b3⟩ := hM v hv
    obtain ⟨v2, d1, d2, d3, d4, d5⟩ := i8 v1 b1 (hP.fr b2) ((b2.2.1 _ rfl).trans hd)
    exact ⟨v2, b3.trans d1, d2, d3, d4, b2.lm.tr d5⟩
  · refine Or.inr ⟨d, q5, u2, i1, (f.la l).tr i2, i3, i4, ?_⟩
    intro v hv hP hd
    obtain ⟨v1, b1, b2, b3⟩ := hM v hv
    obtain ⟨v2, d1, d2, d5⟩ := i5 v1 b1 (hP.fr b2) ((b2.2.1 _ rfl).trans hd)
    exact ⟨v2, b3.trans d1, d2, b2.lm.tr d5⟩
theorem exO.stop {l : Nat} {T : Nat → Nat} {N p q dd p0 n0 h1 : Nat} {L : ALw} {u u1 : MEM} {M : MEM → Option (Unit × MEM)} (f : Fr pTx u u1) (hT : TXC u1 T N q) (hL : LawC u l L) (hW : WFp L h1) (hp : p0 < q) (hn : L.1 + p0 ≤ n0 + q) (hM : ∀ v, TXM v T N p → ∃ v1, TXM v1 T N q ∧ Fr pTm v v1 ∧ M v = some ((), v1)) : exO l T N p dd p0 n0 h1 L u (some (1, u1)) M := by
  refine Or.inl ⟨L, q, u1, rfl, f.la l, hT, hL.lx f, hW, hp, hn, ?_⟩
  intro v hv hP hd
  obtain ⟨v1, b1, b2, b3⟩ := hM v hv
  exact ⟨v1, b3, b1, hP.fr b2, (b2.2.1 _ rfl).trans hd, b2.lm⟩
theorem hr_ne {T : Nat → Nat} {N q c : Nat} (hT : ∀ k < N, T k < 256) (c0 : 0 < c) (c1 : c < 128) (h : ¬ (q < N ∧ T q = c)) : ¬ hr T N q = nI c := by
  unfold hr
  by_cases d : q < N
  · have := hT q d
    rw [if_pos d, neqI _ _ (by omega) (by omega)]
    exact fun e => h ⟨d, e⟩
  · rw [if_neg d]
    exact fun e => nI_ne0 c0 (by omega) e.symm
theorem pk_ne {T : Nat → Nat} {N q c : Nat} (hT : ∀ k < N, T k < 256) (c1 : c < 128) (h : ¬ (q < N ∧ T q = c)) : ¬ pk T N q = nI c := by
  unfold pk
  by_cases d : q < N
  · have := hT q d
    rw [if_pos d, neqI _ _ (by omega) (by omega)]
    exact fun e => h ⟨d, e⟩
  · rw [if_neg d]
    exact fun e => ne_m1 (q := c) (by omega) e.symm
theorem hrq {T : Nat → Nat} {N q c : Nat} (h : q < N) (e : T q = c) : hr T N q = nI c := by
  unfold hr
  rw [if_pos h, e]
theorem pkq {T : Nat → Nat} {N q c : Nat} (h : q < N) (e : T q = c) : pk T N q = nI c := by
  unfold pk
  rw [if_pos h, e]
def rdOK (l N dd g : Nat) (rC : Nat → Nat → Nat → Int32 → MEM → Option (Int32 × MEM)) (rM : Nat → Nat → MEM → Option (Unit × MEM)) : Prop := ∀ f f' T p L h u, g ≤ f → g ≤ f' → TXC u T N p → LawC u l L → WFp L h → L.1 ≤ p → exO l T N p dd p L.1 (h + 1) L u (rC f l 1 (nI dd) u) (rM f' 842)
theorem pr4F {v : MEM} {d q n : Nat} (a : Nat → MEM → Option (Unit × MEM)) (b : Nat → MEM → Option (Unit × MEM)) (c : Nat → MEM → Option (Unit × MEM)) (e : Nat → Int32 → Int32 → MEM → Option (Unit × MEM)) (h : TFM v d q) : f_X10_readProduct_4 3000 a b c e (n + 1) 842 v = some ((), v) := by
  rw [E_X10_readProduct_4, M_fineF h, bnd_some, if_pos rfl]
theorem sm4F {v : MEM} {d q n : Nat} (a : Nat → MEM → Option (Unit × MEM)) (b : Nat → MEM → Option (Unit × MEM)) (c : Nat → MEM → Option (Unit × MEM)) (e : Nat → Int32 → Int32 → MEM → Option (Unit × MEM)) (h : TFM v d q) : f_X10_readSum_4 3000 a b c e (n + 1) 842 v = some ((), v) := by
  rw [E_X10_readSum_4, M_fineF h, bnd_some, if_pos rfl]
theorem prod_end {l N dd : Nat} (hN : N ≤ 150) {f f' : Nat} {T : Nat → Nat} (cS cP : Nat → Nat → Int32 → MEM → Option (Int32 × MEM)) (cE : Nat → Nat → Int32 → Int32 → MEM → Option (Int32 × MEM)) (mS mP : Nat → MEM → Option (Unit × MEM)) (mT : Nat → Int32 → Int32 → MEM → Option (Unit × MEM)) (n n' j p p0 n0 h : Nat) (L : ALw) (u : MEM) (h1 : p = N) (h2 : 0 < n) (h3 : 0 < n') (hj : j ≤ p) (hT : TXC u T N p) (hL : LawC u l L) (hW : WFp L (h + 1)) (hp : L.1 ≤ p) (hp0 : p0 < p) (hn0 : L.1 + p0 ≤ n0 + p) : exO l T N p dd p0 n0 (h + 1) L u (f_X3_readProduct_10 3000 cS cP (f_X3_readUnit 3000 f) cE n l 1 (nI dd) 1 (nI j) u) (f_X10_readProduct_4 3000 mS mP (f_X10_readUnit 3000 f') mT n' 842) := by
  obtain ⟨n, rfl⟩ : ∃ k, n = k + 1 := ⟨n - 1, by omega⟩
  obtain ⟨n', rfl⟩ : ∃ k, n' = k + 1 := ⟨n' - 1, by omega⟩
  have hpN := hT.2.1
  have s : SK T N p p := ⟨Nat.le_refl _, hpN, fun j h1 h2 => by omega, fun h => by omega⟩
  have hTT : ∀ k < N, T k < 256 := fun k hk => (hT.2.2.2.2.2 k hk).1
  have hn : ¬ (p < N) := by omega
  have n42 : ¬ hr T N p = (42 : Int32) := hr_ne (c := 42) hTT (by omega) (by omega) (fun h => hn h.1)
  have n47 : ¬ hr T N p = (47 : Int32) := hr_ne (c := 47) hTT (by omega) (by omega) (fun h => hn h.1)
  have n37 : ¬ hr T N p = (37 : Int32) := hr_ne (c := 37) hTT (by omega) (by omega) (fun h => hn h.1)
  have p42 : ¬ pk T N p = (42 : Int32) := pk_ne (c := 42) hTT (by omega) (fun h => hn h.1)
  have p47 : ¬ pk T N p = (47 : Int32) := pk_ne (c := 47) hTT (by omega) (fun h => hn h.1)
  have p37 : ¬ pk T N p = (37 : Int32) := pk_ne (c := 37) hTT (by omega) (fun h => hn h.1)
  have mo : ∀ v, TXM v T N p → ∃ v1, TXM v1 T N p ∧ Fr pTm v v1 ∧ f_X10_readProduct_4 3000 mS mP (f_X10_readUnit 3000 f') mT (n' + 1) 842 v = some ((), v1) := by
    intro v hv
    obtain ⟨v1, b1, b2, b3⟩ := M_here hv s
    obtain ⟨v2, c1, c2, c3⟩ := M_here b2 s
    obtain ⟨v3, d1, d2, d3⟩ := M_here c2 s
    refine ⟨v3, d2, (b3.tr c3).tr d3, ?_⟩
    rw [E_X10_readProduct_4, M_fine hv.2.2.2.2.1, bnd_some, if_neg (by decide), b1, bnd_some, if_neg n42, c1, bnd_some, if_neg n47, d1, bnd_some, if_neg n37]
  obtain ⟨u1, a1, a2, a3, a4⟩ := C_peek hT s
  rw [E_X3_readProduct_10, if_neg (by decide)]
  by_cases c : j < 150
  · rw [if_pos (by rw [nltL _ _ (by omega) (by decide)]; exact c), a1, bnd_some, if_neg p42, if_neg p47, if_neg p37]
    exact exO.stop a4 a2 hL hW hp0 hn0 mo
  · rw [if_neg (by rw [nltL _ _ (by omega) (by decide)]; exact c), b01_1, ck_tr]
    exact exO.stop (Fr.rf _ _) hT hL hW hp0 hn0 mo
theorem prod_loop {l N dd g : Nat} (hU : rdOK l N dd g (f_X3_readUnit 3000) (f_X10_readUnit 3000)) (hN : N ≤ 150) {f f' : Nat} (hf : g ≤ f) (hf' : g ≤ f') {T : Nat → Nat} (cS cP : Nat → Nat → Int32 → MEM → Option (Int32 × MEM)) (cE : Nat → Nat → Int32 → Int32 → MEM → Option (Int32 × MEM)) (mS mP : Nat → MEM → Option (Unit × MEM)) (mT : Nat → Int32 → Int32 → MEM → Option (Unit × MEM)) : ∀ m n n' j p p0 n0 h (L : ALw) u, N - p ≤ m → m < n → m < n' → j ≤ p → TXC u T N p → LawC u l L → WFp L (h + 1) → L.1 ≤ p → p0 < p → L.1 + p0 ≤ n0 + p → exO l T N p dd p0 n0 (h + 1) L u (f_X3_readProduct_10 3000 cS cP (f_X3_readUnit 3000 f) cE n l 1 (nI dd) 1 (nI j) u) (f_X10_readProduct_4 3000 mS mP (f_X10_readUnit 3000 f') mT n' 842) := by
  intro m
  induction m with
  | zero =>
    intro n n' j p p0 n0 h L u h1 h2 h3 hj hT hL hW hp hp0 hn0
    have hpN := hT.2.1
    exact prod_end hN cS cP cE mS mP mT n n' j p p0 n0 h L u (by omega) (by omega) (by omega) hj hT hL hW hp hp0 hn0
  | succ m ih =>
    intro n n' j p p0 n0 h L u h1 h2 h3 hj hT hL hW hp hp0 hn0
    obtain ⟨n, rfl⟩ : ∃ k, n = k + 1 := ⟨n - 1, by omega⟩
    obtain ⟨n', rfl⟩ : ∃ k, n' = k + 1 := ⟨n' - 1, by omega⟩
    have hpN := hT.2.1
    obtain ⟨q, s⟩ := sk_ex T N N p hpN (by omega)
    have s2 := s.idem
    have hpq := s.1
    have hqN := s.2.1
    have hTT : ∀ k < N, T k < 256 := fun k hk => (hT.2.2.2.2.2 k hk).1
    obtain ⟨u1, a1, a2, a3, a4⟩ := C_peek hT s
    have cont : ∀ L2 r u2, q < r → L2.1 ≤ r → L2.1 + p0 ≤ n0 + r → TXC u2 T N r → LawC u2 l L2 → WFp L2 (h + 1) → exO l T N r dd p0 n0 (h + 1) L2 u2 (f_X3_readProduct_10 3000 cS cP (f_X3_readUnit 3000 f) cE n l 1 (nI dd) 1 (nI j + (1 : Int32)) u2) (f_X10_readProduct_4 3000 mS mP (f_X10_readUnit 3000 f') mT n' 842) := by
      intro L2 r u2 g1 g2 g3 g4 g5 g6
      rw [show nI j + (1 : Int32) = nI (j + 1) from nI_add j 1]
      exact ih n n' (j + 1) r p0 n0 h L2 u2 (by omega) (by omega) (by omega) (by omega) g4 g5 g6 g2 (by omega) g3
    have rd : ∀ u2, TXC u2 T N (q + 1) → LawC u2 l L → exO l T N (q + 1) dd (q + 1) L.1 (h + 2) L u2 (f_X3_readUnit 3000 f l 1 (nI dd) u2) (f_X10_readUnit 3000 f' 842) := fun u2 g1 g2 => hU f f' T (q + 1) L (h + 1) u2 hf hf' g1 g2 hW (by omega)
    by_cases c : j < 150
    · rw [E_X3_readProduct_10, if_neg (by decide), if_pos (by rw [nltL _ _ (by omega) (by decide)]; exact c), a1, bnd_some]
      by_cases d1 : q < N ∧ T q = 42
      · obtain ⟨n, rfl⟩ : ∃ k, n = k + 1 := ⟨n - 1, by omega⟩
        obtain ⟨n', rfl⟩ : ∃ k, n' = k + 1 := ⟨n' - 1, by omega⟩
        have e42 : pk T N q = nI 42 := pkq d1.1 d1.2
        rw [e42, if_pos (show nI 42 = (42 : Int32) from rfl), E_X3_readProduct_51, show ((nI 42).toUInt32 % 65536).toInt32 = nI 42 by decide]
        refine exO.pre a4 (opStep (c := 42) (o := 4) (M := fun v1 => (lt (sS v1 (11004, 842) ((rS v1 (11004, 842)) + (1 : Int32))) fun (w8 : MEM) => bnd (f_X10_readUnit 3000 f' 842 w8) fun (u10 : Unit) (w9 : MEM) => bnd (f_X10_emit 3000 842 (nI 4) (0 : Int32) w9) fun (u12 : Unit) (w11 : MEM) => f_X10_readProduct_4 3000 mS mP (f_X10_readUnit 3000 f') mT (n' + 1) 842 w11)) (kC := fun x w => f_X3_readProduct_10 3000 cS cP (f_X3_readUnit 3000 f) cE (n + 1) l 1 (nI dd) x (nI j + (1 : Int32)) w) (kM := f_X10_readProduct_4 3000 mS mP (f_X10_readUnit 3000 f') mT (n' + 1) 842) (f1 := 0) a2 (hL.lx a4) s2 d1.1 d1.2 (by omega) (by omega) (by omega) (by decide) hN hW (by omega) (by omega) (by omega) rd (fun u2 => ?_) (fun v d q5 hF => pr4F _ _ _ _ hF) cont (fun v hv => ⟨v, hv, Fr.rf _ _, rfl⟩)) (fun v hv => ?_)
        · show f_X3_readProduct_10 3000 cS cP (f_X3_readUnit 3000 f) cE (n + 1) l 1 (nI dd) 0 (nI j + (1 : Int32)) u2 = _
          rw [E_X3_readProduct_10, if_pos rfl, b01_0, ck_tr]
        · obtain ⟨v1, b1, b2, b3⟩ := M_here hv s
          obtain ⟨v2, c1, c2, c3⟩ := M_here b2 s2
          refine ⟨v2, c2, b3.tr c3, ?_⟩
          have e := hrq d1.1 d1.2
          rw [e] at b1 c1
          rw [E_X10_readProduct_4, M_fine hv.2.2.2.2.1, bnd_some, if_neg (by decide), b1, bnd_some, if_pos (show nI 42 = (42 : Int32) from rfl), E_X10_readProduct_38, c1, bnd_some, if_pos (show nI 42 = (42 : Int32) from rfl)]
          rfl
      have p42 : ¬ pk T N q = (42 : Int32) := pk_ne (c := 42) hTT (by omega) d1
      have n42 : ¬ hr T N q = (42 : Int32) := hr_ne (c := 42) hTT (by omega) (by omega) d1
      rw [if_neg p42]
      by_cases d2 : q < N ∧ T q = 47
      · obtain ⟨n, rfl⟩ : ∃ k, n = k + 1 := ⟨n - 1, by omega⟩
        obtain ⟨n', rfl⟩ : ∃ k, n' = k + 1 := ⟨n' - 1, by omega⟩
        have e47 : pk T N q = nI 47 := pkq d2.1 d2.2
        rw [e47, if_pos (show nI 47 = (47 : Int32) from rfl), E_X3_readProduct_51, show ((nI 47).toUInt32 % 65536).toInt32 = nI 47 by decide]
        refine exO.pre a4 (opStep (c := 47) (o := 5) (M := fun v1 => (lt (sS v1 (11004, 842) ((rS v1 (11004, 842)) + (1 : Int32))) fun (w8 : MEM) => bnd (f_X10_readUnit 3000 f' 842 w8) fun (u10 : Unit) (w9 : MEM) => bnd (f_X10_emit 3000 842 (nI 5) (0 : Int32) w9) fun (u12 : Unit) (w11 : MEM) => f_X10_readProduct_4 3000 mS mP (f_X10_readUnit 3000 f') mT (n' + 1) 842 w11)) (kC := fun x w => f_X3_readProduct_10 3000 cS cP (f_X3_readUnit 3000 f) cE (n + 1) l 1 (nI dd) x (nI j + (1 : Int32)) w) (kM := f_X10_readProduct_4 3000 mS mP (f_X10_readUnit 3000 f') mT (n' + 1) 842) (f1 := 0) a2 (hL.lx a4) s2 d2.1 d2.2 (by omega) (by omega) (by omega) (by decide) hN hW (by omega) (by omega) (by omega) rd (fun u2 => ?_) (fun v d q5 hF => pr4F _ _ _ _ hF) cont (fun v hv => ⟨v, hv, Fr.rf _ _, rfl⟩)) (fun v hv => ?_)
        · show f_X3_readProduct_10 3000 cS cP (f_X3_readUnit 3000 f) cE (n + 1) l 1 (nI dd) 0 (nI j + (1 : Int32)) u2 = _
          rw [E_X3_readProduct_10, if_pos rfl, b01_0, ck_tr]
        · obtain ⟨v1, b1, b2, b3⟩ := M_here hv s
          obtain ⟨v2, c1, c2, c3⟩ := M_here b2 s2
          obtain ⟨v3, g1, g2, g3⟩ := M_here c2 s2
          obtain ⟨v4, k1, k2, k3⟩ := M_here g2 s2
          refine ⟨v4, k2, ((b3.tr c3).tr g3).tr k3, ?_⟩
          have e := hrq d2.1 d2.2
          rw [e] at b1 c1 g1 k1
          rw [E_X10_readProduct_4, M_fine hv.2.2.2.2.1, bnd_some, if_neg (by decide), b1, bnd_some, if_neg (by decide), c1, bnd_some, if_pos (show nI 47 = (47 : Int32) from rfl), E_X10_readProduct_38, g1, bnd_some, if_neg (by decide), k1, bnd_some, if_pos (show nI 47 = (47 : Int32) from rfl)]
          rfl
      have p47 : ¬ pk T N q = (47 : Int32) := pk_ne (c := 47) hTT (by omega) d2
      have n47 : ¬ hr T N q = (47 : Int32) := hr_ne (c := 47) hTT (by omega) (by omega) d2
      rw [if_neg p47]
      by_cases d3 : q < N ∧ T q = 37
      · obtain ⟨n, rfl⟩ : ∃ k, n = k + 1 := ⟨n - 1, by omega⟩
        obtain ⟨n', rfl⟩ : ∃ k, n' = k + 1 := ⟨n' - 1, by omega⟩
        have e37 : pk T N q = nI 37 := pkq d3.1 d3.2
        rw [e37, if_pos (show nI 37 = (37 : Int32) from rfl), E_X3_readProduct_51, show ((nI 37).toUInt32 % 65536).toInt32 = nI 37 by decide]
        refine exO.pre a4 (opStep (c := 37) (o := 8) (M := fun v1 => (lt (sS v1 (11004, 842) ((rS v1 (11004, 842)) + (1 : Int32))) fun (w8 : MEM) => bnd (f_X10_readUnit 3000 f' 842 w8) fun (u10 : Unit) (w9 : MEM) => bnd (f_X10_emit 3000 842 (nI 8) (0 : Int32) w9) fun (u12 : Unit) (w11 : MEM) => f_X10_readProduct_4 3000 mS mP (f_X10_readUnit 3000 f') mT (n' + 1) 842 w11)) (kC := fun x w => f_X3_readProduct_10 3000 cS cP (f_X3_readUnit 3000 f) cE (n + 1) l 1 (nI dd) x (nI j + (1 : Int32)) w) (kM := f_X10_readProduct_4 3000 mS mP (f_X10_readUnit 3000 f') mT (n' + 1) 842) (f1 := 0) a2 (hL.lx a4) s2 d3.1 d3.2 (by omega) (by omega) (by omega) (by decide) hN hW (by omega) (by omega) (by omega) rd (fun u2 => ?_) (fun v d q5 hF => pr4F _ _ _ _ hF) cont (fun v hv => ⟨v, hv, Fr.rf _ _, rfl⟩)) (fun v hv => ?_)
        · show f_X3_readProduct_10 3000 cS cP (f_X3_readUnit 3000 f) cE (n + 1) l 1 (nI dd) 0 (nI j + (1 : Int32)) u2 = _
          rw [E_X3_readProduct_10, if_pos rfl, b01_0, ck_tr]
        · obtain ⟨v1, b1, b2, b3⟩ := M_here hv s
          obtain ⟨v2, c1, c2, c3⟩ := M_here b2 s2
          obtain ⟨v3, g1, g2, g3⟩ := M_here c2 s2
          obtain ⟨v4, k1, k2, k3⟩ := M_here g2 s2
          obtain ⟨v5, y1, y2, y3⟩ := M_here k2 s2
          refine ⟨v5, y2, (((b3.tr c3).tr g3).tr k3).tr y3, ?_⟩
          have e := hrq d3.1 d3.2
          rw [e] at b1 c1 g1 k1 y1
          rw [E_X10_readProduct_4, M_fine hv.2.2.2.2.1, bnd_some, if_neg (by decide), b1, bnd_some, if_neg (by decide), c1, bnd_some, if_neg (by decide), g1, bnd_some, if_pos (show nI 37 = (37 : Int32) from rfl), E_X10_readProduct_38, k1, bnd_some, if_neg (by decide), y1, bnd_some, if_neg (by decide)]
          rfl
      have p37 : ¬ pk T N q = (37 : Int32) := pk_ne (c := 37) hTT (by omega) d3
      have n37 : ¬ hr T N q = (37 : Int32) := hr_ne (c := 37) hTT (by omega) (by omega) d3
      rw [if_neg p37]
      refine exO.stop a4 a2 hL hW (by omega) (by omega) (fun v hv => ?_)
      obtain ⟨v1, b1, b2, b3⟩ := M_here hv s
      obtain ⟨v2, c1, c2, c3⟩ := M_here b2 s2
      obtain ⟨v3, g1, g2, g3⟩ := M_here c2 s2
      refine ⟨v3, g2, (b3.tr c3).tr g3, ?_⟩
      rw [E_X10_readProduct_4, M_fine hv.2.2.2.2.1, bnd_some, if_neg (by decide), b1, bnd_some, if_neg n42, c1, bnd_some, if_neg n47, g1, bnd_some, if_neg n37]
    · exact prod_end hN cS cP cE mS mP mT (n + 1) (n' + 1) j p p0 n0 h L u (by omega) (by omega) (by omega) hj hT hL hW hp hp0 hn0
theorem prod_ok {l N dd g : Nat} (hU : rdOK l N dd g (f_X3_readUnit 3000) (f_X10_readUnit 3000)) (hN : N ≤ 150) : rdOK l N dd (g + 1) (f_X3_readProduct 3000) (f_X10_readProduct 3000) := by
  intro f f' T p L h u hf hf' hT hL hW hp
  obtain ⟨f, rfl⟩ : ∃ k, f = k + 1 := ⟨f - 1, by omega⟩
  obtain ⟨f', rfl⟩ : ∃ k, f' = k + 1 := ⟨f' - 1, by omega⟩
  rw [Et_X3_readProduct, E_X3_readProduct]
  rcases hU f f' T p L h u (by omega) (by omega) hT hL hW hp with ⟨L1, r, u1, i1, i2, i3, i4, i5, i6, i7, i8⟩ | ⟨d, q5, u1, i1, i2, i3, i4, i5⟩
  · rw [i1, bnd_some]
    have hr := i3.2.1
    have pl := prod_loop (T := T) hU hN (f := f) (f' := f') (by omega) (by omega) (f_X3_readSum 3000 f) (f_X3_readProduct 3000 f) (f_X3_readEither 3000 f) (f_X10_readSum 3000 f') (f_X10_readProduct 3000 f') (f_X10_readTwo 3000 f') N 3000 3000 0 r p L.1 h L1 u1 (by omega) (by omega) (by omega) (by omega) i3 i4 i5 (by omega) i6 i7
    have pl : exO l T N r dd p L.1 (h + 1) L1 u1 (f_X3_readProduct_10 3000 (f_X3_readSum 3000 f) (f_X3_readProduct 3000 f) (f_X3_readUnit 3000 f) (f_X3_readEither 3000 f) 3000 l 1 (nI dd) 1 0 u1) (f_X10_readProduct_4 3000 (f_X10_readSum 3000 f') (f_X10_readProduct 3000 f') (f_X10_readUnit 3000 f') (f_X10_readTwo 3000 f') 3000 842) := pl
    rcases pl with ⟨L2, r2, u2, j1, j2, j3, j4, j5, j6, j7, j8⟩ | ⟨d, q5, u2, j1, j2, j3, j4, j5⟩
    · refine Or.inl ⟨L2, r2, u2, j1, i2.tr j2, j3, j4, j5, j6, j7, ?_⟩
      intro v hv hP hd
      obtain ⟨v1, b1, b2, b3, b4, b5⟩ := i8 v hv hP hd
      obtain ⟨v2, d1, d2, d3, d4, d5⟩ := j8 v1 b2 b3 b4
      exact ⟨v2, by rw [Et_X10_readProduct, E_X10_readProduct, b1, bnd_some, d1], d2, d3, d4, b5.tr d5⟩
    · refine Or.inr ⟨d, q5, u2, j1, i2.tr j2, j3, j4, ?_⟩
      intro v hv hP hd
      obtain ⟨v1, b1, b2, b3, b4, b5⟩ := i8 v hv hP hd
      obtain ⟨v2, d1, d2, d5⟩ := j5 v1 b2 b3 b4
      exact ⟨v2, by rw [Et_X10_readProduct, E_X10_readProduct, b1, bnd_some, d1], d2, b5.tr d5⟩
  · rw [i1, bnd_some, E_X3_readProduct_10, if_pos rfl, b01_0, ck_tr]
    refine Or.inr ⟨d, q5, u1, rfl, i2, i3, i4, ?_⟩
    intro v hv hP hd
    obtain ⟨v1, b1, b2, b5⟩ := i5 v hv hP hd
    exact ⟨v1, by rw [Et_X10_readProduct, E_X10_readProduct, b1, bnd_some, pr4F _ _ _ _ b2], b2, b5⟩
