/-! law: brackets -/
theorem cntl {u : MEM} {l : Nat} {L : ALw} (h : LawC u l L) (n : L.1 ≤ 150) : CNTL u l := ⟨L.1, n, h.1⟩
theorem sumF {v : MEM} {d q n : Nat} (hn : 3 ≤ n) (h : TFM v d q) : f_X10_readSum 3000 n 842 v = some ((), v) := by
  obtain ⟨n, rfl⟩ : ∃ k, n = k + 3 := ⟨n - 3, by omega⟩
  rw [Et_X10_readSum, E_X10_readSum, Et_X10_readProduct, E_X10_readProduct, Et_X10_readUnit, E_X10_readUnit, M_fineF h, bnd_some, if_pos rfl, bnd_some, pr4F _ _ _ _ h, bnd_some, sm4F _ _ _ _ h]
def dp1 (v : MEM) (dd : Nat) : MEM := sS v (11007, 842) (nI (dd + 1))
theorem dp1_fr (v : MEM) (dd : Nat) : Fr pLm v (dp1 v dd) := Fr.S (a := (11007, 842)) (Fr.rf _ _) _ rfl
theorem dp_sub (dd : Nat) : nI (dd + 1) - (1 : Int32) = nI dd := nI_sub (dd + 1) 1 (by omega)
theorem paren_ok {l N dd g : Nat} (hS : rdOK l N (dd + 1) g (f_X3_readSum 3000) (f_X10_readSum 3000)) (hN : N ≤ 150) {f f' : Nat} (hf : g ≤ f) (hf' : g ≤ f') {T : Nat → Nat} {q p0 n0 h : Nat} {L : ALw} {u : MEM} (hT : TXC u T N q) (hL : LawC u l L) (hW : WFp L h) (hp : L.1 ≤ q) (hp0 : p0 < q) (hn0 : L.1 + p0 ≤ n0 + q) : exO l T N q dd p0 n0 (h + 1) L u (bnd (f_X3_readSum 3000 f l 1 (nI (dd + 1)) u) fun (x8 : Int32) (w7 : MEM) => if x8 = 0 then (some ((0 : Int32), w7)) else (bnd (f_X8_needSign 3000 1 (41 : Int32) w7) fun (x10 : Int32) (w9 : MEM) => if x10 = 0 then (some ((0 : Int32), w9)) else (some ((1 : Int32), w9)))) (fun v => bnd (f_X10_readSum 3000 f' 842 (dp1 v dd)) fun (u44 : Unit) (w43 : MEM) => bnd (f_X10_sign 3000 842 (41 : Int32) w43) fun (u46 : Unit) (w45 : MEM) => lt (sS w45 (11007, 842) ((rS w45 (11007, 842)) - (1 : Int32))) fun (w47 : MEM) => some ((), w47)) := by
  have st : ∀ v, rS (dp1 v dd) (11007, 842) = nI (dd + 1) := fun v => by
    unfold dp1
    rw [rS_sS, if_pos rfl]
  rcases hS f f' T q L h u hf hf' hT hL hW hp with ⟨L1, r, u1, i1, i2, i3, i4, i5, i6, i7, i8⟩ | ⟨d, q5, u1, i1, i2, i3, i4, i5⟩
  · have hr := i3.2.1
    obtain ⟨q3, y⟩ := sk_ex T N N r hr (by omega)
    have y1 := y.1
    rw [i1, bnd_some, if_neg (by decide)]
    have m1 : ∀ v, TXM v T N q → PgM v L → ∃ v1, f_X10_readSum 3000 f' 842 (dp1 v dd) = some ((), v1) ∧ TXM v1 T N r ∧ PgM v1 L1 ∧ rS v1 (11007, 842) = nI (dd + 1) ∧ Fr pLm v v1 := by
      intro v hv hP
      obtain ⟨v1, b1, b2, b3, b4, b5⟩ := i8 (dp1 v dd) hv hP (st v)
      exact ⟨v1, b1, b2, b3, b4, (dp1_fr v dd).tr b5⟩
    rcases C_sign (c := 41) i3 y (by omega) with ⟨z1, z2, u5, z3, z4, z5⟩ | ⟨z1, u5, z3, z4, z5⟩
    · have z3 : f_X8_needSign 3000 1 (41 : Int32) u1 = some (1, u5) := z3
      rw [z3, bnd_some, if_neg (by decide)]
      refine Or.inl ⟨L1, q3 + 1, u5, rfl, i2.tr (z5.la l), z4, i4.lx z5, i5, by omega, by omega, ?_⟩
      intro v hv hP hd
      obtain ⟨v1, b1, b2, b3, b4, b5⟩ := m1 v hv hP
      rcases M_sign (c := 41) b2 y (by omega) (by omega) with ⟨x1, x2, v5, x3, x4, x5⟩ | ⟨x1, v5, x3, x4, x5⟩
      · have x3 : f_X10_sign 3000 842 (41 : Int32) v1 = some ((), v5) := x3
        have d5 : rS v5 (11007, 842) = nI (dd + 1) := (x5.2.1 _ rfl).trans b4
        refine ⟨sS v5 (11007, 842) (nI dd), ?_, x4, (show PgM v5 L1 from b3.fr x5), by rw [rS_sS, if_pos rfl], Fr.S (a := (11007, 842)) (b5.tr x5.lm) _ rfl⟩
        show bnd (f_X10_readSum 3000 f' 842 (dp1 v dd)) _ = _
        rw [b1, bnd_some, x3, bnd_some, d5, dp_sub, lt_eq]
      · exact absurd ⟨z1, z2⟩ x1
    · have z3 : f_X8_needSign 3000 1 (41 : Int32) u1 = some (0, u5) := z3
      rw [z3, bnd_some, if_pos rfl]
      refine Or.inr ⟨1, q3, u5, rfl, i2.tr (z5.la l), z4, (cntl i4 (by omega)).fr z5, ?_⟩
      intro v hv hP hd
      obtain ⟨v1, b1, b2, b3, b4, b5⟩ := m1 v hv hP
      rcases M_sign (c := 41) b2 y (by omega) (by omega) with ⟨x1, x2, v5, x3, x4, x5⟩ | ⟨x1, v5, x3, x4, x5⟩
      · exact absurd ⟨x1, x2⟩ z1
      · have x3 : f_X10_sign 3000 842 (41 : Int32) v1 = some ((), v5) := x3
        have d5 : rS v5 (11007, 842) = nI (dd + 1) := (x5.2.1 _ rfl).trans b4
        refine ⟨sS v5 (11007, 842) (nI dd), ?_, x4, Fr.S (a := (11007, 842)) (b5.tr x5.lm) _ rfl⟩
        show bnd (f_X10_readSum 3000 f' 842 (dp1 v dd)) _ = _
        rw [b1, bnd_some, x3, bnd_some, d5, dp_sub, lt_eq]
  · rw [i1, bnd_some, if_pos rfl]
    refine Or.inr ⟨d, q5, u1, rfl, i2, i3, i4, ?_⟩
    intro v hv hP hd
    obtain ⟨v1, b1, b2, b5⟩ := i5 (dp1 v dd) hv hP (st v)
    refine ⟨sS v1 (11007, 842) (rS v1 (11007, 842) - 1), ?_, b2, Fr.S (a := (11007, 842)) ((dp1_fr v dd).tr b5) _ rfl⟩
    show bnd (f_X10_readSum 3000 f' 842 (dp1 v dd)) _ = _
    rw [b1, bnd_some, M_signF _ b2, bnd_some, lt_eq]
/-- what follows the sum in an either, when there is a fault -/
theorem tailF {v : MEM} {d q n : Nat} (hn : 3 ≤ n) (o : Int32) (h : TFM v d q) : (bnd (f_X10_sign 3000 842 (44 : Int32) v) fun (u8 : Unit) (w7 : MEM) => bnd (f_X10_readSum 3000 n 842 w7) fun (u10 : Unit) (w9 : MEM) => bnd (f_X10_sign 3000 842 (93 : Int32) w9) fun (u12 : Unit) (w11 : MEM) => lt (sS w11 (11007, 842) ((rS w11 (11007, 842)) - (1 : Int32))) fun (w13 : MEM) => bnd (f_X10_emit 3000 842 o (0 : Int32) w13) fun (u15 : Unit) (w14 : MEM) => some ((), w14)) = some ((), sS v (11007, 842) (rS v (11007, 842) - 1)) := by
  have h2 : TFM (sS v (11007, 842) (rS v (11007, 842) - 1)) d q := h
  rw [M_signF _ h, bnd_some, sumF hn h, bnd_some, M_signF _ h, bnd_some, lt_eq, emit_F _ _ h2, bnd_some]
theorem either_ok {l N dd g : Nat} (hS : rdOK l N (dd + 1) g (f_X3_readSum 3000) (f_X10_readSum 3000)) (hN : N ≤ 150) (hg : 3 ≤ g) {f f' o : Nat} (ho : 2 ≤ o ∧ o ≤ 8) {kc : Int32} (hk : kc = kmap (nI o)) (hf : g ≤ f) (hf' : g ≤ f') {T : Nat → Nat} {q p0 n0 h : Nat} {L : ALw} {u : MEM} (hT : TXC u T N q) (hL : LawC u l L) (hW : WFp L h) (hp : L.1 ≤ q) (hp0 : p0 < q) (hn0 : L.1 + p0 ≤ n0 + q) : exO l T N q dd p0 n0 (h + 1) L u (f_X3_readEither 3000 (f + 1) l 1 (nI (dd + 1)) kc u) (fun v => bnd (f_X10_sign 3000 842 (91 : Int32) (dp1 v dd)) fun (u4 : Unit) (w3 : MEM) => bnd (f_X10_readSum 3000 f' 842 w3) fun (u6 : Unit) (w5 : MEM) => bnd (f_X10_sign 3000 842 (44 : Int32) w5) fun (u8 : Unit) (w7 : MEM) => bnd (f_X10_readSum 3000 f' 842 w7) fun (u10 : Unit) (w9 : MEM) => bnd (f_X10_sign 3000 842 (93 : Int32) w9) fun (u12 : Unit) (w11 : MEM) => lt (sS w11 (11007, 842) ((rS w11 (11007, 842)) - (1 : Int32))) fun (w13 : MEM) => bnd (f_X10_emit 3000 842 (nI o) (0 : Int32) w13) fun (u15 : Unit) (w14 : MEM) => some ((), w14)) := by
  have st : ∀ v, rS (dp1 v dd) (11007, 842) = nI (dd + 1) := fun v => by
    unfold dp1
    rw [rS_sS, if_pos rfl]
  have hqN := hT.2.1
  have fin : ∀ v v2 d q5, TFM v2 d q5 → Fr pLm v v2 → ∀ x : Option (Unit × MEM), x = some ((), sS v2 (11007, 842) (rS v2 (11007, 842) - 1)) → ∃ v1, x = some ((), v1) ∧ TFM v1 d q5 ∧ Fr pLm v v1 := fun v v2 d q5 g1 g2 x g3 => ⟨_, g3, g1, Fr.S (a := (11007, 842)) g2 _ rfl⟩
  rw [Et_X3_readEither, E_X3_readEither]
  obtain ⟨q1, s⟩ := sk_ex T N N q hqN (by omega)
  have s1 := s.1
  rcases C_sign (c := 91) hT s (by omega) with ⟨a1, a2, u1, a3, a4, a5⟩ | ⟨a1, u1, a3, a4, a5⟩
  rotate_left
  · have a3 : f_X8_needSign 3000 1 (91 : Int32) u = some (0, u1) := a3
    obtain ⟨u2, j1, j2, j3, j4⟩ := add_any kc 0 ((cntl hL (by omega)).fr a5) a4
    rw [a3, bnd_some, if_pos rfl, j1, bnd_some]
    refine Or.inr ⟨1, q1, u2, rfl, (a5.la l).tr j4, j3, j2, ?_⟩
    intro v hv hP hd
    have hv2 : TXM (dp1 v dd) T N q := hv
    rcases M_sign (c := 91) hv2 s (by omega) (by omega) with ⟨x1, x2, v5, x3, x4, x5⟩ | ⟨x1, v5, x3, x4, x5⟩
    · exact absurd ⟨x1, x2⟩ a1
    · have x3 : f_X10_sign 3000 842 (91 : Int32) (dp1 v dd) = some ((), v5) := x3
      refine fin v v5 _ _ x4 ((dp1_fr v dd).tr x5.lm) _ ?_
      show bnd (f_X10_sign 3000 842 (91 : Int32) (dp1 v dd)) _ = _
      rw [x3, bnd_some, sumF (by omega) x4, bnd_some]
      exact tailF (by omega) _ x4
  have a3 : f_X8_needSign 3000 1 (91 : Int32) u = some (1, u1) := a3
  have m1 : ∀ v, TXM v T N q → PgM v L → ∃ v1, TXM v1 T N (q1 + 1) ∧ PgM v1 L ∧ rS v1 (11007, 842) = nI (dd + 1) ∧ Fr pLm v v1 ∧ f_X10_sign 3000 842 (91 : Int32) (dp1 v dd) = some ((), v1) := by
    intro v hv hP
    have hv2 : TXM (dp1 v dd) T N q := hv
    have hP2 : PgM (dp1 v dd) L := hP
    rcases M_sign (c := 91) hv2 s (by omega) (by omega) with ⟨x1, x2, v5, x3, x4, x5⟩ | ⟨x1, v5, x3, x4, x5⟩
    · exact ⟨v5, x4, hP2.fr x5, (x5.2.1 _ rfl).trans (st v), (dp1_fr v dd).tr x5.lm, x3⟩
    · exact absurd ⟨a1, a2⟩ x1
  rw [a3, bnd_some, if_neg (by decide)]
  rcases hS f f' T (q1 + 1) L h u1 hf hf' a4 (hL.lx a5) hW (by omega) with ⟨L1, r, u2, i1, i2, i3, i4, i5, i6, i7, i8⟩ | ⟨d, q5, u2, i1, i2, i3, i4, i5⟩
  rotate_left
  · obtain ⟨u3, j1, j2, j3, j4⟩ := add_any kc 0 i4 i3
    rw [i1, bnd_some, if_pos rfl, j1, bnd_some]
    refine Or.inr ⟨d, q5, u3, rfl, ((a5.la l).tr i2).tr j4, j3, j2, ?_⟩
    intro v hv hP hd
    obtain ⟨v1, b1, b2, b3, b4, b5⟩ := m1 v hv hP
    obtain ⟨v2, c1, c2, c3⟩ := i5 v1 b1 b2 b3
    refine fin v v2 _ _ c2 (b4.tr c3) _ ?_
    show bnd (f_X10_sign 3000 842 (91 : Int32) (dp1 v dd)) _ = _
    rw [b5, bnd_some, c1, bnd_some]
    exact tailF (by omega) _ c2
  have hr := i3.2.1
  have m2 : ∀ v, TXM v T N q → PgM v L → ∃ v2, TXM v2 T N r ∧ PgM v2 L1 ∧ rS v2 (11007, 842) = nI (dd + 1) ∧ Fr pLm v v2 ∧ ∀ K : Unit → MEM → Option (Unit × MEM), (bnd (f_X10_sign 3000 842 (91 : Int32) (dp1 v dd)) fun (u4 : Unit) (w3 : MEM) => bnd (f_X10_readSum 3000 f' 842 w3) K) = K () v2 := by
    intro v hv hP
    obtain ⟨v1, b1, b2, b3, b4, b5⟩ := m1 v hv hP
    obtain ⟨v2, c1, c2, c3, c4, c5⟩ := i8 v1 b1 b2 b3
    exact ⟨v2, c2, c3, c4, b4.tr c5, fun K => by rw [b5, bnd_some, c1, bnd_some]⟩
  rw [i1, bnd_some, if_neg (by decide)]
  obtain ⟨q2, t⟩ := sk_ex T N N r hr (by omega)
  have t1 := t.1
  have f2 : Fr (pLa l) u u2 := (a5.la l).tr i2
  rcases C_sign (c := 44) i3 t (by omega) with ⟨d1, d2, u3, d3, d4, d5⟩ | ⟨d1, u3, d3, d4, d5⟩
  rotate_left
  · have d3 : f_X8_needSign 3000 1 (44 : Int32) u2 = some (0, u3) := d3
    obtain ⟨u4, j1, j2, j3, j4⟩ := add_any kc 0 ((cntl i4 (by omega)).fr d5) d4
    rw [d3, bnd_some, if_pos rfl, j1, bnd_some]
    refine Or.inr ⟨1, q2, u4, rfl, (f2.tr (d5.la l)).tr j4, j3, j2, ?_⟩
    intro v hv hP hd
    obtain ⟨v2, b1, b2, b3, b4, b5⟩ := m2 v hv hP
    rcases M_sign (c := 44) b1 t (by omega) (by omega) with ⟨x1, x2, v5, x3, x4, x5⟩ | ⟨x1, v5, x3, x4, x5⟩
    · exact absurd ⟨x1, x2⟩ d1
    · have x3 : f_X10_sign 3000 842 (44 : Int32) v2 = some ((), v5) := x3
      refine fin v v5 _ _ x4 (b4.tr x5.lm) _ ((b5 _).trans ?_)
      have h2 : TFM (sS v5 (11007, 842) (rS v5 (11007, 842) - 1)) 1 q2 := x4
      rw [x3, bnd_some, sumF (by omega) x4, bnd_some, M_signF _ x4, bnd_some, lt_eq, emit_F _ _ h2, bnd_some]
  have d3 : f_X8_needSign 3000 1 (44 : Int32) u2 = some (1, u3) := d3
  have m3 : ∀ v, TXM v T N q → PgM v L → ∃ v3, TXM v3 T N (q2 + 1) ∧ PgM v3 L1 ∧ rS v3 (11007, 842) = nI (dd + 1) ∧ Fr pLm v v3 ∧ ∀ K : Unit → MEM → Option (Unit × MEM), (bnd (f_X10_sign 3000 842 (91 : Int32) (dp1 v dd)) fun (u4 : Unit) (w3 : MEM) => bnd (f_X10_readSum 3000 f' 842 w3) fun (u6 : Unit) (w5 : MEM) => bnd (f_X10_sign 3000 842 (44 : Int32) w5) K) = K () v3 := by
    intro v hv hP
    obtain ⟨v2, b1, b2, b3, b4, b5⟩ := m2 v hv hP
    rcases M_sign (c := 44) b1 t (by omega) (by omega) with ⟨x1, x2, v5, x3, x4, x5⟩ | ⟨x1, v5, x3, x4, x5⟩
    · have x3 : f_X10_sign 3000 842 (44 : Int32) v2 = some ((), v5) := x3
      exact ⟨v5, x4, b2.fr x5, (x5.2.1 _ rfl).trans b3, b4.tr x5.lm, fun K => (b5 _).trans (by rw [x3, bnd_some])⟩
    · exact absurd ⟨d1, d2⟩ x1
  rw [d3, bnd_some, if_neg (by decide)]
  rcases hS f f' T (q2 + 1) L1 (h + 1) u3 hf hf' d4 (i4.lx d5) i5 (by omega) with ⟨L2, r2, u4, k1, k2, k3, k4, k5, k6, k7, k8⟩ | ⟨d, q5, u4, k1, k2, k3, k4, k5⟩
  rotate_left
  · obtain ⟨u5, j1, j2, j3, j4⟩ := add_any kc 0 k4 k3
    rw [k1, bnd_some, if_pos rfl, j1, bnd_some]
    refine Or.inr ⟨d, q5, u5, rfl, ((f2.tr (d5.la l)).tr k2).tr j4, j3, j2, ?_⟩
    intro v hv hP hd
    obtain ⟨v3, b1, b2, b3, b4, b5⟩ := m3 v hv hP
    obtain ⟨v4, c1, c2, c3⟩ := k5 v3 b1 b2 b3
    refine fin v v4 _ _ c2 (b4.tr c3) _ ((b5 _).trans ?_)
    have h2 : TFM (sS v4 (11007, 842) (rS v4 (11007, 842) - 1)) d q5 := c2
    rw [c1, bnd_some, M_signF _ c2, bnd_some, lt_eq, emit_F _ _ h2, bnd_some]
  have hr2 := k3.2.1
  have m4 : ∀ v, TXM v T N q → PgM v L → ∃ v4, TXM v4 T N r2 ∧ PgM v4 L2 ∧ rS v4 (11007, 842) = nI (dd + 1) ∧ Fr pLm v v4 ∧ ∀ K : Unit → MEM → Option (Unit × MEM), (bnd (f_X10_sign 3000 842 (91 : Int32) (dp1 v dd)) fun (u4 : Unit) (w3 : MEM) => bnd (f_X10_readSum 3000 f' 842 w3) fun (u6 : Unit) (w5 : MEM) => bnd (f_X10_sign 3000 842 (44 : Int32) w5) fun (u8 : Unit) (w7 : MEM) => bnd (f_X10_readSum 3000 f' 842 w7) K) = K () v4 := by
    intro v hv hP
    obtain ⟨v3, b1, b2, b3, b4, b5⟩ := m3 v hv hP
    obtain ⟨v4, c1, c2, c3, c4, c5⟩ := k8 v3 b1 b2 b3
    exact ⟨v4, c2, c3, c4, b4.tr c5, fun K => (b5 _).trans (by rw [c1, bnd_some])⟩
  rw [k1, bnd_some, if_neg (by decide)]
  obtain ⟨q4, y⟩ := sk_ex T N N r2 hr2 (by omega)
  have y1 := y.1
  have f4 : Fr (pLa l) u u4 := (f2.tr (d5.la l)).tr k2
  rcases C_sign (c := 93) k3 y (by omega) with ⟨z1, z2, u5, z3, z4, z5⟩ | ⟨z1, u5, z3, z4, z5⟩
  rotate_left
  · have z3 : f_X8_needSign 3000 1 (93 : Int32) u4 = some (0, u5) := z3
    obtain ⟨u6, j1, j2, j3, j4⟩ := add_any kc 0 ((cntl k4 (by omega)).fr z5) z4
    rw [z3, bnd_some, if_pos rfl, j1, bnd_some]
    refine Or.inr ⟨1, q4, u6, rfl, (f4.tr (z5.la l)).tr j4, j3, j2, ?_⟩
    intro v hv hP hd
    obtain ⟨v4, b1, b2, b3, b4, b5⟩ := m4 v hv hP
    rcases M_sign (c := 93) b1 y (by omega) (by omega) with ⟨x1, x2, v5, x3, x4, x5⟩ | ⟨x1, v5, x3, x4, x5⟩
    · exact absurd ⟨x1, x2⟩ z1
    · have x3 : f_X10_sign 3000 842 (93 : Int32) v4 = some ((), v5) := x3
      refine fin v v5 _ _ x4 (b4.tr x5.lm) _ ((b5 _).trans ?_)
      have h2 : TFM (sS v5 (11007, 842) (rS v5 (11007, 842) - 1)) 1 q4 := x4
      rw [x3, bnd_some, lt_eq, emit_F _ _ h2, bnd_some]
  have z3 : f_X8_needSign 3000 1 (93 : Int32) u4 = some (1, u5) := z3
  have hz := z4.2.1
  have h150 : L2.1 < 150 := by omega
  obtain ⟨u6, j1, j2, j3, j4⟩ := add_C (kk := kc) (nI o) 0 hk z4 (k4.lx z5) h150
  rw [z3, bnd_some, if_neg (by decide), j1, bnd_some]
  refine Or.inl ⟨psh L2 (nI o) 0, q4 + 1, u6, rfl, (f4.tr (z5.la l)).tr j4, j2, j3, k5.psh (h + 1) (Or.inr ⟨⟨o, ho.1, ho.2, rfl⟩, by omega, by omega⟩), by omega, ?_, ?_⟩
  · show L2.1 + 1 + p0 ≤ n0 + (q4 + 1)
    omega
  · intro v hv hP hd
    obtain ⟨v4, b1, b2, b3, b4, b5⟩ := m4 v hv hP
    rcases M_sign (c := 93) b1 y (by omega) (by omega) with ⟨x1, x2, v5, x3, x4, x5⟩ | ⟨x1, v5, x3, x4, x5⟩
    · have x3 : f_X10_sign 3000 842 (93 : Int32) v4 = some ((), v5) := x3
      have d5 : rS v5 (11007, 842) = nI (dd + 1) := (x5.2.1 _ rfl).trans b3
      have g2 : TXM (sS v5 (11007, 842) (nI dd)) T N (q4 + 1) := x4
      have g3 : PgM (sS v5 (11007, 842) (nI dd)) L2 := (show PgM v5 L2 from b2.fr x5)
      obtain ⟨v6, e1, e2, e3, e4, e5⟩ := emit_M (nI o) 0 g2 g3 h150
      refine ⟨v6, (b5 _).trans ?_, e2, e3, e5.trans (by rw [rS_sS, if_pos rfl]), (Fr.S (a := (11007, 842)) (b4.tr x5.lm) _ rfl).tr e4⟩
      rw [x3, bnd_some, d5, dp_sub, lt_eq, e1, bnd_some]
    · exact absurd ⟨z1, z2⟩ x1
