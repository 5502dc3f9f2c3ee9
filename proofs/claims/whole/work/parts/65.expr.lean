/-! law: expressions, the common step -/
def pLa (l : Nat) (a : LA) : Bool := pTx a || pLw l a
def pLm (a : LA) : Bool := pTm a || ((Nat.beq a.1 11007 || (Nat.beq a.1 11031 || (Nat.beq a.1 1011 || Nat.beq a.1 1012))) && Nat.beq a.2 842)
theorem Fr.la {w w1 : MEM} (l : Nat) (g : Fr pTx w w1) : Fr (pLa l) w w1 := g.mono (fun a h => by unfold pLa; rw [h, Bool.true_or])
theorem Fr.lw {w w1 : MEM} {l : Nat} (g : Fr (pLw l) w w1) : Fr (pLa l) w w1 := g.mono (fun a h => by unfold pLa; rw [h, Bool.or_true])
theorem Fr.lm {w w1 : MEM} (g : Fr pTm w w1) : Fr pLm w w1 := g.mono (fun a h => by unfold pLm; rw [h, Bool.true_or])
def psh (L : ALw) (k v : Int32) : ALw := (L.1 + 1, (upd L.2.1 L.1 k, upd L.2.2 L.1 v))
def PgM (v : MEM) (L : ALw) : Prop := rS v (11031, 842) = nI L.1 ∧ ∀ i < L.1, fA v (1011, 842) i = L.2.1 i ∧ fA v (1012, 842) i = L.2.2 i
theorem PgM.fr {v v1 : MEM} {L : ALw} (h : PgM v L) (g : Fr pTm v v1) : PgM v1 L := by
  unfold PgM
  rw [g.2.1 (11031, 842) rfl, g.1 (1011, 842) rfl, g.1 (1012, 842) rfl]
  exact h
def WFp (L : ALw) (h : Nat) : Prop := ∃ dp : Nat → Nat, dp 0 = 0 ∧ dp L.1 = h ∧ ∀ i < L.1, ((L.2.1 i = 0 ∨ (L.2.1 i = 1 ∧ ∃ j < 9, L.2.2 i = nI j)) ∧ dp (i + 1) = dp i + 1) ∨ ((∃ c, 2 ≤ c ∧ c ≤ 8 ∧ L.2.1 i = nI c) ∧ 2 ≤ dp i ∧ dp (i + 1) + 1 = dp i)
theorem WFp.psh {L : ALw} {n : Nat} (h : WFp L n) {k v : Int32} (n1 : Nat) (st : ((k = 0 ∨ (k = 1 ∧ ∃ j < 9, v = nI j)) ∧ n1 = n + 1) ∨ ((∃ c, 2 ≤ c ∧ c ≤ 8 ∧ k = nI c) ∧ 2 ≤ n ∧ n1 + 1 = n)) : WFp (psh L k v) n1 := by
  obtain ⟨dp, d0, d1, d2⟩ := h
  refine ⟨updN dp (L.1 + 1) n1, ?_, ?_, ?_⟩
  · rw [updN_eq, if_neg (by omega)]; exact d0
  · show updN dp (L.1 + 1) n1 (L.1 + 1) = n1
    rw [updN_eq, if_pos rfl]
  · intro i hi
    have hi : i < L.1 + 1 := hi
    show ((upd L.2.1 L.1 k i = 0 ∨ (upd L.2.1 L.1 k i = 1 ∧ ∃ j < 9, upd L.2.2 L.1 v i = nI j)) ∧ updN dp (L.1 + 1) n1 (i + 1) = updN dp (L.1 + 1) n1 i + 1) ∨ ((∃ c, 2 ≤ c ∧ c ≤ 8 ∧ upd L.2.1 L.1 k i = nI c) ∧ 2 ≤ updN dp (L.1 + 1) n1 i ∧ updN dp (L.1 + 1) n1 (i + 1) + 1 = updN dp (L.1 + 1) n1 i)
    rw [upd_eq, upd_eq, updN_eq, updN_eq, if_neg (show ¬ i = L.1 + 1 by omega)]
    by_cases c : i = L.1
    · rw [if_pos c, if_pos c, if_pos (by omega), c, d1]
      exact st
    · rw [if_neg c, if_neg c, if_neg (by omega)]
      exact d2 i (by omega)
theorem emit_M {v : MEM} {T : Nat → Nat} {N p : Nat} {L : ALw} (k x : Int32) (hT : TXM v T N p) (hP : PgM v L) (h : L.1 < 150) : ∃ v1, f_X10_emit 3000 842 k x v = some ((), v1) ∧ TXM v1 T N p ∧ PgM v1 (psh L k x) ∧ Fr pLm v v1 ∧ rS v1 (11007, 842) = rS v (11007, 842) := by
  have e0 := hP.1
  have n1 : ¬ (((1012, 842) : LA) = (1011, 842)) := by decide
  have n2 : ¬ (((1011, 842) : LA) = (1012, 842)) := by decide
  refine ⟨sS (tA (tA v (1011, 842) (upd (fA v (1011, 842)) L.1 k)) (1012, 842) (upd (fA v (1012, 842)) L.1 x)) (11031, 842) (nI (L.1 + 1)), ?_, hT, ⟨by rw [rS_sS, if_pos rfl]; rfl, ?_⟩, Fr.S (a := (11031, 842)) (Fr.A (a := (1012, 842)) (Fr.A (a := (1011, 842)) (Fr.rf _ _) _ rfl) _ rfl) _ rfl, by rw [rS_sS, if_neg (by decide), rS_tA, rS_tA]⟩
  · rw [E_X10_emit, M_fine hT.2.2.2.2.1, bnd_some, if_neg (by decide), e0, bIn _ _ (by omega), decide_eq_true h, ck_tr, sAn _ _ _ _ (by omega), lt_eq, rS_tA, e0, bIn _ _ (by omega), decide_eq_true h, ck_tr, sAn _ _ _ _ (by omega), lt_eq, rS_tA, rS_tA, e0, naddL, lt_eq, fA_tA, if_neg n1]
  · intro i hi
    have hi : i < L.1 + 1 := hi
    rw [fA_sS, fA_sS, fA_tA, fA_tA, if_neg n2, if_pos rfl, fA_tA, if_pos rfl]
    show upd (fA v (1011, 842)) L.1 k i = upd L.2.1 L.1 k i ∧ upd (fA v (1012, 842)) L.1 x i = upd L.2.2 L.1 x i
    rw [upd_eq, upd_eq, upd_eq, upd_eq]
    by_cases c : i = L.1
    · rw [if_pos c, if_pos c, if_pos c, if_pos c]; exact ⟨rfl, rfl⟩
    · rw [if_neg c, if_neg c, if_neg c, if_neg c]; exact hP.2 i (by omega)
theorem emit_F {v : MEM} {k q : Nat} (x y : Int32) (h : TFM v k q) : f_X10_emit 3000 842 x y v = some ((), v) := by
  rw [E_X10_emit, M_fineF h, bnd_some, if_pos rfl]
theorem add_C {u : MEM} {l : Nat} {T : Nat → Nat} {N p : Nat} {L : ALw} {kk : Int32} (k x : Int32) (ek : kk = kmap k) (hT : TXC u T N p) (hP : LawC u l L) (h : L.1 < 150) : ∃ u1, f_X3_add 3000 l kk x u = some ((), u1) ∧ TXC u1 T N p ∧ LawC u1 l (psh L k x) ∧ Fr (pLa l) u u1 := by
  obtain ⟨u1, a1, a2, a3, a4, a5⟩ := add_ok kk x hP.1 h
  refine ⟨u1, a1, hT.fr a5 rfl rfl rfl rfl, ⟨a2, ?_⟩, a5.lw⟩
  intro i hi
  have hi : i < L.1 + 1 := hi
  rw [a3, a4]
  show upd (fA u (301, l)) L.1 kk i = kmap (upd L.2.1 L.1 k i) ∧ upd (fA u (302, l)) L.1 x i = upd L.2.2 L.1 x i
  rw [upd_eq, upd_eq, upd_eq, upd_eq]
  by_cases c : i = L.1
  · rw [if_pos c, if_pos c, if_pos c, if_pos c]; exact ⟨ek, rfl⟩
  · rw [if_neg c, if_neg c, if_neg c, if_neg c]; exact hP.2 i (by omega)
def CNTL (u : MEM) (l : Nat) : Prop := ∃ n, n ≤ 150 ∧ rS u (10304, l) = nI n
theorem CNTL.fr {u u1 : MEM} {l : Nat} (h : CNTL u l) (g : Fr pTx u u1) : CNTL u1 l := by
  obtain ⟨n, h1, h2⟩ := h
  exact ⟨n, h1, (g.2.1 _ rfl).trans h2⟩
theorem add_any {u : MEM} {l d q : Nat} (k x : Int32) (h : CNTL u l) (hF : TFC u d q) : ∃ u1, f_X3_add 3000 l k x u = some ((), u1) ∧ CNTL u1 l ∧ TFC u1 d q ∧ Fr (pLa l) u u1 := by
  obtain ⟨n, h1, h2⟩ := h
  by_cases c : n < 150
  · obtain ⟨u1, a1, a2, a3, a4, a5⟩ := add_ok k x h2 c
    exact ⟨u1, a1, ⟨n + 1, by omega, a2⟩, ⟨(a5.2.1 _ rfl).trans hF.1, (a5.2.1 _ rfl).trans hF.2⟩, a5.lw⟩
  · refine ⟨u, ?_, ⟨n, h1, h2⟩, hF, Fr.rf _ _⟩
    rw [E_X3_add, h2, if_neg (by rw [nltL _ _ (by omega) (by decide)]; exact c)]
/-- the outcome of a reader of expressions: class value x from u, model M from any state alike -/
def exO (l : Nat) (T : Nat → Nat) (N p dd p0 n0 h1 : Nat) (L : ALw) (u : MEM) (x : Option (Int32 × MEM)) (M : MEM → Option (Unit × MEM)) : Prop :=
  (∃ L1 r u1, x = some (1, u1) ∧ Fr (pLa l) u u1 ∧ TXC u1 T N r ∧ LawC u1 l L1 ∧ WFp L1 h1 ∧ p0 < r ∧ L1.1 + p0 ≤ n0 + r ∧ ∀ v, TXM v T N p → PgM v L → rS v (11007, 842) = nI dd → ∃ v1, M v = some ((), v1) ∧ TXM v1 T N r ∧ PgM v1 L1 ∧ rS v1 (11007, 842) = nI dd ∧ Fr pLm v v1)
  ∨ (∃ d q u1, x = some (0, u1) ∧ Fr (pLa l) u u1 ∧ TFC u1 d q ∧ CNTL u1 l ∧ ∀ v, TXM v T N p → PgM v L → rS v (11007, 842) = nI dd → ∃ v1, M v = some ((), v1) ∧ TFM v1 d q ∧ Fr pLm v v1)
theorem LawC.lx {u u1 : MEM} {l : Nat} {L : ALw} (h : LawC u l L) (g : Fr pTx u u1) : LawC u1 l L := h.fr g rfl rfl rfl
theorem opStep {l : Nat} {T : Nat → Nat} {N p q dd p0 n0 h1 : Nat} {L : ALw} {u : MEM} {c o : Nat} (hT : TXC u T N p) (hL : LawC u l L) (s : SK T N p q) (hq : q < N) (hc : T q = c) (c1 : c < 128) (c0 : 0 < c) (ho : 2 ≤ o ∧ o ≤ 8) (hk : nI c = kmap (nI o)) (hN : N ≤ 150) (hW : WFp L (h1 + 1)) (hp : L.1 ≤ p) (hp0 : p0 < p) (hn0 : L.1 + p0 ≤ n0 + p)
    {rdC : MEM → Option (Int32 × MEM)} {rdM : MEM → Option (Unit × MEM)} {kC : Int32 → MEM → Option (Int32 × MEM)} {kM : MEM → Option (Unit × MEM)} {M : MEM → Option (Unit × MEM)} {f1 : Nat}
    (hrd : ∀ u2, TXC u2 T N (q + 1) → LawC u2 l L → exO l T N (q + 1) dd (q + 1) L.1 (h1 + 2) L u2 (rdC u2) rdM)
    (hk0 : ∀ u2, kC 0 u2 = some (0, u2)) (hkF : ∀ v d q5, TFM v d q5 → kM v = some ((), v))
    (hk1 : ∀ L2 r u2, q < r → L2.1 ≤ r → L2.1 + p0 ≤ n0 + r → TXC u2 T N r → LawC u2 l L2 → WFp L2 (h1 + 1) → exO l T N r dd p0 n0 (h1 + 1) L2 u2 (kC 1 u2) kM)
    (hM : ∀ v, TXM v T N p → ∃ v1, TXM v1 T N q ∧ Fr pTm v v1 ∧ M v = (lt (sS v1 (11004, 842) ((rS v1 (11004, 842)) + (1 : Int32))) fun (w8 : MEM) => bnd (rdM w8) fun (u10 : Unit) (w9 : MEM) => bnd (f_X10_emit 3000 842 (nI o) (0 : Int32) w9) fun (u12 : Unit) (w11 : MEM) => kM w11)) :
    exO l T N p dd p0 n0 (h1 + 1) L u (bnd (f_X8_needSign 3000 1 (nI c) u) fun (x2 : Int32) (w1 : MEM) => if x2 = 0 then (bnd (f_X3_add 3000 l (nI c) (0 : Int32) w1) fun (u4 : Unit) (w3 : MEM) => kC (0 : Int32) w3) else (bnd (rdC w1) fun (x6 : Int32) (w5 : MEM) => if x6 = 0 then (bnd (f_X3_add 3000 l (nI c) (0 : Int32) w5) fun (u8 : Unit) (w7 : MEM) => kC (0 : Int32) w7) else (bnd (f_X3_add 3000 l (nI c) (0 : Int32) w5) fun (u10 : Unit) (w9 : MEM) => kC (1 : Int32) w9))) M := by
  have hpq := s.1
  rcases C_sign hT s c1 with ⟨_, _, u1, k1, k2, k3⟩ | ⟨k1, _⟩
  · have m0 : ∀ v, TXM v T N p → PgM v L → rS v (11007, 842) = nI dd → ∃ v2, TXM v2 T N (q + 1) ∧ PgM v2 L ∧ rS v2 (11007, 842) = nI dd ∧ Fr pLm v v2 ∧ M v = (bnd (rdM v2) fun (u10 : Unit) (w9 : MEM) => bnd (f_X10_emit 3000 842 (nI o) (0 : Int32) w9) fun (u12 : Unit) (w11 : MEM) => kM w11) := by
      intro v hv hP hd
      obtain ⟨v1, b1, b2, b3⟩ := hM v hv
      refine ⟨sS v1 (11004, 842) (nI (q + 1)), b1.at (by omega), (show PgM v1 L from hP.fr b2), (b2.2.1 _ rfl).trans hd, Fr.S (a := (11004, 842)) b2.lm _ rfl, ?_⟩
      rw [b3, b1.2.2.2.1, naddL, lt_eq]
    rw [k1, bnd_some, if_neg (by decide)]
    rcases hrd u1 k2 (hL.lx k3) with ⟨L1, r, u2, i1, i2, i3, i4, i5, i6, i7, i8⟩ | ⟨d, q5, u2, i1, i2, i3, i4, i5⟩
    · have hr : r ≤ N := i3.2.1
      have h150 : L1.1 < 150 := by omega
      obtain ⟨u3, j1, j2, j3, j4⟩ := add_C (nI o) 0 hk i3 i4 h150
      have w2 : WFp (psh L1 (nI o) 0) (h1 + 1) := i5.psh (h1 + 1) (Or.inr ⟨⟨o, ho.1, ho.2, rfl⟩, by omega, by omega⟩)
      have e2 : (psh L1 (nI o) 0).1 = L1.1 + 1 := rfl
      rw [i1, bnd_some, if_neg (by decide), j1, bnd_some]
      have m1 : ∀ v, TXM v T N p → PgM v L → rS v (11007, 842) = nI dd → ∃ v4, TXM v4 T N r ∧ PgM v4 (psh L1 (nI o) 0) ∧ rS v4 (11007, 842) = nI dd ∧ Fr pLm v v4 ∧ M v = kM v4 := by
        intro v hv hP hd
        obtain ⟨v2, b1, b2, b3, b4, b5⟩ := m0 v hv hP hd
        obtain ⟨v3, d1, d2, d3, d4, d5⟩ := i8 v2 b1 b2 b3
        obtain ⟨v4, g1, g2, g3, g4, g5⟩ := emit_M (nI o) 0 d2 d3 h150
        exact ⟨v4, g2, g3, g5.trans d4, (b4.tr d5).tr g4, by rw [b5, d1, bnd_some, g1, bnd_some]⟩
      have f3 : Fr (pLa l) u u3 := ((k3.la l).tr i2).tr j4
      rcases hk1 (psh L1 (nI o) 0) r u3 (by omega) (by omega) (by omega) j2 j3 w2 with ⟨L4, r4, u4, o1, o2, o3, o4, o5, o6, o7, o8⟩ | ⟨d, q5, u4, o1, o2, o3, o4, o5⟩
      · refine Or.inl ⟨L4, r4, u4, o1, f3.tr o2, o3, o4, o5, o6, o7, ?_⟩
        intro v hv hP hd
        obtain ⟨v4, b1, b2, b3, b4, b5⟩ := m1 v hv hP hd
        obtain ⟨v5, d1, d2, d3, d4, d5⟩ := o8 v4 b1 b2 b3
        exact ⟨v5, b5.trans d1, d2, d3, d4, b4.tr d5⟩
      · refine Or.inr ⟨d, q5, u4, o1, f3.tr o2, o3, o4, ?_⟩
        intro v hv hP hd
        obtain ⟨v4, b1, b2, b3, b4, b5⟩ := m1 v hv hP hd
        obtain ⟨v5, d1, d2, d5⟩ := o5 v4 b1 b2 b3
        exact ⟨v5, b5.trans d1, d2, b4.tr d5⟩
    · obtain ⟨u3, j1, j2, j3, j4⟩ := add_any (nI c) 0 i4 i3
      rw [i1, bnd_some, if_pos rfl, j1, bnd_some, hk0]
      refine Or.inr ⟨d, q5, u3, rfl, ((k3.la l).tr i2).tr j4, j3, j2, ?_⟩
      intro v hv hP hd
      obtain ⟨v2, b1, b2, b3, b4, b5⟩ := m0 v hv hP hd
      obtain ⟨v3, d1, d2, d3⟩ := i5 v2 b1 b2 b3
      exact ⟨v3, by rw [b5, d1, bnd_some, emit_F _ _ d2, bnd_some, hkF _ _ _ d2], d2, b4.tr d3⟩
  · exact absurd ⟨hq, hc⟩ k1
