/-! law: units -/
theorem exO.ck {l : Nat} {T : Nat → Nat} {N p dd p0 n0 h1 : Nat} {L : ALw} {u : MEM} {x : Option (Int32 × MEM)} {M : MEM → Option (Unit × MEM)} (h : exO l T N p dd p0 n0 h1 L u x M) : exO l T N p dd p0 n0 h1 L u (bnd x fun (a : Int32) (w : MEM) => ck (b01 a) (some (a, w))) M := by
  rcases h with ⟨L1, r, u1, e, h⟩ | ⟨d, q, u1, e, h⟩
  · rw [e]
    exact Or.inl ⟨L1, r, u1, rfl, h⟩
  · rw [e]
    exact Or.inr ⟨d, q, u1, rfl, h⟩
theorem exO.pre2 {l : Nat} {T : Nat → Nat} {N p q dd p0 n0 h1 : Nat} {L : ALw} {u u1 : MEM} {x : Option (Int32 × MEM)} {M M1 : MEM → Option (Unit × MEM)} (f : Fr pTx u u1) (h : exO l T N q dd p0 n0 h1 L u1 x M1) (hM : ∀ v, TXM v T N p → rS v (11007, 842) = nI dd → ∃ v1, TXM v1 T N q ∧ Fr pTm v v1 ∧ M v = M1 v1) : exO l T N p dd p0 n0 h1 L u x M := by
  rcases h with ⟨L1, r, u2, i1, i2, i3, i4, i5, i6, i7, i8⟩ | ⟨d, q5, u2, i1, i2, i3, i4, i5⟩
  · refine Or.inl ⟨L1, r, u2, i1, (f.la l).tr i2, i3, i4, i5, i6, i7, ?_⟩
    intro v hv hP hd
    obtain ⟨v1, b1, b2, b3⟩ := hM v hv hd
    obtain ⟨v2, d1, d2, d3, d4, d5⟩ := i8 v1 b1 (hP.fr b2) ((b2.2.1 _ rfl).trans hd)
    exact ⟨v2, b3.trans d1, d2, d3, d4, b2.lm.tr d5⟩
  · refine Or.inr ⟨d, q5, u2, i1, (f.la l).tr i2, i3, i4, ?_⟩
    intro v hv hP hd
    obtain ⟨v1, b1, b2, b3⟩ := hM v hv hd
    obtain ⟨v2, d1, d2, d5⟩ := i5 v1 b1 (hP.fr b2) ((b2.2.1 _ rfl).trans hd)
    exact ⟨v2, b3.trans d1, d2, b2.lm.tr d5⟩
theorem bnd_id (x : Option (Unit × MEM)) : (bnd x fun (u : Unit) (w : MEM) => some ((), w)) = x := by
  cases x with
  | none => rfl
  | some y => rfl
def fwd (j : Nat) : Nat := match j with
  | 0 => 6
  | 1 => 7
  | 2 => 8
  | 3 => 9
  | 4 => 10
  | 5 => 11
  | 6 => 12
  | 7 => 3
  | _ => 0
theorem fwd_lt : ∀ j < 9, fwd j < 21 := by decide
theorem fwd_inj : ∀ j < 9, ∀ k < 9, wC (fwd j) = wC (fwd k) → j = k := by decide +kernel
theorem fwd_45 : ∀ j < 9, wC (fwd j) ≠ wC 4 ∧ wC (fwd j) ≠ wC 5 := by decide +kernel
theorem all9' {Q : Nat → Prop} (h0 : Q 0) (h1 : Q 1) (h2 : Q 2) (h3 : Q 3) (h4 : Q 4) (h5 : Q 5) (h6 : Q 6) (h7 : Q 7) (h8 : Q 8) : ∀ t < 9, Q t := fun t ht => all9 h0 h1 h2 h3 h4 h5 h6 h7 h8 t ht
theorem C_fact {T : Nat → Nat} {N q n : Nat} {u : MEM} (hT : TXC u T N q) (s : SK T N q q) (hn : LTR T N q n) : (∃ j u1, j < 9 ∧ wcT T q n = wC (fwd j) ∧ f_X3_valueAhead 3000 1 u = some (nI j, u1) ∧ TXC u1 T N (q + n) ∧ Fr pTx u u1) ∨ ((∀ j < 9, wcT T q n ≠ wC (fwd j)) ∧ ∃ u1, f_X3_valueAhead 3000 1 u = some (-1, u1) ∧ TXC u1 T N q ∧ Fr pTx u u1) := by
  rw [E_X3_valueAhead]
  rcases C_word (l := 6) (by omega) hT s hn with ⟨e0, u0, a0, b0, c0, d0⟩ | ⟨e0, u0, a0, b0, c0, d0⟩
  · exact Or.inl ⟨0, u0, by omega, e0, by rw [a0, bnd_some, if_neg (by decide)]; first | done | rfl, b0, d0⟩
  rw [a0, bnd_some, if_pos rfl]
  rcases C_word (l := 7) (by omega) b0 s hn with ⟨e1, u1, a1, b1, c1, d1⟩ | ⟨e1, u1, a1, b1, c1, d1⟩
  · exact Or.inl ⟨1, u1, by omega, e1, by rw [a1, bnd_some, if_neg (by decide)]; first | done | rfl, b1, (d0).tr d1⟩
  rw [a1, bnd_some, if_pos rfl]
  rcases C_word (l := 8) (by omega) b1 s hn with ⟨e2, u2, a2, b2, c2, d2⟩ | ⟨e2, u2, a2, b2, c2, d2⟩
  · exact Or.inl ⟨2, u2, by omega, e2, by rw [a2, bnd_some, if_neg (by decide)]; first | done | rfl, b2, ((d0).tr d1).tr d2⟩
  rw [a2, bnd_some, if_pos rfl]
  rcases C_word (l := 9) (by omega) b2 s hn with ⟨e3, u3, a3, b3, c3, d3⟩ | ⟨e3, u3, a3, b3, c3, d3⟩
  · exact Or.inl ⟨3, u3, by omega, e3, by rw [a3, bnd_some, if_neg (by decide)]; first | done | rfl, b3, (((d0).tr d1).tr d2).tr d3⟩
  rw [a3, bnd_some, if_pos rfl]
  rcases C_word (l := 10) (by omega) b3 s hn with ⟨e4, u4, a4, b4, c4, d4⟩ | ⟨e4, u4, a4, b4, c4, d4⟩
  · exact Or.inl ⟨4, u4, by omega, e4, by rw [a4, bnd_some, if_neg (by decide)]; first | done | rfl, b4, ((((d0).tr d1).tr d2).tr d3).tr d4⟩
  rw [a4, bnd_some, if_pos rfl]
  rcases C_word (l := 11) (by omega) b4 s hn with ⟨e5, u5, a5, b5, c5, d5⟩ | ⟨e5, u5, a5, b5, c5, d5⟩
  · exact Or.inl ⟨5, u5, by omega, e5, by rw [a5, bnd_some, if_neg (by decide)]; first | done | rfl, b5, (((((d0).tr d1).tr d2).tr d3).tr d4).tr d5⟩
  rw [a5, bnd_some, if_pos rfl]
  rcases C_word (l := 12) (by omega) b5 s hn with ⟨e6, u6, a6, b6, c6, d6⟩ | ⟨e6, u6, a6, b6, c6, d6⟩
  · exact Or.inl ⟨6, u6, by omega, e6, by rw [a6, bnd_some, if_neg (by decide)]; first | done | rfl, b6, ((((((d0).tr d1).tr d2).tr d3).tr d4).tr d5).tr d6⟩
  rw [a6, bnd_some, if_pos rfl]
  rcases C_word (l := 3) (by omega) b6 s hn with ⟨e7, u7, a7, b7, c7, d7⟩ | ⟨e7, u7, a7, b7, c7, d7⟩
  · exact Or.inl ⟨7, u7, by omega, e7, by rw [a7, bnd_some, if_neg (by decide)]; first | done | rfl, b7, (((((((d0).tr d1).tr d2).tr d3).tr d4).tr d5).tr d6).tr d7⟩
  rw [a7, bnd_some, if_pos rfl]
  rcases C_word (l := 0) (by omega) b7 s hn with ⟨e8, u8, a8, b8, c8, d8⟩ | ⟨e8, u8, a8, b8, c8, d8⟩
  · exact Or.inl ⟨8, u8, by omega, e8, by rw [a8, bnd_some, if_neg (by decide)]; first | done | rfl, b8, ((((((((d0).tr d1).tr d2).tr d3).tr d4).tr d5).tr d6).tr d7).tr d8⟩
  rw [a8, bnd_some, if_pos rfl]
  exact Or.inr ⟨all9' e0 e1 e2 e3 e4 e5 e6 e7 e8, u8, rfl, b8, ((((((((d0).tr d1).tr d2).tr d3).tr d4).tr d5).tr d6).tr d7).tr d8⟩
theorem M_fact {T : Nat → Nat} {N q n : Nat} {v : MEM} (hT : TXM v T N q) (s : SK T N q q) (hn : LTR T N q n) : ∃ v1, TXM v1 T N q ∧ Fr pTm v v1 ∧ ((∃ j, j < 9 ∧ wcT T q n = wC (fwd j) ∧ f_X10_factHere 3000 842 v = some (nI j, v1)) ∨ ((∀ j < 9, wcT T q n ≠ wC (fwd j)) ∧ f_X10_factHere 3000 842 v = some (-1, v1))) := by
  obtain ⟨v1, k1, k2, k3⟩ := M_word hT s hn
  have hx := wcT_lt hn
  refine ⟨v1, k2, k3, ?_⟩
  rw [E_X10_factHere, k1, bnd_some]
  rw [M_of (by omega), bnd_some]
  by_cases e0 : wcT T q n = wC 6
  · exact Or.inl ⟨0, by omega, e0, by rw [if_pos (by rw [e0])]; first | done | rfl⟩
  rw [if_neg (by rw [neqI _ _ hx (wC_lt 6 (by omega))]; exact e0)]
  rw [M_of (by omega), bnd_some]
  by_cases e1 : wcT T q n = wC 7
  · exact Or.inl ⟨1, by omega, e1, by rw [if_pos (by rw [e1])]; first | done | rfl⟩
  rw [if_neg (by rw [neqI _ _ hx (wC_lt 7 (by omega))]; exact e1)]
  rw [M_of (by omega), bnd_some]
  by_cases e2 : wcT T q n = wC 8
  · exact Or.inl ⟨2, by omega, e2, by rw [if_pos (by rw [e2])]; first | done | rfl⟩
  rw [if_neg (by rw [neqI _ _ hx (wC_lt 8 (by omega))]; exact e2)]
  rw [M_of (by omega), bnd_some]
  by_cases e3 : wcT T q n = wC 9
  · exact Or.inl ⟨3, by omega, e3, by rw [if_pos (by rw [e3])]; first | done | rfl⟩
  rw [if_neg (by rw [neqI _ _ hx (wC_lt 9 (by omega))]; exact e3)]
  rw [M_of (by omega), bnd_some]
  by_cases e4 : wcT T q n = wC 10
  · exact Or.inl ⟨4, by omega, e4, by rw [if_pos (by rw [e4])]; first | done | rfl⟩
  rw [if_neg (by rw [neqI _ _ hx (wC_lt 10 (by omega))]; exact e4)]
  rw [M_of (by omega), bnd_some]
  by_cases e5 : wcT T q n = wC 11
  · exact Or.inl ⟨5, by omega, e5, by rw [if_pos (by rw [e5])]; first | done | rfl⟩
  rw [if_neg (by rw [neqI _ _ hx (wC_lt 11 (by omega))]; exact e5)]
  rw [M_of (by omega), bnd_some]
  by_cases e6 : wcT T q n = wC 12
  · exact Or.inl ⟨6, by omega, e6, by rw [if_pos (by rw [e6])]; first | done | rfl⟩
  rw [if_neg (by rw [neqI _ _ hx (wC_lt 12 (by omega))]; exact e6)]
  rw [M_of (by omega), bnd_some]
  by_cases e7 : wcT T q n = wC 3
  · exact Or.inl ⟨7, by omega, e7, by rw [if_pos (by rw [e7])]; first | done | rfl⟩
  rw [if_neg (by rw [neqI _ _ hx (wC_lt 3 (by omega))]; exact e7)]
  rw [M_of (by omega), bnd_some]
  by_cases e8 : wcT T q n = wC 0
  · exact Or.inl ⟨8, by omega, e8, by rw [if_pos (by rw [e8])]; first | done | rfl⟩
  rw [if_neg (by rw [neqI _ _ hx (wC_lt 0 (by omega))]; exact e8)]
  exact Or.inr ⟨all9' e0 e1 e2 e3 e4 e5 e6 e7 e8, rfl⟩
def unW (f1 : Nat) (v : MEM) : Option (Unit × MEM) := bnd (f_X10_word 3000 842 v) fun (x10 : Int32) (w9 : MEM) => bnd (f_X10_of 3000 4 w9) fun (x12 : Int32) (w11 : MEM) => if x10 = x12 then (bnd (f_X10_readTwo 3000 f1 842 (5 : Int32) (6 : Int32) w11) fun (u36 : Unit) (w35 : MEM) => some ((), w35)) else (bnd (f_X10_word 3000 842 w11) fun (x14 : Int32) (w13 : MEM) => bnd (f_X10_of 3000 5 w13) fun (x16 : Int32) (w15 : MEM) => if x14 = x16 then (bnd (f_X10_readTwo 3000 f1 842 (4 : Int32) (7 : Int32) w15) fun (u34 : Unit) (w33 : MEM) => some ((), w33)) else (bnd (f_X10_factHere 3000 842 w15) fun (x18 : Int32) (w17 : MEM) => if x18 = (-1 : Int32) then (bnd (f_X10_wrong 3000 842 (1 : Int32) (rS w17 (11004, 842)) w17) fun (u26 : Unit) (w25 : MEM) => bnd (f_X10_fine 3000 842 w25) fun (x28 : Int32) (w27 : MEM) => if x28 = 0 then (some ((), w27)) else (bnd (f_X10_pass 3000 842 w27) fun (u30 : Unit) (w29 : MEM) => bnd (f_X10_emit 3000 842 (1 : Int32) x18 w29) fun (u32 : Unit) (w31 : MEM) => some ((), w31))) else (bnd (f_X10_fine 3000 842 w17) fun (x20 : Int32) (w19 : MEM) => if x20 = 0 then (some ((), w19)) else (bnd (f_X10_pass 3000 842 w19) fun (u22 : Unit) (w21 : MEM) => bnd (f_X10_emit 3000 842 (1 : Int32) x18 w21) fun (u24 : Unit) (w23 : MEM) => some ((), w23)))))
theorem un_M {v : MEM} {T : Nat → Nat} {N p q f1 : Nat} (hT : TXM v T N p) (s : SK T N p q) (h40 : ¬ (q < N ∧ T q = 40)) : ∃ v1, TXM v1 T N q ∧ Fr pTm v v1 ∧ f_X10_readUnit 3000 (f1 + 1) 842 v = (if q < N ∧ (48 ≤ T q ∧ T q ≤ 57) then (bnd (f_X10_readNumber 3000 842 (0 : Int32) (999 : Int32) v1) fun (x38 : Int32) (w37 : MEM) => bnd (f_X10_emit 3000 842 (0 : Int32) x38 w37) fun (u40 : Unit) (w39 : MEM) => some ((), w39)) else unW f1 v1) := by
  have hTT : ∀ k < N, T k < 256 := fun k hk => (hT.2.2.2.2.2 k hk).1
  obtain ⟨v1, b1, b2, b3⟩ := M_here hT s
  obtain ⟨v2, c1, c2, c3⟩ := M_here b2 s.idem
  have n40 : ¬ hr T N q = (40 : Int32) := hr_ne (c := 40) hTT (by omega) (by omega) h40
  refine ⟨v2, c2, b3.tr c3, ?_⟩
  rw [Et_X10_readUnit, E_X10_readUnit, M_fine hT.2.2.2.2.1, bnd_some, if_neg (by decide), b1, bnd_some, if_neg n40, c1, bnd_some]
  by_cases d : q < N
  · have e : hr T N q = nI (T q) := hrq d rfl
    rw [e, M_digit (hTT q d) v2 inferInstance, bnd_some]
    by_cases d2 : 48 ≤ T q ∧ T q ≤ 57
    · rw [if_pos d2, if_neg (by decide), if_pos ⟨d, d2⟩]
    · rw [if_neg d2, if_pos rfl, if_neg (fun x => d2 x.2)]
      rfl
  · have e : hr T N q = nI 0 := by unfold hr; rw [if_neg d]; rfl
    rw [e, M_digit (show 0 < 256 by omega) v2 inferInstance, bnd_some, if_neg (show ¬ (48 ≤ 0 ∧ 0 ≤ 57) by omega), if_pos rfl, if_neg (fun x => d x.1)]
    rfl
theorem opens_ok {v1 : MEM} {T : Nat → Nat} {N q dd k : Nat} (hT : TXM v1 T N q) (hd : rS v1 (11007, 842) = nI dd) (h6 : dd < 6) : f_X10_opensOne 3000 842 (nI k) v1 = some ((), dp1 (sS v1 (11004, 842) (nI (q + k))) dd) := by
  have e : rS (sS v1 (11004, 842) (nI (q + k))) (11007, 842) = nI dd := hd
  rw [E_X10_opensOne, M_fine hT.2.2.2.2.1, bnd_some, if_neg (by decide), hd, if_neg (by rw [neqL _ _ (by omega) (by decide)]; show ¬ dd = 6; omega), M_fine hT.2.2.2.2.1, bnd_some, if_neg (by decide), hT.2.2.2.1, nI_add, lt_eq, e, naddL, lt_eq]
  rfl
theorem opens_bad {v1 : MEM} {T : Nat → Nat} {N q : Nat} (x : Int32) (hT : TXM v1 T N q) (hd : rS v1 (11007, 842) = nI 6) : ∃ v2, f_X10_opensOne 3000 842 x v1 = some ((), v2) ∧ TFM v2 3 q ∧ Fr pLm v1 v2 := by
  have hq := hT.2.1
  have hN := hT.1
  obtain ⟨v3, y1, y2, y3⟩ := M_wrong 3 (q := q) (by omega) hT
  have y1 : f_X10_wrong 3000 842 (3 : Int32) (nI q) v1 = some ((), v3) := y1
  refine ⟨sS v3 (11007, 842) (rS v3 (11007, 842) + 1), ?_, y2, Fr.S (a := (11007, 842)) y3.lm _ rfl⟩
  rw [E_X10_opensOne, M_fine hT.2.2.2.2.1, bnd_some, if_neg (by decide), hd, if_pos (show nI 6 = (6 : Int32) from rfl), hT.2.2.2.1, y1, bnd_some, M_fineF y2, bnd_some, if_pos rfl, lt_eq]
