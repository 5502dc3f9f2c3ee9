/-! court: a clause -/
theorem rowO.ck {c wd : Nat} {T : Nat → Nat} {N p : Nat} {C : ACt} {F : Nat → Int32} {u : MEM} {x : Option (Int32 × MEM)} (h : rowO c wd T N p C F u x) : rowO c wd T N p C F u (bnd x fun (a : Int32) (w : MEM) => ck (b01 a) (some (a, w))) := by
  rcases h with ⟨C1, F1, r, u1, e, h⟩ | ⟨d, q, u1, e, h⟩
  · rw [e]
    exact Or.inl ⟨C1, F1, r, u1, rfl, h⟩
  · rw [e]
    exact Or.inr ⟨d, q, u1, rfl, h⟩
abbrev fullC (C : ACt) (wd : Nat) : Prop := (wd = 0 ∧ cH C = 7) ∨ (wd = 1 ∧ cT C = 12) ∨ (wd = 2 ∧ cK C = 6)
def clOut (c fl : Nat) (T : Nat → Nat) (N q n : Nat) (C : ACt) (F : Nat → Int32) (u : MEM) (x : Option (Int32 × MEM)) : Prop :=
  (∃ wd, wd < 4 ∧ wcT T q n = wC wd ∧ fl = 0 ∧ ¬ fullC C wd ∧ ∃ u0, Fr pTx u u0 ∧ rowO c wd T N (q + n) C F u0 x)
  ∨ (∃ kd u1, x = some (0, u1) ∧ Fr pTx u u1 ∧ TFC u1 kd q ∧ ((kd = 1 ∧ ∀ wd < 4, wcT T q n ≠ wC wd) ∨ (kd = 3 ∧ ∃ wd, wd < 4 ∧ wcT T q n = wC wd ∧ (fl = 1 ∨ fullC C wd))))
theorem cl_ref {c fl : Nat} {T : Nat → Nat} {N q n : Nat} {C : ACt} {F : Nat → Int32} {u u0 : MEM} (f : Fr pTx u u0) (st : rS u0 (10804, 1) = nI q) {wd : Nat} (h4 : wd < 4) (e : wcT T q n = wC wd) (h : fl = 1 ∨ fullC C wd) : clOut c fl T N q n C F u (bnd (f_X8_refuse 3000 1 (3 : Int32) u0) fun (x10 : Int32) (w9 : MEM) => ck (b01 x10) (some (x10, w9))) := by
  obtain ⟨u1, y1, y2, y3⟩ := C_refuse 3 st
  have y1 : f_X8_refuse 3000 1 (3 : Int32) u0 = some (0, u1) := y1
  rw [y1, bnd_some, b01_0, ck_tr]
  exact Or.inr ⟨3, u1, rfl, f.tr y3, y2, Or.inr ⟨rfl, wd, h4, e, h⟩⟩
theorem C_clause {c fl : Nat} (hfl : fl = 0 ∨ fl = 1) {T : Nat → Nat} {N q n : Nat} {u : MEM} {C : ACt} {F : Nat → Int32} (hT : TXC u T N q) (s : SK T N q q) (hn : LTR T N q n) (hC : CC u c C F) (hW : WFx C F) : clOut c fl T N q n C F u (f_X1_readClause 3000 c 1 (nI fl) u) := by
  have h7 := hW.1.1
  have h6 := hW.1.2.1
  have h12 := hW.1.2.2.2.1
  have fl0 : (nI fl = 0) = (fl = 0) := by
    rcases hfl with rfl | rfl
    · exact propext ⟨fun _ => rfl, fun _ => rfl⟩
    · exact propext ⟨fun h => absurd h (by decide), fun h => absurd h (by decide)⟩
  rw [E_X1_readClause]
  rcases C_word (l := 0) (by omega) hT s hn with ⟨e0, u0, a1, a2, a3, a4⟩ | ⟨e0, u0, a1, a2, a3, a4⟩
  · rw [a1, bnd_some, if_neg (by decide)]
    have hC0 := hC.fr a4
    by_cases c0 : fl = 0
    · rw [if_pos (fl0 ▸ c0), hC0.1]
      by_cases c1 : cH C < 7
      · rw [if_pos (by rw [nltL _ _ (by omega) (by decide)]; exact c1)]
        exact Or.inl ⟨0, by omega, e0, c0, by unfold fullC; omega, u0, a4, (row_H a2 hC0 hW c1).ck⟩
      · rw [if_neg (by rw [nltL _ _ (by omega) (by decide)]; exact c1)]
        exact cl_ref a4 a3 (by omega) e0 (Or.inr (by unfold fullC; omega))
    · rw [if_neg (fl0 ▸ c0)]
      exact cl_ref a4 a3 (by omega) e0 (Or.inl (by omega))
  rw [a1, bnd_some, if_pos rfl]
  rcases C_word (l := 1) (by omega) a2 s hn with ⟨e1, u1, b1, b2, b3, b4⟩ | ⟨e1, u1, b1, b2, b3, b4⟩
  · rw [b1, bnd_some, if_neg (by decide)]
    have hC0 := (hC.fr a4).fr b4
    by_cases c0 : fl = 0
    · rw [if_pos (fl0 ▸ c0), hC0.2.1]
      by_cases c1 : cT C < 12
      · rw [if_pos (by rw [nltL _ _ (by omega) (by decide)]; exact c1)]
        exact Or.inl ⟨1, by omega, e1, c0, by unfold fullC; omega, u1, a4.tr b4, (row_T b2 hC0 hW c1).ck⟩
      · rw [if_neg (by rw [nltL _ _ (by omega) (by decide)]; exact c1)]
        exact cl_ref (a4.tr b4) b3 (by omega) e1 (Or.inr (by unfold fullC; omega))
    · rw [if_neg (fl0 ▸ c0)]
      exact cl_ref (a4.tr b4) b3 (by omega) e1 (Or.inl (by omega))
  rw [b1, bnd_some, if_pos rfl]
  rcases C_word (l := 2) (by omega) b2 s hn with ⟨e2, u2, d1, d2, d3, d4⟩ | ⟨e2, u2, d1, d2, d3, d4⟩
  · rw [d1, bnd_some, if_neg (by decide)]
    have hC0 := ((hC.fr a4).fr b4).fr d4
    by_cases c0 : fl = 0
    · rw [if_pos (fl0 ▸ c0), hC0.2.2.1]
      by_cases c1 : cK C < 6
      · rw [if_pos (by rw [nltL _ _ (by omega) (by decide)]; exact c1)]
        exact Or.inl ⟨2, by omega, e2, c0, by unfold fullC; omega, u2, (a4.tr b4).tr d4, (row_K d2 hC0 hW c1).ck⟩
      · rw [if_neg (by rw [nltL _ _ (by omega) (by decide)]; exact c1)]
        exact cl_ref ((a4.tr b4).tr d4) d3 (by omega) e2 (Or.inr (by unfold fullC; omega))
    · rw [if_neg (fl0 ▸ c0)]
      exact cl_ref ((a4.tr b4).tr d4) d3 (by omega) e2 (Or.inl (by omega))
  rw [d1, bnd_some, if_pos rfl]
  rcases C_word (l := 3) (by omega) d2 s hn with ⟨e3, u3, g1, g2, g3, g4⟩ | ⟨e3, u3, g1, g2, g3, g4⟩
  · rw [g1, bnd_some, if_neg (by decide)]
    have hC0 := (((hC.fr a4).fr b4).fr d4).fr g4
    by_cases c0 : fl = 0
    · rw [if_pos (fl0 ▸ c0)]
      exact Or.inl ⟨3, by omega, e3, c0, by unfold fullC; omega, u3, ((a4.tr b4).tr d4).tr g4, (row_S g2 hC0 hW).ck⟩
    · rw [if_neg (fl0 ▸ c0)]
      exact cl_ref (((a4.tr b4).tr d4).tr g4) g3 (by omega) e3 (Or.inl (by omega))
  · rw [g1, bnd_some, if_pos rfl]
    obtain ⟨u4, y1, y2, y3⟩ := C_refuse 1 g3
    have y1 : f_X8_refuse 3000 1 (1 : Int32) u3 = some (0, u4) := y1
    rw [y1, bnd_some, b01_0, ck_tr]
    refine Or.inr ⟨1, u4, rfl, (((a4.tr b4).tr d4).tr g4).tr y3, y2, Or.inl ⟨rfl, fun wd h => ?_⟩⟩
    have : wd = 0 ∨ wd = 1 ∨ wd = 2 ∨ wd = 3 := by omega
    rcases this with rfl | rfl | rfl | rfl <;> assumption
theorem wC_lt : ∀ l < 21, wC l < 2 ^ 31 := by decide +kernel
theorem wcT_lt {T : Nat → Nat} {N q n : Nat} (h : LTR T N q n) : wcT T q n < 2 ^ 31 := by
  unfold wcT
  by_cases c : n ≤ 6
  · rw [if_pos c]
    have h1 := cdN_lt (fun k => T (q + k)) n (fun k hk => h.2.1 k hk)
    have h2 : 32 ^ n ≤ 32 ^ 6 := Nat.pow_le_pow_right (by omega) c
    have h3 : (32 : Nat) ^ 6 < 2 ^ 31 := by decide
    omega
  · rw [if_neg c]; decide
theorem M_isRow {x : Nat} (hx : x < 2 ^ 31) (v : MEM) : ((∃ wd, wd < 4 ∧ x = wC wd) ∧ f_X10_isRow 3000 (nI x) v = some (1, v)) ∨ ((∀ wd < 4, x ≠ wC wd) ∧ f_X10_isRow 3000 (nI x) v = some (0, v)) := by
  have w0 := wC_lt 0 (by omega)
  have w1 := wC_lt 1 (by omega)
  have w2 := wC_lt 2 (by omega)
  have w3 := wC_lt 3 (by omega)
  rw [E_X10_isRow, M_of (by omega), bnd_some]
  by_cases c0 : x = wC 0
  · left
    exact ⟨⟨0, by omega, c0⟩, by rw [if_pos (by rw [c0])]⟩
  rw [if_neg (by rw [neqI _ _ hx w0]; exact c0), M_of (by omega), bnd_some]
  by_cases c1 : x = wC 1
  · left
    exact ⟨⟨1, by omega, c1⟩, by rw [if_pos (by rw [c1])]⟩
  rw [if_neg (by rw [neqI _ _ hx w1]; exact c1), M_of (by omega), bnd_some]
  by_cases c2 : x = wC 2
  · left
    exact ⟨⟨2, by omega, c2⟩, by rw [if_pos (by rw [c2])]⟩
  rw [if_neg (by rw [neqI _ _ hx w2]; exact c2), M_of (by omega), bnd_some]
  by_cases c3 : x = wC 3
  · left
    exact ⟨⟨3, by omega, c3⟩, by rw [if_pos (by rw [c3])]⟩
  · right
    refine ⟨fun wd h => ?_, by rw [if_neg (by rw [neqI _ _ hx w3]; exact c3)]⟩
    have : wd = 0 ∨ wd = 1 ∨ wd = 2 ∨ wd = 3 := by omega
    rcases this with rfl | rfl | rfl | rfl <;> assumption
theorem wc_01 : ¬ nI (wC 0) = nI (wC 1) := fun e => wc_10 e.symm
theorem wc_02 : ¬ nI (wC 0) = nI (wC 2) := fun e => wc_20 e.symm
theorem wc_12 : ¬ nI (wC 1) = nI (wC 2) := fun e => wc_21 e.symm
theorem M_isFull {v : MEM} {C : ACt} {F : Nat → Int32} (hM : CM v C F) (hW : WFc C) {wd : Nat} (h4 : wd < 4) : f_X10_isFull 3000 842 (nI (wC wd)) v = some (if fullC C wd then 1 else 0, v) := by
  have h7 := hW.1
  have h6 := hW.2.1
  have h12 := hW.2.2.2.1
  rw [E_X10_isFull, M_of (by omega), bnd_some, hM.1]
  have : wd = 0 ∨ wd = 1 ∨ wd = 2 ∨ wd = 3 := by omega
  rcases this with rfl | rfl | rfl | rfl
  · rw [if_pos rfl, E_X10_isFull_18, M_of (by omega), bnd_some, if_neg wc_01, M_of (by omega), bnd_some, if_neg wc_02]
    by_cases c : cH C = 7
    · rw [if_pos (by rw [c]; rfl), if_pos (by unfold fullC; omega)]
    · rw [if_neg (by rw [neqL _ _ (by omega) (by decide)]; exact c), if_neg (by unfold fullC; omega)]
  · rw [if_neg wc_10, E_X10_isFull_18, M_of (by omega), bnd_some, if_pos rfl, M_of (by omega), bnd_some, if_neg wc_12, hM.2.1]
    by_cases c : cT C = 12
    · rw [if_pos (by rw [c]; rfl), if_pos (by unfold fullC; omega)]
    · rw [if_neg (by rw [neqL _ _ (by omega) (by decide)]; exact c), if_neg (by unfold fullC; omega)]
  · rw [if_neg wc_20, E_X10_isFull_18, M_of (by omega), bnd_some, if_neg wc_21, M_of (by omega), bnd_some, if_pos rfl, hM.2.2.1]
    by_cases c : cK C = 6
    · rw [if_pos (by rw [c]; rfl), if_pos (by unfold fullC; omega)]
    · rw [if_neg (by rw [neqL _ _ (by omega) (by decide)]; exact c), if_neg (by unfold fullC; omega)]
  · rw [if_neg wc_30, E_X10_isFull_18, M_of (by omega), bnd_some, if_neg wc_31, M_of (by omega), bnd_some, if_neg wc_32, if_neg (by unfold fullC; omega)]
def pM8 (a : LA) : Bool := pMc a || (Nat.beq a.1 11008 && Nat.beq a.2 842)
theorem Fr.m8 {w w1 : MEM} (g : Fr pMc w w1) : Fr pM8 w w1 := g.mono (fun a h => by unfold pM8; rw [h, Bool.true_or])
theorem finS {v : MEM} {T : Nat → Nat} {N q : Nat} (x : Int32) (h : TXM v T N q) : (bnd (f_X10_result 3000 842 x v) fun (x10 : Int32) (w9 : MEM) => if (rS w9 (11005, 842)) = (-1 : Int32) then (bnd (f_X10_sets 3000 842 w9) fun (u12 : Unit) (w11 : MEM) => some (x10, w11)) else (some (x10, w9))) = bnd (f_X10_sets 3000 842 (sS v (11008, 842) (-1))) fun (u12 : Unit) (w11 : MEM) => some (x, w11) := by
  have e5 : rS (sS v (11008, 842) (-1)) (11005, 842) = -1 := by rw [rS_sS, if_neg (by decide)]; exact h.2.2.2.2.1
  rw [result_ok _ h, bnd_some, if_pos e5]
theorem finSF {v : MEM} {k q : Nat} (x : Int32) (h : TFM v k q) : (bnd (f_X10_result 3000 842 x v) fun (x10 : Int32) (w9 : MEM) => if (rS w9 (11005, 842)) = (-1 : Int32) then (bnd (f_X10_sets 3000 842 w9) fun (u12 : Unit) (w11 : MEM) => some (x10, w11)) else (some (x10, w9))) = some (nI k - 10, sS v (11008, 842) (nI q)) := by
  have e5 : ¬ rS (sS v (11008, 842) (nI q)) (11005, 842) = -1 := by
    have := h.1.1
    rw [rS_sS, if_neg (by decide), h.2.2]
    exact ne_m1 (by omega)
  rw [result_F x h, bnd_some, if_neg e5]
theorem c105F {v : MEM} {k q : Nat} (K : Nat → Int32 → MEM → Option (Int32 × MEM)) (x y : Int32) (h : TFM v k q) : f_X10_court_105 3000 K 842 x y v = some (nI k - 10, sS v (11008, 842) (nI q)) := by
  rw [E_X10_court_105, M_fineF h, bnd_some, if_pos rfl]
  exact finSF _ h
def coOut (c : Nat) (T : Nat → Nat) (N p m g : Nat) (C : ACt) (F : Nat → Int32) (u : MEM) (x : Option (Int32 × MEM)) : Prop :=
  (∃ C1 F1 u1, x = some (1, u1) ∧ Fr (pCo c) u u1 ∧ CC u1 c C1 F1 ∧ WFx C1 F1 ∧ rS u1 (10806, 1) = -1 ∧ ∀ v k, g < k → TXM v T N p → CM v C F → ∃ v1, f_X10_court_44 3000 k 842 (nI m) v = (bnd (f_X10_sets 3000 842 v1) fun (u12 : Unit) (w11 : MEM) => some (nI (cH C1), w11)) ∧ CM v1 C1 F1 ∧ Fr pM8 v v1 ∧ rS v1 (11008, 842) = -1)
  ∨ (∃ d q u1, x = some (0, u1) ∧ Fr (pCo c) u u1 ∧ TFC u1 d q ∧ ∀ v k, g < k → TXM v T N p → CM v C F → ∃ v1, f_X10_court_44 3000 k 842 (nI m) v = some (nI d - 10, v1) ∧ Fr pM8 v v1 ∧ rS v1 (11008, 842) = nI q)
theorem c_fail {v v2 : MEM} {d q : Nat} (f : Fr pMc v v2) (x : Option (Int32 × MEM)) (e : x = some (nI d - 10, sS v2 (11008, 842) (nI q))) : ∃ v1, x = some (nI d - 10, v1) ∧ Fr pM8 v v1 ∧ rS v1 (11008, 842) = nI q :=
  ⟨_, e, Fr.S (a := (11008, 842)) f.m8 _ rfl, by rw [rS_sS, if_pos rfl]⟩
theorem court_loop {c : Nat} {T : Nat → Nat} {N : Nat} : ∀ g m n u p C F, m + g = 61 → g < n → m ≤ 60 → TXC u T N p → CC u c C F → WFx C F → coOut c T N p m g C F u (f_X1_read_31 3000 n c 1 (nI m) u)
  | 0, m, n, u, p, C, F, h1, h2, h3, hT, hC, hW => by omega
  | g + 1, m, n, u, p, C, F, h1, h2, h3, hT, hC, hW => by
    obtain ⟨n, rfl⟩ : ∃ n', n = n' + 1 := ⟨n - 1, by omega⟩
    have hN := hT.1
    obtain ⟨q, s⟩ := sk_ex T N N p hT.2.1 (by omega)
    obtain ⟨u1, a1, a2, a3, a4⟩ := C_peek hT s
    have hq := s.2.1
    have s2 := s.idem
    have hC1 := hC.fr a4
    rw [E_X1_read_31, if_neg (by rw [nLlt _ _ (by omega) (by decide)]; show ¬ 60 < m; omega), a1, bnd_some]
    unfold pk
    by_cases c0 : q < N
    · rw [if_pos c0, if_neg (ne_m1 (by have := (hT.2.2.2.2.2 q c0).1; omega))]
      obtain ⟨L, hL⟩ := rl_ex T N N q hq (by omega)
      have hx := wcT_lt hL
      -- the class: both arms are one clause
      obtain ⟨fl, hfl, hf0⟩ : ∃ fl, (fl = 0 ∨ fl = 1) ∧ (fl = 1 ↔ m = 60) := by
        by_cases c1 : m = 60
        · exact ⟨1, Or.inr rfl, by omega⟩
        · exact ⟨0, Or.inl rfl, by omega⟩
      have hcl : (if nI m < (60 : Int32) then (bnd (f_X1_readClause 3000 c 1 (0 : Int32) u1) fun (x4 : Int32) (w3 : MEM) => if x4 = 0 then (some ((0 : Int32), w3)) else (bnd (f_X8_needSign 3000 1 (59 : Int32) w3) fun (x6 : Int32) (w5 : MEM) => if x6 = 0 then (some ((0 : Int32), w5)) else (f_X1_read_31 3000 n c 1 (nI m + (1 : Int32)) w5))) else (bnd (f_X1_readClause 3000 c 1 (1 : Int32) u1) fun (x8 : Int32) (w7 : MEM) => if x8 = 0 then (some ((0 : Int32), w7)) else (bnd (f_X8_needSign 3000 1 (59 : Int32) w7) fun (x10 : Int32) (w9 : MEM) => if x10 = 0 then (some ((0 : Int32), w9)) else (f_X1_read_31 3000 n c 1 (nI m + (1 : Int32)) w9)))) = (bnd (f_X1_readClause 3000 c 1 (nI fl) u1) fun (x4 : Int32) (w3 : MEM) => if x4 = 0 then (some ((0 : Int32), w3)) else (bnd (f_X8_needSign 3000 1 (59 : Int32) w3) fun (x6 : Int32) (w5 : MEM) => if x6 = 0 then (some ((0 : Int32), w5)) else (f_X1_read_31 3000 n c 1 (nI (m + 1)) w5))) := by
        rw [show nI m + (1 : Int32) = nI (m + 1) from nI_add m 1]
        rcases hfl with rfl | rfl
        · rw [if_pos (by rw [nltL _ _ (by omega) (by decide)]; show m < 60; omega)]
          rfl
        · rw [if_neg (by rw [nltL _ _ (by omega) (by decide)]; show ¬ m < 60; omega)]
          rfl
      rw [hcl]
      -- the model up to the row
      have mod : ∀ v k, TXM v T N p → ∃ v2, Fr pTm v v2 ∧ TXM v2 T N q ∧ f_X10_court_44 3000 (k + 1) 842 (nI m) v = bnd (f_X10_isRow 3000 (nI (wcT T q L)) v2) fun (x16 : Int32) (w15 : MEM) => if x16 = 0 then (bnd (f_X10_wrong 3000 842 (1 : Int32) (rS w15 (11004, 842)) w15) fun (u24 : Unit) (w23 : MEM) => f_X10_court_105 3000 (fun l0 l2 w => f_X10_court_44 3000 k l0 l2 w) 842 (nI m) (nI (wcT T q L)) w23) else (if nI m = (60 : Int32) then (bnd (f_X10_wrong 3000 842 (3 : Int32) (rS w15 (11004, 842)) w15) fun (u18 : Unit) (w17 : MEM) => f_X10_court_105 3000 (fun l0 l2 w => f_X10_court_44 3000 k l0 l2 w) 842 (nI m) (nI (wcT T q L)) w17) else (bnd (f_X10_isFull 3000 842 (nI (wcT T q L)) w15) fun (x20 : Int32) (w19 : MEM) => if x20 = 0 then (f_X10_court_105 3000 (fun l0 l2 w => f_X10_court_44 3000 k l0 l2 w) 842 (nI m) (nI (wcT T q L)) w19) else (bnd (f_X10_wrong 3000 842 (3 : Int32) (rS w19 (11004, 842)) w19) fun (u22 : Unit) (w21 : MEM) => f_X10_court_105 3000 (fun l0 l2 w => f_X10_court_44 3000 k l0 l2 w) 842 (nI m) (nI (wcT T q L)) w21))) := by
        intro v k hv
        obtain ⟨v1, b1, b2, b3⟩ := M_more hv s
        obtain ⟨v2, b4, b5, b6⟩ := M_word b2 s2 hL
        refine ⟨v2, b3.tr b6, b5, ?_⟩
        rw [E_X10_court_44, M_fine hv.2.2.2.2.1, bnd_some, if_neg (by decide), b1, if_pos c0, bnd_some, if_neg (by decide), b4, bnd_some]
      rcases C_clause hfl a2 s2 hL hC1 hW with ⟨wd, w4, ew, f0, nf, u0, fr0, hr⟩ | ⟨kd, u2, e1, e2, e3, e4⟩
      · have hm : m < 60 := by omega
        have mod2 : ∀ v k, TXM v T N p → CM v C F → ∃ v3, Fr pTm v v3 ∧ TXM v3 T N (q + L) ∧ CM v3 C F ∧ f_X10_court_44 3000 (k + 1) 842 (nI m) v = bnd (f_X10_readRow 3000 842 (nI (wC wd)) v3) fun (u6 : Unit) (w5 : MEM) => bnd (f_X10_sign 3000 842 (59 : Int32) w5) fun (u8 : Unit) (w7 : MEM) => f_X10_court_44 3000 k 842 (nI (m + 1)) w7 := by
          intro v k hv hM
          obtain ⟨v2, b1, b2, b3⟩ := mod v k hv
          obtain ⟨v3, d1, d2, d3⟩ := M_pass b2 hL
          have hM2 := hM.fr b1
          refine ⟨v3, b1.tr d3, d2, hM2.fr d3, ?_⟩
          rcases M_isRow hx v2 with ⟨_, x2⟩ | ⟨x1, _⟩
          · rw [b3, x2, bnd_some, if_neg (by decide), if_neg (by rw [neqL _ _ (by omega) (by decide)]; show ¬ m = 60; omega), ew, M_isFull hM2 hW.1 w4, if_neg nf, bnd_some, if_pos rfl, E_X10_court_105, M_fine b2.2.2.2.2.1, bnd_some, if_neg (by decide), d1, bnd_some, naddL]
          · exact absurd ew (x1 wd w4)
        rcases hr with ⟨C1, F1, r, u2, i1, i2, i3, i4, i5, i6⟩ | ⟨d, q3, u2, i1, i2, i3, i4⟩
        · obtain ⟨q3, y⟩ := sk_ex T N N r i3.2.1 (by omega)
          have f2 : Fr (pCo c) u u2 := ((a4.tr fr0).co c).tr i2
          rw [i1, bnd_some, if_neg (by decide)]
          rcases C_sign (c := 59) i3 y (by omega) with ⟨z1, z2, u5, z3, z4, z5⟩ | ⟨z1, u5, z3, z4, z5⟩
          · have z3 : f_X8_needSign 3000 1 (59 : Int32) u2 = some (1, u5) := z3
            rw [z3, bnd_some, if_neg (by decide)]
            have ih := court_loop g (m + 1) n u5 (q3 + 1) C1 F1 (by omega) (by omega) (by omega) z4 (i4.fr z5) i5
            have f5 : Fr (pCo c) u u5 := f2.tr (z5.co c)
            have mod4 : ∀ v k, TXM v T N p → CM v C F → ∃ v6, Fr pMc v v6 ∧ TXM v6 T N (q3 + 1) ∧ CM v6 C1 F1 ∧ f_X10_court_44 3000 (k + 1) 842 (nI m) v = f_X10_court_44 3000 k 842 (nI (m + 1)) v6 := by
              intro v k hv hM
              obtain ⟨v3, b1, b2, b3, b4⟩ := mod2 v k hv hM
              obtain ⟨v4, d1, d2, d3, d4⟩ := i6 v3 b2 b3
              rcases M_sign (c := 59) d2 y (by omega) (by omega) with ⟨x1, x2, v5, x3, x4, x5⟩ | ⟨x1, v5, x3, x4, x5⟩
              · have x3 : f_X10_sign 3000 842 (59 : Int32) v4 = some ((), v5) := x3
                exact ⟨v5, (b1.mc.tr d4).tr x5.mc, x4, d3.fr x5, by rw [b4, d1, bnd_some, x3, bnd_some]⟩
              · exact absurd ⟨z1, z2⟩ x1
            rcases ih with ⟨C2, F2, u6, j1, j2, j3, j4, j5, j6⟩ | ⟨d, q4, u6, j1, j2, j3, j4⟩
            · refine Or.inl ⟨C2, F2, u6, j1, f5.tr j2, j3, j4, j5, ?_⟩
              intro v k hk hv hM
              obtain ⟨k, rfl⟩ : ∃ k', k = k' + 1 := ⟨k - 1, by omega⟩
              obtain ⟨v6, o1, o2, o3, o4⟩ := mod4 v k hv hM
              obtain ⟨v7, o5, o6, o7, o8⟩ := j6 v6 k (by omega) o2 o3
              exact ⟨v7, o4.trans o5, o6, o1.m8.tr o7, o8⟩
            · refine Or.inr ⟨d, q4, u6, j1, f5.tr j2, j3, ?_⟩
              intro v k hk hv hM
              obtain ⟨k, rfl⟩ : ∃ k', k = k' + 1 := ⟨k - 1, by omega⟩
              obtain ⟨v6, o1, o2, o3, o4⟩ := mod4 v k hv hM
              obtain ⟨v7, o5, o6, o7⟩ := j4 v6 k (by omega) o2 o3
              exact ⟨v7, o4.trans o5, o1.m8.tr o6, o7⟩
          · have z3 : f_X8_needSign 3000 1 (59 : Int32) u2 = some (0, u5) := z3
            rw [z3, bnd_some, if_pos rfl]
            refine Or.inr ⟨1, q3, u5, rfl, f2.tr (z5.co c), z4, ?_⟩
            intro v k hk hv hM
            obtain ⟨k, rfl⟩ : ∃ k', k = k' + 1 := ⟨k - 1, by omega⟩
            obtain ⟨v3, b1, b2, b3, b4⟩ := mod2 v k hv hM
            obtain ⟨v4, d1, d2, d3, d4⟩ := i6 v3 b2 b3
            obtain ⟨k, rfl⟩ : ∃ k', k = k' + 1 := ⟨k - 1, by omega⟩
            rcases M_sign (c := 59) d2 y (by omega) (by omega) with ⟨x1, x2, v5, x3, x4, x5⟩ | ⟨x1, v5, x3, x4, x5⟩
            · exact absurd ⟨x1, x2⟩ z1
            · have x3 : f_X10_sign 3000 842 (59 : Int32) v4 = some ((), v5) := x3
              refine c_fail ((b1.mc.tr d4).tr x5.mc) _ ?_
              rw [b4, d1, bnd_some, x3, bnd_some, E_X10_court_44, M_fineF x4, bnd_some, if_pos rfl]
              exact finSF _ x4
        · have f2 : Fr (pCo c) u u2 := ((a4.tr fr0).co c).tr i2
          rw [i1, bnd_some, if_pos rfl]
          refine Or.inr ⟨d, q3, u2, rfl, f2, i3, ?_⟩
          intro v k hk hv hM
          obtain ⟨k, rfl⟩ : ∃ k', k = k' + 1 := ⟨k - 1, by omega⟩
          obtain ⟨v3, b1, b2, b3, b4⟩ := mod2 v k hv hM
          obtain ⟨v4, d1, d2, d4⟩ := i4 v3 b2 b3
          obtain ⟨k, rfl⟩ : ∃ k', k = k' + 1 := ⟨k - 1, by omega⟩
          refine c_fail (b1.mc.tr d4) _ ?_
          rw [b4, d1, bnd_some, M_signF _ d2, bnd_some, E_X10_court_44, M_fineF d2, bnd_some, if_pos rfl]
          exact finSF _ d2
      · rw [e1, bnd_some, if_pos rfl]
        refine Or.inr ⟨kd, q, u2, rfl, (a4.tr e2).co c, e3, ?_⟩
        intro v k hk hv hM
        obtain ⟨k, rfl⟩ : ∃ k', k = k' + 1 := ⟨k - 1, by omega⟩
        obtain ⟨v2, b1, b2, b3⟩ := mod v k hv
        have hM2 := hM.fr b1
        have pq := b2.2.2.2.1
        rcases M_isRow hx v2 with ⟨⟨wd2, x0, x1⟩, x2⟩ | ⟨x1, x2⟩
        · rcases e4 with ⟨g1, g2⟩ | ⟨g1, wd, w4, ew, g2⟩
          · exact absurd x1 (g2 wd2 x0)
          · obtain ⟨v3, y1, y2, y3⟩ := M_wrong 3 (q := q) (by omega) b2
            have y1 : f_X10_wrong 3000 842 (3 : Int32) (nI q) v2 = some ((), v3) := y1
            subst g1
            refine c_fail (b1.tr y3).mc _ ?_
            by_cases c1 : m = 60
            · rw [b3, x2, bnd_some, if_neg (by decide), if_pos (by rw [c1]; rfl), pq, y1, bnd_some]
              exact c105F _ _ _ y2
            · have g2 : fullC C wd := by
                rcases g2 with g2 | g2
                · exact absurd (hf0.mp g2) c1
                · exact g2
              rw [b3, x2, bnd_some, if_neg (by decide), if_neg (by rw [neqL _ _ (by omega) (by decide)]; exact c1), ew, M_isFull hM2 hW.1 w4, if_pos g2, bnd_some, if_neg (by decide), pq, y1, bnd_some]
              exact c105F _ _ _ y2
        · rcases e4 with ⟨g1, g2⟩ | ⟨g1, wd, w4, ew, g2⟩
          · obtain ⟨v3, y1, y2, y3⟩ := M_wrong 1 (q := q) (by omega) b2
            have y1 : f_X10_wrong 3000 842 (1 : Int32) (nI q) v2 = some ((), v3) := y1
            subst g1
            refine c_fail (b1.tr y3).mc _ ?_
            rw [b3, x2, bnd_some, if_pos rfl, pq, y1, bnd_some]
            exact c105F _ _ _ y2
          · exact absurd ew (x1 wd w4)
    · rw [if_neg c0, if_pos rfl]
      refine Or.inl ⟨C, F, u1, rfl, a4.co c, hC1, hW, a2.2.2.2.2.1, ?_⟩
      intro v k hk hv hM
      obtain ⟨k, rfl⟩ : ∃ k', k = k' + 1 := ⟨k - 1, by omega⟩
      obtain ⟨v1, b1, b2, b3⟩ := M_more hv s
      have hM1 := hM.fr b3
      refine ⟨sS v1 (11008, 842) (-1), ?_, hM1, Fr.S (a := (11008, 842)) b3.mc.m8 _ rfl, by rw [rS_sS, if_pos rfl]⟩
      rw [E_X10_court_44, M_fine hv.2.2.2.2.1, bnd_some, if_neg (by decide), b1, if_neg c0, bnd_some, if_pos rfl, finS _ b2, hM1.1]
