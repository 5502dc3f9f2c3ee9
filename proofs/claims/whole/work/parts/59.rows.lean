/-! court: its rows -/
def updN (f : Nat → Nat) (k v : Nat) : Nat → Nat := fun j => if j = k then v else f j
theorem updN_eq (f : Nat → Nat) (k v j : Nat) : updN f k v j = if j = k then v else f j := rfl
def mkH (C : ACt) (x : Int32) : ACt := (cH C + 1, (upd (cBr C) (cH C) x, C.2.2))
def mkK (C : ACt) (h p : Nat) : ACt := (C.1, (C.2.1, ((cK C + 1, (updN (cKh C) (cK C) h, updN (cKp C) (cK C) p)), C.2.2.2)))
def mkS (C : ACt) (s : Int32) : ACt := (C.1, (C.2.1, (C.2.2.1, (s, C.2.2.2.2))))
def mkT (C : ACt) (a b : Nat) : ACt := (C.1, (C.2.1, (C.2.2.1, (C.2.2.2.1, ((cT C + 1, (updN (cTa C) (cT C) a, updN (cTb C) (cT C) b)), cL C)))))
def coT (t : Nat) : Bool := match t with
  | 10107 => true
  | 10108 => true
  | 10109 => true
  | 10110 => true
  | 101 => true
  | 102 => true
  | 103 => true
  | 104 => true
  | 105 => true
  | 106 => true
  | 107 => true
  | _ => false
def pCo (c : Nat) (a : LA) : Bool := pTx a || (coT a.1 && Nat.beq a.2 c)
def moC (t : Nat) : Bool := match t with
  | 11018 => true
  | 11019 => true
  | 11020 => true
  | 11021 => true
  | 1003 => true
  | 1004 => true
  | 1005 => true
  | 1006 => true
  | _ => false
def pMc (a : LA) : Bool := pTm a || (moC a.1 && Nat.beq a.2 842)
theorem Fr.co {w w1 : MEM} (c : Nat) (g : Fr pTx w w1) : Fr (pCo c) w w1 := g.mono (fun a h => by unfold pCo; rw [h, Bool.true_or])
theorem Fr.mc {w w1 : MEM} (g : Fr pTm w w1) : Fr pMc w w1 := g.mono (fun a h => by unfold pMc; rw [h, Bool.true_or])
theorem pCo_at {t : Nat} (c : Nat) (h : coT t = true) : pCo c (t, c) = true := by
  show (pTx (t, c) || (coT t && Nat.beq c c)) = true
  rw [h, Nat.beq_refl c]
  exact Bool.or_true _
def CC (u : MEM) (c : Nat) (C : ACt) (F : Nat → Int32) : Prop := rS u (10107, c) = nI (cH C) ∧ rS u (10108, c) = nI (cT C) ∧ rS u (10109, c) = nI (cK C) ∧ rS u (10110, c) = cSun C ∧ (∀ j < cH C, fA u (101, c) j = cBr C j ∧ fA u (102, c) j = F j) ∧ (∀ k < cK C, fA u (106, c) k = nI (cKh C k) ∧ fA u (107, c) k = nI (cKp C k)) ∧ (∀ e < cT C, fA u (104, c) e = nI (cTa C e) ∧ fA u (105, c) e = nI (cTb C e)) ∧ ∀ j < 7, fA u (103, c) j = frS C j
def CM (v : MEM) (C : ACt) (F : Nat → Int32) : Prop := rS v (11018, 842) = nI (cH C) ∧ rS v (11019, 842) = nI (cT C) ∧ rS v (11020, 842) = nI (cK C) ∧ rS v (11021, 842) = cSun C ∧ (∀ j < cH C, fA v (1003, 842) j = cBr C j ∧ fA v (1004, 842) j = F j) ∧ (∀ k < cK C, fA v (1006, 842) (2 * k) = nI (cKh C k) ∧ fA v (1006, 842) (2 * k + 1) = nI (cKp C k)) ∧ (∀ e < cT C, fA v (1005, 842) (2 * e) = nI (cTa C e) ∧ fA v (1005, 842) (2 * e + 1) = nI (cTb C e))
def WFx (C : ACt) (F : Nat → Int32) : Prop := WFc C ∧ cL C = usual ∧ ∀ j < cH C, ∃ v, v ≤ 9 ∧ F j = nI v
theorem CC.fr {u u1 : MEM} {c : Nat} {C : ACt} {F : Nat → Int32} (h : CC u c C F) (g : Fr pTx u u1) : CC u1 c C F := by
  unfold CC
  rw [g.2.1 (10107, c) rfl, g.2.1 (10108, c) rfl, g.2.1 (10109, c) rfl, g.2.1 (10110, c) rfl, g.1 (101, c) rfl, g.1 (102, c) rfl, g.1 (103, c) rfl, g.1 (104, c) rfl, g.1 (105, c) rfl, g.1 (106, c) rfl, g.1 (107, c) rfl]
  exact h
theorem CM.fr {u u1 : MEM} {C : ACt} {F : Nat → Int32} (h : CM u C F) (g : Fr pTm u u1) : CM u1 C F := by
  unfold CM
  rw [g.2.1 (11018, 842) rfl, g.2.1 (11019, 842) rfl, g.2.1 (11020, 842) rfl, g.2.1 (11021, 842) rfl, g.1 (1003, 842) rfl, g.1 (1004, 842) rfl, g.1 (1005, 842) rfl, g.1 (1006, 842) rfl]
  exact h
def rowO (c wd : Nat) (T : Nat → Nat) (N p : Nat) (C : ACt) (F : Nat → Int32) (u : MEM) (x : Option (Int32 × MEM)) : Prop :=
  (∃ C1 F1 r u1, x = some (1, u1) ∧ Fr (pCo c) u u1 ∧ TXC u1 T N r ∧ CC u1 c C1 F1 ∧ WFx C1 F1 ∧ ∀ v, TXM v T N p → CM v C F → ∃ v1, f_X10_readRow 3000 842 (nI (wC wd)) v = some ((), v1) ∧ TXM v1 T N r ∧ CM v1 C1 F1 ∧ Fr pMc v v1)
  ∨ (∃ d q u1, x = some (0, u1) ∧ Fr (pCo c) u u1 ∧ TFC u1 d q ∧ ∀ v, TXM v T N p → CM v C F → ∃ v1, f_X10_readRow 3000 842 (nI (wC wd)) v = some ((), v1) ∧ TFM v1 d q ∧ Fr pMc v v1)
theorem wc_10 : ¬ nI (wC 1) = nI (wC 0) := by decide +kernel
theorem wc_20 : ¬ nI (wC 2) = nI (wC 0) := by decide +kernel
theorem wc_21 : ¬ nI (wC 2) = nI (wC 1) := by decide +kernel
theorem wc_30 : ¬ nI (wC 3) = nI (wC 0) := by decide +kernel
theorem wc_31 : ¬ nI (wC 3) = nI (wC 1) := by decide +kernel
theorem wc_32 : ¬ nI (wC 3) = nI (wC 2) := by decide +kernel
theorem row_S {c : Nat} {T : Nat → Nat} {N p : Nat} {u : MEM} {C : ACt} {F : Nat → Int32} (hT : TXC u T N p) (hC : CC u c C F) (hW : WFx C F) : rowO c 3 T N p C F u (f_X1_readSun 3000 c 1 u) := by
  have hN := hT.1
  obtain ⟨q, s⟩ := sk_ex T N N p hT.2.1 (by omega)
  obtain ⟨r, d⟩ := rd_ex T N N q s.2.1 (by omega)
  have mod : ∀ v, f_X10_readRow 3000 842 (nI (wC 3)) v = (bnd (f_X10_readNumber 3000 842 (0 : Int32) (23 : Int32) v) fun (x8 : Int32) (w7 : MEM) => lt (sS w7 (11021, 842) x8) fun (w9 : MEM) => some ((), w9)) := by
    intro v
    rw [E_X10_readRow, M_of (by omega), bnd_some, if_neg wc_30, M_of (by omega), bnd_some, if_neg wc_31, M_of (by omega), bnd_some, if_neg wc_32]
  rw [E_X1_readSun]
  rcases C_num (lo := 0) (n := 24) (hi := 23) hT s d (by omega) rfl (by omega) with ⟨k1, k2, k3, u2, k4, k5, k6, k7⟩ | ⟨k1, k2, u2, k4, k5, k6⟩ | ⟨k1, u2, k4, k5, k6⟩
  · obtain ⟨A, hA⟩ : ∃ A, dv T q (r - q) = A := ⟨_, rfl⟩
    rw [hA] at k2 k3 k4
    have k4 : f_X8_number 3000 1 (0 : Int32) (23 : Int32) u = some (nI A, u2) := k4
    have hC2 := hC.fr k6
    rw [k4, bnd_some, if_neg (ne_m1 (by omega)), lt_eq]
    refine Or.inl ⟨mkS C (nI A), F, r, _, rfl, Fr.S (a := (10110, c)) (k6.co c) _ (pCo_at c rfl), k5, ?_, ?_, ?_⟩
    · obtain ⟨x1, x2, x3, x4, x5⟩ := hC2
      exact ⟨x1, x2, x3, by rw [rS_sS, if_pos rfl]; rfl, x5⟩
    · obtain ⟨⟨y1, y2, y3, y4, y5, y6, y7, y8⟩, z⟩ := hW
      exact ⟨⟨y1, y2, y3, y4, y5, y6, y7, ⟨A, k3, rfl⟩⟩, z⟩
    · intro v hv hM
      rcases M_num (lo := 0) (n := 24) (hi := 23) hv s d (by omega) rfl (by omega) with ⟨m1, m2, m3, v3, m4, m5, m6⟩ | ⟨m1, m2, v3, m4, m5, m6⟩ | ⟨m1, v3, m4, m5, m6⟩
      · rw [hA] at m4
        have m4 : f_X10_readNumber 3000 842 (0 : Int32) (23 : Int32) v = some (nI A, v3) := m4
        refine ⟨sS v3 (11021, 842) (nI A), by rw [mod, m4, bnd_some, lt_eq], m5, ?_, Fr.S (a := (11021, 842)) m6.mc _ rfl⟩
        obtain ⟨x1, x2, x3, x4, x5⟩ := hM.fr m6
        exact ⟨x1, x2, x3, by rw [rS_sS, if_pos rfl]; rfl, x5⟩
      · rw [hA] at m2
        exact absurd ⟨k2, k3⟩ m2
      · omega
  · have k4 : f_X8_number 3000 1 (0 : Int32) (23 : Int32) u = some (-1, u2) := k4
    rw [k4, bnd_some, if_pos rfl]
    refine Or.inr ⟨2, q, u2, rfl, k6.co c, k5, ?_⟩
    intro v hv hM
    rcases M_num (lo := 0) (n := 24) (hi := 23) hv s d (by omega) rfl (by omega) with ⟨m1, m2, m3, v3, m4, m5, m6⟩ | ⟨m1, m2, v3, m4, m5, m6⟩ | ⟨m1, v3, m4, m5, m6⟩
    · exact absurd ⟨m2, m3⟩ k2
    · have m4 : f_X10_readNumber 3000 842 (0 : Int32) (23 : Int32) v = some (0, v3) := m4
      exact ⟨sS v3 (11021, 842) 0, by rw [mod, m4, bnd_some, lt_eq], m5, Fr.S (a := (11021, 842)) m6.mc _ rfl⟩
    · omega
  · have k4 : f_X8_number 3000 1 (0 : Int32) (23 : Int32) u = some (-1, u2) := k4
    rw [k4, bnd_some, if_pos rfl]
    refine Or.inr ⟨1, q, u2, rfl, k6.co c, k5, ?_⟩
    intro v hv hM
    rcases M_num (lo := 0) (n := 24) (hi := 23) hv s d (by omega) rfl (by omega) with ⟨m1, m2, m3, v3, m4, m5, m6⟩ | ⟨m1, m2, v3, m4, m5, m6⟩ | ⟨m1, v3, m4, m5, m6⟩
    · omega
    · omega
    · have m4 : f_X10_readNumber 3000 842 (0 : Int32) (23 : Int32) v = some (0, v3) := m4
      exact ⟨sS v3 (11021, 842) 0, by rw [mod, m4, bnd_some, lt_eq], m5, Fr.S (a := (11021, 842)) m6.mc _ rfl⟩
theorem row_H {c : Nat} {T : Nat → Nat} {N p : Nat} {u : MEM} {C : ACt} {F : Nat → Int32} (hT : TXC u T N p) (hC : CC u c C F) (hW : WFx C F) (h7 : cH C < 7) : rowO c 0 T N p C F u (f_X1_readHeir 3000 c 1 u) := by
  have hN := hT.1
  obtain ⟨q, s⟩ := sk_ex T N N p hT.2.1 (by omega)
  obtain ⟨r, d⟩ := rd_ex T N N q s.2.1 (by omega)
  have mod : ∀ v x1 v1 x2 v2, CM v C F → Fr pTm v v1 → f_X10_readNumber 3000 842 (1 : Int32) (9 : Int32) v = some (x1, v1) → f_X10_readNumber 3000 842 (0 : Int32) (9 : Int32) (tA v1 (1003, 842) (upd (fA v (1003, 842)) (cH C) x1)) = some (x2, v2) → Fr pTm (tA v1 (1003, 842) (upd (fA v (1003, 842)) (cH C) x1)) v2 → f_X10_readRow 3000 842 (nI (wC 0)) v = some ((), sS (tA v2 (1004, 842) (upd (fA v (1004, 842)) (cH C) x2)) (11018, 842) (nI (cH C + 1))) := by
    intro v x1 v1 x2 v2 hM f1 e1 e2 f2
    have b1 : rS v (11018, 842) = nI (cH C) := hM.1
    have b2 : fA v1 (1003, 842) = fA v (1003, 842) := f1.1 _ rfl
    have b3 : rS v1 (11018, 842) = nI (cH C) := (f1.2.1 _ rfl).trans b1
    have b4 : rS v2 (11018, 842) = nI (cH C) := (f2.2.1 _ rfl).trans b3
    have b5 : fA v2 (1004, 842) = fA v (1004, 842) := (f2.1 _ rfl).trans (f1.1 _ rfl)
    rw [E_X10_readRow, M_of (by omega), bnd_some, if_pos rfl, e1, bnd_some, b1, bIn _ _ (by omega), decide_eq_true h7, ck_tr, sAn _ _ _ _ (by omega), lt_eq, b2, e2, bnd_some, rS_tA, b3, bIn _ _ (by omega), decide_eq_true h7, ck_tr, sAn _ _ _ _ (by omega), lt_eq, b5, rS_tA, b4, naddL, lt_eq]
  rw [E_X1_readHeir]
  rcases C_num (lo := 1) (n := 10) (hi := 9) hT s d (by omega) rfl (by omega) with ⟨k1, k2, k3, u2, k4, k5, k6, k7⟩ | ⟨k1, k2, u2, k4, k5, k6⟩ | ⟨k1, u2, k4, k5, k6⟩
  · obtain ⟨A, hA⟩ : ∃ A, dv T q (r - q) = A := ⟨_, rfl⟩
    rw [hA] at k2 k3 k4
    have k4 : f_X8_number 3000 1 (1 : Int32) (9 : Int32) u = some (nI A, u2) := k4
    obtain ⟨q2, t⟩ := sk_ex T N N r k5.2.1 (by omega)
    obtain ⟨r2, e⟩ := rd_ex T N N q2 t.2.1 (by omega)
    have mod1 : ∀ v, TXM v T N p → CM v C F → ∃ v1, f_X10_readNumber 3000 842 (1 : Int32) (9 : Int32) v = some (nI A, v1) ∧ TXM v1 T N r ∧ Fr pTm v v1 := by
      intro v hv hM
      rcases M_num (lo := 1) (n := 10) (hi := 9) hv s d (by omega) rfl (by omega) with ⟨m1, m2, m3, v3, m4, m5, m6⟩ | ⟨m1, m2, v3, m4, m5, m6⟩ | ⟨m1, v3, m4, m5, m6⟩
      · rw [hA] at m4
        exact ⟨v3, m4, m5, m6⟩
      · rw [hA] at m2
        exact absurd ⟨k2, k3⟩ m2
      · omega
    rw [k4, bnd_some, if_neg (ne_m1 (by omega))]
    rcases C_num (lo := 0) (n := 10) (hi := 9) k5 t e (by omega) rfl (by omega) with ⟨l1, l2, l3, u3, l4, l5, l6, l7⟩ | ⟨l1, l2, u3, l4, l5, l6⟩ | ⟨l1, u3, l4, l5, l6⟩
    · obtain ⟨B, hB⟩ : ∃ B, dv T q2 (r2 - q2) = B := ⟨_, rfl⟩
      rw [hB] at l2 l3 l4
      have l4 : f_X8_number 3000 1 (0 : Int32) (9 : Int32) u2 = some (nI B, u3) := l4
      have hC3 := (hC.fr k6).fr l6
      have h1 := hC3.1
      rw [l4, bnd_some, if_neg (ne_m1 (by omega)), h1, bIn _ _ (by omega), decide_eq_true h7, ck_tr, sAn _ _ _ _ (by omega), lt_eq, rS_tA, h1, bIn _ _ (by omega), decide_eq_true h7, ck_tr, sAn _ _ _ _ (by omega), lt_eq, rS_tA, rS_tA, h1, naddL, lt_eq]
      refine Or.inl ⟨mkH C (nI A), upd F (cH C) (nI B), r2, _, rfl, Fr.S (a := (10107, c)) (Fr.A (a := (102, c)) (Fr.A (a := (101, c)) ((k6.tr l6).co c) _ (pCo_at c rfl)) _ (pCo_at c rfl)) _ (pCo_at c rfl), l5, ?_, ?_, ?_⟩
      · obtain ⟨x1, x2, x3, x4, x5, x6⟩ := hC3
        refine ⟨by rw [rS_sS, if_pos rfl]; rfl, x2, x3, x4, ?_, x6⟩
        intro j hj
        have hj : j < cH C + 1 := hj
        have n1 : fA (sS (tA (tA u3 (101, c) (upd (fA u3 (101, c)) (cH C) (nI A))) (102, c) (upd (fA (tA u3 (101, c) (upd (fA u3 (101, c)) (cH C) (nI A))) (102, c)) (cH C) (nI B))) (10107, c) (nI (cH C + 1))) (101, c) = upd (fA u3 (101, c)) (cH C) (nI A) := by
          rw [fA_sS, fA_tA, if_neg (by intro e; injection e with e1 e2; omega), fA_tA, if_pos rfl]
        have n2 : fA (sS (tA (tA u3 (101, c) (upd (fA u3 (101, c)) (cH C) (nI A))) (102, c) (upd (fA (tA u3 (101, c) (upd (fA u3 (101, c)) (cH C) (nI A))) (102, c)) (cH C) (nI B))) (10107, c) (nI (cH C + 1))) (102, c) = upd (fA u3 (102, c)) (cH C) (nI B) := by
          rw [fA_sS, fA_tA, if_pos rfl, fA_tA, if_neg (by intro e; injection e with e1 e2; omega)]
        rw [n1, n2]
        show upd (fA u3 (101, c)) (cH C) (nI A) j = upd (cBr C) (cH C) (nI A) j ∧ _ = upd F (cH C) (nI B) j
        rw [upd_eq, upd_eq, upd_eq, upd_eq]
        by_cases cc : j = cH C
        · rw [if_pos cc, if_pos cc, if_pos cc, if_pos cc]; exact ⟨rfl, rfl⟩
        · rw [if_neg cc, if_neg cc, if_neg cc, if_neg cc]; exact x5 j (by omega)
      · obtain ⟨⟨y1, y2, y3, y4, y5, y6, y7, y8⟩, z1, z2⟩ := hW
        refine ⟨⟨h7, y2, fun k hk => ⟨Nat.lt_succ_of_lt (y3 k hk).1, (y3 k hk).2⟩, y4, fun e he => ⟨Nat.lt_succ_of_lt (y5 e he).1, Nat.lt_succ_of_lt (y5 e he).2.1, (y5 e he).2.2⟩, y6, ?_, y8⟩, z1, ?_⟩
        · intro j hj
          have hj : j < cH C + 1 := hj
          show ∃ b, 1 ≤ b ∧ b ≤ 9 ∧ upd (cBr C) (cH C) (nI A) j = nI b
          rw [upd_eq]
          by_cases cc : j = cH C
          · rw [if_pos cc]; exact ⟨A, by omega, by omega, rfl⟩
          · rw [if_neg cc]; exact y7 j (by omega)
        · intro j hj
          have hj : j < cH C + 1 := hj
          rw [upd_eq]
          by_cases cc : j = cH C
          · rw [if_pos cc]; exact ⟨B, by omega, rfl⟩
          · rw [if_neg cc]; exact z2 j (by omega)
      · intro v hv hM
        obtain ⟨v1, m1, m2, m3⟩ := mod1 v hv hM
        have g2 : TXM (tA v1 (1003, 842) (upd (fA v (1003, 842)) (cH C) (nI A))) T N r := m2
        rcases M_num (lo := 0) (n := 10) (hi := 9) g2 t e (by omega) rfl (by omega) with ⟨o1, o2, o3, v3, o4, o5, o6⟩ | ⟨o1, o2, v3, o4, o5, o6⟩ | ⟨o1, v3, o4, o5, o6⟩
        · rw [hB] at o4
          refine ⟨_, mod v _ _ _ _ hM m3 m1 o4 o6, o5, ?_, ?_⟩
          · obtain ⟨x1, x2, x3, x4, x5, x6, x7⟩ := hM.fr m3
            have f1 : Fr pTm (tA v1 (1003, 842) (upd (fA v (1003, 842)) (cH C) (nI A))) v3 := o6
            have c1 : ∀ t, pTm (t, 842) = false → rS v3 (t, 842) = rS v1 (t, 842) := fun t ht => f1.2.1 _ ht
            refine ⟨by rw [rS_sS, if_pos rfl]; rfl, ?_, ?_, ?_, ?_, ?_, ?_⟩
            · exact (c1 11019 rfl).trans x2
            · exact (c1 11020 rfl).trans x3
            · exact (c1 11021 rfl).trans x4
            · intro j hj
              have hj : j < cH C + 1 := hj
              have n1 : fA (sS (tA v3 (1004, 842) (upd (fA v (1004, 842)) (cH C) (nI B))) (11018, 842) (nI (cH C + 1))) (1003, 842) = upd (fA v (1003, 842)) (cH C) (nI A) := by
                rw [fA_sS, fA_tA, if_neg (by decide), f1.1 (1003, 842) rfl, fA_tA, if_pos rfl]
              have n2 : fA (sS (tA v3 (1004, 842) (upd (fA v (1004, 842)) (cH C) (nI B))) (11018, 842) (nI (cH C + 1))) (1004, 842) = upd (fA v (1004, 842)) (cH C) (nI B) := by
                rw [fA_sS, fA_tA, if_pos rfl]
              rw [n1, n2]
              show upd (fA v (1003, 842)) (cH C) (nI A) j = upd (cBr C) (cH C) (nI A) j ∧ _ = upd F (cH C) (nI B) j
              rw [upd_eq, upd_eq, upd_eq, upd_eq]
              by_cases cc : j = cH C
              · rw [if_pos cc, if_pos cc, if_pos cc, if_pos cc]; exact ⟨rfl, rfl⟩
              · rw [if_neg cc, if_neg cc, if_neg cc, if_neg cc]; exact hM.2.2.2.2.1 j (by omega)
            · have n1 : fA (sS (tA v3 (1004, 842) (upd (fA v (1004, 842)) (cH C) (nI B))) (11018, 842) (nI (cH C + 1))) (1006, 842) = fA v1 (1006, 842) := f1.1 (1006, 842) rfl
              rw [n1]
              exact x6
            · have n1 : fA (sS (tA v3 (1004, 842) (upd (fA v (1004, 842)) (cH C) (nI B))) (11018, 842) (nI (cH C + 1))) (1005, 842) = fA v1 (1005, 842) := f1.1 (1005, 842) rfl
              rw [n1]
              exact x7
          · exact Fr.S (a := (11018, 842)) (Fr.A (a := (1004, 842)) ((Fr.A (a := (1003, 842)) m3.mc _ rfl).tr o6.mc) _ rfl) _ rfl
        · rw [hB] at o2
          exact absurd ⟨l2, l3⟩ o2
        · omega
    · have l4 : f_X8_number 3000 1 (0 : Int32) (9 : Int32) u2 = some (-1, u3) := l4
      rw [l4, bnd_some, if_pos rfl]
      refine Or.inr ⟨2, q2, u3, rfl, (k6.tr l6).co c, l5, ?_⟩
      intro v hv hM
      obtain ⟨v1, m1, m2, m3⟩ := mod1 v hv hM
      have g2 : TXM (tA v1 (1003, 842) (upd (fA v (1003, 842)) (cH C) (nI A))) T N r := m2
      rcases M_num (lo := 0) (n := 10) (hi := 9) g2 t e (by omega) rfl (by omega) with ⟨o1, o2, o3, v3, o4, o5, o6⟩ | ⟨o1, o2, v3, o4, o5, o6⟩ | ⟨o1, v3, o4, o5, o6⟩
      · exact absurd ⟨o2, o3⟩ l2
      · exact ⟨_, mod v _ _ _ _ hM m3 m1 o4 o6, o5, Fr.S (a := (11018, 842)) (Fr.A (a := (1004, 842)) ((Fr.A (a := (1003, 842)) m3.mc _ rfl).tr o6.mc) _ rfl) _ rfl⟩
      · omega
    · have l4 : f_X8_number 3000 1 (0 : Int32) (9 : Int32) u2 = some (-1, u3) := l4
      rw [l4, bnd_some, if_pos rfl]
      refine Or.inr ⟨1, q2, u3, rfl, (k6.tr l6).co c, l5, ?_⟩
      intro v hv hM
      obtain ⟨v1, m1, m2, m3⟩ := mod1 v hv hM
      have g2 : TXM (tA v1 (1003, 842) (upd (fA v (1003, 842)) (cH C) (nI A))) T N r := m2
      rcases M_num (lo := 0) (n := 10) (hi := 9) g2 t e (by omega) rfl (by omega) with ⟨o1, o2, o3, v3, o4, o5, o6⟩ | ⟨o1, o2, v3, o4, o5, o6⟩ | ⟨o1, v3, o4, o5, o6⟩
      · omega
      · omega
      · exact ⟨_, mod v _ _ _ _ hM m3 m1 o4 o6, o5, Fr.S (a := (11018, 842)) (Fr.A (a := (1004, 842)) ((Fr.A (a := (1003, 842)) m3.mc _ rfl).tr o6.mc) _ rfl) _ rfl⟩
  · have k4 : f_X8_number 3000 1 (1 : Int32) (9 : Int32) u = some (-1, u2) := k4
    rw [k4, bnd_some, if_pos rfl, if_pos rfl]
    refine Or.inr ⟨2, q, u2, rfl, k6.co c, k5, ?_⟩
    intro v hv hM
    rcases M_num (lo := 1) (n := 10) (hi := 9) hv s d (by omega) rfl (by omega) with ⟨m1, m2, m3, v3, m4, m5, m6⟩ | ⟨m1, m2, v3, m4, m5, m6⟩ | ⟨m1, v3, m4, m5, m6⟩
    · exact absurd ⟨m2, m3⟩ k2
    · have g2 : TFM (tA v3 (1003, 842) (upd (fA v (1003, 842)) (cH C) 0)) 2 q := m5
      exact ⟨_, mod v _ _ _ _ hM m6 m4 (M_numF _ _ g2) (Fr.rf _ _), m5, Fr.S (a := (11018, 842)) (Fr.A (a := (1004, 842)) (Fr.A (a := (1003, 842)) m6.mc _ rfl) _ rfl) _ rfl⟩
    · omega
  · have k4 : f_X8_number 3000 1 (1 : Int32) (9 : Int32) u = some (-1, u2) := k4
    rw [k4, bnd_some, if_pos rfl, if_pos rfl]
    refine Or.inr ⟨1, q, u2, rfl, k6.co c, k5, ?_⟩
    intro v hv hM
    rcases M_num (lo := 1) (n := 10) (hi := 9) hv s d (by omega) rfl (by omega) with ⟨m1, m2, m3, v3, m4, m5, m6⟩ | ⟨m1, m2, v3, m4, m5, m6⟩ | ⟨m1, v3, m4, m5, m6⟩
    · omega
    · omega
    · have g2 : TFM (tA v3 (1003, 842) (upd (fA v (1003, 842)) (cH C) 0)) 1 q := m5
      exact ⟨_, mod v _ _ _ _ hM m6 m4 (M_numF _ _ g2) (Fr.rf _ _), m5, Fr.S (a := (11018, 842)) (Fr.A (a := (1004, 842)) (Fr.A (a := (1003, 842)) m6.mc _ rfl) _ rfl) _ rfl⟩
