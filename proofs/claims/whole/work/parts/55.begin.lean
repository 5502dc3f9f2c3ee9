/-! a text call begins -/
def pBg (a : LA) : Bool := (Nat.beq a.1 10801 || (Nat.beq a.1 10802 || (Nat.beq a.1 10803 || (Nat.beq a.1 10804 || (Nat.beq a.1 10805 || Nat.beq a.1 10806))))) && Nat.beq a.2 1
def pBm (a : LA) : Bool := (Nat.beq a.1 11000 || (Nat.beq a.1 11002 || (Nat.beq a.1 11003 || (Nat.beq a.1 11004 || (Nat.beq a.1 11005 || (Nat.beq a.1 11006 || (Nat.beq a.1 11007 || Nat.beq a.1 11008))))))) && Nat.beq a.2 842
def tapeT (w : MEM) : Nat → Nat := fun k => (fA w (1002, 842) k).toNatClampNeg
theorem begin_C {w : MEM} {a most : Int32} (h : TAPE w) (M : Nat) (em : most = nI M) (hM : M ≤ 600) : (f_X9_beginText 3000 0 a most w = some (.inr 0, bW w) ∧ (a < 0 ∨ rS w (11002, 842) < a ∨ most < a)) ∨ ∃ N w1, N ≤ M ∧ a = nI N ∧ ¬ rS w (11002, 842) < a ∧ f_X9_beginText 3000 0 a most w = some (.inl (), w1) ∧ TXC w1 (tapeT w) N 0 ∧ Fr pBg w w1 ∧ rS w1 (10801, 1) = 0 ∧ ∀ k < N, tapeT w k < 256 ∧ fA w (1002, 842) k = nI (tapeT w k) := by
  subst em
  obtain ⟨n, a1, a2, a3, a4⟩ := h
  have hmin : f_J9_min_7cf53 3000 (nI M) (rS w (10801, 1)) w = some (nI (min M n), w) := by
    rw [a2, E_J9_min_7cf53]
    by_cases c : n < M
    · rw [if_pos (by rw [nlt _ _ (by omega) (by omega)]; exact c), Nat.min_eq_right (by omega)]
    · rw [if_neg (by rw [nlt _ _ (by omega) (by omega)]; exact c), Nat.min_eq_left (by omega)]
  have hl := Nat.min_le_left M n
  have hr := Nat.min_le_right M n
  rcases wit 3000 a (lo := 0) (hi := nI (min M n)) 0 (min M n) rfl rfl (by omega) (by omega) with ⟨e1, _⟩ | ⟨N, N1, N2, rfl, e1, _⟩
  · left
    refine ⟨?_, ?_⟩
    · rw [E_X9_beginText, hmin, bnd_some, e1]; rfl
    · by_cases c : a < 0
      · exact Or.inl c
      · right
        obtain ⟨j, hj, rfl⟩ := nI_of c
        rw [a3, nlt _ _ (by omega) (by omega), nlt _ _ (by omega) (by omega)]
        rcases Nat.lt_or_ge (min M n) j with c2 | c2
        · rcases Nat.le_total M n with c3 | c3
          · rw [Nat.min_eq_left c3] at c2
            exact Or.inr c2
          · rw [Nat.min_eq_right c3] at c2
            exact Or.inl c2
        · exfalso
          have e9 := e1 w
          rw [E_X9_needWithin, if_neg (nI_pos (by omega)), if_neg (by rw [nlt _ _ (by omega) (by omega)]; omega), E_X9_need, if_neg (by decide)] at e9
          cases e9
  · right
    have hN6 : N ≤ 600 := by omega
    have hb : f_J9_min_7cf53 3000 (nI N) (nI 600) w = some (nI N, w) := by
      rw [E_J9_min_7cf53]
      by_cases c : 600 < N
      · omega
      · rw [if_neg (by rw [nlt _ _ (by omega) (by omega)]; omega)]
    have hT : ∀ k < N, tapeT w k < 256 ∧ fA w (1002, 842) k = nI (tapeT w k) ∧ fA w (801, 1) k = sb_b (tapeT w k) := by
      intro k hk
      obtain ⟨m, m1, m2, m3⟩ := a4 k (by omega)
      have : tapeT w k = m := by
        unfold tapeT
        rw [m3, nI_clamp (by omega)]
      rw [this]
      exact ⟨m1, m3, m2⟩
    refine ⟨N, sS (sS (sS (sS (sS (sS w (10802, 1) (nI N)) (10801, 1) 0) (10803, 1) 0) (10804, 1) 0) (10805, 1) 0) (10806, 1) (-1), by omega, rfl, ?_, ?_, ?_, ?_, ?_, fun k hk => ⟨(hT k hk).1, (hT k hk).2.1⟩⟩
    · rw [a3, nlt _ _ (by omega) (by omega)]
      omega
    · rw [E_X9_beginText, hmin, bnd_some, e1, bndT_inl, E_X8_begin, hb, bnd_some]
      rfl
    · refine ⟨hN6, Nat.zero_le _, ?_, ?_, ?_, fun k hk => ⟨(hT k hk).1, (hT k hk).2.2⟩⟩
      · simp only [rS_sS, Prod.mk.injEq, Nat.reduceEqDiff, false_and, and_true, if_true, if_false]
      · simp only [rS_sS, Prod.mk.injEq, Nat.reduceEqDiff, false_and, and_true, if_true, if_false]
        rfl
      · simp only [rS_sS, if_true]
    · refine Fr.S (a := (10806, 1)) ?_ _ rfl
      refine Fr.S (a := (10805, 1)) ?_ _ rfl
      refine Fr.S (a := (10804, 1)) ?_ _ rfl
      refine Fr.S (a := (10803, 1)) ?_ _ rfl
      refine Fr.S (a := (10801, 1)) ?_ _ rfl
      exact Fr.S (a := (10802, 1)) (Fr.rf _ _) _ rfl
    · simp only [rS_sS, Prod.mk.injEq, Nat.reduceEqDiff, false_and, and_true, if_true, if_false]
theorem begins_M {u : MEM} {T : Nat → Nat} {N : Nat} (hN : N ≤ 600) (hT : ∀ k < N, T k < 256 ∧ fA u (1002, 842) k = nI (T k)) : ∃ u1, f_X10_begins 3000 842 (nI N) u = some ((), u1) ∧ TXM u1 T N 0 ∧ Fr pBm u u1 ∧ rS u1 (11002, 842) = 0 ∧ rS u1 (11007, 842) = 0 ∧ rS u1 (11000, 842) = rS u (11000, 842) := by
  refine ⟨sS (sS (sS (sS (sS (sS u (11002, 842) 0) (11008, 842) (-1)) (11003, 842) (nI N)) (11004, 842) 0) (11005, 842) (-1)) (11007, 842) 0, ?_, ?_, ?_, ?_, ?_, ?_⟩
  · rw [E_X10_begins]
    rfl
  · refine ⟨hN, Nat.zero_le _, ?_, ?_, ?_, hT⟩
    · simp only [rS_sS, Prod.mk.injEq, Nat.reduceEqDiff, false_and, and_true, if_true, if_false]
    · simp only [rS_sS, Prod.mk.injEq, Nat.reduceEqDiff, false_and, and_true, if_true, if_false]
      rfl
    · simp only [rS_sS, Prod.mk.injEq, Nat.reduceEqDiff, false_and, and_true, if_true, if_false]
  · refine Fr.S (a := (11007, 842)) ?_ _ rfl
    refine Fr.S (a := (11005, 842)) ?_ _ rfl
    refine Fr.S (a := (11004, 842)) ?_ _ rfl
    refine Fr.S (a := (11003, 842)) ?_ _ rfl
    refine Fr.S (a := (11008, 842)) ?_ _ rfl
    exact Fr.S (a := (11002, 842)) (Fr.rf _ _) _ rfl
  · simp only [rS_sS, Prod.mk.injEq, Nat.reduceEqDiff, false_and, and_true, if_true, if_false]
  · simp only [rS_sS, Prod.mk.injEq, Nat.reduceEqDiff, false_and, and_true, if_true, if_false]
  · simp only [rS_sS, Prod.mk.injEq, Nat.reduceEqDiff, false_and, and_true, if_true, if_false]
theorem pTx_pBg (a : LA) (h : pTx a = true) : pBg a = true := by
  obtain ⟨t, i⟩ := a
  obtain ⟨h1, h2⟩ := and_t (a := (Nat.beq t 10803 || (Nat.beq t 10804 || (Nat.beq t 10805 || Nat.beq t 10806)))) h
  have h3 : i = 1 := Nat.eq_of_beq_eq_true h2
  subst h3
  rcases or_t h1 with e | e
  · have := Nat.eq_of_beq_eq_true e; subst this; rfl
  · rcases or_t e with e | e
    · have := Nat.eq_of_beq_eq_true e; subst this; rfl
    · rcases or_t e with e | e
      · have := Nat.eq_of_beq_eq_true e; subst this; rfl
      · have := Nat.eq_of_beq_eq_true e; subst this; rfl
theorem pTm_pBm (a : LA) (h : pTm a = true) : pBm a = true := by
  obtain ⟨t, i⟩ := a
  obtain ⟨h1, h2⟩ := and_t (a := (Nat.beq t 11004 || (Nat.beq t 11005 || Nat.beq t 11006))) h
  have h3 : i = 842 := Nat.eq_of_beq_eq_true h2
  subst h3
  rcases or_t h1 with e | e
  · have := Nat.eq_of_beq_eq_true e; subst this; rfl
  · rcases or_t e with e | e
    · have := Nat.eq_of_beq_eq_true e; subst this; rfl
    · have := Nat.eq_of_beq_eq_true e; subst this; rfl
/-- the end of a text call -/
theorem result_ok {u : MEM} {T : Nat → Nat} {N p : Nat} (x : Int32) (h : TXM u T N p) : f_X10_result 3000 842 x u = some (x, sS u (11008, 842) (-1)) := by
  have e : rS (sS u (11008, 842) (-1)) (11005, 842) = -1 := by rw [rS_sS, if_neg (by decide)]; exact h.2.2.2.2.1
  rw [E_X10_result, lt_eq, h.2.2.2.2.1, M_fine e, bnd_some, if_neg (by decide)]
theorem result_F {u : MEM} {k q : Nat} (x : Int32) (h : TFM u k q) : f_X10_result 3000 842 x u = some (nI k - 10, sS u (11008, 842) (nI q)) := by
  have e : TFM (sS u (11008, 842) (nI q)) k q := by
    refine ⟨h.1, ?_, ?_⟩
    · rw [rS_sS, if_neg (by decide)]; exact h.2.1
    · rw [rS_sS, if_neg (by decide)]; exact h.2.2
  rw [E_X10_result, lt_eq, h.2.2, M_fineF e, bnd_some, if_pos rfl, e.2.1]
