/-! work: the whole text -/
def wkE (v : MEM) : Option (Int32 × MEM) := bnd (f_X10_copies 3000 842 (1017, 842) (1018, 842) (rS (sS v (11008, 842) (-1)) (11036, 842)) (sS v (11008, 842) (-1))) fun (u6 : Unit) (w5 : MEM) => f_X10_work_123 3000 3000 842 (0 : Int32) w5
def rdW (H : Nat) (T : Nat → Nat) (N : Nat) (u : MEM) (x : Option (Int32 × MEM)) : Prop :=
  (∃ S1 u1 f, x = some (1, u1) ∧ Fr pWa u u1 ∧ TXC u1 T N N ∧ SC u1 S1 ∧ sN S1 ≤ 50 ∧ (∀ i, i < sN S1 → okS H S1 i) ∧ Blk S1 f 0 0 (sN S1) ∧ ∀ v, TXM v T N 0 → rS v (11036, 842) = 0 → rS v (11007, 842) = 0 → rS v (11022, 842) = nI H → ∃ v1, f_X10_work_68 3000 3000 842 v = wkE v1 ∧ TXM v1 T N N ∧ SMg v1 S1 ∧ Fr pWm v v1)
  ∨ (∃ e q u1, x = some (0, u1) ∧ Fr pWa u u1 ∧ TFC u1 e q ∧ ∀ v, TXM v T N 0 → rS v (11036, 842) = 0 → rS v (11007, 842) = 0 → rS v (11022, 842) = nI H → ∃ v1, f_X10_work_68 3000 3000 842 v = some (nI e - 10, sS v1 (11008, 842) (nI q)) ∧ Fr pWm v v1)
theorem w68F {v : MEM} {e q : Nat} (n : Nat) (h : TFM v e q) : f_X10_work_68 3000 (n + 1) 842 v = some (nI e - 10, sS v (11008, 842) (nI q)) := by
  have e5 : ¬ rS (sS v (11008, 842) (nI q)) (11005, 842) = -1 := by
    have := h.1.1
    rw [rS_sS, if_neg (by decide), h.2.2]
    exact ne_m1 (by omega)
  rw [E_X10_work_68, M_fineF h, bnd_some, if_pos rfl, result_F _ h, bnd_some, if_neg e5]
theorem S0_SM {v : MEM} (h : rS v (11036, 842) = 0) : SMg v S0 := ⟨h, fun i hi => absurd hi (Nat.not_lt_zero _)⟩
theorem read_W {H : Nat} {T : Nat → Nat} {N : Nat} {u : MEM} (hN : N ≤ 150) (hH : H ≤ 7) (hT : TXC u T N 0) : rdW H T N u (f_X7_read 3000 3 1 (nI H) u) := by
  have hTT : ∀ k < N, T k < 256 := fun k hk => (hT.2.2.2.2.2 k hk).1
  rw [E_X7_read, lt_eq]
  generalize hu0 : sS u (10704, 3) (0 : Int32) = u0
  have T0 : TXC u0 T N 0 := by rw [← hu0]; exact hT
  have C0 : SC u0 S0 := by
    rw [← hu0]
    exact ⟨rfl, fun i hi => absurd hi (Nat.not_lt_zero _)⟩
  have F0 : Fr pWa u u0 := by
    rw [← hu0]
    exact Fr.S (a := (10704, 3)) (Fr.rf _ _) _ rfl
  have hL : ∀ v p' q', TXM v T N p' → SK T N p' q' → q' < N → T q' ≠ 93 → ∃ v1, TXM v1 T N q' ∧ Fr pTm v v1 ∧ ∀ n, (fun n v => f_X10_work_68 3000 n 842 v) (n + 1) v = bnd (f_X10_readStep 3000 40 842 v1) fun (_ : Unit) (w : MEM) => (fun n v => f_X10_work_68 3000 n 842 v) n w := by
    intro v p' q' hv s' h1 h2
    obtain ⟨v1, b1, b2, b3⟩ := M_more hv s'
    refine ⟨v1, b2, b3, fun n => ?_⟩
    show f_X10_work_68 3000 (n + 1) 842 v = _
    rw [E_X10_work_68, M_fine hv.2.2.2.2.1, bnd_some, if_neg (by decide), b1, if_pos h1, bnd_some, if_neg (by decide)]
  have hrow := row_loop hN (fun n v => f_X10_work_68 3000 n 842 v) (f_X10_readStep 3000 40 842) (f_X7_readRow 3000 39) (f_X7_readStep 3000 39) (f_X7_readAgain 3000 39) (step_all hN hH 6 0 rfl) hL 150 2999 0 0 S0 u0 rfl (by omega) (by omega) T0 C0 (Nat.le_refl _)
  have hrow : rwO H T N 0 0 0 0 S0 u0 150 (f_X7_readRow 3000 40 3 1 (nI H) (0 : Int32) u0) (fun n v => f_X10_work_68 3000 n 842 v) := hrow
  rcases hrow with ⟨S1, r1, p1, u1, f, kk, l0, l1, l2, l3, l4, l5, l6, l7, l8, l9, l10, l11, l12, l13⟩ | ⟨ee, q1, u1, kk, l0, l1, l2, l3, l4⟩
  · rw [l1, bnd_some, if_neg (by decide)]
    have sr : SK T N r1 r1 := l4.idem
    have hr1 := l3.2.1
    rcases C_end l3 sr with ⟨x1, u2, x2, x3, x4⟩ | ⟨x1, u2, x2, x3, x4⟩
    · rw [x2, bnd_some, if_neg (by decide)]
      refine Or.inl ⟨S1, u2, f, rfl, (F0.tr l2).tr x4.wa, (show TXC u2 T N N from (congrArg (fun z => TXC u2 T N z) x1).mp x3), l6.fr x4, by omega, fun i hi => l8 i (Nat.zero_le _) hi, l9, ?_⟩
      intro v hv h36 h7 h22
      obtain ⟨v1, y1, y2, y3, y4, y5⟩ := l13 v hv (S0_SM h36) h7 h22
      obtain ⟨v2, z1, z2, z3⟩ := M_more y2 l4
      have y1 := y1 (2999 - kk + 1)
      have y1 : f_X10_work_68 3000 (2999 - kk + 1 + kk) 842 v = f_X10_work_68 3000 (2999 - kk + 1) 842 v1 := y1
      rw [show 2999 - kk + 1 + kk = 3000 by omega] at y1
      refine ⟨v2, ?_, (congrArg (fun z => TXM v2 T N z) x1).mp z2, y3.fr z3, y5.tr z3.wm⟩
      have e5 : rS (sS v2 (11008, 842) (-1)) (11005, 842) = -1 := z2.2.2.2.2.1
      rw [y1, E_X10_work_68, M_fine y2.2.2.2.2.1, bnd_some, if_neg (by decide), z1, if_neg (by omega), bnd_some, if_pos rfl, result_ok _ z2, bnd_some, if_pos e5]
      rfl
    · rw [x2, bnd_some, if_pos rfl]
      refine Or.inr ⟨1, r1, u2, rfl, (F0.tr l2).tr x4.wa, x3, ?_⟩
      intro v hv h36 h7 h22
      obtain ⟨v1, y1, y2, y3, y4, y5⟩ := l13 v hv (S0_SM h36) h7 h22
      obtain ⟨v2, z1, z2, z3⟩ := M_more y2 l4
      obtain ⟨v3, q1, q2, q3⟩ := M_noStep 39 z2 sr l5
      have y1 := y1 (2998 - kk + 1 + 1)
      have y1 : f_X10_work_68 3000 (2998 - kk + 1 + 1 + kk) 842 v = f_X10_work_68 3000 (2998 - kk + 1 + 1) 842 v1 := y1
      rw [show 2998 - kk + 1 + 1 + kk = 3000 by omega] at y1
      refine ⟨v3, ?_, (y5.tr z3.wm).tr q3.wm⟩
      rw [y1, E_X10_work_68, M_fine y2.2.2.2.2.1, bnd_some, if_neg (by decide), z1, if_pos x1, bnd_some, if_neg (by decide), q1, bnd_some, w68F _ q2]
  · rw [l1, bnd_some, if_pos rfl]
    refine Or.inr ⟨ee, q1, u1, rfl, F0.tr l2, l3, ?_⟩
    intro v hv h36 h7 h22
    obtain ⟨v1, y1, y2, y3⟩ := l4 v hv (S0_SM h36) h7 h22
    have y1 := y1 (2999 - kk + 1)
    have y1 : f_X10_work_68 3000 (2999 - kk + 1 + kk) 842 v = f_X10_work_68 3000 (2999 - kk + 1) 842 v1 := y1
    rw [show 2999 - kk + 1 + kk = 3000 by omega] at y1
    exact ⟨v1, by rw [y1, w68F _ y2], y3⟩
theorem SMc.cp {f g : Nat → Int32} {S : STP} (h : SMc f S) (e : ∀ j < 3 * sN S, g j = f j) : SMc g S := by
  intro i hi
  rw [e _ (by omega), e _ (by omega), e _ (by omega)]
  exact h i hi
def p1021 (a : LA) : Bool := Nat.beq a.1 1021 && Nat.beq a.2 842
def wkT2 (w : MEM) : Option (Int32 × MEM) := lt (sS w (11037, 842) ((rS w (11037, 842)) + (1 : Int32))) fun (w1 : MEM) => bnd (f_X10_take 3000 842 w1) fun (u3 : Unit) (w2 : MEM) => lt (sS w2 (11039, 842) (0 : Int32)) fun (w4 : MEM) => lt (sS w4 (11040, 842) (0 : Int32)) fun (w5 : MEM) => lt (sS w5 (11041, 842) (0 : Int32)) fun (w6 : MEM) => bnd (f_X10_goesSteps 3000 40 842 (0 : Int32) (rS w6 (11036, 842)) w6) fun (u8 : Unit) (w7 : MEM) => bnd (f_X10_copies 3000 842 (1020, 842) (1019, 842) (57 : Int32) w7) fun (u10 : Unit) (w9 : MEM) => lt (sS w9 (11038, 842) (rS w9 (11041, 842))) fun (w11 : MEM) => some ((rS w11 (11040, 842)), w11)
theorem work_keep {v : MEM} {m : Nat} (hm : rS v (11037, 842) = nI m) (hm16 : m < 16) : ∃ v1, f_X10_work_123 3000 3000 842 (0 : Int32) v = wkT2 v1 ∧ Fr p1021 v v1 ∧ (∀ x < 57, fA v1 (1021, 842) (57 * m + x) = fA v (1019, 842) x) ∧ ∀ x, x < 57 * m → fA v1 (1021, 842) x = fA v (1021, 842) x := by
  obtain ⟨we, n1, y1, y2, y3, y4⟩ := for_rel (F := fun n x (u : MEM) => f_X10_work_123 3000 n 842 x u) (N := 57) (fun k u => Fr p1021 v u ∧ (∀ x < k, fA u (1021, 842) (57 * m + x) = fA v (1019, 842) x) ∧ ∀ x, x < 57 * m → fA u (1021, 842) x = fA v (1021, 842) x)
    (fun n k u hk p => by
      obtain ⟨p1, p2, p3⟩ := p
      have e37 : rS u (11037, 842) = nI m := (p1.2.1 _ rfl).trans hm
      have e19 : fA u (1019, 842) = fA v (1019, 842) := p1.1 _ rfl
      refine ⟨tA u (1021, 842) (upd (fA u (1021, 842)) (57 * m + k) (fA v (1019, 842) k)), ?_, Fr.A (a := (1021, 842)) p1 _ rfl, fun x hx => ?_, fun x hx => ?_⟩
      · show f_X10_work_123 3000 (n + 1) 842 (nI k) u = _
        have e57 : (OfNat.ofNat 57 : Nat) * m + k = 57 * m + k := rfl
        rw [E_X10_work_123, if_pos (by rw [nltL _ _ (by omega) (by decide)]; exact hk), e37, nLmul, nI_add, e57, bIn _ _ (by omega), decide_eq_true hk, ck_tr, bIn _ _ (by omega), decide_eq_true (show 57 * m + k < 912 by omega), ck_tr, rAn _ _ _ (by omega), e19, sAn _ _ _ _ (by omega), lt_eq, naddL]
      · rw [fA_tA, if_pos rfl, upd_eq]
        by_cases e : x = k
        · rw [if_pos (by omega), e]
        · rw [if_neg (by omega)]
          exact p2 x (by omega)
      · rw [fA_tA, if_pos rfl, upd_eq, if_neg (by omega)]
        exact p3 x hx)
    57 3000 0 v (by omega) (by omega) ⟨Fr.rf _ _, fun x hx => absurd hx (Nat.not_lt_zero _), fun x hx => rfl⟩
  have y1 : f_X10_work_123 3000 3000 842 0 v = f_X10_work_123 3000 (n1 + 1) 842 (nI 57) we := y1
  refine ⟨we, ?_, y2, y3, y4⟩
  rw [y1, E_X10_work_123, if_neg (by decide)]
  rfl
