/-! a glass alone -/
def ALN (u : MEM) (h : Nat) (b f : Int32) (m a : Nat) (t : Nat) : Prop := (∀ j < 7, fA u (407, 181) j = if j = h then 1 else 0) ∧ fA u (401, 181) h = b ∧ fA u (402, 181) h = f ∧ fA u (403, 181) h = nI m ∧ fA u (404, 181) h = nI a ∧ fA u (405, 181) h = 0 ∧ fA u (406, 181) h = 0 ∧ rS u (10409, 181) = nI t
def clA (C : ACt) (h : Nat) (b f : Int32) (m a t : Nat) : Int32 := clv (cL C) (fct b f 0 (nI a) 0 (nI m) (m24 (nI t)) (if m24 (nI t) = cSun C then 1 else 0) (nI h))
theorem comesOn0 {u : MEM} {C : ACt} {fu l h m a t : Nat} {b f : Int32} (hw : WFc C) (hL : LawC u l (cL C)) (al : ALN u h b f m a t) (hfu : 200 ≤ fu) (hh : h < 7) : ∃ u1, f_X4_comesOn fu 181 (nI h) (cSun C) l u = some (clA C h b f m a t, u1) ∧ Fr (pLC l) u u1 := by
  obtain ⟨a5, ab, a0, a1, a2, a3, a4, at0⟩ := al
  have a5 : fA u (407, 181) h = 1 := (a5 h hh).trans (if_pos rfl)
  rw [E_X4_comesOn]
  simp (disch := omega) only [bIn, rAn, decide_true, ck_tr, a5, hh]
  rw [if_neg (by decide), if_neg (by decide), lt_eq, at0]
  have em : nI t - nI t / 24 * 24 = m24 (nI t) := rfl
  rw [em]
  simp (disch := omega) only [bIn, bIL, rAn, decide_true, ck_tr, hh, E_X3_setHeir, E_X3_setGlass, E_X3_setHour, lt_eq, bnd_some, sAL, fA_tA, tA_tA, if_true, (show 0 < 9 by omega), (show 1 < 9 by omega), (show 2 < 9 by omega), (show 3 < 9 by omega), (show 4 < 9 by omega), (show 5 < 9 by omega), (show 6 < 9 by omega), (show 7 < 9 by omega), (show 8 < 9 by omega), ab, a0, Prod.mk.injEq, Nat.reduceEqDiff, false_and, if_false, a1, a2, a3, a4]
  have key : ∀ s : Int32, (if m24 (nI t) = cSun C then (1 : Int32) else 0) = s → ∃ w1, (bnd (f_X3_comes fu l (tA u (304, l) (upd (upd (upd (upd (upd (upd (upd (upd (upd (fA u (304, l)) 0 b) 1 f) 8 (nI h)) 2 0) 3 (nI a)) 4 0) 5 (nI m)) 6 (m24 (nI t))) 7 s))) fun x w => some (x, w)) = some (clA C h b f m a t, w1) ∧ Fr (pLC l) u w1 := by
    intro s hs
    generalize hg : upd (upd (upd (upd (upd (upd (upd (upd (upd (fA u (304, l)) 0 b) 1 f) 8 (nI h)) 2 0) 3 (nI a)) 4 0) 5 (nI m)) 6 (m24 (nI t))) 7 s = g
    have fr : Fr (pLC l) u (tA u (304, l) g) := (Fr.rf _ _).A _ (pLC_at l)
    obtain ⟨w1, e1, e2⟩ := comes_C (L := cL C) hw.2.2.2.2.2.1 (hL.fr fr rfl rfl rfl) hfu
    refine ⟨w1, ?_, fr.tr (e2.mono (pStC_pLC l))⟩
    rw [e1, bnd_some, fA_tA, if_pos rfl, clv_congr hw.2.2.2.2.2.1 (g1 := fct b f 0 (nI a) 0 (nI m) (m24 (nI t)) (if m24 (nI t) = cSun C then 1 else 0) (nI h))]
    · rfl
    · intro j hj
      rw [← hg, hs]
      rcases i9 hj with e | e | e | e | e | e | e | e | e <;> subst e <;> rfl
  by_cases c1 : m24 (nI t) = cSun C
  · rw [if_pos c1]
    exact key 1 (if_pos c1)
  · rw [if_neg c1]
    exact key 0 (if_neg c1)
theorem ALN.fr {u u1 : MEM} {h m a t : Nat} {b f : Int32} {P : LA → Bool} (al : ALN u h b f m a t) (g : Fr P u u1) (hp : ∀ t < 9, P (401 + t, 181) = false) (hs : P (10409, 181) = false) : ALN u1 h b f m a t := by
  obtain ⟨a5, ab, a0, a1, a2, a3, a4, at0⟩ := al
  unfold ALN
  rw [g.1 (407, 181) (hp 6 (by omega)), g.1 (401, 181) (hp 0 (by omega)), g.1 (402, 181) (hp 1 (by omega)), g.1 (403, 181) (hp 2 (by omega)), g.1 (404, 181) (hp 3 (by omega)), g.1 (405, 181) (hp 4 (by omega)), g.1 (406, 181) (hp 5 (by omega)), g.2.1 _ hs]
  exact ⟨a5, ab, a0, a1, a2, a3, a4, at0⟩
theorem pLC_181 (l t : Nat) (ht : t < 9) : pLC l (401 + t, 181) = false := by
  have e1 : Nat.beq (401 + t) 303 = false := beq_ne (by omega)
  have e2 : Nat.beq (401 + t) 304 = false := beq_ne (by omega)
  show ((Nat.beq (401 + t) 303 || Nat.beq (401 + t) 304) && _) = false
  rw [e1, e2]
  rfl
theorem cl_b2 (C : ACt) (h : Nat) (b f : Int32) (m a t : Nat) : ∃ v ≤ 40, clA C h b f m a t = nI v := clp_b _
def mA (C : ACt) (h : Nat) (b f : Int32) (m a t : Nat) : Int32 := heldS (nI m + clA C h b f m a t)
def aA (b f : Int32) (a : Nat) : Int32 := heldS (nI a - b + f)
theorem passHour0 {u : MEM} {C : ACt} {c l h m a t m1 a1 : Nat} {b f : Int32} (hw : WFc C) (hc : CLS u c l C) (al : ALN u h b f m a t) (hh : h < 7) (hm : m ≤ 99) (em : mA C h b f m a t = nI m1) (ea : aA b f a = nI a1) : ∃ u1, f_X4_passHour 3000 181 c l 0 u = some (1, u1) ∧ Fr (pMC 181 l) u u1 ∧ ALN u1 h b f m1 a1 (t + 1) := by
  rw [E_X4_passHour]
  have e0 : f_X4_passHour_3 3000 3000 181 c l 0 0 u = f_X4_passHour_69 3000 3000 181 c l 0 u := by
    show f_X4_passHour_3 3000 (2999 + 1) 181 c l 0 0 u = _
    rw [E_X4_passHour_3, if_pos rfl]
  rw [e0]
  obtain ⟨v, n1, e1, e2, e3, e4⟩ := for_rel (F := fun n x (v : MEM) => f_X4_passHour_69 3000 n 181 c l x v) (N := 7) (fun k v => Fr (pMC 181 l) u v ∧ (k ≤ h → ALN v h b f m a t) ∧ (h < k → ALN v h b f m1 a1 t))
    (fun n k v hk p => by
      obtain ⟨p1, p2, p3⟩ := p
      have hcv := hc.fr p1 (okMC 181 c l l)
      show ∃ b : MEM, f_X4_passHour_69 3000 (n + 1) 181 c l (nI k) v = f_X4_passHour_69 3000 n 181 c l (nI (k + 1)) b ∧ _
      rw [E_X4_passHour_69]
      by_cases ck1 : k = h
      · subst ck1
        have al := p2 (Nat.le_refl _)
        have s5 : fA v (407, 181) k = 1 := (al.1 k hk).trans (if_pos rfl)
        simp (disch := omega) only [nltL, hk, if_true, bIn, rAn, decide_true, ck_tr, s5, naddL, hcv.2.2.2.1]
        obtain ⟨v1, q1, q2⟩ := comesOn0 (fu := 3000) hw hcv.2.2.2.2.2.2.2.2 al (by omega) hk
        have al1 := al.fr q2 (pLC_181 l) rfl
        have pf1 := p1.tr (q2.mono (pLC_pMC 181 l))
        obtain ⟨cv, hcv1, ecv⟩ := cl_b2 C k b f m a t
        rw [q1, bnd_some, al.2.2.2.1]
        have es : nI m + clA C k b f m a t = nI (m + cv) := by rw [ecv, nI_add]
        rw [es, min99 _ _ (by omega), bnd_some, ← es, lt_eq, sAn _ _ _ _ (by omega)]
        have em2 : heldS (nI m + clA C k b f m a t) = nI m1 := em
        rw [em2]
        have f2 := pf1.A (a := (403, 181)) (upd (fA v1 (403, 181)) k (nI m1)) (pMC_A 181 l 1 (by omega))
        have al2 : ALN (tA v1 (403, 181) (upd (fA v1 (403, 181)) k (nI m1))) k b f m1 a t := by
          obtain ⟨x1, x2, x3, x4, x5, x6, x7, x8⟩ := al1
          unfold ALN
          simp only [fA_tA, rS_tA, Prod.mk.injEq, Nat.reduceEqDiff, false_and, and_true, if_true, if_false, upd_at]
          exact ⟨x1, x2, x3, trivial, x5, x6, x7, x8⟩
        generalize tA v1 (403, 181) (upd (fA v1 (403, 181)) k (nI m1)) = v2 at f2 al2 ⊢
        simp (disch := omega) only [rAn, al2.2.2.2.2.1, al2.2.1, al2.2.2.1, held_C, lt_eq, sAn]
        have ea2 : heldS (nI a - b + f) = nI a1 := ea
        rw [ea2]
        have f3 := f2.A (a := (404, 181)) (upd (fA v2 (404, 181)) k (nI a1)) (pMC_A 181 l 2 (by omega))
        have al3 : ALN (tA v2 (404, 181) (upd (fA v2 (404, 181)) k (nI a1))) k b f m1 a1 t := by
          obtain ⟨x1, x2, x3, x4, x5, x6, x7, x8⟩ := al2
          unfold ALN
          simp only [fA_tA, rS_tA, Prod.mk.injEq, Nat.reduceEqDiff, false_and, and_true, if_true, if_false, upd_at]
          exact ⟨x1, x2, x3, x4, trivial, x6, x7, x8⟩
        generalize tA v2 (404, 181) (upd (fA v2 (404, 181)) k (nI a1)) = v3 at f3 al3 ⊢
        have last : ∀ z : Int32, ∃ b1 : MEM, f_X4_passHour_180 3000 (fun l0 l1 l2 l4 w => f_X4_passHour_69 3000 n l0 l1 l2 l4 w) 181 c l (nI k) (409, 181) (nI k) (fA v3 (409, 181) k) z v3 = f_X4_passHour_69 3000 n 181 c l (nI (k + 1)) b1 ∧ Fr (pMC 181 l) u b1 ∧ ALN b1 k b f m1 a1 t := by
          intro z
          rw [E_X4_passHour_180]
          simp (disch := omega) only [show aN ((409, 181) : LA).1 = 7 from rfl, bIn, hk, decide_true, ck_tr, lt_eq, sAn, rAn, naddL]
          have al4 : ∀ g, ALN (tA v3 (409, 181) g) k b f m1 a1 t := fun g => al3
          have al5 : ∀ g g2, ALN (tA (tA v3 (409, 181) g) (408, 181) g2) k b f m1 a1 t := fun g g2 => al3
          have f4 : ∀ g g2, Fr (pMC 181 l) u (tA (tA v3 (409, 181) g) (408, 181) g2) := fun g g2 => (f3.A (a := (409, 181)) g (pMC_A 181 l 7 (by omega))).A (a := (408, 181)) g2 (pMC_A 181 l 6 (by omega))
          split
          · exact ⟨_, rfl, f4 _ _, al5 _ _⟩
          · split
            · exact ⟨_, rfl, f4 _ _, al5 _ _⟩
            · exact ⟨_, rfl, f4 _ _, al5 _ _⟩
        simp (disch := omega) only [bIn, rAn, hk, decide_true, ck_tr, al3.2.2.2.2.1]
        have wrap : ∀ z : Int32, ∃ b1 : MEM, f_X4_passHour_180 3000 (fun l0 l1 l2 l4 w => f_X4_passHour_69 3000 n l0 l1 l2 l4 w) 181 c l (nI k) (409, 181) (nI k) (fA v3 (409, 181) k) z v3 = f_X4_passHour_69 3000 n 181 c l (nI (k + 1)) b1 ∧ Fr (pMC 181 l) u b1 ∧ (k + 1 ≤ k → ALN b1 k b f m a t) ∧ (k < k + 1 → ALN b1 k b f m1 a1 t) := by
          intro z
          obtain ⟨b1, y1, y2, y3⟩ := last z
          exact ⟨b1, y1, y2, fun e => by omega, fun _ => y3⟩
        split
        · exact wrap 1
        · exact wrap 0
      · have s5 : fA v (407, 181) k = 0 := by
          by_cases c1 : k ≤ h
          · exact ((p2 c1).1 k hk).trans (if_neg ck1)
          · exact ((p3 (by omega)).1 k hk).trans (if_neg ck1)
        simp (disch := omega) only [nltL, hk, if_true, bIn, rAn, decide_true, ck_tr, s5, naddL]
        rw [if_neg (by decide)]
        exact ⟨v, rfl, p1, fun e => p2 (by omega), fun e => p3 (by omega)⟩)
    7 3000 0 u (by omega) (by omega) ⟨Fr.rf _ _, fun _ => al, fun e => absurd e (Nat.not_lt_zero _)⟩
  have e1 : f_X4_passHour_69 3000 3000 181 c l 0 u = f_X4_passHour_69 3000 (n1 + 1) 181 c l (nI 7) v := e1
  rw [e1, E_X4_passHour_69, if_neg (by decide), fill_ok 3000 (406, 181) 0 v (show 7 < 3000 by omega) (show 7 < 2 ^ 31 by omega), bnd_some, lt_eq]
  refine ⟨_, rfl, (e2.A (a := (406, 181)) _ (pMC_A 181 l 4 (by omega))).S (a := (10409, 181)) _ (pMC_S 181 l), ?_⟩
  obtain ⟨x1, x2, x3, x4, x5, x6, x7, x8⟩ := e4 hh
  unfold ALN
  simp only [fA_tA, rS_tA, fA_sS, rS_sS, Prod.mk.injEq, Nat.reduceEqDiff, false_and, and_true, if_true, if_false]
  refine ⟨x1, x2, x3, x4, x5, x6, ?_, ?_⟩
  · exact if_pos hh
  · rw [x8]
    exact nI_1 t
theorem beAlone_ok {u : MEM} {h t : Nat} (b f : Int32) (hh : h < 7) : ∃ u1, f_X4_beAlone 3000 181 (nI t) (nI h) b f u = some ((), u1) ∧ Fr (pMor 181) u u1 ∧ ALN u1 h b f 0 99 t := by
  rw [E_X4_beAlone, lt_eq, fill_ok 3000 (407, 181) 0 _ (show 7 < 3000 by omega) (show 7 < 2 ^ 31 by omega), bnd_some]
  simp (disch := omega) only [bIn, decide_true, ck_tr, hh, lt_eq, sAn]
  refine ⟨_, rfl, ?_, ?_⟩
  · refine Fr.A (a := (406, 181)) ?_ _ (pMor_at 181 rfl)
    refine Fr.A (a := (405, 181)) ?_ _ (pMor_at 181 rfl)
    refine Fr.A (a := (404, 181)) ?_ _ (pMor_at 181 rfl)
    refine Fr.A (a := (403, 181)) ?_ _ (pMor_at 181 rfl)
    refine Fr.A (a := (402, 181)) ?_ _ (pMor_at 181 rfl)
    refine Fr.A (a := (401, 181)) ?_ _ (pMor_at 181 rfl)
    refine Fr.A (a := (407, 181)) ?_ _ (pMor_at 181 rfl)
    refine Fr.A (a := (407, 181)) ?_ _ (pMor_at 181 rfl)
    exact Fr.S (a := (10409, 181)) (Fr.rf _ _) _ (pMor_at 181 rfl)
  · unfold ALN
    refine ⟨fun j hj => ?_, ?_, ?_, ?_, ?_, ?_, ?_, ?_⟩
    · simp only [fA_tA, fA_sS, Prod.mk.injEq, Nat.reduceEqDiff, false_and, and_true, if_true, if_false]
      rw [upd_eq]
      split
      · rfl
      · exact if_pos hj
    all_goals (simp only [fA_tA, rS_tA, fA_sS, rS_sS, Prod.mk.injEq, Nat.reduceEqDiff, false_and, and_true, if_true, if_false, upd_at] <;> rfl)
theorem mostOf_ok {u : MEM} {a : LA} {N : Nat} {g : Nat → Nat} (hN : aN a.1 = N) (h1 : 1 ≤ N) (h2 : N ≤ 2000) (hg : ∀ j, g j < 2 ^ 31) (hv : ∀ j < N, fA u a j = nI (g j)) : f_X9_mostOf 3000 a u = some (nI (am g N), u) := by
  rw [E_X9_mostOf]
  have e := (for_lp (F := fun n i p => f_X9_mostOf_4 3000 n a (nI p) i u) (N := N) (step := fun j p => if g p < g j then j else p) (fin := fun p => some (nI p, u)) (fun _ p => p < N)
    (fun n k p hk hp => by
      refine ⟨?_, ?_⟩
      · show f_X9_mostOf_4 3000 (n + 1) a (nI p) (nI k) u = _
        have l1 := hg p
        have l2 := hg k
        rw [E_X9_mostOf_4, hN]
        simp (disch := omega) only [nlt, hk, hp, if_true, bIn, rAn, decide_true, ck_tr, hv k hk, hv p hp, naddL]
        split <;> rfl
      · show (if g p < g k then k else p) < N
        split <;> omega)
    (fun n p _ => by
      show f_X9_mostOf_4 3000 (n + 1) a (nI p) (nI N) u = _
      rw [E_X9_mostOf_4, hN, if_neg (by rw [nlt _ _ (by omega) (by omega)]; omega)])
    (N - 1) 3000 1 0 (by omega) (by omega) (by omega)).1
  rw [am_1, show N - 1 + 1 = N by omega] at e
  exact e
