/-! pairs of a breath and ferns -/
def bP (p : Nat) : Int32 := nI (p / 10 + 1)
def fP (p : Nat) : Int32 := nI (p % 10)
def msS (C : ACt) (h t p : Nat) : Nat → Nat × Nat
  | 0 => (0, 99)
  | k + 1 => ((mA C h (bP p) (fP p) (msS C h t p k).1 (msS C h t p k).2 (t + k)).toNatClampNeg, (aA (bP p) (fP p) (msS C h t p k).2).toNatClampNeg)
theorem ms_ok (C : ACt) (h t p k : Nat) : mA C h (bP p) (fP p) (msS C h t p k).1 (msS C h t p k).2 (t + k) = nI (msS C h t p (k + 1)).1 ∧ aA (bP p) (fP p) (msS C h t p k).2 = nI (msS C h t p (k + 1)).2 := by
  obtain ⟨v, v1, v2⟩ := held_b (nI (msS C h t p k).1 + clA C h (bP p) (fP p) (msS C h t p k).1 (msS C h t p k).2 (t + k))
  obtain ⟨x, x1, x2⟩ := held_b (nI (msS C h t p k).2 - bP p + fP p)
  have e1 : (msS C h t p (k + 1)).1 = v := by
    show (mA C h (bP p) (fP p) (msS C h t p k).1 (msS C h t p k).2 (t + k)).toNatClampNeg = v
    unfold mA
    rw [v2, nI_clamp (by omega)]
  have e2 : (msS C h t p (k + 1)).2 = x := by
    show (aA (bP p) (fP p) (msS C h t p k).2).toNatClampNeg = x
    unfold aA
    rw [x2, nI_clamp (by omega)]
  rw [e1, e2]
  exact ⟨v2, x2⟩
theorem ms_le (C : ACt) (h t p : Nat) : ∀ k, (msS C h t p k).1 ≤ 99 ∧ (msS C h t p k).2 ≤ 99
  | 0 => by
    show 0 ≤ 99 ∧ 99 ≤ 99
    omega
  | k + 1 => by
    obtain ⟨v, v1, v2⟩ := held_b (nI (msS C h t p k).1 + clA C h (bP p) (fP p) (msS C h t p k).1 (msS C h t p k).2 (t + k))
    obtain ⟨x, x1, x2⟩ := held_b (nI (msS C h t p k).2 - bP p + fP p)
    constructor
    · show (mA C h (bP p) (fP p) (msS C h t p k).1 (msS C h t p k).2 (t + k)).toNatClampNeg ≤ 99
      unfold mA
      rw [v2, nI_clamp (by omega)]
      exact v1
    · show (aA (bP p) (fP p) (msS C h t p k).2).toNatClampNeg ≤ 99
      unfold aA
      rw [x2, nI_clamp (by omega)]
      exact x1
def rgK (C : ACt) (bk : Nat → Int32) (h t p n : Nat) : Bool := lp n 1 (fun k r => r && (decide (bk k = -1) || decide (bk k = nI (msS C h t p k).1))) true
def rgB (C : ACt) (bk : Nat → Int32) (h t p : Nat) : Bool := rgK C bk h t p 12
theorem rgK_s (C : ACt) (bk : Nat → Int32) (h t p n : Nat) : rgK C bk h t p (n + 1) = (rgK C bk h t p n && (decide (bk (1 + n) = -1) || decide (bk (1 + n) = nI (msS C h t p (1 + n)).1))) := by
  unfold rgK
  rw [lp_snoc]
theorem rgK_f (C : ACt) (bk : Nat → Int32) (h t p n : Nat) (e : rgK C bk h t p n = false) : ∀ j, rgK C bk h t p (n + j) = false
  | 0 => e
  | j + 1 => by
    rw [← Nat.add_assoc, rgK_s, rgK_f C bk h t p n e j]
    rfl
def cntP (C : ACt) (bk : Nat → Int32) (h t p : Nat) : Nat := lp p 0 (fun q a => if rgB C bk h t q = true then a + 1 else a) 0
theorem cntP_s (C : ACt) (bk : Nat → Int32) (h t p : Nat) : cntP C bk h t (p + 1) = if rgB C bk h t p = true then cntP C bk h t p + 1 else cntP C bk h t p := by
  unfold cntP
  rw [lp_snoc, Nat.zero_add]
theorem cntP_le (C : ACt) (bk : Nat → Int32) (h t : Nat) : ∀ p, cntP C bk h t p ≤ p
  | 0 => Nat.le_refl _
  | p + 1 => by
    have := cntP_le C bk h t p
    rw [cntP_s]
    split <;> omega
theorem cntP_lt (C : ACt) (bk : Nat → Int32) (h t q : Nat) (hq : rgB C bk h t q = true) : ∀ p, q < p → cntP C bk h t q < cntP C bk h t p
  | 0, e => absurd e (Nat.not_lt_zero _)
  | p + 1, e => by
    rw [cntP_s]
    by_cases c : q = p
    · subst c
      rw [if_pos hq]
      omega
    · have := cntP_lt C bk h t q hq p (by omega)
      split <;> omega
def fsP (C : ACt) (bk : Nat → Int32) (h t p : Nat) : Int32 := lp p 0 (fun q s => if rgB C bk h t q = true then (if s = -1 then nI (10 * (q / 10 + 1) + q % 10) else s) else s) (-1)
theorem fsP_s (C : ACt) (bk : Nat → Int32) (h t p : Nat) : fsP C bk h t (p + 1) = if rgB C bk h t p = true then (if fsP C bk h t p = -1 then nI (10 * (p / 10 + 1) + p % 10) else fsP C bk h t p) else fsP C bk h t p := by
  unfold fsP
  rw [lp_snoc, Nat.zero_add]
def pPQ : LA → Bool := fun a => (Nat.beq a.1 10502 || (Nat.beq a.1 10503 || Nat.beq a.1 502)) && Nat.ble a.2 300
theorem pPQ_scC (a : LA) (h : pPQ a = true) : scC a = true := by
  obtain ⟨t, i⟩ := a
  obtain ⟨h1, h2⟩ := and_t (a := (Nat.beq t 10502 || (Nat.beq t 10503 || Nat.beq t 502))) h
  have h2 : i ≤ 300 := Nat.le_of_ble_eq_true h2
  have hi : Nat.beq i 842 = false := beq_ne (by omega)
  show (scr (t, i) && !(Nat.beq i 842)) = true
  rw [hi]
  rcases or_t h1 with e | e
  · have := Nat.eq_of_beq_eq_true e; subst this; rfl
  · rcases or_t e with e | e
    · have := Nat.eq_of_beq_eq_true e; subst this; rfl
    · have := Nat.eq_of_beq_eq_true e; subst this; rfl
theorem pPQ_at {x : Nat} (h : x ≤ 300) : pPQ (502, x) = true := by
  show (true && Nat.ble x 300) = true
  rw [Nat.ble_eq_true_of_le h]
  rfl
theorem keep_ok {u : MEM} {C : ACt} {bk : Nat → Int32} {b h t p : Nat} (hp : p < 90) (h1 : rS u (10502, 203) = nI (cntP C bk h t p)) (h2 : rS u (10503, 203) = fsP C bk h t p) (h3 : ∀ k, 1 ≤ k → k ≤ 12 → fA u (502, 203 + cntP C bk h t p) k = nI (msS C h t p k).1) (h4 : ∀ k < 13, fA u (1, b) k = bk k) : ∃ u1, f_X5_keepIfRight 3000 203 b (nI (10 * (p / 10 + 1) + p % 10)) u = some ((), u1) ∧ Fr pPQ u u1 ∧ (∀ x, fA u1 (502, x) = fA u (502, x)) ∧ rS u1 (10502, 203) = nI (cntP C bk h t (p + 1)) ∧ rS u1 (10503, 203) = fsP C bk h t (p + 1) := by
  have hc := cntP_le C bk h t p
  rw [E_X5_keepIfRight, h1, if_pos (by rw [nltL _ _ (by omega) (by decide)]; omega)]
  have key : ∀ m k n, k + 1 + m = 13 → m < n → rgK C bk h t p k = true → f_X5_keepIfRight_12 3000 n 203 b (nI (10 * (p / 10 + 1) + p % 10)) (nI (k + 1)) u = if rgB C bk h t p = true then some ((), sS (sS u (10502, 203) (nI (cntP C bk h t p + 1))) (10503, 203) (if fsP C bk h t p = -1 then nI (10 * (p / 10 + 1) + p % 10) else fsP C bk h t p)) else some ((), u) := by
    intro m
    induction m with
    | zero =>
      intro k n hk hn hr
      obtain ⟨n, rfl⟩ : ∃ n', n = n' + 1 := ⟨n - 1, by omega⟩
      have : k = 12 := by omega
      subst this
      have hb : rgB C bk h t p = true := hr
      have hne : ¬ (((10503, 203) : LA) = (10502, 203)) := by decide
      rw [if_pos hb, E_X5_keepIfRight_12, if_pos (by decide), lt_eq, rS_sS, if_neg hne, h1, h2, nI_1, lt_eq, lt_eq]
      split <;> rfl
    | succ m ih =>
      intro k n hk hn hr
      obtain ⟨n, rfl⟩ : ∃ n', n = n' + 1 := ⟨n - 1, by omega⟩
      rw [E_X5_keepIfRight_12, if_neg (by rw [nLlt _ _ (by omega) (by decide)]; omega), h1]
      simp (disch := omega) only [bIn, rAn, decide_true, ck_tr, (show k + 1 < 13 by omega), h4 (k + 1) (by omega), (show cntP C bk h t p < 90 by omega), nI_clamp, h3 (k + 1) (by omega) (by omega), naddL]
      have hs := rgK_s C bk h t p k
      rw [hr, Nat.add_comm 1 k, Bool.true_and] at hs
      by_cases c1 : bk (k + 1) = -1
      · rw [if_pos c1]
        exact ih (k + 1) n (by omega) (by omega) (by rw [hs, decide_eq_true c1]; rfl)
      · rw [if_neg c1]
        by_cases c2 : bk (k + 1) = nI (msS C h t p (k + 1)).1
        · rw [if_pos c2]
          exact ih (k + 1) n (by omega) (by omega) (by rw [hs, decide_eq_true c2, Bool.or_true])
        · rw [if_neg c2, if_neg]
          have hf : rgK C bk h t p (k + 1) = false := by rw [hs, decide_eq_false c1, decide_eq_false c2]; rfl
          have := rgK_f C bk h t p (k + 1) hf (11 - k)
          rw [show k + 1 + (11 - k) = 12 by omega] at this
          intro e
          have e : rgK C bk h t p 12 = true := e
          rw [this] at e
          cases e
  have k0 := key 12 0 3000 (by omega) (by omega) rfl
  have k0 : f_X5_keepIfRight_12 3000 3000 203 b (nI (10 * (p / 10 + 1) + p % 10)) 1 u = _ := k0
  rw [k0, cntP_s, fsP_s]
  by_cases c : rgB C bk h t p = true
  · rw [if_pos c, if_pos c, if_pos c]
    refine ⟨_, rfl, Fr.S (a := (10503, 203)) (Fr.S (a := (10502, 203)) (Fr.rf _ _) _ rfl) _ rfl, fun x => rfl, ?_, ?_⟩
    · rw [rS_sS, if_neg (by decide), rS_sS, if_pos rfl]
    · rw [rS_sS, if_pos rfl]
  · rw [if_neg c, if_neg c, if_neg c]
    exact ⟨u, rfl, Fr.rf _ _, fun x => rfl, h1, h2⟩
def PQ (w u : MEM) (C : ACt) (bk : Nat → Int32) (h t p : Nat) : Prop := Fr scC w u ∧ rS u (10502, 203) = nI (cntP C bk h t p) ∧ rS u (10503, 203) = fsP C bk h t p ∧ ∀ q, q < p → rgB C bk h t q = true → ∀ k, 1 ≤ k → k ≤ 12 → fA u (502, 203 + cntP C bk h t q) k = nI (msS C h t q k).1
theorem PQ.fr {w u v : MEM} {C : ACt} {bk : Nat → Int32} {h t p : Nat} {P : LA → Bool} (q : PQ w u C bk h t p) (g : Fr P u v) (hs : ∀ a, P a = true → scC a = true) (h1 : P (10502, 203) = false) (h2 : P (10503, 203) = false) (h3 : ∀ x, P (502, x) = false) : PQ w v C bk h t p := by
  obtain ⟨q1, q2, q3, q4⟩ := q
  refine ⟨q1.tr (g.mono hs), ?_, ?_, fun r hr hb k k1 k2 => ?_⟩
  · rw [g.2.1 _ h1]; exact q2
  · rw [g.2.1 _ h2]; exact q3
  · rw [g.1 _ (h3 _)]; exact q4 r hr hb k k1 k2
theorem pairs_C {w : MEM} {C : ACt} {c l b h t : Nat} (hr : REF w c l b) (hc : INVc C c l b w) (hh : h < cH C) (ht : t ≤ 900) (hT : rS w (10409, 9) = nI t) : ∃ u, f_X9_findPairs 3000 0 (nI h) w = some ((), u) ∧ PQ w u C (fA w (1, b)) h t 90 := by
  have hw := hc.1
  have h7 := hw.1
  have hl := hr.l
  generalize hbk : fA w (1, b) = bk
  rw [E_X9_findPairs, E_X5_clear, lt_eq, lt_eq, bnd_some]
  have f0 : Fr scC w (sS (sS w (10502, 203) 0) (10503, 203) (-1)) := Fr.S (a := (10503, 203)) (Fr.S (a := (10502, 203)) (Fr.rf _ _) _ rfl) _ rfl
  have q0 : PQ w (sS (sS w (10502, 203) 0) (10503, 203) (-1)) C bk h t 0 := ⟨f0, rfl, rfl, fun q hq => absurd hq (Nat.not_lt_zero _)⟩
  generalize sS (sS w (10502, 203) 0) (10503, 203) (-1) = w0 at q0
  obtain ⟨u, n1, e1, e2⟩ := for_rel (F := fun n x (u : MEM) => f_X9_findPairs_9 3000 n 0 (nI h) x u) (N := 10) (fun k u => 1 ≤ k ∧ PQ w u C bk h t (10 * (k - 1)))
    (fun n k u hk p => by
      obtain ⟨p0, p1⟩ := p
      show ∃ b : MEM, f_X9_findPairs_9 3000 (n + 1) 0 (nI h) (nI k) u = f_X9_findPairs_9 3000 n 0 (nI h) (nI (k + 1)) b ∧ _
      rw [E_X9_findPairs_9, if_neg (by rw [nLlt _ _ (by omega) (by decide)]; omega)]
      obtain ⟨v, n2, g1, g2⟩ := for_rel (F := fun m x (v : MEM) => f_X9_findPairs_17 3000 (fun l0 l1 l2 w => f_X9_findPairs_9 3000 n l0 l1 l2 w) m 0 (nI h) (nI k) x v) (N := 10) (fun j v => PQ w v C bk h t (10 * (k - 1) + j))
        (fun m j v hj p => by
          generalize hP : 10 * (k - 1) + j = P at p
          have hP90 : P < 90 := by omega
          have ed : P / 10 + 1 = k := by omega
          have em : P % 10 = j := by omega
          have hcn := cntP_le C bk h t P
          show ∃ b : MEM, f_X9_findPairs_17 3000 _ (m + 1) 0 (nI h) (nI k) (nI j) v = f_X9_findPairs_17 3000 _ m 0 (nI h) (nI k) (nI (j + 1)) b ∧ _
          have hTv : rS v (10409, 9) = nI t := (p.1.2.1 _ rfl).trans hT
          have hP1 : 10 * (k - 1) + (j + 1) = P + 1 := by omega
          rw [hP1]
          rw [E_X9_findPairs_17, if_neg (by rw [nLlt _ _ (by omega) (by decide)]; omega), show (8 + 1 : Nat) = 9 from rfl, hTv]
          obtain ⟨v1, a1, a2, a3⟩ := beAlone_ok (u := v) (h := h) (t := t) (nI k) (nI j) (by omega)
          have pv1 : PQ w v1 C bk h t P := p.fr a2 (pMor_scC (Or.inl rfl)) rfl rfl (fun x => rfl)
          rw [a1, bnd_some]
          have eb : nI k = bP P := by unfold bP; rw [ed]
          have ef : nI j = fP P := by unfold fP; rw [em]
          obtain ⟨z, n3, y1, y2, y3, y4, y5⟩ := for_rel (F := fun r x (z : MEM) => f_X9_findPairs_46 3000 (fun l0 l1 l2 w => f_X9_findPairs_9 3000 n l0 l1 l2 w) (fun l0 l1 l2 l3 w => f_X9_findPairs_17 3000 (fun l0 l1 l2 w => f_X9_findPairs_9 3000 n l0 l1 l2 w) m l0 l1 l2 l3 w) r 0 (nI h) (nI k) (nI j) x z) (N := 13) (fun q z => 1 ≤ q ∧ PQ w z C bk h t P ∧ ALN z h (bP P) (fP P) (msS C h t P (q - 1)).1 (msS C h t P (q - 1)).2 (t + (q - 1)) ∧ ∀ q', 1 ≤ q' → q' < q → fA z (502, 203 + cntP C bk h t P) q' = nI (msS C h t P q').1)
            (fun r q z hq pz => by
              obtain ⟨z0, z1, z2, z3⟩ := pz
              obtain ⟨q, rfl⟩ : ∃ q', q = q' + 1 := ⟨q - 1, by omega⟩
              have z2 : ALN z h (bP P) (fP P) (msS C h t P q).1 (msS C h t P q).2 (t + q) := z2
              have fz := z1.1
              have hcz := (hc.fr (fz.mono scC_scr).K).2.1
              obtain ⟨s1, s2⟩ := ms_ok C h t P q
              obtain ⟨x, x1, x2, x3⟩ := passHour0 hw hcz z2 (by omega) (ms_le C h t P q).1 s1 s2
              have px : PQ w x C bk h t P := z1.fr x2 (pMC_scC (Or.inl rfl) hl) rfl rfl (fun x => rfl)
              have hms := ms_le C h t P (q + 1)
              refine ⟨tA x (502, 203 + cntP C bk h t P) (upd (fA x (502, 203 + cntP C bk h t P)) (q + 1) (nI (msS C h t P (q + 1)).1)), ?_, by omega, ?_, ?_, fun q' h1 h2 => ?_⟩
              · show f_X9_findPairs_46 3000 _ _ (r + 1) 0 (nI h) (nI k) (nI j) (nI (q + 1)) z = _
                rw [E_X9_findPairs_46, if_neg (by rw [nLlt _ _ (by omega) (by decide)]; omega), (hr.fr fz).1, (hr.fr fz).2.1, x1, bnd_some, bIn _ _ (by omega), decide_eq_true (show h < 7 by omega), ck_tr, rAn _ _ _ (by omega), x3.2.2.2.1, E_X5_note, px.2.1, if_pos (by rw [nltL _ _ (by omega) (by decide)]; omega), bIn _ _ (by omega), decide_eq_true (show cntP C bk h t P < 90 by omega), ck_tr, bIn _ _ (by omega), decide_eq_true (show q + 1 < 13 by omega), ck_tr, lt_eq, nI_clamp (by omega), sAn _ _ _ _ (by omega), bnd_some, naddL]
              · obtain ⟨q1, q2, q3, q4⟩ := px
                refine ⟨Fr.A (a := (502, 203 + cntP C bk h t P)) q1 _ (pPQ_scC _ (pPQ_at (by omega))), q2, q3, fun r hr hb k' k1 k2 => ?_⟩
                have := cntP_lt C bk h t r hb P hr
                rw [fA_tA, if_neg (by intro e; injection e with e1 e2; omega)]
                exact q4 r hr hb k' k1 k2
              · exact x3
              · rw [fA_tA, if_pos rfl, upd_eq]
                by_cases c1 : q' = q + 1
                · rw [if_pos c1, c1]
                · rw [if_neg c1]
                  have : fA x (502, 203 + cntP C bk h t P) = fA z (502, 203 + cntP C bk h t P) := x2.1 _ rfl
                  rw [this]
                  exact z3 q' h1 (by omega))
            12 3000 1 v1 (by omega) (by omega) ⟨by omega, pv1, by rw [eb, ef] at a3; exact a3, fun q' h1 h2 => by omega⟩
          have y1 : f_X9_findPairs_46 3000 (fun l0 l1 l2 w => f_X9_findPairs_9 3000 n l0 l1 l2 w) (fun l0 l1 l2 l3 w => f_X9_findPairs_17 3000 (fun l0 l1 l2 w => f_X9_findPairs_9 3000 n l0 l1 l2 w) m l0 l1 l2 l3 w) 3000 0 (nI h) (nI k) (nI j) 1 v1 = f_X9_findPairs_46 3000 (fun l0 l1 l2 w => f_X9_findPairs_9 3000 n l0 l1 l2 w) (fun l0 l1 l2 l3 w => f_X9_findPairs_17 3000 (fun l0 l1 l2 w => f_X9_findPairs_9 3000 n l0 l1 l2 w) m l0 l1 l2 l3 w) (n3 + 1) 0 (nI h) (nI k) (nI j) (nI 13) z := y1
          obtain ⟨q1, q2, q3, q4⟩ := y3
          have hbz : ∀ k < 13, fA z (1, b) k = bk k := by
            intro k hk
            rw [q1.1 (1, b) rfl, hbk]
          obtain ⟨z1, b1, b2, b3, b4, b5⟩ := keep_ok (b := b) hP90 q2 q3 (fun k k1 k2 => y5 k k1 (by omega)) hbz
          refine ⟨z1, ?_, q1.tr (b2.mono pPQ_scC), b4, b5, fun q hq hb k' k1 k2 => ?_⟩
          · rw [y1, E_X9_findPairs_46, if_pos (by decide), (hr.fr q1).2.2.1, nLmul, nI_add]
            rw [ed, em] at b1
            have b1 : f_X5_keepIfRight 3000 203 b (nI ((OfNat.ofNat 10 : Nat) * k + j)) z = some ((), z1) := b1
            rw [b1, bnd_some, naddL]
          · rw [b3]
            by_cases c1 : q = P
            · subst c1
              exact y5 k' k1 (by omega)
            · exact q4 q (by omega) hb k' k1 k2)
        10 3000 0 u (by omega) (by omega) p1
      have g1 : f_X9_findPairs_17 3000 (fun l0 l1 l2 w => f_X9_findPairs_9 3000 n l0 l1 l2 w) 3000 0 (nI h) (nI k) 0 u = f_X9_findPairs_17 3000 (fun l0 l1 l2 w => f_X9_findPairs_9 3000 n l0 l1 l2 w) (n2 + 1) 0 (nI h) (nI k) (nI 10) v := g1
      refine ⟨v, ?_, by omega, ?_⟩
      · rw [g1, E_X9_findPairs_17, if_pos (by decide), naddL]
      · rw [show 10 * (k + 1 - 1) = 10 * (k - 1) + 10 by omega]
        exact g2)
    9 3000 1 w0 (by omega) (by omega) ⟨by omega, q0⟩
  have e1 : f_X9_findPairs_9 3000 3000 0 (nI h) 1 w0 = f_X9_findPairs_9 3000 (n1 + 1) 0 (nI h) (nI 10) u := e1
  refine ⟨u, ?_, e2.2⟩
  rw [e1, E_X9_findPairs_9, if_pos (by decide)]
/-! the model's -/
def pPM (a : LA) : Bool := pLM a || (Nat.beq a.1 1025 || Nat.beq a.1 1026)
theorem pLM_pPM (a : LA) (h : pLM a = true) : pPM a = true := by
  unfold pPM
  rw [h, Bool.true_or]
theorem pPM_scr (a : LA) (h : pPM a = true) : scr a = true := by
  rcases or_t (a := pLM a) h with e | e
  · exact pLM_scr a e
  · obtain ⟨t, i⟩ := a
    rcases or_t e with e | e
    · have := Nat.eq_of_beq_eq_true e
      have : t = 1025 := this
      subst this; rfl
    · have := Nat.eq_of_beq_eq_true e
      have : t = 1026 := this
      subst this; rfl
theorem okPM : okM pPM := ⟨rfl, rfl, rfl, rfl, rfl, rfl, rfl, rfl, rfl, rfl⟩
def PM (u v : MEM) (C : ACt) (bk : Nat → Int32) (h t p : Nat) : Prop := Fr pPM u v ∧ ∀ q, q < p → fA v (1026, 842) q = (if rgB C bk h t q = true then 1 else 0) ∧ ∀ k, 1 ≤ k → k ≤ 12 → fA v (1025, 842) (13 * q + k) = nI (msS C h t q k).1
theorem nar_b1 : vp_nar .boolean (1 : Int32) = 1 := by decide +kernel
theorem nar_b0 : vp_nar .boolean (0 : Int32) = 0 := by decide +kernel
theorem sub3 (x y z : Int32) : x - y - 1 + z = x - (y + 1) + z := by
  simp only [Int32.sub_eq_add_neg, Int32.neg_add]
  ac_rfl
theorem pairs_M {u : MEM} {C : ACt} {bk : Nat → Int32} {h t : Nat} (hw : WFc C) (hm : MOD u C) (ht : t ≤ 900) (hT : fA u (1019, 842) 56 = nI t) (hbk : ∀ k < 13, fA u (1023, 842) k = bk k) : ∃ v, f_X10_findPairs 3000 842 (nI h) u = some ((), v) ∧ PM u v C bk h t 90 := by
  rw [E_X10_findPairs]
  obtain ⟨v, n1, e1, e2⟩ := for_rel (F := fun n x (v : MEM) => f_X10_findPairs_2 3000 n 842 (nI h) x v) (N := 90) (fun p v => PM u v C bk h t p)
    (fun n p v hp pm => by
      obtain ⟨p1, p2⟩ := pm
      show ∃ b : MEM, f_X10_findPairs_2 3000 (n + 1) 842 (nI h) (nI p) v = f_X10_findPairs_2 3000 n 842 (nI h) (nI (p + 1)) b ∧ _
      rw [E_X10_findPairs_2, if_pos (by rw [nltL _ _ (by omega) (by decide)]; exact hp), bIn _ _ (by omega), decide_eq_true hp, ck_tr, nar_b1, lt_eq, sAn _ _ _ _ (by omega)]
      have f0 : Fr pPM u (tA v (1026, 842) (upd (fA v (1026, 842)) p 1)) := Fr.A (a := (1026, 842)) p1 _ rfl
      have v0 : fA (tA v (1026, 842) (upd (fA v (1026, 842)) p 1)) (1026, 842) = upd (fA v (1026, 842)) p 1 := by rw [fA_tA, if_pos rfl]
      have w0 : fA (tA v (1026, 842) (upd (fA v (1026, 842)) p 1)) (1025, 842) = fA v (1025, 842) := rfl
      generalize tA v (1026, 842) (upd (fA v (1026, 842)) p 1) = v1 at f0 v0 w0
      obtain ⟨⟨x1, x2, z⟩, n2, g1, g2, g3, g4, g5, g6, g7⟩ := for_rel (F := fun m x (s : Nat × (Nat × MEM)) => f_X10_findPairs_24 3000 (fun l0 l1 l2 w => f_X10_findPairs_2 3000 n l0 l1 l2 w) m 842 (nI h) (nI p) (nI s.1) (nI s.2.1) x s.2.2) (N := 13) (fun q s => 1 ≤ q ∧ s.1 = (msS C h t p (q - 1)).1 ∧ s.2.1 = (msS C h t p (q - 1)).2 ∧ Fr pPM u s.2.2 ∧ (∀ r, r < p → fA s.2.2 (1026, 842) r = fA v (1026, 842) r ∧ ∀ k, 1 ≤ k → k ≤ 12 → fA s.2.2 (1025, 842) (13 * r + k) = fA v (1025, 842) (13 * r + k)) ∧ fA s.2.2 (1026, 842) p = (if rgK C bk h t p (q - 1) = true then 1 else 0) ∧ ∀ k, 1 ≤ k → k < q → fA s.2.2 (1025, 842) (13 * p + k) = nI (msS C h t p k).1)
        (fun m q s hq ps => by
          obtain ⟨x1, x2, z⟩ := s
          obtain ⟨q0, q1, q2, q3, q4, q5, q6⟩ := ps
          obtain ⟨q, rfl⟩ : ∃ q', q = q' + 1 := ⟨q - 1, by omega⟩
          have q1 : x1 = (msS C h t p q).1 := q1
          have q2 : x2 = (msS C h t p q).2 := q2
          have q3 : Fr pPM u z := q3
          have q4 : ∀ r, r < p → fA z (1026, 842) r = fA v (1026, 842) r ∧ ∀ k, 1 ≤ k → k ≤ 12 → fA z (1025, 842) (13 * r + k) = fA v (1025, 842) (13 * r + k) := q4
          have q5 : fA z (1026, 842) p = (if rgK C bk h t p q = true then 1 else 0) := q5
          have q6 : ∀ k, 1 ≤ k → k < q + 1 → fA z (1025, 842) (13 * p + k) = nI (msS C h t p k).1 := q6
          subst q1
          subst q2
          obtain ⟨s1, s2⟩ := ms_ok C h t p q
          have hml := ms_le C h t p q
          have hml1 := ms_le C h t p (q + 1)
          have hmz := hm.fr q3 okPM
          have hTz : fA z (1019, 842) 56 = nI t := by rw [q3.1 _ rfl]; exact hT
          have hd : nI p / (10 : Int32) = nI (p / 10) := pk_div (d := 10) (by omega) (by omega) (by omega)
          have hmo : nI p - nI p / (10 : Int32) * 10 = nI (p % 10) := pk_rem (d := 10) (by omega) (by omega) (by omega)
          have h24 : ¬ ((24 : Int32) = 0) := by decide
          have h10 : ¬ ((10 : Int32) = 0) := by decide
          have hv1 : nI t + nI (q + 1) - (1 : Int32) = nI (t + q) := by
            rw [nI_add]
            exact (nI_sub (t + (q + 1)) 1 (by omega)).trans (by rw [show t + (q + 1) - 1 = t + q by omega])
          have hv2 : nI (t + (q + 1)) - (1 : Int32) = nI (t + q) := (nI_sub (t + (q + 1)) 1 (by omega)).trans (by rw [show t + (q + 1) - 1 = t + q by omega])
          have hmo2 : nI p - nI (p / 10) * (10 : Int32) = nI (p % 10) := by rw [← hd]; exact hmo
          have e24 : nI (t + q) - nI (t + q) / (24 : Int32) * 24 = m24 (nI (t + q)) := rfl
          obtain ⟨z1, c1, c2⟩ := cloudOf_M (L := cL C) (fu := 3000) hw.2.2.2.2.2.1 hmz.2.2.2.2.2.2.2 (by omega) (bP p) (fP p) 0 (nI (msS C h t p q).2) 0 (nI (msS C h t p q).1) (m24 (nI (t + q))) (if m24 (nI (t + q)) = cSun C then 1 else 0) (nI h)
          have c1 : f_X10_cloudOf 3000 842 (bP p) (fP p) 0 (nI (msS C h t p q).2) 0 (nI (msS C h t p q).1) (m24 (nI (t + q))) (if m24 (nI (t + q)) = cSun C then 1 else 0) (nI h) z = some (clA C h (bP p) (fP p) (msS C h t p q).1 (msS C h t p q).2 (t + q), z1) := c1
          have c2p := c2.mono pLM_pPM
          have s1 : heldS (nI (msS C h t p q).1 + clA C h (bP p) (fP p) (msS C h t p q).1 (msS C h t p q).2 (t + q)) = nI (msS C h t p (q + 1)).1 := s1
          have s2 : heldS (nI (msS C h t p q).2 - bP p + fP p) = nI (msS C h t p (q + 1)).2 := s2
          have ebp : nI (p / 10) + (1 : Int32) = bP p := nI_1 _
          have efp : nI (p % 10) = fP p := rfl
          have eA26 : fA z1 (1026, 842) = fA z (1026, 842) := c2.1 _ rfl
          have eA25 : fA z1 (1025, 842) = fA z (1025, 842) := c2.1 _ rfl
          have eA23 : ∀ k < 13, fA z1 (1023, 842) k = bk k := by
            intro k hk
            rw [c2.1 _ rfl, q3.1 _ rfl]
            exact hbk k hk
          have rd : ∀ x : Int32, x = 0 ∨ x = 1 → ∃ Y : MEM, Y = tA (tA z1 (1025, 842) (upd (fA z1 (1025, 842)) (13 * p + (q + 1)) (nI (msS C h t p (q + 1)).1))) (1026, 842) (upd (fA z1 (1026, 842)) p x) := fun x _ => ⟨_, rfl⟩
          -- the step
          have hst : f_X10_findPairs_24 3000 (fun l0 l1 l2 w => f_X10_findPairs_2 3000 n l0 l1 l2 w) (m + 1) 842 (nI h) (nI p) (nI (msS C h t p q).1) (nI (msS C h t p q).2) (nI (q + 1)) z = f_X10_findPairs_24 3000 (fun l0 l1 l2 w => f_X10_findPairs_2 3000 n l0 l1 l2 w) m 842 (nI h) (nI p) (nI (msS C h t p (q + 1)).1) (nI (msS C h t p (q + 1)).2) (nI (q + 1 + 1)) (tA (tA z1 (1025, 842) (upd (fA z1 (1025, 842)) (13 * p + (q + 1)) (nI (msS C h t p (q + 1)).1))) (1026, 842) (upd (fA z1 (1026, 842)) p (if rgK C bk h t p (q + 1) = true then 1 else 0))) := by
            rw [E_X10_findPairs_24, if_neg (by rw [nLlt _ _ (by omega) (by decide)]; omega)]
            simp (disch := omega) only [bIL, rAL, decide_true, ck_tr, (show 56 < 57 by omega), hTz, hv1, hv2, lt_eq, h10, h24, if_false, sunOf_M hmz, bnd_some, hmo, hmo2, hd, e24, ebp, efp, c1, held_M, s1, sub3, s2, nLmul, nI_add, bIn, sAn, (show (OfNat.ofNat 13 : Nat) * p + (q + 1) < 1170 by show 13 * p + (q + 1) < 1170; omega), hp, (show q + 1 < 13 by omega), rAn, fA_tA, Prod.mk.injEq, Nat.reduceEqDiff, false_and, eA26, q5, Nat.add_sub_cancel, eA23 (q + 1) (by omega), nar_b0, nar_b1, naddL]
            have hs := rgK_s C bk h t p q
            rw [Nat.add_comm 1 q] at hs
            have e13 : (OfNat.ofNat 13 : Nat) * p + (q + 1) = 13 * p + (q + 1) := rfl
            rw [e13]
            by_cases d1 : rgK C bk h t p q = true
            · rw [if_pos d1, if_neg (by decide)]
              rw [d1, Bool.true_and] at hs
              by_cases d2 : bk (q + 1) = -1
              · rw [if_pos d2]
                have : rgK C bk h t p (q + 1) = true := by rw [hs, decide_eq_true d2]; rfl
                rw [if_pos this]
              · rw [if_neg d2]
                by_cases d3 : bk (q + 1) = nI (msS C h t p (q + 1)).1
                · rw [if_pos d3]
                  have : rgK C bk h t p (q + 1) = true := by rw [hs, decide_eq_true d3, Bool.or_true]
                  rw [if_pos this]
                · rw [if_neg d3]
                  have : ¬ rgK C bk h t p (q + 1) = true := by rw [hs, decide_eq_false d2, decide_eq_false d3]; decide
                  rw [if_neg this]
            · have d1' : rgK C bk h t p q = false := by simpa using d1
              rw [if_neg d1, if_pos rfl]
              have : ¬ rgK C bk h t p (q + 1) = true := by rw [hs, d1', Bool.false_and]; decide
              rw [if_neg this]
          refine ⟨((msS C h t p (q + 1)).1, ((msS C h t p (q + 1)).2, _)), hst, by omega, rfl, rfl, ?_, ?_, ?_, ?_⟩
          · exact Fr.A (a := (1026, 842)) (Fr.A (a := (1025, 842)) (q3.tr c2p) _ rfl) _ rfl
          · intro r hr
            refine ⟨?_, fun k k1 k2 => ?_⟩
            · show fA (tA (tA z1 (1025, 842) _) (1026, 842) _) (1026, 842) r = _
              rw [fA_tA, if_pos rfl, upd_ne _ _ (by omega), eA26]
              exact (q4 r hr).1
            · show fA (tA (tA z1 (1025, 842) _) (1026, 842) _) (1025, 842) (13 * r + k) = _
              rw [fA_tA, if_neg (by decide), fA_tA, if_pos rfl, upd_ne _ _ (by omega), eA25]
              exact (q4 r hr).2 k k1 k2
          · show fA (tA (tA z1 (1025, 842) _) (1026, 842) _) (1026, 842) p = _
            rw [fA_tA, if_pos rfl, upd_at]
            rfl
          · intro k k1 k2
            show fA (tA (tA z1 (1025, 842) _) (1026, 842) _) (1025, 842) (13 * p + k) = _
            rw [fA_tA, if_neg (by decide), fA_tA, if_pos rfl, upd_eq]
            by_cases d : k = q + 1
            · rw [if_pos (by omega), d]
            · rw [if_neg (by omega), eA25]
              exact q6 k k1 (by omega))
        12 3000 1 (0, (99, v1)) (by omega) (by omega) ⟨by omega, rfl, rfl, f0, fun r hr => ⟨by
            show fA v1 (1026, 842) r = _
            rw [v0, upd_ne _ _ (by omega)], fun k _ _ => by
            show fA v1 (1025, 842) (13 * r + k) = _
            rw [w0]⟩, by
            show fA v1 (1026, 842) p = _
            rw [v0, upd_at]
            rfl, fun k k1 k2 => by omega⟩
      have g1 : f_X10_findPairs_24 3000 (fun l0 l1 l2 w => f_X10_findPairs_2 3000 n l0 l1 l2 w) 3000 842 (nI h) (nI p) 0 99 1 v1 = f_X10_findPairs_24 3000 (fun l0 l1 l2 w => f_X10_findPairs_2 3000 n l0 l1 l2 w) (n2 + 1) 842 (nI h) (nI p) (nI x1) (nI x2) (nI 13) z := g1
      refine ⟨z, ?_, g5, fun q hq => ?_⟩
      · rw [g1, E_X10_findPairs_24, if_pos (by decide), naddL]
      · by_cases c : q = p
        · subst c
          exact ⟨g7.1, fun k k1 k2 => g7.2 k k1 (by omega)⟩
        · have h1 := p2 q (by omega)
          have h2 := g6 q (by omega)
          exact ⟨h2.1.trans h1.1, fun k k1 k2 => (h2.2 k k1 k2).trans (h1.2 k k1 k2)⟩)
    90 3000 0 u (by omega) (by omega) ⟨Fr.rf _ _, fun q hq => absurd hq (Nat.not_lt_zero _)⟩
  have e1 : f_X10_findPairs_2 3000 3000 842 (nI h) 0 u = f_X10_findPairs_2 3000 (n1 + 1) 842 (nI h) (nI 90) v := e1
  refine ⟨v, ?_, e2⟩
  rw [e1, E_X10_findPairs_2, if_neg (by decide)]
