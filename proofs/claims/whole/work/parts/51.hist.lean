/-! histories -/
def okT (P : LA → Bool) (b : Nat) : Prop := P (10801, 1) = false ∧ P (11002, 842) = false ∧ P (801, 1) = false ∧ P (1002, 842) = false ∧ P (10806, 1) = false ∧ P (11008, 842) = false ∧ P (10001, b) = false ∧ P (11047, 842) = false ∧ P (1, b) = false ∧ P (1023, 842) = false
theorem TAPE.fr {w w1 : MEM} {P : LA → Bool} (h : TAPE w) (g : Fr P w w1) (p1 : P (10801, 1) = false) (p2 : P (11002, 842) = false) (p3 : P (801, 1) = false) (p4 : P (1002, 842) = false) : TAPE w1 := by
  obtain ⟨n, a1, a2, a3, a4⟩ := h
  refine ⟨n, a1, ?_, ?_, fun k hk => ?_⟩
  · rw [g.2.1 _ p1]; exact a2
  · rw [g.2.1 _ p2]; exact a3
  · rw [g.1 _ p3, g.1 _ p4]; exact a4 k hk
theorem BOK.fr {w w1 : MEM} {b : Nat} {P : LA → Bool} (h : BOK w b) (g : Fr P w w1) (p1 : P (10001, b) = false) (p2 : P (11047, 842) = false) (p3 : P (1, b) = false) (p4 : P (1023, 842) = false) : BOK w1 b := by
  obtain ⟨n, a1, a2, a3, a4⟩ := h
  refine ⟨n, a1, ?_, ?_, fun k hk => ?_⟩
  · rw [g.2.1 _ p1]; exact a2
  · rw [g.2.1 _ p2]; exact a3
  · rw [g.1 _ p3, g.1 _ p4]; exact a4 k hk
theorem INVc.re {C : ACt} {c l b : Nat} {w w1 : MEM} {P : LA → Bool} (h : INVc C c l b w) (g : Fr P w w1) (hC : okC P c l) (hM : okM P) (hT : okT P b) (hH : HIST w1 8 C (nowH w1)) (hI : IMGS w1 C) (hs : rS w1 (10915, 0) = rS w1 (11038, 842)) : INVc C c l b w1 := by
  obtain ⟨h1, h2, h3, _, _, h6, h7, _, h9⟩ := h
  obtain ⟨t1, t2, t3, t4, t5, t6, t7, t8, t9, t10⟩ := hT
  refine ⟨h1, h2.fr g hC, h3.fr g hM, hH, hI, h6.fr g t1 t2 t3 t4, ?_, hs, h9.fr g t7 t8 t9 t10⟩
  rw [g.2.1 _ t5, g.2.1 _ t6]
  exact h7
theorem MORN.fr2 {w w1 : MEM} {i : Nat} {C : ACt} {f : Nat → Int32} {P : LA → Bool} (h : MORN w i C f) (g : Fr P w w1) (hp : ∀ t < 9, P (401 + t, i) = false) (hs : P (10409, i) = false) : MORN w1 i C f := ⟨h.1.fr g hp hs, h.2⟩
theorem MORN.ext {w : MEM} {i : Nat} {C : ACt} {f g : Nat → Int32} (h7 : cH C ≤ 7) (h : MORN w i C f) (e : ∀ j < 57, f j = g j) : MORN w i C g := by
  obtain ⟨h1, t, ht, hb⟩ := h
  exact ⟨Rm_ext h7 h1 e, t, ht, Bd_ext h7 hb e⟩
theorem HIST.fr2 {w w1 : MEM} {i : Nat} {C : ACt} {H : Nat → Int32} {P : LA → Bool} (h : HIST w i C H) (g : Fr P w w1) (hp : ∀ j, i + 1 ≤ j → j ≤ i + 162 → (∀ t < 9, P (401 + t, j) = false) ∧ P (10409, j) = false) (hs : P (10202, i) = false) : HIST w1 i C H := by
  obtain ⟨m, h1, h2, h3, h4, h5⟩ := h
  refine ⟨m, h1, h2, ?_, h4.fr2 g (hp _ (by omega) (by omega)).1 (hp _ (by omega) (by omega)).2, fun k hk => (h5 k hk).fr2 g (hp _ (by omega) (by omega)).1 (hp _ (by omega) (by omega)).2⟩
  rw [g.2.1 _ hs]
  exact h3
theorem HIST.ext {w : MEM} {i : Nat} {C : ACt} {H G : Nat → Int32} (h7 : cH C ≤ 7) (h : HIST w i C H) (e : ∀ j < 970, H j = G j) : HIST w i C G := by
  obtain ⟨m, h1, h2, h3, h4, h5⟩ := h
  exact ⟨m, h1, by rw [← e 969 (by omega)]; exact h2, h3, h4.ext h7 (fun j hj => e j (by omega)), fun k hk => (h5 k hk).ext h7 (fun j hj => e _ (by omega))⟩
def pHi (i : Nat) : LA → Bool := fun a => (morT a.1 && (Nat.ble (i + 1) a.2 && Nat.ble a.2 (i + 162))) || (Nat.beq a.1 10202 && Nat.beq a.2 i)
theorem pHi_mo {i j : Nat} (h1 : i + 1 ≤ j) (h2 : j ≤ i + 162) (a : LA) (h : pMor j a = true) : pHi i a = true := by
  obtain ⟨t, x⟩ := a
  obtain ⟨g1, g2⟩ := and_t (a := morT t) h
  have e2 : x = j := Nat.eq_of_beq_eq_true g2
  subst e2
  show ((morT t && (Nat.ble (i + 1) x && Nat.ble x (i + 162))) || _) = true
  rw [g1, Nat.ble_eq_true_of_le h1, Nat.ble_eq_true_of_le h2]
  rfl
theorem pHi_at (i : Nat) : pHi i (10202, i) = true := by
  show (_ || (true && Nat.beq i i)) = true
  rw [Nat.beq_refl]
  simp
theorem ble_f {a b : Nat} (h : b < a) : Nat.ble a b = false := by
  cases e : Nat.ble a b
  · rfl
  · have := Nat.le_of_ble_eq_true e; omega
theorem pHi_out {i j : Nat} (h : j < i + 1 ∨ i + 162 < j) (t : Nat) (ht : t < 9) : pHi i (401 + t, j) = false := by
  have e1 : Nat.beq (401 + t) 10202 = false := beq_ne (by omega)
  show ((morT (401 + t) && (Nat.ble (i + 1) j && Nat.ble j (i + 162))) || (Nat.beq (401 + t) 10202 && Nat.beq j i)) = false
  rw [e1]
  rcases h with h | h
  · rw [ble_f h]; simp
  · rw [ble_f h]; simp
theorem pHi_outS {i j : Nat} (h : j < i + 1 ∨ i + 162 < j) : pHi i (10409, j) = false := by
  show ((morT 10409 && (Nat.ble (i + 1) j && Nat.ble j (i + 162))) || (Nat.beq 10409 10202 && Nat.beq j i)) = false
  rcases h with h | h
  · rw [ble_f h]; rfl
  · rw [ble_f h, Bool.and_false]; rfl
theorem pMor_out {i j : Nat} (h : j ≠ i) (t : Nat) : pMor i (t, j) = false := by
  show (morT t && Nat.beq j i) = false
  rw [beq_ne h, Bool.and_false]
theorem copyH_C {w : MEM} {C : ACt} {i j : Nat} {H : Nat → Int32} (h7 : cH C ≤ 7) (hd : i + 162 < j ∨ j + 162 < i) (h : HIST w j C H) : ∃ w1, f_X2_copy 3000 i j w = some ((), w1) ∧ Fr (pHi i) w w1 ∧ HIST w1 i C H := by
  have hj := h
  obtain ⟨m, m1, m2, m3, ⟨r1, r2⟩, r3⟩ := h
  obtain ⟨w1, e1, e2, e3⟩ := copy_C 3000 (i := i + 1) (j := j + 1) (by omega) w
  have g1 : Fr (pHi i) w w1 := e2.mono (pHi_mo (by omega) (by omega))
  have e3 := e3 C H h7 r1
  have m3' : rS w1 (10202, j) = nI m := (e2.2.1 _ rfl).trans m3
  have g2 : Fr (pHi i) w (sS w1 (10202, i) (nI m)) := Fr.S (a := (10202, i)) g1 _ (pHi_at i)
  have s2 : rS (sS w1 (10202, i) (nI m)) (10202, i) = nI m := by rw [rS_sS, if_pos rfl]
  have e4 : Rm (sS w1 (10202, i) (nI m)) (i + 1) C H := e3
  rw [E_X2_copy, e1, bnd_some, lt_eq, m3']
  generalize sS w1 (10202, i) (nI m) = w2 at g2 s2 e4
  obtain ⟨u, n1, y1, y2, y3, y4, y5⟩ := for_rel (F := fun n x (u : MEM) => f_X2_copy_21 3000 n i j x u) (N := m) (fun k u => Fr (pHi i) w u ∧ Rm u (i + 1) C H ∧ rS u (10202, i) = nI m ∧ ∀ k', k' < k → Rm u (i + 12 + 10 * k') C (fun x => H (57 + 57 * k' + x)))
    (fun n k u hk p => by
      obtain ⟨p1, p2, p3, p4⟩ := p
      obtain ⟨u1, c1, c2, c3⟩ := copy_C 3000 (i := i + 12 + 10 * k) (j := j + 12 + 10 * k) (by omega) u
      have hs : Rm u (j + 12 + 10 * k) C (fun x => H (57 + 57 * k + x)) := (r3 k hk).1.fr p1 (pHi_out (by omega)) (pHi_outS (by omega))
      refine ⟨u1, ?_, p1.tr (c2.mono (pHi_mo (by omega) (by omega))), p2.fr c2 (fun t _ => pMor_out (by omega) _) (pMor_out (by omega) _), ?_, fun k' hk' => ?_⟩
      · show f_X2_copy_21 3000 (n + 1) i j (nI k) u = f_X2_copy_21 3000 n i j (nI (k + 1)) u1
        rw [E_X2_copy_21, p3, if_pos (by rw [nlt _ _ (by omega) (by omega)]; exact hk), if_pos (by rw [nltL _ _ (by omega) (by decide)]; omega), bIn _ _ (by omega), decide_eq_true (show k < 16 by omega), ck_tr, ck_tr, nI_clamp (by omega), c1, bnd_some, naddL]
      · rw [c2.2.1 _ rfl]; exact p3
      · by_cases c : k' = k
        · subst c
          exact c3 C _ h7 hs
        · exact (p4 k' (by omega)).fr c2 (fun t _ => pMor_out (by omega) _) (pMor_out (by omega) _))
    m 3000 0 w2 (by omega) (by omega) ⟨g2, e4, s2, fun k' hk' => absurd hk' (Nat.not_lt_zero _)⟩
  have y1 : f_X2_copy_21 3000 3000 i j 0 w2 = f_X2_copy_21 3000 (n1 + 1) i j (nI m) u := y1
  refine ⟨u, ?_, y2, m, m1, m2, y4, ⟨y3, r2⟩, fun k hk => ⟨y5 k hk, (r3 k hk).2⟩⟩
  rw [y1, E_X2_copy_21, y4, if_neg (by rw [nlt _ _ (by omega) (by omega)]; omega)]
/-! undo -/
theorem nowH_lt (w : MEM) {j : Nat} (h : j < 57) : nowH w j = fA w (1019, 842) j := if_pos h
theorem nowH_mid (w : MEM) {j : Nat} (h1 : 57 ≤ j) (h2 : j < 969) : nowH w j = fA w (1021, 842) (j - 57) := by
  unfold nowH
  rw [if_neg (by omega), if_pos h2]
theorem nowH_top (w : MEM) : nowH w 969 = rS w (11037, 842) := rfl
def pUn (a : LA) : Bool := pMor 9 a || (Nat.beq a.1 10202 && Nat.beq a.2 8) || Nat.beq a.1 10915 || Nat.beq a.1 11000 || Nat.beq a.1 11037 || Nat.beq a.1 11038 || Nat.beq a.1 1019
theorem pMor_pUn (a : LA) (h : pMor 9 a = true) : pUn a = true := by
  unfold pUn
  rw [h]
  simp
theorem pUn_out {j : Nat} (h : j ≠ 9) (t : Nat) (ht : t < 9) : pUn (401 + t, j) = false := by
  have e1 : Nat.beq (401 + t) 10202 = false := beq_ne (by omega)
  have e2 : Nat.beq (401 + t) 10915 = false := beq_ne (by omega)
  have e3 : Nat.beq (401 + t) 11000 = false := beq_ne (by omega)
  have e4 : Nat.beq (401 + t) 11037 = false := beq_ne (by omega)
  have e5 : Nat.beq (401 + t) 11038 = false := beq_ne (by omega)
  have e6 : Nat.beq (401 + t) 1019 = false := beq_ne (by omega)
  show (pMor 9 (401 + t, j) || (Nat.beq (401 + t) 10202 && Nat.beq j 8) || Nat.beq (401 + t) 10915 || Nat.beq (401 + t) 11000 || Nat.beq (401 + t) 11037 || Nat.beq (401 + t) 11038 || Nat.beq (401 + t) 1019) = false
  rw [pMor_out h, e1, e2, e3, e4, e5, e6]
  rfl
theorem pUn_outS {j : Nat} (h : j ≠ 9) : pUn (10409, j) = false := by
  show (pMor 9 (10409, j) || (Nat.beq 10409 10202 && Nat.beq j 8) || _ || _ || _ || _ || _) = false
  rw [pMor_out h]
  rfl
theorem CNT.fr {w w1 : MEM} {P : LA → Bool} (h : CNT w) (g : Fr P w w1) (h1 : P (10916, 0) = false) (h2 : P (10917, 0) = false) (h3 : P (1001, 842) = false) : CNT w1 := by
  unfold CNT
  rw [g.2.1 _ h1, g.2.1 _ h2, g.1 _ h3]
  exact h
def q842 (a : LA) : Bool := Nat.beq a.2 842
def p1019 (a : LA) : Bool := Nat.beq a.1 1019 && Nat.beq a.2 842
theorem p1019_q (a : LA) (h : p1019 a = true) : q842 a = true := (and_t h).2
theorem p1019_Un (a : LA) (h : p1019 a = true) : pUn a = true := by
  have := (and_t h).1
  unfold pUn
  rw [this]
  simp
theorem pUn_h {i : Nat} (h : i ≠ 8) : pUn (10202, i) = false := by
  show (pMor 9 (10202, i) || (true && Nat.beq i 8) || _ || _ || _ || _ || _) = false
  rw [beq_ne h]
  rfl
theorem S_undo {w : MEM} (hI : INV w) : SIMn (f_X9_undo 3000 0) (f_X10_undo 3000 842) w := by
  have h := hI
  obtain ⟨C, c, l, b, hr, hc, hk⟩ := h
  have hw := hc.1
  have h7 := hw.1
  obtain ⟨m, m1, m2, m3, m4, m5⟩ := hc.2.2.2.1
  have m2 : rS w (11037, 842) = nI m := m2
  by_cases c0 : m = 0
  · subst c0
    refine ⟨-1, w, m0 w, ?_, ?_, hI.fr (m0_fr w)⟩
    · rw [E_X9_undo, m3, if_neg (by decide)]
    · rw [E_X10_undo, lt_eq, m0_eq, (m0_fr w).2.1 (11037, 842) rfl, m2, if_pos (by decide)]
  -- the class
  have hsub : nI m - (1 : Int32) = nI (m - 1) := nI_sub m 1 (by omega)
  generalize hwa : sS w (10202, 8) (nI (m - 1)) = wa
  have ga : Fr pUn w wa := by
    rw [← hwa]
    exact Fr.S (a := (10202, 8)) (Fr.rf _ _) _ rfl
  have sa : rS wa (10202, 8) = nI (m - 1) := by rw [← hwa, rS_sS, if_pos rfl]
  have hma : MORN wa (8 + 12 + 10 * (m - 1)) C (fun j => nowH w (57 + 57 * (m - 1) + j)) := (m5 (m - 1) (by omega)).fr2 ga (fun t ht => pUn_out (by omega) t ht) (pUn_outS (by omega))
  obtain ⟨wb, b1, b2, b3⟩ := copy_C 3000 (i := 8 + 1) (j := 8 + 12 + 10 * (m - 1)) (by omega) wa
  have b3 := b3 C _ h7 hma.1
  have gb : Fr pUn w wb := ga.tr (b2.mono pMor_pUn)
  generalize hwc : sS wb (10915, 0) 0 = wc
  have gc : Fr pUn w wc := by
    rw [← hwc]
    exact Fr.S (a := (10915, 0)) gb _ rfl
  have sc : rS wc (10202, 8) = nI (m - 1) := by
    rw [← hwc, rS_sS, if_neg (by decide), b2.2.1 _ rfl]
    exact sa
  have rc : Rm wc 9 C (fun j => nowH w (57 + 57 * (m - 1) + j)) := by
    rw [← hwc]
    exact b3
  have s15 : rS wc (10915, 0) = 0 := by rw [← hwc, rS_sS, if_pos rfl]
  have hX : f_X9_undo 3000 0 w = some (nI (m - 1), wc) := by
    rw [E_X9_undo, m3, if_pos (by rw [nLlt _ _ (by omega) (by decide)]; omega), E_X2_takeBack, m3, if_pos (by rw [nLlt _ _ (by omega) (by decide)]; omega), lt_eq, hsub, hwa, sa, bIn _ _ (by omega), decide_eq_true (show m - 1 < 16 by omega), ck_tr, nI_clamp (by omega), b1, bnd_some, bnd_some, lt_eq, hwc, sc]
  -- the model
  have hm := hc.2.2.1
  generalize hwd : sS (m0 wc) (11037, 842) (nI (m - 1)) = wd
  have gd : Fr pUn w wd := by
    rw [← hwd]
    unfold m0
    exact Fr.S (a := (11037, 842)) (Fr.S (a := (11000, 842)) gc _ rfl) _ rfl
  have sd : rS wd (11037, 842) = nI (m - 1) := by rw [← hwd, rS_sS, if_pos rfl]
  have m2c : rS (m0 wc) (11037, 842) = nI m := by
    rw [(m0_fr wc).2.1 _ rfl, ← hwc, rS_sS, if_neg (by decide), b2.2.1 _ rfl, ← hwa, rS_sS, if_neg (by decide)]
    exact m2
  have p21 : fA wd (1021, 842) = fA w (1021, 842) := gd.1 _ rfl
  obtain ⟨we, n1, y1, y2, y3⟩ := for_rel (F := fun n x (u : MEM) => f_X10_undo_26 3000 n 842 x u) (N := 57) (fun k u => Fr p1019 wd u ∧ ∀ x < k, fA u (1019, 842) x = fA w (1021, 842) (57 * (m - 1) + x))
    (fun n k u hk p => by
      obtain ⟨p1, p2⟩ := p
      refine ⟨tA u (1019, 842) (upd (fA u (1019, 842)) k (fA w (1021, 842) (57 * (m - 1) + k))), ?_, Fr.A (a := (1019, 842)) p1 _ rfl, fun x hx => ?_⟩
      · show f_X10_undo_26 3000 (n + 1) 842 (nI k) u = _
        have e37 : rS u (11037, 842) = nI (m - 1) := (p1.2.1 _ rfl).trans sd
        have e21 : fA u (1021, 842) = fA w (1021, 842) := (p1.1 _ rfl).trans p21
        rw [E_X10_undo_26, if_pos (by rw [nltL _ _ (by omega) (by decide)]; exact hk), e37, nLmul, nI_add]
        have e57 : (OfNat.ofNat 57 : Nat) * (m - 1) + k = 57 * (m - 1) + k := rfl
        rw [e57, bIn _ _ (by omega), decide_eq_true (show 57 * (m - 1) + k < 912 by omega), ck_tr, bIn _ _ (by omega), decide_eq_true hk, ck_tr, rAn _ _ _ (by omega), e21, lt_eq, sAn _ _ _ _ (by omega), naddL]
      · rw [fA_tA, if_pos rfl, upd_eq]
        by_cases e : x = k
        · rw [if_pos e, e]
        · rw [if_neg e]
          exact p2 x (by omega))
    57 3000 0 wd (by omega) (by omega) ⟨Fr.rf _ _, fun x hx => absurd hx (Nat.not_lt_zero _)⟩
  have y1 : f_X10_undo_26 3000 3000 842 0 wd = f_X10_undo_26 3000 (n1 + 1) 842 (nI 57) we := y1
  have e37 : rS we (11037, 842) = nI (m - 1) := (y2.2.1 _ rfl).trans sd
  generalize hwf : sS we (11038, 842) 0 = wf
  have gcd : Fr q842 wc wd := by
    rw [← hwd]
    unfold m0
    exact Fr.S (a := (11037, 842)) (Fr.S (a := (11000, 842)) (Fr.rf _ _) _ rfl) _ rfl
  have gcf : Fr q842 wc wf := by
    rw [← hwf]
    exact Fr.S (a := (11038, 842)) (gcd.tr (y2.mono p1019_q)) _ rfl
  have gf : Fr pUn w wf := by
    rw [← hwf]
    exact Fr.S (a := (11038, 842)) (gd.tr (y2.mono p1019_Un)) _ rfl
  have z19 : ∀ x < 57, fA wf (1019, 842) x = fA w (1021, 842) (57 * (m - 1) + x) := by
    rw [← hwf]
    exact y3
  have z37 : rS wf (11037, 842) = nI (m - 1) := by
    rw [← hwf, rS_sS, if_neg (by decide)]
    exact e37
  have z38 : rS wf (11038, 842) = 0 := by rw [← hwf, rS_sS, if_pos rfl]
  have hM : f_X10_undo 3000 842 wc = some (nI (m - 1), wf) := by
    rw [E_X10_undo, lt_eq, m0_eq, m2c, if_neg (nI_ne0 (by omega) (by omega)), lt_eq, hsub, hwd, y1, E_X10_undo_26, if_neg (by decide), lt_eq, hwf, z37]
  have H21 : ∀ k, k < m → ∀ j < 57, nowH wf (57 + 57 * k + j) = nowH w (57 + 57 * k + j) := by
    intro k hk j hj
    rw [nowH_mid _ (by omega) (by omega), nowH_mid _ (by omega) (by omega), gf.1 _ rfl]
  refine ⟨nI (m - 1), wc, wf, hX, hM, C, c, l, b, hr.fr gf, ?_, hk.fr gf rfl rfl rfl⟩
  refine hc.re gf ⟨rfl, rfl, rfl, rfl, rfl, rfl, rfl, rfl, rfl, rfl, rfl, rfl, rfl⟩ ⟨rfl, rfl, rfl, rfl, rfl, rfl, rfl, rfl, rfl, rfl⟩ ⟨rfl, rfl, rfl, rfl, rfl, rfl, rfl, rfl, rfl, rfl⟩ ?_ ?_ ?_
  · refine ⟨m - 1, by omega, by rw [nowH_top]; exact z37, (gcf.2.1 _ rfl).trans sc, ?_, fun k hk => ?_⟩
    · have q1 : MORN wf 9 C (fun j => nowH w (57 + 57 * (m - 1) + j)) := ⟨rc.fr gcf (fun t ht => rfl) rfl, hma.2⟩
      refine q1.ext h7 (fun j hj => ?_)
      rw [nowH_lt _ hj, z19 j hj, nowH_mid _ (by omega) (by omega), show 57 + 57 * (m - 1) + j - 57 = 57 * (m - 1) + j by omega]
    · exact ((m5 k (by omega)).fr2 gf (fun t ht => pUn_out (by omega) t ht) (pUn_outS (by omega))).ext h7 (fun j hj => (H21 k (by omega) j hj).symm)
  · obtain ⟨n, a1, a2, a3, a4⟩ := hc.2.2.2.2.1
    refine ⟨n, a1, (gf.2.1 _ rfl).trans a2, (gf.2.1 _ rfl).trans a3, fun q hq => ?_⟩
    rw [gf.1 (1028, 842) rfl]
    exact (a4 q hq).fr2 gf (fun j h1 h2 => ⟨fun t ht => pUn_out (by omega) t ht, pUn_outS (by omega)⟩) (pUn_h (by omega))
  · rw [z38]
    exact (gcf.2.1 _ rfl).trans s15
