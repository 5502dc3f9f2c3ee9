/-! images -/
def p1028 (a : LA) : Bool := Nat.beq a.1 1028 && Nat.beq a.2 842
theorem ks_M {u : MEM} {q N : Nat} {a : LA} (ha : N ≤ aN a.1) (hne : a ≠ (1028, 842)) (hq : q + N ≤ 2910) (hN : N ≤ 2000) : ∃ v, f_X10_keepsRow 3000 842 (nI q) a (nI N) 1 u = some (nI (q + N), v) ∧ Fr p1028 u v ∧ ∀ x, fA v (1028, 842) x = if q ≤ x ∧ x < q + N then fA u a (x - q) else fA u (1028, 842) x := by
  rw [E_X10_keepsRow]
  obtain ⟨v, n1, e1, e2, e3⟩ := for_rel (F := fun n x (v : MEM) => f_X10_keepsRow_3 3000 n 842 (nI q) a (nI N) 1 x v) (N := N) (fun k v => Fr p1028 u v ∧ ∀ x, fA v (1028, 842) x = if q ≤ x ∧ x < q + k then fA u a (x - q) else fA u (1028, 842) x)
    (fun n k v hk p => by
      obtain ⟨p1, p2⟩ := p
      have hpa : p1028 a = false := by
        obtain ⟨t, i⟩ := a
        show (Nat.beq t 1028 && Nat.beq i 842) = false
        by_cases c : t = 1028
        · have : i ≠ 842 := fun e => hne (by rw [c, e])
          rw [beq_ne this, Bool.and_false]
        · rw [beq_ne c]; rfl
      have ea : fA v a = fA u a := p1.1 a hpa
      refine ⟨tA v (1028, 842) (upd (fA v (1028, 842)) (q + k) (fA u a k)), ?_, Fr.A (a := (1028, 842)) p1 _ rfl, fun x => ?_⟩
      · show f_X10_keepsRow_3 3000 (n + 1) 842 (nI q) a (nI N) 1 (nI k) v = _
        rw [E_X10_keepsRow_3, if_pos (by rw [nlt _ _ (by omega) (by omega)]; exact hk), if_neg (by decide), bIn _ _ (by omega), decide_eq_true (show k < aN a.1 by omega), ck_tr, nI_add, bIn _ _ (by omega), decide_eq_true (show q + k < 2910 by omega), ck_tr, rAn _ _ _ (by omega), ea, lt_eq, sAn _ _ _ _ (by omega), naddL]
      · rw [fA_tA, if_pos rfl, upd_eq, p2]
        by_cases c : x = q + k
        · rw [if_pos c, if_pos (by omega), c, Nat.add_sub_cancel_left]
        · rw [if_neg c]
          by_cases c2 : q ≤ x ∧ x < q + k
          · rw [if_pos c2, if_pos (by omega)]
          · rw [if_neg c2, if_neg (by omega)])
    N 3000 0 u (by omega) (by omega) ⟨Fr.rf _ _, fun x => by rw [if_neg (by omega)]⟩
  have e1 : f_X10_keepsRow_3 3000 3000 842 (nI q) a (nI N) 1 0 u = f_X10_keepsRow_3 3000 (n1 + 1) 842 (nI q) a (nI N) 1 (nI N) v := e1
  refine ⟨v, ?_, e2, e3⟩
  rw [e1, E_X10_keepsRow_3, if_neg (by rw [nlt _ _ (by omega) (by omega)]; omega), nI_add]
def pEq (a : LA) : LA → Bool := fun b => Nat.beq b.1 a.1 && Nat.beq b.2 a.2
theorem pEq_at (a : LA) : pEq a a = true := by
  unfold pEq
  rw [Nat.beq_refl, Nat.beq_refl]
  rfl
theorem kl_M {u : MEM} {q N : Nat} {a : LA} (ha : N ≤ aN a.1) (hp : pEq a (1028, 842) = false) (hq : q + N ≤ 2910) (hN : N ≤ 2000) : ∃ v, f_X10_keepsRow 3000 842 (nI q) a (nI N) 0 u = some (nI (q + N), v) ∧ Fr (pEq a) u v ∧ ∀ x < N, fA v a x = fA u (1028, 842) (q + x) := by
  rw [E_X10_keepsRow]
  obtain ⟨v, n1, e1, e2, e3⟩ := for_rel (F := fun n x (v : MEM) => f_X10_keepsRow_3 3000 n 842 (nI q) a (nI N) 0 x v) (N := N) (fun k v => Fr (pEq a) u v ∧ ∀ x < k, fA v a x = fA u (1028, 842) (q + x))
    (fun n k v hk p => by
      obtain ⟨p1, p2⟩ := p
      have ea : fA v (1028, 842) = fA u (1028, 842) := p1.1 _ hp
      refine ⟨tA v a (upd (fA v a) k (fA u (1028, 842) (q + k))), ?_, Fr.A (a := a) p1 _ (pEq_at a), fun x hx => ?_⟩
      · show f_X10_keepsRow_3 3000 (n + 1) 842 (nI q) a (nI N) 0 (nI k) v = _
        rw [E_X10_keepsRow_3, if_pos (by rw [nlt _ _ (by omega) (by omega)]; exact hk), if_pos rfl, nI_add, bIn _ _ (by omega), decide_eq_true (show q + k < 2910 by omega), ck_tr, bIn _ _ (by omega), decide_eq_true (show k < aN a.1 by omega), ck_tr, rAn _ _ _ (by omega), ea, lt_eq, sAn _ _ _ _ (by omega), naddL]
      · rw [fA_tA, if_pos rfl, upd_eq]
        by_cases c : x = k
        · rw [if_pos c, c]
        · rw [if_neg c]
          exact p2 x (by omega))
    N 3000 0 u (by omega) (by omega) ⟨Fr.rf _ _, fun x hx => absurd hx (Nat.not_lt_zero _)⟩
  have e1 : f_X10_keepsRow_3 3000 3000 842 (nI q) a (nI N) 0 0 u = f_X10_keepsRow_3 3000 (n1 + 1) 842 (nI q) a (nI N) 0 (nI N) v := e1
  refine ⟨v, ?_, e2, e3⟩
  rw [e1, E_X10_keepsRow_3, if_neg (by rw [nlt _ _ (by omega) (by omega)]; omega), nI_add]
def imT (t : Nat) : Bool := match t with
  | 10914 => true
  | 10915 => true
  | 11000 => true
  | 11054 => true
  | 11037 => true
  | 11038 => true
  | 1019 => true
  | 1021 => true
  | 1028 => true
  | _ => false
def pIm (i : Nat) (a : LA) : Bool := pHi i a || imT a.1
theorem pHi_pIm (i : Nat) (a : LA) (h : pHi i a = true) : pIm i a = true := by
  unfold pIm
  rw [h, Bool.true_or]
theorem pIm_out {i j : Nat} (h : j < i + 1 ∨ i + 162 < j) (t : Nat) (ht : t < 9) : pIm i (401 + t, j) = false := by
  have : ∀ t < 9, imT (401 + t) = false := by decide
  show (pHi i (401 + t, j) || imT (401 + t)) = false
  rw [pHi_out h t ht, this t ht]
  rfl
theorem pIm_outS {i j : Nat} (h : j < i + 1 ∨ i + 162 < j) : pIm i (10409, j) = false := by
  show (pHi i (10409, j) || imT 10409) = false
  rw [pHi_outS h]
  rfl
theorem pIm_h {i j : Nat} (h : j ≠ i) : pIm i (10202, j) = false := by
  show (((morT 10202 && _) || (Nat.beq 10202 10202 && Nat.beq j i)) || imT 10202) = false
  rw [beq_ne h]
  rfl
theorem nH_ext {w u : MEM} (h1 : fA u (1019, 842) = fA w (1019, 842)) (h2 : fA u (1021, 842) = fA w (1021, 842)) (h3 : rS u (11037, 842) = rS w (11037, 842)) : nowH u = nowH w := by
  unfold nowH
  rw [h1, h2, h3]
theorem S_image {w : MEM} (hI : INV w) : SIMn (f_X9_image 3000 0) (f_X10_image 3000 842) w := by
  have h := hI
  obtain ⟨C, c, l, b, hr, hc, hk⟩ := h
  have hw := hc.1
  have h7 := hw.1
  obtain ⟨n, a1, a2, a3, a4⟩ := hc.2.2.2.2.1
  have hH := hc.2.2.2.1
  obtain ⟨m, m1, m2, m3, m4, m5⟩ := hH
  have m2 : rS w (11037, 842) = nI m := m2
  by_cases c0 : n = 3
  · subst c0
    refine ⟨-1, w, m0 w, ?_, ?_, hI.fr (m0_fr w)⟩
    · rw [E_X9_image, a2, if_neg (by decide)]
    · rw [E_X10_image, lt_eq, m0_eq, (m0_fr w).2.1 (11054, 842) rfl, a3, if_pos (by decide)]
  obtain ⟨w1, e1, e2, e3⟩ := copyH_C (i := 326 + 172 * n) (j := 8) h7 (by omega) hc.2.2.2.1
  generalize hwc : sS w1 (10914, 0) (nI (n + 1)) = wc
  have g1 : Fr (pIm (326 + 172 * n)) w w1 := e2.mono (pHi_pIm _)
  have gc : Fr (pIm (326 + 172 * n)) w wc := by
    rw [← hwc]
    exact Fr.S (a := (10914, 0)) g1 _ (by unfold pIm; exact Bool.or_true _)
  have n1 : rS w1 (10914, 0) = nI n := (e2.2.1 _ rfl).trans a2
  have nc : rS wc (10914, 0) = nI (n + 1) := by rw [← hwc, rS_sS, if_pos rfl]
  have Hc : HIST wc (326 + 172 * n) C (nowH w) := by
    rw [← hwc]
    exact e3
  have hX : f_X9_image 3000 0 w = some (nI (n + 1), wc) := by
    rw [E_X9_image, a2, if_pos (by rw [nltL _ _ (by omega) (by decide)]; omega), bIn _ _ (by omega), decide_eq_true (show n < 3 by omega), ck_tr, nI_clamp (by omega), e1, bnd_some, n1, nI_1, lt_eq, hwc, nc]
  -- the model
  have k54 : rS (m0 wc) (11054, 842) = nI n := by
    rw [(m0_fr wc).2.1 _ rfl, ← hwc, rS_sS, if_neg (by decide), e2.2.1 _ rfl]
    exact a3
  have c19 : fA (m0 wc) (1019, 842) = fA w (1019, 842) := by
    rw [(m0_fr wc).1 _ rfl, ← hwc]
    exact e2.1 _ rfl
  have c21 : fA (m0 wc) (1021, 842) = fA w (1021, 842) := by
    rw [(m0_fr wc).1 _ rfl, ← hwc]
    exact e2.1 _ rfl
  have c28 : fA (m0 wc) (1028, 842) = fA w (1028, 842) := by
    rw [(m0_fr wc).1 _ rfl, ← hwc]
    exact e2.1 _ rfl
  have c37 : rS (m0 wc) (11037, 842) = nI m := by
    rw [(m0_fr wc).2.1 _ rfl, ← hwc, rS_sS, if_neg (by decide), e2.2.1 _ rfl]
    exact m2
  have gcm : Fr q842 wc (m0 wc) := by
    unfold m0
    exact Fr.S (a := (11000, 842)) (Fr.rf _ _) _ rfl
  obtain ⟨u1, s1, s2, s3⟩ := ks_M (u := m0 wc) (q := 970 * n) (N := 57) (a := (1019, 842)) (by decide) (by decide) (by omega) (by omega)
  obtain ⟨u2, t1, t2, t3⟩ := ks_M (u := u1) (q := 970 * n + 57) (N := 912) (a := (1021, 842)) (by decide) (by decide) (by omega) (by omega)
  have d37 : rS u2 (11037, 842) = nI m := by
    rw [t2.2.1 _ rfl, s2.2.1 _ rfl]
    exact c37
  generalize hu3 : tA u2 (1028, 842) (upd (fA u2 (1028, 842)) (970 * n + 969) (nI m)) = u3
  have g3 : Fr p1028 (m0 wc) u3 := by
    rw [← hu3]
    exact Fr.A (a := (1028, 842)) (s2.tr t2) _ rfl
  have f28 : ∀ x, fA u3 (1028, 842) x = if 970 * n ≤ x ∧ x < 970 * n + 970 then nowH w (x - 970 * n) else fA w (1028, 842) x := by
    intro x
    rw [← hu3, fA_tA, if_pos rfl, upd_eq]
    by_cases d1 : x = 970 * n + 969
    · rw [if_pos d1, if_pos (by omega), d1, Nat.add_sub_cancel_left, nowH_top]
      exact m2.symm
    · rw [if_neg d1, t3, s2.1 _ rfl, c21, s3, c19, c28]
      by_cases d2 : 970 * n + 57 ≤ x ∧ x < 970 * n + 57 + 912
      · rw [if_pos d2, if_pos (by omega), nowH_mid _ (by omega) (by omega), show x - 970 * n - 57 = x - (970 * n + 57) by omega]
      · rw [if_neg d2]
        by_cases d3 : 970 * n ≤ x ∧ x < 970 * n + 57
        · rw [if_pos d3, if_pos (by omega), nowH_lt _ (by omega)]
        · rw [if_neg d3, if_neg (by omega)]
  have e54 : rS u3 (11054, 842) = nI n := (g3.2.1 _ rfl).trans k54
  generalize hwf : sS u3 (11054, 842) (nI (n + 1)) = wf
  have gf : Fr q842 wc wf := by
    rw [← hwf]
    exact Fr.S (a := (11054, 842)) (gcm.tr (g3.mono (fun a h => (and_t h).2))) _ rfl
  have f54 : rS wf (11054, 842) = nI (n + 1) := by rw [← hwf, rS_sS, if_pos rfl]
  have f28 : ∀ x, fA wf (1028, 842) x = if 970 * n ≤ x ∧ x < 970 * n + 970 then nowH w (x - 970 * n) else fA w (1028, 842) x := by
    rw [← hwf]
    exact f28
  have hM : f_X10_image 3000 842 wc = some (nI (n + 1), wf) := by
    have k970 : (970 : Int32) * nI n = nI (970 * n) := nI_mul 970 n
    have s1 : f_X10_keepsRow 3000 842 (nI (970 * n)) (1019, 842) (57 : Int32) 1 (m0 wc) = some (nI (970 * n + 57), u1) := s1
    have t1 : f_X10_keepsRow 3000 842 (nI (970 * n + 57)) (1021, 842) (912 : Int32) 1 u1 = some (nI (970 * n + 57 + 912), u2) := t1
    rw [E_X10_image, lt_eq, m0_eq, k54, if_neg (by rw [neqL _ _ (by omega) (by decide)]; exact c0), E_X10_keepsAll, k970, s1, bnd_some, t1, bnd_some, if_neg (by decide), show 970 * n + 57 + 912 = 970 * n + 969 by omega, bIn _ _ (by omega), decide_eq_true (show 970 * n + 969 < 2910 by omega), ck_tr, d37, lt_eq, sAn _ _ _ _ (by omega), hu3, bnd_some, e54, nI_1, lt_eq, hwf, f54]
  have gt : Fr (pIm (326 + 172 * n)) w wf := by
    refine gc.tr ?_
    rw [← hwf]
    refine Fr.S (a := (11054, 842)) (Fr.tr (w1 := m0 wc) ?_ (g3.mono (fun a h => ?_))) _ (by unfold pIm; exact Bool.or_true _)
    · unfold m0
      exact Fr.S (a := (11000, 842)) (Fr.rf _ _) _ (by unfold pIm; exact Bool.or_true _)
    · obtain ⟨t, i⟩ := a
      have e := Nat.eq_of_beq_eq_true (and_t (a := Nat.beq t 1028) h).1
      have e : t = 1028 := e
      subst e
      unfold pIm
      exact Bool.or_true _
  have hn : nowH wf = nowH w := by
    refine nH_ext ?_ ?_ ?_
    · rw [← hwf]
      exact (g3.1 _ rfl).trans c19
    · rw [← hwf]
      exact (g3.1 _ rfl).trans c21
    · rw [← hwf, rS_sS, if_neg (by decide), g3.2.1 _ rfl, c37, m2]
  have out : ∀ j, (j < 326 + 172 * n + 1 ∨ 326 + 172 * n + 162 < j) → (∀ t < 9, pIm (326 + 172 * n) (401 + t, j) = false) ∧ pIm (326 + 172 * n) (10409, j) = false := fun j hj => ⟨fun t ht => pIm_out hj t ht, pIm_outS hj⟩
  refine ⟨nI (n + 1), wc, wf, hX, hM, C, c, l, b, hr.fr gt, ?_, hk.fr gt rfl rfl rfl⟩
  refine hc.re gt ⟨rfl, rfl, rfl, rfl, rfl, rfl, rfl, rfl, rfl, rfl, rfl, rfl, rfl⟩ ⟨rfl, rfl, rfl, rfl, rfl, rfl, rfl, rfl, rfl, rfl⟩ ⟨rfl, rfl, rfl, rfl, rfl, rfl, rfl, rfl, rfl, rfl⟩ ?_ ?_ ?_
  · rw [hn]
    exact hc.2.2.2.1.fr2 gt (fun j h1 h2 => out j (by omega)) (pIm_h (by omega))
  · refine ⟨n + 1, by omega, (gf.2.1 _ rfl).trans nc, f54, fun q hq => ?_⟩
    by_cases cq : q = n
    · subst cq
      have : HIST wf (326 + 172 * q) C (nowH w) := Hc.fr2 gf (fun j h1 h2 => ⟨fun t ht => beq_ne (show j ≠ 842 by omega), beq_ne (show j ≠ 842 by omega)⟩) (beq_ne (show 326 + 172 * q ≠ 842 by omega))
      refine this.ext h7 (fun j hj => ?_)
      rw [f28, if_pos (by omega), Nat.add_sub_cancel_left]
    · have : HIST wf (326 + 172 * q) C (fun j => fA w (1028, 842) (970 * q + j)) := (a4 q (by omega)).fr2 gt (fun j h1 h2 => out j (by omega)) (pIm_h (by omega))
      refine this.ext h7 (fun j hj => ?_)
      rw [f28, if_neg (by omega)]
  · have q1 : rS wf (10915, 0) = rS w (10915, 0) := by
      rw [gf.2.1 _ rfl, ← hwc, rS_sS, if_neg (by decide)]
      exact e2.2.1 _ rfl
    have q2 : rS wf (11038, 842) = rS w (11038, 842) := by
      rw [← hwf, rS_sS, if_neg (by decide), g3.2.1 _ rfl, (m0_fr wc).2.1 (11038, 842) rfl, ← hwc, rS_sS, if_neg (by decide)]
      exact e2.2.1 _ rfl
    rw [q1, q2]
    exact hc.2.2.2.2.2.2.2.1
theorem S_restore {w : MEM} (hI : INV w) : SIMn (f_X9_restore 3000 0) (f_X10_restore 3000 842) w := by
  have h := hI
  obtain ⟨C, c, l, b, hr, hc, hk⟩ := h
  have hw := hc.1
  have h7 := hw.1
  obtain ⟨n, a1, a2, a3, a4⟩ := hc.2.2.2.2.1
  by_cases c0 : n = 0
  · subst c0
    refine ⟨-1, w, m0 w, ?_, ?_, hI.fr (m0_fr w)⟩
    · rw [E_X9_restore, a2, if_neg (by decide)]
    · rw [E_X10_restore, lt_eq, m0_eq, (m0_fr w).2.1 (11054, 842) rfl, a3, if_pos (by decide)]
  obtain ⟨n, rfl⟩ : ∃ n', n = n' + 1 := ⟨n - 1, by omega⟩
  have hsub : nI (n + 1) - (1 : Int32) = nI n := (nI_sub (n + 1) 1 (by omega)).trans (by rw [Nat.add_sub_cancel])
  generalize hwa : sS w (10914, 0) (nI n) = wa
  have ga : Fr (pIm 8) w wa := by
    rw [← hwa]
    exact Fr.S (a := (10914, 0)) (Fr.rf _ _) _ (by unfold pIm; exact Bool.or_true _)
  have sa : rS wa (10914, 0) = nI n := by rw [← hwa, rS_sS, if_pos rfl]
  have Ha : HIST wa (326 + 172 * n) C (fun j => fA w (1028, 842) (970 * n + j)) := (a4 n (by omega)).fr2 ga (fun j h1 h2 => ⟨fun t ht => pIm_out (by omega) t ht, pIm_outS (by omega)⟩) (pIm_h (by omega))
  obtain ⟨w1, e1, e2, e3⟩ := copyH_C (i := 8) (j := 326 + 172 * n) h7 (by omega) Ha
  generalize hwc : sS w1 (10915, 0) 0 = wc
  have gc : Fr (pIm 8) w wc := by
    rw [← hwc]
    exact Fr.S (a := (10915, 0)) (ga.tr (e2.mono (pHi_pIm _))) _ (by unfold pIm; exact Bool.or_true _)
  have nc : rS wc (10914, 0) = nI n := by
    rw [← hwc, rS_sS, if_neg (by decide), e2.2.1 _ rfl]
    exact sa
  have Hc : HIST wc 8 C (fun j => fA w (1028, 842) (970 * n + j)) := by
    rw [← hwc]
    exact e3
  have s15 : rS wc (10915, 0) = 0 := by rw [← hwc, rS_sS, if_pos rfl]
  have hX : f_X9_restore 3000 0 w = some (nI n, wc) := by
    rw [E_X9_restore, a2, if_pos (by rw [nLlt _ _ (by omega) (by decide)]; omega), hsub, lt_eq, hwa, sa, bIn _ _ (by omega), decide_eq_true (show n < 3 by omega), ck_tr, nI_clamp (by omega), e1, bnd_some, lt_eq, hwc, nc]
  have cS : ∀ a : LA, a.2 = 842 → rS wc a = rS w a := by
    intro a ha
    obtain ⟨t, i⟩ := a
    have ha : i = 842 := ha
    subst ha
    rw [← hwc, rS_sS, if_neg (by intro e; injection e with e1 e2; omega)]
    have : pHi 8 (t, 842) = false := by
      show ((morT t && (Nat.ble (8 + 1) 842 && false)) || (Nat.beq t 10202 && false)) = false
      rw [Bool.and_false, Bool.and_false]
      rw [Bool.and_false]
      rfl
    rw [e2.2.1 _ this, ← hwa, rS_sS, if_neg (by intro e; injection e with e1 e2; omega)]
  have cA : ∀ a : LA, a.2 = 842 → fA wc a = fA w a := by
    intro a ha
    obtain ⟨t, i⟩ := a
    have ha : i = 842 := ha
    subst ha
    have : pHi 8 (t, 842) = false := by
      show ((morT t && (Nat.ble (8 + 1) 842 && false)) || (Nat.beq t 10202 && false)) = false
      rw [Bool.and_false, Bool.and_false]
      rw [Bool.and_false]
      rfl
    rw [← hwc, ← hwa] at *
    exact (e2.1 _ this)
  -- the model
  generalize hwd : sS (m0 wc) (11054, 842) (nI n) = wd
  have gd : Fr q842 wc wd := by
    rw [← hwd]
    unfold m0
    exact Fr.S (a := (11054, 842)) (Fr.S (a := (11000, 842)) (Fr.rf _ _) _ rfl) _ rfl
  have gd2 : Fr (pIm 8) w wd := by
    refine gc.tr ?_
    rw [← hwd]
    unfold m0
    exact Fr.S (a := (11054, 842)) (Fr.S (a := (11000, 842)) (Fr.rf _ _) _ (by unfold pIm; exact Bool.or_true _)) _ (by unfold pIm; exact Bool.or_true _)
  have k54 : rS (m0 wc) (11054, 842) = nI (n + 1) := ((m0_fr wc).2.1 _ rfl).trans ((cS _ rfl).trans a3)
  have d54 : rS wd (11054, 842) = nI n := by rw [← hwd, rS_sS, if_pos rfl]
  have d28 : fA wd (1028, 842) = fA w (1028, 842) := by
    rw [← hwd]
    exact cA _ rfl
  obtain ⟨u1, s1, s2, s3⟩ := kl_M (u := wd) (q := 970 * n) (N := 57) (a := (1019, 842)) (by decide) (by decide) (by omega) (by omega)
  obtain ⟨u2, t1, t2, t3⟩ := kl_M (u := u1) (q := 970 * n + 57) (N := 912) (a := (1021, 842)) (by decide) (by decide) (by omega) (by omega)
  have f28 : fA u2 (1028, 842) = fA w (1028, 842) := by
    rw [t2.1 _ rfl, s2.1 _ rfl]
    exact d28
  generalize hu3 : sS (sS u2 (11037, 842) (fA w (1028, 842) (970 * n + 969))) (11038, 842) 0 = u3
  have g3 : Fr q842 wc u3 := by
    rw [← hu3]
    refine Fr.S (a := (11038, 842)) (Fr.S (a := (11037, 842)) ?_ _ rfl) _ rfl
    exact (gd.tr (s2.mono (fun a h => (and_t h).2))).tr (t2.mono (fun a h => (and_t h).2))
  have g4 : Fr (pIm 8) w u3 := by
    rw [← hu3]
    refine Fr.S (a := (11038, 842)) (Fr.S (a := (11037, 842)) ?_ _ (by unfold pIm; exact Bool.or_true _)) _ (by unfold pIm; exact Bool.or_true _)
    refine (gd2.tr (s2.mono (fun a h => ?_))).tr (t2.mono (fun a h => ?_))
    · obtain ⟨t, i⟩ := a
      have e : t = 1019 := Nat.eq_of_beq_eq_true (and_t (a := Nat.beq t 1019) h).1
      subst e
      unfold pIm
      exact Bool.or_true _
    · obtain ⟨t, i⟩ := a
      have e : t = 1021 := Nat.eq_of_beq_eq_true (and_t (a := Nat.beq t 1021) h).1
      subst e
      unfold pIm
      exact Bool.or_true _
  have f54 : rS u3 (11054, 842) = nI n := by
    rw [← hu3, rS_sS, if_neg (by decide), rS_sS, if_neg (by decide), t2.2.1 _ rfl, s2.2.1 _ rfl]
    exact d54
  have f37 : rS u3 (11037, 842) = fA w (1028, 842) (970 * n + 969) := by rw [← hu3, rS_sS, if_neg (by decide), rS_sS, if_pos rfl]
  have f38 : rS u3 (11038, 842) = 0 := by rw [← hu3, rS_sS, if_pos rfl]
  have f19 : ∀ x < 57, fA u3 (1019, 842) x = fA w (1028, 842) (970 * n + x) := by
    intro x hx
    have e : fA u3 (1019, 842) = fA u1 (1019, 842) := by
      rw [← hu3]
      exact t2.1 _ rfl
    rw [e, s3 x hx, d28]
  have f21 : ∀ x < 912, fA u3 (1021, 842) x = fA w (1028, 842) (970 * n + 57 + x) := by
    intro x hx
    have e : fA u3 (1021, 842) = fA u2 (1021, 842) := by rw [← hu3]; rfl
    rw [e, t3 x hx, s2.1 _ rfl, d28]
  have hM : f_X10_restore 3000 842 wc = some (nI n, u3) := by
    have k970 : (970 : Int32) * nI n = nI (970 * n) := nI_mul 970 n
    have s1 : f_X10_keepsRow 3000 842 (nI (970 * n)) (1019, 842) (57 : Int32) 0 wd = some (nI (970 * n + 57), u1) := s1
    have t1 : f_X10_keepsRow 3000 842 (nI (970 * n + 57)) (1021, 842) (912 : Int32) 0 u1 = some (nI (970 * n + 57 + 912), u2) := t1
    rw [E_X10_restore, lt_eq, m0_eq, k54, if_neg (nI_ne0 (by omega) (by omega)), hsub, lt_eq, hwd, d54, E_X10_keepsAll, k970, s1, bnd_some, t1, bnd_some, if_pos rfl, show 970 * n + 57 + 912 = 970 * n + 969 by omega, bIn _ _ (by omega), decide_eq_true (show 970 * n + 969 < 2910 by omega), ck_tr, rAn _ _ _ (by omega), f28, lt_eq, bnd_some, lt_eq, hu3, f54]
  have hn : ∀ j < 970, fA w (1028, 842) (970 * n + j) = nowH u3 j := by
    intro j hj
    by_cases d1 : j < 57
    · rw [nowH_lt _ d1, f19 j d1]
    · by_cases d2 : j < 969
      · rw [nowH_mid _ (by omega) d2, f21 _ (by omega), show 970 * n + 57 + (j - 57) = 970 * n + j by omega]
      · have : j = 969 := by omega
        subst this
        rw [nowH_top, f37]
  refine ⟨nI n, wc, u3, hX, hM, C, c, l, b, hr.fr g4, ?_, hk.fr g4 rfl rfl rfl⟩
  refine hc.re g4 ⟨rfl, rfl, rfl, rfl, rfl, rfl, rfl, rfl, rfl, rfl, rfl, rfl, rfl⟩ ⟨rfl, rfl, rfl, rfl, rfl, rfl, rfl, rfl, rfl, rfl⟩ ⟨rfl, rfl, rfl, rfl, rfl, rfl, rfl, rfl, rfl, rfl⟩ ?_ ?_ ?_
  · have : HIST u3 8 C (fun j => fA w (1028, 842) (970 * n + j)) := Hc.fr2 g3 (fun j h1 h2 => ⟨fun t ht => beq_ne (show j ≠ 842 by omega), beq_ne (show j ≠ 842 by omega)⟩) rfl
    exact this.ext h7 hn
  · refine ⟨n, by omega, (g3.2.1 _ rfl).trans nc, f54, fun q hq => ?_⟩
    have e28 : fA u3 (1028, 842) = fA w (1028, 842) := by rw [← hu3]; exact f28
    rw [e28]
    exact (a4 q (by omega)).fr2 g4 (fun j h1 h2 => ⟨fun t ht => pIm_out (by omega) t ht, pIm_outS (by omega)⟩) (pIm_h (by omega))
  · rw [f38]
    exact (g3.2.1 _ rfl).trans s15
