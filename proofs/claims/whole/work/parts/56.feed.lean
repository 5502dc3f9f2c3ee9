/-! feed -/
def bt (a : Int32) (i : Nat) : Nat := (a >>> (((24 : Int32) - 8 * nI i) &&& 31)).toBitVec.toNat % 2 ^ 8
theorem bt_lt (a : Int32) (i : Nat) : bt a i < 256 := Nat.mod_lt _ (by decide)
theorem bt_M (a : Int32) (i : Nat) : (a >>> (((24 : Int32) - 8 * nI i) &&& 31)) &&& (255 : Int32) = nI (bt a i) := pk_and _ 8 rfl
theorem to8 (x : Int32) : x.toInt8.toInt32 = sb_b (x.toBitVec.toNat % 2 ^ 8) := by
  unfold sb_b
  congr 1
  apply Int8.toBitVec_inj.mp
  rw [Int32.toBitVec_toInt8, Int32.toBitVec_toInt8, BitVec.signExtend_eq_setWidth_of_le _ (by decide), BitVec.signExtend_eq_setWidth_of_le _ (by decide)]
  apply BitVec.eq_of_toNat_eq
  show (BitVec.setWidth 8 x.toBitVec).toNat = (BitVec.setWidth 8 (BitVec.ofNat 32 (x.toBitVec.toNat % 2 ^ 8))).toNat
  rw [BitVec.toNat_setWidth, BitVec.toNat_setWidth, BitVec.toNat_ofNat]
  have := Nat.mod_lt x.toBitVec.toNat (show 0 < 2 ^ 8 by decide)
  omega
theorem nar8 : ∀ m < 256, vp_nar .byte (sb_b m) = sb_b m := by decide +kernel
def pAp (a : LA) : Bool := (Nat.beq a.1 801 || Nat.beq a.1 10801) && Nat.beq a.2 1
theorem append_ok {a : Int32} {f : Nat} {w : MEM} (hf : f + 4 ≤ 600) (h : rS w (10801, 1) = nI f) : ∃ w1, f_X8_append 3000 1 a w = some ((), w1) ∧ rS w1 (10801, 1) = nI (f + 4) ∧ Fr pAp w w1 ∧ ∀ k, fA w1 (801, 1) k = if f ≤ k ∧ k < f + 4 then sb_b (bt a (k - f)) else fA w (801, 1) k := by
  have step : ∀ i, i < 4 → ∀ n (w : MEM) (f : Nat), f < 600 → rS w (10801, 1) = nI f → f_X8_append_3 3000 (n + 1) 1 a ((24 : Int32) - 8 * nI i) w = f_X8_append_3 3000 n 1 a ((24 : Int32) - 8 * nI (i + 1)) (sS (tA w (801, 1) (upd (fA w (801, 1)) f (sb_b (bt a i)))) (10801, 1) (nI (f + 1))) := by
    intro i hi n w f hf h
    have e1 : ∀ i < 4, ¬ ((24 : Int32) - 8 * nI i < 0) := by decide
    have e2 : ∀ i < 4, (24 : Int32) - 8 * nI i + (-8) = 24 - 8 * nI (i + 1) := by decide
    have e3 : vp_nar .byte ((a >>> (((24 : Int32) - 8 * nI i) &&& 31)).toInt8.toInt32) = sb_b (bt a i) := by
      rw [to8]
      exact nar8 _ (bt_lt a i)
    rw [E_X8_append_3, if_neg (e1 i hi), h, if_pos (by rw [nlt _ _ (by omega) (by omega)]; exact hf), bIn _ _ (by omega), decide_eq_true hf, ck_tr, e3, lt_eq, sAn _ _ _ _ (by omega), rS_tA, h, lt_eq, naddL, e2 i hi]
  have key : ∀ m i n (w1 : MEM), i + m = 4 → m < n → rS w1 (10801, 1) = nI (f + i) → Fr pAp w w1 → (∀ k, fA w1 (801, 1) k = if f ≤ k ∧ k < f + i then sb_b (bt a (k - f)) else fA w (801, 1) k) → ∃ w2, f_X8_append_3 3000 n 1 a ((24 : Int32) - 8 * nI i) w1 = some ((), w2) ∧ rS w2 (10801, 1) = nI (f + 4) ∧ Fr pAp w w2 ∧ ∀ k, fA w2 (801, 1) k = if f ≤ k ∧ k < f + 4 then sb_b (bt a (k - f)) else fA w (801, 1) k := by
    intro m
    induction m with
    | zero =>
      intro i n w1 hi hn h1 h2 h3
      obtain ⟨n, rfl⟩ : ∃ n', n = n' + 1 := ⟨n - 1, by omega⟩
      have : i = 4 := by omega
      subst this
      refine ⟨w1, ?_, h1, h2, h3⟩
      rw [E_X8_append_3, if_pos (by decide)]
    | succ m ih =>
      intro i n w1 hi hn h1 h2 h3
      obtain ⟨n, rfl⟩ : ∃ n', n = n' + 1 := ⟨n - 1, by omega⟩
      obtain ⟨w2, y1, y2, y3, y4⟩ := ih (i + 1) n (sS (tA w1 (801, 1) (upd (fA w1 (801, 1)) (f + i) (sb_b (bt a i)))) (10801, 1) (nI (f + i + 1))) (by omega) (by omega) (by rw [rS_sS, if_pos rfl, Nat.add_assoc]) (Fr.S (a := (10801, 1)) (Fr.A (a := (801, 1)) h2 _ rfl) _ rfl) (fun k => by
        rw [fA_sS, fA_tA, if_pos rfl, upd_eq, h3]
        by_cases c : k = f + i
        · rw [if_pos c, if_pos (by omega), c, Nat.add_sub_cancel_left]
        · rw [if_neg c]
          by_cases c2 : f ≤ k ∧ k < f + i
          · rw [if_pos c2, if_pos (by omega)]
          · rw [if_neg c2, if_neg (by omega)])
      refine ⟨w2, ?_, y2, y3, y4⟩
      rw [step i (by omega) n w1 (f + i) (by omega) h1]
      exact y1
  obtain ⟨w2, y1, y2⟩ := key 4 0 3000 w (by omega) (by omega) h (Fr.rf _ _) (fun k => by rw [if_neg (by omega)])
  refine ⟨w2, ?_, y2⟩
  rw [E_X8_append]
  exact y1
def pFd (a : LA) : Bool := pAp a || ((Nat.beq a.1 11000 || (Nat.beq a.1 11002 || Nat.beq a.1 1002)) && Nat.beq a.2 842)
theorem pAp_pFd (a : LA) (h : pAp a = true) : pFd a = true := by
  unfold pFd
  rw [h, Bool.true_or]
def pFm (a : LA) : Bool := (Nat.beq a.1 11002 || Nat.beq a.1 1002) && Nat.beq a.2 842
theorem pFm_pFd (a : LA) (h : pFm a = true) : pFd a = true := by
  obtain ⟨t, i⟩ := a
  obtain ⟨h1, h2⟩ := and_t (a := (Nat.beq t 11002 || Nat.beq t 1002)) h
  have h3 : i = 842 := Nat.eq_of_beq_eq_true h2
  subst h3
  rcases or_t h1 with e | e
  · have := Nat.eq_of_beq_eq_true e; subst this; rfl
  · have := Nat.eq_of_beq_eq_true e; subst this; rfl
theorem S_feed (a b c d e : Int32) {w : MEM} (hI : INV w) : SIMn (f_X9_feed 3000 0 a b c d e) (f_X10_feed 3000 842 a b c d e) w := by
  have h := hI
  obtain ⟨C, cc, l, bb, hr, hc, hk⟩ := h
  obtain ⟨n, t1, t2, t3, t4⟩ := hc.2.2.2.2.2.1
  have e20 : nI n + (20 : Int32) = nI (n + 20) := nI_add n 20
  by_cases c0 : 600 < n + 20
  · refine ⟨-1, w, m0 w, ?_, ?_, hI.fr (m0_fr w)⟩
    · rw [E_X9_feed, t2, e20, if_pos (by rw [nLlt _ _ (by omega) (by decide)]; exact c0)]
    · rw [E_X10_feed, lt_eq, m0_eq, (m0_fr w).2.1 (11002, 842) rfl, t3, e20, if_pos (by rw [nLlt _ _ (by omega) (by decide)]; exact c0)]
  obtain ⟨w1, p1, p2, p3, p4⟩ := append_ok (a := a) (f := n) (by omega) t2
  obtain ⟨w2, q1, q2, q3, q4⟩ := append_ok (a := b) (f := n + 4) (by omega) p2
  obtain ⟨w3, r1, r2, r3, r4⟩ := append_ok (a := c) (f := n + 4 + 4) (by omega) q2
  obtain ⟨w4, s1, s2, s3, s4⟩ := append_ok (a := d) (f := n + 4 + 4 + 4) (by omega) r2
  obtain ⟨w5, u1, u2, u3, u4⟩ := append_ok (a := e) (f := n + 4 + 4 + 4 + 4) (by omega) s2
  have fr : Fr pAp w w5 := (((p3.tr q3).tr r3).tr s3).tr u3
  have hX : f_X9_feed 3000 0 a b c d e w = some (nI (n + 20), w5) := by
    rw [E_X9_feed, t2, e20, if_neg (by rw [nLlt _ _ (by omega) (by decide)]; exact c0), p1, bnd_some, q1, bnd_some, r1, bnd_some, s1, bnd_some, u1, bnd_some, u2]
  obtain ⟨G, hG⟩ : ∃ G : Nat → Nat, G = fun i => if i < 4 then bt a i else if i < 8 then bt b (i - 4) else if i < 12 then bt c (i - 8) else if i < 16 then bt d (i - 12) else bt e (i - 16) := ⟨_, rfl⟩
  have hG2 : ∀ i, G i < 256 := by
    intro i
    rw [hG]
    show (if i < 4 then bt a i else if i < 8 then bt b (i - 4) else if i < 12 then bt c (i - 8) else if i < 16 then bt d (i - 12) else bt e (i - 16)) < 256
    split
    · exact bt_lt _ _
    · split
      · exact bt_lt _ _
      · split
        · exact bt_lt _ _
        · split
          · exact bt_lt _ _
          · exact bt_lt _ _
  have hC : ∀ k, fA w5 (801, 1) k = if n ≤ k ∧ k < n + 20 then sb_b (G (k - n)) else fA w (801, 1) k := by
    intro k
    rw [u4, s4, r4, q4, p4, hG]
    by_cases c1 : n ≤ k ∧ k < n + 20
    · rw [if_pos c1]
      show _ = sb_b (if k - n < 4 then bt a (k - n) else if k - n < 8 then bt b (k - n - 4) else if k - n < 12 then bt c (k - n - 8) else if k - n < 16 then bt d (k - n - 12) else bt e (k - n - 16))
      by_cases d1 : k - n < 4
      · rw [if_neg (by omega), if_neg (by omega), if_neg (by omega), if_neg (by omega), if_pos (by omega), if_pos d1]
      · rw [if_neg d1]
        by_cases d2 : k - n < 8
        · rw [if_neg (by omega), if_neg (by omega), if_neg (by omega), if_pos (by omega), if_pos d2, show k - (n + 4) = k - n - 4 by omega]
        · rw [if_neg d2]
          by_cases d3 : k - n < 12
          · rw [if_neg (by omega), if_neg (by omega), if_pos (by omega), if_pos d3, show k - (n + 4 + 4) = k - n - 8 by omega]
          · rw [if_neg d3]
            by_cases d4 : k - n < 16
            · rw [if_neg (by omega), if_pos (by omega), if_pos d4, show k - (n + 4 + 4 + 4) = k - n - 12 by omega]
            · rw [if_pos (by omega), if_neg d4, show k - (n + 4 + 4 + 4 + 4) = k - n - 16 by omega]
    · rw [if_neg c1, if_neg (by omega), if_neg (by omega), if_neg (by omega), if_neg (by omega), if_neg (by omega)]
  have m2 : rS (m0 w5) (11002, 842) = nI n := ((m0_fr w5).2.1 _ rfl).trans ((fr.2.1 _ rfl).trans t3)
  have mA : fA (m0 w5) (1002, 842) = fA w (1002, 842) := ((m0_fr w5).1 _ rfl).trans (fr.1 _ rfl)
  obtain ⟨v, n1, y1, y2, y3, y4⟩ := for_rel (F := fun m x (v : MEM) => f_X10_feed_23 3000 m 842 a b c d e x v) (N := 20) (fun i v => Fr pFm (m0 w5) v ∧ rS v (11002, 842) = nI (n + i) ∧ ∀ k, fA v (1002, 842) k = if n ≤ k ∧ k < n + i then nI (G (k - n)) else fA w (1002, 842) k)
    (fun m i v hi p => by
      obtain ⟨z1, z2, z3⟩ := p
      have hlt : n + i < 600 := by omega
      have h4 : ¬ ((4 : Int32) = 0) := by decide
      have eg : ∀ x : Int32, ∀ j, nI (bt x (i % 4)) = nI j → (x >>> (((24 : Int32) - 8 * nI (i % 4)) &&& 31)) &&& (255 : Int32) = nI j := fun x j h => (bt_M x (i % 4)).trans h
      have hmod : nI i - nI i / (4 : Int32) * 4 = nI (i % 4) := pk_rem (d := 4) (by omega) (by omega) (by omega)
      refine ⟨sS (tA v (1002, 842) (upd (fA v (1002, 842)) (n + i) (nI (G i)))) (11002, 842) (nI (n + i + 1)), ?_, Fr.S (a := (11002, 842)) (Fr.A (a := (1002, 842)) z1 _ rfl) _ rfl, by rw [rS_sS, if_pos rfl]; rfl, fun k => ?_⟩
      · show f_X10_feed_23 3000 (m + 1) 842 a b c d e (nI i) v = f_X10_feed_23 3000 m 842 a b c d e (nI (i + 1)) _
        rw [E_X10_feed_23, if_pos (by rw [nltL _ _ (by omega) (by decide)]; exact hi), hmod, z2]
        simp (disch := omega) only [h4, if_false, bIn, hlt, decide_true, ck_tr, bt_M, lt_eq, sAn, rS_tA, z2, naddL, nltL]
        have e1 : (OfNat.ofNat 1 : Nat) = 1 := rfl
        rw [hG]
        show (if i < 4 then _ else _) = f_X10_feed_23 3000 m 842 a b c d e (nI (i + 1)) (sS (tA v (1002, 842) (upd (fA v (1002, 842)) (n + i) (nI (if i < 4 then bt a i else if i < 8 then bt b (i - 4) else if i < 12 then bt c (i - 8) else if i < 16 then bt d (i - 12) else bt e (i - 16))))) (11002, 842) (nI (n + i + 1)))
        by_cases d1 : i < 4
        · rw [if_pos d1, if_pos d1, show i % 4 = i by omega]
        · rw [if_neg d1, if_neg d1]
          by_cases d2 : i < 8
          · have d2' : i < (OfNat.ofNat 8 : Nat) := d2
            rw [if_pos d2', if_pos d2, show i % 4 = i - 4 by omega]
          · have d2' : ¬ i < (OfNat.ofNat 8 : Nat) := d2
            rw [if_neg d2', if_neg d2]
            by_cases d3 : i < 12
            · have d3' : i < (OfNat.ofNat 12 : Nat) := d3
              rw [if_pos d3', if_pos d3, show i % 4 = i - 8 by omega]
            · have d3' : ¬ i < (OfNat.ofNat 12 : Nat) := d3
              rw [if_neg d3', if_neg d3]
              by_cases d4 : i < 16
              · have d4' : i < (OfNat.ofNat 16 : Nat) := d4
                rw [if_pos d4', if_pos d4, show i % 4 = i - 12 by omega]
              · have d4' : ¬ i < (OfNat.ofNat 16 : Nat) := d4
                rw [if_neg d4', if_neg d4, show i % 4 = i - 16 by omega]
      · rw [fA_sS, fA_tA, if_pos rfl, upd_eq, z3]
        by_cases c1 : k = n + i
        · rw [if_pos c1, if_pos (by omega), c1, Nat.add_sub_cancel_left]
        · rw [if_neg c1]
          by_cases c2 : n ≤ k ∧ k < n + i
          · rw [if_pos c2, if_pos (by omega)]
          · rw [if_neg c2, if_neg (by omega)])
    20 3000 0 (m0 w5) (by omega) (by omega) ⟨Fr.rf _ _, m2, fun k => by rw [if_neg (by omega), mA]⟩
  have y1 : f_X10_feed_23 3000 3000 842 a b c d e 0 (m0 w5) = f_X10_feed_23 3000 (n1 + 1) 842 a b c d e (nI 20) v := y1
  have hM : f_X10_feed 3000 842 a b c d e w5 = some (nI (n + 20), v) := by
    rw [E_X10_feed, lt_eq, m0_eq, m2, e20, if_neg (by rw [nLlt _ _ (by omega) (by decide)]; exact c0), y1, E_X10_feed_23, if_neg (by decide), y3]
  have ft : Fr pFd w v := by
    refine (fr.mono pAp_pFd).tr (Fr.tr (w1 := m0 w5) ?_ (y2.mono pFm_pFd))
    unfold m0
    exact Fr.S (a := (11000, 842)) (Fr.rf _ _) _ rfl
  have fmv : Fr q842 w5 v := by
    refine Fr.tr (w1 := m0 w5) ?_ (y2.mono (fun a h => (and_t h).2))
    unfold m0
    exact Fr.S (a := (11000, 842)) (Fr.rf _ _) _ rfl
  refine ⟨nI (n + 20), w5, v, hX, hM, C, cc, l, bb, hr.fr ft, ?_, hk.fr ft rfl rfl rfl⟩
  obtain ⟨i1, i2, i3, i4, i5, i6, i7, i8, i9⟩ := hc
  have ok : ∀ t < 9, ∀ j, pFd (401 + t, j) = false := by
    intro t ht j
    have e1 : Nat.beq (401 + t) 801 = false := beq_ne (by omega)
    have e2 : Nat.beq (401 + t) 10801 = false := beq_ne (by omega)
    have e3 : Nat.beq (401 + t) 11000 = false := beq_ne (by omega)
    have e4 : Nat.beq (401 + t) 11002 = false := beq_ne (by omega)
    have e5 : Nat.beq (401 + t) 1002 = false := beq_ne (by omega)
    show (((Nat.beq (401 + t) 801 || Nat.beq (401 + t) 10801) && Nat.beq j 1) || ((Nat.beq (401 + t) 11000 || (Nat.beq (401 + t) 11002 || Nat.beq (401 + t) 1002)) && Nat.beq j 842)) = false
    rw [e1, e2, e3, e4, e5]
    rfl
  refine ⟨i1, i2.fr ft ⟨rfl, rfl, rfl, rfl, rfl, rfl, rfl, rfl, rfl, rfl, rfl, rfl, rfl⟩, i3.fr ft ⟨rfl, rfl, rfl, rfl, rfl, rfl, rfl, rfl, rfl, rfl⟩, ?_, ?_, ?_, ?_, ?_, i9.fr ft rfl rfl rfl rfl⟩
  · rw [nH_ext (ft.1 _ rfl) (ft.1 _ rfl) (ft.2.1 _ rfl)]
    exact i4.fr2 ft (fun j _ _ => ⟨fun t ht => ok t ht j, rfl⟩) rfl
  · obtain ⟨n, a1, a2, a3, a4⟩ := i5
    refine ⟨n, a1, (ft.2.1 _ rfl).trans a2, (ft.2.1 _ rfl).trans a3, fun q hq => ?_⟩
    rw [ft.1 (1028, 842) rfl]
    exact (a4 q hq).fr2 ft (fun j _ _ => ⟨fun t ht => ok t ht j, rfl⟩) rfl
  · refine ⟨n + 20, by omega, (fmv.2.1 _ rfl).trans u2, y3, fun k hk => ?_⟩
    rw [fmv.1 (801, 1) rfl, hC, y4]
    by_cases c1 : n ≤ k ∧ k < n + 20
    · rw [if_pos c1, if_pos c1]
      exact ⟨G (k - n), hG2 _, rfl, rfl⟩
    · rw [if_neg c1, if_neg c1]
      exact t4 k (by omega)
  · rw [ft.2.1 _ rfl, ft.2.1 _ rfl]
    exact i7
  · rw [ft.2.1 _ rfl, ft.2.1 _ rfl]
    exact i8
