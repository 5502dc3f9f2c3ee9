/-! steps -/
def bN (j : Nat) : Nat := 2 ^ j
theorem bit_n : ∀ j < 7, bit j = nI (bN j) := by decide +kernel
theorem bN_lt : ∀ j < 7, bN j < 128 := by decide
theorem nI_or (a b : Nat) : nI a ||| nI b = nI (a ||| b) := by
  apply Int32.toBitVec_inj.mp
  rw [Int32.toBitVec_or]
  show BitVec.ofNat 32 a ||| BitVec.ofNat 32 b = BitVec.ofNat 32 (a ||| b)
  exact BitVec.ofNat_or.symm
theorem or_lt {a b : Nat} (ha : a < 128) (hb : b < 128) : a ||| b < 128 := Nat.or_lt_two_pow (n := 7) ha hb
def frN (C : ACt) (h : Nat) : Nat := lp (cT C) 0 (fun e b => if cTb C e = h then (if cTa C e = h then b ||| bN (cTb C e) else b) ||| bN (cTa C e) else if cTa C e = h then b ||| bN (cTb C e) else b) 0
theorem frK {C : ACt} (hw : WFc C) (h : Nat) : ∀ k ≤ cT C, lp k 0 (fun e b => if cTb C e = h then (if cTa C e = h then b ||| bit (cTb C e) else b) ||| bit (cTa C e) else if cTa C e = h then b ||| bit (cTb C e) else b) 0 = nI (lp k 0 (fun e b => if cTb C e = h then (if cTa C e = h then b ||| bN (cTb C e) else b) ||| bN (cTa C e) else if cTa C e = h then b ||| bN (cTb C e) else b) 0) ∧ lp k 0 (fun e b => if cTb C e = h then (if cTa C e = h then b ||| bN (cTb C e) else b) ||| bN (cTa C e) else if cTa C e = h then b ||| bN (cTb C e) else b) 0 < 128
  | 0, _ => ⟨rfl, by show (0 : Nat) < 128; omega⟩
  | k + 1, hk => by
    obtain ⟨e, lt⟩ := frK hw h k (by omega)
    obtain ⟨g1, g2, g3⟩ := hw.2.2.2.2.1 k (by omega)
    have h7 := hw.1
    rw [lp_snoc, lp_snoc, Nat.zero_add, e]
    generalize lp k 0 (fun e b => if cTb C e = h then (if cTa C e = h then b ||| bN (cTb C e) else b) ||| bN (cTa C e) else if cTa C e = h then b ||| bN (cTb C e) else b) 0 = m at lt
    rw [bit_n _ (by omega), bit_n _ (by omega)]
    have l1 := bN_lt (cTa C k) (by omega)
    have l2 := bN_lt (cTb C k) (by omega)
    split
    · split
      · rw [nI_or, nI_or]
        exact ⟨rfl, or_lt (or_lt lt l2) l1⟩
      · rw [nI_or]
        exact ⟨rfl, or_lt lt l1⟩
    · split
      · rw [nI_or]
        exact ⟨rfl, or_lt lt l2⟩
      · exact ⟨rfl, lt⟩
theorem frS_n {C : ACt} (hw : WFc C) (h : Nat) : frS C h = nI (frN C h) ∧ frN C h < 128 := frK hw h (cT C) (Nat.le_refl _)
theorem bit_t1 : ∀ m < 128, ∀ j < 7, ((nI m >>> (nI j &&& 31)) &&& 1 = 1) ↔ m.testBit j = true := by decide +kernel
theorem bit_t2 : ∀ m < 128, ∀ j < 7, ((nI m &&& (1 <<< (nI j &&& 31))) = 0) ↔ m.testBit j = false := by decide +kernel
theorem twosOf_M {w : MEM} {C : ACt} {fu h : Nat} (hw : WFc C) (hm : MOD w C) (hfu : 200 ≤ fu) (hh : h < 2 ^ 30) : f_X10_twosOf fu 842 (nI h) w = some (frS C h, w) := by
  rw [E_X10_twosOf]
  have hT := hw.2.2.2.1
  have := (for_lp (F := fun n i (a : Int32) => f_X10_twosOf_4 fu n 842 (nI h) a i w) (N := cT C) (step := fun e b => if cTb C e = h then (if cTa C e = h then b ||| bit (cTb C e) else b) ||| bit (cTa C e) else if cTa C e = h then b ||| bit (cTb C e) else b) (fin := fun a => some (a, w)) (P := fun _ _ => True)
    (fun n k a hk _ => by
      obtain ⟨g1, g2, g3⟩ := hw.2.2.2.2.1 k hk
      have h7 := hw.1
      obtain ⟨f1, f2⟩ := hm.2.2.2.2.2.2.1 k hk
      refine ⟨?_, trivial⟩
      show f_X10_twosOf_4 fu (n + 1) 842 (nI h) a (nI k) w = _
      rw [E_X10_twosOf_4, hm.2.2.2.2.2.1]
      simp (disch := omega) only [nlt, hk, if_true, nLmul, naddL, bIn, rAn, f1, f2, decide_true, ck_tr, neqI, lt_eq, (show 2 * k < 24 by omega), (show 2 * k + 1 < 24 by omega)]
      unfold bit
      by_cases c1 : cTa C k = h
      · by_cases c2 : cTb C k = h
        · simp only [c1, c2, if_true]
        · simp only [c1, c2, if_true, if_false]
      · by_cases c2 : cTb C k = h
        · simp only [c1, c2, if_true, if_false]
        · simp only [c1, c2, if_false])
    (fun n a _ => by
      show f_X10_twosOf_4 fu (n + 1) 842 (nI h) a (nI (cT C)) w = _
      rw [E_X10_twosOf_4, hm.2.2.2.2.2.1, if_neg (by rw [nlt _ _ (by omega) (by omega)]; omega)])
    (cT C) fu 0 0 (by omega) (by omega) trivial).1
  exact this
def tap1 (C : ACt) (h o : Nat) (f : Nat → Int32) : Nat → Int32 := if (frN C h).testBit o = true ∧ f (35 + o) = 1 then upd f (28 + o) (f (28 + o) + 1) else f
def dwn (h : Nat) (f : Nat → Int32) : Nat → Int32 := upd f (42 + h) (-1)
def opS (C : ACt) (k h : Nat) (b : Int32) (f : Nat → Int32) : (Nat → Int32) × Int32 := match k with
  | 0 => if 0 < f (7 + h) then (upd f (7 + h) 0, 1) else (f, 0)
  | 1 => if f (35 + h) = 0 then (f, 0) else (upd (upd (upd (upd f (35 + h) 0) (7 + h) 0) (14 + h) 99) (28 + h) 0, 1)
  | 2 => if f (35 + h) = 1 then (f, 0) else (upd f (35 + h) 1, 1)
  | 3 => if f (35 + h) = 1 ∧ f (21 + h) < 3 then (upd f (21 + h) (f (21 + h) + 1), 1) else (f, 0)
  | 4 => if f (35 + h) = 1 ∧ f (14 + h) < 99 then (upd f (14 + h) (heldS (f (14 + h) + 40)), 1) else (f, 0)
  | 5 => if f (35 + h) = 0 then (f, 0) else (lp (cH C) 0 (tap1 C h) f, 1)
  | 6 => if f h = b then (f, 0) else (upd f h b, 1)
  | 8 => (lp (cH C) 0 dwn f, 1)
  | _ => if f 56 = 900 then (f, 0) else (passS C f, 1)
theorem puts_M (fu a : Nat) (v m : Int32) (w : MEM) (ha : a < 57) (hm : m = 0 ∨ m = 1) : f_X10_puts fu 842 (nI a) v m w = some (m, if m = 1 then tA w (1020, 842) (upd (fA w (1020, 842)) a v) else w) := by
  rw [E_X10_puts]
  rcases hm with e | e <;> subst e
  · rw [if_pos rfl, if_neg (by decide)]; rfl
  · rw [if_neg (by decide), if_pos rfl]
    simp (disch := omega) only [bIn, ha, decide_true, ck_tr, lt_eq, sAn, b01_1]
theorem taps_M {w : MEM} {C : ACt} {fu h : Nat} (hw : WFc C) (hm : MOD w C) (hfu : 200 ≤ fu) (hh : h < cH C) : ∃ w1, f_X10_taps fu 842 (nI h) w = some ((opS C 5 h 0 (fA w (1020, 842))).2, w1) ∧ Fr pSM w w1 ∧ fA w1 (1020, 842) = (opS C 5 h 0 (fA w (1020, 842))).1 := by
  have h7 := hw.1
  rw [E_X10_taps]
  simp (disch := omega) only [nLadd, bIn, rAn, decide_true, ck_tr, (show 35 + h < 57 by omega)]
  unfold opS
  by_cases c : fA w (1020, 842) (35 + h) = 0
  · rw [if_pos c]
    simp only [c, if_true]
    exact ⟨w, rfl, Fr.rf _ _, rfl⟩
  · rw [if_neg c]
    simp only [c, if_false]
    obtain ⟨b, n1, e1, e2, e3⟩ := for_rel (F := fun n i (a : MEM) => f_X10_taps_16 fu n 842 (nI h) i a) (N := cH C)
      (fun k a => Fr pSM w a ∧ fA a (1020, 842) = lp k 0 (tap1 C h) (fA w (1020, 842)))
      (fun n k u hk p => by
        obtain ⟨pf, pv⟩ := p
        have hm1 := hm.fr pf okSM
        show ∃ b : MEM, f_X10_taps_16 fu (n + 1) 842 (nI h) (nI k) u = f_X10_taps_16 fu n 842 (nI h) (nI (k + 1)) b ∧ _
        rw [E_X10_taps_16, hm1.1, twosOf_M hw hm1 hfu (by omega), (frS_n hw h).1, bnd_some]
        simp (disch := omega) only [nlt, hk, if_true, nLadd, bIn, rAn, decide_true, ck_tr, naddL, bit_t1 _ (frS_n hw h).2 k (by omega), (show 35 + k < 57 by omega), (show 28 + k < 57 by omega), lt_eq, sAn]
        rw [lp_snoc, ← pv, Nat.zero_add]
        have e0 : ∀ x : Int32, x + 0 = x := Int32.add_zero
        rw [e0, upd_self, tA_self]
        unfold tap1
        by_cases c1 : (frN C h).testBit k = true
        · rw [if_pos c1]
          by_cases c2 : fA u (1020, 842) (35 + k) = 1
          · rw [if_pos c2, if_pos ⟨c1, c2⟩]
            exact ⟨_, rfl, pf.A _ rfl, by rw [fA_tA, if_pos rfl]⟩
          · rw [if_neg c2, if_neg (fun e => c2 e.2)]
            exact ⟨u, rfl, pf, rfl⟩
        · rw [if_neg c1, if_neg (fun e => c1 e.1)]
          exact ⟨u, rfl, pf, rfl⟩)
      (cH C) fu 0 w (by omega) (by omega) ⟨Fr.rf _ _, rfl⟩
    have e1 : f_X10_taps_16 fu fu 842 (nI h) 0 w = f_X10_taps_16 fu (n1 + 1) 842 (nI h) (nI (cH C)) b := e1
    have hm1 := hm.fr e2 okSM
    refine ⟨b, ?_, e2, e3⟩
    rw [e1, E_X10_taps_16, hm1.1, if_neg (by rw [nlt _ _ (by omega) (by omega)]; omega)]
theorem dawns_M {w : MEM} {C : ACt} {fu : Nat} (hw : WFc C) (hm : MOD w C) (hfu : 200 ≤ fu) : ∃ w1, f_X10_dawns fu 842 w = some ((), w1) ∧ Fr pSM w w1 ∧ fA w1 (1020, 842) = lp (cH C) 0 dwn (fA w (1020, 842)) := by
  have h7 := hw.1
  rw [E_X10_dawns]
  obtain ⟨b, n1, e1, e2, e3⟩ := for_rel (F := fun n i (a : MEM) => f_X10_dawns_2 fu n 842 i a) (N := cH C)
    (fun k a => Fr pSM w a ∧ fA a (1020, 842) = lp k 0 dwn (fA w (1020, 842)))
    (fun n k u hk p => by
      obtain ⟨pf, pv⟩ := p
      have hm1 := hm.fr pf okSM
      show ∃ b : MEM, f_X10_dawns_2 fu (n + 1) 842 (nI k) u = f_X10_dawns_2 fu n 842 (nI (k + 1)) b ∧ _
      rw [E_X10_dawns_2, hm1.1]
      refine ⟨tA u (1020, 842) (dwn k (fA u (1020, 842))), ?_, pf.A _ rfl, ?_⟩
      · simp (disch := omega) only [nlt, hk, if_true, nLadd, bIn, decide_true, ck_tr, (show 42 + k < 57 by omega), lt_eq, sAn, naddL]
        rfl
      · rw [lp_snoc, ← pv, Nat.zero_add, fA_tA, if_pos rfl])
    (cH C) fu 0 w (by omega) (by omega) ⟨Fr.rf _ _, rfl⟩
  have e1 : f_X10_dawns_2 fu fu 842 0 w = f_X10_dawns_2 fu (n1 + 1) 842 (nI (cH C)) b := e1
  have hm1 := hm.fr e2 okSM
  refine ⟨b, ?_, e2, e3⟩
  rw [e1, E_X10_dawns_2, hm1.1, if_neg (by rw [nlt _ _ (by omega) (by omega)]; omega)]
