/-! sets of heirs as bits -/
theorem nI_and (a b : Nat) : nI a &&& nI b = nI (a &&& b) := by
  apply Int32.toBitVec_inj.mp
  rw [Int32.toBitVec_and]
  show BitVec.ofNat 32 a &&& BitVec.ofNat 32 b = BitVec.ofNat 32 (a &&& b)
  exact BitVec.ofNat_and.symm
def pc (m : Nat) : Nat := lp 7 0 (fun k a => a + (m.testBit k).toNat) 0
def bitc (l0 : Int32) : Int32 :=
  lt ((l0 - (((l0.toUInt32 >>> ((1 : Int32).toUInt32 &&& Int32.toUInt32 31)).toInt32) &&& (1431655765 : Int32)))) fun (v1 : Int32) => lt (((v1 &&& (858993459 : Int32)) + (((v1.toUInt32 >>> ((2 : Int32).toUInt32 &&& Int32.toUInt32 31)).toInt32) &&& (858993459 : Int32)))) fun (v2 : Int32) => lt (((v2 + ((v2.toUInt32 >>> ((4 : Int32).toUInt32 &&& Int32.toUInt32 31)).toInt32)) &&& (252645135 : Int32))) fun (v3 : Int32) => lt ((v3 + ((v3.toUInt32 >>> ((8 : Int32).toUInt32 &&& Int32.toUInt32 31)).toInt32))) fun (v4 : Int32) => lt ((v4 + ((v4.toUInt32 >>> ((16 : Int32).toUInt32 &&& Int32.toUInt32 31)).toInt32))) fun (v5 : Int32) => v5 &&& (63 : Int32)
theorem bitc_ok : ∀ m < 128, bitc (nI m) = nI (pc m) := by decide +kernel
theorem bitCount_ok (fu : Nat) {m : Nat} (hm : m < 128) (w : MEM) : f_J6_bitCount_0f7a4 fu (nI m) w = some (nI (pc m), w) := by
  rw [← bitc_ok m hm, E_J6_bitCount_0f7a4]
  rfl
theorem ones_n : ∀ m < 128, lp 7 0 (fun k (a : Int32) => a + ((nI m >>> (nI k &&& 31)) &&& 1)) 0 = nI (pc m) := by decide +kernel
theorem ones_ok {fu m : Nat} (hm : m < 128) (hfu : 200 ≤ fu) (w : MEM) : f_X10_ones fu (nI m) w = some (nI (pc m), w) := by
  rw [← ones_n m hm, E_X10_ones]
  exact for_lp0 (F := fun n x b => f_X10_ones_4 fu n (nI m) b x w) (N := 7) (fin := fun b => some (b, w))
    (fun n k b hk => by
      show f_X10_ones_4 fu (n + 1) (nI m) b (nI k) w = _
      rw [E_X10_ones_4]
      simp (disch := omega) only [nltL, hk, if_true, lt_eq, naddL])
    (fun n b => by
      show f_X10_ones_4 fu (n + 1) (nI m) b (nI 7) w = _
      rw [E_X10_ones_4, if_neg (by decide)]) (by omega) 0
theorem pc_lt : ∀ m < 128, pc m ≤ 7 := by decide +kernel
theorem pc_H : ∀ H ≤ 7, ∀ m < 2 ^ H, pc m ≤ H := by decide +kernel
theorem pc_1 : ∀ a < 7, pc (2 ^ a) = 1 := by decide +kernel
theorem pc_sub : ∀ m < 128, ∀ k < 128, m &&& k = m → m ≠ k → pc m < pc k := by decide +kernel
theorem and_not : ∀ m < 128, ∀ o < 128, nI m &&& (nI o ^^^ (-1 : Int32)) = nI (m &&& (o ^^^ 127)) := by decide +kernel
theorem all_n : ∀ H ≤ 7, (1 <<< (nI H &&& 31)) - (1 : Int32) = nI (2 ^ H - 1) := by decide +kernel
theorem shl_n : ∀ H ≤ 7, ((1 : Int32) <<< (nI H &&& 31)) = nI (2 ^ H) := by decide +kernel
theorem p7 {H : Nat} (h : H ≤ 7) : 2 ^ H ≤ 128 := Nat.pow_le_pow_right (by omega) h
theorem pj {j H : Nat} (h : j < H) : 2 ^ j < 2 ^ H := Nat.pow_lt_pow_right (by omega) h
theorem or_H {a b H : Nat} (ha : a < 2 ^ H) (hb : b < 2 ^ H) : a ||| b < 2 ^ H := Nat.or_lt_two_pow ha hb
theorem and_H {a b H : Nat} (ha : a < 2 ^ H) : a &&& b < 2 ^ H := Nat.lt_of_le_of_lt Nat.and_le_left ha
theorem tb_H {a H j : Nat} (ha : a < 2 ^ H) (h : a.testBit j = true) : j < H := by
  rcases Nat.lt_or_ge j H with c | c
  · exact c
  · rw [Nat.testBit_lt_two_pow (Nat.lt_of_lt_of_le ha (Nat.pow_le_pow_right (by omega) c))] at h
    cases h
theorem frN_lt {C : ACt} (hw : WFc C) (h : Nat) : frN C h < 2 ^ cH C := by
  unfold frN
  have := lp_inv (fun e b => if cTb C e = h then (if cTa C e = h then b ||| bN (cTb C e) else b) ||| bN (cTa C e) else if cTa C e = h then b ||| bN (cTb C e) else b) (fun _ b => b < 2 ^ cH C) (cT C) 0 0 (Nat.two_pow_pos _)
    (fun e b _ he p => by
      obtain ⟨g1, g2, g3⟩ := hw.2.2.2.2.1 e (by omega)
      have q1 : bN (cTa C e) < 2 ^ cH C := pj g1
      have q2 : bN (cTb C e) < 2 ^ cH C := pj g2
      show (if cTb C e = h then (if cTa C e = h then b ||| bN (cTb C e) else b) ||| bN (cTa C e) else if cTa C e = h then b ||| bN (cTb C e) else b) < 2 ^ cH C
      split
      · split
        · exact or_H (or_H p q2) q1
        · exact or_H p q1
      · split
        · exact or_H p q2
        · exact p)
  exact this
def nbr (C : ACt) (h j : Nat) : Prop := ∃ e, e < cT C ∧ ((cTa C e = h ∧ cTb C e = j) ∨ (cTb C e = h ∧ cTa C e = j))
theorem frN_bit {C : ACt} (h j : Nat) : (frN C h).testBit j = true ↔ nbr C h j := by
  have key : ∀ m, (lp m 0 (fun e b => if cTb C e = h then (if cTa C e = h then b ||| bN (cTb C e) else b) ||| bN (cTa C e) else if cTa C e = h then b ||| bN (cTb C e) else b) 0).testBit j = true ↔ ∃ e, e < m ∧ ((cTa C e = h ∧ cTb C e = j) ∨ (cTb C e = h ∧ cTa C e = j)) := by
    intro m
    induction m with
    | zero =>
      constructor
      · intro h1
        have h1 : (0 : Nat).testBit j = true := h1
        rw [Nat.zero_testBit] at h1
        cases h1
      · rintro ⟨e, h1, _⟩
        exact absurd h1 (Nat.not_lt_zero _)
    | succ m ih =>
      rw [lp_snoc, Nat.zero_add]
      generalize lp m 0 (fun e b => if cTb C e = h then (if cTa C e = h then b ||| bN (cTb C e) else b) ||| bN (cTa C e) else if cTa C e = h then b ||| bN (cTb C e) else b) 0 = x at ih
      have hs : (∃ e, e < m + 1 ∧ ((cTa C e = h ∧ cTb C e = j) ∨ (cTb C e = h ∧ cTa C e = j))) ↔ ((x.testBit j = true) ∨ ((cTa C m = h ∧ cTb C m = j) ∨ (cTb C m = h ∧ cTa C m = j))) := by
        rw [ih]
        constructor
        · rintro ⟨e, h1, h2⟩
          by_cases c : e = m
          · subst c; exact Or.inr h2
          · exact Or.inl ⟨e, by omega, h2⟩
        · rintro (⟨e, h1, h2⟩ | h2)
          · exact ⟨e, by omega, h2⟩
          · exact ⟨m, by omega, h2⟩
      rw [hs]
      have b1 : ∀ k, (bN k).testBit j = decide (k = j) := fun k => Nat.testBit_two_pow
      by_cases c1 : cTb C m = h
      · by_cases c2 : cTa C m = h
        · rw [if_pos c1, if_pos c2, Nat.testBit_or, Nat.testBit_or, b1, b1]
          simp [c1, c2]
        · rw [if_pos c1, if_neg c2, Nat.testBit_or, b1]
          simp [c1, c2]
      · by_cases c2 : cTa C m = h
        · rw [if_neg c1, if_pos c2, Nat.testBit_or, b1]
          simp [c1, c2]
        · rw [if_neg c1, if_neg c2]
          simp [c1, c2]
  exact key (cT C)
/-- a set and its neighbours within s -/
def spr (C : ACt) (s m : Nat) : Nat := lp (cH C) 0 (fun h b => if m.testBit h = true then b ||| (frN C h &&& s) else b) m
def spA (C : ACt) (m : Nat) : Nat := lp (cH C) 0 (fun h b => if m.testBit h = true then b ||| frN C h else b) m
theorem spr_lt {C : ACt} (hw : WFc C) (s : Nat) {m : Nat} (hm : m < 2 ^ cH C) : spr C s m < 2 ^ cH C := by
  have := lp_inv (fun h b => if m.testBit h = true then b ||| (frN C h &&& s) else b) (fun _ b => b < 2 ^ cH C) (cH C) 0 m hm
    (fun h b _ _ p => by
      show (if m.testBit h = true then b ||| (frN C h &&& s) else b) < 2 ^ cH C
      split
      · exact or_H p (and_H (frN_lt hw h))
      · exact p)
  exact this
theorem spA_lt {C : ACt} (hw : WFc C) {m : Nat} (hm : m < 2 ^ cH C) : spA C m < 2 ^ cH C := by
  have := lp_inv (fun h b => if m.testBit h = true then b ||| frN C h else b) (fun _ b => b < 2 ^ cH C) (cH C) 0 m hm
    (fun h b _ _ p => by
      show (if m.testBit h = true then b ||| frN C h else b) < 2 ^ cH C
      split
      · exact or_H p (frN_lt hw h)
      · exact p)
  exact this
def sub (a b : Nat) : Prop := ∀ j, a.testBit j = true → b.testBit j = true
theorem sub_and {a b : Nat} (h : sub a b) : a &&& b = a := by
  apply Nat.eq_of_testBit_eq
  intro j
  rw [Nat.testBit_and]
  cases e : a.testBit j
  · rfl
  · rw [h j e]; rfl
theorem spr_sub {C : ACt} (s m : Nat) : sub m (spr C s m) := by
  have := lp_inv (fun h b => if m.testBit h = true then b ||| (frN C h &&& s) else b) (fun _ b => sub m b) (cH C) 0 m (fun j h => h)
    (fun h b _ _ p => by
      show sub m (if m.testBit h = true then b ||| (frN C h &&& s) else b)
      split
      · intro j hj
        rw [Nat.testBit_or, p j hj]; rfl
      · exact p)
  exact this
theorem spr_add {C : ACt} (s : Nat) {m h j : Nat} (hh : h < cH C) (hm : m.testBit h = true) (hf : (frN C h).testBit j = true) (hs : s.testBit j = true) : (spr C s m).testBit j = true := by
  have key : ∀ k, k ≤ cH C → h < k → (lp k 0 (fun h b => if m.testBit h = true then b ||| (frN C h &&& s) else b) m).testBit j = true := by
    intro k
    induction k with
    | zero => intro _ h1; exact absurd h1 (Nat.not_lt_zero _)
    | succ k ih =>
      intro h1 h2
      rw [lp_snoc, Nat.zero_add]
      by_cases c : h = k
      · subst c
        rw [if_pos hm, Nat.testBit_or, Nat.testBit_and, hf, hs]
        simp
      · have := ih (by omega) (by omega)
        split
        · rw [Nat.testBit_or, this]; rfl
        · exact this
  exact key (cH C) (Nat.le_refl _) hh
theorem spr_in {C : ACt} (s : Nat) {m j : Nat} (h : (spr C s m).testBit j = true) : m.testBit j = true ∨ ∃ h, m.testBit h = true ∧ (frN C h).testBit j = true ∧ s.testBit j = true := by
  have := lp_inv (fun h b => if m.testBit h = true then b ||| (frN C h &&& s) else b) (fun _ b => b.testBit j = true → m.testBit j = true ∨ ∃ h, m.testBit h = true ∧ (frN C h).testBit j = true ∧ s.testBit j = true) (cH C) 0 m (fun h => Or.inl h)
    (fun h b _ _ p => by
      show (if m.testBit h = true then b ||| (frN C h &&& s) else b).testBit j = true → _
      split
      · rename_i c
        rw [Nat.testBit_or, Nat.testBit_and]
        intro h1
        rcases or_t h1 with h1 | h1
        · exact p h1
        · obtain ⟨h2, h3⟩ := and_t h1
          exact Or.inr ⟨h, c, h2, h3⟩
      · exact p)
  exact this h
theorem spA_and {C : ACt} (hw : WFc C) (o : Nat) {m : Nat} (hm : m &&& (o ^^^ 127) = m) : spA C m &&& (o ^^^ 127) = spr C ((2 ^ cH C - 1) &&& (o ^^^ 127)) m := by
  have key : ∀ k, (lp k 0 (fun h b => if m.testBit h = true then b ||| frN C h else b) m) &&& (o ^^^ 127) = lp k 0 (fun h b => if m.testBit h = true then b ||| (frN C h &&& ((2 ^ cH C - 1) &&& (o ^^^ 127))) else b) m := by
    intro k
    induction k with
    | zero => exact hm
    | succ k ih =>
      rw [lp_snoc, lp_snoc, Nat.zero_add, ← ih]
      split
      · rw [Nat.and_or_distrib_right, ← Nat.and_assoc (frN C k), Nat.and_two_pow_sub_one_of_lt_two_pow (frN_lt hw k)]
      · rfl
  exact key (cH C)
theorem spA_all {C : ACt} (hw : WFc C) (m : Nat) : spA C m = spr C (2 ^ cH C - 1) m := by
  unfold spA spr
  refine lp_ext _ _ _ _ _ (fun h b _ _ => ?_)
  rw [Nat.and_two_pow_sub_one_of_lt_two_pow (frN_lt hw h)]
/-- what is reached in n steps -/
def sq (C : ACt) (s a n : Nat) : Nat := lp n 0 (fun _ m => spr C s m) (2 ^ a)
theorem sq_s (C : ACt) (s a n : Nat) : sq C s a (n + 1) = spr C s (sq C s a n) := by
  unfold sq
  rw [lp_snoc]
theorem sq_lt {C : ACt} (hw : WFc C) (s : Nat) {a : Nat} (ha : a < cH C) : ∀ n, sq C s a n < 2 ^ cH C
  | 0 => pj ha
  | n + 1 => by
    rw [sq_s]
    exact spr_lt hw s (sq_lt hw s ha n)
theorem sq_mono {C : ACt} (s a : Nat) {n : Nat} : ∀ k, sub (sq C s a n) (sq C s a (n + k))
  | 0 => fun j h => h
  | k + 1 => by
    intro j h
    rw [← Nat.add_assoc, sq_s]
    exact spr_sub s _ j (sq_mono s a k j h)
theorem sq_fix {C : ACt} {s a n : Nat} (h : sq C s a n = sq C s a (n + 1)) : ∀ k, sq C s a (n + k) = sq C s a n
  | 0 => rfl
  | k + 1 => by
    rw [← Nat.add_assoc, sq_s, sq_fix h k, ← sq_s, ← h]
theorem sq_stable {C : ACt} (hw : WFc C) (s : Nat) {a : Nat} (ha : a < cH C) {n : Nat} (hn : cH C - 1 ≤ n) : sq C s a n = sq C s a (cH C - 1) := by
  have h7 := hw.1
  have h128 := p7 h7
  have hk : ∀ n, (∃ k, k ≤ n ∧ sq C s a k = sq C s a (k + 1)) ∨ n + 2 ≤ pc (sq C s a (n + 1)) := by
    intro n
    induction n with
    | zero =>
      by_cases c : sq C s a 0 = sq C s a 1
      · exact Or.inl ⟨0, Nat.le_refl _, c⟩
      · right
        have l0 := sq_lt hw s ha 0
        have l1 : sq C s a (0 + 1) < 2 ^ cH C := sq_lt hw s ha 1
        have := pc_sub _ (by omega) _ (by omega) (sub_and (sq_mono (C := C) s a (n := 0) 1)) c
        have e : pc (sq C s a 0) = 1 := pc_1 a (by omega)
        show 0 + 2 ≤ pc (sq C s a (0 + 1))
        rw [e] at this
        omega
    | succ n ih =>
      rcases ih with ⟨k, h1, h2⟩ | h1
      · exact Or.inl ⟨k, by omega, h2⟩
      · by_cases c : sq C s a (n + 1) = sq C s a (n + 1 + 1)
        · exact Or.inl ⟨n + 1, Nat.le_refl _, c⟩
        · right
          have l0 := sq_lt hw s ha (n + 1)
          have l1 := sq_lt hw s ha (n + 1 + 1)
          have := pc_sub _ (by omega) _ (by omega) (sub_and (sq_mono (C := C) s a (n := n + 1) 1)) c
          omega
  rcases hk (cH C - 1) with ⟨k, h1, h2⟩ | h1
  · have e1 := sq_fix h2 (cH C - 1 - k)
    have e2 := sq_fix h2 (n - k)
    rw [show k + (cH C - 1 - k) = cH C - 1 by omega] at e1
    rw [show k + (n - k) = n by omega] at e2
    rw [e1, e2]
  · have l1 := pc_H (cH C) h7 _ (sq_lt hw s ha (cH C - 1 + 1))
    omega
/-! the methods -/
theorem bit_zero {m j : Nat} (hm : m < 128) (hj : j < 7) : (nI m &&& (1 <<< (nI j &&& 31)) = 0) = (m.testBit j = false) := propext (bit_t2 m hm j hj)
theorem bit_one {m j : Nat} (hm : m < 128) (hj : j < 7) : ((nI m >>> (nI j &&& 31)) &&& 1 = 1) = (m.testBit j = true) := propext (bit_t1 m hm j hj)
theorem bit_t3 : ∀ m < 128, ∀ j < 7, ((nI m >>> (nI j &&& 31)) &&& 1 = 0) ↔ m.testBit j = false := by decide +kernel
theorem bit_one0 {m j : Nat} (hm : m < 128) (hj : j < 7) : ((nI m >>> (nI j &&& 31)) &&& 1 = 0) = (m.testBit j = false) := propext (bit_t3 m hm j hj)
theorem lp_lt {C : ACt} (hw : WFc C) (m : Nat) (hm : m < 2 ^ cH C) (k : Nat) : lp k 0 (fun h b => if m.testBit h = true then b ||| frN C h else b) m < 2 ^ cH C := by
  have := lp_inv (fun h b => if m.testBit h = true then b ||| frN C h else b) (fun _ b => b < 2 ^ cH C) k 0 m hm
    (fun h b _ _ p => by
      show (if m.testBit h = true then b ||| frN C h else b) < 2 ^ cH C
      split
      · exact or_H p (frN_lt hw h)
      · exact p)
  exact this
theorem spread_ok {fu : Nat} {w : MEM} {C : ACt} {c l m : Nat} (hw : WFc C) (hc : CLS w c l C) (hm : m < 2 ^ cH C) (hfu : 200 ≤ fu) : f_X1_spread fu c (nI m) w = some (nI (spA C m), w) := by
  have h7 := hw.1
  have h128 := p7 h7
  rw [E_X1_spread]
  exact for_lp0 (F := fun n x b => f_X1_spread_4 fu n c (nI m) (nI b) x w) (N := cH C) (fin := fun b => some (nI b, w)) (step := fun h b => if m.testBit h = true then b ||| frN C h else b)
    (fun n k b hk => by
      show f_X1_spread_4 fu (n + 1) c (nI m) (nI b) (nI k) w = _
      rw [E_X1_spread_4, hc.1]
      simp (disch := omega) only [nlt, hk, if_true, bit_zero, bIn, rAn, decide_true, ck_tr, (show k < 7 by omega), hc.2.2.2.2.2.2.1 k (by omega), (frS_n hw k).1, nI_or, lt_eq, naddL]
      cases m.testBit k
      · rfl
      · rfl)
    (fun n b => by
      show f_X1_spread_4 fu (n + 1) c (nI m) (nI b) (nI (cH C)) w = _
      rw [E_X1_spread_4, hc.1, if_neg (by rw [nlt _ _ (by omega) (by omega)]; omega)]) (by omega) m
theorem one_n {j : Nat} (hj : j < 7) : ((1 : Int32) <<< (nI j &&& 31)) = nI (2 ^ j) := bit_n j hj
theorem xor_m {o : Nat} (ho : o < 128) {m : Nat} (hm : m < 128) : nI m &&& (nI o ^^^ (-1 : Int32)) = nI (m &&& (o ^^^ 127)) := and_not m hm o ho
theorem lpg {α : Type} (g : Nat → α → α) (m k : Nat) (a : α) : lp m k g a = lp m k g a := rfl
theorem reached_ok {fu : Nat} {w : MEM} {C : ACt} {c l a o : Nat} (hw : WFc C) (hc : CLS w c l C) (ha : a < cH C) (ho : o < 128) (hao : o.testBit a = false) (hfu : 200 ≤ fu) : f_X1_reached fu c (nI a) (nI o) w = some (nI (sq C ((2 ^ cH C - 1) &&& (o ^^^ 127)) a (cH C)), w) := by
  have h7 := hw.1
  have h128 := p7 h7
  rw [E_X1_reached, one_n (by omega), lt_eq]
  have h0 : 2 ^ a &&& (o ^^^ 127) = 2 ^ a := by
    apply sub_and
    intro j hj
    rw [Nat.testBit_two_pow] at hj
    have e : a = j := of_decide_eq_true hj
    subst e
    rw [Nat.testBit_xor, hao]
    have : ∀ a < 7, (127 : Nat).testBit a = true := by decide
    rw [this a (by omega)]
    rfl
  obtain ⟨b, n1, e1, e2⟩ := for_rel (F := fun n i (m : Nat) => f_X1_reached_7 fu n c (nI o) (nI m) i w) (N := cH C) (fun k m => m = sq C ((2 ^ cH C - 1) &&& (o ^^^ 127)) a k ∧ m &&& (o ^^^ 127) = m)
    (fun n k m hk p => by
      obtain ⟨p1, p2⟩ := p
      have ml : m < 2 ^ cH C := by rw [p1]; exact sq_lt hw _ ha k
      have sl := spA_lt hw ml
      refine ⟨spA C m &&& (o ^^^ 127), ?_, ?_, ?_⟩
      · show f_X1_reached_7 fu (n + 1) c (nI o) (nI m) (nI k) w = f_X1_reached_7 fu n c (nI o) (nI (spA C m &&& (o ^^^ 127))) (nI (k + 1)) w
        rw [E_X1_reached_7, hc.1, if_pos (by rw [nlt _ _ (by omega) (by omega)]; exact hk), spread_ok hw hc ml hfu, bnd_some, lt_eq, xor_m ho (by omega), naddL]
      · rw [sq_s, ← p1, spA_and hw o p2]
      · rw [Nat.and_assoc, Nat.and_self])
    (cH C) fu 0 (2 ^ a) (by omega) (by omega) ⟨rfl, h0⟩
  have e1 : f_X1_reached_7 fu fu c (nI o) (nI (2 ^ a)) 0 w = f_X1_reached_7 fu (n1 + 1) c (nI o) (nI b) (nI (cH C)) w := e1
  rw [e1, E_X1_reached_7, hc.1, if_neg (by rw [nlt _ _ (by omega) (by omega)]; omega), e2.1]
def cmS (C : ACt) (s a e : Nat) : Int32 := lx 7 0 (fun n (_ : Unit) => if (sq C s a n).testBit e = true then .inl (nI n) else .inr ()) (fun _ => -1) ()
theorem comesTo_ok {fu : Nat} {w : MEM} {C : ACt} {a e s : Nat} (hw : WFc C) (hm : MOD w C) (ha : a < cH C) (he : e < cH C) (hs : s < 128) (hfu : 200 ≤ fu) : f_X10_comesTo fu 842 (nI a) (nI e) (nI s) w = some (cmS C s a e, w) := by
  have h7 := hw.1
  have h128 := p7 h7
  rw [E_X10_comesTo, one_n (by omega), lt_eq]
  have key : ∀ m k n, k + m = 7 → m < n → f_X10_comesTo_8 fu n 842 (nI e) (nI s) (nI (sq C s a k)) (nI k) w = some (lx m k (fun n (_ : Unit) => if (sq C s a n).testBit e = true then .inl (nI n) else .inr ()) (fun _ => (-1 : Int32)) (), w) := by
    intro m
    induction m with
    | zero =>
      intro k n hk hn
      obtain ⟨n, rfl⟩ : ∃ n', n = n' + 1 := ⟨n - 1, by omega⟩
      have : k = 7 := by omega
      subst this
      rw [E_X10_comesTo_8, if_neg (by decide)]
      rfl
    | succ m ih =>
      intro k n hk hn
      obtain ⟨n, rfl⟩ : ∃ n', n = n' + 1 := ⟨n - 1, by omega⟩
      have ml := sq_lt hw s ha k
      rw [E_X10_comesTo_8, if_pos (by rw [nltL _ _ (by omega) (by decide)]; omega), lx_s]
      simp (disch := omega) only [bit_one]
      cases c : (sq C s a k).testBit e
      · rw [if_neg (by decide), if_neg (by decide)]
        show _ = some (lx m (k + 1) _ _ (), w)
        rw [← ih (k + 1) n (by omega) (by omega), sq_s]
        generalize hg : sq C s a k = g at ml
        exact for_lp0 (F := fun q x b => f_X10_comesTo_35 fu (fun l0 l2 l3 l4 l5 w => f_X10_comesTo_8 fu n l0 l2 l3 l4 l5 w) q 842 (nI e) (nI s) (nI g) (nI k) (nI b) x w) (N := cH C) (fin := fun b => f_X10_comesTo_8 fu n 842 (nI e) (nI s) (nI b) (nI (k + 1)) w) (step := fun h b => if g.testBit h = true then b ||| (frN C h &&& s) else b)
          (fun q h b hh => by
            show f_X10_comesTo_35 fu _ (q + 1) 842 (nI e) (nI s) (nI g) (nI k) (nI b) (nI h) w = _
            rw [E_X10_comesTo_35, hm.1, twosOf_M hw hm hfu (by omega), bnd_some, (frS_n hw h).1, nI_and, nI_or, lt_eq, if_pos (by rw [nlt _ _ (by omega) (by omega)]; omega), naddL]
            simp (disch := omega) only [bit_one]
            split <;> rfl)
          (fun q b => by
            show f_X10_comesTo_35 fu _ (q + 1) 842 (nI e) (nI s) (nI g) (nI k) (nI b) (nI (cH C)) w = _
            rw [E_X10_comesTo_35, hm.1, if_neg (by rw [nlt _ _ (by omega) (by omega)]; omega), naddL]) (by omega) g
      · rw [if_pos rfl, if_pos rfl]
  exact key 7 0 fu (by omega) (by omega)
theorem lx_find {β : Type} (f : Nat → Unit → β ⊕ Unit) (fin : Unit → β) {v : β} {r : Nat} (hr : f r () = .inl v) : ∀ (m k : Nat), (∀ j, k ≤ j → j < r → f j () = .inr ()) → k ≤ r → r < k + m → lx m k f fin () = v
  | 0, k, _, h1, h2 => by omega
  | m + 1, k, h, h1, h2 => by
    rw [lx_s]
    by_cases c : k = r
    · subst c
      rw [hr]
    · rw [h k (Nat.le_refl _) (by omega)]
      exact lx_find f fin hr m (k + 1) (fun j h3 h4 => h j (by omega) h4) (by omega) (by omega)
theorem lx_none {β : Type} (f : Nat → Unit → β ⊕ Unit) (fin : Unit → β) : ∀ (m k : Nat), (∀ j, k ≤ j → j < k + m → f j () = .inr ()) → lx m k f fin () = fin ()
  | 0, k, _ => rfl
  | m + 1, k, h => by
    rw [lx_s, h k (Nat.le_refl _) (by omega)]
    exact lx_none f fin m (k + 1) (fun j h1 h2 => h j (by omega) (by omega))
theorem cmS_none {C : ACt} (hw : WFc C) {s a e : Nat} (ha : a < cH C) : cmS C s a e = -1 ↔ (sq C s a (cH C)).testBit e = false := by
  have h7 := hw.1
  have hst : ∀ n, (sq C s a n).testBit e = true → (sq C s a (cH C)).testBit e = true := by
    intro n h
    rcases Nat.le_total n (cH C) with c | c
    · have := sq_mono (C := C) s a (n := n) (cH C - n) e h
      rwa [show n + (cH C - n) = cH C by omega] at this
    · rw [sq_stable hw s ha (by omega)] at h ⊢
      exact h
  constructor
  · intro h
    cases c : (sq C s a (cH C)).testBit e
    · rfl
    · exfalso
      rw [sq_stable hw s ha (by omega)] at c
      have : ∀ n, n < cH C → (sq C s a n).testBit e = true → ∃ j, j < 7 ∧ cmS C s a e = nI j := by
        intro n
        induction n using Nat.strongRecOn with
        | ind n ih =>
          intro hn hb
          by_cases cc : ∃ j, j < n ∧ (sq C s a j).testBit e = true
          · obtain ⟨j, h1, h2⟩ := cc
            exact ih j h1 (by omega) h2
          · refine ⟨n, by omega, ?_⟩
            refine lx_find _ _ (r := n) (v := nI n) (if_pos hb) 7 0 (fun j _ h2 => ?_) (by omega) (by omega)
            exact if_neg (fun h3 => cc ⟨j, h2, h3⟩)
      obtain ⟨j, hj, ej⟩ := this (cH C - 1) (by omega) c
      rw [h] at ej
      have : ¬ nI j < 0 := nI_pos (by omega)
      rw [← ej] at this
      exact this (by decide)
  · intro h
    refine lx_none _ _ 7 0 (fun j _ _ => if_neg (fun h3 => ?_))
    rw [hst j h3] at h
    cases h
theorem tapsBetween_ok {fu : Nat} {w : MEM} {C : ACt} {c l a e : Nat} (hw : WFc C) (hc : CLS w c l C) (ha : a < cH C) (he : e < cH C) (hfu : 200 ≤ fu) : f_X1_tapsBetween fu c (nI a) (nI e) w = some (cmS C (2 ^ cH C - 1) a e, w) := by
  have h7 := hw.1
  have h128 := p7 h7
  rw [E_X1_tapsBetween, one_n (by omega), lt_eq]
  have hx := for_lx (F := fun n i (m : Nat) => f_X1_tapsBetween_7 fu n c (nI e) (nI m) i w) (N := cH C) (step := fun n m => if m.testBit e = true then .inl (some (nI n, w)) else .inr (spA C m)) (fin := fun _ => some (-1, w)) (fun _ m => m < 2 ^ cH C)
    (fun n k m hk p => by
      refine ⟨?_, fun b hb => ?_⟩
      · show f_X1_tapsBetween_7 fu (n + 1) c (nI e) (nI m) (nI k) w = _
        rw [E_X1_tapsBetween_7, hc.1, if_pos (by rw [nlt _ _ (by omega) (by omega)]; exact hk), spread_ok hw hc p hfu, bnd_some, naddL]
        simp (disch := omega) only [bit_zero]
        cases m.testBit e
        · rfl
        · rfl
      · have hb : (if m.testBit e = true then (.inl (some (nI k, w)) : Option (Int32 × MEM) ⊕ Nat) else .inr (spA C m)) = .inr b := hb
        split at hb
        · cases hb
        · injection hb with hb
          rw [← hb]
          exact spA_lt hw p)
    (fun n m _ => by
      show f_X1_tapsBetween_7 fu (n + 1) c (nI e) (nI m) (nI (cH C)) w = _
      rw [E_X1_tapsBetween_7, hc.1, if_neg (by rw [nlt _ _ (by omega) (by omega)]; omega)])
    (cH C) fu 0 (2 ^ a) (by omega) (by omega) (pj ha)
  have hx : f_X1_tapsBetween_7 fu fu c (nI e) (nI (2 ^ a)) 0 w = _ := hx
  rw [hx]
  have key : ∀ m k, lx m k (fun n m => if m.testBit e = true then (.inl (some (nI n, w)) : Option (Int32 × MEM) ⊕ Nat) else .inr (spA C m)) (fun _ => some (-1, w)) (sq C (2 ^ cH C - 1) a k) = some (lx m k (fun n (_ : Unit) => if (sq C (2 ^ cH C - 1) a n).testBit e = true then .inl (nI n) else .inr ()) (fun _ => (-1 : Int32)) (), w) := by
    intro m
    induction m with
    | zero => intro k; rfl
    | succ m ih =>
      intro k
      rw [lx_s, lx_s]
      by_cases c : (sq C (2 ^ cH C - 1) a k).testBit e = true
      · rw [if_pos c, if_pos c]
      · rw [if_neg c, if_neg c]
        show lx m (k + 1) _ _ (spA C (sq C (2 ^ cH C - 1) a k)) = _
        rw [spA_all hw, ← sq_s]
        exact ih (k + 1)
  have k0 := key (cH C) 0
  have k0 : lx (cH C) 0 (fun n m => if m.testBit e = true then (.inl (some (nI n, w)) : Option (Int32 × MEM) ⊕ Nat) else .inr (spA C m)) (fun _ => some (-1, w)) (2 ^ a) = _ := k0
  rw [k0]
  have e1 : cmS C (2 ^ cH C - 1) a e = lx (cH C) 0 (fun n (_ : Unit) => if (sq C (2 ^ cH C - 1) a n).testBit e = true then .inl (nI n) else .inr ()) (fun _ => (-1 : Int32)) () := by
    unfold cmS
    by_cases cf : ∃ n, n < cH C ∧ (sq C (2 ^ cH C - 1) a n).testBit e = true
    · obtain ⟨n, hn, hb⟩ := cf
      have : ∀ n, n < cH C → (sq C (2 ^ cH C - 1) a n).testBit e = true → ∃ r, r < cH C ∧ (sq C (2 ^ cH C - 1) a r).testBit e = true ∧ ∀ j, j < r → ¬ (sq C (2 ^ cH C - 1) a j).testBit e = true := by
        intro n
        induction n using Nat.strongRecOn with
        | ind n ih =>
          intro hn hb
          by_cases cc : ∃ j, j < n ∧ (sq C (2 ^ cH C - 1) a j).testBit e = true
          · obtain ⟨j, h1, h2⟩ := cc
            exact ih j h1 (by omega) h2
          · exact ⟨n, hn, hb, fun j hj h3 => cc ⟨j, hj, h3⟩⟩
      obtain ⟨r, hr, h1, h2⟩ := this n hn hb
      rw [lx_find _ _ (r := r) (v := nI r) (if_pos h1) 7 0 (fun j _ hj => if_neg (h2 j hj)) (by omega) (by omega), lx_find _ _ (r := r) (v := nI r) (if_pos h1) (cH C) 0 (fun j _ hj => if_neg (h2 j hj)) (by omega) (by omega)]
    · rw [lx_none _ _ 7 0 (fun j _ hj => ?_), lx_none _ _ (cH C) 0 (fun j _ hj => if_neg (fun h => cf ⟨j, by omega, h⟩))]
      refine if_neg (fun h => ?_)
      by_cases c : j < cH C
      · exact cf ⟨j, c, h⟩
      · rw [sq_stable hw _ ha (by omega)] at h
        exact cf ⟨cH C - 1, by omega, h⟩
  rw [e1]
