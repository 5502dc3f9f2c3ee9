/-! work: the run of a program of steps -/
def pC7 (a : LA) : Bool := (Nat.beq a.1 10705 || (Nat.beq a.1 10706 || Nat.beq a.1 10707)) && Nat.beq a.2 3
def pM7 (a : LA) : Bool := (Nat.beq a.1 11039 || (Nat.beq a.1 11040 || Nat.beq a.1 11041)) && Nat.beq a.2 842
def pRC (l : Nat) (a : LA) : Bool := pMC 9 l a || pC7 a
def pRM (a : LA) : Bool := pSM a || pM7 a
theorem Fr.rc {l : Nat} {w w1 : MEM} (g : Fr (pMC 9 l) w w1) : Fr (pRC l) w w1 := g.mono (fun a h => by unfold pRC; rw [h, Bool.true_or])
theorem Fr.c7 {l : Nat} {w w1 : MEM} (g : Fr pC7 w w1) : Fr (pRC l) w w1 := g.mono (fun a h => by unfold pRC; rw [h, Bool.or_true])
theorem Fr.rm {w w1 : MEM} (g : Fr pSM w w1) : Fr pRM w w1 := g.mono (fun a h => by unfold pRM; rw [h, Bool.true_or])
theorem Fr.m7 {w w1 : MEM} (g : Fr pM7 w w1) : Fr pRM w w1 := g.mono (fun a h => by unfold pRM; rw [h, Bool.or_true])
def RC (C : ACt) (c l : Nat) (S : STP) (u : MEM) (f : Nat → Int32) (a b e : Nat) : Prop := CLS u c l C ∧ Rm u 9 C f ∧ (∃ t, t ≤ 900 ∧ Bd C t f) ∧ SC u S ∧ rS u (10705, 3) = nI a ∧ rS u (10706, 3) = nI b ∧ rS u (10707, 3) = nI e
def RM (C : ACt) (S : STP) (v : MEM) (f : Nat → Int32) (a b e : Nat) : Prop := MOD v C ∧ fA v (1020, 842) = f ∧ SMc (fA v (1018, 842)) S ∧ rS v (11039, 842) = nI a ∧ rS v (11040, 842) = nI b ∧ rS v (11041, 842) = nI e
theorem okC7 (c l : Nat) : okC pC7 c l := ⟨rfl, rfl, rfl, rfl, rfl, rfl, rfl, rfl, rfl, rfl, rfl, rfl, rfl⟩
theorem okM7 : okM pM7 := ⟨rfl, rfl, rfl, rfl, rfl, rfl, rfl, rfl, rfl, rfl⟩
theorem p7m : ∀ t < 9, pC7 (401 + t, 9) = false := by decide
theorem SC.fr7 {u u1 : MEM} {S : STP} (h : SC u S) (g : Fr pC7 u u1) : SC u1 S := by
  unfold SC
  rw [g.2.1 (10704, 3) rfl, g.1 (701, 3) rfl, g.1 (702, 3) rfl, g.1 (703, 3) rfl, g.1 (704, 3) rfl]
  exact h
theorem SC.frM {u u1 : MEM} {S : STP} {l : Nat} (h : SC u S) (g : Fr (pMC 9 l) u u1) : SC u1 S := by
  unfold SC
  rw [g.2.1 (10704, 3) rfl, g.1 (701, 3) rfl, g.1 (702, 3) rfl, g.1 (703, 3) rfl, g.1 (704, 3) rfl]
  exact h
theorem fr5 (u : MEM) (x : Int32) : Fr pC7 u (sS u (10705, 3) x) := Fr.S (a := (10705, 3)) (Fr.rf _ _) _ rfl
theorem fr6 (u : MEM) (x : Int32) : Fr pC7 u (sS u (10706, 3) x) := Fr.S (a := (10706, 3)) (Fr.rf _ _) _ rfl
theorem fr7 (u : MEM) (x : Int32) : Fr pC7 u (sS u (10707, 3) x) := Fr.S (a := (10707, 3)) (Fr.rf _ _) _ rfl
theorem fq5 (u : MEM) (x : Int32) : Fr pM7 u (sS u (11039, 842) x) := Fr.S (a := (11039, 842)) (Fr.rf _ _) _ rfl
theorem fq6 (u : MEM) (x : Int32) : Fr pM7 u (sS u (11040, 842) x) := Fr.S (a := (11040, 842)) (Fr.rf _ _) _ rfl
theorem fq7 (u : MEM) (x : Int32) : Fr pM7 u (sS u (11041, 842) x) := Fr.S (a := (11041, 842)) (Fr.rf _ _) _ rfl
section
variable {C : ACt} {c l : Nat} {S : STP} {u v : MEM} {f : Nat → Int32} {a b e : Nat}
theorem RC.c5 (h : RC C c l S u f a b e) (x : Nat) : RC C c l S (sS u (10705, 3) (nI x)) f x b e := ⟨h.1.fr (fr5 _ _) (okC7 _ _), h.2.1.fr (fr5 _ _) p7m rfl, h.2.2.1, h.2.2.2.1.fr7 (fr5 _ _), rfl, h.2.2.2.2.2.1, h.2.2.2.2.2.2⟩
theorem RC.c6 (h : RC C c l S u f a b e) (x : Nat) : RC C c l S (sS u (10706, 3) (nI x)) f a x e := ⟨h.1.fr (fr6 _ _) (okC7 _ _), h.2.1.fr (fr6 _ _) p7m rfl, h.2.2.1, h.2.2.2.1.fr7 (fr6 _ _), h.2.2.2.2.1, rfl, h.2.2.2.2.2.2⟩
theorem RC.c7 (h : RC C c l S u f a b e) (x : Nat) : RC C c l S (sS u (10707, 3) (nI x)) f a b x := ⟨h.1.fr (fr7 _ _) (okC7 _ _), h.2.1.fr (fr7 _ _) p7m rfl, h.2.2.1, h.2.2.2.1.fr7 (fr7 _ _), h.2.2.2.2.1, h.2.2.2.2.2.1, rfl⟩
theorem RM.c5 (h : RM C S v f a b e) (x : Nat) : RM C S (sS v (11039, 842) (nI x)) f x b e := ⟨h.1.fr (fq5 _ _) okM7, h.2.1, h.2.2.1, rfl, h.2.2.2.2.1, h.2.2.2.2.2⟩
theorem RM.c6 (h : RM C S v f a b e) (x : Nat) : RM C S (sS v (11040, 842) (nI x)) f a x e := ⟨h.1.fr (fq6 _ _) okM7, h.2.1, h.2.2.1, h.2.2.2.1, rfl, h.2.2.2.2.2⟩
theorem RM.c7 (h : RM C S v f a b e) (x : Nat) : RM C S (sS v (11041, 842) (nI x)) f a b x := ⟨h.1.fr (fq7 _ _) okM7, h.2.1, h.2.2.1, h.2.2.2.1, h.2.2.2.2.1, rfl⟩
end
def rnO (C : ACt) (c l : Nat) (S : STP) (u : MEM) (f : Nat → Int32) (a b e : Nat) (x : Option (Unit × MEM)) (M : MEM → Option (Unit × MEM)) : Prop := ∃ f1 a1 b1 e1 u1, x = some ((), u1) ∧ RC C c l S u1 f1 a1 b1 e1 ∧ a1 ≤ 200 ∧ Fr (pRC l) u u1 ∧ ∀ v, RM C S v f a b e → ∃ v1, M v = some ((), v1) ∧ RM C S v1 f1 a1 b1 e1 ∧ Fr pRM v v1
theorem rnO.stay {C : ACt} {c l : Nat} {S : STP} {u : MEM} {f : Nat → Int32} {a b e : Nat} {M : MEM → Option (Unit × MEM)} (h : RC C c l S u f a b e) (ha : a ≤ 200) (hM : ∀ v, RM C S v f a b e → M v = some ((), v)) : rnO C c l S u f a b e (some ((), u)) M := ⟨f, a, b, e, u, rfl, h, ha, Fr.rf _ _, fun v hv => ⟨v, hM v hv, hv, Fr.rf _ _⟩⟩
theorem run_again {C : ACt} {c l : Nat} {S : STP} {i d B : Nat} (cR : Nat → Int32 → Int32 → Int32 → Nat → Nat → Nat → MEM → Option (Unit × MEM)) (cA : Nat → Int32 → Int32 → Nat → Nat → Nat → MEM → Option (Unit × MEM)) (cG : Nat → Int32 → Int32 → MEM → Option (Unit × MEM)) (hi : i < sN S) (h50 : sN S ≤ 50) (h9 : sK S i = 9) (hB : sB S i = B) (hB3 : B ≤ 30) (hd : d ≤ 6) (hE : 1 ≤ sE S i)
    (row : ∀ u f a b e, RC C c l S u f a b e → a ≤ 200 → rnO C c l S u f a b e (cR 3 (nI (i + 1)) (nI (sE S i)) (nI d) 9 c l u) (fun v => cG 842 (nI (3 * (i + 1))) (nI (3 * sE S i)) v)) :
    ∀ r t n m u f a b e, t + r = B → r ≤ n → r ≤ m → RC C c l S u f a b e → a ≤ 200 → ∃ f1 a1 b1 e1 u1, f_X7_runAgain_3 3000 cR cA (n + 1) 3 (nI i) (nI d) 9 c l (nI t) u = some ((), u1) ∧ RC C c l S u1 f1 a1 b1 e1 ∧ a1 ≤ 200 ∧ Fr (pRC l) u u1 ∧ ∀ v, RM C S v f a b e → ∃ v1, (∀ (k2 : Nat → Int32 → Int32 → MEM → Option (Unit × MEM)) (l2 : Int32), f_X10_goesSteps_51 3000 cG k2 (m + 1) 842 l2 (nI (3 * i)) (nI (3 * sE S i)) (nI t) v = k2 842 l2 (nI (3 * sE S i)) v1) ∧ RM C S v1 f1 a1 b1 e1 ∧ Fr pRM v v1 := by
  have e703 : ∀ u, SC u S → rA u (703, 3) (nI i) = nI B := fun u hS => by rw [rAn _ _ _ (by omega), (hS.2 i hi).2.2.1, hB]
  have e704 : ∀ u, SC u S → rA u (704, 3) (nI i) = nI (sE S i) := fun u hS => by
    rw [rAn _ _ _ (by omega)]
    rcases (hS.2 i hi).2.2.2 h9 with h | h
    · omega
    · exact h
  have e1018 : ∀ v, SMc (fA v (1018, 842)) S → rA v (1018, 842) (nI (3 * i + 1)) = nI B := fun v hS => by
    rw [rAn _ _ _ (by omega), (hS i hi).2.1]
    unfold cell1
    rw [if_pos h9, hB]
  have b1 : ∀ {α : Type} (k : Option (α × MEM)), ck (bI (nI i) 150) k = k := fun k => by rw [bIn _ _ (by omega), decide_eq_true (show i < 150 by omega), ck_tr]
  have b2 : ∀ {α : Type} (k : Option (α × MEM)), ck (bI (nI (3 * i + 1)) 150) k = k := fun k => by rw [bIn _ _ (by omega), decide_eq_true (show 3 * i + 1 < 150 by omega), ck_tr]
  intro r
  induction r with
  | zero =>
    intro t n m u f a b e ht hn hm hR ha
    refine ⟨f, a, b, e, u, ?_, hR, ha, Fr.rf _ _, fun v hv => ⟨v, fun k2 l2 => ?_, hv, Fr.rf _ _⟩⟩
    · rw [E_X7_runAgain_3, b1, e703 u hR.2.2.2.1, if_neg (by rw [nlt _ _ (by omega) (by omega)]; omega)]
    · rw [E_X10_goesSteps_51, naddL, b2, e1018 v hv.2.2.1, if_neg (by rw [nlt _ _ (by omega) (by omega)]; omega)]
  | succ r ih =>
    intro t n m u f a b e ht hn hm hR ha
    obtain ⟨n, rfl⟩ : ∃ k, n = k + 1 := ⟨n - 1, by omega⟩
    obtain ⟨m, rfl⟩ : ∃ k, m = k + 1 := ⟨m - 1, by omega⟩
    have lt1 : nI t < nI B := by rw [nlt _ _ (by omega) (by omega)]; omega
    by_cases c2 : a < 200
    · have c3 : nI a < (200 : Int32) := by rw [nltL _ _ (by omega) (by decide)]; exact c2
      obtain ⟨f1, a1, b1', e1, u1, x1, x2, x3, x4, x5⟩ := row u f a b e hR ha
      obtain ⟨f2, a2, b2', e2, u2, y1, y2, y3, y4, y5⟩ := ih (t + 1) n m u1 f1 a1 b1' e1 (by omega) (by omega) (by omega) x2 x3
      refine ⟨f2, a2, b2', e2, u2, ?_, y2, y3, x4.tr y4, fun v hv => ?_⟩
      · rw [E_X7_runAgain_3, b1, e703 u hR.2.2.2.1, if_pos lt1, hR.2.2.2.2.1, if_pos c3, if_neg (by rw [nLlt _ _ (by omega) (by decide)]; show ¬ 6 < d; omega), b1, naddL, e704 u hR.2.2.2.1, x1, bnd_some, naddL]
        exact y1
      · obtain ⟨v1, z1, z2, z3⟩ := x5 v hv
        obtain ⟨v2, q1, q2, q3⟩ := y5 v1 z2
        refine ⟨v2, fun k2 l2 => ?_, q2, z3.tr q3⟩
        rw [E_X10_goesSteps_51, naddL, b2, e1018 v hv.2.2.1, if_pos lt1, hv.2.2.2.1, if_pos c3, naddL, show 3 * i + 3 = 3 * (i + 1) by omega]
        have z1 : cG 842 (nI (3 * (i + 1))) (nI (3 * sE S i)) v = some ((), v1) := z1
        rw [z1, bnd_some, naddL]
        exact q1 k2 l2
    · have c3 : ¬ nI a < (200 : Int32) := by rw [nltL _ _ (by omega) (by decide)]; exact c2
      refine ⟨f, a, b, e, u, ?_, hR, ha, Fr.rf _ _, fun v hv => ⟨v, fun k2 l2 => ?_, hv, Fr.rf _ _⟩⟩
      · rw [E_X7_runAgain_3, b1, e703 u hR.2.2.2.1, if_pos lt1, hR.2.2.2.2.1, if_neg c3]
      · rw [E_X10_goesSteps_51, naddL, b2, e1018 v hv.2.2.1, if_pos lt1, hv.2.2.2.1, if_neg c3]
theorem run_row {C : ACt} {c l : Nat} {S : STP} (hw : WFc C) (h50 : sN S ≤ 50) (hok : ∀ i, i < sN S → okS (cH C) S i) : ∀ fb d i j X Y k n m u f a b e, Blk S fb d i j → j ≤ sN S → d ≤ 6 → 2 * (6 - d) ≤ X → 6 - d ≤ Y → k + (j - i) ≤ 150 → j - i ≤ n → j - i ≤ m → RC C c l S u f a b e → a ≤ 200 → rnO C c l S u f a b e (f_X7_runRow_6 3000 (f_X7_runRow 3000 X) (f_X7_runAgain 3000 X) (n + 1) 3 (nI j) (nI d) 9 c l (nI i) (nI k) u) (fun v => f_X10_goesSteps_2 3000 (f_X10_goesSteps 3000 Y) (m + 1) 842 (nI (3 * j)) (nI (3 * i)) v) := by
  intro fb
  have base : ∀ d j X Y k n m u f a b e, j ≤ sN S → RC C c l S u f a b e → a ≤ 200 → rnO C c l S u f a b e (f_X7_runRow_6 3000 (f_X7_runRow 3000 X) (f_X7_runAgain 3000 X) (n + 1) 3 (nI j) (nI d) 9 c l (nI j) (nI k) u) (fun v => f_X10_goesSteps_2 3000 (f_X10_goesSteps 3000 Y) (m + 1) 842 (nI (3 * j)) (nI (3 * j)) v) := by
    intro d j X Y k n m u f a b e hj hR ha
    have e : f_X7_runRow_6 3000 (f_X7_runRow 3000 X) (f_X7_runAgain 3000 X) (n + 1) 3 (nI j) (nI d) 9 c l (nI j) (nI k) u = some ((), u) := by
      rw [E_X7_runRow_6]
      by_cases h : nI k < (150 : Int32)
      · rw [if_pos h, if_neg (by rw [nlt _ _ (by omega) (by omega)]; omega)]
      · rw [if_neg h]
    rw [e]
    refine rnO.stay hR ha (fun v hv => ?_)
    show f_X10_goesSteps_2 3000 (f_X10_goesSteps 3000 Y) (m + 1) 842 (nI (3 * j)) (nI (3 * j)) v = _
    rw [E_X10_goesSteps_2, if_neg (by rw [nlt _ _ (by omega) (by omega)]; omega)]
  induction fb with
  | zero =>
    intro d i j X Y k n m u f a b e hB hj hd hX hY hk hn hm hR ha
    have hB : i = j := hB
    subst hB
    exact base d i X Y k n m u f a b e hj hR ha
  | succ fb ih =>
    intro d i j X Y k n m u f a b e hB hj hd hX hY hk hn hm hR ha
    rcases hB with hB | ⟨hij, hB⟩
    · subst hB
      exact base d i X Y k n m u f a b e hj hR ha
    have hi : i < sN S := by omega
    obtain ⟨n, rfl⟩ : ∃ k, n = k + 1 := ⟨n - 1, by omega⟩
    obtain ⟨m, rfl⟩ : ∃ k, m = k + 1 := ⟨m - 1, by omega⟩
    obtain ⟨o1, o2, o3, o4, o5, o6⟩ := hok i hi
    have ck1 : ∀ {α : Type} (k : Option (α × MEM)), ck (bI (nI i) 150) k = k := fun k => by rw [bIn _ _ (by omega), decide_eq_true (show i < 150 by omega), ck_tr]
    have ck0 : ∀ {α : Type} (k : Option (α × MEM)), ck (bI (nI (3 * i)) 150) k = k := fun k => by rw [bIn _ _ (by omega), decide_eq_true (show 3 * i < 150 by omega), ck_tr]
    have ck2 : ∀ {α : Type} (k : Option (α × MEM)), ck (bI (nI (3 * i + 1)) 150) k = k := fun k => by rw [bIn _ _ (by omega), decide_eq_true (show 3 * i + 1 < 150 by omega), ck_tr]
    have ck3 : ∀ {α : Type} (k : Option (α × MEM)), ck (bI (nI (3 * i + 2)) 150) k = k := fun k => by rw [bIn _ _ (by omega), decide_eq_true (show 3 * i + 2 < 150 by omega), ck_tr]
    have l1 : nI k < (150 : Int32) := by rw [nltL _ _ (by omega) (by decide)]; show k < 150; omega
    have l2 : nI i < nI j := by rw [nlt _ _ (by omega) (by omega)]; exact hij
    have l3 : nI i < nI (sN S) := by rw [nlt _ _ (by omega) (by omega)]; exact hi
    have l4 : nI (3 * i) < nI (3 * j) := by rw [nlt _ _ (by omega) (by omega)]; omega
    have eN : rS u (10704, 3) = nI (sN S) := hR.2.2.2.1.1
    by_cases c2 : a < 200
    · have c3 : nI a < (200 : Int32) := by rw [nltL _ _ (by omega) (by decide)]; exact c2
      have R1 := hR.c5 (a + 1)
      obtain ⟨w1, hw1⟩ : ∃ w1, sS u (10705, 3) (nI (a + 1)) = w1 := ⟨_, rfl⟩
      have F1 : Fr (pRC l) u w1 := by rw [← hw1]; exact (fr5 _ _).c7
      rw [hw1] at R1
      obtain ⟨s1, s2, s3, s4⟩ := R1.2.2.2.1.2 i hi
      have head : f_X7_runRow_6 3000 (f_X7_runRow 3000 X) (f_X7_runAgain 3000 X) (n + 1 + 1) 3 (nI j) (nI d) 9 c l (nI i) (nI k) u = (if nI (kcl (sK S i)) = (9 : Int32) then (bnd (f_X7_runAgain 3000 X 3 (nI i) (nI d + (1 : Int32)) 9 c l w1) fun (u11 : Unit) (w10 : MEM) => (f_X7_runRow_6 3000 (f_X7_runRow 3000 X) (f_X7_runAgain 3000 X) (n + 1) 3 (nI j) (nI d) 9 c l (rA w10 (704, 3) (nI i)) (nI (k + 1)) w10)) else (bnd (f_X4_tryStep 3000 9 (nI (kcl (sK S i))) (nI (sH S i)) (nI (sB S i)) c l w1) fun (x3 : Int32) (w2 : MEM) => if x3 = 0 then f_X7_runRow_6 3000 (f_X7_runRow 3000 X) (f_X7_runAgain 3000 X) (n + 1) 3 (nI j) (nI d) 9 c l (nI (i + 1)) (nI (k + 1)) (sS (sS w2 (10706, 3) (rS w2 (10706, 3) + 0)) (10707, 3) (rS w2 (10707, 3) + 1)) else f_X7_runRow_6 3000 (f_X7_runRow 3000 X) (f_X7_runAgain 3000 X) (n + 1) 3 (nI j) (nI d) 9 c l (nI (i + 1)) (nI (k + 1)) (sS (sS w2 (10706, 3) (rS w2 (10706, 3) + 1)) (10707, 3) (rS w2 (10707, 3) + 0)))) := by
        rw [E_X7_runRow_6, if_pos l1, if_pos l2, eN, if_pos l3, hR.2.2.2.2.1, if_pos c3, lt_eq, naddL, hw1, ck1, rAn _ _ _ (by omega), s1, ck1, ck1, ck1, rAn _ _ _ (by omega), s2, rAn _ _ _ (by omega), s3, naddL, naddL]
        congr 1
        · refine congrArg (bnd _) ?_
          funext y w10
          rw [ck1, lt_eq]
        · refine congrArg (bnd _) ?_
          funext x3 w2
          by_cases h : x3 = 0
          · rw [if_pos h, if_pos h, lt_eq, if_pos h, lt_eq, show nI i + (1 : Int32) = nI (i + 1) from nI_add i 1]
            rfl
          · rw [if_neg h, if_neg h, lt_eq, if_neg h, lt_eq, show nI i + (1 : Int32) = nI (i + 1) from nI_add i 1]
            rfl
      rw [head]
      have mo : ∀ v, RM C S v f a b e → ∃ v1, RM C S v1 f (a + 1) b e ∧ Fr pRM v v1 ∧ f_X10_goesSteps_2 3000 (f_X10_goesSteps 3000 Y) (m + 1 + 1) 842 (nI (3 * j)) (nI (3 * i)) v = (if nI (sK S i) = (9 : Int32) then (f_X10_goesSteps_51 3000 (f_X10_goesSteps 3000 Y) (fun l0 l2 l3 w => f_X10_goesSteps_2 3000 (f_X10_goesSteps 3000 Y) (m + 1) l0 l2 l3 w) 3000 842 (nI (3 * j)) (nI (3 * i)) (nI (cell2 S i)) (0 : Int32) v1) else (bnd (f_X10_goes 3000 842 (nI (sK S i)) (nI (cell1 S i)) (nI (cell2 S i)) v1) fun (x3 : Int32) (w2 : MEM) => if x3 = 0 then (f_X10_goesSteps_2 3000 (f_X10_goesSteps 3000 Y) (m + 1) 842 (nI (3 * j)) (nI (3 * (i + 1))) (sS w2 (11041, 842) (rS w2 (11041, 842) + 1))) else (f_X10_goesSteps_2 3000 (f_X10_goesSteps 3000 Y) (m + 1) 842 (nI (3 * j)) (nI (3 * (i + 1))) (sS w2 (11040, 842) (rS w2 (11040, 842) + 1))))) := by
        intro v hv
        have V1 := hv.c5 (a + 1)
        have F2 : Fr pRM v (sS v (11039, 842) (nI (a + 1))) := (fq5 _ _).m7
        obtain ⟨t1, t2, t3⟩ := V1.2.2.1 i hi
        refine ⟨_, V1, F2, ?_⟩
        rw [E_X10_goesSteps_2, if_pos l4, hv.2.2.2.1, if_pos c3, lt_eq, naddL]
        generalize hv1 : sS v (11039, 842) (nI (a + 1)) = v1 at V1 F2 t1 t2 t3
        rw [ck0, rAn _ _ _ (by omega), t1, naddL, naddL, naddL, ck3, ck3, ck0, ck2, rAn _ _ _ (by omega), t3, rAn _ _ _ (by omega), t2, lt_eq, show 3 * i + 3 = 3 * (i + 1) by omega]
        rfl
      rcases hB with ⟨k9, hB⟩ | ⟨k9, d6, hE1, hEj, hB1, hB2⟩
      · have n9 : ¬ nI (kcl (sK S i)) = (9 : Int32) := kcl_9 _ k9
        have n9m : ¬ nI (sK S i) = (9 : Int32) := by rw [neqL _ _ (by omega) (by decide)]; show ¬ sK S i = 9; omega
        obtain ⟨t, ht, hb⟩ := R1.2.2.1
        obtain ⟨w2, x1, x2, x3⟩ := tryStep_C (fu := 3000) (k := sK S i) (h := sH S i) (b := nI (sB S i)) hw R1.1 R1.2.1 hb (fun _ => ht) (by omega) (by omega) o2
        rw [if_neg n9, kcl_kmC _ k9, x1, bnd_some]
        have hb2 := Bd_op (b := nI (sB S i)) hw hb ht (by omega) o2
        have R2 : RC C c l S w2 (opS C (sK S i) (sH S i) (nI (sB S i)) f).1 (a + 1) b e := ⟨R1.1.fr x2 (okMC 9 c l l), x3, hb2, R1.2.2.2.1.frM x2, (x2.2.1 (10705, 3) rfl).trans R1.2.2.2.2.1, (x2.2.1 (10706, 3) rfl).trans R1.2.2.2.2.2.1, (x2.2.1 (10707, 3) rfl).trans R1.2.2.2.2.2.2⟩
        have ec1 : cell1 S i = sH S i := by unfold cell1; rw [if_neg (by omega)]
        have ec2 : cell2 S i = sB S i := by unfold cell2; rw [if_neg (by omega)]
        have mo2 : ∀ v, RM C S v f a b e → ∃ v2, RM C S v2 (opS C (sK S i) (sH S i) (nI (sB S i)) f).1 (a + 1) b e ∧ Fr pRM v v2 ∧ f_X10_goesSteps_2 3000 (f_X10_goesSteps 3000 Y) (m + 1 + 1) 842 (nI (3 * j)) (nI (3 * i)) v = (if (opS C (sK S i) (sH S i) (nI (sB S i)) f).2 = 0 then (f_X10_goesSteps_2 3000 (f_X10_goesSteps 3000 Y) (m + 1) 842 (nI (3 * j)) (nI (3 * (i + 1))) (sS v2 (11041, 842) (rS v2 (11041, 842) + 1))) else (f_X10_goesSteps_2 3000 (f_X10_goesSteps 3000 Y) (m + 1) 842 (nI (3 * j)) (nI (3 * (i + 1))) (sS v2 (11040, 842) (rS v2 (11040, 842) + 1)))) := by
          intro v hv
          obtain ⟨v1, V1, F2, E2⟩ := mo v hv
          obtain ⟨v2, y1, y2, y3⟩ := goes_M (fu := 3000) (k := sK S i) (h := sH S i) (b := nI (sB S i)) hw V1.1 (by omega) (by omega) o2
          rw [V1.2.1] at y1 y3
          refine ⟨v2, ⟨V1.1.fr y2 okSM, y3, ?_, (y2.2.1 (11039, 842) rfl).trans V1.2.2.2.1, (y2.2.1 (11040, 842) rfl).trans V1.2.2.2.2.1, (y2.2.1 (11041, 842) rfl).trans V1.2.2.2.2.2⟩, F2.tr y2.rm, ?_⟩
          · rw [y2.1 (1018, 842) rfl]
            exact V1.2.2.1
          · rw [E2, if_neg n9m, ec1, ec2, y1, bnd_some]
        by_cases c0 : (opS C (sK S i) (sH S i) (nI (sB S i)) f).2 = 0
        · rw [if_pos c0]
          have R3 := (R2.c6 b).c7 (e + 1)
          have em : sS (sS w2 (10706, 3) (rS w2 (10706, 3) + 0)) (10707, 3) (rS w2 (10707, 3) + 1) = sS (sS w2 (10706, 3) (nI b)) (10707, 3) (nI (e + 1)) := by
            rw [R2.2.2.2.2.2.1, R2.2.2.2.2.2.2, Int32.add_zero, naddL]
          rw [em]
          obtain ⟨f3, a3, b3, e3, u3, z1, z2, z3, z4, z5⟩ := ih d (i + 1) j X Y (k + 1) n m _ _ _ _ _ hB hj hd hX hY (by omega) (by omega) (by omega) R3 (by omega)
          refine ⟨f3, a3, b3, e3, u3, z1, z2, z3, ((F1.tr x2.rc).tr ((fr6 _ _).tr (fr7 _ _)).c7).tr z4, fun v hv => ?_⟩
          obtain ⟨v2, V2, G2, E2⟩ := mo2 v hv
          obtain ⟨v3, q1, q2, q3⟩ := z5 _ (V2.c7 (e + 1))
          refine ⟨v3, ?_, q2, (G2.tr (fq7 _ _).m7).tr q3⟩
          show f_X10_goesSteps_2 3000 (f_X10_goesSteps 3000 Y) (m + 1 + 1) 842 (nI (3 * j)) (nI (3 * i)) v = _
          rw [E2, if_pos c0, V2.2.2.2.2.2, naddL]
          exact q1
        · rw [if_neg c0]
          have R3 := (R2.c6 (b + 1)).c7 e
          have em : sS (sS w2 (10706, 3) (rS w2 (10706, 3) + 1)) (10707, 3) (rS w2 (10707, 3) + 0) = sS (sS w2 (10706, 3) (nI (b + 1))) (10707, 3) (nI e) := by
            rw [R2.2.2.2.2.2.1, R2.2.2.2.2.2.2, Int32.add_zero, naddL]
          rw [em]
          obtain ⟨f3, a3, b3, e3, u3, z1, z2, z3, z4, z5⟩ := ih d (i + 1) j X Y (k + 1) n m _ _ _ _ _ hB hj hd hX hY (by omega) (by omega) (by omega) R3 (by omega)
          refine ⟨f3, a3, b3, e3, u3, z1, z2, z3, ((F1.tr x2.rc).tr ((fr6 _ _).tr (fr7 _ _)).c7).tr z4, fun v hv => ?_⟩
          obtain ⟨v2, V2, G2, E2⟩ := mo2 v hv
          obtain ⟨v3, q1, q2, q3⟩ := z5 _ (V2.c6 (b + 1))
          refine ⟨v3, ?_, q2, (G2.tr (fq6 _ _).m7).tr q3⟩
          show f_X10_goesSteps_2 3000 (f_X10_goesSteps 3000 Y) (m + 1 + 1) 842 (nI (3 * j)) (nI (3 * i)) v = _
          rw [E2, if_neg c0, V2.2.2.2.2.1, naddL]
          exact q1
      · have e9 : nI (kcl (sK S i)) = (9 : Int32) := by rw [k9]; rfl
        have e9m : nI (sK S i) = (9 : Int32) := by rw [k9]; rfl
        have ec2 : cell2 S i = 3 * sE S i := by unfold cell2; rw [if_pos k9]
        obtain ⟨X, rfl⟩ : ∃ x, X = x + 2 := ⟨X - 2, by omega⟩
        obtain ⟨Y, rfl⟩ : ∃ y, Y = y + 1 := ⟨Y - 1, by omega⟩
        have row : ∀ u f a b e, RC C c l S u f a b e → a ≤ 200 → rnO C c l S u f a b e (f_X7_runRow 3000 (X + 1) 3 (nI (i + 1)) (nI (sE S i)) (nI (d + 1)) 9 c l u) (fun v => f_X10_goesSteps 3000 (Y + 1) 842 (nI (3 * (i + 1))) (nI (3 * sE S i)) v) := by
          intro u f a b e hR ha
          exact ih (d + 1) (i + 1) (sE S i) X Y 0 2999 2999 u f a b e hB1 (by omega) (by omega) (by omega) (by omega) (by omega) (by omega) (by omega) hR ha
        obtain ⟨f2, a2, b2, e2, u2, y1, y2, y3, y4, y5⟩ := run_again (d := d + 1) (f_X7_runRow 3000 (X + 1)) (f_X7_runAgain 3000 (X + 1)) (f_X10_goesSteps 3000 (Y + 1)) hi h50 k9 rfl (o5 k9) (by omega) (by omega) row (sB S i) 0 2999 2999 w1 f (a + 1) b e (by omega) (by have := o5 k9; omega) (by have := o5 k9; omega) R1 (by omega)
        have y1 : f_X7_runAgain 3000 (X + 2) 3 (nI i) (nI (d + 1)) 9 c l w1 = some ((), u2) := y1
        have e704 : rA u2 (704, 3) (nI i) = nI (sE S i) := by
          rw [rAn _ _ _ (by omega)]
          rcases (y2.2.2.2.1.2 i hi).2.2.2 k9 with h | h
          · omega
          · exact h
        rw [if_pos e9, naddL, y1, bnd_some, e704]
        obtain ⟨f3, a3, b3, e3, u3, z1, z2, z3, z4, z5⟩ := ih d (sE S i) j (X + 2) (Y + 1) (k + 1) n m _ _ _ _ _ hB2 hj hd hX hY (by omega) (by omega) (by omega) y2 y3
        refine ⟨f3, a3, b3, e3, u3, z1, z2, z3, (F1.tr y4).tr z4, fun v hv => ?_⟩
        obtain ⟨v1, V1, F2, E2⟩ := mo v hv
        obtain ⟨v2, q1, q2, q3⟩ := y5 v1 V1
        obtain ⟨v3, g1, g2, g3⟩ := z5 v2 q2
        refine ⟨v3, ?_, g2, (F2.tr q3).tr g3⟩
        show f_X10_goesSteps_2 3000 (f_X10_goesSteps 3000 (Y + 1)) (m + 1 + 1) 842 (nI (3 * j)) (nI (3 * i)) v = _
        rw [E2, if_pos e9m, ec2]
        exact (q1 _ _).trans g1
    · have c3 : ¬ nI a < (200 : Int32) := by rw [nltL _ _ (by omega) (by decide)]; exact c2
      have h0 : f_X7_runRow_6 3000 (f_X7_runRow 3000 X) (f_X7_runAgain 3000 X) (n + 1 + 1) 3 (nI j) (nI d) 9 c l (nI i) (nI k) u = some ((), u) := by
        rw [E_X7_runRow_6, if_pos l1, if_pos l2, eN, if_pos l3, hR.2.2.2.2.1, if_neg c3]
      rw [h0]
      refine rnO.stay hR ha (fun v hv => ?_)
      show f_X10_goesSteps_2 3000 (f_X10_goesSteps 3000 Y) (m + 1 + 1) 842 (nI (3 * j)) (nI (3 * i)) v = _
      rw [E_X10_goesSteps_2, if_pos l4, hv.2.2.2.1, if_neg c3]
