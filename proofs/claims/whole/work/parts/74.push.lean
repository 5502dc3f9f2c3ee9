/-! work: one step more, in both memories -/
def pWa (a : LA) : Bool := pTx a || ((Nat.beq a.1 701 || (Nat.beq a.1 702 || (Nat.beq a.1 703 || (Nat.beq a.1 704 || Nat.beq a.1 10704)))) && Nat.beq a.2 3)
def pWm (a : LA) : Bool := pTm a || ((Nat.beq a.1 1017 || (Nat.beq a.1 11036 || Nat.beq a.1 11007)) && Nat.beq a.2 842)
theorem Fr.wa {w w1 : MEM} (g : Fr pTx w w1) : Fr pWa w w1 := g.mono (fun a h => by unfold pWa; rw [h, Bool.true_or])
theorem Fr.wm {w w1 : MEM} (g : Fr pTm w w1) : Fr pWm w w1 := g.mono (fun a h => by unfold pWm; rw [h, Bool.true_or])
theorem p17_pWm (a : LA) (h : p17 a = true) : pWm a = true := by
  obtain ⟨t, i⟩ := a
  obtain ⟨h1, h2⟩ := and_t (a := (Nat.beq t 1017 || Nat.beq t 11036)) h
  have h3 : i = 842 := Nat.eq_of_beq_eq_true h2
  subst h3
  rcases or_t h1 with e | e
  · have := Nat.eq_of_beq_eq_true e; subst this; rfl
  · have := Nat.eq_of_beq_eq_true e; subst this; rfl
theorem SC.fr {u u1 : MEM} {S : STP} (h : SC u S) (g : Fr pTx u u1) : SC u1 S := by
  unfold SC
  rw [g.2.1 (10704, 3) rfl, g.1 (701, 3) rfl, g.1 (702, 3) rfl, g.1 (703, 3) rfl, g.1 (704, 3) rfl]
  exact h
def SMg (v : MEM) (S : STP) : Prop := rS v (11036, 842) = nI (3 * sN S) ∧ SMc (fA v (1017, 842)) S
theorem SMg.fr {v v1 : MEM} {S : STP} (h : SMg v S) (g : Fr pTm v v1) : SMg v1 S := by
  unfold SMg
  rw [g.2.1 (11036, 842) rfl, g.1 (1017, 842) rfl]
  exact h
def w31 (u : MEM) (n : Nat) (k : Int32) : MEM := tA (tA (tA (tA (sS u (10704, 3) (nI (n + 1))) (701, 3) (upd (fA u (701, 3)) n k)) (702, 3) (upd (fA u (702, 3)) n 0)) (703, 3) (upd (fA u (703, 3)) n 0)) (704, 3) (upd (fA u (704, 3)) n (nI (n + 1)))
theorem w31_fr (u : MEM) (n : Nat) (k : Int32) : Fr pWa u (w31 u n k) := Fr.A (a := (704, 3)) (Fr.A (a := (703, 3)) (Fr.A (a := (702, 3)) (Fr.A (a := (701, 3)) (Fr.S (a := (10704, 3)) (Fr.rf _ _) _ rfl) _ rfl) _ rfl) _ rfl) _ rfl
theorem w31_SC {u : MEM} {S : STP} (hS : SC u S) (m : Nat) : SC (w31 u (sN S) (nI (kcl m))) (pushS S m 0 0) := by
  refine ⟨rfl, ?_⟩
  intro i hi
  have hi : i < sN S + 1 := hi
  show upd (fA u (701, 3)) (sN S) (nI (kcl m)) i = nI (kcl (updN (sK S) (sN S) m i)) ∧ upd (fA u (702, 3)) (sN S) 0 i = nI (updN (sH S) (sN S) 0 i) ∧ upd (fA u (703, 3)) (sN S) 0 i = nI (updN (sB S) (sN S) 0 i) ∧ (updN (sK S) (sN S) m i = 9 → updN (sE S) (sN S) (sN S + 1) i = 0 ∨ upd (fA u (704, 3)) (sN S) (nI (sN S + 1)) i = nI (updN (sE S) (sN S) (sN S + 1) i))
  rw [upd_eq, upd_eq, upd_eq, upd_eq, updN_eq, updN_eq, updN_eq, updN_eq]
  by_cases c : i = sN S
  · rw [if_pos c, if_pos c, if_pos c, if_pos c, if_pos c, if_pos c, if_pos c, if_pos c]
    exact ⟨rfl, rfl, rfl, fun _ => Or.inr rfl⟩
  · rw [if_neg c, if_neg c, if_neg c, if_neg c, if_neg c, if_neg c, if_neg c, if_neg c]
    exact hS.2 i (by omega)
theorem SC.h {u : MEM} {S : STP} {m h b : Nat} (hS : SC u (pushS S m h b)) (x : Nat) : SC (tA u (702, 3) (upd (fA u (702, 3)) (sN S) (nI x))) (pushS S m x b) := by
  refine ⟨hS.1, ?_⟩
  intro i hi
  have hi : i < sN S + 1 := hi
  obtain ⟨g1, g2, g3, g4⟩ := hS.2 i hi
  refine ⟨g1, ?_, g3, g4⟩
  have g2 : fA u (702, 3) i = nI (updN (sH S) (sN S) h i) := g2
  show upd (fA u (702, 3)) (sN S) (nI x) i = nI (updN (sH S) (sN S) x i)
  rw [upd_eq, updN_eq]
  rw [updN_eq] at g2
  by_cases c : i = sN S
  · rw [if_pos c, if_pos c]
  · rw [if_neg c, if_neg c]
    rw [if_neg c] at g2
    exact g2
theorem SC.b {u : MEM} {S : STP} {m h b : Nat} (hS : SC u (pushS S m h b)) (x : Nat) : SC (tA u (703, 3) (upd (fA u (703, 3)) (sN S) (nI x))) (pushS S m h x) := by
  refine ⟨hS.1, ?_⟩
  intro i hi
  have hi : i < sN S + 1 := hi
  obtain ⟨g1, g2, g3, g4⟩ := hS.2 i hi
  refine ⟨g1, g2, ?_, g4⟩
  have g3 : fA u (703, 3) i = nI (updN (sB S) (sN S) b i) := g3
  show upd (fA u (703, 3)) (sN S) (nI x) i = nI (updN (sB S) (sN S) x i)
  rw [upd_eq, updN_eq]
  rw [updN_eq] at g3
  by_cases c : i = sN S
  · rw [if_pos c, if_pos c]
  · rw [if_neg c, if_neg c]
    rw [if_neg c] at g3
    exact g3
theorem push_M {v : MEM} {T : Nat → Nat} {N p : Nat} {S : STP} (m h b : Nat) (hm : m < 9) (hT : TXM v T N p) (hS : SMg v S) (h50 : 3 * sN S + 3 ≤ 150) : ∃ v1, f_X10_tellsStep 3000 842 (nI m) (nI h) (nI b) v = some ((), v1) ∧ TXM v1 T N p ∧ SMg v1 (pushS S m h b) ∧ rS v1 (11007, 842) = rS v (11007, 842) ∧ Fr pWm v v1 := by
  obtain ⟨v1, k1, k2, k3, k4, k5⟩ := tells_M (nI m) (nI h) (nI b) hT hS.1 h50
  refine ⟨v1, k1, k2, ⟨k3, ?_⟩, k5.2.1 _ rfl, k5.mono p17_pWm⟩
  intro i hi
  have hi : i < sN S + 1 := hi
  rw [k4]
  have c1 : cell1 (pushS S m h b) i = if i = sN S then h else cell1 S i := by
    unfold cell1
    show (if updN (sK S) (sN S) m i = 9 then updN (sB S) (sN S) b i else updN (sH S) (sN S) h i) = _
    rw [updN_eq, updN_eq, updN_eq]
    by_cases c : i = sN S
    · rw [if_pos c, if_pos c, if_pos c, if_pos c, if_neg (by omega)]
    · rw [if_neg c, if_neg c, if_neg c, if_neg c]
  have c2 : cell2 (pushS S m h b) i = if i = sN S then b else cell2 S i := by
    unfold cell2
    show (if updN (sK S) (sN S) m i = 9 then 3 * updN (sE S) (sN S) (sN S + 1) i else updN (sB S) (sN S) b i) = _
    rw [updN_eq, updN_eq, updN_eq]
    by_cases c : i = sN S
    · rw [if_pos c, if_pos c, if_pos c, if_pos c, if_neg (by omega)]
    · rw [if_neg c, if_neg c, if_neg c, if_neg c]
  have c0 : sK (pushS S m h b) i = if i = sN S then m else sK S i := rfl
  rw [c0, c1, c2, upd_eq, upd_eq, upd_eq, upd_eq, upd_eq, upd_eq, upd_eq, upd_eq, upd_eq, if_neg (show ¬ 3 * i = 3 * sN S + 2 by omega), if_neg (show ¬ 3 * i = 3 * sN S + 1 by omega), if_neg (show ¬ 3 * i + 1 = 3 * sN S + 2 by omega), if_neg (show ¬ 3 * i + 1 = 3 * sN S by omega), if_neg (show ¬ 3 * i + 2 = 3 * sN S + 1 by omega), if_neg (show ¬ 3 * i + 2 = 3 * sN S by omega)]
  by_cases c : i = sN S
  · rw [if_pos c, if_pos c, if_pos c, if_pos (by omega), if_pos (by omega), if_pos (by omega)]
    exact ⟨rfl, rfl, rfl⟩
  · rw [if_neg c, if_neg c, if_neg c, if_neg (by omega), if_neg (by omega), if_neg (by omega)]
    exact hS.2 i (by omega)
