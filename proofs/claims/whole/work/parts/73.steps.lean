/-! work: a program of steps in both memories -/
abbrev STP : Type := Nat × ((Nat → Nat) × ((Nat → Nat) × ((Nat → Nat) × (Nat → Nat))))
def sN (S : STP) : Nat := S.1
def sK (S : STP) : Nat → Nat := S.2.1
def sH (S : STP) : Nat → Nat := S.2.2.1
def sB (S : STP) : Nat → Nat := S.2.2.2.1
def sE (S : STP) : Nat → Nat := S.2.2.2.2
def S0 : STP := (0, (fun _ => 0, (fun _ => 0, (fun _ => 0, fun _ => 0))))
/-- one step more; a step that is no again ends where it stands -/
def pushS (S : STP) (k h b : Nat) : STP := (sN S + 1, (updN (sK S) (sN S) k, (updN (sH S) (sN S) h, (updN (sB S) (sN S) b, updN (sE S) (sN S) (sN S + 1)))))
def endS (S : STP) (i : Nat) : STP := (sN S, (sK S, (sH S, (sB S, updN (sE S) i (sN S)))))
/-- the class's rows of steps, and the model's cells (scratch 1017 or kept 1018) -/
def SC (u : MEM) (S : STP) : Prop := rS u (10704, 3) = nI (sN S) ∧ ∀ i < sN S, fA u (701, 3) i = nI (kcl (sK S i)) ∧ fA u (702, 3) i = nI (sH S i) ∧ fA u (703, 3) i = nI (sB S i) ∧ (sK S i = 9 → sE S i = 0 ∨ fA u (704, 3) i = nI (sE S i))
def cell1 (S : STP) (i : Nat) : Nat := if sK S i = 9 then sB S i else sH S i
def cell2 (S : STP) (i : Nat) : Nat := if sK S i = 9 then 3 * sE S i else sB S i
def SMc (g : Nat → Int32) (S : STP) : Prop := ∀ i < sN S, g (3 * i) = nI (sK S i) ∧ g (3 * i + 1) = nI (cell1 S i) ∧ g (3 * i + 2) = nI (cell2 S i)
def okS (H : Nat) (S : STP) (i : Nat) : Prop := sK S i < 10 ∧ (sK S i < 7 → sH S i < H) ∧ (7 ≤ sK S i → sH S i = 0) ∧ (sK S i = 6 → sB S i ≤ 9) ∧ (sK S i = 9 → sB S i ≤ 30) ∧ (sK S i ≠ 6 → sK S i ≠ 9 → sB S i = 0)
def Blk (S : STP) : Nat → Nat → Nat → Nat → Prop
  | 0, _, i, j => i = j
  | f + 1, d, i, j => i = j ∨ (i < j ∧ ((sK S i < 9 ∧ Blk S f d (i + 1) j) ∨ (sK S i = 9 ∧ d < 6 ∧ i + 1 ≤ sE S i ∧ sE S i ≤ j ∧ Blk S f (d + 1) (i + 1) (sE S i) ∧ Blk S f d (sE S i) j)))
theorem Blk.le {S : STP} : ∀ f d i j, Blk S f d i j → i ≤ j
  | 0, d, i, j, h => Nat.le_of_eq h
  | f + 1, d, i, j, h => by
    rcases h with h | ⟨h, _⟩
    · omega
    · omega
theorem Blk.mono {S : STP} : ∀ f d i j, Blk S f d i j → Blk S (f + 1) d i j
  | 0, d, i, j, h => Or.inl h
  | f + 1, d, i, j, h => by
    rcases h with h | ⟨h, ⟨h1, h2⟩ | ⟨h1, h2, h3, h4, h5, h6⟩⟩
    · exact Or.inl h
    · exact Or.inr ⟨h, Or.inl ⟨h1, Blk.mono f d (i + 1) j h2⟩⟩
    · exact Or.inr ⟨h, Or.inr ⟨h1, h2, h3, h4, Blk.mono f (d + 1) (i + 1) (sE S i) h5, Blk.mono f d (sE S i) j h6⟩⟩
theorem Blk.up {S : STP} {f d i j : Nat} (h : Blk S f d i j) : ∀ k, Blk S (f + k) d i j
  | 0 => h
  | k + 1 => Blk.mono (f + k) d i j (h.up k)
theorem Blk.to {S : STP} {f g d i j : Nat} (h : Blk S f d i j) (hg : f ≤ g) : Blk S g d i j := by
  have := h.up (g - f)
  rw [show f + (g - f) = g by omega] at this
  exact this
def sameS (S S1 : STP) (a b : Nat) : Prop := ∀ i, a ≤ i → i < b → sK S1 i = sK S i ∧ sH S1 i = sH S i ∧ sB S1 i = sB S i ∧ sE S1 i = sE S i
theorem sameS.rf (S : STP) (a b : Nat) : sameS S S a b := fun i _ _ => ⟨rfl, rfl, rfl, rfl⟩
theorem sameS.tr {S S1 S2 : STP} {a b : Nat} (h : sameS S S1 a b) (g : sameS S1 S2 a b) : sameS S S2 a b := fun i h1 h2 => by
  obtain ⟨x1, x2, x3, x4⟩ := h i h1 h2
  obtain ⟨y1, y2, y3, y4⟩ := g i h1 h2
  exact ⟨y1.trans x1, y2.trans x2, y3.trans x3, y4.trans x4⟩
theorem sameS.sub {S S1 : STP} {a b c e : Nat} (h : sameS S S1 a b) (h1 : a ≤ c) (h2 : e ≤ b) : sameS S S1 c e := fun i g1 g2 => h i (by omega) (by omega)
theorem Blk.same {S S1 : STP} : ∀ f d i j, sameS S S1 i j → Blk S f d i j → Blk S1 f d i j
  | 0, d, i, j, g, h => h
  | f + 1, d, i, j, g, h => by
    rcases h with h | ⟨h, ⟨h1, h2⟩ | ⟨h1, h2, h3, h4, h5, h6⟩⟩
    · exact Or.inl h
    · obtain ⟨x1, x2, x3, x4⟩ := g i (Nat.le_refl _) h
      exact Or.inr ⟨h, Or.inl ⟨by omega, Blk.same f d (i + 1) j (g.sub (by omega) (by omega)) h2⟩⟩
    · obtain ⟨x1, x2, x3, x4⟩ := g i (Nat.le_refl _) h
      refine Or.inr ⟨h, Or.inr ⟨by omega, h2, by omega, by omega, ?_, ?_⟩⟩
      · rw [x4]
        exact Blk.same f (d + 1) (i + 1) (sE S i) (g.sub (by omega) (by omega)) h5
      · rw [x4]
        exact Blk.same f d (sE S i) j (g.sub (by omega) (by omega)) h6
theorem okS.same {H : Nat} {S S1 : STP} {a b i : Nat} (g : sameS S S1 a b) (h1 : a ≤ i) (h2 : i < b) (h : okS H S i) : okS H S1 i := by
  obtain ⟨x1, x2, x3, x4⟩ := g i h1 h2
  unfold okS
  rw [x1, x2, x3]
  exact h
theorem pushS_same (S : STP) (k h b : Nat) (a : Nat) : sameS S (pushS S k h b) a (sN S) := fun i _ h2 => ⟨if_neg (by omega), if_neg (by omega), if_neg (by omega), if_neg (by omega)⟩
theorem pushS_at (S : STP) (k h b : Nat) : sK (pushS S k h b) (sN S) = k ∧ sH (pushS S k h b) (sN S) = h ∧ sB (pushS S k h b) (sN S) = b ∧ sE (pushS S k h b) (sN S) = sN S + 1 := ⟨if_pos rfl, if_pos rfl, if_pos rfl, if_pos rfl⟩
theorem endS_same (S : STP) (i : Nat) (a b : Nat) (h : b ≤ i ∨ i < a) : sameS S (endS S i) a b := fun j h1 h2 => ⟨rfl, rfl, rfl, if_neg (by omega)⟩
theorem endS_at (S : STP) (i : Nat) : sE (endS S i) i = sN S := if_pos rfl
theorem tells_F {v : MEM} {k q : Nat} (x y z : Int32) (h : TFM v k q) : f_X10_tellsStep 3000 842 x y z v = some ((), v) := by
  rw [E_X10_tellsStep, M_fineF h, bnd_some, if_pos rfl]
def p17 (a : LA) : Bool := (Nat.beq a.1 1017 || Nat.beq a.1 11036) && Nat.beq a.2 842
theorem tells_M {v : MEM} {T : Nat → Nat} {N p n : Nat} (x y z : Int32) (hT : TXM v T N p) (hn : rS v (11036, 842) = nI (3 * n)) (h : 3 * n + 3 ≤ 150) : ∃ v1, f_X10_tellsStep 3000 842 x y z v = some ((), v1) ∧ TXM v1 T N p ∧ rS v1 (11036, 842) = nI (3 * (n + 1)) ∧ fA v1 (1017, 842) = upd (upd (upd (fA v (1017, 842)) (3 * n) x) (3 * n + 1) y) (3 * n + 2) z ∧ Fr p17 v v1 := by
  have e4 : ∀ (w : MEM) G, fA (tA w (1017, 842) G) (1017, 842) = G := fun w G => by rw [fA_tA, if_pos rfl]
  refine ⟨sS (tA v (1017, 842) (upd (upd (upd (fA v (1017, 842)) (3 * n) x) (3 * n + 1) y) (3 * n + 2) z)) (11036, 842) (nI (3 * (n + 1))), ?_, hT, by rw [rS_sS, if_pos rfl], by rw [fA_sS, e4], Fr.S (a := (11036, 842)) (Fr.A (a := (1017, 842)) (Fr.rf _ _) _ rfl) _ rfl⟩
  rw [E_X10_tellsStep, M_fine hT.2.2.2.2.1, bnd_some, if_neg (by decide), hn, bIn _ _ (by omega), decide_eq_true (show 3 * n < 150 by omega), ck_tr, sAn _ _ _ _ (by omega), lt_eq, rS_tA, hn, naddL, bIn _ _ (by omega), decide_eq_true (show 3 * n + 1 < 150 by omega), ck_tr, sAn _ _ _ _ (by omega), lt_eq, rS_tA, rS_tA, hn, naddL, bIn _ _ (by omega), decide_eq_true (show 3 * n + 2 < 150 by omega), ck_tr, sAn _ _ _ _ (by omega), lt_eq, rS_tA, rS_tA, rS_tA, hn, naddL, lt_eq, e4, tA_tA, e4, tA_tA]
  rfl
