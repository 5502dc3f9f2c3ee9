/-! work: the outcome of reading steps; a plain step -/
def stO (H : Nat) (T : Nat → Nat) (N p d p0 n0 : Nat) (S : STP) (u : MEM) (x : Option (Int32 × MEM)) (M : MEM → Option (Unit × MEM)) : Prop :=
  (∃ S1 r u1 f, x = some (1, u1) ∧ Fr pWa u u1 ∧ TXC u1 T N r ∧ SC u1 S1 ∧ sameS S S1 0 (sN S) ∧ (∀ i, sN S ≤ i → i < sN S1 → okS H S1 i) ∧ Blk S1 f d (sN S) (sN S1) ∧ p0 < r ∧ 3 * sN S1 + p0 ≤ 3 * n0 + r ∧ ∀ v, TXM v T N p → SMg v S → rS v (11007, 842) = nI d → rS v (11022, 842) = nI H → ∃ v1, M v = some ((), v1) ∧ TXM v1 T N r ∧ SMg v1 S1 ∧ rS v1 (11007, 842) = nI d ∧ Fr pWm v v1)
  ∨ (∃ e q u1, x = some (0, u1) ∧ Fr pWa u u1 ∧ TFC u1 e q ∧ ∀ v, TXM v T N p → SMg v S → rS v (11007, 842) = nI d → rS v (11022, 842) = nI H → ∃ v1, M v = some ((), v1) ∧ TFM v1 e q ∧ Fr pWm v v1)
def semi (x : Option (Int32 × MEM)) : Option (Int32 × MEM) := bnd x fun (x4 : Int32) (w3 : MEM) => if x4 = 0 then (some ((0 : Int32), w3)) else (f_X8_needSign 3000 1 (59 : Int32) w3)
theorem leafEnd {H : Nat} {T : Nat → Nat} {N p r0 d p0 : Nat} {S : STP} {m h b : Nat} {u u3 : MEM} {M : MEM → Option (Unit × MEM)} (hm : m < 9) (hN : N ≤ 600) (f : Fr pWa u u3) (hT : TXC u3 T N r0) (hS : SC u3 (pushS S m h b)) (hr : p0 + 2 ≤ r0) (ok : okS H (pushS S m h b) (sN S)) (hM : ∀ v, TXM v T N p → SMg v S → rS v (11022, 842) = nI H → ∃ v3, TXM v3 T N r0 ∧ SMg v3 (pushS S m h b) ∧ rS v3 (11007, 842) = rS v (11007, 842) ∧ Fr pWm v v3 ∧ M v = bnd (f_X10_sign 3000 842 (59 : Int32) v3) fun (u28 : Unit) (w27 : MEM) => some ((), w27)) : stO H T N p d p0 (sN S) S u (semi (some (1, u3))) M := by
  obtain ⟨q, y⟩ := sk_ex T N N r0 hT.2.1 (by omega)
  have y1 := y.1
  have es : semi (some (1, u3)) = f_X8_needSign 3000 1 (59 : Int32) u3 := by
    unfold semi
    rw [bnd_some, if_neg (by decide)]
  rw [es]
  rcases C_sign (c := 59) hT y (by omega) with ⟨z1, z2, u5, z3, z4, z5⟩ | ⟨z1, u5, z3, z4, z5⟩
  · have z3 : f_X8_needSign 3000 1 (59 : Int32) u3 = some (1, u5) := z3
    refine Or.inl ⟨pushS S m h b, q + 1, u5, 1, z3, f.tr z5.wa, z4, hS.fr z5, pushS_same S m h b 0, ?_, ?_, by omega, ?_, ?_⟩
    · intro i h1 h2
      have h2 : i < sN S + 1 := h2
      have : i = sN S := by omega
      rw [this]; exact ok
    · have e : sK (pushS S m h b) (sN S) = m := (pushS_at S m h b).1
      exact Or.inr ⟨Nat.lt_succ_self _, Or.inl ⟨by rw [e]; exact hm, rfl⟩⟩
    · show 3 * (sN S + 1) + p0 ≤ 3 * sN S + (q + 1)
      omega
    · intro v hv hP hd hH
      obtain ⟨v3, b1, b2, b3, b4, b5⟩ := hM v hv hP hH
      rcases M_sign (c := 59) b1 y (by omega) (by omega) with ⟨x1, x2, v5, x3, x4, x5⟩ | ⟨x1, v5, x3, x4, x5⟩
      · have x3 : f_X10_sign 3000 842 (59 : Int32) v3 = some ((), v5) := x3
        exact ⟨v5, by rw [b5, x3, bnd_some], x4, b2.fr x5, ((x5.2.1 _ rfl).trans b3).trans hd, b4.tr x5.wm⟩
      · exact absurd ⟨z1, z2⟩ x1
  · have z3 : f_X8_needSign 3000 1 (59 : Int32) u3 = some (0, u5) := z3
    refine Or.inr ⟨1, q, u5, z3, f.tr z5.wa, z4, ?_⟩
    intro v hv hP hd hH
    obtain ⟨v3, b1, b2, b3, b4, b5⟩ := hM v hv hP hH
    rcases M_sign (c := 59) b1 y (by omega) (by omega) with ⟨x1, x2, v5, x3, x4, x5⟩ | ⟨x1, v5, x3, x4, x5⟩
    · exact absurd ⟨x1, x2⟩ z1
    · have x3 : f_X10_sign 3000 842 (59 : Int32) v3 = some ((), v5) := x3
      exact ⟨v5, by rw [b5, x3, bnd_some], x4, b4.tr x5.wm⟩
theorem c31 {u : MEM} {S : STP} {x d : Int32} (m : Nat) (cR cS : Nat → Nat → Int32 → Int32 → MEM → Option (Int32 × MEM)) (cA : Nat → Nat → Int32 → Int32 → Int32 → MEM → Option (Int32 × MEM)) (hS : SC u S) (h : sN S < 150) : f_X7_readStep_31 3000 cR cS cA 3 1 x d (nI (kcl m)) u = (if nI (kcl m) = (7 : Int32) then (some ((1 : Int32), w31 u (sN S) (nI (kcl m)))) else (if nI (kcl m) = (8 : Int32) then (some ((1 : Int32), w31 u (sN S) (nI (kcl m)))) else (if nI (kcl m) = (9 : Int32) then (bnd (cA 3 1 x (d + (1 : Int32)) (nI (sN S)) (w31 u (sN S) (nI (kcl m)))) fun (x14 : Int32) (w13 : MEM) => ck (b01 x14) (some (x14, w13))) else (bnd (f_X8_number 3000 1 (0 : Int32) (x - (1 : Int32)) (w31 u (sN S) (nI (kcl m)))) fun (x8 : Int32) (w7 : MEM) => lt (tA w7 (702, 3) (upd (fA w7 (702, 3)) (sN S) x8)) fun (w9 : MEM) => if nI (kcl m) = (6 : Int32) then (if x8 = (-1 : Int32) then (if x8 = (-1 : Int32) then (some ((0 : Int32), w9)) else (some ((1 : Int32), w9))) else (bnd (f_X8_number 3000 1 (0 : Int32) (9 : Int32) w9) fun (x11 : Int32) (w10 : MEM) => lt (tA w10 (703, 3) (upd (fA w10 (703, 3)) (sN S) x11)) fun (w12 : MEM) => if x11 = (-1 : Int32) then (some ((0 : Int32), w12)) else (some ((1 : Int32), w12)))) else (if x8 = (-1 : Int32) then (some ((0 : Int32), w9)) else (some ((1 : Int32), w9))))))) := by
  have e0 := hS.1
  have e4 : ∀ (w : MEM) (a : LA) G, fA (tA w a G) a = G := fun w a G => by rw [fA_tA, if_pos rfl]
  have ea : ∀ k : Option (Int32 × MEM), ck (bI (nI (sN S)) 150) k = k := fun k => by rw [bIn _ _ (by omega), decide_eq_true h, ck_tr]
  have es : ∀ (w : MEM) (a : LA) v, sA w a (nI (sN S)) v = tA w a (upd (fA w a) (sN S) v) := fun w a v => sAn _ _ _ _ (by omega)
  have er : ∀ (w : MEM) (a : LA), rA w a (nI (sN S)) = fA w a (sN S) := fun w a => rAn _ _ _ (by omega)
  rw [E_X7_readStep_31, e0, if_pos (by rw [nltL _ _ (by omega) (by decide)]; exact h), lt_eq, naddL, lt_eq]
  simp only [ea, es, lt_eq, er, e4, upd_at]
  have hw : w31 u (sN S) (nI (kcl m)) = tA (tA (tA (tA (sS u (10704, 3) (nI (sN S + 1))) (701, 3) (upd (fA u (701, 3)) (sN S) (nI (kcl m)))) (702, 3) (upd (fA u (702, 3)) (sN S) 0)) (703, 3) (upd (fA u (703, 3)) (sN S) 0)) (704, 3) (upd (fA u (704, 3)) (sN S) (nI (sN S + 1))) := rfl
  rw [hw]
  by_cases c6 : nI (kcl m) = (6 : Int32)
  · simp only [c6, if_true]
    rfl
  · simp only [c6, if_false]
    rfl
