/-! work: a row of steps, for any loop of the model -/
def rwO {α : Type} (H : Nat) (T : Nat → Nat) (N p d p0 n0 : Nat) (S : STP) (u : MEM) (b : Nat) (x : Option (Int32 × MEM)) (L : Nat → MEM → Option (α × MEM)) : Prop :=
  (∃ S1 r p1 u1 f k, k ≤ b ∧ x = some (1, u1) ∧ Fr pWa u u1 ∧ TXC u1 T N r ∧ SK T N p1 r ∧ (r = N ∨ (r < N ∧ T r = 93)) ∧ SC u1 S1 ∧ sameS S S1 0 (sN S) ∧ (∀ i, sN S ≤ i → i < sN S1 → okS H S1 i) ∧ Blk S1 f d (sN S) (sN S1) ∧ sN S ≤ sN S1 ∧ p0 ≤ r ∧ 3 * sN S1 + p0 ≤ 3 * n0 + r ∧ ∀ v, TXM v T N p → SMg v S → rS v (11007, 842) = nI d → rS v (11022, 842) = nI H → ∃ v1, (∀ n, L (n + k) v = L n v1) ∧ TXM v1 T N p1 ∧ SMg v1 S1 ∧ rS v1 (11007, 842) = nI d ∧ Fr pWm v v1)
  ∨ (∃ e q u1 k, k ≤ b ∧ x = some (0, u1) ∧ Fr pWa u u1 ∧ TFC u1 e q ∧ ∀ v, TXM v T N p → SMg v S → rS v (11007, 842) = nI d → rS v (11022, 842) = nI H → ∃ v1, (∀ n, L (n + k) v = L n v1) ∧ TFM v1 e q ∧ Fr pWm v v1)
theorem Blk.cat {S : STP} : ∀ f g d i j k, Blk S f d i j → Blk S g d j k → ∃ h, Blk S h d i k
  | 0, g, d, i, j, k, h1, h2 => by
    have h1 : i = j := h1
    subst h1
    exact ⟨g, h2⟩
  | f + 1, g, d, i, j, k, h1, h2 => by
    have hl := h2.le
    rcases h1 with h | ⟨h, ⟨a1, a2⟩ | ⟨a1, a2, a3, a4, a5, a6⟩⟩
    · subst h
      exact ⟨g, h2⟩
    · obtain ⟨h3, b⟩ := Blk.cat f g d (i + 1) j k a2 h2
      exact ⟨h3 + 1, Or.inr ⟨by omega, Or.inl ⟨a1, b⟩⟩⟩
    · obtain ⟨h3, b⟩ := Blk.cat f g d (sE S i) j k a6 h2
      refine ⟨(f + h3) + 1, Or.inr ⟨by omega, Or.inr ⟨a1, a2, a3, by omega, a5.to (by omega), b.to (by omega)⟩⟩⟩
theorem Blk.rf (S : STP) (f d i : Nat) : Blk S f d i i := by
  cases f with
  | zero => exact rfl
  | succ f => exact Or.inl rfl
theorem semi_bnd (x : Option (Int32 × MEM)) (K : MEM → Option (Int32 × MEM)) : (bnd x fun (x4 : Int32) (w3 : MEM) => if x4 = 0 then (some ((0 : Int32), w3)) else (bnd (f_X8_needSign 3000 1 (59 : Int32) w3) fun (x6 : Int32) (w5 : MEM) => if x6 = 0 then (some ((0 : Int32), w5)) else K w5)) = bnd (semi x) fun (x6 : Int32) (w5 : MEM) => if x6 = 0 then (some ((0 : Int32), w5)) else K w5 := by
  unfold semi
  cases x with
  | none => rfl
  | some y =>
    obtain ⟨x4, w3⟩ := y
    rw [bnd_some, bnd_some]
    by_cases c : x4 = 0
    · rw [if_pos c, if_pos c, bnd_some, if_pos rfl]
    · rw [if_neg c, if_neg c]
theorem row_loop {α : Type} {H : Nat} {T : Nat → Nat} {N d : Nat} (hN : N ≤ 150) (L : Nat → MEM → Option (α × MEM)) (c : MEM → Option (Unit × MEM)) (cR cS : Nat → Nat → Int32 → Int32 → MEM → Option (Int32 × MEM)) (cA : Nat → Nat → Int32 → Int32 → Int32 → MEM → Option (Int32 × MEM))
    (hS : ∀ p S u, TXC u T N p → SC u S → 3 * sN S ≤ p → SK T N p p → stO H T N p d p (sN S) S u (semi (cS 3 1 (nI H) (nI d) u)) c)
    (hL : ∀ v p q, TXM v T N p → SK T N p q → q < N → T q ≠ 93 → ∃ v1, TXM v1 T N q ∧ Fr pTm v v1 ∧ ∀ n, L (n + 1) v = bnd (c v1) fun (_ : Unit) (w : MEM) => L n w) :
    ∀ b n c0 p S u, b + c0 = 150 → b ≤ n → c0 ≤ p → TXC u T N p → SC u S → 3 * sN S ≤ p → rwO H T N p d p (sN S) S u b (f_X7_readRow_3 3000 cR cS cA (n + 1) 3 1 (nI H) (nI d) (nI c0) u) L := by
  intro b
  induction b with
  | zero =>
    intro n c0 p S u hb hn hc hT hC h3
    have hp := hT.2.1
    have e : p = N := by omega
    rw [E_X7_readRow_3, if_neg (by rw [nltL _ _ (by omega) (by decide)]; show ¬ c0 < 150; omega)]
    refine Or.inl ⟨S, p, p, u, 0, 0, Nat.le_refl _, rfl, Fr.rf _ _, hT, ⟨Nat.le_refl _, hp, fun j h1 h2 => by omega, fun h => by omega⟩, Or.inl e, hC, sameS.rf _ _ _, fun i h1 h2 => by omega, rfl, Nat.le_refl _, Nat.le_refl _, Nat.le_refl _, ?_⟩
    intro v hv hP hd hh
    exact ⟨v, fun n => rfl, hv, hP, hd, Fr.rf _ _⟩
  | succ b ih =>
    intro n c0 p S u hb hn hc hT hC h3
    obtain ⟨n, rfl⟩ : ∃ k, n = k + 1 := ⟨n - 1, by omega⟩
    have hp := hT.2.1
    have hTT : ∀ k < N, T k < 256 := fun k hk => (hT.2.2.2.2.2 k hk).1
    obtain ⟨q, s⟩ := sk_ex T N N p hp (by omega)
    have hpq := s.1
    have hqN := s.2.1
    rw [E_X7_readRow_3, if_pos (by rw [nltL _ _ (by omega) (by decide)]; show c0 < 150; omega)]
    obtain ⟨u1, a1, a2, a3, a4⟩ := C_peek hT s
    rw [a1, bnd_some]
    have done : (q = N ∨ (q < N ∧ T q = 93)) → rwO H T N p d p (sN S) S u (b + 1) (some ((1 : Int32), u1)) L := by
      intro h
      refine Or.inl ⟨S, q, p, u1, 0, 0, Nat.zero_le _, rfl, a4.wa, a2, s, h, hC.fr a4, sameS.rf _ _ _, fun i h1 h2 => by omega, rfl, Nat.le_refl _, hpq, by omega, ?_⟩
      intro v hv hP hd hh
      exact ⟨v, fun n => rfl, hv, hP, hd, Fr.rf _ _⟩
    by_cases e1 : q = N
    · have e : pk T N q = -1 := by unfold pk; rw [if_neg (by omega)]
      rw [if_pos e]
      exact done (Or.inl e1)
    have e2 : q < N := by omega
    have e : pk T N q = nI (T q) := by unfold pk; rw [if_pos e2]
    have ht := hTT q e2
    rw [e, if_neg (ne_m1 (by omega))]
    by_cases e3 : T q = 93
    · rw [e3, if_pos (show nI 93 = (93 : Int32) from rfl)]
      exact done (Or.inr ⟨e2, e3⟩)
    rw [if_neg (by rw [neqL _ _ (by omega) (by decide)]; exact e3), semi_bnd]
    have mo : ∀ v, TXM v T N p → SMg v S → rS v (11007, 842) = nI d → rS v (11022, 842) = nI H → ∃ v1, TXM v1 T N q ∧ SMg v1 S ∧ rS v1 (11007, 842) = nI d ∧ rS v1 (11022, 842) = nI H ∧ Fr pWm v v1 ∧ ∀ n, L (n + 1) v = bnd (c v1) fun (_ : Unit) (w : MEM) => L n w := by
      intro v hv hP hd hh
      obtain ⟨v1, b1, b2, b3⟩ := hL v p q hv s e2 e3
      exact ⟨v1, b1, hP.fr b2, (b2.2.1 _ rfl).trans hd, (b2.2.1 _ rfl).trans hh, b2.wm, b3⟩
    rcases hS q S u1 a2 (hC.fr a4) (by omega) s.idem with ⟨S1, r, u2, f, k1, k2, k3, k4, k5, k6, k7, k8, k9, k10⟩ | ⟨e, q1, u2, k1, k2, k3, k4⟩
    · have hSS := k7.le
      rw [k1, bnd_some, if_neg (by decide), naddL]
      have mo2 : ∀ v, TXM v T N p → SMg v S → rS v (11007, 842) = nI d → rS v (11022, 842) = nI H → ∃ v2, TXM v2 T N r ∧ SMg v2 S1 ∧ rS v2 (11007, 842) = nI d ∧ rS v2 (11022, 842) = nI H ∧ Fr pWm v v2 ∧ ∀ n, L (n + 1) v = L n v2 := by
        intro v hv hP hd hh
        obtain ⟨v1, b1, b2, b3, b4, b5, b6⟩ := mo v hv hP hd hh
        obtain ⟨v2, g1, g2, g3, g4, g5⟩ := k10 v1 b1 b2 b3 b4
        exact ⟨v2, g2, g3, g4, (g5.2.1 _ rfl).trans b4, b5.tr g5, fun n => by rw [b6, g1, bnd_some]⟩
      rcases ih n (c0 + 1) r S1 u2 (by omega) (by omega) (by omega) k3 k4 (by omega) with ⟨S2, r2, p2, u3, f2, kk, l0, l1, l2, l3, l4, l5, l6, l7, l8, l9, l10, l11, l12, l13⟩ | ⟨e, q1, u3, kk, l0, l1, l2, l3, l4⟩
      · obtain ⟨f3, hf3⟩ := Blk.cat f f2 d (sN S) (sN S1) (sN S2) (Blk.same f d (sN S) (sN S1) (l7.sub (by omega) (by omega)) k7) l9
        refine Or.inl ⟨S2, r2, p2, u3, f3, kk + 1, by omega, l1, (a4.wa.tr k2).tr l2, l3, l4, l5, l6, k5.tr (l7.sub (by omega) (by omega)), ?_, hf3, by omega, by omega, by omega, ?_⟩
        · intro i h1 h2
          by_cases h : i < sN S1
          · exact okS.same l7 (Nat.zero_le _) h (k6 i h1 h)
          · exact l8 i (by omega) h2
        · intro v hv hP hd hh
          obtain ⟨v2, b1, b2, b3, b4, b5, b6⟩ := mo2 v hv hP hd hh
          obtain ⟨v3, g1, g2, g3, g4, g5⟩ := l13 v2 b1 b2 b3 b4
          exact ⟨v3, fun n => (b6 (n + kk)).trans (g1 n), g2, g3, g4, b5.tr g5⟩
      · refine Or.inr ⟨e, q1, u3, kk + 1, by omega, l1, (a4.wa.tr k2).tr l2, l3, ?_⟩
        intro v hv hP hd hh
        obtain ⟨v2, b1, b2, b3, b4, b5, b6⟩ := mo2 v hv hP hd hh
        obtain ⟨v3, g1, g2, g3⟩ := l4 v2 b1 b2 b3 b4
        exact ⟨v3, fun n => (b6 (n + kk)).trans (g1 n), g2, b5.tr g3⟩
    · rw [k1, bnd_some, if_pos rfl]
      refine Or.inr ⟨e, q1, u2, 1, by omega, rfl, a4.wa.tr k2, k3, ?_⟩
      intro v hv hP hd hh
      obtain ⟨v1, b1, b2, b3, b4, b5, b6⟩ := mo v hv hP hd hh
      obtain ⟨v2, g1, g2, g3⟩ := k4 v1 b1 b2 b3 b4
      exact ⟨v2, fun n => by rw [b6, g1, bnd_some], g2, b5.tr g3⟩
