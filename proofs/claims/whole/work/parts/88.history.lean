/-! a history: its morning and sixteen more -/
def ob_X2 (h : PH) (n : Nat) : Prop := (h (10200, n) = pF (vR (400, n + 1)) ∧ h (10201, n) = pF (vR (201, n + 10)) ∧ h (10202, n) = pF (vI 0)) ∧ h (201, n + 10) = pA 4 16 (.inr (.inr (fun j => if j < 16 then some (400, n + 12 + 10 * j) else none))) ∧ ob_X4 h (n + 1) ∧ ∀ j < 16, ob_X4 h (n + 12 + 10 * j)
def inv2 (n : Nat) (g0 : PA) (h0 : PH) (k : Nat) (h : PH) : Prop := h SZ = pA 99 (n + 12 + 10 * k) g0 ∧ (h (10200, n) = pF (vR (400, n + 1)) ∧ h (10201, n) = pF (vR (201, n + 10)) ∧ h (10202, n) = pF (vI 0)) ∧ h (201, n + 10) = pA 4 16 (.inr (.inr (fun j => if j < k then some (400, n + 12 + 10 * j) else none))) ∧ ob_X4 h (n + 1) ∧ (∀ j < k, ob_X4 h (n + 12 + 10 * j)) ∧ FI n (n + 172) h0 h
def bc : Nat → Nat
  | 0 => 0
  | r + 1 => 1 + (9 + bc r)
def bs : Nat → Nat
  | 0 => 0
  | r + 1 => 10 + (63 + bs r)
theorem loop2 {n : Nat} {g0 : PA} {h0 : PH} {Q : PO → PH → Prop} (hq : ∀ h', inv2 n g0 h0 16 h' → Q (.inl none) h') : ∀ r k h, k + r = 16 → inv2 n g0 h0 k h → PW 2 M_X2_init Q (bc r) (bs r) 26 [vR (200, n), vI (nI k)] [] h
  | 0, k, h, hk, hi => by
    have e : k = 16 := by omega
    subst e
    refine r_X2_init_26 ⟨fun c => absurd c (by decide), fun c => hq h hi⟩
  | r + 1, k, h, hk, hi => by
    obtain ⟨i1, i2, i3, i4, i5, i6⟩ := hi
    refine r_X2_init_26 ⟨fun c => ?_, fun c => absurd (show nI k < (16 : Int32) by rw [nltL _ _ (by omega) (by decide)]; show k < 16; omega) c⟩
    refine gA_of (b := (201, n + 10)) i2.2.1 ?_
    refine n_X4 (Nat.le_refl 2) i1 (fun h' z1 o1 f1 => ?_)
    have fF : ∀ t, 10000 ≤ t → h' (t, n) = h (t, n) := fun t ht => f1.atF ht (Or.inl (by omega))
    have hA : h' (201, n + 10) = pA 4 16 (.inr (.inr (fun j => if j < k then some (400, n + 12 + 10 * j) else none))) := (f1.atA (by decide) (by omega)).trans i3
    refine ⟨16, _, hA, bI_in (bI_nI (show k < 16 by omega) (by omega)), ⟨_, o1.1.1.2⟩, ?_⟩
    rw [nI_clamp (by omega), naddL]
    generalize hh : up h' (201, n + 10) (pQ 4 16 (va_up (fun j => if j < k then some (400, n + 12 + 10 * j) else none) k (some (400, n + 12 + 10 * k)))) = h2
    have E : ∀ b : LA, b ≠ (201, n + 10) → h2 b = h' b := fun b hb => by rw [← hh, up_ne _ _ hb]
    have EF : ∀ t i, 10000 ≤ t → h2 (t, i) = h' (t, i) := fun t i ht => E _ (fun e => by
      have := (Prod.mk.inj e).1
      omega)
    have fu : FI (n + 11) (n + 12) h' h2 := by
      rw [← hh]
      exact (FI.rf _ _ _).up (nspA (by decide)) (by rw [psA (by decide)]; omega) (by rw [psA (by decide)]; omega)
    refine loop2 hq r (k + 1) h2 (by omega) ⟨?_, ⟨?_, ?_, ?_⟩, ?_, ?_, fun j hj => ?_, ?_⟩
    · rw [E SZ (fun e => absurd (Prod.mk.inj e).1 (by decide)), z1, show n + 12 + 10 * k + 10 = n + 12 + 10 * (k + 1) by omega]
    · rw [EF _ _ (by decide), fF _ (by decide)]; exact i2.1
    · rw [EF _ _ (by decide), fF _ (by decide)]; exact i2.2.1
    · rw [EF _ _ (by decide), fF _ (by decide)]; exact i2.2.2
    · rw [← hh, up_eq]
      congr 5
      funext j
      unfold va_up
      by_cases e : j = k
      · rw [if_pos e, if_pos (by omega), e]
      · rw [if_neg e]
        by_cases e2 : j < k
        · show (if j < k then some ((400, n + 12 + 10 * j) : LA) else none) = _
          rw [if_pos e2, if_pos (by omega)]
        · show (if j < k then some ((400, n + 12 + 10 * j) : LA) else none) = _
          rw [if_neg e2, if_neg (by omega)]
    · exact (i4.FI f1 (Or.inl (by omega))).FI fu (Or.inl (by omega))
    · by_cases e : j = k
      · subst e
        exact o1.FI fu (Or.inr (by omega))
      · exact ((i5 j (by omega)).FI f1 (Or.inl (by omega))).FI fu (Or.inr (by omega))
    · exact (i6.tr (f1.w (by omega) (by omega))).tr (fu.w (by omega) (by omega))
theorem i_X2 {h : PH} {n : Nat} {g0 : PA} (hz : h SZ = pA 99 (n + 1) g0) (hf : ∀ j < 3, h (10000 + 100 * 2 + j, n) = pF (dvT tyX2 j)) : CT 2 M_X2_init [vR (200, n)] h 171 1257 (fun r h' => r = .inl none ∧ (h' SZ = pA 99 (n + 172) g0 ∧ (ob_X2 h' n ∧ FI n (n + 172) h h'))) := by
  have b1 : 171 = 1 + (9 + (1 + bc 16)) := by decide
  have b2 : 1257 = 10 + (63 + (16 + bs 16)) := by decide
  rw [b1, b2]
  refine CT_of mk_X2_init (Nat.le_of_ble_eq_true rfl) rfl (r_X2_init_0 ⟨by decide, ?_⟩)
  refine n_X4 (Nat.le_refl 2) hz (fun h1 z1 o1 f1 => ?_)
  have fF : ∀ t, 10000 ≤ t → h1 (t, n) = h (t, n) := fun t ht => f1.atF ht (Or.inl (by omega))
  refine ⟨⟨_, (fF 10200 (by decide)).trans (hf 0 (by decide))⟩, ?_⟩
  generalize hh2 : up h1 (10200, n) (pF (vR (400, n + 1))) = h2
  have z2 : h2 SZ = pA 99 (n + 11) g0 := by rw [← hh2, up_ne _ _ (neSF (by decide)).symm]; exact z1
  have E2 : ∀ t i, t ≠ 10200 → h2 (t, i) = h1 (t, i) := fun t i ht => by
    rw [← hh2, up_ne _ _ (fun e => ht (Prod.mk.inj e).1)]
  refine ⟨(201, n + 10), 16, n + 11, g0, bc 16, bs 16, rfl, by omega, z2, by show 201 < 1200; omega, by show 201 % 100 ≠ 0; omega, by show n + 10 + 201 % 100 = n + 11; omega, rfl, rfl, ?_⟩
  generalize hh3 : up (up h2 (201, n + 10) (pA 4 16 (.inr (.inr (fun _ => none))))) SZ (pA 99 (n + 11 + 1) g0) = h3
  have E3 : ∀ t i, 10000 ≤ t → h3 (t, i) = h2 (t, i) := fun t i ht => by
    rw [← hh3, up_ne _ _ (neSF ht), up_ne _ _ (fun e => by
      have := (Prod.mk.inj e).1
      omega)]
  refine ⟨⟨_, (E3 10201 n (by decide)).trans ((E2 10201 n (by decide)).trans ((fF 10201 (by decide)).trans (hf 1 (by decide))))⟩, ?_⟩
  generalize hh4 : up h3 (10201, n) (pF (vR (201, n + 10))) = h4
  have E4 : ∀ t i, t ≠ 10201 → h4 (t, i) = h3 (t, i) := fun t i ht => by
    rw [← hh4, up_ne _ _ (fun e => ht (Prod.mk.inj e).1)]
  have f12 : FI n (n + 1) h1 h2 := by
    rw [← hh2]
    exact (FI.rf _ _ _).up (nspF (by decide)) (by rw [psF (by decide)]; omega) (by rw [psF (by decide)]; omega)
  have f23 : FI (n + 11) (n + 12) h2 h3 := fun b h1' h2' => by
    rw [← hh3, up_ne _ _ h1']
    exact (FI.rf (n + 11) (n + 12) h2).up (a := (201, n + 10)) (nspA (by decide)) (by rw [psA (by decide)]; omega) (by rw [psA (by decide)]; omega) b h1' h2'
  have f34 : FI n (n + 1) h3 h4 := by
    rw [← hh4]
    exact (FI.rf _ _ _).up (nspF (by decide)) (by rw [psF (by decide)]; omega) (by rw [psF (by decide)]; omega)
  refine loop2 (g0 := g0) (h0 := h) (fun h' hi => ?_) 16 0 h4 rfl ⟨?_, ⟨?_, ?_, ?_⟩, ?_, ?_, fun j hj => absurd hj (Nat.not_lt_zero _), ?_⟩
  · obtain ⟨i1, i2, i3, i4, i5, i6⟩ := hi
    exact ⟨rfl, by rw [i1], ⟨i2, i3, i4, i5⟩, i6⟩
  · rw [← hh4, up_ne _ _ (neSF (by decide)).symm, ← hh3, up_eq]
  · rw [E4 10200 n (by decide), E3 10200 n (by decide), ← hh2, up_eq]
  · rw [← hh4, up_eq]
  · rw [E4 10202 n (by decide), E3 10202 n (by decide), E2 10202 n (by decide), fF 10202 (by decide)]
    exact hf 2 (by decide)
  · rw [E4 201 (n + 10) (by decide), ← hh3, up_ne _ _ (neSA (by decide)), up_eq]
    congr 5
  · exact (((o1.FI f12 (Or.inr (by omega))).FI f23 (Or.inl (by omega))).FI f34 (Or.inr (by omega)))
  · exact (((f1.w (by omega) (by omega)).tr (f12.w (by omega) (by omega))).tr (f23.w (by omega) (by omega))).tr (f34.w (by omega) (by omega))
theorem n_X2 {d n rc rs : Nat} {h : PH} {g0 : PA} {K : Nat → PH → Nat → Nat → Prop} {XX : Nat → String → PH → Nat → Nat → Prop} (hd : 3 ≤ d) (hz : h SZ = pA 99 n g0) (k : ∀ h', h' SZ = pA 99 (n + 172) g0 → ob_X2 h' n → FI n (n + 172) h h' → K n h' rc rs) : nwO h 2 3 (1 + (171 + rc)) (3 + (1257 + rs)) (dvT tyX2) fun o h2 rc3 rs4 => cl d rc3 rs4 M_X2_init [vR (200, o)] h2 (kV fun h5 rc6 rs7 => K o h5 rc6 rs7) (XX o) :=
  nwO_ok hz (fun h1 z1 f1 g1 => cl_i hd (i_X2 z1 f1) (fun h' q => k h' q.1 q.2.1 ((g1.w (Nat.le_refl _) (by omega)).tr q.2.2)))
theorem ob_X2.FI {h h' : PH} {n lo hi : Nat} (g : ob_X2 h n) (f : FI lo hi h h') (hx : n + 171 < lo ∨ hi ≤ n) : ob_X2 h' n := ⟨⟨(f.atF (by decide) (by omega)).trans g.1.1, (f.atF (by decide) (by omega)).trans g.1.2.1, (f.atF (by decide) (by omega)).trans g.1.2.2⟩, (f.atA (by decide) (by omega)).trans g.2.1, g.2.2.1.FI f (by omega), fun j hj => (g.2.2.2 j hj).FI f (by omega)⟩
