/-! constructors that call: a book, pairs, a history -/
theorem t1_0 {t : Nat} (h : kl t = 1) (e : (t - 10000) / 100 = 0) : t = 10001 := by
  have := kl1 h
  omega
theorem t2_0 {t : Nat} (h : kl t = 2) (e : (t - 10000) / 100 = 0) : t = 10000 := by
  have := kl2 h
  omega
theorem t4_0 {t : Nat} (h : kl t = 4) (e : t / 100 = 0) : t = 1 := by
  have := kl4 h
  omega
def m00 : MEM := (fun _ => 0, (fun _ _ => 0, (fun _ => 0, fun _ => 0)))
def y1 (c i : Nat) (h : PH) : EX := (fun a b => Nat.beq a c && Nat.beq b i, h)
theorem y1_i {c i a b : Nat} {h : PH} (e : (y1 c i h).1 a b = true) : a = c ∧ b = i := by
  obtain ⟨e1, e2⟩ := and_t (a := Nat.beq a c) e
  exact ⟨Nat.eq_of_beq_eq_true e1, Nat.eq_of_beq_eq_true e2⟩
theorem y1_s (c i : Nat) (h : PH) : (y1 c i h).1 c i = true := by
  show (Nat.beq c c && Nat.beq i i) = true
  rw [Nat.beq_refl, Nat.beq_refl]
  rfl
theorem oAp_1y (n : Nat) (h : PH) : oAp (y1 0 n h) (1, n) 0 := ⟨rfl, (by simpa using y1_s 0 n h), rfl⟩
def l_X0i : List SP := [(10000, (1, (0, 13)))]
def ob_X0 (h : PH) (n : Nat) : Prop := h (1, n) = pI 13 (fun j => if j < 13 then (-1 : Int32) else 0) ∧ h (10000, n) = pF (vR (1, n)) ∧ h (10001, n) = pF (vI 0)
theorem i_X0 {h : PH} {n : Nat} {g0 : PA} (hz : h SZ = pA 99 (n + 1) g0) (hf : ∀ j < 2, h (10000 + 100 * 0 + j, n) = pF (dvT tyX0 j)) : CT 1 M_X0_init [vR (0, n)] h 1 13 (fun r h' => r = .inl none ∧ (h' SZ = pA 99 (n + 2) g0 ∧ (ob_X0 h' n ∧ FI n (n + 2) h h'))) := by
  refine CT_of mk_X0_init (Nat.le_of_ble_eq_true rfl) rfl (r_X0_init_0 ⟨Nat.le_refl 1, ?_⟩)
  have key := nwL_ok n g0 l_X0i 1 (n + 1) h 0 0 (fun h' rc rs => gA h' (10000, n) fun a6 => cl 1 rc rs M_J7_fill_53178 [vR a6, vI (-1 : Int32)] h' (kV fun h7 _ _ => (Sum.inl none : PO) = .inl none ∧ (h7 SZ = pA 99 (n + 2) g0 ∧ (ob_X0 h7 n ∧ FI n (n + 2) h h7))) (fun E h7 _ _ => (Sum.inr E : PO) = .inl none ∧ (h7 SZ = pA 99 (n + 2) g0 ∧ (ob_X0 h7 n ∧ FI n (n + 2) h h7)))) (by decide) rfl (Nat.le_refl 1) hz (fl_of (B := 10000 + 100 * 0) (N := 2) hf (by decide)) (fun h' z1 z2 z3 => ?_)
  · exact key
  · have f1 : FI n (n + 2) h h' := (FI_ofL (l := l_X0i) (by decide) z3).w (Nat.le_refl _) (by show n + 1 + 1 ≤ _; omega)
    have z1 : h' SZ = pA 99 (n + 1 + 1) g0 := z1
    rw [show n + 1 + 1 = n + 2 by omega] at z1
    have e1 : h' (10001, n) = pF (vI 0) := by
      rw [z3 _ (neSF (by decide)) (fun s hs => ?_)]
      · exact hf 1 (by decide)
      · rcases List.mem_cons.mp hs with e | e
        · subst e
          exact ⟨fun q => absurd (Prod.mk.inj q).1 (by decide), fun q => absurd (Prod.mk.inj q).1 (by decide)⟩
        · cases e
    have wp : WP (y1 0 n h') h' m00 := by
      refine ⟨fun t i ht hv => ?_, fun t i ht hv => ?_, fun t i ht hv => ?_, fun b _ => rfl⟩
      · obtain ⟨a1, a2⟩ := y1_i hv
        have := t1_0 ht a1
        subst this
        subst a2
        exact e1
      · obtain ⟨a1, a2⟩ := y1_i hv
        have := t2_0 ht a1
        subst this
        subst a2
        exact z2.1.2
      · obtain ⟨a1, a2⟩ := y1_i hv
        have := t4_0 ht a1
        subst this
        subst a2
        exact z2.1.1
    have hF := fill_ok 3000 (1, n) (-1) m00 (by show 13 < 3000; omega) (by show 13 < 2 ^ 31; omega)
    refine gA_of (b := (1, n)) z2.1.2 ?_
    refine cl_Vp (D := 0) (Nat.le_refl 1) (cp_J7_fill_53178 (fu := 3000) wp (oAp_1y n h') hF) (fun h7 w7 => ?_)
    have nt : ∀ b : LA, ¬ (b = (10001, n) ∨ b = (1, n)) → h7 b = h' b := by
      intro b hb
      refine w7.2.2.2 b (fun q => hb ?_)
      obtain ⟨t, i⟩ := b
      rcases q with ⟨q1, q2⟩ | ⟨q1, q2⟩
      · obtain ⟨a1, a2⟩ := y1_i q2
        have q1 : kl t = 1 := q1
        have a2 : i = n := a2
        have := t1_0 q1 a1
        subst this
        subst a2
        exact Or.inl rfl
      · obtain ⟨a1, a2⟩ := y1_i q2
        have q1 : kl t = 4 := q1
        have a2 : i = n := a2
        have := t4_0 q1 a1
        subst this
        subst a2
        exact Or.inr rfl
    refine ⟨rfl, ?_, ⟨?_, ?_, ?_⟩, fun b h1 h2 => ?_⟩
    · rw [nt SZ (by
        rintro (q | q)
        · exact absurd (Prod.mk.inj q).1 (by decide)
        · exact absurd (Prod.mk.inj q).1 (by decide))]
      exact z1
    · have := w7.2.2.1 1 n rfl (y1_s 0 n h')
      rw [this, fA_tA, if_pos rfl]
      rfl
    · rw [nt _ (by
        rintro (q | q)
        · exact absurd (Prod.mk.inj q).1 (by decide)
        · exact absurd (Prod.mk.inj q).1 (by decide))]
      exact z2.1.2
    · exact w7.1 10001 n rfl (y1_s 0 n h')
    · rw [nt b ?_]
      · exact f1 b h1 h2
      · rintro (q | q)
        · subst q
          rw [psF (by decide)] at h2
          rcases h2 with h2 | h2 | h2
          · exact nspF (by decide) h2
          · omega
          · omega
        · subst q
          rw [psA (by decide)] at h2
          rcases h2 with h2 | h2 | h2
          · exact nspA (by decide) h2
          · omega
          · omega
theorem n_X0 {d n rc rs : Nat} {h : PH} {g0 : PA} {K : Nat → PH → Nat → Nat → Prop} {XX : Nat → String → PH → Nat → Nat → Prop} (hd : 2 ≤ d) (hz : h SZ = pA 99 n g0) (k : ∀ h', h' SZ = pA 99 (n + 2) g0 → ob_X0 h' n → FI n (n + 2) h h' → K n h' rc rs) : nwO h 0 2 (1 + (1 + rc)) (2 + (13 + rs)) (dvT tyX0) fun o h2 rc3 rs4 => cl d rc3 rs4 M_X0_init [vR (0, o)] h2 (kV fun h5 rc6 rs7 => K o h5 rc6 rs7) (XX o) :=
  nwO_ok hz (fun h1 z1 f1 g1 => cl_i hd (i_X0 z1 f1) (fun h' q => k h' q.1 q.2.1 ((g1.w (Nat.le_refl _) (by omega)).tr q.2.2)))
theorem ob_X0.FI {h h' : PH} {n lo hi : Nat} (g : ob_X0 h n) (f : FI lo hi h h') (hx : n + 1 < lo ∨ hi ≤ n) : ob_X0 h' n := ⟨(f.atA (by decide) (by omega)).trans g.1, (f.atF (by decide) (by omega)).trans g.2.1, (f.atF (by decide) (by omega)).trans g.2.2⟩
/-! pairs -/
theorem mnaH_f {h : PH} {a0 : LA} {t id0 n k n0 : Nat} {g0 : PA} (ha : a0.1 < 1200) (ht : t < 1200) (hn : a0.1 ≠ t) : ∀ m, mnaH h a0 t id0 n k n0 g0 m SZ = pA 99 (n0 + 1 + m) g0 ∧ mnaH h a0 t id0 n k n0 g0 m a0 = pA 6 n (.inr (.inr (fun i => if i < n then some (t, id0 + i) else none))) ∧ (∀ j < m, mnaH h a0 t id0 n k n0 g0 m (t, id0 + j) = pA 0 k zA) ∧ ∀ b, b ≠ SZ → b ≠ a0 → (∀ j < m, b ≠ (t, id0 + j)) → mnaH h a0 t id0 n k n0 g0 m b = h b
  | 0 => by
    have hs : a0 ≠ SZ := fun e => by
      rw [e] at ha
      exact absurd ha (by decide)
    refine ⟨up_eq _ _ _, ?_, fun j hj => absurd hj (Nat.not_lt_zero _), fun b h1 h2 _ => ?_⟩
    · show up _ SZ _ a0 = _
      rw [up_ne _ _ hs, up_eq]
    · show up _ SZ _ b = _
      rw [up_ne _ _ h1, up_ne _ _ h2]
  | m + 1 => by
    obtain ⟨g1, g2, g3, g4⟩ := mnaH_f (h := h) (id0 := id0) (n := n) (k := k) (n0 := n0) (g0 := g0) ha ht hn m
    have hs : a0 ≠ SZ := fun e => by
      rw [e] at ha
      exact absurd ha (by decide)
    refine ⟨up_eq _ _ _, ?_, fun j hj => ?_, fun b h1 h2 h3 => ?_⟩
    · show up (up _ (t, id0 + m) _) SZ _ a0 = _
      rw [up_ne _ _ hs, up_ne _ _ (fun e => hn (by rw [e]))]
      exact g2
    · show up (up _ (t, id0 + m) _) SZ _ (t, id0 + j) = _
      rw [up_ne _ _ (neSA ht)]
      by_cases e : j = m
      · rw [e, up_eq]
      · rw [up_ne _ _ (fun q => e (by
          have := (Prod.mk.inj q).2
          omega))]
        exact g3 j (by omega)
    · show up (up _ (t, id0 + m) _) SZ _ b = _
      rw [up_ne _ _ h1, up_ne _ _ (h3 m (Nat.lt_succ_self _))]
      exact g4 b h1 h2 (fun j hj => h3 j (by omega))
def ob_X5 (h : PH) (n : Nat) : Prop := h (501, n) = pA 6 90 (.inr (.inr (fun i => if i < 90 then some (502, n + i) else none))) ∧ (∀ j < 90, h (502, n + j) = pI 13 (fun _ => 0)) ∧ h (503, n + 89) = pI 100 (fun _ => 0) ∧ h (10500, n) = pF (vR (501, n)) ∧ h (10501, n) = pF (vR (503, n + 89)) ∧ h (10502, n) = pF (vI 0) ∧ h (10503, n) = pF (vI 0)
theorem i_X5 {h : PH} {n : Nat} {g0 : PA} (hz : h SZ = pA 99 (n + 1) g0) (hf : ∀ j < 4, h (10000 + 100 * 5 + j, n) = pF (dvT tyX5 j)) : CT 1 M_X5_init [vR (500, n)] h 92 1360 (fun r h' => r = .inl none ∧ (h' SZ = pA 99 (n + 93) g0 ∧ (ob_X5 h' n ∧ FI n (n + 93) h h'))) := by
  refine CT_of mk_X5_init (Nat.le_of_ble_eq_true rfl) rfl (r_X5_init_0 ⟨Nat.le_refl 1, ?_⟩)
  obtain ⟨g1, g2, g3, g4⟩ := mnaH_f (h := h) (a0 := (501, n)) (t := 502) (id0 := n) (n := 90) (k := 13) (n0 := n + 1) (g0 := g0) (show 501 < 1200 by decide) (by decide) (show 501 ≠ 502 by decide) 90
  refine ⟨(501, n), 502, n, n + 1, 90, 13, g0, 1, 100, rfl, rfl, by omega, by omega, hz, by show 501 < 1200; omega, by show 501 % 100 ≠ 0; omega, by show n + 501 % 100 = n + 1; omega, by omega, by omega, by omega, rfl, rfl, ?_⟩
  generalize hm : mnaH h (501, n) 502 n 90 13 (n + 1) g0 90 = h2 at g1 g2 g3 g4
  have F : ∀ t, 10000 ≤ t → h2 (t, n) = h (t, n) := fun t ht => g4 _ (neSF ht) (fun e => by
    have := (Prod.mk.inj e).1
    omega) (fun j _ e => by
    have := (Prod.mk.inj e).1
    omega)
  refine ⟨⟨_, (F 10500 (by decide)).trans (hf 0 (by decide))⟩, ?_⟩
  generalize hh3 : up h2 (10500, n) (pF (vR (501, n))) = h3
  have z3 : h3 SZ = pA 99 (n + 92) g0 := by
    rw [← hh3, up_ne _ _ (neSF (by decide)).symm, g1]
  have E3 : ∀ b : LA, b.1 ≠ 10500 → h3 b = h2 b := fun b hb => by
    rw [← hh3, up_ne]
    intro e
    exact hb (by rw [e])
  refine ⟨(503, n + 89), 100, n + 92, g0, 0, 0, rfl, by omega, z3, by show 503 < 1200; omega, by show 503 % 100 ≠ 0; omega, by show n + 89 + 503 % 100 = n + 92; omega, rfl, rfl, ?_⟩
  generalize hh4 : up (up h3 (503, n + 89) (pA 0 100 (.inl (fun _ => 0)))) SZ (pA 99 (n + 92 + 1) g0) = h4
  have E4 : ∀ b : LA, b ≠ SZ → b.1 ≠ 503 → h4 b = h3 b := fun b h1 hb => by
    rw [← hh4, up_ne _ _ h1, up_ne]
    intro e
    exact hb (by rw [e])
  refine ⟨⟨_, (E4 (10501, n) (neSF (by decide)) (show 10501 ≠ 503 by decide)).trans ((E3 (10501, n) (show 10501 ≠ 10500 by decide)).trans ((F 10501 (by decide)).trans (hf 1 (by decide))))⟩, ?_⟩
  generalize hh5 : up h4 (10501, n) (pF (vR (503, n + 89))) = h5
  have E5 : ∀ b : LA, b.1 ≠ 10501 → h5 b = h4 b := fun b hb => by
    rw [← hh5, up_ne]
    intro e
    exact hb (by rw [e])
  refine ⟨rfl, ?_, ⟨?_, fun j hj => ?_, ?_, ?_, ?_, ?_, ?_⟩, fun b h1 h2' => ?_⟩
  · rw [E5 SZ (by decide), ← hh4, up_eq]
  · rw [E5 (501, n) (by show 501 ≠ 10501; decide), E4 (501, n) (neSA (by decide)) (by show 501 ≠ 503; decide), E3 (501, n) (by show 501 ≠ 10500; decide)]
    exact g2
  · rw [E5 (502, n + j) (by show 502 ≠ 10501; decide), E4 (502, n + j) (neSA (by decide)) (by show 502 ≠ 503; decide), E3 (502, n + j) (by show 502 ≠ 10500; decide)]
    exact g3 j hj
  · rw [E5 (503, n + 89) (by show 503 ≠ 10501; decide), ← hh4, up_ne _ _ (neSA (by decide)), up_eq]
  · rw [E5 (10500, n) (by show 10500 ≠ 10501; decide), E4 (10500, n) (neSF (by decide)) (by show 10500 ≠ 503; decide), ← hh3, up_eq]
  · rw [← hh5, up_eq]
  · rw [E5 (10502, n) (by show 10502 ≠ 10501; decide), E4 (10502, n) (neSF (by decide)) (by show 10502 ≠ 503; decide), E3 (10502, n) (by show 10502 ≠ 10500; decide), F 10502 (by decide)]
    exact hf 2 (by decide)
  · rw [E5 (10503, n) (by show 10503 ≠ 10501; decide), E4 (10503, n) (neSF (by decide)) (by show 10503 ≠ 503; decide), E3 (10503, n) (by show 10503 ≠ 10500; decide), F 10503 (by decide)]
    exact hf 3 (by decide)
  · have nf : ∀ t, 10000 ≤ t → b ≠ (t, n) := fun t ht e => by
      subst e
      rw [psF ht] at h2'
      rcases h2' with h2' | h2' | h2'
      · exact nspF ht h2'
      · omega
      · omega
    have na : ∀ t i, t < 1200 → n ≤ i + t % 100 → i + t % 100 < n + 93 → b ≠ (t, i) := fun t i ht q1 q2 e => by
      subst e
      rw [psA ht] at h2'
      rcases h2' with h2' | h2' | h2'
      · exact nspA ht h2'
      · omega
      · omega
    rw [← hh5, up_ne _ _ (nf _ (by decide)), ← hh4, up_ne _ _ h1, up_ne _ _ (na 503 (n + 89) (by decide) (by omega) (by omega)), ← hh3, up_ne _ _ (nf _ (by decide))]
    exact g4 b h1 (na 501 n (by decide) (by omega) (by omega)) (fun j hj => na 502 (n + j) (by decide) (by omega) (by omega))
theorem n_X5 {d n rc rs : Nat} {h : PH} {g0 : PA} {K : Nat → PH → Nat → Nat → Prop} {XX : Nat → String → PH → Nat → Nat → Prop} (hd : 2 ≤ d) (hz : h SZ = pA 99 n g0) (k : ∀ h', h' SZ = pA 99 (n + 93) g0 → ob_X5 h' n → FI n (n + 93) h h' → K n h' rc rs) : nwO h 5 4 (1 + (92 + rc)) (4 + (1360 + rs)) (dvT tyX5) fun o h2 rc3 rs4 => cl d rc3 rs4 M_X5_init [vR (500, o)] h2 (kV fun h5 rc6 rs7 => K o h5 rc6 rs7) (XX o) :=
  nwO_ok hz (fun h1 z1 f1 g1 => cl_i hd (i_X5 z1 f1) (fun h' q => k h' q.1 q.2.1 ((g1.w (Nat.le_refl _) (by omega)).tr q.2.2)))
theorem ob_X5.FI {h h' : PH} {n lo hi : Nat} (g : ob_X5 h n) (f : FI lo hi h h') (hx : n + 92 < lo ∨ hi ≤ n) : ob_X5 h' n := ⟨(f.atA (by decide) (by omega)).trans g.1, fun j hj => (f.atA (by decide) (by omega)).trans (g.2.1 j hj), (f.atA (by decide) (by omega)).trans g.2.2.1, (f.atF (by decide) (by omega)).trans g.2.2.2.1, (f.atF (by decide) (by omega)).trans g.2.2.2.2.1, (f.atF (by decide) (by omega)).trans g.2.2.2.2.2.1, (f.atF (by decide) (by omega)).trans g.2.2.2.2.2.2⟩
