/-! constructors: what lies where, and what a constructor leaves as it was -/
def psn (b : LA) : Nat := if b.1 < 1200 then b.2 + b.1 % 100 else b.2
def spc (b : LA) : Prop := 1200 ≤ b.1 ∧ b.1 < 10000
def FI (lo hi : Nat) (h h' : PH) : Prop := ∀ b, b ≠ SZ → (spc b ∨ (psn b < lo ∨ hi ≤ psn b)) → h' b = h b
theorem FI.rf (lo hi : Nat) (h : PH) : FI lo hi h h := fun _ _ _ => rfl
theorem FI.tr {lo hi : Nat} {h h1 h2 : PH} (f : FI lo hi h h1) (g : FI lo hi h1 h2) : FI lo hi h h2 := fun b h3 h4 => (g b h3 h4).trans (f b h3 h4)
theorem FI.w {lo hi lo' hi' : Nat} {h h1 : PH} (f : FI lo hi h h1) (h1' : lo' ≤ lo) (h2' : hi ≤ hi') : FI lo' hi' h h1 := fun b h3 h4 => f b h3 (by
  rcases h4 with h4 | h4 | h4
  · exact Or.inl h4
  · exact Or.inr (Or.inl (by omega))
  · exact Or.inr (Or.inr (by omega)))
theorem FI.up {lo hi : Nat} {h h1 : PH} (f : FI lo hi h h1) {a : LA} {c : Option PC} (ha : ¬ spc a) (h1' : lo ≤ psn a) (h2' : psn a < hi) : FI lo hi h (up h1 a c) := fun b h3 h4 => by
  rw [up_ne]
  · exact f b h3 h4
  · intro e
    subst e
    rcases h4 with h4 | h4 | h4
    · exact ha h4
    · omega
    · omega
theorem psF {t id : Nat} (h : 10000 ≤ t) : psn (t, id) = id := if_neg (by show ¬ t < 1200; omega)
theorem psA {t id : Nat} (h : t < 1200) : psn (t, id) = id + t % 100 := if_pos h
theorem nspF {t id : Nat} (h : 10000 ≤ t) : ¬ spc (t, id) := fun e => by
  have : t < 10000 := e.2
  omega
theorem nspA {t id : Nat} (h : t < 1200) : ¬ spc (t, id) := fun e => by
  have : 1200 ≤ t := e.1
  omega
theorem neSF {t id : Nat} (h : 10000 ≤ t) : ((t, id) : LA) ≠ SZ := fun e => by
  have := (Prod.mk.inj e).1
  omega
theorem neSA {t id : Nat} (h : t < 1200) : ((t, id) : LA) ≠ SZ := fun e => by
  have := (Prod.mk.inj e).1
  omega
theorem FI.atF {lo hi t id : Nat} {h h1 : PH} (f : FI lo hi h h1) (ht : 10000 ≤ t) (hi' : id < lo ∨ hi ≤ id) : h1 (t, id) = h (t, id) := f _ (neSF ht) (Or.inr (by rw [psF ht]; exact hi'))
theorem FI.atA {lo hi t id : Nat} {h h1 : PH} (f : FI lo hi h h1) (ht : t < 1200) (hi' : id + t % 100 < lo ∨ hi ≤ id + t % 100) : h1 (t, id) = h (t, id) := f _ (neSA ht) (Or.inr (by rw [psA ht]; exact hi'))
/-- a row of arrays: field, array, kind, length -/
abbrev SP : Type := Nat × (Nat × (Nat × Nat))
abbrev zA : PA := .inl (fun _ => 0)
def nwL (id : Nat) : List SP → PH → Nat → Nat → (PH → Nat → Nat → Prop) → Prop
  | [], h, rc, rs, K => K h rc rs
  | s :: r, h, rc, rs, K => nwA h s.2.2.1 (nI s.2.2.2) zA rc rs fun a h2 rc3 rs4 => sF h2 (s.1, id) (vR a) fun h5 => nwL id r h5 rc3 rs4 K
def obS (h : PH) (id : Nat) : List SP → Prop
  | [] => True
  | s :: r => (h (s.2.1, id) = pA s.2.2.1 s.2.2.2 zA ∧ h (s.1, id) = pF (vR (s.2.1, id))) ∧ obS h id r
def inS (h : PH) (id : Nat) : List (Nat × Int32) → Prop
  | [] => True
  | p :: r => h (p.1, id) = pF (vI p.2) ∧ inS h id r
def okB : Nat → List SP → Bool
  | _, [] => true
  | k, s :: r => Nat.ble 10000 s.1 && (Nat.blt s.2.1 1200 && (Nat.beq (s.2.1 % 100) k && (Nat.ble s.2.2.2 10000 && (r.all (fun t => !(Nat.beq t.1 s.1)) && okB (k + 1) r))))
def lenL : List SP → Nat
  | [] => 0
  | _ :: r => 1 + lenL r
def sumL : List SP → Nat
  | [] => 0
  | s :: r => s.2.2.2 + sumL r
theorem okB_s {k : Nat} {s : SP} {r : List SP} (h : okB k (s :: r) = true) : 10000 ≤ s.1 ∧ s.2.1 < 1200 ∧ s.2.1 % 100 = k ∧ s.2.2.2 ≤ 10000 ∧ (∀ t ∈ r, t.1 ≠ s.1) ∧ okB (k + 1) r = true := by
  have h : (Nat.ble 10000 s.1 && (Nat.blt s.2.1 1200 && (Nat.beq (s.2.1 % 100) k && (Nat.ble s.2.2.2 10000 && (r.all (fun t => !(Nat.beq t.1 s.1)) && okB (k + 1) r))))) = true := h
  simp only [Bool.and_eq_true, Nat.ble_eq, Nat.blt_eq, List.all_eq_true, Bool.not_eq_true'] at h
  obtain ⟨h1, h2, h3, h4, h5, h6⟩ := h
  refine ⟨h1, h2, Nat.eq_of_beq_eq_true h3, h4, fun t ht e => ?_, h6⟩
  have := h5 t ht
  rw [e, Nat.beq_refl] at this
  cases this
theorem okB_m : ∀ (l : List SP) (k : Nat), okB k l = true → ∀ t ∈ l, 10000 ≤ t.1 ∧ t.2.1 < 1200 ∧ k ≤ t.2.1 % 100 ∧ t.2.1 % 100 < k + lenL l
  | [], _, _, t, ht => by cases ht
  | s :: r, k, h, t, ht => by
    obtain ⟨h1, h2, h3, h4, h5, h6⟩ := okB_s h
    have e : lenL (s :: r) = 1 + lenL r := rfl
    rcases List.mem_cons.mp ht with e1 | e1
    · subst e1
      exact ⟨h1, h2, by omega, by omega⟩
    · obtain ⟨a1, a2, a3, a4⟩ := okB_m r (k + 1) h6 t e1
      exact ⟨a1, a2, by omega, by omega⟩
theorem nwL_ok (id : Nat) (g0 : PA) : ∀ (l : List SP) (k n : Nat) (h : PH) (rc rs : Nat) (K : PH → Nat → Nat → Prop), okB k l = true → n = id + k → 1 ≤ k → h SZ = pA 99 n g0 → (∀ s ∈ l, ∃ v, h (s.1, id) = pF v) → (∀ h', h' SZ = pA 99 (n + lenL l) g0 → obS h' id l → (∀ b, b ≠ SZ → (∀ s ∈ l, b ≠ (s.1, id) ∧ b ≠ (s.2.1, id)) → h' b = h b) → K h' rc rs) → nwL id l h (lenL l + rc) (sumL l + rs) K
  | [], k, n, h, rc, rs, K, ho, hn, hk, hz, hf, kk => by
    have := kk h hz trivial (fun b _ _ => rfl)
    show K h (0 + rc) (0 + rs)
    rw [Nat.zero_add, Nat.zero_add]
    exact this
  | s :: r, k, n, h, rc, rs, K, ho, hn, hk, hz, hf, kk => by
    obtain ⟨h1, h2, h3, h4, h5, h6⟩ := okB_s ho
    have hm := okB_m r (k + 1) h6
    obtain ⟨v0, hv0⟩ := hf s List.mem_cons_self
    have nFA : ((s.1, id) : LA) ≠ (s.2.1, id) := fun e => by
      have := (Prod.mk.inj e).1
      omega
    refine ⟨(s.2.1, id), s.2.2.2, n, g0, lenL r + rc, sumL r + rs, rfl, h4, hz, h2, by show s.2.1 % 100 ≠ 0; omega, by show id + s.2.1 % 100 = n; omega, Nat.add_assoc _ _ _, Nat.add_assoc _ _ _, ?_⟩
    refine ⟨⟨v0, ?_⟩, ?_⟩
    · rw [up_ne _ _ (neSF h1), up_ne _ _ nFA]
      exact hv0
    · generalize h5' : up (up (up h (s.2.1, id) (pA s.2.2.1 s.2.2.2 zA)) SZ (pA 99 (n + 1) g0)) (s.1, id) (pF (vR (s.2.1, id))) = hh
      have e1 : hh SZ = pA 99 (n + 1) g0 := by rw [← h5', up_ne _ _ (neSF h1).symm, up_eq]
      have e2 : hh (s.2.1, id) = pA s.2.2.1 s.2.2.2 zA := by rw [← h5', up_ne _ _ nFA.symm, up_ne _ _ (neSA h2), up_eq]
      have e3 : hh (s.1, id) = pF (vR (s.2.1, id)) := by rw [← h5', up_eq]
      have e4 : ∀ b, b ≠ SZ → b ≠ (s.1, id) → b ≠ (s.2.1, id) → hh b = h b := fun b b1 b2 b3 => by rw [← h5', up_ne _ _ b2, up_ne _ _ b1, up_ne _ _ b3]
      refine nwL_ok id g0 r (k + 1) (n + 1) hh rc rs K h6 (by omega) (by omega) e1 (fun t ht => ?_) (fun h' z1 z2 z3 => ?_)
      · obtain ⟨v, hv⟩ := hf t (List.mem_cons_of_mem _ ht)
        obtain ⟨m1, m2, m3, m4⟩ := hm t ht
        refine ⟨v, ?_⟩
        rw [e4 _ (neSF m1) (fun e => h5 t ht (Prod.mk.inj e).1) (fun e => by
          have := (Prod.mk.inj e).1
          omega)]
        exact hv
      · refine kk h' ?_ ⟨⟨?_, ?_⟩, z2⟩ (fun b b1 b2 => ?_)
        · have e : lenL (s :: r) = 1 + lenL r := rfl
          rw [z1, e, show n + 1 + lenL r = n + (1 + lenL r) by omega]
        · rw [z3 _ (neSA h2) (fun t ht => ?_), e2]
          obtain ⟨m1, m2, m3, m4⟩ := hm t ht
          refine ⟨fun e => ?_, fun e => ?_⟩
          · have := (Prod.mk.inj e).1
            omega
          · have := (Prod.mk.inj e).1
            rw [← this] at m3
            omega
        · rw [z3 _ (neSF h1) (fun t ht => ?_), e3]
          obtain ⟨m1, m2, m3, m4⟩ := hm t ht
          refine ⟨fun e => h5 t ht (Prod.mk.inj e).1.symm, fun e => ?_⟩
          have := (Prod.mk.inj e).1
          omega
        · obtain ⟨b3, b4⟩ := b2 s List.mem_cons_self
          rw [z3 b b1 (fun t ht => b2 t (List.mem_cons_of_mem _ ht)), e4 b b1 b3 b4]
theorem FI_ofL {id : Nat} {l : List SP} {h h' : PH} (ho : okB 1 l = true) (f : ∀ b, b ≠ SZ → (∀ s ∈ l, b ≠ (s.1, id) ∧ b ≠ (s.2.1, id)) → h' b = h b) : FI id (id + 1 + lenL l) h h' := by
  intro b h1 h2
  refine f b h1 (fun s hs => ?_)
  obtain ⟨m1, m2, m3, m4⟩ := okB_m l 1 ho s hs
  refine ⟨fun e => ?_, fun e => ?_⟩
  · subst e
    rw [psF m1] at h2
    rcases h2 with h2 | h2 | h2
    · exact nspF m1 h2
    · omega
    · omega
  · subst e
    rw [psA m2] at h2
    rcases h2 with h2 | h2 | h2
    · exact nspA m2 h2
    · omega
    · omega
theorem obS.fr {h h' : PH} {id : Nat} : ∀ {l : List SP}, (∀ s ∈ l, h' (s.2.1, id) = h (s.2.1, id) ∧ h' (s.1, id) = h (s.1, id)) → obS h id l → obS h' id l
  | [], _, _ => trivial
  | s :: r, e, g => ⟨⟨(e s List.mem_cons_self).1.trans g.1.1, (e s List.mem_cons_self).2.trans g.1.2⟩, obS.fr (fun t ht => e t (List.mem_cons_of_mem _ ht)) g.2⟩
theorem inS.fr {h h' : PH} {id : Nat} : ∀ {l : List (Nat × Int32)}, (∀ s ∈ l, h' (s.1, id) = h (s.1, id)) → inS h id l → inS h' id l
  | [], _, _ => trivial
  | s :: r, e, g => ⟨(e s List.mem_cons_self).trans g.1, inS.fr (fun t ht => e t (List.mem_cons_of_mem _ ht)) g.2⟩
def okI (I : List (Nat × Int32)) : Bool := I.all (fun p => Nat.ble 10000 p.1)
theorem okI_m {I : List (Nat × Int32)} (h : okI I = true) {p : Nat × Int32} (hp : p ∈ I) : 10000 ≤ p.1 := by
  have := List.all_eq_true.mp h p hp
  exact Nat.le_of_ble_eq_true this
theorem obS.FI {h h' : PH} {id lo hi : Nat} {l : List SP} (g : obS h id l) (ho : okB 1 l = true) (f : FI lo hi h h') (hx : id + lenL l < lo ∨ hi ≤ id) : obS h' id l := g.fr (fun s hs => by
  obtain ⟨m1, m2, m3, m4⟩ := okB_m l 1 ho s hs
  exact ⟨f.atA m2 (by omega), f.atF m1 (by omega)⟩)
theorem inS.FI {h h' : PH} {id lo hi : Nat} {I : List (Nat × Int32)} (g : inS h id I) (ho : okI I = true) (f : FI lo hi h h') (hx : id < lo ∨ hi ≤ id) : inS h' id I := g.fr (fun s hs => f.atF (okI_m ho hs) hx)
/-- a field of its own: not one of the row's -/
theorem obS.upF {h : PH} {id t : Nat} {c : Option PC} {l : List SP} (g : obS h id l) (ht : 10000 ≤ t) (ho : okB 1 l = true) (hn : l.all (fun s => !(Nat.beq s.1 t)) = true) : obS (up h (t, id) c) id l := g.fr (fun s hs => by
  obtain ⟨m1, m2, m3, m4⟩ := okB_m l 1 ho s hs
  refine ⟨up_ne _ _ (fun e => ?_), up_ne _ _ (fun e => ?_)⟩
  · have := (Prod.mk.inj e).1
    omega
  · have h1 := List.all_eq_true.mp hn s hs
    have h2 := (Prod.mk.inj e).1
    rw [h2, Nat.beq_refl] at h1
    cases h1)
theorem inS.ofL {h h' : PH} {id : Nat} {l : List SP} {I : List (Nat × Int32)} (g : inS h id I) (hI : okI I = true) (ho : okB 1 l = true) (hn : I.all (fun p => l.all (fun s => !(Nat.beq s.1 p.1))) = true) (f : ∀ b, b ≠ SZ → (∀ s ∈ l, b ≠ (s.1, id) ∧ b ≠ (s.2.1, id)) → h' b = h b) : inS h' id I := g.fr (fun p hp => by
  have hp1 := okI_m hI hp
  refine f _ (neSF hp1) (fun s hs => ?_)
  obtain ⟨m1, m2, m3, m4⟩ := okB_m l 1 ho s hs
  refine ⟨fun e => ?_, fun e => ?_⟩
  · have h1 := List.all_eq_true.mp (List.all_eq_true.mp hn p hp) s hs
    have h2 := (Prod.mk.inj e).1
    rw [h2, Nat.beq_refl] at h1
    cases h1
  · have := (Prod.mk.inj e).1
    omega)
theorem nwO_ok {h : PH} {ci N n rc rs : Nat} {g0 : PA} {dv : Nat → PV} {K : Nat → PH → Nat → Nat → Prop} (hz : h SZ = pA 99 n g0) (k : ∀ h', h' SZ = pA 99 (n + 1) g0 → (∀ j < N, h' (10000 + 100 * ci + j, n) = pF (dv j)) → FI n (n + 1) h h' → K n h' rc rs) : nwO h ci N (1 + rc) (N + rs) dv K := by
  refine ⟨n, g0, rc, rs, rfl, rfl, hz, k _ (up_eq _ _ _) (fun j hj => ?_) (fun b h1 h2 => ?_)⟩
  · rw [up_ne _ _ (neSF (by omega))]
    refine (if_pos ⟨rfl, by show 10000 + 100 * ci ≤ 10000 + 100 * ci + j; omega, by show 10000 + 100 * ci + j < 10000 + 100 * ci + N; omega⟩).trans ?_
    show pF (dv (10000 + 100 * ci + j - (10000 + 100 * ci))) = _
    rw [Nat.add_sub_cancel_left]
  · rw [up_ne _ _ h1]
    refine if_neg (fun e => ?_)
    obtain ⟨e1, e2, e3⟩ := e
    obtain ⟨t, i⟩ := b
    have e1 : i = n := e1
    have e2 : 10000 + 100 * ci ≤ t := e2
    have ht : 10000 ≤ t := by omega
    rw [psF ht] at h2
    rcases h2 with h2 | h2 | h2
    · exact nspF ht h2
    · omega
    · omega
theorem cl_i {d D nc ns rc rs : Nat} {M : MR} {av : List PV} {h : PH} {P : PH → Prop} {K : PH → Nat → Nat → Prop} {XX : String → PH → Nat → Nat → Prop} (hd : D + 1 ≤ d) (c : CT D M av h nc ns (fun r h' => r = .inl none ∧ P h')) (k : ∀ h', P h' → K h' rc rs) : cl d (nc + rc) (ns + rs) M av h (kV K) XX :=
  ⟨D, nc, ns, rc, rs, _, hd, rfl, rfl, c, fun v h1 q => by
    obtain ⟨e, q⟩ := q
    injection e with e
    exact ⟨e, k h1 q⟩, fun E h1 q => by cases q.1⟩
