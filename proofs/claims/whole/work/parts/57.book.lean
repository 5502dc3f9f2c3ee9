/-! book: the loop over the lines -/
theorem copies_ok {u : MEM} {a b : LA} {N : Nat} (hA : N ≤ aN a.1) (hB : N ≤ aN b.1) (hne : a ≠ b) (hN : N ≤ 2000) : f_X10_copies 3000 842 a b (nI N) u = some ((), tA u b (fun j => if j < N then fA u a j else fA u b j)) := by
  have e4 : ∀ G, fA (tA u b G) b = G := fun G => by rw [fA_tA, if_pos rfl]
  rw [E_X10_copies]
  obtain ⟨v, n1, e1, e2⟩ := for_rel (F := fun n i (u : MEM) => f_X10_copies_3 3000 n a b (nI N) i u) (N := N)
    (fun k v => v = tA u b (fun j => if j < k then fA u a j else fA u b j))
    (fun n k v hk p => by
      subst p
      refine ⟨_, ?_, rfl⟩
      show f_X10_copies_3 3000 (n + 1) a b (nI N) (nI k) _ = _
      have c1 : k < aN a.1 := by omega
      have c2 : k < aN b.1 := by omega
      have e3 : fA (tA u b (fun j => if j < k then fA u a j else fA u b j)) a = fA u a := by rw [fA_tA, if_neg hne]
      rw [E_X10_copies_3]
      simp (disch := omega) only [nlt, hk, if_true, bIn, c1, c2, decide_true, ck_tr, lt_eq, rAn, sAn, e3, e4, tA_tA, naddL]
      have e : upd (fun j => if j < k then fA u a j else fA u b j) k (fA u a k) = (fun j => if j < k + 1 then fA u a j else fA u b j) := by
        funext j
        rw [upd_eq]
        by_cases c : j = k
        · rw [if_pos c, if_pos (by omega), c]
        · rw [if_neg c]
          by_cases c2 : j < k
          · rw [if_pos c2, if_pos (by omega)]
          · rw [if_neg c2, if_neg (by omega)]
      rw [e])
    N 3000 0 u (by omega) (by omega) (by
      have e : (fun j => if j < 0 then fA u a j else fA u b j) = fA u b := funext fun j => if_neg (by omega)
      show u = tA u b (fun j => if j < 0 then fA u a j else fA u b j)
      rw [e, tA_self])
  have e1 : f_X10_copies_3 3000 3000 a b (nI N) 0 u = f_X10_copies_3 3000 (n1 + 1) a b (nI N) (nI N) v := e1
  rw [e1, E_X10_copies_3, if_neg (by rw [nlt _ _ (by omega) (by omega)]; omega), e2]
def beT (t : Nat) : Bool := match t with
  | 11004 => true
  | 11005 => true
  | 11006 => true
  | 1022 => true
  | 11008 => true
  | _ => false
def pBe (a : LA) : Bool := beT a.1 && Nat.beq a.2 842
def pBq (a : LA) : Bool := pBe a || ((Nat.beq a.1 11047 || Nat.beq a.1 1023) && Nat.beq a.2 842)
theorem pBe_pBq (a : LA) (h : pBe a = true) : pBq a = true := by unfold pBq; rw [h, Bool.true_or]
theorem pTm_pBe (a : LA) (h : pTm a = true) : pBe a = true := by
  obtain ⟨t, i⟩ := a
  obtain ⟨h1, h2⟩ := and_t (a := (Nat.beq t 11004 || (Nat.beq t 11005 || Nat.beq t 11006))) h
  have h3 : i = 842 := Nat.eq_of_beq_eq_true h2
  subst h3
  rcases or_t h1 with e | e
  · have := Nat.eq_of_beq_eq_true e; subst this; rfl
  · rcases or_t e with e | e
    · have := Nat.eq_of_beq_eq_true e; subst this; rfl
    · have := Nat.eq_of_beq_eq_true e; subst this; rfl
theorem Fr.be {w w1 : MEM} (g : Fr pTm w w1) : Fr pBe w w1 := g.mono pTm_pBe
def pBk (b : Nat) (a : LA) : Bool := pTx a || ((Nat.beq a.1 1 || Nat.beq a.1 10001) && Nat.beq a.2 b)
theorem Fr.bk {w w1 : MEM} (b : Nat) (g : Fr pTx w w1) : Fr (pBk b) w w1 := g.mono (fun a h => by unfold pBk; rw [h, Bool.true_or])
theorem pBk_1 (b : Nat) : pBk b (1, b) = true := by
  have : Nat.beq b b = true := Nat.beq_refl b
  show (pTx (1, b) || (true && Nat.beq b b)) = true
  rw [this]
  exact Bool.or_true _
theorem pBk_c (b : Nat) : pBk b (10001, b) = true := by
  have : Nat.beq b b = true := Nat.beq_refl b
  show (pTx (10001, b) || (true && Nat.beq b b)) = true
  rw [this]
  exact Bool.or_true _
theorem finOK {v : MEM} {T : Nat → Nat} {N q n : Nat} (h : TXM v T N q) : ∃ v1, (bnd (f_X10_result 3000 842 (nI n) v) fun (x4 : Int32) (w3 : MEM) => if (rS w3 (11005, 842)) = (-1 : Int32) then (lt (sS w3 (11047, 842) (nI n)) fun (w5 : MEM) => bnd (f_X10_copies 3000 842 (1022, 842) (1023, 842) (13 : Int32) w5) fun (u7 : Unit) (w6 : MEM) => some (x4, w6)) else (some (x4, w3))) = some (nI n, v1) ∧ Fr pBq v v1 ∧ rS v1 (11008, 842) = -1 ∧ rS v1 (11047, 842) = nI n ∧ ∀ j < 13, fA v1 (1023, 842) j = fA v (1022, 842) j := by
  have e5 : rS (sS v (11008, 842) (-1)) (11005, 842) = -1 := by rw [rS_sS, if_neg (by decide)]; exact h.2.2.2.2.1
  have k := copies_ok (u := sS (sS v (11008, 842) (-1)) (11047, 842) (nI n)) (a := (1022, 842)) (b := (1023, 842)) (N := 13) (by decide) (by decide) (by decide) (by decide)
  have k : f_X10_copies 3000 842 (1022, 842) (1023, 842) (13 : Int32) (sS (sS v (11008, 842) (-1)) (11047, 842) (nI n)) = _ := k
  refine ⟨tA (sS (sS v (11008, 842) (-1)) (11047, 842) (nI n)) (1023, 842) (fun j => if j < 13 then fA (sS (sS v (11008, 842) (-1)) (11047, 842) (nI n)) (1022, 842) j else fA (sS (sS v (11008, 842) (-1)) (11047, 842) (nI n)) (1023, 842) j), ?_, ?_, ?_, ?_, ?_⟩
  · rw [result_ok _ h, bnd_some, if_pos e5, lt_eq, k, bnd_some]
  · exact Fr.A (a := (1023, 842)) (Fr.S (a := (11047, 842)) (Fr.S (a := (11008, 842)) (Fr.rf _ _) _ rfl) _ rfl) _ rfl
  · rw [rS_tA, rS_sS, if_neg (by decide), rS_sS, if_pos rfl]
  · rw [rS_tA, rS_sS, if_pos rfl]
  · intro j hj
    rw [fA_tA, if_pos rfl, if_pos hj]
    rfl
theorem finF {v : MEM} {k q : Nat} (x : Int32) (h : TFM v k q) : (bnd (f_X10_result 3000 842 x v) fun (x4 : Int32) (w3 : MEM) => if (rS w3 (11005, 842)) = (-1 : Int32) then (lt (sS w3 (11047, 842) x) fun (w5 : MEM) => bnd (f_X10_copies 3000 842 (1022, 842) (1023, 842) (13 : Int32) w5) fun (u7 : Unit) (w6 : MEM) => some (x4, w6)) else (some (x4, w3))) = some (nI k - 10, sS v (11008, 842) (nI q)) := by
  have e5 : ¬ rS (sS v (11008, 842) (nI q)) (11005, 842) = -1 := by
    have := h.1.1
    rw [rS_sS, if_neg (by decide), h.2.2]
    exact ne_m1 (by omega)
  rw [result_F x h, bnd_some, if_neg e5]
theorem b143F {v : MEM} {k q : Nat} (K : Nat → Int32 → MEM → Option (Int32 × MEM)) (x y : Int32) (h : TFM v k q) : f_X10_book_143 3000 K 842 x y v = some (nI k - 10, sS v (11008, 842) (nI q)) := by
  rw [E_X10_book_143, M_numF _ _ h, bnd_some, M_signF _ h, bnd_some, M_fineF h, bnd_some, if_pos rfl]
  exact finF x h
def LNS (F : Nat → Int32) : Prop := ∀ j < 13, F j = -1 ∨ ∃ v, v ≤ 99 ∧ F j = nI v
def bkOut (b : Nat) (T : Nat → Nat) (N p m g : Nat) (F : Nat → Int32) (u : MEM) (x : Option (Int32 × MEM)) : Prop :=
  (∃ c u1, x = some (1, u1) ∧ Fr (pBk b) u u1 ∧ c ≤ 6 ∧ rS u1 (10001, b) = nI c ∧ rS u1 (10806, 1) = -1 ∧ LNS (fA u1 (1, b)) ∧ ∀ v k, g < k → TXM v T N p → (∀ j < 13, fA v (1022, 842) j = F j) → ∃ v1, f_X10_book_67 3000 k 842 (nI m) v = some (nI c, v1) ∧ Fr pBq v v1 ∧ rS v1 (11008, 842) = -1 ∧ rS v1 (11047, 842) = nI c ∧ ∀ j < 13, fA v1 (1023, 842) j = fA u1 (1, b) j)
  ∨ (∃ d q u1, x = some (0, u1) ∧ Fr (pBk b) u u1 ∧ TFC u1 d q ∧ ∀ v k, g < k → TXM v T N p → (∀ j < 13, fA v (1022, 842) j = F j) → ∃ v1, f_X10_book_67 3000 k 842 (nI m) v = some (nI d - 10, v1) ∧ Fr pBe v v1 ∧ rS v1 (11008, 842) = nI q)
theorem b_fail {v v2 : MEM} {d q : Nat} (f : Fr pBe v v2) (x : Option (Int32 × MEM)) (e : x = some (nI d - 10, sS v2 (11008, 842) (nI q))) : ∃ v1, x = some (nI d - 10, v1) ∧ Fr pBe v v1 ∧ rS v1 (11008, 842) = nI q :=
  ⟨_, e, Fr.S (a := (11008, 842)) f _ rfl, by rw [rS_sS, if_pos rfl]⟩
theorem book_loop {b : Nat} (hb : b ≠ 1) {T : Nat → Nat} {N : Nat} : ∀ g m n u p, m + g = 7 → g < n → m ≤ 6 → TXC u T N p → rS u (10001, b) = nI m → LNS (fA u (1, b)) → bkOut b T N p m g (fA u (1, b)) u (f_X0_read_6 3000 n b 1 (nI m) u)
  | 0, m, n, u, p, h1, h2, h3, hT, hC, hL => by omega
  | g + 1, m, n, u, p, h1, h2, h3, hT, hC, hL => by
    obtain ⟨n, rfl⟩ : ∃ n', n = n' + 1 := ⟨n - 1, by omega⟩
    have hN := hT.1
    obtain ⟨q, s⟩ := sk_ex T N N p hT.2.1 (by omega)
    obtain ⟨u1, a1, a2, a3, a4⟩ := C_peek hT s
    have hq := s.2.1
    have s2 := s.idem
    rw [E_X0_read_6, if_neg (by rw [nLlt _ _ (by omega) (by decide)]; show ¬ 6 < m; omega), a1, bnd_some]
    unfold pk
    by_cases c0 : q < N
    · rw [if_pos c0, if_neg (ne_m1 (by have := (hT.2.2.2.2.2 q c0).1; omega))]
      obtain ⟨r, d⟩ := rd_ex T N N q hq (by omega)
      have fb1 : Fr (pBk b) u u1 := a4.bk b
      -- the model up to the hour
      have mod : ∀ v k, TXM v T N p → ∃ v2, Fr pTm v v2 ∧ TXM v2 T N q ∧ f_X10_book_67 3000 (k + 1) 842 (nI m) v = (bnd (f_X10_readNumber 3000 842 (1 : Int32) (12 : Int32) v2) fun (x19 : Int32) (w18 : MEM) => bnd (f_X10_fine 3000 842 w18) fun (x21 : Int32) (w20 : MEM) => if x21 = 0 then (bnd (f_X10_fine 3000 842 w20) fun (x23 : Int32) (w22 : MEM) => if x23 = 0 then (f_X10_book_143 3000 (fun l0 l2 w => f_X10_book_67 3000 k l0 l2 w) 842 (nI m) x19 w22) else (if nI m = (6 : Int32) then (bnd (f_X10_wrong 3000 842 (3 : Int32) (nI q) w22) fun (u25 : Unit) (w24 : MEM) => f_X10_book_143 3000 (fun l0 l2 w => f_X10_book_67 3000 k l0 l2 w) 842 (nI m) x19 w24) else (f_X10_book_143 3000 (fun l0 l2 w => f_X10_book_67 3000 k l0 l2 w) 842 (nI m) x19 w22))) else (ck (bI x19 13) (if (rA w20 (1022, 842) x19) = (-1 : Int32) then (bnd (f_X10_fine 3000 842 w20) fun (x27 : Int32) (w26 : MEM) => if x27 = 0 then (f_X10_book_143 3000 (fun l0 l2 w => f_X10_book_67 3000 k l0 l2 w) 842 (nI m) x19 w26) else (if nI m = (6 : Int32) then (bnd (f_X10_wrong 3000 842 (3 : Int32) (nI q) w26) fun (u29 : Unit) (w28 : MEM) => f_X10_book_143 3000 (fun l0 l2 w => f_X10_book_67 3000 k l0 l2 w) 842 (nI m) x19 w28) else (f_X10_book_143 3000 (fun l0 l2 w => f_X10_book_67 3000 k l0 l2 w) 842 (nI m) x19 w26))) else (bnd (f_X10_wrong 3000 842 (2 : Int32) (nI q) w20) fun (u31 : Unit) (w30 : MEM) => bnd (f_X10_fine 3000 842 w30) fun (x33 : Int32) (w32 : MEM) => if x33 = 0 then (f_X10_book_143 3000 (fun l0 l2 w => f_X10_book_67 3000 k l0 l2 w) 842 (nI m) x19 w32) else (if nI m = (6 : Int32) then (bnd (f_X10_wrong 3000 842 (3 : Int32) (nI q) w32) fun (u35 : Unit) (w34 : MEM) => f_X10_book_143 3000 (fun l0 l2 w => f_X10_book_67 3000 k l0 l2 w) 842 (nI m) x19 w34) else (f_X10_book_143 3000 (fun l0 l2 w => f_X10_book_67 3000 k l0 l2 w) 842 (nI m) x19 w32)))))) := by
        intro v k hv
        obtain ⟨v1, b1, b2, b3⟩ := M_more hv s
        obtain ⟨v2, b4, b5, b6⟩ := M_here b2 s2
        refine ⟨v2, b3.tr b6, b5, ?_⟩
        rw [E_X10_book_67, M_fine hv.2.2.2.2.1, bnd_some, if_neg (by decide), b1, if_pos c0, bnd_some, if_neg (by decide), b4, bnd_some, lt_eq, b5.2.2.2.1]
      rcases C_num (lo := 1) (n := 13) (hi := 12) a2 s2 d (by omega) rfl (by omega) with ⟨k1, k2, k3, u2, k4, k5, k6, k7⟩ | ⟨k1, k2, u2, k4, k5, k6⟩ | ⟨k1, u2, k4, k5, k6⟩
      · obtain ⟨H, hH⟩ : ∃ H, dv T q (r - q) = H := ⟨_, rfl⟩
        rw [hH] at k2 k3 k4
        have k4 : f_X8_number 3000 1 (1 : Int32) (12 : Int32) u1 = some (nI H, u2) := k4
        have fb2 : Fr (pBk b) u u2 := fb1.tr (k6.bk b)
        have eF : fA u2 (1, b) = fA u (1, b) := (k6.1 _ rfl).trans (a4.1 _ rfl)
        have eC : rS u2 (10001, b) = nI m := ((k6.2.1 _ rfl).trans (a4.2.1 _ rfl)).trans hC
        have mod2 : ∀ v k, TXM v T N p → (∀ j < 13, fA v (1022, 842) j = fA u (1, b) j) → ∃ v3, Fr pTm v v3 ∧ TXM v3 T N r ∧ (∀ j < 13, fA v3 (1022, 842) j = fA u (1, b) j) ∧ f_X10_book_67 3000 (k + 1) 842 (nI m) v = (if fA u (1, b) H = (-1 : Int32) then (if nI m = (6 : Int32) then (bnd (f_X10_wrong 3000 842 (3 : Int32) (nI q) v3) fun (u29 : Unit) (w28 : MEM) => f_X10_book_143 3000 (fun l0 l2 w => f_X10_book_67 3000 k l0 l2 w) 842 (nI m) (nI H) w28) else (f_X10_book_143 3000 (fun l0 l2 w => f_X10_book_67 3000 k l0 l2 w) 842 (nI m) (nI H) v3)) else (bnd (f_X10_wrong 3000 842 (2 : Int32) (nI q) v3) fun (u31 : Unit) (w30 : MEM) => bnd (f_X10_fine 3000 842 w30) fun (x33 : Int32) (w32 : MEM) => if x33 = 0 then (f_X10_book_143 3000 (fun l0 l2 w => f_X10_book_67 3000 k l0 l2 w) 842 (nI m) (nI H) w32) else (if nI m = (6 : Int32) then (bnd (f_X10_wrong 3000 842 (3 : Int32) (nI q) w32) fun (u35 : Unit) (w34 : MEM) => f_X10_book_143 3000 (fun l0 l2 w => f_X10_book_67 3000 k l0 l2 w) 842 (nI m) (nI H) w34) else (f_X10_book_143 3000 (fun l0 l2 w => f_X10_book_67 3000 k l0 l2 w) 842 (nI m) (nI H) w32)))) := by
          intro v k hv hF
          obtain ⟨v2, b1, b2, b3⟩ := mod v k hv
          rcases M_num (lo := 1) (n := 13) (hi := 12) b2 s2 d (by omega) rfl (by omega) with ⟨m1, m2, m3, v3, m4, m5, m6⟩ | ⟨m1, m2, v3, m4, m5, m6⟩ | ⟨m1, v3, m4, m5, m6⟩
          · rw [hH] at m4
            have m4 : f_X10_readNumber 3000 842 (1 : Int32) (12 : Int32) v2 = some (nI H, v3) := m4
            have eV : ∀ j < 13, fA v3 (1022, 842) j = fA u (1, b) j := by
              intro j hj
              rw [m6.1 (1022, 842) rfl, b1.1 (1022, 842) rfl]
              exact hF j hj
            refine ⟨v3, b1.tr m6, m5, eV, ?_⟩
            have fi := M_fine m5.2.2.2.2.1
            rw [b3, m4, bnd_some, fi, bnd_some, if_neg (by decide), bIn _ _ (by omega), decide_eq_true k3, ck_tr, rAn _ _ _ (by omega), eV H k3]
            by_cases c : fA u (1, b) H = -1
            · rw [if_pos c, if_pos c, fi, bnd_some, if_neg (by decide)]
            · rw [if_neg c, if_neg c]
          · rw [hH] at m2
            exact absurd ⟨k2, k3⟩ m2
          · omega
        rw [E_X0_readLine, k4, bnd_some, if_neg (ne_m1 (by omega)), bIn _ _ (by omega), decide_eq_true k3, ck_tr, rAn _ _ _ (by omega), eF]
        by_cases c1 : fA u (1, b) H = -1
        · rw [if_pos c1, eC]
          by_cases c2 : m < 6
          · rw [if_pos (by rw [nltL _ _ (by omega) (by decide)]; exact c2)]
            obtain ⟨q2, t⟩ := sk_ex T N N r k5.2.1 (by omega)
            have hq2 := t.2.1
            have t2 := t.idem
            obtain ⟨r2, e⟩ := rd_ex T N N q2 hq2 (by omega)
            have mod3 : ∀ v k, TXM v T N p → (∀ j < 13, fA v (1022, 842) j = fA u (1, b) j) → ∃ v3, Fr pTm v v3 ∧ TXM v3 T N r ∧ (∀ j < 13, fA v3 (1022, 842) j = fA u (1, b) j) ∧ f_X10_book_67 3000 (k + 1) 842 (nI m) v = f_X10_book_143 3000 (fun l0 l2 w => f_X10_book_67 3000 k l0 l2 w) 842 (nI m) (nI H) v3 := by
              intro v k hv hF
              obtain ⟨v3, b1, b2, b3, b4⟩ := mod2 v k hv hF
              refine ⟨v3, b1, b2, b3, ?_⟩
              rw [b4, if_pos c1, if_neg (by rw [neqL _ _ (by omega) (by decide)]; show ¬ m = 6; omega)]
            rcases C_num (lo := 0) (n := 100) (hi := 99) k5 t e (by omega) rfl (by omega) with ⟨l1, l2, l3, u3, l4, l5, l6, l7⟩ | ⟨l1, l2, u3, l4, l5, l6⟩ | ⟨l1, u3, l4, l5, l6⟩
            · obtain ⟨V, hV⟩ : ∃ V, dv T q2 (r2 - q2) = V := ⟨_, rfl⟩
              rw [hV] at l2 l3 l4
              have l4 : f_X8_number 3000 1 (0 : Int32) (99 : Int32) u2 = some (nI V, u3) := l4
              have eF3 : fA u3 (1, b) = fA u (1, b) := (l6.1 _ rfl).trans eF
              have eC3 : rS u3 (10001, b) = nI m := (l6.2.1 _ rfl).trans eC
              generalize hu4 : sS (tA u3 (1, b) (upd (fA u (1, b)) H (nI V))) (10001, b) (nI (m + 1)) = u4
              have f34 : Fr (pBk b) u3 u4 := by
                rw [← hu4]
                exact Fr.S (a := (10001, b)) (Fr.A (a := (1, b)) (Fr.rf _ _) _ (pBk_1 b)) _ (pBk_c b)
              have fb4 : Fr (pBk b) u u4 := (fb2.tr (l6.bk b)).tr f34
              have eF4 : fA u4 (1, b) = upd (fA u (1, b)) H (nI V) := by rw [← hu4, fA_sS, fA_tA, if_pos rfl]
              have eC4 : rS u4 (10001, b) = nI (m + 1) := by rw [← hu4, rS_sS, if_pos rfl]
              have hT4 : TXC u4 T N r2 := by
                rw [← hu4]
                exact l5
              obtain ⟨q3, y⟩ := sk_ex T N N r2 hT4.2.1 (by omega)
              have hne : ¬ nI V = -1 := ne_m1 (by omega)
              rw [l4, bnd_some, ck_tr, sAn _ _ _ _ (by omega), eF3, lt_eq, rS_tA, eC3, naddL, lt_eq]
              rw [hu4, rAn _ _ _ (by omega), eF4, upd_at, ck_tr, if_neg hne, bnd_some, if_neg (by decide)]
              rcases C_sign (c := 59) hT4 y (by omega) with ⟨z1, z2, u5, z3, z4, z5⟩ | ⟨z1, u5, z3, z4, z5⟩
              · have z3 : f_X8_needSign 3000 1 (59 : Int32) u4 = some (1, u5) := z3
                have eF5 : fA u5 (1, b) = upd (fA u (1, b)) H (nI V) := (z5.1 _ rfl).trans eF4
                have eC5 : rS u5 (10001, b) = nI (m + 1) := (z5.2.1 _ rfl).trans eC4
                have hL5 : LNS (fA u5 (1, b)) := by
                  intro j hj
                  rw [eF5, upd_eq]
                  by_cases c : j = H
                  · rw [if_pos c]; exact Or.inr ⟨V, by omega, rfl⟩
                  · rw [if_neg c]; exact hL j hj
                have ih := book_loop hb g (m + 1) n u5 (q3 + 1) (by omega) (by omega) (by omega) z4 eC5 hL5
                rw [z3, bnd_some, if_neg (by decide)]
                have fb5 : Fr (pBk b) u u5 := fb4.tr (z5.bk b)
                have mod4 : ∀ v k, TXM v T N p → (∀ j < 13, fA v (1022, 842) j = fA u (1, b) j) → ∃ v6, Fr pBe v v6 ∧ TXM v6 T N (q3 + 1) ∧ (∀ j < 13, fA v6 (1022, 842) j = fA u5 (1, b) j) ∧ f_X10_book_67 3000 (k + 1) 842 (nI m) v = f_X10_book_67 3000 k 842 (nI (m + 1)) v6 := by
                  intro v k hv hF
                  obtain ⟨v3, b1, b2, b3, b4⟩ := mod3 v k hv hF
                  rcases M_num (lo := 0) (n := 100) (hi := 99) b2 t e (by omega) rfl (by omega) with ⟨m1, m2, m3, v4, m4, m5, m6⟩ | ⟨m1, m2, v4, m4, m5, m6⟩ | ⟨m1, v4, m4, m5, m6⟩
                  · rw [hV] at m4
                    have m4 : f_X10_readNumber 3000 842 (0 : Int32) (99 : Int32) v3 = some (nI V, v4) := m4
                    rcases M_sign (c := 59) m5 y (by omega) (by omega) with ⟨x1, x2, v5, x3, x4, x5⟩ | ⟨x1, v5, x3, x4, x5⟩
                    · have x3 : f_X10_sign 3000 842 (59 : Int32) v4 = some ((), v5) := x3
                      have e22 : fA v5 (1022, 842) = fA v3 (1022, 842) := (x5.1 _ rfl).trans (m6.1 _ rfl)
                      refine ⟨tA v5 (1022, 842) (upd (fA v5 (1022, 842)) H (nI V)), Fr.A (a := (1022, 842)) ((b1.tr (m6.tr x5)).be) _ rfl, x4, ?_, ?_⟩
                      · intro j hj
                        rw [fA_tA, if_pos rfl, upd_eq, eF5, upd_eq]
                        by_cases c : j = H
                        · rw [if_pos c, if_pos c]
                        · rw [if_neg c, if_neg c, e22]
                          exact b3 j hj
                      · rw [b4, E_X10_book_143, m4, bnd_some, x3, bnd_some, M_fine x4.2.2.2.2.1, bnd_some, if_neg (by decide), bIn _ _ (by omega), decide_eq_true k3, ck_tr, lt_eq, sAn _ _ _ _ (by omega), naddL]
                    · exact absurd ⟨z1, z2⟩ x1
                  · rw [hV] at m2
                    exact absurd ⟨l2, l3⟩ m2
                  · omega
                rcases ih with ⟨c, u6, i1, i2, i3, i4, i5, i6, i7⟩ | ⟨c, q4, u6, i1, i2, i3, i4⟩
                · refine Or.inl ⟨c, u6, i1, fb5.tr i2, i3, i4, i5, i6, ?_⟩
                  intro v k hk hv hF
                  obtain ⟨k, rfl⟩ : ∃ k', k = k' + 1 := ⟨k - 1, by omega⟩
                  obtain ⟨v6, j1, j2, j3, j4⟩ := mod4 v k hv hF
                  obtain ⟨v7, j5, j6, j7⟩ := i7 v6 k (by omega) j2 j3
                  exact ⟨v7, j4.trans j5, (j1.mono pBe_pBq).tr j6, j7⟩
                · refine Or.inr ⟨c, q4, u6, i1, fb5.tr i2, i3, ?_⟩
                  intro v k hk hv hF
                  obtain ⟨k, rfl⟩ : ∃ k', k = k' + 1 := ⟨k - 1, by omega⟩
                  obtain ⟨v6, j1, j2, j3, j4⟩ := mod4 v k hv hF
                  obtain ⟨v7, j5, j6, j7⟩ := i4 v6 k (by omega) j2 j3
                  exact ⟨v7, j4.trans j5, j1.tr j6, j7⟩
              · have z3 : f_X8_needSign 3000 1 (59 : Int32) u4 = some (0, u5) := z3
                rw [z3, bnd_some, if_pos rfl]
                refine Or.inr ⟨1, q3, u5, rfl, fb4.tr (z5.bk b), z4, ?_⟩
                intro v k hk hv hF
                obtain ⟨k, rfl⟩ : ∃ k', k = k' + 1 := ⟨k - 1, by omega⟩
                obtain ⟨v3, b1, b2, b3, b4⟩ := mod3 v k hv hF
                rcases M_num (lo := 0) (n := 100) (hi := 99) b2 t e (by omega) rfl (by omega) with ⟨m1, m2, m3, v4, m4, m5, m6⟩ | ⟨m1, m2, v4, m4, m5, m6⟩ | ⟨m1, v4, m4, m5, m6⟩
                · have m4 : f_X10_readNumber 3000 842 (0 : Int32) (99 : Int32) v3 = some (nI (dv T q2 (r2 - q2)), v4) := m4
                  rcases M_sign (c := 59) m5 y (by omega) (by omega) with ⟨x1, x2, v5, x3, x4, x5⟩ | ⟨x1, v5, x3, x4, x5⟩
                  · exact absurd ⟨x1, x2⟩ z1
                  · have x3 : f_X10_sign 3000 842 (59 : Int32) v4 = some ((), v5) := x3
                    refine b_fail ((b1.tr (m6.tr x5)).be) _ ?_
                    rw [b4, E_X10_book_143, m4, bnd_some, x3, bnd_some, M_fineF x4, bnd_some, if_pos rfl]
                    exact finF _ x4
                · rw [hV] at m2
                  exact absurd ⟨l2, l3⟩ m2
                · omega
            · have l4 : f_X8_number 3000 1 (0 : Int32) (99 : Int32) u2 = some (-1, u3) := l4
              have eF3 : fA u3 (1, b) = fA u (1, b) := (l6.1 _ rfl).trans eF
              rw [l4, bnd_some, ck_tr, sAn _ _ _ _ (by omega), eF3, lt_eq, lt_eq, rAn _ _ _ (by omega), fA_sS, fA_tA, if_pos rfl, upd_at, ck_tr, if_pos rfl, bnd_some, if_pos rfl]
              refine Or.inr ⟨2, q2, _, rfl, (fb2.tr (l6.bk b)).tr (Fr.S (a := (10001, b)) (Fr.A (a := (1, b)) (Fr.rf _ _) _ (pBk_1 b)) _ (pBk_c b)), l5, ?_⟩
              intro v k hk hv hF
              obtain ⟨k, rfl⟩ : ∃ k', k = k' + 1 := ⟨k - 1, by omega⟩
              obtain ⟨v3, b1, b2, b3, b4⟩ := mod3 v k hv hF
              rcases M_num (lo := 0) (n := 100) (hi := 99) b2 t e (by omega) rfl (by omega) with ⟨m1, m2, m3, v4, m4, m5, m6⟩ | ⟨m1, m2, v4, m4, m5, m6⟩ | ⟨m1, v4, m4, m5, m6⟩
              · exact absurd ⟨m2, m3⟩ l2
              · have m4 : f_X10_readNumber 3000 842 (0 : Int32) (99 : Int32) v3 = some (0, v4) := m4
                refine b_fail ((b1.tr m6).be) _ ?_
                rw [b4, E_X10_book_143, m4, bnd_some, M_signF _ m5, bnd_some, M_fineF m5, bnd_some, if_pos rfl]
                exact finF _ m5
              · omega
            · have l4 : f_X8_number 3000 1 (0 : Int32) (99 : Int32) u2 = some (-1, u3) := l4
              have eF3 : fA u3 (1, b) = fA u (1, b) := (l6.1 _ rfl).trans eF
              rw [l4, bnd_some, ck_tr, sAn _ _ _ _ (by omega), eF3, lt_eq, lt_eq, rAn _ _ _ (by omega), fA_sS, fA_tA, if_pos rfl, upd_at, ck_tr, if_pos rfl, bnd_some, if_pos rfl]
              refine Or.inr ⟨1, q2, _, rfl, (fb2.tr (l6.bk b)).tr (Fr.S (a := (10001, b)) (Fr.A (a := (1, b)) (Fr.rf _ _) _ (pBk_1 b)) _ (pBk_c b)), l5, ?_⟩
              intro v k hk hv hF
              obtain ⟨k, rfl⟩ : ∃ k', k = k' + 1 := ⟨k - 1, by omega⟩
              obtain ⟨v3, b1, b2, b3, b4⟩ := mod3 v k hv hF
              rcases M_num (lo := 0) (n := 100) (hi := 99) b2 t e (by omega) rfl (by omega) with ⟨m1, m2, m3, v4, m4, m5, m6⟩ | ⟨m1, m2, v4, m4, m5, m6⟩ | ⟨m1, v4, m4, m5, m6⟩
              · omega
              · omega
              · have m4 : f_X10_readNumber 3000 842 (0 : Int32) (99 : Int32) v3 = some (0, v4) := m4
                refine b_fail ((b1.tr m6).be) _ ?_
                rw [b4, E_X10_book_143, m4, bnd_some, M_signF _ m5, bnd_some, M_fineF m5, bnd_some, if_pos rfl]
                exact finF _ m5
          · obtain ⟨u3, y1, y2, y3⟩ := C_refuse 3 k7
            have y1 : f_X8_refuse 3000 1 (3 : Int32) u2 = some (0, u3) := y1
            rw [if_neg (by rw [nltL _ _ (by omega) (by decide)]; exact c2), y1, bnd_some, b01_0, ck_tr, bnd_some, if_pos rfl]
            refine Or.inr ⟨3, q, u3, rfl, fb2.tr (y3.bk b), y2, ?_⟩
            intro v k hk hv hF
            obtain ⟨k, rfl⟩ : ∃ k', k = k' + 1 := ⟨k - 1, by omega⟩
            obtain ⟨v3, b1, b2, b3, b4⟩ := mod2 v k hv hF
            obtain ⟨v4, x1, x2, x3⟩ := M_wrong 3 (q := q) (by omega) b2
            have x1 : f_X10_wrong 3000 842 (3 : Int32) (nI q) v3 = some ((), v4) := x1
            refine b_fail ((b1.tr x3).be) _ ?_
            rw [b4, if_pos c1, if_pos (by rw [neqL _ _ (by omega) (by decide)]; show m = 6; omega), x1, bnd_some]
            exact b143F _ _ _ x2
        · obtain ⟨u3, y1, y2, y3⟩ := C_refuse 2 k7
          have y1 : f_X8_refuse 3000 1 (2 : Int32) u2 = some (0, u3) := y1
          rw [if_neg c1, y1, bnd_some, b01_0, ck_tr, bnd_some, if_pos rfl]
          refine Or.inr ⟨2, q, u3, rfl, fb2.tr (y3.bk b), y2, ?_⟩
          intro v k hk hv hF
          obtain ⟨k, rfl⟩ : ∃ k', k = k' + 1 := ⟨k - 1, by omega⟩
          obtain ⟨v3, b1, b2, b3, b4⟩ := mod2 v k hv hF
          obtain ⟨v4, x1, x2, x3⟩ := M_wrong 2 (q := q) (by omega) b2
          have x1 : f_X10_wrong 3000 842 (2 : Int32) (nI q) v3 = some ((), v4) := x1
          refine b_fail ((b1.tr x3).be) _ ?_
          rw [b4, if_neg c1, x1, bnd_some, M_fineF x2, bnd_some, if_pos rfl]
          exact b143F _ _ _ x2
      · have k4 : f_X8_number 3000 1 (1 : Int32) (12 : Int32) u1 = some (-1, u2) := k4
        rw [E_X0_readLine, k4, bnd_some, if_pos rfl, bnd_some, if_pos rfl]
        refine Or.inr ⟨2, q, u2, rfl, fb1.tr (k6.bk b), k5, ?_⟩
        intro v k hk hv hF
        obtain ⟨k, rfl⟩ : ∃ k', k = k' + 1 := ⟨k - 1, by omega⟩
        obtain ⟨v2, b1, b2, b3⟩ := mod v k hv
        rcases M_num (lo := 1) (n := 13) (hi := 12) b2 s2 d (by omega) rfl (by omega) with ⟨m1, m2, m3, v3, m4, m5, m6⟩ | ⟨m1, m2, v3, m4, m5, m6⟩ | ⟨m1, v3, m4, m5, m6⟩
        · exact absurd ⟨m2, m3⟩ k2
        · have m4 : f_X10_readNumber 3000 842 (1 : Int32) (12 : Int32) v2 = some (0, v3) := m4
          refine b_fail ((b1.tr m6).be) _ ?_
          rw [b3, m4, bnd_some, M_fineF m5, bnd_some, if_pos rfl, M_fineF m5, bnd_some, if_pos rfl]
          exact b143F _ _ _ m5
        · omega
      · have k4 : f_X8_number 3000 1 (1 : Int32) (12 : Int32) u1 = some (-1, u2) := k4
        rw [E_X0_readLine, k4, bnd_some, if_pos rfl, bnd_some, if_pos rfl]
        refine Or.inr ⟨1, q, u2, rfl, fb1.tr (k6.bk b), k5, ?_⟩
        intro v k hk hv hF
        obtain ⟨k, rfl⟩ : ∃ k', k = k' + 1 := ⟨k - 1, by omega⟩
        obtain ⟨v2, b1, b2, b3⟩ := mod v k hv
        rcases M_num (lo := 1) (n := 13) (hi := 12) b2 s2 d (by omega) rfl (by omega) with ⟨m1, m2, m3, v3, m4, m5, m6⟩ | ⟨m1, m2, v3, m4, m5, m6⟩ | ⟨m1, v3, m4, m5, m6⟩
        · omega
        · omega
        · have m4 : f_X10_readNumber 3000 842 (1 : Int32) (12 : Int32) v2 = some (0, v3) := m4
          refine b_fail ((b1.tr m6).be) _ ?_
          rw [b3, m4, bnd_some, M_fineF m5, bnd_some, if_pos rfl, M_fineF m5, bnd_some, if_pos rfl]
          exact b143F _ _ _ m5
    · rw [if_neg c0, if_pos rfl]
      refine Or.inl ⟨m, u1, rfl, a4.bk b, h3, (a4.2.1 _ rfl).trans hC, a2.2.2.2.2.1, ?_, ?_⟩
      · rw [a4.1 (1, b) rfl]; exact hL
      · intro v k hk hv hF
        obtain ⟨k, rfl⟩ : ∃ k', k = k' + 1 := ⟨k - 1, by omega⟩
        obtain ⟨v1, b1, b2, b3⟩ := M_more hv s
        obtain ⟨v2, y1, y2, y3, y4, y5⟩ := finOK (n := m) b2
        refine ⟨v2, ?_, (b3.be.mono pBe_pBq).tr y2, y3, y4, fun j hj => ?_⟩
        · rw [E_X10_book_67, M_fine hv.2.2.2.2.1, bnd_some, if_neg (by decide), b1, if_neg c0, bnd_some, if_pos rfl]
          exact y1
        · rw [y5 j hj, b3.1 (1022, 842) rfl, a4.1 (1, b) rfl]
          exact hF j hj
