/-! the class's morning -/
theorem fill_ok (fu : Nat) (a : LA) (v : Int32) (w : MEM) (hn : aN a.1 < fu) (hb : aN a.1 < 2 ^ 31) : f_J7_fill_53178 fu a v w = some ((), tA w a (fun j => if j < aN a.1 then v else fA w a j)) := by
  rw [E_J7_fill_53178, lt_eq]
  obtain ⟨b, n1, e1, e2⟩ := for_rel (F := fun n i (u : MEM) => f_J7_fill_53178_5 fu n a v i (nI (aN a.1)) u) (N := aN a.1)
    (fun k u => u = tA w a (fun j => if j < k then v else fA w a j))
    (fun n k u hk p => by
      subst p
      refine ⟨_, ?_, rfl⟩
      show f_J7_fill_53178_5 fu (n + 1) a v (nI k) (nI (aN a.1)) _ = _
      rw [E_J7_fill_53178_5]
      simp (disch := omega) only [nlt, hk, if_true, bIn, decide_true, ck_tr, lt_eq, sAn, fA_tA, tA_tA, naddL]
      have e : upd (fun j => if j < k then v else fA w a j) k v = (fun j => if j < k + 1 then v else fA w a j) := by
        funext j
        rw [upd_eq]
        by_cases c : j = k
        · rw [if_pos c, if_pos (by omega)]
        · rw [if_neg c]
          by_cases c2 : j < k
          · rw [if_pos c2, if_pos (by omega)]
          · rw [if_neg c2, if_neg (by omega)]
      rw [e])
    (aN a.1) fu 0 w (by omega) hn (by
      have e : (fun j => if j < 0 then v else fA w a j) = fA w a := funext fun j => if_neg (by omega)
      show w = tA w a (fun j => if j < 0 then v else fA w a j)
      rw [e, tA_self])
  have e1 : f_J7_fill_53178_5 fu fu a v 0 (nI (aN a.1)) w = f_J7_fill_53178_5 fu (n1 + 1) a v (nI (aN a.1)) (nI (aN a.1)) b := e1
  rw [e1, E_J7_fill_53178_5, if_neg (by rw [nlt _ _ hb hb]; omega), e2]
theorem lp_const (c : Nat) (v : Int32) (f : Nat → Int32) : ∀ m, lp m 0 (fun h f => upd f (c + h) v) f = fun i => if c ≤ i ∧ i < c + m then v else f i
  | 0 => by
    funext i
    rw [if_neg (by omega)]
    rfl
  | m + 1 => by
    rw [lp_snoc, lp_const c v f m, Nat.zero_add]
    funext i
    rw [upd_eq]
    by_cases c1 : i = c + m
    · rw [if_pos c1, if_pos (by omega)]
    · rw [if_neg c1]
      by_cases c2 : c ≤ i ∧ i < c + m
      · rw [if_pos c2, if_pos (by omega)]
      · rw [if_neg c2, if_neg (by omega)]
theorem tapz_eq (f : Nat → Int32) (m : Nat) : lp m 0 tapz f = fun i => if 28 ≤ i ∧ i < 28 + m then 0 else f i := lp_const 28 0 f m
def bit (j : Nat) : Int32 := 1 <<< (nI j &&& 31)
def frS (C : ACt) (h : Nat) : Int32 := lp (cT C) 0 (fun e b => if cTb C e = h then (if cTa C e = h then b ||| bit (cTb C e) else b) ||| bit (cTa C e) else if cTa C e = h then b ||| bit (cTb C e) else b) 0
def Rm (w : MEM) (i : Nat) (C : ACt) (f : Nat → Int32) : Prop := (∀ t < 8, ∀ j < cH C, fA w (402 + t, i) j = f (7 * t + j)) ∧ (∀ j, cH C ≤ j → j < 7 → fA w (403, i) j = 0 ∧ fA w (407, i) j = 0 ∧ fA w (408, i) j = -1 ∧ fA w (409, i) j = 0) ∧ rS w (10409, i) = f 56 ∧ (∀ j < cH C, fA w (401, i) j = cBr C j)
def CLS (w : MEM) (c l : Nat) (C : ACt) : Prop := rS w (10107, c) = nI (cH C) ∧ rS w (10109, c) = nI (cK C) ∧ (∀ k < cK C, fA w (106, c) k = nI (cKh C k) ∧ fA w (107, c) k = nI (cKp C k)) ∧ rS w (10110, c) = cSun C ∧ rS w (10108, c) = nI (cT C) ∧ (∀ e < cT C, fA w (104, c) e = nI (cTa C e) ∧ fA w (105, c) e = nI (cTb C e)) ∧ (∀ j < 7, fA w (103, c) j = frS C j) ∧ (∀ j < cH C, fA w (101, c) j = cBr C j) ∧ LawC w l (cL C)
def okC (P : LA → Bool) (c l : Nat) : Prop := P (10107, c) = false ∧ P (10109, c) = false ∧ P (106, c) = false ∧ P (107, c) = false ∧ P (10110, c) = false ∧ P (10108, c) = false ∧ P (104, c) = false ∧ P (105, c) = false ∧ P (103, c) = false ∧ P (101, c) = false ∧ P (10304, l) = false ∧ P (301, l) = false ∧ P (302, l) = false
theorem CLS.fr {w w1 : MEM} {c l : Nat} {C : ACt} {P : LA → Bool} (h : CLS w c l C) (f : Fr P w w1) (p : okC P c l) : CLS w1 c l C := by
  obtain ⟨p1, p2, p3, p4, p5, p6, p7, p8, p9, p10, p11, p12, p13⟩ := p
  obtain ⟨h1, h2, h3, h4, h5, h6, h7, h8, h9⟩ := h
  refine ⟨?_, ?_, ?_, ?_, ?_, ?_, ?_, ?_, h9.fr f p11 p12 p13⟩
  · rw [f.2.1 _ p1]; exact h1
  · rw [f.2.1 _ p2]; exact h2
  · rw [f.1 _ p3, f.1 _ p4]; exact h3
  · rw [f.2.1 _ p5]; exact h4
  · rw [f.2.1 _ p6]; exact h5
  · rw [f.1 _ p7, f.1 _ p8]; exact h6
  · rw [f.1 _ p9]; exact h7
  · rw [f.1 _ p10]; exact h8
def pMo (i : Nat) : LA → Bool := fun a => ((Nat.ble 402 a.1 && Nat.ble a.1 409) || Nat.beq a.1 10409) && Nat.beq a.2 i
def pMC (i l : Nat) : LA → Bool := fun a => pMo i a || pLC l a
theorem okMC (i c l l1 : Nat) : okC (pMC i l1) c l := ⟨rfl, rfl, rfl, rfl, rfl, rfl, rfl, rfl, rfl, rfl, rfl, rfl, rfl⟩
theorem okLC (c l l1 : Nat) : okC (pLC l1) c l := ⟨rfl, rfl, rfl, rfl, rfl, rfl, rfl, rfl, rfl, rfl, rfl, rfl, rfl⟩
theorem pLC_pMC (i l : Nat) (a : LA) (h : pLC l a = true) : pMC i l a = true := by
  unfold pMC
  rw [h, Bool.or_true]
theorem pMC_A (i l t : Nat) (h : t < 8) : pMC i l (402 + t, i) = true := by
  unfold pMC pMo
  simp only [Bool.or_eq_true, Bool.and_eq_true, Nat.ble_eq, Nat.beq_eq]
  left
  exact ⟨Or.inl (by omega), trivial⟩
theorem pMC_S (i l : Nat) : pMC i l (10409, i) = true := by
  unfold pMC pMo
  simp
theorem Rm.fr {w w1 : MEM} {i : Nat} {C : ACt} {f : Nat → Int32} {P : LA → Bool} (h : Rm w i C f) (g : Fr P w w1) (hp : ∀ t < 9, P (401 + t, i) = false) (hs : P (10409, i) = false) : Rm w1 i C f := by
  obtain ⟨h1, h2, h3, h4⟩ := h
  refine ⟨fun t ht j hj => ?_, ?_, ?_, ?_⟩
  · rw [g.1 _ (by have := hp (t + 1) (by omega); rwa [show 401 + (t + 1) = 402 + t by omega] at this)]
    exact h1 t ht j hj
  · rw [g.1 (403, i) (hp 2 (by omega)), g.1 (407, i) (hp 6 (by omega)), g.1 (408, i) (hp 7 (by omega)), g.1 (409, i) (hp 8 (by omega))]
    exact h2
  · rw [g.2.1 _ hs]; exact h3
  · rw [g.1 (401, i) (hp 0 (by omega))]; exact h4
theorem Rm.fL {w w1 : MEM} {i l : Nat} {C : ACt} {f : Nat → Int32} (h : Rm w i C f) (g : Fr (pLC l) w w1) : Rm w1 i C f := by
  refine h.fr g (fun t ht => ?_) rfl
  unfold pLC
  have e1 : Nat.beq (401 + t) 303 = false := by
    cases e : Nat.beq (401 + t) 303
    · rfl
    · have := Nat.eq_of_beq_eq_true e; omega
  have e2 : Nat.beq (401 + t) 304 = false := by
    cases e : Nat.beq (401 + t) 304
    · rfl
    · have := Nat.eq_of_beq_eq_true e; omega
  show ((Nat.beq (401 + t) 303 || Nat.beq (401 + t) 304) && _) = false
  rw [e1, e2]
  rfl
theorem Rm_upd {w : MEM} {i : Nat} {C : ACt} {f : Nat → Int32} (h : Rm w i C f) (h7 : cH C ≤ 7) {t k : Nat} (ht : t < 8) (hk : k < cH C) (v : Int32) : Rm (tA w (402 + t, i) (upd (fA w (402 + t, i)) k v)) i C (upd f (7 * t + k) v) := by
  obtain ⟨h1, h2, h3, h4⟩ := h
  refine ⟨fun t1 ht1 j hj => ?_, fun j h5 h6 => ?_, ?_, fun j hj => ?_⟩
  · rw [fA_tA, upd_eq]
    by_cases c : t1 = t
    · subst c
      rw [if_pos rfl, upd_eq]
      by_cases c2 : j = k
      · rw [if_pos c2, if_pos (by omega)]
      · rw [if_neg c2, if_neg (by omega)]
        exact h1 t1 ht1 j hj
    · rw [if_neg (by intro e; injection e with e; omega), if_neg (by omega)]
      exact h1 t1 ht1 j hj
  · have g : ∀ t1, fA (tA w (402 + t, i) (upd (fA w (402 + t, i)) k v)) (t1, i) j = fA w (t1, i) j := by
      intro t1
      rw [fA_tA]
      split
      · rename_i e
        rw [upd_eq, if_neg (by omega), e]
      · rfl
    rw [g, g, g, g]
    exact h2 j h5 h6
  · rw [rS_tA, upd_eq, if_neg (by omega)]
    exact h3
  · rw [fA_tA, if_neg (by intro e; injection e with e; omega)]
    exact h4 j hj
def Bd (C : ACt) (t : Nat) (f : Nat → Int32) : Prop := (∀ j < cH C, (∃ v ≤ 99, f (7 + j) = nI v) ∧ (∃ v ≤ 99, f (14 + j) = nI v) ∧ (f (35 + j) = 0 ∨ f (35 + j) = 1)) ∧ f 56 = nI t
theorem held_b (v : Int32) : ∃ u ≤ 99, heldS v = nI u := by
  unfold heldS
  by_cases c : v < 0
  · rw [if_pos c]; exact ⟨0, by omega, rfl⟩
  · rw [if_neg c]
    by_cases c2 : 99 < v
    · rw [if_pos c2]; exact ⟨99, by omega, rfl⟩
    · rw [if_neg c2]
      obtain ⟨j, hj, e⟩ := nI_of c
      subst e
      exact ⟨j, by
        rw [nLlt _ _ hj (by decide)] at c2
        omega, rfl⟩
theorem clp_b (v : Int32) : ∃ u ≤ 40, clp v = nI u := by
  unfold clp
  by_cases c : v < 0
  · rw [if_pos c]; exact ⟨0, by omega, rfl⟩
  · rw [if_neg c]
    by_cases c2 : 40 < v
    · rw [if_pos c2]; exact ⟨40, by omega, rfl⟩
    · rw [if_neg c2]
      obtain ⟨j, hj, e⟩ := nI_of c
      subst e
      exact ⟨j, by
        rw [nLlt _ _ hj (by decide)] at c2
        omega, rfl⟩
theorem cloud_b (C : ACt) (f : Nat → Int32) (h : Nat) : ∃ u ≤ 40, cloudS C f h = nI u := by
  unfold cloudS
  split
  · exact ⟨0, by omega, rfl⟩
  · exact clp_b _
theorem Bd_u {C : ACt} {t k : Nat} {f : Nat → Int32} {v : Int32} (h : Bd C t f) (hk : ∀ j < cH C, k ≠ 7 + j ∧ k ≠ 14 + j ∧ k ≠ 35 + j) (h5 : k ≠ 56) : Bd C t (upd f k v) := by
  refine ⟨fun j hj => ?_, ?_⟩
  · rw [upd_ne _ _ (Ne.symm (hk j hj).1), upd_ne _ _ (Ne.symm (hk j hj).2.1), upd_ne _ _ (Ne.symm (hk j hj).2.2)]
    exact h.1 j hj
  · rw [upd_ne _ _ (Ne.symm h5)]; exact h.2
theorem Bd_m {C : ACt} {t k : Nat} {f : Nat → Int32} {v : Int32} (h : Bd C t f) (h7 : cH C ≤ 7) (hk : k < cH C) (hv : ∃ u ≤ 99, v = nI u) : Bd C t (upd f (7 + k) v) := by
  refine ⟨fun j hj => ?_, ?_⟩
  · rw [upd_ne (j := 14 + j) _ _ (by omega), upd_ne (j := 35 + j) _ _ (by omega), upd_eq]
    refine ⟨?_, (h.1 j hj).2⟩
    split
    · exact hv
    · exact (h.1 j hj).1
  · rw [upd_ne _ _ (by omega)]; exact h.2
theorem Bd_a {C : ACt} {t k : Nat} {f : Nat → Int32} {v : Int32} (h : Bd C t f) (h7 : cH C ≤ 7) (hk : k < cH C) (hv : ∃ u ≤ 99, v = nI u) : Bd C t (upd f (14 + k) v) := by
  refine ⟨fun j hj => ?_, ?_⟩
  · rw [upd_ne (j := 7 + j) _ _ (by omega), upd_ne (j := 35 + j) _ _ (by omega), upd_eq]
    refine ⟨(h.1 j hj).1, ?_, (h.1 j hj).2.2⟩
    split
    · exact hv
    · exact (h.1 j hj).2.1
  · rw [upd_ne _ _ (by omega)]; exact h.2
theorem Bd_s {C : ACt} {t k : Nat} {f : Nat → Int32} {v : Int32} (h : Bd C t f) (h7 : cH C ≤ 7) (hk : k < cH C) (hv : v = 0 ∨ v = 1) : Bd C t (upd f (35 + k) v) := by
  refine ⟨fun j hj => ?_, ?_⟩
  · rw [upd_ne (j := 7 + j) _ _ (by omega), upd_ne (j := 14 + j) _ _ (by omega), upd_eq]
    refine ⟨(h.1 j hj).1, (h.1 j hj).2.1, ?_⟩
    split
    · exact hv
    · exact (h.1 j hj).2.2
  · rw [upd_ne _ _ (by omega)]; exact h.2
theorem Bd_cough {C : ACt} {t k : Nat} {f : Nat → Int32} (hw : WFc C) (h : Bd C t f) (hk : k < cK C) : Bd C t (coughS C k f) := by
  have h7 := hw.1
  have g := (hw.2.2.1 k hk).1
  unfold coughS
  split
  · exact Bd_u h (fun j hj => ⟨by omega, by omega, by omega⟩) (by omega)
  · exact h
theorem Bd_glass {C : ACt} {t k : Nat} {f : Nat → Int32} (hw : WFc C) (h : Bd C t f) (hk : k < cH C) : Bd C t (glassS C k f) := by
  have h7 := hw.1
  unfold glassS
  split
  · exact h
  · have g1 : Bd C t (gl1 C k f) := Bd_m h h7 hk (held_b _)
    have g2 : Bd C t (gl2 C k (gl1 C k f)) := Bd_a g1 h7 hk (held_b _)
    have g3 : Bd C t (gl3 k (gl2 C k (gl1 C k f))) := Bd_u g2 (fun j hj => ⟨by omega, by omega, by omega⟩) (by omega)
    generalize gl3 k (gl2 C k (gl1 C k f)) = f3 at g3
    unfold gl4
    split
    · exact g3
    · split
      · exact Bd_u g3 (fun j hj => ⟨by omega, by omega, by omega⟩) (by omega)
      · exact g3
theorem Bd_pass1 {C : ACt} {t : Nat} {f : Nat → Int32} (hw : WFc C) (h : Bd C t f) : ∀ k ≤ cK C, Bd C t (lp k 0 (coughS C) f)
  | 0, _ => h
  | k + 1, hk => by
    rw [lp_snoc, Nat.zero_add]
    exact Bd_cough hw (Bd_pass1 hw h k (by omega)) (by omega)
theorem Bd_pass2 {C : ACt} {t : Nat} {f : Nat → Int32} (hw : WFc C) (h : Bd C t f) : ∀ k ≤ cH C, Bd C t (lp k 0 (glassS C) f)
  | 0, _ => h
  | k + 1, hk => by
    rw [lp_snoc, Nat.zero_add]
    exact Bd_glass hw (Bd_pass2 hw h k (by omega)) (by omega)
theorem Bd_pass {C : ACt} {t : Nat} {f : Nat → Int32} (hw : WFc C) (h : Bd C t f) : Bd C (t + 1) (passS C f) := by
  have h7 := hw.1
  have g := Bd_pass2 hw (Bd_pass1 hw h (cK C) (Nat.le_refl _)) (cH C) (Nat.le_refl _)
  unfold passS hr1
  rw [tapz_eq]
  generalize lp (cH C) 0 (glassS C) (lp (cK C) 0 (coughS C) f) = f2 at g
  refine ⟨fun j hj => ?_, ?_⟩
  · rw [upd_ne _ _ (by omega), upd_ne _ _ (by omega), upd_ne _ _ (by omega), if_neg (by omega), if_neg (by omega), if_neg (by omega)]
    exact g.1 j hj
  · rw [upd_at]
    show (if 28 ≤ 56 ∧ 56 < 28 + cH C then 0 else f2 56) + 1 = nI (t + 1)
    rw [if_neg (by omega), g.2]
    exact nI_1 t
