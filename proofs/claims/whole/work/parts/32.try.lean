def kmC (k : Nat) : Nat := match k with
  | 0 => 1
  | 1 => 3
  | 2 => 4
  | 3 => 5
  | 4 => 2
  | 5 => 0
  | n => n
theorem oS0 (C : ACt) (h : Nat) (b : Int32) (f : Nat → Int32) : opS C 0 h b f = (if 0 < f (7 + h) then (upd f (7 + h) 0, 1) else (f, 0)) := rfl
theorem oS1 (C : ACt) (h : Nat) (b : Int32) (f : Nat → Int32) : opS C 1 h b f = (if f (35 + h) = 0 then (f, 0) else (upd (upd (upd (upd f (35 + h) 0) (7 + h) 0) (14 + h) 99) (28 + h) 0, 1)) := rfl
theorem oS2 (C : ACt) (h : Nat) (b : Int32) (f : Nat → Int32) : opS C 2 h b f = (if f (35 + h) = 1 then (f, 0) else (upd f (35 + h) 1, 1)) := rfl
theorem oS3 (C : ACt) (h : Nat) (b : Int32) (f : Nat → Int32) : opS C 3 h b f = (if f (35 + h) = 1 ∧ f (21 + h) < 3 then (upd f (21 + h) (f (21 + h) + 1), 1) else (f, 0)) := rfl
theorem oS4 (C : ACt) (h : Nat) (b : Int32) (f : Nat → Int32) : opS C 4 h b f = (if f (35 + h) = 1 ∧ f (14 + h) < 99 then (upd f (14 + h) (heldS (f (14 + h) + 40)), 1) else (f, 0)) := rfl
theorem oS5 (C : ACt) (h : Nat) (b : Int32) (f : Nat → Int32) : opS C 5 h b f = (if f (35 + h) = 0 then (f, 0) else (lp (cH C) 0 (tap1 C h) f, 1)) := rfl
theorem oS6 (C : ACt) (h : Nat) (b : Int32) (f : Nat → Int32) : opS C 6 h b f = (if f h = b then (f, 0) else (upd f h b, 1)) := rfl
theorem oS7 (C : ACt) (h : Nat) (b : Int32) (f : Nat → Int32) : opS C 7 h b f = (if f 56 = 900 then (f, 0) else (passS C f, 1)) := rfl
theorem oS8 (C : ACt) (h : Nat) (b : Int32) (f : Nat → Int32) : opS C 8 h b f = ((lp (cH C) 0 dwn f, 1)) := rfl
theorem Rm_same {w : MEM} {i : Nat} {C : ACt} {f : Nat → Int32} (h : Rm w i C f) (h7 : cH C ≤ 7) {t k : Nat} (ht : t < 8) (hk : k < cH C) {v : Int32} (hv : f (7 * t + k) = v) : Rm (tA w (402 + t, i) (upd (fA w (402 + t, i)) k v)) i C f := by
  have := Rm_upd h h7 ht hk v
  rw [← hv, upd_self] at this
  rw [← hv]
  exact this
theorem passTap_C {w : MEM} {C : ACt} {f : Nat → Int32} {fu i l t h : Nat} (hw : WFc C) (hr : Rm w i C f) (hb : Bd C t f) (hfu : 200 ≤ fu) (hh : h < cH C) : ∃ w1, f_X4_passTap fu i (nI h) (frS C h) w = some ((opS C 5 h 0 f).2, w1) ∧ Fr (pMC i l) w w1 ∧ Rm w1 i C (opS C 5 h 0 f).1 := by
  have h7 := hw.1
  rw [E_X4_passTap, (frS_n hw h).1]
  have hlt := (frS_n hw h).2
  rw [oS5]
  rcases (hb.1 h hh).2.2 with c | c
  · simp only [c, if_true]
    obtain ⟨b, n1, e1, e2, e3⟩ := for_rel (F := fun n x (a : MEM) => f_X4_passTap_2 fu n i (nI h) (nI (frN C h)) x a) (N := 7) (fun k a => Fr (pMC i l) w a ∧ Rm a i C f)
      (fun n k u hk p => by
        obtain ⟨pf, pv⟩ := p
        refine ⟨u, ?_, pf, pv⟩
        show f_X4_passTap_2 fu (n + 1) i (nI h) (nI (frN C h)) (nI k) u = _
        have s5 : fA u (407, i) h = f (35 + h) := pv.1 5 (by omega) _ hh
        rw [E_X4_passTap_2]
        simp (disch := omega) only [nltL, hk, if_true, bIn, rAn, decide_true, ck_tr, (show h < 7 by omega), s5, c, naddL]
        rw [if_neg (by decide)])
      7 fu 0 w (by omega) (by omega) ⟨Fr.rf _ _, hr⟩
    have e1 : f_X4_passTap_2 fu fu i (nI h) (nI (frN C h)) 0 w = f_X4_passTap_2 fu (n1 + 1) i (nI h) (nI (frN C h)) (nI 7) b := e1
    have s5 : fA b (407, i) h = f (35 + h) := e3.1 5 (by omega) _ hh
    refine ⟨b, ?_, e2, e3⟩
    rw [e1, E_X4_passTap_2, if_neg (by decide)]
    simp (disch := omega) only [bIn, rAn, decide_true, ck_tr, (show h < 7 by omega), s5, c]
    rw [if_neg (by decide)]
  · have c0 : ¬ f (35 + h) = 0 := by rw [c]; decide
    simp only [c0, if_false]
    have hst : ∀ k, k ≤ cH C → ∀ j < cH C, (lp k 0 (tap1 C h) f) (35 + j) = f (35 + j) := by
      intro k
      induction k with
      | zero => intro _ j _; rfl
      | succ k ih =>
        intro hk j hj
        rw [lp_snoc, Nat.zero_add]
        have := ih (by omega) j hj
        unfold tap1
        split
        · rw [upd_ne _ _ (by omega)]; exact this
        · exact this
    obtain ⟨b, n1, e1, e2, e3⟩ := for_rel (F := fun n x (a : MEM) => f_X4_passTap_2 fu n i (nI h) (nI (frN C h)) x a) (N := 7) (fun k a => Fr (pMC i l) w a ∧ Rm a i C (lp (min k (cH C)) 0 (tap1 C h) f))
      (fun n k u hk p => by
        obtain ⟨pf, pv⟩ := p
        show ∃ b : MEM, f_X4_passTap_2 fu (n + 1) i (nI h) (nI (frN C h)) (nI k) u = f_X4_passTap_2 fu n i (nI h) (nI (frN C h)) (nI (k + 1)) b ∧ _
        rw [E_X4_passTap_2]
        by_cases hkH : k < cH C
        · rw [Nat.min_eq_left (by omega)] at pv
          rw [Nat.min_eq_left (by omega), lp_snoc, Nat.zero_add]
          have s5 : fA u (407, i) h = 1 := (pv.1 5 (by omega) _ hh).trans ((hst k (by omega) h hh).trans c)
          have s6 : fA u (407, i) k = _ := pv.1 5 (by omega) _ hkH
          have s4 : fA u (406, i) k = _ := pv.1 4 (by omega) _ hkH
          generalize lp k 0 (tap1 C h) f = fk at pv s6 s4
          have s6 : fA u (407, i) k = fk (35 + k) := s6
          have s4 : fA u (406, i) k = fk (28 + k) := s4
          simp (disch := omega) only [nltL, hk, if_true, bIn, rAn, decide_true, ck_tr, (show h < 7 by omega), s5, s6, s4, naddL, lt_eq, sAn, bit_t2 _ hlt k hk]
          unfold tap1
          by_cases c2 : fk (35 + k) = 1
          · rw [if_pos c2]
            by_cases c3 : (frN C h).testBit k = true
            · rw [if_neg (by rw [c3]; decide), if_pos ⟨c3, c2⟩]
              exact ⟨_, rfl, pf.A _ (pMC_A i l 4 (by omega)), Rm_upd (t := 4) pv h7 (by omega) hkH _⟩
            · rw [if_pos (by simpa using c3), if_neg (fun e => c3 e.1)]
              exact ⟨u, rfl, pf, pv⟩
          · rw [if_neg c2, if_neg (fun e => c2 e.2)]
            exact ⟨u, rfl, pf, pv⟩
        · rw [Nat.min_eq_right (by omega)] at pv
          rw [Nat.min_eq_right (by omega)]
          have s5 : fA u (407, i) h = 1 := (pv.1 5 (by omega) _ hh).trans ((hst (cH C) (by omega) h hh).trans c)
          have s6 : fA u (407, i) k = 0 := (pv.2.1 k (by omega) hk).2.1
          refine ⟨u, ?_, pf, pv⟩
          simp (disch := omega) only [nltL, hk, if_true, bIn, rAn, decide_true, ck_tr, (show h < 7 by omega), s5, s6, naddL]
          rw [if_neg (by decide)])
      7 fu 0 w (by omega) (by omega) ⟨Fr.rf _ _, by rw [Nat.min_eq_left (by omega)]; exact hr⟩
    have e1 : f_X4_passTap_2 fu fu i (nI h) (nI (frN C h)) 0 w = f_X4_passTap_2 fu (n1 + 1) i (nI h) (nI (frN C h)) (nI 7) b := e1
    rw [Nat.min_eq_right h7] at e3
    have s5 : fA b (407, i) h = 1 := (e3.1 5 (by omega) _ hh).trans ((hst (cH C) (by omega) h hh).trans c)
    refine ⟨b, ?_, e2, e3⟩
    rw [e1, E_X4_passTap_2, if_neg (by decide)]
    simp (disch := omega) only [bIn, rAn, decide_true, ck_tr, (show h < 7 by omega), s5, if_true]
theorem dwn_eq (f : Nat → Int32) (m : Nat) : lp m 0 dwn f = fun i => if 42 ≤ i ∧ i < 42 + m then -1 else f i := lp_const 42 (-1) f m
theorem dawn_C {w : MEM} {C : ACt} {f : Nat → Int32} {fu i l : Nat} (hw : WFc C) (hr : Rm w i C f) (hfu : 200 ≤ fu) : ∃ w1, f_X4_beginDawn fu i w = some (1, w1) ∧ Fr (pMC i l) w w1 ∧ Rm w1 i C (lp (cH C) 0 dwn f) := by
  have h7 := hw.1
  rw [E_X4_beginDawn, fill_ok fu (408, i) (-1) w (show 7 < fu by omega) (show 7 < 2 ^ 31 by omega), bnd_some]
  refine ⟨_, rfl, (Fr.rf _ _).A _ (pMC_A i l 6 (by omega)), ?_⟩
  rw [dwn_eq]
  obtain ⟨r1, r2, r3, r4⟩ := hr
  refine ⟨fun t1 ht1 j hj => ?_, fun j h1 h2 => ?_, ?_, fun j hj => ?_⟩
  · rw [fA_tA]
    by_cases c1 : t1 = 6
    · subst c1
      rw [if_pos rfl]
      show (if j < 7 then (-1 : Int32) else _) = if 42 ≤ 42 + j ∧ 42 + j < 42 + cH C then (-1 : Int32) else _
      rw [if_pos (by omega), if_pos (by omega)]
    · rw [if_neg (by intro e; injection e with e; omega)]
      show _ = if _ then _ else _
      rw [if_neg (by omega)]
      exact r1 t1 ht1 j hj
  · simp only [fA_tA, Prod.mk.injEq, Nat.reduceEqDiff, false_and, if_false, and_true, true_and, if_true]
    obtain ⟨q1, q2, q3, q4⟩ := r2 j h1 h2
    refine ⟨q1, q2, ?_, q4⟩
    show (if j < 7 then (-1 : Int32) else _) = -1
    rw [if_pos h2]
  · rw [rS_tA, r3]
    show f 56 = if _ then _ else _
    rw [if_neg (by omega)]
  · rw [fA_tA, if_neg (by intro e; injection e with e; omega)]
    exact r4 j hj
theorem tryStep_C {w : MEM} {C : ACt} {f : Nat → Int32} {fu i c l t k h : Nat} {b : Int32} (hw : WFc C) (hc : CLS w c l C) (hr : Rm w i C f) (hb : Bd C t f) (ht : k = 7 → t ≤ 900) (hfu : 200 ≤ fu) (hk : k ≤ 8) (hh : k < 7 → h < cH C) : ∃ w1, f_X4_tryStep fu i (nI (kmC k)) (nI h) b c l w = some ((opS C k h b f).2, w1) ∧ Fr (pMC i l) w w1 ∧ Rm w1 i C (opS C k h b f).1 := by
  have h7 := hw.1
  have A : ∀ t1 < 8, ∀ j < cH C, fA w (402 + t1, i) j = f (7 * t1 + j) := hr.1
  have fr1 : ∀ t1 < 8, ∀ g, Fr (pMC i l) w (tA w (402 + t1, i) g) := fun t1 h1 g => (Fr.rf _ _).A _ (pMC_A i l t1 h1)
  rw [E_X4_tryStep]
  rcases (by omega : k = 0 ∨ k = 1 ∨ k = 2 ∨ k = 3 ∨ k = 4 ∨ k = 5 ∨ k = 6 ∨ k = 7 ∨ k = 8) with e | e | e | e | e | e | e | e | e <;> subst e
  · have h1 := hh (by omega)
    have a1 : fA w (403, i) h = f (7 + h) := A 1 (by omega) h h1
    rw [if_neg (by decide), if_pos (by decide), E_X4_wipeGlass]
    simp (disch := omega) only [bIn, rAn, decide_true, ck_tr, (show h < 7 by omega), a1, lt_eq, sAn]
    rw [oS0]
    by_cases c1 : 0 < f (7 + h)
    · simp only [c1, if_true, bnd_some, b01_1, ck_tr]
      exact ⟨_, rfl, fr1 1 (by omega) _, Rm_upd (t := 1) hr h7 (by omega) h1 _⟩
    · simp only [c1, if_false, bnd_some, b01_0, ck_tr]
      refine ⟨_, rfl, fr1 1 (by omega) _, Rm_same (t := 1) hr h7 (by omega) h1 ?_⟩
      obtain ⟨v, hv, ev⟩ := ((hb.1 h h1).1)
      show f (7 + h) = 0
      rw [ev] at c1 ⊢
      rw [nLlt _ _ (by omega) (by decide)] at c1
      rw [show v = 0 by omega]
      rfl
  · have h1 := hh (by omega)
    have a5 : fA w (407, i) h = f (35 + h) := A 5 (by omega) h h1
    rw [if_neg (by decide), if_neg (by decide), if_neg (by decide), if_pos (by decide), E_X4_liftGlass]
    simp (disch := omega) only [bIn, rAn, decide_true, ck_tr, (show h < 7 by omega), a5, lt_eq, sAn]
    rw [oS1]
    by_cases c1 : f (35 + h) = 0
    · simp only [c1, if_true, bnd_some, b01_0, ck_tr]
      exact ⟨_, rfl, Fr.rf _ _, hr⟩
    · simp only [c1, if_false, bnd_some, b01_1, ck_tr]
      have g1 := Rm_upd (t := 5) hr h7 (by omega) h1 0
      have g2 := Rm_upd (t := 1) g1 h7 (by omega) h1 0
      have g3 := Rm_upd (t := 2) g2 h7 (by omega) h1 99
      have g4 := Rm_upd (t := 4) g3 h7 (by omega) h1 0
      exact ⟨_, rfl, ((((Fr.rf _ _).A _ (pMC_A i l 5 (by omega))).A _ (pMC_A i l 1 (by omega))).A _ (pMC_A i l 2 (by omega))).A _ (pMC_A i l 4 (by omega)), g4⟩
  · have h1 := hh (by omega)
    have a5 : fA w (407, i) h = f (35 + h) := A 5 (by omega) h h1
    rw [if_neg (by decide), if_neg (by decide), if_neg (by decide), if_neg (by decide), if_pos (by decide), E_X4_lowerGlass]
    simp (disch := omega) only [bIn, rAn, decide_true, ck_tr, (show h < 7 by omega), a5, lt_eq, sAn]
    rw [oS2]
    rcases (hb.1 h h1).2.2 with c1 | c1
    · have c2 : ¬ f (35 + h) = 1 := by rw [c1]; decide
      simp only [c1, if_true, bnd_some, b01_1, ck_tr]
      rw [if_neg (by decide)]
      exact ⟨_, rfl, fr1 5 (by omega) _, Rm_upd (t := 5) hr h7 (by omega) h1 _⟩
    · have c2 : ¬ f (35 + h) = 0 := by rw [c1]; decide
      simp only [c2, if_false, bnd_some, b01_0, ck_tr]
      rw [if_pos c1]
      exact ⟨_, rfl, fr1 5 (by omega) _, Rm_same (t := 5) hr h7 (by omega) h1 c1⟩
  · have h1 := hh (by omega)
    have a5 : fA w (407, i) h = f (35 + h) := A 5 (by omega) h h1
    have a3 : fA w (405, i) h = f (21 + h) := A 3 (by omega) h h1
    rw [if_neg (by decide), if_neg (by decide), if_neg (by decide), if_neg (by decide), if_neg (by decide), if_pos (by decide), E_X4_crackGlass]
    simp (disch := omega) only [bIn, rAn, decide_true, ck_tr, (show h < 7 by omega), a5, a3, lt_eq, sAn]
    rw [oS3]
    by_cases c1 : f (35 + h) = 1
    · rw [if_pos c1]
      by_cases c2 : f (21 + h) < 3
      · rw [if_pos c2, if_neg (by decide), if_pos ⟨c1, c2⟩]
        simp only [bnd_some, b01_1, ck_tr]
        exact ⟨_, rfl, fr1 3 (by omega) _, Rm_upd (t := 3) hr h7 (by omega) h1 _⟩
      · rw [if_neg c2, if_pos (by decide), if_neg (fun e => c2 e.2)]
        simp only [bnd_some, b01_0, ck_tr, Int32.add_zero]
        exact ⟨_, rfl, fr1 3 (by omega) _, Rm_same (t := 3) hr h7 (by omega) h1 rfl⟩
    · rw [if_neg c1, if_pos (by decide), if_neg (fun e => c1 e.1)]
      simp only [bnd_some, b01_0, ck_tr, Int32.add_zero]
      exact ⟨_, rfl, fr1 3 (by omega) _, Rm_same (t := 3) hr h7 (by omega) h1 rfl⟩
  · have h1 := hh (by omega)
    have a5 : fA w (407, i) h = f (35 + h) := A 5 (by omega) h h1
    have a2 : fA w (404, i) h = f (14 + h) := A 2 (by omega) h h1
    rw [if_neg (by decide), if_neg (by decide), if_pos (by decide), E_X4_changeAir]
    obtain ⟨v, hv, ev⟩ := ((hb.1 h h1).2.1)
    have em : f_J9_min_7cf53 fu (99 : Int32) (f (14 + h) + 40) w = some (heldS (f (14 + h) + 40), w) := by
      rw [ev, naddL]
      exact min99 _ _ (by omega) _
    simp (disch := omega) only [bIn, rAn, decide_true, ck_tr, (show h < 7 by omega), a5, a2, lt_eq, sAn, em, bnd_some]
    rw [oS4]
    by_cases c1 : f (35 + h) = 1
    · rw [if_pos c1]
      by_cases c2 : f (14 + h) < 99
      · rw [if_pos c2, if_neg (by decide), if_pos ⟨c1, c2⟩]
        simp only [bnd_some, b01_1, ck_tr]
        exact ⟨_, rfl, fr1 2 (by omega) _, Rm_upd (t := 2) hr h7 (by omega) h1 _⟩
      · rw [if_neg c2, if_pos (by decide), if_neg (fun e => c2 e.2)]
        simp only [bnd_some, b01_0, ck_tr]
        exact ⟨_, rfl, fr1 2 (by omega) _, Rm_same (t := 2) hr h7 (by omega) h1 rfl⟩
    · rw [if_neg c1, if_pos (by decide), if_neg (fun e => c1 e.1)]
      simp only [bnd_some, b01_0, ck_tr]
      exact ⟨_, rfl, fr1 2 (by omega) _, Rm_same (t := 2) hr h7 (by omega) h1 rfl⟩
  · have h1 := hh (by omega)
    have a9 := hc.2.2.2.2.2.2.1 h (by omega)
    rw [if_pos (by decide)]
    obtain ⟨w1, e1, e2, e3⟩ := passTap_C (l := l) hw hr hb hfu h1
    have hbb : (opS C 5 h 0 f).2 = 0 ∨ (opS C 5 h 0 f).2 = 1 := by
      rw [oS5]
      split
      · exact Or.inl rfl
      · exact Or.inr rfl
    refine ⟨w1, ?_, e2, e3⟩
    simp (disch := omega) only [bIn, rAn, decide_true, ck_tr, (show h < 7 by omega), a9, e1, bnd_some, b01_m hbb]
    rfl
  · have h1 := hh (by omega)
    have a0 : fA w (402, i) h = f h := (A 0 (by omega) h h1).trans (by rw [Nat.mul_zero, Nat.zero_add])
    rw [if_neg (by decide), if_neg (by decide), if_neg (by decide), if_neg (by decide), if_neg (by decide), if_neg (by decide), if_pos (by decide), E_X4_setFerns]
    simp (disch := omega) only [bIn, rAn, decide_true, ck_tr, (show h < 7 by omega), a0, lt_eq, sAn]
    rw [oS6]
    by_cases c1 : f h = b
    · simp only [c1, if_true, bnd_some, b01_0, ck_tr]
      exact ⟨_, rfl, fr1 0 (by omega) _, Rm_same (t := 0) hr h7 (by omega) h1 (by rw [Nat.mul_zero, Nat.zero_add]; exact c1)⟩
    · simp only [c1, if_false, bnd_some, b01_1, ck_tr]
      have := Rm_upd (t := 0) hr h7 (by omega) h1 b
      rw [Nat.mul_zero, Nat.zero_add] at this
      exact ⟨_, rfl, fr1 0 (by omega) _, this⟩
  · rw [if_neg (by decide), if_neg (by decide), if_neg (by decide), if_neg (by decide), if_neg (by decide), if_neg (by decide), if_neg (by decide), if_pos (by decide), hr.2.2.1]
    rw [oS7]
    have ht := ht rfl
    have e9 : (f 56 < 900) = (t < 900) := by rw [hb.2]; exact nltL _ _ (by omega) (by decide)
    have e8 : (f 56 = 900) = (t = 900) := by rw [hb.2]; exact neqL _ _ (by omega) (by decide)
    by_cases c1 : t < 900
    · rw [if_pos (by rw [e9]; exact c1)]
      simp only [e8, (show ¬ t = 900 by omega), if_false]
      obtain ⟨w1, e1, e2, e3⟩ := passHour_C (t := t) hw hc hr hb (by omega) hfu
      refine ⟨w1, ?_, e2, e3⟩
      rw [e1, bnd_some, if_neg (by decide)]
    · rw [if_neg (by rw [e9]; exact c1)]
      simp only [e8, (show t = 900 by omega), if_true]
      exact ⟨w, rfl, Fr.rf _ _, hr⟩
  · rw [if_neg (by decide), if_neg (by decide), if_neg (by decide), if_neg (by decide), if_neg (by decide), if_neg (by decide), if_neg (by decide), if_neg (by decide), if_pos (by decide)]
    obtain ⟨w1, e1, e2, e3⟩ := dawn_C (l := l) hw hr hfu
    refine ⟨w1, ?_, e2, e3⟩
    rw [e1, bnd_some, if_neg (by decide)]
    rfl
theorem Bd_tap {C : ACt} {t h : Nat} {f : Nat → Int32} (hw : WFc C) (hb : Bd C t f) : ∀ k ≤ cH C, Bd C t (lp k 0 (tap1 C h) f)
  | 0, _ => hb
  | k + 1, hk => by
    have h7 := hw.1
    rw [lp_snoc, Nat.zero_add]
    unfold tap1
    split
    · exact Bd_u (Bd_tap hw hb k (by omega)) (fun j hj => ⟨by omega, by omega, by omega⟩) (by omega)
    · exact Bd_tap hw hb k (by omega)
theorem Bd_op7 {C : ACt} {t k h : Nat} {b : Int32} {f : Nat → Int32} (hw : WFc C) (hb : Bd C t f) (hk : k < 7) (h1 : h < cH C) : Bd C t (opS C k h b f).1 := by
  have h7 := hw.1
  rcases (by omega : k = 0 ∨ k = 1 ∨ k = 2 ∨ k = 3 ∨ k = 4 ∨ k = 5 ∨ k = 6) with e | e | e | e | e | e | e <;> subst e
  · rw [oS0]
    split
    · exact Bd_m hb h7 h1 ⟨0, by omega, rfl⟩
    · exact hb
  · rw [oS1]
    split
    · exact hb
    · exact Bd_u (Bd_a (Bd_m (Bd_s hb h7 h1 (Or.inl rfl)) h7 h1 ⟨0, by omega, rfl⟩) h7 h1 ⟨99, by omega, rfl⟩) (fun j hj => ⟨by omega, by omega, by omega⟩) (by omega)
  · rw [oS2]
    split
    · exact hb
    · exact Bd_s hb h7 h1 (Or.inr rfl)
  · rw [oS3]
    split
    · exact Bd_u hb (fun j hj => ⟨by omega, by omega, by omega⟩) (by omega)
    · exact hb
  · rw [oS4]
    split
    · exact Bd_a hb h7 h1 (held_b _)
    · exact hb
  · rw [oS5]
    split
    · exact hb
    · exact Bd_tap hw hb _ (Nat.le_refl _)
  · rw [oS6]
    split
    · exact hb
    · exact Bd_u hb (fun j hj => ⟨by omega, by omega, by omega⟩) (by omega)
theorem Bd_op {C : ACt} {t k h : Nat} {b : Int32} {f : Nat → Int32} (hw : WFc C) (hb : Bd C t f) (ht : t ≤ 900) (hk : k ≤ 8) (hh : k < 7 → h < cH C) : ∃ t1 ≤ 900, Bd C t1 (opS C k h b f).1 := by
  have h7 := hw.1
  rcases (by omega : k = 0 ∨ k = 1 ∨ k = 2 ∨ k = 3 ∨ k = 4 ∨ k = 5 ∨ k = 6 ∨ k = 7 ∨ k = 8) with e | e | e | e | e | e | e | e | e <;> subst e
  · rw [oS0]
    have h1 := hh (by omega)
    refine ⟨t, ht, ?_⟩
    split
    · exact Bd_m hb h7 h1 ⟨0, by omega, rfl⟩
    · exact hb
  · rw [oS1]
    have h1 := hh (by omega)
    refine ⟨t, ht, ?_⟩
    split
    · exact hb
    · exact Bd_u (Bd_a (Bd_m (Bd_s hb h7 h1 (Or.inl rfl)) h7 h1 ⟨0, by omega, rfl⟩) h7 h1 ⟨99, by omega, rfl⟩) (fun j hj => ⟨by omega, by omega, by omega⟩) (by omega)
  · rw [oS2]
    have h1 := hh (by omega)
    refine ⟨t, ht, ?_⟩
    split
    · exact hb
    · exact Bd_s hb h7 h1 (Or.inr rfl)
  · rw [oS3]
    have h1 := hh (by omega)
    refine ⟨t, ht, ?_⟩
    split
    · exact Bd_u hb (fun j hj => ⟨by omega, by omega, by omega⟩) (by omega)
    · exact hb
  · rw [oS4]
    have h1 := hh (by omega)
    refine ⟨t, ht, ?_⟩
    split
    · exact Bd_a hb h7 h1 (held_b _)
    · exact hb
  · rw [oS5]
    refine ⟨t, ht, ?_⟩
    split
    · exact hb
    · exact Bd_tap hw hb _ (Nat.le_refl _)
  · rw [oS6]
    have h1 := hh (by omega)
    refine ⟨t, ht, ?_⟩
    split
    · exact hb
    · exact Bd_u hb (fun j hj => ⟨by omega, by omega, by omega⟩) (by omega)
  · rw [oS7]
    by_cases c : f 56 = 900
    · rw [if_pos c]
      exact ⟨t, ht, hb⟩
    · rw [if_neg c]
      refine ⟨t + 1, ?_, Bd_pass hw hb⟩
      rw [hb.2, neqL _ _ (by omega) (by decide)] at c
      omega
  · rw [oS8]
    refine ⟨t, ht, ?_⟩
    rw [dwn_eq]
    refine ⟨fun j hj => ?_, ?_⟩
    · simp only
      rw [if_neg (by omega), if_neg (by omega), if_neg (by omega)]
      exact hb.1 j hj
    · show (if 42 ≤ 56 ∧ 56 < 42 + cH C then (-1 : Int32) else f 56) = nI t
      rw [if_neg (by omega)]
      exact hb.2
