theorem b01_m {m : Int32} (h : m = 0 ∨ m = 1) : b01 m = true := by
  rcases h with e | e <;> subst e <;> rfl
theorem putsb {fu a : Nat} {v m : Int32} {w : MEM} (ha : a < 57) (hm : m = 0 ∨ m = 1) : (bnd (f_X10_puts fu 842 (nI a) v m w) fun (x : Int32) (u : MEM) => ck (b01 x) (some (x, u))) = some (m, if m = 1 then tA w (1020, 842) (upd (fA w (1020, 842)) a v) else w) := by
  rw [puts_M _ _ _ _ _ ha hm, bnd_some, b01_m hm, ck_tr]
theorem goes_M {w : MEM} {C : ACt} {fu k h : Nat} {b : Int32} (hw : WFc C) (hm : MOD w C) (hfu : 200 ≤ fu) (hk : k ≤ 8) (hh : k < 7 → h < cH C) : ∃ w1, f_X10_goes fu 842 (nI k) (nI h) b w = some ((opS C k h b (fA w (1020, 842))).2, w1) ∧ Fr pSM w w1 ∧ fA w1 (1020, 842) = (opS C k h b (fA w (1020, 842))).1 := by
  have h7 := hw.1
  generalize hf : fA w (1020, 842) = f
  have hgo : k < 7 → f_X10_goes fu 842 (nI k) (nI h) b w = f_X10_goes_24 fu 842 (nI k) (nI h) b (if f (35 + h) = 1 then 1 else 0) w := by
    intro hk7
    have := hh hk7
    rw [E_X10_goes]
    simp (disch := omega) only [nltL, hk7, if_true, nLadd, bIn, rAn, decide_true, ck_tr, (show 35 + h < 57 by omega), hf]
    split <;> rfl
  have fr1 : ∀ g, Fr pSM w (tA w (1020, 842) g) := fun g => (Fr.rf _ _).A _ rfl
  have fa : ∀ g, fA (tA w (1020, 842) g) (1020, 842) = g := fun g => by rw [fA_tA, if_pos rfl]
  rcases (by omega : k = 0 ∨ k = 1 ∨ k = 2 ∨ k = 3 ∨ k = 4 ∨ k = 5 ∨ k = 6 ∨ k = 7 ∨ k = 8) with e | e | e | e | e | e | e | e | e <;> subst e
  · have h1 := hh (by omega)
    rw [hgo (by omega), E_X10_goes_24, if_pos (by decide)]
    simp (disch := omega) only [nLadd, bIn, rAn, decide_true, ck_tr, (show 7 + h < 57 by omega), hf, putsb (show 7 + h < 57 by omega) (Or.inl rfl), putsb (show 7 + h < 57 by omega) (Or.inr rfl)]
    unfold opS
    by_cases c : 0 < f (7 + h)
    · simp only [c, if_true]
      exact ⟨_, rfl, fr1 _, fa _⟩
    · simp only [c, if_false]
      exact ⟨_, rfl, Fr.rf _ _, hf⟩
  · have h1 := hh (by omega)
    rw [hgo (by omega), E_X10_goes_24, if_neg (by decide), if_pos (by decide), E_X10_lifts]
    simp (disch := omega) only [nLadd, bIn, rAn, decide_true, ck_tr, (show 35 + h < 57 by omega), (show 7 + h < 57 by omega), (show 14 + h < 57 by omega), (show 28 + h < 57 by omega), hf, lt_eq, sAn, fA_tA, tA_tA, if_true]
    unfold opS
    by_cases c : f (35 + h) = 0
    · simp only [c, if_true, bnd_some, b01_0, ck_tr]
      exact ⟨_, rfl, Fr.rf _ _, hf⟩
    · simp only [c, if_false, bnd_some, b01_1, ck_tr]
      exact ⟨_, rfl, fr1 _, fa _⟩
  · have h1 := hh (by omega)
    rw [hgo (by omega), E_X10_goes_24, if_neg (by decide), if_neg (by decide), if_pos (by decide)]
    simp (disch := omega) only [nLadd, putsb (show 35 + h < 57 by omega) (Or.inl rfl), putsb (show 35 + h < 57 by omega) (Or.inr rfl), hf]
    unfold opS
    by_cases c : f (35 + h) = 1
    · simp only [c, if_true]
      rw [if_neg (by decide), if_neg (by decide)]
      exact ⟨_, rfl, Fr.rf _ _, hf⟩
    · simp only [c, if_false, if_true]
      exact ⟨_, rfl, fr1 _, fa _⟩
  · have h1 := hh (by omega)
    rw [hgo (by omega), E_X10_goes_24, if_neg (by decide), if_neg (by decide), if_neg (by decide), if_pos (by decide)]
    simp (disch := omega) only [nLadd, bIn, rAn, decide_true, ck_tr, (show 21 + h < 57 by omega), putsb (show 21 + h < 57 by omega) (Or.inl rfl), putsb (show 21 + h < 57 by omega) (Or.inr rfl), hf]
    unfold opS
    by_cases c : f (35 + h) = 1
    · rw [if_pos c, if_neg (by decide)]
      by_cases c2 : f (21 + h) < 3
      · simp only [c, c2, and_self, if_true]
        exact ⟨_, rfl, fr1 _, fa _⟩
      · simp only [c, c2, and_false, if_false]
        rw [if_neg (by decide)]
        exact ⟨_, rfl, Fr.rf _ _, hf⟩
    · rw [if_neg c, if_pos rfl, if_neg (by decide)]
      simp only [c, false_and, if_false]
      exact ⟨_, rfl, Fr.rf _ _, hf⟩
  · have h1 := hh (by omega)
    rw [hgo (by omega), E_X10_goes_24, if_neg (by decide), if_neg (by decide), if_neg (by decide), if_neg (by decide), if_pos (by decide)]
    simp (disch := omega) only [nLadd, bIn, rAn, decide_true, ck_tr, (show 14 + h < 57 by omega), putsb (show 14 + h < 57 by omega) (Or.inl rfl), putsb (show 14 + h < 57 by omega) (Or.inr rfl), hf, held_M, bnd_some]
    unfold opS
    by_cases c : f (35 + h) = 1
    · rw [if_pos c, if_neg (by decide)]
      by_cases c2 : f (14 + h) < 99
      · simp only [c, c2, and_self, if_true]
        exact ⟨_, rfl, fr1 _, fa _⟩
      · simp only [c, c2, and_false, if_false]
        rw [if_neg (by decide)]
        exact ⟨_, rfl, Fr.rf _ _, hf⟩
    · rw [if_neg c, if_pos rfl, if_neg (by decide)]
      simp only [c, false_and, if_false]
      exact ⟨_, rfl, Fr.rf _ _, hf⟩
  · have h1 := hh (by omega)
    rw [hgo (by omega), E_X10_goes_24, if_neg (by decide), if_neg (by decide), if_neg (by decide), if_neg (by decide), if_neg (by decide), if_pos (by decide)]
    obtain ⟨w1, e1, e2, e3⟩ := taps_M hw hm hfu h1
    rw [hf] at e1 e3
    have hb : (opS C 5 h 0 f).2 = 0 ∨ (opS C 5 h 0 f).2 = 1 := by
      unfold opS
      simp only
      split
      · exact Or.inl rfl
      · exact Or.inr rfl
    refine ⟨w1, ?_, e2, e3⟩
    rw [e1, bnd_some, b01_m hb, ck_tr]
    rfl
  · have h1 := hh (by omega)
    rw [hgo (by omega), E_X10_goes_24, if_neg (by decide), if_neg (by decide), if_neg (by decide), if_neg (by decide), if_neg (by decide), if_neg (by decide), if_pos (by decide)]
    simp (disch := omega) only [nLadd, bIn, rAn, decide_true, ck_tr, (show h < 57 by omega), putsb (show h < 57 by omega) (Or.inl rfl), putsb (show h < 57 by omega) (Or.inr rfl), hf, Nat.zero_add]
    unfold opS
    by_cases c : f h = b
    · simp only [c, if_true]
      rw [if_neg (by decide)]
      exact ⟨_, rfl, Fr.rf _ _, hf⟩
    · simp only [c, if_false, if_true]
      exact ⟨_, rfl, fr1 _, fa _⟩
  · rw [E_X10_goes, if_neg (by decide), E_X10_goes_24, if_neg (by decide), if_neg (by decide), if_neg (by decide), if_neg (by decide), if_neg (by decide), if_neg (by decide), if_neg (by decide), if_neg (by decide)]
    simp (disch := omega) only [bIL, rAL, decide_true, ck_tr, (show 56 < 57 by omega), hf]
    unfold opS
    by_cases c : f 56 = 900
    · simp only [c, if_true]
      exact ⟨_, rfl, Fr.rf _ _, hf⟩
    · simp only [c, if_false]
      obtain ⟨w1, e1, e2, e3⟩ := passes_M hw hm hfu
      rw [hf] at e3
      refine ⟨w1, ?_, e2, e3⟩
      rw [e1, bnd_some]
  · rw [E_X10_goes, if_neg (by decide), E_X10_goes_24, if_neg (by decide), if_neg (by decide), if_neg (by decide), if_neg (by decide), if_neg (by decide), if_neg (by decide), if_neg (by decide), if_pos (by decide)]
    obtain ⟨w1, e1, e2, e3⟩ := dawns_M hw hm hfu
    rw [hf] at e3
    refine ⟨w1, ?_, e2, e3⟩
    rw [e1, bnd_some]
    rfl
