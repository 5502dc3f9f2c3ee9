/-! plain calls -/
theorem m0_eq (w : MEM) : sS w (11000, 842) (0 : Int32) = m0 w := rfl
def tk (w : MEM) : MEM := tA w (1020, 842) (takeF w)
theorem tk_M {fu : Nat} (hfu : 3000 ≤ fu) (w : MEM) : f_X10_take fu 842 w = some ((), tk w) := take_M w hfu
theorem tk_fr (w : MEM) : Fr scr w (tk w) := Fr.A (a := (1020, 842)) (Fr.rf _ _) _ rfl
theorem fA_tk (w : MEM) : fA (tk w) (1020, 842) = takeF w := by
  unfold tk
  rw [fA_tA, if_pos rfl]
theorem rS_tk (w : MEM) (a : LA) : rS (tk w) a = rS w a := rfl
theorem INVc.take {C : ACt} {c l b : Nat} {w : MEM} (h : INVc C c l b w) {u : MEM} (e : fA u (1019, 842) = fA w (1019, 842)) : MORN w 9 C (takeF u) := by
  have h7 := h.1.1
  obtain ⟨h4, t, ht, hb⟩ := h.now
  have e : ∀ j < 57, fA w (1019, 842) j = takeF u j := fun j hj => by rw [← takeF_now u j hj, e]
  exact ⟨Rm_ext h7 h4 e, t, ht, Bd_ext h7 hb e⟩
theorem SIM_q {K : Nat → Option Int32} {x : MEM → Option ((Int32 ⊕ Nat) × MEM)} {m : MEM → Option (Int32 × MEM)} {w w2 : MEM} (hI : INV w) (f : Fr scr w w2) (h0 : rS w2 (11000, 842) = 0) (h : ∃ v, x w = some (.inl v, w) ∧ m w = some (v, w2)) : SIM K x m w := by
  obtain ⟨v, h1, h2⟩ := h
  exact SIM_ok hI h1 (Fr.rf _ _) h2 f h0
theorem S_fault {w : MEM} (hI : INV w) : SIMn (f_X9_fault 3000 0) (f_X10_fault 3000 842) w := by
  have h := hI
  obtain ⟨C, c, l, b, hr, hc, hk⟩ := h
  refine ⟨_, _, m0 w, E_X9_fault _ _ _, ?_, hI.fr (m0_fr w)⟩
  rw [E_X10_fault, lt_eq, m0_eq, (m0_fr w).2.1 (11008, 842) rfl, hc.2.2.2.2.2.2.1]
theorem S_status (a : Int32) {w : MEM} (hI : INV w) : SIMn (f_X9_status 3000 0 a) (f_X10_status 3000 842 a) w := by
  have h := hI
  obtain ⟨C, c, l, b, hr, hc, hk⟩ := h
  have e0 : fA (m0 w) (1001, 842) = fA w (1001, 842) := rfl
  by_cases c0 : a = 0
  · subst c0
    refine ⟨rS w (10916, 0), w, m0 w, ?_, ?_, hI.fr (m0_fr w)⟩
    · rw [E_X9_status, if_pos rfl]
    · rw [E_X10_status, lt_eq, m0_eq, E_X10_within, if_neg (by decide), if_neg (by decide), bnd_some, if_neg (by decide)]
      simp (disch := omega) only [bIL, rAL, decide_true, ck_tr, (show 0 < 2 by omega)]
      rw [e0, ← hk.1]
  by_cases c1 : a = 1
  · subst c1
    refine ⟨rS w (10917, 0), w, m0 w, ?_, ?_, hI.fr (m0_fr w)⟩
    · rw [E_X9_status, if_neg (by decide), if_pos rfl]
    · rw [E_X10_status, lt_eq, m0_eq, E_X10_within, if_neg (by decide), if_neg (by decide), bnd_some, if_neg (by decide)]
      simp (disch := omega) only [bIL, rAL, decide_true, ck_tr, (show 1 < 2 by omega)]
      rw [e0, ← hk.2]
  refine ⟨-1, w, m0 w, ?_, ?_, hI.fr (m0_fr w)⟩
  · rw [E_X9_status, if_neg c0, if_neg c1]
  · rw [E_X10_status, lt_eq, m0_eq]
    rcases wit 3000 a (lo := 0) (hi := 1) 0 1 rfl rfl (by omega) (by omega) with ⟨e1, e2⟩ | ⟨j, h1, h2, rfl, e1, e2⟩
    · rw [e2, bnd_some, if_pos rfl]
    · rcases (by omega : j = 0 ∨ j = 1) with e | e <;> subst e
      · exact absurd rfl c0
      · exact absurd rfl c1
theorem S_count (a : Int32) {w : MEM} (hI : INV w) : SIMn (f_X9_count 3000 0 a) (f_X10_count 3000 842 a) w := by
  have h := hI
  obtain ⟨C, c, l, b, hr, hc, hk⟩ := h
  obtain ⟨n1, _, a2, a3, _⟩ := hc.2.2.2.2.1
  obtain ⟨n2, _, b2, b3, _⟩ := hc.2.2.2.2.2.1
  obtain ⟨n3, _, d1, d2, _⟩ := hc.2.2.2.1
  have d1 : rS w (11037, 842) = nI n3 := d1
  have e0 : ∀ a : LA, a ≠ (11000, 842) → rS (m0 w) a = rS w a := fun a ha => if_neg ha
  refine ⟨(if a = 0 then nI n1 else if a = 1 then nI n2 else if a = 2 then nI n3 else -1), w, m0 w, ?_, ?_, hI.fr (m0_fr w)⟩
  · rw [E_X9_count, a2, b2, d2]
    split
    · rfl
    · split
      · rfl
      · split <;> rfl
  · rw [E_X10_count, lt_eq, m0_eq, e0 _ (by decide), e0 _ (by decide), e0 _ (by decide), a3, b3, d1]
    split
    · rfl
    · split
      · rfl
      · split <;> rfl
theorem S_rank (a : Int32) {w : MEM} (hI : INV w) : SIM KI (f_X9_rank 3000 0 a) (f_X10_rank 3000 842 a) w := by
  rcases wit 3000 a (lo := 0) (hi := 6) 0 6 rfl rfl (by omega) (by omega) with ⟨e1, e2⟩ | ⟨j, h1, h2, rfl, e1, e2⟩
  · refine SIM_W hI 1 ?_ ?_ rfl
    · rw [E_X9_rank, e1]; rfl
    · rw [E_X10_rank, lt_eq, m0_eq, e2, bnd_some, may_W 3000 (by decide) (rS_m0 _), bnd_some, if_pos rfl]
  · have h := hI
    obtain ⟨C, c, l, b, hr, hc, hk⟩ := h
    have f2 := (m0_fr w).tr (tk_fr (m0 w))
    obtain ⟨hR, t, ht, hb⟩ := hc.take (u := m0 w) rfl
    have hm := (hc.fr f2.K).2.2.1
    refine SIM_q hI f2 (by rw [rS_tk, rS_m0]) ⟨rankS C (takeF (m0 w)) (nI j), ?_, ?_⟩
    · rw [E_X9_rank, e1, bndT_inl, show (8 + 1 : Nat) = 9 from rfl, ranked_C _ hc.1 hR (by omega), bnd_some]
    · rw [E_X10_rank, lt_eq, m0_eq, e2, bnd_some, may_1 3000 _ _ (rS_m0 _), bnd_some, if_neg (by decide), tk_M (by omega), bnd_some, ranked_M _ hc.1 hm (by omega), bnd_some, fA_tk]
theorem S_told (a : Int32) {w : MEM} (hI : INV w) : SIM KI (f_X9_told 3000 0 a) (f_X10_told 3000 842 a) w := by
  rcases wit 3000 a (lo := 0) (hi := 11) 0 11 rfl rfl (by omega) (by omega) with ⟨e1, e2⟩ | ⟨j, h1, h2, rfl, e1, e2⟩
  · refine SIM_W hI 1 ?_ ?_ rfl
    · rw [E_X9_told, e1]; rfl
    · rw [E_X10_told, lt_eq, m0_eq, e2, bnd_some, may_W 3000 (by decide) (rS_m0 _), bnd_some, if_pos rfl]
  · have h := hI
    obtain ⟨C, c, l, b, hr, hc, hk⟩ := h
    have f2 := (m0_fr w).tr (tk_fr (m0 w))
    obtain ⟨hR, t, ht, hb⟩ := hc.take (u := m0 w) rfl
    have hc2 := hc.fr f2.K
    have hm := hc2.2.2.1
    have hw := hc.1
    obtain ⟨nb, _, b1, b2, _⟩ := hc.2.2.2.2.2.2.2.2
    have hx : ∀ v, (∃ y, f_X9_told 3000 0 (nI j) w = some (.inl y, w) ∧ y = v) → (∃ y, f_X10_told 3000 842 (nI j) w = some (y, tk (m0 w)) ∧ y = v) → SIM KI (f_X9_told 3000 0 (nI j)) (f_X10_told 3000 842 (nI j)) w := by
      intro v hx hm
      obtain ⟨y, hx, rfl⟩ := hx
      obtain ⟨z, hm, rfl⟩ := hm
      exact SIM_q hI f2 (by rw [rS_tk, rS_m0]) ⟨_, hx, hm⟩
    have r8 : rS (tk (m0 w)) (11038, 842) = rS w (10915, 0) := by rw [hc.2.2.2.2.2.2.2.1]; exact f2.2.1 _ rfl
    have r9 : rS (tk (m0 w)) (11047, 842) = rS w (10001, b) := by rw [b1, ← b2]; exact f2.2.1 _ rfl
    have hX : f_X9_told 3000 0 (nI j) w = _ := (E_X9_told _ _ _ _).trans (by rw [e1, bndT_inl])
    have hM : f_X10_told 3000 842 (nI j) w = _ := (E_X10_told _ _ _ _).trans (by rw [lt_eq, m0_eq, e2, bnd_some, may_1 3000 _ _ (rS_m0 _), bnd_some, if_neg (by decide), tk_M (by omega), bnd_some])
    simp only [show (8 + 1 : Nat) = 9 from rfl, hr.1, hr.2.2.1, hc.2.1.1, hc.2.1.2.1, hc.2.1.2.2.2.1, hc.2.1.2.2.2.2.1, standing_C hw hR (show 200 ≤ 3000 by omega), clouded_C hw hR (show 200 ≤ 3000 by omega), ranked_C 0 hw hR (show 200 ≤ 3000 by omega), sumMist_C hw hR (show 200 ≤ 3000 by omega), sumGasp_C hw hR (show 200 ≤ 3000 by omega), hR.2.2.1, bnd_some] at hX
    simp only [hm.1, hm.2.2.1, hm.2.2.2.2.1, hm.2.2.2.2.2.1, r8, r9, standing_M hw hm (show 200 ≤ 3000 by omega), clouded_M hw hm (show 200 ≤ 3000 by omega), ranked_M 0 hw hm (show 200 ≤ 3000 by omega), (show f_X10_sumOf 3000 842 (7 : Int32) (tk (m0 w)) = _ from sumOf_M hw hm (show 200 ≤ 3000 by omega) (show 7 ≤ 49 by omega)), (show f_X10_sumOf 3000 842 (49 : Int32) (tk (m0 w)) = _ from sumOf_M hw hm (show 200 ≤ 3000 by omega) (show 49 ≤ 49 by omega)), fA_tk, bnd_some, (show bI (56 : Int32) 57 = true by decide), ck_tr, (show rA (tk (m0 w)) (1020, 842) (56 : Int32) = takeF (m0 w) 56 by rw [← fA_tk]; exact rAn _ _ 56 (by omega))] at hM
    rcases (by omega : j = 0 ∨ j = 1 ∨ j = 2 ∨ j = 3 ∨ j = 4 ∨ j = 5 ∨ j = 6 ∨ j = 7 ∨ j = 8 ∨ j = 9 ∨ j = 10 ∨ j = 11) with e | e | e | e | e | e | e | e | e | e | e | e <;> subst e <;> exact hx _ ⟨_, hX, rfl⟩ ⟨_, hM, rfl⟩
theorem SIM_hw {w : MEM} (hI : INV w) {x : MEM → Option ((Int32 ⊕ Nat) × MEM)} {m : MEM → Option (Int32 × MEM)} (hx : x w = some (.inr 0, bW w)) (hm : m (bW w) = some (0, mR (m0 (bW w)) 2 1)) : SIM KB x m w := SIM_W hI 2 hx hm rfl
theorem bW_h (w : MEM) : rS (m0 (bW w)) (11022, 842) = rS w (11022, 842) := rfl
theorem bM_h (w : MEM) : rS (m0 (bM w)) (11022, 842) = rS w (11022, 842) := rfl
theorem m0_h (w : MEM) : rS (m0 w) (11022, 842) = rS w (11022, 842) := rfl
theorem S_heir (a a2 : Int32) {w : MEM} (hI : INV w) : SIM KB (f_X9_heir 3000 0 a a2) (f_X10_heir 3000 842 a a2) w := by
  have h := hI
  obtain ⟨C, c, l, b, hr, hc, hk⟩ := h
  have hw := hc.1
  have h7 := hw.1
  have hM1 := hc.2.2.1.1
  rcases witH (fu := 3000) a hw hr.1 hc.2.1.1 with ⟨e1, e2⟩ | ⟨h, hh, rfl, e1, e2⟩
  · refine SIM_M hI 1 ?_ ?_ rfl
    · rw [E_X9_heir, e1]; rfl
    · rw [E_X10_heir, lt_eq, m0_eq, e2 _ _ (by decide) ((bM_h w).trans hM1) (rS_m0 _), bnd_some, if_pos rfl]
  rcases wit 3000 a2 (lo := 0) (hi := 9) 0 9 rfl rfl (by omega) (by omega) with ⟨e3, e4⟩ | ⟨j, h1, h2, rfl, e3, e4⟩
  · refine SIM_W hI 2 ?_ ?_ rfl
    · rw [E_X9_heir, e1, bndT_inl, e3]; rfl
    · rw [E_X10_heir, lt_eq, m0_eq, e2 _ _ ((bW_h w).trans hM1) (rS_m0 _), bnd_some, if_neg (by decide), e4, bnd_some, may_W 3000 (by decide) (rS_m0 _), bnd_some, if_pos rfl]
  obtain ⟨hR, t, ht, hb⟩ := hc.now
  have hm := (hc.fr (m0_fr w).K).2.2.1
  have hX : f_X9_heir 3000 0 (nI h) (nI j) w = _ := (E_X9_heir _ _ _ _ _).trans (by rw [e1, bndT_inl, e3, bndT_inl])
  have hM : f_X10_heir 3000 842 (nI h) (nI j) w = _ := (E_X10_heir _ _ _ _ _).trans (by rw [lt_eq, m0_eq, e2 _ _ ((m0_h w).trans hM1) (rS_m0 _), bnd_some, if_neg (by decide), e4, bnd_some, may_1 3000 _ _ (rS_m0 _), bnd_some, if_neg (by decide)])
  have g0 := hR.2.2.2 h hh
  have g9 := hc.2.1.2.2.2.2.2.2.1 h (by omega)
  have gM := hm.2.1 h hh
  have A : ∀ t1 < 8, fA w (402 + t1, 9) h = fA w (1019, 842) (7 * t1 + h) := fun t1 ht1 => hR.1 t1 ht1 h hh
  have a0 : fA w (402, 9) h = fA w (1019, 842) h := (A 0 (by omega)).trans (by rw [Nat.mul_zero, Nat.zero_add])
  have a1 : fA w (403, 9) h = fA w (1019, 842) (7 + h) := A 1 (by omega)
  have a2 : fA w (404, 9) h = fA w (1019, 842) (14 + h) := A 2 (by omega)
  have a3 : fA w (405, 9) h = fA w (1019, 842) (21 + h) := A 3 (by omega)
  have a4 : fA w (406, 9) h = fA w (1019, 842) (28 + h) := A 4 (by omega)
  have a5 : fA w (407, 9) h = fA w (1019, 842) (35 + h) := A 5 (by omega)
  have a6 : fA w (408, 9) h = fA w (1019, 842) (42 + h) := A 6 (by omega)
  have a7 : fA w (409, 9) h = fA w (1019, 842) (49 + h) := A 7 (by omega)
  have e19 : fA (m0 w) (1019, 842) = fA w (1019, 842) := rfl
  simp (disch := omega) only [show (8 + 1 : Nat) = 9 from rfl, hr.1, bIn, rAn, decide_true, ck_tr, (show h < 7 by omega), g0, g9, a0, a1, a2, a3, a4, a5, a6, a7] at hX
  simp (disch := omega) only [nLadd, bIn, rAn, decide_true, ck_tr, (show h < 7 by omega), (show h < 57 by omega), gM, e19, (show 0 + h < 57 by omega), (show 7 + h < 57 by omega), (show 14 + h < 57 by omega), (show 21 + h < 57 by omega), (show 28 + h < 57 by omega), (show 35 + h < 57 by omega), (show 42 + h < 57 by omega), (show 49 + h < 57 by omega), twosOf_M hw hm (show 200 ≤ 3000 by omega) (show h < 2 ^ 30 by omega), bnd_some, Nat.zero_add] at hM
  have hx : ∀ v, (∃ y, f_X9_heir 3000 0 (nI h) (nI j) w = some (.inl y, w) ∧ y = v) → (∃ y, f_X10_heir 3000 842 (nI h) (nI j) w = some (y, m0 w) ∧ y = v) → SIM KB (f_X9_heir 3000 0 (nI h) (nI j)) (f_X10_heir 3000 842 (nI h) (nI j)) w := by
    intro v hx hm
    obtain ⟨y, hx, rfl⟩ := hx
    obtain ⟨z, hm, rfl⟩ := hm
    exact SIM_q hI (m0_fr w) (rS_m0 _) ⟨_, hx, hm⟩
  rcases (by omega : j = 0 ∨ j = 1 ∨ j = 2 ∨ j = 3 ∨ j = 4 ∨ j = 5 ∨ j = 6 ∨ j = 7 ∨ j = 8 ∨ j = 9) with e | e | e | e | e | e | e | e | e | e <;> subst e <;> exact hx _ ⟨_, hX, rfl⟩ ⟨_, hM, rfl⟩
theorem S_two (a a2 : Int32) {w : MEM} (hI : INV w) : SIM KB (f_X9_two 3000 0 a a2) (f_X10_two 3000 842 a a2) w := by
  have h := hI
  obtain ⟨C, c, l, b, hr, hc, hk⟩ := h
  have hw := hc.1
  have h12 := hw.2.2.2.1
  have hM1 := hc.2.2.1.2.2.2.2.2.1
  have hC1 := hc.2.1.2.2.2.2.1
  have q1 : rS (m0 (bM w)) (11023, 842) = nI (cT C) := hM1
  have q2 : rS (m0 (bW w)) (11023, 842) = nI (cT C) := hM1
  have q3 : rS (m0 w) (11023, 842) = nI (cT C) := hM1
  rcases witB 3000 a (cT C) rfl (by omega) with ⟨e1, e2⟩ | ⟨e, he, rfl, e1, e2⟩
  · refine SIM_M hI 1 ?_ ?_ rfl
    · rw [E_X9_two, hr.1, hC1, e1]; rfl
    · rw [E_X10_two, lt_eq, m0_eq, q1, e2, bnd_some, may_M 3000 (by decide) (rS_m0 _), bnd_some, if_pos rfl]
  rcases wit 3000 a2 (lo := 0) (hi := 1) 0 1 rfl rfl (by omega) (by omega) with ⟨e3, e4⟩ | ⟨j, h1, h2, rfl, e3, e4⟩
  · refine SIM_W hI 2 ?_ ?_ rfl
    · rw [E_X9_two, hr.1, hC1, e1, bndT_inl, e3]; rfl
    · rw [E_X10_two, lt_eq, m0_eq, q2, e2, bnd_some, may_1 3000 _ _ (rS_m0 _), bnd_some, if_neg (by decide), e4, bnd_some, may_W 3000 (by decide) (rS_m0 _), bnd_some, if_pos rfl]
  obtain ⟨f1, f2⟩ := hc.2.1.2.2.2.2.2.1 e he
  obtain ⟨g1, g2⟩ := hc.2.2.1.2.2.2.2.2.2.1 e he
  have e9 : fA (m0 w) (1009, 842) = fA w (1009, 842) := rfl
  have hX : f_X9_two 3000 0 (nI e) (nI j) w = _ := (E_X9_two _ _ _ _ _).trans (by rw [hr.1, hC1, e1, bndT_inl, e3, bndT_inl])
  have hM : f_X10_two 3000 842 (nI e) (nI j) w = _ := (E_X10_two _ _ _ _ _).trans (by rw [lt_eq, m0_eq, q3, e2, bnd_some, may_1 3000 _ _ (rS_m0 _), bnd_some, if_neg (by decide), e4, bnd_some, may_1 3000 _ _ (rS_m0 _), bnd_some, if_neg (by decide)])
  simp (disch := omega) only [hr.1, bIn, rAn, decide_true, ck_tr, (show e < 12 by omega), f1, f2] at hX
  simp (disch := omega) only [nLmul, nI_add, bIn, rAn, decide_true, ck_tr, (show 2 * e + j < 24 by omega), e9] at hM
  rcases (by omega : j = 0 ∨ j = 1) with e | e <;> subst e
  · exact SIM_q hI (m0_fr w) (rS_m0 _) ⟨_, hX, hM.trans (by rw [Nat.add_zero, g1])⟩
  · exact SIM_q hI (m0_fr w) (rS_m0 _) ⟨_, hX, hM.trans (by rw [g2])⟩
theorem cough_at {t q : Nat} (hq0 : 0 < q) {k : Nat} (hk : k < q) : (t + k) % q = 0 ↔ k = (q - t % q) % q := by
  have hm := Nat.mod_lt t hq0
  rw [Nat.add_mod, Nat.mod_eq_of_lt hk]
  by_cases c : t % q = 0
  · rw [c, Nat.zero_add, Nat.mod_eq_of_lt hk, Nat.sub_zero, Nat.mod_self]
  · rw [Nat.mod_eq_of_lt (show q - t % q < q by omega)]
    by_cases c2 : t % q + k < q
    · rw [Nat.mod_eq_of_lt c2]; omega
    · rw [Nat.mod_eq_sub_mod (by omega), Nat.mod_eq_of_lt (by omega)]; omega
theorem S_keeper (a a2 : Int32) {w : MEM} (hI : INV w) : SIM KB (f_X9_keeper 3000 0 a a2) (f_X10_keeper 3000 842 a a2) w := by
  have h := hI
  obtain ⟨C, c, l, b, hr, hc, hk⟩ := h
  have hw := hc.1
  have h6 := hw.2.1
  have hM1 := hc.2.2.1.2.2.1
  have hC1 := hc.2.1.2.1
  have q1 : rS (m0 (bM w)) (11024, 842) = nI (cK C) := hM1
  have q2 : rS (m0 (bW w)) (11024, 842) = nI (cK C) := hM1
  have q3 : rS (m0 w) (11024, 842) = nI (cK C) := hM1
  rcases witB 3000 a (cK C) rfl (by omega) with ⟨e1, e2⟩ | ⟨e, he, rfl, e1, e2⟩
  · refine SIM_M hI 1 ?_ ?_ rfl
    · rw [E_X9_keeper, hr.1, hC1, e1]; rfl
    · rw [E_X10_keeper, lt_eq, m0_eq, q1, e2, bnd_some, may_M 3000 (by decide) (rS_m0 _), bnd_some, if_pos rfl]
  rcases wit 3000 a2 (lo := 0) (hi := 2) 0 2 rfl rfl (by omega) (by omega) with ⟨e3, e4⟩ | ⟨j, h1, h2, rfl, e3, e4⟩
  · refine SIM_W hI 2 ?_ ?_ rfl
    · rw [E_X9_keeper, hr.1, hC1, e1, bndT_inl, e3]; rfl
    · rw [E_X10_keeper, lt_eq, m0_eq, q2, e2, bnd_some, may_1 3000 _ _ (rS_m0 _), bnd_some, if_neg (by decide), e4, bnd_some, may_W 3000 (by decide) (rS_m0 _), bnd_some, if_pos rfl]
  obtain ⟨f1, f2⟩ := hc.2.1.2.2.1 e he
  obtain ⟨g1, g2⟩ := hc.2.2.1.2.2.2.1 e he
  obtain ⟨p1, p2, p3⟩ := hw.2.2.1 e he
  obtain ⟨hR, t, ht, hb⟩ := hc.now
  have e10 : fA (m0 w) (1010, 842) = fA w (1010, 842) := rfl
  have e19 : fA (m0 w) (1019, 842) = fA w (1019, 842) := rfl
  have hX : f_X9_keeper 3000 0 (nI e) (nI j) w = _ := (E_X9_keeper _ _ _ _ _).trans (by rw [hr.1, hC1, e1, bndT_inl, e3, bndT_inl])
  have hM : f_X10_keeper 3000 842 (nI e) (nI j) w = _ := (E_X10_keeper _ _ _ _ _).trans (by rw [lt_eq, m0_eq, q3, e2, bnd_some, may_1 3000 _ _ (rS_m0 _), bnd_some, if_neg (by decide), e4, bnd_some, may_1 3000 _ _ (rS_m0 _), bnd_some, if_neg (by decide)])
  rcases (by omega : j = 0 ∨ j = 1 ∨ j = 2) with ej | ej | ej <;> subst ej
  · simp (disch := omega) only [hr.1, bIn, rAn, decide_true, ck_tr, (show e < 6 by omega), f1, neqL, if_true] at hX
    simp (disch := omega) only [nltL, nLmul, nI_add, bIn, rAn, decide_true, ck_tr, (show 0 < 2 by omega), if_true, (show 2 * e + 0 < 12 by omega), e10, Nat.add_zero, (show 2 * e < 12 by omega), g1] at hM
    exact SIM_q hI (m0_fr w) (rS_m0 _) ⟨_, hX, hM⟩
  · simp (disch := omega) only [hr.1, bIn, rAn, decide_true, ck_tr, (show e < 6 by omega), f2, neqL, (show ¬ 1 = 0 by omega), if_false, if_true] at hX
    simp (disch := omega) only [nltL, nLmul, nI_add, bIn, rAn, decide_true, ck_tr, (show 1 < 2 by omega), if_true, e10, (show 2 * e + 1 < 12 by omega), g2] at hM
    exact SIM_q hI (m0_fr w) (rS_m0 _) ⟨_, hX, hM⟩
  · simp (disch := omega) only [show (8 + 1 : Nat) = 9 from rfl, hr.1, neqL, (show ¬ 2 = 0 by omega), (show ¬ 2 = 1 by omega), if_false, hR.2.2.1, hb.2, nextCough_ok (q := cKp C e) (show e < 6 by omega) (show t < 2 ^ 30 by omega) (show 0 < cKp C e by omega) (show cKp C e < 2 ^ 30 by omega) f2, bnd_some] at hX
    simp (disch := omega) only [nltL, (show ¬ 2 < 2 by omega), if_false] at hM
    refine SIM_q hI (m0_fr w) (rS_m0 _) ⟨_, hX, hM.trans ?_⟩
    have hlt := Nat.mod_lt (cKp C e - t % cKp C e) (show 0 < cKp C e by omega)
    generalize hN : (cKp C e - t % cKp C e) % cKp C e = N at hlt
    have hs : ∀ k, k < cKp C e → ((nI t + nI k) - (nI t + nI k) / nI (cKp C e) * nI (cKp C e) = 0) = (k = N) := by
      intro k hk
      rw [nI_add, nI_mod (by omega) (by omega) (by omega)]
      have := Nat.mod_lt (t + k) (show 0 < cKp C e by omega)
      rw [show (0 : Int32) = nI 0 from rfl, neqI _ _ (by omega) (by omega), ← hN]
      exact propext (cough_at (by omega) hk)
    obtain ⟨u, n1, k1, k2⟩ := for_rel (F := fun n k (_ : Unit) => f_X10_keeper_60 3000 n 842 (nI e) k (m0 w)) (N := N) (fun _ _ => True)
      (fun n k u hk _ => by
        refine ⟨(), ?_, trivial⟩
        show f_X10_keeper_60 3000 (n + 1) 842 (nI e) (nI k) (m0 w) = f_X10_keeper_60 3000 n 842 (nI e) (nI (k + 1)) (m0 w)
        rw [E_X10_keeper_60]
        simp (disch := omega) only [bIL, rAL, decide_true, ck_tr, (show 56 < 57 by omega), nLmul, naddL, bIn, rAn, (show 2 * e + 1 < 12 by omega), e10, e19, g2, hb.2, neqL, (show ¬ cKp C e = 0 by omega), if_false, hs k (by omega), (show ¬ k = N by omega)])
      N 3000 0 () (by omega) (by omega) trivial
    have k1 : f_X10_keeper_60 3000 3000 842 (nI e) 0 (m0 w) = f_X10_keeper_60 3000 (n1 + 1) 842 (nI e) (nI N) (m0 w) := k1
    rw [k1, E_X10_keeper_60]
    simp (disch := omega) only [bIL, rAL, decide_true, ck_tr, (show 56 < 57 by omega), nLmul, naddL, bIn, rAn, (show 2 * e + 1 < 12 by omega), e10, e19, g2, hb.2, neqL, (show ¬ cKp C e = 0 by omega), if_false, hs N (by omega), if_true]
theorem S_cloud (a : Int32) {w : MEM} (hI : INV w) : SIM KN (f_X9_cloud 3000 0 a) (f_X10_cloud 3000 842 a) w := by
  have h := hI
  obtain ⟨C, c, l, b, hr, hc, hk⟩ := h
  have hw := hc.1
  have h7 := hw.1
  have hM1 := hc.2.2.1.1
  rcases witH (fu := 3000) a hw hr.1 hc.2.1.1 with ⟨e1, e2⟩ | ⟨h, hh, rfl, e1, e2⟩
  · refine SIM_M hI 1 ?_ ?_ rfl
    · rw [E_X9_cloud, e1]; rfl
    · rw [E_X10_cloud, lt_eq, m0_eq, e2 _ _ (by decide) ((bM_h w).trans hM1) (rS_m0 _), bnd_some, if_pos rfl]
  have hR := (hc.take (u := m0 w) rfl).1
  obtain ⟨w1, k1, k2⟩ := comesOn_C (fu := 3000) hw hc.2.1 hR (by omega) hh
  have f1 : Fr scr w w1 := k2.mono (pLC_scr l)
  have f2 := (f1.m0).tr (tk_fr (m0 w1))
  have hm2 := (hc.fr f2.K).2.2.1
  have et : takeF (m0 w1) = takeF (m0 w) := by
    unfold takeF
    have e1 : fA (m0 w1) (1019, 842) = fA (m0 w) (1019, 842) := f1.1 _ rfl
    have e2 : fA (m0 w1) (1020, 842) = fA (m0 w) (1020, 842) := k2.1 _ rfl
    rw [e1, e2]
  obtain ⟨w2, k3, k4⟩ := cloudBy_M (fu := 3000) hw hm2 (by omega) hh
  have f3 : Fr scr w1 w2 := ((m0_fr w1).tr (tk_fr (m0 w1))).tr (k4.mono pLM_scr)
  refine SIM_ok (v := cloudS C (takeF (m0 w)) h) (w1 := w1) (w2 := w2) hI ?_ f1 ?_ f3 ?_
  · rw [E_X9_cloud, e1, bndT_inl, hr.1, hr.2.1, hc.2.1.2.2.2.1, k1, bnd_some]
  · have hM2 : rS (m0 w1) (11022, 842) = nI (cH C) := (f1.2.1 (11022, 842) rfl).trans hM1
    rw [E_X10_cloud, lt_eq, m0_eq, e2 _ _ hM2 (rS_m0 _), bnd_some, if_neg (by decide), tk_M (by omega), bnd_some, k3, bnd_some, fA_tk, et]
  · exact (k4.2.1 _ rfl).trans (by rw [rS_tk, rS_m0])
