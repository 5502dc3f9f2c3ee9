/-! whom to wipe -/
def q19 (l : Nat) : LA → Bool := fun a => (morT a.1 && Nat.beq a.2 191) || pLC l a
theorem pMor_q19 (l : Nat) (a : LA) (h : pMor 191 a = true) : q19 l a = true := by
  have h : (morT a.1 && Nat.beq a.2 191) = true := h
  unfold q19
  rw [h, Bool.true_or]
theorem pMC_q19 (l : Nat) (a : LA) (h : pMC 191 l a = true) : q19 l a = true := by
  rcases or_t (a := pMo 191 a) (b := pLC l a) h with e | e
  · obtain ⟨t, j⟩ := a
    obtain ⟨h1, h2⟩ := and_t (a := ((Nat.ble 402 t && Nat.ble t 409) || Nat.beq t 10409)) e
    have h2 : Nat.beq j 191 = true := h2
    have hm : morT t = true := by
      rcases or_t h1 with e | e
      · obtain ⟨e3, e4⟩ := and_t e
        have e3 := Nat.le_of_ble_eq_true e3
        have e4 := Nat.le_of_ble_eq_true e4
        rcases (by omega : t = 402 ∨ t = 403 ∨ t = 404 ∨ t = 405 ∨ t = 406 ∨ t = 407 ∨ t = 408 ∨ t = 409) with e | e | e | e | e | e | e | e <;> subst e <;> rfl
      · have := Nat.eq_of_beq_eq_true e; subst this; rfl
    show ((morT t && Nat.beq j 191) || _) = true
    rw [hm, h2]
    rfl
  · unfold q19
    rw [e, Bool.or_true]
theorem q19_scC {l : Nat} (hl : l = 312 ∨ l = 317) (a : LA) (h : q19 l a = true) : scC a = true := by
  rcases or_t h with e | e
  · exact pMor_scC (Or.inr rfl) a e
  · exact pLC_scC hl a e
theorem q19_181 (l t : Nat) (ht : t < 9) : q19 l (401 + t, 181) = false := by
  have e1 : Nat.beq (401 + t) 303 = false := beq_ne (by omega)
  have e2 : Nat.beq (401 + t) 304 = false := beq_ne (by omega)
  show ((morT (401 + t) && false) || ((Nat.beq (401 + t) 303 || Nat.beq (401 + t) 304) && _)) = false
  rw [e1, e2, Bool.and_false]
  rfl
theorem af_ext {C : ACt} (hw : WFc C) (S : Nat) {f g : Nat → Int32} (e : ∀ j < 57, g j = f j) {o : Nat} (ho : o < cH C) : afE C S g (42 + o) = afE C S f (42 + o) := by
  have h7 := hw.1
  have : colE o (dwS C (wpS C S g)) (dwS C (wpS C S f)) := by
    unfold dwS
    rw [dwn_eq, dwn_eq]
    refine ⟨fun t ht => ?_, ?_⟩
    · show (if 42 ≤ 7 * t + o ∧ 7 * t + o < 42 + cH C then (-1 : Int32) else _) = (if 42 ≤ 7 * t + o ∧ 7 * t + o < 42 + cH C then (-1 : Int32) else _)
      rw [wpS_at S f h7, wpS_at S g h7, e _ (by omega)]
    · show (if 42 ≤ 56 ∧ 56 < 42 + cH C then (-1 : Int32) else _) = (if 42 ≤ 56 ∧ 56 < 42 + cH C then (-1 : Int32) else _)
      rw [wpS_at S f h7, wpS_at S g h7, e _ (by omega)]
  exact (hrs_col hw this (by omega) 24).1 6 (by omega)
/-- wiping this set makes h elder -/
def GD (C : ACt) (F : Nat → Int32) (h S : Nat) : Prop := S.testBit h = false ∧ (∀ j, S.testBit j = true → F (35 + j) = 1) ∧ afE C 0 F (42 + h) ≠ -1 ∧ ∀ o, o < cH C → ¬ ahd (if S.testBit o = true then afE C 127 F (42 + o) else afE C 0 F (42 + o)) o (afE C 0 F (42 + h)) h
theorem GD_iff {C : ACt} (hw : WFc C) {F g : Nat → Int32} (e : ∀ j < 57, g j = F j) {h S : Nat} (hh : h < cH C) (hS : S.testBit h = false) (hst : ∀ j, S.testBit j = true → F (35 + j) = 1) : rankS C (afE C S g) 0 = nI h ↔ GD C F h S := by
  have h7 := hw.1
  rw [rank_0 h7 hh]
  have a1 : ∀ o, o < cH C → afE C S g (42 + o) = if S.testBit o = true then afE C 127 F (42 + o) else afE C 0 F (42 + o) := by
    intro o ho
    rw [af_ext hw S e ho, af_at hw S F ho]
  have ah : afE C S g (42 + h) = afE C 0 F (42 + h) := by
    rw [a1 h hh, if_neg (by rw [hS]; decide)]
  rw [ah]
  unfold GD
  constructor
  · rintro ⟨h1, h2⟩
    refine ⟨hS, hst, h1, fun o ho => ?_⟩
    rw [← a1 o ho]
    exact h2 o ho
  · rintro ⟨_, _, h1, h2⟩
    refine ⟨h1, fun o ho => ?_⟩
    rw [a1 o ho]
    exact h2 o ho
theorem S_wipes (a : Int32) {w : MEM} (hI : INV w) : SIM KN (f_X9_wipes 3000 0 a) (f_X10_wipes 3000 842 a) w := by
  have h := hI
  obtain ⟨C, c, l, b, hr, hc, hk⟩ := h
  have hw := hc.1
  have h7 := hw.1
  have h128 := p7 h7
  have h1p := Nat.two_pow_pos (cH C)
  have hM1 := hc.2.2.1.1
  rcases witH (fu := 3000) a hw hr.1 hc.2.1.1 with ⟨e1, e2⟩ | ⟨h, hh, rfl, e1, e2⟩
  · refine SIM_M hI 1 ?_ ?_ rfl
    · rw [E_X9_wipes, e1]; rfl
    · rw [E_X10_wipes, lt_eq, m0_eq, e2 _ _ (by decide) ((bM_h w).trans hM1) (rS_m0 _), bnd_some, if_pos rfl]
  have hl := hr.l
  obtain ⟨hR, t, ht, hb⟩ := hc.take (u := m0 w) rfl
  obtain ⟨w1, k1, f1, r1⟩ := copy_C 3000 (i := 181) (j := 9) (by decide) w
  have f1 : Fr scC w w1 := f1.mono (pMor_scC (Or.inl rfl))
  have r1 := r1 C _ h7 hR
  generalize hF : takeF (m0 w) = F at hR hb r1
  obtain ⟨w2, k2, f2, r2⟩ := dawn_C (l := l) (fu := 3000) hw r1 (by omega)
  have f2 : Fr scC w w2 := f1.tr (f2.mono (pMC_scC (Or.inl rfl) hl))
  have hc2 := (hc.fr (f2.mono scC_scr).K).2.1
  obtain ⟨w3, k3, f3, r3⟩ := passHours_C (fu := 3000) (N := 24) hw hc2 r2 (Bd_dw h7 hb) (by omega) (by omega) (by omega)
  have f3 : Fr scC w w3 := f2.tr (f3.mono (pMC_scC (Or.inl rfl) hl))
  have r3 : Rm w3 181 C (afE C 0 F) := by
    unfold afE
    rw [wpS_0 F h7]
    exact r3
  have hR3 : Rm w3 9 C F := hR.fr (f3.mono scC_scr).K (scrK_mo (by omega)) (scrK_mS (by omega))
  obtain ⟨w4, k4, f4, r4⟩ := copy_C 3000 (i := 191) (j := 9) (by decide) w3
  have r4 := r4 C _ h7 hR3
  have g4 : Fr (q19 l) w3 w4 := f4.mono (pMor_q19 l)
  obtain ⟨w5, k5, f5, r5⟩ := dawn_C (l := l) (fu := 3000) hw r4 (by omega)
  have g5 : Fr (q19 l) w3 w5 := g4.tr (f5.mono (pMC_q19 l))
  have k6 := fill_ok 3000 (403, 191) 0 w5 (show 7 < 3000 by omega) (show 7 < 2 ^ 31 by omega)
  generalize hw6 : tA w5 (403, 191) (fun j => if j < aN ((403, 191) : LA).1 then 0 else fA w5 (403, 191) j) = w6 at k6
  have g6 : Fr (q19 l) w3 w6 := by
    rw [← hw6]
    exact Fr.A (a := (403, 191)) g5 _ rfl
  have r6 : Rm w6 191 C (dwS C (wpS C 127 F)) := by
    obtain ⟨q1, q2, q3, q4⟩ := r5
    have t7 : ∀ a < 7, (127 : Nat).testBit a = true := by decide
    have hd : ∀ t1 < 8, ∀ j < cH C, dwS C (wpS C 127 F) (7 * t1 + j) = if t1 = 1 then 0 else lp (cH C) 0 dwn F (7 * t1 + j) := by
      intro t1 ht1 j hj
      unfold dwS
      rw [dwn_eq, dwn_eq]
      show (if 42 ≤ 7 * t1 + j ∧ 7 * t1 + j < 42 + cH C then (-1 : Int32) else _) = if t1 = 1 then 0 else (if 42 ≤ 7 * t1 + j ∧ 7 * t1 + j < 42 + cH C then (-1 : Int32) else _)
      rw [wpS_at 127 F h7]
      by_cases c1 : t1 = 1
      · subst c1
        rw [if_pos rfl, if_neg (by omega), if_pos ⟨by omega, by omega, by rw [show 7 * 1 + j - 7 = j by omega]; exact t7 j (by omega)⟩]
      · rw [if_neg c1, if_neg (c := 7 ≤ 7 * t1 + j ∧ 7 * t1 + j < 7 + cH C ∧ Nat.testBit 127 (7 * t1 + j - 7) = true) (by omega)]
    rw [← hw6]
    refine ⟨fun t1 ht1 j hj => ?_, fun j h1 h2 => ?_, ?_, fun j hj => ?_⟩
    · rw [hd t1 ht1 j hj, fA_tA]
      by_cases c1 : t1 = 1
      · subst c1
        rw [if_pos rfl, if_pos rfl]
        show (if j < 7 then (0 : Int32) else _) = 0
        rw [if_pos (by omega)]
      · rw [if_neg (by intro e; injection e with e; omega), if_neg c1]
        exact q1 t1 ht1 j hj
    · obtain ⟨z1, z2, z3, z4⟩ := q2 j h1 h2
      refine ⟨?_, ?_, ?_, ?_⟩
      · rw [fA_tA, if_pos rfl]
        show (if j < 7 then (0 : Int32) else _) = 0
        rw [if_pos h2]
      · rw [fA_tA, if_neg (by decide)]; exact z2
      · rw [fA_tA, if_neg (by decide)]; exact z3
      · rw [fA_tA, if_neg (by decide)]; exact z4
    · rw [rS_tA, q3]
      unfold dwS
      rw [dwn_eq, dwn_eq]
      show (if 42 ≤ 56 ∧ 56 < 42 + cH C then (-1 : Int32) else _) = (if 42 ≤ 56 ∧ 56 < 42 + cH C then (-1 : Int32) else _)
      rw [wpS_at 127 F h7, if_neg (c := 7 ≤ 56 ∧ 56 < 7 + cH C ∧ Nat.testBit 127 (56 - 7) = true) (by omega)]
    · rw [fA_tA, if_neg (by decide)]
      exact q4 j hj
  have hc6 := (hc.fr ((f3.tr (g6.mono (q19_scC hl))).mono scC_scr).K).2.1
  obtain ⟨w7, k7, f7, r7⟩ := passHours_C (fu := 3000) (N := 24) hw hc6 r6 (Bd_dw h7 (Bd_wp h7 hb)) (by omega) (by omega) (by omega)
  have g7 : Fr (q19 l) w3 w7 := g6.tr (f7.mono (pMC_q19 l))
  have f7 : Fr scC w w7 := f3.tr (g7.mono (q19_scC hl))
  have r3 : Rm w7 181 C (afE C 0 F) := r3.fr g7 (q19_181 l) rfl
  have r7 : Rm w7 191 C (afE C 127 F) := r7
  have hr7 := hr.fr f7
  have hc7 := (hc.fr (f7.mono scC_scr).K)
  have A1 : ∀ o < cH C, fA w7 (408, 181) o = afE C 0 F (42 + o) := fun o ho => r3.1 6 (by omega) o ho
  have B1 : ∀ o < cH C, fA w7 (408, 191) o = afE C 127 F (42 + o) := fun o ho => r7.1 6 (by omega) o ho
  -- the class's answer
  have hcl : ∃ r, f_X9_leastWiped 3000 0 (nI h) w7 = some (r, w7) ∧ ((r = -1 ∧ (afE C 0 F (42 + h) = -1 ∨ ∃ o, o < cH C ∧ o ≠ h ∧ ahd (afE C 0 F (42 + o)) o (afE C 0 F (42 + h)) h ∧ ahd (afE C 127 F (42 + o)) o (afE C 0 F (42 + h)) h)) ∨ (afE C 0 F (42 + h) ≠ -1 ∧ ∃ X, r = nI X ∧ X < 2 ^ cH C ∧ (∀ j, X.testBit j = true ↔ j < cH C ∧ (j ≠ h ∧ ahd (afE C 0 F (42 + j)) j (afE C 0 F (42 + h)) h)) ∧ ∀ o, o < cH C → (o ≠ h ∧ ahd (afE C 0 F (42 + o)) o (afE C 0 F (42 + h)) h) → ¬ ahd (afE C 127 F (42 + o)) o (afE C 0 F (42 + h)) h)) := by
    rw [E_X9_leastWiped]
    simp (disch := omega) only [bIn, rAn, decide_true, ck_tr, (show h < 7 by omega), A1 h hh, lt_eq]
    by_cases c1 : afE C 0 F (42 + h) = -1
    · rw [if_pos c1]
      exact ⟨-1, rfl, Or.inl ⟨rfl, Or.inl c1⟩⟩
    · rw [if_neg c1]
      have key : ∀ m k n x, k + m = cH C → m < n → x < 2 ^ cH C → (∀ j, x.testBit j = true ↔ j < k ∧ (j ≠ h ∧ ahd (afE C 0 F (42 + j)) j (afE C 0 F (42 + h)) h)) → (∀ o, o < k → (o ≠ h ∧ ahd (afE C 0 F (42 + o)) o (afE C 0 F (42 + h)) h) → ¬ ahd (afE C 127 F (42 + o)) o (afE C 0 F (42 + h)) h) → ∃ r, f_X9_leastWiped_22 3000 n 0 (nI h) (afE C 0 F (42 + h)) (nI x) (nI k) w7 = some (r, w7) ∧ ((r = -1 ∧ ∃ o, o < cH C ∧ o ≠ h ∧ ahd (afE C 0 F (42 + o)) o (afE C 0 F (42 + h)) h ∧ ahd (afE C 127 F (42 + o)) o (afE C 0 F (42 + h)) h) ∨ (∃ X, r = nI X ∧ X < 2 ^ cH C ∧ (∀ j, X.testBit j = true ↔ j < cH C ∧ (j ≠ h ∧ ahd (afE C 0 F (42 + j)) j (afE C 0 F (42 + h)) h)) ∧ ∀ o, o < cH C → (o ≠ h ∧ ahd (afE C 0 F (42 + o)) o (afE C 0 F (42 + h)) h) → ¬ ahd (afE C 127 F (42 + o)) o (afE C 0 F (42 + h)) h)) := by
        intro m
        induction m with
        | zero =>
          intro k n x hk hn x1 x2 x3
          obtain ⟨n, rfl⟩ : ∃ n', n = n' + 1 := ⟨n - 1, by omega⟩
          have hk : k = cH C := by omega
          subst hk
          refine ⟨nI x, ?_, Or.inr ⟨x, rfl, x1, x2, x3⟩⟩
          rw [E_X9_leastWiped_22, hr7.1, hc7.2.1.1, if_neg (by rw [nlt _ _ (by omega) (by omega)]; omega)]
        | succ m ih =>
          intro k n x hk hn x1 x2 x3
          obtain ⟨n, rfl⟩ : ∃ n', n = n' + 1 := ⟨n - 1, by omega⟩
          have a1 := isAhead_ok2 3000 (afE C 0 F (42 + k)) (afE C 0 F (42 + h)) h k (by omega) (by omega) w7
          have a2 := isAhead_ok2 3000 (afE C 127 F (42 + k)) (afE C 0 F (42 + h)) h k (by omega) (by omega) w7
          have es : f_X9_leastWiped_22 3000 (n + 1) 0 (nI h) (afE C 0 F (42 + h)) (nI x) (nI k) w7 = if nI k = nI h then f_X9_leastWiped_22 3000 n 0 (nI h) (afE C 0 F (42 + h)) (nI x) (nI (k + 1)) w7 else (if (if ahd (afE C 0 F (42 + k)) k (afE C 0 F (42 + h)) h then (1 : Int32) else 0) = 0 then f_X9_leastWiped_22 3000 n 0 (nI h) (afE C 0 F (42 + h)) (nI x) (nI (k + 1)) w7 else if (if ahd (afE C 127 F (42 + k)) k (afE C 0 F (42 + h)) h then (1 : Int32) else 0) = 0 then f_X9_leastWiped_22 3000 n 0 (nI h) (afE C 0 F (42 + h)) (nI (x ||| 2 ^ k)) (nI (k + 1)) w7 else some (-1, w7)) := by
            rw [E_X9_leastWiped_22, hr7.1, hc7.2.1.1, if_pos (by rw [nlt _ _ (by omega) (by omega)]; omega)]
            simp (disch := omega) only [bIn, rAn, decide_true, ck_tr, (show k < 7 by omega), A1 k (by omega), B1 k (by omega), a1, a2, bnd_some, lt_eq, one_n, nI_or, naddL]
          rw [es]
          by_cases c2 : k = h
          · subst c2
            rw [if_pos rfl]
            refine ih (k + 1) n x (by omega) (by omega) x1 (fun j => ?_) (fun o ho h1 => ?_)
            · rw [x2]
              exact ⟨fun e => ⟨by omega, e.2⟩, fun e => ⟨by have := e.2.1; omega, e.2⟩⟩
            · exact x3 o (by have := h1.1; omega) h1
          · rw [if_neg (by rw [neqI _ _ (by omega) (by omega)]; exact c2)]
            by_cases c3 : ahd (afE C 0 F (42 + k)) k (afE C 0 F (42 + h)) h
            · rw [if_pos c3, if_neg (by decide)]
              by_cases c4 : ahd (afE C 127 F (42 + k)) k (afE C 0 F (42 + h)) h
              · rw [if_pos c4, if_neg (by decide)]
                exact ⟨-1, rfl, Or.inl ⟨rfl, k, by omega, c2, c3, c4⟩⟩
              · rw [if_neg c4, if_pos rfl]
                refine ih (k + 1) n (x ||| 2 ^ k) (by omega) (by omega) (or_H x1 (pj (by omega))) (fun j => ?_) (fun o ho h1 => ?_)
                · rw [Nat.testBit_or, Nat.testBit_two_pow]
                  constructor
                  · intro e
                    rcases or_t e with e | e
                    · have := (x2 j).mp e
                      exact ⟨by omega, this.2⟩
                    · have : k = j := of_decide_eq_true e
                      subst this
                      exact ⟨by omega, c2, c3⟩
                  · rintro ⟨e, e3⟩
                    by_cases c5 : k = j
                    · rw [decide_eq_true c5, Bool.or_true]
                    · rw [(x2 j).mpr ⟨by omega, e3⟩]; rfl
                · by_cases c5 : o = k
                  · subst c5; exact c4
                  · exact x3 o (by omega) h1
            · rw [if_neg c3, if_pos rfl]
              refine ih (k + 1) n x (by omega) (by omega) x1 (fun j => ?_) (fun o ho h1 => ?_)
              · rw [x2]
                constructor
                · exact fun e => ⟨by omega, e.2⟩
                · rintro ⟨e, e3⟩
                  by_cases c5 : j = k
                  · subst c5; exact absurd e3.2 c3
                  · exact ⟨by omega, e3⟩
              · by_cases c5 : o = k
                · subst c5; exact absurd h1.2 c3
                · exact x3 o (by omega) h1
      obtain ⟨r, q1, q2⟩ := key (cH C) 0 3000 0 (by omega) (by omega) h1p (fun j => by rw [Nat.zero_testBit]; exact ⟨fun e => Bool.noConfusion e, fun e => absurd e.1 (Nat.not_lt_zero _)⟩) (fun o ho => absurd ho (Nat.not_lt_zero _))
      exact ⟨r, q1, q2.elim (fun e => Or.inl ⟨e.1, Or.inr e.2⟩) (fun e => Or.inr ⟨c1, e⟩)⟩
  obtain ⟨r, k8, k9⟩ := hcl
  have hX : f_X9_wipes 3000 0 (nI h) w = some (.inl r, w7) := by
    rw [E_X9_wipes, e1, bndT_inl, show (8 + 1 : Nat) = 9 from rfl, k1, bnd_some, k2, bnd_some, (hr.fr f2).1, (hr.fr f2).2.1]
    rw [show (24 : Int32) = nI 24 from rfl, k3, bnd_some, k4, bnd_some, k5, bnd_some, k6, bnd_some]
    have z1 : rT w6 (10908, 0) = c := (hr.fr (f3.tr (g6.mono (q19_scC hl)))).1
    have z2 : rT w6 (10910, 0) = l := (hr.fr (f3.tr (g6.mono (q19_scC hl)))).2.1
    rw [z1, z2, k7, bnd_some, k8, bnd_some]
  -- the model
  have f7s : Fr scr w w7 := f7.mono scC_scr
  have hM2 : rS (m0 w7) (11022, 842) = nI (cH C) := (f7.2.1 (11022, 842) rfl).trans hM1
  have hm := (hc7.fr (m0_fr w7).K).2.2.1
  have hnow : ∀ j < 57, fA (m0 w7) (1019, 842) j = F j := by
    intro j hj
    have e : fA (m0 w7) (1019, 842) = fA (m0 w) (1019, 842) := f7.1 _ rfl
    rw [e, ← hF]
    exact takeF_now (m0 w) j hj
  obtain ⟨y, n1, g1, g2, g3⟩ := for_rel (F := fun n x (s : Int32 × MEM) => f_X10_wipes_20 3000 n 842 (nI h) s.1 x s.2) (N := 2 ^ cH C) (fun k s => Fr pSM (m0 w7) s.2 ∧ ((s.1 = -1 ∧ ∀ j, j < k → ¬ GD C F h j) ∨ ∃ p, p < k ∧ s.1 = nI p ∧ GD C F h p ∧ ∀ j, j < k → GD C F h j → pc p ≤ pc j))
    (fun n k s hk q => by
      obtain ⟨bst, u⟩ := s
      obtain ⟨q1, q2⟩ := q
      have q1 : Fr pSM (m0 w7) u := q1
      have q2 : (bst = -1 ∧ ∀ j, j < k → ¬ GD C F h j) ∨ ∃ p, p < k ∧ bst = nI p ∧ GD C F h p ∧ ∀ j, j < k → GD C F h j → pc p ≤ pc j := q2
      have tkf : Fr pSM u (tk u) := Fr.A (a := (1020, 842)) (Fr.rf _ _) _ rfl
      have qf := q1.tr tkf
      have hmt := hm.fr qf okSM
      have hg : ∀ j < 57, takeF u j = F j := by
        intro j hj
        rw [← takeF_now u j hj, q1.1 (1019, 842) rfl]
        exact hnow j hj
      have hbg : Bd C t (takeF u) := Bd_ext h7 hb (fun j hj => (hg j hj).symm)
      obtain ⟨s1, s2, s3⟩ := stN_ok h7 hbg
      have stand : f_X10_standing 3000 842 (tk u) = some (nI (stN C (takeF u)), tk u) := by
        rw [standing_M hw hmt (by omega), fA_tk, s1]
      have nogood : ¬ GD C F h k → ((bst = -1 ∧ ∀ j, j < k + 1 → ¬ GD C F h j) ∨ ∃ p, p < k + 1 ∧ bst = nI p ∧ GD C F h p ∧ ∀ j, j < k + 1 → GD C F h j → pc p ≤ pc j) := by
        intro ng
        rcases q2 with ⟨z1, z2⟩ | ⟨p, z1, z2, z3, z4⟩
        · left
          refine ⟨z1, fun j hj => ?_⟩
          by_cases e : j = k
          · subst e; exact ng
          · exact z2 j (by omega)
        · right
          refine ⟨p, by omega, z2, z3, fun j hj h1 => ?_⟩
          by_cases e : j = k
          · subst e; exact absurd h1 ng
          · exact z4 j (by omega) h1
      show ∃ b : Int32 × MEM, f_X10_wipes_20 3000 (n + 1) 842 (nI h) bst (nI k) u = f_X10_wipes_20 3000 n 842 (nI h) b.1 (nI (k + 1)) b.2 ∧ _
      rw [E_X10_wipes_20, (q1.2.1 (11022, 842) rfl).trans hM2, shl_n _ h7, if_pos (by rw [nlt _ _ (by omega) (by omega)]; exact hk), tk_M (by omega), bnd_some, stand, bnd_some, xor_m (by omega) (by omega), naddL]
      simp (disch := omega) only [bit_one]
      by_cases c1 : k.testBit h = true
      · rw [if_pos c1]
        exact ⟨(bst, tk u), rfl, qf, nogood (fun e => by rw [e.1] at c1; cases c1)⟩
      rw [if_neg c1]
      have c1 : k.testBit h = false := by simpa using c1
      have hand : (nI (k &&& (stN C (takeF u) ^^^ 127)) = 0) = (∀ j, k.testBit j = true → F (35 + j) = 1) := by
        have hlt : k &&& (stN C (takeF u) ^^^ 127) < 128 := Nat.lt_of_le_of_lt Nat.and_le_left (by omega)
        have t7 : ∀ a < 7, (127 : Nat).testBit a = true := by decide
        rw [show (0 : Int32) = nI 0 from rfl, neqI _ _ (by omega) (by omega)]
        apply propext
        constructor
        · intro e j hj
          have hj7 := tb_H hk hj
          have : (k &&& (stN C (takeF u) ^^^ 127)).testBit j = false := by rw [e]; exact Nat.zero_testBit j
          rw [Nat.testBit_and, Nat.testBit_xor, hj, t7 j (by omega)] at this
          have : (stN C (takeF u)).testBit j = true := by
            cases c : (stN C (takeF u)).testBit j
            · rw [c] at this; cases this
            · rfl
          have := ((s3 j).mp this).2
          rwa [hg _ (by omega)] at this
        · intro H
          apply Nat.eq_of_testBit_eq
          intro j
          rw [Nat.testBit_and, Nat.testBit_xor, Nat.zero_testBit]
          cases c : k.testBit j
          · rfl
          · have hj7 := tb_H hk c
            have : (stN C (takeF u)).testBit j = true := (s3 j).mpr ⟨hj7, by rw [hg _ (by omega)]; exact H j c⟩
            rw [this, t7 j (by omega)]
            rfl
      by_cases c2 : ∀ j, k.testBit j = true → F (35 + j) = 1
      rotate_left
      · rw [if_neg (fun e => c2 (Eq.mp hand e))]
        exact ⟨(bst, tk u), rfl, qf, nogood (fun e => c2 e.2.1)⟩
      rw [if_pos (Eq.mpr hand c2)]
      -- the try
      have try1 : ∃ u1, ((GD C F h k ∧ f_X10_wipes_76 3000 (fun l0 l1 l2 l3 w => f_X10_wipes_20 3000 n l0 l1 l2 l3 w) 3000 842 (nI h) bst (nI k) 0 (tk u) = f_X10_wipes_20 3000 n 842 (nI h) (nI k) (nI (k + 1)) u1) ∨ (¬ GD C F h k ∧ f_X10_wipes_76 3000 (fun l0 l1 l2 l3 w => f_X10_wipes_20 3000 n l0 l1 l2 l3 w) 3000 842 (nI h) bst (nI k) 0 (tk u) = f_X10_wipes_20 3000 n 842 (nI h) bst (nI (k + 1)) u1)) ∧ Fr pSM (m0 w7) u1 := by
        obtain ⟨v1, n2, x1, x2, x3⟩ := for_rel (F := fun m x (v : MEM) => f_X10_wipes_76 3000 (fun l0 l1 l2 l3 w => f_X10_wipes_20 3000 n l0 l1 l2 l3 w) m 842 (nI h) bst (nI k) x v) (N := cH C) (fun q v => Fr pSM (m0 w7) v ∧ fA v (1020, 842) = lp q 0 (fun o f => upd f (7 + o) (f (7 + o) * (1 - (if k.testBit o = true then 1 else 0)))) (takeF u))
          (fun m q v hq p => by
            obtain ⟨p1, p2⟩ := p
            refine ⟨tA v (1020, 842) (upd (fA v (1020, 842)) (7 + q) (fA v (1020, 842) (7 + q) * (1 - (if k.testBit q = true then 1 else 0)))), ?_, Fr.A (a := (1020, 842)) p1 _ rfl, by rw [lp_snoc, Nat.zero_add, ← p2, fA_tA, if_pos rfl]⟩
            have hbit : (nI k >>> (nI q &&& 31)) &&& 1 = (if k.testBit q = true then (1 : Int32) else 0) := by
              have z1 := bit_one (m := k) (j := q) (by omega) (by omega)
              have z0 := bit_one0 (m := k) (j := q) (by omega) (by omega)
              cases c : k.testBit q
              · rw [c] at z0
                rw [if_neg (by decide)]
                exact z0.mpr rfl
              · rw [c] at z1
                rw [if_pos rfl]
                exact z1.mpr rfl
            show f_X10_wipes_76 3000 _ (m + 1) 842 (nI h) bst (nI k) (nI q) v = _
            rw [E_X10_wipes_76, (p1.2.1 (11022, 842) rfl).trans hM2, hbit]
            simp (disch := omega) only [nlt, hq, if_true, nLadd, bIn, rAn, decide_true, ck_tr, (show 7 + q < 57 by omega), lt_eq, sAn, naddL])
          (cH C) 3000 0 (tk u) (by omega) (by omega) ⟨qf, by rw [fA_tk]; rfl⟩
        have x1 : f_X10_wipes_76 3000 (fun l0 l1 l2 l3 w => f_X10_wipes_20 3000 n l0 l1 l2 l3 w) 3000 842 (nI h) bst (nI k) 0 (tk u) = _ := x1
        have x3 : fA v1 (1020, 842) = wpS C k (takeF u) := x3
        obtain ⟨v2, y1, y2, y3⟩ := dawns_M (fu := 3000) hw (hm.fr x2 okSM) (by omega)
        have y2 := x2.tr y2
        rw [x3] at y3
        obtain ⟨v3, n3, z1, z2, z3⟩ := for_rel (F := fun m x (v : MEM) => f_X10_wipes_119 3000 (fun l0 l1 l2 l3 w => f_X10_wipes_20 3000 n l0 l1 l2 l3 w) m 842 (nI h) bst (nI k) x v) (N := 24) (fun q v => Fr pSM (m0 w7) v ∧ fA v (1020, 842) = hrs C q (dwS C (wpS C k (takeF u))))
          (fun m q v hq p => by
            obtain ⟨p1, p2⟩ := p
            obtain ⟨v9, p3, p4, p5⟩ := passes_M (fu := 3000) hw (hm.fr p1 okSM) (by omega)
            refine ⟨v9, ?_, p1.tr p4, by rw [hrs_s, p5, p2]⟩
            show f_X10_wipes_119 3000 _ (m + 1) 842 (nI h) bst (nI k) (nI q) v = _
            rw [E_X10_wipes_119, if_pos (by rw [nltL _ _ (by omega) (by decide)]; exact hq), p3, bnd_some, naddL])
          24 3000 0 v2 (by omega) (by omega) ⟨y2, y3⟩
        have z1 : f_X10_wipes_119 3000 (fun l0 l1 l2 l3 w => f_X10_wipes_20 3000 n l0 l1 l2 l3 w) 3000 842 (nI h) bst (nI k) 0 v2 = _ := z1
        have z3 : fA v3 (1020, 842) = afE C k (takeF u) := z3
        have hmv := hm.fr z2 okSM
        refine ⟨v3, ?_, z2⟩
        rw [x1, E_X10_wipes_76, (x2.2.1 (11022, 842) rfl).trans hM2, if_neg (by rw [nlt _ _ (by omega) (by omega)]; omega), y1, bnd_some, z1, E_X10_wipes_119, if_neg (by decide), ranked_M 0 hw hmv (by omega), bnd_some, z3, naddL]
        have hgd := GD_iff hw hg hh c1 c2
        by_cases c3 : GD C F h k
        · exact Or.inl ⟨c3, by rw [if_pos (hgd.mpr c3)]⟩
        · exact Or.inr ⟨c3, by rw [if_neg (fun e => c3 (hgd.mp e))]⟩
      obtain ⟨u1, t1, t2⟩ := try1
      rcases q2 with ⟨z1, z2⟩ | ⟨p, z1, z2, z3, z4⟩
      · rw [if_pos z1]
        rcases t1 with ⟨c3, t1⟩ | ⟨c3, t1⟩
        · rw [t1]
          refine ⟨(nI k, u1), rfl, t2, Or.inr ⟨k, by omega, rfl, c3, fun j hj h1 => ?_⟩⟩
          by_cases e : j = k
          · subst e; exact Nat.le_refl _
          · exact absurd h1 (z2 j (by omega))
        · rw [t1]
          exact ⟨(bst, u1), rfl, t2, nogood c3⟩
      · have lk := pc_lt k (by omega)
        have lp1 := pc_lt p (by omega)
        have hne : ¬ bst = -1 := by
          intro e
          rw [z2] at e
          have : ¬ nI p < 0 := nI_pos (by omega)
          rw [e] at this
          exact this (by decide)
        have eo : f_X10_ones 3000 bst (tk u) = some (nI (pc p), tk u) := by
          rw [z2]
          exact ones_ok (by omega) (by omega) _
        rw [if_neg hne, ones_ok (by omega) (by omega), bnd_some, eo, bnd_some]
        simp (disch := omega) only [nlt]
        by_cases c4 : pc k < pc p
        · rw [if_pos c4]
          rcases t1 with ⟨c3, t1⟩ | ⟨c3, t1⟩
          · rw [t1]
            refine ⟨(nI k, u1), rfl, t2, Or.inr ⟨k, by omega, rfl, c3, fun j hj h1 => ?_⟩⟩
            by_cases e : j = k
            · subst e; exact Nat.le_refl _
            · have := z4 j (by omega) h1
              omega
          · rw [t1]
            exact ⟨(bst, u1), rfl, t2, nogood c3⟩
        · rw [if_neg c4]
          refine ⟨(bst, tk u), rfl, qf, Or.inr ⟨p, by omega, z2, z3, fun j hj h1 => ?_⟩⟩
          by_cases e : j = k
          · subst e; omega
          · exact z4 j (by omega) h1)
    (2 ^ cH C) 3000 0 (-1, m0 w7) (by omega) (by omega) ⟨Fr.rf _ _, Or.inl ⟨rfl, fun j hj => absurd hj (Nat.not_lt_zero _)⟩⟩
  obtain ⟨bst, u⟩ := y
  have g1 : f_X10_wipes_20 3000 3000 842 (nI h) (-1) 0 (m0 w7) = f_X10_wipes_20 3000 (n1 + 1) 842 (nI h) bst (nI (2 ^ cH C)) u := g1
  have g2 : Fr pSM (m0 w7) u := g2
  have g3 : (bst = -1 ∧ ∀ j, j < 2 ^ cH C → ¬ GD C F h j) ∨ ∃ p, p < 2 ^ cH C ∧ bst = nI p ∧ GD C F h p ∧ ∀ j, j < 2 ^ cH C → GD C F h j → pc p ≤ pc j := g3
  have hM : f_X10_wipes 3000 842 (nI h) w7 = some (bst, u) := by
    rw [E_X10_wipes, lt_eq, m0_eq, e2 _ _ hM2 (rS_m0 _), bnd_some, if_neg (by decide), g1, E_X10_wipes_20, (g2.2.1 (11022, 842) rfl).trans hM2, shl_n _ h7, if_neg (by rw [nlt _ _ (by omega) (by omega)]; omega)]
  have hrb : r = bst := by
    rcases k9 with ⟨x1, x2⟩ | ⟨x0, X, x1, x2, x3, x4⟩
    · rcases g3 with ⟨y1, y2⟩ | ⟨p, y1, y2, y3, y4⟩
      · rw [x1, y1]
      · exfalso
        rcases x2 with x2 | ⟨o, o1, o2, o3, o4⟩
        · exact y3.2.2.1 x2
        · have := y3.2.2.2 o o1
          split at this
          · exact this o4
          · exact this o3
    · have hoff : ∀ j, j < cH C → afE C 0 F (42 + j) ≠ -1 → F (35 + j) = 1 := by
        intro j hj hA
        rcases (hb.1 j hj).2.2 with e | e
        · exfalso
          apply hA
          have : offE j (dwS C (wpS C 0 F)) := by
            rw [wpS_0 F h7]
            unfold dwS
            rw [dwn_eq]
            refine ⟨?_, ?_⟩
            · exact (if_neg (by omega)).trans e
            · exact if_pos ⟨by omega, by omega⟩
          exact (off_hrs hw this (by omega) 24).2
        · exact e
      have hgX : GD C F h X := by
        refine ⟨?_, fun j hj => ?_, x0, fun o ho => ?_⟩
        · cases e : X.testBit h
          · rfl
          · exact absurd rfl ((x3 h).mp e).2.1
        · have := (x3 j).mp hj
          exact hoff j this.1 this.2.2.1
        · by_cases e : X.testBit o = true
          · rw [if_pos e]
            exact x4 o ho ((x3 o).mp e).2
          · rw [if_neg e]
            intro h1
            by_cases c : o = h
            · subst c
              rcases h1.2 with h2 | h2
              · rw [Int32.lt_iff_toInt_lt] at h2; omega
              · omega
            · exact e ((x3 o).mpr ⟨ho, c, h1⟩)
      rcases g3 with ⟨y1, y2⟩ | ⟨p, y1, y2, y3, y4⟩
      · exact absurd hgX (y2 X x2)
      · rw [x1, y2]
        have hs : X &&& p = X := by
          apply sub_and
          intro j hj
          cases e : p.testBit j
          · exfalso
            obtain ⟨j1, j2, j3⟩ := (x3 j).mp hj
            have := y3.2.2.2 j j1
            rw [e, if_neg (by decide)] at this
            exact this j3
          · rfl
        have := y4 X x2 hgX
        by_cases c : X = p
        · rw [c]
        · have := pc_sub X (by omega) p (by omega) hs c
          omega
  subst hrb
  exact SIM_ok hI hX f7s hM ((m0_fr w7).tr (g2.mono pSM_scr)) ((g2.2.1 _ rfl).trans (rS_m0 _))
