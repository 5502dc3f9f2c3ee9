/-! calls about who hears whom -/
theorem all_C {fu : Nat} {w : MEM} {C : ACt} {c l : Nat} (hw : WFc C) (hc : CLS w c l C) : f_X1_all fu c w = some (nI (2 ^ cH C - 1), w) := by
  rw [E_X1_all, hc.1, all_n _ hw.1]
theorem all_M {fu : Nat} {w : MEM} {C : ACt} (hw : WFc C) (hm : MOD w C) : f_X10_all fu 842 w = some (nI (2 ^ cH C - 1), w) := by
  rw [E_X10_all, hm.1, all_n _ hw.1]
theorem S_way (a a2 : Int32) {w : MEM} (hI : INV w) : SIM KN (f_X9_way 3000 0 a a2) (f_X10_way 3000 842 a a2) w := by
  have h := hI
  obtain ⟨C, c, l, b, hr, hc, hk⟩ := h
  have hw := hc.1
  have h7 := hw.1
  have h128 := p7 h7
  have hM1 := hc.2.2.1.1
  rcases witH (fu := 3000) a hw hr.1 hc.2.1.1 with ⟨e1, e2⟩ | ⟨h, hh, rfl, e1, e2⟩
  · refine SIM_M hI 1 ?_ ?_ rfl
    · rw [E_X9_way, e1]; rfl
    · rw [E_X10_way, lt_eq, m0_eq, e2 _ _ (by decide) ((bM_h w).trans hM1) (rS_m0 _), bnd_some, if_pos rfl]
  rcases witH (fu := 3000) a2 hw hr.1 hc.2.1.1 with ⟨e3, e4⟩ | ⟨o, ho, rfl, e3, e4⟩
  · refine SIM_M hI 1 ?_ ?_ rfl
    · rw [E_X9_way, e1, bndT_inl, e3]; rfl
    · rw [E_X10_way, lt_eq, m0_eq, e2 _ _ ((bM_h w).trans hM1) (rS_m0 _), bnd_some, if_neg (by decide), e4 _ _ (by decide) ((bM_h w).trans hM1) (rS_m0 _), bnd_some, if_pos rfl]
  have hm := (hc.fr (m0_fr w).K).2.2.1
  refine SIM_q hI (m0_fr w) (rS_m0 _) ⟨cmS C (2 ^ cH C - 1) h o, ?_, ?_⟩
  · rw [E_X9_way, e1, bndT_inl, e3, bndT_inl, hr.1, tapsBetween_ok hw hc.2.1 hh ho (by omega), bnd_some]
  · rw [E_X10_way, lt_eq, m0_eq, e2 _ _ ((m0_h w).trans hM1) (rS_m0 _), bnd_some, if_neg (by decide), e4 _ _ ((m0_h w).trans hM1) (rS_m0 _), bnd_some, if_neg (by decide), all_M hw hm, bnd_some, comesTo_ok hw hm hh ho (by omega) (by omega), bnd_some]
theorem S_ear (a : Int32) {w : MEM} (hI : INV w) : SIM KN (f_X9_ear 3000 0 a) (f_X10_ear 3000 842 a) w := by
  have h := hI
  obtain ⟨C, c, l, b, hr, hc, hk⟩ := h
  have hw := hc.1
  have h7 := hw.1
  have h128 := p7 h7
  have hM1 := hc.2.2.1.1
  rcases witH (fu := 3000) a hw hr.1 hc.2.1.1 with ⟨e1, e2⟩ | ⟨h, hh, rfl, e1, e2⟩
  · refine SIM_M hI 1 ?_ ?_ rfl
    · rw [E_X9_ear, e1]; rfl
    · rw [E_X10_ear, lt_eq, m0_eq, e2 _ _ (by decide) ((bM_h w).trans hM1) (rS_m0 _), bnd_some, if_pos rfl]
  have hm := (hc.fr (m0_fr w).K).2.2.1
  have er := reached_ok (fu := 3000) (o := 0) hw hc.2.1 hh (by omega) (Nat.zero_testBit h) (by omega)
  have e0 : (2 ^ cH C - 1) &&& (0 ^^^ 127) = 2 ^ cH C - 1 := by
    have : ∀ H ≤ 7, (2 ^ H - 1) &&& (0 ^^^ 127) = 2 ^ H - 1 := by decide
    exact this _ h7
  rw [e0] at er
  have sl := sq_lt hw (2 ^ cH C - 1) hh (cH C)
  generalize hS : sq C (2 ^ cH C - 1) h (cH C) = S at er sl
  refine SIM_q hI (m0_fr w) (rS_m0 _) ⟨nI S, ?_, ?_⟩
  · rw [E_X9_ear, e1, bndT_inl, hr.1]
    rw [show (0 : Int32) = nI 0 from rfl, er, bnd_some]
  · rw [E_X10_ear, lt_eq, m0_eq, e2 _ _ ((m0_h w).trans hM1) (rS_m0 _), bnd_some, if_neg (by decide)]
    obtain ⟨x, n1, k1, k2⟩ := for_rel (F := fun n i (x : Nat) => f_X10_ear_20 3000 n 842 (nI h) (nI x) i (m0 w)) (N := cH C) (fun k x => x = S % 2 ^ k)
      (fun n k x hk p => by
        have hs := cmS_none hw (s := 2 ^ cH C - 1) (e := k) hh
        rw [hS] at hs
        have hmod : S % 2 ^ (k + 1) = S % 2 ^ k ||| (if S.testBit k = true then 2 ^ k else 0) := by
          apply Nat.eq_of_testBit_eq
          intro j
          rw [Nat.testBit_or, Nat.testBit_mod_two_pow, Nat.testBit_mod_two_pow]
          by_cases c1 : j = k
          · subst c1
            cases c2 : S.testBit j
            · simp
            · simp
          · have : (if S.testBit k = true then 2 ^ k else 0).testBit j = false := by
              split
              · rw [Nat.testBit_two_pow]
                exact decide_eq_false (fun e => c1 e.symm)
              · exact Nat.zero_testBit j
            rw [this, Bool.or_false]
            by_cases c3 : j < k
            · rw [decide_eq_true c3, decide_eq_true (show j < k + 1 by omega)]
            · rw [decide_eq_false c3, decide_eq_false (show ¬ j < k + 1 by omega)]
        show ∃ b, f_X10_ear_20 3000 (n + 1) 842 (nI h) (nI x) (nI k) (m0 w) = f_X10_ear_20 3000 n 842 (nI h) (nI b) (nI (k + 1)) (m0 w) ∧ _
        refine ⟨S % 2 ^ (k + 1), ?_, rfl⟩
        rw [E_X10_ear_20, hm.1, if_pos (by rw [nlt _ _ (by omega) (by omega)]; exact hk), all_M hw hm, bnd_some, comesTo_ok hw hm hh hk (by omega) (by omega), bnd_some, hmod, p, naddL]
        cases c2 : S.testBit k
        · rw [if_pos (hs.mpr c2), if_neg (by decide), lt_eq, show (0 : Int32) = nI 0 from rfl, nI_or]
        · rw [if_neg (fun h3 => by rw [hs.mp h3] at c2; cases c2), if_pos rfl, lt_eq, one_n (by omega), nI_or])
      (cH C) 3000 0 0 (by omega) (by omega) (by rw [Nat.pow_zero, Nat.mod_one])
    have k1 : f_X10_ear_20 3000 3000 842 (nI h) 0 0 (m0 w) = f_X10_ear_20 3000 (n1 + 1) 842 (nI h) (nI x) (nI (cH C)) (m0 w) := k1
    rw [k1, E_X10_ear_20, hm.1, if_neg (by rw [nlt _ _ (by omega) (by omega)]; omega), k2, Nat.mod_eq_of_lt sl]
theorem isStill_ok {fu : Nat} {w : MEM} {C : ACt} {c l m : Nat} (hw : WFc C) (hc : CLS w c l C) (hm : m < 128) (hfu : 200 ≤ fu) : f_X1_isStill fu c (nI m) w = some (if ∀ h < cH C, m.testBit h = true → m &&& frN C h = 0 then 1 else 0, w) := by
  have h7 := hw.1
  rw [E_X1_isStill]
  have key : ∀ q k n, k + q = cH C → q < n → f_X1_isStill_2 fu n c (nI m) (nI k) w = some (if ∀ h < cH C, k ≤ h → m.testBit h = true → m &&& frN C h = 0 then 1 else 0, w) := by
    intro q
    induction q with
    | zero =>
      intro k n hk hn
      obtain ⟨n, rfl⟩ : ∃ n', n = n' + 1 := ⟨n - 1, by omega⟩
      rw [E_X1_isStill_2, hc.1, if_neg (by rw [nlt _ _ (by omega) (by omega)]; omega), if_pos (fun h h1 h2 => by omega)]
    | succ q ih =>
      intro k n hk hn
      obtain ⟨n, rfl⟩ : ∃ n', n = n' + 1 := ⟨n - 1, by omega⟩
      have hf := (frS_n hw k).2
      have ha : m &&& frN C k < 128 := Nat.lt_of_le_of_lt Nat.and_le_left hm
      rw [E_X1_isStill_2, hc.1, if_pos (by rw [nlt _ _ (by omega) (by omega)]; omega), naddL, ih (k + 1) n (by omega) (by omega)]
      simp (disch := omega) only [bit_zero, bIn, rAn, decide_true, ck_tr, (show k < 7 by omega), hc.2.2.2.2.2.2.1 k (by omega), (frS_n hw k).1, nI_and, neqL]
      by_cases c1 : m.testBit k = true
      · rw [if_neg (by rw [c1]; decide)]
        by_cases c2 : m &&& frN C k = 0
        · rw [if_pos c2]
          have : (∀ h < cH C, k + 1 ≤ h → m.testBit h = true → m &&& frN C h = 0) ↔ (∀ h < cH C, k ≤ h → m.testBit h = true → m &&& frN C h = 0) := by
            constructor
            · intro H h h1 h2 h3
              by_cases e : h = k
              · subst e; exact c2
              · exact H h h1 (by omega) h3
            · intro H h h1 h2 h3
              exact H h h1 (by omega) h3
          simp only [this]
        · rw [if_neg c2, if_neg (fun H => c2 (H k (by omega) (Nat.le_refl _) c1))]
      · rw [if_pos (by simpa using c1)]
        have : (∀ h < cH C, k + 1 ≤ h → m.testBit h = true → m &&& frN C h = 0) ↔ (∀ h < cH C, k ≤ h → m.testBit h = true → m &&& frN C h = 0) := by
          constructor
          · intro H h h1 h2 h3
            by_cases e : h = k
            · subst e; exact absurd h3 c1
            · exact H h h1 (by omega) h3
          · intro H h h1 h2 h3
            exact H h h1 (by omega) h3
        simp only [this]
  have := key (cH C) 0 fu (by omega) (by omega)
  have e : (∀ h < cH C, 0 ≤ h → m.testBit h = true → m &&& frN C h = 0) ↔ (∀ h < cH C, m.testBit h = true → m &&& frN C h = 0) := by
    constructor
    · intro H h h1 h2
      exact H h h1 (Nat.zero_le _) h2
    · intro H h h1 _ h2
      exact H h h1 h2
  simp only [e] at this
  exact this
def stl (C : ACt) (k best : Nat) : Nat := if pc best < pc k then (if ∀ h < cH C, k.testBit h = true → k &&& frN C h = 0 then k else best) else best
theorem heard_0 {C : ACt} (m : Nat) : (lp (cH C) 0 (fun h b => if m.testBit h = true then b ||| frN C h else b ||| 0) 0) &&& m = 0 ↔ ∀ h < cH C, m.testBit h = true → m &&& frN C h = 0 := by
  have key : ∀ k, (lp k 0 (fun h b => if m.testBit h = true then b ||| frN C h else b ||| 0) 0) &&& m = 0 ↔ ∀ h < k, m.testBit h = true → m &&& frN C h = 0 := by
    intro k
    induction k with
    | zero =>
      constructor
      · intro _ h h1
        exact absurd h1 (Nat.not_lt_zero _)
      · intro _
        show 0 &&& m = 0
        exact Nat.zero_and m
    | succ k ih =>
      rw [lp_snoc, Nat.zero_add]
      generalize lp k 0 (fun h b => if m.testBit h = true then b ||| frN C h else b ||| 0) 0 = x at ih
      by_cases c : m.testBit k = true
      · rw [if_pos c, Nat.and_or_distrib_right, Nat.or_eq_zero_iff, ih, Nat.and_comm (frN C k) m]
        constructor
        · rintro ⟨h1, h2⟩ h h3 h4
          by_cases e : h = k
          · subst e; exact h2
          · exact h1 h (by omega) h4
        · intro H
          exact ⟨fun h h3 h4 => H h (by omega) h4, H k (by omega) c⟩
      · rw [if_neg c, Nat.or_zero, ih]
        constructor
        · intro H h h3 h4
          by_cases e : h = k
          · subst e; exact absurd h4 c
          · exact H h (by omega) h4
        · intro H h h3 h4
          exact H h (by omega) h4
  exact key (cH C)
theorem S_still {w : MEM} (hI : INV w) : SIMn (f_X9_still 3000 0) (f_X10_still 3000 842) w := by
  have h := hI
  obtain ⟨C, c, l, b, hr, hc, hk⟩ := h
  have hw := hc.1
  have h7 := hw.1
  have h128 := p7 h7
  have h1p := Nat.two_pow_pos (cH C)
  have hm := (hc.fr (m0_fr w).K).2.2.1
  have stl_lt : ∀ k p, k < 2 ^ cH C → p < 2 ^ cH C → stl C k p < 2 ^ cH C := by
    intro k p hk hp
    unfold stl
    split
    · split
      · exact hk
      · exact hp
    · exact hp
  refine ⟨nI (lp (2 ^ cH C) 0 (stl C) 0), w, m0 w, ?_, ?_, hI.fr (m0_fr w)⟩
  · rw [E_X9_still]
    exact (for_lp (F := fun n x b => f_X9_still_4 3000 n 0 (nI b) x w) (N := 2 ^ cH C) (fin := fun b => some (nI b, w)) (step := stl C) (fun _ b => b < 2 ^ cH C)
      (fun n k p hk hp => by
        refine ⟨?_, stl_lt k p hk hp⟩
        show f_X9_still_4 3000 (n + 1) 0 (nI p) (nI k) w = _
        have l1 := pc_lt k (by omega)
        have l2 := pc_lt p (by omega)
        rw [E_X9_still_4, hr.1, all_C hw hc.2.1, bnd_some, if_neg (by rw [nlt _ _ (by omega) (by omega)]; omega), bitCount_ok _ (by omega), bnd_some, bitCount_ok _ (by omega), bnd_some, hr.1, isStill_ok hw hc.2.1 (by omega) (by omega), bnd_some, naddL]
        simp (disch := omega) only [nlt]
        unfold stl
        by_cases c1 : pc p < pc k
        · rw [if_pos c1, if_pos c1]
          by_cases c2 : ∀ h < cH C, k.testBit h = true → k &&& frN C h = 0
          · rw [if_pos c2, if_pos c2, if_neg (by decide)]
          · rw [if_neg c2, if_neg c2, if_pos rfl]
        · rw [if_neg c1, if_neg c1])
      (fun n p _ => by
        show f_X9_still_4 3000 (n + 1) 0 (nI p) (nI (2 ^ cH C)) w = _
        rw [E_X9_still_4, hr.1, all_C hw hc.2.1, bnd_some, if_pos (by rw [nlt _ _ (by omega) (by omega)]; omega)])
      (2 ^ cH C) 3000 0 0 (by omega) (by omega) h1p).1
  · rw [E_X10_still, lt_eq, m0_eq]
    exact (for_lp (F := fun n x b => f_X10_still_9 3000 n 842 (nI b) x (m0 w)) (N := 2 ^ cH C) (fin := fun b => some (nI b, m0 w)) (step := stl C) (fun _ b => b < 2 ^ cH C)
      (fun n k p hk hp => by
        refine ⟨?_, stl_lt k p hk hp⟩
        show f_X10_still_9 3000 (n + 1) 842 (nI p) (nI k) (m0 w) = _
        have l1 := pc_lt k (by omega)
        have l2 := pc_lt p (by omega)
        rw [E_X10_still_9, hm.1, shl_n _ h7, if_pos (by rw [nlt _ _ (by omega) (by omega)]; omega)]
        have e := for_lp0 (F := fun q x b => f_X10_still_24 3000 (fun l0 l1 l2 w => f_X10_still_9 3000 n l0 l1 l2 w) q 842 (nI p) (nI k) (nI b) x (m0 w)) (N := cH C) (fin := fun b => if b &&& k = 0 then (if pc p < pc k then f_X10_still_9 3000 n 842 (nI k) (nI (k + 1)) (m0 w) else f_X10_still_9 3000 n 842 (nI p) (nI (k + 1)) (m0 w)) else f_X10_still_9 3000 n 842 (nI p) (nI (k + 1)) (m0 w)) (step := fun h b => if k.testBit h = true then b ||| frN C h else b ||| 0)
          (fun q h b hh => by
            show f_X10_still_24 3000 _ (q + 1) 842 (nI p) (nI k) (nI b) (nI h) (m0 w) = _
            rw [E_X10_still_24, hm.1, if_pos (by rw [nlt _ _ (by omega) (by omega)]; omega), twosOf_M hw hm (by omega) (by omega), bnd_some, (frS_n hw h).1, lt_eq, lt_eq, show (0 : Int32) = nI 0 from rfl, nI_or, nI_or, naddL]
            simp (disch := omega) only [bit_one]
            split <;> rfl)
          (fun q b => by
            show f_X10_still_24 3000 _ (q + 1) 842 (nI p) (nI k) (nI b) (nI (cH C)) (m0 w) = _
            have hb : b &&& k < 128 := Nat.lt_of_le_of_lt Nat.and_le_right (by omega)
            rw [E_X10_still_24, hm.1, if_neg (c := nI (cH C) < nI (cH C)) (by rw [nlt _ _ (by omega) (by omega)]; omega), nI_and, ones_ok (by omega) (by omega), bnd_some, ones_ok (by omega) (by omega), bnd_some, naddL]
            simp (disch := omega) only [nlt, neqL]) (n := 3000) (by omega) 0
        have e : f_X10_still_24 3000 (fun l0 l1 l2 w => f_X10_still_9 3000 n l0 l1 l2 w) 3000 842 (nI p) (nI k) 0 0 (m0 w) = _ := e
        rw [e]
        simp only [heard_0]
        unfold stl
        by_cases c2 : ∀ h < cH C, k.testBit h = true → k &&& frN C h = 0
        · rw [if_pos c2, if_pos c2]
          split <;> rfl
        · rw [if_neg c2, if_neg c2]
          split <;> rfl)
      (fun n p _ => by
        show f_X10_still_9 3000 (n + 1) 842 (nI p) (nI (2 ^ cH C)) (m0 w) = _
        rw [E_X10_still_9, hm.1, shl_n _ h7, if_neg (by rw [nlt _ _ (by omega) (by omega)]; omega)])
      (2 ^ cH C) 3000 0 0 (by omega) (by omega) h1p).1
theorem S_gossip (a : Int32) {w : MEM} (hI : INV w) : SIM KI (f_X9_gossip 3000 0 a) (f_X10_gossip 3000 842 a) w := by
  rcases wit 3000 a (lo := 0) (hi := 1) 0 1 rfl rfl (by omega) (by omega) with ⟨e1, e2⟩ | ⟨j, h1, h2, rfl, e1, e2⟩
  · refine SIM_W hI 1 ?_ ?_ rfl
    · rw [E_X9_gossip, e1]; rfl
    · rw [E_X10_gossip, lt_eq, m0_eq, e2, bnd_some, may_W 3000 (by decide) (rS_m0 _), bnd_some, if_pos rfl]
  have h := hI
  obtain ⟨C, c, l, b, hr, hc, hk⟩ := h
  have hw := hc.1
  have h7 := hw.1
  have h12 := hw.2.2.2.1
  have hm := (hc.fr (m0_fr w).K).2.2.1
  obtain ⟨g, hg⟩ : ∃ g : Nat → Nat, g = fun h => pc (frN C h) := ⟨_, rfl⟩
  have g7 : ∀ h, g h ≤ 7 := by
    intro h
    rw [hg]
    exact pc_lt _ (frS_n hw h).2
  have hfr : ∀ h < cH C, f_X1_friendsOf 3000 c (nI h) w = some (nI (g h), w) := by
    intro h hh
    rw [E_X1_friendsOf]
    simp (disch := omega) only [bIn, rAn, decide_true, ck_tr, (show h < 7 by omega), hc.2.1.2.2.2.2.2.2.1 h (by omega), (frS_n hw h).1, bitCount_ok 3000 (frS_n hw h).2, bnd_some]
    rw [hg]
  have hml : f_X10_gossip_29 3000 3000 842 (nI j) (-1) 0 0 (m0 w) = some (if j = 0 then (ams g (cH C)).1 else if (ams g (cH C)).1 = -1 then (ams g (cH C)).1 else (ams g (cH C)).2, m0 w) := by
    have e := for_lp0 (F := fun n i (s : Int32 × Int32) => f_X10_gossip_29 3000 n 842 (nI j) s.1 s.2 i (m0 w)) (N := cH C) (step := fun k s => if s.2 < nI (g k) then (nI k, nI (g k)) else s) (fin := fun s => some (if j = 0 then s.1 else if s.1 = -1 then s.1 else s.2, m0 w))
      (fun n k s hk => by
        show f_X10_gossip_29 3000 (n + 1) 842 (nI j) s.1 s.2 (nI k) (m0 w) = _
        have e9 : nI (pc (frN C k)) = nI (g k) := by rw [hg]
        rw [E_X10_gossip_29, hm.1, if_pos (by rw [nlt _ _ (by omega) (by omega)]; omega), twosOf_M hw hm (by omega) (by omega), bnd_some, (frS_n hw k).1, ones_ok (frS_n hw k).2 (by omega), bnd_some, twosOf_M hw hm (by omega) (by omega), bnd_some, (frS_n hw k).1, ones_ok (frS_n hw k).2 (by omega), bnd_some, e9, naddL]
        split <;> rfl)
      (fun n s => by
        show f_X10_gossip_29 3000 (n + 1) 842 (nI j) s.1 s.2 (nI (cH C)) (m0 w) = _
        rw [E_X10_gossip_29, hm.1, if_neg (by rw [nlt _ _ (by omega) (by omega)]; omega)]
        simp (disch := omega) only [neqL]
        split
        · rfl
        · split <;> rfl) (n := 3000) (by omega) (-1, 0)
    exact e
  have hX : f_X9_gossip 3000 0 (nI j) w = _ := (E_X9_gossip _ _ _ _).trans (by rw [e1, bndT_inl, hr.1, hc.2.1.2.2.2.2.1])
  have hM : f_X10_gossip 3000 842 (nI j) w = _ := (E_X10_gossip _ _ _ _).trans (by rw [lt_eq, m0_eq, e2, bnd_some, may_1 3000 _ _ (rS_m0 _), bnd_some, if_neg (by decide), hml])
  simp (disch := omega) only [neqL] at hX
  refine SIM_q hI (m0_fr w) (rS_m0 _) ?_
  by_cases c0 : cT C = 0
  · rw [if_pos c0] at hX
    have gz : ∀ h, g h = 0 := by
      intro h
      rw [hg]
      show pc (frN C h) = 0
      have : frN C h = 0 := by
        unfold frN
        rw [c0]
        rfl
      rw [this]
      decide
    have e5 := ams_eq (g := g) (fun j => by have := g7 j; omega) (cH C) (fun _ => gz 0)
    rw [e5] at hM
    simp only at hM
    rw [if_pos (gz _)] at hM
    refine ⟨_, hX, hM.trans ?_⟩
    split
    · rfl
    · rw [if_pos rfl]
  · rw [if_neg c0] at hX
    obtain ⟨p1, p2, p3⟩ := hw.2.2.2.2.1 0 (by omega)
    have hpos : 0 < g (cTa C 0) := by
      rw [hg]
      show 0 < pc (frN C (cTa C 0))
      have hb : (frN C (cTa C 0)).testBit (cTb C 0) = true := (frN_bit _ _).mpr ⟨0, by omega, Or.inl ⟨rfl, rfl⟩⟩
      have : ∀ m < 128, m ≠ 0 → 0 < pc m := by decide +kernel
      refine this _ (frS_n hw _).2 (fun e => ?_)
      rw [e, Nat.zero_testBit] at hb
      cases hb
    have hmax := am_max g (cH C) _ p1
    have lam : am g (cH C) < cH C := by
      have := am_lt g (cH C - 1)
      rw [show cH C - 1 + 1 = cH C by omega] at this
      omega
    have e5 := ams_eq (g := g) (fun j => by have := g7 j; omega) (cH C) (fun c => by omega)
    have l9 := g7 (am g (cH C))
    have sC := (for_lp (F := fun n i p => f_X9_gossip_23 3000 n 0 (nI j) (nI p) i w) (N := cH C) (step := fun j p => if g p < g j then j else p) (fin := fun p => some (.inl (if j = 0 then nI p else nI (g p)), w)) (fun _ p => p < cH C)
      (fun n k p hk hp => by
        refine ⟨?_, ?_⟩
        · show f_X9_gossip_23 3000 (n + 1) 0 (nI j) (nI p) (nI k) w = _
          have q1 := g7 k
          have q2 := g7 p
          rw [E_X9_gossip_23, hr.1, hc.2.1.1, if_pos (by rw [nlt _ _ (by omega) (by omega)]; omega), hfr k hk, bnd_some, hr.1, hfr p hp, bnd_some, naddL]
          simp (disch := omega) only [nlt]
          split <;> rfl
        · show (if g p < g k then k else p) < cH C
          split <;> omega)
      (fun n p hp => by
        show f_X9_gossip_23 3000 (n + 1) 0 (nI j) (nI p) (nI (cH C)) w = _
        rw [E_X9_gossip_23, hr.1, hc.2.1.1, if_neg (by rw [nlt _ _ (by omega) (by omega)]; omega), hfr p hp, bnd_some]
        simp (disch := omega) only [neqL]
        split <;> rfl)
      (cH C - 1) 3000 1 0 (by omega) (by omega) (by omega)).1
    rw [am_1, show cH C - 1 + 1 = cH C by omega] at sC
    rw [e5] at hM
    simp only at hM
    rw [if_neg (c := g (am g (cH C)) = 0) (by omega)] at hM
    refine ⟨_, hX.trans sC, hM.trans ?_⟩
    by_cases c2 : j = 0
    · rw [if_pos c2, if_pos c2]
    · rw [if_neg c2, if_neg c2, if_neg]
      intro c3
      have : ¬ nI (am g (cH C)) < 0 := nI_pos (by omega)
      rw [c3] at this
      exact this (by decide)
/-! whom to hush -/
abbrev gd (C : ACt) (a e k : Nat) : Prop := k.testBit a = false ∧ k.testBit e = false ∧ (sq C ((2 ^ cH C - 1) &&& (k ^^^ 127)) a (cH C)).testBit e = false
theorem S_hush (a a2 : Int32) {w : MEM} (hI : INV w) : SIM KB (f_X9_hush 3000 0 a a2) (f_X10_hush 3000 842 a a2) w := by
  have h := hI
  obtain ⟨C, c, l, b, hr, hc, hk⟩ := h
  have hw := hc.1
  have h7 := hw.1
  have h128 := p7 h7
  have h1p := Nat.two_pow_pos (cH C)
  have hM1 := hc.2.2.1.1
  rcases witH (fu := 3000) a hw hr.1 hc.2.1.1 with ⟨e1, e2⟩ | ⟨h, hh, rfl, e1, e2⟩
  · refine SIM_M hI 1 ?_ ?_ rfl
    · rw [E_X9_hush, e1]; rfl
    · rw [E_X10_hush, lt_eq, m0_eq, e2 _ _ (by decide) ((bM_h w).trans hM1) (rS_m0 _), bnd_some, if_pos rfl]
  rcases witH (fu := 3000) a2 hw hr.1 hc.2.1.1 with ⟨e3, e4⟩ | ⟨o, ho, rfl, e3, e4⟩
  · refine SIM_M hI 1 ?_ ?_ rfl
    · rw [E_X9_hush, e1, bndT_inl, e3]; rfl
    · rw [E_X10_hush, lt_eq, m0_eq, e2 _ _ ((bM_h w).trans hM1) (rS_m0 _), bnd_some, if_neg (by decide), e4 _ _ (by decide) ((bM_h w).trans hM1) (rS_m0 _), bnd_some, if_pos rfl]
  by_cases ceq : nI h = nI o
  · refine SIM_W hI 2 ?_ ?_ rfl
    · rw [E_X9_hush, e1, bndT_inl, e3, bndT_inl, if_pos ceq, E_X9_need, if_pos rfl]; rfl
    · rw [E_X10_hush, lt_eq, m0_eq, e2 _ _ ((bW_h w).trans hM1) (rS_m0 _), bnd_some, if_neg (by decide), e4 _ _ ((bW_h w).trans hM1) (rS_m0 _), bnd_some, if_neg (by decide), if_pos ceq, may_W 3000 (by decide) (rS_m0 _), bnd_some, if_pos rfl]
  have hne : h ≠ o := fun e => ceq (by rw [e])
  have hm := (hc.fr (m0_fr w).K).2.2.1
  have f7 := (frS_n hw h).2
  have hX : f_X9_hush 3000 0 (nI h) (nI o) w = (if (frN C h).testBit o = true then some (.inl (-1), w) else f_X9_hush_62 3000 3000 0 (nI h) (nI o) (nI (2 ^ h ||| 2 ^ o)) (nI ((2 ^ cH C - 1) &&& ((2 ^ h ||| 2 ^ o) ^^^ 127))) (nI 0) w) := by
    have eo : 2 ^ h ||| 2 ^ o < 2 ^ cH C := or_H (pj hh) (pj ho)
    rw [E_X9_hush, e1, bndT_inl, e3, bndT_inl, if_neg ceq, E_X9_need, if_neg (by decide), bndT_inl, hr.1, E_X1_areTwo]
    simp (disch := omega) only [bIn, rAn, decide_true, ck_tr, (show h < 7 by omega), hc.2.1.2.2.2.2.2.2.1 h (by omega), (frS_n hw h).1, bit_zero]
    cases c2 : (frN C h).testBit o
    · rw [if_pos rfl, bnd_some, if_pos rfl, lt_eq, hr.1, all_C hw hc.2.1, bnd_some, lt_eq, one_n (by omega), one_n (by omega), nI_or, xor_m (by omega) (by omega), if_neg (by decide)]
      rfl
    · rw [if_neg (by decide), bnd_some, if_neg (by decide), if_pos rfl]
  have hM : f_X10_hush 3000 842 (nI h) (nI o) w = f_X10_hush_46 3000 3000 842 (nI h) (nI o) (nI 0) (m0 w) := by
    rw [E_X10_hush, lt_eq, m0_eq, e2 _ _ ((m0_h w).trans hM1) (rS_m0 _), bnd_some, if_neg (by decide), e4 _ _ ((m0_h w).trans hM1) (rS_m0 _), bnd_some, if_neg (by decide), if_neg ceq, may_1 3000 _ _ (rS_m0 _), bnd_some, if_neg (by decide)]
    rfl
  -- the model's inner loop
  have inner : ∀ (n many : Nat), many < 8 → ∀ (m k q : Nat), k + m = 2 ^ cH C → m < q →
      ((∃ r, k ≤ r ∧ r < 2 ^ cH C ∧ pc r = many ∧ gd C h o r ∧ (∀ j, k ≤ j → j < r → ¬ (pc j = many ∧ gd C h o j)) ∧ f_X10_hush_57 3000 (fun l0 l1 l2 l3 w => f_X10_hush_46 3000 n l0 l1 l2 l3 w) q 842 (nI h) (nI o) (nI many) (nI k) (m0 w) = some (nI r, m0 w)) ∨
      ((∀ j, k ≤ j → j < 2 ^ cH C → ¬ (pc j = many ∧ gd C h o j)) ∧ f_X10_hush_57 3000 (fun l0 l1 l2 l3 w => f_X10_hush_46 3000 n l0 l1 l2 l3 w) q 842 (nI h) (nI o) (nI many) (nI k) (m0 w) = f_X10_hush_46 3000 n 842 (nI h) (nI o) (nI (many + 1)) (m0 w))) := by
    intro n many hmany m
    induction m with
    | zero =>
      intro k q hk hq
      obtain ⟨q, rfl⟩ : ∃ n', q = n' + 1 := ⟨q - 1, by omega⟩
      right
      refine ⟨fun j h1 h2 => by omega, ?_⟩
      rw [E_X10_hush_57, hm.1, shl_n _ h7, if_neg (by rw [nlt _ _ (by omega) (by omega)]; omega), naddL]
    | succ m ih =>
      intro k q hk hq
      obtain ⟨q, rfl⟩ : ∃ n', q = n' + 1 := ⟨q - 1, by omega⟩
      have hpk := pc_lt k (by omega)
      have es : f_X10_hush_57 3000 (fun l0 l1 l2 l3 w => f_X10_hush_46 3000 n l0 l1 l2 l3 w) (q + 1) 842 (nI h) (nI o) (nI many) (nI k) (m0 w) = if pc k = many ∧ gd C h o k then some (nI k, m0 w) else f_X10_hush_57 3000 (fun l0 l1 l2 l3 w => f_X10_hush_46 3000 n l0 l1 l2 l3 w) q 842 (nI h) (nI o) (nI many) (nI (k + 1)) (m0 w) := by
        rw [E_X10_hush_57, hm.1, shl_n _ h7, if_pos (by rw [nlt _ _ (by omega) (by omega)]; omega), ones_ok (by omega) (by omega), bnd_some, all_M hw hm, bnd_some, xor_m (by omega) (by omega), comesTo_ok hw hm hh ho (Nat.lt_of_le_of_lt Nat.and_le_left (by omega)) (by omega), bnd_some, naddL]
        simp (disch := omega) only [neqI, bit_one0]
        unfold gd
        by_cases c1 : pc k = many
        · rw [if_pos c1]
          by_cases c2 : k.testBit h = false
          · rw [if_pos c2]
            by_cases c3 : k.testBit o = false
            · rw [if_pos c3]
              have hs := cmS_none hw (s := (2 ^ cH C - 1) &&& (k ^^^ 127)) (e := o) hh
              by_cases c4 : (sq C ((2 ^ cH C - 1) &&& (k ^^^ 127)) h (cH C)).testBit o = false
              · rw [if_pos (hs.mpr c4), if_pos ⟨c1, c2, c3, c4⟩]
              · rw [if_neg (fun e => c4 (hs.mp e)), if_neg (fun e => c4 e.2.2.2)]
            · rw [if_neg c3, if_neg (fun e => c3 e.2.2.1)]
          · rw [if_neg c2, if_neg (fun e => c2 e.2.1)]
        · rw [if_neg c1, if_neg (fun e => c1 e.1)]
      by_cases cg : pc k = many ∧ gd C h o k
      · left
        exact ⟨k, Nat.le_refl _, by omega, cg.1, cg.2, fun j h1 h2 => by omega, by rw [es, if_pos cg]⟩
      · rw [if_neg cg] at es
        rcases ih (k + 1) q (by omega) (by omega) with ⟨r, r1, r2, r3, r4, r5, r6⟩ | ⟨r1, r2⟩
        · left
          refine ⟨r, by omega, r2, r3, r4, fun j h1 h2 => ?_, es.trans r6⟩
          by_cases e : j = k
          · subst e; exact cg
          · exact r5 j (by omega) h2
        · right
          refine ⟨fun j h1 h2 => ?_, es.trans r2⟩
          by_cases e : j = k
          · subst e; exact cg
          · exact r1 j (by omega) h2
  by_cases cT2 : (frN C h).testBit o = true
  · -- they are a two
    rw [if_pos cT2] at hX
    have nog : ∀ k, k < 2 ^ cH C → ¬ gd C h o k := by
      rintro k hk ⟨g1, g2, g3⟩
      have hs : ((2 ^ cH C - 1) &&& (k ^^^ 127)).testBit o = true := by
        rw [Nat.testBit_and, Nat.testBit_xor, g2, Nat.testBit_two_pow_sub_one]
        have : ∀ a < 7, (127 : Nat).testBit a = true := by decide
        rw [this o (by omega), decide_eq_true ho]
        rfl
      have h0 : (sq C ((2 ^ cH C - 1) &&& (k ^^^ 127)) h 1).testBit o = true := by
        rw [sq_s]
        refine spr_add _ hh ?_ cT2 hs
        show (2 ^ h).testBit h = true
        rw [Nat.testBit_two_pow]
        exact decide_eq_true rfl
      have := sq_mono (C := C) ((2 ^ cH C - 1) &&& (k ^^^ 127)) h (n := 1) (cH C - 1) o h0
      rw [show 1 + (cH C - 1) = cH C by omega, g3] at this
      cases this
    refine SIM_q hI (m0_fr w) (rS_m0 _) ⟨-1, hX, hM.trans ?_⟩
    have key : ∀ m k n, k + m = cH C → m < n → f_X10_hush_46 3000 n 842 (nI h) (nI o) (nI k) (m0 w) = some (-1, m0 w) := by
      intro m
      induction m with
      | zero =>
        intro k n hk hn
        obtain ⟨n, rfl⟩ : ∃ n', n = n' + 1 := ⟨n - 1, by omega⟩
        rw [E_X10_hush_46, hm.1, if_neg (by rw [nlt _ _ (by omega) (by omega)]; omega)]
      | succ m ih =>
        intro k n hk hn
        obtain ⟨n, rfl⟩ : ∃ n', n = n' + 1 := ⟨n - 1, by omega⟩
        rw [E_X10_hush_46, hm.1, if_pos (by rw [nlt _ _ (by omega) (by omega)]; omega)]
        rcases inner n k (by omega) (2 ^ cH C) 0 3000 (by omega) (by omega) with ⟨r, r1, r2, r3, r4, r5, r6⟩ | ⟨r1, r2⟩
        · exact absurd r4 (nog r r2)
        · exact r2.trans (ih (k + 1) n (by omega) (by omega))
    exact key (cH C) 0 3000 (by omega) (by omega)
  · rw [if_neg cT2] at hX
    have cT2 : (frN C h).testBit o = false := by simpa using cT2
    have t7 : ∀ a < 7, (127 : Nat).testBit a = true := by decide
    generalize hb0 : (2 ^ cH C - 1) &&& ((2 ^ h ||| 2 ^ o) ^^^ 127) = b0 at hX
    have b0l : b0 < 2 ^ cH C := by rw [← hb0]; exact Nat.lt_of_le_of_lt Nat.and_le_left (by omega)
    have b0b : ∀ j, b0.testBit j = true ↔ j < cH C ∧ j ≠ h ∧ j ≠ o := by
      intro j
      rw [← hb0, Nat.testBit_and, Nat.testBit_xor, Nat.testBit_or, Nat.testBit_two_pow, Nat.testBit_two_pow, Nat.testBit_two_pow_sub_one]
      by_cases c1 : j < cH C
      · rw [t7 j (by omega), decide_eq_true c1]
        by_cases c2 : h = j
        · simp [c2]
        · by_cases c3 : o = j
          · simp [c3]
          · simp [c1, c2, c3, Ne.symm c2, Ne.symm c3]
      · rw [decide_eq_false c1]
        simp [c1]
    have b0g : gd C h o b0 := by
      refine ⟨?_, ?_, ?_⟩
      · cases e : b0.testBit h
        · rfl
        · exact absurd rfl ((b0b h).mp e).2.1
      · cases e : b0.testBit o
        · rfl
        · exact absurd rfl ((b0b o).mp e).2.2
      · have fx : ∀ n, sq C ((2 ^ cH C - 1) &&& (b0 ^^^ 127)) h n = 2 ^ h := by
          intro n
          induction n with
          | zero => rfl
          | succ n ih =>
            rw [sq_s, ih]
            apply Nat.eq_of_testBit_eq
            intro j
            cases e : (2 ^ h).testBit j
            · cases e2 : (spr C ((2 ^ cH C - 1) &&& (b0 ^^^ 127)) (2 ^ h)).testBit j
              · rfl
              · exfalso
                rcases spr_in _ e2 with e3 | ⟨q, q1, q2, q3⟩
                · rw [e] at e3; cases e3
                · rw [Nat.testBit_two_pow] at q1
                  have q1 : h = q := of_decide_eq_true q1
                  subst q1
                  rw [Nat.testBit_and, Nat.testBit_xor, Nat.testBit_two_pow_sub_one] at q3
                  obtain ⟨q4, q5⟩ := and_t q3
                  have q4 : j < cH C := of_decide_eq_true q4
                  rw [t7 j (by omega)] at q5
                  have q6 : b0.testBit j = false := by
                    cases e9 : b0.testBit j
                    · rfl
                    · rw [e9] at q5; cases q5
                  by_cases c8 : j = h
                  · subst c8
                    obtain ⟨e7, e8, e9⟩ := (frN_bit _ _).mp q2
                    have := (hw.2.2.2.2.1 e7 e8).2.2
                    rcases e9 with ⟨x1, x2⟩ | ⟨x1, x2⟩
                    · exact this (x1.trans x2.symm)
                    · exact this (x2.trans x1.symm)
                  · by_cases c9 : j = o
                    · subst c9
                      rw [cT2] at q2; cases q2
                    · rw [(b0b j).mpr ⟨q4, c8, c9⟩] at q6; cases q6
            · exact spr_sub _ _ j e
        rw [fx, Nat.testBit_two_pow]
        exact decide_eq_false hne
    have b0u : ∀ k, k < 2 ^ cH C → k.testBit h = false → k.testBit o = false → k ≠ b0 → pc k < pc b0 := by
      intro k hk g1 g2 g3
      refine pc_sub k (by omega) b0 (by omega) (sub_and ?_) g3
      intro j hj
      refine (b0b j).mpr ⟨tb_H hk hj, ?_, ?_⟩
      · rintro rfl; rw [g1] at hj; cases hj
      · rintro rfl; rw [g2] at hj; cases hj
    have ends : ∀ k, k < 128 → ((nI k &&& nI (2 ^ h ||| 2 ^ o) = 0) = (k.testBit h = false ∧ k.testBit o = false)) := by
      intro k hk
      have hl : k &&& (2 ^ h ||| 2 ^ o) < 128 := Nat.lt_of_le_of_lt Nat.and_le_left hk
      rw [nI_and, neqL _ _ (by omega) (by omega)]
      apply propext
      constructor
      · intro e
        refine ⟨?_, ?_⟩
        · cases c : k.testBit h
          · rfl
          · have : (k &&& (2 ^ h ||| 2 ^ o)).testBit h = true := by
              rw [Nat.testBit_and, Nat.testBit_or, c, Nat.testBit_two_pow, decide_eq_true rfl]; rfl
            rw [e, Nat.zero_testBit] at this
            cases this
        · cases c : k.testBit o
          · rfl
          · have : (k &&& (2 ^ h ||| 2 ^ o)).testBit o = true := by
              rw [Nat.testBit_and, Nat.testBit_or, c, Nat.testBit_two_pow, Nat.testBit_two_pow, decide_eq_true (p := o = o) rfl, Bool.or_true]; rfl
            rw [e, Nat.zero_testBit] at this
            cases this
      · rintro ⟨g1, g2⟩
        apply Nat.eq_of_testBit_eq
        intro j
        rw [Nat.testBit_and, Nat.testBit_or, Nat.testBit_two_pow, Nat.testBit_two_pow, Nat.zero_testBit]
        by_cases c1 : h = j
        · subst c1; rw [g1]; rfl
        · by_cases c2 : o = j
          · subst c2; rw [g2]; rfl
          · simp [c1, c2]
    obtain ⟨R, n1, k1, r1, r2, r3, r4⟩ := for_rel (F := fun n i (p : Nat) => f_X9_hush_62 3000 n 0 (nI h) (nI o) (nI (2 ^ h ||| 2 ^ o)) (nI p) i w) (N := 2 ^ cH C) (fun k p => p < 2 ^ cH C ∧ gd C h o p ∧ (p < k ∨ p = b0) ∧ ∀ j, j < k → gd C h o j → pc p < pc j ∨ (pc p = pc j ∧ p ≤ j))
      (fun n k p hk q => by
        obtain ⟨q1, q2, q3, q4⟩ := q
        have hpk := pc_lt k (by omega)
        have hpp := pc_lt p (by omega)
        have es : f_X9_hush_62 3000 (n + 1) 0 (nI h) (nI o) (nI (2 ^ h ||| 2 ^ o)) (nI p) (nI k) w = f_X9_hush_62 3000 n 0 (nI h) (nI o) (nI (2 ^ h ||| 2 ^ o)) (if pc k < pc p ∧ gd C h o k then nI k else nI p) (nI (k + 1)) w := by
          rw [E_X9_hush_62, hr.1, all_C hw hc.2.1, bnd_some, if_neg (by rw [nlt _ _ (by omega) (by omega)]; omega), bitCount_ok _ (by omega), bnd_some, bitCount_ok _ (by omega), bnd_some, hr.1, naddL]
          simp (disch := omega) only [ends k (by omega), nlt]
          unfold gd
          by_cases c1 : k.testBit h = false ∧ k.testBit o = false
          · rw [if_pos c1]
            by_cases c2 : pc k < pc p
            · rw [if_pos c2, reached_ok hw hc.2.1 hh (by omega) c1.1 (by omega), bnd_some]
              have sl := sq_lt hw ((2 ^ cH C - 1) &&& (k ^^^ 127)) hh (cH C)
              simp (disch := omega) only [bit_zero]
              by_cases c3 : (sq C ((2 ^ cH C - 1) &&& (k ^^^ 127)) h (cH C)).testBit o = false
              · rw [if_pos c3, if_pos ⟨c2, c1.1, c1.2, c3⟩]
              · rw [if_neg c3, if_neg (fun e => c3 e.2.2.2)]
            · rw [if_neg c2, if_neg (fun e => c2 e.1)]
          · rw [if_neg c1, if_neg (fun e => c1 ⟨e.2.1, e.2.2.1⟩)]
        by_cases cg : pc k < pc p ∧ gd C h o k
        · rw [if_pos cg] at es
          refine ⟨k, es, hk, cg.2, Or.inl (by omega), fun j h1 h2 => ?_⟩
          by_cases e : j = k
          · subst e; exact Or.inr ⟨rfl, Nat.le_refl _⟩
          · left
            rcases q4 j (by omega) h2 with h3 | ⟨h3, _⟩ <;> omega
        · rw [if_neg cg] at es
          refine ⟨p, es, q1, q2, q3.elim (fun e => Or.inl (by omega)) Or.inr, fun j h1 h2 => ?_⟩
          by_cases e : j = k
          · subst e
            have hn : ¬ pc j < pc p := fun e => cg ⟨e, h2⟩
            by_cases c5 : pc p < pc j
            · exact Or.inl c5
            · right
              refine ⟨by omega, ?_⟩
              rcases q3 with e | e
              · omega
              · by_cases c6 : j = b0
                · omega
                · have := b0u j hk h2.1 h2.2.1 c6
                  rw [← e] at this
                  exact absurd this hn
          · exact q4 j (by omega) h2)
      (2 ^ cH C) 3000 0 b0 (by omega) (by omega) ⟨b0l, b0g, Or.inr rfl, fun j h1 => absurd h1 (Nat.not_lt_zero _)⟩
    have k2 : f_X9_hush_62 3000 (n1 + 1) 0 (nI h) (nI o) (nI (2 ^ h ||| 2 ^ o)) (nI R) (nI (2 ^ cH C)) w = some (.inl (nI R), w) := by
      rw [E_X9_hush_62, hr.1, all_C hw hc.2.1, bnd_some, if_pos (by rw [nlt _ _ (by omega) (by omega)]; omega)]
    refine SIM_q hI (m0_fr w) (rS_m0 _) ⟨nI R, hX.trans (k1.trans k2), hM.trans ?_⟩
    have hR : pc R < cH C := by
      have q1 := pc_H (cH C) h7 R r1
      rcases Nat.lt_or_ge (pc R) (cH C) with c | c
      · exact c
      · exfalso
        have ha : 2 ^ cH C - 1 < 2 ^ cH C := by omega
        have : pc R < pc (2 ^ cH C - 1) := by
          refine pc_sub R (by omega) _ (by omega) (sub_and ?_) ?_
          · intro j hj
            rw [Nat.testBit_two_pow_sub_one]
            exact decide_eq_true (tb_H r1 hj)
          · intro e
            have : R.testBit h = true := by
              rw [e, Nat.testBit_two_pow_sub_one]
              exact decide_eq_true hh
            rw [r2.1] at this
            cases this
        have q2 := pc_H (cH C) h7 _ ha
        omega
    have key : ∀ m k n, k + m = pc R → m < n → f_X10_hush_46 3000 n 842 (nI h) (nI o) (nI k) (m0 w) = some (nI R, m0 w) := by
      intro m
      induction m with
      | zero =>
        intro k n hk hn
        obtain ⟨n, rfl⟩ : ∃ n', n = n' + 1 := ⟨n - 1, by omega⟩
        have hk : k = pc R := by omega
        subst hk
        rw [E_X10_hush_46, hm.1, if_pos (by rw [nlt _ _ (by omega) (by omega)]; omega)]
        rcases inner n (pc R) (by omega) (2 ^ cH C) 0 3000 (by omega) (by omega) with ⟨r, x1, x2, x3, x4, x5, x6⟩ | ⟨x1, x2⟩
        · have : r = R := by
            rcases r4 r x2 x4 with e | ⟨e, e2⟩
            · omega
            · rcases Nat.lt_or_ge R r with c | c
              · exact absurd ⟨rfl, r2⟩ (x5 R (Nat.zero_le _) c)
              · omega
          rw [← this]
          rw [this] at x6 ⊢
          exact x6
        · exact absurd ⟨rfl, r2⟩ (x1 R (Nat.zero_le _) r1)
      | succ m ih =>
        intro k n hk hn
        obtain ⟨n, rfl⟩ : ∃ n', n = n' + 1 := ⟨n - 1, by omega⟩
        rw [E_X10_hush_46, hm.1, if_pos (by rw [nlt _ _ (by omega) (by omega)]; omega)]
        rcases inner n k (by omega) (2 ^ cH C) 0 3000 (by omega) (by omega) with ⟨r, x1, x2, x3, x4, x5, x6⟩ | ⟨x1, x2⟩
        · exfalso
          rcases r4 r x2 x4 with e | ⟨e, e2⟩ <;> omega
        · exact x2.trans (ih (k + 1) n (by omega) (by omega))
    exact key (pc R) 0 3000 (by omega) (by omega)
