theorem held_C {β : Type} (fu : Nat) (v : Int32) (w : MEM) (k : Int32 → MEM → Option β) : (bnd (f_J9_min_7cf53 fu (99 : Int32) v w) fun (x6 : Int32) (w5 : MEM) => bnd (f_J9_max_7cf53 fu (0 : Int32) x6 w5) k) = k (heldS v) w := by
  rw [E_J9_min_7cf53]
  unfold heldS
  by_cases h : v < 99
  · rw [if_pos h, bnd_some, E_J9_max_7cf53]
    have h9 : ¬ (99 : Int32) < v := fun c => absurd (Int32.lt_iff_toInt_lt.mp h) (by have := Int32.lt_iff_toInt_lt.mp c; omega)
    by_cases h2 : (0 : Int32) < v
    · rw [if_pos h2, bnd_some, if_neg (fun c => absurd (Int32.lt_iff_toInt_lt.mp h2) (by have := Int32.lt_iff_toInt_lt.mp c; omega)), if_neg h9]
    · rw [if_neg h2, bnd_some]
      by_cases h3 : v < 0
      · rw [if_pos h3]
      · rw [if_neg h3, if_neg h9]
        have : v = 0 := by
          apply Int32.toInt_inj.mp
          rw [Int32.lt_iff_toInt_lt] at h2 h3
          omega
        rw [this]
  · rw [if_neg h, bnd_some, E_J9_max_7cf53, if_pos (by decide), bnd_some]
    rw [Int32.lt_iff_toInt_lt] at h
    have e40 : (99 : Int32).toInt = 99 := by decide
    have e0 : (0 : Int32).toInt = 0 := by decide
    rw [if_neg (by rw [Int32.lt_iff_toInt_lt]; omega)]
    by_cases h3 : (99 : Int32) < v
    · rw [if_pos h3]
    · rw [if_neg h3]
      have : v = 99 := by
        apply Int32.toInt_inj.mp
        rw [Int32.lt_iff_toInt_lt] at h3
        omega
      rw [this]
theorem min99 (fu u : Nat) (hu : u < 2 ^ 31) (w : MEM) : f_J9_min_7cf53 fu (99 : Int32) (nI u) w = some (heldS (nI u), w) := by
  rw [E_J9_min_7cf53]
  unfold heldS
  rw [if_neg (nI_pos hu)]
  by_cases c : u < 99
  · rw [if_pos (by rw [nltL _ _ hu (by decide)]; exact c), if_neg (by rw [nLlt _ _ hu (by decide)]; omega)]
  · rw [if_neg (by rw [nltL _ _ hu (by decide)]; exact c)]
    by_cases c2 : u = 99
    · subst c2; rfl
    · rw [if_pos (by rw [nLlt _ _ hu (by decide)]; omega)]
theorem comesOn_C {w : MEM} {C : ACt} {f : Nat → Int32} {fu i c l h : Nat} (hw : WFc C) (hc : CLS w c l C) (hr : Rm w i C f) (hfu : 200 ≤ fu) (hh : h < cH C) : ∃ w1, f_X4_comesOn fu i (nI h) (cSun C) l w = some (cloudS C f h, w1) ∧ Fr (pLC l) w w1 := by
  have h7 := hw.1
  have hL := hc.2.2.2.2.2.2.2.2
  obtain ⟨r1, r2, r3, r4⟩ := hr
  have a0 : fA w (402, i) h = f h := (r1 0 (by omega) h hh).trans (by rw [Nat.mul_zero, Nat.zero_add])
  have a1 : fA w (403, i) h = f (7 + h) := r1 1 (by omega) h hh
  have a2 : fA w (404, i) h = f (14 + h) := r1 2 (by omega) h hh
  have a3 : fA w (405, i) h = f (21 + h) := r1 3 (by omega) h hh
  have a4 : fA w (406, i) h = f (28 + h) := r1 4 (by omega) h hh
  have a5 : fA w (407, i) h = f (35 + h) := r1 5 (by omega) h hh
  have ab := r4 h hh
  rw [E_X4_comesOn]
  simp (disch := omega) only [bIn, rAn, decide_true, ck_tr, a5, (show h < 7 by omega)]
  by_cases h0 : f (35 + h) = 0
  · refine ⟨w, ?_, Fr.rf _ _⟩
    rw [if_pos h0]
    unfold cloudS
    rw [if_pos h0]
  · rw [if_neg h0, if_neg (by decide), lt_eq, r3]
    have em : f 56 - f 56 / 24 * 24 = m24 (f 56) := rfl
    rw [em]
    simp (disch := omega) only [bIn, bIL, rAn, decide_true, ck_tr, (show h < 7 by omega), E_X3_setHeir, E_X3_setGlass, E_X3_setHour, lt_eq, bnd_some, sAL, fA_tA, tA_tA, if_true, (show 0 < 9 by omega), (show 1 < 9 by omega), (show 2 < 9 by omega), (show 3 < 9 by omega), (show 4 < 9 by omega), (show 5 < 9 by omega), (show 6 < 9 by omega), (show 7 < 9 by omega), (show 8 < 9 by omega), ab, a0, Prod.mk.injEq, Nat.reduceEqDiff, false_and, if_false, a1, a2, a3, a4]
    have key : ∀ s : Int32, (if m24 (f 56) = cSun C then (1 : Int32) else 0) = s → ∃ w1, (bnd (f_X3_comes fu l (tA w (304, l) (upd (upd (upd (upd (upd (upd (upd (upd (upd (fA w (304, l)) 0 (cBr C h)) 1 (f h)) 8 (nI h)) 2 (f (28 + h))) 3 (f (14 + h))) 4 (f (21 + h))) 5 (f (7 + h))) 6 (m24 (f 56))) 7 s))) fun x w => some (x, w)) = some (cloudS C f h, w1) ∧ Fr (pLC l) w w1 := by
      intro s hs
      generalize hg : upd (upd (upd (upd (upd (upd (upd (upd (upd (fA w (304, l)) 0 (cBr C h)) 1 (f h)) 8 (nI h)) 2 (f (28 + h))) 3 (f (14 + h))) 4 (f (21 + h))) 5 (f (7 + h))) 6 (m24 (f 56))) 7 s = g
      have fr : Fr (pLC l) w (tA w (304, l) g) := (Fr.rf _ _).A _ (pLC_at l)
      obtain ⟨w1, e1, e2⟩ := comes_C (L := cL C) hw.2.2.2.2.2.1 (hL.fr fr rfl rfl rfl) hfu
      refine ⟨w1, ?_, fr.tr (e2.mono (pStC_pLC l))⟩
      rw [e1, bnd_some, fA_tA, if_pos rfl, clv_congr hw.2.2.2.2.2.1 (g1 := fct (cBr C h) (f h) (f (28 + h)) (f (14 + h)) (f (21 + h)) (f (7 + h)) (m24 (f 56)) (if m24 (f 56) = cSun C then 1 else 0) (nI h))]
      · unfold cloudS
        rw [if_neg h0]
      · intro j hj
        rw [← hg, hs]
        rcases i9 hj with e | e | e | e | e | e | e | e | e <;> subst e <;> rfl
    by_cases c1 : m24 (f 56) = cSun C
    · rw [if_pos c1]
      exact key 1 (if_pos c1)
    · rw [if_neg c1]
      exact key 0 (if_neg c1)
theorem passHour_C {w : MEM} {C : ACt} {f : Nat → Int32} {fu i c l t : Nat} (hw : WFc C) (hc : CLS w c l C) (hr : Rm w i C f) (hb : Bd C t f) (ht : t < 100000) (hfu : 200 ≤ fu) : ∃ w1, f_X4_passHour fu i c l 1 w = some (1, w1) ∧ Fr (pMC i l) w w1 ∧ Rm w1 i C (passS C f) := by
  have h7 := hw.1
  have h6 := hw.2.1
  rw [E_X4_passHour]
  obtain ⟨b, n1, e1, e2, e3⟩ := for_rel (F := fun n x (a : MEM) => f_X4_passHour_3 fu n i c l 1 x a) (N := cK C)
    (fun k a => Fr (pMC i l) w a ∧ Rm a i C (lp k 0 (coughS C) f))
    (fun n k u hk p => by
      obtain ⟨pf, pv⟩ := p
      have hc1 := hc.fr pf (okMC i c l l)
      obtain ⟨g1, g2, g3⟩ := hw.2.2.1 k hk
      have hbk := Bd_pass1 hw hb k (by omega)
      generalize hfk : lp k 0 (coughS C) f = fk at pv hbk
      show ∃ b : MEM, f_X4_passHour_3 fu (n + 1) i c l 1 (nI k) u = f_X4_passHour_3 fu n i c l 1 (nI (k + 1)) b ∧ _
      rw [E_X4_passHour_3, if_neg (by decide), hc1.2.1]
      have f2 := (hc1.2.2.1 k hk).1
      have f3 := (hc1.2.2.1 k hk).2
      have s1 : fA u (407, i) (cKh C k) = fk (35 + cKh C k) := pv.1 5 (by omega) _ g1
      have s2 : fA u (406, i) (cKh C k) = fk (28 + cKh C k) := pv.1 4 (by omega) _ g1
      simp (disch := omega) only [nlt, hk, if_true, bIn, rAn, lt_eq, f2, decide_true, ck_tr, (show k < 6 by omega), (show cKh C k < 7 by omega), s1, naddL]
      rw [lp_snoc, Nat.zero_add, hfk]
      by_cases c2 : fk (35 + cKh C k) = 1
      · rw [if_pos c2, pv.2.2.1, hbk.2, nextCough_ok (q := cKp C k) (by omega) (by omega) (by omega) (by omega) f3, bnd_some]
        have ec : (nI ((cKp C k - t % cKp C k) % cKp C k) = 0) ↔ t % cKp C k = 0 := by
          have hm := Nat.mod_lt (cKp C k - t % cKp C k) (show 0 < cKp C k by omega)
          rw [← cough0 (t := t) (q := cKp C k) (by omega)]
          exact (neqI _ 0 (by omega) (by omega)).to_iff
        have eg : (fk 56 - fk 56 / nI (cKp C k) * nI (cKp C k) = 0) ↔ t % cKp C k = 0 := by
          have hm := Nat.mod_lt t (show 0 < cKp C k by omega)
          rw [hbk.2, nI_mod (by omega) (by omega) (by omega)]
          exact (neqI _ 0 (by omega) (by omega)).to_iff
        by_cases c3 : t % cKp C k = 0
        · rw [if_pos (ec.mpr c3)]
          have er : Rm (tA u (406, i) (upd (fA u (406, i)) (cKh C k) (fk (28 + cKh C k) + 1))) i C (upd fk (28 + cKh C k) (fk (28 + cKh C k) + 1)) := Rm_upd (t := 4) pv h7 (by omega) g1 _
          refine ⟨tA u (406, i) (upd (fA u (406, i)) (cKh C k) (fk (28 + cKh C k) + 1)), ?_, pf.A _ (pMC_A i l 4 (by omega)), ?_⟩
          rotate_left
          · have : coughS C k fk = upd fk (28 + cKh C k) (fk (28 + cKh C k) + 1) := by
              unfold coughS
              rw [if_pos ⟨eg.mpr c3, c2⟩]
            rw [this]
            exact er
          · simp (disch := omega) only [sAn, s2]
        · rw [if_neg (fun e => c3 (ec.mp e))]
          refine ⟨u, rfl, pf, ?_⟩
          have : coughS C k fk = fk := by
            unfold coughS
            rw [if_neg (fun e => c3 (eg.mp e.1))]
          rw [this]
          exact pv
      · rw [if_neg c2]
        refine ⟨u, rfl, pf, ?_⟩
        have : coughS C k fk = fk := by
          unfold coughS
          rw [if_neg (fun e => c2 e.2)]
        rw [this]
        exact pv)
    (cK C) fu 0 w (by omega) (by omega) ⟨Fr.rf _ _, hr⟩
  have e1 : f_X4_passHour_3 fu fu i c l 1 0 w = f_X4_passHour_3 fu (n1 + 1) i c l 1 (nI (cK C)) b := e1
  have hc1 := hc.fr e2 (okMC i c l l)
  rw [e1, E_X4_passHour_3, if_neg (by decide), hc1.2.1, if_neg (by rw [nlt _ _ (by omega) (by omega)]; omega)]
  have hb1 := Bd_pass1 hw hb (cK C) (Nat.le_refl _)
  generalize hf1 : lp (cK C) 0 (coughS C) f = f1 at e3 hb1
  obtain ⟨b2, n2, e4, e5, e6⟩ := for_rel (F := fun n x (a : MEM) => f_X4_passHour_69 fu n i c l x a) (N := 7)
    (fun k a => Fr (pMC i l) w a ∧ Rm a i C (lp (min k (cH C)) 0 (glassS C) f1))
    (fun n k u hk p => by
      obtain ⟨pf, pv⟩ := p
      have hc1 := hc.fr pf (okMC i c l l)
      show ∃ b : MEM, f_X4_passHour_69 fu (n + 1) i c l (nI k) u = f_X4_passHour_69 fu n i c l (nI (k + 1)) b ∧ _
      rw [E_X4_passHour_69]
      by_cases hkH : k < cH C
      · rw [Nat.min_eq_left (by omega)] at pv
        rw [Nat.min_eq_left (by omega)]
        have hbk := Bd_pass2 hw hb1 k (by omega)
        rw [lp_snoc, Nat.zero_add]
        generalize hfk : lp k 0 (glassS C) f1 = fk at pv hbk
        have s5 : fA u (407, i) k = fk (35 + k) := pv.1 5 (by omega) _ hkH
        simp (disch := omega) only [nltL, hk, if_true, bIn, rAn, decide_true, ck_tr, s5, naddL]
        rcases (hbk.1 k hkH).2.2 with c1 | c1
        · rw [c1, if_neg (by decide)]
          refine ⟨u, rfl, pf, ?_⟩
          have : glassS C k fk = fk := by
            unfold glassS
            rw [if_pos c1]
          rw [this]
          exact pv
        · rw [c1, if_pos rfl]
          obtain ⟨u1, e7, e8⟩ := comesOn_C (h := k) hw hc1 pv hfu hkH
          have pf1 : Fr (pMC i l) w u1 := pf.tr (e8.mono (pLC_pMC i l))
          have pv1 : Rm u1 i C fk := pv.fL e8
          have s1 : fA u (403, i) k = fk (7 + k) := pv.1 1 (by omega) _ hkH
          rw [hc1.2.2.2.1, e7, bnd_some]
          obtain ⟨m, hm, em⟩ := (hbk.1 k hkH).1
          obtain ⟨cv, hcv, ecv⟩ := cloud_b C fk k
          have es : fk (7 + k) + cloudS C fk k = nI (m + cv) := by rw [em, ecv, nI_add]
          rw [s1, es, min99 _ _ (by omega), bnd_some, ← es, lt_eq, sAn _ _ _ _ (by omega)]
          have g1 : Rm (tA u1 (403, i) (upd (fA u1 (403, i)) k (heldS (fk (7 + k) + cloudS C fk k)))) i C (gl1 C k fk) := Rm_upd (t := 1) pv1 h7 (by omega) hkH _
          have q1 := pf1.A (a := (403, i)) (upd (fA u1 (403, i)) k (heldS (fk (7 + k) + cloudS C fk k))) (pMC_A i l 1 (by omega))
          generalize tA u1 (403, i) (upd (fA u1 (403, i)) k (heldS (fk (7 + k) + cloudS C fk k))) = u2 at g1 q1 ⊢
          generalize hf2 : gl1 C k fk = f2 at g1
          have t2 : fA u2 (404, i) k = f2 (14 + k) := g1.1 2 (by omega) _ hkH
          have t0 : fA u2 (402, i) k = f2 k := (g1.1 0 (by omega) _ hkH).trans (by rw [Nat.mul_zero, Nat.zero_add])
          have tb := g1.2.2.2 k hkH
          simp (disch := omega) only [rAn, t2, t0, tb, held_C, lt_eq, sAn]
          have g2 : Rm (tA u2 (404, i) (upd (fA u2 (404, i)) k (heldS (f2 (14 + k) - cBr C k + f2 k)))) i C (gl2 C k f2) := Rm_upd (t := 2) g1 h7 (by omega) hkH _
          have q2 := q1.A (a := (404, i)) (upd (fA u2 (404, i)) k (heldS (f2 (14 + k) - cBr C k + f2 k))) (pMC_A i l 2 (by omega))
          generalize tA u2 (404, i) (upd (fA u2 (404, i)) k (heldS (f2 (14 + k) - cBr C k + f2 k))) = u3 at g2 q2 ⊢
          generalize hf3 : gl2 C k f2 = f3 at g2
          have v2 : fA u3 (404, i) k = f3 (14 + k) := g2.1 2 (by omega) _ hkH
          have v7 : fA u3 (409, i) k = f3 (49 + k) := g2.1 7 (by omega) _ hkH
          have last : ∀ v, v = (if f3 (14 + k) = 0 then (1 : Int32) else 0) → ∃ b : MEM, f_X4_passHour_180 fu (fun l0 l1 l2 l4 w => f_X4_passHour_69 fu n l0 l1 l2 l4 w) i c l (nI k) (409, i) (nI k) (f3 (49 + k)) v u3 = f_X4_passHour_69 fu n i c l (nI (k + 1)) b ∧ Fr (pMC i l) w b ∧ Rm b i C (gl4 k (gl3 k f3)) := by
            intro v hv
            rw [E_X4_passHour_180]
            simp (disch := omega) only [show aN ((409, i) : LA).1 = 7 from rfl, bIn, hk, decide_true, ck_tr, lt_eq, sAn]
            have g3 : Rm (tA u3 (409, i) (upd (fA u3 (409, i)) k (f3 (49 + k) + v))) i C (gl3 k f3) := by
              unfold gl3
              rw [← hv]
              exact Rm_upd (t := 7) g2 h7 (by omega) hkH _
            have q3 := q2.A (a := (409, i)) (upd (fA u3 (409, i)) k (f3 (49 + k) + v)) (pMC_A i l 7 (by omega))
            generalize tA u3 (409, i) (upd (fA u3 (409, i)) k (f3 (49 + k) + v)) = u4 at g3 q3 ⊢
            generalize hf4 : gl3 k f3 = f4 at g3
            have z1 : fA u4 (403, i) k = f4 (7 + k) := g3.1 1 (by omega) _ hkH
            have z6 : fA u4 (408, i) k = f4 (42 + k) := g3.1 6 (by omega) _ hkH
            simp (disch := omega) only [rAn, z1, z6, naddL, g3.2.2.1]
            have idem : Rm (tA u4 (408, i) (upd (fA u4 (408, i)) k (f4 (42 + k)))) i C f4 := by
              have := Rm_upd (t := 6) g3 h7 (by omega) hkH (f4 (42 + k))
              have e9 : upd f4 (7 * 6 + k) (f4 (42 + k)) = f4 := upd_self f4 (42 + k)
              rw [e9] at this
              exact this
            by_cases c4 : f4 (7 + k) < 50
            · rw [if_pos c4]
              refine ⟨_, rfl, q3.A _ (pMC_A i l 6 (by omega)), ?_⟩
              have : gl4 k f4 = f4 := by
                unfold gl4
                rw [if_pos c4]
              rw [this]
              exact idem
            · rw [if_neg c4]
              by_cases c5 : f4 (42 + k) = -1
              · rw [if_pos c5]
                refine ⟨_, rfl, q3.A _ (pMC_A i l 6 (by omega)), ?_⟩
                have : gl4 k f4 = upd f4 (42 + k) (f4 56) := by
                  unfold gl4
                  rw [if_neg c4, if_pos c5]
                rw [this]
                exact Rm_upd (t := 6) g3 h7 (by omega) hkH _
              · rw [if_neg c5]
                refine ⟨_, rfl, q3.A _ (pMC_A i l 6 (by omega)), ?_⟩
                have : gl4 k f4 = f4 := by
                  unfold gl4
                  rw [if_neg c4, if_neg c5]
                rw [this]
                exact idem
          have eg : glassS C k fk = gl4 k (gl3 k f3) := by
            unfold glassS
            rw [if_neg (by rw [c1]; decide), hf2, hf3]
          rw [eg]
          simp (disch := omega) only [bIn, rAn, hk, decide_true, ck_tr, v2, v7]
          by_cases c6 : f3 (14 + k) = 0
          · rw [if_pos c6]
            exact last 1 (by rw [if_pos c6])
          · rw [if_neg c6]
            exact last 0 (by rw [if_neg c6])
      · rw [Nat.min_eq_right (by omega)] at pv
        rw [Nat.min_eq_right (by omega)]
        have s5 : fA u (407, i) k = 0 := (pv.2.1 k (by omega) hk).2.1
        refine ⟨u, ?_, pf, pv⟩
        simp (disch := omega) only [nltL, hk, if_true, bIn, rAn, decide_true, ck_tr, s5, naddL]
        rw [if_neg (by decide)])
    7 fu 0 b (by omega) (by omega) ⟨e2, by rw [Nat.min_eq_left (by omega)]; exact e3⟩
  have e4 : f_X4_passHour_69 fu fu i c l 0 b = f_X4_passHour_69 fu (n2 + 1) i c l (nI 7) b2 := e4
  rw [Nat.min_eq_right h7] at e6
  have hb2 := Bd_pass2 hw hb1 (cH C) (Nat.le_refl _)
  rw [e4, E_X4_passHour_69, if_neg (by decide), fill_ok fu (406, i) 0 b2 (show 7 < fu by omega) (show 7 < 2 ^ 31 by omega), bnd_some, lt_eq]
  refine ⟨_, rfl, (e5.A _ (pMC_A i l 4 (by omega))).S _ (pMC_S i l), ?_⟩
  unfold passS
  rw [hf1, tapz_eq]
  generalize lp (cH C) 0 (glassS C) f1 = f2 at e6 hb2
  obtain ⟨r1, r2, r3, r4⟩ := e6
  unfold hr1
  refine ⟨fun t1 ht1 j hj => ?_, fun j h1 h2 => ?_, ?_, fun j hj => ?_⟩
  · rw [fA_sS, fA_tA, upd_ne _ _ (by omega)]
    by_cases c1 : t1 = 4
    · subst c1
      rw [if_pos rfl]
      show (if j < 7 then (0 : Int32) else _) = if 28 ≤ 28 + j ∧ 28 + j < 28 + cH C then (0 : Int32) else _
      rw [if_pos (by omega), if_pos (by omega)]
    · rw [if_neg (by intro e; injection e with e; omega), if_neg (by omega)]
      exact r1 t1 ht1 j hj
  · simp only [fA_sS, fA_tA, Prod.mk.injEq, Nat.reduceEqDiff, false_and, if_false]
    exact r2 j h1 h2
  · rw [rS_sS, if_pos rfl, rS_tA, upd_at, r3]
    show f2 56 + 1 = (if 28 ≤ 56 ∧ 56 < 28 + cH C then 0 else f2 56) + 1
    rw [if_neg (by omega)]
  · rw [fA_sS, fA_tA, if_neg (by intro e; injection e with e; omega)]
    exact r4 j hj
