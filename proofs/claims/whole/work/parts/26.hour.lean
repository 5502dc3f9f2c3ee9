/-! courts; the model's hour -/
abbrev ACt : Type := Nat × ((Nat → Int32) × ((Nat × ((Nat → Nat) × (Nat → Nat))) × (Int32 × ((Nat × ((Nat → Nat) × (Nat → Nat))) × ALw))))
def cH (C : ACt) : Nat := C.1
def cBr (C : ACt) : Nat → Int32 := C.2.1
def cK (C : ACt) : Nat := C.2.2.1.1
def cKh (C : ACt) : Nat → Nat := C.2.2.1.2.1
def cKp (C : ACt) : Nat → Nat := C.2.2.1.2.2
def cSun (C : ACt) : Int32 := C.2.2.2.1
def cT (C : ACt) : Nat := C.2.2.2.2.1.1
def cTa (C : ACt) : Nat → Nat := C.2.2.2.2.1.2.1
def cTb (C : ACt) : Nat → Nat := C.2.2.2.2.1.2.2
def cL (C : ACt) : ALw := C.2.2.2.2.2
def WFc (C : ACt) : Prop := cH C ≤ 7 ∧ cK C ≤ 6 ∧ (∀ k < cK C, cKh C k < cH C ∧ 1 ≤ cKp C k ∧ cKp C k ≤ 24) ∧ cT C ≤ 12 ∧ (∀ e < cT C, cTa C e < cH C ∧ cTb C e < cH C ∧ cTa C e ≠ cTb C e) ∧ WFl (cL C) ∧ (∀ j < cH C, ∃ b, 1 ≤ b ∧ b ≤ 9 ∧ cBr C j = nI b) ∧ (∃ s < 24, cSun C = nI s)
def MOD (w : MEM) (C : ACt) : Prop := rS w (11022, 842) = nI (cH C) ∧ (∀ j < cH C, fA w (1007, 842) j = cBr C j) ∧ rS w (11024, 842) = nI (cK C) ∧ (∀ k < cK C, fA w (1010, 842) (2 * k) = nI (cKh C k) ∧ fA w (1010, 842) (2 * k + 1) = nI (cKp C k)) ∧ rS w (11025, 842) = cSun C ∧ rS w (11023, 842) = nI (cT C) ∧ (∀ e < cT C, fA w (1009, 842) (2 * e) = nI (cTa C e) ∧ fA w (1009, 842) (2 * e + 1) = nI (cTb C e)) ∧ LawM w (cL C)
def okM (P : LA → Bool) : Prop := P (11022, 842) = false ∧ P (1007, 842) = false ∧ P (11024, 842) = false ∧ P (1010, 842) = false ∧ P (11025, 842) = false ∧ P (11023, 842) = false ∧ P (1009, 842) = false ∧ P (11032, 842) = false ∧ P (1013, 842) = false ∧ P (1014, 842) = false
theorem MOD.fr {w w1 : MEM} {C : ACt} {P : LA → Bool} (h : MOD w C) (f : Fr P w w1) (p : okM P) : MOD w1 C := by
  obtain ⟨p1, p2, p3, p4, p5, p6, p7, p8, p9, p10⟩ := p
  obtain ⟨h1, h2, h3, h4, h5, h6, h7, h8⟩ := h
  refine ⟨?_, ?_, ?_, ?_, ?_, ?_, ?_, h8.fr f p8 p9 p10⟩
  · rw [f.2.1 _ p1]; exact h1
  · rw [f.1 _ p2]; exact h2
  · rw [f.2.1 _ p3]; exact h3
  · rw [f.1 _ p4]; exact h4
  · rw [f.2.1 _ p5]; exact h5
  · rw [f.2.1 _ p6]; exact h6
  · rw [f.1 _ p7]; exact h7
def pSM : LA → Bool := fun a => (Nat.beq a.1 1015 || (Nat.beq a.1 1016 || Nat.beq a.1 1020)) && Nat.beq a.2 842
theorem pLM_pSM (a : LA) (h : pLM a = true) : pSM a = true := by
  unfold pLM at h
  unfold pSM
  simp only [Bool.and_eq_true, Bool.or_eq_true] at h ⊢
  exact ⟨h.1.elim Or.inl (fun e => Or.inr (Or.inl e)), h.2⟩
theorem okSM : okM pSM := ⟨rfl, rfl, rfl, rfl, rfl, rfl, rfl, rfl, rfl, rfl⟩
theorem okLM : okM pLM := ⟨rfl, rfl, rfl, rfl, rfl, rfl, rfl, rfl, rfl, rfl⟩
def m24 (x : Int32) : Int32 := x - x / 24 * 24
def cloudS (C : ACt) (f : Nat → Int32) (h : Nat) : Int32 := if f (35 + h) = 0 then 0 else clv (cL C) (fct (cBr C h) (f h) (f (28 + h)) (f (14 + h)) (f (21 + h)) (f (7 + h)) (m24 (f 56)) (if m24 (f 56) = cSun C then 1 else 0) (nI h))
def heldS (v : Int32) : Int32 := if v < 0 then 0 else if 99 < v then 99 else v
def coughS (C : ACt) (k : Nat) (f : Nat → Int32) : Nat → Int32 := if f 56 - f 56 / nI (cKp C k) * nI (cKp C k) = 0 ∧ f (35 + cKh C k) = 1 then upd f (28 + cKh C k) (f (28 + cKh C k) + 1) else f
def gl1 (C : ACt) (h : Nat) (f : Nat → Int32) : Nat → Int32 := upd f (7 + h) (heldS (f (7 + h) + cloudS C f h))
def gl2 (C : ACt) (h : Nat) (f : Nat → Int32) : Nat → Int32 := upd f (14 + h) (heldS (f (14 + h) - cBr C h + f h))
def gl3 (h : Nat) (f : Nat → Int32) : Nat → Int32 := upd f (49 + h) (f (49 + h) + (if f (14 + h) = 0 then 1 else 0))
def gl4 (h : Nat) (f : Nat → Int32) : Nat → Int32 := if f (7 + h) < 50 then f else if f (42 + h) = -1 then upd f (42 + h) (f 56) else f
def glassS (C : ACt) (h : Nat) (f : Nat → Int32) : Nat → Int32 := if f (35 + h) = 0 then f else gl4 h (gl3 h (gl2 C h (gl1 C h f)))
def tapz (h : Nat) (f : Nat → Int32) : Nat → Int32 := upd f (28 + h) 0
def hr1 (f : Nat → Int32) : Nat → Int32 := upd f 56 (f 56 + 1)
def passS (C : ACt) (f : Nat → Int32) : Nat → Int32 := hr1 (lp (cH C) 0 tapz (lp (cH C) 0 (glassS C) (lp (cK C) 0 (coughS C) f)))
theorem held_M (fu : Nat) (v : Int32) (w : MEM) : f_X10_held fu v w = some (heldS v, w) := by
  rw [E_X10_held]
  unfold heldS
  split
  · rfl
  · split <;> rfl
theorem sunOf_M {w : MEM} {C : ACt} (hm : MOD w C) (fu : Nat) (x : Int32) : f_X10_sunOf fu 842 x w = some ((if m24 x = cSun C then 1 else 0), w) := by
  rw [E_X10_sunOf, if_neg (by decide), hm.2.2.2.2.1]
  unfold m24
  split <;> rfl
theorem cloudBy_M {w : MEM} {C : ACt} {fu h : Nat} (hw : WFc C) (hm : MOD w C) (hfu : 200 ≤ fu) (hh : h < cH C) : ∃ w1, f_X10_cloudBy fu 842 (nI h) w = some (cloudS C (fA w (1020, 842)) h, w1) ∧ Fr pLM w w1 := by
  have h7 := hw.1
  rw [E_X10_cloudBy]
  simp (disch := omega) only [nLadd, bIn, rAn, decide_true, ck_tr, (show 35 + h < 57 by omega)]
  by_cases h0 : fA w (1020, 842) (35 + h) = 0
  · refine ⟨w, ?_, Fr.rf _ _⟩
    rw [if_pos h0]
    unfold cloudS
    rw [if_pos h0]
  · rw [if_neg h0]
    obtain ⟨w1, e1, e2⟩ := cloudOf_M (L := cL C) hw.2.2.2.2.2.1 hm.2.2.2.2.2.2.2 hfu (cBr C h) (fA w (1020, 842) h) (fA w (1020, 842) (28 + h)) (fA w (1020, 842) (14 + h)) (fA w (1020, 842) (21 + h)) (fA w (1020, 842) (7 + h)) (m24 (fA w (1020, 842) 56)) (if m24 (fA w (1020, 842) 56) = cSun C then 1 else 0) (nI h)
    refine ⟨w1, ?_, e2⟩
    simp (disch := omega) only [nLadd, bIn, bIL, rAn, rAL, decide_true, ck_tr, (show h < 7 by omega), (show h < 57 by omega), (show 28 + h < 57 by omega), (show 14 + h < 57 by omega), (show 21 + h < 57 by omega), (show 7 + h < 57 by omega), (show 56 < 57 by omega), sunOf_M hm, bnd_some, hm.2.1 h hh, Nat.zero_add]
    rw [if_neg (by decide)]
    have e : ∀ x : Int32, x - x / 24 * 24 = m24 x := fun _ => rfl
    rw [e, e1, bnd_some]
    unfold cloudS
    rw [if_neg h0]
theorem passes_M {w : MEM} {C : ACt} {fu : Nat} (hw : WFc C) (hm : MOD w C) (hfu : 200 ≤ fu) : ∃ w1, f_X10_passes fu 842 w = some ((), w1) ∧ Fr pSM w w1 ∧ fA w1 (1020, 842) = passS C (fA w (1020, 842)) := by
  have h7 := hw.1
  have h6 := hw.2.1
  generalize hf : fA w (1020, 842) = f
  rw [E_X10_passes]
  obtain ⟨b, n1, e1, e2, e3⟩ := for_rel (F := fun n i (a : MEM) => f_X10_passes_2 fu n 842 i a) (N := cK C)
    (fun k a => Fr pSM w a ∧ fA a (1020, 842) = lp k 0 (coughS C) f)
    (fun n k u hk p => by
      obtain ⟨pf, pv⟩ := p
      have hm1 := hm.fr pf okSM
      have f1 := hm1.2.2.1
      obtain ⟨f2, f3⟩ := hm1.2.2.2.1 k hk
      obtain ⟨g1, g2, g3⟩ := hw.2.2.1 k hk
      show ∃ b : MEM, f_X10_passes_2 fu (n + 1) 842 (nI k) u = f_X10_passes_2 fu n 842 (nI (k + 1)) b ∧ _
      rw [E_X10_passes_2]
      simp (disch := omega) only [f1, nlt, hk, if_true, nLmul, naddL, bIn, bIL, rAn, rAL, lt_eq, f2, f3, decide_true, ck_tr, nLadd, neqL, (show 2 * k < 12 by omega), (show 2 * k + 1 < 12 by omega), (show 56 < 57 by omega), (show ¬ cKp C k = 0 by omega), if_false, (show 35 + cKh C k < 57 by omega), (show 28 + cKh C k < 57 by omega)]
      by_cases c1 : fA u (1020, 842) 56 - fA u (1020, 842) 56 / nI (cKp C k) * nI (cKp C k) = 0
      · by_cases c2 : fA u (1020, 842) (35 + cKh C k) = 1
        · refine ⟨tA u (1020, 842) (upd (fA u (1020, 842)) (28 + cKh C k) (fA u (1020, 842) (28 + cKh C k) + 1)), ?_, pf.A _ rfl, ?_⟩
          · simp (disch := omega) only [c1, c2, if_true, sAn]
          · rw [lp_snoc, ← pv, Nat.zero_add, fA_tA, if_pos rfl]
            unfold coughS
            rw [if_pos ⟨c1, c2⟩]
        · refine ⟨u, ?_, pf, ?_⟩
          · simp only [c1, c2, if_true, if_false]
          · rw [lp_snoc, ← pv, Nat.zero_add]
            unfold coughS
            rw [if_neg (fun c => c2 c.2)]
      · refine ⟨u, ?_, pf, ?_⟩
        · simp only [c1, if_false]
        · rw [lp_snoc, ← pv, Nat.zero_add]
          unfold coughS
          rw [if_neg (fun c => c1 c.1)])
    (cK C) fu 0 w (by omega) (by omega) ⟨Fr.rf _ _, hf⟩
  have e1 : f_X10_passes_2 fu fu 842 0 w = f_X10_passes_2 fu (n1 + 1) 842 (nI (cK C)) b := e1
  have hm1 := hm.fr e2 okSM
  rw [e1, E_X10_passes_2, if_neg (by rw [hm1.2.2.1, nlt _ _ (by omega) (by omega)]; omega)]
  obtain ⟨b2, n2, e4, e5, e6⟩ := for_rel (F := fun n i (a : MEM) => f_X10_passes_74 fu n 842 i a) (N := cH C)
    (fun k a => Fr pSM w a ∧ fA a (1020, 842) = lp k 0 (glassS C) (lp (cK C) 0 (coughS C) f))
    (fun n k u hk p => by
      obtain ⟨pf, pv⟩ := p
      have hm1 := hm.fr pf okSM
      show ∃ b : MEM, f_X10_passes_74 fu (n + 1) 842 (nI k) u = f_X10_passes_74 fu n 842 (nI (k + 1)) b ∧ _
      rw [E_X10_passes_74]
      simp (disch := omega) only [hm1.1, nlt, hk, if_true, nLadd, bIn, rAn, decide_true, ck_tr, (show 35 + k < 57 by omega)]
      rw [lp_snoc, ← pv, Nat.zero_add]
      by_cases c1 : fA u (1020, 842) (35 + k) = 0
      · refine ⟨u, ?_, pf, ?_⟩
        · rw [if_pos c1, naddL]
        · unfold glassS
          rw [if_pos c1]
      · rw [if_neg c1]
        obtain ⟨u1, e7, e8⟩ := cloudBy_M (h := k) hw hm1 hfu hk
        have pf1 : Fr pSM w u1 := pf.tr (e8.mono pLM_pSM)
        have hm2 := hm.fr pf1 okSM
        have es : fA u1 (1020, 842) = fA u (1020, 842) := e8.1 _ rfl
        have eg : glassS C k (fA u (1020, 842)) = gl4 k (gl3 k (gl2 C k (gl1 C k (fA u (1020, 842))))) := by
          unfold glassS
          rw [if_neg c1]
        rw [eg]
        refine ⟨tA u1 (1020, 842) (gl4 k (gl3 k (gl2 C k (gl1 C k (fA u (1020, 842)))))), ?_, pf1.A _ rfl, by rw [fA_tA, if_pos rfl]⟩
        have hb : ∀ v, f_X10_passes_188 fu (fun l0 l1 w => f_X10_passes_74 fu n l0 l1 w) 842 (nI k) (1020, 842) (nI (49 + k)) (fA (tA u1 (1020, 842) (gl2 C k (gl1 C k (fA u (1020, 842))))) (1020, 842) (49 + k)) v (tA u1 (1020, 842) (gl2 C k (gl1 C k (fA u (1020, 842))))) = f_X10_passes_74 fu n 842 (nI (k + 1)) (tA u1 (1020, 842) (gl4 k (upd (gl2 C k (gl1 C k (fA u (1020, 842)))) (49 + k) (gl2 C k (gl1 C k (fA u (1020, 842))) (49 + k) + v)))) := by
          intro v
          rw [E_X10_passes_188]
          simp (disch := omega) only [show aN ((1020, 842) : LA).1 = 57 from rfl, nLadd, bIn, bIL, rAn, rAL, decide_true, ck_tr, (show 49 + k < 57 by omega), (show 7 + k < 57 by omega), (show 42 + k < 57 by omega), (show 56 < 57 by omega), lt_eq, sAn, fA_tA, if_true, tA_tA, naddL]
          unfold gl4
          split
          · rfl
          · split <;> rfl
        simp (disch := omega) only [nLadd, bIn, rAn, decide_true, ck_tr, (show 7 + k < 57 by omega), (show 14 + k < 57 by omega), (show k < 7 by omega), (show k < 57 by omega), (show 49 + k < 57 by omega), e7, bnd_some, held_M, lt_eq, sAn, fA_tA, if_true, tA_tA, es, (show ((1007, 842) : LA) = (1020, 842) ↔ False by simp), if_false, hm2.2.1 k hk, Nat.zero_add]
        have e9 : upd (fA u (1020, 842)) (7 + k) (heldS (fA u (1020, 842) (7 + k) + cloudS C (fA u (1020, 842)) k)) = gl1 C k (fA u (1020, 842)) := rfl
        rw [e9]
        have e10 : upd (gl1 C k (fA u (1020, 842))) (14 + k) (heldS (gl1 C k (fA u (1020, 842)) (14 + k) - cBr C k + gl1 C k (fA u (1020, 842)) k)) = gl2 C k (gl1 C k (fA u (1020, 842))) := rfl
        rw [e10]
        have hb1 := hb 1
        have hb0 := hb 0
        rw [fA_tA, if_pos rfl] at hb1 hb0
        rw [hb1, hb0]
        unfold gl3
        split <;> rfl)
    (cH C) fu 0 b (by omega) (by omega) ⟨e2, e3⟩
  have e4 : f_X10_passes_74 fu fu 842 0 b = f_X10_passes_74 fu (n2 + 1) 842 (nI (cH C)) b2 := e4
  have hm2 := hm.fr e5 okSM
  rw [e4, E_X10_passes_74, if_neg (by rw [hm2.1, nlt _ _ (by omega) (by omega)]; omega)]
  obtain ⟨b3, n3, e7, e8, e9⟩ := for_rel (F := fun n i (a : MEM) => f_X10_passes_241 fu n 842 i a) (N := cH C)
    (fun k a => Fr pSM w a ∧ fA a (1020, 842) = lp k 0 tapz (lp (cH C) 0 (glassS C) (lp (cK C) 0 (coughS C) f)))
    (fun n k u hk p => by
      obtain ⟨pf, pv⟩ := p
      have hm1 := hm.fr pf okSM
      show ∃ b : MEM, f_X10_passes_241 fu (n + 1) 842 (nI k) u = f_X10_passes_241 fu n 842 (nI (k + 1)) b ∧ _
      rw [E_X10_passes_241]
      refine ⟨tA u (1020, 842) (tapz k (fA u (1020, 842))), ?_, pf.A _ rfl, ?_⟩
      · simp (disch := omega) only [hm1.1, nlt, hk, if_true, nLadd, bIn, decide_true, ck_tr, (show 28 + k < 57 by omega), lt_eq, sAn, naddL]
        rfl
      · rw [lp_snoc, ← pv, Nat.zero_add, fA_tA, if_pos rfl])
    (cH C) fu 0 b2 (by omega) (by omega) ⟨e5, e6⟩
  have e7 : f_X10_passes_241 fu fu 842 0 b2 = f_X10_passes_241 fu (n3 + 1) 842 (nI (cH C)) b3 := e7
  have hm3 := hm.fr e8 okSM
  rw [e7, E_X10_passes_241, if_neg (by rw [hm3.1, nlt _ _ (by omega) (by omega)]; omega)]
  refine ⟨tA b3 (1020, 842) (hr1 (fA b3 (1020, 842))), ?_, e8.A _ rfl, ?_⟩
  · simp (disch := omega) only [bIL, rAL, decide_true, ck_tr, (show 56 < 57 by omega), lt_eq, sAL]
    rfl
  · rw [fA_tA, if_pos rfl, e9]
    rfl
