theorem clv_congr {L : ALw} {g g1 : Nat → Int32} (hw : WFl L) (h : ∀ j < 9, g j = g1 j) : clv L g = clv L g1 := by
  obtain ⟨hn, dp, h0, h1, hs⟩ := hw
  unfold clv evK
  rw [lp_ext (evS L g) (evS L g1) L.1 0 _ (fun i b _ hi => ?_)]
  unfold evS
  rcases hs i (by omega) with ⟨hA | ⟨hA, j, hj, ej⟩, e⟩ | ⟨⟨c, c1, c2, ec⟩, h2, e⟩
  · rw [if_pos hA, if_pos hA]
  · rw [if_neg (by rw [hA]; decide), if_pos hA, if_neg (by rw [hA]; decide), if_pos hA, ej, nI_clamp (by omega), h j hj]
  · rw [if_neg (by rw [ec]; intro e9; have := (nI_eq (a := c) (b := 0) (by omega) (by omega)).mp e9; omega), if_neg (by rw [ec]; intro e9; have := (nI_eq (a := c) (b := 1) (by omega) (by omega)).mp e9; omega), if_neg (by rw [ec]; intro e9; have := (nI_eq (a := c) (b := 0) (by omega) (by omega)).mp e9; omega), if_neg (by rw [ec]; intro e9; have := (nI_eq (a := c) (b := 1) (by omega) (by omega)).mp e9; omega)]
theorem usual_ev (g : Nat → Int32) : (evK usual g 7).2 0 = 2 * g 0 + g 1 - g 2 := by
  have e : (evK usual g 7).2 0 = g 0 * 2 + g 1 - g 2 := by rfl
  rw [e, Int32.mul_comm]
theorem usual_wf : WFl usual := by
  refine ⟨by decide, fun i => match i with
    | 0 => 0
    | 1 => 1
    | 2 => 2
    | 3 => 1
    | 4 => 2
    | 5 => 1
    | 6 => 2
    | _ => 1, rfl, rfl, fun i hi => ?_⟩
  have hi : i < 7 := hi
  rcases (by omega : i = 0 ∨ i = 1 ∨ i = 2 ∨ i = 3 ∨ i = 4 ∨ i = 5 ∨ i = 6) with e | e | e | e | e | e | e <;> subst e
  · exact Or.inl ⟨Or.inr ⟨rfl, 0, by decide, rfl⟩, rfl⟩
  · exact Or.inl ⟨Or.inl rfl, rfl⟩
  · exact Or.inr ⟨⟨4, by decide, by decide, rfl⟩, by decide, rfl⟩
  · exact Or.inl ⟨Or.inr ⟨rfl, 1, by decide, rfl⟩, rfl⟩
  · exact Or.inr ⟨⟨2, by decide, by decide, rfl⟩, by decide, rfl⟩
  · exact Or.inl ⟨Or.inr ⟨rfl, 2, by decide, rfl⟩, rfl⟩
  · exact Or.inr ⟨⟨3, by decide, by decide, rfl⟩, by decide, rfl⟩
theorem value_M {w : MEM} {L : ALw} {fu : Nat} (hw : WFl L) (hc1 : rS w (11032, 842) = nI L.1) (hc2 : ∀ i < L.1, fA w (1013, 842) i = L.2.1 i ∧ fA w (1014, 842) i = L.2.2 i) (hfu : 200 ≤ fu) : ∃ w1, f_X10_valueNow fu 842 w = some ((evK L (fA w (1016, 842)) L.1).2 0, w1) ∧ Fr pStM w w1 := by
  obtain ⟨hn, dp, h0, h1, hs⟩ := hw
  have hd := dp_le h0 hs
  have ht := evK_top (g := fA w (1016, 842)) h0 hs
  rw [E_X10_valueNow]
  obtain ⟨b, n1, e1, e2, e3, e4⟩ := for_rel (F := fun n i (a : Nat × MEM) => f_X10_valueNow_4 fu n 842 (nI a.1) i a.2) (N := L.1)
    (fun k a => Fr pStM w a.2 ∧ a.1 = dp k ∧ ∀ j < dp k, fA a.2 (1015, 842) j = (evK L (fA w (1016, 842)) k).2 j)
    (fun n k a hk p => by
      obtain ⟨pf, pt, pv⟩ := p
      obtain ⟨t, u⟩ := a
      have pt : t = dp k := pt
      subst pt
      have f1 : rS u (11032, 842) = nI L.1 := (pf.2.1 _ rfl).trans hc1
      have f2 : fA u (1013, 842) k = L.2.1 k := by rw [pf.1 (1013, 842) rfl]; exact (hc2 k hk).1
      have f3 : fA u (1014, 842) k = L.2.2 k := by rw [pf.1 (1014, 842) rfl]; exact (hc2 k hk).2
      have f4 : fA u (1016, 842) = fA w (1016, 842) := pf.1 (1016, 842) rfl
      have hdk := hd k (Nat.le_of_lt hk)
      have htk := ht k (Nat.le_of_lt hk)
      show ∃ b : Nat × MEM, f_X10_valueNow_4 fu (n + 1) 842 (nI (dp k)) (nI k) u = f_X10_valueNow_4 fu n 842 (nI b.1) (nI (k + 1)) b.2 ∧ _
      rw [E_X10_valueNow_4]
      simp (disch := omega) only [f1, nlt, nltL, hk, bIn, rAn, lt_eq, f2, f3, if_true, decide_true, ck_tr, (show dp k < 150 by omega), (show k < 150 by omega)]
      rcases hs k hk with ⟨hA | ⟨hA, j, hj, ej⟩, e⟩ | ⟨⟨c, c1, c2, ec⟩, h2, e⟩
      · rw [hA, if_neg (by decide), if_pos rfl]
        refine ⟨(dp k + 1, tA u (1015, 842) (upd (fA u (1015, 842)) (dp k) (L.2.2 k))), ?_, pf.A _ rfl, e.symm, fun j hj => ?_⟩
        · simp (disch := omega) only [sAn, naddL]
        · rw [evK_s]
          unfold evS
          rw [if_pos hA, htk, fA_tA, if_pos rfl]
          show upd _ _ _ _ = upd _ _ _ _
          rw [upd_eq, upd_eq]
          split
          · rfl
          · exact pv j (by omega)
      · rw [hA, if_neg (by decide), if_neg (by decide), ej]
        refine ⟨(dp k + 1, tA u (1015, 842) (upd (fA u (1015, 842)) (dp k) (fA w (1016, 842) j))), ?_, pf.A _ rfl, e.symm, fun i hi => ?_⟩
        · simp (disch := omega) only [sAn, naddL, nltL, rAn, bIn, hj, if_true, decide_true, ck_tr, f4]
        · rw [evK_s]
          unfold evS
          rw [if_neg (by rw [hA]; decide), if_pos hA, htk, fA_tA, if_pos rfl]
          show upd _ _ _ _ = upd _ _ _ _
          rw [upd_eq, upd_eq, ej, nI_clamp (by omega)]
          split
          · rfl
          · exact pv i (by omega)
      · rw [ec]
        refine ⟨(dp k - 1, tA u (1015, 842) (upd (fA u (1015, 842)) (dp k - 2) (bothS (nI c) (fA u (1015, 842) (dp k - 2)) (fA u (1015, 842) (dp k - 1))))), ?_, pf.A _ rfl, by show dp k - 1 = _; omega, fun i hi => ?_⟩
        · simp (disch := omega) only [nLlt, naddm1, nsubL, nltL, bIn, rAn, both_ok, bnd_some, sAn, naddL, (show 1 < c by omega), if_true, (show dp k - 1 - 1 < 150 by omega), (show dp k - 1 < 150 by omega), decide_true, ck_tr]
          rw [show dp k - 1 - 1 = dp k - 2 by omega]
        · rw [evK_s]
          unfold evS
          rw [if_neg (by rw [ec]; intro e9; have := (nI_eq (a := c) (b := 0) (by omega) (by omega)).mp e9; omega), if_neg (by rw [ec]; intro e9; have := (nI_eq (a := c) (b := 1) (by omega) (by omega)).mp e9; omega), htk, fA_tA, if_pos rfl]
          show upd _ _ _ _ = upd _ _ _ _
          rw [upd_eq, upd_eq, ec, pv _ (by omega), pv _ (by omega)]
          split
          · rfl
          · exact pv i (by omega))
    L.1 fu 0 (0, w) (by omega) (by omega) ⟨Fr.rf _ _, h0.symm, fun j hj => by omega⟩
  refine ⟨b.2, ?_, e2⟩
  have e1 : f_X10_valueNow_4 fu fu 842 0 0 w = f_X10_valueNow_4 fu (n1 + 1) 842 (nI b.1) (nI L.1) b.2 := e1
  rw [e1, E_X10_valueNow_4, if_neg (by rw [(e2.2.1 (11032, 842) rfl).trans hc1, nlt _ _ (by omega) (by omega)]; omega)]
  simp (disch := omega) only [bIL, rAL, decide_true, ck_tr, (show 0 < 150 by omega)]
  rw [e4 0 (by omega)]
theorem if_clp (v : Int32) (w : MEM) : (if v < 0 then (some ((0 : Int32), w)) else (if (40 : Int32) < v then (some ((40 : Int32), w)) else (some (v, w)))) = some (clp v, w) := by
  unfold clp
  split
  · rfl
  · split <;> rfl
theorem cloudNow_M {w : MEM} {L : ALw} {fu : Nat} (hw : WFl L) (hm : LawM w L) (hfu : 200 ≤ fu) : ∃ w1, f_X10_cloudNow fu 842 w = some (clv L (fA w (1016, 842)), w1) ∧ Fr pStM w w1 := by
  rw [E_X10_cloudNow]
  rcases hm with ⟨h0, rfl⟩ | ⟨hp, h1, h2⟩
  · refine ⟨w, ?_, Fr.rf _ _⟩
    rw [if_pos h0]
    simp (disch := omega) only [bIL, rAL, decide_true, ck_tr, lt_eq, if_clp, (show 0 < 9 by omega), (show 1 < 9 by omega), (show 2 < 9 by omega)]
    unfold clv
    rw [show usual.1 = 7 from rfl, usual_ev]
  · obtain ⟨w1, e1, e2⟩ := value_M hw h1 h2 hfu
    refine ⟨w1, ?_, e2⟩
    rw [if_neg (by rw [h1]; exact nI_ne0 hp (by have := hw.1; omega)), e1, bnd_some, if_clp]
    rfl
def fct (b f t a c m hr s h : Int32) : Nat → Int32 := fun j => match j with
  | 0 => b
  | 1 => f
  | 2 => t
  | 3 => a
  | 4 => c
  | 5 => m
  | 6 => hr
  | 7 => s
  | _ => h
theorem i9 {j : Nat} (h : j < 9) : j = 0 ∨ j = 1 ∨ j = 2 ∨ j = 3 ∨ j = 4 ∨ j = 5 ∨ j = 6 ∨ j = 7 ∨ j = 8 := by omega
def pLM : LA → Bool := fun a => (Nat.beq a.1 1015 || Nat.beq a.1 1016) && Nat.beq a.2 842
def pLC (l : Nat) : LA → Bool := fun a => (Nat.beq a.1 303 || Nat.beq a.1 304) && Nat.beq a.2 l
theorem pStM_pLM (a : LA) (h : pStM a = true) : pLM a = true := by
  unfold pStM at h
  unfold pLM
  simp only [Bool.and_eq_true, Bool.or_eq_true] at h ⊢
  exact ⟨Or.inl h.1, h.2⟩
theorem pStC_pLC (l : Nat) (a : LA) (h : pStC l a = true) : pLC l a = true := by
  unfold pStC at h
  unfold pLC
  simp only [Bool.and_eq_true, Bool.or_eq_true] at h ⊢
  exact ⟨Or.inl h.1, h.2⟩
theorem pLC_at (l : Nat) : pLC l (304, l) = true := by
  unfold pLC
  simp
theorem LawM.fr {w w1 : MEM} {L : ALw} {P : LA → Bool} (h : LawM w L) (f : Fr P w w1) (h1 : P (11032, 842) = false) (h2 : P (1013, 842) = false) (h3 : P (1014, 842) = false) : LawM w1 L := by
  unfold LawM
  rw [f.2.1 _ h1, f.1 _ h2, f.1 _ h3]
  exact h
theorem LawC.fr {w w1 : MEM} {l : Nat} {L : ALw} {P : LA → Bool} (h : LawC w l L) (f : Fr P w w1) (h1 : P (10304, l) = false) (h2 : P (301, l) = false) (h3 : P (302, l) = false) : LawC w1 l L := by
  unfold LawC
  rw [f.2.1 _ h1, f.1 _ h2, f.1 _ h3]
  exact h
theorem cloudOf_M {w : MEM} {L : ALw} {fu : Nat} (hw : WFl L) (hm : LawM w L) (hfu : 200 ≤ fu) (b f t a c m hr s h : Int32) : ∃ w1, f_X10_cloudOf fu 842 b f t a c m hr s h w = some (clv L (fct b f t a c m hr s h), w1) ∧ Fr pLM w w1 := by
  rw [E_X10_cloudOf]
  simp (disch := omega) only [bIL, sAL, decide_true, ck_tr, lt_eq, fA_tA, tA_tA, if_true, (show 0 < 9 by omega), (show 1 < 9 by omega), (show 2 < 9 by omega), (show 3 < 9 by omega), (show 4 < 9 by omega), (show 5 < 9 by omega), (show 6 < 9 by omega), (show 7 < 9 by omega), (show 8 < 9 by omega)]
  generalize hg : upd (upd (upd (upd (upd (upd (upd (upd (upd (fA w (1016, 842)) 0 b) 1 f) 2 t) 3 a) 4 c) 5 m) 6 hr) 7 s) 8 h = g
  have fr : Fr pLM w (tA w (1016, 842) g) := (Fr.rf _ _).A _ rfl
  obtain ⟨w1, e1, e2⟩ := cloudNow_M hw (hm.fr fr rfl rfl rfl) hfu
  refine ⟨w1, ?_, fr.tr (e2.mono pStM_pLM)⟩
  rw [e1, bnd_some, fA_tA, if_pos rfl, clv_congr hw (g1 := fct b f t a c m hr s h)]
  intro j hj
  rw [← hg]
  rcases i9 hj with e | e | e | e | e | e | e | e | e <;> subst e <;> rfl
