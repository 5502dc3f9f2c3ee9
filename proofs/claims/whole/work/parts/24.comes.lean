theorem beq_rf (a : Nat) : Nat.beq a a = true := Nat.beq_refl a
theorem pStC_at (l : Nat) : pStC l (303, l) = true := by
  unfold pStC
  simp
theorem lt31 {a b : Nat} (h : a < b) (hb : b ≤ 2000000) : a < 2 ^ 31 := by omega
theorem comes_C {w : MEM} {l : Nat} {L : ALw} {fu : Nat} (hw : WFl L) (hc : LawC w l L) (hfu : 200 ≤ fu) : ∃ w1, f_X3_comes fu l w = some (clv L (fA w (304, l)), w1) ∧ Fr (pStC l) w w1 := by
  obtain ⟨hn, dp, h0, h1, hs⟩ := hw
  obtain ⟨hc1, hc2⟩ := hc
  have hd := dp_le h0 hs
  have ht := evK_top (g := fA w (304, l)) h0 hs
  rw [E_X3_comes]
  obtain ⟨b, n1, e1, e2, e3, e4⟩ := for_rel (F := fun n i (a : Nat × MEM) => f_X3_comes_4 fu n l (nI a.1) i a.2) (N := L.1)
    (fun k a => Fr (pStC l) w a.2 ∧ a.1 = dp k ∧ ∀ j < dp k, fA a.2 (303, l) j = (evK L (fA w (304, l)) k).2 j)
    (fun n k a hk p => by
      obtain ⟨pf, pt, pv⟩ := p
      obtain ⟨t, u⟩ := a
      have pt : t = dp k := pt
      subst pt
      have f1 : rS u (10304, l) = nI L.1 := (pf.2.1 _ rfl).trans hc1
      have f2 : fA u (301, l) k = kmap (L.2.1 k) := by rw [pf.1 (301, l) rfl]; exact (hc2 k hk).1
      have f3 : fA u (302, l) k = L.2.2 k := by rw [pf.1 (302, l) rfl]; exact (hc2 k hk).2
      have f4 : fA u (304, l) = fA w (304, l) := pf.1 (304, l) rfl
      have hdk := hd k (Nat.le_of_lt hk)
      have htk := ht k (Nat.le_of_lt hk)
      show ∃ b : Nat × MEM, f_X3_comes_4 fu (n + 1) l (nI (dp k)) (nI k) u = f_X3_comes_4 fu n l (nI b.1) (nI (k + 1)) b.2 ∧ _
      rw [E_X3_comes_4]
      simp (disch := omega) only [f1, nlt, nltL, hk, bIn, rAn, lt_eq, f2, f3, if_true, decide_true, ck_tr, (show dp k < 150 by omega), (show k < 150 by omega)]
      rcases hs k hk with ⟨hA | ⟨hA, j, hj, ej⟩, e⟩ | ⟨⟨c, c1, c2, ec⟩, h2, e⟩
      · rw [hA, show kmap 0 = 0 from rfl, if_pos rfl]
        refine ⟨(dp k + 1, tA u (303, l) (upd (fA u (303, l)) (dp k) (L.2.2 k))), ?_, pf.A _ (pStC_at l), e.symm, fun j hj => ?_⟩
        · simp (disch := omega) only [sAn, naddL]
        · rw [evK_s]
          unfold evS
          rw [if_pos hA, htk, fA_tA, if_pos rfl]
          show upd _ _ _ _ = upd _ _ _ _
          rw [upd_eq, upd_eq]
          split
          · rfl
          · exact pv j (by omega)
      · rw [hA, show kmap 1 = 1 from rfl, if_neg (by decide), if_pos rfl, ej]
        refine ⟨(dp k + 1, tA u (303, l) (upd (fA u (303, l)) (dp k) (fA w (304, l) j))), ?_, pf.A _ (pStC_at l), e.symm, fun i hi => ?_⟩
        · simp (disch := omega) only [sAn, naddL, nltL, rAn, bIn, hj, if_true, decide_true, ck_tr, f4, (show ¬ j < 0 by omega), if_false]
        · rw [evK_s]
          unfold evS
          rw [if_neg (by rw [hA]; decide), if_pos hA, htk, fA_tA, if_pos rfl]
          show upd _ _ _ _ = upd _ _ _ _
          rw [upd_eq, upd_eq, ej, nI_clamp (by omega)]
          split
          · rfl
          · exact pv i (by omega)
      · have k0 : ¬ kmap (nI c) = 0 := by rcases i8 c1 c2 with e | e | e | e | e | e | e <;> subst e <;> decide
        have k1 : ¬ kmap (nI c) = 1 := by rcases i8 c1 c2 with e | e | e | e | e | e | e <;> subst e <;> decide
        rw [ec, if_neg k0, if_neg k1]
        refine ⟨(dp k - 1, tA u (303, l) (upd (fA u (303, l)) (dp k - 2) (bothS (nI c) (fA u (303, l) (dp k - 2)) (fA u (303, l) (dp k - 1))))), ?_, pf.A _ (pStC_at l), by show dp k - 1 = _; omega, fun i hi => ?_⟩
        · simp (disch := omega) only [naddm1, nsubL, nltL, bIn, rAn, joined_ok, bnd_some, sAn, naddL, (show ¬ dp k < 2 by omega), if_false, (show dp k - 1 - 1 < 150 by omega), (show dp k - 1 < 150 by omega), decide_true, ck_tr]
          rw [show dp k - 1 - 1 = dp k - 2 by omega]
        · rw [evK_s]
          unfold evS
          rw [if_neg (by rw [ec]; intro e9; have := (nI_eq (a := c) (b := 0) (by omega) (by omega)).mp e9; omega), if_neg (by rw [ec]; intro e9; have := (nI_eq (a := c) (b := 1) (by omega) (by omega)).mp e9; omega), htk, fA_tA, if_pos rfl]
          show upd _ _ _ _ = upd _ _ _ _
          rw [upd_eq, upd_eq, ec, pv _ (by omega), pv _ (by omega)]
          split
          · rfl
          · exact pv i (by omega))
    L.1 fu 0 (0, w) (by omega) (by omega) ⟨Fr.rf _ _, h0.symm, fun j hj => by omega⟩
  refine ⟨b.2, ?_, e2⟩
  have e1 : f_X3_comes_4 fu fu l 0 0 w = f_X3_comes_4 fu (n1 + 1) l (nI b.1) (nI L.1) b.2 := e1
  rw [e1, E_X3_comes_4, if_neg (by rw [(e2.2.1 (10304, l) rfl).trans hc1, nlt _ _ (by omega) (by omega)]; omega)]
  simp (disch := omega) only [bIL, rAL, decide_true, ck_tr, clp_C, (show 0 < 150 by omega)]
  unfold clv
  rw [e4 0 (by omega)]
