theorem S_would (a0 a1 a2 a3 a4 a5 a6 a7 a8 : Int32) {w : MEM} (hI : INV w) : SIM KI (f_X9_would 3000 0 a0 a1 a2 a3 a4 a5 a6 a7 a8) (f_X10_would 3000 842 a0 a1 a2 a3 a4 a5 a6 a7 a8) w := by
  rcases wit 3000 a0 (lo := 1) (hi := 9) 1 9 rfl rfl (by omega) (by omega) with ⟨x0, y0⟩ | ⟨j0, l0, u0, rfl, x0, y0⟩
  · refine SIM_W hI 1 ?_ ?_ rfl
    · rw [E_X9_would, x0]; rfl
    · rw [E_X10_would, lt_eq, m0_eq, y0, bnd_some, if_pos rfl, may_W 3000 (by decide) (rS_m0 _), bnd_some, if_pos rfl]
  rcases wit 3000 a1 (lo := 0) (hi := 9) 0 9 rfl rfl (by omega) (by omega) with ⟨x1, y1⟩ | ⟨j1, l1, u1, rfl, x1, y1⟩
  · refine SIM_W hI 1 ?_ ?_ rfl
    · rw [E_X9_would, x0, bndT_inl, x1]; rfl
    · rw [E_X10_would, lt_eq, m0_eq, y0, bnd_some, if_neg (by decide), y1, bnd_some, if_pos rfl, may_W 3000 (by decide) (rS_m0 _), bnd_some, if_pos rfl]
  rcases wit 3000 a2 (lo := 0) (hi := 999) 0 999 rfl rfl (by omega) (by omega) with ⟨x2, y2⟩ | ⟨j2, l2, u2, rfl, x2, y2⟩
  · refine SIM_W hI 1 ?_ ?_ rfl
    · rw [E_X9_would, x0, bndT_inl, x1, bndT_inl, x2]; rfl
    · rw [E_X10_would, lt_eq, m0_eq, y0, bnd_some, if_neg (by decide), y1, bnd_some, if_neg (by decide), y2, bnd_some, if_pos rfl, may_W 3000 (by decide) (rS_m0 _), bnd_some, if_pos rfl]
  rcases wit 3000 a3 (lo := 0) (hi := 99) 0 99 rfl rfl (by omega) (by omega) with ⟨x3, y3⟩ | ⟨j3, l3, u3, rfl, x3, y3⟩
  · refine SIM_W hI 1 ?_ ?_ rfl
    · rw [E_X9_would, x0, bndT_inl, x1, bndT_inl, x2, bndT_inl, x3]; rfl
    · rw [E_X10_would, lt_eq, m0_eq, y0, bnd_some, if_neg (by decide), y1, bnd_some, if_neg (by decide), y2, bnd_some, if_neg (by decide), y3, bnd_some, if_pos rfl, may_W 3000 (by decide) (rS_m0 _), bnd_some, if_pos rfl]
  rcases wit 3000 a4 (lo := 0) (hi := 3) 0 3 rfl rfl (by omega) (by omega) with ⟨x4, y4⟩ | ⟨j4, l4, u4, rfl, x4, y4⟩
  · refine SIM_W hI 1 ?_ ?_ rfl
    · rw [E_X9_would, x0, bndT_inl, x1, bndT_inl, x2, bndT_inl, x3, bndT_inl, x4]; rfl
    · rw [E_X10_would, lt_eq, m0_eq, y0, bnd_some, if_neg (by decide), y1, bnd_some, if_neg (by decide), y2, bnd_some, if_neg (by decide), y3, bnd_some, if_neg (by decide), y4, bnd_some, if_pos rfl, may_W 3000 (by decide) (rS_m0 _), bnd_some, if_pos rfl]
  rcases wit 3000 a5 (lo := 0) (hi := 99) 0 99 rfl rfl (by omega) (by omega) with ⟨x5, y5⟩ | ⟨j5, l5, u5, rfl, x5, y5⟩
  · refine SIM_W hI 1 ?_ ?_ rfl
    · rw [E_X9_would, x0, bndT_inl, x1, bndT_inl, x2, bndT_inl, x3, bndT_inl, x4, bndT_inl, x5]; rfl
    · rw [E_X10_would, lt_eq, m0_eq, y0, bnd_some, if_neg (by decide), y1, bnd_some, if_neg (by decide), y2, bnd_some, if_neg (by decide), y3, bnd_some, if_neg (by decide), y4, bnd_some, if_neg (by decide), y5, bnd_some, if_pos rfl, may_W 3000 (by decide) (rS_m0 _), bnd_some, if_pos rfl]
  rcases wit 3000 a6 (lo := 0) (hi := 23) 0 23 rfl rfl (by omega) (by omega) with ⟨x6, y6⟩ | ⟨j6, l6, u6, rfl, x6, y6⟩
  · refine SIM_W hI 1 ?_ ?_ rfl
    · rw [E_X9_would, x0, bndT_inl, x1, bndT_inl, x2, bndT_inl, x3, bndT_inl, x4, bndT_inl, x5, bndT_inl, x6]; rfl
    · rw [E_X10_would, lt_eq, m0_eq, y0, bnd_some, if_neg (by decide), y1, bnd_some, if_neg (by decide), y2, bnd_some, if_neg (by decide), y3, bnd_some, if_neg (by decide), y4, bnd_some, if_neg (by decide), y5, bnd_some, if_neg (by decide), y6, bnd_some, if_pos rfl, may_W 3000 (by decide) (rS_m0 _), bnd_some, if_pos rfl]
  rcases wit 3000 a7 (lo := 0) (hi := 1) 0 1 rfl rfl (by omega) (by omega) with ⟨x7, y7⟩ | ⟨j7, l7, u7, rfl, x7, y7⟩
  · refine SIM_W hI 1 ?_ ?_ rfl
    · rw [E_X9_would, x0, bndT_inl, x1, bndT_inl, x2, bndT_inl, x3, bndT_inl, x4, bndT_inl, x5, bndT_inl, x6, bndT_inl, x7]; rfl
    · rw [E_X10_would, lt_eq, m0_eq, y0, bnd_some, if_neg (by decide), y1, bnd_some, if_neg (by decide), y2, bnd_some, if_neg (by decide), y3, bnd_some, if_neg (by decide), y4, bnd_some, if_neg (by decide), y5, bnd_some, if_neg (by decide), y6, bnd_some, if_neg (by decide), y7, bnd_some, if_pos rfl, may_W 3000 (by decide) (rS_m0 _), bnd_some, if_pos rfl]
  rcases wit 3000 a8 (lo := 0) (hi := 6) 0 6 rfl rfl (by omega) (by omega) with ⟨x8, y8⟩ | ⟨j8, l8, u8, rfl, x8, y8⟩
  · refine SIM_W hI 1 ?_ ?_ rfl
    · rw [E_X9_would, x0, bndT_inl, x1, bndT_inl, x2, bndT_inl, x3, bndT_inl, x4, bndT_inl, x5, bndT_inl, x6, bndT_inl, x7, bndT_inl, x8]; rfl
    · rw [E_X10_would, lt_eq, m0_eq, y0, bnd_some, if_neg (by decide), y1, bnd_some, if_neg (by decide), y2, bnd_some, if_neg (by decide), y3, bnd_some, if_neg (by decide), y4, bnd_some, if_neg (by decide), y5, bnd_some, if_neg (by decide), y6, bnd_some, if_neg (by decide), y7, bnd_some, if_neg (by decide), y8, bnd_some, if_pos rfl, may_W 3000 (by decide) (rS_m0 _), bnd_some, if_pos rfl]
  have h := hI
  obtain ⟨C, c, l, b, hr, hc, hk⟩ := h
  have hw := hc.1
  have hwl := hw.2.2.2.2.2.1
  have hL := hc.2.1.2.2.2.2.2.2.2.2
  generalize hg : upd (upd (upd (upd (upd (upd (upd (upd (upd (fA w (304, l)) 0 (nI j0)) 1 (nI j1)) 8 (nI j8)) 2 (nI j2)) 3 (nI j3)) 4 (nI j4)) 5 (nI j5)) 6 (nI j6)) 7 (nI j7) = g
  have fr : Fr (pLC l) w (tA w (304, l) g) := (Fr.rf _ _).A _ (pLC_at l)
  obtain ⟨w1, k1, k2⟩ := comes_C (L := cL C) (fu := 3000) hwl (hL.fr fr rfl rfl rfl) (by omega)
  have f1 : Fr scr w w1 := (fr.mono (pLC_scr l)).tr (k2.mono (fun a h => pLC_scr l a (pStC_pLC l a h)))
  have hm1 := (hc.fr f1.m0.K).2.2.1
  obtain ⟨w2, k3, k4⟩ := cloudOf_M (L := cL C) (fu := 3000) hwl hm1.2.2.2.2.2.2.2 (by omega) (nI j0) (nI j1) (nI j2) (nI j3) (nI j4) (nI j5) (nI j6) (nI j7) (nI j8)
  have f2 : Fr scr w1 w2 := (m0_fr w1).tr (k4.mono pLM_scr)
  refine SIM_ok (w1 := w1) (w2 := w2) hI ?_ f1 (?_ : f_X10_would 3000 842 (nI j0) (nI j1) (nI j2) (nI j3) (nI j4) (nI j5) (nI j6) (nI j7) (nI j8) w1 = some (clv (cL C) (fct (nI j0) (nI j1) (nI j2) (nI j3) (nI j4) (nI j5) (nI j6) (nI j7) (nI j8)), w2)) f2 ((k4.2.1 _ rfl).trans (rS_m0 _))
  · rw [E_X9_would, x0, bndT_inl, x1, bndT_inl, x2, bndT_inl, x3, bndT_inl, x4, bndT_inl, x5, bndT_inl, x6, bndT_inl, x7, bndT_inl, x8, bndT_inl, hr.2.1]
    simp (disch := omega) only [E_X3_setHeir, E_X3_setGlass, E_X3_setHour, bIL, lt_eq, bnd_some, sAL, fA_tA, tA_tA, if_true, decide_true, ck_tr, rT_tA, hr.2.1, (show 0 < 9 by omega), (show 1 < 9 by omega), (show 2 < 9 by omega), (show 3 < 9 by omega), (show 4 < 9 by omega), (show 5 < 9 by omega), (show 6 < 9 by omega), (show 7 < 9 by omega), (show 8 < 9 by omega)]
    rw [hg, k1, bnd_some, fA_tA, if_pos rfl, clv_congr hwl (g1 := fct (nI j0) (nI j1) (nI j2) (nI j3) (nI j4) (nI j5) (nI j6) (nI j7) (nI j8))]
    intro j hj
    rw [← hg]
    rcases i9 hj with e | e | e | e | e | e | e | e | e <;> subst e <;> rfl
  · rw [E_X10_would, lt_eq, m0_eq, y0, bnd_some, if_neg (by decide), y1, bnd_some, if_neg (by decide), y2, bnd_some, if_neg (by decide), y3, bnd_some, if_neg (by decide), y4, bnd_some, if_neg (by decide), y5, bnd_some, if_neg (by decide), y6, bnd_some, if_neg (by decide), y7, bnd_some, if_neg (by decide), y8, bnd_some, if_neg (by decide), may_1 3000 _ _ (rS_m0 _), bnd_some, if_neg (by decide), k3, bnd_some]
