/-! the law's wrappers -/
theorem ca_0 : Cond.castable "java/lang/IllegalArgumentException" "java/lang/IllegalArgumentException" ∈ NB := nb 586 (by decide +kernel) rfl
theorem ca_1 : Cond.castable "java/util/NoSuchElementException" "java/util/NoSuchElementException" ∈ NB := nb 1009 (by decide +kernel) rfl
def LQ (X : SCR) (o : Int32 ⊕ Nat) (K : Nat → Option Int32) (w1 : MEM) : PO → PH → Prop := fun r h1 => (∃ v, o = .inl v ∧ r = .inl (some (vI 0)) ∧ WH (X.1, (X.2.1, vp_updL X.2.2 (0 : Int32).toNatClampNeg v.toInt64)) h1 w1) ∨ (∃ e t, o = .inr e ∧ K e = some t ∧ r = .inl (some (vI t)) ∧ WH X h1 w1)
theorem dh_rank_12 : decode cL_rank 12 = .ok (.astore_n 3, 1) := by decide +kernel
theorem dh_rank_13 : decode cL_rank 13 = .ok (.iconst 1, 1) := by decide +kernel
theorem dh_rank_14 : decode cL_rank 14 = .ok (.ireturn, 1) := by decide +kernel
theorem c_L_rank {X : SCR} {fu : Nat} {o : Int32 ⊕ Nat} {w1 : MEM} {a1 : Int32} {w : MEM} {h : PH} (wh : WH X h w) (hF : f_X9_rank fu 0 a1 w = some (o, w1)) (hK : ∀ e, o = .inr e → ∃ t, KI e = some t) : CT 9 M_L_rank [vR (900, 0), vI a1, vR (1101, 870)] h 1 6 (LQ X o KI w1) := by
  refine CT_ofH (by decide) mk_L_rank (Nat.le_of_ble_eq_true rfl) rfl (r_L_rank_0 ⟨⟨_, wh.2.1 10900 0 rfl rfl⟩, ?_⟩)
  cases o with
  | inl v =>
    refine cl_TI (D := 8) (nc := 1) (ns := 6) (rc := 0) (rs := 0) (Nat.le_refl _) (c_X9_rank wh rfl hF) (fun h1 wh1 => ?_)
    exact ⟨1, X.2.2, wh1.2.2.2.2.2.2.2.1, bI_in (by decide), Or.inl ⟨v, rfl, rfl, wh1.L _⟩⟩
  | inr e =>
    obtain ⟨t, ht⟩ := hK e rfl
    refine cl_TX (D := 8) (nc := 1) (ns := 6) (rc := 0) (rs := 0) (Nat.le_refl _) (c_X9_rank wh rfl hF) (fun h1 wh1 => ?_)
    cases e with
    | zero =>
      refine PX_catch1 (i := 3) (ls2 := [vR (900, 0), vI a1, vR (1101, 870), vU]) rfl ⟨by decide, by decide⟩ (by decide) l_L_13 ca_0 (by decide) (Or.inr (fun z q => by cases q)) rfl dh_rank_12 (Or.inl ⟨(3 : Fin 4), rfl, rfl, rfl⟩) ?_
      refine P_iconst (v := (1 : Int32)) (pc := 13) dh_rank_13 (by decide) ?_
      exact R_ireturn (pc := 14) dh_rank_14 rfl rfl (Or.inr ⟨0, 1, rfl, rfl, rfl, wh1⟩)
    | succ e =>
      cases ht
theorem dh_told_12 : decode cL_told 12 = .ok (.astore_n 3, 1) := by decide +kernel
theorem dh_told_13 : decode cL_told 13 = .ok (.iconst 1, 1) := by decide +kernel
theorem dh_told_14 : decode cL_told 14 = .ok (.ireturn, 1) := by decide +kernel
theorem c_L_told {X : SCR} {fu : Nat} {o : Int32 ⊕ Nat} {w1 : MEM} {a1 : Int32} {w : MEM} {h : PH} (wh : WH X h w) (hF : f_X9_told fu 0 a1 w = some (o, w1)) (hK : ∀ e, o = .inr e → ∃ t, KI e = some t) : CT 9 M_L_told [vR (900, 0), vI a1, vR (1101, 870)] h 1 6 (LQ X o KI w1) := by
  refine CT_ofH (by decide) mk_L_told (Nat.le_of_ble_eq_true rfl) rfl (r_L_told_0 ⟨⟨_, wh.2.1 10900 0 rfl rfl⟩, ?_⟩)
  cases o with
  | inl v =>
    refine cl_TI (D := 8) (nc := 1) (ns := 6) (rc := 0) (rs := 0) (Nat.le_refl _) (c_X9_told wh rfl hF) (fun h1 wh1 => ?_)
    exact ⟨1, X.2.2, wh1.2.2.2.2.2.2.2.1, bI_in (by decide), Or.inl ⟨v, rfl, rfl, wh1.L _⟩⟩
  | inr e =>
    obtain ⟨t, ht⟩ := hK e rfl
    refine cl_TX (D := 8) (nc := 1) (ns := 6) (rc := 0) (rs := 0) (Nat.le_refl _) (c_X9_told wh rfl hF) (fun h1 wh1 => ?_)
    cases e with
    | zero =>
      refine PX_catch1 (i := 3) (ls2 := [vR (900, 0), vI a1, vR (1101, 870), vU]) rfl ⟨by decide, by decide⟩ (by decide) l_L_13 ca_0 (by decide) (Or.inr (fun z q => by cases q)) rfl dh_told_12 (Or.inl ⟨(3 : Fin 4), rfl, rfl, rfl⟩) ?_
      refine P_iconst (v := (1 : Int32)) (pc := 13) dh_told_13 (by decide) ?_
      exact R_ireturn (pc := 14) dh_told_14 rfl rfl (Or.inr ⟨0, 1, rfl, rfl, rfl, wh1⟩)
    | succ e =>
      cases ht
theorem dh_heir_13 : decode cL_heir 13 = .ok (.astore 4, 2) := by decide +kernel
theorem dh_heir_15 : decode cL_heir 15 = .ok (.iconst 1, 1) := by decide +kernel
theorem dh_heir_16 : decode cL_heir 16 = .ok (.ireturn, 1) := by decide +kernel
theorem dh_heir_17 : decode cL_heir 17 = .ok (.astore 4, 2) := by decide +kernel
theorem dh_heir_19 : decode cL_heir 19 = .ok (.iconst 2, 1) := by decide +kernel
theorem dh_heir_20 : decode cL_heir 20 = .ok (.ireturn, 1) := by decide +kernel
theorem c_L_heir {X : SCR} {fu : Nat} {o : Int32 ⊕ Nat} {w1 : MEM} {a1 : Int32} {a2 : Int32} {w : MEM} {h : PH} (wh : WH X h w) (hF : f_X9_heir fu 0 a1 a2 w = some (o, w1)) (hK : ∀ e, o = .inr e → ∃ t, KB e = some t) : CT 9 M_L_heir [vR (900, 0), vI a1, vI a2, vR (1101, 870)] h 2 12 (LQ X o KB w1) := by
  refine CT_ofH (by decide) mk_L_heir (Nat.le_of_ble_eq_true rfl) rfl (r_L_heir_0 ⟨⟨_, wh.2.1 10900 0 rfl rfl⟩, ?_⟩)
  cases o with
  | inl v =>
    refine cl_TI (D := 8) (nc := 2) (ns := 12) (rc := 0) (rs := 0) (Nat.le_refl _) (c_X9_heir wh rfl hF) (fun h1 wh1 => ?_)
    exact ⟨1, X.2.2, wh1.2.2.2.2.2.2.2.1, bI_in (by decide), Or.inl ⟨v, rfl, rfl, wh1.L _⟩⟩
  | inr e =>
    obtain ⟨t, ht⟩ := hK e rfl
    refine cl_TX (D := 8) (nc := 2) (ns := 12) (rc := 0) (rs := 0) (Nat.le_refl _) (c_X9_heir wh rfl hF) (fun h1 wh1 => ?_)
    cases e with
    | zero =>
      refine PX_catch2 (i := 4) (ls2 := [vR (900, 0), vI a1, vI a2, vR (1101, 870), vU]) rfl (by decide) l_L_31 ⟨by decide, by decide⟩ (by decide) l_L_13 ca_0 (by decide) (Or.inr (fun z q => by cases q)) rfl dh_heir_17 (Or.inr ⟨rfl, rfl⟩) ?_
      refine P_iconst (v := (2 : Int32)) (pc := 19) dh_heir_19 (by decide) ?_
      exact R_ireturn (pc := 20) dh_heir_20 rfl rfl (Or.inr ⟨0, 2, rfl, rfl, rfl, wh1⟩)
    | succ e =>
      refine PX_catch1 (i := 4) (ls2 := [vR (900, 0), vI a1, vI a2, vR (1101, 870), vU]) rfl ⟨by decide, by decide⟩ (by decide) l_L_31 ca_1 (by decide) (Or.inr (fun z q => by cases q)) rfl dh_heir_13 (Or.inr ⟨rfl, rfl⟩) ?_
      refine P_iconst (v := (1 : Int32)) (pc := 15) dh_heir_15 (by decide) ?_
      exact R_ireturn (pc := 16) dh_heir_16 rfl rfl (Or.inr ⟨_, 1, rfl, rfl, rfl, wh1⟩)
theorem dh_two_13 : decode cL_two 13 = .ok (.astore 4, 2) := by decide +kernel
theorem dh_two_15 : decode cL_two 15 = .ok (.iconst 1, 1) := by decide +kernel
theorem dh_two_16 : decode cL_two 16 = .ok (.ireturn, 1) := by decide +kernel
theorem dh_two_17 : decode cL_two 17 = .ok (.astore 4, 2) := by decide +kernel
theorem dh_two_19 : decode cL_two 19 = .ok (.iconst 2, 1) := by decide +kernel
theorem dh_two_20 : decode cL_two 20 = .ok (.ireturn, 1) := by decide +kernel
theorem c_L_two {X : SCR} {fu : Nat} {o : Int32 ⊕ Nat} {w1 : MEM} {a1 : Int32} {a2 : Int32} {w : MEM} {h : PH} (wh : WH X h w) (hF : f_X9_two fu 0 a1 a2 w = some (o, w1)) (hK : ∀ e, o = .inr e → ∃ t, KB e = some t) : CT 9 M_L_two [vR (900, 0), vI a1, vI a2, vR (1101, 870)] h 2 12 (LQ X o KB w1) := by
  refine CT_ofH (by decide) mk_L_two (Nat.le_of_ble_eq_true rfl) rfl (r_L_two_0 ⟨⟨_, wh.2.1 10900 0 rfl rfl⟩, ?_⟩)
  cases o with
  | inl v =>
    refine cl_TI (D := 8) (nc := 2) (ns := 12) (rc := 0) (rs := 0) (Nat.le_refl _) (c_X9_two wh rfl hF) (fun h1 wh1 => ?_)
    exact ⟨1, X.2.2, wh1.2.2.2.2.2.2.2.1, bI_in (by decide), Or.inl ⟨v, rfl, rfl, wh1.L _⟩⟩
  | inr e =>
    obtain ⟨t, ht⟩ := hK e rfl
    refine cl_TX (D := 8) (nc := 2) (ns := 12) (rc := 0) (rs := 0) (Nat.le_refl _) (c_X9_two wh rfl hF) (fun h1 wh1 => ?_)
    cases e with
    | zero =>
      refine PX_catch2 (i := 4) (ls2 := [vR (900, 0), vI a1, vI a2, vR (1101, 870), vU]) rfl (by decide) l_L_31 ⟨by decide, by decide⟩ (by decide) l_L_13 ca_0 (by decide) (Or.inr (fun z q => by cases q)) rfl dh_two_17 (Or.inr ⟨rfl, rfl⟩) ?_
      refine P_iconst (v := (2 : Int32)) (pc := 19) dh_two_19 (by decide) ?_
      exact R_ireturn (pc := 20) dh_two_20 rfl rfl (Or.inr ⟨0, 2, rfl, rfl, rfl, wh1⟩)
    | succ e =>
      refine PX_catch1 (i := 4) (ls2 := [vR (900, 0), vI a1, vI a2, vR (1101, 870), vU]) rfl ⟨by decide, by decide⟩ (by decide) l_L_31 ca_1 (by decide) (Or.inr (fun z q => by cases q)) rfl dh_two_13 (Or.inr ⟨rfl, rfl⟩) ?_
      refine P_iconst (v := (1 : Int32)) (pc := 15) dh_two_15 (by decide) ?_
      exact R_ireturn (pc := 16) dh_two_16 rfl rfl (Or.inr ⟨_, 1, rfl, rfl, rfl, wh1⟩)
theorem dh_keeper_13 : decode cL_keeper 13 = .ok (.astore 4, 2) := by decide +kernel
theorem dh_keeper_15 : decode cL_keeper 15 = .ok (.iconst 1, 1) := by decide +kernel
theorem dh_keeper_16 : decode cL_keeper 16 = .ok (.ireturn, 1) := by decide +kernel
theorem dh_keeper_17 : decode cL_keeper 17 = .ok (.astore 4, 2) := by decide +kernel
theorem dh_keeper_19 : decode cL_keeper 19 = .ok (.iconst 2, 1) := by decide +kernel
theorem dh_keeper_20 : decode cL_keeper 20 = .ok (.ireturn, 1) := by decide +kernel
theorem c_L_keeper {X : SCR} {fu : Nat} {o : Int32 ⊕ Nat} {w1 : MEM} {a1 : Int32} {a2 : Int32} {w : MEM} {h : PH} (wh : WH X h w) (hF : f_X9_keeper fu 0 a1 a2 w = some (o, w1)) (hK : ∀ e, o = .inr e → ∃ t, KB e = some t) : CT 9 M_L_keeper [vR (900, 0), vI a1, vI a2, vR (1101, 870)] h 2 12 (LQ X o KB w1) := by
  refine CT_ofH (by decide) mk_L_keeper (Nat.le_of_ble_eq_true rfl) rfl (r_L_keeper_0 ⟨⟨_, wh.2.1 10900 0 rfl rfl⟩, ?_⟩)
  cases o with
  | inl v =>
    refine cl_TI (D := 8) (nc := 2) (ns := 12) (rc := 0) (rs := 0) (Nat.le_refl _) (c_X9_keeper wh rfl hF) (fun h1 wh1 => ?_)
    exact ⟨1, X.2.2, wh1.2.2.2.2.2.2.2.1, bI_in (by decide), Or.inl ⟨v, rfl, rfl, wh1.L _⟩⟩
  | inr e =>
    obtain ⟨t, ht⟩ := hK e rfl
    refine cl_TX (D := 8) (nc := 2) (ns := 12) (rc := 0) (rs := 0) (Nat.le_refl _) (c_X9_keeper wh rfl hF) (fun h1 wh1 => ?_)
    cases e with
    | zero =>
      refine PX_catch2 (i := 4) (ls2 := [vR (900, 0), vI a1, vI a2, vR (1101, 870), vU]) rfl (by decide) l_L_31 ⟨by decide, by decide⟩ (by decide) l_L_13 ca_0 (by decide) (Or.inr (fun z q => by cases q)) rfl dh_keeper_17 (Or.inr ⟨rfl, rfl⟩) ?_
      refine P_iconst (v := (2 : Int32)) (pc := 19) dh_keeper_19 (by decide) ?_
      exact R_ireturn (pc := 20) dh_keeper_20 rfl rfl (Or.inr ⟨0, 2, rfl, rfl, rfl, wh1⟩)
    | succ e =>
      refine PX_catch1 (i := 4) (ls2 := [vR (900, 0), vI a1, vI a2, vR (1101, 870), vU]) rfl ⟨by decide, by decide⟩ (by decide) l_L_31 ca_1 (by decide) (Or.inr (fun z q => by cases q)) rfl dh_keeper_13 (Or.inr ⟨rfl, rfl⟩) ?_
      refine P_iconst (v := (1 : Int32)) (pc := 15) dh_keeper_15 (by decide) ?_
      exact R_ireturn (pc := 16) dh_keeper_16 rfl rfl (Or.inr ⟨_, 1, rfl, rfl, rfl, wh1⟩)
theorem dh_cloud_12 : decode cL_cloud 12 = .ok (.astore_n 3, 1) := by decide +kernel
theorem dh_cloud_13 : decode cL_cloud 13 = .ok (.iconst 1, 1) := by decide +kernel
theorem dh_cloud_14 : decode cL_cloud 14 = .ok (.ireturn, 1) := by decide +kernel
theorem c_L_cloud {X : SCR} {fu : Nat} {o : Int32 ⊕ Nat} {w1 : MEM} {a1 : Int32} {w : MEM} {h : PH} (wh : WH X h w) (hF : f_X9_cloud fu 0 a1 w = some (o, w1)) (hK : ∀ e, o = .inr e → ∃ t, KN e = some t) : CT 9 M_L_cloud [vR (900, 0), vI a1, vR (1101, 870)] h 1 6 (LQ X o KN w1) := by
  refine CT_ofH (by decide) mk_L_cloud (Nat.le_of_ble_eq_true rfl) rfl (r_L_cloud_0 ⟨⟨_, wh.2.1 10900 0 rfl rfl⟩, ?_⟩)
  cases o with
  | inl v =>
    refine cl_TI (D := 8) (nc := 1) (ns := 6) (rc := 0) (rs := 0) (Nat.le_refl _) (c_X9_cloud wh rfl hF) (fun h1 wh1 => ?_)
    exact ⟨1, X.2.2, wh1.2.2.2.2.2.2.2.1, bI_in (by decide), Or.inl ⟨v, rfl, rfl, wh1.L _⟩⟩
  | inr e =>
    obtain ⟨t, ht⟩ := hK e rfl
    refine cl_TX (D := 8) (nc := 1) (ns := 6) (rc := 0) (rs := 0) (Nat.le_refl _) (c_X9_cloud wh rfl hF) (fun h1 wh1 => ?_)
    cases e with
    | zero =>
      cases ht
    | succ e =>
      refine PX_catch1 (i := 3) (ls2 := [vR (900, 0), vI a1, vR (1101, 870), vU]) rfl ⟨by decide, by decide⟩ (by decide) l_L_31 ca_1 (by decide) (Or.inr (fun z q => by cases q)) rfl dh_cloud_12 (Or.inl ⟨(3 : Fin 4), rfl, rfl, rfl⟩) ?_
      refine P_iconst (v := (1 : Int32)) (pc := 13) dh_cloud_13 (by decide) ?_
      exact R_ireturn (pc := 14) dh_cloud_14 rfl rfl (Or.inr ⟨_, 1, rfl, rfl, rfl, wh1⟩)
theorem dh_would_27 : decode cL_would 27 = .ok (.astore 11, 2) := by decide +kernel
theorem dh_would_29 : decode cL_would 29 = .ok (.iconst 1, 1) := by decide +kernel
theorem dh_would_30 : decode cL_would 30 = .ok (.ireturn, 1) := by decide +kernel
theorem c_L_would {X : SCR} {fu : Nat} {o : Int32 ⊕ Nat} {w1 : MEM} {a1 : Int32} {a2 : Int32} {a3 : Int32} {a4 : Int32} {a5 : Int32} {a6 : Int32} {a7 : Int32} {a8 : Int32} {a9 : Int32} {w : MEM} {h : PH} (wh : WH X h w) (hF : f_X9_would fu 0 a1 a2 a3 a4 a5 a6 a7 a8 a9 w = some (o, w1)) (hK : ∀ e, o = .inr e → ∃ t, KI e = some t) : CT 9 M_L_would [vR (900, 0), vI a1, vI a2, vI a3, vI a4, vI a5, vI a6, vI a7, vI a8, vI a9, vR (1101, 870)] h 9 54 (LQ X o KI w1) := by
  refine CT_ofH (by decide) mk_L_would (Nat.le_of_ble_eq_true rfl) rfl (r_L_would_0 ⟨⟨_, wh.2.1 10900 0 rfl rfl⟩, ?_⟩)
  cases o with
  | inl v =>
    refine cl_TI (D := 8) (nc := 9) (ns := 54) (rc := 0) (rs := 0) (Nat.le_refl _) (c_X9_would wh rfl hF) (fun h1 wh1 => ?_)
    exact ⟨1, X.2.2, wh1.2.2.2.2.2.2.2.1, bI_in (by decide), Or.inl ⟨v, rfl, rfl, wh1.L _⟩⟩
  | inr e =>
    obtain ⟨t, ht⟩ := hK e rfl
    refine cl_TX (D := 8) (nc := 9) (ns := 54) (rc := 0) (rs := 0) (Nat.le_refl _) (c_X9_would wh rfl hF) (fun h1 wh1 => ?_)
    cases e with
    | zero =>
      refine PX_catch1 (i := 11) (ls2 := [vR (900, 0), vI a1, vI a2, vI a3, vI a4, vI a5, vI a6, vI a7, vI a8, vI a9, vR (1101, 870), vU]) rfl ⟨by decide, by decide⟩ (by decide) l_L_13 ca_0 (by decide) (Or.inr (fun z q => by cases q)) rfl dh_would_27 (Or.inr ⟨rfl, rfl⟩) ?_
      refine P_iconst (v := (1 : Int32)) (pc := 29) dh_would_29 (by decide) ?_
      exact R_ireturn (pc := 30) dh_would_30 rfl rfl (Or.inr ⟨0, 1, rfl, rfl, rfl, wh1⟩)
    | succ e =>
      cases ht
theorem dh_greenest_12 : decode cL_greenest 12 = .ok (.astore_n 3, 1) := by decide +kernel
theorem dh_greenest_13 : decode cL_greenest 13 = .ok (.iconst 1, 1) := by decide +kernel
theorem dh_greenest_14 : decode cL_greenest 14 = .ok (.ireturn, 1) := by decide +kernel
theorem c_L_greenest {X : SCR} {fu : Nat} {o : Int32 ⊕ Nat} {w1 : MEM} {a1 : Int32} {w : MEM} {h : PH} (wh : WH X h w) (hF : f_X9_greenest fu 0 a1 w = some (o, w1)) (hK : ∀ e, o = .inr e → ∃ t, KI e = some t) : CT 9 M_L_greenest [vR (900, 0), vI a1, vR (1101, 870)] h 1 6 (LQ X o KI w1) := by
  refine CT_ofH (by decide) mk_L_greenest (Nat.le_of_ble_eq_true rfl) rfl (r_L_greenest_0 ⟨⟨_, wh.2.1 10900 0 rfl rfl⟩, ?_⟩)
  cases o with
  | inl v =>
    refine cl_TI (D := 8) (nc := 1) (ns := 6) (rc := 0) (rs := 0) (Nat.le_refl _) (c_X9_greenest wh rfl hF) (fun h1 wh1 => ?_)
    exact ⟨1, X.2.2, wh1.2.2.2.2.2.2.2.1, bI_in (by decide), Or.inl ⟨v, rfl, rfl, wh1.L _⟩⟩
  | inr e =>
    obtain ⟨t, ht⟩ := hK e rfl
    refine cl_TX (D := 8) (nc := 1) (ns := 6) (rc := 0) (rs := 0) (Nat.le_refl _) (c_X9_greenest wh rfl hF) (fun h1 wh1 => ?_)
    cases e with
    | zero =>
      refine PX_catch1 (i := 3) (ls2 := [vR (900, 0), vI a1, vR (1101, 870), vU]) rfl ⟨by decide, by decide⟩ (by decide) l_L_13 ca_0 (by decide) (Or.inr (fun z q => by cases q)) rfl dh_greenest_12 (Or.inl ⟨(3 : Fin 4), rfl, rfl, rfl⟩) ?_
      refine P_iconst (v := (1 : Int32)) (pc := 13) dh_greenest_13 (by decide) ?_
      exact R_ireturn (pc := 14) dh_greenest_14 rfl rfl (Or.inr ⟨0, 1, rfl, rfl, rfl, wh1⟩)
    | succ e =>
      cases ht
theorem dh_stalest_12 : decode cL_stalest 12 = .ok (.astore_n 3, 1) := by decide +kernel
theorem dh_stalest_13 : decode cL_stalest 13 = .ok (.iconst 1, 1) := by decide +kernel
theorem dh_stalest_14 : decode cL_stalest 14 = .ok (.ireturn, 1) := by decide +kernel
theorem c_L_stalest {X : SCR} {fu : Nat} {o : Int32 ⊕ Nat} {w1 : MEM} {a1 : Int32} {w : MEM} {h : PH} (wh : WH X h w) (hF : f_X9_stalest fu 0 a1 w = some (o, w1)) (hK : ∀ e, o = .inr e → ∃ t, KI e = some t) : CT 9 M_L_stalest [vR (900, 0), vI a1, vR (1101, 870)] h 1 6 (LQ X o KI w1) := by
  refine CT_ofH (by decide) mk_L_stalest (Nat.le_of_ble_eq_true rfl) rfl (r_L_stalest_0 ⟨⟨_, wh.2.1 10900 0 rfl rfl⟩, ?_⟩)
  cases o with
  | inl v =>
    refine cl_TI (D := 8) (nc := 1) (ns := 6) (rc := 0) (rs := 0) (Nat.le_refl _) (c_X9_stalest wh rfl hF) (fun h1 wh1 => ?_)
    exact ⟨1, X.2.2, wh1.2.2.2.2.2.2.2.1, bI_in (by decide), Or.inl ⟨v, rfl, rfl, wh1.L _⟩⟩
  | inr e =>
    obtain ⟨t, ht⟩ := hK e rfl
    refine cl_TX (D := 8) (nc := 1) (ns := 6) (rc := 0) (rs := 0) (Nat.le_refl _) (c_X9_stalest wh rfl hF) (fun h1 wh1 => ?_)
    cases e with
    | zero =>
      refine PX_catch1 (i := 3) (ls2 := [vR (900, 0), vI a1, vR (1101, 870), vU]) rfl ⟨by decide, by decide⟩ (by decide) l_L_13 ca_0 (by decide) (Or.inr (fun z q => by cases q)) rfl dh_stalest_12 (Or.inl ⟨(3 : Fin 4), rfl, rfl, rfl⟩) ?_
      refine P_iconst (v := (1 : Int32)) (pc := 13) dh_stalest_13 (by decide) ?_
      exact R_ireturn (pc := 14) dh_stalest_14 rfl rfl (Or.inr ⟨0, 1, rfl, rfl, rfl, wh1⟩)
    | succ e =>
      cases ht
theorem dh_coughs_13 : decode cL_coughs 13 = .ok (.astore 4, 2) := by decide +kernel
theorem dh_coughs_15 : decode cL_coughs 15 = .ok (.iconst 1, 1) := by decide +kernel
theorem dh_coughs_16 : decode cL_coughs 16 = .ok (.ireturn, 1) := by decide +kernel
theorem dh_coughs_17 : decode cL_coughs 17 = .ok (.astore 4, 2) := by decide +kernel
theorem dh_coughs_19 : decode cL_coughs 19 = .ok (.iconst 2, 1) := by decide +kernel
theorem dh_coughs_20 : decode cL_coughs 20 = .ok (.ireturn, 1) := by decide +kernel
theorem c_L_coughs {X : SCR} {fu : Nat} {o : Int32 ⊕ Nat} {w1 : MEM} {a1 : Int32} {a2 : Int32} {w : MEM} {h : PH} (wh : WH X h w) (hF : f_X9_coughs fu 0 a1 a2 w = some (o, w1)) (hK : ∀ e, o = .inr e → ∃ t, KB e = some t) : CT 9 M_L_coughs [vR (900, 0), vI a1, vI a2, vR (1101, 870)] h 2 12 (LQ X o KB w1) := by
  refine CT_ofH (by decide) mk_L_coughs (Nat.le_of_ble_eq_true rfl) rfl (r_L_coughs_0 ⟨⟨_, wh.2.1 10900 0 rfl rfl⟩, ?_⟩)
  cases o with
  | inl v =>
    refine cl_TI (D := 8) (nc := 2) (ns := 12) (rc := 0) (rs := 0) (Nat.le_refl _) (c_X9_coughs wh rfl hF) (fun h1 wh1 => ?_)
    exact ⟨1, X.2.2, wh1.2.2.2.2.2.2.2.1, bI_in (by decide), Or.inl ⟨v, rfl, rfl, wh1.L _⟩⟩
  | inr e =>
    obtain ⟨t, ht⟩ := hK e rfl
    refine cl_TX (D := 8) (nc := 2) (ns := 12) (rc := 0) (rs := 0) (Nat.le_refl _) (c_X9_coughs wh rfl hF) (fun h1 wh1 => ?_)
    cases e with
    | zero =>
      refine PX_catch2 (i := 4) (ls2 := [vR (900, 0), vI a1, vI a2, vR (1101, 870), vU]) rfl (by decide) l_L_31 ⟨by decide, by decide⟩ (by decide) l_L_13 ca_0 (by decide) (Or.inr (fun z q => by cases q)) rfl dh_coughs_17 (Or.inr ⟨rfl, rfl⟩) ?_
      refine P_iconst (v := (2 : Int32)) (pc := 19) dh_coughs_19 (by decide) ?_
      exact R_ireturn (pc := 20) dh_coughs_20 rfl rfl (Or.inr ⟨0, 2, rfl, rfl, rfl, wh1⟩)
    | succ e =>
      refine PX_catch1 (i := 4) (ls2 := [vR (900, 0), vI a1, vI a2, vR (1101, 870), vU]) rfl ⟨by decide, by decide⟩ (by decide) l_L_31 ca_1 (by decide) (Or.inr (fun z q => by cases q)) rfl dh_coughs_13 (Or.inr ⟨rfl, rfl⟩) ?_
      refine P_iconst (v := (1 : Int32)) (pc := 15) dh_coughs_15 (by decide) ?_
      exact R_ireturn (pc := 16) dh_coughs_16 rfl rfl (Or.inr ⟨_, 1, rfl, rfl, rfl, wh1⟩)
theorem dh_twins_12 : decode cL_twins 12 = .ok (.astore_n 3, 1) := by decide +kernel
theorem dh_twins_13 : decode cL_twins 13 = .ok (.iconst 1, 1) := by decide +kernel
theorem dh_twins_14 : decode cL_twins 14 = .ok (.ireturn, 1) := by decide +kernel
theorem c_L_twins {X : SCR} {fu : Nat} {o : Int32 ⊕ Nat} {w1 : MEM} {a1 : Int32} {w : MEM} {h : PH} (wh : WH X h w) (hF : f_X9_twins fu 0 a1 w = some (o, w1)) (hK : ∀ e, o = .inr e → ∃ t, KI e = some t) : CT 9 M_L_twins [vR (900, 0), vI a1, vR (1101, 870)] h 1 6 (LQ X o KI w1) := by
  refine CT_ofH (by decide) mk_L_twins (Nat.le_of_ble_eq_true rfl) rfl (r_L_twins_0 ⟨⟨_, wh.2.1 10900 0 rfl rfl⟩, ?_⟩)
  cases o with
  | inl v =>
    refine cl_TI (D := 8) (nc := 1) (ns := 6) (rc := 0) (rs := 0) (Nat.le_refl _) (c_X9_twins wh rfl hF) (fun h1 wh1 => ?_)
    exact ⟨1, X.2.2, wh1.2.2.2.2.2.2.2.1, bI_in (by decide), Or.inl ⟨v, rfl, rfl, wh1.L _⟩⟩
  | inr e =>
    obtain ⟨t, ht⟩ := hK e rfl
    refine cl_TX (D := 8) (nc := 1) (ns := 6) (rc := 0) (rs := 0) (Nat.le_refl _) (c_X9_twins wh rfl hF) (fun h1 wh1 => ?_)
    cases e with
    | zero =>
      refine PX_catch1 (i := 3) (ls2 := [vR (900, 0), vI a1, vR (1101, 870), vU]) rfl ⟨by decide, by decide⟩ (by decide) l_L_13 ca_0 (by decide) (Or.inr (fun z q => by cases q)) rfl dh_twins_12 (Or.inl ⟨(3 : Fin 4), rfl, rfl, rfl⟩) ?_
      refine P_iconst (v := (1 : Int32)) (pc := 13) dh_twins_13 (by decide) ?_
      exact R_ireturn (pc := 14) dh_twins_14 rfl rfl (Or.inr ⟨0, 1, rfl, rfl, rfl, wh1⟩)
    | succ e =>
      cases ht
theorem dh_way_13 : decode cL_way 13 = .ok (.astore 4, 2) := by decide +kernel
theorem dh_way_15 : decode cL_way 15 = .ok (.iconst 1, 1) := by decide +kernel
theorem dh_way_16 : decode cL_way 16 = .ok (.ireturn, 1) := by decide +kernel
theorem c_L_way {X : SCR} {fu : Nat} {o : Int32 ⊕ Nat} {w1 : MEM} {a1 : Int32} {a2 : Int32} {w : MEM} {h : PH} (wh : WH X h w) (hF : f_X9_way fu 0 a1 a2 w = some (o, w1)) (hK : ∀ e, o = .inr e → ∃ t, KN e = some t) : CT 9 M_L_way [vR (900, 0), vI a1, vI a2, vR (1101, 870)] h 2 12 (LQ X o KN w1) := by
  refine CT_ofH (by decide) mk_L_way (Nat.le_of_ble_eq_true rfl) rfl (r_L_way_0 ⟨⟨_, wh.2.1 10900 0 rfl rfl⟩, ?_⟩)
  cases o with
  | inl v =>
    refine cl_TI (D := 8) (nc := 2) (ns := 12) (rc := 0) (rs := 0) (Nat.le_refl _) (c_X9_way wh rfl hF) (fun h1 wh1 => ?_)
    exact ⟨1, X.2.2, wh1.2.2.2.2.2.2.2.1, bI_in (by decide), Or.inl ⟨v, rfl, rfl, wh1.L _⟩⟩
  | inr e =>
    obtain ⟨t, ht⟩ := hK e rfl
    refine cl_TX (D := 8) (nc := 2) (ns := 12) (rc := 0) (rs := 0) (Nat.le_refl _) (c_X9_way wh rfl hF) (fun h1 wh1 => ?_)
    cases e with
    | zero =>
      cases ht
    | succ e =>
      refine PX_catch1 (i := 4) (ls2 := [vR (900, 0), vI a1, vI a2, vR (1101, 870), vU]) rfl ⟨by decide, by decide⟩ (by decide) l_L_31 ca_1 (by decide) (Or.inr (fun z q => by cases q)) rfl dh_way_13 (Or.inr ⟨rfl, rfl⟩) ?_
      refine P_iconst (v := (1 : Int32)) (pc := 15) dh_way_15 (by decide) ?_
      exact R_ireturn (pc := 16) dh_way_16 rfl rfl (Or.inr ⟨_, 1, rfl, rfl, rfl, wh1⟩)
theorem dh_ear_12 : decode cL_ear 12 = .ok (.astore_n 3, 1) := by decide +kernel
theorem dh_ear_13 : decode cL_ear 13 = .ok (.iconst 1, 1) := by decide +kernel
theorem dh_ear_14 : decode cL_ear 14 = .ok (.ireturn, 1) := by decide +kernel
theorem c_L_ear {X : SCR} {fu : Nat} {o : Int32 ⊕ Nat} {w1 : MEM} {a1 : Int32} {w : MEM} {h : PH} (wh : WH X h w) (hF : f_X9_ear fu 0 a1 w = some (o, w1)) (hK : ∀ e, o = .inr e → ∃ t, KN e = some t) : CT 9 M_L_ear [vR (900, 0), vI a1, vR (1101, 870)] h 1 6 (LQ X o KN w1) := by
  refine CT_ofH (by decide) mk_L_ear (Nat.le_of_ble_eq_true rfl) rfl (r_L_ear_0 ⟨⟨_, wh.2.1 10900 0 rfl rfl⟩, ?_⟩)
  cases o with
  | inl v =>
    refine cl_TI (D := 8) (nc := 1) (ns := 6) (rc := 0) (rs := 0) (Nat.le_refl _) (c_X9_ear wh rfl hF) (fun h1 wh1 => ?_)
    exact ⟨1, X.2.2, wh1.2.2.2.2.2.2.2.1, bI_in (by decide), Or.inl ⟨v, rfl, rfl, wh1.L _⟩⟩
  | inr e =>
    obtain ⟨t, ht⟩ := hK e rfl
    refine cl_TX (D := 8) (nc := 1) (ns := 6) (rc := 0) (rs := 0) (Nat.le_refl _) (c_X9_ear wh rfl hF) (fun h1 wh1 => ?_)
    cases e with
    | zero =>
      cases ht
    | succ e =>
      refine PX_catch1 (i := 3) (ls2 := [vR (900, 0), vI a1, vR (1101, 870), vU]) rfl ⟨by decide, by decide⟩ (by decide) l_L_31 ca_1 (by decide) (Or.inr (fun z q => by cases q)) rfl dh_ear_12 (Or.inl ⟨(3 : Fin 4), rfl, rfl, rfl⟩) ?_
      refine P_iconst (v := (1 : Int32)) (pc := 13) dh_ear_13 (by decide) ?_
      exact R_ireturn (pc := 14) dh_ear_14 rfl rfl (Or.inr ⟨_, 1, rfl, rfl, rfl, wh1⟩)
theorem dh_gossip_12 : decode cL_gossip 12 = .ok (.astore_n 3, 1) := by decide +kernel
theorem dh_gossip_13 : decode cL_gossip 13 = .ok (.iconst 1, 1) := by decide +kernel
theorem dh_gossip_14 : decode cL_gossip 14 = .ok (.ireturn, 1) := by decide +kernel
theorem c_L_gossip {X : SCR} {fu : Nat} {o : Int32 ⊕ Nat} {w1 : MEM} {a1 : Int32} {w : MEM} {h : PH} (wh : WH X h w) (hF : f_X9_gossip fu 0 a1 w = some (o, w1)) (hK : ∀ e, o = .inr e → ∃ t, KI e = some t) : CT 9 M_L_gossip [vR (900, 0), vI a1, vR (1101, 870)] h 1 6 (LQ X o KI w1) := by
  refine CT_ofH (by decide) mk_L_gossip (Nat.le_of_ble_eq_true rfl) rfl (r_L_gossip_0 ⟨⟨_, wh.2.1 10900 0 rfl rfl⟩, ?_⟩)
  cases o with
  | inl v =>
    refine cl_TI (D := 8) (nc := 1) (ns := 6) (rc := 0) (rs := 0) (Nat.le_refl _) (c_X9_gossip wh rfl hF) (fun h1 wh1 => ?_)
    exact ⟨1, X.2.2, wh1.2.2.2.2.2.2.2.1, bI_in (by decide), Or.inl ⟨v, rfl, rfl, wh1.L _⟩⟩
  | inr e =>
    obtain ⟨t, ht⟩ := hK e rfl
    refine cl_TX (D := 8) (nc := 1) (ns := 6) (rc := 0) (rs := 0) (Nat.le_refl _) (c_X9_gossip wh rfl hF) (fun h1 wh1 => ?_)
    cases e with
    | zero =>
      refine PX_catch1 (i := 3) (ls2 := [vR (900, 0), vI a1, vR (1101, 870), vU]) rfl ⟨by decide, by decide⟩ (by decide) l_L_13 ca_0 (by decide) (Or.inr (fun z q => by cases q)) rfl dh_gossip_12 (Or.inl ⟨(3 : Fin 4), rfl, rfl, rfl⟩) ?_
      refine P_iconst (v := (1 : Int32)) (pc := 13) dh_gossip_13 (by decide) ?_
      exact R_ireturn (pc := 14) dh_gossip_14 rfl rfl (Or.inr ⟨0, 1, rfl, rfl, rfl, wh1⟩)
    | succ e =>
      cases ht
theorem dh_hush_13 : decode cL_hush 13 = .ok (.astore 4, 2) := by decide +kernel
theorem dh_hush_15 : decode cL_hush 15 = .ok (.iconst 1, 1) := by decide +kernel
theorem dh_hush_16 : decode cL_hush 16 = .ok (.ireturn, 1) := by decide +kernel
theorem dh_hush_17 : decode cL_hush 17 = .ok (.astore 4, 2) := by decide +kernel
theorem dh_hush_19 : decode cL_hush 19 = .ok (.iconst 2, 1) := by decide +kernel
theorem dh_hush_20 : decode cL_hush 20 = .ok (.ireturn, 1) := by decide +kernel
theorem c_L_hush {X : SCR} {fu : Nat} {o : Int32 ⊕ Nat} {w1 : MEM} {a1 : Int32} {a2 : Int32} {w : MEM} {h : PH} (wh : WH X h w) (hF : f_X9_hush fu 0 a1 a2 w = some (o, w1)) (hK : ∀ e, o = .inr e → ∃ t, KB e = some t) : CT 9 M_L_hush [vR (900, 0), vI a1, vI a2, vR (1101, 870)] h 3 18 (LQ X o KB w1) := by
  refine CT_ofH (by decide) mk_L_hush (Nat.le_of_ble_eq_true rfl) rfl (r_L_hush_0 ⟨⟨_, wh.2.1 10900 0 rfl rfl⟩, ?_⟩)
  cases o with
  | inl v =>
    refine cl_TI (D := 8) (nc := 3) (ns := 18) (rc := 0) (rs := 0) (Nat.le_refl _) (c_X9_hush wh rfl hF) (fun h1 wh1 => ?_)
    exact ⟨1, X.2.2, wh1.2.2.2.2.2.2.2.1, bI_in (by decide), Or.inl ⟨v, rfl, rfl, wh1.L _⟩⟩
  | inr e =>
    obtain ⟨t, ht⟩ := hK e rfl
    refine cl_TX (D := 8) (nc := 3) (ns := 18) (rc := 0) (rs := 0) (Nat.le_refl _) (c_X9_hush wh rfl hF) (fun h1 wh1 => ?_)
    cases e with
    | zero =>
      refine PX_catch2 (i := 4) (ls2 := [vR (900, 0), vI a1, vI a2, vR (1101, 870), vU]) rfl (by decide) l_L_31 ⟨by decide, by decide⟩ (by decide) l_L_13 ca_0 (by decide) (Or.inr (fun z q => by cases q)) rfl dh_hush_17 (Or.inr ⟨rfl, rfl⟩) ?_
      refine P_iconst (v := (2 : Int32)) (pc := 19) dh_hush_19 (by decide) ?_
      exact R_ireturn (pc := 20) dh_hush_20 rfl rfl (Or.inr ⟨0, 2, rfl, rfl, rfl, wh1⟩)
    | succ e =>
      refine PX_catch1 (i := 4) (ls2 := [vR (900, 0), vI a1, vI a2, vR (1101, 870), vU]) rfl ⟨by decide, by decide⟩ (by decide) l_L_31 ca_1 (by decide) (Or.inr (fun z q => by cases q)) rfl dh_hush_13 (Or.inr ⟨rfl, rfl⟩) ?_
      refine P_iconst (v := (1 : Int32)) (pc := 15) dh_hush_15 (by decide) ?_
      exact R_ireturn (pc := 16) dh_hush_16 rfl rfl (Or.inr ⟨_, 1, rfl, rfl, rfl, wh1⟩)
theorem dh_ahead_13 : decode cL_ahead 13 = .ok (.astore 4, 2) := by decide +kernel
theorem dh_ahead_15 : decode cL_ahead 15 = .ok (.iconst 1, 1) := by decide +kernel
theorem dh_ahead_16 : decode cL_ahead 16 = .ok (.ireturn, 1) := by decide +kernel
theorem c_L_ahead {X : SCR} {fu : Nat} {o : Int32 ⊕ Nat} {w1 : MEM} {a1 : Int32} {a2 : Int32} {w : MEM} {h : PH} (wh : WH X h w) (hF : f_X9_ahead fu 0 a1 a2 w = some (o, w1)) (hK : ∀ e, o = .inr e → ∃ t, KI e = some t) : CT 9 M_L_ahead [vR (900, 0), vI a1, vI a2, vR (1101, 870)] h 2 12 (LQ X o KI w1) := by
  refine CT_ofH (by decide) mk_L_ahead (Nat.le_of_ble_eq_true rfl) rfl (r_L_ahead_0 ⟨⟨_, wh.2.1 10900 0 rfl rfl⟩, ?_⟩)
  cases o with
  | inl v =>
    refine cl_TI (D := 8) (nc := 2) (ns := 12) (rc := 0) (rs := 0) (Nat.le_refl _) (c_X9_ahead wh rfl hF) (fun h1 wh1 => ?_)
    exact ⟨1, X.2.2, wh1.2.2.2.2.2.2.2.1, bI_in (by decide), Or.inl ⟨v, rfl, rfl, wh1.L _⟩⟩
  | inr e =>
    obtain ⟨t, ht⟩ := hK e rfl
    refine cl_TX (D := 8) (nc := 2) (ns := 12) (rc := 0) (rs := 0) (Nat.le_refl _) (c_X9_ahead wh rfl hF) (fun h1 wh1 => ?_)
    cases e with
    | zero =>
      refine PX_catch1 (i := 4) (ls2 := [vR (900, 0), vI a1, vI a2, vR (1101, 870), vU]) rfl ⟨by decide, by decide⟩ (by decide) l_L_13 ca_0 (by decide) (Or.inr (fun z q => by cases q)) rfl dh_ahead_13 (Or.inr ⟨rfl, rfl⟩) ?_
      refine P_iconst (v := (1 : Int32)) (pc := 15) dh_ahead_15 (by decide) ?_
      exact R_ireturn (pc := 16) dh_ahead_16 rfl rfl (Or.inr ⟨0, 1, rfl, rfl, rfl, wh1⟩)
    | succ e =>
      cases ht
theorem dh_clouds_12 : decode cL_clouds 12 = .ok (.astore_n 3, 1) := by decide +kernel
theorem dh_clouds_13 : decode cL_clouds 13 = .ok (.iconst 1, 1) := by decide +kernel
theorem dh_clouds_14 : decode cL_clouds 14 = .ok (.ireturn, 1) := by decide +kernel
theorem c_L_clouds {X : SCR} {fu : Nat} {o : Int32 ⊕ Nat} {w1 : MEM} {a1 : Int32} {w : MEM} {h : PH} (wh : WH X h w) (hF : f_X9_clouds fu 0 a1 w = some (o, w1)) (hK : ∀ e, o = .inr e → ∃ t, KN e = some t) : CT 9 M_L_clouds [vR (900, 0), vI a1, vR (1101, 870)] h 1 6 (LQ X o KN w1) := by
  refine CT_ofH (by decide) mk_L_clouds (Nat.le_of_ble_eq_true rfl) rfl (r_L_clouds_0 ⟨⟨_, wh.2.1 10900 0 rfl rfl⟩, ?_⟩)
  cases o with
  | inl v =>
    refine cl_TI (D := 8) (nc := 1) (ns := 6) (rc := 0) (rs := 0) (Nat.le_refl _) (c_X9_clouds wh rfl hF) (fun h1 wh1 => ?_)
    exact ⟨1, X.2.2, wh1.2.2.2.2.2.2.2.1, bI_in (by decide), Or.inl ⟨v, rfl, rfl, wh1.L _⟩⟩
  | inr e =>
    obtain ⟨t, ht⟩ := hK e rfl
    refine cl_TX (D := 8) (nc := 1) (ns := 6) (rc := 0) (rs := 0) (Nat.le_refl _) (c_X9_clouds wh rfl hF) (fun h1 wh1 => ?_)
    cases e with
    | zero =>
      cases ht
    | succ e =>
      refine PX_catch1 (i := 3) (ls2 := [vR (900, 0), vI a1, vR (1101, 870), vU]) rfl ⟨by decide, by decide⟩ (by decide) l_L_31 ca_1 (by decide) (Or.inr (fun z q => by cases q)) rfl dh_clouds_12 (Or.inl ⟨(3 : Fin 4), rfl, rfl, rfl⟩) ?_
      refine P_iconst (v := (1 : Int32)) (pc := 13) dh_clouds_13 (by decide) ?_
      exact R_ireturn (pc := 14) dh_clouds_14 rfl rfl (Or.inr ⟨_, 1, rfl, rfl, rfl, wh1⟩)
theorem dh_gasp_12 : decode cL_gasp 12 = .ok (.astore_n 3, 1) := by decide +kernel
theorem dh_gasp_13 : decode cL_gasp 13 = .ok (.iconst 1, 1) := by decide +kernel
theorem dh_gasp_14 : decode cL_gasp 14 = .ok (.ireturn, 1) := by decide +kernel
theorem c_L_gasp {X : SCR} {fu : Nat} {o : Int32 ⊕ Nat} {w1 : MEM} {a1 : Int32} {w : MEM} {h : PH} (wh : WH X h w) (hF : f_X9_gasp fu 0 a1 w = some (o, w1)) (hK : ∀ e, o = .inr e → ∃ t, KN e = some t) : CT 9 M_L_gasp [vR (900, 0), vI a1, vR (1101, 870)] h 1 6 (LQ X o KN w1) := by
  refine CT_ofH (by decide) mk_L_gasp (Nat.le_of_ble_eq_true rfl) rfl (r_L_gasp_0 ⟨⟨_, wh.2.1 10900 0 rfl rfl⟩, ?_⟩)
  cases o with
  | inl v =>
    refine cl_TI (D := 8) (nc := 1) (ns := 6) (rc := 0) (rs := 0) (Nat.le_refl _) (c_X9_gasp wh rfl hF) (fun h1 wh1 => ?_)
    exact ⟨1, X.2.2, wh1.2.2.2.2.2.2.2.1, bI_in (by decide), Or.inl ⟨v, rfl, rfl, wh1.L _⟩⟩
  | inr e =>
    obtain ⟨t, ht⟩ := hK e rfl
    refine cl_TX (D := 8) (nc := 1) (ns := 6) (rc := 0) (rs := 0) (Nat.le_refl _) (c_X9_gasp wh rfl hF) (fun h1 wh1 => ?_)
    cases e with
    | zero =>
      cases ht
    | succ e =>
      refine PX_catch1 (i := 3) (ls2 := [vR (900, 0), vI a1, vR (1101, 870), vU]) rfl ⟨by decide, by decide⟩ (by decide) l_L_31 ca_1 (by decide) (Or.inr (fun z q => by cases q)) rfl dh_gasp_12 (Or.inl ⟨(3 : Fin 4), rfl, rfl, rfl⟩) ?_
      refine P_iconst (v := (1 : Int32)) (pc := 13) dh_gasp_13 (by decide) ?_
      exact R_ireturn (pc := 14) dh_gasp_14 rfl rfl (Or.inr ⟨_, 1, rfl, rfl, rfl, wh1⟩)
theorem dh_wipes_12 : decode cL_wipes 12 = .ok (.astore_n 3, 1) := by decide +kernel
theorem dh_wipes_13 : decode cL_wipes 13 = .ok (.iconst 1, 1) := by decide +kernel
theorem dh_wipes_14 : decode cL_wipes 14 = .ok (.ireturn, 1) := by decide +kernel
theorem c_L_wipes {X : SCR} {fu : Nat} {o : Int32 ⊕ Nat} {w1 : MEM} {a1 : Int32} {w : MEM} {h : PH} (wh : WH X h w) (hF : f_X9_wipes fu 0 a1 w = some (o, w1)) (hK : ∀ e, o = .inr e → ∃ t, KN e = some t) : CT 9 M_L_wipes [vR (900, 0), vI a1, vR (1101, 870)] h 1 6 (LQ X o KN w1) := by
  refine CT_ofH (by decide) mk_L_wipes (Nat.le_of_ble_eq_true rfl) rfl (r_L_wipes_0 ⟨⟨_, wh.2.1 10900 0 rfl rfl⟩, ?_⟩)
  cases o with
  | inl v =>
    refine cl_TI (D := 8) (nc := 1) (ns := 6) (rc := 0) (rs := 0) (Nat.le_refl _) (c_X9_wipes wh rfl hF) (fun h1 wh1 => ?_)
    exact ⟨1, X.2.2, wh1.2.2.2.2.2.2.2.1, bI_in (by decide), Or.inl ⟨v, rfl, rfl, wh1.L _⟩⟩
  | inr e =>
    obtain ⟨t, ht⟩ := hK e rfl
    refine cl_TX (D := 8) (nc := 1) (ns := 6) (rc := 0) (rs := 0) (Nat.le_refl _) (c_X9_wipes wh rfl hF) (fun h1 wh1 => ?_)
    cases e with
    | zero =>
      cases ht
    | succ e =>
      refine PX_catch1 (i := 3) (ls2 := [vR (900, 0), vI a1, vR (1101, 870), vU]) rfl ⟨by decide, by decide⟩ (by decide) l_L_31 ca_1 (by decide) (Or.inr (fun z q => by cases q)) rfl dh_wipes_12 (Or.inl ⟨(3 : Fin 4), rfl, rfl, rfl⟩) ?_
      refine P_iconst (v := (1 : Int32)) (pc := 13) dh_wipes_13 (by decide) ?_
      exact R_ireturn (pc := 14) dh_wipes_14 rfl rfl (Or.inr ⟨_, 1, rfl, rfl, rfl, wh1⟩)
theorem dh_year_15 : decode cL_year 15 = .ok (.astore 5, 2) := by decide +kernel
theorem dh_year_17 : decode cL_year 17 = .ok (.iconst 1, 1) := by decide +kernel
theorem dh_year_18 : decode cL_year 18 = .ok (.ireturn, 1) := by decide +kernel
theorem c_L_year {X : SCR} {fu : Nat} {o : Int32 ⊕ Nat} {w1 : MEM} {a1 : Int32} {a2 : Int32} {a3 : Int32} {w : MEM} {h : PH} (wh : WH X h w) (hF : f_X9_year fu 0 a1 a2 a3 w = some (o, w1)) (hK : ∀ e, o = .inr e → ∃ t, KI e = some t) : CT 9 M_L_year [vR (900, 0), vI a1, vI a2, vI a3, vR (1101, 870)] h 2 12 (LQ X o KI w1) := by
  refine CT_ofH (by decide) mk_L_year (Nat.le_of_ble_eq_true rfl) rfl (r_L_year_0 ⟨⟨_, wh.2.1 10900 0 rfl rfl⟩, ?_⟩)
  cases o with
  | inl v =>
    refine cl_TI (D := 8) (nc := 2) (ns := 12) (rc := 0) (rs := 0) (Nat.le_refl _) (c_X9_year wh rfl hF) (fun h1 wh1 => ?_)
    exact ⟨1, X.2.2, wh1.2.2.2.2.2.2.2.1, bI_in (by decide), Or.inl ⟨v, rfl, rfl, wh1.L _⟩⟩
  | inr e =>
    obtain ⟨t, ht⟩ := hK e rfl
    refine cl_TX (D := 8) (nc := 2) (ns := 12) (rc := 0) (rs := 0) (Nat.le_refl _) (c_X9_year wh rfl hF) (fun h1 wh1 => ?_)
    cases e with
    | zero =>
      refine PX_catch1 (i := 5) (ls2 := [vR (900, 0), vI a1, vI a2, vI a3, vR (1101, 870), vU]) rfl ⟨by decide, by decide⟩ (by decide) l_L_13 ca_0 (by decide) (Or.inr (fun z q => by cases q)) rfl dh_year_15 (Or.inr ⟨rfl, rfl⟩) ?_
      refine P_iconst (v := (1 : Int32)) (pc := 17) dh_year_17 (by decide) ?_
      exact R_ireturn (pc := 18) dh_year_18 rfl rfl (Or.inr ⟨0, 1, rfl, rfl, rfl, wh1⟩)
    | succ e =>
      cases ht
theorem dh_span_17 : decode cL_span 17 = .ok (.astore 6, 2) := by decide +kernel
theorem dh_span_19 : decode cL_span 19 = .ok (.iconst 1, 1) := by decide +kernel
theorem dh_span_20 : decode cL_span 20 = .ok (.ireturn, 1) := by decide +kernel
theorem c_L_span {X : SCR} {fu : Nat} {o : Int32 ⊕ Nat} {w1 : MEM} {a1 : Int32} {a2 : Int32} {a3 : Int32} {a4 : Int32} {w : MEM} {h : PH} (wh : WH X h w) (hF : f_X9_span fu 0 a1 a2 a3 a4 w = some (o, w1)) (hK : ∀ e, o = .inr e → ∃ t, KI e = some t) : CT 9 M_L_span [vR (900, 0), vI a1, vI a2, vI a3, vI a4, vR (1101, 870)] h 3 18 (LQ X o KI w1) := by
  refine CT_ofH (by decide) mk_L_span (Nat.le_of_ble_eq_true rfl) rfl (r_L_span_0 ⟨⟨_, wh.2.1 10900 0 rfl rfl⟩, ?_⟩)
  cases o with
  | inl v =>
    refine cl_TI (D := 8) (nc := 3) (ns := 18) (rc := 0) (rs := 0) (Nat.le_refl _) (c_X9_span wh rfl hF) (fun h1 wh1 => ?_)
    exact ⟨1, X.2.2, wh1.2.2.2.2.2.2.2.1, bI_in (by decide), Or.inl ⟨v, rfl, rfl, wh1.L _⟩⟩
  | inr e =>
    obtain ⟨t, ht⟩ := hK e rfl
    refine cl_TX (D := 8) (nc := 3) (ns := 18) (rc := 0) (rs := 0) (Nat.le_refl _) (c_X9_span wh rfl hF) (fun h1 wh1 => ?_)
    cases e with
    | zero =>
      refine PX_catch1 (i := 6) (ls2 := [vR (900, 0), vI a1, vI a2, vI a3, vI a4, vR (1101, 870), vU]) rfl ⟨by decide, by decide⟩ (by decide) l_L_13 ca_0 (by decide) (Or.inr (fun z q => by cases q)) rfl dh_span_17 (Or.inr ⟨rfl, rfl⟩) ?_
      refine P_iconst (v := (1 : Int32)) (pc := 19) dh_span_19 (by decide) ?_
      exact R_ireturn (pc := 20) dh_span_20 rfl rfl (Or.inr ⟨0, 1, rfl, rfl, rfl, wh1⟩)
    | succ e =>
      cases ht
theorem dh_lots_17 : decode cL_lots 17 = .ok (.astore 6, 2) := by decide +kernel
theorem dh_lots_19 : decode cL_lots 19 = .ok (.iconst 1, 1) := by decide +kernel
theorem dh_lots_20 : decode cL_lots 20 = .ok (.ireturn, 1) := by decide +kernel
theorem c_L_lots {X : SCR} {fu : Nat} {o : Int32 ⊕ Nat} {w1 : MEM} {a1 : Int32} {a2 : Int32} {a3 : Int32} {a4 : Int32} {w : MEM} {h : PH} (wh : WH X h w) (hF : f_X9_lots fu 0 a1 a2 a3 a4 w = some (o, w1)) (hK : ∀ e, o = .inr e → ∃ t, KI e = some t) : CT 9 M_L_lots [vR (900, 0), vI a1, vI a2, vI a3, vI a4, vR (1101, 870)] h 4 24 (LQ X o KI w1) := by
  refine CT_ofH (by decide) mk_L_lots (Nat.le_of_ble_eq_true rfl) rfl (r_L_lots_0 ⟨⟨_, wh.2.1 10900 0 rfl rfl⟩, ?_⟩)
  cases o with
  | inl v =>
    refine cl_TI (D := 8) (nc := 4) (ns := 24) (rc := 0) (rs := 0) (Nat.le_refl _) (c_X9_lots wh rfl hF) (fun h1 wh1 => ?_)
    exact ⟨1, X.2.2, wh1.2.2.2.2.2.2.2.1, bI_in (by decide), Or.inl ⟨v, rfl, rfl, wh1.L _⟩⟩
  | inr e =>
    obtain ⟨t, ht⟩ := hK e rfl
    refine cl_TX (D := 8) (nc := 4) (ns := 24) (rc := 0) (rs := 0) (Nat.le_refl _) (c_X9_lots wh rfl hF) (fun h1 wh1 => ?_)
    cases e with
    | zero =>
      refine PX_catch1 (i := 6) (ls2 := [vR (900, 0), vI a1, vI a2, vI a3, vI a4, vR (1101, 870), vU]) rfl ⟨by decide, by decide⟩ (by decide) l_L_13 ca_0 (by decide) (Or.inr (fun z q => by cases q)) rfl dh_lots_17 (Or.inr ⟨rfl, rfl⟩) ?_
      refine P_iconst (v := (1 : Int32)) (pc := 19) dh_lots_19 (by decide) ?_
      exact R_ireturn (pc := 20) dh_lots_20 rfl rfl (Or.inr ⟨0, 1, rfl, rfl, rfl, wh1⟩)
    | succ e =>
      cases ht
theorem dh_regents_15 : decode cL_regents 15 = .ok (.astore 5, 2) := by decide +kernel
theorem dh_regents_17 : decode cL_regents 17 = .ok (.iconst 1, 1) := by decide +kernel
theorem dh_regents_18 : decode cL_regents 18 = .ok (.ireturn, 1) := by decide +kernel
theorem c_L_regents {X : SCR} {fu : Nat} {o : Int32 ⊕ Nat} {w1 : MEM} {a1 : Int32} {a2 : Int32} {a3 : Int32} {w : MEM} {h : PH} (wh : WH X h w) (hF : f_X9_regents fu 0 a1 a2 a3 w = some (o, w1)) (hK : ∀ e, o = .inr e → ∃ t, KI e = some t) : CT 9 M_L_regents [vR (900, 0), vI a1, vI a2, vI a3, vR (1101, 870)] h 3 18 (LQ X o KI w1) := by
  refine CT_ofH (by decide) mk_L_regents (Nat.le_of_ble_eq_true rfl) rfl (r_L_regents_0 ⟨⟨_, wh.2.1 10900 0 rfl rfl⟩, ?_⟩)
  cases o with
  | inl v =>
    refine cl_TI (D := 8) (nc := 3) (ns := 18) (rc := 0) (rs := 0) (Nat.le_refl _) (c_X9_regents wh rfl hF) (fun h1 wh1 => ?_)
    exact ⟨1, X.2.2, wh1.2.2.2.2.2.2.2.1, bI_in (by decide), Or.inl ⟨v, rfl, rfl, wh1.L _⟩⟩
  | inr e =>
    obtain ⟨t, ht⟩ := hK e rfl
    refine cl_TX (D := 8) (nc := 3) (ns := 18) (rc := 0) (rs := 0) (Nat.le_refl _) (c_X9_regents wh rfl hF) (fun h1 wh1 => ?_)
    cases e with
    | zero =>
      refine PX_catch1 (i := 5) (ls2 := [vR (900, 0), vI a1, vI a2, vI a3, vR (1101, 870), vU]) rfl ⟨by decide, by decide⟩ (by decide) l_L_13 ca_0 (by decide) (Or.inr (fun z q => by cases q)) rfl dh_regents_15 (Or.inr ⟨rfl, rfl⟩) ?_
      refine P_iconst (v := (1 : Int32)) (pc := 17) dh_regents_17 (by decide) ?_
      exact R_ireturn (pc := 18) dh_regents_18 rfl rfl (Or.inr ⟨0, 1, rfl, rfl, rfl, wh1⟩)
    | succ e =>
      cases ht
theorem dh_moss_15 : decode cL_moss 15 = .ok (.astore 5, 2) := by decide +kernel
theorem dh_moss_17 : decode cL_moss 17 = .ok (.iconst 1, 1) := by decide +kernel
theorem dh_moss_18 : decode cL_moss 18 = .ok (.ireturn, 1) := by decide +kernel
theorem dh_moss_19 : decode cL_moss 19 = .ok (.astore 5, 2) := by decide +kernel
theorem dh_moss_21 : decode cL_moss 21 = .ok (.iconst 2, 1) := by decide +kernel
theorem dh_moss_22 : decode cL_moss 22 = .ok (.ireturn, 1) := by decide +kernel
theorem c_L_moss {X : SCR} {fu : Nat} {o : Int32 ⊕ Nat} {w1 : MEM} {a1 : Int32} {a2 : Int32} {a3 : Int32} {w : MEM} {h : PH} (wh : WH X h w) (hF : f_X9_moss fu 0 a1 a2 a3 w = some (o, w1)) (hK : ∀ e, o = .inr e → ∃ t, KB e = some t) : CT 9 M_L_moss [vR (900, 0), vI a1, vI a2, vI a3, vR (1101, 870)] h 3 18 (LQ X o KB w1) := by
  refine CT_ofH (by decide) mk_L_moss (Nat.le_of_ble_eq_true rfl) rfl (r_L_moss_0 ⟨⟨_, wh.2.1 10900 0 rfl rfl⟩, ?_⟩)
  cases o with
  | inl v =>
    refine cl_TI (D := 8) (nc := 3) (ns := 18) (rc := 0) (rs := 0) (Nat.le_refl _) (c_X9_moss wh rfl hF) (fun h1 wh1 => ?_)
    exact ⟨1, X.2.2, wh1.2.2.2.2.2.2.2.1, bI_in (by decide), Or.inl ⟨v, rfl, rfl, wh1.L _⟩⟩
  | inr e =>
    obtain ⟨t, ht⟩ := hK e rfl
    refine cl_TX (D := 8) (nc := 3) (ns := 18) (rc := 0) (rs := 0) (Nat.le_refl _) (c_X9_moss wh rfl hF) (fun h1 wh1 => ?_)
    cases e with
    | zero =>
      refine PX_catch2 (i := 5) (ls2 := [vR (900, 0), vI a1, vI a2, vI a3, vR (1101, 870), vU]) rfl (by decide) l_L_31 ⟨by decide, by decide⟩ (by decide) l_L_13 ca_0 (by decide) (Or.inr (fun z q => by cases q)) rfl dh_moss_19 (Or.inr ⟨rfl, rfl⟩) ?_
      refine P_iconst (v := (2 : Int32)) (pc := 21) dh_moss_21 (by decide) ?_
      exact R_ireturn (pc := 22) dh_moss_22 rfl rfl (Or.inr ⟨0, 2, rfl, rfl, rfl, wh1⟩)
    | succ e =>
      refine PX_catch1 (i := 5) (ls2 := [vR (900, 0), vI a1, vI a2, vI a3, vR (1101, 870), vU]) rfl ⟨by decide, by decide⟩ (by decide) l_L_31 ca_1 (by decide) (Or.inr (fun z q => by cases q)) rfl dh_moss_15 (Or.inr ⟨rfl, rfl⟩) ?_
      refine P_iconst (v := (1 : Int32)) (pc := 17) dh_moss_17 (by decide) ?_
      exact R_ireturn (pc := 18) dh_moss_18 rfl rfl (Or.inr ⟨_, 1, rfl, rfl, rfl, wh1⟩)
theorem dh_backward_12 : decode cL_backward 12 = .ok (.astore_n 3, 1) := by decide +kernel
theorem dh_backward_13 : decode cL_backward 13 = .ok (.iconst 1, 1) := by decide +kernel
theorem dh_backward_14 : decode cL_backward 14 = .ok (.ireturn, 1) := by decide +kernel
theorem c_L_backward {X : SCR} {fu : Nat} {o : Int32 ⊕ Nat} {w1 : MEM} {a1 : Int32} {w : MEM} {h : PH} (wh : WH X h w) (hF : f_X9_backward fu 0 a1 w = some (o, w1)) (hK : ∀ e, o = .inr e → ∃ t, KI e = some t) : CT 9 M_L_backward [vR (900, 0), vI a1, vR (1101, 870)] h 1 6 (LQ X o KI w1) := by
  refine CT_ofH (by decide) mk_L_backward (Nat.le_of_ble_eq_true rfl) rfl (r_L_backward_0 ⟨⟨_, wh.2.1 10900 0 rfl rfl⟩, ?_⟩)
  cases o with
  | inl v =>
    refine cl_TI (D := 8) (nc := 1) (ns := 6) (rc := 0) (rs := 0) (Nat.le_refl _) (c_X9_backward wh rfl hF) (fun h1 wh1 => ?_)
    exact ⟨1, X.2.2, wh1.2.2.2.2.2.2.2.1, bI_in (by decide), Or.inl ⟨v, rfl, rfl, wh1.L _⟩⟩
  | inr e =>
    obtain ⟨t, ht⟩ := hK e rfl
    refine cl_TX (D := 8) (nc := 1) (ns := 6) (rc := 0) (rs := 0) (Nat.le_refl _) (c_X9_backward wh rfl hF) (fun h1 wh1 => ?_)
    cases e with
    | zero =>
      refine PX_catch1 (i := 3) (ls2 := [vR (900, 0), vI a1, vR (1101, 870), vU]) rfl ⟨by decide, by decide⟩ (by decide) l_L_13 ca_0 (by decide) (Or.inr (fun z q => by cases q)) rfl dh_backward_12 (Or.inl ⟨(3 : Fin 4), rfl, rfl, rfl⟩) ?_
      refine P_iconst (v := (1 : Int32)) (pc := 13) dh_backward_13 (by decide) ?_
      exact R_ireturn (pc := 14) dh_backward_14 rfl rfl (Or.inr ⟨0, 1, rfl, rfl, rfl, wh1⟩)
    | succ e =>
      cases ht
theorem dh_seat_12 : decode cL_seat 12 = .ok (.astore_n 3, 1) := by decide +kernel
theorem dh_seat_13 : decode cL_seat 13 = .ok (.iconst 1, 1) := by decide +kernel
theorem dh_seat_14 : decode cL_seat 14 = .ok (.ireturn, 1) := by decide +kernel
theorem c_L_seat {X : SCR} {fu : Nat} {o : Int32 ⊕ Nat} {w1 : MEM} {a1 : Int32} {w : MEM} {h : PH} (wh : WH X h w) (hF : f_X9_seat fu 0 a1 w = some (o, w1)) (hK : ∀ e, o = .inr e → ∃ t, KI e = some t) : CT 8 M_L_seat [vR (900, 0), vI a1, vR (1101, 870)] h 1 6 (LQ X o KI w1) := by
  refine CT_ofH (by decide) mk_L_seat (Nat.le_of_ble_eq_true rfl) rfl (r_L_seat_0 ⟨⟨_, wh.2.1 10900 0 rfl rfl⟩, ?_⟩)
  cases o with
  | inl v =>
    refine cl_TI (D := 7) (nc := 1) (ns := 6) (rc := 0) (rs := 0) (Nat.le_refl _) (c_X9_seat wh rfl hF) (fun h1 wh1 => ?_)
    exact ⟨1, X.2.2, wh1.2.2.2.2.2.2.2.1, bI_in (by decide), Or.inl ⟨v, rfl, rfl, wh1.L _⟩⟩
  | inr e =>
    obtain ⟨t, ht⟩ := hK e rfl
    refine cl_TX (D := 7) (nc := 1) (ns := 6) (rc := 0) (rs := 0) (Nat.le_refl _) (c_X9_seat wh rfl hF) (fun h1 wh1 => ?_)
    cases e with
    | zero =>
      refine PX_catch1 (i := 3) (ls2 := [vR (900, 0), vI a1, vR (1101, 870), vU]) rfl ⟨by decide, by decide⟩ (by decide) l_L_13 ca_0 (by decide) (Or.inr (fun z q => by cases q)) rfl dh_seat_12 (Or.inl ⟨(3 : Fin 4), rfl, rfl, rfl⟩) ?_
      refine P_iconst (v := (1 : Int32)) (pc := 13) dh_seat_13 (by decide) ?_
      exact R_ireturn (pc := 14) dh_seat_14 rfl rfl (Or.inr ⟨0, 1, rfl, rfl, rfl, wh1⟩)
    | succ e =>
      cases ht
theorem dh_fits_13 : decode cL_fits 13 = .ok (.astore 4, 2) := by decide +kernel
theorem dh_fits_15 : decode cL_fits 15 = .ok (.iconst 1, 1) := by decide +kernel
theorem dh_fits_16 : decode cL_fits 16 = .ok (.ireturn, 1) := by decide +kernel
theorem dh_fits_17 : decode cL_fits 17 = .ok (.astore 4, 2) := by decide +kernel
theorem dh_fits_19 : decode cL_fits 19 = .ok (.iconst 2, 1) := by decide +kernel
theorem dh_fits_20 : decode cL_fits 20 = .ok (.ireturn, 1) := by decide +kernel
theorem c_L_fits {X : SCR} {fu : Nat} {o : Int32 ⊕ Nat} {w1 : MEM} {a1 : Int32} {a2 : Int32} {w : MEM} {h : PH} (wh : WH X h w) (hF : f_X9_fits fu 0 a1 a2 w = some (o, w1)) (hK : ∀ e, o = .inr e → ∃ t, KB e = some t) : CT 9 M_L_fits [vR (900, 0), vI a1, vI a2, vR (1101, 870)] h 2 12 (LQ X o KB w1) := by
  refine CT_ofH (by decide) mk_L_fits (Nat.le_of_ble_eq_true rfl) rfl (r_L_fits_0 ⟨⟨_, wh.2.1 10900 0 rfl rfl⟩, ?_⟩)
  cases o with
  | inl v =>
    refine cl_TI (D := 8) (nc := 2) (ns := 12) (rc := 0) (rs := 0) (Nat.le_refl _) (c_X9_fits wh rfl hF) (fun h1 wh1 => ?_)
    exact ⟨1, X.2.2, wh1.2.2.2.2.2.2.2.1, bI_in (by decide), Or.inl ⟨v, rfl, rfl, wh1.L _⟩⟩
  | inr e =>
    obtain ⟨t, ht⟩ := hK e rfl
    refine cl_TX (D := 8) (nc := 2) (ns := 12) (rc := 0) (rs := 0) (Nat.le_refl _) (c_X9_fits wh rfl hF) (fun h1 wh1 => ?_)
    cases e with
    | zero =>
      refine PX_catch2 (i := 4) (ls2 := [vR (900, 0), vI a1, vI a2, vR (1101, 870), vU]) rfl (by decide) l_L_31 ⟨by decide, by decide⟩ (by decide) l_L_13 ca_0 (by decide) (Or.inr (fun z q => by cases q)) rfl dh_fits_17 (Or.inr ⟨rfl, rfl⟩) ?_
      refine P_iconst (v := (2 : Int32)) (pc := 19) dh_fits_19 (by decide) ?_
      exact R_ireturn (pc := 20) dh_fits_20 rfl rfl (Or.inr ⟨0, 2, rfl, rfl, rfl, wh1⟩)
    | succ e =>
      refine PX_catch1 (i := 4) (ls2 := [vR (900, 0), vI a1, vI a2, vR (1101, 870), vU]) rfl ⟨by decide, by decide⟩ (by decide) l_L_31 ca_1 (by decide) (Or.inr (fun z q => by cases q)) rfl dh_fits_13 (Or.inr ⟨rfl, rfl⟩) ?_
      refine P_iconst (v := (1 : Int32)) (pc := 15) dh_fits_15 (by decide) ?_
      exact R_ireturn (pc := 16) dh_fits_16 rfl rfl (Or.inr ⟨_, 1, rfl, rfl, rfl, wh1⟩)
theorem dh_look_13 : decode cL_look 13 = .ok (.astore 4, 2) := by decide +kernel
theorem dh_look_15 : decode cL_look 15 = .ok (.iconst 1, 1) := by decide +kernel
theorem dh_look_16 : decode cL_look 16 = .ok (.ireturn, 1) := by decide +kernel
theorem dh_look_17 : decode cL_look 17 = .ok (.astore 4, 2) := by decide +kernel
theorem dh_look_19 : decode cL_look 19 = .ok (.iconst 2, 1) := by decide +kernel
theorem dh_look_20 : decode cL_look 20 = .ok (.ireturn, 1) := by decide +kernel
theorem c_L_look {X : SCR} {fu : Nat} {o : Int32 ⊕ Nat} {w1 : MEM} {a1 : Int32} {a2 : Int32} {w : MEM} {h : PH} (wh : WH X h w) (hF : f_X9_look fu 0 a1 a2 w = some (o, w1)) (hK : ∀ e, o = .inr e → ∃ t, KB e = some t) : CT 9 M_L_look [vR (900, 0), vI a1, vI a2, vR (1101, 870)] h 2 12 (LQ X o KB w1) := by
  refine CT_ofH (by decide) mk_L_look (Nat.le_of_ble_eq_true rfl) rfl (r_L_look_0 ⟨⟨_, wh.2.1 10900 0 rfl rfl⟩, ?_⟩)
  cases o with
  | inl v =>
    refine cl_TI (D := 8) (nc := 2) (ns := 12) (rc := 0) (rs := 0) (Nat.le_refl _) (c_X9_look wh rfl hF) (fun h1 wh1 => ?_)
    exact ⟨1, X.2.2, wh1.2.2.2.2.2.2.2.1, bI_in (by decide), Or.inl ⟨v, rfl, rfl, wh1.L _⟩⟩
  | inr e =>
    obtain ⟨t, ht⟩ := hK e rfl
    refine cl_TX (D := 8) (nc := 2) (ns := 12) (rc := 0) (rs := 0) (Nat.le_refl _) (c_X9_look wh rfl hF) (fun h1 wh1 => ?_)
    cases e with
    | zero =>
      refine PX_catch2 (i := 4) (ls2 := [vR (900, 0), vI a1, vI a2, vR (1101, 870), vU]) rfl (by decide) l_L_31 ⟨by decide, by decide⟩ (by decide) l_L_13 ca_0 (by decide) (Or.inr (fun z q => by cases q)) rfl dh_look_17 (Or.inr ⟨rfl, rfl⟩) ?_
      refine P_iconst (v := (2 : Int32)) (pc := 19) dh_look_19 (by decide) ?_
      exact R_ireturn (pc := 20) dh_look_20 rfl rfl (Or.inr ⟨0, 2, rfl, rfl, rfl, wh1⟩)
    | succ e =>
      refine PX_catch1 (i := 4) (ls2 := [vR (900, 0), vI a1, vI a2, vR (1101, 870), vU]) rfl ⟨by decide, by decide⟩ (by decide) l_L_31 ca_1 (by decide) (Or.inr (fun z q => by cases q)) rfl dh_look_13 (Or.inr ⟨rfl, rfl⟩) ?_
      refine P_iconst (v := (1 : Int32)) (pc := 15) dh_look_15 (by decide) ?_
      exact R_ireturn (pc := 16) dh_look_16 rfl rfl (Or.inr ⟨_, 1, rfl, rfl, rfl, wh1⟩)
theorem dh_book_12 : decode cL_book 12 = .ok (.astore_n 3, 1) := by decide +kernel
theorem dh_book_13 : decode cL_book 13 = .ok (.iconst 1, 1) := by decide +kernel
theorem dh_book_14 : decode cL_book 14 = .ok (.ireturn, 1) := by decide +kernel
theorem c_L_book {X : SCR} {fu : Nat} {o : Int32 ⊕ Nat} {w1 : MEM} {a1 : Int32} {w : MEM} {h : PH} (wh : WH X h w) (hF : f_X9_book fu 0 a1 w = some (o, w1)) (hK : ∀ e, o = .inr e → ∃ t, KI e = some t) : CT 10 M_L_book [vR (900, 0), vI a1, vR (1101, 870)] h 1 6 (LQ X o KI w1) := by
  refine CT_ofH (by decide) mk_L_book (Nat.le_of_ble_eq_true rfl) rfl (r_L_book_0 ⟨⟨_, wh.2.1 10900 0 rfl rfl⟩, ?_⟩)
  cases o with
  | inl v =>
    refine cl_TI (D := 9) (nc := 1) (ns := 6) (rc := 0) (rs := 0) (Nat.le_refl _) (c_X9_book wh rfl hF) (fun h1 wh1 => ?_)
    exact ⟨1, X.2.2, wh1.2.2.2.2.2.2.2.1, bI_in (by decide), Or.inl ⟨v, rfl, rfl, wh1.L _⟩⟩
  | inr e =>
    obtain ⟨t, ht⟩ := hK e rfl
    refine cl_TX (D := 9) (nc := 1) (ns := 6) (rc := 0) (rs := 0) (Nat.le_refl _) (c_X9_book wh rfl hF) (fun h1 wh1 => ?_)
    cases e with
    | zero =>
      refine PX_catch1 (i := 3) (ls2 := [vR (900, 0), vI a1, vR (1101, 870), vU]) rfl ⟨by decide, by decide⟩ (by decide) l_L_13 ca_0 (by decide) (Or.inr (fun z q => by cases q)) rfl dh_book_12 (Or.inl ⟨(3 : Fin 4), rfl, rfl, rfl⟩) ?_
      refine P_iconst (v := (1 : Int32)) (pc := 13) dh_book_13 (by decide) ?_
      exact R_ireturn (pc := 14) dh_book_14 rfl rfl (Or.inr ⟨0, 1, rfl, rfl, rfl, wh1⟩)
    | succ e =>
      cases ht
theorem dh_court_12 : decode cL_court 12 = .ok (.astore_n 3, 1) := by decide +kernel
theorem dh_court_13 : decode cL_court 13 = .ok (.iconst 1, 1) := by decide +kernel
theorem dh_court_14 : decode cL_court 14 = .ok (.ireturn, 1) := by decide +kernel
theorem c_L_court {X : SCR} {fu : Nat} {o : Int32 ⊕ Nat} {w1 : MEM} {a1 : Int32} {w : MEM} {h : PH} (wh : WH X h w) (hF : f_X9_court fu 0 a1 w = some (o, w1)) (hK : ∀ e, o = .inr e → ∃ t, KI e = some t) : CT 10 M_L_court [vR (900, 0), vI a1, vR (1101, 870)] h 1 6 (LQ X o KI w1) := by
  refine CT_ofH (by decide) mk_L_court (Nat.le_of_ble_eq_true rfl) rfl (r_L_court_0 ⟨⟨_, wh.2.1 10900 0 rfl rfl⟩, ?_⟩)
  cases o with
  | inl v =>
    refine cl_TI (D := 9) (nc := 1) (ns := 6) (rc := 0) (rs := 0) (Nat.le_refl _) (c_X9_court wh rfl hF) (fun h1 wh1 => ?_)
    exact ⟨1, X.2.2, wh1.2.2.2.2.2.2.2.1, bI_in (by decide), Or.inl ⟨v, rfl, rfl, wh1.L _⟩⟩
  | inr e =>
    obtain ⟨t, ht⟩ := hK e rfl
    refine cl_TX (D := 9) (nc := 1) (ns := 6) (rc := 0) (rs := 0) (Nat.le_refl _) (c_X9_court wh rfl hF) (fun h1 wh1 => ?_)
    cases e with
    | zero =>
      refine PX_catch1 (i := 3) (ls2 := [vR (900, 0), vI a1, vR (1101, 870), vU]) rfl ⟨by decide, by decide⟩ (by decide) l_L_13 ca_0 (by decide) (Or.inr (fun z q => by cases q)) rfl dh_court_12 (Or.inl ⟨(3 : Fin 4), rfl, rfl, rfl⟩) ?_
      refine P_iconst (v := (1 : Int32)) (pc := 13) dh_court_13 (by decide) ?_
      exact R_ireturn (pc := 14) dh_court_14 rfl rfl (Or.inr ⟨0, 1, rfl, rfl, rfl, wh1⟩)
    | succ e =>
      cases ht
theorem dh_law_12 : decode cL_law 12 = .ok (.astore_n 3, 1) := by decide +kernel
theorem dh_law_13 : decode cL_law 13 = .ok (.iconst 1, 1) := by decide +kernel
theorem dh_law_14 : decode cL_law 14 = .ok (.ireturn, 1) := by decide +kernel
theorem c_L_law {X : SCR} {fu : Nat} {o : Int32 ⊕ Nat} {w1 : MEM} {a1 : Int32} {w : MEM} {h : PH} (wh : WH X h w) (hF : f_X9_law fu 0 a1 w = some (o, w1)) (hK : ∀ e, o = .inr e → ∃ t, KI e = some t) : CT 51 M_L_law [vR (900, 0), vI a1, vR (1101, 870)] h 1 6 (LQ X o KI w1) := by
  refine CT_ofH (by decide) mk_L_law (Nat.le_of_ble_eq_true rfl) rfl (r_L_law_0 ⟨⟨_, wh.2.1 10900 0 rfl rfl⟩, ?_⟩)
  cases o with
  | inl v =>
    refine cl_TI (D := 50) (nc := 1) (ns := 6) (rc := 0) (rs := 0) (Nat.le_refl _) (c_X9_law wh rfl hF) (fun h1 wh1 => ?_)
    exact ⟨1, X.2.2, wh1.2.2.2.2.2.2.2.1, bI_in (by decide), Or.inl ⟨v, rfl, rfl, wh1.L _⟩⟩
  | inr e =>
    obtain ⟨t, ht⟩ := hK e rfl
    refine cl_TX (D := 50) (nc := 1) (ns := 6) (rc := 0) (rs := 0) (Nat.le_refl _) (c_X9_law wh rfl hF) (fun h1 wh1 => ?_)
    cases e with
    | zero =>
      refine PX_catch1 (i := 3) (ls2 := [vR (900, 0), vI a1, vR (1101, 870), vU]) rfl ⟨by decide, by decide⟩ (by decide) l_L_13 ca_0 (by decide) (Or.inr (fun z q => by cases q)) rfl dh_law_12 (Or.inl ⟨(3 : Fin 4), rfl, rfl, rfl⟩) ?_
      refine P_iconst (v := (1 : Int32)) (pc := 13) dh_law_13 (by decide) ?_
      exact R_ireturn (pc := 14) dh_law_14 rfl rfl (Or.inr ⟨0, 1, rfl, rfl, rfl, wh1⟩)
    | succ e =>
      cases ht
theorem dh_work_12 : decode cL_work 12 = .ok (.astore_n 3, 1) := by decide +kernel
theorem dh_work_13 : decode cL_work 13 = .ok (.iconst 1, 1) := by decide +kernel
theorem dh_work_14 : decode cL_work 14 = .ok (.ireturn, 1) := by decide +kernel
theorem c_L_work {X : SCR} {fu : Nat} {o : Int32 ⊕ Nat} {w1 : MEM} {a1 : Int32} {w : MEM} {h : PH} (wh : WH X h w) (hF : f_X9_work fu 0 a1 w = some (o, w1)) (hK : ∀ e, o = .inr e → ∃ t, KI e = some t) : CT 51 M_L_work [vR (900, 0), vI a1, vR (1101, 870)] h 1 6 (LQ X o KI w1) := by
  refine CT_ofH (by decide) mk_L_work (Nat.le_of_ble_eq_true rfl) rfl (r_L_work_0 ⟨⟨_, wh.2.1 10900 0 rfl rfl⟩, ?_⟩)
  cases o with
  | inl v =>
    refine cl_TI (D := 50) (nc := 1) (ns := 6) (rc := 0) (rs := 0) (Nat.le_refl _) (c_X9_work wh rfl hF) (fun h1 wh1 => ?_)
    exact ⟨1, X.2.2, wh1.2.2.2.2.2.2.2.1, bI_in (by decide), Or.inl ⟨v, rfl, rfl, wh1.L _⟩⟩
  | inr e =>
    obtain ⟨t, ht⟩ := hK e rfl
    refine cl_TX (D := 50) (nc := 1) (ns := 6) (rc := 0) (rs := 0) (Nat.le_refl _) (c_X9_work wh rfl hF) (fun h1 wh1 => ?_)
    cases e with
    | zero =>
      refine PX_catch1 (i := 3) (ls2 := [vR (900, 0), vI a1, vR (1101, 870), vU]) rfl ⟨by decide, by decide⟩ (by decide) l_L_13 ca_0 (by decide) (Or.inr (fun z q => by cases q)) rfl dh_work_12 (Or.inl ⟨(3 : Fin 4), rfl, rfl, rfl⟩) ?_
      refine P_iconst (v := (1 : Int32)) (pc := 13) dh_work_13 (by decide) ?_
      exact R_ireturn (pc := 14) dh_work_14 rfl rfl (Or.inr ⟨0, 1, rfl, rfl, rfl, wh1⟩)
    | succ e =>
      cases ht
