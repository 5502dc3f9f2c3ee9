-- X10_rank
def f_X10_rank (fu : Nat) (l0 : Nat) (l1 : Int32) (w : MEM) : Option (Int32 × MEM) := lt (sS w (11000, l0) (0 : Int32)) fun (w1 : MEM) => bnd (f_X10_within fu l1 (0 : Int32) (6 : Int32) w1) fun (x3 : Int32) (w2 : MEM) => bnd (f_X10_may fu l0 x3 (1 : Int32) (1 : Int32) w2) fun (x5 : Int32) (w4 : MEM) => if x5 = 0 then (some ((0 : Int32), w4)) else (bnd (f_X10_take fu l0 w4) fun (u7 : Unit) (w6 : MEM) => bnd (f_X10_ranked fu l0 l1 w6) fun (x9 : Int32) (w8 : MEM) => some (x9, w8))
theorem E_X10_rank (fu : Nat) (l0 : Nat) (l1 : Int32) (w : MEM) : f_X10_rank fu l0 l1 w = lt (sS w (11000, l0) (0 : Int32)) fun (w1 : MEM) => bnd (f_X10_within fu l1 (0 : Int32) (6 : Int32) w1) fun (x3 : Int32) (w2 : MEM) => bnd (f_X10_may fu l0 x3 (1 : Int32) (1 : Int32) w2) fun (x5 : Int32) (w4 : MEM) => if x5 = 0 then (some ((0 : Int32), w4)) else (bnd (f_X10_take fu l0 w4) fun (u7 : Unit) (w6 : MEM) => bnd (f_X10_ranked fu l0 l1 w6) fun (x9 : Int32) (w8 : MEM) => some (x9, w8)) := rfl
theorem w_X10_rank {X : SCR} {d rc rs : Nat} {Q : PO → PH → Prop} {o : Int32} {w1 : MEM} {fu : Nat} (hd : 2 ≤ d) (hq : ∀ h1, WH X h1 w1 → Q (.inl (some (vI o))) h1) {l0 : Nat} {l1 : Int32} {w : MEM} {h : PH} (wh : WH X h w) (hv_l0 : vo 10 l0 = true) (hF : f_X10_rank fu l0 l1 w = some (o, w1)) : PW d M_X10_rank Q rc rs 0 [vR (1000, l0), vI l1] [] h := by
  replace hF := (E_X10_rank fu l0 l1 w).symm.trans hF
  refine r_X10_rank_0 ?_
  replace hF := lt_of hF
  refine sF_S wh rfl hv_l0 ?_
  clear wh
  intro h wh
  obtain ⟨x3, w2, hG, hF⟩ := bnd_of hF
  refine cl_I (D := 0) (Nat.le_trans (by decide) hd) (c_X10_within wh  hG) ?_
  clear hG
  clear wh
  intro h wh
  refine ⟨⟨_, wh.1 11000 _ rfl hv_l0⟩, ?_⟩
  obtain ⟨x5, w4, hG, hF⟩ := bnd_of hF
  refine cl_I (D := 0) (Nat.le_trans (by decide) hd) (c_X10_may wh hv_l0 hG) ?_
  clear hG
  clear wh
  intro h wh
  refine ⟨fun c => ?_, fun c => ?_⟩
  · replace hF := if_ofT c hF
    obtain ⟨rfl, rfl⟩ := some_of hF
    exact hq _ wh
  · replace hF := if_ofF c hF
    refine ⟨⟨_, wh.1 11000 _ rfl hv_l0⟩, ?_⟩
    obtain ⟨u7, w6, hG, hF⟩ := bnd_of hF
    refine cl_V (D := 1) (Nat.le_trans (by decide) hd) (c_X10_take wh hv_l0 hG) ?_
    clear hG
    clear wh
    intro h wh
    refine ⟨⟨_, wh.1 11000 _ rfl hv_l0⟩, ?_⟩
    obtain ⟨x9, w8, hG, hF⟩ := bnd_of hF
    refine cl_I (D := 0) (Nat.le_trans (by decide) hd) (c_X10_ranked wh hv_l0 hG) ?_
    clear hG
    clear wh
    intro h wh
    obtain ⟨rfl, rfl⟩ := some_of hF
    exact hq _ wh
theorem c_X10_rank {X : SCR} {fu : Nat} {o : Int32} {w1 : MEM} {a0 : Nat} {a1 : Int32} {w : MEM} {h : PH} (wh : WH X h w) (h0 : vo 10 a0 = true) (hF : f_X10_rank fu a0 a1 w = some (o, w1)) : CT 2 M_X10_rank [vR (1000, a0), vI a1] h 0 0 (QP X (.inl (some (vI o))) w1) :=
  CT_of mk_X10_rank (Nat.le_of_ble_eq_true rfl) rfl (w_X10_rank (fu := fu) (rc := 0) (rs := 0) (hd := Nat.le_refl 2) (hq := fun h1 g => ⟨rfl, g⟩) wh h0 hF)
-- X10_ahead
def f_X10_ahead_46 (fu : Nat) : Nat → Nat → Int32 → Int32 → Int32 → MEM → Option (Int32 × MEM)
  | 0, _, _, _, _, _ => none
  | n + 1, l0, l1, l2, l3, w => if l3 < l1 then (bnd (f_X10_passes fu l0 w) fun (u10 : Unit) (w9 : MEM) => f_X10_ahead_46 fu n l0 l1 l2 (l3 + (1 : Int32)) w9) else (if l2 = 0 then (bnd (f_X10_sumOf fu l0 (7 : Int32) w) fun (x8 : Int32) (w7 : MEM) => some (x8, w7)) else (if l2 = (1 : Int32) then (bnd (f_X10_clouded fu l0 w) fun (x6 : Int32) (w5 : MEM) => some (x6, w5)) else (if l2 = (2 : Int32) then (bnd (f_X10_ranked fu l0 (0 : Int32) w) fun (x4 : Int32) (w3 : MEM) => some (x4, w3)) else (bnd (f_X10_sumOf fu l0 (49 : Int32) w) fun (x2 : Int32) (w1 : MEM) => some (x2, w1)))))
theorem E_X10_ahead_46 (fu : Nat) (n : Nat) (l0 : Nat) (l1 : Int32) (l2 : Int32) (l3 : Int32) (w : MEM) : f_X10_ahead_46 fu (n + 1) l0 l1 l2 l3 w = if l3 < l1 then (bnd (f_X10_passes fu l0 w) fun (u10 : Unit) (w9 : MEM) => f_X10_ahead_46 fu n l0 l1 l2 (l3 + (1 : Int32)) w9) else (if l2 = 0 then (bnd (f_X10_sumOf fu l0 (7 : Int32) w) fun (x8 : Int32) (w7 : MEM) => some (x8, w7)) else (if l2 = (1 : Int32) then (bnd (f_X10_clouded fu l0 w) fun (x6 : Int32) (w5 : MEM) => some (x6, w5)) else (if l2 = (2 : Int32) then (bnd (f_X10_ranked fu l0 (0 : Int32) w) fun (x4 : Int32) (w3 : MEM) => some (x4, w3)) else (bnd (f_X10_sumOf fu l0 (49 : Int32) w) fun (x2 : Int32) (w1 : MEM) => some (x2, w1))))) := rfl
theorem w_X10_ahead_46 {X : SCR} {d rc rs : Nat} {Q : PO → PH → Prop} {o : Int32} {w1 : MEM} {fu : Nat} (hd : 6 ≤ d) (hq : ∀ h1, WH X h1 w1 → Q (.inl (some (vI o))) h1) : ∀ (n : Nat) (l0 : Nat) (l1 : Int32) (l2 : Int32) (l3 : Int32) (w : MEM) (h : PH), WH X h w → vo 10 l0 = true → f_X10_ahead_46 fu n l0 l1 l2 l3 w = some (o, w1) → PW d M_X10_ahead Q rc rs 46 [vR (1000, l0), vI l1, vI l2, vI l3] [] h := by
  intro n
  induction n with
  | zero => intro l0 l1 l2 l3 w h wh hv_l0 hF; cases hF
  | succ n ih =>
    intro l0 l1 l2 l3 w h wh hv_l0 hF
    replace hF := (E_X10_ahead_46 fu n l0 l1 l2 l3 w).symm.trans hF
    refine r_X10_ahead_46 ?_
    refine ⟨fun c => ?_, fun c => ?_⟩
    · replace hF := if_ofT c hF
      refine ⟨⟨_, wh.1 11000 _ rfl hv_l0⟩, ?_⟩
      obtain ⟨u10, w9, hG, hF⟩ := bnd_of hF
      refine cl_V (D := 5) (Nat.le_trans (by decide) hd) (c_X10_passes wh hv_l0 hG) ?_
      clear hG
      clear wh
      intro h wh
      exact ih _ _ _ _ _ _ wh hv_l0 hF
    · replace hF := if_ofF c hF
      refine ⟨fun c => ?_, fun c => ?_⟩
      · replace hF := if_ofT c hF
        refine ⟨⟨_, wh.1 11000 _ rfl hv_l0⟩, ?_⟩
        obtain ⟨x8, w7, hG, hF⟩ := bnd_of hF
        refine cl_I (D := 0) (Nat.le_trans (by decide) hd) (c_X10_sumOf wh hv_l0 hG) ?_
        clear hG
        clear wh
        intro h wh
        obtain ⟨rfl, rfl⟩ := some_of hF
        exact hq _ wh
      · replace hF := if_ofF c hF
        refine ⟨fun c => ?_, fun c => ?_⟩
        · replace hF := if_ofT c hF
          refine ⟨⟨_, wh.1 11000 _ rfl hv_l0⟩, ?_⟩
          obtain ⟨x6, w5, hG, hF⟩ := bnd_of hF
          refine cl_I (D := 0) (Nat.le_trans (by decide) hd) (c_X10_clouded wh hv_l0 hG) ?_
          clear hG
          clear wh
          intro h wh
          obtain ⟨rfl, rfl⟩ := some_of hF
          exact hq _ wh
        · replace hF := if_ofF c hF
          refine ⟨fun c => ?_, fun c => ?_⟩
          · replace hF := if_ofT c hF
            refine ⟨⟨_, wh.1 11000 _ rfl hv_l0⟩, ?_⟩
            obtain ⟨x4, w3, hG, hF⟩ := bnd_of hF
            refine cl_I (D := 0) (Nat.le_trans (by decide) hd) (c_X10_ranked wh hv_l0 hG) ?_
            clear hG
            clear wh
            intro h wh
            obtain ⟨rfl, rfl⟩ := some_of hF
            exact hq _ wh
          · replace hF := if_ofF c hF
            refine ⟨⟨_, wh.1 11000 _ rfl hv_l0⟩, ?_⟩
            obtain ⟨x2, w1, hG, hF⟩ := bnd_of hF
            refine cl_I (D := 0) (Nat.le_trans (by decide) hd) (c_X10_sumOf wh hv_l0 hG) ?_
            clear hG
            clear wh
            intro h wh
            obtain ⟨rfl, rfl⟩ := some_of hF
            exact hq _ wh
def f_X10_ahead (fu : Nat) (l0 : Nat) (l1 : Int32) (l2 : Int32) (w : MEM) : Option (Int32 × MEM) := lt (sS w (11000, l0) (0 : Int32)) fun (w1 : MEM) => bnd (f_X10_within fu l1 (0 : Int32) (99 : Int32) w1) fun (x3 : Int32) (w2 : MEM) => if x3 = 0 then (bnd (f_X10_may fu l0 (0 : Int32) (1 : Int32) (1 : Int32) w2) fun (x5 : Int32) (w4 : MEM) => if x5 = 0 then (some ((0 : Int32), w4)) else (bnd (f_X10_take fu l0 w4) fun (u7 : Unit) (w6 : MEM) => f_X10_ahead_46 fu fu l0 l1 l2 (0 : Int32) w6)) else (bnd (f_X10_within fu l2 (0 : Int32) (3 : Int32) w2) fun (x9 : Int32) (w8 : MEM) => if x9 = 0 then (bnd (f_X10_may fu l0 (0 : Int32) (1 : Int32) (1 : Int32) w8) fun (x11 : Int32) (w10 : MEM) => if x11 = 0 then (some ((0 : Int32), w10)) else (bnd (f_X10_take fu l0 w10) fun (u13 : Unit) (w12 : MEM) => f_X10_ahead_46 fu fu l0 l1 l2 (0 : Int32) w12)) else (bnd (f_X10_may fu l0 (1 : Int32) (1 : Int32) (1 : Int32) w8) fun (x15 : Int32) (w14 : MEM) => if x15 = 0 then (some ((0 : Int32), w14)) else (bnd (f_X10_take fu l0 w14) fun (u17 : Unit) (w16 : MEM) => f_X10_ahead_46 fu fu l0 l1 l2 (0 : Int32) w16)))
theorem E_X10_ahead (fu : Nat) (l0 : Nat) (l1 : Int32) (l2 : Int32) (w : MEM) : f_X10_ahead fu l0 l1 l2 w = lt (sS w (11000, l0) (0 : Int32)) fun (w1 : MEM) => bnd (f_X10_within fu l1 (0 : Int32) (99 : Int32) w1) fun (x3 : Int32) (w2 : MEM) => if x3 = 0 then (bnd (f_X10_may fu l0 (0 : Int32) (1 : Int32) (1 : Int32) w2) fun (x5 : Int32) (w4 : MEM) => if x5 = 0 then (some ((0 : Int32), w4)) else (bnd (f_X10_take fu l0 w4) fun (u7 : Unit) (w6 : MEM) => f_X10_ahead_46 fu fu l0 l1 l2 (0 : Int32) w6)) else (bnd (f_X10_within fu l2 (0 : Int32) (3 : Int32) w2) fun (x9 : Int32) (w8 : MEM) => if x9 = 0 then (bnd (f_X10_may fu l0 (0 : Int32) (1 : Int32) (1 : Int32) w8) fun (x11 : Int32) (w10 : MEM) => if x11 = 0 then (some ((0 : Int32), w10)) else (bnd (f_X10_take fu l0 w10) fun (u13 : Unit) (w12 : MEM) => f_X10_ahead_46 fu fu l0 l1 l2 (0 : Int32) w12)) else (bnd (f_X10_may fu l0 (1 : Int32) (1 : Int32) (1 : Int32) w8) fun (x15 : Int32) (w14 : MEM) => if x15 = 0 then (some ((0 : Int32), w14)) else (bnd (f_X10_take fu l0 w14) fun (u17 : Unit) (w16 : MEM) => f_X10_ahead_46 fu fu l0 l1 l2 (0 : Int32) w16))) := rfl
theorem w_X10_ahead {X : SCR} {d rc rs : Nat} {Q : PO → PH → Prop} {o : Int32} {w1 : MEM} {fu : Nat} (hd : 6 ≤ d) (hq : ∀ h1, WH X h1 w1 → Q (.inl (some (vI o))) h1) {l0 : Nat} {l1 : Int32} {l2 : Int32} {w : MEM} {h : PH} (wh : WH X h w) (hv_l0 : vo 10 l0 = true) (hF : f_X10_ahead fu l0 l1 l2 w = some (o, w1)) : PW d M_X10_ahead Q rc rs 0 [vR (1000, l0), vI l1, vI l2, vU] [] h := by
  replace hF := (E_X10_ahead fu l0 l1 l2 w).symm.trans hF
  refine r_X10_ahead_0 ?_
  replace hF := lt_of hF
  refine sF_S wh rfl hv_l0 ?_
  clear wh
  intro h wh
  obtain ⟨x3, w2, hG, hF⟩ := bnd_of hF
  refine cl_I (D := 0) (Nat.le_trans (by decide) hd) (c_X10_within wh  hG) ?_
  clear hG
  clear wh
  intro h wh
  refine ⟨fun c => ?_, fun c => ?_⟩
  · replace hF := if_ofT c hF
    refine ⟨⟨_, wh.1 11000 _ rfl hv_l0⟩, ?_⟩
    obtain ⟨x5, w4, hG, hF⟩ := bnd_of hF
    refine cl_I (D := 0) (Nat.le_trans (by decide) hd) (c_X10_may wh hv_l0 hG) ?_
    clear hG
    clear wh
    intro h wh
    refine ⟨fun c => ?_, fun c => ?_⟩
    · replace hF := if_ofT c hF
      obtain ⟨rfl, rfl⟩ := some_of hF
      exact hq _ wh
    · replace hF := if_ofF c hF
      refine ⟨⟨_, wh.1 11000 _ rfl hv_l0⟩, ?_⟩
      obtain ⟨u7, w6, hG, hF⟩ := bnd_of hF
      refine cl_V (D := 1) (Nat.le_trans (by decide) hd) (c_X10_take wh hv_l0 hG) ?_
      clear hG
      clear wh
      intro h wh
      exact w_X10_ahead_46 hd hq  fu _ _ _ _ _ _ wh hv_l0 hF
  · replace hF := if_ofF c hF
    obtain ⟨x9, w8, hG, hF⟩ := bnd_of hF
    refine cl_I (D := 0) (Nat.le_trans (by decide) hd) (c_X10_within wh  hG) ?_
    clear hG
    clear wh
    intro h wh
    refine ⟨fun c => ?_, fun c => ?_⟩
    · replace hF := if_ofT c hF
      refine ⟨⟨_, wh.1 11000 _ rfl hv_l0⟩, ?_⟩
      obtain ⟨x11, w10, hG, hF⟩ := bnd_of hF
      refine cl_I (D := 0) (Nat.le_trans (by decide) hd) (c_X10_may wh hv_l0 hG) ?_
      clear hG
      clear wh
      intro h wh
      refine ⟨fun c => ?_, fun c => ?_⟩
      · replace hF := if_ofT c hF
        obtain ⟨rfl, rfl⟩ := some_of hF
        exact hq _ wh
      · replace hF := if_ofF c hF
        refine ⟨⟨_, wh.1 11000 _ rfl hv_l0⟩, ?_⟩
        obtain ⟨u13, w12, hG, hF⟩ := bnd_of hF
        refine cl_V (D := 1) (Nat.le_trans (by decide) hd) (c_X10_take wh hv_l0 hG) ?_
        clear hG
        clear wh
        intro h wh
        exact w_X10_ahead_46 hd hq  fu _ _ _ _ _ _ wh hv_l0 hF
    · replace hF := if_ofF c hF
      refine ⟨⟨_, wh.1 11000 _ rfl hv_l0⟩, ?_⟩
      obtain ⟨x15, w14, hG, hF⟩ := bnd_of hF
      refine cl_I (D := 0) (Nat.le_trans (by decide) hd) (c_X10_may wh hv_l0 hG) ?_
      clear hG
      clear wh
      intro h wh
      refine ⟨fun c => ?_, fun c => ?_⟩
      · replace hF := if_ofT c hF
        obtain ⟨rfl, rfl⟩ := some_of hF
        exact hq _ wh
      · replace hF := if_ofF c hF
        refine ⟨⟨_, wh.1 11000 _ rfl hv_l0⟩, ?_⟩
        obtain ⟨u17, w16, hG, hF⟩ := bnd_of hF
        refine cl_V (D := 1) (Nat.le_trans (by decide) hd) (c_X10_take wh hv_l0 hG) ?_
        clear hG
        clear wh
        intro h wh
        exact w_X10_ahead_46 hd hq  fu _ _ _ _ _ _ wh hv_l0 hF
theorem c_X10_ahead {X : SCR} {fu : Nat} {o : Int32} {w1 : MEM} {a0 : Nat} {a1 : Int32} {a2 : Int32} {w : MEM} {h : PH} (wh : WH X h w) (h0 : vo 10 a0 = true) (hF : f_X10_ahead fu a0 a1 a2 w = some (o, w1)) : CT 6 M_X10_ahead [vR (1000, a0), vI a1, vI a2] h 0 0 (QP X (.inl (some (vI o))) w1) :=
  CT_of mk_X10_ahead (Nat.le_of_ble_eq_true rfl) rfl (w_X10_ahead (fu := fu) (rc := 0) (rs := 0) (hd := Nat.le_refl 6) (hq := fun h1 g => ⟨rfl, g⟩) wh h0 hF)
-- X10_clouds
def f_X10_clouds_22 (fu : Nat) : Nat → Nat → Int32 → Int32 → MEM → Option (Int32 × MEM)
  | 0, _, _, _, _ => none
  | n + 1, l0, l1, l2, w => if (48 : Int32) < l2 then (some ((-1 : Int32), w)) else (ck (bI ((7 : Int32) + l1) 57) (if (rA w (1020, l0) ((7 : Int32) + l1)) < (50 : Int32) then (bnd (f_X10_passes fu l0 w) fun (u2 : Unit) (w1 : MEM) => f_X10_clouds_22 fu n l0 l1 (l2 + (1 : Int32)) w1) else (some (l2, w))))
theorem E_X10_clouds_22 (fu : Nat) (n : Nat) (l0 : Nat) (l1 : Int32) (l2 : Int32) (w : MEM) : f_X10_clouds_22 fu (n + 1) l0 l1 l2 w = if (48 : Int32) < l2 then (some ((-1 : Int32), w)) else (ck (bI ((7 : Int32) + l1) 57) (if (rA w (1020, l0) ((7 : Int32) + l1)) < (50 : Int32) then (bnd (f_X10_passes fu l0 w) fun (u2 : Unit) (w1 : MEM) => f_X10_clouds_22 fu n l0 l1 (l2 + (1 : Int32)) w1) else (some (l2, w)))) := rfl
theorem w_X10_clouds_22 {X : SCR} {d rc rs : Nat} {Q : PO → PH → Prop} {o : Int32} {w1 : MEM} {fu : Nat} (hd : 6 ≤ d) (hq : ∀ h1, WH X h1 w1 → Q (.inl (some (vI o))) h1) : ∀ (n : Nat) (l0 : Nat) (l1 : Int32) (l2 : Int32) (w : MEM) (h : PH), WH X h w → vo 10 l0 = true → f_X10_clouds_22 fu n l0 l1 l2 w = some (o, w1) → PW d M_X10_clouds Q rc rs 22 [vR (1000, l0), vI l1, vI l2] [] h := by
  intro n
  induction n with
  | zero => intro l0 l1 l2 w h wh hv_l0 hF; cases hF
  | succ n ih =>
    intro l0 l1 l2 w h wh hv_l0 hF
    replace hF := (E_X10_clouds_22 fu n l0 l1 l2 w).symm.trans hF
    refine r_X10_clouds_22 ?_
    refine ⟨fun c => ?_, fun c => ?_⟩
    · replace hF := if_ofT c hF
      obtain ⟨rfl, rfl⟩ := some_of hF
      exact hq _ wh
    · replace hF := if_ofF c hF
      refine gA_of (b := (1020, l0)) (wh.2.1 11043 _ rfl hv_l0) ?_
      obtain ⟨c, hF⟩ := ck_of hF
      refine xI_of wh (oA_1020 hv_l0) c ?_
      clear c
      refine ⟨fun c => ?_, fun c => ?_⟩
      · replace hF := if_ofT c hF
        refine ⟨⟨_, wh.1 11000 _ rfl hv_l0⟩, ?_⟩
        obtain ⟨u2, w1, hG, hF⟩ := bnd_of hF
        refine cl_V (D := 5) (Nat.le_trans (by decide) hd) (c_X10_passes wh hv_l0 hG) ?_
        clear hG
        clear wh
        intro h wh
        exact ih _ _ _ _ _ wh hv_l0 hF
      · replace hF := if_ofF c hF
        obtain ⟨rfl, rfl⟩ := some_of hF
        exact hq _ wh
def f_X10_clouds (fu : Nat) (l0 : Nat) (l1 : Int32) (w : MEM) : Option (Int32 × MEM) := lt (sS w (11000, l0) (0 : Int32)) fun (w1 : MEM) => bnd (f_X10_isHeir fu l0 l1 (1 : Int32) w1) fun (x3 : Int32) (w2 : MEM) => if x3 = 0 then (some ((0 : Int32), w2)) else (bnd (f_X10_take fu l0 w2) fun (u5 : Unit) (w4 : MEM) => f_X10_clouds_22 fu fu l0 l1 (0 : Int32) w4)
theorem E_X10_clouds (fu : Nat) (l0 : Nat) (l1 : Int32) (w : MEM) : f_X10_clouds fu l0 l1 w = lt (sS w (11000, l0) (0 : Int32)) fun (w1 : MEM) => bnd (f_X10_isHeir fu l0 l1 (1 : Int32) w1) fun (x3 : Int32) (w2 : MEM) => if x3 = 0 then (some ((0 : Int32), w2)) else (bnd (f_X10_take fu l0 w2) fun (u5 : Unit) (w4 : MEM) => f_X10_clouds_22 fu fu l0 l1 (0 : Int32) w4) := rfl
theorem w_X10_clouds {X : SCR} {d rc rs : Nat} {Q : PO → PH → Prop} {o : Int32} {w1 : MEM} {fu : Nat} (hd : 6 ≤ d) (hq : ∀ h1, WH X h1 w1 → Q (.inl (some (vI o))) h1) {l0 : Nat} {l1 : Int32} {w : MEM} {h : PH} (wh : WH X h w) (hv_l0 : vo 10 l0 = true) (hF : f_X10_clouds fu l0 l1 w = some (o, w1)) : PW d M_X10_clouds Q rc rs 0 [vR (1000, l0), vI l1, vU] [] h := by
  replace hF := (E_X10_clouds fu l0 l1 w).symm.trans hF
  refine r_X10_clouds_0 ?_
  replace hF := lt_of hF
  refine sF_S wh rfl hv_l0 ?_
  clear wh
  intro h wh
  refine ⟨⟨_, wh.1 11000 _ rfl hv_l0⟩, ?_⟩
  obtain ⟨x3, w2, hG, hF⟩ := bnd_of hF
  refine cl_I (D := 1) (Nat.le_trans (by decide) hd) (c_X10_isHeir wh hv_l0 hG) ?_
  clear hG
  clear wh
  intro h wh
  refine ⟨fun c => ?_, fun c => ?_⟩
  · replace hF := if_ofT c hF
    obtain ⟨rfl, rfl⟩ := some_of hF
    exact hq _ wh
  · replace hF := if_ofF c hF
    refine ⟨⟨_, wh.1 11000 _ rfl hv_l0⟩, ?_⟩
    obtain ⟨u5, w4, hG, hF⟩ := bnd_of hF
    refine cl_V (D := 1) (Nat.le_trans (by decide) hd) (c_X10_take wh hv_l0 hG) ?_
    clear hG
    clear wh
    intro h wh
    exact w_X10_clouds_22 hd hq  fu _ _ _ _ _ wh hv_l0 hF
theorem c_X10_clouds {X : SCR} {fu : Nat} {o : Int32} {w1 : MEM} {a0 : Nat} {a1 : Int32} {w : MEM} {h : PH} (wh : WH X h w) (h0 : vo 10 a0 = true) (hF : f_X10_clouds fu a0 a1 w = some (o, w1)) : CT 6 M_X10_clouds [vR (1000, a0), vI a1] h 0 0 (QP X (.inl (some (vI o))) w1) :=
  CT_of mk_X10_clouds (Nat.le_of_ble_eq_true rfl) rfl (w_X10_clouds (fu := fu) (rc := 0) (rs := 0) (hd := Nat.le_refl 6) (hq := fun h1 g => ⟨rfl, g⟩) wh h0 hF)
-- X10_ones
def f_X10_ones_4 (fu : Nat) : Nat → Int32 → Int32 → Int32 → MEM → Option (Int32 × MEM)
  | 0, _, _, _, _ => none
  | n + 1, l0, l1, l2, w => if l2 < (7 : Int32) then (lt ((l1 + ((l0 >>> (l2 &&& 31)) &&& (1 : Int32)))) fun (v1 : Int32) => f_X10_ones_4 fu n l0 v1 (l2 + (1 : Int32)) w) else (some (l1, w))
theorem E_X10_ones_4 (fu : Nat) (n : Nat) (l0 : Int32) (l1 : Int32) (l2 : Int32) (w : MEM) : f_X10_ones_4 fu (n + 1) l0 l1 l2 w = if l2 < (7 : Int32) then (lt ((l1 + ((l0 >>> (l2 &&& 31)) &&& (1 : Int32)))) fun (v1 : Int32) => f_X10_ones_4 fu n l0 v1 (l2 + (1 : Int32)) w) else (some (l1, w)) := rfl
theorem w_X10_ones_4 {X : SCR} {d rc rs : Nat} {Q : PO → PH → Prop} {o : Int32} {w1 : MEM} {fu : Nat} (hd : 0 ≤ d) (hq : ∀ h1, WH X h1 w1 → Q (.inl (some (vI o))) h1) : ∀ (n : Nat) (l0 : Int32) (l1 : Int32) (l2 : Int32) (w : MEM) (h : PH), WH X h w → f_X10_ones_4 fu n l0 l1 l2 w = some (o, w1) → PW d M_X10_ones Q rc rs 4 [vI l0, vI l1, vI l2] [] h := by
  intro n
  induction n with
  | zero => intro l0 l1 l2 w h wh  hF; cases hF
  | succ n ih =>
    intro l0 l1 l2 w h wh  hF
    replace hF := (E_X10_ones_4 fu n l0 l1 l2 w).symm.trans hF
    refine r_X10_ones_4 ?_
    refine ⟨fun c => ?_, fun c => ?_⟩
    · replace hF := if_ofT c hF
      replace hF := lt_of hF
      exact ih _ _ _ _ _ wh  hF
    · replace hF := if_ofF c hF
      obtain ⟨rfl, rfl⟩ := some_of hF
      exact hq _ wh
def f_X10_ones (fu : Nat) (l0 : Int32) (w : MEM) : Option (Int32 × MEM) := f_X10_ones_4 fu fu l0 (0 : Int32) (0 : Int32) w
theorem E_X10_ones (fu : Nat) (l0 : Int32) (w : MEM) : f_X10_ones fu l0 w = f_X10_ones_4 fu fu l0 (0 : Int32) (0 : Int32) w := rfl
theorem w_X10_ones {X : SCR} {d rc rs : Nat} {Q : PO → PH → Prop} {o : Int32} {w1 : MEM} {fu : Nat} (hd : 0 ≤ d) (hq : ∀ h1, WH X h1 w1 → Q (.inl (some (vI o))) h1) {l0 : Int32} {w : MEM} {h : PH} (wh : WH X h w)  (hF : f_X10_ones fu l0 w = some (o, w1)) : PW d M_X10_ones Q rc rs 0 [vI l0, vU, vU] [] h := by
  replace hF := (E_X10_ones fu l0 w).symm.trans hF
  refine r_X10_ones_0 ?_
  exact w_X10_ones_4 hd hq  fu _ _ _ _ _ wh  hF
theorem c_X10_ones {X : SCR} {fu : Nat} {o : Int32} {w1 : MEM} {a0 : Int32} {w : MEM} {h : PH} (wh : WH X h w)  (hF : f_X10_ones fu a0 w = some (o, w1)) : CT 0 M_X10_ones [vI a0] h 0 0 (QP X (.inl (some (vI o))) w1) :=
  CT_of mk_X10_ones (Nat.le_of_ble_eq_true rfl) rfl (w_X10_ones (fu := fu) (rc := 0) (rs := 0) (hd := Nat.le_refl 0) (hq := fun h1 g => ⟨rfl, g⟩) wh  hF)
-- X10_wipes
def f_X10_wipes_119 (fu : Nat) (k20 : Nat → Int32 → Int32 → Int32 → MEM → Option (Int32 × MEM)) : Nat → Nat → Int32 → Int32 → Int32 → Int32 → MEM → Option (Int32 × MEM)
  | 0, _, _, _, _, _, _ => none
  | n + 1, l0, l1, l2, l3, l4, w => if l4 < (24 : Int32) then (bnd (f_X10_passes fu l0 w) fun (u4 : Unit) (w3 : MEM) => f_X10_wipes_119 fu k20 n l0 l1 l2 l3 (l4 + (1 : Int32)) w3) else (bnd (f_X10_ranked fu l0 (0 : Int32) w) fun (x2 : Int32) (w1 : MEM) => if x2 = l1 then (k20 l0 l1 l3 (l3 + (1 : Int32)) w1) else (k20 l0 l1 l2 (l3 + (1 : Int32)) w1))
theorem E_X10_wipes_119 (fu : Nat) (k20 : Nat → Int32 → Int32 → Int32 → MEM → Option (Int32 × MEM)) (n : Nat) (l0 : Nat) (l1 : Int32) (l2 : Int32) (l3 : Int32) (l4 : Int32) (w : MEM) : f_X10_wipes_119 fu k20 (n + 1) l0 l1 l2 l3 l4 w = if l4 < (24 : Int32) then (bnd (f_X10_passes fu l0 w) fun (u4 : Unit) (w3 : MEM) => f_X10_wipes_119 fu k20 n l0 l1 l2 l3 (l4 + (1 : Int32)) w3) else (bnd (f_X10_ranked fu l0 (0 : Int32) w) fun (x2 : Int32) (w1 : MEM) => if x2 = l1 then (k20 l0 l1 l3 (l3 + (1 : Int32)) w1) else (k20 l0 l1 l2 (l3 + (1 : Int32)) w1)) := rfl
theorem w_X10_wipes_119 {X : SCR} {d rc rs : Nat} {Q : PO → PH → Prop} {o : Int32} {w1 : MEM} {fu : Nat} {k20 : Nat → Int32 → Int32 → Int32 → MEM → Option (Int32 × MEM)} (hd : 6 ≤ d) (hq : ∀ h1, WH X h1 w1 → Q (.inl (some (vI o))) h1) (hk20 : ∀ (l0 : Nat) (l1 : Int32) (l2 : Int32) (l3 : Int32) (w : MEM) (h : PH), WH X h w → vo 10 l0 = true → k20 l0 l1 l2 l3 w = some (o, w1) → PW d M_X10_wipes Q rc rs 20 [vR (1000, l0), vI l1, vI l2, vI l3, vU] [] h) : ∀ (n : Nat) (l0 : Nat) (l1 : Int32) (l2 : Int32) (l3 : Int32) (l4 : Int32) (w : MEM) (h : PH), WH X h w → vo 10 l0 = true → f_X10_wipes_119 fu k20 n l0 l1 l2 l3 l4 w = some (o, w1) → PW d M_X10_wipes Q rc rs 119 [vR (1000, l0), vI l1, vI l2, vI l3, vI l4] [] h := by
  intro n
  induction n with
  | zero => intro l0 l1 l2 l3 l4 w h wh hv_l0 hF; cases hF
  | succ n ih =>
    intro l0 l1 l2 l3 l4 w h wh hv_l0 hF
    replace hF := (E_X10_wipes_119 fu k20 n l0 l1 l2 l3 l4 w).symm.trans hF
    refine r_X10_wipes_119 ?_
    refine ⟨fun c => ?_, fun c => ?_⟩
    · replace hF := if_ofT c hF
      refine ⟨⟨_, wh.1 11000 _ rfl hv_l0⟩, ?_⟩
      obtain ⟨u4, w3, hG, hF⟩ := bnd_of hF
      refine cl_V (D := 5) (Nat.le_trans (by decide) hd) (c_X10_passes wh hv_l0 hG) ?_
      clear hG
      clear wh
      intro h wh
      exact ih _ _ _ _ _ _ _ wh hv_l0 hF
    · replace hF := if_ofF c hF
      refine ⟨⟨_, wh.1 11000 _ rfl hv_l0⟩, ?_⟩
      obtain ⟨x2, w1, hG, hF⟩ := bnd_of hF
      refine cl_I (D := 0) (Nat.le_trans (by decide) hd) (c_X10_ranked wh hv_l0 hG) ?_
      clear hG
      clear wh
      intro h wh
      refine ⟨fun c => ?_, fun c => ?_⟩
      · replace hF := if_ofT c hF
        exact hk20 _ _ _ _ _ _ wh hv_l0 hF
      · replace hF := if_ofF c hF
        exact hk20 _ _ _ _ _ _ wh hv_l0 hF
def f_X10_wipes_76 (fu : Nat) (k20 : Nat → Int32 → Int32 → Int32 → MEM → Option (Int32 × MEM)) : Nat → Nat → Int32 → Int32 → Int32 → Int32 → MEM → Option (Int32 × MEM)
  | 0, _, _, _, _, _, _ => none
  | n + 1, l0, l1, l2, l3, l4, w => if l4 < (rS w (11022, l0)) then (ck (bI ((7 : Int32) + l4) 57) (ck (bI ((7 : Int32) + l4) 57) (lt (sA w (1020, l0) ((7 : Int32) + l4) ((rA w (1020, l0) ((7 : Int32) + l4)) * ((1 : Int32) - ((l3 >>> (l4 &&& 31)) &&& (1 : Int32))))) fun (w3 : MEM) => f_X10_wipes_76 fu k20 n l0 l1 l2 l3 (l4 + (1 : Int32)) w3))) else (bnd (f_X10_dawns fu l0 w) fun (u2 : Unit) (w1 : MEM) => f_X10_wipes_119 fu k20 fu l0 l1 l2 l3 (0 : Int32) w1)
theorem E_X10_wipes_76 (fu : Nat) (k20 : Nat → Int32 → Int32 → Int32 → MEM → Option (Int32 × MEM)) (n : Nat) (l0 : Nat) (l1 : Int32) (l2 : Int32) (l3 : Int32) (l4 : Int32) (w : MEM) : f_X10_wipes_76 fu k20 (n + 1) l0 l1 l2 l3 l4 w = if l4 < (rS w (11022, l0)) then (ck (bI ((7 : Int32) + l4) 57) (ck (bI ((7 : Int32) + l4) 57) (lt (sA w (1020, l0) ((7 : Int32) + l4) ((rA w (1020, l0) ((7 : Int32) + l4)) * ((1 : Int32) - ((l3 >>> (l4 &&& 31)) &&& (1 : Int32))))) fun (w3 : MEM) => f_X10_wipes_76 fu k20 n l0 l1 l2 l3 (l4 + (1 : Int32)) w3))) else (bnd (f_X10_dawns fu l0 w) fun (u2 : Unit) (w1 : MEM) => f_X10_wipes_119 fu k20 fu l0 l1 l2 l3 (0 : Int32) w1) := rfl
theorem w_X10_wipes_76 {X : SCR} {d rc rs : Nat} {Q : PO → PH → Prop} {o : Int32} {w1 : MEM} {fu : Nat} {k20 : Nat → Int32 → Int32 → Int32 → MEM → Option (Int32 × MEM)} (hd : 6 ≤ d) (hq : ∀ h1, WH X h1 w1 → Q (.inl (some (vI o))) h1) (hk20 : ∀ (l0 : Nat) (l1 : Int32) (l2 : Int32) (l3 : Int32) (w : MEM) (h : PH), WH X h w → vo 10 l0 = true → k20 l0 l1 l2 l3 w = some (o, w1) → PW d M_X10_wipes Q rc rs 20 [vR (1000, l0), vI l1, vI l2, vI l3, vU] [] h) : ∀ (n : Nat) (l0 : Nat) (l1 : Int32) (l2 : Int32) (l3 : Int32) (l4 : Int32) (w : MEM) (h : PH), WH X h w → vo 10 l0 = true → f_X10_wipes_76 fu k20 n l0 l1 l2 l3 l4 w = some (o, w1) → PW d M_X10_wipes Q rc rs 76 [vR (1000, l0), vI l1, vI l2, vI l3, vI l4] [] h := by
  intro n
  induction n with
  | zero => intro l0 l1 l2 l3 l4 w h wh hv_l0 hF; cases hF
  | succ n ih =>
    intro l0 l1 l2 l3 l4 w h wh hv_l0 hF
    replace hF := (E_X10_wipes_76 fu k20 n l0 l1 l2 l3 l4 w).symm.trans hF
    refine r_X10_wipes_76 ?_
    refine gI_of (wh.1 11022 _ rfl hv_l0) ?_
    refine ⟨fun c => ?_, fun c => ?_⟩
    · replace hF := if_ofT c hF
      refine gA_of (b := (1020, l0)) (wh.2.1 11043 _ rfl hv_l0) ?_
      obtain ⟨c, hF⟩ := ck_of hF
      refine xI_of wh (oA_1020 hv_l0) c ?_
      clear c
      obtain ⟨c, hF⟩ := ck_of hF
      replace hF := lt_of hF
      refine yI_of wh (oA_1020 hv_l0) c ?_
      clear c wh
      intro h wh
      exact ih _ _ _ _ _ _ _ wh hv_l0 hF
    · replace hF := if_ofF c hF
      refine ⟨⟨_, wh.1 11000 _ rfl hv_l0⟩, ?_⟩
      obtain ⟨u2, w1, hG, hF⟩ := bnd_of hF
      refine cl_V (D := 0) (Nat.le_trans (by decide) hd) (c_X10_dawns wh hv_l0 hG) ?_
      clear hG
      clear wh
      intro h wh
      exact w_X10_wipes_119 hd hq hk20 fu _ _ _ _ _ _ _ wh hv_l0 hF
def f_X10_wipes_20 (fu : Nat) : Nat → Nat → Int32 → Int32 → Int32 → MEM → Option (Int32 × MEM)
  | 0, _, _, _, _, _ => none
  | n + 1, l0, l1, l2, l3, w => if l3 < ((1 : Int32) <<< ((rS w (11022, l0)) &&& 31)) then (bnd (f_X10_take fu l0 w) fun (u2 : Unit) (w1 : MEM) => if ((l3 >>> (l1 &&& 31)) &&& (1 : Int32)) = (1 : Int32) then (f_X10_wipes_20 fu n l0 l1 l2 (l3 + (1 : Int32)) w1) else (bnd (f_X10_standing fu l0 w1) fun (x4 : Int32) (w3 : MEM) => if (l3 &&& (x4 ^^^ (-1 : Int32))) = 0 then (if l2 = (-1 : Int32) then (f_X10_wipes_76 fu (fun l0 l1 l2 l3 w => f_X10_wipes_20 fu n l0 l1 l2 l3 w) fu l0 l1 l2 l3 (0 : Int32) w3) else (bnd (f_X10_ones fu l3 w3) fun (x6 : Int32) (w5 : MEM) => bnd (f_X10_ones fu l2 w5) fun (x8 : Int32) (w7 : MEM) => if x6 < x8 then (f_X10_wipes_76 fu (fun l0 l1 l2 l3 w => f_X10_wipes_20 fu n l0 l1 l2 l3 w) fu l0 l1 l2 l3 (0 : Int32) w7) else (f_X10_wipes_20 fu n l0 l1 l2 (l3 + (1 : Int32)) w7))) else (f_X10_wipes_20 fu n l0 l1 l2 (l3 + (1 : Int32)) w3))) else (some (l2, w))
theorem E_X10_wipes_20 (fu : Nat) (n : Nat) (l0 : Nat) (l1 : Int32) (l2 : Int32) (l3 : Int32) (w : MEM) : f_X10_wipes_20 fu (n + 1) l0 l1 l2 l3 w = if l3 < ((1 : Int32) <<< ((rS w (11022, l0)) &&& 31)) then (bnd (f_X10_take fu l0 w) fun (u2 : Unit) (w1 : MEM) => if ((l3 >>> (l1 &&& 31)) &&& (1 : Int32)) = (1 : Int32) then (f_X10_wipes_20 fu n l0 l1 l2 (l3 + (1 : Int32)) w1) else (bnd (f_X10_standing fu l0 w1) fun (x4 : Int32) (w3 : MEM) => if (l3 &&& (x4 ^^^ (-1 : Int32))) = 0 then (if l2 = (-1 : Int32) then (f_X10_wipes_76 fu (fun l0 l1 l2 l3 w => f_X10_wipes_20 fu n l0 l1 l2 l3 w) fu l0 l1 l2 l3 (0 : Int32) w3) else (bnd (f_X10_ones fu l3 w3) fun (x6 : Int32) (w5 : MEM) => bnd (f_X10_ones fu l2 w5) fun (x8 : Int32) (w7 : MEM) => if x6 < x8 then (f_X10_wipes_76 fu (fun l0 l1 l2 l3 w => f_X10_wipes_20 fu n l0 l1 l2 l3 w) fu l0 l1 l2 l3 (0 : Int32) w7) else (f_X10_wipes_20 fu n l0 l1 l2 (l3 + (1 : Int32)) w7))) else (f_X10_wipes_20 fu n l0 l1 l2 (l3 + (1 : Int32)) w3))) else (some (l2, w)) := rfl
theorem w_X10_wipes_20 {X : SCR} {d rc rs : Nat} {Q : PO → PH → Prop} {o : Int32} {w1 : MEM} {fu : Nat} (hd : 6 ≤ d) (hq : ∀ h1, WH X h1 w1 → Q (.inl (some (vI o))) h1) : ∀ (n : Nat) (l0 : Nat) (l1 : Int32) (l2 : Int32) (l3 : Int32) (w : MEM) (h : PH), WH X h w → vo 10 l0 = true → f_X10_wipes_20 fu n l0 l1 l2 l3 w = some (o, w1) → PW d M_X10_wipes Q rc rs 20 [vR (1000, l0), vI l1, vI l2, vI l3, vU] [] h := by
  intro n
  induction n with
  | zero => intro l0 l1 l2 l3 w h wh hv_l0 hF; cases hF
  | succ n ih =>
    intro l0 l1 l2 l3 w h wh hv_l0 hF
    replace hF := (E_X10_wipes_20 fu n l0 l1 l2 l3 w).symm.trans hF
    refine r_X10_wipes_20 ?_
    refine gI_of (wh.1 11022 _ rfl hv_l0) ?_
    refine ⟨fun c => ?_, fun c => ?_⟩
    · replace hF := if_ofT c hF
      refine ⟨⟨_, wh.1 11000 _ rfl hv_l0⟩, ?_⟩
      obtain ⟨u2, w1, hG, hF⟩ := bnd_of hF
      refine cl_V (D := 1) (Nat.le_trans (by decide) hd) (c_X10_take wh hv_l0 hG) ?_
      clear hG
      clear wh
      intro h wh
      refine ⟨fun c => ?_, fun c => ?_⟩
      · replace hF := if_ofT c hF
        exact ih _ _ _ _ _ _ wh hv_l0 hF
      · replace hF := if_ofF c hF
        refine ⟨⟨_, wh.1 11000 _ rfl hv_l0⟩, ?_⟩
        obtain ⟨x4, w3, hG, hF⟩ := bnd_of hF
        refine cl_I (D := 0) (Nat.le_trans (by decide) hd) (c_X10_standing wh hv_l0 hG) ?_
        clear hG
        clear wh
        intro h wh
        refine ⟨fun c => ?_, fun c => ?_⟩
        · replace hF := if_ofT c hF
          refine ⟨fun c => ?_, fun c => ?_⟩
          · replace hF := if_ofT c hF
            exact w_X10_wipes_76 hd hq (fun l0 l1 l2 l3 w h wh g0 hF => ih l0 l1 l2 l3 w h wh g0 hF) fu _ _ _ _ _ _ _ wh hv_l0 hF
          · replace hF := if_ofF c hF
            obtain ⟨x6, w5, hG, hF⟩ := bnd_of hF
            refine cl_I (D := 0) (Nat.le_trans (by decide) hd) (c_X10_ones wh  hG) ?_
            clear hG
            clear wh
            intro h wh
            obtain ⟨x8, w7, hG, hF⟩ := bnd_of hF
            refine cl_I (D := 0) (Nat.le_trans (by decide) hd) (c_X10_ones wh  hG) ?_
            clear hG
            clear wh
            intro h wh
            refine ⟨fun c => ?_, fun c => ?_⟩
            · replace hF := if_ofT c hF
              exact w_X10_wipes_76 hd hq (fun l0 l1 l2 l3 w h wh g0 hF => ih l0 l1 l2 l3 w h wh g0 hF) fu _ _ _ _ _ _ _ wh hv_l0 hF
            · replace hF := if_ofF c hF
              exact ih _ _ _ _ _ _ wh hv_l0 hF
        · replace hF := if_ofF c hF
          exact ih _ _ _ _ _ _ wh hv_l0 hF
    · replace hF := if_ofF c hF
      obtain ⟨rfl, rfl⟩ := some_of hF
      exact hq _ wh
def f_X10_wipes (fu : Nat) (l0 : Nat) (l1 : Int32) (w : MEM) : Option (Int32 × MEM) := lt (sS w (11000, l0) (0 : Int32)) fun (w1 : MEM) => bnd (f_X10_isHeir fu l0 l1 (1 : Int32) w1) fun (x3 : Int32) (w2 : MEM) => if x3 = 0 then (some ((0 : Int32), w2)) else (f_X10_wipes_20 fu fu l0 l1 (-1 : Int32) (0 : Int32) w2)
theorem E_X10_wipes (fu : Nat) (l0 : Nat) (l1 : Int32) (w : MEM) : f_X10_wipes fu l0 l1 w = lt (sS w (11000, l0) (0 : Int32)) fun (w1 : MEM) => bnd (f_X10_isHeir fu l0 l1 (1 : Int32) w1) fun (x3 : Int32) (w2 : MEM) => if x3 = 0 then (some ((0 : Int32), w2)) else (f_X10_wipes_20 fu fu l0 l1 (-1 : Int32) (0 : Int32) w2) := rfl
theorem w_X10_wipes {X : SCR} {d rc rs : Nat} {Q : PO → PH → Prop} {o : Int32} {w1 : MEM} {fu : Nat} (hd : 6 ≤ d) (hq : ∀ h1, WH X h1 w1 → Q (.inl (some (vI o))) h1) {l0 : Nat} {l1 : Int32} {w : MEM} {h : PH} (wh : WH X h w) (hv_l0 : vo 10 l0 = true) (hF : f_X10_wipes fu l0 l1 w = some (o, w1)) : PW d M_X10_wipes Q rc rs 0 [vR (1000, l0), vI l1, vU, vU, vU] [] h := by
  replace hF := (E_X10_wipes fu l0 l1 w).symm.trans hF
  refine r_X10_wipes_0 ?_
  replace hF := lt_of hF
  refine sF_S wh rfl hv_l0 ?_
  clear wh
  intro h wh
  refine ⟨⟨_, wh.1 11000 _ rfl hv_l0⟩, ?_⟩
  obtain ⟨x3, w2, hG, hF⟩ := bnd_of hF
  refine cl_I (D := 1) (Nat.le_trans (by decide) hd) (c_X10_isHeir wh hv_l0 hG) ?_
  clear hG
  clear wh
  intro h wh
  refine ⟨fun c => ?_, fun c => ?_⟩
  · replace hF := if_ofT c hF
    obtain ⟨rfl, rfl⟩ := some_of hF
    exact hq _ wh
  · replace hF := if_ofF c hF
    exact w_X10_wipes_20 hd hq  fu _ _ _ _ _ _ wh hv_l0 hF
theorem c_X10_wipes {X : SCR} {fu : Nat} {o : Int32} {w1 : MEM} {a0 : Nat} {a1 : Int32} {w : MEM} {h : PH} (wh : WH X h w) (h0 : vo 10 a0 = true) (hF : f_X10_wipes fu a0 a1 w = some (o, w1)) : CT 6 M_X10_wipes [vR (1000, a0), vI a1] h 0 0 (QP X (.inl (some (vI o))) w1) :=
  CT_of mk_X10_wipes (Nat.le_of_ble_eq_true rfl) rfl (w_X10_wipes (fu := fu) (rc := 0) (rs := 0) (hd := Nat.le_refl 6) (hq := fun h1 g => ⟨rfl, g⟩) wh h0 hF)
-- X10_gasp
def f_X10_gasp_22 (fu : Nat) : Nat → Nat → Int32 → Int32 → MEM → Option (Int32 × MEM)
  | 0, _, _, _, _ => none
  | n + 1, l0, l1, l2, w => if (99 : Int32) < l2 then (some ((-1 : Int32), w)) else (bnd (f_X10_passes fu l0 w) fun (u2 : Unit) (w1 : MEM) => ck (bI ((49 : Int32) + l1) 57) (ck (bI ((49 : Int32) + l1) 57) (if (rA w1 (1019, l0) ((49 : Int32) + l1)) < (rA w1 (1020, l0) ((49 : Int32) + l1)) then (some (l2, w1)) else (f_X10_gasp_22 fu n l0 l1 (l2 + (1 : Int32)) w1))))
theorem E_X10_gasp_22 (fu : Nat) (n : Nat) (l0 : Nat) (l1 : Int32) (l2 : Int32) (w : MEM) : f_X10_gasp_22 fu (n + 1) l0 l1 l2 w = if (99 : Int32) < l2 then (some ((-1 : Int32), w)) else (bnd (f_X10_passes fu l0 w) fun (u2 : Unit) (w1 : MEM) => ck (bI ((49 : Int32) + l1) 57) (ck (bI ((49 : Int32) + l1) 57) (if (rA w1 (1019, l0) ((49 : Int32) + l1)) < (rA w1 (1020, l0) ((49 : Int32) + l1)) then (some (l2, w1)) else (f_X10_gasp_22 fu n l0 l1 (l2 + (1 : Int32)) w1)))) := rfl
theorem w_X10_gasp_22 {X : SCR} {d rc rs : Nat} {Q : PO → PH → Prop} {o : Int32} {w1 : MEM} {fu : Nat} (hd : 6 ≤ d) (hq : ∀ h1, WH X h1 w1 → Q (.inl (some (vI o))) h1) : ∀ (n : Nat) (l0 : Nat) (l1 : Int32) (l2 : Int32) (w : MEM) (h : PH), WH X h w → vo 10 l0 = true → f_X10_gasp_22 fu n l0 l1 l2 w = some (o, w1) → PW d M_X10_gasp Q rc rs 22 [vR (1000, l0), vI l1, vI l2] [] h := by
  intro n
  induction n with
  | zero => intro l0 l1 l2 w h wh hv_l0 hF; cases hF
  | succ n ih =>
    intro l0 l1 l2 w h wh hv_l0 hF
    replace hF := (E_X10_gasp_22 fu n l0 l1 l2 w).symm.trans hF
    refine r_X10_gasp_22 ?_
    refine ⟨fun c => ?_, fun c => ?_⟩
    · replace hF := if_ofT c hF
      obtain ⟨rfl, rfl⟩ := some_of hF
      exact hq _ wh
    · replace hF := if_ofF c hF
      refine ⟨⟨_, wh.1 11000 _ rfl hv_l0⟩, ?_⟩
      obtain ⟨u2, w1, hG, hF⟩ := bnd_of hF
      refine cl_V (D := 5) (Nat.le_trans (by decide) hd) (c_X10_passes wh hv_l0 hG) ?_
      clear hG
      clear wh
      intro h wh
      refine gA_of (b := (1020, l0)) (wh.2.1 11043 _ rfl hv_l0) ?_
      obtain ⟨c, hF⟩ := ck_of hF
      refine xI_of wh (oA_1020 hv_l0) c ?_
      clear c
      refine gA_of (b := (1019, l0)) (wh.2.1 11042 _ rfl hv_l0) ?_
      obtain ⟨c, hF⟩ := ck_of hF
      refine xI_of wh (oA_1019 hv_l0) c ?_
      clear c
      refine ⟨fun c => ?_, fun c => ?_⟩
      · replace hF := if_ofT c hF
        obtain ⟨rfl, rfl⟩ := some_of hF
        exact hq _ wh
      · replace hF := if_ofF c hF
        exact ih _ _ _ _ _ wh hv_l0 hF
def f_X10_gasp (fu : Nat) (l0 : Nat) (l1 : Int32) (w : MEM) : Option (Int32 × MEM) := lt (sS w (11000, l0) (0 : Int32)) fun (w1 : MEM) => bnd (f_X10_isHeir fu l0 l1 (1 : Int32) w1) fun (x3 : Int32) (w2 : MEM) => if x3 = 0 then (some ((0 : Int32), w2)) else (bnd (f_X10_take fu l0 w2) fun (u5 : Unit) (w4 : MEM) => f_X10_gasp_22 fu fu l0 l1 (1 : Int32) w4)
theorem E_X10_gasp (fu : Nat) (l0 : Nat) (l1 : Int32) (w : MEM) : f_X10_gasp fu l0 l1 w = lt (sS w (11000, l0) (0 : Int32)) fun (w1 : MEM) => bnd (f_X10_isHeir fu l0 l1 (1 : Int32) w1) fun (x3 : Int32) (w2 : MEM) => if x3 = 0 then (some ((0 : Int32), w2)) else (bnd (f_X10_take fu l0 w2) fun (u5 : Unit) (w4 : MEM) => f_X10_gasp_22 fu fu l0 l1 (1 : Int32) w4) := rfl
theorem w_X10_gasp {X : SCR} {d rc rs : Nat} {Q : PO → PH → Prop} {o : Int32} {w1 : MEM} {fu : Nat} (hd : 6 ≤ d) (hq : ∀ h1, WH X h1 w1 → Q (.inl (some (vI o))) h1) {l0 : Nat} {l1 : Int32} {w : MEM} {h : PH} (wh : WH X h w) (hv_l0 : vo 10 l0 = true) (hF : f_X10_gasp fu l0 l1 w = some (o, w1)) : PW d M_X10_gasp Q rc rs 0 [vR (1000, l0), vI l1, vU] [] h := by
  replace hF := (E_X10_gasp fu l0 l1 w).symm.trans hF
  refine r_X10_gasp_0 ?_
  replace hF := lt_of hF
  refine sF_S wh rfl hv_l0 ?_
  clear wh
  intro h wh
  refine ⟨⟨_, wh.1 11000 _ rfl hv_l0⟩, ?_⟩
  obtain ⟨x3, w2, hG, hF⟩ := bnd_of hF
  refine cl_I (D := 1) (Nat.le_trans (by decide) hd) (c_X10_isHeir wh hv_l0 hG) ?_
  clear hG
  clear wh
  intro h wh
  refine ⟨fun c => ?_, fun c => ?_⟩
  · replace hF := if_ofT c hF
    obtain ⟨rfl, rfl⟩ := some_of hF
    exact hq _ wh
  · replace hF := if_ofF c hF
    refine ⟨⟨_, wh.1 11000 _ rfl hv_l0⟩, ?_⟩
    obtain ⟨u5, w4, hG, hF⟩ := bnd_of hF
    refine cl_V (D := 1) (Nat.le_trans (by decide) hd) (c_X10_take wh hv_l0 hG) ?_
    clear hG
    clear wh
    intro h wh
    exact w_X10_gasp_22 hd hq  fu _ _ _ _ _ wh hv_l0 hF
theorem c_X10_gasp {X : SCR} {fu : Nat} {o : Int32} {w1 : MEM} {a0 : Nat} {a1 : Int32} {w : MEM} {h : PH} (wh : WH X h w) (h0 : vo 10 a0 = true) (hF : f_X10_gasp fu a0 a1 w = some (o, w1)) : CT 6 M_X10_gasp [vR (1000, a0), vI a1] h 0 0 (QP X (.inl (some (vI o))) w1) :=
  CT_of mk_X10_gasp (Nat.le_of_ble_eq_true rfl) rfl (w_X10_gasp (fu := fu) (rc := 0) (rs := 0) (hd := Nat.le_refl 6) (hq := fun h1 g => ⟨rfl, g⟩) wh h0 hF)
-- X10_comesTo
def f_X10_comesTo_35 (fu : Nat) (k8 : Nat → Int32 → Int32 → Int32 → Int32 → MEM → Option (Int32 × MEM)) : Nat → Nat → Int32 → Int32 → Int32 → Int32 → Int32 → Int32 → MEM → Option (Int32 × MEM)
  | 0, _, _, _, _, _, _, _, _ => none
  | n + 1, l0, l2, l3, l4, l5, l6, l7, w => if l7 < (rS w (11022, l0)) then (if ((l4 >>> (l7 &&& 31)) &&& (1 : Int32)) = (1 : Int32) then (bnd (f_X10_twosOf fu l0 l7 w) fun (x2 : Int32) (w1 : MEM) => lt ((l6 ||| (x2 &&& l3))) fun (v3 : Int32) => f_X10_comesTo_35 fu k8 n l0 l2 l3 l4 l5 v3 (l7 + (1 : Int32)) w1) else (f_X10_comesTo_35 fu k8 n l0 l2 l3 l4 l5 l6 (l7 + (1 : Int32)) w)) else (k8 l0 l2 l3 l6 (l5 + (1 : Int32)) w)
theorem E_X10_comesTo_35 (fu : Nat) (k8 : Nat → Int32 → Int32 → Int32 → Int32 → MEM → Option (Int32 × MEM)) (n : Nat) (l0 : Nat) (l2 : Int32) (l3 : Int32) (l4 : Int32) (l5 : Int32) (l6 : Int32) (l7 : Int32) (w : MEM) : f_X10_comesTo_35 fu k8 (n + 1) l0 l2 l3 l4 l5 l6 l7 w = if l7 < (rS w (11022, l0)) then (if ((l4 >>> (l7 &&& 31)) &&& (1 : Int32)) = (1 : Int32) then (bnd (f_X10_twosOf fu l0 l7 w) fun (x2 : Int32) (w1 : MEM) => lt ((l6 ||| (x2 &&& l3))) fun (v3 : Int32) => f_X10_comesTo_35 fu k8 n l0 l2 l3 l4 l5 v3 (l7 + (1 : Int32)) w1) else (f_X10_comesTo_35 fu k8 n l0 l2 l3 l4 l5 l6 (l7 + (1 : Int32)) w)) else (k8 l0 l2 l3 l6 (l5 + (1 : Int32)) w) := rfl
theorem w_X10_comesTo_35 {X : SCR} {d rc rs : Nat} {Q : PO → PH → Prop} {o : Int32} {w1 : MEM} {fu : Nat} {k8 : Nat → Int32 → Int32 → Int32 → Int32 → MEM → Option (Int32 × MEM)} (hd : 1 ≤ d) (hq : ∀ h1, WH X h1 w1 → Q (.inl (some (vI o))) h1) (hk8 : ∀ (l0 : Nat) (l2 : Int32) (l3 : Int32) (l4 : Int32) (l5 : Int32) (w : MEM) (h : PH), WH X h w → vo 10 l0 = true → k8 l0 l2 l3 l4 l5 w = some (o, w1) → PW d M_X10_comesTo Q rc rs 8 [vR (1000, l0), vU, vI l2, vI l3, vI l4, vI l5, vU, vU] [] h) : ∀ (n : Nat) (l0 : Nat) (l2 : Int32) (l3 : Int32) (l4 : Int32) (l5 : Int32) (l6 : Int32) (l7 : Int32) (w : MEM) (h : PH), WH X h w → vo 10 l0 = true → f_X10_comesTo_35 fu k8 n l0 l2 l3 l4 l5 l6 l7 w = some (o, w1) → PW d M_X10_comesTo Q rc rs 35 [vR (1000, l0), vU, vI l2, vI l3, vI l4, vI l5, vI l6, vI l7] [] h := by
  intro n
  induction n with
  | zero => intro l0 l2 l3 l4 l5 l6 l7 w h wh hv_l0 hF; cases hF
  | succ n ih =>
    intro l0 l2 l3 l4 l5 l6 l7 w h wh hv_l0 hF
    replace hF := (E_X10_comesTo_35 fu k8 n l0 l2 l3 l4 l5 l6 l7 w).symm.trans hF
    refine r_X10_comesTo_35 ?_
    refine gI_of (wh.1 11022 _ rfl hv_l0) ?_
    refine ⟨fun c => ?_, fun c => ?_⟩
    · replace hF := if_ofT c hF
      refine ⟨fun c => ?_, fun c => ?_⟩
      · replace hF := if_ofT c hF
        refine ⟨⟨_, wh.1 11000 _ rfl hv_l0⟩, ?_⟩
        obtain ⟨x2, w1, hG, hF⟩ := bnd_of hF
        refine cl_I (D := 0) (Nat.le_trans (by decide) hd) (c_X10_twosOf wh hv_l0 hG) ?_
        clear hG
        clear wh
        intro h wh
        replace hF := lt_of hF
        exact ih _ _ _ _ _ _ _ _ _ wh hv_l0 hF
      · replace hF := if_ofF c hF
        exact ih _ _ _ _ _ _ _ _ _ wh hv_l0 hF
    · replace hF := if_ofF c hF
      exact hk8 _ _ _ _ _ _ _ wh hv_l0 hF
def f_X10_comesTo_8 (fu : Nat) : Nat → Nat → Int32 → Int32 → Int32 → Int32 → MEM → Option (Int32 × MEM)
  | 0, _, _, _, _, _, _ => none
  | n + 1, l0, l2, l3, l4, l5, w => if l5 < (7 : Int32) then (if ((l4 >>> (l2 &&& 31)) &&& (1 : Int32)) = (1 : Int32) then (some (l5, w)) else (f_X10_comesTo_35 fu (fun l0 l2 l3 l4 l5 w => f_X10_comesTo_8 fu n l0 l2 l3 l4 l5 w) fu l0 l2 l3 l4 l5 l4 (0 : Int32) w)) else (some ((-1 : Int32), w))
theorem E_X10_comesTo_8 (fu : Nat) (n : Nat) (l0 : Nat) (l2 : Int32) (l3 : Int32) (l4 : Int32) (l5 : Int32) (w : MEM) : f_X10_comesTo_8 fu (n + 1) l0 l2 l3 l4 l5 w = if l5 < (7 : Int32) then (if ((l4 >>> (l2 &&& 31)) &&& (1 : Int32)) = (1 : Int32) then (some (l5, w)) else (f_X10_comesTo_35 fu (fun l0 l2 l3 l4 l5 w => f_X10_comesTo_8 fu n l0 l2 l3 l4 l5 w) fu l0 l2 l3 l4 l5 l4 (0 : Int32) w)) else (some ((-1 : Int32), w)) := rfl
theorem w_X10_comesTo_8 {X : SCR} {d rc rs : Nat} {Q : PO → PH → Prop} {o : Int32} {w1 : MEM} {fu : Nat} (hd : 1 ≤ d) (hq : ∀ h1, WH X h1 w1 → Q (.inl (some (vI o))) h1) : ∀ (n : Nat) (l0 : Nat) (l2 : Int32) (l3 : Int32) (l4 : Int32) (l5 : Int32) (w : MEM) (h : PH), WH X h w → vo 10 l0 = true → f_X10_comesTo_8 fu n l0 l2 l3 l4 l5 w = some (o, w1) → PW d M_X10_comesTo Q rc rs 8 [vR (1000, l0), vU, vI l2, vI l3, vI l4, vI l5, vU, vU] [] h := by
  intro n
  induction n with
  | zero => intro l0 l2 l3 l4 l5 w h wh hv_l0 hF; cases hF
  | succ n ih =>
    intro l0 l2 l3 l4 l5 w h wh hv_l0 hF
    replace hF := (E_X10_comesTo_8 fu n l0 l2 l3 l4 l5 w).symm.trans hF
    refine r_X10_comesTo_8 ?_
    refine ⟨fun c => ?_, fun c => ?_⟩
    · replace hF := if_ofT c hF
      refine ⟨fun c => ?_, fun c => ?_⟩
      · replace hF := if_ofT c hF
        obtain ⟨rfl, rfl⟩ := some_of hF
        exact hq _ wh
      · replace hF := if_ofF c hF
        exact w_X10_comesTo_35 hd hq (fun l0 l2 l3 l4 l5 w h wh g0 hF => ih l0 l2 l3 l4 l5 w h wh g0 hF) fu _ _ _ _ _ _ _ _ _ wh hv_l0 hF
    · replace hF := if_ofF c hF
      obtain ⟨rfl, rfl⟩ := some_of hF
      exact hq _ wh
def f_X10_comesTo (fu : Nat) (l0 : Nat) (l1 : Int32) (l2 : Int32) (l3 : Int32) (w : MEM) : Option (Int32 × MEM) := lt (((1 : Int32) <<< (l1 &&& 31))) fun (v1 : Int32) => f_X10_comesTo_8 fu fu l0 l2 l3 v1 (0 : Int32) w
theorem E_X10_comesTo (fu : Nat) (l0 : Nat) (l1 : Int32) (l2 : Int32) (l3 : Int32) (w : MEM) : f_X10_comesTo fu l0 l1 l2 l3 w = lt (((1 : Int32) <<< (l1 &&& 31))) fun (v1 : Int32) => f_X10_comesTo_8 fu fu l0 l2 l3 v1 (0 : Int32) w := rfl
theorem w_X10_comesTo {X : SCR} {d rc rs : Nat} {Q : PO → PH → Prop} {o : Int32} {w1 : MEM} {fu : Nat} (hd : 1 ≤ d) (hq : ∀ h1, WH X h1 w1 → Q (.inl (some (vI o))) h1) {l0 : Nat} {l1 : Int32} {l2 : Int32} {l3 : Int32} {w : MEM} {h : PH} (wh : WH X h w) (hv_l0 : vo 10 l0 = true) (hF : f_X10_comesTo fu l0 l1 l2 l3 w = some (o, w1)) : PW d M_X10_comesTo Q rc rs 0 [vR (1000, l0), vI l1, vI l2, vI l3, vU, vU, vU, vU] [] h := by
  replace hF := (E_X10_comesTo fu l0 l1 l2 l3 w).symm.trans hF
  refine r_X10_comesTo_0 ?_
  replace hF := lt_of hF
  exact w_X10_comesTo_8 hd hq  fu _ _ _ _ _ _ _ wh hv_l0 hF
theorem c_X10_comesTo {X : SCR} {fu : Nat} {o : Int32} {w1 : MEM} {a0 : Nat} {a1 : Int32} {a2 : Int32} {a3 : Int32} {w : MEM} {h : PH} (wh : WH X h w) (h0 : vo 10 a0 = true) (hF : f_X10_comesTo fu a0 a1 a2 a3 w = some (o, w1)) : CT 1 M_X10_comesTo [vR (1000, a0), vI a1, vI a2, vI a3] h 0 0 (QP X (.inl (some (vI o))) w1) :=
  CT_of mk_X10_comesTo (Nat.le_of_ble_eq_true rfl) rfl (w_X10_comesTo (fu := fu) (rc := 0) (rs := 0) (hd := Nat.le_refl 1) (hq := fun h1 g => ⟨rfl, g⟩) wh h0 hF)
-- X10_all
def f_X10_all (fu : Nat) (l0 : Nat) (w : MEM) : Option (Int32 × MEM) := some ((((1 : Int32) <<< ((rS w (11022, l0)) &&& 31)) - (1 : Int32)), w)
theorem E_X10_all (fu : Nat) (l0 : Nat) (w : MEM) : f_X10_all fu l0 w = some ((((1 : Int32) <<< ((rS w (11022, l0)) &&& 31)) - (1 : Int32)), w) := rfl
theorem w_X10_all {X : SCR} {d rc rs : Nat} {Q : PO → PH → Prop} {o : Int32} {w1 : MEM} {fu : Nat} (hd : 0 ≤ d) (hq : ∀ h1, WH X h1 w1 → Q (.inl (some (vI o))) h1) {l0 : Nat} {w : MEM} {h : PH} (wh : WH X h w) (hv_l0 : vo 10 l0 = true) (hF : f_X10_all fu l0 w = some (o, w1)) : PW d M_X10_all Q rc rs 0 [vR (1000, l0)] [] h := by
  replace hF := (E_X10_all fu l0 w).symm.trans hF
  refine r_X10_all_0 ?_
  refine gI_of (wh.1 11022 _ rfl hv_l0) ?_
  obtain ⟨rfl, rfl⟩ := some_of hF
  exact hq _ wh
theorem c_X10_all {X : SCR} {fu : Nat} {o : Int32} {w1 : MEM} {a0 : Nat} {w : MEM} {h : PH} (wh : WH X h w) (h0 : vo 10 a0 = true) (hF : f_X10_all fu a0 w = some (o, w1)) : CT 0 M_X10_all [vR (1000, a0)] h 0 0 (QP X (.inl (some (vI o))) w1) :=
  CT_of mk_X10_all (Nat.le_of_ble_eq_true rfl) rfl (w_X10_all (fu := fu) (rc := 0) (rs := 0) (hd := Nat.le_refl 0) (hq := fun h1 g => ⟨rfl, g⟩) wh h0 hF)
-- X10_way
def f_X10_way (fu : Nat) (l0 : Nat) (l1 : Int32) (l2 : Int32) (w : MEM) : Option (Int32 × MEM) := lt (sS w (11000, l0) (0 : Int32)) fun (w1 : MEM) => bnd (f_X10_isHeir fu l0 l1 (1 : Int32) w1) fun (x3 : Int32) (w2 : MEM) => if x3 = 0 then (some ((0 : Int32), w2)) else (bnd (f_X10_isHeir fu l0 l2 (1 : Int32) w2) fun (x5 : Int32) (w4 : MEM) => if x5 = 0 then (some ((0 : Int32), w4)) else (bnd (f_X10_all fu l0 w4) fun (x7 : Int32) (w6 : MEM) => bnd (f_X10_comesTo fu l0 l1 l2 x7 w6) fun (x9 : Int32) (w8 : MEM) => some (x9, w8)))
theorem E_X10_way (fu : Nat) (l0 : Nat) (l1 : Int32) (l2 : Int32) (w : MEM) : f_X10_way fu l0 l1 l2 w = lt (sS w (11000, l0) (0 : Int32)) fun (w1 : MEM) => bnd (f_X10_isHeir fu l0 l1 (1 : Int32) w1) fun (x3 : Int32) (w2 : MEM) => if x3 = 0 then (some ((0 : Int32), w2)) else (bnd (f_X10_isHeir fu l0 l2 (1 : Int32) w2) fun (x5 : Int32) (w4 : MEM) => if x5 = 0 then (some ((0 : Int32), w4)) else (bnd (f_X10_all fu l0 w4) fun (x7 : Int32) (w6 : MEM) => bnd (f_X10_comesTo fu l0 l1 l2 x7 w6) fun (x9 : Int32) (w8 : MEM) => some (x9, w8))) := rfl
theorem w_X10_way {X : SCR} {d rc rs : Nat} {Q : PO → PH → Prop} {o : Int32} {w1 : MEM} {fu : Nat} (hd : 2 ≤ d) (hq : ∀ h1, WH X h1 w1 → Q (.inl (some (vI o))) h1) {l0 : Nat} {l1 : Int32} {l2 : Int32} {w : MEM} {h : PH} (wh : WH X h w) (hv_l0 : vo 10 l0 = true) (hF : f_X10_way fu l0 l1 l2 w = some (o, w1)) : PW d M_X10_way Q rc rs 0 [vR (1000, l0), vI l1, vI l2] [] h := by
  replace hF := (E_X10_way fu l0 l1 l2 w).symm.trans hF
  refine r_X10_way_0 ?_
  replace hF := lt_of hF
  refine sF_S wh rfl hv_l0 ?_
  clear wh
  intro h wh
  refine ⟨⟨_, wh.1 11000 _ rfl hv_l0⟩, ?_⟩
  obtain ⟨x3, w2, hG, hF⟩ := bnd_of hF
  refine cl_I (D := 1) (Nat.le_trans (by decide) hd) (c_X10_isHeir wh hv_l0 hG) ?_
  clear hG
  clear wh
  intro h wh
  refine ⟨fun c => ?_, fun c => ?_⟩
  · replace hF := if_ofT c hF
    obtain ⟨rfl, rfl⟩ := some_of hF
    exact hq _ wh
  · replace hF := if_ofF c hF
    refine ⟨⟨_, wh.1 11000 _ rfl hv_l0⟩, ?_⟩
    obtain ⟨x5, w4, hG, hF⟩ := bnd_of hF
    refine cl_I (D := 1) (Nat.le_trans (by decide) hd) (c_X10_isHeir wh hv_l0 hG) ?_
    clear hG
    clear wh
    intro h wh
    refine ⟨fun c => ?_, fun c => ?_⟩
    · replace hF := if_ofT c hF
      obtain ⟨rfl, rfl⟩ := some_of hF
      exact hq _ wh
    · replace hF := if_ofF c hF
      refine ⟨⟨_, wh.1 11000 _ rfl hv_l0⟩, ?_⟩
      obtain ⟨x7, w6, hG, hF⟩ := bnd_of hF
      refine cl_I (D := 0) (Nat.le_trans (by decide) hd) (c_X10_all wh hv_l0 hG) ?_
      clear hG
      clear wh
      intro h wh
      refine ⟨⟨_, wh.1 11000 _ rfl hv_l0⟩, ?_⟩
      obtain ⟨x9, w8, hG, hF⟩ := bnd_of hF
      refine cl_I (D := 1) (Nat.le_trans (by decide) hd) (c_X10_comesTo wh hv_l0 hG) ?_
      clear hG
      clear wh
      intro h wh
      obtain ⟨rfl, rfl⟩ := some_of hF
      exact hq _ wh
theorem c_X10_way {X : SCR} {fu : Nat} {o : Int32} {w1 : MEM} {a0 : Nat} {a1 : Int32} {a2 : Int32} {w : MEM} {h : PH} (wh : WH X h w) (h0 : vo 10 a0 = true) (hF : f_X10_way fu a0 a1 a2 w = some (o, w1)) : CT 2 M_X10_way [vR (1000, a0), vI a1, vI a2] h 0 0 (QP X (.inl (some (vI o))) w1) :=
  CT_of mk_X10_way (Nat.le_of_ble_eq_true rfl) rfl (w_X10_way (fu := fu) (rc := 0) (rs := 0) (hd := Nat.le_refl 2) (hq := fun h1 g => ⟨rfl, g⟩) wh h0 hF)
-- X10_hush
def f_X10_hush_57 (fu : Nat) (k46 : Nat → Int32 → Int32 → Int32 → MEM → Option (Int32 × MEM)) : Nat → Nat → Int32 → Int32 → Int32 → Int32 → MEM → Option (Int32 × MEM)
  | 0, _, _, _, _, _, _ => none
  | n + 1, l0, l1, l2, l3, l4, w => if l4 < ((1 : Int32) <<< ((rS w (11022, l0)) &&& 31)) then (bnd (f_X10_ones fu l4 w) fun (x2 : Int32) (w1 : MEM) => if x2 = l3 then (if ((l4 >>> (l1 &&& 31)) &&& (1 : Int32)) = 0 then (if ((l4 >>> (l2 &&& 31)) &&& (1 : Int32)) = 0 then (bnd (f_X10_all fu l0 w1) fun (x4 : Int32) (w3 : MEM) => bnd (f_X10_comesTo fu l0 l1 l2 (x4 &&& (l4 ^^^ (-1 : Int32))) w3) fun (x6 : Int32) (w5 : MEM) => if x6 = (-1 : Int32) then (some (l4, w5)) else (f_X10_hush_57 fu k46 n l0 l1 l2 l3 (l4 + (1 : Int32)) w5)) else (f_X10_hush_57 fu k46 n l0 l1 l2 l3 (l4 + (1 : Int32)) w1)) else (f_X10_hush_57 fu k46 n l0 l1 l2 l3 (l4 + (1 : Int32)) w1)) else (f_X10_hush_57 fu k46 n l0 l1 l2 l3 (l4 + (1 : Int32)) w1)) else (k46 l0 l1 l2 (l3 + (1 : Int32)) w)
theorem E_X10_hush_57 (fu : Nat) (k46 : Nat → Int32 → Int32 → Int32 → MEM → Option (Int32 × MEM)) (n : Nat) (l0 : Nat) (l1 : Int32) (l2 : Int32) (l3 : Int32) (l4 : Int32) (w : MEM) : f_X10_hush_57 fu k46 (n + 1) l0 l1 l2 l3 l4 w = if l4 < ((1 : Int32) <<< ((rS w (11022, l0)) &&& 31)) then (bnd (f_X10_ones fu l4 w) fun (x2 : Int32) (w1 : MEM) => if x2 = l3 then (if ((l4 >>> (l1 &&& 31)) &&& (1 : Int32)) = 0 then (if ((l4 >>> (l2 &&& 31)) &&& (1 : Int32)) = 0 then (bnd (f_X10_all fu l0 w1) fun (x4 : Int32) (w3 : MEM) => bnd (f_X10_comesTo fu l0 l1 l2 (x4 &&& (l4 ^^^ (-1 : Int32))) w3) fun (x6 : Int32) (w5 : MEM) => if x6 = (-1 : Int32) then (some (l4, w5)) else (f_X10_hush_57 fu k46 n l0 l1 l2 l3 (l4 + (1 : Int32)) w5)) else (f_X10_hush_57 fu k46 n l0 l1 l2 l3 (l4 + (1 : Int32)) w1)) else (f_X10_hush_57 fu k46 n l0 l1 l2 l3 (l4 + (1 : Int32)) w1)) else (f_X10_hush_57 fu k46 n l0 l1 l2 l3 (l4 + (1 : Int32)) w1)) else (k46 l0 l1 l2 (l3 + (1 : Int32)) w) := rfl
theorem w_X10_hush_57 {X : SCR} {d rc rs : Nat} {Q : PO → PH → Prop} {o : Int32} {w1 : MEM} {fu : Nat} {k46 : Nat → Int32 → Int32 → Int32 → MEM → Option (Int32 × MEM)} (hd : 2 ≤ d) (hq : ∀ h1, WH X h1 w1 → Q (.inl (some (vI o))) h1) (hk46 : ∀ (l0 : Nat) (l1 : Int32) (l2 : Int32) (l3 : Int32) (w : MEM) (h : PH), WH X h w → vo 10 l0 = true → k46 l0 l1 l2 l3 w = some (o, w1) → PW d M_X10_hush Q rc rs 46 [vR (1000, l0), vI l1, vI l2, vI l3, vU] [] h) : ∀ (n : Nat) (l0 : Nat) (l1 : Int32) (l2 : Int32) (l3 : Int32) (l4 : Int32) (w : MEM) (h : PH), WH X h w → vo 10 l0 = true → f_X10_hush_57 fu k46 n l0 l1 l2 l3 l4 w = some (o, w1) → PW d M_X10_hush Q rc rs 57 [vR (1000, l0), vI l1, vI l2, vI l3, vI l4] [] h := by
  intro n
  induction n with
  | zero => intro l0 l1 l2 l3 l4 w h wh hv_l0 hF; cases hF
  | succ n ih =>
    intro l0 l1 l2 l3 l4 w h wh hv_l0 hF
    replace hF := (E_X10_hush_57 fu k46 n l0 l1 l2 l3 l4 w).symm.trans hF
    refine r_X10_hush_57 ?_
    refine gI_of (wh.1 11022 _ rfl hv_l0) ?_
    refine ⟨fun c => ?_, fun c => ?_⟩
    · replace hF := if_ofT c hF
      obtain ⟨x2, w1, hG, hF⟩ := bnd_of hF
      refine cl_I (D := 0) (Nat.le_trans (by decide) hd) (c_X10_ones wh  hG) ?_
      clear hG
      clear wh
      intro h wh
      refine ⟨fun c => ?_, fun c => ?_⟩
      · replace hF := if_ofT c hF
        refine ⟨fun c => ?_, fun c => ?_⟩
        · replace hF := if_ofT c hF
          refine ⟨fun c => ?_, fun c => ?_⟩
          · replace hF := if_ofT c hF
            refine ⟨⟨_, wh.1 11000 _ rfl hv_l0⟩, ?_⟩
            obtain ⟨x4, w3, hG, hF⟩ := bnd_of hF
            refine cl_I (D := 0) (Nat.le_trans (by decide) hd) (c_X10_all wh hv_l0 hG) ?_
            clear hG
            clear wh
            intro h wh
            refine ⟨⟨_, wh.1 11000 _ rfl hv_l0⟩, ?_⟩
            obtain ⟨x6, w5, hG, hF⟩ := bnd_of hF
            refine cl_I (D := 1) (Nat.le_trans (by decide) hd) (c_X10_comesTo wh hv_l0 hG) ?_
            clear hG
            clear wh
            intro h wh
            refine ⟨fun c => ?_, fun c => ?_⟩
            · replace hF := if_ofT c hF
              obtain ⟨rfl, rfl⟩ := some_of hF
              exact hq _ wh
            · replace hF := if_ofF c hF
              exact ih _ _ _ _ _ _ _ wh hv_l0 hF
          · replace hF := if_ofF c hF
            exact ih _ _ _ _ _ _ _ wh hv_l0 hF
        · replace hF := if_ofF c hF
          exact ih _ _ _ _ _ _ _ wh hv_l0 hF
      · replace hF := if_ofF c hF
        exact ih _ _ _ _ _ _ _ wh hv_l0 hF
    · replace hF := if_ofF c hF
      exact hk46 _ _ _ _ _ _ wh hv_l0 hF
def f_X10_hush_46 (fu : Nat) : Nat → Nat → Int32 → Int32 → Int32 → MEM → Option (Int32 × MEM)
  | 0, _, _, _, _, _ => none
  | n + 1, l0, l1, l2, l3, w => if l3 < (rS w (11022, l0)) then (f_X10_hush_57 fu (fun l0 l1 l2 l3 w => f_X10_hush_46 fu n l0 l1 l2 l3 w) fu l0 l1 l2 l3 (0 : Int32) w) else (some ((-1 : Int32), w))
theorem E_X10_hush_46 (fu : Nat) (n : Nat) (l0 : Nat) (l1 : Int32) (l2 : Int32) (l3 : Int32) (w : MEM) : f_X10_hush_46 fu (n + 1) l0 l1 l2 l3 w = if l3 < (rS w (11022, l0)) then (f_X10_hush_57 fu (fun l0 l1 l2 l3 w => f_X10_hush_46 fu n l0 l1 l2 l3 w) fu l0 l1 l2 l3 (0 : Int32) w) else (some ((-1 : Int32), w)) := rfl
theorem w_X10_hush_46 {X : SCR} {d rc rs : Nat} {Q : PO → PH → Prop} {o : Int32} {w1 : MEM} {fu : Nat} (hd : 2 ≤ d) (hq : ∀ h1, WH X h1 w1 → Q (.inl (some (vI o))) h1) : ∀ (n : Nat) (l0 : Nat) (l1 : Int32) (l2 : Int32) (l3 : Int32) (w : MEM) (h : PH), WH X h w → vo 10 l0 = true → f_X10_hush_46 fu n l0 l1 l2 l3 w = some (o, w1) → PW d M_X10_hush Q rc rs 46 [vR (1000, l0), vI l1, vI l2, vI l3, vU] [] h := by
  intro n
  induction n with
  | zero => intro l0 l1 l2 l3 w h wh hv_l0 hF; cases hF
  | succ n ih =>
    intro l0 l1 l2 l3 w h wh hv_l0 hF
    replace hF := (E_X10_hush_46 fu n l0 l1 l2 l3 w).symm.trans hF
    refine r_X10_hush_46 ?_
    refine gI_of (wh.1 11022 _ rfl hv_l0) ?_
    refine ⟨fun c => ?_, fun c => ?_⟩
    · replace hF := if_ofT c hF
      exact w_X10_hush_57 hd hq (fun l0 l1 l2 l3 w h wh g0 hF => ih l0 l1 l2 l3 w h wh g0 hF) fu _ _ _ _ _ _ _ wh hv_l0 hF
    · replace hF := if_ofF c hF
      obtain ⟨rfl, rfl⟩ := some_of hF
      exact hq _ wh
def f_X10_hush (fu : Nat) (l0 : Nat) (l1 : Int32) (l2 : Int32) (w : MEM) : Option (Int32 × MEM) := lt (sS w (11000, l0) (0 : Int32)) fun (w1 : MEM) => bnd (f_X10_isHeir fu l0 l1 (1 : Int32) w1) fun (x3 : Int32) (w2 : MEM) => if x3 = 0 then (some ((0 : Int32), w2)) else (bnd (f_X10_isHeir fu l0 l2 (1 : Int32) w2) fun (x5 : Int32) (w4 : MEM) => if x5 = 0 then (some ((0 : Int32), w4)) else (if l1 = l2 then (bnd (f_X10_may fu l0 (0 : Int32) (2 : Int32) (1 : Int32) w4) fun (x7 : Int32) (w6 : MEM) => if x7 = 0 then (some ((0 : Int32), w6)) else (f_X10_hush_46 fu fu l0 l1 l2 (0 : Int32) w6)) else (bnd (f_X10_may fu l0 (1 : Int32) (2 : Int32) (1 : Int32) w4) fun (x9 : Int32) (w8 : MEM) => if x9 = 0 then (some ((0 : Int32), w8)) else (f_X10_hush_46 fu fu l0 l1 l2 (0 : Int32) w8))))
theorem E_X10_hush (fu : Nat) (l0 : Nat) (l1 : Int32) (l2 : Int32) (w : MEM) : f_X10_hush fu l0 l1 l2 w = lt (sS w (11000, l0) (0 : Int32)) fun (w1 : MEM) => bnd (f_X10_isHeir fu l0 l1 (1 : Int32) w1) fun (x3 : Int32) (w2 : MEM) => if x3 = 0 then (some ((0 : Int32), w2)) else (bnd (f_X10_isHeir fu l0 l2 (1 : Int32) w2) fun (x5 : Int32) (w4 : MEM) => if x5 = 0 then (some ((0 : Int32), w4)) else (if l1 = l2 then (bnd (f_X10_may fu l0 (0 : Int32) (2 : Int32) (1 : Int32) w4) fun (x7 : Int32) (w6 : MEM) => if x7 = 0 then (some ((0 : Int32), w6)) else (f_X10_hush_46 fu fu l0 l1 l2 (0 : Int32) w6)) else (bnd (f_X10_may fu l0 (1 : Int32) (2 : Int32) (1 : Int32) w4) fun (x9 : Int32) (w8 : MEM) => if x9 = 0 then (some ((0 : Int32), w8)) else (f_X10_hush_46 fu fu l0 l1 l2 (0 : Int32) w8)))) := rfl
theorem w_X10_hush {X : SCR} {d rc rs : Nat} {Q : PO → PH → Prop} {o : Int32} {w1 : MEM} {fu : Nat} (hd : 2 ≤ d) (hq : ∀ h1, WH X h1 w1 → Q (.inl (some (vI o))) h1) {l0 : Nat} {l1 : Int32} {l2 : Int32} {w : MEM} {h : PH} (wh : WH X h w) (hv_l0 : vo 10 l0 = true) (hF : f_X10_hush fu l0 l1 l2 w = some (o, w1)) : PW d M_X10_hush Q rc rs 0 [vR (1000, l0), vI l1, vI l2, vU, vU] [] h := by
  replace hF := (E_X10_hush fu l0 l1 l2 w).symm.trans hF
  refine r_X10_hush_0 ?_
  replace hF := lt_of hF
  refine sF_S wh rfl hv_l0 ?_
  clear wh
  intro h wh
  refine ⟨⟨_, wh.1 11000 _ rfl hv_l0⟩, ?_⟩
  obtain ⟨x3, w2, hG, hF⟩ := bnd_of hF
  refine cl_I (D := 1) (Nat.le_trans (by decide) hd) (c_X10_isHeir wh hv_l0 hG) ?_
  clear hG
  clear wh
  intro h wh
  refine ⟨fun c => ?_, fun c => ?_⟩
  · replace hF := if_ofT c hF
    obtain ⟨rfl, rfl⟩ := some_of hF
    exact hq _ wh
  · replace hF := if_ofF c hF
    refine ⟨⟨_, wh.1 11000 _ rfl hv_l0⟩, ?_⟩
    obtain ⟨x5, w4, hG, hF⟩ := bnd_of hF
    refine cl_I (D := 1) (Nat.le_trans (by decide) hd) (c_X10_isHeir wh hv_l0 hG) ?_
    clear hG
    clear wh
    intro h wh
    refine ⟨fun c => ?_, fun c => ?_⟩
    · replace hF := if_ofT c hF
      obtain ⟨rfl, rfl⟩ := some_of hF
      exact hq _ wh
    · replace hF := if_ofF c hF
      refine ⟨fun c => ?_, fun c => ?_⟩
      · replace hF := if_ofT c hF
        refine ⟨⟨_, wh.1 11000 _ rfl hv_l0⟩, ?_⟩
        obtain ⟨x7, w6, hG, hF⟩ := bnd_of hF
        refine cl_I (D := 0) (Nat.le_trans (by decide) hd) (c_X10_may wh hv_l0 hG) ?_
        clear hG
        clear wh
        intro h wh
        refine ⟨fun c => ?_, fun c => ?_⟩
        · replace hF := if_ofT c hF
          obtain ⟨rfl, rfl⟩ := some_of hF
          exact hq _ wh
        · replace hF := if_ofF c hF
          exact w_X10_hush_46 hd hq  fu _ _ _ _ _ _ wh hv_l0 hF
      · replace hF := if_ofF c hF
        refine ⟨⟨_, wh.1 11000 _ rfl hv_l0⟩, ?_⟩
        obtain ⟨x9, w8, hG, hF⟩ := bnd_of hF
        refine cl_I (D := 0) (Nat.le_trans (by decide) hd) (c_X10_may wh hv_l0 hG) ?_
        clear hG
        clear wh
        intro h wh
        refine ⟨fun c => ?_, fun c => ?_⟩
        · replace hF := if_ofT c hF
          obtain ⟨rfl, rfl⟩ := some_of hF
          exact hq _ wh
        · replace hF := if_ofF c hF
          exact w_X10_hush_46 hd hq  fu _ _ _ _ _ _ wh hv_l0 hF
theorem c_X10_hush {X : SCR} {fu : Nat} {o : Int32} {w1 : MEM} {a0 : Nat} {a1 : Int32} {a2 : Int32} {w : MEM} {h : PH} (wh : WH X h w) (h0 : vo 10 a0 = true) (hF : f_X10_hush fu a0 a1 a2 w = some (o, w1)) : CT 2 M_X10_hush [vR (1000, a0), vI a1, vI a2] h 0 0 (QP X (.inl (some (vI o))) w1) :=
  CT_of mk_X10_hush (Nat.le_of_ble_eq_true rfl) rfl (w_X10_hush (fu := fu) (rc := 0) (rs := 0) (hd := Nat.le_refl 2) (hq := fun h1 g => ⟨rfl, g⟩) wh h0 hF)
-- X10_still
def f_X10_still_24 (fu : Nat) (k9 : Nat → Int32 → Int32 → MEM → Option (Int32 × MEM)) : Nat → Nat → Int32 → Int32 → Int32 → Int32 → MEM → Option (Int32 × MEM)
  | 0, _, _, _, _, _, _ => none
  | n + 1, l0, l1, l2, l3, l4, w => if l4 < (rS w (11022, l0)) then (if ((l2 >>> (l4 &&& 31)) &&& (1 : Int32)) = (1 : Int32) then (bnd (f_X10_twosOf fu l0 l4 w) fun (x7 : Int32) (w6 : MEM) => lt ((l3 ||| x7)) fun (v8 : Int32) => f_X10_still_24 fu k9 n l0 l1 l2 v8 (l4 + (1 : Int32)) w6) else (lt ((l3 ||| (0 : Int32))) fun (v5 : Int32) => f_X10_still_24 fu k9 n l0 l1 l2 v5 (l4 + (1 : Int32)) w)) else (if (l3 &&& l2) = 0 then (bnd (f_X10_ones fu l2 w) fun (x2 : Int32) (w1 : MEM) => bnd (f_X10_ones fu l1 w1) fun (x4 : Int32) (w3 : MEM) => if x4 < x2 then (k9 l0 l2 (l2 + (1 : Int32)) w3) else (k9 l0 l1 (l2 + (1 : Int32)) w3)) else (k9 l0 l1 (l2 + (1 : Int32)) w))
theorem E_X10_still_24 (fu : Nat) (k9 : Nat → Int32 → Int32 → MEM → Option (Int32 × MEM)) (n : Nat) (l0 : Nat) (l1 : Int32) (l2 : Int32) (l3 : Int32) (l4 : Int32) (w : MEM) : f_X10_still_24 fu k9 (n + 1) l0 l1 l2 l3 l4 w = if l4 < (rS w (11022, l0)) then (if ((l2 >>> (l4 &&& 31)) &&& (1 : Int32)) = (1 : Int32) then (bnd (f_X10_twosOf fu l0 l4 w) fun (x7 : Int32) (w6 : MEM) => lt ((l3 ||| x7)) fun (v8 : Int32) => f_X10_still_24 fu k9 n l0 l1 l2 v8 (l4 + (1 : Int32)) w6) else (lt ((l3 ||| (0 : Int32))) fun (v5 : Int32) => f_X10_still_24 fu k9 n l0 l1 l2 v5 (l4 + (1 : Int32)) w)) else (if (l3 &&& l2) = 0 then (bnd (f_X10_ones fu l2 w) fun (x2 : Int32) (w1 : MEM) => bnd (f_X10_ones fu l1 w1) fun (x4 : Int32) (w3 : MEM) => if x4 < x2 then (k9 l0 l2 (l2 + (1 : Int32)) w3) else (k9 l0 l1 (l2 + (1 : Int32)) w3)) else (k9 l0 l1 (l2 + (1 : Int32)) w)) := rfl
theorem w_X10_still_24 {X : SCR} {d rc rs : Nat} {Q : PO → PH → Prop} {o : Int32} {w1 : MEM} {fu : Nat} {k9 : Nat → Int32 → Int32 → MEM → Option (Int32 × MEM)} (hd : 1 ≤ d) (hq : ∀ h1, WH X h1 w1 → Q (.inl (some (vI o))) h1) (hk9 : ∀ (l0 : Nat) (l1 : Int32) (l2 : Int32) (w : MEM) (h : PH), WH X h w → vo 10 l0 = true → k9 l0 l1 l2 w = some (o, w1) → PW d M_X10_still Q rc rs 9 [vR (1000, l0), vI l1, vI l2, vU, vU] [] h) : ∀ (n : Nat) (l0 : Nat) (l1 : Int32) (l2 : Int32) (l3 : Int32) (l4 : Int32) (w : MEM) (h : PH), WH X h w → vo 10 l0 = true → f_X10_still_24 fu k9 n l0 l1 l2 l3 l4 w = some (o, w1) → PW d M_X10_still Q rc rs 24 [vR (1000, l0), vI l1, vI l2, vI l3, vI l4] [] h := by
  intro n
  induction n with
  | zero => intro l0 l1 l2 l3 l4 w h wh hv_l0 hF; cases hF
  | succ n ih =>
    intro l0 l1 l2 l3 l4 w h wh hv_l0 hF
    replace hF := (E_X10_still_24 fu k9 n l0 l1 l2 l3 l4 w).symm.trans hF
    refine r_X10_still_24 ?_
    refine gI_of (wh.1 11022 _ rfl hv_l0) ?_
    refine ⟨fun c => ?_, fun c => ?_⟩
    · replace hF := if_ofT c hF
      refine ⟨fun c => ?_, fun c => ?_⟩
      · replace hF := if_ofT c hF
        refine ⟨⟨_, wh.1 11000 _ rfl hv_l0⟩, ?_⟩
        obtain ⟨x7, w6, hG, hF⟩ := bnd_of hF
        refine cl_I (D := 0) (Nat.le_trans (by decide) hd) (c_X10_twosOf wh hv_l0 hG) ?_
        clear hG
        clear wh
        intro h wh
        replace hF := lt_of hF
        exact ih _ _ _ _ _ _ _ wh hv_l0 hF
      · replace hF := if_ofF c hF
        replace hF := lt_of hF
        exact ih _ _ _ _ _ _ _ wh hv_l0 hF
    · replace hF := if_ofF c hF
      refine ⟨fun c => ?_, fun c => ?_⟩
      · replace hF := if_ofT c hF
        obtain ⟨x2, w1, hG, hF⟩ := bnd_of hF
        refine cl_I (D := 0) (Nat.le_trans (by decide) hd) (c_X10_ones wh  hG) ?_
        clear hG
        clear wh
        intro h wh
        obtain ⟨x4, w3, hG, hF⟩ := bnd_of hF
        refine cl_I (D := 0) (Nat.le_trans (by decide) hd) (c_X10_ones wh  hG) ?_
        clear hG
        clear wh
        intro h wh
        refine ⟨fun c => ?_, fun c => ?_⟩
        · replace hF := if_ofT c hF
          exact hk9 _ _ _ _ _ wh hv_l0 hF
        · replace hF := if_ofF c hF
          exact hk9 _ _ _ _ _ wh hv_l0 hF
      · replace hF := if_ofF c hF
        exact hk9 _ _ _ _ _ wh hv_l0 hF
def f_X10_still_9 (fu : Nat) : Nat → Nat → Int32 → Int32 → MEM → Option (Int32 × MEM)
  | 0, _, _, _, _ => none
  | n + 1, l0, l1, l2, w => if l2 < ((1 : Int32) <<< ((rS w (11022, l0)) &&& 31)) then (f_X10_still_24 fu (fun l0 l1 l2 w => f_X10_still_9 fu n l0 l1 l2 w) fu l0 l1 l2 (0 : Int32) (0 : Int32) w) else (some (l1, w))
theorem E_X10_still_9 (fu : Nat) (n : Nat) (l0 : Nat) (l1 : Int32) (l2 : Int32) (w : MEM) : f_X10_still_9 fu (n + 1) l0 l1 l2 w = if l2 < ((1 : Int32) <<< ((rS w (11022, l0)) &&& 31)) then (f_X10_still_24 fu (fun l0 l1 l2 w => f_X10_still_9 fu n l0 l1 l2 w) fu l0 l1 l2 (0 : Int32) (0 : Int32) w) else (some (l1, w)) := rfl
theorem w_X10_still_9 {X : SCR} {d rc rs : Nat} {Q : PO → PH → Prop} {o : Int32} {w1 : MEM} {fu : Nat} (hd : 1 ≤ d) (hq : ∀ h1, WH X h1 w1 → Q (.inl (some (vI o))) h1) : ∀ (n : Nat) (l0 : Nat) (l1 : Int32) (l2 : Int32) (w : MEM) (h : PH), WH X h w → vo 10 l0 = true → f_X10_still_9 fu n l0 l1 l2 w = some (o, w1) → PW d M_X10_still Q rc rs 9 [vR (1000, l0), vI l1, vI l2, vU, vU] [] h := by
  intro n
  induction n with
  | zero => intro l0 l1 l2 w h wh hv_l0 hF; cases hF
  | succ n ih =>
    intro l0 l1 l2 w h wh hv_l0 hF
    replace hF := (E_X10_still_9 fu n l0 l1 l2 w).symm.trans hF
    refine r_X10_still_9 ?_
    refine gI_of (wh.1 11022 _ rfl hv_l0) ?_
    refine ⟨fun c => ?_, fun c => ?_⟩
    · replace hF := if_ofT c hF
      exact w_X10_still_24 hd hq (fun l0 l1 l2 w h wh g0 hF => ih l0 l1 l2 w h wh g0 hF) fu _ _ _ _ _ _ _ wh hv_l0 hF
    · replace hF := if_ofF c hF
      obtain ⟨rfl, rfl⟩ := some_of hF
      exact hq _ wh
def f_X10_still (fu : Nat) (l0 : Nat) (w : MEM) : Option (Int32 × MEM) := lt (sS w (11000, l0) (0 : Int32)) fun (w1 : MEM) => f_X10_still_9 fu fu l0 (0 : Int32) (0 : Int32) w1
theorem E_X10_still (fu : Nat) (l0 : Nat) (w : MEM) : f_X10_still fu l0 w = lt (sS w (11000, l0) (0 : Int32)) fun (w1 : MEM) => f_X10_still_9 fu fu l0 (0 : Int32) (0 : Int32) w1 := rfl
theorem w_X10_still {X : SCR} {d rc rs : Nat} {Q : PO → PH → Prop} {o : Int32} {w1 : MEM} {fu : Nat} (hd : 1 ≤ d) (hq : ∀ h1, WH X h1 w1 → Q (.inl (some (vI o))) h1) {l0 : Nat} {w : MEM} {h : PH} (wh : WH X h w) (hv_l0 : vo 10 l0 = true) (hF : f_X10_still fu l0 w = some (o, w1)) : PW d M_X10_still Q rc rs 0 [vR (1000, l0), vU, vU, vU, vU] [] h := by
  replace hF := (E_X10_still fu l0 w).symm.trans hF
  refine r_X10_still_0 ?_
  replace hF := lt_of hF
  refine sF_S wh rfl hv_l0 ?_
  clear wh
  intro h wh
  exact w_X10_still_9 hd hq  fu _ _ _ _ _ wh hv_l0 hF
theorem c_X10_still {X : SCR} {fu : Nat} {o : Int32} {w1 : MEM} {a0 : Nat} {w : MEM} {h : PH} (wh : WH X h w) (h0 : vo 10 a0 = true) (hF : f_X10_still fu a0 w = some (o, w1)) : CT 1 M_X10_still [vR (1000, a0)] h 0 0 (QP X (.inl (some (vI o))) w1) :=
  CT_of mk_X10_still (Nat.le_of_ble_eq_true rfl) rfl (w_X10_still (fu := fu) (rc := 0) (rs := 0) (hd := Nat.le_refl 1) (hq := fun h1 g => ⟨rfl, g⟩) wh h0 hF)
-- X10_mayFollow
def f_X10_mayFollow (fu : Nat) (l0 : Nat) (l1 : Int32) (l2 : Int32) (l3 : Int32) (w : MEM) : Option (Int32 × MEM) := if ((l1 >>> (l3 &&& 31)) &&& (1 : Int32)) = 0 then (if l2 = (rS w (11022, l0)) then (some ((1 : Int32), w)) else (bnd (f_X10_twosOf fu l0 l2 w) fun (x2 : Int32) (w1 : MEM) => if ((x2 >>> (l3 &&& 31)) &&& (1 : Int32)) = 0 then (some ((1 : Int32), w1)) else (some ((0 : Int32), w1)))) else (some ((0 : Int32), w))
theorem E_X10_mayFollow (fu : Nat) (l0 : Nat) (l1 : Int32) (l2 : Int32) (l3 : Int32) (w : MEM) : f_X10_mayFollow fu l0 l1 l2 l3 w = if ((l1 >>> (l3 &&& 31)) &&& (1 : Int32)) = 0 then (if l2 = (rS w (11022, l0)) then (some ((1 : Int32), w)) else (bnd (f_X10_twosOf fu l0 l2 w) fun (x2 : Int32) (w1 : MEM) => if ((x2 >>> (l3 &&& 31)) &&& (1 : Int32)) = 0 then (some ((1 : Int32), w1)) else (some ((0 : Int32), w1)))) else (some ((0 : Int32), w)) := rfl
theorem w_X10_mayFollow {X : SCR} {d rc rs : Nat} {Q : PO → PH → Prop} {o : Int32} {w1 : MEM} {fu : Nat} (hd : 1 ≤ d) (hq : ∀ h1, WH X h1 w1 → Q (.inl (some (vI o))) h1) {l0 : Nat} {l1 : Int32} {l2 : Int32} {l3 : Int32} {w : MEM} {h : PH} (wh : WH X h w) (hv_l0 : vo 10 l0 = true) (hF : f_X10_mayFollow fu l0 l1 l2 l3 w = some (o, w1)) : PW d M_X10_mayFollow Q rc rs 0 [vR (1000, l0), vI l1, vI l2, vI l3] [] h := by
  replace hF := (E_X10_mayFollow fu l0 l1 l2 l3 w).symm.trans hF
  refine r_X10_mayFollow_0 ?_
  refine ⟨fun c => ?_, fun c => ?_⟩
  · replace hF := if_ofT c hF
    refine gI_of (wh.1 11022 _ rfl hv_l0) ?_
    refine ⟨fun c => ?_, fun c => ?_⟩
    · replace hF := if_ofT c hF
      obtain ⟨rfl, rfl⟩ := some_of hF
      exact hq _ wh
    · replace hF := if_ofF c hF
      refine ⟨⟨_, wh.1 11000 _ rfl hv_l0⟩, ?_⟩
      obtain ⟨x2, w1, hG, hF⟩ := bnd_of hF
      refine cl_I (D := 0) (Nat.le_trans (by decide) hd) (c_X10_twosOf wh hv_l0 hG) ?_
      clear hG
      clear wh
      intro h wh
      refine ⟨fun c => ?_, fun c => ?_⟩
      · replace hF := if_ofT c hF
        obtain ⟨rfl, rfl⟩ := some_of hF
        exact hq _ wh
      · replace hF := if_ofF c hF
        obtain ⟨rfl, rfl⟩ := some_of hF
        exact hq _ wh
  · replace hF := if_ofF c hF
    obtain ⟨rfl, rfl⟩ := some_of hF
    exact hq _ wh
theorem c_X10_mayFollow {X : SCR} {fu : Nat} {o : Int32} {w1 : MEM} {a0 : Nat} {a1 : Int32} {a2 : Int32} {a3 : Int32} {w : MEM} {h : PH} (wh : WH X h w) (h0 : vo 10 a0 = true) (hF : f_X10_mayFollow fu a0 a1 a2 a3 w = some (o, w1)) : CT 1 M_X10_mayFollow [vR (1000, a0), vI a1, vI a2, vI a3] h 0 0 (QP X (.inl (some (vI o))) w1) :=
  CT_of mk_X10_mayFollow (Nat.le_of_ble_eq_true rfl) rfl (w_X10_mayFollow (fu := fu) (rc := 0) (rs := 0) (hd := Nat.le_refl 1) (hq := fun h1 g => ⟨rfl, g⟩) wh h0 hF)
-- X10_laySeats
def f_X10_laySeats_36 (fu : Nat) (k5 : Nat → Int32 → MEM → Option (Unit × MEM)) (k11 : Nat → Int32 → Int32 → MEM → Option (Unit × MEM)) : Nat → Nat → Int32 → Int32 → Int32 → Int32 → MEM → Option (Unit × MEM)
  | 0, _, _, _, _, _, _ => none
  | n + 1, l0, l1, l2, l3, l4, w => if l4 < (rS w (11022, l0)) then (bnd (f_X10_mayFollow fu l0 l1 l2 l4 w) fun (x3 : Int32) (w2 : MEM) => if x3 = 0 then (f_X10_laySeats_36 fu k5 k11 n l0 l1 l2 l3 (l4 + (1 : Int32)) w2) else (ck (bI (((l4 <<< ((7 : Int32) &&& 31)) ||| l1) ||| ((1 : Int32) <<< (l4 &&& 31))) 1024) (lt ((l3 + (rA w2 (1024, l0) (((l4 <<< ((7 : Int32) &&& 31)) ||| l1) ||| ((1 : Int32) <<< (l4 &&& 31)))))) fun (v4 : Int32) => f_X10_laySeats_36 fu k5 k11 n l0 l1 l2 v4 (l4 + (1 : Int32)) w2))) else (ck (bI ((l2 <<< ((7 : Int32) &&& 31)) ||| l1) 1024) (lt (sA w (1024, l0) ((l2 <<< ((7 : Int32) &&& 31)) ||| l1) l3) fun (w1 : MEM) => k11 l0 l1 (l2 + (1 : Int32)) w1))
theorem E_X10_laySeats_36 (fu : Nat) (k5 : Nat → Int32 → MEM → Option (Unit × MEM)) (k11 : Nat → Int32 → Int32 → MEM → Option (Unit × MEM)) (n : Nat) (l0 : Nat) (l1 : Int32) (l2 : Int32) (l3 : Int32) (l4 : Int32) (w : MEM) : f_X10_laySeats_36 fu k5 k11 (n + 1) l0 l1 l2 l3 l4 w = if l4 < (rS w (11022, l0)) then (bnd (f_X10_mayFollow fu l0 l1 l2 l4 w) fun (x3 : Int32) (w2 : MEM) => if x3 = 0 then (f_X10_laySeats_36 fu k5 k11 n l0 l1 l2 l3 (l4 + (1 : Int32)) w2) else (ck (bI (((l4 <<< ((7 : Int32) &&& 31)) ||| l1) ||| ((1 : Int32) <<< (l4 &&& 31))) 1024) (lt ((l3 + (rA w2 (1024, l0) (((l4 <<< ((7 : Int32) &&& 31)) ||| l1) ||| ((1 : Int32) <<< (l4 &&& 31)))))) fun (v4 : Int32) => f_X10_laySeats_36 fu k5 k11 n l0 l1 l2 v4 (l4 + (1 : Int32)) w2))) else (ck (bI ((l2 <<< ((7 : Int32) &&& 31)) ||| l1) 1024) (lt (sA w (1024, l0) ((l2 <<< ((7 : Int32) &&& 31)) ||| l1) l3) fun (w1 : MEM) => k11 l0 l1 (l2 + (1 : Int32)) w1)) := rfl
theorem w_X10_laySeats_36 {X : SCR} {d rc rs : Nat} {Q : PO → PH → Prop} {o : Unit} {w1 : MEM} {fu : Nat} {k5 : Nat → Int32 → MEM → Option (Unit × MEM)} {k11 : Nat → Int32 → Int32 → MEM → Option (Unit × MEM)} (hd : 2 ≤ d) (hq : ∀ h1, WH X h1 w1 → Q (.inl none) h1) (hk5 : ∀ (l0 : Nat) (l1 : Int32) (w : MEM) (h : PH), WH X h w → vo 10 l0 = true → k5 l0 l1 w = some (o, w1) → PW d M_X10_laySeats Q rc rs 5 [vR (1000, l0), vI l1, vU, vU, vU] [] h) (hk11 : ∀ (l0 : Nat) (l1 : Int32) (l2 : Int32) (w : MEM) (h : PH), WH X h w → vo 10 l0 = true → k11 l0 l1 l2 w = some (o, w1) → PW d M_X10_laySeats Q rc rs 11 [vR (1000, l0), vI l1, vI l2, vU, vU] [] h) : ∀ (n : Nat) (l0 : Nat) (l1 : Int32) (l2 : Int32) (l3 : Int32) (l4 : Int32) (w : MEM) (h : PH), WH X h w → vo 10 l0 = true → f_X10_laySeats_36 fu k5 k11 n l0 l1 l2 l3 l4 w = some (o, w1) → PW d M_X10_laySeats Q rc rs 36 [vR (1000, l0), vI l1, vI l2, vI l3, vI l4] [] h := by
  intro n
  induction n with
  | zero => intro l0 l1 l2 l3 l4 w h wh hv_l0 hF; cases hF
  | succ n ih =>
    intro l0 l1 l2 l3 l4 w h wh hv_l0 hF
    replace hF := (E_X10_laySeats_36 fu k5 k11 n l0 l1 l2 l3 l4 w).symm.trans hF
    refine r_X10_laySeats_36 ?_
    refine gI_of (wh.1 11022 _ rfl hv_l0) ?_
    refine ⟨fun c => ?_, fun c => ?_⟩
    · replace hF := if_ofT c hF
      refine ⟨⟨_, wh.1 11000 _ rfl hv_l0⟩, ?_⟩
      obtain ⟨x3, w2, hG, hF⟩ := bnd_of hF
      refine cl_I (D := 1) (Nat.le_trans (by decide) hd) (c_X10_mayFollow wh hv_l0 hG) ?_
      clear hG
      clear wh
      intro h wh
      refine ⟨fun c => ?_, fun c => ?_⟩
      · replace hF := if_ofT c hF
        exact ih _ _ _ _ _ _ _ wh hv_l0 hF
      · replace hF := if_ofF c hF
        refine gA_of (b := (1024, l0)) (wh.2.1 11048 _ rfl hv_l0) ?_
        obtain ⟨c, hF⟩ := ck_of hF
        refine xI_of wh (oA_1024 hv_l0) c ?_
        clear c
        replace hF := lt_of hF
        exact ih _ _ _ _ _ _ _ wh hv_l0 hF
    · replace hF := if_ofF c hF
      refine gA_of (b := (1024, l0)) (wh.2.1 11048 _ rfl hv_l0) ?_
      obtain ⟨c, hF⟩ := ck_of hF
      replace hF := lt_of hF
      refine yI_of wh (oA_1024 hv_l0) c ?_
      clear c wh
      intro h wh
      exact hk11 _ _ _ _ _ wh hv_l0 hF
def f_X10_laySeats_11 (fu : Nat) (k5 : Nat → Int32 → MEM → Option (Unit × MEM)) : Nat → Nat → Int32 → Int32 → MEM → Option (Unit × MEM)
  | 0, _, _, _, _ => none
  | n + 1, l0, l1, l2, w => if (rS w (11022, l0)) < l2 then (k5 l0 (l1 + (-1 : Int32)) w) else (bnd (f_X10_all fu l0 w) fun (x2 : Int32) (w1 : MEM) => if l1 = x2 then (f_X10_laySeats_36 fu k5 (fun l0 l1 l2 w => f_X10_laySeats_11 fu k5 n l0 l1 l2 w) fu l0 l1 l2 (1 : Int32) (0 : Int32) w1) else (f_X10_laySeats_36 fu k5 (fun l0 l1 l2 w => f_X10_laySeats_11 fu k5 n l0 l1 l2 w) fu l0 l1 l2 (0 : Int32) (0 : Int32) w1))
theorem E_X10_laySeats_11 (fu : Nat) (k5 : Nat → Int32 → MEM → Option (Unit × MEM)) (n : Nat) (l0 : Nat) (l1 : Int32) (l2 : Int32) (w : MEM) : f_X10_laySeats_11 fu k5 (n + 1) l0 l1 l2 w = if (rS w (11022, l0)) < l2 then (k5 l0 (l1 + (-1 : Int32)) w) else (bnd (f_X10_all fu l0 w) fun (x2 : Int32) (w1 : MEM) => if l1 = x2 then (f_X10_laySeats_36 fu k5 (fun l0 l1 l2 w => f_X10_laySeats_11 fu k5 n l0 l1 l2 w) fu l0 l1 l2 (1 : Int32) (0 : Int32) w1) else (f_X10_laySeats_36 fu k5 (fun l0 l1 l2 w => f_X10_laySeats_11 fu k5 n l0 l1 l2 w) fu l0 l1 l2 (0 : Int32) (0 : Int32) w1)) := rfl
theorem w_X10_laySeats_11 {X : SCR} {d rc rs : Nat} {Q : PO → PH → Prop} {o : Unit} {w1 : MEM} {fu : Nat} {k5 : Nat → Int32 → MEM → Option (Unit × MEM)} (hd : 2 ≤ d) (hq : ∀ h1, WH X h1 w1 → Q (.inl none) h1) (hk5 : ∀ (l0 : Nat) (l1 : Int32) (w : MEM) (h : PH), WH X h w → vo 10 l0 = true → k5 l0 l1 w = some (o, w1) → PW d M_X10_laySeats Q rc rs 5 [vR (1000, l0), vI l1, vU, vU, vU] [] h) : ∀ (n : Nat) (l0 : Nat) (l1 : Int32) (l2 : Int32) (w : MEM) (h : PH), WH X h w → vo 10 l0 = true → f_X10_laySeats_11 fu k5 n l0 l1 l2 w = some (o, w1) → PW d M_X10_laySeats Q rc rs 11 [vR (1000, l0), vI l1, vI l2, vU, vU] [] h := by
  intro n
  induction n with
  | zero => intro l0 l1 l2 w h wh hv_l0 hF; cases hF
  | succ n ih =>
    intro l0 l1 l2 w h wh hv_l0 hF
    replace hF := (E_X10_laySeats_11 fu k5 n l0 l1 l2 w).symm.trans hF
    refine r_X10_laySeats_11 ?_
    refine gI_of (wh.1 11022 _ rfl hv_l0) ?_
    refine ⟨fun c => ?_, fun c => ?_⟩
    · replace hF := if_ofT c hF
      exact hk5 _ _ _ _ wh hv_l0 hF
    · replace hF := if_ofF c hF
      refine ⟨⟨_, wh.1 11000 _ rfl hv_l0⟩, ?_⟩
      obtain ⟨x2, w1, hG, hF⟩ := bnd_of hF
      refine cl_I (D := 0) (Nat.le_trans (by decide) hd) (c_X10_all wh hv_l0 hG) ?_
      clear hG
      clear wh
      intro h wh
      refine ⟨fun c => ?_, fun c => ?_⟩
      · replace hF := if_ofT c hF
        exact w_X10_laySeats_36 hd hq hk5 (fun l0 l1 l2 w h wh g0 hF => ih l0 l1 l2 w h wh g0 hF) fu _ _ _ _ _ _ _ wh hv_l0 hF
      · replace hF := if_ofF c hF
        exact w_X10_laySeats_36 hd hq hk5 (fun l0 l1 l2 w h wh g0 hF => ih l0 l1 l2 w h wh g0 hF) fu _ _ _ _ _ _ _ wh hv_l0 hF
def f_X10_laySeats_5 (fu : Nat) : Nat → Nat → Int32 → MEM → Option (Unit × MEM)
  | 0, _, _, _ => none
  | n + 1, l0, l1, w => if l1 < 0 then (some ((), w)) else (f_X10_laySeats_11 fu (fun l0 l1 w => f_X10_laySeats_5 fu n l0 l1 w) fu l0 l1 (0 : Int32) w)
theorem E_X10_laySeats_5 (fu : Nat) (n : Nat) (l0 : Nat) (l1 : Int32) (w : MEM) : f_X10_laySeats_5 fu (n + 1) l0 l1 w = if l1 < 0 then (some ((), w)) else (f_X10_laySeats_11 fu (fun l0 l1 w => f_X10_laySeats_5 fu n l0 l1 w) fu l0 l1 (0 : Int32) w) := rfl
theorem w_X10_laySeats_5 {X : SCR} {d rc rs : Nat} {Q : PO → PH → Prop} {o : Unit} {w1 : MEM} {fu : Nat} (hd : 2 ≤ d) (hq : ∀ h1, WH X h1 w1 → Q (.inl none) h1) : ∀ (n : Nat) (l0 : Nat) (l1 : Int32) (w : MEM) (h : PH), WH X h w → vo 10 l0 = true → f_X10_laySeats_5 fu n l0 l1 w = some (o, w1) → PW d M_X10_laySeats Q rc rs 5 [vR (1000, l0), vI l1, vU, vU, vU] [] h := by
  intro n
  induction n with
  | zero => intro l0 l1 w h wh hv_l0 hF; cases hF
  | succ n ih =>
    intro l0 l1 w h wh hv_l0 hF
    replace hF := (E_X10_laySeats_5 fu n l0 l1 w).symm.trans hF
    refine r_X10_laySeats_5 ?_
    refine ⟨fun c => ?_, fun c => ?_⟩
    · replace hF := if_ofT c hF
      obtain ⟨rfl, rfl⟩ := some_of hF
      exact hq _ wh
    · replace hF := if_ofF c hF
      exact w_X10_laySeats_11 hd hq (fun l0 l1 w h wh g0 hF => ih l0 l1 w h wh g0 hF) fu _ _ _ _ _ wh hv_l0 hF
def f_X10_laySeats (fu : Nat) (l0 : Nat) (w : MEM) : Option (Unit × MEM) := bnd (f_X10_all fu l0 w) fun (x2 : Int32) (w1 : MEM) => f_X10_laySeats_5 fu fu l0 x2 w1
theorem E_X10_laySeats (fu : Nat) (l0 : Nat) (w : MEM) : f_X10_laySeats fu l0 w = bnd (f_X10_all fu l0 w) fun (x2 : Int32) (w1 : MEM) => f_X10_laySeats_5 fu fu l0 x2 w1 := rfl
theorem w_X10_laySeats {X : SCR} {d rc rs : Nat} {Q : PO → PH → Prop} {o : Unit} {w1 : MEM} {fu : Nat} (hd : 2 ≤ d) (hq : ∀ h1, WH X h1 w1 → Q (.inl none) h1) {l0 : Nat} {w : MEM} {h : PH} (wh : WH X h w) (hv_l0 : vo 10 l0 = true) (hF : f_X10_laySeats fu l0 w = some (o, w1)) : PW d M_X10_laySeats Q rc rs 0 [vR (1000, l0), vU, vU, vU, vU] [] h := by
  replace hF := (E_X10_laySeats fu l0 w).symm.trans hF
  refine r_X10_laySeats_0 ?_
  refine ⟨⟨_, wh.1 11000 _ rfl hv_l0⟩, ?_⟩
  obtain ⟨x2, w1, hG, hF⟩ := bnd_of hF
  refine cl_I (D := 0) (Nat.le_trans (by decide) hd) (c_X10_all wh hv_l0 hG) ?_
  clear hG
  clear wh
  intro h wh
  exact w_X10_laySeats_5 hd hq  fu _ _ _ _ wh hv_l0 hF
theorem c_X10_laySeats {X : SCR} {fu : Nat} {o : Unit} {w1 : MEM} {a0 : Nat} {w : MEM} {h : PH} (wh : WH X h w) (h0 : vo 10 a0 = true) (hF : f_X10_laySeats fu a0 w = some (o, w1)) : CT 2 M_X10_laySeats [vR (1000, a0)] h 0 0 (QP X (.inl none) w1) :=
  CT_of mk_X10_laySeats (Nat.le_of_ble_eq_true rfl) rfl (w_X10_laySeats (fu := fu) (rc := 0) (rs := 0) (hd := Nat.le_refl 2) (hq := fun h1 g => ⟨rfl, g⟩) wh h0 hF)
-- X10_seats
def f_X10_seats (fu : Nat) (l0 : Nat) (w : MEM) : Option (Int32 × MEM) := lt (sS w (11000, l0) (0 : Int32)) fun (w1 : MEM) => bnd (f_X10_laySeats fu l0 w1) fun (u3 : Unit) (w2 : MEM) => ck (bI ((rS w2 (11022, l0)) <<< ((7 : Int32) &&& 31)) 1024) (some ((rA w2 (1024, l0) ((rS w2 (11022, l0)) <<< ((7 : Int32) &&& 31))), w2))
theorem E_X10_seats (fu : Nat) (l0 : Nat) (w : MEM) : f_X10_seats fu l0 w = lt (sS w (11000, l0) (0 : Int32)) fun (w1 : MEM) => bnd (f_X10_laySeats fu l0 w1) fun (u3 : Unit) (w2 : MEM) => ck (bI ((rS w2 (11022, l0)) <<< ((7 : Int32) &&& 31)) 1024) (some ((rA w2 (1024, l0) ((rS w2 (11022, l0)) <<< ((7 : Int32) &&& 31))), w2)) := rfl
theorem w_X10_seats {X : SCR} {d rc rs : Nat} {Q : PO → PH → Prop} {o : Int32} {w1 : MEM} {fu : Nat} (hd : 3 ≤ d) (hq : ∀ h1, WH X h1 w1 → Q (.inl (some (vI o))) h1) {l0 : Nat} {w : MEM} {h : PH} (wh : WH X h w) (hv_l0 : vo 10 l0 = true) (hF : f_X10_seats fu l0 w = some (o, w1)) : PW d M_X10_seats Q rc rs 0 [vR (1000, l0)] [] h := by
  replace hF := (E_X10_seats fu l0 w).symm.trans hF
  refine r_X10_seats_0 ?_
  replace hF := lt_of hF
  refine sF_S wh rfl hv_l0 ?_
  clear wh
  intro h wh
  refine ⟨⟨_, wh.1 11000 _ rfl hv_l0⟩, ?_⟩
  obtain ⟨u3, w2, hG, hF⟩ := bnd_of hF
  refine cl_V (D := 2) (Nat.le_trans (by decide) hd) (c_X10_laySeats wh hv_l0 hG) ?_
  clear hG
  clear wh
  intro h wh
  refine gA_of (b := (1024, l0)) (wh.2.1 11048 _ rfl hv_l0) ?_
  refine gI_of (wh.1 11022 _ rfl hv_l0) ?_
  obtain ⟨c, hF⟩ := ck_of hF
  refine xI_of wh (oA_1024 hv_l0) c ?_
  clear c
  obtain ⟨rfl, rfl⟩ := some_of hF
  exact hq _ wh
theorem c_X10_seats {X : SCR} {fu : Nat} {o : Int32} {w1 : MEM} {a0 : Nat} {w : MEM} {h : PH} (wh : WH X h w) (h0 : vo 10 a0 = true) (hF : f_X10_seats fu a0 w = some (o, w1)) : CT 3 M_X10_seats [vR (1000, a0)] h 0 0 (QP X (.inl (some (vI o))) w1) :=
  CT_of mk_X10_seats (Nat.le_of_ble_eq_true rfl) rfl (w_X10_seats (fu := fu) (rc := 0) (rs := 0) (hd := Nat.le_refl 3) (hq := fun h1 g => ⟨rfl, g⟩) wh h0 hF)
-- X10_seat
def f_X10_seat_73 (fu : Nat) (k64 : Nat → Int32 → Int32 → Int32 → Int32 → MEM → Option (Int32 × MEM)) : Nat → Nat → Int32 → Int32 → Int32 → Int32 → Int32 → MEM → Option (Int32 × MEM)
  | 0, _, _, _, _, _, _, _ => none
  | n + 1, l0, l1, l2, l3, l4, l5, w => bnd (f_X10_mayFollow fu l0 l2 l3 l5 w) fun (x2 : Int32) (w1 : MEM) => if x2 = 0 then (f_X10_seat_73 fu k64 n l0 l1 l2 l3 l4 (l5 + (1 : Int32)) w1) else (ck (bI (((l5 <<< ((7 : Int32) &&& 31)) ||| l2) ||| ((1 : Int32) <<< (l5 &&& 31))) 1024) (if (rA w1 (1024, l0) (((l5 <<< ((7 : Int32) &&& 31)) ||| l2) ||| ((1 : Int32) <<< (l5 &&& 31)))) = 0 then (f_X10_seat_73 fu k64 n l0 l1 l2 l3 l4 (l5 + (1 : Int32)) w1) else (lt ((l2 ||| ((1 : Int32) <<< (l5 &&& 31)))) fun (v3 : Int32) => k64 l0 l1 v3 l5 (l4 + (1 : Int32)) w1)))
theorem E_X10_seat_73 (fu : Nat) (k64 : Nat → Int32 → Int32 → Int32 → Int32 → MEM → Option (Int32 × MEM)) (n : Nat) (l0 : Nat) (l1 : Int32) (l2 : Int32) (l3 : Int32) (l4 : Int32) (l5 : Int32) (w : MEM) : f_X10_seat_73 fu k64 (n + 1) l0 l1 l2 l3 l4 l5 w = bnd (f_X10_mayFollow fu l0 l2 l3 l5 w) fun (x2 : Int32) (w1 : MEM) => if x2 = 0 then (f_X10_seat_73 fu k64 n l0 l1 l2 l3 l4 (l5 + (1 : Int32)) w1) else (ck (bI (((l5 <<< ((7 : Int32) &&& 31)) ||| l2) ||| ((1 : Int32) <<< (l5 &&& 31))) 1024) (if (rA w1 (1024, l0) (((l5 <<< ((7 : Int32) &&& 31)) ||| l2) ||| ((1 : Int32) <<< (l5 &&& 31)))) = 0 then (f_X10_seat_73 fu k64 n l0 l1 l2 l3 l4 (l5 + (1 : Int32)) w1) else (lt ((l2 ||| ((1 : Int32) <<< (l5 &&& 31)))) fun (v3 : Int32) => k64 l0 l1 v3 l5 (l4 + (1 : Int32)) w1))) := rfl
theorem w_X10_seat_73 {X : SCR} {d rc rs : Nat} {Q : PO → PH → Prop} {o : Int32} {w1 : MEM} {fu : Nat} {k64 : Nat → Int32 → Int32 → Int32 → Int32 → MEM → Option (Int32 × MEM)} (hd : 3 ≤ d) (hq : ∀ h1, WH X h1 w1 → Q (.inl (some (vI o))) h1) (hk64 : ∀ (l0 : Nat) (l1 : Int32) (l2 : Int32) (l3 : Int32) (l4 : Int32) (w : MEM) (h : PH), WH X h w → vo 10 l0 = true → k64 l0 l1 l2 l3 l4 w = some (o, w1) → PW d M_X10_seat Q rc rs 64 [vR (1000, l0), vI l1, vI l2, vI l3, vI l4, vU] [] h) : ∀ (n : Nat) (l0 : Nat) (l1 : Int32) (l2 : Int32) (l3 : Int32) (l4 : Int32) (l5 : Int32) (w : MEM) (h : PH), WH X h w → vo 10 l0 = true → f_X10_seat_73 fu k64 n l0 l1 l2 l3 l4 l5 w = some (o, w1) → PW d M_X10_seat Q rc rs 73 [vR (1000, l0), vI l1, vI l2, vI l3, vI l4, vI l5] [] h := by
  intro n
  induction n with
  | zero => intro l0 l1 l2 l3 l4 l5 w h wh hv_l0 hF; cases hF
  | succ n ih =>
    intro l0 l1 l2 l3 l4 l5 w h wh hv_l0 hF
    replace hF := (E_X10_seat_73 fu k64 n l0 l1 l2 l3 l4 l5 w).symm.trans hF
    refine r_X10_seat_73 ?_
    refine ⟨⟨_, wh.1 11000 _ rfl hv_l0⟩, ?_⟩
    obtain ⟨x2, w1, hG, hF⟩ := bnd_of hF
    refine cl_I (D := 1) (Nat.le_trans (by decide) hd) (c_X10_mayFollow wh hv_l0 hG) ?_
    clear hG
    clear wh
    intro h wh
    refine ⟨fun c => ?_, fun c => ?_⟩
    · replace hF := if_ofT c hF
      exact ih _ _ _ _ _ _ _ _ wh hv_l0 hF
    · replace hF := if_ofF c hF
      refine gA_of (b := (1024, l0)) (wh.2.1 11048 _ rfl hv_l0) ?_
      obtain ⟨c, hF⟩ := ck_of hF
      refine xI_of wh (oA_1024 hv_l0) c ?_
      clear c
      refine ⟨fun c => ?_, fun c => ?_⟩
      · replace hF := if_ofT c hF
        exact ih _ _ _ _ _ _ _ _ wh hv_l0 hF
      · replace hF := if_ofF c hF
        replace hF := lt_of hF
        exact hk64 _ _ _ _ _ _ _ wh hv_l0 hF
def f_X10_seat_64 (fu : Nat) : Nat → Nat → Int32 → Int32 → Int32 → Int32 → MEM → Option (Int32 × MEM)
  | 0, _, _, _, _, _, _ => none
  | n + 1, l0, l1, l2, l3, l4, w => if l1 < l4 then (some (l3, w)) else (f_X10_seat_73 fu (fun l0 l1 l2 l3 l4 w => f_X10_seat_64 fu n l0 l1 l2 l3 l4 w) fu l0 l1 l2 l3 l4 (0 : Int32) w)
theorem E_X10_seat_64 (fu : Nat) (n : Nat) (l0 : Nat) (l1 : Int32) (l2 : Int32) (l3 : Int32) (l4 : Int32) (w : MEM) : f_X10_seat_64 fu (n + 1) l0 l1 l2 l3 l4 w = if l1 < l4 then (some (l3, w)) else (f_X10_seat_73 fu (fun l0 l1 l2 l3 l4 w => f_X10_seat_64 fu n l0 l1 l2 l3 l4 w) fu l0 l1 l2 l3 l4 (0 : Int32) w) := rfl
theorem w_X10_seat_64 {X : SCR} {d rc rs : Nat} {Q : PO → PH → Prop} {o : Int32} {w1 : MEM} {fu : Nat} (hd : 3 ≤ d) (hq : ∀ h1, WH X h1 w1 → Q (.inl (some (vI o))) h1) : ∀ (n : Nat) (l0 : Nat) (l1 : Int32) (l2 : Int32) (l3 : Int32) (l4 : Int32) (w : MEM) (h : PH), WH X h w → vo 10 l0 = true → f_X10_seat_64 fu n l0 l1 l2 l3 l4 w = some (o, w1) → PW d M_X10_seat Q rc rs 64 [vR (1000, l0), vI l1, vI l2, vI l3, vI l4, vU] [] h := by
  intro n
  induction n with
  | zero => intro l0 l1 l2 l3 l4 w h wh hv_l0 hF; cases hF
  | succ n ih =>
    intro l0 l1 l2 l3 l4 w h wh hv_l0 hF
    replace hF := (E_X10_seat_64 fu n l0 l1 l2 l3 l4 w).symm.trans hF
    refine r_X10_seat_64 ?_
    refine ⟨fun c => ?_, fun c => ?_⟩
    · replace hF := if_ofT c hF
      obtain ⟨rfl, rfl⟩ := some_of hF
      exact hq _ wh
    · replace hF := if_ofF c hF
      exact w_X10_seat_73 hd hq (fun l0 l1 l2 l3 l4 w h wh g0 hF => ih l0 l1 l2 l3 l4 w h wh g0 hF) fu _ _ _ _ _ _ _ _ wh hv_l0 hF
def f_X10_seat_15 (fu : Nat) (l0 : Nat) (l1 : Int32) (s0 : Nat) (s1 : Int32) (w : MEM) : Option (Int32 × MEM) := bnd (f_X10_may fu s0 s1 (1 : Int32) (1 : Int32) w) fun (x2 : Int32) (w1 : MEM) => if x2 = 0 then (some ((0 : Int32), w1)) else (bnd (f_X10_laySeats fu l0 w1) fun (u4 : Unit) (w3 : MEM) => if l1 < (rS w3 (11022, l0)) then (ck (bI ((rS w3 (11022, l0)) <<< ((7 : Int32) &&& 31)) 1024) (if (rA w3 (1024, l0) ((rS w3 (11022, l0)) <<< ((7 : Int32) &&& 31))) = 0 then (some ((-1 : Int32), w3)) else (lt ((rS w3 (11022, l0))) fun (v5 : Int32) => f_X10_seat_64 fu fu l0 l1 (0 : Int32) v5 (0 : Int32) w3))) else (some ((-1 : Int32), w3)))
theorem E_X10_seat_15 (fu : Nat) (l0 : Nat) (l1 : Int32) (s0 : Nat) (s1 : Int32) (w : MEM) : f_X10_seat_15 fu l0 l1 s0 s1 w = bnd (f_X10_may fu s0 s1 (1 : Int32) (1 : Int32) w) fun (x2 : Int32) (w1 : MEM) => if x2 = 0 then (some ((0 : Int32), w1)) else (bnd (f_X10_laySeats fu l0 w1) fun (u4 : Unit) (w3 : MEM) => if l1 < (rS w3 (11022, l0)) then (ck (bI ((rS w3 (11022, l0)) <<< ((7 : Int32) &&& 31)) 1024) (if (rA w3 (1024, l0) ((rS w3 (11022, l0)) <<< ((7 : Int32) &&& 31))) = 0 then (some ((-1 : Int32), w3)) else (lt ((rS w3 (11022, l0))) fun (v5 : Int32) => f_X10_seat_64 fu fu l0 l1 (0 : Int32) v5 (0 : Int32) w3))) else (some ((-1 : Int32), w3))) := rfl
theorem w_X10_seat_15 {X : SCR} {d rc rs : Nat} {Q : PO → PH → Prop} {o : Int32} {w1 : MEM} {fu : Nat} (hd : 3 ≤ d) (hq : ∀ h1, WH X h1 w1 → Q (.inl (some (vI o))) h1) {l0 : Nat} {l1 : Int32} {s0 : Nat} {s1 : Int32} {w : MEM} {h : PH} (wh : WH X h w) (hv_l0 : vo 10 l0 = true) (hv_s0 : vo 10 s0 = true) (hF : f_X10_seat_15 fu l0 l1 s0 s1 w = some (o, w1)) : PW d M_X10_seat Q rc rs 15 [vR (1000, l0), vI l1, vU, vU, vU, vU] [vI s1, vR (1000, s0)] h := by
  replace hF := (E_X10_seat_15 fu l0 l1 s0 s1 w).symm.trans hF
  refine r_X10_seat_15 ?_
  refine ⟨⟨_, wh.1 11000 _ rfl hv_s0⟩, ?_⟩
  obtain ⟨x2, w1, hG, hF⟩ := bnd_of hF
  refine cl_I (D := 0) (Nat.le_trans (by decide) hd) (c_X10_may wh hv_s0 hG) ?_
  clear hG
  clear wh
  intro h wh
  refine ⟨fun c => ?_, fun c => ?_⟩
  · replace hF := if_ofT c hF
    obtain ⟨rfl, rfl⟩ := some_of hF
    exact hq _ wh
  · replace hF := if_ofF c hF
    refine ⟨⟨_, wh.1 11000 _ rfl hv_l0⟩, ?_⟩
    obtain ⟨u4, w3, hG, hF⟩ := bnd_of hF
    refine cl_V (D := 2) (Nat.le_trans (by decide) hd) (c_X10_laySeats wh hv_l0 hG) ?_
    clear hG
    clear wh
    intro h wh
    refine gI_of (wh.1 11022 _ rfl hv_l0) ?_
    refine ⟨fun c => ?_, fun c => ?_⟩
    · replace hF := if_ofT c hF
      refine gA_of (b := (1024, l0)) (wh.2.1 11048 _ rfl hv_l0) ?_
      refine gI_of (wh.1 11022 _ rfl hv_l0) ?_
      obtain ⟨c, hF⟩ := ck_of hF
      refine xI_of wh (oA_1024 hv_l0) c ?_
      clear c
      refine ⟨fun c => ?_, fun c => ?_⟩
      · replace hF := if_ofT c hF
        obtain ⟨rfl, rfl⟩ := some_of hF
        exact hq _ wh
      · replace hF := if_ofF c hF
        refine gI_of (wh.1 11022 _ rfl hv_l0) ?_
        replace hF := lt_of hF
        exact w_X10_seat_64 hd hq  fu _ _ _ _ _ _ _ wh hv_l0 hF
    · replace hF := if_ofF c hF
      obtain ⟨rfl, rfl⟩ := some_of hF
      exact hq _ wh
def f_X10_seat (fu : Nat) (l0 : Nat) (l1 : Int32) (w : MEM) : Option (Int32 × MEM) := lt (sS w (11000, l0) (0 : Int32)) fun (w1 : MEM) => if l1 < 0 then (f_X10_seat_15 fu l0 l1 l0 (0 : Int32) w1) else (f_X10_seat_15 fu l0 l1 l0 (1 : Int32) w1)
theorem E_X10_seat (fu : Nat) (l0 : Nat) (l1 : Int32) (w : MEM) : f_X10_seat fu l0 l1 w = lt (sS w (11000, l0) (0 : Int32)) fun (w1 : MEM) => if l1 < 0 then (f_X10_seat_15 fu l0 l1 l0 (0 : Int32) w1) else (f_X10_seat_15 fu l0 l1 l0 (1 : Int32) w1) := rfl
theorem w_X10_seat {X : SCR} {d rc rs : Nat} {Q : PO → PH → Prop} {o : Int32} {w1 : MEM} {fu : Nat} (hd : 3 ≤ d) (hq : ∀ h1, WH X h1 w1 → Q (.inl (some (vI o))) h1) {l0 : Nat} {l1 : Int32} {w : MEM} {h : PH} (wh : WH X h w) (hv_l0 : vo 10 l0 = true) (hF : f_X10_seat fu l0 l1 w = some (o, w1)) : PW d M_X10_seat Q rc rs 0 [vR (1000, l0), vI l1, vU, vU, vU, vU] [] h := by
  replace hF := (E_X10_seat fu l0 l1 w).symm.trans hF
  refine r_X10_seat_0 ?_
  replace hF := lt_of hF
  refine sF_S wh rfl hv_l0 ?_
  clear wh
  intro h wh
  refine ⟨fun c => ?_, fun c => ?_⟩
  · replace hF := if_ofT c hF
    exact w_X10_seat_15 hd hq  wh hv_l0 hv_l0 hF
  · replace hF := if_ofF c hF
    exact w_X10_seat_15 hd hq  wh hv_l0 hv_l0 hF
theorem c_X10_seat {X : SCR} {fu : Nat} {o : Int32} {w1 : MEM} {a0 : Nat} {a1 : Int32} {w : MEM} {h : PH} (wh : WH X h w) (h0 : vo 10 a0 = true) (hF : f_X10_seat fu a0 a1 w = some (o, w1)) : CT 3 M_X10_seat [vR (1000, a0), vI a1] h 0 0 (QP X (.inl (some (vI o))) w1) :=
  CT_of mk_X10_seat (Nat.le_of_ble_eq_true rfl) rfl (w_X10_seat (fu := fu) (rc := 0) (rs := 0) (hd := Nat.le_refl 3) (hq := fun h1 g => ⟨rfl, g⟩) wh h0 hF)
-- X10_findPairs
def f_X10_findPairs_24 (fu : Nat) (k2 : Nat → Int32 → Int32 → MEM → Option (Unit × MEM)) : Nat → Nat → Int32 → Int32 → Int32 → Int32 → Int32 → MEM → Option (Unit × MEM)
  | 0, _, _, _, _, _, _, _ => none
  | n + 1, l0, l1, l2, l3, l4, l5, w => if (12 : Int32) < l5 then (k2 l0 l1 (l2 + (1 : Int32)) w) else (ck (bI (56 : Int32) 57) (lt ((((rA w (1019, l0) (56 : Int32)) + l5) - (1 : Int32))) fun (v1 : Int32) => if (10 : Int32) = 0 then none else (if (10 : Int32) = 0 then none else (if (24 : Int32) = 0 then none else (bnd (f_X10_sunOf fu l0 v1 w) fun (x3 : Int32) (w2 : MEM) => bnd (f_X10_cloudOf fu l0 ((l2 / (10 : Int32)) + (1 : Int32)) (l2 - l2 / (10 : Int32) * (10 : Int32)) (0 : Int32) l4 (0 : Int32) l3 (v1 - v1 / (24 : Int32) * (24 : Int32)) x3 l1 w2) fun (x5 : Int32) (w4 : MEM) => bnd (f_X10_held fu (l3 + x5) w4) fun (x7 : Int32) (w6 : MEM) => if (10 : Int32) = 0 then none else (if (10 : Int32) = 0 then none else (bnd (f_X10_held fu (((l4 - (l2 / (10 : Int32))) - (1 : Int32)) + (l2 - l2 / (10 : Int32) * (10 : Int32))) w6) fun (x9 : Int32) (w8 : MEM) => ck (bI (((13 : Int32) * l2) + l5) 1170) (lt (sA w8 (1025, l0) (((13 : Int32) * l2) + l5) x7) fun (w10 : MEM) => ck (bI l2 90) (if (rA w10 (1026, l0) l2) = 0 then (ck (bI l2 90) (lt (sA w10 (1026, l0) l2 (vp_nar .boolean (0 : Int32))) fun (w11 : MEM) => f_X10_findPairs_24 fu k2 n l0 l1 l2 x7 x9 (l5 + (1 : Int32)) w11)) else (ck (bI l5 13) (if (rA w10 (1023, l0) l5) = (-1 : Int32) then (ck (bI l2 90) (lt (sA w10 (1026, l0) l2 (vp_nar .boolean (1 : Int32))) fun (w12 : MEM) => f_X10_findPairs_24 fu k2 n l0 l1 l2 x7 x9 (l5 + (1 : Int32)) w12)) else (ck (bI l5 13) (if (rA w10 (1023, l0) l5) = x7 then (ck (bI l2 90) (lt (sA w10 (1026, l0) l2 (vp_nar .boolean (1 : Int32))) fun (w14 : MEM) => f_X10_findPairs_24 fu k2 n l0 l1 l2 x7 x9 (l5 + (1 : Int32)) w14)) else (ck (bI l2 90) (lt (sA w10 (1026, l0) l2 (vp_nar .boolean (0 : Int32))) fun (w13 : MEM) => f_X10_findPairs_24 fu k2 n l0 l1 l2 x7 x9 (l5 + (1 : Int32)) w13)))))))))))))))
theorem E_X10_findPairs_24 (fu : Nat) (k2 : Nat → Int32 → Int32 → MEM → Option (Unit × MEM)) (n : Nat) (l0 : Nat) (l1 : Int32) (l2 : Int32) (l3 : Int32) (l4 : Int32) (l5 : Int32) (w : MEM) : f_X10_findPairs_24 fu k2 (n + 1) l0 l1 l2 l3 l4 l5 w = if (12 : Int32) < l5 then (k2 l0 l1 (l2 + (1 : Int32)) w) else (ck (bI (56 : Int32) 57) (lt ((((rA w (1019, l0) (56 : Int32)) + l5) - (1 : Int32))) fun (v1 : Int32) => if (10 : Int32) = 0 then none else (if (10 : Int32) = 0 then none else (if (24 : Int32) = 0 then none else (bnd (f_X10_sunOf fu l0 v1 w) fun (x3 : Int32) (w2 : MEM) => bnd (f_X10_cloudOf fu l0 ((l2 / (10 : Int32)) + (1 : Int32)) (l2 - l2 / (10 : Int32) * (10 : Int32)) (0 : Int32) l4 (0 : Int32) l3 (v1 - v1 / (24 : Int32) * (24 : Int32)) x3 l1 w2) fun (x5 : Int32) (w4 : MEM) => bnd (f_X10_held fu (l3 + x5) w4) fun (x7 : Int32) (w6 : MEM) => if (10 : Int32) = 0 then none else (if (10 : Int32) = 0 then none else (bnd (f_X10_held fu (((l4 - (l2 / (10 : Int32))) - (1 : Int32)) + (l2 - l2 / (10 : Int32) * (10 : Int32))) w6) fun (x9 : Int32) (w8 : MEM) => ck (bI (((13 : Int32) * l2) + l5) 1170) (lt (sA w8 (1025, l0) (((13 : Int32) * l2) + l5) x7) fun (w10 : MEM) => ck (bI l2 90) (if (rA w10 (1026, l0) l2) = 0 then (ck (bI l2 90) (lt (sA w10 (1026, l0) l2 (vp_nar .boolean (0 : Int32))) fun (w11 : MEM) => f_X10_findPairs_24 fu k2 n l0 l1 l2 x7 x9 (l5 + (1 : Int32)) w11)) else (ck (bI l5 13) (if (rA w10 (1023, l0) l5) = (-1 : Int32) then (ck (bI l2 90) (lt (sA w10 (1026, l0) l2 (vp_nar .boolean (1 : Int32))) fun (w12 : MEM) => f_X10_findPairs_24 fu k2 n l0 l1 l2 x7 x9 (l5 + (1 : Int32)) w12)) else (ck (bI l5 13) (if (rA w10 (1023, l0) l5) = x7 then (ck (bI l2 90) (lt (sA w10 (1026, l0) l2 (vp_nar .boolean (1 : Int32))) fun (w14 : MEM) => f_X10_findPairs_24 fu k2 n l0 l1 l2 x7 x9 (l5 + (1 : Int32)) w14)) else (ck (bI l2 90) (lt (sA w10 (1026, l0) l2 (vp_nar .boolean (0 : Int32))) fun (w13 : MEM) => f_X10_findPairs_24 fu k2 n l0 l1 l2 x7 x9 (l5 + (1 : Int32)) w13))))))))))))))) := rfl
theorem w_X10_findPairs_24 {X : SCR} {d rc rs : Nat} {Q : PO → PH → Prop} {o : Unit} {w1 : MEM} {fu : Nat} {k2 : Nat → Int32 → Int32 → MEM → Option (Unit × MEM)} (hd : 4 ≤ d) (hq : ∀ h1, WH X h1 w1 → Q (.inl none) h1) (hk2 : ∀ (l0 : Nat) (l1 : Int32) (l2 : Int32) (w : MEM) (h : PH), WH X h w → vo 10 l0 = true → k2 l0 l1 l2 w = some (o, w1) → PW d M_X10_findPairs Q rc rs 2 [vR (1000, l0), vI l1, vI l2, vU, vU, vU, vU] [] h) : ∀ (n : Nat) (l0 : Nat) (l1 : Int32) (l2 : Int32) (l3 : Int32) (l4 : Int32) (l5 : Int32) (w : MEM) (h : PH), WH X h w → vo 10 l0 = true → f_X10_findPairs_24 fu k2 n l0 l1 l2 l3 l4 l5 w = some (o, w1) → PW d M_X10_findPairs Q rc rs 24 [vR (1000, l0), vI l1, vI l2, vI l3, vI l4, vI l5, vU] [] h := by
  intro n
  induction n with
  | zero => intro l0 l1 l2 l3 l4 l5 w h wh hv_l0 hF; cases hF
  | succ n ih =>
    intro l0 l1 l2 l3 l4 l5 w h wh hv_l0 hF
    replace hF := (E_X10_findPairs_24 fu k2 n l0 l1 l2 l3 l4 l5 w).symm.trans hF
    refine r_X10_findPairs_24 ?_
    refine ⟨fun c => ?_, fun c => ?_⟩
    · replace hF := if_ofT c hF
      exact hk2 _ _ _ _ _ wh hv_l0 hF
    · replace hF := if_ofF c hF
      refine gA_of (b := (1019, l0)) (wh.2.1 11042 _ rfl hv_l0) ?_
      obtain ⟨c, hF⟩ := ck_of hF
      refine xI_of wh (oA_1019 hv_l0) c ?_
      clear c
      replace hF := lt_of hF
      obtain ⟨c, hF⟩ := nzF_of hF
      refine ⟨c, ?_⟩
      obtain ⟨c, hF⟩ := nzF_of hF
      refine ⟨c, ?_⟩
      obtain ⟨c, hF⟩ := nzF_of hF
      refine ⟨c, ?_⟩
      refine ⟨⟨_, wh.1 11000 _ rfl hv_l0⟩, ?_⟩
      obtain ⟨x3, w2, hG, hF⟩ := bnd_of hF
      refine cl_I (D := 0) (Nat.le_trans (by decide) hd) (c_X10_sunOf wh hv_l0 hG) ?_
      clear hG
      clear wh
      intro h wh
      refine ⟨⟨_, wh.1 11000 _ rfl hv_l0⟩, ?_⟩
      obtain ⟨x5, w4, hG, hF⟩ := bnd_of hF
      refine cl_I (D := 3) (Nat.le_trans (by decide) hd) (c_X10_cloudOf wh hv_l0 hG) ?_
      clear hG
      clear wh
      intro h wh
      obtain ⟨x7, w6, hG, hF⟩ := bnd_of hF
      refine cl_I (D := 0) (Nat.le_trans (by decide) hd) (c_X10_held wh  hG) ?_
      clear hG
      clear wh
      intro h wh
      obtain ⟨c, hF⟩ := nzF_of hF
      refine ⟨c, ?_⟩
      obtain ⟨c, hF⟩ := nzF_of hF
      refine ⟨c, ?_⟩
      obtain ⟨x9, w8, hG, hF⟩ := bnd_of hF
      refine cl_I (D := 0) (Nat.le_trans (by decide) hd) (c_X10_held wh  hG) ?_
      clear hG
      clear wh
      intro h wh
      refine gA_of (b := (1025, l0)) (wh.2.1 11049 _ rfl hv_l0) ?_
      obtain ⟨c, hF⟩ := ck_of hF
      replace hF := lt_of hF
      refine yI_of wh (oA_1025 hv_l0) c ?_
      clear c wh
      intro h wh
      refine gA_of (b := (1026, l0)) (wh.2.1 11050 _ rfl hv_l0) ?_
      refine gA_of (b := (1026, l0)) (wh.2.1 11050 _ rfl hv_l0) ?_
      obtain ⟨c, hF⟩ := ck_of hF
      refine xZ_of wh (oA_1026 hv_l0) c ?_
      clear c
      refine ⟨fun c => ?_, fun c => ?_⟩
      · replace hF := if_ofT c hF
        obtain ⟨c, hF⟩ := ck_of hF
        replace hF := lt_of hF
        refine yZ_of wh (oA_1026 hv_l0) c ?_
        clear c wh
        intro h wh
        exact ih _ _ _ _ _ _ _ _ wh hv_l0 hF
      · replace hF := if_ofF c hF
        refine gA_of (b := (1023, l0)) (wh.2.1 11046 _ rfl hv_l0) ?_
        obtain ⟨c, hF⟩ := ck_of hF
        refine xI_of wh (oA_1023 hv_l0) c ?_
        clear c
        refine ⟨fun c => ?_, fun c => ?_⟩
        · replace hF := if_ofT c hF
          obtain ⟨c, hF⟩ := ck_of hF
          replace hF := lt_of hF
          refine yZ_of wh (oA_1026 hv_l0) c ?_
          clear c wh
          intro h wh
          exact ih _ _ _ _ _ _ _ _ wh hv_l0 hF
        · replace hF := if_ofF c hF
          refine gA_of (b := (1023, l0)) (wh.2.1 11046 _ rfl hv_l0) ?_
          obtain ⟨c, hF⟩ := ck_of hF
          refine xI_of wh (oA_1023 hv_l0) c ?_
          clear c
          refine ⟨fun c => ?_, fun c => ?_⟩
          · replace hF := if_ofT c hF
            obtain ⟨c, hF⟩ := ck_of hF
            replace hF := lt_of hF
            refine yZ_of wh (oA_1026 hv_l0) c ?_
            clear c wh
            intro h wh
            exact ih _ _ _ _ _ _ _ _ wh hv_l0 hF
          · replace hF := if_ofF c hF
            obtain ⟨c, hF⟩ := ck_of hF
            replace hF := lt_of hF
            refine yZ_of wh (oA_1026 hv_l0) c ?_
            clear c wh
            intro h wh
            exact ih _ _ _ _ _ _ _ _ wh hv_l0 hF
def f_X10_findPairs_2 (fu : Nat) : Nat → Nat → Int32 → Int32 → MEM → Option (Unit × MEM)
  | 0, _, _, _, _ => none
  | n + 1, l0, l1, l2, w => if l2 < (90 : Int32) then (ck (bI l2 90) (lt (sA w (1026, l0) l2 (vp_nar .boolean (1 : Int32))) fun (w1 : MEM) => f_X10_findPairs_24 fu (fun l0 l1 l2 w => f_X10_findPairs_2 fu n l0 l1 l2 w) fu l0 l1 l2 (0 : Int32) (99 : Int32) (1 : Int32) w1)) else (some ((), w))
theorem E_X10_findPairs_2 (fu : Nat) (n : Nat) (l0 : Nat) (l1 : Int32) (l2 : Int32) (w : MEM) : f_X10_findPairs_2 fu (n + 1) l0 l1 l2 w = if l2 < (90 : Int32) then (ck (bI l2 90) (lt (sA w (1026, l0) l2 (vp_nar .boolean (1 : Int32))) fun (w1 : MEM) => f_X10_findPairs_24 fu (fun l0 l1 l2 w => f_X10_findPairs_2 fu n l0 l1 l2 w) fu l0 l1 l2 (0 : Int32) (99 : Int32) (1 : Int32) w1)) else (some ((), w)) := rfl
theorem w_X10_findPairs_2 {X : SCR} {d rc rs : Nat} {Q : PO → PH → Prop} {o : Unit} {w1 : MEM} {fu : Nat} (hd : 4 ≤ d) (hq : ∀ h1, WH X h1 w1 → Q (.inl none) h1) : ∀ (n : Nat) (l0 : Nat) (l1 : Int32) (l2 : Int32) (w : MEM) (h : PH), WH X h w → vo 10 l0 = true → f_X10_findPairs_2 fu n l0 l1 l2 w = some (o, w1) → PW d M_X10_findPairs Q rc rs 2 [vR (1000, l0), vI l1, vI l2, vU, vU, vU, vU] [] h := by
  intro n
  induction n with
  | zero => intro l0 l1 l2 w h wh hv_l0 hF; cases hF
  | succ n ih =>
    intro l0 l1 l2 w h wh hv_l0 hF
    replace hF := (E_X10_findPairs_2 fu n l0 l1 l2 w).symm.trans hF
    refine r_X10_findPairs_2 ?_
    refine ⟨fun c => ?_, fun c => ?_⟩
    · replace hF := if_ofT c hF
      refine gA_of (b := (1026, l0)) (wh.2.1 11050 _ rfl hv_l0) ?_
      obtain ⟨c, hF⟩ := ck_of hF
      replace hF := lt_of hF
      refine yZ_of wh (oA_1026 hv_l0) c ?_
      clear c wh
      intro h wh
      exact w_X10_findPairs_24 hd hq (fun l0 l1 l2 w h wh g0 hF => ih l0 l1 l2 w h wh g0 hF) fu _ _ _ _ _ _ _ _ wh hv_l0 hF
    · replace hF := if_ofF c hF
      obtain ⟨rfl, rfl⟩ := some_of hF
      exact hq _ wh
def f_X10_findPairs (fu : Nat) (l0 : Nat) (l1 : Int32) (w : MEM) : Option (Unit × MEM) := f_X10_findPairs_2 fu fu l0 l1 (0 : Int32) w
theorem E_X10_findPairs (fu : Nat) (l0 : Nat) (l1 : Int32) (w : MEM) : f_X10_findPairs fu l0 l1 w = f_X10_findPairs_2 fu fu l0 l1 (0 : Int32) w := rfl
theorem w_X10_findPairs {X : SCR} {d rc rs : Nat} {Q : PO → PH → Prop} {o : Unit} {w1 : MEM} {fu : Nat} (hd : 4 ≤ d) (hq : ∀ h1, WH X h1 w1 → Q (.inl none) h1) {l0 : Nat} {l1 : Int32} {w : MEM} {h : PH} (wh : WH X h w) (hv_l0 : vo 10 l0 = true) (hF : f_X10_findPairs fu l0 l1 w = some (o, w1)) : PW d M_X10_findPairs Q rc rs 0 [vR (1000, l0), vI l1, vU, vU, vU, vU, vU] [] h := by
  replace hF := (E_X10_findPairs fu l0 l1 w).symm.trans hF
  refine r_X10_findPairs_0 ?_
  exact w_X10_findPairs_2 hd hq  fu _ _ _ _ _ wh hv_l0 hF
theorem c_X10_findPairs {X : SCR} {fu : Nat} {o : Unit} {w1 : MEM} {a0 : Nat} {a1 : Int32} {w : MEM} {h : PH} (wh : WH X h w) (h0 : vo 10 a0 = true) (hF : f_X10_findPairs fu a0 a1 w = some (o, w1)) : CT 4 M_X10_findPairs [vR (1000, a0), vI a1] h 0 0 (QP X (.inl none) w1) :=
  CT_of mk_X10_findPairs (Nat.le_of_ble_eq_true rfl) rfl (w_X10_findPairs (fu := fu) (rc := 0) (rs := 0) (hd := Nat.le_refl 4) (hq := fun h1 g => ⟨rfl, g⟩) wh h0 hF)
-- X10_fits
def f_X10_fits_44 (fu : Nat) : Nat → Nat → Int32 → Int32 → Int32 → Int32 → MEM → Option (Int32 × MEM)
  | 0, _, _, _, _, _, _ => none
  | n + 1, l0, l2, l3, l4, l5, w => if l5 < (90 : Int32) then (ck (bI l5 90) (if (rA w (1026, l0) l5) = 0 then (f_X10_fits_44 fu n l0 l2 l3 l4 (l5 + (1 : Int32)) w) else (if l4 = (-1 : Int32) then (if (10 : Int32) = 0 then none else (if (10 : Int32) = 0 then none else (lt ((((10 : Int32) * ((l5 / (10 : Int32)) + (1 : Int32))) + (l5 - l5 / (10 : Int32) * (10 : Int32)))) fun (v1 : Int32) => f_X10_fits_44 fu n l0 l2 (l3 + (1 : Int32)) v1 (l5 + (1 : Int32)) w))) else (f_X10_fits_44 fu n l0 l2 (l3 + (1 : Int32)) l4 (l5 + (1 : Int32)) w)))) else (if l2 = 0 then (some (l3, w)) else (some (l4, w)))
theorem E_X10_fits_44 (fu : Nat) (n : Nat) (l0 : Nat) (l2 : Int32) (l3 : Int32) (l4 : Int32) (l5 : Int32) (w : MEM) : f_X10_fits_44 fu (n + 1) l0 l2 l3 l4 l5 w = if l5 < (90 : Int32) then (ck (bI l5 90) (if (rA w (1026, l0) l5) = 0 then (f_X10_fits_44 fu n l0 l2 l3 l4 (l5 + (1 : Int32)) w) else (if l4 = (-1 : Int32) then (if (10 : Int32) = 0 then none else (if (10 : Int32) = 0 then none else (lt ((((10 : Int32) * ((l5 / (10 : Int32)) + (1 : Int32))) + (l5 - l5 / (10 : Int32) * (10 : Int32)))) fun (v1 : Int32) => f_X10_fits_44 fu n l0 l2 (l3 + (1 : Int32)) v1 (l5 + (1 : Int32)) w))) else (f_X10_fits_44 fu n l0 l2 (l3 + (1 : Int32)) l4 (l5 + (1 : Int32)) w)))) else (if l2 = 0 then (some (l3, w)) else (some (l4, w))) := rfl
theorem w_X10_fits_44 {X : SCR} {d rc rs : Nat} {Q : PO → PH → Prop} {o : Int32} {w1 : MEM} {fu : Nat} (hd : 5 ≤ d) (hq : ∀ h1, WH X h1 w1 → Q (.inl (some (vI o))) h1) : ∀ (n : Nat) (l0 : Nat) (l2 : Int32) (l3 : Int32) (l4 : Int32) (l5 : Int32) (w : MEM) (h : PH), WH X h w → vo 10 l0 = true → f_X10_fits_44 fu n l0 l2 l3 l4 l5 w = some (o, w1) → PW d M_X10_fits Q rc rs 44 [vR (1000, l0), vU, vI l2, vI l3, vI l4, vI l5] [] h := by
  intro n
  induction n with
  | zero => intro l0 l2 l3 l4 l5 w h wh hv_l0 hF; cases hF
  | succ n ih =>
    intro l0 l2 l3 l4 l5 w h wh hv_l0 hF
    replace hF := (E_X10_fits_44 fu n l0 l2 l3 l4 l5 w).symm.trans hF
    refine r_X10_fits_44 ?_
    refine ⟨fun c => ?_, fun c => ?_⟩
    · replace hF := if_ofT c hF
      refine gA_of (b := (1026, l0)) (wh.2.1 11050 _ rfl hv_l0) ?_
      obtain ⟨c, hF⟩ := ck_of hF
      refine xZ_of wh (oA_1026 hv_l0) c ?_
      clear c
      refine ⟨fun c => ?_, fun c => ?_⟩
      · replace hF := if_ofT c hF
        exact ih _ _ _ _ _ _ _ wh hv_l0 hF
      · replace hF := if_ofF c hF
        refine ⟨fun c => ?_, fun c => ?_⟩
        · replace hF := if_ofT c hF
          obtain ⟨c, hF⟩ := nzF_of hF
          refine ⟨c, ?_⟩
          obtain ⟨c, hF⟩ := nzF_of hF
          refine ⟨c, ?_⟩
          replace hF := lt_of hF
          exact ih _ _ _ _ _ _ _ wh hv_l0 hF
        · replace hF := if_ofF c hF
          exact ih _ _ _ _ _ _ _ wh hv_l0 hF
    · replace hF := if_ofF c hF
      refine ⟨fun c => ?_, fun c => ?_⟩
      · replace hF := if_ofT c hF
        obtain ⟨rfl, rfl⟩ := some_of hF
        exact hq _ wh
      · replace hF := if_ofF c hF
        obtain ⟨rfl, rfl⟩ := some_of hF
        exact hq _ wh
def f_X10_fits (fu : Nat) (l0 : Nat) (l1 : Int32) (l2 : Int32) (w : MEM) : Option (Int32 × MEM) := lt (sS w (11000, l0) (0 : Int32)) fun (w1 : MEM) => bnd (f_X10_isHeir fu l0 l1 (1 : Int32) w1) fun (x3 : Int32) (w2 : MEM) => if x3 = 0 then (some ((0 : Int32), w2)) else (bnd (f_X10_within fu l2 (0 : Int32) (1 : Int32) w2) fun (x5 : Int32) (w4 : MEM) => bnd (f_X10_may fu l0 x5 (2 : Int32) (1 : Int32) w4) fun (x7 : Int32) (w6 : MEM) => if x7 = 0 then (some ((0 : Int32), w6)) else (bnd (f_X10_findPairs fu l0 l1 w6) fun (u9 : Unit) (w8 : MEM) => f_X10_fits_44 fu fu l0 l2 (0 : Int32) (-1 : Int32) (0 : Int32) w8))
theorem E_X10_fits (fu : Nat) (l0 : Nat) (l1 : Int32) (l2 : Int32) (w : MEM) : f_X10_fits fu l0 l1 l2 w = lt (sS w (11000, l0) (0 : Int32)) fun (w1 : MEM) => bnd (f_X10_isHeir fu l0 l1 (1 : Int32) w1) fun (x3 : Int32) (w2 : MEM) => if x3 = 0 then (some ((0 : Int32), w2)) else (bnd (f_X10_within fu l2 (0 : Int32) (1 : Int32) w2) fun (x5 : Int32) (w4 : MEM) => bnd (f_X10_may fu l0 x5 (2 : Int32) (1 : Int32) w4) fun (x7 : Int32) (w6 : MEM) => if x7 = 0 then (some ((0 : Int32), w6)) else (bnd (f_X10_findPairs fu l0 l1 w6) fun (u9 : Unit) (w8 : MEM) => f_X10_fits_44 fu fu l0 l2 (0 : Int32) (-1 : Int32) (0 : Int32) w8)) := rfl
theorem w_X10_fits {X : SCR} {d rc rs : Nat} {Q : PO → PH → Prop} {o : Int32} {w1 : MEM} {fu : Nat} (hd : 5 ≤ d) (hq : ∀ h1, WH X h1 w1 → Q (.inl (some (vI o))) h1) {l0 : Nat} {l1 : Int32} {l2 : Int32} {w : MEM} {h : PH} (wh : WH X h w) (hv_l0 : vo 10 l0 = true) (hF : f_X10_fits fu l0 l1 l2 w = some (o, w1)) : PW d M_X10_fits Q rc rs 0 [vR (1000, l0), vI l1, vI l2, vU, vU, vU] [] h := by
  replace hF := (E_X10_fits fu l0 l1 l2 w).symm.trans hF
  refine r_X10_fits_0 ?_
  replace hF := lt_of hF
  refine sF_S wh rfl hv_l0 ?_
  clear wh
  intro h wh
  refine ⟨⟨_, wh.1 11000 _ rfl hv_l0⟩, ?_⟩
  obtain ⟨x3, w2, hG, hF⟩ := bnd_of hF
  refine cl_I (D := 1) (Nat.le_trans (by decide) hd) (c_X10_isHeir wh hv_l0 hG) ?_
  clear hG
  clear wh
  intro h wh
  refine ⟨fun c => ?_, fun c => ?_⟩
  · replace hF := if_ofT c hF
    obtain ⟨rfl, rfl⟩ := some_of hF
    exact hq _ wh
  · replace hF := if_ofF c hF
    obtain ⟨x5, w4, hG, hF⟩ := bnd_of hF
    refine cl_I (D := 0) (Nat.le_trans (by decide) hd) (c_X10_within wh  hG) ?_
    clear hG
    clear wh
    intro h wh
    refine ⟨⟨_, wh.1 11000 _ rfl hv_l0⟩, ?_⟩
    obtain ⟨x7, w6, hG, hF⟩ := bnd_of hF
    refine cl_I (D := 0) (Nat.le_trans (by decide) hd) (c_X10_may wh hv_l0 hG) ?_
    clear hG
    clear wh
    intro h wh
    refine ⟨fun c => ?_, fun c => ?_⟩
    · replace hF := if_ofT c hF
      obtain ⟨rfl, rfl⟩ := some_of hF
      exact hq _ wh
    · replace hF := if_ofF c hF
      refine ⟨⟨_, wh.1 11000 _ rfl hv_l0⟩, ?_⟩
      obtain ⟨u9, w8, hG, hF⟩ := bnd_of hF
      refine cl_V (D := 4) (Nat.le_trans (by decide) hd) (c_X10_findPairs wh hv_l0 hG) ?_
      clear hG
      clear wh
      intro h wh
      exact w_X10_fits_44 hd hq  fu _ _ _ _ _ _ _ wh hv_l0 hF
theorem c_X10_fits {X : SCR} {fu : Nat} {o : Int32} {w1 : MEM} {a0 : Nat} {a1 : Int32} {a2 : Int32} {w : MEM} {h : PH} (wh : WH X h w) (h0 : vo 10 a0 = true) (hF : f_X10_fits fu a0 a1 a2 w = some (o, w1)) : CT 5 M_X10_fits [vR (1000, a0), vI a1, vI a2] h 0 0 (QP X (.inl (some (vI o))) w1) :=
  CT_of mk_X10_fits (Nat.le_of_ble_eq_true rfl) rfl (w_X10_fits (fu := fu) (rc := 0) (rs := 0) (hd := Nat.le_refl 5) (hq := fun h1 g => ⟨rfl, g⟩) wh h0 hF)
-- X10_look
def f_X10_look_95 (fu : Nat) (k44 : Nat → Int32 → Int32 → Int32 → Int32 → MEM → Option (Int32 × MEM)) : Nat → Nat → Int32 → Int32 → Int32 → Int32 → Int32 → Int32 → MEM → Option (Int32 × MEM)
  | 0, _, _, _, _, _, _, _, _ => none
  | n + 1, l0, l2, l3, l4, l5, l6, l7, w => if l7 < (90 : Int32) then (ck (bI l7 90) (if (rA w (1026, l0) l7) = 0 then (f_X10_look_95 fu k44 n l0 l2 l3 l4 l5 l6 (l7 + (1 : Int32)) w) else (ck (bI (((13 : Int32) * l7) + l5) 1170) (lt ((rA w (1025, l0) (((13 : Int32) * l7) + l5))) fun (v1 : Int32) => ck (bI v1 100) (ck (bI v1 100) (lt (sA w (1027, l0) v1 ((rA w (1027, l0) v1) + (1 : Int32))) fun (w2 : MEM) => ck (bI v1 100) (if l6 < (rA w2 (1027, l0) v1) then (ck (bI v1 100) (lt ((rA w2 (1027, l0) v1)) fun (v3 : Int32) => f_X10_look_95 fu k44 n l0 l2 l3 l4 l5 v3 (l7 + (1 : Int32)) w2)) else (f_X10_look_95 fu k44 n l0 l2 l3 l4 l5 l6 (l7 + (1 : Int32)) w2)))))))) else (if l3 = (-1 : Int32) then (k44 l0 l2 l5 l6 (l5 + (1 : Int32)) w) else (if l6 < l4 then (k44 l0 l2 l5 l6 (l5 + (1 : Int32)) w) else (k44 l0 l2 l3 l4 (l5 + (1 : Int32)) w)))
theorem E_X10_look_95 (fu : Nat) (k44 : Nat → Int32 → Int32 → Int32 → Int32 → MEM → Option (Int32 × MEM)) (n : Nat) (l0 : Nat) (l2 : Int32) (l3 : Int32) (l4 : Int32) (l5 : Int32) (l6 : Int32) (l7 : Int32) (w : MEM) : f_X10_look_95 fu k44 (n + 1) l0 l2 l3 l4 l5 l6 l7 w = if l7 < (90 : Int32) then (ck (bI l7 90) (if (rA w (1026, l0) l7) = 0 then (f_X10_look_95 fu k44 n l0 l2 l3 l4 l5 l6 (l7 + (1 : Int32)) w) else (ck (bI (((13 : Int32) * l7) + l5) 1170) (lt ((rA w (1025, l0) (((13 : Int32) * l7) + l5))) fun (v1 : Int32) => ck (bI v1 100) (ck (bI v1 100) (lt (sA w (1027, l0) v1 ((rA w (1027, l0) v1) + (1 : Int32))) fun (w2 : MEM) => ck (bI v1 100) (if l6 < (rA w2 (1027, l0) v1) then (ck (bI v1 100) (lt ((rA w2 (1027, l0) v1)) fun (v3 : Int32) => f_X10_look_95 fu k44 n l0 l2 l3 l4 l5 v3 (l7 + (1 : Int32)) w2)) else (f_X10_look_95 fu k44 n l0 l2 l3 l4 l5 l6 (l7 + (1 : Int32)) w2)))))))) else (if l3 = (-1 : Int32) then (k44 l0 l2 l5 l6 (l5 + (1 : Int32)) w) else (if l6 < l4 then (k44 l0 l2 l5 l6 (l5 + (1 : Int32)) w) else (k44 l0 l2 l3 l4 (l5 + (1 : Int32)) w))) := rfl
theorem w_X10_look_95 {X : SCR} {d rc rs : Nat} {Q : PO → PH → Prop} {o : Int32} {w1 : MEM} {fu : Nat} {k44 : Nat → Int32 → Int32 → Int32 → Int32 → MEM → Option (Int32 × MEM)} (hd : 5 ≤ d) (hq : ∀ h1, WH X h1 w1 → Q (.inl (some (vI o))) h1) (hk44 : ∀ (l0 : Nat) (l2 : Int32) (l3 : Int32) (l4 : Int32) (l5 : Int32) (w : MEM) (h : PH), WH X h w → vo 10 l0 = true → k44 l0 l2 l3 l4 l5 w = some (o, w1) → PW d M_X10_look Q rc rs 44 [vR (1000, l0), vU, vI l2, vI l3, vI l4, vI l5, vU, vU, vU] [] h) : ∀ (n : Nat) (l0 : Nat) (l2 : Int32) (l3 : Int32) (l4 : Int32) (l5 : Int32) (l6 : Int32) (l7 : Int32) (w : MEM) (h : PH), WH X h w → vo 10 l0 = true → f_X10_look_95 fu k44 n l0 l2 l3 l4 l5 l6 l7 w = some (o, w1) → PW d M_X10_look Q rc rs 95 [vR (1000, l0), vU, vI l2, vI l3, vI l4, vI l5, vI l6, vI l7, vU] [] h := by
  intro n
  induction n with
  | zero => intro l0 l2 l3 l4 l5 l6 l7 w h wh hv_l0 hF; cases hF
  | succ n ih =>
    intro l0 l2 l3 l4 l5 l6 l7 w h wh hv_l0 hF
    replace hF := (E_X10_look_95 fu k44 n l0 l2 l3 l4 l5 l6 l7 w).symm.trans hF
    refine r_X10_look_95 ?_
    refine ⟨fun c => ?_, fun c => ?_⟩
    · replace hF := if_ofT c hF
      refine gA_of (b := (1026, l0)) (wh.2.1 11050 _ rfl hv_l0) ?_
      obtain ⟨c, hF⟩ := ck_of hF
      refine xZ_of wh (oA_1026 hv_l0) c ?_
      clear c
      refine ⟨fun c => ?_, fun c => ?_⟩
      · replace hF := if_ofT c hF
        exact ih _ _ _ _ _ _ _ _ _ wh hv_l0 hF
      · replace hF := if_ofF c hF
        refine gA_of (b := (1025, l0)) (wh.2.1 11049 _ rfl hv_l0) ?_
        obtain ⟨c, hF⟩ := ck_of hF
        refine xI_of wh (oA_1025 hv_l0) c ?_
        clear c
        replace hF := lt_of hF
        refine gA_of (b := (1027, l0)) (wh.2.1 11051 _ rfl hv_l0) ?_
        obtain ⟨c, hF⟩ := ck_of hF
        refine xI_of wh (oA_1027 hv_l0) c ?_
        clear c
        obtain ⟨c, hF⟩ := ck_of hF
        replace hF := lt_of hF
        refine yI_of wh (oA_1027 hv_l0) c ?_
        clear c wh
        intro h wh
        refine gA_of (b := (1027, l0)) (wh.2.1 11051 _ rfl hv_l0) ?_
        obtain ⟨c, hF⟩ := ck_of hF
        refine xI_of wh (oA_1027 hv_l0) c ?_
        clear c
        refine ⟨fun c => ?_, fun c => ?_⟩
        · replace hF := if_ofT c hF
          refine gA_of (b := (1027, l0)) (wh.2.1 11051 _ rfl hv_l0) ?_
          obtain ⟨c, hF⟩ := ck_of hF
          refine xI_of wh (oA_1027 hv_l0) c ?_
          clear c
          replace hF := lt_of hF
          exact ih _ _ _ _ _ _ _ _ _ wh hv_l0 hF
        · replace hF := if_ofF c hF
          exact ih _ _ _ _ _ _ _ _ _ wh hv_l0 hF
    · replace hF := if_ofF c hF
      refine ⟨fun c => ?_, fun c => ?_⟩
      · replace hF := if_ofT c hF
        exact hk44 _ _ _ _ _ _ _ wh hv_l0 hF
      · replace hF := if_ofF c hF
        refine ⟨fun c => ?_, fun c => ?_⟩
        · replace hF := if_ofT c hF
          exact hk44 _ _ _ _ _ _ _ wh hv_l0 hF
        · replace hF := if_ofF c hF
          exact hk44 _ _ _ _ _ _ _ wh hv_l0 hF
def f_X10_look_68 (fu : Nat) (k44 : Nat → Int32 → Int32 → Int32 → Int32 → MEM → Option (Int32 × MEM)) : Nat → Nat → Int32 → Int32 → Int32 → Int32 → Int32 → MEM → Option (Int32 × MEM)
  | 0, _, _, _, _, _, _, _ => none
  | n + 1, l0, l2, l3, l4, l5, l6, w => if (99 : Int32) < l6 then (f_X10_look_95 fu k44 fu l0 l2 l3 l4 l5 (0 : Int32) (0 : Int32) w) else (ck (bI l6 100) (lt (sA w (1027, l0) l6 (0 : Int32)) fun (w1 : MEM) => f_X10_look_68 fu k44 n l0 l2 l3 l4 l5 (l6 + (1 : Int32)) w1))
theorem E_X10_look_68 (fu : Nat) (k44 : Nat → Int32 → Int32 → Int32 → Int32 → MEM → Option (Int32 × MEM)) (n : Nat) (l0 : Nat) (l2 : Int32) (l3 : Int32) (l4 : Int32) (l5 : Int32) (l6 : Int32) (w : MEM) : f_X10_look_68 fu k44 (n + 1) l0 l2 l3 l4 l5 l6 w = if (99 : Int32) < l6 then (f_X10_look_95 fu k44 fu l0 l2 l3 l4 l5 (0 : Int32) (0 : Int32) w) else (ck (bI l6 100) (lt (sA w (1027, l0) l6 (0 : Int32)) fun (w1 : MEM) => f_X10_look_68 fu k44 n l0 l2 l3 l4 l5 (l6 + (1 : Int32)) w1)) := rfl
theorem w_X10_look_68 {X : SCR} {d rc rs : Nat} {Q : PO → PH → Prop} {o : Int32} {w1 : MEM} {fu : Nat} {k44 : Nat → Int32 → Int32 → Int32 → Int32 → MEM → Option (Int32 × MEM)} (hd : 5 ≤ d) (hq : ∀ h1, WH X h1 w1 → Q (.inl (some (vI o))) h1) (hk44 : ∀ (l0 : Nat) (l2 : Int32) (l3 : Int32) (l4 : Int32) (l5 : Int32) (w : MEM) (h : PH), WH X h w → vo 10 l0 = true → k44 l0 l2 l3 l4 l5 w = some (o, w1) → PW d M_X10_look Q rc rs 44 [vR (1000, l0), vU, vI l2, vI l3, vI l4, vI l5, vU, vU, vU] [] h) : ∀ (n : Nat) (l0 : Nat) (l2 : Int32) (l3 : Int32) (l4 : Int32) (l5 : Int32) (l6 : Int32) (w : MEM) (h : PH), WH X h w → vo 10 l0 = true → f_X10_look_68 fu k44 n l0 l2 l3 l4 l5 l6 w = some (o, w1) → PW d M_X10_look Q rc rs 68 [vR (1000, l0), vU, vI l2, vI l3, vI l4, vI l5, vI l6, vU, vU] [] h := by
  intro n
  induction n with
  | zero => intro l0 l2 l3 l4 l5 l6 w h wh hv_l0 hF; cases hF
  | succ n ih =>
    intro l0 l2 l3 l4 l5 l6 w h wh hv_l0 hF
    replace hF := (E_X10_look_68 fu k44 n l0 l2 l3 l4 l5 l6 w).symm.trans hF
    refine r_X10_look_68 ?_
    refine ⟨fun c => ?_, fun c => ?_⟩
    · replace hF := if_ofT c hF
      exact w_X10_look_95 hd hq hk44 fu _ _ _ _ _ _ _ _ _ wh hv_l0 hF
    · replace hF := if_ofF c hF
      refine gA_of (b := (1027, l0)) (wh.2.1 11051 _ rfl hv_l0) ?_
      obtain ⟨c, hF⟩ := ck_of hF
      replace hF := lt_of hF
      refine yI_of wh (oA_1027 hv_l0) c ?_
      clear c wh
      intro h wh
      exact ih _ _ _ _ _ _ _ _ wh hv_l0 hF
def f_X10_look_44 (fu : Nat) : Nat → Nat → Int32 → Int32 → Int32 → Int32 → MEM → Option (Int32 × MEM)
  | 0, _, _, _, _, _, _ => none
  | n + 1, l0, l2, l3, l4, l5, w => if (12 : Int32) < l5 then (if l2 = 0 then (some (l3, w)) else (some (l4, w))) else (ck (bI l5 13) (if (rA w (1023, l0) l5) = (-1 : Int32) then (f_X10_look_68 fu (fun l0 l2 l3 l4 l5 w => f_X10_look_44 fu n l0 l2 l3 l4 l5 w) fu l0 l2 l3 l4 l5 (0 : Int32) w) else (f_X10_look_44 fu n l0 l2 l3 l4 (l5 + (1 : Int32)) w)))
theorem E_X10_look_44 (fu : Nat) (n : Nat) (l0 : Nat) (l2 : Int32) (l3 : Int32) (l4 : Int32) (l5 : Int32) (w : MEM) : f_X10_look_44 fu (n + 1) l0 l2 l3 l4 l5 w = if (12 : Int32) < l5 then (if l2 = 0 then (some (l3, w)) else (some (l4, w))) else (ck (bI l5 13) (if (rA w (1023, l0) l5) = (-1 : Int32) then (f_X10_look_68 fu (fun l0 l2 l3 l4 l5 w => f_X10_look_44 fu n l0 l2 l3 l4 l5 w) fu l0 l2 l3 l4 l5 (0 : Int32) w) else (f_X10_look_44 fu n l0 l2 l3 l4 (l5 + (1 : Int32)) w))) := rfl
theorem w_X10_look_44 {X : SCR} {d rc rs : Nat} {Q : PO → PH → Prop} {o : Int32} {w1 : MEM} {fu : Nat} (hd : 5 ≤ d) (hq : ∀ h1, WH X h1 w1 → Q (.inl (some (vI o))) h1) : ∀ (n : Nat) (l0 : Nat) (l2 : Int32) (l3 : Int32) (l4 : Int32) (l5 : Int32) (w : MEM) (h : PH), WH X h w → vo 10 l0 = true → f_X10_look_44 fu n l0 l2 l3 l4 l5 w = some (o, w1) → PW d M_X10_look Q rc rs 44 [vR (1000, l0), vU, vI l2, vI l3, vI l4, vI l5, vU, vU, vU] [] h := by
  intro n
  induction n with
  | zero => intro l0 l2 l3 l4 l5 w h wh hv_l0 hF; cases hF
  | succ n ih =>
    intro l0 l2 l3 l4 l5 w h wh hv_l0 hF
    replace hF := (E_X10_look_44 fu n l0 l2 l3 l4 l5 w).symm.trans hF
    refine r_X10_look_44 ?_
    refine ⟨fun c => ?_, fun c => ?_⟩
    · replace hF := if_ofT c hF
      refine ⟨fun c => ?_, fun c => ?_⟩
      · replace hF := if_ofT c hF
        obtain ⟨rfl, rfl⟩ := some_of hF
        exact hq _ wh
      · replace hF := if_ofF c hF
        obtain ⟨rfl, rfl⟩ := some_of hF
        exact hq _ wh
    · replace hF := if_ofF c hF
      refine gA_of (b := (1023, l0)) (wh.2.1 11046 _ rfl hv_l0) ?_
      obtain ⟨c, hF⟩ := ck_of hF
      refine xI_of wh (oA_1023 hv_l0) c ?_
      clear c
      refine ⟨fun c => ?_, fun c => ?_⟩
      · replace hF := if_ofT c hF
        exact w_X10_look_68 hd hq (fun l0 l2 l3 l4 l5 w h wh g0 hF => ih l0 l2 l3 l4 l5 w h wh g0 hF) fu _ _ _ _ _ _ _ _ wh hv_l0 hF
      · replace hF := if_ofF c hF
        exact ih _ _ _ _ _ _ _ wh hv_l0 hF
def f_X10_look (fu : Nat) (l0 : Nat) (l1 : Int32) (l2 : Int32) (w : MEM) : Option (Int32 × MEM) := lt (sS w (11000, l0) (0 : Int32)) fun (w1 : MEM) => bnd (f_X10_isHeir fu l0 l1 (1 : Int32) w1) fun (x3 : Int32) (w2 : MEM) => if x3 = 0 then (some ((0 : Int32), w2)) else (bnd (f_X10_within fu l2 (0 : Int32) (1 : Int32) w2) fun (x5 : Int32) (w4 : MEM) => bnd (f_X10_may fu l0 x5 (2 : Int32) (1 : Int32) w4) fun (x7 : Int32) (w6 : MEM) => if x7 = 0 then (some ((0 : Int32), w6)) else (bnd (f_X10_findPairs fu l0 l1 w6) fun (u9 : Unit) (w8 : MEM) => f_X10_look_44 fu fu l0 l2 (-1 : Int32) (-1 : Int32) (1 : Int32) w8))
theorem E_X10_look (fu : Nat) (l0 : Nat) (l1 : Int32) (l2 : Int32) (w : MEM) : f_X10_look fu l0 l1 l2 w = lt (sS w (11000, l0) (0 : Int32)) fun (w1 : MEM) => bnd (f_X10_isHeir fu l0 l1 (1 : Int32) w1) fun (x3 : Int32) (w2 : MEM) => if x3 = 0 then (some ((0 : Int32), w2)) else (bnd (f_X10_within fu l2 (0 : Int32) (1 : Int32) w2) fun (x5 : Int32) (w4 : MEM) => bnd (f_X10_may fu l0 x5 (2 : Int32) (1 : Int32) w4) fun (x7 : Int32) (w6 : MEM) => if x7 = 0 then (some ((0 : Int32), w6)) else (bnd (f_X10_findPairs fu l0 l1 w6) fun (u9 : Unit) (w8 : MEM) => f_X10_look_44 fu fu l0 l2 (-1 : Int32) (-1 : Int32) (1 : Int32) w8)) := rfl
theorem w_X10_look {X : SCR} {d rc rs : Nat} {Q : PO → PH → Prop} {o : Int32} {w1 : MEM} {fu : Nat} (hd : 5 ≤ d) (hq : ∀ h1, WH X h1 w1 → Q (.inl (some (vI o))) h1) {l0 : Nat} {l1 : Int32} {l2 : Int32} {w : MEM} {h : PH} (wh : WH X h w) (hv_l0 : vo 10 l0 = true) (hF : f_X10_look fu l0 l1 l2 w = some (o, w1)) : PW d M_X10_look Q rc rs 0 [vR (1000, l0), vI l1, vI l2, vU, vU, vU, vU, vU, vU] [] h := by
  replace hF := (E_X10_look fu l0 l1 l2 w).symm.trans hF
  refine r_X10_look_0 ?_
  replace hF := lt_of hF
  refine sF_S wh rfl hv_l0 ?_
  clear wh
  intro h wh
  refine ⟨⟨_, wh.1 11000 _ rfl hv_l0⟩, ?_⟩
  obtain ⟨x3, w2, hG, hF⟩ := bnd_of hF
  refine cl_I (D := 1) (Nat.le_trans (by decide) hd) (c_X10_isHeir wh hv_l0 hG) ?_
  clear hG
  clear wh
  intro h wh
  refine ⟨fun c => ?_, fun c => ?_⟩
  · replace hF := if_ofT c hF
    obtain ⟨rfl, rfl⟩ := some_of hF
    exact hq _ wh
  · replace hF := if_ofF c hF
    obtain ⟨x5, w4, hG, hF⟩ := bnd_of hF
    refine cl_I (D := 0) (Nat.le_trans (by decide) hd) (c_X10_within wh  hG) ?_
    clear hG
    clear wh
    intro h wh
    refine ⟨⟨_, wh.1 11000 _ rfl hv_l0⟩, ?_⟩
    obtain ⟨x7, w6, hG, hF⟩ := bnd_of hF
    refine cl_I (D := 0) (Nat.le_trans (by decide) hd) (c_X10_may wh hv_l0 hG) ?_
    clear hG
    clear wh
    intro h wh
    refine ⟨fun c => ?_, fun c => ?_⟩
    · replace hF := if_ofT c hF
      obtain ⟨rfl, rfl⟩ := some_of hF
      exact hq _ wh
    · replace hF := if_ofF c hF
      refine ⟨⟨_, wh.1 11000 _ rfl hv_l0⟩, ?_⟩
      obtain ⟨u9, w8, hG, hF⟩ := bnd_of hF
      refine cl_V (D := 4) (Nat.le_trans (by decide) hd) (c_X10_findPairs wh hv_l0 hG) ?_
      clear hG
      clear wh
      intro h wh
      exact w_X10_look_44 hd hq  fu _ _ _ _ _ _ _ wh hv_l0 hF
theorem c_X10_look {X : SCR} {fu : Nat} {o : Int32} {w1 : MEM} {a0 : Nat} {a1 : Int32} {a2 : Int32} {w : MEM} {h : PH} (wh : WH X h w) (h0 : vo 10 a0 = true) (hF : f_X10_look fu a0 a1 a2 w = some (o, w1)) : CT 5 M_X10_look [vR (1000, a0), vI a1, vI a2] h 0 0 (QP X (.inl (some (vI o))) w1) :=
  CT_of mk_X10_look (Nat.le_of_ble_eq_true rfl) rfl (w_X10_look (fu := fu) (rc := 0) (rs := 0) (hd := Nat.le_refl 5) (hq := fun h1 g => ⟨rfl, g⟩) wh h0 hF)
-- X10_least
def f_X10_least_6 (fu : Nat) : Nat → Int64 → Int64 → Int32 → Int64 → Int64 → MEM → Option (Int64 × MEM)
  | 0, _, _, _, _, _, _ => none
  | n + 1, l0, l2, l4, l5, l7, w => if (lg_cmp l7 (0 : Int64)) = 0 then (if l4 = 0 then (if l5 = 0 then none else (some ((l0 / l5), w))) else (if l5 = 0 then none else (some ((l2 / l5), w)))) else (if l7 = 0 then none else (lt ((l5 - l5 / l7 * l7)) fun (v1 : Int64) => f_X10_least_6 fu n l0 l2 l4 l7 v1 w))
theorem E_X10_least_6 (fu : Nat) (n : Nat) (l0 : Int64) (l2 : Int64) (l4 : Int32) (l5 : Int64) (l7 : Int64) (w : MEM) : f_X10_least_6 fu (n + 1) l0 l2 l4 l5 l7 w = if (lg_cmp l7 (0 : Int64)) = 0 then (if l4 = 0 then (if l5 = 0 then none else (some ((l0 / l5), w))) else (if l5 = 0 then none else (some ((l2 / l5), w)))) else (if l7 = 0 then none else (lt ((l5 - l5 / l7 * l7)) fun (v1 : Int64) => f_X10_least_6 fu n l0 l2 l4 l7 v1 w)) := rfl
theorem w_X10_least_6 {X : SCR} {d rc rs : Nat} {Q : PO → PH → Prop} {o : Int64} {w1 : MEM} {fu : Nat} (hd : 0 ≤ d) (hq : ∀ h1, WH X h1 w1 → Q (.inl (some (vL o))) h1) : ∀ (n : Nat) (l0 : Int64) (l2 : Int64) (l4 : Int32) (l5 : Int64) (l7 : Int64) (w : MEM) (h : PH), WH X h w → f_X10_least_6 fu n l0 l2 l4 l5 l7 w = some (o, w1) → PW d M_X10_least Q rc rs 6 [vL l0, vU, vL l2, vU, vI l4, vL l5, vU, vL l7, vU, vU, vU] [] h := by
  intro n
  induction n with
  | zero => intro l0 l2 l4 l5 l7 w h wh  hF; cases hF
  | succ n ih =>
    intro l0 l2 l4 l5 l7 w h wh  hF
    replace hF := (E_X10_least_6 fu n l0 l2 l4 l5 l7 w).symm.trans hF
    refine r_X10_least_6 ?_
    refine ⟨fun c => ?_, fun c => ?_⟩
    · replace hF := if_ofT c hF
      refine ⟨fun c => ?_, fun c => ?_⟩
      · replace hF := if_ofT c hF
        obtain ⟨c, hF⟩ := nzL_of hF
        refine ⟨c, ?_⟩
        obtain ⟨rfl, rfl⟩ := some_of hF
        exact hq _ wh
      · replace hF := if_ofF c hF
        obtain ⟨c, hF⟩ := nzL_of hF
        refine ⟨c, ?_⟩
        obtain ⟨rfl, rfl⟩ := some_of hF
        exact hq _ wh
    · replace hF := if_ofF c hF
      obtain ⟨c, hF⟩ := nzL_of hF
      refine ⟨c, ?_⟩
      replace hF := lt_of hF
      exact ih _ _ _ _ _ _ _ wh  hF
def f_X10_least (fu : Nat) (l0 : Int64) (l2 : Int64) (l4 : Int32) (w : MEM) : Option (Int64 × MEM) := f_X10_least_6 fu fu l0 l2 l4 l0 l2 w
theorem E_X10_least (fu : Nat) (l0 : Int64) (l2 : Int64) (l4 : Int32) (w : MEM) : f_X10_least fu l0 l2 l4 w = f_X10_least_6 fu fu l0 l2 l4 l0 l2 w := rfl
theorem w_X10_least {X : SCR} {d rc rs : Nat} {Q : PO → PH → Prop} {o : Int64} {w1 : MEM} {fu : Nat} (hd : 0 ≤ d) (hq : ∀ h1, WH X h1 w1 → Q (.inl (some (vL o))) h1) {l0 : Int64} {l2 : Int64} {l4 : Int32} {w : MEM} {h : PH} (wh : WH X h w)  (hF : f_X10_least fu l0 l2 l4 w = some (o, w1)) : PW d M_X10_least Q rc rs 0 [vL l0, vU, vL l2, vU, vI l4, vU, vU, vU, vU, vU, vU] [] h := by
  replace hF := (E_X10_least fu l0 l2 l4 w).symm.trans hF
  refine r_X10_least_0 ?_
  exact w_X10_least_6 hd hq  fu _ _ _ _ _ _ _ wh  hF
theorem c_X10_least {X : SCR} {fu : Nat} {o : Int64} {w1 : MEM} {a0 : Int64} {a1 : Int64} {a2 : Int32} {w : MEM} {h : PH} (wh : WH X h w)  (hF : f_X10_least fu a0 a1 a2 w = some (o, w1)) : CT 0 M_X10_least [vL a0, vL a1, vI a2] h 0 0 (QP X (.inl (some (vL o))) w1) :=
  CT_of mk_X10_least (Nat.le_of_ble_eq_true rfl) rfl (w_X10_least (fu := fu) (rc := 0) (rs := 0) (hd := Nat.le_refl 0) (hq := fun h1 g => ⟨rfl, g⟩) wh  hF)
-- X10_ways
def f_X10_ways_12 (fu : Nat) : Nat → Int32 → Int32 → Int64 → Int32 → MEM → Option (Int64 × MEM)
  | 0, _, _, _, _, _ => none
  | n + 1, l0, l1, l2, l4, w => if l1 < l4 then (some (l2, w)) else (if l4.toInt64 = 0 then none else (lt (((l2 * ((l0 - l1) + l4).toInt64) / l4.toInt64)) fun (v1 : Int64) => f_X10_ways_12 fu n l0 l1 v1 (l4 + (1 : Int32)) w))
theorem E_X10_ways_12 (fu : Nat) (n : Nat) (l0 : Int32) (l1 : Int32) (l2 : Int64) (l4 : Int32) (w : MEM) : f_X10_ways_12 fu (n + 1) l0 l1 l2 l4 w = if l1 < l4 then (some (l2, w)) else (if l4.toInt64 = 0 then none else (lt (((l2 * ((l0 - l1) + l4).toInt64) / l4.toInt64)) fun (v1 : Int64) => f_X10_ways_12 fu n l0 l1 v1 (l4 + (1 : Int32)) w)) := rfl
theorem w_X10_ways_12 {X : SCR} {d rc rs : Nat} {Q : PO → PH → Prop} {o : Int64} {w1 : MEM} {fu : Nat} (hd : 0 ≤ d) (hq : ∀ h1, WH X h1 w1 → Q (.inl (some (vL o))) h1) : ∀ (n : Nat) (l0 : Int32) (l1 : Int32) (l2 : Int64) (l4 : Int32) (w : MEM) (h : PH), WH X h w → f_X10_ways_12 fu n l0 l1 l2 l4 w = some (o, w1) → PW d M_X10_ways Q rc rs 12 [vI l0, vI l1, vL l2, vU, vI l4] [] h := by
  intro n
  induction n with
  | zero => intro l0 l1 l2 l4 w h wh  hF; cases hF
  | succ n ih =>
    intro l0 l1 l2 l4 w h wh  hF
    replace hF := (E_X10_ways_12 fu n l0 l1 l2 l4 w).symm.trans hF
    refine r_X10_ways_12 ?_
    refine ⟨fun c => ?_, fun c => ?_⟩
    · replace hF := if_ofT c hF
      obtain ⟨rfl, rfl⟩ := some_of hF
      exact hq _ wh
    · replace hF := if_ofF c hF
      obtain ⟨c, hF⟩ := nzL_of hF
      refine ⟨c, ?_⟩
      replace hF := lt_of hF
      exact ih _ _ _ _ _ _ wh  hF
def f_X10_ways (fu : Nat) (l0 : Int32) (l1 : Int32) (w : MEM) : Option (Int64 × MEM) := if l0 < l1 then (some ((0 : Int64), w)) else (f_X10_ways_12 fu fu l0 l1 (1 : Int64) (1 : Int32) w)
theorem E_X10_ways (fu : Nat) (l0 : Int32) (l1 : Int32) (w : MEM) : f_X10_ways fu l0 l1 w = if l0 < l1 then (some ((0 : Int64), w)) else (f_X10_ways_12 fu fu l0 l1 (1 : Int64) (1 : Int32) w) := rfl
theorem w_X10_ways {X : SCR} {d rc rs : Nat} {Q : PO → PH → Prop} {o : Int64} {w1 : MEM} {fu : Nat} (hd : 0 ≤ d) (hq : ∀ h1, WH X h1 w1 → Q (.inl (some (vL o))) h1) {l0 : Int32} {l1 : Int32} {w : MEM} {h : PH} (wh : WH X h w)  (hF : f_X10_ways fu l0 l1 w = some (o, w1)) : PW d M_X10_ways Q rc rs 0 [vI l0, vI l1, vU, vU, vU] [] h := by
  replace hF := (E_X10_ways fu l0 l1 w).symm.trans hF
  refine r_X10_ways_0 ?_
  refine ⟨fun c => ?_, fun c => ?_⟩
  · replace hF := if_ofT c hF
    obtain ⟨rfl, rfl⟩ := some_of hF
    exact hq _ wh
  · replace hF := if_ofF c hF
    exact w_X10_ways_12 hd hq  fu _ _ _ _ _ _ wh  hF
theorem c_X10_ways {X : SCR} {fu : Nat} {o : Int64} {w1 : MEM} {a0 : Int32} {a1 : Int32} {w : MEM} {h : PH} (wh : WH X h w)  (hF : f_X10_ways fu a0 a1 w = some (o, w1)) : CT 0 M_X10_ways [vI a0, vI a1] h 0 0 (QP X (.inl (some (vL o))) w1) :=
  CT_of mk_X10_ways (Nat.le_of_ble_eq_true rfl) rfl (w_X10_ways (fu := fu) (rc := 0) (rs := 0) (hd := Nat.le_refl 0) (hq := fun h1 g => ⟨rfl, g⟩) wh  hF)
-- X10_lots
def f_X10_lots (fu : Nat) (l0 : Nat) (l1 : Int32) (l2 : Int32) (l3 : Int32) (l4 : Int32) (w : MEM) : Option (Int32 × MEM) := lt (sS w (11000, l0) (0 : Int32)) fun (w1 : MEM) => bnd (f_X10_within fu l1 (1 : Int32) (20 : Int32) w1) fun (x3 : Int32) (w2 : MEM) => if x3 = 0 then (bnd (f_X10_may fu l0 (0 : Int32) (1 : Int32) (1 : Int32) w2) fun (x5 : Int32) (w4 : MEM) => if x5 = 0 then (some ((0 : Int32), w4)) else (bnd (f_X10_ways fu l1 l3 w4) fun (x7 : Int64) (w6 : MEM) => bnd (f_X10_ways fu (l1 - l2) l3 w6) fun (x9 : Int64) (w8 : MEM) => bnd (f_X10_least fu (x7 - x9) x7 l4 w8) fun (x11 : Int64) (w10 : MEM) => some (x11.toInt32, w10))) else (bnd (f_X10_within fu l2 (0 : Int32) l1 w2) fun (x13 : Int32) (w12 : MEM) => if x13 = 0 then (bnd (f_X10_may fu l0 (0 : Int32) (1 : Int32) (1 : Int32) w12) fun (x15 : Int32) (w14 : MEM) => if x15 = 0 then (some ((0 : Int32), w14)) else (bnd (f_X10_ways fu l1 l3 w14) fun (x17 : Int64) (w16 : MEM) => bnd (f_X10_ways fu (l1 - l2) l3 w16) fun (x19 : Int64) (w18 : MEM) => bnd (f_X10_least fu (x17 - x19) x17 l4 w18) fun (x21 : Int64) (w20 : MEM) => some (x21.toInt32, w20))) else (bnd (f_X10_within fu l3 (0 : Int32) l1 w12) fun (x23 : Int32) (w22 : MEM) => if x23 = 0 then (bnd (f_X10_may fu l0 (0 : Int32) (1 : Int32) (1 : Int32) w22) fun (x25 : Int32) (w24 : MEM) => if x25 = 0 then (some ((0 : Int32), w24)) else (bnd (f_X10_ways fu l1 l3 w24) fun (x27 : Int64) (w26 : MEM) => bnd (f_X10_ways fu (l1 - l2) l3 w26) fun (x29 : Int64) (w28 : MEM) => bnd (f_X10_least fu (x27 - x29) x27 l4 w28) fun (x31 : Int64) (w30 : MEM) => some (x31.toInt32, w30))) else (bnd (f_X10_within fu l4 (0 : Int32) (1 : Int32) w22) fun (x33 : Int32) (w32 : MEM) => if x33 = 0 then (bnd (f_X10_may fu l0 (0 : Int32) (1 : Int32) (1 : Int32) w32) fun (x35 : Int32) (w34 : MEM) => if x35 = 0 then (some ((0 : Int32), w34)) else (bnd (f_X10_ways fu l1 l3 w34) fun (x37 : Int64) (w36 : MEM) => bnd (f_X10_ways fu (l1 - l2) l3 w36) fun (x39 : Int64) (w38 : MEM) => bnd (f_X10_least fu (x37 - x39) x37 l4 w38) fun (x41 : Int64) (w40 : MEM) => some (x41.toInt32, w40))) else (bnd (f_X10_may fu l0 (1 : Int32) (1 : Int32) (1 : Int32) w32) fun (x43 : Int32) (w42 : MEM) => if x43 = 0 then (some ((0 : Int32), w42)) else (bnd (f_X10_ways fu l1 l3 w42) fun (x45 : Int64) (w44 : MEM) => bnd (f_X10_ways fu (l1 - l2) l3 w44) fun (x47 : Int64) (w46 : MEM) => bnd (f_X10_least fu (x45 - x47) x45 l4 w46) fun (x49 : Int64) (w48 : MEM) => some (x49.toInt32, w48))))))
theorem E_X10_lots (fu : Nat) (l0 : Nat) (l1 : Int32) (l2 : Int32) (l3 : Int32) (l4 : Int32) (w : MEM) : f_X10_lots fu l0 l1 l2 l3 l4 w = lt (sS w (11000, l0) (0 : Int32)) fun (w1 : MEM) => bnd (f_X10_within fu l1 (1 : Int32) (20 : Int32) w1) fun (x3 : Int32) (w2 : MEM) => if x3 = 0 then (bnd (f_X10_may fu l0 (0 : Int32) (1 : Int32) (1 : Int32) w2) fun (x5 : Int32) (w4 : MEM) => if x5 = 0 then (some ((0 : Int32), w4)) else (bnd (f_X10_ways fu l1 l3 w4) fun (x7 : Int64) (w6 : MEM) => bnd (f_X10_ways fu (l1 - l2) l3 w6) fun (x9 : Int64) (w8 : MEM) => bnd (f_X10_least fu (x7 - x9) x7 l4 w8) fun (x11 : Int64) (w10 : MEM) => some (x11.toInt32, w10))) else (bnd (f_X10_within fu l2 (0 : Int32) l1 w2) fun (x13 : Int32) (w12 : MEM) => if x13 = 0 then (bnd (f_X10_may fu l0 (0 : Int32) (1 : Int32) (1 : Int32) w12) fun (x15 : Int32) (w14 : MEM) => if x15 = 0 then (some ((0 : Int32), w14)) else (bnd (f_X10_ways fu l1 l3 w14) fun (x17 : Int64) (w16 : MEM) => bnd (f_X10_ways fu (l1 - l2) l3 w16) fun (x19 : Int64) (w18 : MEM) => bnd (f_X10_least fu (x17 - x19) x17 l4 w18) fun (x21 : Int64) (w20 : MEM) => some (x21.toInt32, w20))) else (bnd (f_X10_within fu l3 (0 : Int32) l1 w12) fun (x23 : Int32) (w22 : MEM) => if x23 = 0 then (bnd (f_X10_may fu l0 (0 : Int32) (1 : Int32) (1 : Int32) w22) fun (x25 : Int32) (w24 : MEM) => if x25 = 0 then (some ((0 : Int32), w24)) else (bnd (f_X10_ways fu l1 l3 w24) fun (x27 : Int64) (w26 : MEM) => bnd (f_X10_ways fu (l1 - l2) l3 w26) fun (x29 : Int64) (w28 : MEM) => bnd (f_X10_least fu (x27 - x29) x27 l4 w28) fun (x31 : Int64) (w30 : MEM) => some (x31.toInt32, w30))) else (bnd (f_X10_within fu l4 (0 : Int32) (1 : Int32) w22) fun (x33 : Int32) (w32 : MEM) => if x33 = 0 then (bnd (f_X10_may fu l0 (0 : Int32) (1 : Int32) (1 : Int32) w32) fun (x35 : Int32) (w34 : MEM) => if x35 = 0 then (some ((0 : Int32), w34)) else (bnd (f_X10_ways fu l1 l3 w34) fun (x37 : Int64) (w36 : MEM) => bnd (f_X10_ways fu (l1 - l2) l3 w36) fun (x39 : Int64) (w38 : MEM) => bnd (f_X10_least fu (x37 - x39) x37 l4 w38) fun (x41 : Int64) (w40 : MEM) => some (x41.toInt32, w40))) else (bnd (f_X10_may fu l0 (1 : Int32) (1 : Int32) (1 : Int32) w32) fun (x43 : Int32) (w42 : MEM) => if x43 = 0 then (some ((0 : Int32), w42)) else (bnd (f_X10_ways fu l1 l3 w42) fun (x45 : Int64) (w44 : MEM) => bnd (f_X10_ways fu (l1 - l2) l3 w44) fun (x47 : Int64) (w46 : MEM) => bnd (f_X10_least fu (x45 - x47) x45 l4 w46) fun (x49 : Int64) (w48 : MEM) => some (x49.toInt32, w48)))))) := rfl
theorem w_X10_lots {X : SCR} {d rc rs : Nat} {Q : PO → PH → Prop} {o : Int32} {w1 : MEM} {fu : Nat} (hd : 1 ≤ d) (hq : ∀ h1, WH X h1 w1 → Q (.inl (some (vI o))) h1) {l0 : Nat} {l1 : Int32} {l2 : Int32} {l3 : Int32} {l4 : Int32} {w : MEM} {h : PH} (wh : WH X h w) (hv_l0 : vo 10 l0 = true) (hF : f_X10_lots fu l0 l1 l2 l3 l4 w = some (o, w1)) : PW d M_X10_lots Q rc rs 0 [vR (1000, l0), vI l1, vI l2, vI l3, vI l4, vU, vU] [] h := by
  replace hF := (E_X10_lots fu l0 l1 l2 l3 l4 w).symm.trans hF
  refine r_X10_lots_0 ?_
  replace hF := lt_of hF
  refine sF_S wh rfl hv_l0 ?_
  clear wh
  intro h wh
  obtain ⟨x3, w2, hG, hF⟩ := bnd_of hF
  refine cl_I (D := 0) (Nat.le_trans (by decide) hd) (c_X10_within wh  hG) ?_
  clear hG
  clear wh
  intro h wh
  refine ⟨fun c => ?_, fun c => ?_⟩
  · replace hF := if_ofT c hF
    refine ⟨⟨_, wh.1 11000 _ rfl hv_l0⟩, ?_⟩
    obtain ⟨x5, w4, hG, hF⟩ := bnd_of hF
    refine cl_I (D := 0) (Nat.le_trans (by decide) hd) (c_X10_may wh hv_l0 hG) ?_
    clear hG
    clear wh
    intro h wh
    refine ⟨fun c => ?_, fun c => ?_⟩
    · replace hF := if_ofT c hF
      obtain ⟨rfl, rfl⟩ := some_of hF
      exact hq _ wh
    · replace hF := if_ofF c hF
      obtain ⟨x7, w6, hG, hF⟩ := bnd_of hF
      refine cl_J (D := 0) (Nat.le_trans (by decide) hd) (c_X10_ways wh  hG) ?_
      clear hG
      clear wh
      intro h wh
      obtain ⟨x9, w8, hG, hF⟩ := bnd_of hF
      refine cl_J (D := 0) (Nat.le_trans (by decide) hd) (c_X10_ways wh  hG) ?_
      clear hG
      clear wh
      intro h wh
      obtain ⟨x11, w10, hG, hF⟩ := bnd_of hF
      refine cl_J (D := 0) (Nat.le_trans (by decide) hd) (c_X10_least wh  hG) ?_
      clear hG
      clear wh
      intro h wh
      obtain ⟨rfl, rfl⟩ := some_of hF
      exact hq _ wh
  · replace hF := if_ofF c hF
    obtain ⟨x13, w12, hG, hF⟩ := bnd_of hF
    refine cl_I (D := 0) (Nat.le_trans (by decide) hd) (c_X10_within wh  hG) ?_
    clear hG
    clear wh
    intro h wh
    refine ⟨fun c => ?_, fun c => ?_⟩
    · replace hF := if_ofT c hF
      refine ⟨⟨_, wh.1 11000 _ rfl hv_l0⟩, ?_⟩
      obtain ⟨x15, w14, hG, hF⟩ := bnd_of hF
      refine cl_I (D := 0) (Nat.le_trans (by decide) hd) (c_X10_may wh hv_l0 hG) ?_
      clear hG
      clear wh
      intro h wh
      refine ⟨fun c => ?_, fun c => ?_⟩
      · replace hF := if_ofT c hF
        obtain ⟨rfl, rfl⟩ := some_of hF
        exact hq _ wh
      · replace hF := if_ofF c hF
        obtain ⟨x17, w16, hG, hF⟩ := bnd_of hF
        refine cl_J (D := 0) (Nat.le_trans (by decide) hd) (c_X10_ways wh  hG) ?_
        clear hG
        clear wh
        intro h wh
        obtain ⟨x19, w18, hG, hF⟩ := bnd_of hF
        refine cl_J (D := 0) (Nat.le_trans (by decide) hd) (c_X10_ways wh  hG) ?_
        clear hG
        clear wh
        intro h wh
        obtain ⟨x21, w20, hG, hF⟩ := bnd_of hF
        refine cl_J (D := 0) (Nat.le_trans (by decide) hd) (c_X10_least wh  hG) ?_
        clear hG
        clear wh
        intro h wh
        obtain ⟨rfl, rfl⟩ := some_of hF
        exact hq _ wh
    · replace hF := if_ofF c hF
      obtain ⟨x23, w22, hG, hF⟩ := bnd_of hF
      refine cl_I (D := 0) (Nat.le_trans (by decide) hd) (c_X10_within wh  hG) ?_
      clear hG
      clear wh
      intro h wh
      refine ⟨fun c => ?_, fun c => ?_⟩
      · replace hF := if_ofT c hF
        refine ⟨⟨_, wh.1 11000 _ rfl hv_l0⟩, ?_⟩
        obtain ⟨x25, w24, hG, hF⟩ := bnd_of hF
        refine cl_I (D := 0) (Nat.le_trans (by decide) hd) (c_X10_may wh hv_l0 hG) ?_
        clear hG
        clear wh
        intro h wh
        refine ⟨fun c => ?_, fun c => ?_⟩
        · replace hF := if_ofT c hF
          obtain ⟨rfl, rfl⟩ := some_of hF
          exact hq _ wh
        · replace hF := if_ofF c hF
          obtain ⟨x27, w26, hG, hF⟩ := bnd_of hF
          refine cl_J (D := 0) (Nat.le_trans (by decide) hd) (c_X10_ways wh  hG) ?_
          clear hG
          clear wh
          intro h wh
          obtain ⟨x29, w28, hG, hF⟩ := bnd_of hF
          refine cl_J (D := 0) (Nat.le_trans (by decide) hd) (c_X10_ways wh  hG) ?_
          clear hG
          clear wh
          intro h wh
          obtain ⟨x31, w30, hG, hF⟩ := bnd_of hF
          refine cl_J (D := 0) (Nat.le_trans (by decide) hd) (c_X10_least wh  hG) ?_
          clear hG
          clear wh
          intro h wh
          obtain ⟨rfl, rfl⟩ := some_of hF
          exact hq _ wh
      · replace hF := if_ofF c hF
        obtain ⟨x33, w32, hG, hF⟩ := bnd_of hF
        refine cl_I (D := 0) (Nat.le_trans (by decide) hd) (c_X10_within wh  hG) ?_
        clear hG
        clear wh
        intro h wh
        refine ⟨fun c => ?_, fun c => ?_⟩
        · replace hF := if_ofT c hF
          refine ⟨⟨_, wh.1 11000 _ rfl hv_l0⟩, ?_⟩
          obtain ⟨x35, w34, hG, hF⟩ := bnd_of hF
          refine cl_I (D := 0) (Nat.le_trans (by decide) hd) (c_X10_may wh hv_l0 hG) ?_
          clear hG
          clear wh
          intro h wh
          refine ⟨fun c => ?_, fun c => ?_⟩
          · replace hF := if_ofT c hF
            obtain ⟨rfl, rfl⟩ := some_of hF
            exact hq _ wh
          · replace hF := if_ofF c hF
            obtain ⟨x37, w36, hG, hF⟩ := bnd_of hF
            refine cl_J (D := 0) (Nat.le_trans (by decide) hd) (c_X10_ways wh  hG) ?_
            clear hG
            clear wh
            intro h wh
            obtain ⟨x39, w38, hG, hF⟩ := bnd_of hF
            refine cl_J (D := 0) (Nat.le_trans (by decide) hd) (c_X10_ways wh  hG) ?_
            clear hG
            clear wh
            intro h wh
            obtain ⟨x41, w40, hG, hF⟩ := bnd_of hF
            refine cl_J (D := 0) (Nat.le_trans (by decide) hd) (c_X10_least wh  hG) ?_
            clear hG
            clear wh
            intro h wh
            obtain ⟨rfl, rfl⟩ := some_of hF
            exact hq _ wh
        · replace hF := if_ofF c hF
          refine ⟨⟨_, wh.1 11000 _ rfl hv_l0⟩, ?_⟩
          obtain ⟨x43, w42, hG, hF⟩ := bnd_of hF
          refine cl_I (D := 0) (Nat.le_trans (by decide) hd) (c_X10_may wh hv_l0 hG) ?_
          clear hG
          clear wh
          intro h wh
          refine ⟨fun c => ?_, fun c => ?_⟩
          · replace hF := if_ofT c hF
            obtain ⟨rfl, rfl⟩ := some_of hF
            exact hq _ wh
          · replace hF := if_ofF c hF
            obtain ⟨x45, w44, hG, hF⟩ := bnd_of hF
            refine cl_J (D := 0) (Nat.le_trans (by decide) hd) (c_X10_ways wh  hG) ?_
            clear hG
            clear wh
            intro h wh
            obtain ⟨x47, w46, hG, hF⟩ := bnd_of hF
            refine cl_J (D := 0) (Nat.le_trans (by decide) hd) (c_X10_ways wh  hG) ?_
            clear hG
            clear wh
            intro h wh
            obtain ⟨x49, w48, hG, hF⟩ := bnd_of hF
            refine cl_J (D := 0) (Nat.le_trans (by decide) hd) (c_X10_least wh  hG) ?_
            clear hG
            clear wh
            intro h wh
            obtain ⟨rfl, rfl⟩ := some_of hF
            exact hq _ wh
theorem c_X10_lots {X : SCR} {fu : Nat} {o : Int32} {w1 : MEM} {a0 : Nat} {a1 : Int32} {a2 : Int32} {a3 : Int32} {a4 : Int32} {w : MEM} {h : PH} (wh : WH X h w) (h0 : vo 10 a0 = true) (hF : f_X10_lots fu a0 a1 a2 a3 a4 w = some (o, w1)) : CT 1 M_X10_lots [vR (1000, a0), vI a1, vI a2, vI a3, vI a4] h 0 0 (QP X (.inl (some (vI o))) w1) :=
  CT_of mk_X10_lots (Nat.le_of_ble_eq_true rfl) rfl (w_X10_lots (fu := fu) (rc := 0) (rs := 0) (hd := Nat.le_refl 1) (hq := fun h1 g => ⟨rfl, g⟩) wh h0 hF)
-- X10_hasBy
def f_X10_hasBy (fu : Nat) (l0 : Int32) (l1 : Int32) (l2 : Int32) (l3 : Int32) (w : MEM) : Option (Int32 × MEM) := if l0 = l1 then (if l0 = 0 then (some ((0 : Int32), w)) else (some (l2, w))) else (if l0 = 0 then (some (l3, w)) else (some ((-1 : Int32), w)))
theorem E_X10_hasBy (fu : Nat) (l0 : Int32) (l1 : Int32) (l2 : Int32) (l3 : Int32) (w : MEM) : f_X10_hasBy fu l0 l1 l2 l3 w = if l0 = l1 then (if l0 = 0 then (some ((0 : Int32), w)) else (some (l2, w))) else (if l0 = 0 then (some (l3, w)) else (some ((-1 : Int32), w))) := rfl
theorem w_X10_hasBy {X : SCR} {d rc rs : Nat} {Q : PO → PH → Prop} {o : Int32} {w1 : MEM} {fu : Nat} (hd : 0 ≤ d) (hq : ∀ h1, WH X h1 w1 → Q (.inl (some (vI o))) h1) {l0 : Int32} {l1 : Int32} {l2 : Int32} {l3 : Int32} {w : MEM} {h : PH} (wh : WH X h w)  (hF : f_X10_hasBy fu l0 l1 l2 l3 w = some (o, w1)) : PW d M_X10_hasBy Q rc rs 0 [vI l0, vI l1, vI l2, vI l3] [] h := by
  replace hF := (E_X10_hasBy fu l0 l1 l2 l3 w).symm.trans hF
  refine r_X10_hasBy_0 ?_
  refine ⟨fun c => ?_, fun c => ?_⟩
  · replace hF := if_ofT c hF
    refine ⟨fun c => ?_, fun c => ?_⟩
    · replace hF := if_ofT c hF
      obtain ⟨rfl, rfl⟩ := some_of hF
      exact hq _ wh
    · replace hF := if_ofF c hF
      obtain ⟨rfl, rfl⟩ := some_of hF
      exact hq _ wh
  · replace hF := if_ofF c hF
    refine ⟨fun c => ?_, fun c => ?_⟩
    · replace hF := if_ofT c hF
      obtain ⟨rfl, rfl⟩ := some_of hF
      exact hq _ wh
    · replace hF := if_ofF c hF
      obtain ⟨rfl, rfl⟩ := some_of hF
      exact hq _ wh
theorem c_X10_hasBy {X : SCR} {fu : Nat} {o : Int32} {w1 : MEM} {a0 : Int32} {a1 : Int32} {a2 : Int32} {a3 : Int32} {w : MEM} {h : PH} (wh : WH X h w)  (hF : f_X10_hasBy fu a0 a1 a2 a3 w = some (o, w1)) : CT 0 M_X10_hasBy [vI a0, vI a1, vI a2, vI a3] h 0 0 (QP X (.inl (some (vI o))) w1) :=
  CT_of mk_X10_hasBy (Nat.le_of_ble_eq_true rfl) rfl (w_X10_hasBy (fu := fu) (rc := 0) (rs := 0) (hd := Nat.le_refl 0) (hq := fun h1 g => ⟨rfl, g⟩) wh  hF)
-- X10_regents
def f_X10_regents_59 (fu : Nat) : Nat → Int32 → Int32 → Int32 → Int32 → Int32 → Int32 → MEM → Option (Int32 × MEM)
  | 0, _, _, _, _, _, _, _ => none
  | n + 1, l1, l2, l3, l4, l5, l6, w => if l6 < (4 : Int32) then (if (2 : Int32) = 0 then none else (lt ((l6 / (2 : Int32))) fun (v5 : Int32) => if (2 : Int32) = 0 then none else (lt ((l6 - l6 / (2 : Int32) * (2 : Int32))) fun (v6 : Int32) => bnd (f_X10_hasBy fu ((1 : Int32) - v5) v6 l1 l2 w) fun (x8 : Int32) (w7 : MEM) => bnd (f_X10_hasBy fu v5 v6 l1 l2 w7) fun (x10 : Int32) (w9 : MEM) => if x10 < x8 then (f_X10_regents_59 fu n l1 l2 l3 l4 l5 (l6 + (1 : Int32)) w9) else (bnd (f_X10_hasBy fu ((1 : Int32) - v6) v5 l1 l2 w9) fun (x12 : Int32) (w11 : MEM) => bnd (f_X10_hasBy fu v6 v5 l1 l2 w11) fun (x14 : Int32) (w13 : MEM) => if x14 < x12 then (f_X10_regents_59 fu n l1 l2 l3 l4 l5 (l6 + (1 : Int32)) w13) else (if l5 = (-1 : Int32) then (lt ((((10 : Int32) * v5) + v6)) fun (v15 : Int32) => f_X10_regents_59 fu n l1 l2 l3 (l4 + (1 : Int32)) v15 (l6 + (1 : Int32)) w13) else (f_X10_regents_59 fu n l1 l2 l3 (l4 + (1 : Int32)) l5 (l6 + (1 : Int32)) w13)))))) else (if l3 = 0 then (some (l4, w)) else (if l3 = (1 : Int32) then (some (l5, w)) else (if l5 = (-1 : Int32) then (some ((0 : Int32), w)) else (if (10 : Int32) = 0 then none else (if (10 : Int32) = 0 then none else (bnd (f_X10_hasBy fu (l5 / (10 : Int32)) (l5 - l5 / (10 : Int32) * (10 : Int32)) l1 l2 w) fun (x2 : Int32) (w1 : MEM) => if (10 : Int32) = 0 then none else (if (10 : Int32) = 0 then none else (bnd (f_X10_hasBy fu (l5 - l5 / (10 : Int32) * (10 : Int32)) (l5 / (10 : Int32)) l1 l2 w1) fun (x4 : Int32) (w3 : MEM) => some ((x2 + x4), w3)))))))))
theorem E_X10_regents_59 (fu : Nat) (n : Nat) (l1 : Int32) (l2 : Int32) (l3 : Int32) (l4 : Int32) (l5 : Int32) (l6 : Int32) (w : MEM) : f_X10_regents_59 fu (n + 1) l1 l2 l3 l4 l5 l6 w = if l6 < (4 : Int32) then (if (2 : Int32) = 0 then none else (lt ((l6 / (2 : Int32))) fun (v5 : Int32) => if (2 : Int32) = 0 then none else (lt ((l6 - l6 / (2 : Int32) * (2 : Int32))) fun (v6 : Int32) => bnd (f_X10_hasBy fu ((1 : Int32) - v5) v6 l1 l2 w) fun (x8 : Int32) (w7 : MEM) => bnd (f_X10_hasBy fu v5 v6 l1 l2 w7) fun (x10 : Int32) (w9 : MEM) => if x10 < x8 then (f_X10_regents_59 fu n l1 l2 l3 l4 l5 (l6 + (1 : Int32)) w9) else (bnd (f_X10_hasBy fu ((1 : Int32) - v6) v5 l1 l2 w9) fun (x12 : Int32) (w11 : MEM) => bnd (f_X10_hasBy fu v6 v5 l1 l2 w11) fun (x14 : Int32) (w13 : MEM) => if x14 < x12 then (f_X10_regents_59 fu n l1 l2 l3 l4 l5 (l6 + (1 : Int32)) w13) else (if l5 = (-1 : Int32) then (lt ((((10 : Int32) * v5) + v6)) fun (v15 : Int32) => f_X10_regents_59 fu n l1 l2 l3 (l4 + (1 : Int32)) v15 (l6 + (1 : Int32)) w13) else (f_X10_regents_59 fu n l1 l2 l3 (l4 + (1 : Int32)) l5 (l6 + (1 : Int32)) w13)))))) else (if l3 = 0 then (some (l4, w)) else (if l3 = (1 : Int32) then (some (l5, w)) else (if l5 = (-1 : Int32) then (some ((0 : Int32), w)) else (if (10 : Int32) = 0 then none else (if (10 : Int32) = 0 then none else (bnd (f_X10_hasBy fu (l5 / (10 : Int32)) (l5 - l5 / (10 : Int32) * (10 : Int32)) l1 l2 w) fun (x2 : Int32) (w1 : MEM) => if (10 : Int32) = 0 then none else (if (10 : Int32) = 0 then none else (bnd (f_X10_hasBy fu (l5 - l5 / (10 : Int32) * (10 : Int32)) (l5 / (10 : Int32)) l1 l2 w1) fun (x4 : Int32) (w3 : MEM) => some ((x2 + x4), w3))))))))) := rfl
theorem w_X10_regents_59 {X : SCR} {d rc rs : Nat} {Q : PO → PH → Prop} {o : Int32} {w1 : MEM} {fu : Nat} (hd : 1 ≤ d) (hq : ∀ h1, WH X h1 w1 → Q (.inl (some (vI o))) h1) : ∀ (n : Nat) (l1 : Int32) (l2 : Int32) (l3 : Int32) (l4 : Int32) (l5 : Int32) (l6 : Int32) (w : MEM) (h : PH), WH X h w → f_X10_regents_59 fu n l1 l2 l3 l4 l5 l6 w = some (o, w1) → PW d M_X10_regents Q rc rs 59 [vU, vI l1, vI l2, vI l3, vI l4, vI l5, vI l6, vU, vU] [] h := by
  intro n
  induction n with
  | zero => intro l1 l2 l3 l4 l5 l6 w h wh  hF; cases hF
  | succ n ih =>
    intro l1 l2 l3 l4 l5 l6 w h wh  hF
    replace hF := (E_X10_regents_59 fu n l1 l2 l3 l4 l5 l6 w).symm.trans hF
    refine r_X10_regents_59 ?_
    refine ⟨fun c => ?_, fun c => ?_⟩
    · replace hF := if_ofT c hF
      obtain ⟨c, hF⟩ := nzF_of hF
      refine ⟨c, ?_⟩
      replace hF := lt_of hF
      obtain ⟨c, hF⟩ := nzF_of hF
      refine ⟨c, ?_⟩
      replace hF := lt_of hF
      obtain ⟨x8, w7, hG, hF⟩ := bnd_of hF
      refine cl_I (D := 0) (Nat.le_trans (by decide) hd) (c_X10_hasBy wh  hG) ?_
      clear hG
      clear wh
      intro h wh
      obtain ⟨x10, w9, hG, hF⟩ := bnd_of hF
      refine cl_I (D := 0) (Nat.le_trans (by decide) hd) (c_X10_hasBy wh  hG) ?_
      clear hG
      clear wh
      intro h wh
      refine ⟨fun c => ?_, fun c => ?_⟩
      · replace hF := if_ofT c hF
        exact ih _ _ _ _ _ _ _ _ wh  hF
      · replace hF := if_ofF c hF
        obtain ⟨x12, w11, hG, hF⟩ := bnd_of hF
        refine cl_I (D := 0) (Nat.le_trans (by decide) hd) (c_X10_hasBy wh  hG) ?_
        clear hG
        clear wh
        intro h wh
        obtain ⟨x14, w13, hG, hF⟩ := bnd_of hF
        refine cl_I (D := 0) (Nat.le_trans (by decide) hd) (c_X10_hasBy wh  hG) ?_
        clear hG
        clear wh
        intro h wh
        refine ⟨fun c => ?_, fun c => ?_⟩
        · replace hF := if_ofT c hF
          exact ih _ _ _ _ _ _ _ _ wh  hF
        · replace hF := if_ofF c hF
          refine ⟨fun c => ?_, fun c => ?_⟩
          · replace hF := if_ofT c hF
            replace hF := lt_of hF
            exact ih _ _ _ _ _ _ _ _ wh  hF
          · replace hF := if_ofF c hF
            exact ih _ _ _ _ _ _ _ _ wh  hF
    · replace hF := if_ofF c hF
      refine ⟨fun c => ?_, fun c => ?_⟩
      · replace hF := if_ofT c hF
        obtain ⟨rfl, rfl⟩ := some_of hF
        exact hq _ wh
      · replace hF := if_ofF c hF
        refine ⟨fun c => ?_, fun c => ?_⟩
        · replace hF := if_ofT c hF
          obtain ⟨rfl, rfl⟩ := some_of hF
          exact hq _ wh
        · replace hF := if_ofF c hF
          refine ⟨fun c => ?_, fun c => ?_⟩
          · replace hF := if_ofT c hF
            obtain ⟨rfl, rfl⟩ := some_of hF
            exact hq _ wh
          · replace hF := if_ofF c hF
            obtain ⟨c, hF⟩ := nzF_of hF
            refine ⟨c, ?_⟩
            obtain ⟨c, hF⟩ := nzF_of hF
            refine ⟨c, ?_⟩
            obtain ⟨x2, w1, hG, hF⟩ := bnd_of hF
            refine cl_I (D := 0) (Nat.le_trans (by decide) hd) (c_X10_hasBy wh  hG) ?_
            clear hG
            clear wh
            intro h wh
            obtain ⟨c, hF⟩ := nzF_of hF
            refine ⟨c, ?_⟩
            obtain ⟨c, hF⟩ := nzF_of hF
            refine ⟨c, ?_⟩
            obtain ⟨x4, w3, hG, hF⟩ := bnd_of hF
            refine cl_I (D := 0) (Nat.le_trans (by decide) hd) (c_X10_hasBy wh  hG) ?_
            clear hG
            clear wh
            intro h wh
            obtain ⟨rfl, rfl⟩ := some_of hF
            exact hq _ wh
def f_X10_regents (fu : Nat) (l0 : Nat) (l1 : Int32) (l2 : Int32) (l3 : Int32) (w : MEM) : Option (Int32 × MEM) := lt (sS w (11000, l0) (0 : Int32)) fun (w1 : MEM) => bnd (f_X10_within fu l1 (0 : Int32) (99 : Int32) w1) fun (x3 : Int32) (w2 : MEM) => if x3 = 0 then (bnd (f_X10_may fu l0 (0 : Int32) (1 : Int32) (1 : Int32) w2) fun (x5 : Int32) (w4 : MEM) => if x5 = 0 then (some ((0 : Int32), w4)) else (f_X10_regents_59 fu fu l1 l2 l3 (0 : Int32) (-1 : Int32) (0 : Int32) w4)) else (bnd (f_X10_within fu l2 (0 : Int32) (99 : Int32) w2) fun (x7 : Int32) (w6 : MEM) => if x7 = 0 then (bnd (f_X10_may fu l0 (0 : Int32) (1 : Int32) (1 : Int32) w6) fun (x9 : Int32) (w8 : MEM) => if x9 = 0 then (some ((0 : Int32), w8)) else (f_X10_regents_59 fu fu l1 l2 l3 (0 : Int32) (-1 : Int32) (0 : Int32) w8)) else (bnd (f_X10_within fu l3 (0 : Int32) (2 : Int32) w6) fun (x11 : Int32) (w10 : MEM) => if x11 = 0 then (bnd (f_X10_may fu l0 (0 : Int32) (1 : Int32) (1 : Int32) w10) fun (x13 : Int32) (w12 : MEM) => if x13 = 0 then (some ((0 : Int32), w12)) else (f_X10_regents_59 fu fu l1 l2 l3 (0 : Int32) (-1 : Int32) (0 : Int32) w12)) else (bnd (f_X10_may fu l0 (1 : Int32) (1 : Int32) (1 : Int32) w10) fun (x15 : Int32) (w14 : MEM) => if x15 = 0 then (some ((0 : Int32), w14)) else (f_X10_regents_59 fu fu l1 l2 l3 (0 : Int32) (-1 : Int32) (0 : Int32) w14))))
theorem E_X10_regents (fu : Nat) (l0 : Nat) (l1 : Int32) (l2 : Int32) (l3 : Int32) (w : MEM) : f_X10_regents fu l0 l1 l2 l3 w = lt (sS w (11000, l0) (0 : Int32)) fun (w1 : MEM) => bnd (f_X10_within fu l1 (0 : Int32) (99 : Int32) w1) fun (x3 : Int32) (w2 : MEM) => if x3 = 0 then (bnd (f_X10_may fu l0 (0 : Int32) (1 : Int32) (1 : Int32) w2) fun (x5 : Int32) (w4 : MEM) => if x5 = 0 then (some ((0 : Int32), w4)) else (f_X10_regents_59 fu fu l1 l2 l3 (0 : Int32) (-1 : Int32) (0 : Int32) w4)) else (bnd (f_X10_within fu l2 (0 : Int32) (99 : Int32) w2) fun (x7 : Int32) (w6 : MEM) => if x7 = 0 then (bnd (f_X10_may fu l0 (0 : Int32) (1 : Int32) (1 : Int32) w6) fun (x9 : Int32) (w8 : MEM) => if x9 = 0 then (some ((0 : Int32), w8)) else (f_X10_regents_59 fu fu l1 l2 l3 (0 : Int32) (-1 : Int32) (0 : Int32) w8)) else (bnd (f_X10_within fu l3 (0 : Int32) (2 : Int32) w6) fun (x11 : Int32) (w10 : MEM) => if x11 = 0 then (bnd (f_X10_may fu l0 (0 : Int32) (1 : Int32) (1 : Int32) w10) fun (x13 : Int32) (w12 : MEM) => if x13 = 0 then (some ((0 : Int32), w12)) else (f_X10_regents_59 fu fu l1 l2 l3 (0 : Int32) (-1 : Int32) (0 : Int32) w12)) else (bnd (f_X10_may fu l0 (1 : Int32) (1 : Int32) (1 : Int32) w10) fun (x15 : Int32) (w14 : MEM) => if x15 = 0 then (some ((0 : Int32), w14)) else (f_X10_regents_59 fu fu l1 l2 l3 (0 : Int32) (-1 : Int32) (0 : Int32) w14)))) := rfl
theorem w_X10_regents {X : SCR} {d rc rs : Nat} {Q : PO → PH → Prop} {o : Int32} {w1 : MEM} {fu : Nat} (hd : 1 ≤ d) (hq : ∀ h1, WH X h1 w1 → Q (.inl (some (vI o))) h1) {l0 : Nat} {l1 : Int32} {l2 : Int32} {l3 : Int32} {w : MEM} {h : PH} (wh : WH X h w) (hv_l0 : vo 10 l0 = true) (hF : f_X10_regents fu l0 l1 l2 l3 w = some (o, w1)) : PW d M_X10_regents Q rc rs 0 [vR (1000, l0), vI l1, vI l2, vI l3, vU, vU, vU, vU, vU] [] h := by
  replace hF := (E_X10_regents fu l0 l1 l2 l3 w).symm.trans hF
  refine r_X10_regents_0 ?_
  replace hF := lt_of hF
  refine sF_S wh rfl hv_l0 ?_
  clear wh
  intro h wh
  obtain ⟨x3, w2, hG, hF⟩ := bnd_of hF
  refine cl_I (D := 0) (Nat.le_trans (by decide) hd) (c_X10_within wh  hG) ?_
  clear hG
  clear wh
  intro h wh
  refine ⟨fun c => ?_, fun c => ?_⟩
  · replace hF := if_ofT c hF
    refine ⟨⟨_, wh.1 11000 _ rfl hv_l0⟩, ?_⟩
    obtain ⟨x5, w4, hG, hF⟩ := bnd_of hF
    refine cl_I (D := 0) (Nat.le_trans (by decide) hd) (c_X10_may wh hv_l0 hG) ?_
    clear hG
    clear wh
    intro h wh
    refine ⟨fun c => ?_, fun c => ?_⟩
    · replace hF := if_ofT c hF
      obtain ⟨rfl, rfl⟩ := some_of hF
      exact hq _ wh
    · replace hF := if_ofF c hF
      exact w_X10_regents_59 hd hq  fu _ _ _ _ _ _ _ _ wh  hF
  · replace hF := if_ofF c hF
    obtain ⟨x7, w6, hG, hF⟩ := bnd_of hF
    refine cl_I (D := 0) (Nat.le_trans (by decide) hd) (c_X10_within wh  hG) ?_
    clear hG
    clear wh
    intro h wh
    refine ⟨fun c => ?_, fun c => ?_⟩
    · replace hF := if_ofT c hF
      refine ⟨⟨_, wh.1 11000 _ rfl hv_l0⟩, ?_⟩
      obtain ⟨x9, w8, hG, hF⟩ := bnd_of hF
      refine cl_I (D := 0) (Nat.le_trans (by decide) hd) (c_X10_may wh hv_l0 hG) ?_
      clear hG
      clear wh
      intro h wh
      refine ⟨fun c => ?_, fun c => ?_⟩
      · replace hF := if_ofT c hF
        obtain ⟨rfl, rfl⟩ := some_of hF
        exact hq _ wh
      · replace hF := if_ofF c hF
        exact w_X10_regents_59 hd hq  fu _ _ _ _ _ _ _ _ wh  hF
    · replace hF := if_ofF c hF
      obtain ⟨x11, w10, hG, hF⟩ := bnd_of hF
      refine cl_I (D := 0) (Nat.le_trans (by decide) hd) (c_X10_within wh  hG) ?_
      clear hG
      clear wh
      intro h wh
      refine ⟨fun c => ?_, fun c => ?_⟩
      · replace hF := if_ofT c hF
        refine ⟨⟨_, wh.1 11000 _ rfl hv_l0⟩, ?_⟩
        obtain ⟨x13, w12, hG, hF⟩ := bnd_of hF
        refine cl_I (D := 0) (Nat.le_trans (by decide) hd) (c_X10_may wh hv_l0 hG) ?_
        clear hG
        clear wh
        intro h wh
        refine ⟨fun c => ?_, fun c => ?_⟩
        · replace hF := if_ofT c hF
          obtain ⟨rfl, rfl⟩ := some_of hF
          exact hq _ wh
        · replace hF := if_ofF c hF
          exact w_X10_regents_59 hd hq  fu _ _ _ _ _ _ _ _ wh  hF
      · replace hF := if_ofF c hF
        refine ⟨⟨_, wh.1 11000 _ rfl hv_l0⟩, ?_⟩
        obtain ⟨x15, w14, hG, hF⟩ := bnd_of hF
        refine cl_I (D := 0) (Nat.le_trans (by decide) hd) (c_X10_may wh hv_l0 hG) ?_
        clear hG
        clear wh
        intro h wh
        refine ⟨fun c => ?_, fun c => ?_⟩
        · replace hF := if_ofT c hF
          obtain ⟨rfl, rfl⟩ := some_of hF
          exact hq _ wh
        · replace hF := if_ofF c hF
          exact w_X10_regents_59 hd hq  fu _ _ _ _ _ _ _ _ wh  hF
theorem c_X10_regents {X : SCR} {fu : Nat} {o : Int32} {w1 : MEM} {a0 : Nat} {a1 : Int32} {a2 : Int32} {a3 : Int32} {w : MEM} {h : PH} (wh : WH X h w) (h0 : vo 10 a0 = true) (hF : f_X10_regents fu a0 a1 a2 a3 w = some (o, w1)) : CT 1 M_X10_regents [vR (1000, a0), vI a1, vI a2, vI a3] h 0 0 (QP X (.inl (some (vI o))) w1) :=
  CT_of mk_X10_regents (Nat.le_of_ble_eq_true rfl) rfl (w_X10_regents (fu := fu) (rc := 0) (rs := 0) (hd := Nat.le_refl 1) (hq := fun h1 g => ⟨rfl, g⟩) wh h0 hF)
-- X10_mossBy
def f_X10_mossBy_5 (fu : Nat) : Nat → Nat → Int32 → Int32 → Int32 → Int32 → MEM → Option (Int32 × MEM)
  | 0, _, _, _, _, _, _ => none
  | n + 1, l0, l1, l2, l3, l4, w => if l4 < (rS w (11022, l0)) then (ck (bI l4 7) (if (rA w (1007, l0) l4) < l2 then (ck (bI l4 7) (lt ((l3 + (((l1 >>> (l4 &&& 31)) &&& (1 : Int32)) * (rA w (1007, l0) l4)))) fun (v2 : Int32) => f_X10_mossBy_5 fu n l0 l1 l2 v2 (l4 + (1 : Int32)) w)) else (lt ((l3 + (((l1 >>> (l4 &&& 31)) &&& (1 : Int32)) * l2))) fun (v1 : Int32) => f_X10_mossBy_5 fu n l0 l1 l2 v1 (l4 + (1 : Int32)) w))) else (some (l3, w))
theorem E_X10_mossBy_5 (fu : Nat) (n : Nat) (l0 : Nat) (l1 : Int32) (l2 : Int32) (l3 : Int32) (l4 : Int32) (w : MEM) : f_X10_mossBy_5 fu (n + 1) l0 l1 l2 l3 l4 w = if l4 < (rS w (11022, l0)) then (ck (bI l4 7) (if (rA w (1007, l0) l4) < l2 then (ck (bI l4 7) (lt ((l3 + (((l1 >>> (l4 &&& 31)) &&& (1 : Int32)) * (rA w (1007, l0) l4)))) fun (v2 : Int32) => f_X10_mossBy_5 fu n l0 l1 l2 v2 (l4 + (1 : Int32)) w)) else (lt ((l3 + (((l1 >>> (l4 &&& 31)) &&& (1 : Int32)) * l2))) fun (v1 : Int32) => f_X10_mossBy_5 fu n l0 l1 l2 v1 (l4 + (1 : Int32)) w))) else (some (l3, w)) := rfl
theorem w_X10_mossBy_5 {X : SCR} {d rc rs : Nat} {Q : PO → PH → Prop} {o : Int32} {w1 : MEM} {fu : Nat} (hd : 0 ≤ d) (hq : ∀ h1, WH X h1 w1 → Q (.inl (some (vI o))) h1) : ∀ (n : Nat) (l0 : Nat) (l1 : Int32) (l2 : Int32) (l3 : Int32) (l4 : Int32) (w : MEM) (h : PH), WH X h w → vo 10 l0 = true → f_X10_mossBy_5 fu n l0 l1 l2 l3 l4 w = some (o, w1) → PW d M_X10_mossBy Q rc rs 5 [vR (1000, l0), vI l1, vI l2, vI l3, vI l4] [] h := by
  intro n
  induction n with
  | zero => intro l0 l1 l2 l3 l4 w h wh hv_l0 hF; cases hF
  | succ n ih =>
    intro l0 l1 l2 l3 l4 w h wh hv_l0 hF
    replace hF := (E_X10_mossBy_5 fu n l0 l1 l2 l3 l4 w).symm.trans hF
    refine r_X10_mossBy_5 ?_
    refine gI_of (wh.1 11022 _ rfl hv_l0) ?_
    refine ⟨fun c => ?_, fun c => ?_⟩
    · replace hF := if_ofT c hF
      refine gA_of (b := (1007, l0)) (wh.2.1 11014 _ rfl hv_l0) ?_
      obtain ⟨c, hF⟩ := ck_of hF
      refine xI_of wh (oA_1007 hv_l0) c ?_
      clear c
      refine ⟨fun c => ?_, fun c => ?_⟩
      · replace hF := if_ofT c hF
        refine gA_of (b := (1007, l0)) (wh.2.1 11014 _ rfl hv_l0) ?_
        obtain ⟨c, hF⟩ := ck_of hF
        refine xI_of wh (oA_1007 hv_l0) c ?_
        clear c
        replace hF := lt_of hF
        exact ih _ _ _ _ _ _ _ wh hv_l0 hF
      · replace hF := if_ofF c hF
        replace hF := lt_of hF
        exact ih _ _ _ _ _ _ _ wh hv_l0 hF
    · replace hF := if_ofF c hF
      obtain ⟨rfl, rfl⟩ := some_of hF
      exact hq _ wh
def f_X10_mossBy (fu : Nat) (l0 : Nat) (l1 : Int32) (l2 : Int32) (w : MEM) : Option (Int32 × MEM) := f_X10_mossBy_5 fu fu l0 l1 l2 (0 : Int32) (0 : Int32) w
theorem E_X10_mossBy (fu : Nat) (l0 : Nat) (l1 : Int32) (l2 : Int32) (w : MEM) : f_X10_mossBy fu l0 l1 l2 w = f_X10_mossBy_5 fu fu l0 l1 l2 (0 : Int32) (0 : Int32) w := rfl
theorem w_X10_mossBy {X : SCR} {d rc rs : Nat} {Q : PO → PH → Prop} {o : Int32} {w1 : MEM} {fu : Nat} (hd : 0 ≤ d) (hq : ∀ h1, WH X h1 w1 → Q (.inl (some (vI o))) h1) {l0 : Nat} {l1 : Int32} {l2 : Int32} {w : MEM} {h : PH} (wh : WH X h w) (hv_l0 : vo 10 l0 = true) (hF : f_X10_mossBy fu l0 l1 l2 w = some (o, w1)) : PW d M_X10_mossBy Q rc rs 0 [vR (1000, l0), vI l1, vI l2, vU, vU] [] h := by
  replace hF := (E_X10_mossBy fu l0 l1 l2 w).symm.trans hF
  refine r_X10_mossBy_0 ?_
  exact w_X10_mossBy_5 hd hq  fu _ _ _ _ _ _ _ wh hv_l0 hF
theorem c_X10_mossBy {X : SCR} {fu : Nat} {o : Int32} {w1 : MEM} {a0 : Nat} {a1 : Int32} {a2 : Int32} {w : MEM} {h : PH} (wh : WH X h w) (h0 : vo 10 a0 = true) (hF : f_X10_mossBy fu a0 a1 a2 w = some (o, w1)) : CT 0 M_X10_mossBy [vR (1000, a0), vI a1, vI a2] h 0 0 (QP X (.inl (some (vI o))) w1) :=
  CT_of mk_X10_mossBy (Nat.le_of_ble_eq_true rfl) rfl (w_X10_mossBy (fu := fu) (rc := 0) (rs := 0) (hd := Nat.le_refl 0) (hq := fun h1 g => ⟨rfl, g⟩) wh h0 hF)
-- X10_moss
def f_X10_moss_58 (fu : Nat) : Nat → Nat → Int32 → Int32 → Int32 → Int32 → MEM → Option (Int32 × MEM)
  | 0, _, _, _, _, _, _ => none
  | n + 1, l0, l1, l2, l3, l4, w => bnd (f_X10_mossBy fu l0 l2 l4 w) fun (x2 : Int32) (w1 : MEM) => if l3 < x2 then (f_X10_moss_58 fu n l0 l1 l2 l3 (l4 + (-1 : Int32)) w1) else (if ((l2 >>> (l1 &&& 31)) &&& (1 : Int32)) = 0 then (some ((0 : Int32), w1)) else (ck (bI l1 7) (if (rA w1 (1007, l0) l1) < l4 then (ck (bI l1 7) (some ((rA w1 (1007, l0) l1), w1))) else (some (l4, w1)))))
theorem E_X10_moss_58 (fu : Nat) (n : Nat) (l0 : Nat) (l1 : Int32) (l2 : Int32) (l3 : Int32) (l4 : Int32) (w : MEM) : f_X10_moss_58 fu (n + 1) l0 l1 l2 l3 l4 w = bnd (f_X10_mossBy fu l0 l2 l4 w) fun (x2 : Int32) (w1 : MEM) => if l3 < x2 then (f_X10_moss_58 fu n l0 l1 l2 l3 (l4 + (-1 : Int32)) w1) else (if ((l2 >>> (l1 &&& 31)) &&& (1 : Int32)) = 0 then (some ((0 : Int32), w1)) else (ck (bI l1 7) (if (rA w1 (1007, l0) l1) < l4 then (ck (bI l1 7) (some ((rA w1 (1007, l0) l1), w1))) else (some (l4, w1))))) := rfl
theorem w_X10_moss_58 {X : SCR} {d rc rs : Nat} {Q : PO → PH → Prop} {o : Int32} {w1 : MEM} {fu : Nat} (hd : 2 ≤ d) (hq : ∀ h1, WH X h1 w1 → Q (.inl (some (vI o))) h1) : ∀ (n : Nat) (l0 : Nat) (l1 : Int32) (l2 : Int32) (l3 : Int32) (l4 : Int32) (w : MEM) (h : PH), WH X h w → vo 10 l0 = true → f_X10_moss_58 fu n l0 l1 l2 l3 l4 w = some (o, w1) → PW d M_X10_moss Q rc rs 58 [vR (1000, l0), vI l1, vI l2, vI l3, vI l4] [] h := by
  intro n
  induction n with
  | zero => intro l0 l1 l2 l3 l4 w h wh hv_l0 hF; cases hF
  | succ n ih =>
    intro l0 l1 l2 l3 l4 w h wh hv_l0 hF
    replace hF := (E_X10_moss_58 fu n l0 l1 l2 l3 l4 w).symm.trans hF
    refine r_X10_moss_58 ?_
    refine ⟨⟨_, wh.1 11000 _ rfl hv_l0⟩, ?_⟩
    obtain ⟨x2, w1, hG, hF⟩ := bnd_of hF
    refine cl_I (D := 0) (Nat.le_trans (by decide) hd) (c_X10_mossBy wh hv_l0 hG) ?_
    clear hG
    clear wh
    intro h wh
    refine ⟨fun c => ?_, fun c => ?_⟩
    · replace hF := if_ofT c hF
      exact ih _ _ _ _ _ _ _ wh hv_l0 hF
    · replace hF := if_ofF c hF
      refine ⟨fun c => ?_, fun c => ?_⟩
      · replace hF := if_ofT c hF
        obtain ⟨rfl, rfl⟩ := some_of hF
        exact hq _ wh
      · replace hF := if_ofF c hF
        refine gA_of (b := (1007, l0)) (wh.2.1 11014 _ rfl hv_l0) ?_
        obtain ⟨c, hF⟩ := ck_of hF
        refine xI_of wh (oA_1007 hv_l0) c ?_
        clear c
        refine ⟨fun c => ?_, fun c => ?_⟩
        · replace hF := if_ofT c hF
          refine gA_of (b := (1007, l0)) (wh.2.1 11014 _ rfl hv_l0) ?_
          obtain ⟨c, hF⟩ := ck_of hF
          refine xI_of wh (oA_1007 hv_l0) c ?_
          clear c
          obtain ⟨rfl, rfl⟩ := some_of hF
          exact hq _ wh
        · replace hF := if_ofF c hF
          obtain ⟨rfl, rfl⟩ := some_of hF
          exact hq _ wh
def f_X10_moss (fu : Nat) (l0 : Nat) (l1 : Int32) (l2 : Int32) (l3 : Int32) (w : MEM) : Option (Int32 × MEM) := lt (sS w (11000, l0) (0 : Int32)) fun (w1 : MEM) => bnd (f_X10_isHeir fu l0 l1 (1 : Int32) w1) fun (x3 : Int32) (w2 : MEM) => if x3 = 0 then (some ((0 : Int32), w2)) else (if l2 < 0 then (bnd (f_X10_may fu l0 (0 : Int32) (2 : Int32) (1 : Int32) w2) fun (x5 : Int32) (w4 : MEM) => if x5 = 0 then (some ((0 : Int32), w4)) else (f_X10_moss_58 fu fu l0 l1 l2 l3 (9 : Int32) w4)) else (if l2 < ((1 : Int32) <<< ((rS w2 (11022, l0)) &&& 31)) then (bnd (f_X10_within fu l3 (0 : Int32) (99 : Int32) w2) fun (x9 : Int32) (w8 : MEM) => if x9 = 0 then (bnd (f_X10_may fu l0 (0 : Int32) (2 : Int32) (1 : Int32) w8) fun (x11 : Int32) (w10 : MEM) => if x11 = 0 then (some ((0 : Int32), w10)) else (f_X10_moss_58 fu fu l0 l1 l2 l3 (9 : Int32) w10)) else (bnd (f_X10_may fu l0 (1 : Int32) (2 : Int32) (1 : Int32) w8) fun (x13 : Int32) (w12 : MEM) => if x13 = 0 then (some ((0 : Int32), w12)) else (f_X10_moss_58 fu fu l0 l1 l2 l3 (9 : Int32) w12))) else (bnd (f_X10_may fu l0 (0 : Int32) (2 : Int32) (1 : Int32) w2) fun (x7 : Int32) (w6 : MEM) => if x7 = 0 then (some ((0 : Int32), w6)) else (f_X10_moss_58 fu fu l0 l1 l2 l3 (9 : Int32) w6))))
theorem E_X10_moss (fu : Nat) (l0 : Nat) (l1 : Int32) (l2 : Int32) (l3 : Int32) (w : MEM) : f_X10_moss fu l0 l1 l2 l3 w = lt (sS w (11000, l0) (0 : Int32)) fun (w1 : MEM) => bnd (f_X10_isHeir fu l0 l1 (1 : Int32) w1) fun (x3 : Int32) (w2 : MEM) => if x3 = 0 then (some ((0 : Int32), w2)) else (if l2 < 0 then (bnd (f_X10_may fu l0 (0 : Int32) (2 : Int32) (1 : Int32) w2) fun (x5 : Int32) (w4 : MEM) => if x5 = 0 then (some ((0 : Int32), w4)) else (f_X10_moss_58 fu fu l0 l1 l2 l3 (9 : Int32) w4)) else (if l2 < ((1 : Int32) <<< ((rS w2 (11022, l0)) &&& 31)) then (bnd (f_X10_within fu l3 (0 : Int32) (99 : Int32) w2) fun (x9 : Int32) (w8 : MEM) => if x9 = 0 then (bnd (f_X10_may fu l0 (0 : Int32) (2 : Int32) (1 : Int32) w8) fun (x11 : Int32) (w10 : MEM) => if x11 = 0 then (some ((0 : Int32), w10)) else (f_X10_moss_58 fu fu l0 l1 l2 l3 (9 : Int32) w10)) else (bnd (f_X10_may fu l0 (1 : Int32) (2 : Int32) (1 : Int32) w8) fun (x13 : Int32) (w12 : MEM) => if x13 = 0 then (some ((0 : Int32), w12)) else (f_X10_moss_58 fu fu l0 l1 l2 l3 (9 : Int32) w12))) else (bnd (f_X10_may fu l0 (0 : Int32) (2 : Int32) (1 : Int32) w2) fun (x7 : Int32) (w6 : MEM) => if x7 = 0 then (some ((0 : Int32), w6)) else (f_X10_moss_58 fu fu l0 l1 l2 l3 (9 : Int32) w6)))) := rfl
theorem w_X10_moss {X : SCR} {d rc rs : Nat} {Q : PO → PH → Prop} {o : Int32} {w1 : MEM} {fu : Nat} (hd : 2 ≤ d) (hq : ∀ h1, WH X h1 w1 → Q (.inl (some (vI o))) h1) {l0 : Nat} {l1 : Int32} {l2 : Int32} {l3 : Int32} {w : MEM} {h : PH} (wh : WH X h w) (hv_l0 : vo 10 l0 = true) (hF : f_X10_moss fu l0 l1 l2 l3 w = some (o, w1)) : PW d M_X10_moss Q rc rs 0 [vR (1000, l0), vI l1, vI l2, vI l3, vU] [] h := by
  replace hF := (E_X10_moss fu l0 l1 l2 l3 w).symm.trans hF
  refine r_X10_moss_0 ?_
  replace hF := lt_of hF
  refine sF_S wh rfl hv_l0 ?_
  clear wh
  intro h wh
  refine ⟨⟨_, wh.1 11000 _ rfl hv_l0⟩, ?_⟩
  obtain ⟨x3, w2, hG, hF⟩ := bnd_of hF
  refine cl_I (D := 1) (Nat.le_trans (by decide) hd) (c_X10_isHeir wh hv_l0 hG) ?_
  clear hG
  clear wh
  intro h wh
  refine ⟨fun c => ?_, fun c => ?_⟩
  · replace hF := if_ofT c hF
    obtain ⟨rfl, rfl⟩ := some_of hF
    exact hq _ wh
  · replace hF := if_ofF c hF
    refine ⟨fun c => ?_, fun c => ?_⟩
    · replace hF := if_ofT c hF
      refine ⟨⟨_, wh.1 11000 _ rfl hv_l0⟩, ?_⟩
      obtain ⟨x5, w4, hG, hF⟩ := bnd_of hF
      refine cl_I (D := 0) (Nat.le_trans (by decide) hd) (c_X10_may wh hv_l0 hG) ?_
      clear hG
      clear wh
      intro h wh
      refine ⟨fun c => ?_, fun c => ?_⟩
      · replace hF := if_ofT c hF
        obtain ⟨rfl, rfl⟩ := some_of hF
        exact hq _ wh
      · replace hF := if_ofF c hF
        exact w_X10_moss_58 hd hq  fu _ _ _ _ _ _ _ wh hv_l0 hF
    · replace hF := if_ofF c hF
      refine gI_of (wh.1 11022 _ rfl hv_l0) ?_
      refine ⟨fun c => ?_, fun c => ?_⟩
      · replace hF := if_ofT c hF
        obtain ⟨x9, w8, hG, hF⟩ := bnd_of hF
        refine cl_I (D := 0) (Nat.le_trans (by decide) hd) (c_X10_within wh  hG) ?_
        clear hG
        clear wh
        intro h wh
        refine ⟨fun c => ?_, fun c => ?_⟩
        · replace hF := if_ofT c hF
          refine ⟨⟨_, wh.1 11000 _ rfl hv_l0⟩, ?_⟩
          obtain ⟨x11, w10, hG, hF⟩ := bnd_of hF
          refine cl_I (D := 0) (Nat.le_trans (by decide) hd) (c_X10_may wh hv_l0 hG) ?_
          clear hG
          clear wh
          intro h wh
          refine ⟨fun c => ?_, fun c => ?_⟩
          · replace hF := if_ofT c hF
            obtain ⟨rfl, rfl⟩ := some_of hF
            exact hq _ wh
          · replace hF := if_ofF c hF
            exact w_X10_moss_58 hd hq  fu _ _ _ _ _ _ _ wh hv_l0 hF
        · replace hF := if_ofF c hF
          refine ⟨⟨_, wh.1 11000 _ rfl hv_l0⟩, ?_⟩
          obtain ⟨x13, w12, hG, hF⟩ := bnd_of hF
          refine cl_I (D := 0) (Nat.le_trans (by decide) hd) (c_X10_may wh hv_l0 hG) ?_
          clear hG
          clear wh
          intro h wh
          refine ⟨fun c => ?_, fun c => ?_⟩
          · replace hF := if_ofT c hF
            obtain ⟨rfl, rfl⟩ := some_of hF
            exact hq _ wh
          · replace hF := if_ofF c hF
            exact w_X10_moss_58 hd hq  fu _ _ _ _ _ _ _ wh hv_l0 hF
      · replace hF := if_ofF c hF
        refine ⟨⟨_, wh.1 11000 _ rfl hv_l0⟩, ?_⟩
        obtain ⟨x7, w6, hG, hF⟩ := bnd_of hF
        refine cl_I (D := 0) (Nat.le_trans (by decide) hd) (c_X10_may wh hv_l0 hG) ?_
        clear hG
        clear wh
        intro h wh
        refine ⟨fun c => ?_, fun c => ?_⟩
        · replace hF := if_ofT c hF
          obtain ⟨rfl, rfl⟩ := some_of hF
          exact hq _ wh
        · replace hF := if_ofF c hF
          exact w_X10_moss_58 hd hq  fu _ _ _ _ _ _ _ wh hv_l0 hF
theorem c_X10_moss {X : SCR} {fu : Nat} {o : Int32} {w1 : MEM} {a0 : Nat} {a1 : Int32} {a2 : Int32} {a3 : Int32} {w : MEM} {h : PH} (wh : WH X h w) (h0 : vo 10 a0 = true) (hF : f_X10_moss fu a0 a1 a2 a3 w = some (o, w1)) : CT 2 M_X10_moss [vR (1000, a0), vI a1, vI a2, vI a3] h 0 0 (QP X (.inl (some (vI o))) w1) :=
  CT_of mk_X10_moss (Nat.le_of_ble_eq_true rfl) rfl (w_X10_moss (fu := fu) (rc := 0) (rs := 0) (hd := Nat.le_refl 2) (hq := fun h1 g => ⟨rfl, g⟩) wh h0 hF)
-- X10_backward
def f_X10_backward_28 (fu : Nat) : Nat → Int32 → Int32 → MEM → Option (Int32 × MEM)
  | 0, _, _, _ => none
  | n + 1, l2, l3, w => if 0 < l3 then (if (10 : Int32) = 0 then none else (lt ((((10 : Int32) * l2) + (l3 - l3 / (10 : Int32) * (10 : Int32)))) fun (v1 : Int32) => if (10 : Int32) = 0 then none else (lt ((l3 / (10 : Int32))) fun (v2 : Int32) => f_X10_backward_28 fu n v1 v2 w))) else (some (l2, w))
theorem E_X10_backward_28 (fu : Nat) (n : Nat) (l2 : Int32) (l3 : Int32) (w : MEM) : f_X10_backward_28 fu (n + 1) l2 l3 w = if 0 < l3 then (if (10 : Int32) = 0 then none else (lt ((((10 : Int32) * l2) + (l3 - l3 / (10 : Int32) * (10 : Int32)))) fun (v1 : Int32) => if (10 : Int32) = 0 then none else (lt ((l3 / (10 : Int32))) fun (v2 : Int32) => f_X10_backward_28 fu n v1 v2 w))) else (some (l2, w)) := rfl
theorem w_X10_backward_28 {X : SCR} {d rc rs : Nat} {Q : PO → PH → Prop} {o : Int32} {w1 : MEM} {fu : Nat} (hd : 1 ≤ d) (hq : ∀ h1, WH X h1 w1 → Q (.inl (some (vI o))) h1) : ∀ (n : Nat) (l2 : Int32) (l3 : Int32) (w : MEM) (h : PH), WH X h w → f_X10_backward_28 fu n l2 l3 w = some (o, w1) → PW d M_X10_backward Q rc rs 28 [vU, vU, vI l2, vI l3] [] h := by
  intro n
  induction n with
  | zero => intro l2 l3 w h wh  hF; cases hF
  | succ n ih =>
    intro l2 l3 w h wh  hF
    replace hF := (E_X10_backward_28 fu n l2 l3 w).symm.trans hF
    refine r_X10_backward_28 ?_
    refine ⟨fun c => ?_, fun c => ?_⟩
    · replace hF := if_ofT c hF
      obtain ⟨c, hF⟩ := nzF_of hF
      refine ⟨c, ?_⟩
      replace hF := lt_of hF
      obtain ⟨c, hF⟩ := nzF_of hF
      refine ⟨c, ?_⟩
      replace hF := lt_of hF
      exact ih _ _ _ _ wh  hF
    · replace hF := if_ofF c hF
      obtain ⟨rfl, rfl⟩ := some_of hF
      exact hq _ wh
def f_X10_backward (fu : Nat) (l0 : Nat) (l1 : Int32) (w : MEM) : Option (Int32 × MEM) := lt (sS w (11000, l0) (0 : Int32)) fun (w1 : MEM) => bnd (f_X10_within fu l1 (0 : Int32) (99999999 : Int32) w1) fun (x3 : Int32) (w2 : MEM) => bnd (f_X10_may fu l0 x3 (1 : Int32) (1 : Int32) w2) fun (x5 : Int32) (w4 : MEM) => if x5 = 0 then (some ((0 : Int32), w4)) else (f_X10_backward_28 fu fu (0 : Int32) l1 w4)
theorem E_X10_backward (fu : Nat) (l0 : Nat) (l1 : Int32) (w : MEM) : f_X10_backward fu l0 l1 w = lt (sS w (11000, l0) (0 : Int32)) fun (w1 : MEM) => bnd (f_X10_within fu l1 (0 : Int32) (99999999 : Int32) w1) fun (x3 : Int32) (w2 : MEM) => bnd (f_X10_may fu l0 x3 (1 : Int32) (1 : Int32) w2) fun (x5 : Int32) (w4 : MEM) => if x5 = 0 then (some ((0 : Int32), w4)) else (f_X10_backward_28 fu fu (0 : Int32) l1 w4) := rfl
theorem w_X10_backward {X : SCR} {d rc rs : Nat} {Q : PO → PH → Prop} {o : Int32} {w1 : MEM} {fu : Nat} (hd : 1 ≤ d) (hq : ∀ h1, WH X h1 w1 → Q (.inl (some (vI o))) h1) {l0 : Nat} {l1 : Int32} {w : MEM} {h : PH} (wh : WH X h w) (hv_l0 : vo 10 l0 = true) (hF : f_X10_backward fu l0 l1 w = some (o, w1)) : PW d M_X10_backward Q rc rs 0 [vR (1000, l0), vI l1, vU, vU] [] h := by
  replace hF := (E_X10_backward fu l0 l1 w).symm.trans hF
  refine r_X10_backward_0 ?_
  replace hF := lt_of hF
  refine sF_S wh rfl hv_l0 ?_
  clear wh
  intro h wh
  obtain ⟨x3, w2, hG, hF⟩ := bnd_of hF
  refine cl_I (D := 0) (Nat.le_trans (by decide) hd) (c_X10_within wh  hG) ?_
  clear hG
  clear wh
  intro h wh
  refine ⟨⟨_, wh.1 11000 _ rfl hv_l0⟩, ?_⟩
  obtain ⟨x5, w4, hG, hF⟩ := bnd_of hF
  refine cl_I (D := 0) (Nat.le_trans (by decide) hd) (c_X10_may wh hv_l0 hG) ?_
  clear hG
  clear wh
  intro h wh
  refine ⟨fun c => ?_, fun c => ?_⟩
  · replace hF := if_ofT c hF
    obtain ⟨rfl, rfl⟩ := some_of hF
    exact hq _ wh
  · replace hF := if_ofF c hF
    exact w_X10_backward_28 hd hq  fu _ _ _ _ wh  hF
theorem c_X10_backward {X : SCR} {fu : Nat} {o : Int32} {w1 : MEM} {a0 : Nat} {a1 : Int32} {w : MEM} {h : PH} (wh : WH X h w) (h0 : vo 10 a0 = true) (hF : f_X10_backward fu a0 a1 w = some (o, w1)) : CT 1 M_X10_backward [vR (1000, a0), vI a1] h 0 0 (QP X (.inl (some (vI o))) w1) :=
  CT_of mk_X10_backward (Nat.le_of_ble_eq_true rfl) rfl (w_X10_backward (fu := fu) (rc := 0) (rs := 0) (hd := Nat.le_refl 1) (hq := fun h1 g => ⟨rfl, g⟩) wh h0 hF)
-- X10_greenest
def f_X10_greenest_29 (fu : Nat) : Nat → Nat → Int32 → Int32 → Int32 → Int32 → MEM → Option (Int32 × MEM)
  | 0, _, _, _, _, _, _ => none
  | n + 1, l0, l1, l2, l3, l4, w => if l4 < (rS w (11022, l0)) then (ck (bI ((7 : Int32) + l4) 57) (if l3 < (rA w (1019, l0) ((7 : Int32) + l4)) then (ck (bI ((7 : Int32) + l4) 57) (lt ((rA w (1019, l0) ((7 : Int32) + l4))) fun (v1 : Int32) => f_X10_greenest_29 fu n l0 l1 l4 v1 (l4 + (1 : Int32)) w)) else (f_X10_greenest_29 fu n l0 l1 l2 l3 (l4 + (1 : Int32)) w))) else (if l1 = 0 then (some (l2, w)) else (if l2 = (-1 : Int32) then (some (l2, w)) else (some (l3, w))))
theorem E_X10_greenest_29 (fu : Nat) (n : Nat) (l0 : Nat) (l1 : Int32) (l2 : Int32) (l3 : Int32) (l4 : Int32) (w : MEM) : f_X10_greenest_29 fu (n + 1) l0 l1 l2 l3 l4 w = if l4 < (rS w (11022, l0)) then (ck (bI ((7 : Int32) + l4) 57) (if l3 < (rA w (1019, l0) ((7 : Int32) + l4)) then (ck (bI ((7 : Int32) + l4) 57) (lt ((rA w (1019, l0) ((7 : Int32) + l4))) fun (v1 : Int32) => f_X10_greenest_29 fu n l0 l1 l4 v1 (l4 + (1 : Int32)) w)) else (f_X10_greenest_29 fu n l0 l1 l2 l3 (l4 + (1 : Int32)) w))) else (if l1 = 0 then (some (l2, w)) else (if l2 = (-1 : Int32) then (some (l2, w)) else (some (l3, w)))) := rfl
theorem w_X10_greenest_29 {X : SCR} {d rc rs : Nat} {Q : PO → PH → Prop} {o : Int32} {w1 : MEM} {fu : Nat} (hd : 1 ≤ d) (hq : ∀ h1, WH X h1 w1 → Q (.inl (some (vI o))) h1) : ∀ (n : Nat) (l0 : Nat) (l1 : Int32) (l2 : Int32) (l3 : Int32) (l4 : Int32) (w : MEM) (h : PH), WH X h w → vo 10 l0 = true → f_X10_greenest_29 fu n l0 l1 l2 l3 l4 w = some (o, w1) → PW d M_X10_greenest Q rc rs 29 [vR (1000, l0), vI l1, vI l2, vI l3, vI l4] [] h := by
  intro n
  induction n with
  | zero => intro l0 l1 l2 l3 l4 w h wh hv_l0 hF; cases hF
  | succ n ih =>
    intro l0 l1 l2 l3 l4 w h wh hv_l0 hF
    replace hF := (E_X10_greenest_29 fu n l0 l1 l2 l3 l4 w).symm.trans hF
    refine r_X10_greenest_29 ?_
    refine gI_of (wh.1 11022 _ rfl hv_l0) ?_
    refine ⟨fun c => ?_, fun c => ?_⟩
    · replace hF := if_ofT c hF
      refine gA_of (b := (1019, l0)) (wh.2.1 11042 _ rfl hv_l0) ?_
      obtain ⟨c, hF⟩ := ck_of hF
      refine xI_of wh (oA_1019 hv_l0) c ?_
      clear c
      refine ⟨fun c => ?_, fun c => ?_⟩
      · replace hF := if_ofT c hF
        refine gA_of (b := (1019, l0)) (wh.2.1 11042 _ rfl hv_l0) ?_
        obtain ⟨c, hF⟩ := ck_of hF
        refine xI_of wh (oA_1019 hv_l0) c ?_
        clear c
        replace hF := lt_of hF
        exact ih _ _ _ _ _ _ _ wh hv_l0 hF
      · replace hF := if_ofF c hF
        exact ih _ _ _ _ _ _ _ wh hv_l0 hF
    · replace hF := if_ofF c hF
      refine ⟨fun c => ?_, fun c => ?_⟩
      · replace hF := if_ofT c hF
        obtain ⟨rfl, rfl⟩ := some_of hF
        exact hq _ wh
      · replace hF := if_ofF c hF
        refine ⟨fun c => ?_, fun c => ?_⟩
        · replace hF := if_ofT c hF
          obtain ⟨rfl, rfl⟩ := some_of hF
          exact hq _ wh
        · replace hF := if_ofF c hF
          obtain ⟨rfl, rfl⟩ := some_of hF
          exact hq _ wh
def f_X10_greenest (fu : Nat) (l0 : Nat) (l1 : Int32) (w : MEM) : Option (Int32 × MEM) := lt (sS w (11000, l0) (0 : Int32)) fun (w1 : MEM) => bnd (f_X10_within fu l1 (0 : Int32) (1 : Int32) w1) fun (x3 : Int32) (w2 : MEM) => bnd (f_X10_may fu l0 x3 (1 : Int32) (1 : Int32) w2) fun (x5 : Int32) (w4 : MEM) => if x5 = 0 then (some ((0 : Int32), w4)) else (f_X10_greenest_29 fu fu l0 l1 (-1 : Int32) (0 : Int32) (0 : Int32) w4)
theorem E_X10_greenest (fu : Nat) (l0 : Nat) (l1 : Int32) (w : MEM) : f_X10_greenest fu l0 l1 w = lt (sS w (11000, l0) (0 : Int32)) fun (w1 : MEM) => bnd (f_X10_within fu l1 (0 : Int32) (1 : Int32) w1) fun (x3 : Int32) (w2 : MEM) => bnd (f_X10_may fu l0 x3 (1 : Int32) (1 : Int32) w2) fun (x5 : Int32) (w4 : MEM) => if x5 = 0 then (some ((0 : Int32), w4)) else (f_X10_greenest_29 fu fu l0 l1 (-1 : Int32) (0 : Int32) (0 : Int32) w4) := rfl
theorem w_X10_greenest {X : SCR} {d rc rs : Nat} {Q : PO → PH → Prop} {o : Int32} {w1 : MEM} {fu : Nat} (hd : 1 ≤ d) (hq : ∀ h1, WH X h1 w1 → Q (.inl (some (vI o))) h1) {l0 : Nat} {l1 : Int32} {w : MEM} {h : PH} (wh : WH X h w) (hv_l0 : vo 10 l0 = true) (hF : f_X10_greenest fu l0 l1 w = some (o, w1)) : PW d M_X10_greenest Q rc rs 0 [vR (1000, l0), vI l1, vU, vU, vU] [] h := by
  replace hF := (E_X10_greenest fu l0 l1 w).symm.trans hF
  refine r_X10_greenest_0 ?_
  replace hF := lt_of hF
  refine sF_S wh rfl hv_l0 ?_
  clear wh
  intro h wh
  obtain ⟨x3, w2, hG, hF⟩ := bnd_of hF
  refine cl_I (D := 0) (Nat.le_trans (by decide) hd) (c_X10_within wh  hG) ?_
  clear hG
  clear wh
  intro h wh
  refine ⟨⟨_, wh.1 11000 _ rfl hv_l0⟩, ?_⟩
  obtain ⟨x5, w4, hG, hF⟩ := bnd_of hF
  refine cl_I (D := 0) (Nat.le_trans (by decide) hd) (c_X10_may wh hv_l0 hG) ?_
  clear hG
  clear wh
  intro h wh
  refine ⟨fun c => ?_, fun c => ?_⟩
  · replace hF := if_ofT c hF
    obtain ⟨rfl, rfl⟩ := some_of hF
    exact hq _ wh
  · replace hF := if_ofF c hF
    exact w_X10_greenest_29 hd hq  fu _ _ _ _ _ _ _ wh hv_l0 hF
theorem c_X10_greenest {X : SCR} {fu : Nat} {o : Int32} {w1 : MEM} {a0 : Nat} {a1 : Int32} {w : MEM} {h : PH} (wh : WH X h w) (h0 : vo 10 a0 = true) (hF : f_X10_greenest fu a0 a1 w = some (o, w1)) : CT 1 M_X10_greenest [vR (1000, a0), vI a1] h 0 0 (QP X (.inl (some (vI o))) w1) :=
  CT_of mk_X10_greenest (Nat.le_of_ble_eq_true rfl) rfl (w_X10_greenest (fu := fu) (rc := 0) (rs := 0) (hd := Nat.le_refl 1) (hq := fun h1 g => ⟨rfl, g⟩) wh h0 hF)
-- X10_ear
def f_X10_ear_20 (fu : Nat) : Nat → Nat → Int32 → Int32 → Int32 → MEM → Option (Int32 × MEM)
  | 0, _, _, _, _, _ => none
  | n + 1, l0, l1, l2, l3, w => if l3 < (rS w (11022, l0)) then (bnd (f_X10_all fu l0 w) fun (x2 : Int32) (w1 : MEM) => bnd (f_X10_comesTo fu l0 l1 l3 x2 w1) fun (x4 : Int32) (w3 : MEM) => if x4 = (-1 : Int32) then (lt ((l2 ||| (0 : Int32))) fun (v6 : Int32) => f_X10_ear_20 fu n l0 l1 v6 (l3 + (1 : Int32)) w3) else (lt ((l2 ||| ((1 : Int32) <<< (l3 &&& 31)))) fun (v5 : Int32) => f_X10_ear_20 fu n l0 l1 v5 (l3 + (1 : Int32)) w3)) else (some (l2, w))
theorem E_X10_ear_20 (fu : Nat) (n : Nat) (l0 : Nat) (l1 : Int32) (l2 : Int32) (l3 : Int32) (w : MEM) : f_X10_ear_20 fu (n + 1) l0 l1 l2 l3 w = if l3 < (rS w (11022, l0)) then (bnd (f_X10_all fu l0 w) fun (x2 : Int32) (w1 : MEM) => bnd (f_X10_comesTo fu l0 l1 l3 x2 w1) fun (x4 : Int32) (w3 : MEM) => if x4 = (-1 : Int32) then (lt ((l2 ||| (0 : Int32))) fun (v6 : Int32) => f_X10_ear_20 fu n l0 l1 v6 (l3 + (1 : Int32)) w3) else (lt ((l2 ||| ((1 : Int32) <<< (l3 &&& 31)))) fun (v5 : Int32) => f_X10_ear_20 fu n l0 l1 v5 (l3 + (1 : Int32)) w3)) else (some (l2, w)) := rfl
theorem w_X10_ear_20 {X : SCR} {d rc rs : Nat} {Q : PO → PH → Prop} {o : Int32} {w1 : MEM} {fu : Nat} (hd : 2 ≤ d) (hq : ∀ h1, WH X h1 w1 → Q (.inl (some (vI o))) h1) : ∀ (n : Nat) (l0 : Nat) (l1 : Int32) (l2 : Int32) (l3 : Int32) (w : MEM) (h : PH), WH X h w → vo 10 l0 = true → f_X10_ear_20 fu n l0 l1 l2 l3 w = some (o, w1) → PW d M_X10_ear Q rc rs 20 [vR (1000, l0), vI l1, vI l2, vI l3] [] h := by
  intro n
  induction n with
  | zero => intro l0 l1 l2 l3 w h wh hv_l0 hF; cases hF
  | succ n ih =>
    intro l0 l1 l2 l3 w h wh hv_l0 hF
    replace hF := (E_X10_ear_20 fu n l0 l1 l2 l3 w).symm.trans hF
    refine r_X10_ear_20 ?_
    refine gI_of (wh.1 11022 _ rfl hv_l0) ?_
    refine ⟨fun c => ?_, fun c => ?_⟩
    · replace hF := if_ofT c hF
      refine ⟨⟨_, wh.1 11000 _ rfl hv_l0⟩, ?_⟩
      obtain ⟨x2, w1, hG, hF⟩ := bnd_of hF
      refine cl_I (D := 0) (Nat.le_trans (by decide) hd) (c_X10_all wh hv_l0 hG) ?_
      clear hG
      clear wh
      intro h wh
      refine ⟨⟨_, wh.1 11000 _ rfl hv_l0⟩, ?_⟩
      obtain ⟨x4, w3, hG, hF⟩ := bnd_of hF
      refine cl_I (D := 1) (Nat.le_trans (by decide) hd) (c_X10_comesTo wh hv_l0 hG) ?_
      clear hG
      clear wh
      intro h wh
      refine ⟨fun c => ?_, fun c => ?_⟩
      · replace hF := if_ofT c hF
        replace hF := lt_of hF
        exact ih _ _ _ _ _ _ wh hv_l0 hF
      · replace hF := if_ofF c hF
        replace hF := lt_of hF
        exact ih _ _ _ _ _ _ wh hv_l0 hF
    · replace hF := if_ofF c hF
      obtain ⟨rfl, rfl⟩ := some_of hF
      exact hq _ wh
def f_X10_ear (fu : Nat) (l0 : Nat) (l1 : Int32) (w : MEM) : Option (Int32 × MEM) := lt (sS w (11000, l0) (0 : Int32)) fun (w1 : MEM) => bnd (f_X10_isHeir fu l0 l1 (1 : Int32) w1) fun (x3 : Int32) (w2 : MEM) => if x3 = 0 then (some ((0 : Int32), w2)) else (f_X10_ear_20 fu fu l0 l1 (0 : Int32) (0 : Int32) w2)
theorem E_X10_ear (fu : Nat) (l0 : Nat) (l1 : Int32) (w : MEM) : f_X10_ear fu l0 l1 w = lt (sS w (11000, l0) (0 : Int32)) fun (w1 : MEM) => bnd (f_X10_isHeir fu l0 l1 (1 : Int32) w1) fun (x3 : Int32) (w2 : MEM) => if x3 = 0 then (some ((0 : Int32), w2)) else (f_X10_ear_20 fu fu l0 l1 (0 : Int32) (0 : Int32) w2) := rfl
theorem w_X10_ear {X : SCR} {d rc rs : Nat} {Q : PO → PH → Prop} {o : Int32} {w1 : MEM} {fu : Nat} (hd : 2 ≤ d) (hq : ∀ h1, WH X h1 w1 → Q (.inl (some (vI o))) h1) {l0 : Nat} {l1 : Int32} {w : MEM} {h : PH} (wh : WH X h w) (hv_l0 : vo 10 l0 = true) (hF : f_X10_ear fu l0 l1 w = some (o, w1)) : PW d M_X10_ear Q rc rs 0 [vR (1000, l0), vI l1, vU, vU] [] h := by
  replace hF := (E_X10_ear fu l0 l1 w).symm.trans hF
  refine r_X10_ear_0 ?_
  replace hF := lt_of hF
  refine sF_S wh rfl hv_l0 ?_
  clear wh
  intro h wh
  refine ⟨⟨_, wh.1 11000 _ rfl hv_l0⟩, ?_⟩
  obtain ⟨x3, w2, hG, hF⟩ := bnd_of hF
  refine cl_I (D := 1) (Nat.le_trans (by decide) hd) (c_X10_isHeir wh hv_l0 hG) ?_
  clear hG
  clear wh
  intro h wh
  refine ⟨fun c => ?_, fun c => ?_⟩
  · replace hF := if_ofT c hF
    obtain ⟨rfl, rfl⟩ := some_of hF
    exact hq _ wh
  · replace hF := if_ofF c hF
    exact w_X10_ear_20 hd hq  fu _ _ _ _ _ _ wh hv_l0 hF
theorem c_X10_ear {X : SCR} {fu : Nat} {o : Int32} {w1 : MEM} {a0 : Nat} {a1 : Int32} {w : MEM} {h : PH} (wh : WH X h w) (h0 : vo 10 a0 = true) (hF : f_X10_ear fu a0 a1 w = some (o, w1)) : CT 2 M_X10_ear [vR (1000, a0), vI a1] h 0 0 (QP X (.inl (some (vI o))) w1) :=
  CT_of mk_X10_ear (Nat.le_of_ble_eq_true rfl) rfl (w_X10_ear (fu := fu) (rc := 0) (rs := 0) (hd := Nat.le_refl 2) (hq := fun h1 g => ⟨rfl, g⟩) wh h0 hF)
-- X10_stalest
def f_X10_stalest_26 (fu : Nat) : Nat → Nat → Int32 → Int32 → Int32 → MEM → Option (Int32 × MEM)
  | 0, _, _, _, _, _ => none
  | n + 1, l0, l1, l2, l3, w => if l3 < (rS w (11022, l0)) then (if l2 = (-1 : Int32) then (f_X10_stalest_26 fu n l0 l1 l3 (l3 + (1 : Int32)) w) else (ck (bI ((14 : Int32) + l3) 57) (ck (bI ((14 : Int32) + l2) 57) (if (rA w (1019, l0) ((14 : Int32) + l3)) < (rA w (1019, l0) ((14 : Int32) + l2)) then (f_X10_stalest_26 fu n l0 l1 l3 (l3 + (1 : Int32)) w) else (f_X10_stalest_26 fu n l0 l1 l2 (l3 + (1 : Int32)) w))))) else (if l1 = 0 then (some (l2, w)) else (if l2 = (-1 : Int32) then (some (l2, w)) else (ck (bI ((14 : Int32) + l2) 57) (some ((rA w (1019, l0) ((14 : Int32) + l2)), w)))))
theorem E_X10_stalest_26 (fu : Nat) (n : Nat) (l0 : Nat) (l1 : Int32) (l2 : Int32) (l3 : Int32) (w : MEM) : f_X10_stalest_26 fu (n + 1) l0 l1 l2 l3 w = if l3 < (rS w (11022, l0)) then (if l2 = (-1 : Int32) then (f_X10_stalest_26 fu n l0 l1 l3 (l3 + (1 : Int32)) w) else (ck (bI ((14 : Int32) + l3) 57) (ck (bI ((14 : Int32) + l2) 57) (if (rA w (1019, l0) ((14 : Int32) + l3)) < (rA w (1019, l0) ((14 : Int32) + l2)) then (f_X10_stalest_26 fu n l0 l1 l3 (l3 + (1 : Int32)) w) else (f_X10_stalest_26 fu n l0 l1 l2 (l3 + (1 : Int32)) w))))) else (if l1 = 0 then (some (l2, w)) else (if l2 = (-1 : Int32) then (some (l2, w)) else (ck (bI ((14 : Int32) + l2) 57) (some ((rA w (1019, l0) ((14 : Int32) + l2)), w))))) := rfl
theorem w_X10_stalest_26 {X : SCR} {d rc rs : Nat} {Q : PO → PH → Prop} {o : Int32} {w1 : MEM} {fu : Nat} (hd : 1 ≤ d) (hq : ∀ h1, WH X h1 w1 → Q (.inl (some (vI o))) h1) : ∀ (n : Nat) (l0 : Nat) (l1 : Int32) (l2 : Int32) (l3 : Int32) (w : MEM) (h : PH), WH X h w → vo 10 l0 = true → f_X10_stalest_26 fu n l0 l1 l2 l3 w = some (o, w1) → PW d M_X10_stalest Q rc rs 26 [vR (1000, l0), vI l1, vI l2, vI l3] [] h := by
  intro n
  induction n with
  | zero => intro l0 l1 l2 l3 w h wh hv_l0 hF; cases hF
  | succ n ih =>
    intro l0 l1 l2 l3 w h wh hv_l0 hF
    replace hF := (E_X10_stalest_26 fu n l0 l1 l2 l3 w).symm.trans hF
    refine r_X10_stalest_26 ?_
    refine gI_of (wh.1 11022 _ rfl hv_l0) ?_
    refine ⟨fun c => ?_, fun c => ?_⟩
    · replace hF := if_ofT c hF
      refine ⟨fun c => ?_, fun c => ?_⟩
      · replace hF := if_ofT c hF
        exact ih _ _ _ _ _ _ wh hv_l0 hF
      · replace hF := if_ofF c hF
        refine gA_of (b := (1019, l0)) (wh.2.1 11042 _ rfl hv_l0) ?_
        obtain ⟨c, hF⟩ := ck_of hF
        refine xI_of wh (oA_1019 hv_l0) c ?_
        clear c
        refine gA_of (b := (1019, l0)) (wh.2.1 11042 _ rfl hv_l0) ?_
        obtain ⟨c, hF⟩ := ck_of hF
        refine xI_of wh (oA_1019 hv_l0) c ?_
        clear c
        refine ⟨fun c => ?_, fun c => ?_⟩
        · replace hF := if_ofT c hF
          exact ih _ _ _ _ _ _ wh hv_l0 hF
        · replace hF := if_ofF c hF
          exact ih _ _ _ _ _ _ wh hv_l0 hF
    · replace hF := if_ofF c hF
      refine ⟨fun c => ?_, fun c => ?_⟩
      · replace hF := if_ofT c hF
        obtain ⟨rfl, rfl⟩ := some_of hF
        exact hq _ wh
      · replace hF := if_ofF c hF
        refine ⟨fun c => ?_, fun c => ?_⟩
        · replace hF := if_ofT c hF
          obtain ⟨rfl, rfl⟩ := some_of hF
          exact hq _ wh
        · replace hF := if_ofF c hF
          refine gA_of (b := (1019, l0)) (wh.2.1 11042 _ rfl hv_l0) ?_
          obtain ⟨c, hF⟩ := ck_of hF
          refine xI_of wh (oA_1019 hv_l0) c ?_
          clear c
          obtain ⟨rfl, rfl⟩ := some_of hF
          exact hq _ wh
def f_X10_stalest (fu : Nat) (l0 : Nat) (l1 : Int32) (w : MEM) : Option (Int32 × MEM) := lt (sS w (11000, l0) (0 : Int32)) fun (w1 : MEM) => bnd (f_X10_within fu l1 (0 : Int32) (1 : Int32) w1) fun (x3 : Int32) (w2 : MEM) => bnd (f_X10_may fu l0 x3 (1 : Int32) (1 : Int32) w2) fun (x5 : Int32) (w4 : MEM) => if x5 = 0 then (some ((0 : Int32), w4)) else (f_X10_stalest_26 fu fu l0 l1 (-1 : Int32) (0 : Int32) w4)
theorem E_X10_stalest (fu : Nat) (l0 : Nat) (l1 : Int32) (w : MEM) : f_X10_stalest fu l0 l1 w = lt (sS w (11000, l0) (0 : Int32)) fun (w1 : MEM) => bnd (f_X10_within fu l1 (0 : Int32) (1 : Int32) w1) fun (x3 : Int32) (w2 : MEM) => bnd (f_X10_may fu l0 x3 (1 : Int32) (1 : Int32) w2) fun (x5 : Int32) (w4 : MEM) => if x5 = 0 then (some ((0 : Int32), w4)) else (f_X10_stalest_26 fu fu l0 l1 (-1 : Int32) (0 : Int32) w4) := rfl
theorem w_X10_stalest {X : SCR} {d rc rs : Nat} {Q : PO → PH → Prop} {o : Int32} {w1 : MEM} {fu : Nat} (hd : 1 ≤ d) (hq : ∀ h1, WH X h1 w1 → Q (.inl (some (vI o))) h1) {l0 : Nat} {l1 : Int32} {w : MEM} {h : PH} (wh : WH X h w) (hv_l0 : vo 10 l0 = true) (hF : f_X10_stalest fu l0 l1 w = some (o, w1)) : PW d M_X10_stalest Q rc rs 0 [vR (1000, l0), vI l1, vU, vU] [] h := by
  replace hF := (E_X10_stalest fu l0 l1 w).symm.trans hF
  refine r_X10_stalest_0 ?_
  replace hF := lt_of hF
  refine sF_S wh rfl hv_l0 ?_
  clear wh
  intro h wh
  obtain ⟨x3, w2, hG, hF⟩ := bnd_of hF
  refine cl_I (D := 0) (Nat.le_trans (by decide) hd) (c_X10_within wh  hG) ?_
  clear hG
  clear wh
  intro h wh
  refine ⟨⟨_, wh.1 11000 _ rfl hv_l0⟩, ?_⟩
  obtain ⟨x5, w4, hG, hF⟩ := bnd_of hF
  refine cl_I (D := 0) (Nat.le_trans (by decide) hd) (c_X10_may wh hv_l0 hG) ?_
  clear hG
  clear wh
  intro h wh
  refine ⟨fun c => ?_, fun c => ?_⟩
  · replace hF := if_ofT c hF
    obtain ⟨rfl, rfl⟩ := some_of hF
    exact hq _ wh
  · replace hF := if_ofF c hF
    exact w_X10_stalest_26 hd hq  fu _ _ _ _ _ _ wh hv_l0 hF
theorem c_X10_stalest {X : SCR} {fu : Nat} {o : Int32} {w1 : MEM} {a0 : Nat} {a1 : Int32} {w : MEM} {h : PH} (wh : WH X h w) (h0 : vo 10 a0 = true) (hF : f_X10_stalest fu a0 a1 w = some (o, w1)) : CT 1 M_X10_stalest [vR (1000, a0), vI a1] h 0 0 (QP X (.inl (some (vI o))) w1) :=
  CT_of mk_X10_stalest (Nat.le_of_ble_eq_true rfl) rfl (w_X10_stalest (fu := fu) (rc := 0) (rs := 0) (hd := Nat.le_refl 1) (hq := fun h1 g => ⟨rfl, g⟩) wh h0 hF)
-- X10_coughs
def f_X10_coughs_65 (fu : Nat) (k37 : Nat → Int32 → Int32 → Int32 → Int32 → MEM → Option (Int32 × MEM)) : Nat → Nat → Int32 → Int32 → Int32 → Int32 → Int32 → MEM → Option (Int32 × MEM)
  | 0, _, _, _, _, _, _, _ => none
  | n + 1, l0, l1, l2, l3, l4, l5, w => if l5 < l2 then (ck (bI (56 : Int32) 57) (ck (bI (((2 : Int32) * l4) + (1 : Int32)) 12) (if (rA w (1010, l0) (((2 : Int32) * l4) + (1 : Int32))) = 0 then none else (if (((rA w (1019, l0) (56 : Int32)) + l5) - ((rA w (1019, l0) (56 : Int32)) + l5) / (rA w (1010, l0) (((2 : Int32) * l4) + (1 : Int32))) * (rA w (1010, l0) (((2 : Int32) * l4) + (1 : Int32)))) = 0 then (lt ((l3 + (1 : Int32))) fun (v2 : Int32) => f_X10_coughs_65 fu k37 n l0 l1 l2 v2 l4 (l5 + (1 : Int32)) w) else (lt ((l3 + (0 : Int32))) fun (v1 : Int32) => f_X10_coughs_65 fu k37 n l0 l1 l2 v1 l4 (l5 + (1 : Int32)) w))))) else (k37 l0 l1 l2 l3 (l4 + (1 : Int32)) w)
theorem E_X10_coughs_65 (fu : Nat) (k37 : Nat → Int32 → Int32 → Int32 → Int32 → MEM → Option (Int32 × MEM)) (n : Nat) (l0 : Nat) (l1 : Int32) (l2 : Int32) (l3 : Int32) (l4 : Int32) (l5 : Int32) (w : MEM) : f_X10_coughs_65 fu k37 (n + 1) l0 l1 l2 l3 l4 l5 w = if l5 < l2 then (ck (bI (56 : Int32) 57) (ck (bI (((2 : Int32) * l4) + (1 : Int32)) 12) (if (rA w (1010, l0) (((2 : Int32) * l4) + (1 : Int32))) = 0 then none else (if (((rA w (1019, l0) (56 : Int32)) + l5) - ((rA w (1019, l0) (56 : Int32)) + l5) / (rA w (1010, l0) (((2 : Int32) * l4) + (1 : Int32))) * (rA w (1010, l0) (((2 : Int32) * l4) + (1 : Int32)))) = 0 then (lt ((l3 + (1 : Int32))) fun (v2 : Int32) => f_X10_coughs_65 fu k37 n l0 l1 l2 v2 l4 (l5 + (1 : Int32)) w) else (lt ((l3 + (0 : Int32))) fun (v1 : Int32) => f_X10_coughs_65 fu k37 n l0 l1 l2 v1 l4 (l5 + (1 : Int32)) w))))) else (k37 l0 l1 l2 l3 (l4 + (1 : Int32)) w) := rfl
theorem w_X10_coughs_65 {X : SCR} {d rc rs : Nat} {Q : PO → PH → Prop} {o : Int32} {w1 : MEM} {fu : Nat} {k37 : Nat → Int32 → Int32 → Int32 → Int32 → MEM → Option (Int32 × MEM)} (hd : 2 ≤ d) (hq : ∀ h1, WH X h1 w1 → Q (.inl (some (vI o))) h1) (hk37 : ∀ (l0 : Nat) (l1 : Int32) (l2 : Int32) (l3 : Int32) (l4 : Int32) (w : MEM) (h : PH), WH X h w → vo 10 l0 = true → k37 l0 l1 l2 l3 l4 w = some (o, w1) → PW d M_X10_coughs Q rc rs 37 [vR (1000, l0), vI l1, vI l2, vI l3, vI l4, vU] [] h) : ∀ (n : Nat) (l0 : Nat) (l1 : Int32) (l2 : Int32) (l3 : Int32) (l4 : Int32) (l5 : Int32) (w : MEM) (h : PH), WH X h w → vo 10 l0 = true → f_X10_coughs_65 fu k37 n l0 l1 l2 l3 l4 l5 w = some (o, w1) → PW d M_X10_coughs Q rc rs 65 [vR (1000, l0), vI l1, vI l2, vI l3, vI l4, vI l5] [] h := by
  intro n
  induction n with
  | zero => intro l0 l1 l2 l3 l4 l5 w h wh hv_l0 hF; cases hF
  | succ n ih =>
    intro l0 l1 l2 l3 l4 l5 w h wh hv_l0 hF
    replace hF := (E_X10_coughs_65 fu k37 n l0 l1 l2 l3 l4 l5 w).symm.trans hF
    refine r_X10_coughs_65 ?_
    refine ⟨fun c => ?_, fun c => ?_⟩
    · replace hF := if_ofT c hF
      refine gA_of (b := (1019, l0)) (wh.2.1 11042 _ rfl hv_l0) ?_
      obtain ⟨c, hF⟩ := ck_of hF
      refine xI_of wh (oA_1019 hv_l0) c ?_
      clear c
      refine gA_of (b := (1010, l0)) (wh.2.1 11017 _ rfl hv_l0) ?_
      obtain ⟨c, hF⟩ := ck_of hF
      refine xI_of wh (oA_1010 hv_l0) c ?_
      clear c
      obtain ⟨c, hF⟩ := nzF_of hF
      refine ⟨c, ?_⟩
      refine ⟨fun c => ?_, fun c => ?_⟩
      · replace hF := if_ofT c hF
        replace hF := lt_of hF
        exact ih _ _ _ _ _ _ _ _ wh hv_l0 hF
      · replace hF := if_ofF c hF
        replace hF := lt_of hF
        exact ih _ _ _ _ _ _ _ _ wh hv_l0 hF
    · replace hF := if_ofF c hF
      exact hk37 _ _ _ _ _ _ _ wh hv_l0 hF
def f_X10_coughs_37 (fu : Nat) : Nat → Nat → Int32 → Int32 → Int32 → Int32 → MEM → Option (Int32 × MEM)
  | 0, _, _, _, _, _, _ => none
  | n + 1, l0, l1, l2, l3, l4, w => if l4 < (rS w (11024, l0)) then (ck (bI ((2 : Int32) * l4) 12) (if (rA w (1010, l0) ((2 : Int32) * l4)) = l1 then (f_X10_coughs_65 fu (fun l0 l1 l2 l3 l4 w => f_X10_coughs_37 fu n l0 l1 l2 l3 l4 w) fu l0 l1 l2 l3 l4 (0 : Int32) w) else (f_X10_coughs_37 fu n l0 l1 l2 l3 (l4 + (1 : Int32)) w))) else (some (l3, w))
theorem E_X10_coughs_37 (fu : Nat) (n : Nat) (l0 : Nat) (l1 : Int32) (l2 : Int32) (l3 : Int32) (l4 : Int32) (w : MEM) : f_X10_coughs_37 fu (n + 1) l0 l1 l2 l3 l4 w = if l4 < (rS w (11024, l0)) then (ck (bI ((2 : Int32) * l4) 12) (if (rA w (1010, l0) ((2 : Int32) * l4)) = l1 then (f_X10_coughs_65 fu (fun l0 l1 l2 l3 l4 w => f_X10_coughs_37 fu n l0 l1 l2 l3 l4 w) fu l0 l1 l2 l3 l4 (0 : Int32) w) else (f_X10_coughs_37 fu n l0 l1 l2 l3 (l4 + (1 : Int32)) w))) else (some (l3, w)) := rfl
theorem w_X10_coughs_37 {X : SCR} {d rc rs : Nat} {Q : PO → PH → Prop} {o : Int32} {w1 : MEM} {fu : Nat} (hd : 2 ≤ d) (hq : ∀ h1, WH X h1 w1 → Q (.inl (some (vI o))) h1) : ∀ (n : Nat) (l0 : Nat) (l1 : Int32) (l2 : Int32) (l3 : Int32) (l4 : Int32) (w : MEM) (h : PH), WH X h w → vo 10 l0 = true → f_X10_coughs_37 fu n l0 l1 l2 l3 l4 w = some (o, w1) → PW d M_X10_coughs Q rc rs 37 [vR (1000, l0), vI l1, vI l2, vI l3, vI l4, vU] [] h := by
  intro n
  induction n with
  | zero => intro l0 l1 l2 l3 l4 w h wh hv_l0 hF; cases hF
  | succ n ih =>
    intro l0 l1 l2 l3 l4 w h wh hv_l0 hF
    replace hF := (E_X10_coughs_37 fu n l0 l1 l2 l3 l4 w).symm.trans hF
    refine r_X10_coughs_37 ?_
    refine gI_of (wh.1 11024 _ rfl hv_l0) ?_
    refine ⟨fun c => ?_, fun c => ?_⟩
    · replace hF := if_ofT c hF
      refine gA_of (b := (1010, l0)) (wh.2.1 11017 _ rfl hv_l0) ?_
      obtain ⟨c, hF⟩ := ck_of hF
      refine xI_of wh (oA_1010 hv_l0) c ?_
      clear c
      refine ⟨fun c => ?_, fun c => ?_⟩
      · replace hF := if_ofT c hF
        exact w_X10_coughs_65 hd hq (fun l0 l1 l2 l3 l4 w h wh g0 hF => ih l0 l1 l2 l3 l4 w h wh g0 hF) fu _ _ _ _ _ _ _ _ wh hv_l0 hF
      · replace hF := if_ofF c hF
        exact ih _ _ _ _ _ _ _ wh hv_l0 hF
    · replace hF := if_ofF c hF
      obtain ⟨rfl, rfl⟩ := some_of hF
      exact hq _ wh
def f_X10_coughs (fu : Nat) (l0 : Nat) (l1 : Int32) (l2 : Int32) (w : MEM) : Option (Int32 × MEM) := lt (sS w (11000, l0) (0 : Int32)) fun (w1 : MEM) => bnd (f_X10_isHeir fu l0 l1 (1 : Int32) w1) fun (x3 : Int32) (w2 : MEM) => if x3 = 0 then (some ((0 : Int32), w2)) else (bnd (f_X10_within fu l2 (0 : Int32) (99 : Int32) w2) fun (x5 : Int32) (w4 : MEM) => bnd (f_X10_may fu l0 x5 (2 : Int32) (1 : Int32) w4) fun (x7 : Int32) (w6 : MEM) => if x7 = 0 then (some ((0 : Int32), w6)) else (f_X10_coughs_37 fu fu l0 l1 l2 (0 : Int32) (0 : Int32) w6))
theorem E_X10_coughs (fu : Nat) (l0 : Nat) (l1 : Int32) (l2 : Int32) (w : MEM) : f_X10_coughs fu l0 l1 l2 w = lt (sS w (11000, l0) (0 : Int32)) fun (w1 : MEM) => bnd (f_X10_isHeir fu l0 l1 (1 : Int32) w1) fun (x3 : Int32) (w2 : MEM) => if x3 = 0 then (some ((0 : Int32), w2)) else (bnd (f_X10_within fu l2 (0 : Int32) (99 : Int32) w2) fun (x5 : Int32) (w4 : MEM) => bnd (f_X10_may fu l0 x5 (2 : Int32) (1 : Int32) w4) fun (x7 : Int32) (w6 : MEM) => if x7 = 0 then (some ((0 : Int32), w6)) else (f_X10_coughs_37 fu fu l0 l1 l2 (0 : Int32) (0 : Int32) w6)) := rfl
theorem w_X10_coughs {X : SCR} {d rc rs : Nat} {Q : PO → PH → Prop} {o : Int32} {w1 : MEM} {fu : Nat} (hd : 2 ≤ d) (hq : ∀ h1, WH X h1 w1 → Q (.inl (some (vI o))) h1) {l0 : Nat} {l1 : Int32} {l2 : Int32} {w : MEM} {h : PH} (wh : WH X h w) (hv_l0 : vo 10 l0 = true) (hF : f_X10_coughs fu l0 l1 l2 w = some (o, w1)) : PW d M_X10_coughs Q rc rs 0 [vR (1000, l0), vI l1, vI l2, vU, vU, vU] [] h := by
  replace hF := (E_X10_coughs fu l0 l1 l2 w).symm.trans hF
  refine r_X10_coughs_0 ?_
  replace hF := lt_of hF
  refine sF_S wh rfl hv_l0 ?_
  clear wh
  intro h wh
  refine ⟨⟨_, wh.1 11000 _ rfl hv_l0⟩, ?_⟩
  obtain ⟨x3, w2, hG, hF⟩ := bnd_of hF
  refine cl_I (D := 1) (Nat.le_trans (by decide) hd) (c_X10_isHeir wh hv_l0 hG) ?_
  clear hG
  clear wh
  intro h wh
  refine ⟨fun c => ?_, fun c => ?_⟩
  · replace hF := if_ofT c hF
    obtain ⟨rfl, rfl⟩ := some_of hF
    exact hq _ wh
  · replace hF := if_ofF c hF
    obtain ⟨x5, w4, hG, hF⟩ := bnd_of hF
    refine cl_I (D := 0) (Nat.le_trans (by decide) hd) (c_X10_within wh  hG) ?_
    clear hG
    clear wh
    intro h wh
    refine ⟨⟨_, wh.1 11000 _ rfl hv_l0⟩, ?_⟩
    obtain ⟨x7, w6, hG, hF⟩ := bnd_of hF
    refine cl_I (D := 0) (Nat.le_trans (by decide) hd) (c_X10_may wh hv_l0 hG) ?_
    clear hG
    clear wh
    intro h wh
    refine ⟨fun c => ?_, fun c => ?_⟩
    · replace hF := if_ofT c hF
      obtain ⟨rfl, rfl⟩ := some_of hF
      exact hq _ wh
    · replace hF := if_ofF c hF
      exact w_X10_coughs_37 hd hq  fu _ _ _ _ _ _ _ wh hv_l0 hF
theorem c_X10_coughs {X : SCR} {fu : Nat} {o : Int32} {w1 : MEM} {a0 : Nat} {a1 : Int32} {a2 : Int32} {w : MEM} {h : PH} (wh : WH X h w) (h0 : vo 10 a0 = true) (hF : f_X10_coughs fu a0 a1 a2 w = some (o, w1)) : CT 2 M_X10_coughs [vR (1000, a0), vI a1, vI a2] h 0 0 (QP X (.inl (some (vI o))) w1) :=
  CT_of mk_X10_coughs (Nat.le_of_ble_eq_true rfl) rfl (w_X10_coughs (fu := fu) (rc := 0) (rs := 0) (hd := Nat.le_refl 2) (hq := fun h1 g => ⟨rfl, g⟩) wh h0 hF)
-- X10_twins
def f_X10_twins_44 (fu : Nat) (k29 : Nat → Int32 → Int32 → Int32 → Int32 → MEM → Option (Int32 × MEM)) : Nat → Nat → Int32 → Int32 → Int32 → Int32 → Int32 → MEM → Option (Int32 × MEM)
  | 0, _, _, _, _, _, _, _ => none
  | n + 1, l0, l1, l2, l3, l4, l5, w => if l5 < (rS w (11022, l0)) then (ck (bI l4 7) (ck (bI l5 7) (if (rA w (1007, l0) l4) = (rA w (1007, l0) l5) then (ck (bI ((0 : Int32) + l4) 57) (ck (bI ((0 : Int32) + l5) 57) (if (rA w (1019, l0) ((0 : Int32) + l4)) = (rA w (1019, l0) ((0 : Int32) + l5)) then (if l3 = (-1 : Int32) then (lt ((((10 : Int32) * l4) + l5)) fun (v1 : Int32) => f_X10_twins_44 fu k29 n l0 l1 (l2 + (1 : Int32)) v1 l4 (l5 + (1 : Int32)) w) else (f_X10_twins_44 fu k29 n l0 l1 (l2 + (1 : Int32)) l3 l4 (l5 + (1 : Int32)) w)) else (f_X10_twins_44 fu k29 n l0 l1 l2 l3 l4 (l5 + (1 : Int32)) w)))) else (f_X10_twins_44 fu k29 n l0 l1 l2 l3 l4 (l5 + (1 : Int32)) w)))) else (k29 l0 l1 l2 l3 (l4 + (1 : Int32)) w)
theorem E_X10_twins_44 (fu : Nat) (k29 : Nat → Int32 → Int32 → Int32 → Int32 → MEM → Option (Int32 × MEM)) (n : Nat) (l0 : Nat) (l1 : Int32) (l2 : Int32) (l3 : Int32) (l4 : Int32) (l5 : Int32) (w : MEM) : f_X10_twins_44 fu k29 (n + 1) l0 l1 l2 l3 l4 l5 w = if l5 < (rS w (11022, l0)) then (ck (bI l4 7) (ck (bI l5 7) (if (rA w (1007, l0) l4) = (rA w (1007, l0) l5) then (ck (bI ((0 : Int32) + l4) 57) (ck (bI ((0 : Int32) + l5) 57) (if (rA w (1019, l0) ((0 : Int32) + l4)) = (rA w (1019, l0) ((0 : Int32) + l5)) then (if l3 = (-1 : Int32) then (lt ((((10 : Int32) * l4) + l5)) fun (v1 : Int32) => f_X10_twins_44 fu k29 n l0 l1 (l2 + (1 : Int32)) v1 l4 (l5 + (1 : Int32)) w) else (f_X10_twins_44 fu k29 n l0 l1 (l2 + (1 : Int32)) l3 l4 (l5 + (1 : Int32)) w)) else (f_X10_twins_44 fu k29 n l0 l1 l2 l3 l4 (l5 + (1 : Int32)) w)))) else (f_X10_twins_44 fu k29 n l0 l1 l2 l3 l4 (l5 + (1 : Int32)) w)))) else (k29 l0 l1 l2 l3 (l4 + (1 : Int32)) w) := rfl
theorem w_X10_twins_44 {X : SCR} {d rc rs : Nat} {Q : PO → PH → Prop} {o : Int32} {w1 : MEM} {fu : Nat} {k29 : Nat → Int32 → Int32 → Int32 → Int32 → MEM → Option (Int32 × MEM)} (hd : 1 ≤ d) (hq : ∀ h1, WH X h1 w1 → Q (.inl (some (vI o))) h1) (hk29 : ∀ (l0 : Nat) (l1 : Int32) (l2 : Int32) (l3 : Int32) (l4 : Int32) (w : MEM) (h : PH), WH X h w → vo 10 l0 = true → k29 l0 l1 l2 l3 l4 w = some (o, w1) → PW d M_X10_twins Q rc rs 29 [vR (1000, l0), vI l1, vI l2, vI l3, vI l4, vU] [] h) : ∀ (n : Nat) (l0 : Nat) (l1 : Int32) (l2 : Int32) (l3 : Int32) (l4 : Int32) (l5 : Int32) (w : MEM) (h : PH), WH X h w → vo 10 l0 = true → f_X10_twins_44 fu k29 n l0 l1 l2 l3 l4 l5 w = some (o, w1) → PW d M_X10_twins Q rc rs 44 [vR (1000, l0), vI l1, vI l2, vI l3, vI l4, vI l5] [] h := by
  intro n
  induction n with
  | zero => intro l0 l1 l2 l3 l4 l5 w h wh hv_l0 hF; cases hF
  | succ n ih =>
    intro l0 l1 l2 l3 l4 l5 w h wh hv_l0 hF
    replace hF := (E_X10_twins_44 fu k29 n l0 l1 l2 l3 l4 l5 w).symm.trans hF
    refine r_X10_twins_44 ?_
    refine gI_of (wh.1 11022 _ rfl hv_l0) ?_
    refine ⟨fun c => ?_, fun c => ?_⟩
    · replace hF := if_ofT c hF
      refine gA_of (b := (1007, l0)) (wh.2.1 11014 _ rfl hv_l0) ?_
      obtain ⟨c, hF⟩ := ck_of hF
      refine xI_of wh (oA_1007 hv_l0) c ?_
      clear c
      refine gA_of (b := (1007, l0)) (wh.2.1 11014 _ rfl hv_l0) ?_
      obtain ⟨c, hF⟩ := ck_of hF
      refine xI_of wh (oA_1007 hv_l0) c ?_
      clear c
      refine ⟨fun c => ?_, fun c => ?_⟩
      · replace hF := if_ofT c hF
        refine gA_of (b := (1019, l0)) (wh.2.1 11042 _ rfl hv_l0) ?_
        obtain ⟨c, hF⟩ := ck_of hF
        refine xI_of wh (oA_1019 hv_l0) c ?_
        clear c
        refine gA_of (b := (1019, l0)) (wh.2.1 11042 _ rfl hv_l0) ?_
        obtain ⟨c, hF⟩ := ck_of hF
        refine xI_of wh (oA_1019 hv_l0) c ?_
        clear c
        refine ⟨fun c => ?_, fun c => ?_⟩
        · replace hF := if_ofT c hF
          refine ⟨fun c => ?_, fun c => ?_⟩
          · replace hF := if_ofT c hF
            replace hF := lt_of hF
            exact ih _ _ _ _ _ _ _ _ wh hv_l0 hF
          · replace hF := if_ofF c hF
            exact ih _ _ _ _ _ _ _ _ wh hv_l0 hF
        · replace hF := if_ofF c hF
          exact ih _ _ _ _ _ _ _ _ wh hv_l0 hF
      · replace hF := if_ofF c hF
        exact ih _ _ _ _ _ _ _ _ wh hv_l0 hF
    · replace hF := if_ofF c hF
      exact hk29 _ _ _ _ _ _ _ wh hv_l0 hF
def f_X10_twins_29 (fu : Nat) : Nat → Nat → Int32 → Int32 → Int32 → Int32 → MEM → Option (Int32 × MEM)
  | 0, _, _, _, _, _, _ => none
  | n + 1, l0, l1, l2, l3, l4, w => if l4 < (rS w (11022, l0)) then (lt ((l4 + (1 : Int32))) fun (v1 : Int32) => f_X10_twins_44 fu (fun l0 l1 l2 l3 l4 w => f_X10_twins_29 fu n l0 l1 l2 l3 l4 w) fu l0 l1 l2 l3 l4 v1 w) else (if l1 = 0 then (some (l2, w)) else (some (l3, w)))
theorem E_X10_twins_29 (fu : Nat) (n : Nat) (l0 : Nat) (l1 : Int32) (l2 : Int32) (l3 : Int32) (l4 : Int32) (w : MEM) : f_X10_twins_29 fu (n + 1) l0 l1 l2 l3 l4 w = if l4 < (rS w (11022, l0)) then (lt ((l4 + (1 : Int32))) fun (v1 : Int32) => f_X10_twins_44 fu (fun l0 l1 l2 l3 l4 w => f_X10_twins_29 fu n l0 l1 l2 l3 l4 w) fu l0 l1 l2 l3 l4 v1 w) else (if l1 = 0 then (some (l2, w)) else (some (l3, w))) := rfl
theorem w_X10_twins_29 {X : SCR} {d rc rs : Nat} {Q : PO → PH → Prop} {o : Int32} {w1 : MEM} {fu : Nat} (hd : 1 ≤ d) (hq : ∀ h1, WH X h1 w1 → Q (.inl (some (vI o))) h1) : ∀ (n : Nat) (l0 : Nat) (l1 : Int32) (l2 : Int32) (l3 : Int32) (l4 : Int32) (w : MEM) (h : PH), WH X h w → vo 10 l0 = true → f_X10_twins_29 fu n l0 l1 l2 l3 l4 w = some (o, w1) → PW d M_X10_twins Q rc rs 29 [vR (1000, l0), vI l1, vI l2, vI l3, vI l4, vU] [] h := by
  intro n
  induction n with
  | zero => intro l0 l1 l2 l3 l4 w h wh hv_l0 hF; cases hF
  | succ n ih =>
    intro l0 l1 l2 l3 l4 w h wh hv_l0 hF
    replace hF := (E_X10_twins_29 fu n l0 l1 l2 l3 l4 w).symm.trans hF
    refine r_X10_twins_29 ?_
    refine gI_of (wh.1 11022 _ rfl hv_l0) ?_
    refine ⟨fun c => ?_, fun c => ?_⟩
    · replace hF := if_ofT c hF
      replace hF := lt_of hF
      exact w_X10_twins_44 hd hq (fun l0 l1 l2 l3 l4 w h wh g0 hF => ih l0 l1 l2 l3 l4 w h wh g0 hF) fu _ _ _ _ _ _ _ _ wh hv_l0 hF
    · replace hF := if_ofF c hF
      refine ⟨fun c => ?_, fun c => ?_⟩
      · replace hF := if_ofT c hF
        obtain ⟨rfl, rfl⟩ := some_of hF
        exact hq _ wh
      · replace hF := if_ofF c hF
        obtain ⟨rfl, rfl⟩ := some_of hF
        exact hq _ wh
def f_X10_twins (fu : Nat) (l0 : Nat) (l1 : Int32) (w : MEM) : Option (Int32 × MEM) := lt (sS w (11000, l0) (0 : Int32)) fun (w1 : MEM) => bnd (f_X10_within fu l1 (0 : Int32) (1 : Int32) w1) fun (x3 : Int32) (w2 : MEM) => bnd (f_X10_may fu l0 x3 (1 : Int32) (1 : Int32) w2) fun (x5 : Int32) (w4 : MEM) => if x5 = 0 then (some ((0 : Int32), w4)) else (f_X10_twins_29 fu fu l0 l1 (0 : Int32) (-1 : Int32) (0 : Int32) w4)
theorem E_X10_twins (fu : Nat) (l0 : Nat) (l1 : Int32) (w : MEM) : f_X10_twins fu l0 l1 w = lt (sS w (11000, l0) (0 : Int32)) fun (w1 : MEM) => bnd (f_X10_within fu l1 (0 : Int32) (1 : Int32) w1) fun (x3 : Int32) (w2 : MEM) => bnd (f_X10_may fu l0 x3 (1 : Int32) (1 : Int32) w2) fun (x5 : Int32) (w4 : MEM) => if x5 = 0 then (some ((0 : Int32), w4)) else (f_X10_twins_29 fu fu l0 l1 (0 : Int32) (-1 : Int32) (0 : Int32) w4) := rfl
theorem w_X10_twins {X : SCR} {d rc rs : Nat} {Q : PO → PH → Prop} {o : Int32} {w1 : MEM} {fu : Nat} (hd : 1 ≤ d) (hq : ∀ h1, WH X h1 w1 → Q (.inl (some (vI o))) h1) {l0 : Nat} {l1 : Int32} {w : MEM} {h : PH} (wh : WH X h w) (hv_l0 : vo 10 l0 = true) (hF : f_X10_twins fu l0 l1 w = some (o, w1)) : PW d M_X10_twins Q rc rs 0 [vR (1000, l0), vI l1, vU, vU, vU, vU] [] h := by
  replace hF := (E_X10_twins fu l0 l1 w).symm.trans hF
  refine r_X10_twins_0 ?_
  replace hF := lt_of hF
  refine sF_S wh rfl hv_l0 ?_
  clear wh
  intro h wh
  obtain ⟨x3, w2, hG, hF⟩ := bnd_of hF
  refine cl_I (D := 0) (Nat.le_trans (by decide) hd) (c_X10_within wh  hG) ?_
  clear hG
  clear wh
  intro h wh
  refine ⟨⟨_, wh.1 11000 _ rfl hv_l0⟩, ?_⟩
  obtain ⟨x5, w4, hG, hF⟩ := bnd_of hF
  refine cl_I (D := 0) (Nat.le_trans (by decide) hd) (c_X10_may wh hv_l0 hG) ?_
  clear hG
  clear wh
  intro h wh
  refine ⟨fun c => ?_, fun c => ?_⟩
  · replace hF := if_ofT c hF
    obtain ⟨rfl, rfl⟩ := some_of hF
    exact hq _ wh
  · replace hF := if_ofF c hF
    exact w_X10_twins_29 hd hq  fu _ _ _ _ _ _ _ wh hv_l0 hF
theorem c_X10_twins {X : SCR} {fu : Nat} {o : Int32} {w1 : MEM} {a0 : Nat} {a1 : Int32} {w : MEM} {h : PH} (wh : WH X h w) (h0 : vo 10 a0 = true) (hF : f_X10_twins fu a0 a1 w = some (o, w1)) : CT 1 M_X10_twins [vR (1000, a0), vI a1] h 0 0 (QP X (.inl (some (vI o))) w1) :=
  CT_of mk_X10_twins (Nat.le_of_ble_eq_true rfl) rfl (w_X10_twins (fu := fu) (rc := 0) (rs := 0) (hd := Nat.le_refl 1) (hq := fun h1 g => ⟨rfl, g⟩) wh h0 hF)
-- X10_sunny
def f_X10_sunny_7 (fu : Nat) : Nat → Nat → Int32 → MEM → Option (Int32 × MEM)
  | 0, _, _, _ => none
  | n + 1, l0, l1, w => ck (bI (56 : Int32) 57) (bnd (f_X10_sunOf fu l0 ((rA w (1019, l0) (56 : Int32)) + l1) w) fun (x2 : Int32) (w1 : MEM) => if x2 = 0 then (f_X10_sunny_7 fu n l0 (l1 + (1 : Int32)) w1) else (some (l1, w1)))
theorem E_X10_sunny_7 (fu : Nat) (n : Nat) (l0 : Nat) (l1 : Int32) (w : MEM) : f_X10_sunny_7 fu (n + 1) l0 l1 w = ck (bI (56 : Int32) 57) (bnd (f_X10_sunOf fu l0 ((rA w (1019, l0) (56 : Int32)) + l1) w) fun (x2 : Int32) (w1 : MEM) => if x2 = 0 then (f_X10_sunny_7 fu n l0 (l1 + (1 : Int32)) w1) else (some (l1, w1))) := rfl
theorem w_X10_sunny_7 {X : SCR} {d rc rs : Nat} {Q : PO → PH → Prop} {o : Int32} {w1 : MEM} {fu : Nat} (hd : 1 ≤ d) (hq : ∀ h1, WH X h1 w1 → Q (.inl (some (vI o))) h1) : ∀ (n : Nat) (l0 : Nat) (l1 : Int32) (w : MEM) (h : PH), WH X h w → vo 10 l0 = true → f_X10_sunny_7 fu n l0 l1 w = some (o, w1) → PW d M_X10_sunny Q rc rs 7 [vR (1000, l0), vI l1] [] h := by
  intro n
  induction n with
  | zero => intro l0 l1 w h wh hv_l0 hF; cases hF
  | succ n ih =>
    intro l0 l1 w h wh hv_l0 hF
    replace hF := (E_X10_sunny_7 fu n l0 l1 w).symm.trans hF
    refine r_X10_sunny_7 ?_
    refine gA_of (b := (1019, l0)) (wh.2.1 11042 _ rfl hv_l0) ?_
    obtain ⟨c, hF⟩ := ck_of hF
    refine xI_of wh (oA_1019 hv_l0) c ?_
    clear c
    refine ⟨⟨_, wh.1 11000 _ rfl hv_l0⟩, ?_⟩
    obtain ⟨x2, w1, hG, hF⟩ := bnd_of hF
    refine cl_I (D := 0) (Nat.le_trans (by decide) hd) (c_X10_sunOf wh hv_l0 hG) ?_
    clear hG
    clear wh
    intro h wh
    refine ⟨fun c => ?_, fun c => ?_⟩
    · replace hF := if_ofT c hF
      exact ih _ _ _ _ wh hv_l0 hF
    · replace hF := if_ofF c hF
      obtain ⟨rfl, rfl⟩ := some_of hF
      exact hq _ wh
def f_X10_sunny (fu : Nat) (l0 : Nat) (w : MEM) : Option (Int32 × MEM) := lt (sS w (11000, l0) (0 : Int32)) fun (w1 : MEM) => f_X10_sunny_7 fu fu l0 (0 : Int32) w1
theorem E_X10_sunny (fu : Nat) (l0 : Nat) (w : MEM) : f_X10_sunny fu l0 w = lt (sS w (11000, l0) (0 : Int32)) fun (w1 : MEM) => f_X10_sunny_7 fu fu l0 (0 : Int32) w1 := rfl
theorem w_X10_sunny {X : SCR} {d rc rs : Nat} {Q : PO → PH → Prop} {o : Int32} {w1 : MEM} {fu : Nat} (hd : 1 ≤ d) (hq : ∀ h1, WH X h1 w1 → Q (.inl (some (vI o))) h1) {l0 : Nat} {w : MEM} {h : PH} (wh : WH X h w) (hv_l0 : vo 10 l0 = true) (hF : f_X10_sunny fu l0 w = some (o, w1)) : PW d M_X10_sunny Q rc rs 0 [vR (1000, l0), vU] [] h := by
  replace hF := (E_X10_sunny fu l0 w).symm.trans hF
  refine r_X10_sunny_0 ?_
  replace hF := lt_of hF
  refine sF_S wh rfl hv_l0 ?_
  clear wh
  intro h wh
  exact w_X10_sunny_7 hd hq  fu _ _ _ _ wh hv_l0 hF
theorem c_X10_sunny {X : SCR} {fu : Nat} {o : Int32} {w1 : MEM} {a0 : Nat} {w : MEM} {h : PH} (wh : WH X h w) (h0 : vo 10 a0 = true) (hF : f_X10_sunny fu a0 w = some (o, w1)) : CT 1 M_X10_sunny [vR (1000, a0)] h 0 0 (QP X (.inl (some (vI o))) w1) :=
  CT_of mk_X10_sunny (Nat.le_of_ble_eq_true rfl) rfl (w_X10_sunny (fu := fu) (rc := 0) (rs := 0) (hd := Nat.le_refl 1) (hq := fun h1 g => ⟨rfl, g⟩) wh h0 hF)
-- X10_gossip
def f_X10_gossip_29 (fu : Nat) : Nat → Nat → Int32 → Int32 → Int32 → Int32 → MEM → Option (Int32 × MEM)
  | 0, _, _, _, _, _, _ => none
  | n + 1, l0, l1, l2, l3, l4, w => if l4 < (rS w (11022, l0)) then (bnd (f_X10_twosOf fu l0 l4 w) fun (x2 : Int32) (w1 : MEM) => bnd (f_X10_ones fu x2 w1) fun (x4 : Int32) (w3 : MEM) => if l3 < x4 then (bnd (f_X10_twosOf fu l0 l4 w3) fun (x6 : Int32) (w5 : MEM) => bnd (f_X10_ones fu x6 w5) fun (x8 : Int32) (w7 : MEM) => f_X10_gossip_29 fu n l0 l1 l4 x8 (l4 + (1 : Int32)) w7) else (f_X10_gossip_29 fu n l0 l1 l2 l3 (l4 + (1 : Int32)) w3)) else (if l1 = 0 then (some (l2, w)) else (if l2 = (-1 : Int32) then (some (l2, w)) else (some (l3, w))))
theorem E_X10_gossip_29 (fu : Nat) (n : Nat) (l0 : Nat) (l1 : Int32) (l2 : Int32) (l3 : Int32) (l4 : Int32) (w : MEM) : f_X10_gossip_29 fu (n + 1) l0 l1 l2 l3 l4 w = if l4 < (rS w (11022, l0)) then (bnd (f_X10_twosOf fu l0 l4 w) fun (x2 : Int32) (w1 : MEM) => bnd (f_X10_ones fu x2 w1) fun (x4 : Int32) (w3 : MEM) => if l3 < x4 then (bnd (f_X10_twosOf fu l0 l4 w3) fun (x6 : Int32) (w5 : MEM) => bnd (f_X10_ones fu x6 w5) fun (x8 : Int32) (w7 : MEM) => f_X10_gossip_29 fu n l0 l1 l4 x8 (l4 + (1 : Int32)) w7) else (f_X10_gossip_29 fu n l0 l1 l2 l3 (l4 + (1 : Int32)) w3)) else (if l1 = 0 then (some (l2, w)) else (if l2 = (-1 : Int32) then (some (l2, w)) else (some (l3, w)))) := rfl
theorem w_X10_gossip_29 {X : SCR} {d rc rs : Nat} {Q : PO → PH → Prop} {o : Int32} {w1 : MEM} {fu : Nat} (hd : 1 ≤ d) (hq : ∀ h1, WH X h1 w1 → Q (.inl (some (vI o))) h1) : ∀ (n : Nat) (l0 : Nat) (l1 : Int32) (l2 : Int32) (l3 : Int32) (l4 : Int32) (w : MEM) (h : PH), WH X h w → vo 10 l0 = true → f_X10_gossip_29 fu n l0 l1 l2 l3 l4 w = some (o, w1) → PW d M_X10_gossip Q rc rs 29 [vR (1000, l0), vI l1, vI l2, vI l3, vI l4] [] h := by
  intro n
  induction n with
  | zero => intro l0 l1 l2 l3 l4 w h wh hv_l0 hF; cases hF
  | succ n ih =>
    intro l0 l1 l2 l3 l4 w h wh hv_l0 hF
    replace hF := (E_X10_gossip_29 fu n l0 l1 l2 l3 l4 w).symm.trans hF
    refine r_X10_gossip_29 ?_
    refine gI_of (wh.1 11022 _ rfl hv_l0) ?_
    refine ⟨fun c => ?_, fun c => ?_⟩
    · replace hF := if_ofT c hF
      refine ⟨⟨_, wh.1 11000 _ rfl hv_l0⟩, ?_⟩
      obtain ⟨x2, w1, hG, hF⟩ := bnd_of hF
      refine cl_I (D := 0) (Nat.le_trans (by decide) hd) (c_X10_twosOf wh hv_l0 hG) ?_
      clear hG
      clear wh
      intro h wh
      obtain ⟨x4, w3, hG, hF⟩ := bnd_of hF
      refine cl_I (D := 0) (Nat.le_trans (by decide) hd) (c_X10_ones wh  hG) ?_
      clear hG
      clear wh
      intro h wh
      refine ⟨fun c => ?_, fun c => ?_⟩
      · replace hF := if_ofT c hF
        refine ⟨⟨_, wh.1 11000 _ rfl hv_l0⟩, ?_⟩
        obtain ⟨x6, w5, hG, hF⟩ := bnd_of hF
        refine cl_I (D := 0) (Nat.le_trans (by decide) hd) (c_X10_twosOf wh hv_l0 hG) ?_
        clear hG
        clear wh
        intro h wh
        obtain ⟨x8, w7, hG, hF⟩ := bnd_of hF
        refine cl_I (D := 0) (Nat.le_trans (by decide) hd) (c_X10_ones wh  hG) ?_
        clear hG
        clear wh
        intro h wh
        exact ih _ _ _ _ _ _ _ wh hv_l0 hF
      · replace hF := if_ofF c hF
        exact ih _ _ _ _ _ _ _ wh hv_l0 hF
    · replace hF := if_ofF c hF
      refine ⟨fun c => ?_, fun c => ?_⟩
      · replace hF := if_ofT c hF
        obtain ⟨rfl, rfl⟩ := some_of hF
        exact hq _ wh
      · replace hF := if_ofF c hF
        refine ⟨fun c => ?_, fun c => ?_⟩
        · replace hF := if_ofT c hF
          obtain ⟨rfl, rfl⟩ := some_of hF
          exact hq _ wh
        · replace hF := if_ofF c hF
          obtain ⟨rfl, rfl⟩ := some_of hF
          exact hq _ wh
def f_X10_gossip (fu : Nat) (l0 : Nat) (l1 : Int32) (w : MEM) : Option (Int32 × MEM) := lt (sS w (11000, l0) (0 : Int32)) fun (w1 : MEM) => bnd (f_X10_within fu l1 (0 : Int32) (1 : Int32) w1) fun (x3 : Int32) (w2 : MEM) => bnd (f_X10_may fu l0 x3 (1 : Int32) (1 : Int32) w2) fun (x5 : Int32) (w4 : MEM) => if x5 = 0 then (some ((0 : Int32), w4)) else (f_X10_gossip_29 fu fu l0 l1 (-1 : Int32) (0 : Int32) (0 : Int32) w4)
theorem E_X10_gossip (fu : Nat) (l0 : Nat) (l1 : Int32) (w : MEM) : f_X10_gossip fu l0 l1 w = lt (sS w (11000, l0) (0 : Int32)) fun (w1 : MEM) => bnd (f_X10_within fu l1 (0 : Int32) (1 : Int32) w1) fun (x3 : Int32) (w2 : MEM) => bnd (f_X10_may fu l0 x3 (1 : Int32) (1 : Int32) w2) fun (x5 : Int32) (w4 : MEM) => if x5 = 0 then (some ((0 : Int32), w4)) else (f_X10_gossip_29 fu fu l0 l1 (-1 : Int32) (0 : Int32) (0 : Int32) w4) := rfl
theorem w_X10_gossip {X : SCR} {d rc rs : Nat} {Q : PO → PH → Prop} {o : Int32} {w1 : MEM} {fu : Nat} (hd : 1 ≤ d) (hq : ∀ h1, WH X h1 w1 → Q (.inl (some (vI o))) h1) {l0 : Nat} {l1 : Int32} {w : MEM} {h : PH} (wh : WH X h w) (hv_l0 : vo 10 l0 = true) (hF : f_X10_gossip fu l0 l1 w = some (o, w1)) : PW d M_X10_gossip Q rc rs 0 [vR (1000, l0), vI l1, vU, vU, vU] [] h := by
  replace hF := (E_X10_gossip fu l0 l1 w).symm.trans hF
  refine r_X10_gossip_0 ?_
  replace hF := lt_of hF
  refine sF_S wh rfl hv_l0 ?_
  clear wh
  intro h wh
  obtain ⟨x3, w2, hG, hF⟩ := bnd_of hF
  refine cl_I (D := 0) (Nat.le_trans (by decide) hd) (c_X10_within wh  hG) ?_
  clear hG
  clear wh
  intro h wh
  refine ⟨⟨_, wh.1 11000 _ rfl hv_l0⟩, ?_⟩
  obtain ⟨x5, w4, hG, hF⟩ := bnd_of hF
  refine cl_I (D := 0) (Nat.le_trans (by decide) hd) (c_X10_may wh hv_l0 hG) ?_
  clear hG
  clear wh
  intro h wh
  refine ⟨fun c => ?_, fun c => ?_⟩
  · replace hF := if_ofT c hF
    obtain ⟨rfl, rfl⟩ := some_of hF
    exact hq _ wh
  · replace hF := if_ofF c hF
    exact w_X10_gossip_29 hd hq  fu _ _ _ _ _ _ _ wh hv_l0 hF
theorem c_X10_gossip {X : SCR} {fu : Nat} {o : Int32} {w1 : MEM} {a0 : Nat} {a1 : Int32} {w : MEM} {h : PH} (wh : WH X h w) (h0 : vo 10 a0 = true) (hF : f_X10_gossip fu a0 a1 w = some (o, w1)) : CT 1 M_X10_gossip [vR (1000, a0), vI a1] h 0 0 (QP X (.inl (some (vI o))) w1) :=
  CT_of mk_X10_gossip (Nat.le_of_ble_eq_true rfl) rfl (w_X10_gossip (fu := fu) (rc := 0) (rs := 0) (hd := Nat.le_refl 1) (hq := fun h1 g => ⟨rfl, g⟩) wh h0 hF)
-- X10_draws
def f_X10_draws (fu : Nat) (l0 : Nat) (l1 : Int32) (w : MEM) : Option (Int32 × MEM) := lt (sS w (11052, l0) (((rS w (11052, l0)) * (1103515245 : Int32)) + (12345 : Int32))) fun (w1 : MEM) => if l1 = 0 then none else (some (((((rS w1 (11052, l0)) >>> ((16 : Int32) &&& 31)) &&& (32767 : Int32)) - (((rS w1 (11052, l0)) >>> ((16 : Int32) &&& 31)) &&& (32767 : Int32)) / l1 * l1), w1))
theorem E_X10_draws (fu : Nat) (l0 : Nat) (l1 : Int32) (w : MEM) : f_X10_draws fu l0 l1 w = lt (sS w (11052, l0) (((rS w (11052, l0)) * (1103515245 : Int32)) + (12345 : Int32))) fun (w1 : MEM) => if l1 = 0 then none else (some (((((rS w1 (11052, l0)) >>> ((16 : Int32) &&& 31)) &&& (32767 : Int32)) - (((rS w1 (11052, l0)) >>> ((16 : Int32) &&& 31)) &&& (32767 : Int32)) / l1 * l1), w1)) := rfl
theorem w_X10_draws {X : SCR} {d rc rs : Nat} {Q : PO → PH → Prop} {o : Int32} {w1 : MEM} {fu : Nat} (hd : 0 ≤ d) (hq : ∀ h1, WH X h1 w1 → Q (.inl (some (vI o))) h1) {l0 : Nat} {l1 : Int32} {w : MEM} {h : PH} (wh : WH X h w) (hv_l0 : vo 10 l0 = true) (hF : f_X10_draws fu l0 l1 w = some (o, w1)) : PW d M_X10_draws Q rc rs 0 [vR (1000, l0), vI l1] [] h := by
  replace hF := (E_X10_draws fu l0 l1 w).symm.trans hF
  refine r_X10_draws_0 ?_
  refine gI_of (wh.1 11052 _ rfl hv_l0) ?_
  replace hF := lt_of hF
  refine sF_S wh rfl hv_l0 ?_
  clear wh
  intro h wh
  refine gI_of (wh.1 11052 _ rfl hv_l0) ?_
  obtain ⟨c, hF⟩ := nzF_of hF
  refine ⟨c, ?_⟩
  obtain ⟨rfl, rfl⟩ := some_of hF
  exact hq _ wh
theorem c_X10_draws {X : SCR} {fu : Nat} {o : Int32} {w1 : MEM} {a0 : Nat} {a1 : Int32} {w : MEM} {h : PH} (wh : WH X h w) (h0 : vo 10 a0 = true) (hF : f_X10_draws fu a0 a1 w = some (o, w1)) : CT 0 M_X10_draws [vR (1000, a0), vI a1] h 0 0 (QP X (.inl (some (vI o))) w1) :=
  CT_of mk_X10_draws (Nat.le_of_ble_eq_true rfl) rfl (w_X10_draws (fu := fu) (rc := 0) (rs := 0) (hd := Nat.le_refl 0) (hq := fun h1 g => ⟨rfl, g⟩) wh h0 hF)
-- X10_yearGoes
def f_X10_yearGoes_11 (fu : Nat) : Nat → Nat → Int32 → Int32 → MEM → Option (Unit × MEM)
  | 0, _, _, _, _ => none
  | n + 1, l0, l2, l3, w => if l3 < l2 then (if 0 < (rS w (11022, l0)) then (bnd (f_X10_draws fu l0 (rS w (11022, l0)) w) fun (x4 : Int32) (w3 : MEM) => bnd (f_X10_draws fu l0 (5 : Int32) w3) fun (x6 : Int32) (w5 : MEM) => if x6 = 0 then (bnd (f_X10_goes fu l0 (5 : Int32) x4 (0 : Int32) w5) fun (x24 : Int32) (w23 : MEM) => bnd (f_X10_passes fu l0 w23) fun (u26 : Unit) (w25 : MEM) => f_X10_yearGoes_11 fu n l0 l2 (l3 + (1 : Int32)) w25) else (if x6 = (1 : Int32) then (bnd (f_X10_goes fu l0 (0 : Int32) x4 (0 : Int32) w5) fun (x20 : Int32) (w19 : MEM) => bnd (f_X10_passes fu l0 w19) fun (u22 : Unit) (w21 : MEM) => f_X10_yearGoes_11 fu n l0 l2 (l3 + (1 : Int32)) w21) else (if x6 = (2 : Int32) then (bnd (f_X10_goes fu l0 (4 : Int32) x4 (0 : Int32) w5) fun (x16 : Int32) (w15 : MEM) => bnd (f_X10_passes fu l0 w15) fun (u18 : Unit) (w17 : MEM) => f_X10_yearGoes_11 fu n l0 l2 (l3 + (1 : Int32)) w17) else (if x6 = (3 : Int32) then (bnd (f_X10_goes fu l0 (1 : Int32) x4 (0 : Int32) w5) fun (x12 : Int32) (w11 : MEM) => bnd (f_X10_passes fu l0 w11) fun (u14 : Unit) (w13 : MEM) => f_X10_yearGoes_11 fu n l0 l2 (l3 + (1 : Int32)) w13) else (bnd (f_X10_goes fu l0 (2 : Int32) x4 (0 : Int32) w5) fun (x8 : Int32) (w7 : MEM) => bnd (f_X10_passes fu l0 w7) fun (u10 : Unit) (w9 : MEM) => f_X10_yearGoes_11 fu n l0 l2 (l3 + (1 : Int32)) w9))))) else (bnd (f_X10_passes fu l0 w) fun (u2 : Unit) (w1 : MEM) => f_X10_yearGoes_11 fu n l0 l2 (l3 + (1 : Int32)) w1)) else (some ((), w))
theorem E_X10_yearGoes_11 (fu : Nat) (n : Nat) (l0 : Nat) (l2 : Int32) (l3 : Int32) (w : MEM) : f_X10_yearGoes_11 fu (n + 1) l0 l2 l3 w = if l3 < l2 then (if 0 < (rS w (11022, l0)) then (bnd (f_X10_draws fu l0 (rS w (11022, l0)) w) fun (x4 : Int32) (w3 : MEM) => bnd (f_X10_draws fu l0 (5 : Int32) w3) fun (x6 : Int32) (w5 : MEM) => if x6 = 0 then (bnd (f_X10_goes fu l0 (5 : Int32) x4 (0 : Int32) w5) fun (x24 : Int32) (w23 : MEM) => bnd (f_X10_passes fu l0 w23) fun (u26 : Unit) (w25 : MEM) => f_X10_yearGoes_11 fu n l0 l2 (l3 + (1 : Int32)) w25) else (if x6 = (1 : Int32) then (bnd (f_X10_goes fu l0 (0 : Int32) x4 (0 : Int32) w5) fun (x20 : Int32) (w19 : MEM) => bnd (f_X10_passes fu l0 w19) fun (u22 : Unit) (w21 : MEM) => f_X10_yearGoes_11 fu n l0 l2 (l3 + (1 : Int32)) w21) else (if x6 = (2 : Int32) then (bnd (f_X10_goes fu l0 (4 : Int32) x4 (0 : Int32) w5) fun (x16 : Int32) (w15 : MEM) => bnd (f_X10_passes fu l0 w15) fun (u18 : Unit) (w17 : MEM) => f_X10_yearGoes_11 fu n l0 l2 (l3 + (1 : Int32)) w17) else (if x6 = (3 : Int32) then (bnd (f_X10_goes fu l0 (1 : Int32) x4 (0 : Int32) w5) fun (x12 : Int32) (w11 : MEM) => bnd (f_X10_passes fu l0 w11) fun (u14 : Unit) (w13 : MEM) => f_X10_yearGoes_11 fu n l0 l2 (l3 + (1 : Int32)) w13) else (bnd (f_X10_goes fu l0 (2 : Int32) x4 (0 : Int32) w5) fun (x8 : Int32) (w7 : MEM) => bnd (f_X10_passes fu l0 w7) fun (u10 : Unit) (w9 : MEM) => f_X10_yearGoes_11 fu n l0 l2 (l3 + (1 : Int32)) w9))))) else (bnd (f_X10_passes fu l0 w) fun (u2 : Unit) (w1 : MEM) => f_X10_yearGoes_11 fu n l0 l2 (l3 + (1 : Int32)) w1)) else (some ((), w)) := rfl
theorem w_X10_yearGoes_11 {X : SCR} {d rc rs : Nat} {Q : PO → PH → Prop} {o : Unit} {w1 : MEM} {fu : Nat} (hd : 7 ≤ d) (hq : ∀ h1, WH X h1 w1 → Q (.inl none) h1) : ∀ (n : Nat) (l0 : Nat) (l2 : Int32) (l3 : Int32) (w : MEM) (h : PH), WH X h w → vo 10 l0 = true → f_X10_yearGoes_11 fu n l0 l2 l3 w = some (o, w1) → PW d M_X10_yearGoes Q rc rs 11 [vR (1000, l0), vU, vI l2, vI l3, vU, vU] [] h := by
  intro n
  induction n with
  | zero => intro l0 l2 l3 w h wh hv_l0 hF; cases hF
  | succ n ih =>
    intro l0 l2 l3 w h wh hv_l0 hF
    replace hF := (E_X10_yearGoes_11 fu n l0 l2 l3 w).symm.trans hF
    refine r_X10_yearGoes_11 ?_
    refine ⟨fun c => ?_, fun c => ?_⟩
    · replace hF := if_ofT c hF
      refine gI_of (wh.1 11022 _ rfl hv_l0) ?_
      refine ⟨fun c => ?_, fun c => ?_⟩
      · replace hF := if_ofT c hF
        refine gI_of (wh.1 11022 _ rfl hv_l0) ?_
        refine ⟨⟨_, wh.1 11000 _ rfl hv_l0⟩, ?_⟩
        obtain ⟨x4, w3, hG, hF⟩ := bnd_of hF
        refine cl_I (D := 0) (Nat.le_trans (by decide) hd) (c_X10_draws wh hv_l0 hG) ?_
        clear hG
        clear wh
        intro h wh
        refine ⟨⟨_, wh.1 11000 _ rfl hv_l0⟩, ?_⟩
        obtain ⟨x6, w5, hG, hF⟩ := bnd_of hF
        refine cl_I (D := 0) (Nat.le_trans (by decide) hd) (c_X10_draws wh hv_l0 hG) ?_
        clear hG
        clear wh
        intro h wh
        refine ⟨fun c => ?_, fun c => ?_⟩
        · replace hF := if_ofT c hF
          refine ⟨⟨_, wh.1 11000 _ rfl hv_l0⟩, ?_⟩
          obtain ⟨x24, w23, hG, hF⟩ := bnd_of hF
          refine cl_I (D := 6) (Nat.le_trans (by decide) hd) (c_X10_goes wh hv_l0 hG) ?_
          clear hG
          clear wh
          intro h wh
          refine ⟨⟨_, wh.1 11000 _ rfl hv_l0⟩, ?_⟩
          obtain ⟨u26, w25, hG, hF⟩ := bnd_of hF
          refine cl_V (D := 5) (Nat.le_trans (by decide) hd) (c_X10_passes wh hv_l0 hG) ?_
          clear hG
          clear wh
          intro h wh
          exact ih _ _ _ _ _ wh hv_l0 hF
        · replace hF := if_ofF c hF
          refine ⟨fun c => ?_, fun c => ?_⟩
          · replace hF := if_ofT c hF
            refine ⟨⟨_, wh.1 11000 _ rfl hv_l0⟩, ?_⟩
            obtain ⟨x20, w19, hG, hF⟩ := bnd_of hF
            refine cl_I (D := 6) (Nat.le_trans (by decide) hd) (c_X10_goes wh hv_l0 hG) ?_
            clear hG
            clear wh
            intro h wh
            refine ⟨⟨_, wh.1 11000 _ rfl hv_l0⟩, ?_⟩
            obtain ⟨u22, w21, hG, hF⟩ := bnd_of hF
            refine cl_V (D := 5) (Nat.le_trans (by decide) hd) (c_X10_passes wh hv_l0 hG) ?_
            clear hG
            clear wh
            intro h wh
            exact ih _ _ _ _ _ wh hv_l0 hF
          · replace hF := if_ofF c hF
            refine ⟨fun c => ?_, fun c => ?_⟩
            · replace hF := if_ofT c hF
              refine ⟨⟨_, wh.1 11000 _ rfl hv_l0⟩, ?_⟩
              obtain ⟨x16, w15, hG, hF⟩ := bnd_of hF
              refine cl_I (D := 6) (Nat.le_trans (by decide) hd) (c_X10_goes wh hv_l0 hG) ?_
              clear hG
              clear wh
              intro h wh
              refine ⟨⟨_, wh.1 11000 _ rfl hv_l0⟩, ?_⟩
              obtain ⟨u18, w17, hG, hF⟩ := bnd_of hF
              refine cl_V (D := 5) (Nat.le_trans (by decide) hd) (c_X10_passes wh hv_l0 hG) ?_
              clear hG
              clear wh
              intro h wh
              exact ih _ _ _ _ _ wh hv_l0 hF
            · replace hF := if_ofF c hF
              refine ⟨fun c => ?_, fun c => ?_⟩
              · replace hF := if_ofT c hF
                refine ⟨⟨_, wh.1 11000 _ rfl hv_l0⟩, ?_⟩
                obtain ⟨x12, w11, hG, hF⟩ := bnd_of hF
                refine cl_I (D := 6) (Nat.le_trans (by decide) hd) (c_X10_goes wh hv_l0 hG) ?_
                clear hG
                clear wh
                intro h wh
                refine ⟨⟨_, wh.1 11000 _ rfl hv_l0⟩, ?_⟩
                obtain ⟨u14, w13, hG, hF⟩ := bnd_of hF
                refine cl_V (D := 5) (Nat.le_trans (by decide) hd) (c_X10_passes wh hv_l0 hG) ?_
                clear hG
                clear wh
                intro h wh
                exact ih _ _ _ _ _ wh hv_l0 hF
              · replace hF := if_ofF c hF
                refine ⟨⟨_, wh.1 11000 _ rfl hv_l0⟩, ?_⟩
                obtain ⟨x8, w7, hG, hF⟩ := bnd_of hF
                refine cl_I (D := 6) (Nat.le_trans (by decide) hd) (c_X10_goes wh hv_l0 hG) ?_
                clear hG
                clear wh
                intro h wh
                refine ⟨⟨_, wh.1 11000 _ rfl hv_l0⟩, ?_⟩
                obtain ⟨u10, w9, hG, hF⟩ := bnd_of hF
                refine cl_V (D := 5) (Nat.le_trans (by decide) hd) (c_X10_passes wh hv_l0 hG) ?_
                clear hG
                clear wh
                intro h wh
                exact ih _ _ _ _ _ wh hv_l0 hF
      · replace hF := if_ofF c hF
        refine ⟨⟨_, wh.1 11000 _ rfl hv_l0⟩, ?_⟩
        obtain ⟨u2, w1, hG, hF⟩ := bnd_of hF
        refine cl_V (D := 5) (Nat.le_trans (by decide) hd) (c_X10_passes wh hv_l0 hG) ?_
        clear hG
        clear wh
        intro h wh
        exact ih _ _ _ _ _ wh hv_l0 hF
    · replace hF := if_ofF c hF
      obtain ⟨rfl, rfl⟩ := some_of hF
      exact hq _ wh
def f_X10_yearGoes (fu : Nat) (l0 : Nat) (l1 : Int32) (l2 : Int32) (w : MEM) : Option (Unit × MEM) := bnd (f_X10_take fu l0 w) fun (u2 : Unit) (w1 : MEM) => lt (sS w1 (11052, l0) l1) fun (w3 : MEM) => f_X10_yearGoes_11 fu fu l0 l2 (0 : Int32) w3
theorem E_X10_yearGoes (fu : Nat) (l0 : Nat) (l1 : Int32) (l2 : Int32) (w : MEM) : f_X10_yearGoes fu l0 l1 l2 w = bnd (f_X10_take fu l0 w) fun (u2 : Unit) (w1 : MEM) => lt (sS w1 (11052, l0) l1) fun (w3 : MEM) => f_X10_yearGoes_11 fu fu l0 l2 (0 : Int32) w3 := rfl
theorem w_X10_yearGoes {X : SCR} {d rc rs : Nat} {Q : PO → PH → Prop} {o : Unit} {w1 : MEM} {fu : Nat} (hd : 7 ≤ d) (hq : ∀ h1, WH X h1 w1 → Q (.inl none) h1) {l0 : Nat} {l1 : Int32} {l2 : Int32} {w : MEM} {h : PH} (wh : WH X h w) (hv_l0 : vo 10 l0 = true) (hF : f_X10_yearGoes fu l0 l1 l2 w = some (o, w1)) : PW d M_X10_yearGoes Q rc rs 0 [vR (1000, l0), vI l1, vI l2, vU, vU, vU] [] h := by
  replace hF := (E_X10_yearGoes fu l0 l1 l2 w).symm.trans hF
  refine r_X10_yearGoes_0 ?_
  refine ⟨⟨_, wh.1 11000 _ rfl hv_l0⟩, ?_⟩
  obtain ⟨u2, w1, hG, hF⟩ := bnd_of hF
  refine cl_V (D := 1) (Nat.le_trans (by decide) hd) (c_X10_take wh hv_l0 hG) ?_
  clear hG
  clear wh
  intro h wh
  replace hF := lt_of hF
  refine sF_S wh rfl hv_l0 ?_
  clear wh
  intro h wh
  exact w_X10_yearGoes_11 hd hq  fu _ _ _ _ _ wh hv_l0 hF
theorem c_X10_yearGoes {X : SCR} {fu : Nat} {o : Unit} {w1 : MEM} {a0 : Nat} {a1 : Int32} {a2 : Int32} {w : MEM} {h : PH} (wh : WH X h w) (h0 : vo 10 a0 = true) (hF : f_X10_yearGoes fu a0 a1 a2 w = some (o, w1)) : CT 7 M_X10_yearGoes [vR (1000, a0), vI a1, vI a2] h 0 0 (QP X (.inl none) w1) :=
  CT_of mk_X10_yearGoes (Nat.le_of_ble_eq_true rfl) rfl (w_X10_yearGoes (fu := fu) (rc := 0) (rs := 0) (hd := Nat.le_refl 7) (hq := fun h1 g => ⟨rfl, g⟩) wh h0 hF)
-- X10_gaspsMore
def f_X10_gaspsMore_4 (fu : Nat) : Nat → Nat → Int32 → Int32 → MEM → Option (Int32 × MEM)
  | 0, _, _, _, _ => none
  | n + 1, l0, l1, l2, w => if l2 < (rS w (11022, l0)) then (ck (bI ((49 : Int32) + l2) 57) (ck (bI ((49 : Int32) + l2) 57) (lt ((l1 + ((rA w (1020, l0) ((49 : Int32) + l2)) - (rA w (1019, l0) ((49 : Int32) + l2))))) fun (v1 : Int32) => f_X10_gaspsMore_4 fu n l0 v1 (l2 + (1 : Int32)) w))) else (some (l1, w))
theorem E_X10_gaspsMore_4 (fu : Nat) (n : Nat) (l0 : Nat) (l1 : Int32) (l2 : Int32) (w : MEM) : f_X10_gaspsMore_4 fu (n + 1) l0 l1 l2 w = if l2 < (rS w (11022, l0)) then (ck (bI ((49 : Int32) + l2) 57) (ck (bI ((49 : Int32) + l2) 57) (lt ((l1 + ((rA w (1020, l0) ((49 : Int32) + l2)) - (rA w (1019, l0) ((49 : Int32) + l2))))) fun (v1 : Int32) => f_X10_gaspsMore_4 fu n l0 v1 (l2 + (1 : Int32)) w))) else (some (l1, w)) := rfl
theorem w_X10_gaspsMore_4 {X : SCR} {d rc rs : Nat} {Q : PO → PH → Prop} {o : Int32} {w1 : MEM} {fu : Nat} (hd : 0 ≤ d) (hq : ∀ h1, WH X h1 w1 → Q (.inl (some (vI o))) h1) : ∀ (n : Nat) (l0 : Nat) (l1 : Int32) (l2 : Int32) (w : MEM) (h : PH), WH X h w → vo 10 l0 = true → f_X10_gaspsMore_4 fu n l0 l1 l2 w = some (o, w1) → PW d M_X10_gaspsMore Q rc rs 4 [vR (1000, l0), vI l1, vI l2] [] h := by
  intro n
  induction n with
  | zero => intro l0 l1 l2 w h wh hv_l0 hF; cases hF
  | succ n ih =>
    intro l0 l1 l2 w h wh hv_l0 hF
    replace hF := (E_X10_gaspsMore_4 fu n l0 l1 l2 w).symm.trans hF
    refine r_X10_gaspsMore_4 ?_
    refine gI_of (wh.1 11022 _ rfl hv_l0) ?_
    refine ⟨fun c => ?_, fun c => ?_⟩
    · replace hF := if_ofT c hF
      refine gA_of (b := (1020, l0)) (wh.2.1 11043 _ rfl hv_l0) ?_
      obtain ⟨c, hF⟩ := ck_of hF
      refine xI_of wh (oA_1020 hv_l0) c ?_
      clear c
      refine gA_of (b := (1019, l0)) (wh.2.1 11042 _ rfl hv_l0) ?_
      obtain ⟨c, hF⟩ := ck_of hF
      refine xI_of wh (oA_1019 hv_l0) c ?_
      clear c
      replace hF := lt_of hF
      exact ih _ _ _ _ _ wh hv_l0 hF
    · replace hF := if_ofF c hF
      obtain ⟨rfl, rfl⟩ := some_of hF
      exact hq _ wh
def f_X10_gaspsMore (fu : Nat) (l0 : Nat) (w : MEM) : Option (Int32 × MEM) := f_X10_gaspsMore_4 fu fu l0 (0 : Int32) (0 : Int32) w
theorem E_X10_gaspsMore (fu : Nat) (l0 : Nat) (w : MEM) : f_X10_gaspsMore fu l0 w = f_X10_gaspsMore_4 fu fu l0 (0 : Int32) (0 : Int32) w := rfl
theorem w_X10_gaspsMore {X : SCR} {d rc rs : Nat} {Q : PO → PH → Prop} {o : Int32} {w1 : MEM} {fu : Nat} (hd : 0 ≤ d) (hq : ∀ h1, WH X h1 w1 → Q (.inl (some (vI o))) h1) {l0 : Nat} {w : MEM} {h : PH} (wh : WH X h w) (hv_l0 : vo 10 l0 = true) (hF : f_X10_gaspsMore fu l0 w = some (o, w1)) : PW d M_X10_gaspsMore Q rc rs 0 [vR (1000, l0), vU, vU] [] h := by
  replace hF := (E_X10_gaspsMore fu l0 w).symm.trans hF
  refine r_X10_gaspsMore_0 ?_
  exact w_X10_gaspsMore_4 hd hq  fu _ _ _ _ _ wh hv_l0 hF
theorem c_X10_gaspsMore {X : SCR} {fu : Nat} {o : Int32} {w1 : MEM} {a0 : Nat} {w : MEM} {h : PH} (wh : WH X h w) (h0 : vo 10 a0 = true) (hF : f_X10_gaspsMore fu a0 w = some (o, w1)) : CT 0 M_X10_gaspsMore [vR (1000, a0)] h 0 0 (QP X (.inl (some (vI o))) w1) :=
  CT_of mk_X10_gaspsMore (Nat.le_of_ble_eq_true rfl) rfl (w_X10_gaspsMore (fu := fu) (rc := 0) (rs := 0) (hd := Nat.le_refl 0) (hq := fun h1 g => ⟨rfl, g⟩) wh h0 hF)
-- X10_year
def f_X10_year_30 (fu : Nat) (l0 : Nat) (l1 : Int32) (l2 : Int32) (l3 : Int32) (s0 : Nat) (s1 : Int32) (w : MEM) : Option (Int32 × MEM) := bnd (f_X10_may fu s0 s1 (1 : Int32) (1 : Int32) w) fun (x2 : Int32) (w1 : MEM) => if x2 = 0 then (some ((0 : Int32), w1)) else (bnd (f_X10_yearGoes fu l0 l1 l2 w1) fun (u4 : Unit) (w3 : MEM) => if l3 = 0 then (bnd (f_X10_sumOf fu l0 (7 : Int32) w3) fun (x12 : Int32) (w11 : MEM) => some (x12, w11)) else (if l3 = (1 : Int32) then (bnd (f_X10_ranked fu l0 (0 : Int32) w3) fun (x10 : Int32) (w9 : MEM) => some (x10, w9)) else (if l3 = (2 : Int32) then (bnd (f_X10_gaspsMore fu l0 w3) fun (x8 : Int32) (w7 : MEM) => some (x8, w7)) else (bnd (f_X10_standing fu l0 w3) fun (x6 : Int32) (w5 : MEM) => some (x6, w5)))))
theorem E_X10_year_30 (fu : Nat) (l0 : Nat) (l1 : Int32) (l2 : Int32) (l3 : Int32) (s0 : Nat) (s1 : Int32) (w : MEM) : f_X10_year_30 fu l0 l1 l2 l3 s0 s1 w = bnd (f_X10_may fu s0 s1 (1 : Int32) (1 : Int32) w) fun (x2 : Int32) (w1 : MEM) => if x2 = 0 then (some ((0 : Int32), w1)) else (bnd (f_X10_yearGoes fu l0 l1 l2 w1) fun (u4 : Unit) (w3 : MEM) => if l3 = 0 then (bnd (f_X10_sumOf fu l0 (7 : Int32) w3) fun (x12 : Int32) (w11 : MEM) => some (x12, w11)) else (if l3 = (1 : Int32) then (bnd (f_X10_ranked fu l0 (0 : Int32) w3) fun (x10 : Int32) (w9 : MEM) => some (x10, w9)) else (if l3 = (2 : Int32) then (bnd (f_X10_gaspsMore fu l0 w3) fun (x8 : Int32) (w7 : MEM) => some (x8, w7)) else (bnd (f_X10_standing fu l0 w3) fun (x6 : Int32) (w5 : MEM) => some (x6, w5))))) := rfl
theorem w_X10_year_30 {X : SCR} {d rc rs : Nat} {Q : PO → PH → Prop} {o : Int32} {w1 : MEM} {fu : Nat} (hd : 8 ≤ d) (hq : ∀ h1, WH X h1 w1 → Q (.inl (some (vI o))) h1) {l0 : Nat} {l1 : Int32} {l2 : Int32} {l3 : Int32} {s0 : Nat} {s1 : Int32} {w : MEM} {h : PH} (wh : WH X h w) (hv_l0 : vo 10 l0 = true) (hv_s0 : vo 10 s0 = true) (hF : f_X10_year_30 fu l0 l1 l2 l3 s0 s1 w = some (o, w1)) : PW d M_X10_year Q rc rs 30 [vR (1000, l0), vI l1, vI l2, vI l3] [vI s1, vR (1000, s0)] h := by
  replace hF := (E_X10_year_30 fu l0 l1 l2 l3 s0 s1 w).symm.trans hF
  refine r_X10_year_30 ?_
  refine ⟨⟨_, wh.1 11000 _ rfl hv_s0⟩, ?_⟩
  obtain ⟨x2, w1, hG, hF⟩ := bnd_of hF
  refine cl_I (D := 0) (Nat.le_trans (by decide) hd) (c_X10_may wh hv_s0 hG) ?_
  clear hG
  clear wh
  intro h wh
  refine ⟨fun c => ?_, fun c => ?_⟩
  · replace hF := if_ofT c hF
    obtain ⟨rfl, rfl⟩ := some_of hF
    exact hq _ wh
  · replace hF := if_ofF c hF
    refine ⟨⟨_, wh.1 11000 _ rfl hv_l0⟩, ?_⟩
    obtain ⟨u4, w3, hG, hF⟩ := bnd_of hF
    refine cl_V (D := 7) (Nat.le_trans (by decide) hd) (c_X10_yearGoes wh hv_l0 hG) ?_
    clear hG
    clear wh
    intro h wh
    refine ⟨fun c => ?_, fun c => ?_⟩
    · replace hF := if_ofT c hF
      refine ⟨⟨_, wh.1 11000 _ rfl hv_l0⟩, ?_⟩
      obtain ⟨x12, w11, hG, hF⟩ := bnd_of hF
      refine cl_I (D := 0) (Nat.le_trans (by decide) hd) (c_X10_sumOf wh hv_l0 hG) ?_
      clear hG
      clear wh
      intro h wh
      obtain ⟨rfl, rfl⟩ := some_of hF
      exact hq _ wh
    · replace hF := if_ofF c hF
      refine ⟨fun c => ?_, fun c => ?_⟩
      · replace hF := if_ofT c hF
        refine ⟨⟨_, wh.1 11000 _ rfl hv_l0⟩, ?_⟩
        obtain ⟨x10, w9, hG, hF⟩ := bnd_of hF
        refine cl_I (D := 0) (Nat.le_trans (by decide) hd) (c_X10_ranked wh hv_l0 hG) ?_
        clear hG
        clear wh
        intro h wh
        obtain ⟨rfl, rfl⟩ := some_of hF
        exact hq _ wh
      · replace hF := if_ofF c hF
        refine ⟨fun c => ?_, fun c => ?_⟩
        · replace hF := if_ofT c hF
          refine ⟨⟨_, wh.1 11000 _ rfl hv_l0⟩, ?_⟩
          obtain ⟨x8, w7, hG, hF⟩ := bnd_of hF
          refine cl_I (D := 0) (Nat.le_trans (by decide) hd) (c_X10_gaspsMore wh hv_l0 hG) ?_
          clear hG
          clear wh
          intro h wh
          obtain ⟨rfl, rfl⟩ := some_of hF
          exact hq _ wh
        · replace hF := if_ofF c hF
          refine ⟨⟨_, wh.1 11000 _ rfl hv_l0⟩, ?_⟩
          obtain ⟨x6, w5, hG, hF⟩ := bnd_of hF
          refine cl_I (D := 0) (Nat.le_trans (by decide) hd) (c_X10_standing wh hv_l0 hG) ?_
          clear hG
          clear wh
          intro h wh
          obtain ⟨rfl, rfl⟩ := some_of hF
          exact hq _ wh
def f_X10_year (fu : Nat) (l0 : Nat) (l1 : Int32) (l2 : Int32) (l3 : Int32) (w : MEM) : Option (Int32 × MEM) := lt (sS w (11000, l0) (0 : Int32)) fun (w1 : MEM) => bnd (f_X10_within fu l2 (1 : Int32) (96 : Int32) w1) fun (x3 : Int32) (w2 : MEM) => if x3 = 0 then (f_X10_year_30 fu l0 l1 l2 l3 l0 (0 : Int32) w2) else (bnd (f_X10_within fu l3 (0 : Int32) (3 : Int32) w2) fun (x5 : Int32) (w4 : MEM) => if x5 = 0 then (f_X10_year_30 fu l0 l1 l2 l3 l0 (0 : Int32) w4) else (f_X10_year_30 fu l0 l1 l2 l3 l0 (1 : Int32) w4))
theorem E_X10_year (fu : Nat) (l0 : Nat) (l1 : Int32) (l2 : Int32) (l3 : Int32) (w : MEM) : f_X10_year fu l0 l1 l2 l3 w = lt (sS w (11000, l0) (0 : Int32)) fun (w1 : MEM) => bnd (f_X10_within fu l2 (1 : Int32) (96 : Int32) w1) fun (x3 : Int32) (w2 : MEM) => if x3 = 0 then (f_X10_year_30 fu l0 l1 l2 l3 l0 (0 : Int32) w2) else (bnd (f_X10_within fu l3 (0 : Int32) (3 : Int32) w2) fun (x5 : Int32) (w4 : MEM) => if x5 = 0 then (f_X10_year_30 fu l0 l1 l2 l3 l0 (0 : Int32) w4) else (f_X10_year_30 fu l0 l1 l2 l3 l0 (1 : Int32) w4)) := rfl
theorem w_X10_year {X : SCR} {d rc rs : Nat} {Q : PO → PH → Prop} {o : Int32} {w1 : MEM} {fu : Nat} (hd : 8 ≤ d) (hq : ∀ h1, WH X h1 w1 → Q (.inl (some (vI o))) h1) {l0 : Nat} {l1 : Int32} {l2 : Int32} {l3 : Int32} {w : MEM} {h : PH} (wh : WH X h w) (hv_l0 : vo 10 l0 = true) (hF : f_X10_year fu l0 l1 l2 l3 w = some (o, w1)) : PW d M_X10_year Q rc rs 0 [vR (1000, l0), vI l1, vI l2, vI l3] [] h := by
  replace hF := (E_X10_year fu l0 l1 l2 l3 w).symm.trans hF
  refine r_X10_year_0 ?_
  replace hF := lt_of hF
  refine sF_S wh rfl hv_l0 ?_
  clear wh
  intro h wh
  obtain ⟨x3, w2, hG, hF⟩ := bnd_of hF
  refine cl_I (D := 0) (Nat.le_trans (by decide) hd) (c_X10_within wh  hG) ?_
  clear hG
  clear wh
  intro h wh
  refine ⟨fun c => ?_, fun c => ?_⟩
  · replace hF := if_ofT c hF
    exact w_X10_year_30 hd hq  wh hv_l0 hv_l0 hF
  · replace hF := if_ofF c hF
    obtain ⟨x5, w4, hG, hF⟩ := bnd_of hF
    refine cl_I (D := 0) (Nat.le_trans (by decide) hd) (c_X10_within wh  hG) ?_
    clear hG
    clear wh
    intro h wh
    refine ⟨fun c => ?_, fun c => ?_⟩
    · replace hF := if_ofT c hF
      exact w_X10_year_30 hd hq  wh hv_l0 hv_l0 hF
    · replace hF := if_ofF c hF
      exact w_X10_year_30 hd hq  wh hv_l0 hv_l0 hF
theorem c_X10_year {X : SCR} {fu : Nat} {o : Int32} {w1 : MEM} {a0 : Nat} {a1 : Int32} {a2 : Int32} {a3 : Int32} {w : MEM} {h : PH} (wh : WH X h w) (h0 : vo 10 a0 = true) (hF : f_X10_year fu a0 a1 a2 a3 w = some (o, w1)) : CT 8 M_X10_year [vR (1000, a0), vI a1, vI a2, vI a3] h 0 0 (QP X (.inl (some (vI o))) w1) :=
  CT_of mk_X10_year (Nat.le_of_ble_eq_true rfl) rfl (w_X10_year (fu := fu) (rc := 0) (rs := 0) (hd := Nat.le_refl 8) (hq := fun h1 g => ⟨rfl, g⟩) wh h0 hF)
-- X10_span
def f_X10_span_104 (fu : Nat) (k63 : Nat → Int32 → Int32 → Int32 → Int32 → Int32 → Int32 → Int32 → Int32 → MEM → Option (Int32 × MEM)) (l0 : Nat) (l1 : Int32) (l2 : Int32) (l3 : Int32) (l4 : Int32) (l6 : Int32) (l7 : Int32) (l8 : Int32) (l9 : Int32) (s0 : Int32) (w : MEM) : Option (Int32 × MEM) := if l6 < l9 then (bnd (f_X10_ranked fu l0 (0 : Int32) w) fun (x6 : Int32) (w5 : MEM) => if x6 = (-1 : Int32) then (lt ((l7 + (0 : Int32))) fun (v8 : Int32) => k63 l0 l1 l2 l3 l4 s0 l9 v8 (l8 + (1 : Int32)) w5) else (lt ((l7 + (1 : Int32))) fun (v7 : Int32) => k63 l0 l1 l2 l3 l4 s0 l9 v7 (l8 + (1 : Int32)) w5)) else (bnd (f_X10_ranked fu l0 (0 : Int32) w) fun (x2 : Int32) (w1 : MEM) => if x2 = (-1 : Int32) then (lt ((l7 + (0 : Int32))) fun (v4 : Int32) => k63 l0 l1 l2 l3 l4 s0 l6 v4 (l8 + (1 : Int32)) w1) else (lt ((l7 + (1 : Int32))) fun (v3 : Int32) => k63 l0 l1 l2 l3 l4 s0 l6 v3 (l8 + (1 : Int32)) w1))
theorem E_X10_span_104 (fu : Nat) (k63 : Nat → Int32 → Int32 → Int32 → Int32 → Int32 → Int32 → Int32 → Int32 → MEM → Option (Int32 × MEM)) (l0 : Nat) (l1 : Int32) (l2 : Int32) (l3 : Int32) (l4 : Int32) (l6 : Int32) (l7 : Int32) (l8 : Int32) (l9 : Int32) (s0 : Int32) (w : MEM) : f_X10_span_104 fu k63 l0 l1 l2 l3 l4 l6 l7 l8 l9 s0 w = if l6 < l9 then (bnd (f_X10_ranked fu l0 (0 : Int32) w) fun (x6 : Int32) (w5 : MEM) => if x6 = (-1 : Int32) then (lt ((l7 + (0 : Int32))) fun (v8 : Int32) => k63 l0 l1 l2 l3 l4 s0 l9 v8 (l8 + (1 : Int32)) w5) else (lt ((l7 + (1 : Int32))) fun (v7 : Int32) => k63 l0 l1 l2 l3 l4 s0 l9 v7 (l8 + (1 : Int32)) w5)) else (bnd (f_X10_ranked fu l0 (0 : Int32) w) fun (x2 : Int32) (w1 : MEM) => if x2 = (-1 : Int32) then (lt ((l7 + (0 : Int32))) fun (v4 : Int32) => k63 l0 l1 l2 l3 l4 s0 l6 v4 (l8 + (1 : Int32)) w1) else (lt ((l7 + (1 : Int32))) fun (v3 : Int32) => k63 l0 l1 l2 l3 l4 s0 l6 v3 (l8 + (1 : Int32)) w1)) := rfl
theorem w_X10_span_104 {X : SCR} {d rc rs : Nat} {Q : PO → PH → Prop} {o : Int32} {w1 : MEM} {fu : Nat} {k63 : Nat → Int32 → Int32 → Int32 → Int32 → Int32 → Int32 → Int32 → Int32 → MEM → Option (Int32 × MEM)} (hd : 8 ≤ d) (hq : ∀ h1, WH X h1 w1 → Q (.inl (some (vI o))) h1) (hk63 : ∀ (l0 : Nat) (l1 : Int32) (l2 : Int32) (l3 : Int32) (l4 : Int32) (l5 : Int32) (l6 : Int32) (l7 : Int32) (l8 : Int32) (w : MEM) (h : PH), WH X h w → vo 10 l0 = true → k63 l0 l1 l2 l3 l4 l5 l6 l7 l8 w = some (o, w1) → PW d M_X10_span Q rc rs 63 [vR (1000, l0), vI l1, vI l2, vI l3, vI l4, vI l5, vI l6, vI l7, vI l8, vU] [] h) {l0 : Nat} {l1 : Int32} {l2 : Int32} {l3 : Int32} {l4 : Int32} {l6 : Int32} {l7 : Int32} {l8 : Int32} {l9 : Int32} {s0 : Int32} {w : MEM} {h : PH} (wh : WH X h w) (hv_l0 : vo 10 l0 = true) (hF : f_X10_span_104 fu k63 l0 l1 l2 l3 l4 l6 l7 l8 l9 s0 w = some (o, w1)) : PW d M_X10_span Q rc rs 104 [vR (1000, l0), vI l1, vI l2, vI l3, vI l4, vU, vI l6, vI l7, vI l8, vI l9] [vI s0] h := by
  replace hF := (E_X10_span_104 fu k63 l0 l1 l2 l3 l4 l6 l7 l8 l9 s0 w).symm.trans hF
  refine r_X10_span_104 ?_
  refine ⟨fun c => ?_, fun c => ?_⟩
  · replace hF := if_ofT c hF
    refine ⟨⟨_, wh.1 11000 _ rfl hv_l0⟩, ?_⟩
    obtain ⟨x6, w5, hG, hF⟩ := bnd_of hF
    refine cl_I (D := 0) (Nat.le_trans (by decide) hd) (c_X10_ranked wh hv_l0 hG) ?_
    clear hG
    clear wh
    intro h wh
    refine ⟨fun c => ?_, fun c => ?_⟩
    · replace hF := if_ofT c hF
      replace hF := lt_of hF
      exact hk63 _ _ _ _ _ _ _ _ _ _ _ wh hv_l0 hF
    · replace hF := if_ofF c hF
      replace hF := lt_of hF
      exact hk63 _ _ _ _ _ _ _ _ _ _ _ wh hv_l0 hF
  · replace hF := if_ofF c hF
    refine ⟨⟨_, wh.1 11000 _ rfl hv_l0⟩, ?_⟩
    obtain ⟨x2, w1, hG, hF⟩ := bnd_of hF
    refine cl_I (D := 0) (Nat.le_trans (by decide) hd) (c_X10_ranked wh hv_l0 hG) ?_
    clear hG
    clear wh
    intro h wh
    refine ⟨fun c => ?_, fun c => ?_⟩
    · replace hF := if_ofT c hF
      replace hF := lt_of hF
      exact hk63 _ _ _ _ _ _ _ _ _ _ _ wh hv_l0 hF
    · replace hF := if_ofF c hF
      replace hF := lt_of hF
      exact hk63 _ _ _ _ _ _ _ _ _ _ _ wh hv_l0 hF
def f_X10_span_63 (fu : Nat) : Nat → Nat → Int32 → Int32 → Int32 → Int32 → Int32 → Int32 → Int32 → Int32 → MEM → Option (Int32 × MEM)
  | 0, _, _, _, _, _, _, _, _, _, _ => none
  | n + 1, l0, l1, l2, l3, l4, l5, l6, l7, l8, w => if l8 < l2 then (bnd (f_X10_yearGoes fu l0 (l1 + l8) l3 w) fun (u2 : Unit) (w1 : MEM) => bnd (f_X10_gaspsMore fu l0 w1) fun (x4 : Int32) (w3 : MEM) => if l5 = (-1 : Int32) then (f_X10_span_104 fu (fun l0 l1 l2 l3 l4 l5 l6 l7 l8 w => f_X10_span_63 fu n l0 l1 l2 l3 l4 l5 l6 l7 l8 w) l0 l1 l2 l3 l4 l6 l7 l8 x4 x4 w3) else (if x4 < l5 then (f_X10_span_104 fu (fun l0 l1 l2 l3 l4 l5 l6 l7 l8 w => f_X10_span_63 fu n l0 l1 l2 l3 l4 l5 l6 l7 l8 w) l0 l1 l2 l3 l4 l6 l7 l8 x4 x4 w3) else (f_X10_span_104 fu (fun l0 l1 l2 l3 l4 l5 l6 l7 l8 w => f_X10_span_63 fu n l0 l1 l2 l3 l4 l5 l6 l7 l8 w) l0 l1 l2 l3 l4 l6 l7 l8 x4 l5 w3))) else (if l4 = 0 then (some (l5, w)) else (if l4 = (1 : Int32) then (some (l6, w)) else (some (l7, w))))
theorem E_X10_span_63 (fu : Nat) (n : Nat) (l0 : Nat) (l1 : Int32) (l2 : Int32) (l3 : Int32) (l4 : Int32) (l5 : Int32) (l6 : Int32) (l7 : Int32) (l8 : Int32) (w : MEM) : f_X10_span_63 fu (n + 1) l0 l1 l2 l3 l4 l5 l6 l7 l8 w = if l8 < l2 then (bnd (f_X10_yearGoes fu l0 (l1 + l8) l3 w) fun (u2 : Unit) (w1 : MEM) => bnd (f_X10_gaspsMore fu l0 w1) fun (x4 : Int32) (w3 : MEM) => if l5 = (-1 : Int32) then (f_X10_span_104 fu (fun l0 l1 l2 l3 l4 l5 l6 l7 l8 w => f_X10_span_63 fu n l0 l1 l2 l3 l4 l5 l6 l7 l8 w) l0 l1 l2 l3 l4 l6 l7 l8 x4 x4 w3) else (if x4 < l5 then (f_X10_span_104 fu (fun l0 l1 l2 l3 l4 l5 l6 l7 l8 w => f_X10_span_63 fu n l0 l1 l2 l3 l4 l5 l6 l7 l8 w) l0 l1 l2 l3 l4 l6 l7 l8 x4 x4 w3) else (f_X10_span_104 fu (fun l0 l1 l2 l3 l4 l5 l6 l7 l8 w => f_X10_span_63 fu n l0 l1 l2 l3 l4 l5 l6 l7 l8 w) l0 l1 l2 l3 l4 l6 l7 l8 x4 l5 w3))) else (if l4 = 0 then (some (l5, w)) else (if l4 = (1 : Int32) then (some (l6, w)) else (some (l7, w)))) := rfl
theorem w_X10_span_63 {X : SCR} {d rc rs : Nat} {Q : PO → PH → Prop} {o : Int32} {w1 : MEM} {fu : Nat} (hd : 8 ≤ d) (hq : ∀ h1, WH X h1 w1 → Q (.inl (some (vI o))) h1) : ∀ (n : Nat) (l0 : Nat) (l1 : Int32) (l2 : Int32) (l3 : Int32) (l4 : Int32) (l5 : Int32) (l6 : Int32) (l7 : Int32) (l8 : Int32) (w : MEM) (h : PH), WH X h w → vo 10 l0 = true → f_X10_span_63 fu n l0 l1 l2 l3 l4 l5 l6 l7 l8 w = some (o, w1) → PW d M_X10_span Q rc rs 63 [vR (1000, l0), vI l1, vI l2, vI l3, vI l4, vI l5, vI l6, vI l7, vI l8, vU] [] h := by
  intro n
  induction n with
  | zero => intro l0 l1 l2 l3 l4 l5 l6 l7 l8 w h wh hv_l0 hF; cases hF
  | succ n ih =>
    intro l0 l1 l2 l3 l4 l5 l6 l7 l8 w h wh hv_l0 hF
    replace hF := (E_X10_span_63 fu n l0 l1 l2 l3 l4 l5 l6 l7 l8 w).symm.trans hF
    refine r_X10_span_63 ?_
    refine ⟨fun c => ?_, fun c => ?_⟩
    · replace hF := if_ofT c hF
      refine ⟨⟨_, wh.1 11000 _ rfl hv_l0⟩, ?_⟩
      obtain ⟨u2, w1, hG, hF⟩ := bnd_of hF
      refine cl_V (D := 7) (Nat.le_trans (by decide) hd) (c_X10_yearGoes wh hv_l0 hG) ?_
      clear hG
      clear wh
      intro h wh
      refine ⟨⟨_, wh.1 11000 _ rfl hv_l0⟩, ?_⟩
      obtain ⟨x4, w3, hG, hF⟩ := bnd_of hF
      refine cl_I (D := 0) (Nat.le_trans (by decide) hd) (c_X10_gaspsMore wh hv_l0 hG) ?_
      clear hG
      clear wh
      intro h wh
      refine ⟨fun c => ?_, fun c => ?_⟩
      · replace hF := if_ofT c hF
        exact w_X10_span_104 hd hq (fun l0 l1 l2 l3 l4 l5 l6 l7 l8 w h wh g0 hF => ih l0 l1 l2 l3 l4 l5 l6 l7 l8 w h wh g0 hF) wh hv_l0 hF
      · replace hF := if_ofF c hF
        refine ⟨fun c => ?_, fun c => ?_⟩
        · replace hF := if_ofT c hF
          exact w_X10_span_104 hd hq (fun l0 l1 l2 l3 l4 l5 l6 l7 l8 w h wh g0 hF => ih l0 l1 l2 l3 l4 l5 l6 l7 l8 w h wh g0 hF) wh hv_l0 hF
        · replace hF := if_ofF c hF
          exact w_X10_span_104 hd hq (fun l0 l1 l2 l3 l4 l5 l6 l7 l8 w h wh g0 hF => ih l0 l1 l2 l3 l4 l5 l6 l7 l8 w h wh g0 hF) wh hv_l0 hF
    · replace hF := if_ofF c hF
      refine ⟨fun c => ?_, fun c => ?_⟩
      · replace hF := if_ofT c hF
        obtain ⟨rfl, rfl⟩ := some_of hF
        exact hq _ wh
      · replace hF := if_ofF c hF
        refine ⟨fun c => ?_, fun c => ?_⟩
        · replace hF := if_ofT c hF
          obtain ⟨rfl, rfl⟩ := some_of hF
          exact hq _ wh
        · replace hF := if_ofF c hF
          obtain ⟨rfl, rfl⟩ := some_of hF
          exact hq _ wh
def f_X10_span (fu : Nat) (l0 : Nat) (l1 : Int32) (l2 : Int32) (l3 : Int32) (l4 : Int32) (w : MEM) : Option (Int32 × MEM) := lt (sS w (11000, l0) (0 : Int32)) fun (w1 : MEM) => bnd (f_X10_within fu l2 (1 : Int32) (20 : Int32) w1) fun (x3 : Int32) (w2 : MEM) => if x3 = 0 then (bnd (f_X10_may fu l0 (0 : Int32) (1 : Int32) (1 : Int32) w2) fun (x5 : Int32) (w4 : MEM) => if x5 = 0 then (some ((0 : Int32), w4)) else (f_X10_span_63 fu fu l0 l1 l2 l3 l4 (-1 : Int32) (0 : Int32) (0 : Int32) (0 : Int32) w4)) else (bnd (f_X10_within fu l3 (1 : Int32) (96 : Int32) w2) fun (x7 : Int32) (w6 : MEM) => if x7 = 0 then (bnd (f_X10_may fu l0 (0 : Int32) (1 : Int32) (1 : Int32) w6) fun (x9 : Int32) (w8 : MEM) => if x9 = 0 then (some ((0 : Int32), w8)) else (f_X10_span_63 fu fu l0 l1 l2 l3 l4 (-1 : Int32) (0 : Int32) (0 : Int32) (0 : Int32) w8)) else (bnd (f_X10_within fu l4 (0 : Int32) (2 : Int32) w6) fun (x11 : Int32) (w10 : MEM) => if x11 = 0 then (bnd (f_X10_may fu l0 (0 : Int32) (1 : Int32) (1 : Int32) w10) fun (x13 : Int32) (w12 : MEM) => if x13 = 0 then (some ((0 : Int32), w12)) else (f_X10_span_63 fu fu l0 l1 l2 l3 l4 (-1 : Int32) (0 : Int32) (0 : Int32) (0 : Int32) w12)) else (bnd (f_X10_may fu l0 (1 : Int32) (1 : Int32) (1 : Int32) w10) fun (x15 : Int32) (w14 : MEM) => if x15 = 0 then (some ((0 : Int32), w14)) else (f_X10_span_63 fu fu l0 l1 l2 l3 l4 (-1 : Int32) (0 : Int32) (0 : Int32) (0 : Int32) w14))))
theorem E_X10_span (fu : Nat) (l0 : Nat) (l1 : Int32) (l2 : Int32) (l3 : Int32) (l4 : Int32) (w : MEM) : f_X10_span fu l0 l1 l2 l3 l4 w = lt (sS w (11000, l0) (0 : Int32)) fun (w1 : MEM) => bnd (f_X10_within fu l2 (1 : Int32) (20 : Int32) w1) fun (x3 : Int32) (w2 : MEM) => if x3 = 0 then (bnd (f_X10_may fu l0 (0 : Int32) (1 : Int32) (1 : Int32) w2) fun (x5 : Int32) (w4 : MEM) => if x5 = 0 then (some ((0 : Int32), w4)) else (f_X10_span_63 fu fu l0 l1 l2 l3 l4 (-1 : Int32) (0 : Int32) (0 : Int32) (0 : Int32) w4)) else (bnd (f_X10_within fu l3 (1 : Int32) (96 : Int32) w2) fun (x7 : Int32) (w6 : MEM) => if x7 = 0 then (bnd (f_X10_may fu l0 (0 : Int32) (1 : Int32) (1 : Int32) w6) fun (x9 : Int32) (w8 : MEM) => if x9 = 0 then (some ((0 : Int32), w8)) else (f_X10_span_63 fu fu l0 l1 l2 l3 l4 (-1 : Int32) (0 : Int32) (0 : Int32) (0 : Int32) w8)) else (bnd (f_X10_within fu l4 (0 : Int32) (2 : Int32) w6) fun (x11 : Int32) (w10 : MEM) => if x11 = 0 then (bnd (f_X10_may fu l0 (0 : Int32) (1 : Int32) (1 : Int32) w10) fun (x13 : Int32) (w12 : MEM) => if x13 = 0 then (some ((0 : Int32), w12)) else (f_X10_span_63 fu fu l0 l1 l2 l3 l4 (-1 : Int32) (0 : Int32) (0 : Int32) (0 : Int32) w12)) else (bnd (f_X10_may fu l0 (1 : Int32) (1 : Int32) (1 : Int32) w10) fun (x15 : Int32) (w14 : MEM) => if x15 = 0 then (some ((0 : Int32), w14)) else (f_X10_span_63 fu fu l0 l1 l2 l3 l4 (-1 : Int32) (0 : Int32) (0 : Int32) (0 : Int32) w14)))) := rfl
theorem w_X10_span {X : SCR} {d rc rs : Nat} {Q : PO → PH → Prop} {o : Int32} {w1 : MEM} {fu : Nat} (hd : 8 ≤ d) (hq : ∀ h1, WH X h1 w1 → Q (.inl (some (vI o))) h1) {l0 : Nat} {l1 : Int32} {l2 : Int32} {l3 : Int32} {l4 : Int32} {w : MEM} {h : PH} (wh : WH X h w) (hv_l0 : vo 10 l0 = true) (hF : f_X10_span fu l0 l1 l2 l3 l4 w = some (o, w1)) : PW d M_X10_span Q rc rs 0 [vR (1000, l0), vI l1, vI l2, vI l3, vI l4, vU, vU, vU, vU, vU] [] h := by
  replace hF := (E_X10_span fu l0 l1 l2 l3 l4 w).symm.trans hF
  refine r_X10_span_0 ?_
  replace hF := lt_of hF
  refine sF_S wh rfl hv_l0 ?_
  clear wh
  intro h wh
  obtain ⟨x3, w2, hG, hF⟩ := bnd_of hF
  refine cl_I (D := 0) (Nat.le_trans (by decide) hd) (c_X10_within wh  hG) ?_
  clear hG
  clear wh
  intro h wh
  refine ⟨fun c => ?_, fun c => ?_⟩
  · replace hF := if_ofT c hF
    refine ⟨⟨_, wh.1 11000 _ rfl hv_l0⟩, ?_⟩
    obtain ⟨x5, w4, hG, hF⟩ := bnd_of hF
    refine cl_I (D := 0) (Nat.le_trans (by decide) hd) (c_X10_may wh hv_l0 hG) ?_
    clear hG
    clear wh
    intro h wh
    refine ⟨fun c => ?_, fun c => ?_⟩
    · replace hF := if_ofT c hF
      obtain ⟨rfl, rfl⟩ := some_of hF
      exact hq _ wh
    · replace hF := if_ofF c hF
      exact w_X10_span_63 hd hq  fu _ _ _ _ _ _ _ _ _ _ _ wh hv_l0 hF
  · replace hF := if_ofF c hF
    obtain ⟨x7, w6, hG, hF⟩ := bnd_of hF
    refine cl_I (D := 0) (Nat.le_trans (by decide) hd) (c_X10_within wh  hG) ?_
    clear hG
    clear wh
    intro h wh
    refine ⟨fun c => ?_, fun c => ?_⟩
    · replace hF := if_ofT c hF
      refine ⟨⟨_, wh.1 11000 _ rfl hv_l0⟩, ?_⟩
      obtain ⟨x9, w8, hG, hF⟩ := bnd_of hF
      refine cl_I (D := 0) (Nat.le_trans (by decide) hd) (c_X10_may wh hv_l0 hG) ?_
      clear hG
      clear wh
      intro h wh
      refine ⟨fun c => ?_, fun c => ?_⟩
      · replace hF := if_ofT c hF
        obtain ⟨rfl, rfl⟩ := some_of hF
        exact hq _ wh
      · replace hF := if_ofF c hF
        exact w_X10_span_63 hd hq  fu _ _ _ _ _ _ _ _ _ _ _ wh hv_l0 hF
    · replace hF := if_ofF c hF
      obtain ⟨x11, w10, hG, hF⟩ := bnd_of hF
      refine cl_I (D := 0) (Nat.le_trans (by decide) hd) (c_X10_within wh  hG) ?_
      clear hG
      clear wh
      intro h wh
      refine ⟨fun c => ?_, fun c => ?_⟩
      · replace hF := if_ofT c hF
        refine ⟨⟨_, wh.1 11000 _ rfl hv_l0⟩, ?_⟩
        obtain ⟨x13, w12, hG, hF⟩ := bnd_of hF
        refine cl_I (D := 0) (Nat.le_trans (by decide) hd) (c_X10_may wh hv_l0 hG) ?_
        clear hG
        clear wh
        intro h wh
        refine ⟨fun c => ?_, fun c => ?_⟩
        · replace hF := if_ofT c hF
          obtain ⟨rfl, rfl⟩ := some_of hF
          exact hq _ wh
        · replace hF := if_ofF c hF
          exact w_X10_span_63 hd hq  fu _ _ _ _ _ _ _ _ _ _ _ wh hv_l0 hF
      · replace hF := if_ofF c hF
        refine ⟨⟨_, wh.1 11000 _ rfl hv_l0⟩, ?_⟩
        obtain ⟨x15, w14, hG, hF⟩ := bnd_of hF
        refine cl_I (D := 0) (Nat.le_trans (by decide) hd) (c_X10_may wh hv_l0 hG) ?_
        clear hG
        clear wh
        intro h wh
        refine ⟨fun c => ?_, fun c => ?_⟩
        · replace hF := if_ofT c hF
          obtain ⟨rfl, rfl⟩ := some_of hF
          exact hq _ wh
        · replace hF := if_ofF c hF
          exact w_X10_span_63 hd hq  fu _ _ _ _ _ _ _ _ _ _ _ wh hv_l0 hF
theorem c_X10_span {X : SCR} {fu : Nat} {o : Int32} {w1 : MEM} {a0 : Nat} {a1 : Int32} {a2 : Int32} {a3 : Int32} {a4 : Int32} {w : MEM} {h : PH} (wh : WH X h w) (h0 : vo 10 a0 = true) (hF : f_X10_span fu a0 a1 a2 a3 a4 w = some (o, w1)) : CT 8 M_X10_span [vR (1000, a0), vI a1, vI a2, vI a3, vI a4] h 0 0 (QP X (.inl (some (vI o))) w1) :=
  CT_of mk_X10_span (Nat.le_of_ble_eq_true rfl) rfl (w_X10_span (fu := fu) (rc := 0) (rs := 0) (hd := Nat.le_refl 8) (hq := fun h1 g => ⟨rfl, g⟩) wh h0 hF)
-- X10_keepsRow
def f_X10_keepsRow_3 (fu : Nat) : Nat → Nat → Int32 → LA → Int32 → Int32 → Int32 → MEM → Option (Int32 × MEM)
  | 0, _, _, _, _, _, _, _ => none
  | n + 1, l0, l1, l2, l3, l4, l5, w => if l5 < l3 then (if l4 = 0 then (ck (bI (l1 + l5) 2910) (ck (bI l5 (aN l2.1)) (lt (sA w l2 l5 (rA w (1028, l0) (l1 + l5))) fun (w1 : MEM) => f_X10_keepsRow_3 fu n l0 l1 l2 l3 l4 (l5 + (1 : Int32)) w1))) else (ck (bI l5 (aN l2.1)) (ck (bI (l1 + l5) 2910) (lt (sA w (1028, l0) (l1 + l5) (rA w l2 l5)) fun (w2 : MEM) => f_X10_keepsRow_3 fu n l0 l1 l2 l3 l4 (l5 + (1 : Int32)) w2)))) else (some ((l1 + l3), w))
theorem E_X10_keepsRow_3 (fu : Nat) (n : Nat) (l0 : Nat) (l1 : Int32) (l2 : LA) (l3 : Int32) (l4 : Int32) (l5 : Int32) (w : MEM) : f_X10_keepsRow_3 fu (n + 1) l0 l1 l2 l3 l4 l5 w = if l5 < l3 then (if l4 = 0 then (ck (bI (l1 + l5) 2910) (ck (bI l5 (aN l2.1)) (lt (sA w l2 l5 (rA w (1028, l0) (l1 + l5))) fun (w1 : MEM) => f_X10_keepsRow_3 fu n l0 l1 l2 l3 l4 (l5 + (1 : Int32)) w1))) else (ck (bI l5 (aN l2.1)) (ck (bI (l1 + l5) 2910) (lt (sA w (1028, l0) (l1 + l5) (rA w l2 l5)) fun (w2 : MEM) => f_X10_keepsRow_3 fu n l0 l1 l2 l3 l4 (l5 + (1 : Int32)) w2)))) else (some ((l1 + l3), w)) := rfl
theorem w_X10_keepsRow_3 {X : SCR} {d rc rs : Nat} {Q : PO → PH → Prop} {o : Int32} {w1 : MEM} {fu : Nat} (hd : 0 ≤ d) (hq : ∀ h1, WH X h1 w1 → Q (.inl (some (vI o))) h1) : ∀ (n : Nat) (l0 : Nat) (l1 : Int32) (l2 : LA) (l3 : Int32) (l4 : Int32) (l5 : Int32) (w : MEM) (h : PH), WH X h w → vo 10 l0 = true → oA l2 0 → f_X10_keepsRow_3 fu n l0 l1 l2 l3 l4 l5 w = some (o, w1) → PW d M_X10_keepsRow Q rc rs 3 [vR (1000, l0), vI l1, vR l2, vI l3, vI l4, vI l5] [] h := by
  intro n
  induction n with
  | zero => intro l0 l1 l2 l3 l4 l5 w h wh hv_l0 ha_l2 hF; cases hF
  | succ n ih =>
    intro l0 l1 l2 l3 l4 l5 w h wh hv_l0 ha_l2 hF
    replace hF := (E_X10_keepsRow_3 fu n l0 l1 l2 l3 l4 l5 w).symm.trans hF
    refine r_X10_keepsRow_3 ?_
    refine ⟨fun c => ?_, fun c => ?_⟩
    · replace hF := if_ofT c hF
      refine ⟨fun c => ?_, fun c => ?_⟩
      · replace hF := if_ofT c hF
        refine gA_of (b := (1028, l0)) (wh.2.1 11053 _ rfl hv_l0) ?_
        obtain ⟨c, hF⟩ := ck_of hF
        refine xI_of wh (oA_1028 hv_l0) c ?_
        clear c
        obtain ⟨c, hF⟩ := ck_of hF
        replace hF := lt_of hF
        refine yI_of wh ha_l2 c ?_
        clear c wh
        intro h wh
        exact ih _ _ _ _ _ _ _ _ wh hv_l0 ha_l2 hF
      · replace hF := if_ofF c hF
        refine gA_of (b := (1028, l0)) (wh.2.1 11053 _ rfl hv_l0) ?_
        obtain ⟨c, hF⟩ := ck_of hF
        refine xI_of wh ha_l2 c ?_
        clear c
        obtain ⟨c, hF⟩ := ck_of hF
        replace hF := lt_of hF
        refine yI_of wh (oA_1028 hv_l0) c ?_
        clear c wh
        intro h wh
        exact ih _ _ _ _ _ _ _ _ wh hv_l0 ha_l2 hF
    · replace hF := if_ofF c hF
      obtain ⟨rfl, rfl⟩ := some_of hF
      exact hq _ wh
def f_X10_keepsRow (fu : Nat) (l0 : Nat) (l1 : Int32) (l2 : LA) (l3 : Int32) (l4 : Int32) (w : MEM) : Option (Int32 × MEM) := f_X10_keepsRow_3 fu fu l0 l1 l2 l3 l4 (0 : Int32) w
theorem E_X10_keepsRow (fu : Nat) (l0 : Nat) (l1 : Int32) (l2 : LA) (l3 : Int32) (l4 : Int32) (w : MEM) : f_X10_keepsRow fu l0 l1 l2 l3 l4 w = f_X10_keepsRow_3 fu fu l0 l1 l2 l3 l4 (0 : Int32) w := rfl
theorem w_X10_keepsRow {X : SCR} {d rc rs : Nat} {Q : PO → PH → Prop} {o : Int32} {w1 : MEM} {fu : Nat} (hd : 0 ≤ d) (hq : ∀ h1, WH X h1 w1 → Q (.inl (some (vI o))) h1) {l0 : Nat} {l1 : Int32} {l2 : LA} {l3 : Int32} {l4 : Int32} {w : MEM} {h : PH} (wh : WH X h w) (hv_l0 : vo 10 l0 = true) (ha_l2 : oA l2 0) (hF : f_X10_keepsRow fu l0 l1 l2 l3 l4 w = some (o, w1)) : PW d M_X10_keepsRow Q rc rs 0 [vR (1000, l0), vI l1, vR l2, vI l3, vI l4, vU] [] h := by
  replace hF := (E_X10_keepsRow fu l0 l1 l2 l3 l4 w).symm.trans hF
  refine r_X10_keepsRow_0 ?_
  exact w_X10_keepsRow_3 hd hq  fu _ _ _ _ _ _ _ _ wh hv_l0 ha_l2 hF
theorem c_X10_keepsRow {X : SCR} {fu : Nat} {o : Int32} {w1 : MEM} {a0 : Nat} {a1 : Int32} {a2 : LA} {a3 : Int32} {a4 : Int32} {w : MEM} {h : PH} (wh : WH X h w) (h0 : vo 10 a0 = true) (h1 : oA a2 0) (hF : f_X10_keepsRow fu a0 a1 a2 a3 a4 w = some (o, w1)) : CT 0 M_X10_keepsRow [vR (1000, a0), vI a1, vR a2, vI a3, vI a4] h 0 0 (QP X (.inl (some (vI o))) w1) :=
  CT_of mk_X10_keepsRow (Nat.le_of_ble_eq_true rfl) rfl (w_X10_keepsRow (fu := fu) (rc := 0) (rs := 0) (hd := Nat.le_refl 0) (hq := fun h1 g => ⟨rfl, g⟩) wh h0 h1 hF)
-- X10_keepsAll
def f_X10_keepsAll (fu : Nat) (l0 : Nat) (l1 : Int32) (l2 : Int32) (w : MEM) : Option (Unit × MEM) := bnd (f_X10_keepsRow fu l0 ((970 : Int32) * l1) (1019, l0) (57 : Int32) l2 w) fun (x2 : Int32) (w1 : MEM) => bnd (f_X10_keepsRow fu l0 x2 (1021, l0) (912 : Int32) l2 w1) fun (x4 : Int32) (w3 : MEM) => if l2 = 0 then (ck (bI x4 2910) (lt (sS w3 (11037, l0) (rA w3 (1028, l0) x4)) fun (w5 : MEM) => some ((), w5))) else (ck (bI x4 2910) (lt (sA w3 (1028, l0) x4 (rS w3 (11037, l0))) fun (w6 : MEM) => some ((), w6)))
theorem E_X10_keepsAll (fu : Nat) (l0 : Nat) (l1 : Int32) (l2 : Int32) (w : MEM) : f_X10_keepsAll fu l0 l1 l2 w = bnd (f_X10_keepsRow fu l0 ((970 : Int32) * l1) (1019, l0) (57 : Int32) l2 w) fun (x2 : Int32) (w1 : MEM) => bnd (f_X10_keepsRow fu l0 x2 (1021, l0) (912 : Int32) l2 w1) fun (x4 : Int32) (w3 : MEM) => if l2 = 0 then (ck (bI x4 2910) (lt (sS w3 (11037, l0) (rA w3 (1028, l0) x4)) fun (w5 : MEM) => some ((), w5))) else (ck (bI x4 2910) (lt (sA w3 (1028, l0) x4 (rS w3 (11037, l0))) fun (w6 : MEM) => some ((), w6))) := rfl
theorem w_X10_keepsAll {X : SCR} {d rc rs : Nat} {Q : PO → PH → Prop} {o : Unit} {w1 : MEM} {fu : Nat} (hd : 1 ≤ d) (hq : ∀ h1, WH X h1 w1 → Q (.inl none) h1) {l0 : Nat} {l1 : Int32} {l2 : Int32} {w : MEM} {h : PH} (wh : WH X h w) (hv_l0 : vo 10 l0 = true) (hF : f_X10_keepsAll fu l0 l1 l2 w = some (o, w1)) : PW d M_X10_keepsAll Q rc rs 0 [vR (1000, l0), vI l1, vI l2, vU] [] h := by
  replace hF := (E_X10_keepsAll fu l0 l1 l2 w).symm.trans hF
  refine r_X10_keepsAll_0 ?_
  refine gA_of (b := (1019, l0)) (wh.2.1 11042 _ rfl hv_l0) ?_
  refine ⟨⟨_, wh.1 11000 _ rfl hv_l0⟩, ?_⟩
  obtain ⟨x2, w1, hG, hF⟩ := bnd_of hF
  refine cl_I (D := 0) (Nat.le_trans (by decide) hd) (c_X10_keepsRow wh hv_l0 (oA_1019 hv_l0) hG) ?_
  clear hG
  clear wh
  intro h wh
  refine gA_of (b := (1021, l0)) (wh.2.1 11044 _ rfl hv_l0) ?_
  refine ⟨⟨_, wh.1 11000 _ rfl hv_l0⟩, ?_⟩
  obtain ⟨x4, w3, hG, hF⟩ := bnd_of hF
  refine cl_I (D := 0) (Nat.le_trans (by decide) hd) (c_X10_keepsRow wh hv_l0 (oA_1021 hv_l0) hG) ?_
  clear hG
  clear wh
  intro h wh
  refine ⟨fun c => ?_, fun c => ?_⟩
  · replace hF := if_ofT c hF
    refine gA_of (b := (1028, l0)) (wh.2.1 11053 _ rfl hv_l0) ?_
    obtain ⟨c, hF⟩ := ck_of hF
    refine xI_of wh (oA_1028 hv_l0) c ?_
    clear c
    replace hF := lt_of hF
    refine sF_S wh rfl hv_l0 ?_
    clear wh
    intro h wh
    obtain ⟨rfl, rfl⟩ := some_of hF
    exact hq _ wh
  · replace hF := if_ofF c hF
    refine gA_of (b := (1028, l0)) (wh.2.1 11053 _ rfl hv_l0) ?_
    refine gI_of (wh.1 11037 _ rfl hv_l0) ?_
    obtain ⟨c, hF⟩ := ck_of hF
    replace hF := lt_of hF
    refine yI_of wh (oA_1028 hv_l0) c ?_
    clear c wh
    intro h wh
    obtain ⟨rfl, rfl⟩ := some_of hF
    exact hq _ wh
theorem c_X10_keepsAll {X : SCR} {fu : Nat} {o : Unit} {w1 : MEM} {a0 : Nat} {a1 : Int32} {a2 : Int32} {w : MEM} {h : PH} (wh : WH X h w) (h0 : vo 10 a0 = true) (hF : f_X10_keepsAll fu a0 a1 a2 w = some (o, w1)) : CT 1 M_X10_keepsAll [vR (1000, a0), vI a1, vI a2] h 0 0 (QP X (.inl none) w1) :=
  CT_of mk_X10_keepsAll (Nat.le_of_ble_eq_true rfl) rfl (w_X10_keepsAll (fu := fu) (rc := 0) (rs := 0) (hd := Nat.le_refl 1) (hq := fun h1 g => ⟨rfl, g⟩) wh h0 hF)
-- X10_image
def f_X10_image (fu : Nat) (l0 : Nat) (w : MEM) : Option (Int32 × MEM) := lt (sS w (11000, l0) (0 : Int32)) fun (w1 : MEM) => if (rS w1 (11054, l0)) = (3 : Int32) then (some ((-1 : Int32), w1)) else (bnd (f_X10_keepsAll fu l0 (rS w1 (11054, l0)) (1 : Int32) w1) fun (u3 : Unit) (w2 : MEM) => lt (sS w2 (11054, l0) ((rS w2 (11054, l0)) + (1 : Int32))) fun (w4 : MEM) => some ((rS w4 (11054, l0)), w4))
theorem E_X10_image (fu : Nat) (l0 : Nat) (w : MEM) : f_X10_image fu l0 w = lt (sS w (11000, l0) (0 : Int32)) fun (w1 : MEM) => if (rS w1 (11054, l0)) = (3 : Int32) then (some ((-1 : Int32), w1)) else (bnd (f_X10_keepsAll fu l0 (rS w1 (11054, l0)) (1 : Int32) w1) fun (u3 : Unit) (w2 : MEM) => lt (sS w2 (11054, l0) ((rS w2 (11054, l0)) + (1 : Int32))) fun (w4 : MEM) => some ((rS w4 (11054, l0)), w4)) := rfl
theorem w_X10_image {X : SCR} {d rc rs : Nat} {Q : PO → PH → Prop} {o : Int32} {w1 : MEM} {fu : Nat} (hd : 2 ≤ d) (hq : ∀ h1, WH X h1 w1 → Q (.inl (some (vI o))) h1) {l0 : Nat} {w : MEM} {h : PH} (wh : WH X h w) (hv_l0 : vo 10 l0 = true) (hF : f_X10_image fu l0 w = some (o, w1)) : PW d M_X10_image Q rc rs 0 [vR (1000, l0)] [] h := by
  replace hF := (E_X10_image fu l0 w).symm.trans hF
  refine r_X10_image_0 ?_
  replace hF := lt_of hF
  refine sF_S wh rfl hv_l0 ?_
  clear wh
  intro h wh
  refine gI_of (wh.1 11054 _ rfl hv_l0) ?_
  refine ⟨fun c => ?_, fun c => ?_⟩
  · replace hF := if_ofT c hF
    obtain ⟨rfl, rfl⟩ := some_of hF
    exact hq _ wh
  · replace hF := if_ofF c hF
    refine gI_of (wh.1 11054 _ rfl hv_l0) ?_
    refine ⟨⟨_, wh.1 11000 _ rfl hv_l0⟩, ?_⟩
    obtain ⟨u3, w2, hG, hF⟩ := bnd_of hF
    refine cl_V (D := 1) (Nat.le_trans (by decide) hd) (c_X10_keepsAll wh hv_l0 hG) ?_
    clear hG
    clear wh
    intro h wh
    refine gI_of (wh.1 11054 _ rfl hv_l0) ?_
    replace hF := lt_of hF
    refine sF_S wh rfl hv_l0 ?_
    clear wh
    intro h wh
    refine gI_of (wh.1 11054 _ rfl hv_l0) ?_
    obtain ⟨rfl, rfl⟩ := some_of hF
    exact hq _ wh
theorem c_X10_image {X : SCR} {fu : Nat} {o : Int32} {w1 : MEM} {a0 : Nat} {w : MEM} {h : PH} (wh : WH X h w) (h0 : vo 10 a0 = true) (hF : f_X10_image fu a0 w = some (o, w1)) : CT 2 M_X10_image [vR (1000, a0)] h 0 0 (QP X (.inl (some (vI o))) w1) :=
  CT_of mk_X10_image (Nat.le_of_ble_eq_true rfl) rfl (w_X10_image (fu := fu) (rc := 0) (rs := 0) (hd := Nat.le_refl 2) (hq := fun h1 g => ⟨rfl, g⟩) wh h0 hF)
-- X10_restore
def f_X10_restore (fu : Nat) (l0 : Nat) (w : MEM) : Option (Int32 × MEM) := lt (sS w (11000, l0) (0 : Int32)) fun (w1 : MEM) => if (rS w1 (11054, l0)) = 0 then (some ((-1 : Int32), w1)) else (lt (sS w1 (11054, l0) ((rS w1 (11054, l0)) - (1 : Int32))) fun (w2 : MEM) => bnd (f_X10_keepsAll fu l0 (rS w2 (11054, l0)) (0 : Int32) w2) fun (u4 : Unit) (w3 : MEM) => lt (sS w3 (11038, l0) (0 : Int32)) fun (w5 : MEM) => some ((rS w5 (11054, l0)), w5))
theorem E_X10_restore (fu : Nat) (l0 : Nat) (w : MEM) : f_X10_restore fu l0 w = lt (sS w (11000, l0) (0 : Int32)) fun (w1 : MEM) => if (rS w1 (11054, l0)) = 0 then (some ((-1 : Int32), w1)) else (lt (sS w1 (11054, l0) ((rS w1 (11054, l0)) - (1 : Int32))) fun (w2 : MEM) => bnd (f_X10_keepsAll fu l0 (rS w2 (11054, l0)) (0 : Int32) w2) fun (u4 : Unit) (w3 : MEM) => lt (sS w3 (11038, l0) (0 : Int32)) fun (w5 : MEM) => some ((rS w5 (11054, l0)), w5)) := rfl
theorem w_X10_restore {X : SCR} {d rc rs : Nat} {Q : PO → PH → Prop} {o : Int32} {w1 : MEM} {fu : Nat} (hd : 2 ≤ d) (hq : ∀ h1, WH X h1 w1 → Q (.inl (some (vI o))) h1) {l0 : Nat} {w : MEM} {h : PH} (wh : WH X h w) (hv_l0 : vo 10 l0 = true) (hF : f_X10_restore fu l0 w = some (o, w1)) : PW d M_X10_restore Q rc rs 0 [vR (1000, l0)] [] h := by
  replace hF := (E_X10_restore fu l0 w).symm.trans hF
  refine r_X10_restore_0 ?_
  replace hF := lt_of hF
  refine sF_S wh rfl hv_l0 ?_
  clear wh
  intro h wh
  refine gI_of (wh.1 11054 _ rfl hv_l0) ?_
  refine ⟨fun c => ?_, fun c => ?_⟩
  · replace hF := if_ofT c hF
    obtain ⟨rfl, rfl⟩ := some_of hF
    exact hq _ wh
  · replace hF := if_ofF c hF
    refine gI_of (wh.1 11054 _ rfl hv_l0) ?_
    replace hF := lt_of hF
    refine sF_S wh rfl hv_l0 ?_
    clear wh
    intro h wh
    refine gI_of (wh.1 11054 _ rfl hv_l0) ?_
    refine ⟨⟨_, wh.1 11000 _ rfl hv_l0⟩, ?_⟩
    obtain ⟨u4, w3, hG, hF⟩ := bnd_of hF
    refine cl_V (D := 1) (Nat.le_trans (by decide) hd) (c_X10_keepsAll wh hv_l0 hG) ?_
    clear hG
    clear wh
    intro h wh
    replace hF := lt_of hF
    refine sF_S wh rfl hv_l0 ?_
    clear wh
    intro h wh
    refine gI_of (wh.1 11054 _ rfl hv_l0) ?_
    obtain ⟨rfl, rfl⟩ := some_of hF
    exact hq _ wh
theorem c_X10_restore {X : SCR} {fu : Nat} {o : Int32} {w1 : MEM} {a0 : Nat} {w : MEM} {h : PH} (wh : WH X h w) (h0 : vo 10 a0 = true) (hF : f_X10_restore fu a0 w = some (o, w1)) : CT 2 M_X10_restore [vR (1000, a0)] h 0 0 (QP X (.inl (some (vI o))) w1) :=
  CT_of mk_X10_restore (Nat.le_of_ble_eq_true rfl) rfl (w_X10_restore (fu := fu) (rc := 0) (rs := 0) (hd := Nat.le_refl 2) (hq := fun h1 g => ⟨rfl, g⟩) wh h0 hF)
-- X10_status
def f_X10_status (fu : Nat) (l0 : Nat) (l1 : Int32) (w : MEM) : Option (Int32 × MEM) := lt (sS w (11000, l0) (0 : Int32)) fun (w1 : MEM) => bnd (f_X10_within fu l1 (0 : Int32) (1 : Int32) w1) fun (x3 : Int32) (w2 : MEM) => if x3 = 0 then (some ((-1 : Int32), w2)) else (ck (bI l1 2) (some ((rA w2 (1001, l0) l1), w2)))
theorem E_X10_status (fu : Nat) (l0 : Nat) (l1 : Int32) (w : MEM) : f_X10_status fu l0 l1 w = lt (sS w (11000, l0) (0 : Int32)) fun (w1 : MEM) => bnd (f_X10_within fu l1 (0 : Int32) (1 : Int32) w1) fun (x3 : Int32) (w2 : MEM) => if x3 = 0 then (some ((-1 : Int32), w2)) else (ck (bI l1 2) (some ((rA w2 (1001, l0) l1), w2))) := rfl
theorem w_X10_status {X : SCR} {d rc rs : Nat} {Q : PO → PH → Prop} {o : Int32} {w1 : MEM} {fu : Nat} (hd : 1 ≤ d) (hq : ∀ h1, WH X h1 w1 → Q (.inl (some (vI o))) h1) {l0 : Nat} {l1 : Int32} {w : MEM} {h : PH} (wh : WH X h w) (hv_l0 : vo 10 l0 = true) (hF : f_X10_status fu l0 l1 w = some (o, w1)) : PW d M_X10_status Q rc rs 0 [vR (1000, l0), vI l1] [] h := by
  replace hF := (E_X10_status fu l0 l1 w).symm.trans hF
  refine r_X10_status_0 ?_
  replace hF := lt_of hF
  refine sF_S wh rfl hv_l0 ?_
  clear wh
  intro h wh
  obtain ⟨x3, w2, hG, hF⟩ := bnd_of hF
  refine cl_I (D := 0) (Nat.le_trans (by decide) hd) (c_X10_within wh  hG) ?_
  clear hG
  clear wh
  intro h wh
  refine ⟨fun c => ?_, fun c => ?_⟩
  · replace hF := if_ofT c hF
    obtain ⟨rfl, rfl⟩ := some_of hF
    exact hq _ wh
  · replace hF := if_ofF c hF
    refine gA_of (b := (1001, l0)) (wh.2.1 11001 _ rfl hv_l0) ?_
    obtain ⟨c, hF⟩ := ck_of hF
    refine xI_of wh (oA_1001 hv_l0) c ?_
    clear c
    obtain ⟨rfl, rfl⟩ := some_of hF
    exact hq _ wh
theorem c_X10_status {X : SCR} {fu : Nat} {o : Int32} {w1 : MEM} {a0 : Nat} {a1 : Int32} {w : MEM} {h : PH} (wh : WH X h w) (h0 : vo 10 a0 = true) (hF : f_X10_status fu a0 a1 w = some (o, w1)) : CT 1 M_X10_status [vR (1000, a0), vI a1] h 0 0 (QP X (.inl (some (vI o))) w1) :=
  CT_of mk_X10_status (Nat.le_of_ble_eq_true rfl) rfl (w_X10_status (fu := fu) (rc := 0) (rs := 0) (hd := Nat.le_refl 1) (hq := fun h1 g => ⟨rfl, g⟩) wh h0 hF)
-- X10_count
def f_X10_count (fu : Nat) (l0 : Nat) (l1 : Int32) (w : MEM) : Option (Int32 × MEM) := lt (sS w (11000, l0) (0 : Int32)) fun (w1 : MEM) => if l1 = 0 then (some ((rS w1 (11054, l0)), w1)) else (if l1 = (1 : Int32) then (some ((rS w1 (11002, l0)), w1)) else (if l1 = (2 : Int32) then (some ((rS w1 (11037, l0)), w1)) else (some ((-1 : Int32), w1))))
theorem E_X10_count (fu : Nat) (l0 : Nat) (l1 : Int32) (w : MEM) : f_X10_count fu l0 l1 w = lt (sS w (11000, l0) (0 : Int32)) fun (w1 : MEM) => if l1 = 0 then (some ((rS w1 (11054, l0)), w1)) else (if l1 = (1 : Int32) then (some ((rS w1 (11002, l0)), w1)) else (if l1 = (2 : Int32) then (some ((rS w1 (11037, l0)), w1)) else (some ((-1 : Int32), w1)))) := rfl
theorem w_X10_count {X : SCR} {d rc rs : Nat} {Q : PO → PH → Prop} {o : Int32} {w1 : MEM} {fu : Nat} (hd : 0 ≤ d) (hq : ∀ h1, WH X h1 w1 → Q (.inl (some (vI o))) h1) {l0 : Nat} {l1 : Int32} {w : MEM} {h : PH} (wh : WH X h w) (hv_l0 : vo 10 l0 = true) (hF : f_X10_count fu l0 l1 w = some (o, w1)) : PW d M_X10_count Q rc rs 0 [vR (1000, l0), vI l1] [] h := by
  replace hF := (E_X10_count fu l0 l1 w).symm.trans hF
  refine r_X10_count_0 ?_
  replace hF := lt_of hF
  refine sF_S wh rfl hv_l0 ?_
  clear wh
  intro h wh
  refine ⟨fun c => ?_, fun c => ?_⟩
  · replace hF := if_ofT c hF
    refine gI_of (wh.1 11054 _ rfl hv_l0) ?_
    obtain ⟨rfl, rfl⟩ := some_of hF
    exact hq _ wh
  · replace hF := if_ofF c hF
    refine ⟨fun c => ?_, fun c => ?_⟩
    · replace hF := if_ofT c hF
      refine gI_of (wh.1 11002 _ rfl hv_l0) ?_
      obtain ⟨rfl, rfl⟩ := some_of hF
      exact hq _ wh
    · replace hF := if_ofF c hF
      refine ⟨fun c => ?_, fun c => ?_⟩
      · replace hF := if_ofT c hF
        refine gI_of (wh.1 11037 _ rfl hv_l0) ?_
        obtain ⟨rfl, rfl⟩ := some_of hF
        exact hq _ wh
      · replace hF := if_ofF c hF
        obtain ⟨rfl, rfl⟩ := some_of hF
        exact hq _ wh
theorem c_X10_count {X : SCR} {fu : Nat} {o : Int32} {w1 : MEM} {a0 : Nat} {a1 : Int32} {w : MEM} {h : PH} (wh : WH X h w) (h0 : vo 10 a0 = true) (hF : f_X10_count fu a0 a1 w = some (o, w1)) : CT 0 M_X10_count [vR (1000, a0), vI a1] h 0 0 (QP X (.inl (some (vI o))) w1) :=
  CT_of mk_X10_count (Nat.le_of_ble_eq_true rfl) rfl (w_X10_count (fu := fu) (rc := 0) (rs := 0) (hd := Nat.le_refl 0) (hq := fun h1 g => ⟨rfl, g⟩) wh h0 hF)
