-- J7_fill_53178
def f_J7_fill_53178_5 (fu : Nat) : Nat → LA → Int32 → Int32 → Int32 → MEM → Option (Unit × MEM)
  | 0, _, _, _, _, _ => none
  | n + 1, l0, l1, l2, l3, w => if l2 < l3 then (ck (bI l2 (aN l0.1)) (lt (sA w l0 l2 l1) fun (w1 : MEM) => f_J7_fill_53178_5 fu n l0 l1 (l2 + (1 : Int32)) l3 w1)) else (some ((), w))
theorem E_J7_fill_53178_5 (fu : Nat) (n : Nat) (l0 : LA) (l1 : Int32) (l2 : Int32) (l3 : Int32) (w : MEM) : f_J7_fill_53178_5 fu (n + 1) l0 l1 l2 l3 w = if l2 < l3 then (ck (bI l2 (aN l0.1)) (lt (sA w l0 l2 l1) fun (w1 : MEM) => f_J7_fill_53178_5 fu n l0 l1 (l2 + (1 : Int32)) l3 w1)) else (some ((), w)) := rfl
theorem w_J7_fill_53178_5 {X : SCR} {d rc rs : Nat} {Q : PO → PH → Prop} {o : Unit} {w1 : MEM} {fu : Nat} (hd : 0 ≤ d) (hq : ∀ h1, WH X h1 w1 → Q (.inl none) h1) : ∀ (n : Nat) (l0 : LA) (l1 : Int32) (l2 : Int32) (l3 : Int32) (w : MEM) (h : PH), WH X h w → oA l0 0 → f_J7_fill_53178_5 fu n l0 l1 l2 l3 w = some (o, w1) → PW d M_J7_fill_53178 Q rc rs 5 [vR l0, vI l1, vI l2, vI l3] [] h := by
  intro n
  induction n with
  | zero => intro l0 l1 l2 l3 w h wh ha_l0 hF; cases hF
  | succ n ih =>
    intro l0 l1 l2 l3 w h wh ha_l0 hF
    replace hF := (E_J7_fill_53178_5 fu n l0 l1 l2 l3 w).symm.trans hF
    refine r_J7_fill_53178_5 ?_
    refine ⟨fun c => ?_, fun c => ?_⟩
    · replace hF := if_ofT c hF
      obtain ⟨c, hF⟩ := ck_of hF
      replace hF := lt_of hF
      refine yI_of wh ha_l0 c ?_
      clear c wh
      intro h wh
      exact ih _ _ _ _ _ _ wh ha_l0 hF
    · replace hF := if_ofF c hF
      obtain ⟨rfl, rfl⟩ := some_of hF
      exact hq _ wh
def f_J7_fill_53178 (fu : Nat) (l0 : LA) (l1 : Int32) (w : MEM) : Option (Unit × MEM) := lt ((nI (aN l0.1))) fun (v1 : Int32) => f_J7_fill_53178_5 fu fu l0 l1 (0 : Int32) v1 w
theorem E_J7_fill_53178 (fu : Nat) (l0 : LA) (l1 : Int32) (w : MEM) : f_J7_fill_53178 fu l0 l1 w = lt ((nI (aN l0.1))) fun (v1 : Int32) => f_J7_fill_53178_5 fu fu l0 l1 (0 : Int32) v1 w := rfl
theorem w_J7_fill_53178 {X : SCR} {d rc rs : Nat} {Q : PO → PH → Prop} {o : Unit} {w1 : MEM} {fu : Nat} (hd : 0 ≤ d) (hq : ∀ h1, WH X h1 w1 → Q (.inl none) h1) {l0 : LA} {l1 : Int32} {w : MEM} {h : PH} (wh : WH X h w) (ha_l0 : oA l0 0) (hF : f_J7_fill_53178 fu l0 l1 w = some (o, w1)) : PW d M_J7_fill_53178 Q rc rs 0 [vR l0, vI l1, vU, vU] [] h := by
  replace hF := (E_J7_fill_53178 fu l0 l1 w).symm.trans hF
  refine r_J7_fill_53178_0 ?_
  refine lnA_of wh ha_l0 ?_
  replace hF := lt_of hF
  exact w_J7_fill_53178_5 hd hq  fu _ _ _ _ _ _ wh ha_l0 hF
theorem c_J7_fill_53178 {X : SCR} {fu : Nat} {o : Unit} {w1 : MEM} {a0 : LA} {a1 : Int32} {w : MEM} {h : PH} (wh : WH X h w) (h0 : oA a0 0) (hF : f_J7_fill_53178 fu a0 a1 w = some (o, w1)) : CT 0 M_J7_fill_53178 [vR a0, vI a1] h 0 0 (QP X (.inl none) w1) :=
  CT_of mk_J7_fill_53178 (Nat.le_of_ble_eq_true rfl) rfl (w_J7_fill_53178 (fu := fu) (rc := 0) (rs := 0) (hd := Nat.le_refl 0) (hq := fun h1 g => ⟨rfl, g⟩) wh h0 hF)
-- X0_clear
def f_X0_clear (fu : Nat) (l0 : Nat) (w : MEM) : Option (Unit × MEM) := bnd (f_J7_fill_53178 fu (1, l0) (-1 : Int32) w) fun (u2 : Unit) (w1 : MEM) => lt (sS w1 (10001, l0) (0 : Int32)) fun (w3 : MEM) => some ((), w3)
theorem E_X0_clear (fu : Nat) (l0 : Nat) (w : MEM) : f_X0_clear fu l0 w = bnd (f_J7_fill_53178 fu (1, l0) (-1 : Int32) w) fun (u2 : Unit) (w1 : MEM) => lt (sS w1 (10001, l0) (0 : Int32)) fun (w3 : MEM) => some ((), w3) := rfl
theorem w_X0_clear {X : SCR} {d rc rs : Nat} {Q : PO → PH → Prop} {o : Unit} {w1 : MEM} {fu : Nat} (hd : 1 ≤ d) (hq : ∀ h1, WH X h1 w1 → Q (.inl none) h1) {l0 : Nat} {w : MEM} {h : PH} (wh : WH X h w) (hv_l0 : vo 0 l0 = true) (hF : f_X0_clear fu l0 w = some (o, w1)) : PW d M_X0_clear Q rc rs 0 [vR (0, l0)] [] h := by
  replace hF := (E_X0_clear fu l0 w).symm.trans hF
  refine r_X0_clear_0 ?_
  refine gA_of (b := (1, l0)) (wh.2.1 10000 _ rfl hv_l0) ?_
  obtain ⟨u2, w1, hG, hF⟩ := bnd_of hF
  refine cl_V (D := 0) (Nat.le_trans (by decide) hd) (c_J7_fill_53178 wh (oA_1 hv_l0) hG) ?_
  clear hG
  clear wh
  intro h wh
  replace hF := lt_of hF
  refine sF_S wh rfl hv_l0 ?_
  clear wh
  intro h wh
  obtain ⟨rfl, rfl⟩ := some_of hF
  exact hq _ wh
theorem c_X0_clear {X : SCR} {fu : Nat} {o : Unit} {w1 : MEM} {a0 : Nat} {w : MEM} {h : PH} (wh : WH X h w) (h0 : vo 0 a0 = true) (hF : f_X0_clear fu a0 w = some (o, w1)) : CT 1 M_X0_clear [vR (0, a0)] h 0 0 (QP X (.inl none) w1) :=
  CT_of mk_X0_clear (Nat.le_of_ble_eq_true rfl) rfl (w_X0_clear (fu := fu) (rc := 0) (rs := 0) (hd := Nat.le_refl 1) (hq := fun h1 g => ⟨rfl, g⟩) wh h0 hF)
-- X8_peek
def f_X8_peek_0 (fu : Nat) : Nat → Nat → MEM → Option (Int32 × MEM)
  | 0, _, _ => none
  | n + 1, l0, w => if (rS w (10803, l0)) < (rS w (10802, l0)) then (ck (bI (rS w (10803, l0)) 600) (if (rA w (801, l0) (rS w (10803, l0))) = (32 : Int32) then (lt (sS w (10803, l0) ((rS w (10803, l0)) + (1 : Int32))) fun (w3 : MEM) => f_X8_peek_0 fu n l0 w3) else (lt (sS w (10804, l0) (rS w (10803, l0))) fun (w2 : MEM) => if (rS w2 (10803, l0)) < (rS w2 (10802, l0)) then (ck (bI (rS w2 (10803, l0)) 600) (some (((rA w2 (801, l0) (rS w2 (10803, l0))) &&& (255 : Int32)), w2))) else (some ((-1 : Int32), w2))))) else (lt (sS w (10804, l0) (rS w (10803, l0))) fun (w1 : MEM) => if (rS w1 (10803, l0)) < (rS w1 (10802, l0)) then (ck (bI (rS w1 (10803, l0)) 600) (some (((rA w1 (801, l0) (rS w1 (10803, l0))) &&& (255 : Int32)), w1))) else (some ((-1 : Int32), w1)))
theorem E_X8_peek_0 (fu : Nat) (n : Nat) (l0 : Nat) (w : MEM) : f_X8_peek_0 fu (n + 1) l0 w = if (rS w (10803, l0)) < (rS w (10802, l0)) then (ck (bI (rS w (10803, l0)) 600) (if (rA w (801, l0) (rS w (10803, l0))) = (32 : Int32) then (lt (sS w (10803, l0) ((rS w (10803, l0)) + (1 : Int32))) fun (w3 : MEM) => f_X8_peek_0 fu n l0 w3) else (lt (sS w (10804, l0) (rS w (10803, l0))) fun (w2 : MEM) => if (rS w2 (10803, l0)) < (rS w2 (10802, l0)) then (ck (bI (rS w2 (10803, l0)) 600) (some (((rA w2 (801, l0) (rS w2 (10803, l0))) &&& (255 : Int32)), w2))) else (some ((-1 : Int32), w2))))) else (lt (sS w (10804, l0) (rS w (10803, l0))) fun (w1 : MEM) => if (rS w1 (10803, l0)) < (rS w1 (10802, l0)) then (ck (bI (rS w1 (10803, l0)) 600) (some (((rA w1 (801, l0) (rS w1 (10803, l0))) &&& (255 : Int32)), w1))) else (some ((-1 : Int32), w1))) := rfl
theorem w_X8_peek_0 {X : SCR} {d rc rs : Nat} {Q : PO → PH → Prop} {o : Int32} {w1 : MEM} {fu : Nat} (hd : 0 ≤ d) (hq : ∀ h1, WH X h1 w1 → Q (.inl (some (vI o))) h1) : ∀ (n : Nat) (l0 : Nat) (w : MEM) (h : PH), WH X h w → vo 8 l0 = true → f_X8_peek_0 fu n l0 w = some (o, w1) → PW d M_X8_peek Q rc rs 0 [vR (800, l0)] [] h := by
  intro n
  induction n with
  | zero => intro l0 w h wh hv_l0 hF; cases hF
  | succ n ih =>
    intro l0 w h wh hv_l0 hF
    replace hF := (E_X8_peek_0 fu n l0 w).symm.trans hF
    refine r_X8_peek_0 ?_
    refine gI_of (wh.1 10803 _ rfl hv_l0) ?_
    refine gI_of (wh.1 10802 _ rfl hv_l0) ?_
    refine ⟨fun c => ?_, fun c => ?_⟩
    · replace hF := if_ofT c hF
      refine gA_of (b := (801, l0)) (wh.2.1 10800 _ rfl hv_l0) ?_
      refine gI_of (wh.1 10803 _ rfl hv_l0) ?_
      obtain ⟨c, hF⟩ := ck_of hF
      refine xB_of wh (oA_801 hv_l0) c ?_
      clear c
      refine ⟨fun c => ?_, fun c => ?_⟩
      · replace hF := if_ofT c hF
        refine gI_of (wh.1 10803 _ rfl hv_l0) ?_
        replace hF := lt_of hF
        refine sF_S wh rfl hv_l0 ?_
        clear wh
        intro h wh
        exact ih _ _ _ wh hv_l0 hF
      · replace hF := if_ofF c hF
        refine gI_of (wh.1 10803 _ rfl hv_l0) ?_
        replace hF := lt_of hF
        refine sF_S wh rfl hv_l0 ?_
        clear wh
        intro h wh
        refine gI_of (wh.1 10803 _ rfl hv_l0) ?_
        refine gI_of (wh.1 10802 _ rfl hv_l0) ?_
        refine ⟨fun c => ?_, fun c => ?_⟩
        · replace hF := if_ofT c hF
          refine gA_of (b := (801, l0)) (wh.2.1 10800 _ rfl hv_l0) ?_
          refine gI_of (wh.1 10803 _ rfl hv_l0) ?_
          obtain ⟨c, hF⟩ := ck_of hF
          refine xB_of wh (oA_801 hv_l0) c ?_
          clear c
          obtain ⟨rfl, rfl⟩ := some_of hF
          exact hq _ wh
        · replace hF := if_ofF c hF
          obtain ⟨rfl, rfl⟩ := some_of hF
          exact hq _ wh
    · replace hF := if_ofF c hF
      refine gI_of (wh.1 10803 _ rfl hv_l0) ?_
      replace hF := lt_of hF
      refine sF_S wh rfl hv_l0 ?_
      clear wh
      intro h wh
      refine gI_of (wh.1 10803 _ rfl hv_l0) ?_
      refine gI_of (wh.1 10802 _ rfl hv_l0) ?_
      refine ⟨fun c => ?_, fun c => ?_⟩
      · replace hF := if_ofT c hF
        refine gA_of (b := (801, l0)) (wh.2.1 10800 _ rfl hv_l0) ?_
        refine gI_of (wh.1 10803 _ rfl hv_l0) ?_
        obtain ⟨c, hF⟩ := ck_of hF
        refine xB_of wh (oA_801 hv_l0) c ?_
        clear c
        obtain ⟨rfl, rfl⟩ := some_of hF
        exact hq _ wh
      · replace hF := if_ofF c hF
        obtain ⟨rfl, rfl⟩ := some_of hF
        exact hq _ wh
def f_X8_peek (fu : Nat) (a0 : Nat) (w : MEM) : Option (Int32 × MEM) := f_X8_peek_0 fu fu a0 w
theorem w_X8_peek {X : SCR} {d rc rs : Nat} {Q : PO → PH → Prop} {o : Int32} {w1 : MEM} {fu : Nat} (hd : 0 ≤ d) (hq : ∀ h1, WH X h1 w1 → Q (.inl (some (vI o))) h1) {a0 : Nat} {w : MEM} {h : PH} (wh : WH X h w) (h0 : vo 8 a0 = true) (hF : f_X8_peek fu a0 w = some (o, w1)) : PW d M_X8_peek Q rc rs 0 [vR (800, a0)] [] h := w_X8_peek_0 hd hq fu _ _ _ wh h0 hF
theorem c_X8_peek {X : SCR} {fu : Nat} {o : Int32} {w1 : MEM} {a0 : Nat} {w : MEM} {h : PH} (wh : WH X h w) (h0 : vo 8 a0 = true) (hF : f_X8_peek fu a0 w = some (o, w1)) : CT 0 M_X8_peek [vR (800, a0)] h 0 0 (QP X (.inl (some (vI o))) w1) :=
  CT_of mk_X8_peek (Nat.le_of_ble_eq_true rfl) rfl (w_X8_peek (fu := fu) (rc := 0) (rs := 0) (hd := Nat.le_refl 0) (hq := fun h1 g => ⟨rfl, g⟩) wh h0 hF)
-- X8_refuse
def f_X8_refuse (fu : Nat) (l0 : Nat) (l1 : Int32) (w : MEM) : Option (Int32 × MEM) := lt (sS w (10805, l0) l1) fun (w1 : MEM) => lt (sS w1 (10806, l0) (rS w1 (10804, l0))) fun (w2 : MEM) => some ((0 : Int32), w2)
theorem E_X8_refuse (fu : Nat) (l0 : Nat) (l1 : Int32) (w : MEM) : f_X8_refuse fu l0 l1 w = lt (sS w (10805, l0) l1) fun (w1 : MEM) => lt (sS w1 (10806, l0) (rS w1 (10804, l0))) fun (w2 : MEM) => some ((0 : Int32), w2) := rfl
theorem w_X8_refuse {X : SCR} {d rc rs : Nat} {Q : PO → PH → Prop} {o : Int32} {w1 : MEM} {fu : Nat} (hd : 0 ≤ d) (hq : ∀ h1, WH X h1 w1 → Q (.inl (some (vI o))) h1) {l0 : Nat} {l1 : Int32} {w : MEM} {h : PH} (wh : WH X h w) (hv_l0 : vo 8 l0 = true) (hF : f_X8_refuse fu l0 l1 w = some (o, w1)) : PW d M_X8_refuse Q rc rs 0 [vR (800, l0), vI l1] [] h := by
  replace hF := (E_X8_refuse fu l0 l1 w).symm.trans hF
  refine r_X8_refuse_0 ?_
  replace hF := lt_of hF
  refine sF_S wh rfl hv_l0 ?_
  clear wh
  intro h wh
  refine gI_of (wh.1 10804 _ rfl hv_l0) ?_
  replace hF := lt_of hF
  refine sF_S wh rfl hv_l0 ?_
  clear wh
  intro h wh
  obtain ⟨rfl, rfl⟩ := some_of hF
  exact hq _ wh
theorem c_X8_refuse {X : SCR} {fu : Nat} {o : Int32} {w1 : MEM} {a0 : Nat} {a1 : Int32} {w : MEM} {h : PH} (wh : WH X h w) (h0 : vo 8 a0 = true) (hF : f_X8_refuse fu a0 a1 w = some (o, w1)) : CT 0 M_X8_refuse [vR (800, a0), vI a1] h 0 0 (QP X (.inl (some (vI o))) w1) :=
  CT_of mk_X8_refuse (Nat.le_of_ble_eq_true rfl) rfl (w_X8_refuse (fu := fu) (rc := 0) (rs := 0) (hd := Nat.le_refl 0) (hq := fun h1 g => ⟨rfl, g⟩) wh h0 hF)
-- J9_min_7cf53
def f_J9_min_7cf53 (fu : Nat) (l0 : Int32) (l1 : Int32) (w : MEM) : Option (Int32 × MEM) := if l1 < l0 then (some (l1, w)) else (some (l0, w))
theorem E_J9_min_7cf53 (fu : Nat) (l0 : Int32) (l1 : Int32) (w : MEM) : f_J9_min_7cf53 fu l0 l1 w = if l1 < l0 then (some (l1, w)) else (some (l0, w)) := rfl
theorem w_J9_min_7cf53 {X : SCR} {d rc rs : Nat} {Q : PO → PH → Prop} {o : Int32} {w1 : MEM} {fu : Nat} (hd : 0 ≤ d) (hq : ∀ h1, WH X h1 w1 → Q (.inl (some (vI o))) h1) {l0 : Int32} {l1 : Int32} {w : MEM} {h : PH} (wh : WH X h w)  (hF : f_J9_min_7cf53 fu l0 l1 w = some (o, w1)) : PW d M_J9_min_7cf53 Q rc rs 0 [vI l0, vI l1] [] h := by
  replace hF := (E_J9_min_7cf53 fu l0 l1 w).symm.trans hF
  refine r_J9_min_7cf53_0 ?_
  refine ⟨fun c => ?_, fun c => ?_⟩
  · replace hF := if_ofT c hF
    obtain ⟨rfl, rfl⟩ := some_of hF
    exact hq _ wh
  · replace hF := if_ofF c hF
    obtain ⟨rfl, rfl⟩ := some_of hF
    exact hq _ wh
theorem c_J9_min_7cf53 {X : SCR} {fu : Nat} {o : Int32} {w1 : MEM} {a0 : Int32} {a1 : Int32} {w : MEM} {h : PH} (wh : WH X h w)  (hF : f_J9_min_7cf53 fu a0 a1 w = some (o, w1)) : CT 0 M_J9_min_7cf53 [vI a0, vI a1] h 0 0 (QP X (.inl (some (vI o))) w1) :=
  CT_of mk_J9_min_7cf53 (Nat.le_of_ble_eq_true rfl) rfl (w_J9_min_7cf53 (fu := fu) (rc := 0) (rs := 0) (hd := Nat.le_refl 0) (hq := fun h1 g => ⟨rfl, g⟩) wh  hF)
-- X8_number
def f_X8_number_28 (fu : Nat) : Nat → Nat → Int32 → Int32 → Int32 → MEM → Option (Int32 × MEM)
  | 0, _, _, _, _, _ => none
  | n + 1, l0, l1, l2, l4, w => if (rS w (10803, l0)) < (rS w (10802, l0)) then (ck (bI (rS w (10803, l0)) 600) (if (rA w (801, l0) (rS w (10803, l0))) < (48 : Int32) then (if l4 < l1 then (bnd (f_X8_refuse fu l0 (2 : Int32) w) fun (x6 : Int32) (w5 : MEM) => some ((-1 : Int32), w5)) else (if l2 < l4 then (bnd (f_X8_refuse fu l0 (2 : Int32) w) fun (x8 : Int32) (w7 : MEM) => some ((-1 : Int32), w7)) else (some (l4, w)))) else (ck (bI (rS w (10803, l0)) 600) (if (57 : Int32) < (rA w (801, l0) (rS w (10803, l0))) then (if l4 < l1 then (bnd (f_X8_refuse fu l0 (2 : Int32) w) fun (x10 : Int32) (w9 : MEM) => some ((-1 : Int32), w9)) else (if l2 < l4 then (bnd (f_X8_refuse fu l0 (2 : Int32) w) fun (x12 : Int32) (w11 : MEM) => some ((-1 : Int32), w11)) else (some (l4, w)))) else (ck (bI (rS w (10803, l0)) 600) (bnd (f_J9_min_7cf53 fu (((l4 * (10 : Int32)) + (rA w (801, l0) (rS w (10803, l0)))) - (48 : Int32)) (10000 : Int32) w) fun (x14 : Int32) (w13 : MEM) => lt (sS w13 (10803, l0) ((rS w13 (10803, l0)) + (1 : Int32))) fun (w15 : MEM) => f_X8_number_28 fu n l0 l1 l2 x14 w15)))))) else (if l4 < l1 then (bnd (f_X8_refuse fu l0 (2 : Int32) w) fun (x2 : Int32) (w1 : MEM) => some ((-1 : Int32), w1)) else (if l2 < l4 then (bnd (f_X8_refuse fu l0 (2 : Int32) w) fun (x4 : Int32) (w3 : MEM) => some ((-1 : Int32), w3)) else (some (l4, w))))
theorem E_X8_number_28 (fu : Nat) (n : Nat) (l0 : Nat) (l1 : Int32) (l2 : Int32) (l4 : Int32) (w : MEM) : f_X8_number_28 fu (n + 1) l0 l1 l2 l4 w = if (rS w (10803, l0)) < (rS w (10802, l0)) then (ck (bI (rS w (10803, l0)) 600) (if (rA w (801, l0) (rS w (10803, l0))) < (48 : Int32) then (if l4 < l1 then (bnd (f_X8_refuse fu l0 (2 : Int32) w) fun (x6 : Int32) (w5 : MEM) => some ((-1 : Int32), w5)) else (if l2 < l4 then (bnd (f_X8_refuse fu l0 (2 : Int32) w) fun (x8 : Int32) (w7 : MEM) => some ((-1 : Int32), w7)) else (some (l4, w)))) else (ck (bI (rS w (10803, l0)) 600) (if (57 : Int32) < (rA w (801, l0) (rS w (10803, l0))) then (if l4 < l1 then (bnd (f_X8_refuse fu l0 (2 : Int32) w) fun (x10 : Int32) (w9 : MEM) => some ((-1 : Int32), w9)) else (if l2 < l4 then (bnd (f_X8_refuse fu l0 (2 : Int32) w) fun (x12 : Int32) (w11 : MEM) => some ((-1 : Int32), w11)) else (some (l4, w)))) else (ck (bI (rS w (10803, l0)) 600) (bnd (f_J9_min_7cf53 fu (((l4 * (10 : Int32)) + (rA w (801, l0) (rS w (10803, l0)))) - (48 : Int32)) (10000 : Int32) w) fun (x14 : Int32) (w13 : MEM) => lt (sS w13 (10803, l0) ((rS w13 (10803, l0)) + (1 : Int32))) fun (w15 : MEM) => f_X8_number_28 fu n l0 l1 l2 x14 w15)))))) else (if l4 < l1 then (bnd (f_X8_refuse fu l0 (2 : Int32) w) fun (x2 : Int32) (w1 : MEM) => some ((-1 : Int32), w1)) else (if l2 < l4 then (bnd (f_X8_refuse fu l0 (2 : Int32) w) fun (x4 : Int32) (w3 : MEM) => some ((-1 : Int32), w3)) else (some (l4, w)))) := rfl
theorem w_X8_number_28 {X : SCR} {d rc rs : Nat} {Q : PO → PH → Prop} {o : Int32} {w1 : MEM} {fu : Nat} (hd : 1 ≤ d) (hq : ∀ h1, WH X h1 w1 → Q (.inl (some (vI o))) h1) : ∀ (n : Nat) (l0 : Nat) (l1 : Int32) (l2 : Int32) (l4 : Int32) (w : MEM) (h : PH), WH X h w → vo 8 l0 = true → f_X8_number_28 fu n l0 l1 l2 l4 w = some (o, w1) → PW d M_X8_number Q rc rs 28 [vR (800, l0), vI l1, vI l2, vU, vI l4] [] h := by
  intro n
  induction n with
  | zero => intro l0 l1 l2 l4 w h wh hv_l0 hF; cases hF
  | succ n ih =>
    intro l0 l1 l2 l4 w h wh hv_l0 hF
    replace hF := (E_X8_number_28 fu n l0 l1 l2 l4 w).symm.trans hF
    refine r_X8_number_28 ?_
    refine gI_of (wh.1 10803 _ rfl hv_l0) ?_
    refine gI_of (wh.1 10802 _ rfl hv_l0) ?_
    refine ⟨fun c => ?_, fun c => ?_⟩
    · replace hF := if_ofT c hF
      refine gA_of (b := (801, l0)) (wh.2.1 10800 _ rfl hv_l0) ?_
      refine gI_of (wh.1 10803 _ rfl hv_l0) ?_
      obtain ⟨c, hF⟩ := ck_of hF
      refine xB_of wh (oA_801 hv_l0) c ?_
      clear c
      refine ⟨fun c => ?_, fun c => ?_⟩
      · replace hF := if_ofT c hF
        refine ⟨fun c => ?_, fun c => ?_⟩
        · replace hF := if_ofT c hF
          refine ⟨⟨_, wh.2.1 10800 _ rfl hv_l0⟩, ?_⟩
          obtain ⟨x6, w5, hG, hF⟩ := bnd_of hF
          refine cl_I (D := 0) (Nat.le_trans (by decide) hd) (c_X8_refuse wh hv_l0 hG) ?_
          clear hG
          clear wh
          intro h wh
          obtain ⟨rfl, rfl⟩ := some_of hF
          exact hq _ wh
        · replace hF := if_ofF c hF
          refine ⟨fun c => ?_, fun c => ?_⟩
          · replace hF := if_ofT c hF
            refine ⟨⟨_, wh.2.1 10800 _ rfl hv_l0⟩, ?_⟩
            obtain ⟨x8, w7, hG, hF⟩ := bnd_of hF
            refine cl_I (D := 0) (Nat.le_trans (by decide) hd) (c_X8_refuse wh hv_l0 hG) ?_
            clear hG
            clear wh
            intro h wh
            obtain ⟨rfl, rfl⟩ := some_of hF
            exact hq _ wh
          · replace hF := if_ofF c hF
            obtain ⟨rfl, rfl⟩ := some_of hF
            exact hq _ wh
      · replace hF := if_ofF c hF
        refine gA_of (b := (801, l0)) (wh.2.1 10800 _ rfl hv_l0) ?_
        refine gI_of (wh.1 10803 _ rfl hv_l0) ?_
        obtain ⟨c, hF⟩ := ck_of hF
        refine xB_of wh (oA_801 hv_l0) c ?_
        clear c
        refine ⟨fun c => ?_, fun c => ?_⟩
        · replace hF := if_ofT c hF
          refine ⟨fun c => ?_, fun c => ?_⟩
          · replace hF := if_ofT c hF
            refine ⟨⟨_, wh.2.1 10800 _ rfl hv_l0⟩, ?_⟩
            obtain ⟨x10, w9, hG, hF⟩ := bnd_of hF
            refine cl_I (D := 0) (Nat.le_trans (by decide) hd) (c_X8_refuse wh hv_l0 hG) ?_
            clear hG
            clear wh
            intro h wh
            obtain ⟨rfl, rfl⟩ := some_of hF
            exact hq _ wh
          · replace hF := if_ofF c hF
            refine ⟨fun c => ?_, fun c => ?_⟩
            · replace hF := if_ofT c hF
              refine ⟨⟨_, wh.2.1 10800 _ rfl hv_l0⟩, ?_⟩
              obtain ⟨x12, w11, hG, hF⟩ := bnd_of hF
              refine cl_I (D := 0) (Nat.le_trans (by decide) hd) (c_X8_refuse wh hv_l0 hG) ?_
              clear hG
              clear wh
              intro h wh
              obtain ⟨rfl, rfl⟩ := some_of hF
              exact hq _ wh
            · replace hF := if_ofF c hF
              obtain ⟨rfl, rfl⟩ := some_of hF
              exact hq _ wh
        · replace hF := if_ofF c hF
          refine gA_of (b := (801, l0)) (wh.2.1 10800 _ rfl hv_l0) ?_
          refine gI_of (wh.1 10803 _ rfl hv_l0) ?_
          obtain ⟨c, hF⟩ := ck_of hF
          refine xB_of wh (oA_801 hv_l0) c ?_
          clear c
          obtain ⟨x14, w13, hG, hF⟩ := bnd_of hF
          refine cl_I (D := 0) (Nat.le_trans (by decide) hd) (c_J9_min_7cf53 wh  hG) ?_
          clear hG
          clear wh
          intro h wh
          refine gI_of (wh.1 10803 _ rfl hv_l0) ?_
          replace hF := lt_of hF
          refine sF_S wh rfl hv_l0 ?_
          clear wh
          intro h wh
          exact ih _ _ _ _ _ _ wh hv_l0 hF
    · replace hF := if_ofF c hF
      refine ⟨fun c => ?_, fun c => ?_⟩
      · replace hF := if_ofT c hF
        refine ⟨⟨_, wh.2.1 10800 _ rfl hv_l0⟩, ?_⟩
        obtain ⟨x2, w1, hG, hF⟩ := bnd_of hF
        refine cl_I (D := 0) (Nat.le_trans (by decide) hd) (c_X8_refuse wh hv_l0 hG) ?_
        clear hG
        clear wh
        intro h wh
        obtain ⟨rfl, rfl⟩ := some_of hF
        exact hq _ wh
      · replace hF := if_ofF c hF
        refine ⟨fun c => ?_, fun c => ?_⟩
        · replace hF := if_ofT c hF
          refine ⟨⟨_, wh.2.1 10800 _ rfl hv_l0⟩, ?_⟩
          obtain ⟨x4, w3, hG, hF⟩ := bnd_of hF
          refine cl_I (D := 0) (Nat.le_trans (by decide) hd) (c_X8_refuse wh hv_l0 hG) ?_
          clear hG
          clear wh
          intro h wh
          obtain ⟨rfl, rfl⟩ := some_of hF
          exact hq _ wh
        · replace hF := if_ofF c hF
          obtain ⟨rfl, rfl⟩ := some_of hF
          exact hq _ wh
def f_X8_number (fu : Nat) (l0 : Nat) (l1 : Int32) (l2 : Int32) (w : MEM) : Option (Int32 × MEM) := bnd (f_X8_peek fu l0 w) fun (x2 : Int32) (w1 : MEM) => if x2 < (48 : Int32) then (bnd (f_X8_refuse fu l0 (1 : Int32) w1) fun (x4 : Int32) (w3 : MEM) => some ((-1 : Int32), w3)) else (if (57 : Int32) < x2 then (bnd (f_X8_refuse fu l0 (1 : Int32) w1) fun (x6 : Int32) (w5 : MEM) => some ((-1 : Int32), w5)) else (f_X8_number_28 fu fu l0 l1 l2 (0 : Int32) w1))
theorem E_X8_number (fu : Nat) (l0 : Nat) (l1 : Int32) (l2 : Int32) (w : MEM) : f_X8_number fu l0 l1 l2 w = bnd (f_X8_peek fu l0 w) fun (x2 : Int32) (w1 : MEM) => if x2 < (48 : Int32) then (bnd (f_X8_refuse fu l0 (1 : Int32) w1) fun (x4 : Int32) (w3 : MEM) => some ((-1 : Int32), w3)) else (if (57 : Int32) < x2 then (bnd (f_X8_refuse fu l0 (1 : Int32) w1) fun (x6 : Int32) (w5 : MEM) => some ((-1 : Int32), w5)) else (f_X8_number_28 fu fu l0 l1 l2 (0 : Int32) w1)) := rfl
theorem w_X8_number {X : SCR} {d rc rs : Nat} {Q : PO → PH → Prop} {o : Int32} {w1 : MEM} {fu : Nat} (hd : 1 ≤ d) (hq : ∀ h1, WH X h1 w1 → Q (.inl (some (vI o))) h1) {l0 : Nat} {l1 : Int32} {l2 : Int32} {w : MEM} {h : PH} (wh : WH X h w) (hv_l0 : vo 8 l0 = true) (hF : f_X8_number fu l0 l1 l2 w = some (o, w1)) : PW d M_X8_number Q rc rs 0 [vR (800, l0), vI l1, vI l2, vU, vU] [] h := by
  replace hF := (E_X8_number fu l0 l1 l2 w).symm.trans hF
  refine r_X8_number_0 ?_
  refine ⟨⟨_, wh.2.1 10800 _ rfl hv_l0⟩, ?_⟩
  obtain ⟨x2, w1, hG, hF⟩ := bnd_of hF
  refine cl_I (D := 0) (Nat.le_trans (by decide) hd) (c_X8_peek wh hv_l0 hG) ?_
  clear hG
  clear wh
  intro h wh
  refine ⟨fun c => ?_, fun c => ?_⟩
  · replace hF := if_ofT c hF
    refine ⟨⟨_, wh.2.1 10800 _ rfl hv_l0⟩, ?_⟩
    obtain ⟨x4, w3, hG, hF⟩ := bnd_of hF
    refine cl_I (D := 0) (Nat.le_trans (by decide) hd) (c_X8_refuse wh hv_l0 hG) ?_
    clear hG
    clear wh
    intro h wh
    obtain ⟨rfl, rfl⟩ := some_of hF
    exact hq _ wh
  · replace hF := if_ofF c hF
    refine ⟨fun c => ?_, fun c => ?_⟩
    · replace hF := if_ofT c hF
      refine ⟨⟨_, wh.2.1 10800 _ rfl hv_l0⟩, ?_⟩
      obtain ⟨x6, w5, hG, hF⟩ := bnd_of hF
      refine cl_I (D := 0) (Nat.le_trans (by decide) hd) (c_X8_refuse wh hv_l0 hG) ?_
      clear hG
      clear wh
      intro h wh
      obtain ⟨rfl, rfl⟩ := some_of hF
      exact hq _ wh
    · replace hF := if_ofF c hF
      exact w_X8_number_28 hd hq  fu _ _ _ _ _ _ wh hv_l0 hF
theorem c_X8_number {X : SCR} {fu : Nat} {o : Int32} {w1 : MEM} {a0 : Nat} {a1 : Int32} {a2 : Int32} {w : MEM} {h : PH} (wh : WH X h w) (h0 : vo 8 a0 = true) (hF : f_X8_number fu a0 a1 a2 w = some (o, w1)) : CT 1 M_X8_number [vR (800, a0), vI a1, vI a2] h 0 0 (QP X (.inl (some (vI o))) w1) :=
  CT_of mk_X8_number (Nat.le_of_ble_eq_true rfl) rfl (w_X8_number (fu := fu) (rc := 0) (rs := 0) (hd := Nat.le_refl 1) (hq := fun h1 g => ⟨rfl, g⟩) wh h0 hF)
-- X0_readLine
def f_X0_readLine (fu : Nat) (l0 : Nat) (l1 : Nat) (w : MEM) : Option (Int32 × MEM) := bnd (f_X8_number fu l1 (1 : Int32) (12 : Int32) w) fun (x2 : Int32) (w1 : MEM) => if x2 = (-1 : Int32) then (some ((0 : Int32), w1)) else (ck (bI x2 13) (if (rA w1 (1, l0) x2) = (-1 : Int32) then (if (rS w1 (10001, l0)) < (6 : Int32) then (bnd (f_X8_number fu l1 (0 : Int32) (99 : Int32) w1) fun (x4 : Int32) (w3 : MEM) => ck (bI x2 13) (lt (sA w3 (1, l0) x2 x4) fun (w5 : MEM) => lt (sS w5 (10001, l0) ((rS w5 (10001, l0)) + (1 : Int32))) fun (w6 : MEM) => ck (bI x2 13) (if (rA w6 (1, l0) x2) = (-1 : Int32) then (some ((0 : Int32), w6)) else (some ((1 : Int32), w6))))) else (bnd (f_X8_refuse fu l1 (3 : Int32) w1) fun (x8 : Int32) (w7 : MEM) => ck (b01 x8) (some (x8, w7)))) else (bnd (f_X8_refuse fu l1 (2 : Int32) w1) fun (x10 : Int32) (w9 : MEM) => ck (b01 x10) (some (x10, w9)))))
theorem E_X0_readLine (fu : Nat) (l0 : Nat) (l1 : Nat) (w : MEM) : f_X0_readLine fu l0 l1 w = bnd (f_X8_number fu l1 (1 : Int32) (12 : Int32) w) fun (x2 : Int32) (w1 : MEM) => if x2 = (-1 : Int32) then (some ((0 : Int32), w1)) else (ck (bI x2 13) (if (rA w1 (1, l0) x2) = (-1 : Int32) then (if (rS w1 (10001, l0)) < (6 : Int32) then (bnd (f_X8_number fu l1 (0 : Int32) (99 : Int32) w1) fun (x4 : Int32) (w3 : MEM) => ck (bI x2 13) (lt (sA w3 (1, l0) x2 x4) fun (w5 : MEM) => lt (sS w5 (10001, l0) ((rS w5 (10001, l0)) + (1 : Int32))) fun (w6 : MEM) => ck (bI x2 13) (if (rA w6 (1, l0) x2) = (-1 : Int32) then (some ((0 : Int32), w6)) else (some ((1 : Int32), w6))))) else (bnd (f_X8_refuse fu l1 (3 : Int32) w1) fun (x8 : Int32) (w7 : MEM) => ck (b01 x8) (some (x8, w7)))) else (bnd (f_X8_refuse fu l1 (2 : Int32) w1) fun (x10 : Int32) (w9 : MEM) => ck (b01 x10) (some (x10, w9))))) := rfl
theorem w_X0_readLine {X : SCR} {d rc rs : Nat} {Q : PO → PH → Prop} {o : Int32} {w1 : MEM} {fu : Nat} (hd : 2 ≤ d) (hq : ∀ h1, WH X h1 w1 → Q (.inl (some (vI o))) h1) {l0 : Nat} {l1 : Nat} {w : MEM} {h : PH} (wh : WH X h w) (hv_l0 : vo 0 l0 = true) (hv_l1 : vo 8 l1 = true) (hF : f_X0_readLine fu l0 l1 w = some (o, w1)) : PW d M_X0_readLine Q rc rs 0 [vR (0, l0), vR (800, l1), vU] [] h := by
  replace hF := (E_X0_readLine fu l0 l1 w).symm.trans hF
  refine r_X0_readLine_0 ?_
  refine ⟨⟨_, wh.2.1 10800 _ rfl hv_l1⟩, ?_⟩
  obtain ⟨x2, w1, hG, hF⟩ := bnd_of hF
  refine cl_I (D := 1) (Nat.le_trans (by decide) hd) (c_X8_number wh hv_l1 hG) ?_
  clear hG
  clear wh
  intro h wh
  refine ⟨fun c => ?_, fun c => ?_⟩
  · replace hF := if_ofT c hF
    obtain ⟨rfl, rfl⟩ := some_of hF
    exact hq _ wh
  · replace hF := if_ofF c hF
    refine gA_of (b := (1, l0)) (wh.2.1 10000 _ rfl hv_l0) ?_
    obtain ⟨c, hF⟩ := ck_of hF
    refine xI_of wh (oA_1 hv_l0) c ?_
    clear c
    refine ⟨fun c => ?_, fun c => ?_⟩
    · replace hF := if_ofT c hF
      refine gI_of (wh.1 10001 _ rfl hv_l0) ?_
      refine ⟨fun c => ?_, fun c => ?_⟩
      · replace hF := if_ofT c hF
        refine gA_of (b := (1, l0)) (wh.2.1 10000 _ rfl hv_l0) ?_
        refine ⟨⟨_, wh.2.1 10800 _ rfl hv_l1⟩, ?_⟩
        obtain ⟨x4, w3, hG, hF⟩ := bnd_of hF
        refine cl_I (D := 1) (Nat.le_trans (by decide) hd) (c_X8_number wh hv_l1 hG) ?_
        clear hG
        clear wh
        intro h wh
        obtain ⟨c, hF⟩ := ck_of hF
        replace hF := lt_of hF
        refine yI_of wh (oA_1 hv_l0) c ?_
        clear c wh
        intro h wh
        refine gI_of (wh.1 10001 _ rfl hv_l0) ?_
        replace hF := lt_of hF
        refine sF_S wh rfl hv_l0 ?_
        clear wh
        intro h wh
        refine gA_of (b := (1, l0)) (wh.2.1 10000 _ rfl hv_l0) ?_
        obtain ⟨c, hF⟩ := ck_of hF
        refine xI_of wh (oA_1 hv_l0) c ?_
        clear c
        refine ⟨fun c => ?_, fun c => ?_⟩
        · replace hF := if_ofT c hF
          obtain ⟨rfl, rfl⟩ := some_of hF
          exact hq _ wh
        · replace hF := if_ofF c hF
          obtain ⟨rfl, rfl⟩ := some_of hF
          exact hq _ wh
      · replace hF := if_ofF c hF
        refine ⟨⟨_, wh.2.1 10800 _ rfl hv_l1⟩, ?_⟩
        obtain ⟨x8, w7, hG, hF⟩ := bnd_of hF
        refine cl_I (D := 0) (Nat.le_trans (by decide) hd) (c_X8_refuse wh hv_l1 hG) ?_
        clear hG
        clear wh
        intro h wh
        obtain ⟨c, hF⟩ := ck_of hF
        obtain ⟨rfl, rfl⟩ := some_of hF
        exact ⟨b01_nrw c, hq _ wh⟩
    · replace hF := if_ofF c hF
      refine ⟨⟨_, wh.2.1 10800 _ rfl hv_l1⟩, ?_⟩
      obtain ⟨x10, w9, hG, hF⟩ := bnd_of hF
      refine cl_I (D := 0) (Nat.le_trans (by decide) hd) (c_X8_refuse wh hv_l1 hG) ?_
      clear hG
      clear wh
      intro h wh
      obtain ⟨c, hF⟩ := ck_of hF
      obtain ⟨rfl, rfl⟩ := some_of hF
      exact ⟨b01_nrw c, hq _ wh⟩
theorem c_X0_readLine {X : SCR} {fu : Nat} {o : Int32} {w1 : MEM} {a0 : Nat} {a1 : Nat} {w : MEM} {h : PH} (wh : WH X h w) (h0 : vo 0 a0 = true) (h1 : vo 8 a1 = true) (hF : f_X0_readLine fu a0 a1 w = some (o, w1)) : CT 2 M_X0_readLine [vR (0, a0), vR (800, a1)] h 0 0 (QP X (.inl (some (vI o))) w1) :=
  CT_of mk_X0_readLine (Nat.le_of_ble_eq_true rfl) rfl (w_X0_readLine (fu := fu) (rc := 0) (rs := 0) (hd := Nat.le_refl 2) (hq := fun h1 g => ⟨rfl, g⟩) wh h0 h1 hF)
-- X8_needSign
def f_X8_needSign (fu : Nat) (l0 : Nat) (l1 : Int32) (w : MEM) : Option (Int32 × MEM) := bnd (f_X8_peek fu l0 w) fun (x2 : Int32) (w1 : MEM) => if x2 = l1 then (lt (sS w1 (10803, l0) ((rS w1 (10803, l0)) + (1 : Int32))) fun (w3 : MEM) => some ((1 : Int32), w3)) else (bnd (f_X8_refuse fu l0 (1 : Int32) w1) fun (x5 : Int32) (w4 : MEM) => ck (b01 x5) (some (x5, w4)))
theorem E_X8_needSign (fu : Nat) (l0 : Nat) (l1 : Int32) (w : MEM) : f_X8_needSign fu l0 l1 w = bnd (f_X8_peek fu l0 w) fun (x2 : Int32) (w1 : MEM) => if x2 = l1 then (lt (sS w1 (10803, l0) ((rS w1 (10803, l0)) + (1 : Int32))) fun (w3 : MEM) => some ((1 : Int32), w3)) else (bnd (f_X8_refuse fu l0 (1 : Int32) w1) fun (x5 : Int32) (w4 : MEM) => ck (b01 x5) (some (x5, w4))) := rfl
theorem w_X8_needSign {X : SCR} {d rc rs : Nat} {Q : PO → PH → Prop} {o : Int32} {w1 : MEM} {fu : Nat} (hd : 1 ≤ d) (hq : ∀ h1, WH X h1 w1 → Q (.inl (some (vI o))) h1) {l0 : Nat} {l1 : Int32} {w : MEM} {h : PH} (wh : WH X h w) (hv_l0 : vo 8 l0 = true) (hF : f_X8_needSign fu l0 l1 w = some (o, w1)) : PW d M_X8_needSign Q rc rs 0 [vR (800, l0), vI l1] [] h := by
  replace hF := (E_X8_needSign fu l0 l1 w).symm.trans hF
  refine r_X8_needSign_0 ?_
  refine ⟨⟨_, wh.2.1 10800 _ rfl hv_l0⟩, ?_⟩
  obtain ⟨x2, w1, hG, hF⟩ := bnd_of hF
  refine cl_I (D := 0) (Nat.le_trans (by decide) hd) (c_X8_peek wh hv_l0 hG) ?_
  clear hG
  clear wh
  intro h wh
  refine ⟨fun c => ?_, fun c => ?_⟩
  · replace hF := if_ofT c hF
    refine gI_of (wh.1 10803 _ rfl hv_l0) ?_
    replace hF := lt_of hF
    refine sF_S wh rfl hv_l0 ?_
    clear wh
    intro h wh
    obtain ⟨rfl, rfl⟩ := some_of hF
    exact hq _ wh
  · replace hF := if_ofF c hF
    refine ⟨⟨_, wh.2.1 10800 _ rfl hv_l0⟩, ?_⟩
    obtain ⟨x5, w4, hG, hF⟩ := bnd_of hF
    refine cl_I (D := 0) (Nat.le_trans (by decide) hd) (c_X8_refuse wh hv_l0 hG) ?_
    clear hG
    clear wh
    intro h wh
    obtain ⟨c, hF⟩ := ck_of hF
    obtain ⟨rfl, rfl⟩ := some_of hF
    exact ⟨b01_nrw c, hq _ wh⟩
theorem c_X8_needSign {X : SCR} {fu : Nat} {o : Int32} {w1 : MEM} {a0 : Nat} {a1 : Int32} {w : MEM} {h : PH} (wh : WH X h w) (h0 : vo 8 a0 = true) (hF : f_X8_needSign fu a0 a1 w = some (o, w1)) : CT 1 M_X8_needSign [vR (800, a0), vI a1] h 0 0 (QP X (.inl (some (vI o))) w1) :=
  CT_of mk_X8_needSign (Nat.le_of_ble_eq_true rfl) rfl (w_X8_needSign (fu := fu) (rc := 0) (rs := 0) (hd := Nat.le_refl 1) (hq := fun h1 g => ⟨rfl, g⟩) wh h0 hF)
-- X0_read
def f_X0_read_6 (fu : Nat) : Nat → Nat → Nat → Int32 → MEM → Option (Int32 × MEM)
  | 0, _, _, _, _ => none
  | n + 1, l0, l1, l2, w => if (6 : Int32) < l2 then (some ((1 : Int32), w)) else (bnd (f_X8_peek fu l1 w) fun (x2 : Int32) (w1 : MEM) => if x2 = (-1 : Int32) then (some ((1 : Int32), w1)) else (bnd (f_X0_readLine fu l0 l1 w1) fun (x4 : Int32) (w3 : MEM) => if x4 = 0 then (some ((0 : Int32), w3)) else (bnd (f_X8_needSign fu l1 (59 : Int32) w3) fun (x6 : Int32) (w5 : MEM) => if x6 = 0 then (some ((0 : Int32), w5)) else (f_X0_read_6 fu n l0 l1 (l2 + (1 : Int32)) w5))))
theorem E_X0_read_6 (fu : Nat) (n : Nat) (l0 : Nat) (l1 : Nat) (l2 : Int32) (w : MEM) : f_X0_read_6 fu (n + 1) l0 l1 l2 w = if (6 : Int32) < l2 then (some ((1 : Int32), w)) else (bnd (f_X8_peek fu l1 w) fun (x2 : Int32) (w1 : MEM) => if x2 = (-1 : Int32) then (some ((1 : Int32), w1)) else (bnd (f_X0_readLine fu l0 l1 w1) fun (x4 : Int32) (w3 : MEM) => if x4 = 0 then (some ((0 : Int32), w3)) else (bnd (f_X8_needSign fu l1 (59 : Int32) w3) fun (x6 : Int32) (w5 : MEM) => if x6 = 0 then (some ((0 : Int32), w5)) else (f_X0_read_6 fu n l0 l1 (l2 + (1 : Int32)) w5)))) := rfl
theorem w_X0_read_6 {X : SCR} {d rc rs : Nat} {Q : PO → PH → Prop} {o : Int32} {w1 : MEM} {fu : Nat} (hd : 3 ≤ d) (hq : ∀ h1, WH X h1 w1 → Q (.inl (some (vI o))) h1) : ∀ (n : Nat) (l0 : Nat) (l1 : Nat) (l2 : Int32) (w : MEM) (h : PH), WH X h w → vo 0 l0 = true → vo 8 l1 = true → f_X0_read_6 fu n l0 l1 l2 w = some (o, w1) → PW d M_X0_read Q rc rs 6 [vR (0, l0), vR (800, l1), vI l2] [] h := by
  intro n
  induction n with
  | zero => intro l0 l1 l2 w h wh hv_l0 hv_l1 hF; cases hF
  | succ n ih =>
    intro l0 l1 l2 w h wh hv_l0 hv_l1 hF
    replace hF := (E_X0_read_6 fu n l0 l1 l2 w).symm.trans hF
    refine r_X0_read_6 ?_
    refine ⟨fun c => ?_, fun c => ?_⟩
    · replace hF := if_ofT c hF
      obtain ⟨rfl, rfl⟩ := some_of hF
      exact hq _ wh
    · replace hF := if_ofF c hF
      refine ⟨⟨_, wh.2.1 10800 _ rfl hv_l1⟩, ?_⟩
      obtain ⟨x2, w1, hG, hF⟩ := bnd_of hF
      refine cl_I (D := 0) (Nat.le_trans (by decide) hd) (c_X8_peek wh hv_l1 hG) ?_
      clear hG
      clear wh
      intro h wh
      refine ⟨fun c => ?_, fun c => ?_⟩
      · replace hF := if_ofT c hF
        obtain ⟨rfl, rfl⟩ := some_of hF
        exact hq _ wh
      · replace hF := if_ofF c hF
        refine ⟨⟨_, wh.2.1 10000 _ rfl hv_l0⟩, ?_⟩
        obtain ⟨x4, w3, hG, hF⟩ := bnd_of hF
        refine cl_I (D := 2) (Nat.le_trans (by decide) hd) (c_X0_readLine wh hv_l0 hv_l1 hG) ?_
        clear hG
        clear wh
        intro h wh
        refine ⟨fun c => ?_, fun c => ?_⟩
        · replace hF := if_ofT c hF
          obtain ⟨rfl, rfl⟩ := some_of hF
          exact hq _ wh
        · replace hF := if_ofF c hF
          refine ⟨⟨_, wh.2.1 10800 _ rfl hv_l1⟩, ?_⟩
          obtain ⟨x6, w5, hG, hF⟩ := bnd_of hF
          refine cl_I (D := 1) (Nat.le_trans (by decide) hd) (c_X8_needSign wh hv_l1 hG) ?_
          clear hG
          clear wh
          intro h wh
          refine ⟨fun c => ?_, fun c => ?_⟩
          · replace hF := if_ofT c hF
            obtain ⟨rfl, rfl⟩ := some_of hF
            exact hq _ wh
          · replace hF := if_ofF c hF
            exact ih _ _ _ _ _ wh hv_l0 hv_l1 hF
def f_X0_read (fu : Nat) (l0 : Nat) (l1 : Nat) (w : MEM) : Option (Int32 × MEM) := bnd (f_X0_clear fu l0 w) fun (u2 : Unit) (w1 : MEM) => f_X0_read_6 fu fu l0 l1 (0 : Int32) w1
theorem E_X0_read (fu : Nat) (l0 : Nat) (l1 : Nat) (w : MEM) : f_X0_read fu l0 l1 w = bnd (f_X0_clear fu l0 w) fun (u2 : Unit) (w1 : MEM) => f_X0_read_6 fu fu l0 l1 (0 : Int32) w1 := rfl
theorem w_X0_read {X : SCR} {d rc rs : Nat} {Q : PO → PH → Prop} {o : Int32} {w1 : MEM} {fu : Nat} (hd : 3 ≤ d) (hq : ∀ h1, WH X h1 w1 → Q (.inl (some (vI o))) h1) {l0 : Nat} {l1 : Nat} {w : MEM} {h : PH} (wh : WH X h w) (hv_l0 : vo 0 l0 = true) (hv_l1 : vo 8 l1 = true) (hF : f_X0_read fu l0 l1 w = some (o, w1)) : PW d M_X0_read Q rc rs 0 [vR (0, l0), vR (800, l1), vU] [] h := by
  replace hF := (E_X0_read fu l0 l1 w).symm.trans hF
  refine r_X0_read_0 ?_
  refine ⟨⟨_, wh.2.1 10000 _ rfl hv_l0⟩, ?_⟩
  obtain ⟨u2, w1, hG, hF⟩ := bnd_of hF
  refine cl_V (D := 1) (Nat.le_trans (by decide) hd) (c_X0_clear wh hv_l0 hG) ?_
  clear hG
  clear wh
  intro h wh
  exact w_X0_read_6 hd hq  fu _ _ _ _ _ wh hv_l0 hv_l1 hF
theorem c_X0_read {X : SCR} {fu : Nat} {o : Int32} {w1 : MEM} {a0 : Nat} {a1 : Nat} {w : MEM} {h : PH} (wh : WH X h w) (h0 : vo 0 a0 = true) (h1 : vo 8 a1 = true) (hF : f_X0_read fu a0 a1 w = some (o, w1)) : CT 3 M_X0_read [vR (0, a0), vR (800, a1)] h 0 0 (QP X (.inl (some (vI o))) w1) :=
  CT_of mk_X0_read (Nat.le_of_ble_eq_true rfl) rfl (w_X0_read (fu := fu) (rc := 0) (rs := 0) (hd := Nat.le_refl 3) (hq := fun h1 g => ⟨rfl, g⟩) wh h0 h1 hF)
-- X8_takeWord
def f_X8_takeWord_27 (fu : Nat) : Nat → Nat → Nat → Int32 → Int32 → MEM → Option (Int32 × MEM)
  | 0, _, _, _, _, _ => none
  | n + 1, l0, l1, l2, l3, w => if l3 < l2 then (ck (bI ((rS w (10803, l0)) + l3) 600) (bnd (f_J0_charAt_5068e fu l1 l3 w) fun (x6 : Int32) (w5 : MEM) => if (rA w (801, l0) ((rS w (10803, l0)) + l3)) = x6 then (f_X8_takeWord_27 fu n l0 l1 l2 (l3 + (1 : Int32)) w5) else (some ((0 : Int32), w5)))) else (lt (((rS w (10803, l0)) + l2)) fun (v1 : Int32) => if v1 < (rS w (10802, l0)) then (ck (bI v1 600) (if (rA w (801, l0) v1) < (97 : Int32) then (lt (sS w (10803, l0) v1) fun (w3 : MEM) => some ((1 : Int32), w3)) else (ck (bI v1 600) (if (122 : Int32) < (rA w (801, l0) v1) then (lt (sS w (10803, l0) v1) fun (w4 : MEM) => some ((1 : Int32), w4)) else (some ((0 : Int32), w)))))) else (lt (sS w (10803, l0) v1) fun (w2 : MEM) => some ((1 : Int32), w2)))
theorem E_X8_takeWord_27 (fu : Nat) (n : Nat) (l0 : Nat) (l1 : Nat) (l2 : Int32) (l3 : Int32) (w : MEM) : f_X8_takeWord_27 fu (n + 1) l0 l1 l2 l3 w = if l3 < l2 then (ck (bI ((rS w (10803, l0)) + l3) 600) (bnd (f_J0_charAt_5068e fu l1 l3 w) fun (x6 : Int32) (w5 : MEM) => if (rA w (801, l0) ((rS w (10803, l0)) + l3)) = x6 then (f_X8_takeWord_27 fu n l0 l1 l2 (l3 + (1 : Int32)) w5) else (some ((0 : Int32), w5)))) else (lt (((rS w (10803, l0)) + l2)) fun (v1 : Int32) => if v1 < (rS w (10802, l0)) then (ck (bI v1 600) (if (rA w (801, l0) v1) < (97 : Int32) then (lt (sS w (10803, l0) v1) fun (w3 : MEM) => some ((1 : Int32), w3)) else (ck (bI v1 600) (if (122 : Int32) < (rA w (801, l0) v1) then (lt (sS w (10803, l0) v1) fun (w4 : MEM) => some ((1 : Int32), w4)) else (some ((0 : Int32), w)))))) else (lt (sS w (10803, l0) v1) fun (w2 : MEM) => some ((1 : Int32), w2))) := rfl
theorem w_X8_takeWord_27 {X : SCR} {d rc rs : Nat} {Q : PO → PH → Prop} {o : Int32} {w1 : MEM} {fu : Nat} (hd : 6 ≤ d) (hq : ∀ h1, WH X h1 w1 → Q (.inl (some (vI o))) h1) : ∀ (n : Nat) (l0 : Nat) (l1 : Nat) (l2 : Int32) (l3 : Int32) (w : MEM) (h : PH), WH X h w → vo 8 l0 = true → l1 < 21 → f_X8_takeWord_27 fu n l0 l1 l2 l3 w = some (o, w1) → PW d M_X8_takeWord Q rc rs 27 [vR (800, l0), vR (1200, l1), vI l2, vI l3] [] h := by
  intro n
  induction n with
  | zero => intro l0 l1 l2 l3 w h wh hv_l0 hs_l1 hF; cases hF
  | succ n ih =>
    intro l0 l1 l2 l3 w h wh hv_l0 hs_l1 hF
    replace hF := (E_X8_takeWord_27 fu n l0 l1 l2 l3 w).symm.trans hF
    refine r_X8_takeWord_27 hs_l1 ?_
    refine ⟨fun c => ?_, fun c => ?_⟩
    · replace hF := if_ofT c hF
      refine gA_of (b := (801, l0)) (wh.2.1 10800 _ rfl hv_l0) ?_
      refine gI_of (wh.1 10803 _ rfl hv_l0) ?_
      obtain ⟨c, hF⟩ := ck_of hF
      refine xB_of wh (oA_801 hv_l0) c ?_
      clear c
      obtain ⟨x6, w5, hG, hF⟩ := bnd_of hF
      refine cl_I (D := 5) (Nat.le_trans (by decide) hd) (c_J0_charAt_5068e wh hs_l1 hG) ?_
      clear hG
      clear wh
      intro h wh
      refine ⟨fun c => ?_, fun c => ?_⟩
      · replace hF := if_ofT c hF
        exact ih _ _ _ _ _ _ wh hv_l0 hs_l1 hF
      · replace hF := if_ofF c hF
        obtain ⟨rfl, rfl⟩ := some_of hF
        exact hq _ wh
    · replace hF := if_ofF c hF
      refine gI_of (wh.1 10803 _ rfl hv_l0) ?_
      replace hF := lt_of hF
      refine gI_of (wh.1 10802 _ rfl hv_l0) ?_
      refine ⟨fun c => ?_, fun c => ?_⟩
      · replace hF := if_ofT c hF
        refine gA_of (b := (801, l0)) (wh.2.1 10800 _ rfl hv_l0) ?_
        obtain ⟨c, hF⟩ := ck_of hF
        refine xB_of wh (oA_801 hv_l0) c ?_
        clear c
        refine ⟨fun c => ?_, fun c => ?_⟩
        · replace hF := if_ofT c hF
          replace hF := lt_of hF
          refine sF_S wh rfl hv_l0 ?_
          clear wh
          intro h wh
          obtain ⟨rfl, rfl⟩ := some_of hF
          exact hq _ wh
        · replace hF := if_ofF c hF
          refine gA_of (b := (801, l0)) (wh.2.1 10800 _ rfl hv_l0) ?_
          obtain ⟨c, hF⟩ := ck_of hF
          refine xB_of wh (oA_801 hv_l0) c ?_
          clear c
          refine ⟨fun c => ?_, fun c => ?_⟩
          · replace hF := if_ofT c hF
            replace hF := lt_of hF
            refine sF_S wh rfl hv_l0 ?_
            clear wh
            intro h wh
            obtain ⟨rfl, rfl⟩ := some_of hF
            exact hq _ wh
          · replace hF := if_ofF c hF
            obtain ⟨rfl, rfl⟩ := some_of hF
            exact hq _ wh
      · replace hF := if_ofF c hF
        replace hF := lt_of hF
        refine sF_S wh rfl hv_l0 ?_
        clear wh
        intro h wh
        obtain ⟨rfl, rfl⟩ := some_of hF
        exact hq _ wh
def f_X8_takeWord (fu : Nat) (l0 : Nat) (l1 : Nat) (w : MEM) : Option (Int32 × MEM) := bnd (f_X8_peek fu l0 w) fun (x2 : Int32) (w1 : MEM) => bnd (f_J0_length_8abf5 fu l1 w1) fun (x4 : Int32) (w3 : MEM) => if ((rS w3 (10802, l0)) - (rS w3 (10803, l0))) < x4 then (some ((0 : Int32), w3)) else (f_X8_takeWord_27 fu fu l0 l1 x4 (0 : Int32) w3)
theorem E_X8_takeWord (fu : Nat) (l0 : Nat) (l1 : Nat) (w : MEM) : f_X8_takeWord fu l0 l1 w = bnd (f_X8_peek fu l0 w) fun (x2 : Int32) (w1 : MEM) => bnd (f_J0_length_8abf5 fu l1 w1) fun (x4 : Int32) (w3 : MEM) => if ((rS w3 (10802, l0)) - (rS w3 (10803, l0))) < x4 then (some ((0 : Int32), w3)) else (f_X8_takeWord_27 fu fu l0 l1 x4 (0 : Int32) w3) := rfl
theorem w_X8_takeWord {X : SCR} {d rc rs : Nat} {Q : PO → PH → Prop} {o : Int32} {w1 : MEM} {fu : Nat} (hd : 6 ≤ d) (hq : ∀ h1, WH X h1 w1 → Q (.inl (some (vI o))) h1) {l0 : Nat} {l1 : Nat} {w : MEM} {h : PH} (wh : WH X h w) (hv_l0 : vo 8 l0 = true) (hs_l1 : l1 < 21) (hF : f_X8_takeWord fu l0 l1 w = some (o, w1)) : PW d M_X8_takeWord Q rc rs 0 [vR (800, l0), vR (1200, l1), vU, vU] [] h := by
  replace hF := (E_X8_takeWord fu l0 l1 w).symm.trans hF
  refine r_X8_takeWord_0 hs_l1 ?_
  refine ⟨⟨_, wh.2.1 10800 _ rfl hv_l0⟩, ?_⟩
  obtain ⟨x2, w1, hG, hF⟩ := bnd_of hF
  refine cl_I (D := 0) (Nat.le_trans (by decide) hd) (c_X8_peek wh hv_l0 hG) ?_
  clear hG
  clear wh
  intro h wh
  obtain ⟨x4, w3, hG, hF⟩ := bnd_of hF
  refine cl_I (D := 2) (Nat.le_trans (by decide) hd) (c_J0_length_8abf5 wh hs_l1 hG) ?_
  clear hG
  clear wh
  intro h wh
  refine gI_of (wh.1 10802 _ rfl hv_l0) ?_
  refine gI_of (wh.1 10803 _ rfl hv_l0) ?_
  refine ⟨fun c => ?_, fun c => ?_⟩
  · replace hF := if_ofT c hF
    obtain ⟨rfl, rfl⟩ := some_of hF
    exact hq _ wh
  · replace hF := if_ofF c hF
    exact w_X8_takeWord_27 hd hq  fu _ _ _ _ _ _ wh hv_l0 hs_l1 hF
theorem c_X8_takeWord {X : SCR} {fu : Nat} {o : Int32} {w1 : MEM} {a0 : Nat} {a1 : Nat} {w : MEM} {h : PH} (wh : WH X h w) (h0 : vo 8 a0 = true) (h1 : a1 < 21) (hF : f_X8_takeWord fu a0 a1 w = some (o, w1)) : CT 6 M_X8_takeWord [vR (800, a0), vR (1200, a1)] h 0 0 (QP X (.inl (some (vI o))) w1) :=
  CT_of mk_X8_takeWord (Nat.le_of_ble_eq_true rfl) rfl (w_X8_takeWord (fu := fu) (rc := 0) (rs := 0) (hd := Nat.le_refl 6) (hq := fun h1 g => ⟨rfl, g⟩) wh h0 h1 hF)
-- X1_readHeir
def f_X1_readHeir (fu : Nat) (l0 : Nat) (l1 : Nat) (w : MEM) : Option (Int32 × MEM) := bnd (f_X8_number fu l1 (1 : Int32) (9 : Int32) w) fun (x2 : Int32) (w1 : MEM) => if x2 = (-1 : Int32) then (if (-1 : Int32) = (-1 : Int32) then (some ((0 : Int32), w1)) else (ck (bI (rS w1 (10107, l0)) 7) (lt (sA w1 (101, l0) (rS w1 (10107, l0)) x2) fun (w8 : MEM) => ck (bI (rS w8 (10107, l0)) 7) (lt (sA w8 (102, l0) (rS w8 (10107, l0)) (-1 : Int32)) fun (w9 : MEM) => lt (sS w9 (10107, l0) ((rS w9 (10107, l0)) + (1 : Int32))) fun (w10 : MEM) => some ((1 : Int32), w10))))) else (bnd (f_X8_number fu l1 (0 : Int32) (9 : Int32) w1) fun (x4 : Int32) (w3 : MEM) => if x4 = (-1 : Int32) then (some ((0 : Int32), w3)) else (ck (bI (rS w3 (10107, l0)) 7) (lt (sA w3 (101, l0) (rS w3 (10107, l0)) x2) fun (w5 : MEM) => ck (bI (rS w5 (10107, l0)) 7) (lt (sA w5 (102, l0) (rS w5 (10107, l0)) x4) fun (w6 : MEM) => lt (sS w6 (10107, l0) ((rS w6 (10107, l0)) + (1 : Int32))) fun (w7 : MEM) => some ((1 : Int32), w7)))))
theorem E_X1_readHeir (fu : Nat) (l0 : Nat) (l1 : Nat) (w : MEM) : f_X1_readHeir fu l0 l1 w = bnd (f_X8_number fu l1 (1 : Int32) (9 : Int32) w) fun (x2 : Int32) (w1 : MEM) => if x2 = (-1 : Int32) then (if (-1 : Int32) = (-1 : Int32) then (some ((0 : Int32), w1)) else (ck (bI (rS w1 (10107, l0)) 7) (lt (sA w1 (101, l0) (rS w1 (10107, l0)) x2) fun (w8 : MEM) => ck (bI (rS w8 (10107, l0)) 7) (lt (sA w8 (102, l0) (rS w8 (10107, l0)) (-1 : Int32)) fun (w9 : MEM) => lt (sS w9 (10107, l0) ((rS w9 (10107, l0)) + (1 : Int32))) fun (w10 : MEM) => some ((1 : Int32), w10))))) else (bnd (f_X8_number fu l1 (0 : Int32) (9 : Int32) w1) fun (x4 : Int32) (w3 : MEM) => if x4 = (-1 : Int32) then (some ((0 : Int32), w3)) else (ck (bI (rS w3 (10107, l0)) 7) (lt (sA w3 (101, l0) (rS w3 (10107, l0)) x2) fun (w5 : MEM) => ck (bI (rS w5 (10107, l0)) 7) (lt (sA w5 (102, l0) (rS w5 (10107, l0)) x4) fun (w6 : MEM) => lt (sS w6 (10107, l0) ((rS w6 (10107, l0)) + (1 : Int32))) fun (w7 : MEM) => some ((1 : Int32), w7))))) := rfl
theorem w_X1_readHeir {X : SCR} {d rc rs : Nat} {Q : PO → PH → Prop} {o : Int32} {w1 : MEM} {fu : Nat} (hd : 2 ≤ d) (hq : ∀ h1, WH X h1 w1 → Q (.inl (some (vI o))) h1) {l0 : Nat} {l1 : Nat} {w : MEM} {h : PH} (wh : WH X h w) (hv_l0 : vo 1 l0 = true) (hv_l1 : vo 8 l1 = true) (hF : f_X1_readHeir fu l0 l1 w = some (o, w1)) : PW d M_X1_readHeir Q rc rs 0 [vR (100, l0), vR (800, l1), vU, vU] [] h := by
  replace hF := (E_X1_readHeir fu l0 l1 w).symm.trans hF
  refine r_X1_readHeir_0 ?_
  refine ⟨⟨_, wh.2.1 10800 _ rfl hv_l1⟩, ?_⟩
  obtain ⟨x2, w1, hG, hF⟩ := bnd_of hF
  refine cl_I (D := 1) (Nat.le_trans (by decide) hd) (c_X8_number wh hv_l1 hG) ?_
  clear hG
  clear wh
  intro h wh
  refine ⟨fun c => ?_, fun c => ?_⟩
  · replace hF := if_ofT c hF
    refine ⟨fun c => ?_, fun c => ?_⟩
    · replace hF := if_ofT c hF
      obtain ⟨rfl, rfl⟩ := some_of hF
      exact hq _ wh
    · replace hF := if_ofF c hF
      refine gA_of (b := (101, l0)) (wh.2.1 10100 _ rfl hv_l0) ?_
      refine gI_of (wh.1 10107 _ rfl hv_l0) ?_
      obtain ⟨c, hF⟩ := ck_of hF
      replace hF := lt_of hF
      refine yI_of wh (oA_101 hv_l0) c ?_
      clear c wh
      intro h wh
      refine gA_of (b := (102, l0)) (wh.2.1 10101 _ rfl hv_l0) ?_
      refine gI_of (wh.1 10107 _ rfl hv_l0) ?_
      obtain ⟨c, hF⟩ := ck_of hF
      replace hF := lt_of hF
      refine yI_of wh (oA_102 hv_l0) c ?_
      clear c wh
      intro h wh
      refine gI_of (wh.1 10107 _ rfl hv_l0) ?_
      replace hF := lt_of hF
      refine sF_S wh rfl hv_l0 ?_
      clear wh
      intro h wh
      obtain ⟨rfl, rfl⟩ := some_of hF
      exact hq _ wh
  · replace hF := if_ofF c hF
    refine ⟨⟨_, wh.2.1 10800 _ rfl hv_l1⟩, ?_⟩
    obtain ⟨x4, w3, hG, hF⟩ := bnd_of hF
    refine cl_I (D := 1) (Nat.le_trans (by decide) hd) (c_X8_number wh hv_l1 hG) ?_
    clear hG
    clear wh
    intro h wh
    refine ⟨fun c => ?_, fun c => ?_⟩
    · replace hF := if_ofT c hF
      obtain ⟨rfl, rfl⟩ := some_of hF
      exact hq _ wh
    · replace hF := if_ofF c hF
      refine gA_of (b := (101, l0)) (wh.2.1 10100 _ rfl hv_l0) ?_
      refine gI_of (wh.1 10107 _ rfl hv_l0) ?_
      obtain ⟨c, hF⟩ := ck_of hF
      replace hF := lt_of hF
      refine yI_of wh (oA_101 hv_l0) c ?_
      clear c wh
      intro h wh
      refine gA_of (b := (102, l0)) (wh.2.1 10101 _ rfl hv_l0) ?_
      refine gI_of (wh.1 10107 _ rfl hv_l0) ?_
      obtain ⟨c, hF⟩ := ck_of hF
      replace hF := lt_of hF
      refine yI_of wh (oA_102 hv_l0) c ?_
      clear c wh
      intro h wh
      refine gI_of (wh.1 10107 _ rfl hv_l0) ?_
      replace hF := lt_of hF
      refine sF_S wh rfl hv_l0 ?_
      clear wh
      intro h wh
      obtain ⟨rfl, rfl⟩ := some_of hF
      exact hq _ wh
theorem c_X1_readHeir {X : SCR} {fu : Nat} {o : Int32} {w1 : MEM} {a0 : Nat} {a1 : Nat} {w : MEM} {h : PH} (wh : WH X h w) (h0 : vo 1 a0 = true) (h1 : vo 8 a1 = true) (hF : f_X1_readHeir fu a0 a1 w = some (o, w1)) : CT 2 M_X1_readHeir [vR (100, a0), vR (800, a1)] h 0 0 (QP X (.inl (some (vI o))) w1) :=
  CT_of mk_X1_readHeir (Nat.le_of_ble_eq_true rfl) rfl (w_X1_readHeir (fu := fu) (rc := 0) (rs := 0) (hd := Nat.le_refl 2) (hq := fun h1 g => ⟨rfl, g⟩) wh h0 h1 hF)
-- X1_areTwo
def f_X1_areTwo (fu : Nat) (l0 : Nat) (l1 : Int32) (l2 : Int32) (w : MEM) : Option (Int32 × MEM) := ck (bI l1 7) (if ((rA w (103, l0) l1) &&& ((1 : Int32) <<< (l2 &&& 31))) = 0 then (some ((0 : Int32), w)) else (some ((1 : Int32), w)))
theorem E_X1_areTwo (fu : Nat) (l0 : Nat) (l1 : Int32) (l2 : Int32) (w : MEM) : f_X1_areTwo fu l0 l1 l2 w = ck (bI l1 7) (if ((rA w (103, l0) l1) &&& ((1 : Int32) <<< (l2 &&& 31))) = 0 then (some ((0 : Int32), w)) else (some ((1 : Int32), w))) := rfl
theorem w_X1_areTwo {X : SCR} {d rc rs : Nat} {Q : PO → PH → Prop} {o : Int32} {w1 : MEM} {fu : Nat} (hd : 0 ≤ d) (hq : ∀ h1, WH X h1 w1 → Q (.inl (some (vI o))) h1) {l0 : Nat} {l1 : Int32} {l2 : Int32} {w : MEM} {h : PH} (wh : WH X h w) (hv_l0 : vo 1 l0 = true) (hF : f_X1_areTwo fu l0 l1 l2 w = some (o, w1)) : PW d M_X1_areTwo Q rc rs 0 [vR (100, l0), vI l1, vI l2] [] h := by
  replace hF := (E_X1_areTwo fu l0 l1 l2 w).symm.trans hF
  refine r_X1_areTwo_0 ?_
  refine gA_of (b := (103, l0)) (wh.2.1 10102 _ rfl hv_l0) ?_
  obtain ⟨c, hF⟩ := ck_of hF
  refine xI_of wh (oA_103 hv_l0) c ?_
  clear c
  refine ⟨fun c => ?_, fun c => ?_⟩
  · replace hF := if_ofT c hF
    obtain ⟨rfl, rfl⟩ := some_of hF
    exact hq _ wh
  · replace hF := if_ofF c hF
    obtain ⟨rfl, rfl⟩ := some_of hF
    exact hq _ wh
theorem c_X1_areTwo {X : SCR} {fu : Nat} {o : Int32} {w1 : MEM} {a0 : Nat} {a1 : Int32} {a2 : Int32} {w : MEM} {h : PH} (wh : WH X h w) (h0 : vo 1 a0 = true) (hF : f_X1_areTwo fu a0 a1 a2 w = some (o, w1)) : CT 0 M_X1_areTwo [vR (100, a0), vI a1, vI a2] h 0 0 (QP X (.inl (some (vI o))) w1) :=
  CT_of mk_X1_areTwo (Nat.le_of_ble_eq_true rfl) rfl (w_X1_areTwo (fu := fu) (rc := 0) (rs := 0) (hd := Nat.le_refl 0) (hq := fun h1 g => ⟨rfl, g⟩) wh h0 hF)
-- X1_readTwo
def f_X1_readTwo_32 (fu : Nat) (l0 : Nat) (l1 : Nat) (l2 : Int32) (s0 : Int32) (w : MEM) : Option (Int32 × MEM) := if s0 = (-1 : Int32) then (some ((0 : Int32), w)) else (if l2 = s0 then (bnd (f_X8_refuse fu l1 (2 : Int32) w) fun (x2 : Int32) (w1 : MEM) => ck (b01 x2) (some (x2, w1))) else (bnd (f_X1_areTwo fu l0 l2 s0 w) fun (x4 : Int32) (w3 : MEM) => if x4 = 0 then (ck (bI (rS w3 (10108, l0)) 12) (lt (sA w3 (104, l0) (rS w3 (10108, l0)) l2) fun (w5 : MEM) => ck (bI (rS w5 (10108, l0)) 12) (lt (sA w5 (105, l0) (rS w5 (10108, l0)) s0) fun (w6 : MEM) => lt (sS w6 (10108, l0) ((rS w6 (10108, l0)) + (1 : Int32))) fun (w7 : MEM) => ck (bI l2 7) (ck (bI l2 7) (lt (sA w7 (103, l0) l2 ((rA w7 (103, l0) l2) ||| ((1 : Int32) <<< (s0 &&& 31)))) fun (w8 : MEM) => ck (bI s0 7) (ck (bI s0 7) (lt (sA w8 (103, l0) s0 ((rA w8 (103, l0) s0) ||| ((1 : Int32) <<< (l2 &&& 31)))) fun (w9 : MEM) => some ((1 : Int32), w9)))))))) else (bnd (f_X8_refuse fu l1 (2 : Int32) w3) fun (x11 : Int32) (w10 : MEM) => ck (b01 x11) (some (x11, w10)))))
theorem E_X1_readTwo_32 (fu : Nat) (l0 : Nat) (l1 : Nat) (l2 : Int32) (s0 : Int32) (w : MEM) : f_X1_readTwo_32 fu l0 l1 l2 s0 w = if s0 = (-1 : Int32) then (some ((0 : Int32), w)) else (if l2 = s0 then (bnd (f_X8_refuse fu l1 (2 : Int32) w) fun (x2 : Int32) (w1 : MEM) => ck (b01 x2) (some (x2, w1))) else (bnd (f_X1_areTwo fu l0 l2 s0 w) fun (x4 : Int32) (w3 : MEM) => if x4 = 0 then (ck (bI (rS w3 (10108, l0)) 12) (lt (sA w3 (104, l0) (rS w3 (10108, l0)) l2) fun (w5 : MEM) => ck (bI (rS w5 (10108, l0)) 12) (lt (sA w5 (105, l0) (rS w5 (10108, l0)) s0) fun (w6 : MEM) => lt (sS w6 (10108, l0) ((rS w6 (10108, l0)) + (1 : Int32))) fun (w7 : MEM) => ck (bI l2 7) (ck (bI l2 7) (lt (sA w7 (103, l0) l2 ((rA w7 (103, l0) l2) ||| ((1 : Int32) <<< (s0 &&& 31)))) fun (w8 : MEM) => ck (bI s0 7) (ck (bI s0 7) (lt (sA w8 (103, l0) s0 ((rA w8 (103, l0) s0) ||| ((1 : Int32) <<< (l2 &&& 31)))) fun (w9 : MEM) => some ((1 : Int32), w9)))))))) else (bnd (f_X8_refuse fu l1 (2 : Int32) w3) fun (x11 : Int32) (w10 : MEM) => ck (b01 x11) (some (x11, w10))))) := rfl
theorem w_X1_readTwo_32 {X : SCR} {d rc rs : Nat} {Q : PO → PH → Prop} {o : Int32} {w1 : MEM} {fu : Nat} (hd : 2 ≤ d) (hq : ∀ h1, WH X h1 w1 → Q (.inl (some (vI o))) h1) {l0 : Nat} {l1 : Nat} {l2 : Int32} {s0 : Int32} {w : MEM} {h : PH} (wh : WH X h w) (hv_l0 : vo 1 l0 = true) (hv_l1 : vo 8 l1 = true) (hF : f_X1_readTwo_32 fu l0 l1 l2 s0 w = some (o, w1)) : PW d M_X1_readTwo Q rc rs 32 [vR (100, l0), vR (800, l1), vI l2, vU] [vI s0] h := by
  replace hF := (E_X1_readTwo_32 fu l0 l1 l2 s0 w).symm.trans hF
  refine r_X1_readTwo_32 ?_
  refine ⟨fun c => ?_, fun c => ?_⟩
  · replace hF := if_ofT c hF
    obtain ⟨rfl, rfl⟩ := some_of hF
    exact hq _ wh
  · replace hF := if_ofF c hF
    refine ⟨fun c => ?_, fun c => ?_⟩
    · replace hF := if_ofT c hF
      refine ⟨⟨_, wh.2.1 10800 _ rfl hv_l1⟩, ?_⟩
      obtain ⟨x2, w1, hG, hF⟩ := bnd_of hF
      refine cl_I (D := 0) (Nat.le_trans (by decide) hd) (c_X8_refuse wh hv_l1 hG) ?_
      clear hG
      clear wh
      intro h wh
      obtain ⟨c, hF⟩ := ck_of hF
      obtain ⟨rfl, rfl⟩ := some_of hF
      exact ⟨b01_nrw c, hq _ wh⟩
    · replace hF := if_ofF c hF
      refine ⟨⟨_, wh.2.1 10100 _ rfl hv_l0⟩, ?_⟩
      obtain ⟨x4, w3, hG, hF⟩ := bnd_of hF
      refine cl_I (D := 0) (Nat.le_trans (by decide) hd) (c_X1_areTwo wh hv_l0 hG) ?_
      clear hG
      clear wh
      intro h wh
      refine ⟨fun c => ?_, fun c => ?_⟩
      · replace hF := if_ofT c hF
        refine gA_of (b := (104, l0)) (wh.2.1 10103 _ rfl hv_l0) ?_
        refine gI_of (wh.1 10108 _ rfl hv_l0) ?_
        obtain ⟨c, hF⟩ := ck_of hF
        replace hF := lt_of hF
        refine yI_of wh (oA_104 hv_l0) c ?_
        clear c wh
        intro h wh
        refine gA_of (b := (105, l0)) (wh.2.1 10104 _ rfl hv_l0) ?_
        refine gI_of (wh.1 10108 _ rfl hv_l0) ?_
        obtain ⟨c, hF⟩ := ck_of hF
        replace hF := lt_of hF
        refine yI_of wh (oA_105 hv_l0) c ?_
        clear c wh
        intro h wh
        refine gI_of (wh.1 10108 _ rfl hv_l0) ?_
        replace hF := lt_of hF
        refine sF_S wh rfl hv_l0 ?_
        clear wh
        intro h wh
        refine gA_of (b := (103, l0)) (wh.2.1 10102 _ rfl hv_l0) ?_
        obtain ⟨c, hF⟩ := ck_of hF
        refine xI_of wh (oA_103 hv_l0) c ?_
        clear c
        obtain ⟨c, hF⟩ := ck_of hF
        replace hF := lt_of hF
        refine yI_of wh (oA_103 hv_l0) c ?_
        clear c wh
        intro h wh
        refine gA_of (b := (103, l0)) (wh.2.1 10102 _ rfl hv_l0) ?_
        obtain ⟨c, hF⟩ := ck_of hF
        refine xI_of wh (oA_103 hv_l0) c ?_
        clear c
        obtain ⟨c, hF⟩ := ck_of hF
        replace hF := lt_of hF
        refine yI_of wh (oA_103 hv_l0) c ?_
        clear c wh
        intro h wh
        obtain ⟨rfl, rfl⟩ := some_of hF
        exact hq _ wh
      · replace hF := if_ofF c hF
        refine ⟨⟨_, wh.2.1 10800 _ rfl hv_l1⟩, ?_⟩
        obtain ⟨x11, w10, hG, hF⟩ := bnd_of hF
        refine cl_I (D := 0) (Nat.le_trans (by decide) hd) (c_X8_refuse wh hv_l1 hG) ?_
        clear hG
        clear wh
        intro h wh
        obtain ⟨c, hF⟩ := ck_of hF
        obtain ⟨rfl, rfl⟩ := some_of hF
        exact ⟨b01_nrw c, hq _ wh⟩
def f_X1_readTwo (fu : Nat) (l0 : Nat) (l1 : Nat) (w : MEM) : Option (Int32 × MEM) := bnd (f_X8_number fu l1 (0 : Int32) ((rS w (10107, l0)) - (1 : Int32)) w) fun (x2 : Int32) (w1 : MEM) => if x2 = (-1 : Int32) then (f_X1_readTwo_32 fu l0 l1 x2 (-1 : Int32) w1) else (bnd (f_X8_number fu l1 (0 : Int32) ((rS w1 (10107, l0)) - (1 : Int32)) w1) fun (x4 : Int32) (w3 : MEM) => f_X1_readTwo_32 fu l0 l1 x2 x4 w3)
theorem E_X1_readTwo (fu : Nat) (l0 : Nat) (l1 : Nat) (w : MEM) : f_X1_readTwo fu l0 l1 w = bnd (f_X8_number fu l1 (0 : Int32) ((rS w (10107, l0)) - (1 : Int32)) w) fun (x2 : Int32) (w1 : MEM) => if x2 = (-1 : Int32) then (f_X1_readTwo_32 fu l0 l1 x2 (-1 : Int32) w1) else (bnd (f_X8_number fu l1 (0 : Int32) ((rS w1 (10107, l0)) - (1 : Int32)) w1) fun (x4 : Int32) (w3 : MEM) => f_X1_readTwo_32 fu l0 l1 x2 x4 w3) := rfl
theorem w_X1_readTwo {X : SCR} {d rc rs : Nat} {Q : PO → PH → Prop} {o : Int32} {w1 : MEM} {fu : Nat} (hd : 2 ≤ d) (hq : ∀ h1, WH X h1 w1 → Q (.inl (some (vI o))) h1) {l0 : Nat} {l1 : Nat} {w : MEM} {h : PH} (wh : WH X h w) (hv_l0 : vo 1 l0 = true) (hv_l1 : vo 8 l1 = true) (hF : f_X1_readTwo fu l0 l1 w = some (o, w1)) : PW d M_X1_readTwo Q rc rs 0 [vR (100, l0), vR (800, l1), vU, vU] [] h := by
  replace hF := (E_X1_readTwo fu l0 l1 w).symm.trans hF
  refine r_X1_readTwo_0 ?_
  refine gI_of (wh.1 10107 _ rfl hv_l0) ?_
  refine ⟨⟨_, wh.2.1 10800 _ rfl hv_l1⟩, ?_⟩
  obtain ⟨x2, w1, hG, hF⟩ := bnd_of hF
  refine cl_I (D := 1) (Nat.le_trans (by decide) hd) (c_X8_number wh hv_l1 hG) ?_
  clear hG
  clear wh
  intro h wh
  refine ⟨fun c => ?_, fun c => ?_⟩
  · replace hF := if_ofT c hF
    exact w_X1_readTwo_32 hd hq  wh hv_l0 hv_l1 hF
  · replace hF := if_ofF c hF
    refine gI_of (wh.1 10107 _ rfl hv_l0) ?_
    refine ⟨⟨_, wh.2.1 10800 _ rfl hv_l1⟩, ?_⟩
    obtain ⟨x4, w3, hG, hF⟩ := bnd_of hF
    refine cl_I (D := 1) (Nat.le_trans (by decide) hd) (c_X8_number wh hv_l1 hG) ?_
    clear hG
    clear wh
    intro h wh
    exact w_X1_readTwo_32 hd hq  wh hv_l0 hv_l1 hF
theorem c_X1_readTwo {X : SCR} {fu : Nat} {o : Int32} {w1 : MEM} {a0 : Nat} {a1 : Nat} {w : MEM} {h : PH} (wh : WH X h w) (h0 : vo 1 a0 = true) (h1 : vo 8 a1 = true) (hF : f_X1_readTwo fu a0 a1 w = some (o, w1)) : CT 2 M_X1_readTwo [vR (100, a0), vR (800, a1)] h 0 0 (QP X (.inl (some (vI o))) w1) :=
  CT_of mk_X1_readTwo (Nat.le_of_ble_eq_true rfl) rfl (w_X1_readTwo (fu := fu) (rc := 0) (rs := 0) (hd := Nat.le_refl 2) (hq := fun h1 g => ⟨rfl, g⟩) wh h0 h1 hF)
-- X1_readKeeper
def f_X1_readKeeper (fu : Nat) (l0 : Nat) (l1 : Nat) (w : MEM) : Option (Int32 × MEM) := bnd (f_X8_number fu l1 (0 : Int32) ((rS w (10107, l0)) - (1 : Int32)) w) fun (x2 : Int32) (w1 : MEM) => if x2 = (-1 : Int32) then (if (-1 : Int32) = (-1 : Int32) then (some ((0 : Int32), w1)) else (ck (bI (rS w1 (10109, l0)) 6) (lt (sA w1 (106, l0) (rS w1 (10109, l0)) x2) fun (w8 : MEM) => ck (bI (rS w8 (10109, l0)) 6) (lt (sA w8 (107, l0) (rS w8 (10109, l0)) (-1 : Int32)) fun (w9 : MEM) => lt (sS w9 (10109, l0) ((rS w9 (10109, l0)) + (1 : Int32))) fun (w10 : MEM) => some ((1 : Int32), w10))))) else (bnd (f_X8_number fu l1 (1 : Int32) (24 : Int32) w1) fun (x4 : Int32) (w3 : MEM) => if x4 = (-1 : Int32) then (some ((0 : Int32), w3)) else (ck (bI (rS w3 (10109, l0)) 6) (lt (sA w3 (106, l0) (rS w3 (10109, l0)) x2) fun (w5 : MEM) => ck (bI (rS w5 (10109, l0)) 6) (lt (sA w5 (107, l0) (rS w5 (10109, l0)) x4) fun (w6 : MEM) => lt (sS w6 (10109, l0) ((rS w6 (10109, l0)) + (1 : Int32))) fun (w7 : MEM) => some ((1 : Int32), w7)))))
theorem E_X1_readKeeper (fu : Nat) (l0 : Nat) (l1 : Nat) (w : MEM) : f_X1_readKeeper fu l0 l1 w = bnd (f_X8_number fu l1 (0 : Int32) ((rS w (10107, l0)) - (1 : Int32)) w) fun (x2 : Int32) (w1 : MEM) => if x2 = (-1 : Int32) then (if (-1 : Int32) = (-1 : Int32) then (some ((0 : Int32), w1)) else (ck (bI (rS w1 (10109, l0)) 6) (lt (sA w1 (106, l0) (rS w1 (10109, l0)) x2) fun (w8 : MEM) => ck (bI (rS w8 (10109, l0)) 6) (lt (sA w8 (107, l0) (rS w8 (10109, l0)) (-1 : Int32)) fun (w9 : MEM) => lt (sS w9 (10109, l0) ((rS w9 (10109, l0)) + (1 : Int32))) fun (w10 : MEM) => some ((1 : Int32), w10))))) else (bnd (f_X8_number fu l1 (1 : Int32) (24 : Int32) w1) fun (x4 : Int32) (w3 : MEM) => if x4 = (-1 : Int32) then (some ((0 : Int32), w3)) else (ck (bI (rS w3 (10109, l0)) 6) (lt (sA w3 (106, l0) (rS w3 (10109, l0)) x2) fun (w5 : MEM) => ck (bI (rS w5 (10109, l0)) 6) (lt (sA w5 (107, l0) (rS w5 (10109, l0)) x4) fun (w6 : MEM) => lt (sS w6 (10109, l0) ((rS w6 (10109, l0)) + (1 : Int32))) fun (w7 : MEM) => some ((1 : Int32), w7))))) := rfl
theorem w_X1_readKeeper {X : SCR} {d rc rs : Nat} {Q : PO → PH → Prop} {o : Int32} {w1 : MEM} {fu : Nat} (hd : 2 ≤ d) (hq : ∀ h1, WH X h1 w1 → Q (.inl (some (vI o))) h1) {l0 : Nat} {l1 : Nat} {w : MEM} {h : PH} (wh : WH X h w) (hv_l0 : vo 1 l0 = true) (hv_l1 : vo 8 l1 = true) (hF : f_X1_readKeeper fu l0 l1 w = some (o, w1)) : PW d M_X1_readKeeper Q rc rs 0 [vR (100, l0), vR (800, l1), vU, vU] [] h := by
  replace hF := (E_X1_readKeeper fu l0 l1 w).symm.trans hF
  refine r_X1_readKeeper_0 ?_
  refine gI_of (wh.1 10107 _ rfl hv_l0) ?_
  refine ⟨⟨_, wh.2.1 10800 _ rfl hv_l1⟩, ?_⟩
  obtain ⟨x2, w1, hG, hF⟩ := bnd_of hF
  refine cl_I (D := 1) (Nat.le_trans (by decide) hd) (c_X8_number wh hv_l1 hG) ?_
  clear hG
  clear wh
  intro h wh
  refine ⟨fun c => ?_, fun c => ?_⟩
  · replace hF := if_ofT c hF
    refine ⟨fun c => ?_, fun c => ?_⟩
    · replace hF := if_ofT c hF
      obtain ⟨rfl, rfl⟩ := some_of hF
      exact hq _ wh
    · replace hF := if_ofF c hF
      refine gA_of (b := (106, l0)) (wh.2.1 10105 _ rfl hv_l0) ?_
      refine gI_of (wh.1 10109 _ rfl hv_l0) ?_
      obtain ⟨c, hF⟩ := ck_of hF
      replace hF := lt_of hF
      refine yI_of wh (oA_106 hv_l0) c ?_
      clear c wh
      intro h wh
      refine gA_of (b := (107, l0)) (wh.2.1 10106 _ rfl hv_l0) ?_
      refine gI_of (wh.1 10109 _ rfl hv_l0) ?_
      obtain ⟨c, hF⟩ := ck_of hF
      replace hF := lt_of hF
      refine yI_of wh (oA_107 hv_l0) c ?_
      clear c wh
      intro h wh
      refine gI_of (wh.1 10109 _ rfl hv_l0) ?_
      replace hF := lt_of hF
      refine sF_S wh rfl hv_l0 ?_
      clear wh
      intro h wh
      obtain ⟨rfl, rfl⟩ := some_of hF
      exact hq _ wh
  · replace hF := if_ofF c hF
    refine ⟨⟨_, wh.2.1 10800 _ rfl hv_l1⟩, ?_⟩
    obtain ⟨x4, w3, hG, hF⟩ := bnd_of hF
    refine cl_I (D := 1) (Nat.le_trans (by decide) hd) (c_X8_number wh hv_l1 hG) ?_
    clear hG
    clear wh
    intro h wh
    refine ⟨fun c => ?_, fun c => ?_⟩
    · replace hF := if_ofT c hF
      obtain ⟨rfl, rfl⟩ := some_of hF
      exact hq _ wh
    · replace hF := if_ofF c hF
      refine gA_of (b := (106, l0)) (wh.2.1 10105 _ rfl hv_l0) ?_
      refine gI_of (wh.1 10109 _ rfl hv_l0) ?_
      obtain ⟨c, hF⟩ := ck_of hF
      replace hF := lt_of hF
      refine yI_of wh (oA_106 hv_l0) c ?_
      clear c wh
      intro h wh
      refine gA_of (b := (107, l0)) (wh.2.1 10106 _ rfl hv_l0) ?_
      refine gI_of (wh.1 10109 _ rfl hv_l0) ?_
      obtain ⟨c, hF⟩ := ck_of hF
      replace hF := lt_of hF
      refine yI_of wh (oA_107 hv_l0) c ?_
      clear c wh
      intro h wh
      refine gI_of (wh.1 10109 _ rfl hv_l0) ?_
      replace hF := lt_of hF
      refine sF_S wh rfl hv_l0 ?_
      clear wh
      intro h wh
      obtain ⟨rfl, rfl⟩ := some_of hF
      exact hq _ wh
theorem c_X1_readKeeper {X : SCR} {fu : Nat} {o : Int32} {w1 : MEM} {a0 : Nat} {a1 : Nat} {w : MEM} {h : PH} (wh : WH X h w) (h0 : vo 1 a0 = true) (h1 : vo 8 a1 = true) (hF : f_X1_readKeeper fu a0 a1 w = some (o, w1)) : CT 2 M_X1_readKeeper [vR (100, a0), vR (800, a1)] h 0 0 (QP X (.inl (some (vI o))) w1) :=
  CT_of mk_X1_readKeeper (Nat.le_of_ble_eq_true rfl) rfl (w_X1_readKeeper (fu := fu) (rc := 0) (rs := 0) (hd := Nat.le_refl 2) (hq := fun h1 g => ⟨rfl, g⟩) wh h0 h1 hF)
-- X1_readSun
def f_X1_readSun (fu : Nat) (l0 : Nat) (l1 : Nat) (w : MEM) : Option (Int32 × MEM) := bnd (f_X8_number fu l1 (0 : Int32) (23 : Int32) w) fun (x2 : Int32) (w1 : MEM) => if x2 = (-1 : Int32) then (some ((0 : Int32), w1)) else (lt (sS w1 (10110, l0) x2) fun (w3 : MEM) => some ((1 : Int32), w3))
theorem E_X1_readSun (fu : Nat) (l0 : Nat) (l1 : Nat) (w : MEM) : f_X1_readSun fu l0 l1 w = bnd (f_X8_number fu l1 (0 : Int32) (23 : Int32) w) fun (x2 : Int32) (w1 : MEM) => if x2 = (-1 : Int32) then (some ((0 : Int32), w1)) else (lt (sS w1 (10110, l0) x2) fun (w3 : MEM) => some ((1 : Int32), w3)) := rfl
theorem w_X1_readSun {X : SCR} {d rc rs : Nat} {Q : PO → PH → Prop} {o : Int32} {w1 : MEM} {fu : Nat} (hd : 2 ≤ d) (hq : ∀ h1, WH X h1 w1 → Q (.inl (some (vI o))) h1) {l0 : Nat} {l1 : Nat} {w : MEM} {h : PH} (wh : WH X h w) (hv_l0 : vo 1 l0 = true) (hv_l1 : vo 8 l1 = true) (hF : f_X1_readSun fu l0 l1 w = some (o, w1)) : PW d M_X1_readSun Q rc rs 0 [vR (100, l0), vR (800, l1), vU] [] h := by
  replace hF := (E_X1_readSun fu l0 l1 w).symm.trans hF
  refine r_X1_readSun_0 ?_
  refine ⟨⟨_, wh.2.1 10800 _ rfl hv_l1⟩, ?_⟩
  obtain ⟨x2, w1, hG, hF⟩ := bnd_of hF
  refine cl_I (D := 1) (Nat.le_trans (by decide) hd) (c_X8_number wh hv_l1 hG) ?_
  clear hG
  clear wh
  intro h wh
  refine ⟨fun c => ?_, fun c => ?_⟩
  · replace hF := if_ofT c hF
    obtain ⟨rfl, rfl⟩ := some_of hF
    exact hq _ wh
  · replace hF := if_ofF c hF
    replace hF := lt_of hF
    refine sF_S wh rfl hv_l0 ?_
    clear wh
    intro h wh
    obtain ⟨rfl, rfl⟩ := some_of hF
    exact hq _ wh
theorem c_X1_readSun {X : SCR} {fu : Nat} {o : Int32} {w1 : MEM} {a0 : Nat} {a1 : Nat} {w : MEM} {h : PH} (wh : WH X h w) (h0 : vo 1 a0 = true) (h1 : vo 8 a1 = true) (hF : f_X1_readSun fu a0 a1 w = some (o, w1)) : CT 2 M_X1_readSun [vR (100, a0), vR (800, a1)] h 0 0 (QP X (.inl (some (vI o))) w1) :=
  CT_of mk_X1_readSun (Nat.le_of_ble_eq_true rfl) rfl (w_X1_readSun (fu := fu) (rc := 0) (rs := 0) (hd := Nat.le_refl 2) (hq := fun h1 g => ⟨rfl, g⟩) wh h0 h1 hF)
-- X1_readClause
def f_X1_readClause (fu : Nat) (l0 : Nat) (l1 : Nat) (l2 : Int32) (w : MEM) : Option (Int32 × MEM) := bnd (f_X8_takeWord fu l1 0 w) fun (x2 : Int32) (w1 : MEM) => if x2 = 0 then (bnd (f_X8_takeWord fu l1 1 w1) fun (x4 : Int32) (w3 : MEM) => if x4 = 0 then (bnd (f_X8_takeWord fu l1 2 w3) fun (x6 : Int32) (w5 : MEM) => if x6 = 0 then (bnd (f_X8_takeWord fu l1 3 w5) fun (x8 : Int32) (w7 : MEM) => if x8 = 0 then (bnd (f_X8_refuse fu l1 (1 : Int32) w7) fun (x10 : Int32) (w9 : MEM) => ck (b01 x10) (some (x10, w9))) else (if l2 = 0 then (bnd (f_X1_readSun fu l0 l1 w7) fun (x12 : Int32) (w11 : MEM) => ck (b01 x12) (some (x12, w11))) else (bnd (f_X8_refuse fu l1 (3 : Int32) w7) fun (x14 : Int32) (w13 : MEM) => ck (b01 x14) (some (x14, w13))))) else (if l2 = 0 then (if (rS w5 (10109, l0)) < (6 : Int32) then (bnd (f_X1_readKeeper fu l0 l1 w5) fun (x18 : Int32) (w17 : MEM) => ck (b01 x18) (some (x18, w17))) else (bnd (f_X8_refuse fu l1 (3 : Int32) w5) fun (x20 : Int32) (w19 : MEM) => ck (b01 x20) (some (x20, w19)))) else (bnd (f_X8_refuse fu l1 (3 : Int32) w5) fun (x16 : Int32) (w15 : MEM) => ck (b01 x16) (some (x16, w15))))) else (if l2 = 0 then (if (rS w3 (10108, l0)) < (12 : Int32) then (bnd (f_X1_readTwo fu l0 l1 w3) fun (x24 : Int32) (w23 : MEM) => ck (b01 x24) (some (x24, w23))) else (bnd (f_X8_refuse fu l1 (3 : Int32) w3) fun (x26 : Int32) (w25 : MEM) => ck (b01 x26) (some (x26, w25)))) else (bnd (f_X8_refuse fu l1 (3 : Int32) w3) fun (x22 : Int32) (w21 : MEM) => ck (b01 x22) (some (x22, w21))))) else (if l2 = 0 then (if (rS w1 (10107, l0)) < (7 : Int32) then (bnd (f_X1_readHeir fu l0 l1 w1) fun (x30 : Int32) (w29 : MEM) => ck (b01 x30) (some (x30, w29))) else (bnd (f_X8_refuse fu l1 (3 : Int32) w1) fun (x32 : Int32) (w31 : MEM) => ck (b01 x32) (some (x32, w31)))) else (bnd (f_X8_refuse fu l1 (3 : Int32) w1) fun (x28 : Int32) (w27 : MEM) => ck (b01 x28) (some (x28, w27))))
theorem E_X1_readClause (fu : Nat) (l0 : Nat) (l1 : Nat) (l2 : Int32) (w : MEM) : f_X1_readClause fu l0 l1 l2 w = bnd (f_X8_takeWord fu l1 0 w) fun (x2 : Int32) (w1 : MEM) => if x2 = 0 then (bnd (f_X8_takeWord fu l1 1 w1) fun (x4 : Int32) (w3 : MEM) => if x4 = 0 then (bnd (f_X8_takeWord fu l1 2 w3) fun (x6 : Int32) (w5 : MEM) => if x6 = 0 then (bnd (f_X8_takeWord fu l1 3 w5) fun (x8 : Int32) (w7 : MEM) => if x8 = 0 then (bnd (f_X8_refuse fu l1 (1 : Int32) w7) fun (x10 : Int32) (w9 : MEM) => ck (b01 x10) (some (x10, w9))) else (if l2 = 0 then (bnd (f_X1_readSun fu l0 l1 w7) fun (x12 : Int32) (w11 : MEM) => ck (b01 x12) (some (x12, w11))) else (bnd (f_X8_refuse fu l1 (3 : Int32) w7) fun (x14 : Int32) (w13 : MEM) => ck (b01 x14) (some (x14, w13))))) else (if l2 = 0 then (if (rS w5 (10109, l0)) < (6 : Int32) then (bnd (f_X1_readKeeper fu l0 l1 w5) fun (x18 : Int32) (w17 : MEM) => ck (b01 x18) (some (x18, w17))) else (bnd (f_X8_refuse fu l1 (3 : Int32) w5) fun (x20 : Int32) (w19 : MEM) => ck (b01 x20) (some (x20, w19)))) else (bnd (f_X8_refuse fu l1 (3 : Int32) w5) fun (x16 : Int32) (w15 : MEM) => ck (b01 x16) (some (x16, w15))))) else (if l2 = 0 then (if (rS w3 (10108, l0)) < (12 : Int32) then (bnd (f_X1_readTwo fu l0 l1 w3) fun (x24 : Int32) (w23 : MEM) => ck (b01 x24) (some (x24, w23))) else (bnd (f_X8_refuse fu l1 (3 : Int32) w3) fun (x26 : Int32) (w25 : MEM) => ck (b01 x26) (some (x26, w25)))) else (bnd (f_X8_refuse fu l1 (3 : Int32) w3) fun (x22 : Int32) (w21 : MEM) => ck (b01 x22) (some (x22, w21))))) else (if l2 = 0 then (if (rS w1 (10107, l0)) < (7 : Int32) then (bnd (f_X1_readHeir fu l0 l1 w1) fun (x30 : Int32) (w29 : MEM) => ck (b01 x30) (some (x30, w29))) else (bnd (f_X8_refuse fu l1 (3 : Int32) w1) fun (x32 : Int32) (w31 : MEM) => ck (b01 x32) (some (x32, w31)))) else (bnd (f_X8_refuse fu l1 (3 : Int32) w1) fun (x28 : Int32) (w27 : MEM) => ck (b01 x28) (some (x28, w27)))) := rfl
theorem w_X1_readClause {X : SCR} {d rc rs : Nat} {Q : PO → PH → Prop} {o : Int32} {w1 : MEM} {fu : Nat} (hd : 7 ≤ d) (hq : ∀ h1, WH X h1 w1 → Q (.inl (some (vI o))) h1) {l0 : Nat} {l1 : Nat} {l2 : Int32} {w : MEM} {h : PH} (wh : WH X h w) (hv_l0 : vo 1 l0 = true) (hv_l1 : vo 8 l1 = true) (hF : f_X1_readClause fu l0 l1 l2 w = some (o, w1)) : PW d M_X1_readClause Q rc rs 0 [vR (100, l0), vR (800, l1), vI l2] [] h := by
  replace hF := (E_X1_readClause fu l0 l1 l2 w).symm.trans hF
  refine r_X1_readClause_0 ?_
  refine ⟨⟨_, wh.2.1 10800 _ rfl hv_l1⟩, ?_⟩
  obtain ⟨x2, w1, hG, hF⟩ := bnd_of hF
  refine cl_I (D := 6) (Nat.le_trans (by decide) hd) (c_X8_takeWord wh hv_l1 (by decide) hG) ?_
  clear hG
  clear wh
  intro h wh
  refine ⟨fun c => ?_, fun c => ?_⟩
  · replace hF := if_ofT c hF
    refine ⟨⟨_, wh.2.1 10800 _ rfl hv_l1⟩, ?_⟩
    obtain ⟨x4, w3, hG, hF⟩ := bnd_of hF
    refine cl_I (D := 6) (Nat.le_trans (by decide) hd) (c_X8_takeWord wh hv_l1 (by decide) hG) ?_
    clear hG
    clear wh
    intro h wh
    refine ⟨fun c => ?_, fun c => ?_⟩
    · replace hF := if_ofT c hF
      refine ⟨⟨_, wh.2.1 10800 _ rfl hv_l1⟩, ?_⟩
      obtain ⟨x6, w5, hG, hF⟩ := bnd_of hF
      refine cl_I (D := 6) (Nat.le_trans (by decide) hd) (c_X8_takeWord wh hv_l1 (by decide) hG) ?_
      clear hG
      clear wh
      intro h wh
      refine ⟨fun c => ?_, fun c => ?_⟩
      · replace hF := if_ofT c hF
        refine ⟨⟨_, wh.2.1 10800 _ rfl hv_l1⟩, ?_⟩
        obtain ⟨x8, w7, hG, hF⟩ := bnd_of hF
        refine cl_I (D := 6) (Nat.le_trans (by decide) hd) (c_X8_takeWord wh hv_l1 (by decide) hG) ?_
        clear hG
        clear wh
        intro h wh
        refine ⟨fun c => ?_, fun c => ?_⟩
        · replace hF := if_ofT c hF
          refine ⟨⟨_, wh.2.1 10800 _ rfl hv_l1⟩, ?_⟩
          obtain ⟨x10, w9, hG, hF⟩ := bnd_of hF
          refine cl_I (D := 0) (Nat.le_trans (by decide) hd) (c_X8_refuse wh hv_l1 hG) ?_
          clear hG
          clear wh
          intro h wh
          obtain ⟨c, hF⟩ := ck_of hF
          obtain ⟨rfl, rfl⟩ := some_of hF
          exact ⟨b01_nrw c, hq _ wh⟩
        · replace hF := if_ofF c hF
          refine ⟨fun c => ?_, fun c => ?_⟩
          · replace hF := if_ofT c hF
            refine ⟨⟨_, wh.2.1 10100 _ rfl hv_l0⟩, ?_⟩
            obtain ⟨x12, w11, hG, hF⟩ := bnd_of hF
            refine cl_I (D := 2) (Nat.le_trans (by decide) hd) (c_X1_readSun wh hv_l0 hv_l1 hG) ?_
            clear hG
            clear wh
            intro h wh
            obtain ⟨c, hF⟩ := ck_of hF
            obtain ⟨rfl, rfl⟩ := some_of hF
            exact ⟨b01_nrw c, hq _ wh⟩
          · replace hF := if_ofF c hF
            refine ⟨⟨_, wh.2.1 10800 _ rfl hv_l1⟩, ?_⟩
            obtain ⟨x14, w13, hG, hF⟩ := bnd_of hF
            refine cl_I (D := 0) (Nat.le_trans (by decide) hd) (c_X8_refuse wh hv_l1 hG) ?_
            clear hG
            clear wh
            intro h wh
            obtain ⟨c, hF⟩ := ck_of hF
            obtain ⟨rfl, rfl⟩ := some_of hF
            exact ⟨b01_nrw c, hq _ wh⟩
      · replace hF := if_ofF c hF
        refine ⟨fun c => ?_, fun c => ?_⟩
        · replace hF := if_ofT c hF
          refine gI_of (wh.1 10109 _ rfl hv_l0) ?_
          refine ⟨fun c => ?_, fun c => ?_⟩
          · replace hF := if_ofT c hF
            refine ⟨⟨_, wh.2.1 10100 _ rfl hv_l0⟩, ?_⟩
            obtain ⟨x18, w17, hG, hF⟩ := bnd_of hF
            refine cl_I (D := 2) (Nat.le_trans (by decide) hd) (c_X1_readKeeper wh hv_l0 hv_l1 hG) ?_
            clear hG
            clear wh
            intro h wh
            obtain ⟨c, hF⟩ := ck_of hF
            obtain ⟨rfl, rfl⟩ := some_of hF
            exact ⟨b01_nrw c, hq _ wh⟩
          · replace hF := if_ofF c hF
            refine ⟨⟨_, wh.2.1 10800 _ rfl hv_l1⟩, ?_⟩
            obtain ⟨x20, w19, hG, hF⟩ := bnd_of hF
            refine cl_I (D := 0) (Nat.le_trans (by decide) hd) (c_X8_refuse wh hv_l1 hG) ?_
            clear hG
            clear wh
            intro h wh
            obtain ⟨c, hF⟩ := ck_of hF
            obtain ⟨rfl, rfl⟩ := some_of hF
            exact ⟨b01_nrw c, hq _ wh⟩
        · replace hF := if_ofF c hF
          refine ⟨⟨_, wh.2.1 10800 _ rfl hv_l1⟩, ?_⟩
          obtain ⟨x16, w15, hG, hF⟩ := bnd_of hF
          refine cl_I (D := 0) (Nat.le_trans (by decide) hd) (c_X8_refuse wh hv_l1 hG) ?_
          clear hG
          clear wh
          intro h wh
          obtain ⟨c, hF⟩ := ck_of hF
          obtain ⟨rfl, rfl⟩ := some_of hF
          exact ⟨b01_nrw c, hq _ wh⟩
    · replace hF := if_ofF c hF
      refine ⟨fun c => ?_, fun c => ?_⟩
      · replace hF := if_ofT c hF
        refine gI_of (wh.1 10108 _ rfl hv_l0) ?_
        refine ⟨fun c => ?_, fun c => ?_⟩
        · replace hF := if_ofT c hF
          refine ⟨⟨_, wh.2.1 10100 _ rfl hv_l0⟩, ?_⟩
          obtain ⟨x24, w23, hG, hF⟩ := bnd_of hF
          refine cl_I (D := 2) (Nat.le_trans (by decide) hd) (c_X1_readTwo wh hv_l0 hv_l1 hG) ?_
          clear hG
          clear wh
          intro h wh
          obtain ⟨c, hF⟩ := ck_of hF
          obtain ⟨rfl, rfl⟩ := some_of hF
          exact ⟨b01_nrw c, hq _ wh⟩
        · replace hF := if_ofF c hF
          refine ⟨⟨_, wh.2.1 10800 _ rfl hv_l1⟩, ?_⟩
          obtain ⟨x26, w25, hG, hF⟩ := bnd_of hF
          refine cl_I (D := 0) (Nat.le_trans (by decide) hd) (c_X8_refuse wh hv_l1 hG) ?_
          clear hG
          clear wh
          intro h wh
          obtain ⟨c, hF⟩ := ck_of hF
          obtain ⟨rfl, rfl⟩ := some_of hF
          exact ⟨b01_nrw c, hq _ wh⟩
      · replace hF := if_ofF c hF
        refine ⟨⟨_, wh.2.1 10800 _ rfl hv_l1⟩, ?_⟩
        obtain ⟨x22, w21, hG, hF⟩ := bnd_of hF
        refine cl_I (D := 0) (Nat.le_trans (by decide) hd) (c_X8_refuse wh hv_l1 hG) ?_
        clear hG
        clear wh
        intro h wh
        obtain ⟨c, hF⟩ := ck_of hF
        obtain ⟨rfl, rfl⟩ := some_of hF
        exact ⟨b01_nrw c, hq _ wh⟩
  · replace hF := if_ofF c hF
    refine ⟨fun c => ?_, fun c => ?_⟩
    · replace hF := if_ofT c hF
      refine gI_of (wh.1 10107 _ rfl hv_l0) ?_
      refine ⟨fun c => ?_, fun c => ?_⟩
      · replace hF := if_ofT c hF
        refine ⟨⟨_, wh.2.1 10100 _ rfl hv_l0⟩, ?_⟩
        obtain ⟨x30, w29, hG, hF⟩ := bnd_of hF
        refine cl_I (D := 2) (Nat.le_trans (by decide) hd) (c_X1_readHeir wh hv_l0 hv_l1 hG) ?_
        clear hG
        clear wh
        intro h wh
        obtain ⟨c, hF⟩ := ck_of hF
        obtain ⟨rfl, rfl⟩ := some_of hF
        exact ⟨b01_nrw c, hq _ wh⟩
      · replace hF := if_ofF c hF
        refine ⟨⟨_, wh.2.1 10800 _ rfl hv_l1⟩, ?_⟩
        obtain ⟨x32, w31, hG, hF⟩ := bnd_of hF
        refine cl_I (D := 0) (Nat.le_trans (by decide) hd) (c_X8_refuse wh hv_l1 hG) ?_
        clear hG
        clear wh
        intro h wh
        obtain ⟨c, hF⟩ := ck_of hF
        obtain ⟨rfl, rfl⟩ := some_of hF
        exact ⟨b01_nrw c, hq _ wh⟩
    · replace hF := if_ofF c hF
      refine ⟨⟨_, wh.2.1 10800 _ rfl hv_l1⟩, ?_⟩
      obtain ⟨x28, w27, hG, hF⟩ := bnd_of hF
      refine cl_I (D := 0) (Nat.le_trans (by decide) hd) (c_X8_refuse wh hv_l1 hG) ?_
      clear hG
      clear wh
      intro h wh
      obtain ⟨c, hF⟩ := ck_of hF
      obtain ⟨rfl, rfl⟩ := some_of hF
      exact ⟨b01_nrw c, hq _ wh⟩
theorem c_X1_readClause {X : SCR} {fu : Nat} {o : Int32} {w1 : MEM} {a0 : Nat} {a1 : Nat} {a2 : Int32} {w : MEM} {h : PH} (wh : WH X h w) (h0 : vo 1 a0 = true) (h1 : vo 8 a1 = true) (hF : f_X1_readClause fu a0 a1 a2 w = some (o, w1)) : CT 7 M_X1_readClause [vR (100, a0), vR (800, a1), vI a2] h 0 0 (QP X (.inl (some (vI o))) w1) :=
  CT_of mk_X1_readClause (Nat.le_of_ble_eq_true rfl) rfl (w_X1_readClause (fu := fu) (rc := 0) (rs := 0) (hd := Nat.le_refl 7) (hq := fun h1 g => ⟨rfl, g⟩) wh h0 h1 hF)
-- X1_read
def f_X1_read_31 (fu : Nat) : Nat → Nat → Nat → Int32 → MEM → Option (Int32 × MEM)
  | 0, _, _, _, _ => none
  | n + 1, l0, l1, l2, w => if (60 : Int32) < l2 then (some ((1 : Int32), w)) else (bnd (f_X8_peek fu l1 w) fun (x2 : Int32) (w1 : MEM) => if x2 = (-1 : Int32) then (some ((1 : Int32), w1)) else (if l2 < (60 : Int32) then (bnd (f_X1_readClause fu l0 l1 (0 : Int32) w1) fun (x4 : Int32) (w3 : MEM) => if x4 = 0 then (some ((0 : Int32), w3)) else (bnd (f_X8_needSign fu l1 (59 : Int32) w3) fun (x6 : Int32) (w5 : MEM) => if x6 = 0 then (some ((0 : Int32), w5)) else (f_X1_read_31 fu n l0 l1 (l2 + (1 : Int32)) w5))) else (bnd (f_X1_readClause fu l0 l1 (1 : Int32) w1) fun (x8 : Int32) (w7 : MEM) => if x8 = 0 then (some ((0 : Int32), w7)) else (bnd (f_X8_needSign fu l1 (59 : Int32) w7) fun (x10 : Int32) (w9 : MEM) => if x10 = 0 then (some ((0 : Int32), w9)) else (f_X1_read_31 fu n l0 l1 (l2 + (1 : Int32)) w9)))))
theorem E_X1_read_31 (fu : Nat) (n : Nat) (l0 : Nat) (l1 : Nat) (l2 : Int32) (w : MEM) : f_X1_read_31 fu (n + 1) l0 l1 l2 w = if (60 : Int32) < l2 then (some ((1 : Int32), w)) else (bnd (f_X8_peek fu l1 w) fun (x2 : Int32) (w1 : MEM) => if x2 = (-1 : Int32) then (some ((1 : Int32), w1)) else (if l2 < (60 : Int32) then (bnd (f_X1_readClause fu l0 l1 (0 : Int32) w1) fun (x4 : Int32) (w3 : MEM) => if x4 = 0 then (some ((0 : Int32), w3)) else (bnd (f_X8_needSign fu l1 (59 : Int32) w3) fun (x6 : Int32) (w5 : MEM) => if x6 = 0 then (some ((0 : Int32), w5)) else (f_X1_read_31 fu n l0 l1 (l2 + (1 : Int32)) w5))) else (bnd (f_X1_readClause fu l0 l1 (1 : Int32) w1) fun (x8 : Int32) (w7 : MEM) => if x8 = 0 then (some ((0 : Int32), w7)) else (bnd (f_X8_needSign fu l1 (59 : Int32) w7) fun (x10 : Int32) (w9 : MEM) => if x10 = 0 then (some ((0 : Int32), w9)) else (f_X1_read_31 fu n l0 l1 (l2 + (1 : Int32)) w9))))) := rfl
theorem w_X1_read_31 {X : SCR} {d rc rs : Nat} {Q : PO → PH → Prop} {o : Int32} {w1 : MEM} {fu : Nat} (hd : 8 ≤ d) (hq : ∀ h1, WH X h1 w1 → Q (.inl (some (vI o))) h1) : ∀ (n : Nat) (l0 : Nat) (l1 : Nat) (l2 : Int32) (w : MEM) (h : PH), WH X h w → vo 1 l0 = true → vo 8 l1 = true → f_X1_read_31 fu n l0 l1 l2 w = some (o, w1) → PW d M_X1_read Q rc rs 31 [vR (100, l0), vR (800, l1), vI l2] [] h := by
  intro n
  induction n with
  | zero => intro l0 l1 l2 w h wh hv_l0 hv_l1 hF; cases hF
  | succ n ih =>
    intro l0 l1 l2 w h wh hv_l0 hv_l1 hF
    replace hF := (E_X1_read_31 fu n l0 l1 l2 w).symm.trans hF
    refine r_X1_read_31 ?_
    refine ⟨fun c => ?_, fun c => ?_⟩
    · replace hF := if_ofT c hF
      obtain ⟨rfl, rfl⟩ := some_of hF
      exact hq _ wh
    · replace hF := if_ofF c hF
      refine ⟨⟨_, wh.2.1 10800 _ rfl hv_l1⟩, ?_⟩
      obtain ⟨x2, w1, hG, hF⟩ := bnd_of hF
      refine cl_I (D := 0) (Nat.le_trans (by decide) hd) (c_X8_peek wh hv_l1 hG) ?_
      clear hG
      clear wh
      intro h wh
      refine ⟨fun c => ?_, fun c => ?_⟩
      · replace hF := if_ofT c hF
        obtain ⟨rfl, rfl⟩ := some_of hF
        exact hq _ wh
      · replace hF := if_ofF c hF
        refine ⟨fun c => ?_, fun c => ?_⟩
        · replace hF := if_ofT c hF
          refine ⟨⟨_, wh.2.1 10100 _ rfl hv_l0⟩, ?_⟩
          obtain ⟨x4, w3, hG, hF⟩ := bnd_of hF
          refine cl_I (D := 7) (Nat.le_trans (by decide) hd) (c_X1_readClause wh hv_l0 hv_l1 hG) ?_
          clear hG
          clear wh
          intro h wh
          refine ⟨fun c => ?_, fun c => ?_⟩
          · replace hF := if_ofT c hF
            obtain ⟨rfl, rfl⟩ := some_of hF
            exact hq _ wh
          · replace hF := if_ofF c hF
            refine ⟨⟨_, wh.2.1 10800 _ rfl hv_l1⟩, ?_⟩
            obtain ⟨x6, w5, hG, hF⟩ := bnd_of hF
            refine cl_I (D := 1) (Nat.le_trans (by decide) hd) (c_X8_needSign wh hv_l1 hG) ?_
            clear hG
            clear wh
            intro h wh
            refine ⟨fun c => ?_, fun c => ?_⟩
            · replace hF := if_ofT c hF
              obtain ⟨rfl, rfl⟩ := some_of hF
              exact hq _ wh
            · replace hF := if_ofF c hF
              exact ih _ _ _ _ _ wh hv_l0 hv_l1 hF
        · replace hF := if_ofF c hF
          refine ⟨⟨_, wh.2.1 10100 _ rfl hv_l0⟩, ?_⟩
          obtain ⟨x8, w7, hG, hF⟩ := bnd_of hF
          refine cl_I (D := 7) (Nat.le_trans (by decide) hd) (c_X1_readClause wh hv_l0 hv_l1 hG) ?_
          clear hG
          clear wh
          intro h wh
          refine ⟨fun c => ?_, fun c => ?_⟩
          · replace hF := if_ofT c hF
            obtain ⟨rfl, rfl⟩ := some_of hF
            exact hq _ wh
          · replace hF := if_ofF c hF
            refine ⟨⟨_, wh.2.1 10800 _ rfl hv_l1⟩, ?_⟩
            obtain ⟨x10, w9, hG, hF⟩ := bnd_of hF
            refine cl_I (D := 1) (Nat.le_trans (by decide) hd) (c_X8_needSign wh hv_l1 hG) ?_
            clear hG
            clear wh
            intro h wh
            refine ⟨fun c => ?_, fun c => ?_⟩
            · replace hF := if_ofT c hF
              obtain ⟨rfl, rfl⟩ := some_of hF
              exact hq _ wh
            · replace hF := if_ofF c hF
              exact ih _ _ _ _ _ wh hv_l0 hv_l1 hF
def f_X1_read (fu : Nat) (l0 : Nat) (l1 : Nat) (w : MEM) : Option (Int32 × MEM) := lt (sS w (10107, l0) (0 : Int32)) fun (w1 : MEM) => lt (sS w1 (10108, l0) (0 : Int32)) fun (w2 : MEM) => lt (sS w2 (10109, l0) (0 : Int32)) fun (w3 : MEM) => lt (sS w3 (10110, l0) (12 : Int32)) fun (w4 : MEM) => bnd (f_J7_fill_53178 fu (103, l0) (0 : Int32) w4) fun (u6 : Unit) (w5 : MEM) => f_X1_read_31 fu fu l0 l1 (0 : Int32) w5
theorem E_X1_read (fu : Nat) (l0 : Nat) (l1 : Nat) (w : MEM) : f_X1_read fu l0 l1 w = lt (sS w (10107, l0) (0 : Int32)) fun (w1 : MEM) => lt (sS w1 (10108, l0) (0 : Int32)) fun (w2 : MEM) => lt (sS w2 (10109, l0) (0 : Int32)) fun (w3 : MEM) => lt (sS w3 (10110, l0) (12 : Int32)) fun (w4 : MEM) => bnd (f_J7_fill_53178 fu (103, l0) (0 : Int32) w4) fun (u6 : Unit) (w5 : MEM) => f_X1_read_31 fu fu l0 l1 (0 : Int32) w5 := rfl
theorem w_X1_read {X : SCR} {d rc rs : Nat} {Q : PO → PH → Prop} {o : Int32} {w1 : MEM} {fu : Nat} (hd : 8 ≤ d) (hq : ∀ h1, WH X h1 w1 → Q (.inl (some (vI o))) h1) {l0 : Nat} {l1 : Nat} {w : MEM} {h : PH} (wh : WH X h w) (hv_l0 : vo 1 l0 = true) (hv_l1 : vo 8 l1 = true) (hF : f_X1_read fu l0 l1 w = some (o, w1)) : PW d M_X1_read Q rc rs 0 [vR (100, l0), vR (800, l1), vU] [] h := by
  replace hF := (E_X1_read fu l0 l1 w).symm.trans hF
  refine r_X1_read_0 ?_
  replace hF := lt_of hF
  refine sF_S wh rfl hv_l0 ?_
  clear wh
  intro h wh
  replace hF := lt_of hF
  refine sF_S wh rfl hv_l0 ?_
  clear wh
  intro h wh
  replace hF := lt_of hF
  refine sF_S wh rfl hv_l0 ?_
  clear wh
  intro h wh
  replace hF := lt_of hF
  refine sF_S wh rfl hv_l0 ?_
  clear wh
  intro h wh
  refine gA_of (b := (103, l0)) (wh.2.1 10102 _ rfl hv_l0) ?_
  obtain ⟨u6, w5, hG, hF⟩ := bnd_of hF
  refine cl_V (D := 0) (Nat.le_trans (by decide) hd) (c_J7_fill_53178 wh (oA_103 hv_l0) hG) ?_
  clear hG
  clear wh
  intro h wh
  exact w_X1_read_31 hd hq  fu _ _ _ _ _ wh hv_l0 hv_l1 hF
theorem c_X1_read {X : SCR} {fu : Nat} {o : Int32} {w1 : MEM} {a0 : Nat} {a1 : Nat} {w : MEM} {h : PH} (wh : WH X h w) (h0 : vo 1 a0 = true) (h1 : vo 8 a1 = true) (hF : f_X1_read fu a0 a1 w = some (o, w1)) : CT 8 M_X1_read [vR (100, a0), vR (800, a1)] h 0 0 (QP X (.inl (some (vI o))) w1) :=
  CT_of mk_X1_read (Nat.le_of_ble_eq_true rfl) rfl (w_X1_read (fu := fu) (rc := 0) (rs := 0) (hd := Nat.le_refl 8) (hq := fun h1 g => ⟨rfl, g⟩) wh h0 h1 hF)
-- X1_all
def f_X1_all (fu : Nat) (l0 : Nat) (w : MEM) : Option (Int32 × MEM) := some ((((1 : Int32) <<< ((rS w (10107, l0)) &&& 31)) - (1 : Int32)), w)
theorem E_X1_all (fu : Nat) (l0 : Nat) (w : MEM) : f_X1_all fu l0 w = some ((((1 : Int32) <<< ((rS w (10107, l0)) &&& 31)) - (1 : Int32)), w) := rfl
theorem w_X1_all {X : SCR} {d rc rs : Nat} {Q : PO → PH → Prop} {o : Int32} {w1 : MEM} {fu : Nat} (hd : 0 ≤ d) (hq : ∀ h1, WH X h1 w1 → Q (.inl (some (vI o))) h1) {l0 : Nat} {w : MEM} {h : PH} (wh : WH X h w) (hv_l0 : vo 1 l0 = true) (hF : f_X1_all fu l0 w = some (o, w1)) : PW d M_X1_all Q rc rs 0 [vR (100, l0)] [] h := by
  replace hF := (E_X1_all fu l0 w).symm.trans hF
  refine r_X1_all_0 ?_
  refine gI_of (wh.1 10107 _ rfl hv_l0) ?_
  obtain ⟨rfl, rfl⟩ := some_of hF
  exact hq _ wh
theorem c_X1_all {X : SCR} {fu : Nat} {o : Int32} {w1 : MEM} {a0 : Nat} {w : MEM} {h : PH} (wh : WH X h w) (h0 : vo 1 a0 = true) (hF : f_X1_all fu a0 w = some (o, w1)) : CT 0 M_X1_all [vR (100, a0)] h 0 0 (QP X (.inl (some (vI o))) w1) :=
  CT_of mk_X1_all (Nat.le_of_ble_eq_true rfl) rfl (w_X1_all (fu := fu) (rc := 0) (rs := 0) (hd := Nat.le_refl 0) (hq := fun h1 g => ⟨rfl, g⟩) wh h0 hF)
-- J6_bitCount_0f7a4
def f_J6_bitCount_0f7a4 (fu : Nat) (l0 : Int32) (w : MEM) : Option (Int32 × MEM) := lt ((l0 - (((l0.toUInt32 >>> ((1 : Int32).toUInt32 &&& Int32.toUInt32 31)).toInt32) &&& (1431655765 : Int32)))) fun (v1 : Int32) => lt (((v1 &&& (858993459 : Int32)) + (((v1.toUInt32 >>> ((2 : Int32).toUInt32 &&& Int32.toUInt32 31)).toInt32) &&& (858993459 : Int32)))) fun (v2 : Int32) => lt (((v2 + ((v2.toUInt32 >>> ((4 : Int32).toUInt32 &&& Int32.toUInt32 31)).toInt32)) &&& (252645135 : Int32))) fun (v3 : Int32) => lt ((v3 + ((v3.toUInt32 >>> ((8 : Int32).toUInt32 &&& Int32.toUInt32 31)).toInt32))) fun (v4 : Int32) => lt ((v4 + ((v4.toUInt32 >>> ((16 : Int32).toUInt32 &&& Int32.toUInt32 31)).toInt32))) fun (v5 : Int32) => some ((v5 &&& (63 : Int32)), w)
theorem E_J6_bitCount_0f7a4 (fu : Nat) (l0 : Int32) (w : MEM) : f_J6_bitCount_0f7a4 fu l0 w = lt ((l0 - (((l0.toUInt32 >>> ((1 : Int32).toUInt32 &&& Int32.toUInt32 31)).toInt32) &&& (1431655765 : Int32)))) fun (v1 : Int32) => lt (((v1 &&& (858993459 : Int32)) + (((v1.toUInt32 >>> ((2 : Int32).toUInt32 &&& Int32.toUInt32 31)).toInt32) &&& (858993459 : Int32)))) fun (v2 : Int32) => lt (((v2 + ((v2.toUInt32 >>> ((4 : Int32).toUInt32 &&& Int32.toUInt32 31)).toInt32)) &&& (252645135 : Int32))) fun (v3 : Int32) => lt ((v3 + ((v3.toUInt32 >>> ((8 : Int32).toUInt32 &&& Int32.toUInt32 31)).toInt32))) fun (v4 : Int32) => lt ((v4 + ((v4.toUInt32 >>> ((16 : Int32).toUInt32 &&& Int32.toUInt32 31)).toInt32))) fun (v5 : Int32) => some ((v5 &&& (63 : Int32)), w) := rfl
theorem w_J6_bitCount_0f7a4 {X : SCR} {d rc rs : Nat} {Q : PO → PH → Prop} {o : Int32} {w1 : MEM} {fu : Nat} (hd : 0 ≤ d) (hq : ∀ h1, WH X h1 w1 → Q (.inl (some (vI o))) h1) {l0 : Int32} {w : MEM} {h : PH} (wh : WH X h w)  (hF : f_J6_bitCount_0f7a4 fu l0 w = some (o, w1)) : PW d M_J6_bitCount_0f7a4 Q rc rs 0 [vI l0] [] h := by
  replace hF := (E_J6_bitCount_0f7a4 fu l0 w).symm.trans hF
  refine r_J6_bitCount_0f7a4_0 ?_
  replace hF := lt_of hF
  replace hF := lt_of hF
  replace hF := lt_of hF
  replace hF := lt_of hF
  replace hF := lt_of hF
  obtain ⟨rfl, rfl⟩ := some_of hF
  exact hq _ wh
theorem c_J6_bitCount_0f7a4 {X : SCR} {fu : Nat} {o : Int32} {w1 : MEM} {a0 : Int32} {w : MEM} {h : PH} (wh : WH X h w)  (hF : f_J6_bitCount_0f7a4 fu a0 w = some (o, w1)) : CT 0 M_J6_bitCount_0f7a4 [vI a0] h 0 0 (QP X (.inl (some (vI o))) w1) :=
  CT_of mk_J6_bitCount_0f7a4 (Nat.le_of_ble_eq_true rfl) rfl (w_J6_bitCount_0f7a4 (fu := fu) (rc := 0) (rs := 0) (hd := Nat.le_refl 0) (hq := fun h1 g => ⟨rfl, g⟩) wh  hF)
-- X1_friendsOf
def f_X1_friendsOf (fu : Nat) (l0 : Nat) (l1 : Int32) (w : MEM) : Option (Int32 × MEM) := ck (bI l1 7) (bnd (f_J6_bitCount_0f7a4 fu (rA w (103, l0) l1) w) fun (x2 : Int32) (w1 : MEM) => some (x2, w1))
theorem E_X1_friendsOf (fu : Nat) (l0 : Nat) (l1 : Int32) (w : MEM) : f_X1_friendsOf fu l0 l1 w = ck (bI l1 7) (bnd (f_J6_bitCount_0f7a4 fu (rA w (103, l0) l1) w) fun (x2 : Int32) (w1 : MEM) => some (x2, w1)) := rfl
theorem w_X1_friendsOf {X : SCR} {d rc rs : Nat} {Q : PO → PH → Prop} {o : Int32} {w1 : MEM} {fu : Nat} (hd : 1 ≤ d) (hq : ∀ h1, WH X h1 w1 → Q (.inl (some (vI o))) h1) {l0 : Nat} {l1 : Int32} {w : MEM} {h : PH} (wh : WH X h w) (hv_l0 : vo 1 l0 = true) (hF : f_X1_friendsOf fu l0 l1 w = some (o, w1)) : PW d M_X1_friendsOf Q rc rs 0 [vR (100, l0), vI l1] [] h := by
  replace hF := (E_X1_friendsOf fu l0 l1 w).symm.trans hF
  refine r_X1_friendsOf_0 ?_
  refine gA_of (b := (103, l0)) (wh.2.1 10102 _ rfl hv_l0) ?_
  obtain ⟨c, hF⟩ := ck_of hF
  refine xI_of wh (oA_103 hv_l0) c ?_
  clear c
  obtain ⟨x2, w1, hG, hF⟩ := bnd_of hF
  refine cl_I (D := 0) (Nat.le_trans (by decide) hd) (c_J6_bitCount_0f7a4 wh  hG) ?_
  clear hG
  clear wh
  intro h wh
  obtain ⟨rfl, rfl⟩ := some_of hF
  exact hq _ wh
theorem c_X1_friendsOf {X : SCR} {fu : Nat} {o : Int32} {w1 : MEM} {a0 : Nat} {a1 : Int32} {w : MEM} {h : PH} (wh : WH X h w) (h0 : vo 1 a0 = true) (hF : f_X1_friendsOf fu a0 a1 w = some (o, w1)) : CT 1 M_X1_friendsOf [vR (100, a0), vI a1] h 0 0 (QP X (.inl (some (vI o))) w1) :=
  CT_of mk_X1_friendsOf (Nat.le_of_ble_eq_true rfl) rfl (w_X1_friendsOf (fu := fu) (rc := 0) (rs := 0) (hd := Nat.le_refl 1) (hq := fun h1 g => ⟨rfl, g⟩) wh h0 hF)
-- J9_floorMod_7cf53
def f_J9_floorMod_7cf53 (fu : Nat) (l0 : Int32) (l1 : Int32) (w : MEM) : Option (Int32 × MEM) := if l1 = 0 then none else (lt ((l0 - l0 / l1 * l1)) fun (v1 : Int32) => if (l0 ^^^ l1) < 0 then (if v1 = 0 then (some (v1, w)) else (some ((v1 + l1), w))) else (some (v1, w)))
theorem E_J9_floorMod_7cf53 (fu : Nat) (l0 : Int32) (l1 : Int32) (w : MEM) : f_J9_floorMod_7cf53 fu l0 l1 w = if l1 = 0 then none else (lt ((l0 - l0 / l1 * l1)) fun (v1 : Int32) => if (l0 ^^^ l1) < 0 then (if v1 = 0 then (some (v1, w)) else (some ((v1 + l1), w))) else (some (v1, w))) := rfl
theorem w_J9_floorMod_7cf53 {X : SCR} {d rc rs : Nat} {Q : PO → PH → Prop} {o : Int32} {w1 : MEM} {fu : Nat} (hd : 0 ≤ d) (hq : ∀ h1, WH X h1 w1 → Q (.inl (some (vI o))) h1) {l0 : Int32} {l1 : Int32} {w : MEM} {h : PH} (wh : WH X h w)  (hF : f_J9_floorMod_7cf53 fu l0 l1 w = some (o, w1)) : PW d M_J9_floorMod_7cf53 Q rc rs 0 [vI l0, vI l1, vU] [] h := by
  replace hF := (E_J9_floorMod_7cf53 fu l0 l1 w).symm.trans hF
  refine r_J9_floorMod_7cf53_0 ?_
  obtain ⟨c, hF⟩ := nzF_of hF
  refine ⟨c, ?_⟩
  replace hF := lt_of hF
  refine ⟨fun c => ?_, fun c => ?_⟩
  · replace hF := if_ofT c hF
    refine ⟨fun c => ?_, fun c => ?_⟩
    · replace hF := if_ofT c hF
      obtain ⟨rfl, rfl⟩ := some_of hF
      exact hq _ wh
    · replace hF := if_ofF c hF
      obtain ⟨rfl, rfl⟩ := some_of hF
      exact hq _ wh
  · replace hF := if_ofF c hF
    obtain ⟨rfl, rfl⟩ := some_of hF
    exact hq _ wh
theorem c_J9_floorMod_7cf53 {X : SCR} {fu : Nat} {o : Int32} {w1 : MEM} {a0 : Int32} {a1 : Int32} {w : MEM} {h : PH} (wh : WH X h w)  (hF : f_J9_floorMod_7cf53 fu a0 a1 w = some (o, w1)) : CT 0 M_J9_floorMod_7cf53 [vI a0, vI a1] h 0 0 (QP X (.inl (some (vI o))) w1) :=
  CT_of mk_J9_floorMod_7cf53 (Nat.le_of_ble_eq_true rfl) rfl (w_J9_floorMod_7cf53 (fu := fu) (rc := 0) (rs := 0) (hd := Nat.le_refl 0) (hq := fun h1 g => ⟨rfl, g⟩) wh  hF)
-- X1_nextCough
def f_X1_nextCough (fu : Nat) (l0 : Nat) (l1 : Int32) (l2 : Int32) (w : MEM) : Option (Int32 × MEM) := ck (bI l1 6) (lt ((rA w (107, l0) l1)) fun (v1 : Int32) => if 0 < v1 then (bnd (f_J9_floorMod_7cf53 fu (-l2) v1 w) fun (x3 : Int32) (w2 : MEM) => some (x3, w2)) else (some ((0 : Int32), w)))
theorem E_X1_nextCough (fu : Nat) (l0 : Nat) (l1 : Int32) (l2 : Int32) (w : MEM) : f_X1_nextCough fu l0 l1 l2 w = ck (bI l1 6) (lt ((rA w (107, l0) l1)) fun (v1 : Int32) => if 0 < v1 then (bnd (f_J9_floorMod_7cf53 fu (-l2) v1 w) fun (x3 : Int32) (w2 : MEM) => some (x3, w2)) else (some ((0 : Int32), w))) := rfl
theorem w_X1_nextCough {X : SCR} {d rc rs : Nat} {Q : PO → PH → Prop} {o : Int32} {w1 : MEM} {fu : Nat} (hd : 1 ≤ d) (hq : ∀ h1, WH X h1 w1 → Q (.inl (some (vI o))) h1) {l0 : Nat} {l1 : Int32} {l2 : Int32} {w : MEM} {h : PH} (wh : WH X h w) (hv_l0 : vo 1 l0 = true) (hF : f_X1_nextCough fu l0 l1 l2 w = some (o, w1)) : PW d M_X1_nextCough Q rc rs 0 [vR (100, l0), vI l1, vI l2, vU] [] h := by
  replace hF := (E_X1_nextCough fu l0 l1 l2 w).symm.trans hF
  refine r_X1_nextCough_0 ?_
  refine gA_of (b := (107, l0)) (wh.2.1 10106 _ rfl hv_l0) ?_
  obtain ⟨c, hF⟩ := ck_of hF
  refine xI_of wh (oA_107 hv_l0) c ?_
  clear c
  replace hF := lt_of hF
  refine ⟨fun c => ?_, fun c => ?_⟩
  · replace hF := if_ofT c hF
    obtain ⟨x3, w2, hG, hF⟩ := bnd_of hF
    refine cl_I (D := 0) (Nat.le_trans (by decide) hd) (c_J9_floorMod_7cf53 wh  hG) ?_
    clear hG
    clear wh
    intro h wh
    obtain ⟨rfl, rfl⟩ := some_of hF
    exact hq _ wh
  · replace hF := if_ofF c hF
    obtain ⟨rfl, rfl⟩ := some_of hF
    exact hq _ wh
theorem c_X1_nextCough {X : SCR} {fu : Nat} {o : Int32} {w1 : MEM} {a0 : Nat} {a1 : Int32} {a2 : Int32} {w : MEM} {h : PH} (wh : WH X h w) (h0 : vo 1 a0 = true) (hF : f_X1_nextCough fu a0 a1 a2 w = some (o, w1)) : CT 1 M_X1_nextCough [vR (100, a0), vI a1, vI a2] h 0 0 (QP X (.inl (some (vI o))) w1) :=
  CT_of mk_X1_nextCough (Nat.le_of_ble_eq_true rfl) rfl (w_X1_nextCough (fu := fu) (rc := 0) (rs := 0) (hd := Nat.le_refl 1) (hq := fun h1 g => ⟨rfl, g⟩) wh h0 hF)
-- X1_coughsBeside
def f_X1_coughsBeside_5 (fu : Nat) : Nat → Nat → Int32 → Int32 → Int32 → Int32 → MEM → Option (Int32 × MEM)
  | 0, _, _, _, _, _, _ => none
  | n + 1, l0, l1, l2, l3, l4, w => if l4 < (rS w (10109, l0)) then (ck (bI l4 6) (if (rA w (106, l0) l4) = l1 then (bnd (f_X1_nextCough fu l0 l4 l2 w) fun (x2 : Int32) (w1 : MEM) => if x2 = 0 then (f_X1_coughsBeside_5 fu n l0 l1 l2 (l3 + (1 : Int32)) (l4 + (1 : Int32)) w1) else (f_X1_coughsBeside_5 fu n l0 l1 l2 l3 (l4 + (1 : Int32)) w1)) else (f_X1_coughsBeside_5 fu n l0 l1 l2 l3 (l4 + (1 : Int32)) w))) else (some (l3, w))
theorem E_X1_coughsBeside_5 (fu : Nat) (n : Nat) (l0 : Nat) (l1 : Int32) (l2 : Int32) (l3 : Int32) (l4 : Int32) (w : MEM) : f_X1_coughsBeside_5 fu (n + 1) l0 l1 l2 l3 l4 w = if l4 < (rS w (10109, l0)) then (ck (bI l4 6) (if (rA w (106, l0) l4) = l1 then (bnd (f_X1_nextCough fu l0 l4 l2 w) fun (x2 : Int32) (w1 : MEM) => if x2 = 0 then (f_X1_coughsBeside_5 fu n l0 l1 l2 (l3 + (1 : Int32)) (l4 + (1 : Int32)) w1) else (f_X1_coughsBeside_5 fu n l0 l1 l2 l3 (l4 + (1 : Int32)) w1)) else (f_X1_coughsBeside_5 fu n l0 l1 l2 l3 (l4 + (1 : Int32)) w))) else (some (l3, w)) := rfl
theorem w_X1_coughsBeside_5 {X : SCR} {d rc rs : Nat} {Q : PO → PH → Prop} {o : Int32} {w1 : MEM} {fu : Nat} (hd : 2 ≤ d) (hq : ∀ h1, WH X h1 w1 → Q (.inl (some (vI o))) h1) : ∀ (n : Nat) (l0 : Nat) (l1 : Int32) (l2 : Int32) (l3 : Int32) (l4 : Int32) (w : MEM) (h : PH), WH X h w → vo 1 l0 = true → f_X1_coughsBeside_5 fu n l0 l1 l2 l3 l4 w = some (o, w1) → PW d M_X1_coughsBeside Q rc rs 5 [vR (100, l0), vI l1, vI l2, vI l3, vI l4] [] h := by
  intro n
  induction n with
  | zero => intro l0 l1 l2 l3 l4 w h wh hv_l0 hF; cases hF
  | succ n ih =>
    intro l0 l1 l2 l3 l4 w h wh hv_l0 hF
    replace hF := (E_X1_coughsBeside_5 fu n l0 l1 l2 l3 l4 w).symm.trans hF
    refine r_X1_coughsBeside_5 ?_
    refine gI_of (wh.1 10109 _ rfl hv_l0) ?_
    refine ⟨fun c => ?_, fun c => ?_⟩
    · replace hF := if_ofT c hF
      refine gA_of (b := (106, l0)) (wh.2.1 10105 _ rfl hv_l0) ?_
      obtain ⟨c, hF⟩ := ck_of hF
      refine xI_of wh (oA_106 hv_l0) c ?_
      clear c
      refine ⟨fun c => ?_, fun c => ?_⟩
      · replace hF := if_ofT c hF
        refine ⟨⟨_, wh.2.1 10100 _ rfl hv_l0⟩, ?_⟩
        obtain ⟨x2, w1, hG, hF⟩ := bnd_of hF
        refine cl_I (D := 1) (Nat.le_trans (by decide) hd) (c_X1_nextCough wh hv_l0 hG) ?_
        clear hG
        clear wh
        intro h wh
        refine ⟨fun c => ?_, fun c => ?_⟩
        · replace hF := if_ofT c hF
          exact ih _ _ _ _ _ _ _ wh hv_l0 hF
        · replace hF := if_ofF c hF
          exact ih _ _ _ _ _ _ _ wh hv_l0 hF
      · replace hF := if_ofF c hF
        exact ih _ _ _ _ _ _ _ wh hv_l0 hF
    · replace hF := if_ofF c hF
      obtain ⟨rfl, rfl⟩ := some_of hF
      exact hq _ wh
def f_X1_coughsBeside (fu : Nat) (l0 : Nat) (l1 : Int32) (l2 : Int32) (w : MEM) : Option (Int32 × MEM) := f_X1_coughsBeside_5 fu fu l0 l1 l2 (0 : Int32) (0 : Int32) w
theorem E_X1_coughsBeside (fu : Nat) (l0 : Nat) (l1 : Int32) (l2 : Int32) (w : MEM) : f_X1_coughsBeside fu l0 l1 l2 w = f_X1_coughsBeside_5 fu fu l0 l1 l2 (0 : Int32) (0 : Int32) w := rfl
theorem w_X1_coughsBeside {X : SCR} {d rc rs : Nat} {Q : PO → PH → Prop} {o : Int32} {w1 : MEM} {fu : Nat} (hd : 2 ≤ d) (hq : ∀ h1, WH X h1 w1 → Q (.inl (some (vI o))) h1) {l0 : Nat} {l1 : Int32} {l2 : Int32} {w : MEM} {h : PH} (wh : WH X h w) (hv_l0 : vo 1 l0 = true) (hF : f_X1_coughsBeside fu l0 l1 l2 w = some (o, w1)) : PW d M_X1_coughsBeside Q rc rs 0 [vR (100, l0), vI l1, vI l2, vU, vU] [] h := by
  replace hF := (E_X1_coughsBeside fu l0 l1 l2 w).symm.trans hF
  refine r_X1_coughsBeside_0 ?_
  exact w_X1_coughsBeside_5 hd hq  fu _ _ _ _ _ _ _ wh hv_l0 hF
theorem c_X1_coughsBeside {X : SCR} {fu : Nat} {o : Int32} {w1 : MEM} {a0 : Nat} {a1 : Int32} {a2 : Int32} {w : MEM} {h : PH} (wh : WH X h w) (h0 : vo 1 a0 = true) (hF : f_X1_coughsBeside fu a0 a1 a2 w = some (o, w1)) : CT 2 M_X1_coughsBeside [vR (100, a0), vI a1, vI a2] h 0 0 (QP X (.inl (some (vI o))) w1) :=
  CT_of mk_X1_coughsBeside (Nat.le_of_ble_eq_true rfl) rfl (w_X1_coughsBeside (fu := fu) (rc := 0) (rs := 0) (hd := Nat.le_refl 2) (hq := fun h1 g => ⟨rfl, g⟩) wh h0 hF)
-- X1_spread
def f_X1_spread_4 (fu : Nat) : Nat → Nat → Int32 → Int32 → Int32 → MEM → Option (Int32 × MEM)
  | 0, _, _, _, _, _ => none
  | n + 1, l0, l1, l2, l3, w => if l3 < (rS w (10107, l0)) then (if (l1 &&& ((1 : Int32) <<< (l3 &&& 31))) = 0 then (f_X1_spread_4 fu n l0 l1 l2 (l3 + (1 : Int32)) w) else (ck (bI l3 7) (lt ((l2 ||| (rA w (103, l0) l3))) fun (v1 : Int32) => f_X1_spread_4 fu n l0 l1 v1 (l3 + (1 : Int32)) w))) else (some (l2, w))
theorem E_X1_spread_4 (fu : Nat) (n : Nat) (l0 : Nat) (l1 : Int32) (l2 : Int32) (l3 : Int32) (w : MEM) : f_X1_spread_4 fu (n + 1) l0 l1 l2 l3 w = if l3 < (rS w (10107, l0)) then (if (l1 &&& ((1 : Int32) <<< (l3 &&& 31))) = 0 then (f_X1_spread_4 fu n l0 l1 l2 (l3 + (1 : Int32)) w) else (ck (bI l3 7) (lt ((l2 ||| (rA w (103, l0) l3))) fun (v1 : Int32) => f_X1_spread_4 fu n l0 l1 v1 (l3 + (1 : Int32)) w))) else (some (l2, w)) := rfl
theorem w_X1_spread_4 {X : SCR} {d rc rs : Nat} {Q : PO → PH → Prop} {o : Int32} {w1 : MEM} {fu : Nat} (hd : 0 ≤ d) (hq : ∀ h1, WH X h1 w1 → Q (.inl (some (vI o))) h1) : ∀ (n : Nat) (l0 : Nat) (l1 : Int32) (l2 : Int32) (l3 : Int32) (w : MEM) (h : PH), WH X h w → vo 1 l0 = true → f_X1_spread_4 fu n l0 l1 l2 l3 w = some (o, w1) → PW d M_X1_spread Q rc rs 4 [vR (100, l0), vI l1, vI l2, vI l3] [] h := by
  intro n
  induction n with
  | zero => intro l0 l1 l2 l3 w h wh hv_l0 hF; cases hF
  | succ n ih =>
    intro l0 l1 l2 l3 w h wh hv_l0 hF
    replace hF := (E_X1_spread_4 fu n l0 l1 l2 l3 w).symm.trans hF
    refine r_X1_spread_4 ?_
    refine gI_of (wh.1 10107 _ rfl hv_l0) ?_
    refine ⟨fun c => ?_, fun c => ?_⟩
    · replace hF := if_ofT c hF
      refine ⟨fun c => ?_, fun c => ?_⟩
      · replace hF := if_ofT c hF
        exact ih _ _ _ _ _ _ wh hv_l0 hF
      · replace hF := if_ofF c hF
        refine gA_of (b := (103, l0)) (wh.2.1 10102 _ rfl hv_l0) ?_
        obtain ⟨c, hF⟩ := ck_of hF
        refine xI_of wh (oA_103 hv_l0) c ?_
        clear c
        replace hF := lt_of hF
        exact ih _ _ _ _ _ _ wh hv_l0 hF
    · replace hF := if_ofF c hF
      obtain ⟨rfl, rfl⟩ := some_of hF
      exact hq _ wh
def f_X1_spread (fu : Nat) (l0 : Nat) (l1 : Int32) (w : MEM) : Option (Int32 × MEM) := f_X1_spread_4 fu fu l0 l1 l1 (0 : Int32) w
theorem E_X1_spread (fu : Nat) (l0 : Nat) (l1 : Int32) (w : MEM) : f_X1_spread fu l0 l1 w = f_X1_spread_4 fu fu l0 l1 l1 (0 : Int32) w := rfl
theorem w_X1_spread {X : SCR} {d rc rs : Nat} {Q : PO → PH → Prop} {o : Int32} {w1 : MEM} {fu : Nat} (hd : 0 ≤ d) (hq : ∀ h1, WH X h1 w1 → Q (.inl (some (vI o))) h1) {l0 : Nat} {l1 : Int32} {w : MEM} {h : PH} (wh : WH X h w) (hv_l0 : vo 1 l0 = true) (hF : f_X1_spread fu l0 l1 w = some (o, w1)) : PW d M_X1_spread Q rc rs 0 [vR (100, l0), vI l1, vU, vU] [] h := by
  replace hF := (E_X1_spread fu l0 l1 w).symm.trans hF
  refine r_X1_spread_0 ?_
  exact w_X1_spread_4 hd hq  fu _ _ _ _ _ _ wh hv_l0 hF
theorem c_X1_spread {X : SCR} {fu : Nat} {o : Int32} {w1 : MEM} {a0 : Nat} {a1 : Int32} {w : MEM} {h : PH} (wh : WH X h w) (h0 : vo 1 a0 = true) (hF : f_X1_spread fu a0 a1 w = some (o, w1)) : CT 0 M_X1_spread [vR (100, a0), vI a1] h 0 0 (QP X (.inl (some (vI o))) w1) :=
  CT_of mk_X1_spread (Nat.le_of_ble_eq_true rfl) rfl (w_X1_spread (fu := fu) (rc := 0) (rs := 0) (hd := Nat.le_refl 0) (hq := fun h1 g => ⟨rfl, g⟩) wh h0 hF)
-- X1_reached
def f_X1_reached_7 (fu : Nat) : Nat → Nat → Int32 → Int32 → Int32 → MEM → Option (Int32 × MEM)
  | 0, _, _, _, _, _ => none
  | n + 1, l0, l2, l3, l4, w => if l4 < (rS w (10107, l0)) then (bnd (f_X1_spread fu l0 l3 w) fun (x2 : Int32) (w1 : MEM) => lt ((x2 &&& (l2 ^^^ (-1 : Int32)))) fun (v3 : Int32) => f_X1_reached_7 fu n l0 l2 v3 (l4 + (1 : Int32)) w1) else (some (l3, w))
theorem E_X1_reached_7 (fu : Nat) (n : Nat) (l0 : Nat) (l2 : Int32) (l3 : Int32) (l4 : Int32) (w : MEM) : f_X1_reached_7 fu (n + 1) l0 l2 l3 l4 w = if l4 < (rS w (10107, l0)) then (bnd (f_X1_spread fu l0 l3 w) fun (x2 : Int32) (w1 : MEM) => lt ((x2 &&& (l2 ^^^ (-1 : Int32)))) fun (v3 : Int32) => f_X1_reached_7 fu n l0 l2 v3 (l4 + (1 : Int32)) w1) else (some (l3, w)) := rfl
theorem w_X1_reached_7 {X : SCR} {d rc rs : Nat} {Q : PO → PH → Prop} {o : Int32} {w1 : MEM} {fu : Nat} (hd : 1 ≤ d) (hq : ∀ h1, WH X h1 w1 → Q (.inl (some (vI o))) h1) : ∀ (n : Nat) (l0 : Nat) (l2 : Int32) (l3 : Int32) (l4 : Int32) (w : MEM) (h : PH), WH X h w → vo 1 l0 = true → f_X1_reached_7 fu n l0 l2 l3 l4 w = some (o, w1) → PW d M_X1_reached Q rc rs 7 [vR (100, l0), vU, vI l2, vI l3, vI l4] [] h := by
  intro n
  induction n with
  | zero => intro l0 l2 l3 l4 w h wh hv_l0 hF; cases hF
  | succ n ih =>
    intro l0 l2 l3 l4 w h wh hv_l0 hF
    replace hF := (E_X1_reached_7 fu n l0 l2 l3 l4 w).symm.trans hF
    refine r_X1_reached_7 ?_
    refine gI_of (wh.1 10107 _ rfl hv_l0) ?_
    refine ⟨fun c => ?_, fun c => ?_⟩
    · replace hF := if_ofT c hF
      refine ⟨⟨_, wh.2.1 10100 _ rfl hv_l0⟩, ?_⟩
      obtain ⟨x2, w1, hG, hF⟩ := bnd_of hF
      refine cl_I (D := 0) (Nat.le_trans (by decide) hd) (c_X1_spread wh hv_l0 hG) ?_
      clear hG
      clear wh
      intro h wh
      replace hF := lt_of hF
      exact ih _ _ _ _ _ _ wh hv_l0 hF
    · replace hF := if_ofF c hF
      obtain ⟨rfl, rfl⟩ := some_of hF
      exact hq _ wh
def f_X1_reached (fu : Nat) (l0 : Nat) (l1 : Int32) (l2 : Int32) (w : MEM) : Option (Int32 × MEM) := lt (((1 : Int32) <<< (l1 &&& 31))) fun (v1 : Int32) => f_X1_reached_7 fu fu l0 l2 v1 (0 : Int32) w
theorem E_X1_reached (fu : Nat) (l0 : Nat) (l1 : Int32) (l2 : Int32) (w : MEM) : f_X1_reached fu l0 l1 l2 w = lt (((1 : Int32) <<< (l1 &&& 31))) fun (v1 : Int32) => f_X1_reached_7 fu fu l0 l2 v1 (0 : Int32) w := rfl
theorem w_X1_reached {X : SCR} {d rc rs : Nat} {Q : PO → PH → Prop} {o : Int32} {w1 : MEM} {fu : Nat} (hd : 1 ≤ d) (hq : ∀ h1, WH X h1 w1 → Q (.inl (some (vI o))) h1) {l0 : Nat} {l1 : Int32} {l2 : Int32} {w : MEM} {h : PH} (wh : WH X h w) (hv_l0 : vo 1 l0 = true) (hF : f_X1_reached fu l0 l1 l2 w = some (o, w1)) : PW d M_X1_reached Q rc rs 0 [vR (100, l0), vI l1, vI l2, vU, vU] [] h := by
  replace hF := (E_X1_reached fu l0 l1 l2 w).symm.trans hF
  refine r_X1_reached_0 ?_
  replace hF := lt_of hF
  exact w_X1_reached_7 hd hq  fu _ _ _ _ _ _ wh hv_l0 hF
theorem c_X1_reached {X : SCR} {fu : Nat} {o : Int32} {w1 : MEM} {a0 : Nat} {a1 : Int32} {a2 : Int32} {w : MEM} {h : PH} (wh : WH X h w) (h0 : vo 1 a0 = true) (hF : f_X1_reached fu a0 a1 a2 w = some (o, w1)) : CT 1 M_X1_reached [vR (100, a0), vI a1, vI a2] h 0 0 (QP X (.inl (some (vI o))) w1) :=
  CT_of mk_X1_reached (Nat.le_of_ble_eq_true rfl) rfl (w_X1_reached (fu := fu) (rc := 0) (rs := 0) (hd := Nat.le_refl 1) (hq := fun h1 g => ⟨rfl, g⟩) wh h0 hF)
-- X1_tapsBetween
def f_X1_tapsBetween_7 (fu : Nat) : Nat → Nat → Int32 → Int32 → Int32 → MEM → Option (Int32 × MEM)
  | 0, _, _, _, _, _ => none
  | n + 1, l0, l2, l3, l4, w => if l4 < (rS w (10107, l0)) then (if (l3 &&& ((1 : Int32) <<< (l2 &&& 31))) = 0 then (bnd (f_X1_spread fu l0 l3 w) fun (x2 : Int32) (w1 : MEM) => f_X1_tapsBetween_7 fu n l0 l2 x2 (l4 + (1 : Int32)) w1) else (some (l4, w))) else (some ((-1 : Int32), w))
theorem E_X1_tapsBetween_7 (fu : Nat) (n : Nat) (l0 : Nat) (l2 : Int32) (l3 : Int32) (l4 : Int32) (w : MEM) : f_X1_tapsBetween_7 fu (n + 1) l0 l2 l3 l4 w = if l4 < (rS w (10107, l0)) then (if (l3 &&& ((1 : Int32) <<< (l2 &&& 31))) = 0 then (bnd (f_X1_spread fu l0 l3 w) fun (x2 : Int32) (w1 : MEM) => f_X1_tapsBetween_7 fu n l0 l2 x2 (l4 + (1 : Int32)) w1) else (some (l4, w))) else (some ((-1 : Int32), w)) := rfl
theorem w_X1_tapsBetween_7 {X : SCR} {d rc rs : Nat} {Q : PO → PH → Prop} {o : Int32} {w1 : MEM} {fu : Nat} (hd : 1 ≤ d) (hq : ∀ h1, WH X h1 w1 → Q (.inl (some (vI o))) h1) : ∀ (n : Nat) (l0 : Nat) (l2 : Int32) (l3 : Int32) (l4 : Int32) (w : MEM) (h : PH), WH X h w → vo 1 l0 = true → f_X1_tapsBetween_7 fu n l0 l2 l3 l4 w = some (o, w1) → PW d M_X1_tapsBetween Q rc rs 7 [vR (100, l0), vU, vI l2, vI l3, vI l4] [] h := by
  intro n
  induction n with
  | zero => intro l0 l2 l3 l4 w h wh hv_l0 hF; cases hF
  | succ n ih =>
    intro l0 l2 l3 l4 w h wh hv_l0 hF
    replace hF := (E_X1_tapsBetween_7 fu n l0 l2 l3 l4 w).symm.trans hF
    refine r_X1_tapsBetween_7 ?_
    refine gI_of (wh.1 10107 _ rfl hv_l0) ?_
    refine ⟨fun c => ?_, fun c => ?_⟩
    · replace hF := if_ofT c hF
      refine ⟨fun c => ?_, fun c => ?_⟩
      · replace hF := if_ofT c hF
        refine ⟨⟨_, wh.2.1 10100 _ rfl hv_l0⟩, ?_⟩
        obtain ⟨x2, w1, hG, hF⟩ := bnd_of hF
        refine cl_I (D := 0) (Nat.le_trans (by decide) hd) (c_X1_spread wh hv_l0 hG) ?_
        clear hG
        clear wh
        intro h wh
        exact ih _ _ _ _ _ _ wh hv_l0 hF
      · replace hF := if_ofF c hF
        obtain ⟨rfl, rfl⟩ := some_of hF
        exact hq _ wh
    · replace hF := if_ofF c hF
      obtain ⟨rfl, rfl⟩ := some_of hF
      exact hq _ wh
def f_X1_tapsBetween (fu : Nat) (l0 : Nat) (l1 : Int32) (l2 : Int32) (w : MEM) : Option (Int32 × MEM) := lt (((1 : Int32) <<< (l1 &&& 31))) fun (v1 : Int32) => f_X1_tapsBetween_7 fu fu l0 l2 v1 (0 : Int32) w
theorem E_X1_tapsBetween (fu : Nat) (l0 : Nat) (l1 : Int32) (l2 : Int32) (w : MEM) : f_X1_tapsBetween fu l0 l1 l2 w = lt (((1 : Int32) <<< (l1 &&& 31))) fun (v1 : Int32) => f_X1_tapsBetween_7 fu fu l0 l2 v1 (0 : Int32) w := rfl
theorem w_X1_tapsBetween {X : SCR} {d rc rs : Nat} {Q : PO → PH → Prop} {o : Int32} {w1 : MEM} {fu : Nat} (hd : 1 ≤ d) (hq : ∀ h1, WH X h1 w1 → Q (.inl (some (vI o))) h1) {l0 : Nat} {l1 : Int32} {l2 : Int32} {w : MEM} {h : PH} (wh : WH X h w) (hv_l0 : vo 1 l0 = true) (hF : f_X1_tapsBetween fu l0 l1 l2 w = some (o, w1)) : PW d M_X1_tapsBetween Q rc rs 0 [vR (100, l0), vI l1, vI l2, vU, vU] [] h := by
  replace hF := (E_X1_tapsBetween fu l0 l1 l2 w).symm.trans hF
  refine r_X1_tapsBetween_0 ?_
  replace hF := lt_of hF
  exact w_X1_tapsBetween_7 hd hq  fu _ _ _ _ _ _ wh hv_l0 hF
theorem c_X1_tapsBetween {X : SCR} {fu : Nat} {o : Int32} {w1 : MEM} {a0 : Nat} {a1 : Int32} {a2 : Int32} {w : MEM} {h : PH} (wh : WH X h w) (h0 : vo 1 a0 = true) (hF : f_X1_tapsBetween fu a0 a1 a2 w = some (o, w1)) : CT 1 M_X1_tapsBetween [vR (100, a0), vI a1, vI a2] h 0 0 (QP X (.inl (some (vI o))) w1) :=
  CT_of mk_X1_tapsBetween (Nat.le_of_ble_eq_true rfl) rfl (w_X1_tapsBetween (fu := fu) (rc := 0) (rs := 0) (hd := Nat.le_refl 1) (hq := fun h1 g => ⟨rfl, g⟩) wh h0 hF)
-- X1_isStill
def f_X1_isStill_2 (fu : Nat) : Nat → Nat → Int32 → Int32 → MEM → Option (Int32 × MEM)
  | 0, _, _, _, _ => none
  | n + 1, l0, l1, l2, w => if l2 < (rS w (10107, l0)) then (if (l1 &&& ((1 : Int32) <<< (l2 &&& 31))) = 0 then (f_X1_isStill_2 fu n l0 l1 (l2 + (1 : Int32)) w) else (ck (bI l2 7) (if (l1 &&& (rA w (103, l0) l2)) = 0 then (f_X1_isStill_2 fu n l0 l1 (l2 + (1 : Int32)) w) else (some ((0 : Int32), w))))) else (some ((1 : Int32), w))
theorem E_X1_isStill_2 (fu : Nat) (n : Nat) (l0 : Nat) (l1 : Int32) (l2 : Int32) (w : MEM) : f_X1_isStill_2 fu (n + 1) l0 l1 l2 w = if l2 < (rS w (10107, l0)) then (if (l1 &&& ((1 : Int32) <<< (l2 &&& 31))) = 0 then (f_X1_isStill_2 fu n l0 l1 (l2 + (1 : Int32)) w) else (ck (bI l2 7) (if (l1 &&& (rA w (103, l0) l2)) = 0 then (f_X1_isStill_2 fu n l0 l1 (l2 + (1 : Int32)) w) else (some ((0 : Int32), w))))) else (some ((1 : Int32), w)) := rfl
theorem w_X1_isStill_2 {X : SCR} {d rc rs : Nat} {Q : PO → PH → Prop} {o : Int32} {w1 : MEM} {fu : Nat} (hd : 0 ≤ d) (hq : ∀ h1, WH X h1 w1 → Q (.inl (some (vI o))) h1) : ∀ (n : Nat) (l0 : Nat) (l1 : Int32) (l2 : Int32) (w : MEM) (h : PH), WH X h w → vo 1 l0 = true → f_X1_isStill_2 fu n l0 l1 l2 w = some (o, w1) → PW d M_X1_isStill Q rc rs 2 [vR (100, l0), vI l1, vI l2] [] h := by
  intro n
  induction n with
  | zero => intro l0 l1 l2 w h wh hv_l0 hF; cases hF
  | succ n ih =>
    intro l0 l1 l2 w h wh hv_l0 hF
    replace hF := (E_X1_isStill_2 fu n l0 l1 l2 w).symm.trans hF
    refine r_X1_isStill_2 ?_
    refine gI_of (wh.1 10107 _ rfl hv_l0) ?_
    refine ⟨fun c => ?_, fun c => ?_⟩
    · replace hF := if_ofT c hF
      refine ⟨fun c => ?_, fun c => ?_⟩
      · replace hF := if_ofT c hF
        exact ih _ _ _ _ _ wh hv_l0 hF
      · replace hF := if_ofF c hF
        refine gA_of (b := (103, l0)) (wh.2.1 10102 _ rfl hv_l0) ?_
        obtain ⟨c, hF⟩ := ck_of hF
        refine xI_of wh (oA_103 hv_l0) c ?_
        clear c
        refine ⟨fun c => ?_, fun c => ?_⟩
        · replace hF := if_ofT c hF
          exact ih _ _ _ _ _ wh hv_l0 hF
        · replace hF := if_ofF c hF
          obtain ⟨rfl, rfl⟩ := some_of hF
          exact hq _ wh
    · replace hF := if_ofF c hF
      obtain ⟨rfl, rfl⟩ := some_of hF
      exact hq _ wh
def f_X1_isStill (fu : Nat) (l0 : Nat) (l1 : Int32) (w : MEM) : Option (Int32 × MEM) := f_X1_isStill_2 fu fu l0 l1 (0 : Int32) w
theorem E_X1_isStill (fu : Nat) (l0 : Nat) (l1 : Int32) (w : MEM) : f_X1_isStill fu l0 l1 w = f_X1_isStill_2 fu fu l0 l1 (0 : Int32) w := rfl
theorem w_X1_isStill {X : SCR} {d rc rs : Nat} {Q : PO → PH → Prop} {o : Int32} {w1 : MEM} {fu : Nat} (hd : 0 ≤ d) (hq : ∀ h1, WH X h1 w1 → Q (.inl (some (vI o))) h1) {l0 : Nat} {l1 : Int32} {w : MEM} {h : PH} (wh : WH X h w) (hv_l0 : vo 1 l0 = true) (hF : f_X1_isStill fu l0 l1 w = some (o, w1)) : PW d M_X1_isStill Q rc rs 0 [vR (100, l0), vI l1, vU] [] h := by
  replace hF := (E_X1_isStill fu l0 l1 w).symm.trans hF
  refine r_X1_isStill_0 ?_
  exact w_X1_isStill_2 hd hq  fu _ _ _ _ _ wh hv_l0 hF
theorem c_X1_isStill {X : SCR} {fu : Nat} {o : Int32} {w1 : MEM} {a0 : Nat} {a1 : Int32} {w : MEM} {h : PH} (wh : WH X h w) (h0 : vo 1 a0 = true) (hF : f_X1_isStill fu a0 a1 w = some (o, w1)) : CT 0 M_X1_isStill [vR (100, a0), vI a1] h 0 0 (QP X (.inl (some (vI o))) w1) :=
  CT_of mk_X1_isStill (Nat.le_of_ble_eq_true rfl) rfl (w_X1_isStill (fu := fu) (rc := 0) (rs := 0) (hd := Nat.le_refl 0) (hq := fun h1 g => ⟨rfl, g⟩) wh h0 hF)
-- X1_mossBy
def f_X1_mossBy_5 (fu : Nat) : Nat → Nat → Int32 → Int32 → Int32 → Int32 → MEM → Option (Int32 × MEM)
  | 0, _, _, _, _, _, _ => none
  | n + 1, l0, l1, l2, l3, l4, w => if l4 < (rS w (10107, l0)) then (if (l1 &&& ((1 : Int32) <<< (l4 &&& 31))) = 0 then (f_X1_mossBy_5 fu n l0 l1 l2 l3 (l4 + (1 : Int32)) w) else (ck (bI l4 7) (bnd (f_J9_min_7cf53 fu (rA w (101, l0) l4) l2 w) fun (x2 : Int32) (w1 : MEM) => lt ((l3 + x2)) fun (v3 : Int32) => f_X1_mossBy_5 fu n l0 l1 l2 v3 (l4 + (1 : Int32)) w1))) else (some (l3, w))
theorem E_X1_mossBy_5 (fu : Nat) (n : Nat) (l0 : Nat) (l1 : Int32) (l2 : Int32) (l3 : Int32) (l4 : Int32) (w : MEM) : f_X1_mossBy_5 fu (n + 1) l0 l1 l2 l3 l4 w = if l4 < (rS w (10107, l0)) then (if (l1 &&& ((1 : Int32) <<< (l4 &&& 31))) = 0 then (f_X1_mossBy_5 fu n l0 l1 l2 l3 (l4 + (1 : Int32)) w) else (ck (bI l4 7) (bnd (f_J9_min_7cf53 fu (rA w (101, l0) l4) l2 w) fun (x2 : Int32) (w1 : MEM) => lt ((l3 + x2)) fun (v3 : Int32) => f_X1_mossBy_5 fu n l0 l1 l2 v3 (l4 + (1 : Int32)) w1))) else (some (l3, w)) := rfl
theorem w_X1_mossBy_5 {X : SCR} {d rc rs : Nat} {Q : PO → PH → Prop} {o : Int32} {w1 : MEM} {fu : Nat} (hd : 1 ≤ d) (hq : ∀ h1, WH X h1 w1 → Q (.inl (some (vI o))) h1) : ∀ (n : Nat) (l0 : Nat) (l1 : Int32) (l2 : Int32) (l3 : Int32) (l4 : Int32) (w : MEM) (h : PH), WH X h w → vo 1 l0 = true → f_X1_mossBy_5 fu n l0 l1 l2 l3 l4 w = some (o, w1) → PW d M_X1_mossBy Q rc rs 5 [vR (100, l0), vI l1, vI l2, vI l3, vI l4] [] h := by
  intro n
  induction n with
  | zero => intro l0 l1 l2 l3 l4 w h wh hv_l0 hF; cases hF
  | succ n ih =>
    intro l0 l1 l2 l3 l4 w h wh hv_l0 hF
    replace hF := (E_X1_mossBy_5 fu n l0 l1 l2 l3 l4 w).symm.trans hF
    refine r_X1_mossBy_5 ?_
    refine gI_of (wh.1 10107 _ rfl hv_l0) ?_
    refine ⟨fun c => ?_, fun c => ?_⟩
    · replace hF := if_ofT c hF
      refine ⟨fun c => ?_, fun c => ?_⟩
      · replace hF := if_ofT c hF
        exact ih _ _ _ _ _ _ _ wh hv_l0 hF
      · replace hF := if_ofF c hF
        refine gA_of (b := (101, l0)) (wh.2.1 10100 _ rfl hv_l0) ?_
        obtain ⟨c, hF⟩ := ck_of hF
        refine xI_of wh (oA_101 hv_l0) c ?_
        clear c
        obtain ⟨x2, w1, hG, hF⟩ := bnd_of hF
        refine cl_I (D := 0) (Nat.le_trans (by decide) hd) (c_J9_min_7cf53 wh  hG) ?_
        clear hG
        clear wh
        intro h wh
        replace hF := lt_of hF
        exact ih _ _ _ _ _ _ _ wh hv_l0 hF
    · replace hF := if_ofF c hF
      obtain ⟨rfl, rfl⟩ := some_of hF
      exact hq _ wh
def f_X1_mossBy (fu : Nat) (l0 : Nat) (l1 : Int32) (l2 : Int32) (w : MEM) : Option (Int32 × MEM) := f_X1_mossBy_5 fu fu l0 l1 l2 (0 : Int32) (0 : Int32) w
theorem E_X1_mossBy (fu : Nat) (l0 : Nat) (l1 : Int32) (l2 : Int32) (w : MEM) : f_X1_mossBy fu l0 l1 l2 w = f_X1_mossBy_5 fu fu l0 l1 l2 (0 : Int32) (0 : Int32) w := rfl
theorem w_X1_mossBy {X : SCR} {d rc rs : Nat} {Q : PO → PH → Prop} {o : Int32} {w1 : MEM} {fu : Nat} (hd : 1 ≤ d) (hq : ∀ h1, WH X h1 w1 → Q (.inl (some (vI o))) h1) {l0 : Nat} {l1 : Int32} {l2 : Int32} {w : MEM} {h : PH} (wh : WH X h w) (hv_l0 : vo 1 l0 = true) (hF : f_X1_mossBy fu l0 l1 l2 w = some (o, w1)) : PW d M_X1_mossBy Q rc rs 0 [vR (100, l0), vI l1, vI l2, vU, vU] [] h := by
  replace hF := (E_X1_mossBy fu l0 l1 l2 w).symm.trans hF
  refine r_X1_mossBy_0 ?_
  exact w_X1_mossBy_5 hd hq  fu _ _ _ _ _ _ _ wh hv_l0 hF
theorem c_X1_mossBy {X : SCR} {fu : Nat} {o : Int32} {w1 : MEM} {a0 : Nat} {a1 : Int32} {a2 : Int32} {w : MEM} {h : PH} (wh : WH X h w) (h0 : vo 1 a0 = true) (hF : f_X1_mossBy fu a0 a1 a2 w = some (o, w1)) : CT 1 M_X1_mossBy [vR (100, a0), vI a1, vI a2] h 0 0 (QP X (.inl (some (vI o))) w1) :=
  CT_of mk_X1_mossBy (Nat.le_of_ble_eq_true rfl) rfl (w_X1_mossBy (fu := fu) (rc := 0) (rs := 0) (hd := Nat.le_refl 1) (hq := fun h1 g => ⟨rfl, g⟩) wh h0 hF)
-- X4_begin
def f_X4_begin_7 (fu : Nat) : Nat → Nat → Nat → Int32 → MEM → Option (Unit × MEM)
  | 0, _, _, _, _ => none
  | n + 1, l0, l1, l2, w => if l2 < (7 : Int32) then (ck (bI l2 7) (ck (bI l2 7) (lt (sA w (401, l0) l2 (rA w (101, l1) l2)) fun (w1 : MEM) => ck (bI l2 7) (ck (bI l2 7) (lt (sA w1 (402, l0) l2 (rA w1 (102, l1) l2)) fun (w2 : MEM) => ck (bI l2 7) (lt (sA w2 (403, l0) l2 (0 : Int32)) fun (w3 : MEM) => ck (bI l2 7) (lt (sA w3 (404, l0) l2 (99 : Int32)) fun (w4 : MEM) => ck (bI l2 7) (lt (sA w4 (405, l0) l2 (0 : Int32)) fun (w5 : MEM) => ck (bI l2 7) (lt (sA w5 (406, l0) l2 (0 : Int32)) fun (w6 : MEM) => if l2 < (rS w6 (10107, l1)) then (ck (bI l2 7) (lt (sA w6 (407, l0) l2 (1 : Int32)) fun (w10 : MEM) => ck (bI l2 7) (lt (sA w10 (408, l0) l2 (-1 : Int32)) fun (w11 : MEM) => ck (bI l2 7) (lt (sA w11 (409, l0) l2 (0 : Int32)) fun (w12 : MEM) => f_X4_begin_7 fu n l0 l1 (l2 + (1 : Int32)) w12)))) else (ck (bI l2 7) (lt (sA w6 (407, l0) l2 (0 : Int32)) fun (w7 : MEM) => ck (bI l2 7) (lt (sA w7 (408, l0) l2 (-1 : Int32)) fun (w8 : MEM) => ck (bI l2 7) (lt (sA w8 (409, l0) l2 (0 : Int32)) fun (w9 : MEM) => f_X4_begin_7 fu n l0 l1 (l2 + (1 : Int32)) w9))))))))))))) else (some ((), w))
theorem E_X4_begin_7 (fu : Nat) (n : Nat) (l0 : Nat) (l1 : Nat) (l2 : Int32) (w : MEM) : f_X4_begin_7 fu (n + 1) l0 l1 l2 w = if l2 < (7 : Int32) then (ck (bI l2 7) (ck (bI l2 7) (lt (sA w (401, l0) l2 (rA w (101, l1) l2)) fun (w1 : MEM) => ck (bI l2 7) (ck (bI l2 7) (lt (sA w1 (402, l0) l2 (rA w1 (102, l1) l2)) fun (w2 : MEM) => ck (bI l2 7) (lt (sA w2 (403, l0) l2 (0 : Int32)) fun (w3 : MEM) => ck (bI l2 7) (lt (sA w3 (404, l0) l2 (99 : Int32)) fun (w4 : MEM) => ck (bI l2 7) (lt (sA w4 (405, l0) l2 (0 : Int32)) fun (w5 : MEM) => ck (bI l2 7) (lt (sA w5 (406, l0) l2 (0 : Int32)) fun (w6 : MEM) => if l2 < (rS w6 (10107, l1)) then (ck (bI l2 7) (lt (sA w6 (407, l0) l2 (1 : Int32)) fun (w10 : MEM) => ck (bI l2 7) (lt (sA w10 (408, l0) l2 (-1 : Int32)) fun (w11 : MEM) => ck (bI l2 7) (lt (sA w11 (409, l0) l2 (0 : Int32)) fun (w12 : MEM) => f_X4_begin_7 fu n l0 l1 (l2 + (1 : Int32)) w12)))) else (ck (bI l2 7) (lt (sA w6 (407, l0) l2 (0 : Int32)) fun (w7 : MEM) => ck (bI l2 7) (lt (sA w7 (408, l0) l2 (-1 : Int32)) fun (w8 : MEM) => ck (bI l2 7) (lt (sA w8 (409, l0) l2 (0 : Int32)) fun (w9 : MEM) => f_X4_begin_7 fu n l0 l1 (l2 + (1 : Int32)) w9))))))))))))) else (some ((), w)) := rfl
theorem w_X4_begin_7 {X : SCR} {d rc rs : Nat} {Q : PO → PH → Prop} {o : Unit} {w1 : MEM} {fu : Nat} (hd : 0 ≤ d) (hq : ∀ h1, WH X h1 w1 → Q (.inl none) h1) : ∀ (n : Nat) (l0 : Nat) (l1 : Nat) (l2 : Int32) (w : MEM) (h : PH), WH X h w → vo 4 l0 = true → vo 1 l1 = true → f_X4_begin_7 fu n l0 l1 l2 w = some (o, w1) → PW d M_X4_begin Q rc rs 7 [vR (400, l0), vR (100, l1), vI l2] [] h := by
  intro n
  induction n with
  | zero => intro l0 l1 l2 w h wh hv_l0 hv_l1 hF; cases hF
  | succ n ih =>
    intro l0 l1 l2 w h wh hv_l0 hv_l1 hF
    replace hF := (E_X4_begin_7 fu n l0 l1 l2 w).symm.trans hF
    refine r_X4_begin_7 ?_
    refine ⟨fun c => ?_, fun c => ?_⟩
    · replace hF := if_ofT c hF
      refine gA_of (b := (401, l0)) (wh.2.1 10400 _ rfl hv_l0) ?_
      refine gA_of (b := (101, l1)) (wh.2.1 10100 _ rfl hv_l1) ?_
      obtain ⟨c, hF⟩ := ck_of hF
      refine xI_of wh (oA_101 hv_l1) c ?_
      clear c
      obtain ⟨c, hF⟩ := ck_of hF
      replace hF := lt_of hF
      refine yI_of wh (oA_401 hv_l0) c ?_
      clear c wh
      intro h wh
      refine gA_of (b := (402, l0)) (wh.2.1 10401 _ rfl hv_l0) ?_
      refine gA_of (b := (102, l1)) (wh.2.1 10101 _ rfl hv_l1) ?_
      obtain ⟨c, hF⟩ := ck_of hF
      refine xI_of wh (oA_102 hv_l1) c ?_
      clear c
      obtain ⟨c, hF⟩ := ck_of hF
      replace hF := lt_of hF
      refine yI_of wh (oA_402 hv_l0) c ?_
      clear c wh
      intro h wh
      refine gA_of (b := (403, l0)) (wh.2.1 10402 _ rfl hv_l0) ?_
      obtain ⟨c, hF⟩ := ck_of hF
      replace hF := lt_of hF
      refine yI_of wh (oA_403 hv_l0) c ?_
      clear c wh
      intro h wh
      refine gA_of (b := (404, l0)) (wh.2.1 10403 _ rfl hv_l0) ?_
      obtain ⟨c, hF⟩ := ck_of hF
      replace hF := lt_of hF
      refine yI_of wh (oA_404 hv_l0) c ?_
      clear c wh
      intro h wh
      refine gA_of (b := (405, l0)) (wh.2.1 10404 _ rfl hv_l0) ?_
      obtain ⟨c, hF⟩ := ck_of hF
      replace hF := lt_of hF
      refine yI_of wh (oA_405 hv_l0) c ?_
      clear c wh
      intro h wh
      refine gA_of (b := (406, l0)) (wh.2.1 10405 _ rfl hv_l0) ?_
      obtain ⟨c, hF⟩ := ck_of hF
      replace hF := lt_of hF
      refine yI_of wh (oA_406 hv_l0) c ?_
      clear c wh
      intro h wh
      refine gA_of (b := (407, l0)) (wh.2.1 10406 _ rfl hv_l0) ?_
      refine gI_of (wh.1 10107 _ rfl hv_l1) ?_
      refine ⟨fun c => ?_, fun c => ?_⟩
      · replace hF := if_ofT c hF
        obtain ⟨c, hF⟩ := ck_of hF
        replace hF := lt_of hF
        refine yI_of wh (oA_407 hv_l0) c ?_
        clear c wh
        intro h wh
        refine gA_of (b := (408, l0)) (wh.2.1 10407 _ rfl hv_l0) ?_
        obtain ⟨c, hF⟩ := ck_of hF
        replace hF := lt_of hF
        refine yI_of wh (oA_408 hv_l0) c ?_
        clear c wh
        intro h wh
        refine gA_of (b := (409, l0)) (wh.2.1 10408 _ rfl hv_l0) ?_
        obtain ⟨c, hF⟩ := ck_of hF
        replace hF := lt_of hF
        refine yI_of wh (oA_409 hv_l0) c ?_
        clear c wh
        intro h wh
        exact ih _ _ _ _ _ wh hv_l0 hv_l1 hF
      · replace hF := if_ofF c hF
        obtain ⟨c, hF⟩ := ck_of hF
        replace hF := lt_of hF
        refine yI_of wh (oA_407 hv_l0) c ?_
        clear c wh
        intro h wh
        refine gA_of (b := (408, l0)) (wh.2.1 10407 _ rfl hv_l0) ?_
        obtain ⟨c, hF⟩ := ck_of hF
        replace hF := lt_of hF
        refine yI_of wh (oA_408 hv_l0) c ?_
        clear c wh
        intro h wh
        refine gA_of (b := (409, l0)) (wh.2.1 10408 _ rfl hv_l0) ?_
        obtain ⟨c, hF⟩ := ck_of hF
        replace hF := lt_of hF
        refine yI_of wh (oA_409 hv_l0) c ?_
        clear c wh
        intro h wh
        exact ih _ _ _ _ _ wh hv_l0 hv_l1 hF
    · replace hF := if_ofF c hF
      obtain ⟨rfl, rfl⟩ := some_of hF
      exact hq _ wh
def f_X4_begin (fu : Nat) (l0 : Nat) (l1 : Nat) (w : MEM) : Option (Unit × MEM) := lt (sS w (10409, l0) (0 : Int32)) fun (w1 : MEM) => f_X4_begin_7 fu fu l0 l1 (0 : Int32) w1
theorem E_X4_begin (fu : Nat) (l0 : Nat) (l1 : Nat) (w : MEM) : f_X4_begin fu l0 l1 w = lt (sS w (10409, l0) (0 : Int32)) fun (w1 : MEM) => f_X4_begin_7 fu fu l0 l1 (0 : Int32) w1 := rfl
theorem w_X4_begin {X : SCR} {d rc rs : Nat} {Q : PO → PH → Prop} {o : Unit} {w1 : MEM} {fu : Nat} (hd : 0 ≤ d) (hq : ∀ h1, WH X h1 w1 → Q (.inl none) h1) {l0 : Nat} {l1 : Nat} {w : MEM} {h : PH} (wh : WH X h w) (hv_l0 : vo 4 l0 = true) (hv_l1 : vo 1 l1 = true) (hF : f_X4_begin fu l0 l1 w = some (o, w1)) : PW d M_X4_begin Q rc rs 0 [vR (400, l0), vR (100, l1), vU] [] h := by
  replace hF := (E_X4_begin fu l0 l1 w).symm.trans hF
  refine r_X4_begin_0 ?_
  replace hF := lt_of hF
  refine sF_S wh rfl hv_l0 ?_
  clear wh
  intro h wh
  exact w_X4_begin_7 hd hq  fu _ _ _ _ _ wh hv_l0 hv_l1 hF
theorem c_X4_begin {X : SCR} {fu : Nat} {o : Unit} {w1 : MEM} {a0 : Nat} {a1 : Nat} {w : MEM} {h : PH} (wh : WH X h w) (h0 : vo 4 a0 = true) (h1 : vo 1 a1 = true) (hF : f_X4_begin fu a0 a1 w = some (o, w1)) : CT 0 M_X4_begin [vR (400, a0), vR (100, a1)] h 0 0 (QP X (.inl none) w1) :=
  CT_of mk_X4_begin (Nat.le_of_ble_eq_true rfl) rfl (w_X4_begin (fu := fu) (rc := 0) (rs := 0) (hd := Nat.le_refl 0) (hq := fun h1 g => ⟨rfl, g⟩) wh h0 h1 hF)
-- X2_begin
def f_X2_begin (fu : Nat) (l0 : Nat) (l1 : Nat) (w : MEM) : Option (Unit × MEM) := bnd (f_X4_begin fu (l0 + 1) l1 w) fun (u2 : Unit) (w1 : MEM) => lt (sS w1 (10202, l0) (0 : Int32)) fun (w3 : MEM) => some ((), w3)
theorem E_X2_begin (fu : Nat) (l0 : Nat) (l1 : Nat) (w : MEM) : f_X2_begin fu l0 l1 w = bnd (f_X4_begin fu (l0 + 1) l1 w) fun (u2 : Unit) (w1 : MEM) => lt (sS w1 (10202, l0) (0 : Int32)) fun (w3 : MEM) => some ((), w3) := rfl
theorem w_X2_begin {X : SCR} {d rc rs : Nat} {Q : PO → PH → Prop} {o : Unit} {w1 : MEM} {fu : Nat} (hd : 1 ≤ d) (hq : ∀ h1, WH X h1 w1 → Q (.inl none) h1) {l0 : Nat} {l1 : Nat} {w : MEM} {h : PH} (wh : WH X h w) (hv_l0 : vo 2 l0 = true) (hv_l1 : vo 1 l1 = true) (hF : f_X2_begin fu l0 l1 w = some (o, w1)) : PW d M_X2_begin Q rc rs 0 [vR (200, l0), vR (100, l1)] [] h := by
  replace hF := (E_X2_begin fu l0 l1 w).symm.trans hF
  refine r_X2_begin_0 ?_
  refine gO_of (i := (l0 + 1)) (wh.2.1 10200 _ rfl hv_l0) ?_
  refine ⟨⟨_, wh.2.1 10400 _ rfl (vH1 hv_l0)⟩, ?_⟩
  obtain ⟨u2, w1, hG, hF⟩ := bnd_of hF
  refine cl_V (D := 0) (Nat.le_trans (by decide) hd) (c_X4_begin wh (vH1 hv_l0) hv_l1 hG) ?_
  clear hG
  clear wh
  intro h wh
  replace hF := lt_of hF
  refine sF_S wh rfl hv_l0 ?_
  clear wh
  intro h wh
  obtain ⟨rfl, rfl⟩ := some_of hF
  exact hq _ wh
theorem c_X2_begin {X : SCR} {fu : Nat} {o : Unit} {w1 : MEM} {a0 : Nat} {a1 : Nat} {w : MEM} {h : PH} (wh : WH X h w) (h0 : vo 2 a0 = true) (h1 : vo 1 a1 = true) (hF : f_X2_begin fu a0 a1 w = some (o, w1)) : CT 1 M_X2_begin [vR (200, a0), vR (100, a1)] h 0 0 (QP X (.inl none) w1) :=
  CT_of mk_X2_begin (Nat.le_of_ble_eq_true rfl) rfl (w_X2_begin (fu := fu) (rc := 0) (rs := 0) (hd := Nat.le_refl 1) (hq := fun h1 g => ⟨rfl, g⟩) wh h0 h1 hF)
-- X4_copy
def f_X4_copy (fu : Nat) (l0 : Nat) (l1 : Nat) (w : MEM) : Option (Unit × MEM) := lt (sS w (10409, l0) (rS w (10409, l1))) fun (w1 : MEM) => ck (cB (0 : Int32) (0 : Int32) (7 : Int32) 7 7) (lt (tA w1 (401, l0) (va_cpy (fA w1 (401, l1)) (fA w1 (401, l0)) (0 : Int32).toNatClampNeg (0 : Int32).toNatClampNeg (7 : Int32).toNatClampNeg)) fun (w2 : MEM) => ck (cB (0 : Int32) (0 : Int32) (7 : Int32) 7 7) (lt (tA w2 (402, l0) (va_cpy (fA w2 (402, l1)) (fA w2 (402, l0)) (0 : Int32).toNatClampNeg (0 : Int32).toNatClampNeg (7 : Int32).toNatClampNeg)) fun (w3 : MEM) => ck (cB (0 : Int32) (0 : Int32) (7 : Int32) 7 7) (lt (tA w3 (403, l0) (va_cpy (fA w3 (403, l1)) (fA w3 (403, l0)) (0 : Int32).toNatClampNeg (0 : Int32).toNatClampNeg (7 : Int32).toNatClampNeg)) fun (w4 : MEM) => ck (cB (0 : Int32) (0 : Int32) (7 : Int32) 7 7) (lt (tA w4 (404, l0) (va_cpy (fA w4 (404, l1)) (fA w4 (404, l0)) (0 : Int32).toNatClampNeg (0 : Int32).toNatClampNeg (7 : Int32).toNatClampNeg)) fun (w5 : MEM) => ck (cB (0 : Int32) (0 : Int32) (7 : Int32) 7 7) (lt (tA w5 (405, l0) (va_cpy (fA w5 (405, l1)) (fA w5 (405, l0)) (0 : Int32).toNatClampNeg (0 : Int32).toNatClampNeg (7 : Int32).toNatClampNeg)) fun (w6 : MEM) => ck (cB (0 : Int32) (0 : Int32) (7 : Int32) 7 7) (lt (tA w6 (406, l0) (va_cpy (fA w6 (406, l1)) (fA w6 (406, l0)) (0 : Int32).toNatClampNeg (0 : Int32).toNatClampNeg (7 : Int32).toNatClampNeg)) fun (w7 : MEM) => ck (cB (0 : Int32) (0 : Int32) (7 : Int32) 7 7) (lt (tA w7 (407, l0) (va_cpy (fA w7 (407, l1)) (fA w7 (407, l0)) (0 : Int32).toNatClampNeg (0 : Int32).toNatClampNeg (7 : Int32).toNatClampNeg)) fun (w8 : MEM) => ck (cB (0 : Int32) (0 : Int32) (7 : Int32) 7 7) (lt (tA w8 (408, l0) (va_cpy (fA w8 (408, l1)) (fA w8 (408, l0)) (0 : Int32).toNatClampNeg (0 : Int32).toNatClampNeg (7 : Int32).toNatClampNeg)) fun (w9 : MEM) => ck (cB (0 : Int32) (0 : Int32) (7 : Int32) 7 7) (lt (tA w9 (409, l0) (va_cpy (fA w9 (409, l1)) (fA w9 (409, l0)) (0 : Int32).toNatClampNeg (0 : Int32).toNatClampNeg (7 : Int32).toNatClampNeg)) fun (w10 : MEM) => some ((), w10))))))))))
theorem E_X4_copy (fu : Nat) (l0 : Nat) (l1 : Nat) (w : MEM) : f_X4_copy fu l0 l1 w = lt (sS w (10409, l0) (rS w (10409, l1))) fun (w1 : MEM) => ck (cB (0 : Int32) (0 : Int32) (7 : Int32) 7 7) (lt (tA w1 (401, l0) (va_cpy (fA w1 (401, l1)) (fA w1 (401, l0)) (0 : Int32).toNatClampNeg (0 : Int32).toNatClampNeg (7 : Int32).toNatClampNeg)) fun (w2 : MEM) => ck (cB (0 : Int32) (0 : Int32) (7 : Int32) 7 7) (lt (tA w2 (402, l0) (va_cpy (fA w2 (402, l1)) (fA w2 (402, l0)) (0 : Int32).toNatClampNeg (0 : Int32).toNatClampNeg (7 : Int32).toNatClampNeg)) fun (w3 : MEM) => ck (cB (0 : Int32) (0 : Int32) (7 : Int32) 7 7) (lt (tA w3 (403, l0) (va_cpy (fA w3 (403, l1)) (fA w3 (403, l0)) (0 : Int32).toNatClampNeg (0 : Int32).toNatClampNeg (7 : Int32).toNatClampNeg)) fun (w4 : MEM) => ck (cB (0 : Int32) (0 : Int32) (7 : Int32) 7 7) (lt (tA w4 (404, l0) (va_cpy (fA w4 (404, l1)) (fA w4 (404, l0)) (0 : Int32).toNatClampNeg (0 : Int32).toNatClampNeg (7 : Int32).toNatClampNeg)) fun (w5 : MEM) => ck (cB (0 : Int32) (0 : Int32) (7 : Int32) 7 7) (lt (tA w5 (405, l0) (va_cpy (fA w5 (405, l1)) (fA w5 (405, l0)) (0 : Int32).toNatClampNeg (0 : Int32).toNatClampNeg (7 : Int32).toNatClampNeg)) fun (w6 : MEM) => ck (cB (0 : Int32) (0 : Int32) (7 : Int32) 7 7) (lt (tA w6 (406, l0) (va_cpy (fA w6 (406, l1)) (fA w6 (406, l0)) (0 : Int32).toNatClampNeg (0 : Int32).toNatClampNeg (7 : Int32).toNatClampNeg)) fun (w7 : MEM) => ck (cB (0 : Int32) (0 : Int32) (7 : Int32) 7 7) (lt (tA w7 (407, l0) (va_cpy (fA w7 (407, l1)) (fA w7 (407, l0)) (0 : Int32).toNatClampNeg (0 : Int32).toNatClampNeg (7 : Int32).toNatClampNeg)) fun (w8 : MEM) => ck (cB (0 : Int32) (0 : Int32) (7 : Int32) 7 7) (lt (tA w8 (408, l0) (va_cpy (fA w8 (408, l1)) (fA w8 (408, l0)) (0 : Int32).toNatClampNeg (0 : Int32).toNatClampNeg (7 : Int32).toNatClampNeg)) fun (w9 : MEM) => ck (cB (0 : Int32) (0 : Int32) (7 : Int32) 7 7) (lt (tA w9 (409, l0) (va_cpy (fA w9 (409, l1)) (fA w9 (409, l0)) (0 : Int32).toNatClampNeg (0 : Int32).toNatClampNeg (7 : Int32).toNatClampNeg)) fun (w10 : MEM) => some ((), w10)))))))))) := rfl
theorem w_X4_copy {X : SCR} {d rc rs : Nat} {Q : PO → PH → Prop} {o : Unit} {w1 : MEM} {fu : Nat} (hd : 3 ≤ d) (hq : ∀ h1, WH X h1 w1 → Q (.inl none) h1) {l0 : Nat} {l1 : Nat} {w : MEM} {h : PH} (wh : WH X h w) (hv_l0 : vo 4 l0 = true) (hv_l1 : vo 4 l1 = true) (hF : f_X4_copy fu l0 l1 w = some (o, w1)) : PW d M_X4_copy Q rc rs 0 [vR (400, l0), vR (400, l1)] [] h := by
  replace hF := (E_X4_copy fu l0 l1 w).symm.trans hF
  refine r_X4_copy_0 ?_
  refine gI_of (wh.1 10409 _ rfl hv_l1) ?_
  replace hF := lt_of hF
  refine sF_S wh rfl hv_l0 ?_
  clear wh
  intro h wh
  refine gA_of (b := (401, l1)) (wh.2.1 10400 _ rfl hv_l1) ?_
  refine gA_of (b := (401, l0)) (wh.2.1 10400 _ rfl hv_l0) ?_
  obtain ⟨c, hF⟩ := ck_of hF
  replace hF := lt_of hF
  refine cpy_of wh (oA_401 hv_l1) (oA_401 hv_l0) (Nat.le_trans (by decide) hd) c ?_
  clear c wh
  intro h wh
  refine gA_of (b := (402, l1)) (wh.2.1 10401 _ rfl hv_l1) ?_
  refine gA_of (b := (402, l0)) (wh.2.1 10401 _ rfl hv_l0) ?_
  obtain ⟨c, hF⟩ := ck_of hF
  replace hF := lt_of hF
  refine cpy_of wh (oA_402 hv_l1) (oA_402 hv_l0) (Nat.le_trans (by decide) hd) c ?_
  clear c wh
  intro h wh
  refine gA_of (b := (403, l1)) (wh.2.1 10402 _ rfl hv_l1) ?_
  refine gA_of (b := (403, l0)) (wh.2.1 10402 _ rfl hv_l0) ?_
  obtain ⟨c, hF⟩ := ck_of hF
  replace hF := lt_of hF
  refine cpy_of wh (oA_403 hv_l1) (oA_403 hv_l0) (Nat.le_trans (by decide) hd) c ?_
  clear c wh
  intro h wh
  refine gA_of (b := (404, l1)) (wh.2.1 10403 _ rfl hv_l1) ?_
  refine gA_of (b := (404, l0)) (wh.2.1 10403 _ rfl hv_l0) ?_
  obtain ⟨c, hF⟩ := ck_of hF
  replace hF := lt_of hF
  refine cpy_of wh (oA_404 hv_l1) (oA_404 hv_l0) (Nat.le_trans (by decide) hd) c ?_
  clear c wh
  intro h wh
  refine gA_of (b := (405, l1)) (wh.2.1 10404 _ rfl hv_l1) ?_
  refine gA_of (b := (405, l0)) (wh.2.1 10404 _ rfl hv_l0) ?_
  obtain ⟨c, hF⟩ := ck_of hF
  replace hF := lt_of hF
  refine cpy_of wh (oA_405 hv_l1) (oA_405 hv_l0) (Nat.le_trans (by decide) hd) c ?_
  clear c wh
  intro h wh
  refine gA_of (b := (406, l1)) (wh.2.1 10405 _ rfl hv_l1) ?_
  refine gA_of (b := (406, l0)) (wh.2.1 10405 _ rfl hv_l0) ?_
  obtain ⟨c, hF⟩ := ck_of hF
  replace hF := lt_of hF
  refine cpy_of wh (oA_406 hv_l1) (oA_406 hv_l0) (Nat.le_trans (by decide) hd) c ?_
  clear c wh
  intro h wh
  refine gA_of (b := (407, l1)) (wh.2.1 10406 _ rfl hv_l1) ?_
  refine gA_of (b := (407, l0)) (wh.2.1 10406 _ rfl hv_l0) ?_
  obtain ⟨c, hF⟩ := ck_of hF
  replace hF := lt_of hF
  refine cpy_of wh (oA_407 hv_l1) (oA_407 hv_l0) (Nat.le_trans (by decide) hd) c ?_
  clear c wh
  intro h wh
  refine gA_of (b := (408, l1)) (wh.2.1 10407 _ rfl hv_l1) ?_
  refine gA_of (b := (408, l0)) (wh.2.1 10407 _ rfl hv_l0) ?_
  obtain ⟨c, hF⟩ := ck_of hF
  replace hF := lt_of hF
  refine cpy_of wh (oA_408 hv_l1) (oA_408 hv_l0) (Nat.le_trans (by decide) hd) c ?_
  clear c wh
  intro h wh
  refine gA_of (b := (409, l1)) (wh.2.1 10408 _ rfl hv_l1) ?_
  refine gA_of (b := (409, l0)) (wh.2.1 10408 _ rfl hv_l0) ?_
  obtain ⟨c, hF⟩ := ck_of hF
  replace hF := lt_of hF
  refine cpy_of wh (oA_409 hv_l1) (oA_409 hv_l0) (Nat.le_trans (by decide) hd) c ?_
  clear c wh
  intro h wh
  obtain ⟨rfl, rfl⟩ := some_of hF
  exact hq _ wh
theorem c_X4_copy {X : SCR} {fu : Nat} {o : Unit} {w1 : MEM} {a0 : Nat} {a1 : Nat} {w : MEM} {h : PH} (wh : WH X h w) (h0 : vo 4 a0 = true) (h1 : vo 4 a1 = true) (hF : f_X4_copy fu a0 a1 w = some (o, w1)) : CT 3 M_X4_copy [vR (400, a0), vR (400, a1)] h 0 0 (QP X (.inl none) w1) :=
  CT_of mk_X4_copy (Nat.le_of_ble_eq_true rfl) rfl (w_X4_copy (fu := fu) (rc := 0) (rs := 0) (hd := Nat.le_refl 3) (hq := fun h1 g => ⟨rfl, g⟩) wh h0 h1 hF)
-- X2_copy
def f_X2_copy_21 (fu : Nat) : Nat → Nat → Nat → Int32 → MEM → Option (Unit × MEM)
  | 0, _, _, _, _ => none
  | n + 1, l0, l1, l2, w => if l2 < (rS w (10202, l0)) then (if l2 < (16 : Int32) then (ck (bI l2 16) (ck (bI l2 16) (bnd (f_X4_copy fu (l0 + 12 + 10 * l2.toNatClampNeg) (l1 + 12 + 10 * l2.toNatClampNeg) w) fun (u4 : Unit) (w3 : MEM) => f_X2_copy_21 fu n l0 l1 (l2 + (1 : Int32)) w3))) else (some ((), w))) else (some ((), w))
theorem E_X2_copy_21 (fu : Nat) (n : Nat) (l0 : Nat) (l1 : Nat) (l2 : Int32) (w : MEM) : f_X2_copy_21 fu (n + 1) l0 l1 l2 w = if l2 < (rS w (10202, l0)) then (if l2 < (16 : Int32) then (ck (bI l2 16) (ck (bI l2 16) (bnd (f_X4_copy fu (l0 + 12 + 10 * l2.toNatClampNeg) (l1 + 12 + 10 * l2.toNatClampNeg) w) fun (u4 : Unit) (w3 : MEM) => f_X2_copy_21 fu n l0 l1 (l2 + (1 : Int32)) w3))) else (some ((), w))) else (some ((), w)) := rfl
theorem w_X2_copy_21 {X : SCR} {d rc rs : Nat} {Q : PO → PH → Prop} {o : Unit} {w1 : MEM} {fu : Nat} (hd : 4 ≤ d) (hq : ∀ h1, WH X h1 w1 → Q (.inl none) h1) : ∀ (n : Nat) (l0 : Nat) (l1 : Nat) (l2 : Int32) (w : MEM) (h : PH), WH X h w → vo 2 l0 = true → vo 2 l1 = true → f_X2_copy_21 fu n l0 l1 l2 w = some (o, w1) → PW d M_X2_copy Q rc rs 21 [vR (200, l0), vR (200, l1), vI l2] [] h := by
  intro n
  induction n with
  | zero => intro l0 l1 l2 w h wh hv_l0 hv_l1 hF; cases hF
  | succ n ih =>
    intro l0 l1 l2 w h wh hv_l0 hv_l1 hF
    replace hF := (E_X2_copy_21 fu n l0 l1 l2 w).symm.trans hF
    refine r_X2_copy_21 ?_
    refine gI_of (wh.1 10202 _ rfl hv_l0) ?_
    refine ⟨fun c => ?_, fun c => ?_⟩
    · replace hF := if_ofT c hF
      refine ⟨fun c => ?_, fun c => ?_⟩
      · replace hF := if_ofT c hF
        refine gA_of (b := (201, l0 + 10)) (wh.2.1 10201 _ rfl hv_l0) ?_
        obtain ⟨c, hF⟩ := ck_of hF
        have hM1 := vHB hv_l0 c
        refine xO_B wh hv_l0 c ?_
        clear c
        refine gA_of (b := (201, l1 + 10)) (wh.2.1 10201 _ rfl hv_l1) ?_
        obtain ⟨c, hF⟩ := ck_of hF
        have hM2 := vHB hv_l1 c
        refine xO_B wh hv_l1 c ?_
        clear c
        refine ⟨⟨_, wh.2.1 10400 _ rfl hM1⟩, ?_⟩
        obtain ⟨u4, w3, hG, hF⟩ := bnd_of hF
        refine cl_V (D := 3) (Nat.le_trans (by decide) hd) (c_X4_copy wh hM1 hM2 hG) ?_
        clear hG
        clear wh
        intro h wh
        exact ih _ _ _ _ _ wh hv_l0 hv_l1 hF
      · replace hF := if_ofF c hF
        obtain ⟨rfl, rfl⟩ := some_of hF
        exact hq _ wh
    · replace hF := if_ofF c hF
      obtain ⟨rfl, rfl⟩ := some_of hF
      exact hq _ wh
def f_X2_copy (fu : Nat) (l0 : Nat) (l1 : Nat) (w : MEM) : Option (Unit × MEM) := bnd (f_X4_copy fu (l0 + 1) (l1 + 1) w) fun (u2 : Unit) (w1 : MEM) => lt (sS w1 (10202, l0) (rS w1 (10202, l1))) fun (w3 : MEM) => f_X2_copy_21 fu fu l0 l1 (0 : Int32) w3
theorem E_X2_copy (fu : Nat) (l0 : Nat) (l1 : Nat) (w : MEM) : f_X2_copy fu l0 l1 w = bnd (f_X4_copy fu (l0 + 1) (l1 + 1) w) fun (u2 : Unit) (w1 : MEM) => lt (sS w1 (10202, l0) (rS w1 (10202, l1))) fun (w3 : MEM) => f_X2_copy_21 fu fu l0 l1 (0 : Int32) w3 := rfl
theorem w_X2_copy {X : SCR} {d rc rs : Nat} {Q : PO → PH → Prop} {o : Unit} {w1 : MEM} {fu : Nat} (hd : 4 ≤ d) (hq : ∀ h1, WH X h1 w1 → Q (.inl none) h1) {l0 : Nat} {l1 : Nat} {w : MEM} {h : PH} (wh : WH X h w) (hv_l0 : vo 2 l0 = true) (hv_l1 : vo 2 l1 = true) (hF : f_X2_copy fu l0 l1 w = some (o, w1)) : PW d M_X2_copy Q rc rs 0 [vR (200, l0), vR (200, l1), vU] [] h := by
  replace hF := (E_X2_copy fu l0 l1 w).symm.trans hF
  refine r_X2_copy_0 ?_
  refine gO_of (i := (l0 + 1)) (wh.2.1 10200 _ rfl hv_l0) ?_
  refine gO_of (i := (l1 + 1)) (wh.2.1 10200 _ rfl hv_l1) ?_
  refine ⟨⟨_, wh.2.1 10400 _ rfl (vH1 hv_l0)⟩, ?_⟩
  obtain ⟨u2, w1, hG, hF⟩ := bnd_of hF
  refine cl_V (D := 3) (Nat.le_trans (by decide) hd) (c_X4_copy wh (vH1 hv_l0) (vH1 hv_l1) hG) ?_
  clear hG
  clear wh
  intro h wh
  refine gI_of (wh.1 10202 _ rfl hv_l1) ?_
  replace hF := lt_of hF
  refine sF_S wh rfl hv_l0 ?_
  clear wh
  intro h wh
  exact w_X2_copy_21 hd hq  fu _ _ _ _ _ wh hv_l0 hv_l1 hF
theorem c_X2_copy {X : SCR} {fu : Nat} {o : Unit} {w1 : MEM} {a0 : Nat} {a1 : Nat} {w : MEM} {h : PH} (wh : WH X h w) (h0 : vo 2 a0 = true) (h1 : vo 2 a1 = true) (hF : f_X2_copy fu a0 a1 w = some (o, w1)) : CT 4 M_X2_copy [vR (200, a0), vR (200, a1)] h 0 0 (QP X (.inl none) w1) :=
  CT_of mk_X2_copy (Nat.le_of_ble_eq_true rfl) rfl (w_X2_copy (fu := fu) (rc := 0) (rs := 0) (hd := Nat.le_refl 4) (hq := fun h1 g => ⟨rfl, g⟩) wh h0 h1 hF)
-- X2_keep
def f_X2_keep (fu : Nat) (l0 : Nat) (w : MEM) : Option (Unit × MEM) := if (rS w (10202, l0)) < (16 : Int32) then (ck (bI (rS w (10202, l0)) 16) (bnd (f_X4_copy fu (l0 + 12 + 10 * (rS w (10202, l0)).toNatClampNeg) (l0 + 1) w) fun (u3 : Unit) (w2 : MEM) => lt (sS w2 (10202, l0) ((rS w2 (10202, l0)) + (1 : Int32))) fun (w4 : MEM) => some ((), w4))) else (some ((), w))
theorem E_X2_keep (fu : Nat) (l0 : Nat) (w : MEM) : f_X2_keep fu l0 w = if (rS w (10202, l0)) < (16 : Int32) then (ck (bI (rS w (10202, l0)) 16) (bnd (f_X4_copy fu (l0 + 12 + 10 * (rS w (10202, l0)).toNatClampNeg) (l0 + 1) w) fun (u3 : Unit) (w2 : MEM) => lt (sS w2 (10202, l0) ((rS w2 (10202, l0)) + (1 : Int32))) fun (w4 : MEM) => some ((), w4))) else (some ((), w)) := rfl
theorem w_X2_keep {X : SCR} {d rc rs : Nat} {Q : PO → PH → Prop} {o : Unit} {w1 : MEM} {fu : Nat} (hd : 4 ≤ d) (hq : ∀ h1, WH X h1 w1 → Q (.inl none) h1) {l0 : Nat} {w : MEM} {h : PH} (wh : WH X h w) (hv_l0 : vo 2 l0 = true) (hF : f_X2_keep fu l0 w = some (o, w1)) : PW d M_X2_keep Q rc rs 0 [vR (200, l0)] [] h := by
  replace hF := (E_X2_keep fu l0 w).symm.trans hF
  refine r_X2_keep_0 ?_
  refine gI_of (wh.1 10202 _ rfl hv_l0) ?_
  refine ⟨fun c => ?_, fun c => ?_⟩
  · replace hF := if_ofT c hF
    refine gA_of (b := (201, l0 + 10)) (wh.2.1 10201 _ rfl hv_l0) ?_
    refine gI_of (wh.1 10202 _ rfl hv_l0) ?_
    obtain ⟨c, hF⟩ := ck_of hF
    have hM1 := vHB hv_l0 c
    refine xO_B wh hv_l0 c ?_
    clear c
    refine gO_of (i := (l0 + 1)) (wh.2.1 10200 _ rfl hv_l0) ?_
    refine ⟨⟨_, wh.2.1 10400 _ rfl hM1⟩, ?_⟩
    obtain ⟨u3, w2, hG, hF⟩ := bnd_of hF
    refine cl_V (D := 3) (Nat.le_trans (by decide) hd) (c_X4_copy wh hM1 (vH1 hv_l0) hG) ?_
    clear hG
    clear wh
    intro h wh
    refine gI_of (wh.1 10202 _ rfl hv_l0) ?_
    replace hF := lt_of hF
    refine sF_S wh rfl hv_l0 ?_
    clear wh
    intro h wh
    obtain ⟨rfl, rfl⟩ := some_of hF
    exact hq _ wh
  · replace hF := if_ofF c hF
    obtain ⟨rfl, rfl⟩ := some_of hF
    exact hq _ wh
theorem c_X2_keep {X : SCR} {fu : Nat} {o : Unit} {w1 : MEM} {a0 : Nat} {w : MEM} {h : PH} (wh : WH X h w) (h0 : vo 2 a0 = true) (hF : f_X2_keep fu a0 w = some (o, w1)) : CT 4 M_X2_keep [vR (200, a0)] h 0 0 (QP X (.inl none) w1) :=
  CT_of mk_X2_keep (Nat.le_of_ble_eq_true rfl) rfl (w_X2_keep (fu := fu) (rc := 0) (rs := 0) (hd := Nat.le_refl 4) (hq := fun h1 g => ⟨rfl, g⟩) wh h0 hF)
-- X2_takeBack
def f_X2_takeBack (fu : Nat) (l0 : Nat) (w : MEM) : Option (Unit × MEM) := if 0 < (rS w (10202, l0)) then (lt (sS w (10202, l0) ((rS w (10202, l0)) - (1 : Int32))) fun (w1 : MEM) => ck (bI (rS w1 (10202, l0)) 16) (bnd (f_X4_copy fu (l0 + 1) (l0 + 12 + 10 * (rS w1 (10202, l0)).toNatClampNeg) w1) fun (u4 : Unit) (w3 : MEM) => some ((), w3))) else (some ((), w))
theorem E_X2_takeBack (fu : Nat) (l0 : Nat) (w : MEM) : f_X2_takeBack fu l0 w = if 0 < (rS w (10202, l0)) then (lt (sS w (10202, l0) ((rS w (10202, l0)) - (1 : Int32))) fun (w1 : MEM) => ck (bI (rS w1 (10202, l0)) 16) (bnd (f_X4_copy fu (l0 + 1) (l0 + 12 + 10 * (rS w1 (10202, l0)).toNatClampNeg) w1) fun (u4 : Unit) (w3 : MEM) => some ((), w3))) else (some ((), w)) := rfl
theorem w_X2_takeBack {X : SCR} {d rc rs : Nat} {Q : PO → PH → Prop} {o : Unit} {w1 : MEM} {fu : Nat} (hd : 4 ≤ d) (hq : ∀ h1, WH X h1 w1 → Q (.inl none) h1) {l0 : Nat} {w : MEM} {h : PH} (wh : WH X h w) (hv_l0 : vo 2 l0 = true) (hF : f_X2_takeBack fu l0 w = some (o, w1)) : PW d M_X2_takeBack Q rc rs 0 [vR (200, l0)] [] h := by
  replace hF := (E_X2_takeBack fu l0 w).symm.trans hF
  refine r_X2_takeBack_0 ?_
  refine gI_of (wh.1 10202 _ rfl hv_l0) ?_
  refine ⟨fun c => ?_, fun c => ?_⟩
  · replace hF := if_ofT c hF
    refine gI_of (wh.1 10202 _ rfl hv_l0) ?_
    replace hF := lt_of hF
    refine sF_S wh rfl hv_l0 ?_
    clear wh
    intro h wh
    refine gO_of (i := (l0 + 1)) (wh.2.1 10200 _ rfl hv_l0) ?_
    refine gA_of (b := (201, l0 + 10)) (wh.2.1 10201 _ rfl hv_l0) ?_
    refine gI_of (wh.1 10202 _ rfl hv_l0) ?_
    obtain ⟨c, hF⟩ := ck_of hF
    have hM2 := vHB hv_l0 c
    refine xO_B wh hv_l0 c ?_
    clear c
    refine ⟨⟨_, wh.2.1 10400 _ rfl (vH1 hv_l0)⟩, ?_⟩
    obtain ⟨u4, w3, hG, hF⟩ := bnd_of hF
    refine cl_V (D := 3) (Nat.le_trans (by decide) hd) (c_X4_copy wh (vH1 hv_l0) hM2 hG) ?_
    clear hG
    clear wh
    intro h wh
    obtain ⟨rfl, rfl⟩ := some_of hF
    exact hq _ wh
  · replace hF := if_ofF c hF
    obtain ⟨rfl, rfl⟩ := some_of hF
    exact hq _ wh
theorem c_X2_takeBack {X : SCR} {fu : Nat} {o : Unit} {w1 : MEM} {a0 : Nat} {w : MEM} {h : PH} (wh : WH X h w) (h0 : vo 2 a0 = true) (hF : f_X2_takeBack fu a0 w = some (o, w1)) : CT 4 M_X2_takeBack [vR (200, a0)] h 0 0 (QP X (.inl none) w1) :=
  CT_of mk_X2_takeBack (Nat.le_of_ble_eq_true rfl) rfl (w_X2_takeBack (fu := fu) (rc := 0) (rs := 0) (hd := Nat.le_refl 4) (hq := fun h1 g => ⟨rfl, g⟩) wh h0 hF)
-- X3_add
def f_X3_add (fu : Nat) (l0 : Nat) (l1 : Int32) (l2 : Int32) (w : MEM) : Option (Unit × MEM) := if (rS w (10304, l0)) < (150 : Int32) then (ck (bI (rS w (10304, l0)) 150) (lt (sA w (301, l0) (rS w (10304, l0)) l1) fun (w1 : MEM) => ck (bI (rS w1 (10304, l0)) 150) (lt (sA w1 (302, l0) (rS w1 (10304, l0)) l2) fun (w2 : MEM) => lt (sS w2 (10304, l0) ((rS w2 (10304, l0)) + (1 : Int32))) fun (w3 : MEM) => some ((), w3)))) else (some ((), w))
theorem E_X3_add (fu : Nat) (l0 : Nat) (l1 : Int32) (l2 : Int32) (w : MEM) : f_X3_add fu l0 l1 l2 w = if (rS w (10304, l0)) < (150 : Int32) then (ck (bI (rS w (10304, l0)) 150) (lt (sA w (301, l0) (rS w (10304, l0)) l1) fun (w1 : MEM) => ck (bI (rS w1 (10304, l0)) 150) (lt (sA w1 (302, l0) (rS w1 (10304, l0)) l2) fun (w2 : MEM) => lt (sS w2 (10304, l0) ((rS w2 (10304, l0)) + (1 : Int32))) fun (w3 : MEM) => some ((), w3)))) else (some ((), w)) := rfl
theorem w_X3_add {X : SCR} {d rc rs : Nat} {Q : PO → PH → Prop} {o : Unit} {w1 : MEM} {fu : Nat} (hd : 0 ≤ d) (hq : ∀ h1, WH X h1 w1 → Q (.inl none) h1) {l0 : Nat} {l1 : Int32} {l2 : Int32} {w : MEM} {h : PH} (wh : WH X h w) (hv_l0 : vo 3 l0 = true) (hF : f_X3_add fu l0 l1 l2 w = some (o, w1)) : PW d M_X3_add Q rc rs 0 [vR (300, l0), vI l1, vI l2] [] h := by
  replace hF := (E_X3_add fu l0 l1 l2 w).symm.trans hF
  refine r_X3_add_0 ?_
  refine gI_of (wh.1 10304 _ rfl hv_l0) ?_
  refine ⟨fun c => ?_, fun c => ?_⟩
  · replace hF := if_ofT c hF
    refine gA_of (b := (301, l0)) (wh.2.1 10300 _ rfl hv_l0) ?_
    refine gI_of (wh.1 10304 _ rfl hv_l0) ?_
    obtain ⟨c, hF⟩ := ck_of hF
    replace hF := lt_of hF
    refine yI_of wh (oA_301 hv_l0) c ?_
    clear c wh
    intro h wh
    refine gA_of (b := (302, l0)) (wh.2.1 10301 _ rfl hv_l0) ?_
    refine gI_of (wh.1 10304 _ rfl hv_l0) ?_
    obtain ⟨c, hF⟩ := ck_of hF
    replace hF := lt_of hF
    refine yI_of wh (oA_302 hv_l0) c ?_
    clear c wh
    intro h wh
    refine gI_of (wh.1 10304 _ rfl hv_l0) ?_
    replace hF := lt_of hF
    refine sF_S wh rfl hv_l0 ?_
    clear wh
    intro h wh
    obtain ⟨rfl, rfl⟩ := some_of hF
    exact hq _ wh
  · replace hF := if_ofF c hF
    obtain ⟨rfl, rfl⟩ := some_of hF
    exact hq _ wh
theorem c_X3_add {X : SCR} {fu : Nat} {o : Unit} {w1 : MEM} {a0 : Nat} {a1 : Int32} {a2 : Int32} {w : MEM} {h : PH} (wh : WH X h w) (h0 : vo 3 a0 = true) (hF : f_X3_add fu a0 a1 a2 w = some (o, w1)) : CT 0 M_X3_add [vR (300, a0), vI a1, vI a2] h 0 0 (QP X (.inl none) w1) :=
  CT_of mk_X3_add (Nat.le_of_ble_eq_true rfl) rfl (w_X3_add (fu := fu) (rc := 0) (rs := 0) (hd := Nat.le_refl 0) (hq := fun h1 g => ⟨rfl, g⟩) wh h0 hF)
-- X3_beUsual
def f_X3_beUsual (fu : Nat) (l0 : Nat) (w : MEM) : Option (Unit × MEM) := lt (sS w (10304, l0) (0 : Int32)) fun (w1 : MEM) => bnd (f_X3_add fu l0 (1 : Int32) (0 : Int32) w1) fun (u3 : Unit) (w2 : MEM) => bnd (f_X3_add fu l0 (0 : Int32) (2 : Int32) w2) fun (u5 : Unit) (w4 : MEM) => bnd (f_X3_add fu l0 (42 : Int32) (0 : Int32) w4) fun (u7 : Unit) (w6 : MEM) => bnd (f_X3_add fu l0 (1 : Int32) (1 : Int32) w6) fun (u9 : Unit) (w8 : MEM) => bnd (f_X3_add fu l0 (43 : Int32) (0 : Int32) w8) fun (u11 : Unit) (w10 : MEM) => bnd (f_X3_add fu l0 (1 : Int32) (2 : Int32) w10) fun (u13 : Unit) (w12 : MEM) => bnd (f_X3_add fu l0 (45 : Int32) (0 : Int32) w12) fun (u15 : Unit) (w14 : MEM) => some ((), w14)
theorem E_X3_beUsual (fu : Nat) (l0 : Nat) (w : MEM) : f_X3_beUsual fu l0 w = lt (sS w (10304, l0) (0 : Int32)) fun (w1 : MEM) => bnd (f_X3_add fu l0 (1 : Int32) (0 : Int32) w1) fun (u3 : Unit) (w2 : MEM) => bnd (f_X3_add fu l0 (0 : Int32) (2 : Int32) w2) fun (u5 : Unit) (w4 : MEM) => bnd (f_X3_add fu l0 (42 : Int32) (0 : Int32) w4) fun (u7 : Unit) (w6 : MEM) => bnd (f_X3_add fu l0 (1 : Int32) (1 : Int32) w6) fun (u9 : Unit) (w8 : MEM) => bnd (f_X3_add fu l0 (43 : Int32) (0 : Int32) w8) fun (u11 : Unit) (w10 : MEM) => bnd (f_X3_add fu l0 (1 : Int32) (2 : Int32) w10) fun (u13 : Unit) (w12 : MEM) => bnd (f_X3_add fu l0 (45 : Int32) (0 : Int32) w12) fun (u15 : Unit) (w14 : MEM) => some ((), w14) := rfl
theorem w_X3_beUsual {X : SCR} {d rc rs : Nat} {Q : PO → PH → Prop} {o : Unit} {w1 : MEM} {fu : Nat} (hd : 1 ≤ d) (hq : ∀ h1, WH X h1 w1 → Q (.inl none) h1) {l0 : Nat} {w : MEM} {h : PH} (wh : WH X h w) (hv_l0 : vo 3 l0 = true) (hF : f_X3_beUsual fu l0 w = some (o, w1)) : PW d M_X3_beUsual Q rc rs 0 [vR (300, l0)] [] h := by
  replace hF := (E_X3_beUsual fu l0 w).symm.trans hF
  refine r_X3_beUsual_0 ?_
  replace hF := lt_of hF
  refine sF_S wh rfl hv_l0 ?_
  clear wh
  intro h wh
  refine ⟨⟨_, wh.2.1 10300 _ rfl hv_l0⟩, ?_⟩
  obtain ⟨u3, w2, hG, hF⟩ := bnd_of hF
  refine cl_V (D := 0) (Nat.le_trans (by decide) hd) (c_X3_add wh hv_l0 hG) ?_
  clear hG
  clear wh
  intro h wh
  refine ⟨⟨_, wh.2.1 10300 _ rfl hv_l0⟩, ?_⟩
  obtain ⟨u5, w4, hG, hF⟩ := bnd_of hF
  refine cl_V (D := 0) (Nat.le_trans (by decide) hd) (c_X3_add wh hv_l0 hG) ?_
  clear hG
  clear wh
  intro h wh
  refine ⟨⟨_, wh.2.1 10300 _ rfl hv_l0⟩, ?_⟩
  obtain ⟨u7, w6, hG, hF⟩ := bnd_of hF
  refine cl_V (D := 0) (Nat.le_trans (by decide) hd) (c_X3_add wh hv_l0 hG) ?_
  clear hG
  clear wh
  intro h wh
  refine ⟨⟨_, wh.2.1 10300 _ rfl hv_l0⟩, ?_⟩
  obtain ⟨u9, w8, hG, hF⟩ := bnd_of hF
  refine cl_V (D := 0) (Nat.le_trans (by decide) hd) (c_X3_add wh hv_l0 hG) ?_
  clear hG
  clear wh
  intro h wh
  refine ⟨⟨_, wh.2.1 10300 _ rfl hv_l0⟩, ?_⟩
  obtain ⟨u11, w10, hG, hF⟩ := bnd_of hF
  refine cl_V (D := 0) (Nat.le_trans (by decide) hd) (c_X3_add wh hv_l0 hG) ?_
  clear hG
  clear wh
  intro h wh
  refine ⟨⟨_, wh.2.1 10300 _ rfl hv_l0⟩, ?_⟩
  obtain ⟨u13, w12, hG, hF⟩ := bnd_of hF
  refine cl_V (D := 0) (Nat.le_trans (by decide) hd) (c_X3_add wh hv_l0 hG) ?_
  clear hG
  clear wh
  intro h wh
  refine ⟨⟨_, wh.2.1 10300 _ rfl hv_l0⟩, ?_⟩
  obtain ⟨u15, w14, hG, hF⟩ := bnd_of hF
  refine cl_V (D := 0) (Nat.le_trans (by decide) hd) (c_X3_add wh hv_l0 hG) ?_
  clear hG
  clear wh
  intro h wh
  obtain ⟨rfl, rfl⟩ := some_of hF
  exact hq _ wh
theorem c_X3_beUsual {X : SCR} {fu : Nat} {o : Unit} {w1 : MEM} {a0 : Nat} {w : MEM} {h : PH} (wh : WH X h w) (h0 : vo 3 a0 = true) (hF : f_X3_beUsual fu a0 w = some (o, w1)) : CT 1 M_X3_beUsual [vR (300, a0)] h 0 0 (QP X (.inl none) w1) :=
  CT_of mk_X3_beUsual (Nat.le_of_ble_eq_true rfl) rfl (w_X3_beUsual (fu := fu) (rc := 0) (rs := 0) (hd := Nat.le_refl 1) (hq := fun h1 g => ⟨rfl, g⟩) wh h0 hF)
-- X8_takeSign
def f_X8_takeSign (fu : Nat) (l0 : Nat) (l1 : Int32) (w : MEM) : Option (Int32 × MEM) := bnd (f_X8_peek fu l0 w) fun (x2 : Int32) (w1 : MEM) => if x2 = l1 then (lt (sS w1 (10803, l0) ((rS w1 (10803, l0)) + (1 : Int32))) fun (w3 : MEM) => some ((1 : Int32), w3)) else (some ((0 : Int32), w1))
theorem E_X8_takeSign (fu : Nat) (l0 : Nat) (l1 : Int32) (w : MEM) : f_X8_takeSign fu l0 l1 w = bnd (f_X8_peek fu l0 w) fun (x2 : Int32) (w1 : MEM) => if x2 = l1 then (lt (sS w1 (10803, l0) ((rS w1 (10803, l0)) + (1 : Int32))) fun (w3 : MEM) => some ((1 : Int32), w3)) else (some ((0 : Int32), w1)) := rfl
theorem w_X8_takeSign {X : SCR} {d rc rs : Nat} {Q : PO → PH → Prop} {o : Int32} {w1 : MEM} {fu : Nat} (hd : 1 ≤ d) (hq : ∀ h1, WH X h1 w1 → Q (.inl (some (vI o))) h1) {l0 : Nat} {l1 : Int32} {w : MEM} {h : PH} (wh : WH X h w) (hv_l0 : vo 8 l0 = true) (hF : f_X8_takeSign fu l0 l1 w = some (o, w1)) : PW d M_X8_takeSign Q rc rs 0 [vR (800, l0), vI l1] [] h := by
  replace hF := (E_X8_takeSign fu l0 l1 w).symm.trans hF
  refine r_X8_takeSign_0 ?_
  refine ⟨⟨_, wh.2.1 10800 _ rfl hv_l0⟩, ?_⟩
  obtain ⟨x2, w1, hG, hF⟩ := bnd_of hF
  refine cl_I (D := 0) (Nat.le_trans (by decide) hd) (c_X8_peek wh hv_l0 hG) ?_
  clear hG
  clear wh
  intro h wh
  refine ⟨fun c => ?_, fun c => ?_⟩
  · replace hF := if_ofT c hF
    refine gI_of (wh.1 10803 _ rfl hv_l0) ?_
    replace hF := lt_of hF
    refine sF_S wh rfl hv_l0 ?_
    clear wh
    intro h wh
    obtain ⟨rfl, rfl⟩ := some_of hF
    exact hq _ wh
  · replace hF := if_ofF c hF
    obtain ⟨rfl, rfl⟩ := some_of hF
    exact hq _ wh
theorem c_X8_takeSign {X : SCR} {fu : Nat} {o : Int32} {w1 : MEM} {a0 : Nat} {a1 : Int32} {w : MEM} {h : PH} (wh : WH X h w) (h0 : vo 8 a0 = true) (hF : f_X8_takeSign fu a0 a1 w = some (o, w1)) : CT 1 M_X8_takeSign [vR (800, a0), vI a1] h 0 0 (QP X (.inl (some (vI o))) w1) :=
  CT_of mk_X8_takeSign (Nat.le_of_ble_eq_true rfl) rfl (w_X8_takeSign (fu := fu) (rc := 0) (rs := 0) (hd := Nat.le_refl 1) (hq := fun h1 g => ⟨rfl, g⟩) wh h0 hF)
-- X3_valueAhead
def f_X3_valueAhead (fu : Nat) (l0 : Nat) (w : MEM) : Option (Int32 × MEM) := bnd (f_X8_takeWord fu l0 6 w) fun (x2 : Int32) (w1 : MEM) => if x2 = 0 then (bnd (f_X8_takeWord fu l0 7 w1) fun (x4 : Int32) (w3 : MEM) => if x4 = 0 then (bnd (f_X8_takeWord fu l0 8 w3) fun (x6 : Int32) (w5 : MEM) => if x6 = 0 then (bnd (f_X8_takeWord fu l0 9 w5) fun (x8 : Int32) (w7 : MEM) => if x8 = 0 then (bnd (f_X8_takeWord fu l0 10 w7) fun (x10 : Int32) (w9 : MEM) => if x10 = 0 then (bnd (f_X8_takeWord fu l0 11 w9) fun (x12 : Int32) (w11 : MEM) => if x12 = 0 then (bnd (f_X8_takeWord fu l0 12 w11) fun (x14 : Int32) (w13 : MEM) => if x14 = 0 then (bnd (f_X8_takeWord fu l0 3 w13) fun (x16 : Int32) (w15 : MEM) => if x16 = 0 then (bnd (f_X8_takeWord fu l0 0 w15) fun (x18 : Int32) (w17 : MEM) => if x18 = 0 then (some ((-1 : Int32), w17)) else (some ((8 : Int32), w17))) else (some ((7 : Int32), w15))) else (some ((6 : Int32), w13))) else (some ((5 : Int32), w11))) else (some ((4 : Int32), w9))) else (some ((3 : Int32), w7))) else (some ((2 : Int32), w5))) else (some ((1 : Int32), w3))) else (some ((0 : Int32), w1))
theorem E_X3_valueAhead (fu : Nat) (l0 : Nat) (w : MEM) : f_X3_valueAhead fu l0 w = bnd (f_X8_takeWord fu l0 6 w) fun (x2 : Int32) (w1 : MEM) => if x2 = 0 then (bnd (f_X8_takeWord fu l0 7 w1) fun (x4 : Int32) (w3 : MEM) => if x4 = 0 then (bnd (f_X8_takeWord fu l0 8 w3) fun (x6 : Int32) (w5 : MEM) => if x6 = 0 then (bnd (f_X8_takeWord fu l0 9 w5) fun (x8 : Int32) (w7 : MEM) => if x8 = 0 then (bnd (f_X8_takeWord fu l0 10 w7) fun (x10 : Int32) (w9 : MEM) => if x10 = 0 then (bnd (f_X8_takeWord fu l0 11 w9) fun (x12 : Int32) (w11 : MEM) => if x12 = 0 then (bnd (f_X8_takeWord fu l0 12 w11) fun (x14 : Int32) (w13 : MEM) => if x14 = 0 then (bnd (f_X8_takeWord fu l0 3 w13) fun (x16 : Int32) (w15 : MEM) => if x16 = 0 then (bnd (f_X8_takeWord fu l0 0 w15) fun (x18 : Int32) (w17 : MEM) => if x18 = 0 then (some ((-1 : Int32), w17)) else (some ((8 : Int32), w17))) else (some ((7 : Int32), w15))) else (some ((6 : Int32), w13))) else (some ((5 : Int32), w11))) else (some ((4 : Int32), w9))) else (some ((3 : Int32), w7))) else (some ((2 : Int32), w5))) else (some ((1 : Int32), w3))) else (some ((0 : Int32), w1)) := rfl
theorem w_X3_valueAhead {X : SCR} {d rc rs : Nat} {Q : PO → PH → Prop} {o : Int32} {w1 : MEM} {fu : Nat} (hd : 7 ≤ d) (hq : ∀ h1, WH X h1 w1 → Q (.inl (some (vI o))) h1) {l0 : Nat} {w : MEM} {h : PH} (wh : WH X h w) (hv_l0 : vo 8 l0 = true) (hF : f_X3_valueAhead fu l0 w = some (o, w1)) : PW d M_X3_valueAhead Q rc rs 0 [vR (800, l0)] [] h := by
  replace hF := (E_X3_valueAhead fu l0 w).symm.trans hF
  refine r_X3_valueAhead_0 ?_
  refine ⟨⟨_, wh.2.1 10800 _ rfl hv_l0⟩, ?_⟩
  obtain ⟨x2, w1, hG, hF⟩ := bnd_of hF
  refine cl_I (D := 6) (Nat.le_trans (by decide) hd) (c_X8_takeWord wh hv_l0 (by decide) hG) ?_
  clear hG
  clear wh
  intro h wh
  refine ⟨fun c => ?_, fun c => ?_⟩
  · replace hF := if_ofT c hF
    refine ⟨⟨_, wh.2.1 10800 _ rfl hv_l0⟩, ?_⟩
    obtain ⟨x4, w3, hG, hF⟩ := bnd_of hF
    refine cl_I (D := 6) (Nat.le_trans (by decide) hd) (c_X8_takeWord wh hv_l0 (by decide) hG) ?_
    clear hG
    clear wh
    intro h wh
    refine ⟨fun c => ?_, fun c => ?_⟩
    · replace hF := if_ofT c hF
      refine ⟨⟨_, wh.2.1 10800 _ rfl hv_l0⟩, ?_⟩
      obtain ⟨x6, w5, hG, hF⟩ := bnd_of hF
      refine cl_I (D := 6) (Nat.le_trans (by decide) hd) (c_X8_takeWord wh hv_l0 (by decide) hG) ?_
      clear hG
      clear wh
      intro h wh
      refine ⟨fun c => ?_, fun c => ?_⟩
      · replace hF := if_ofT c hF
        refine ⟨⟨_, wh.2.1 10800 _ rfl hv_l0⟩, ?_⟩
        obtain ⟨x8, w7, hG, hF⟩ := bnd_of hF
        refine cl_I (D := 6) (Nat.le_trans (by decide) hd) (c_X8_takeWord wh hv_l0 (by decide) hG) ?_
        clear hG
        clear wh
        intro h wh
        refine ⟨fun c => ?_, fun c => ?_⟩
        · replace hF := if_ofT c hF
          refine ⟨⟨_, wh.2.1 10800 _ rfl hv_l0⟩, ?_⟩
          obtain ⟨x10, w9, hG, hF⟩ := bnd_of hF
          refine cl_I (D := 6) (Nat.le_trans (by decide) hd) (c_X8_takeWord wh hv_l0 (by decide) hG) ?_
          clear hG
          clear wh
          intro h wh
          refine ⟨fun c => ?_, fun c => ?_⟩
          · replace hF := if_ofT c hF
            refine ⟨⟨_, wh.2.1 10800 _ rfl hv_l0⟩, ?_⟩
            obtain ⟨x12, w11, hG, hF⟩ := bnd_of hF
            refine cl_I (D := 6) (Nat.le_trans (by decide) hd) (c_X8_takeWord wh hv_l0 (by decide) hG) ?_
            clear hG
            clear wh
            intro h wh
            refine ⟨fun c => ?_, fun c => ?_⟩
            · replace hF := if_ofT c hF
              refine ⟨⟨_, wh.2.1 10800 _ rfl hv_l0⟩, ?_⟩
              obtain ⟨x14, w13, hG, hF⟩ := bnd_of hF
              refine cl_I (D := 6) (Nat.le_trans (by decide) hd) (c_X8_takeWord wh hv_l0 (by decide) hG) ?_
              clear hG
              clear wh
              intro h wh
              refine ⟨fun c => ?_, fun c => ?_⟩
              · replace hF := if_ofT c hF
                refine ⟨⟨_, wh.2.1 10800 _ rfl hv_l0⟩, ?_⟩
                obtain ⟨x16, w15, hG, hF⟩ := bnd_of hF
                refine cl_I (D := 6) (Nat.le_trans (by decide) hd) (c_X8_takeWord wh hv_l0 (by decide) hG) ?_
                clear hG
                clear wh
                intro h wh
                refine ⟨fun c => ?_, fun c => ?_⟩
                · replace hF := if_ofT c hF
                  refine ⟨⟨_, wh.2.1 10800 _ rfl hv_l0⟩, ?_⟩
                  obtain ⟨x18, w17, hG, hF⟩ := bnd_of hF
                  refine cl_I (D := 6) (Nat.le_trans (by decide) hd) (c_X8_takeWord wh hv_l0 (by decide) hG) ?_
                  clear hG
                  clear wh
                  intro h wh
                  refine ⟨fun c => ?_, fun c => ?_⟩
                  · replace hF := if_ofT c hF
                    obtain ⟨rfl, rfl⟩ := some_of hF
                    exact hq _ wh
                  · replace hF := if_ofF c hF
                    obtain ⟨rfl, rfl⟩ := some_of hF
                    exact hq _ wh
                · replace hF := if_ofF c hF
                  obtain ⟨rfl, rfl⟩ := some_of hF
                  exact hq _ wh
              · replace hF := if_ofF c hF
                obtain ⟨rfl, rfl⟩ := some_of hF
                exact hq _ wh
            · replace hF := if_ofF c hF
              obtain ⟨rfl, rfl⟩ := some_of hF
              exact hq _ wh
          · replace hF := if_ofF c hF
            obtain ⟨rfl, rfl⟩ := some_of hF
            exact hq _ wh
        · replace hF := if_ofF c hF
          obtain ⟨rfl, rfl⟩ := some_of hF
          exact hq _ wh
      · replace hF := if_ofF c hF
        obtain ⟨rfl, rfl⟩ := some_of hF
        exact hq _ wh
    · replace hF := if_ofF c hF
      obtain ⟨rfl, rfl⟩ := some_of hF
      exact hq _ wh
  · replace hF := if_ofF c hF
    obtain ⟨rfl, rfl⟩ := some_of hF
    exact hq _ wh
theorem c_X3_valueAhead {X : SCR} {fu : Nat} {o : Int32} {w1 : MEM} {a0 : Nat} {w : MEM} {h : PH} (wh : WH X h w) (h0 : vo 8 a0 = true) (hF : f_X3_valueAhead fu a0 w = some (o, w1)) : CT 7 M_X3_valueAhead [vR (800, a0)] h 0 0 (QP X (.inl (some (vI o))) w1) :=
  CT_of mk_X3_valueAhead (Nat.le_of_ble_eq_true rfl) rfl (w_X3_valueAhead (fu := fu) (rc := 0) (rs := 0) (hd := Nat.le_refl 7) (hq := fun h1 g => ⟨rfl, g⟩) wh h0 hF)
-- X3_readSum
def f_X3_readSum_44 (fu : Nat) (c_readSum : Nat → Nat → Int32 → MEM → Option (Int32 × MEM)) (c_readProduct : Nat → Nat → Int32 → MEM → Option (Int32 × MEM)) (c_readUnit : Nat → Nat → Int32 → MEM → Option (Int32 × MEM)) (c_readEither : Nat → Nat → Int32 → Int32 → MEM → Option (Int32 × MEM)) (k10 : Nat → Nat → Int32 → Int32 → Int32 → MEM → Option (Int32 × MEM)) (l0 : Nat) (l1 : Nat) (l2 : Int32) (l4 : Int32) (l5 : Int32) (w : MEM) : Option (Int32 × MEM) := bnd (f_X8_needSign fu l1 ((l5.toUInt32 % 65536).toInt32) w) fun (x2 : Int32) (w1 : MEM) => if x2 = 0 then (bnd (f_X3_add fu l0 l5 (0 : Int32) w1) fun (u4 : Unit) (w3 : MEM) => k10 l0 l1 l2 (0 : Int32) (l4 + (1 : Int32)) w3) else (bnd (c_readProduct l0 l1 l2 w1) fun (x6 : Int32) (w5 : MEM) => if x6 = 0 then (bnd (f_X3_add fu l0 l5 (0 : Int32) w5) fun (u8 : Unit) (w7 : MEM) => k10 l0 l1 l2 (0 : Int32) (l4 + (1 : Int32)) w7) else (bnd (f_X3_add fu l0 l5 (0 : Int32) w5) fun (u10 : Unit) (w9 : MEM) => k10 l0 l1 l2 (1 : Int32) (l4 + (1 : Int32)) w9))
theorem E_X3_readSum_44 (fu : Nat) (c_readSum : Nat → Nat → Int32 → MEM → Option (Int32 × MEM)) (c_readProduct : Nat → Nat → Int32 → MEM → Option (Int32 × MEM)) (c_readUnit : Nat → Nat → Int32 → MEM → Option (Int32 × MEM)) (c_readEither : Nat → Nat → Int32 → Int32 → MEM → Option (Int32 × MEM)) (k10 : Nat → Nat → Int32 → Int32 → Int32 → MEM → Option (Int32 × MEM)) (l0 : Nat) (l1 : Nat) (l2 : Int32) (l4 : Int32) (l5 : Int32) (w : MEM) : f_X3_readSum_44 fu c_readSum c_readProduct c_readUnit c_readEither k10 l0 l1 l2 l4 l5 w = bnd (f_X8_needSign fu l1 ((l5.toUInt32 % 65536).toInt32) w) fun (x2 : Int32) (w1 : MEM) => if x2 = 0 then (bnd (f_X3_add fu l0 l5 (0 : Int32) w1) fun (u4 : Unit) (w3 : MEM) => k10 l0 l1 l2 (0 : Int32) (l4 + (1 : Int32)) w3) else (bnd (c_readProduct l0 l1 l2 w1) fun (x6 : Int32) (w5 : MEM) => if x6 = 0 then (bnd (f_X3_add fu l0 l5 (0 : Int32) w5) fun (u8 : Unit) (w7 : MEM) => k10 l0 l1 l2 (0 : Int32) (l4 + (1 : Int32)) w7) else (bnd (f_X3_add fu l0 l5 (0 : Int32) w5) fun (u10 : Unit) (w9 : MEM) => k10 l0 l1 l2 (1 : Int32) (l4 + (1 : Int32)) w9)) := rfl
theorem w_X3_readSum_44 {X : SCR} {d rc rs DR : Nat} {Q : PO → PH → Prop} {o : Int32} {w1 : MEM} {fu : Nat} {c_readSum : Nat → Nat → Int32 → MEM → Option (Int32 × MEM)} {c_readProduct : Nat → Nat → Int32 → MEM → Option (Int32 × MEM)} {c_readUnit : Nat → Nat → Int32 → MEM → Option (Int32 × MEM)} {c_readEither : Nat → Nat → Int32 → Int32 → MEM → Option (Int32 × MEM)} {k10 : Nat → Nat → Int32 → Int32 → Int32 → MEM → Option (Int32 × MEM)} (hd : 8 ≤ d) (hr : DR + 1 ≤ d) (hc_readSum : ∀ (a0 : Nat) (a1 : Nat) (a2 : Int32) (w : MEM) (h : PH) (o : Int32) (w1 : MEM), WH X h w → vo 3 a0 = true → vo 8 a1 = true → c_readSum a0 a1 a2 w = some (o, w1) → CT DR M_X3_readSum [vR (300, a0), vR (800, a1), vI a2] h 0 0 (QP X (.inl (some (vI o))) w1)) (hc_readProduct : ∀ (a0 : Nat) (a1 : Nat) (a2 : Int32) (w : MEM) (h : PH) (o : Int32) (w1 : MEM), WH X h w → vo 3 a0 = true → vo 8 a1 = true → c_readProduct a0 a1 a2 w = some (o, w1) → CT DR M_X3_readProduct [vR (300, a0), vR (800, a1), vI a2] h 0 0 (QP X (.inl (some (vI o))) w1)) (hc_readUnit : ∀ (a0 : Nat) (a1 : Nat) (a2 : Int32) (w : MEM) (h : PH) (o : Int32) (w1 : MEM), WH X h w → vo 3 a0 = true → vo 8 a1 = true → c_readUnit a0 a1 a2 w = some (o, w1) → CT DR M_X3_readUnit [vR (300, a0), vR (800, a1), vI a2] h 0 0 (QP X (.inl (some (vI o))) w1)) (hc_readEither : ∀ (a0 : Nat) (a1 : Nat) (a2 : Int32) (a3 : Int32) (w : MEM) (h : PH) (o : Int32) (w1 : MEM), WH X h w → vo 3 a0 = true → vo 8 a1 = true → c_readEither a0 a1 a2 a3 w = some (o, w1) → CT DR M_X3_readEither [vR (300, a0), vR (800, a1), vI a2, vI a3] h 0 0 (QP X (.inl (some (vI o))) w1)) (hq : ∀ h1, WH X h1 w1 → Q (.inl (some (vI o))) h1) (hk10 : ∀ (l0 : Nat) (l1 : Nat) (l2 : Int32) (l3 : Int32) (l4 : Int32) (w : MEM) (h : PH), WH X h w → vo 3 l0 = true → vo 8 l1 = true → k10 l0 l1 l2 l3 l4 w = some (o, w1) → PW d M_X3_readSum Q rc rs 10 [vR (300, l0), vR (800, l1), vI l2, vI l3, vI l4, vU] [] h) {l0 : Nat} {l1 : Nat} {l2 : Int32} {l4 : Int32} {l5 : Int32} {w : MEM} {h : PH} (wh : WH X h w) (hv_l0 : vo 3 l0 = true) (hv_l1 : vo 8 l1 = true) (hF : f_X3_readSum_44 fu c_readSum c_readProduct c_readUnit c_readEither k10 l0 l1 l2 l4 l5 w = some (o, w1)) : PW d M_X3_readSum Q rc rs 44 [vR (300, l0), vR (800, l1), vI l2, vU, vI l4, vI l5] [] h := by
  replace hF := (E_X3_readSum_44 fu c_readSum c_readProduct c_readUnit c_readEither k10 l0 l1 l2 l4 l5 w).symm.trans hF
  refine r_X3_readSum_44 ?_
  refine ⟨⟨_, wh.2.1 10800 _ rfl hv_l1⟩, ?_⟩
  obtain ⟨x2, w1, hG, hF⟩ := bnd_of hF
  refine cl_I (D := 1) (Nat.le_trans (by decide) hd) (c_X8_needSign wh hv_l1 hG) ?_
  clear hG
  clear wh
  intro h wh
  refine ⟨fun c => ?_, fun c => ?_⟩
  · replace hF := if_ofT c hF
    refine ⟨⟨_, wh.2.1 10300 _ rfl hv_l0⟩, ?_⟩
    obtain ⟨u4, w3, hG, hF⟩ := bnd_of hF
    refine cl_V (D := 0) (Nat.le_trans (by decide) hd) (c_X3_add wh hv_l0 hG) ?_
    clear hG
    clear wh
    intro h wh
    exact hk10 _ _ _ _ _ _ _ wh hv_l0 hv_l1 hF
  · replace hF := if_ofF c hF
    refine ⟨⟨_, wh.2.1 10300 _ rfl hv_l0⟩, ?_⟩
    obtain ⟨x6, w5, hG, hF⟩ := bnd_of hF
    refine cl_I hr (hc_readProduct _ _ _ _ _ _ _ wh hv_l0 hv_l1 hG) ?_
    clear hG
    clear wh
    intro h wh
    refine ⟨fun c => ?_, fun c => ?_⟩
    · replace hF := if_ofT c hF
      refine ⟨⟨_, wh.2.1 10300 _ rfl hv_l0⟩, ?_⟩
      obtain ⟨u8, w7, hG, hF⟩ := bnd_of hF
      refine cl_V (D := 0) (Nat.le_trans (by decide) hd) (c_X3_add wh hv_l0 hG) ?_
      clear hG
      clear wh
      intro h wh
      exact hk10 _ _ _ _ _ _ _ wh hv_l0 hv_l1 hF
    · replace hF := if_ofF c hF
      refine ⟨⟨_, wh.2.1 10300 _ rfl hv_l0⟩, ?_⟩
      obtain ⟨u10, w9, hG, hF⟩ := bnd_of hF
      refine cl_V (D := 0) (Nat.le_trans (by decide) hd) (c_X3_add wh hv_l0 hG) ?_
      clear hG
      clear wh
      intro h wh
      exact hk10 _ _ _ _ _ _ _ wh hv_l0 hv_l1 hF
def f_X3_readSum_10 (fu : Nat) (c_readSum : Nat → Nat → Int32 → MEM → Option (Int32 × MEM)) (c_readProduct : Nat → Nat → Int32 → MEM → Option (Int32 × MEM)) (c_readUnit : Nat → Nat → Int32 → MEM → Option (Int32 × MEM)) (c_readEither : Nat → Nat → Int32 → Int32 → MEM → Option (Int32 × MEM)) : Nat → Nat → Nat → Int32 → Int32 → Int32 → MEM → Option (Int32 × MEM)
  | 0, _, _, _, _, _, _ => none
  | n + 1, l0, l1, l2, l3, l4, w => if l3 = 0 then (ck (b01 l3) (some (l3, w))) else (if l4 < (150 : Int32) then (bnd (f_X8_peek fu l1 w) fun (x2 : Int32) (w1 : MEM) => if x2 = (43 : Int32) then (f_X3_readSum_44 fu c_readSum c_readProduct c_readUnit c_readEither (fun l0 l1 l2 l3 l4 w => f_X3_readSum_10 fu c_readSum c_readProduct c_readUnit c_readEither n l0 l1 l2 l3 l4 w) l0 l1 l2 l4 x2 w1) else (if x2 = (45 : Int32) then (f_X3_readSum_44 fu c_readSum c_readProduct c_readUnit c_readEither (fun l0 l1 l2 l3 l4 w => f_X3_readSum_10 fu c_readSum c_readProduct c_readUnit c_readEither n l0 l1 l2 l3 l4 w) l0 l1 l2 l4 x2 w1) else (some ((1 : Int32), w1)))) else (ck (b01 l3) (some (l3, w))))
theorem E_X3_readSum_10 (fu : Nat) (c_readSum : Nat → Nat → Int32 → MEM → Option (Int32 × MEM)) (c_readProduct : Nat → Nat → Int32 → MEM → Option (Int32 × MEM)) (c_readUnit : Nat → Nat → Int32 → MEM → Option (Int32 × MEM)) (c_readEither : Nat → Nat → Int32 → Int32 → MEM → Option (Int32 × MEM)) (n : Nat) (l0 : Nat) (l1 : Nat) (l2 : Int32) (l3 : Int32) (l4 : Int32) (w : MEM) : f_X3_readSum_10 fu c_readSum c_readProduct c_readUnit c_readEither (n + 1) l0 l1 l2 l3 l4 w = if l3 = 0 then (ck (b01 l3) (some (l3, w))) else (if l4 < (150 : Int32) then (bnd (f_X8_peek fu l1 w) fun (x2 : Int32) (w1 : MEM) => if x2 = (43 : Int32) then (f_X3_readSum_44 fu c_readSum c_readProduct c_readUnit c_readEither (fun l0 l1 l2 l3 l4 w => f_X3_readSum_10 fu c_readSum c_readProduct c_readUnit c_readEither n l0 l1 l2 l3 l4 w) l0 l1 l2 l4 x2 w1) else (if x2 = (45 : Int32) then (f_X3_readSum_44 fu c_readSum c_readProduct c_readUnit c_readEither (fun l0 l1 l2 l3 l4 w => f_X3_readSum_10 fu c_readSum c_readProduct c_readUnit c_readEither n l0 l1 l2 l3 l4 w) l0 l1 l2 l4 x2 w1) else (some ((1 : Int32), w1)))) else (ck (b01 l3) (some (l3, w)))) := rfl
theorem w_X3_readSum_10 {X : SCR} {d rc rs DR : Nat} {Q : PO → PH → Prop} {o : Int32} {w1 : MEM} {fu : Nat} {c_readSum : Nat → Nat → Int32 → MEM → Option (Int32 × MEM)} {c_readProduct : Nat → Nat → Int32 → MEM → Option (Int32 × MEM)} {c_readUnit : Nat → Nat → Int32 → MEM → Option (Int32 × MEM)} {c_readEither : Nat → Nat → Int32 → Int32 → MEM → Option (Int32 × MEM)} (hd : 8 ≤ d) (hr : DR + 1 ≤ d) (hc_readSum : ∀ (a0 : Nat) (a1 : Nat) (a2 : Int32) (w : MEM) (h : PH) (o : Int32) (w1 : MEM), WH X h w → vo 3 a0 = true → vo 8 a1 = true → c_readSum a0 a1 a2 w = some (o, w1) → CT DR M_X3_readSum [vR (300, a0), vR (800, a1), vI a2] h 0 0 (QP X (.inl (some (vI o))) w1)) (hc_readProduct : ∀ (a0 : Nat) (a1 : Nat) (a2 : Int32) (w : MEM) (h : PH) (o : Int32) (w1 : MEM), WH X h w → vo 3 a0 = true → vo 8 a1 = true → c_readProduct a0 a1 a2 w = some (o, w1) → CT DR M_X3_readProduct [vR (300, a0), vR (800, a1), vI a2] h 0 0 (QP X (.inl (some (vI o))) w1)) (hc_readUnit : ∀ (a0 : Nat) (a1 : Nat) (a2 : Int32) (w : MEM) (h : PH) (o : Int32) (w1 : MEM), WH X h w → vo 3 a0 = true → vo 8 a1 = true → c_readUnit a0 a1 a2 w = some (o, w1) → CT DR M_X3_readUnit [vR (300, a0), vR (800, a1), vI a2] h 0 0 (QP X (.inl (some (vI o))) w1)) (hc_readEither : ∀ (a0 : Nat) (a1 : Nat) (a2 : Int32) (a3 : Int32) (w : MEM) (h : PH) (o : Int32) (w1 : MEM), WH X h w → vo 3 a0 = true → vo 8 a1 = true → c_readEither a0 a1 a2 a3 w = some (o, w1) → CT DR M_X3_readEither [vR (300, a0), vR (800, a1), vI a2, vI a3] h 0 0 (QP X (.inl (some (vI o))) w1)) (hq : ∀ h1, WH X h1 w1 → Q (.inl (some (vI o))) h1) : ∀ (n : Nat) (l0 : Nat) (l1 : Nat) (l2 : Int32) (l3 : Int32) (l4 : Int32) (w : MEM) (h : PH), WH X h w → vo 3 l0 = true → vo 8 l1 = true → f_X3_readSum_10 fu c_readSum c_readProduct c_readUnit c_readEither n l0 l1 l2 l3 l4 w = some (o, w1) → PW d M_X3_readSum Q rc rs 10 [vR (300, l0), vR (800, l1), vI l2, vI l3, vI l4, vU] [] h := by
  intro n
  induction n with
  | zero => intro l0 l1 l2 l3 l4 w h wh hv_l0 hv_l1 hF; cases hF
  | succ n ih =>
    intro l0 l1 l2 l3 l4 w h wh hv_l0 hv_l1 hF
    replace hF := (E_X3_readSum_10 fu c_readSum c_readProduct c_readUnit c_readEither n l0 l1 l2 l3 l4 w).symm.trans hF
    refine r_X3_readSum_10 ?_
    refine ⟨fun c => ?_, fun c => ?_⟩
    · replace hF := if_ofT c hF
      obtain ⟨c, hF⟩ := ck_of hF
      obtain ⟨rfl, rfl⟩ := some_of hF
      exact ⟨b01_nrw c, hq _ wh⟩
    · replace hF := if_ofF c hF
      refine ⟨fun c => ?_, fun c => ?_⟩
      · replace hF := if_ofT c hF
        refine ⟨⟨_, wh.2.1 10800 _ rfl hv_l1⟩, ?_⟩
        obtain ⟨x2, w1, hG, hF⟩ := bnd_of hF
        refine cl_I (D := 0) (Nat.le_trans (by decide) hd) (c_X8_peek wh hv_l1 hG) ?_
        clear hG
        clear wh
        intro h wh
        refine ⟨fun c => ?_, fun c => ?_⟩
        · replace hF := if_ofT c hF
          exact w_X3_readSum_44 hd hr hc_readSum hc_readProduct hc_readUnit hc_readEither hq (fun l0 l1 l2 l3 l4 w h wh g0 g1 hF => ih l0 l1 l2 l3 l4 w h wh g0 g1 hF) wh hv_l0 hv_l1 hF
        · replace hF := if_ofF c hF
          refine ⟨fun c => ?_, fun c => ?_⟩
          · replace hF := if_ofT c hF
            exact w_X3_readSum_44 hd hr hc_readSum hc_readProduct hc_readUnit hc_readEither hq (fun l0 l1 l2 l3 l4 w h wh g0 g1 hF => ih l0 l1 l2 l3 l4 w h wh g0 g1 hF) wh hv_l0 hv_l1 hF
          · replace hF := if_ofF c hF
            obtain ⟨rfl, rfl⟩ := some_of hF
            exact hq _ wh
      · replace hF := if_ofF c hF
        obtain ⟨c, hF⟩ := ck_of hF
        obtain ⟨rfl, rfl⟩ := some_of hF
        exact ⟨b01_nrw c, hq _ wh⟩
def b_X3_readSum (fu : Nat) (c_readSum : Nat → Nat → Int32 → MEM → Option (Int32 × MEM)) (c_readProduct : Nat → Nat → Int32 → MEM → Option (Int32 × MEM)) (c_readUnit : Nat → Nat → Int32 → MEM → Option (Int32 × MEM)) (c_readEither : Nat → Nat → Int32 → Int32 → MEM → Option (Int32 × MEM)) (l0 : Nat) (l1 : Nat) (l2 : Int32) (w : MEM) : Option (Int32 × MEM) := bnd (c_readProduct l0 l1 l2 w) fun (x2 : Int32) (w1 : MEM) => f_X3_readSum_10 fu c_readSum c_readProduct c_readUnit c_readEither fu l0 l1 l2 x2 (0 : Int32) w1
theorem E_X3_readSum (fu : Nat) (c_readSum : Nat → Nat → Int32 → MEM → Option (Int32 × MEM)) (c_readProduct : Nat → Nat → Int32 → MEM → Option (Int32 × MEM)) (c_readUnit : Nat → Nat → Int32 → MEM → Option (Int32 × MEM)) (c_readEither : Nat → Nat → Int32 → Int32 → MEM → Option (Int32 × MEM)) (l0 : Nat) (l1 : Nat) (l2 : Int32) (w : MEM) : b_X3_readSum fu c_readSum c_readProduct c_readUnit c_readEither l0 l1 l2 w = bnd (c_readProduct l0 l1 l2 w) fun (x2 : Int32) (w1 : MEM) => f_X3_readSum_10 fu c_readSum c_readProduct c_readUnit c_readEither fu l0 l1 l2 x2 (0 : Int32) w1 := rfl
theorem w_X3_readSum {X : SCR} {d rc rs DR : Nat} {Q : PO → PH → Prop} {o : Int32} {w1 : MEM} {fu : Nat} {c_readSum : Nat → Nat → Int32 → MEM → Option (Int32 × MEM)} {c_readProduct : Nat → Nat → Int32 → MEM → Option (Int32 × MEM)} {c_readUnit : Nat → Nat → Int32 → MEM → Option (Int32 × MEM)} {c_readEither : Nat → Nat → Int32 → Int32 → MEM → Option (Int32 × MEM)} (hd : 8 ≤ d) (hr : DR + 1 ≤ d) (hc_readSum : ∀ (a0 : Nat) (a1 : Nat) (a2 : Int32) (w : MEM) (h : PH) (o : Int32) (w1 : MEM), WH X h w → vo 3 a0 = true → vo 8 a1 = true → c_readSum a0 a1 a2 w = some (o, w1) → CT DR M_X3_readSum [vR (300, a0), vR (800, a1), vI a2] h 0 0 (QP X (.inl (some (vI o))) w1)) (hc_readProduct : ∀ (a0 : Nat) (a1 : Nat) (a2 : Int32) (w : MEM) (h : PH) (o : Int32) (w1 : MEM), WH X h w → vo 3 a0 = true → vo 8 a1 = true → c_readProduct a0 a1 a2 w = some (o, w1) → CT DR M_X3_readProduct [vR (300, a0), vR (800, a1), vI a2] h 0 0 (QP X (.inl (some (vI o))) w1)) (hc_readUnit : ∀ (a0 : Nat) (a1 : Nat) (a2 : Int32) (w : MEM) (h : PH) (o : Int32) (w1 : MEM), WH X h w → vo 3 a0 = true → vo 8 a1 = true → c_readUnit a0 a1 a2 w = some (o, w1) → CT DR M_X3_readUnit [vR (300, a0), vR (800, a1), vI a2] h 0 0 (QP X (.inl (some (vI o))) w1)) (hc_readEither : ∀ (a0 : Nat) (a1 : Nat) (a2 : Int32) (a3 : Int32) (w : MEM) (h : PH) (o : Int32) (w1 : MEM), WH X h w → vo 3 a0 = true → vo 8 a1 = true → c_readEither a0 a1 a2 a3 w = some (o, w1) → CT DR M_X3_readEither [vR (300, a0), vR (800, a1), vI a2, vI a3] h 0 0 (QP X (.inl (some (vI o))) w1)) (hq : ∀ h1, WH X h1 w1 → Q (.inl (some (vI o))) h1) {l0 : Nat} {l1 : Nat} {l2 : Int32} {w : MEM} {h : PH} (wh : WH X h w) (hv_l0 : vo 3 l0 = true) (hv_l1 : vo 8 l1 = true) (hF : b_X3_readSum fu c_readSum c_readProduct c_readUnit c_readEither l0 l1 l2 w = some (o, w1)) : PW d M_X3_readSum Q rc rs 0 [vR (300, l0), vR (800, l1), vI l2, vU, vU, vU] [] h := by
  replace hF := (E_X3_readSum fu c_readSum c_readProduct c_readUnit c_readEither l0 l1 l2 w).symm.trans hF
  refine r_X3_readSum_0 ?_
  refine ⟨⟨_, wh.2.1 10300 _ rfl hv_l0⟩, ?_⟩
  obtain ⟨x2, w1, hG, hF⟩ := bnd_of hF
  refine cl_I hr (hc_readProduct _ _ _ _ _ _ _ wh hv_l0 hv_l1 hG) ?_
  clear hG
  clear wh
  intro h wh
  exact w_X3_readSum_10 hd hr hc_readSum hc_readProduct hc_readUnit hc_readEither hq  fu _ _ _ _ _ _ _ wh hv_l0 hv_l1 hF
-- X3_readProduct
def f_X3_readProduct_51 (fu : Nat) (c_readSum : Nat → Nat → Int32 → MEM → Option (Int32 × MEM)) (c_readProduct : Nat → Nat → Int32 → MEM → Option (Int32 × MEM)) (c_readUnit : Nat → Nat → Int32 → MEM → Option (Int32 × MEM)) (c_readEither : Nat → Nat → Int32 → Int32 → MEM → Option (Int32 × MEM)) (k10 : Nat → Nat → Int32 → Int32 → Int32 → MEM → Option (Int32 × MEM)) (l0 : Nat) (l1 : Nat) (l2 : Int32) (l4 : Int32) (l5 : Int32) (w : MEM) : Option (Int32 × MEM) := bnd (f_X8_needSign fu l1 ((l5.toUInt32 % 65536).toInt32) w) fun (x2 : Int32) (w1 : MEM) => if x2 = 0 then (bnd (f_X3_add fu l0 l5 (0 : Int32) w1) fun (u4 : Unit) (w3 : MEM) => k10 l0 l1 l2 (0 : Int32) (l4 + (1 : Int32)) w3) else (bnd (c_readUnit l0 l1 l2 w1) fun (x6 : Int32) (w5 : MEM) => if x6 = 0 then (bnd (f_X3_add fu l0 l5 (0 : Int32) w5) fun (u8 : Unit) (w7 : MEM) => k10 l0 l1 l2 (0 : Int32) (l4 + (1 : Int32)) w7) else (bnd (f_X3_add fu l0 l5 (0 : Int32) w5) fun (u10 : Unit) (w9 : MEM) => k10 l0 l1 l2 (1 : Int32) (l4 + (1 : Int32)) w9))
theorem E_X3_readProduct_51 (fu : Nat) (c_readSum : Nat → Nat → Int32 → MEM → Option (Int32 × MEM)) (c_readProduct : Nat → Nat → Int32 → MEM → Option (Int32 × MEM)) (c_readUnit : Nat → Nat → Int32 → MEM → Option (Int32 × MEM)) (c_readEither : Nat → Nat → Int32 → Int32 → MEM → Option (Int32 × MEM)) (k10 : Nat → Nat → Int32 → Int32 → Int32 → MEM → Option (Int32 × MEM)) (l0 : Nat) (l1 : Nat) (l2 : Int32) (l4 : Int32) (l5 : Int32) (w : MEM) : f_X3_readProduct_51 fu c_readSum c_readProduct c_readUnit c_readEither k10 l0 l1 l2 l4 l5 w = bnd (f_X8_needSign fu l1 ((l5.toUInt32 % 65536).toInt32) w) fun (x2 : Int32) (w1 : MEM) => if x2 = 0 then (bnd (f_X3_add fu l0 l5 (0 : Int32) w1) fun (u4 : Unit) (w3 : MEM) => k10 l0 l1 l2 (0 : Int32) (l4 + (1 : Int32)) w3) else (bnd (c_readUnit l0 l1 l2 w1) fun (x6 : Int32) (w5 : MEM) => if x6 = 0 then (bnd (f_X3_add fu l0 l5 (0 : Int32) w5) fun (u8 : Unit) (w7 : MEM) => k10 l0 l1 l2 (0 : Int32) (l4 + (1 : Int32)) w7) else (bnd (f_X3_add fu l0 l5 (0 : Int32) w5) fun (u10 : Unit) (w9 : MEM) => k10 l0 l1 l2 (1 : Int32) (l4 + (1 : Int32)) w9)) := rfl
theorem w_X3_readProduct_51 {X : SCR} {d rc rs DR : Nat} {Q : PO → PH → Prop} {o : Int32} {w1 : MEM} {fu : Nat} {c_readSum : Nat → Nat → Int32 → MEM → Option (Int32 × MEM)} {c_readProduct : Nat → Nat → Int32 → MEM → Option (Int32 × MEM)} {c_readUnit : Nat → Nat → Int32 → MEM → Option (Int32 × MEM)} {c_readEither : Nat → Nat → Int32 → Int32 → MEM → Option (Int32 × MEM)} {k10 : Nat → Nat → Int32 → Int32 → Int32 → MEM → Option (Int32 × MEM)} (hd : 8 ≤ d) (hr : DR + 1 ≤ d) (hc_readSum : ∀ (a0 : Nat) (a1 : Nat) (a2 : Int32) (w : MEM) (h : PH) (o : Int32) (w1 : MEM), WH X h w → vo 3 a0 = true → vo 8 a1 = true → c_readSum a0 a1 a2 w = some (o, w1) → CT DR M_X3_readSum [vR (300, a0), vR (800, a1), vI a2] h 0 0 (QP X (.inl (some (vI o))) w1)) (hc_readProduct : ∀ (a0 : Nat) (a1 : Nat) (a2 : Int32) (w : MEM) (h : PH) (o : Int32) (w1 : MEM), WH X h w → vo 3 a0 = true → vo 8 a1 = true → c_readProduct a0 a1 a2 w = some (o, w1) → CT DR M_X3_readProduct [vR (300, a0), vR (800, a1), vI a2] h 0 0 (QP X (.inl (some (vI o))) w1)) (hc_readUnit : ∀ (a0 : Nat) (a1 : Nat) (a2 : Int32) (w : MEM) (h : PH) (o : Int32) (w1 : MEM), WH X h w → vo 3 a0 = true → vo 8 a1 = true → c_readUnit a0 a1 a2 w = some (o, w1) → CT DR M_X3_readUnit [vR (300, a0), vR (800, a1), vI a2] h 0 0 (QP X (.inl (some (vI o))) w1)) (hc_readEither : ∀ (a0 : Nat) (a1 : Nat) (a2 : Int32) (a3 : Int32) (w : MEM) (h : PH) (o : Int32) (w1 : MEM), WH X h w → vo 3 a0 = true → vo 8 a1 = true → c_readEither a0 a1 a2 a3 w = some (o, w1) → CT DR M_X3_readEither [vR (300, a0), vR (800, a1), vI a2, vI a3] h 0 0 (QP X (.inl (some (vI o))) w1)) (hq : ∀ h1, WH X h1 w1 → Q (.inl (some (vI o))) h1) (hk10 : ∀ (l0 : Nat) (l1 : Nat) (l2 : Int32) (l3 : Int32) (l4 : Int32) (w : MEM) (h : PH), WH X h w → vo 3 l0 = true → vo 8 l1 = true → k10 l0 l1 l2 l3 l4 w = some (o, w1) → PW d M_X3_readProduct Q rc rs 10 [vR (300, l0), vR (800, l1), vI l2, vI l3, vI l4, vU] [] h) {l0 : Nat} {l1 : Nat} {l2 : Int32} {l4 : Int32} {l5 : Int32} {w : MEM} {h : PH} (wh : WH X h w) (hv_l0 : vo 3 l0 = true) (hv_l1 : vo 8 l1 = true) (hF : f_X3_readProduct_51 fu c_readSum c_readProduct c_readUnit c_readEither k10 l0 l1 l2 l4 l5 w = some (o, w1)) : PW d M_X3_readProduct Q rc rs 51 [vR (300, l0), vR (800, l1), vI l2, vU, vI l4, vI l5] [] h := by
  replace hF := (E_X3_readProduct_51 fu c_readSum c_readProduct c_readUnit c_readEither k10 l0 l1 l2 l4 l5 w).symm.trans hF
  refine r_X3_readProduct_51 ?_
  refine ⟨⟨_, wh.2.1 10800 _ rfl hv_l1⟩, ?_⟩
  obtain ⟨x2, w1, hG, hF⟩ := bnd_of hF
  refine cl_I (D := 1) (Nat.le_trans (by decide) hd) (c_X8_needSign wh hv_l1 hG) ?_
  clear hG
  clear wh
  intro h wh
  refine ⟨fun c => ?_, fun c => ?_⟩
  · replace hF := if_ofT c hF
    refine ⟨⟨_, wh.2.1 10300 _ rfl hv_l0⟩, ?_⟩
    obtain ⟨u4, w3, hG, hF⟩ := bnd_of hF
    refine cl_V (D := 0) (Nat.le_trans (by decide) hd) (c_X3_add wh hv_l0 hG) ?_
    clear hG
    clear wh
    intro h wh
    exact hk10 _ _ _ _ _ _ _ wh hv_l0 hv_l1 hF
  · replace hF := if_ofF c hF
    refine ⟨⟨_, wh.2.1 10300 _ rfl hv_l0⟩, ?_⟩
    obtain ⟨x6, w5, hG, hF⟩ := bnd_of hF
    refine cl_I hr (hc_readUnit _ _ _ _ _ _ _ wh hv_l0 hv_l1 hG) ?_
    clear hG
    clear wh
    intro h wh
    refine ⟨fun c => ?_, fun c => ?_⟩
    · replace hF := if_ofT c hF
      refine ⟨⟨_, wh.2.1 10300 _ rfl hv_l0⟩, ?_⟩
      obtain ⟨u8, w7, hG, hF⟩ := bnd_of hF
      refine cl_V (D := 0) (Nat.le_trans (by decide) hd) (c_X3_add wh hv_l0 hG) ?_
      clear hG
      clear wh
      intro h wh
      exact hk10 _ _ _ _ _ _ _ wh hv_l0 hv_l1 hF
    · replace hF := if_ofF c hF
      refine ⟨⟨_, wh.2.1 10300 _ rfl hv_l0⟩, ?_⟩
      obtain ⟨u10, w9, hG, hF⟩ := bnd_of hF
      refine cl_V (D := 0) (Nat.le_trans (by decide) hd) (c_X3_add wh hv_l0 hG) ?_
      clear hG
      clear wh
      intro h wh
      exact hk10 _ _ _ _ _ _ _ wh hv_l0 hv_l1 hF
def f_X3_readProduct_10 (fu : Nat) (c_readSum : Nat → Nat → Int32 → MEM → Option (Int32 × MEM)) (c_readProduct : Nat → Nat → Int32 → MEM → Option (Int32 × MEM)) (c_readUnit : Nat → Nat → Int32 → MEM → Option (Int32 × MEM)) (c_readEither : Nat → Nat → Int32 → Int32 → MEM → Option (Int32 × MEM)) : Nat → Nat → Nat → Int32 → Int32 → Int32 → MEM → Option (Int32 × MEM)
  | 0, _, _, _, _, _, _ => none
  | n + 1, l0, l1, l2, l3, l4, w => if l3 = 0 then (ck (b01 l3) (some (l3, w))) else (if l4 < (150 : Int32) then (bnd (f_X8_peek fu l1 w) fun (x2 : Int32) (w1 : MEM) => if x2 = (42 : Int32) then (f_X3_readProduct_51 fu c_readSum c_readProduct c_readUnit c_readEither (fun l0 l1 l2 l3 l4 w => f_X3_readProduct_10 fu c_readSum c_readProduct c_readUnit c_readEither n l0 l1 l2 l3 l4 w) l0 l1 l2 l4 x2 w1) else (if x2 = (47 : Int32) then (f_X3_readProduct_51 fu c_readSum c_readProduct c_readUnit c_readEither (fun l0 l1 l2 l3 l4 w => f_X3_readProduct_10 fu c_readSum c_readProduct c_readUnit c_readEither n l0 l1 l2 l3 l4 w) l0 l1 l2 l4 x2 w1) else (if x2 = (37 : Int32) then (f_X3_readProduct_51 fu c_readSum c_readProduct c_readUnit c_readEither (fun l0 l1 l2 l3 l4 w => f_X3_readProduct_10 fu c_readSum c_readProduct c_readUnit c_readEither n l0 l1 l2 l3 l4 w) l0 l1 l2 l4 x2 w1) else (some ((1 : Int32), w1))))) else (ck (b01 l3) (some (l3, w))))
theorem E_X3_readProduct_10 (fu : Nat) (c_readSum : Nat → Nat → Int32 → MEM → Option (Int32 × MEM)) (c_readProduct : Nat → Nat → Int32 → MEM → Option (Int32 × MEM)) (c_readUnit : Nat → Nat → Int32 → MEM → Option (Int32 × MEM)) (c_readEither : Nat → Nat → Int32 → Int32 → MEM → Option (Int32 × MEM)) (n : Nat) (l0 : Nat) (l1 : Nat) (l2 : Int32) (l3 : Int32) (l4 : Int32) (w : MEM) : f_X3_readProduct_10 fu c_readSum c_readProduct c_readUnit c_readEither (n + 1) l0 l1 l2 l3 l4 w = if l3 = 0 then (ck (b01 l3) (some (l3, w))) else (if l4 < (150 : Int32) then (bnd (f_X8_peek fu l1 w) fun (x2 : Int32) (w1 : MEM) => if x2 = (42 : Int32) then (f_X3_readProduct_51 fu c_readSum c_readProduct c_readUnit c_readEither (fun l0 l1 l2 l3 l4 w => f_X3_readProduct_10 fu c_readSum c_readProduct c_readUnit c_readEither n l0 l1 l2 l3 l4 w) l0 l1 l2 l4 x2 w1) else (if x2 = (47 : Int32) then (f_X3_readProduct_51 fu c_readSum c_readProduct c_readUnit c_readEither (fun l0 l1 l2 l3 l4 w => f_X3_readProduct_10 fu c_readSum c_readProduct c_readUnit c_readEither n l0 l1 l2 l3 l4 w) l0 l1 l2 l4 x2 w1) else (if x2 = (37 : Int32) then (f_X3_readProduct_51 fu c_readSum c_readProduct c_readUnit c_readEither (fun l0 l1 l2 l3 l4 w => f_X3_readProduct_10 fu c_readSum c_readProduct c_readUnit c_readEither n l0 l1 l2 l3 l4 w) l0 l1 l2 l4 x2 w1) else (some ((1 : Int32), w1))))) else (ck (b01 l3) (some (l3, w)))) := rfl
theorem w_X3_readProduct_10 {X : SCR} {d rc rs DR : Nat} {Q : PO → PH → Prop} {o : Int32} {w1 : MEM} {fu : Nat} {c_readSum : Nat → Nat → Int32 → MEM → Option (Int32 × MEM)} {c_readProduct : Nat → Nat → Int32 → MEM → Option (Int32 × MEM)} {c_readUnit : Nat → Nat → Int32 → MEM → Option (Int32 × MEM)} {c_readEither : Nat → Nat → Int32 → Int32 → MEM → Option (Int32 × MEM)} (hd : 8 ≤ d) (hr : DR + 1 ≤ d) (hc_readSum : ∀ (a0 : Nat) (a1 : Nat) (a2 : Int32) (w : MEM) (h : PH) (o : Int32) (w1 : MEM), WH X h w → vo 3 a0 = true → vo 8 a1 = true → c_readSum a0 a1 a2 w = some (o, w1) → CT DR M_X3_readSum [vR (300, a0), vR (800, a1), vI a2] h 0 0 (QP X (.inl (some (vI o))) w1)) (hc_readProduct : ∀ (a0 : Nat) (a1 : Nat) (a2 : Int32) (w : MEM) (h : PH) (o : Int32) (w1 : MEM), WH X h w → vo 3 a0 = true → vo 8 a1 = true → c_readProduct a0 a1 a2 w = some (o, w1) → CT DR M_X3_readProduct [vR (300, a0), vR (800, a1), vI a2] h 0 0 (QP X (.inl (some (vI o))) w1)) (hc_readUnit : ∀ (a0 : Nat) (a1 : Nat) (a2 : Int32) (w : MEM) (h : PH) (o : Int32) (w1 : MEM), WH X h w → vo 3 a0 = true → vo 8 a1 = true → c_readUnit a0 a1 a2 w = some (o, w1) → CT DR M_X3_readUnit [vR (300, a0), vR (800, a1), vI a2] h 0 0 (QP X (.inl (some (vI o))) w1)) (hc_readEither : ∀ (a0 : Nat) (a1 : Nat) (a2 : Int32) (a3 : Int32) (w : MEM) (h : PH) (o : Int32) (w1 : MEM), WH X h w → vo 3 a0 = true → vo 8 a1 = true → c_readEither a0 a1 a2 a3 w = some (o, w1) → CT DR M_X3_readEither [vR (300, a0), vR (800, a1), vI a2, vI a3] h 0 0 (QP X (.inl (some (vI o))) w1)) (hq : ∀ h1, WH X h1 w1 → Q (.inl (some (vI o))) h1) : ∀ (n : Nat) (l0 : Nat) (l1 : Nat) (l2 : Int32) (l3 : Int32) (l4 : Int32) (w : MEM) (h : PH), WH X h w → vo 3 l0 = true → vo 8 l1 = true → f_X3_readProduct_10 fu c_readSum c_readProduct c_readUnit c_readEither n l0 l1 l2 l3 l4 w = some (o, w1) → PW d M_X3_readProduct Q rc rs 10 [vR (300, l0), vR (800, l1), vI l2, vI l3, vI l4, vU] [] h := by
  intro n
  induction n with
  | zero => intro l0 l1 l2 l3 l4 w h wh hv_l0 hv_l1 hF; cases hF
  | succ n ih =>
    intro l0 l1 l2 l3 l4 w h wh hv_l0 hv_l1 hF
    replace hF := (E_X3_readProduct_10 fu c_readSum c_readProduct c_readUnit c_readEither n l0 l1 l2 l3 l4 w).symm.trans hF
    refine r_X3_readProduct_10 ?_
    refine ⟨fun c => ?_, fun c => ?_⟩
    · replace hF := if_ofT c hF
      obtain ⟨c, hF⟩ := ck_of hF
      obtain ⟨rfl, rfl⟩ := some_of hF
      exact ⟨b01_nrw c, hq _ wh⟩
    · replace hF := if_ofF c hF
      refine ⟨fun c => ?_, fun c => ?_⟩
      · replace hF := if_ofT c hF
        refine ⟨⟨_, wh.2.1 10800 _ rfl hv_l1⟩, ?_⟩
        obtain ⟨x2, w1, hG, hF⟩ := bnd_of hF
        refine cl_I (D := 0) (Nat.le_trans (by decide) hd) (c_X8_peek wh hv_l1 hG) ?_
        clear hG
        clear wh
        intro h wh
        refine ⟨fun c => ?_, fun c => ?_⟩
        · replace hF := if_ofT c hF
          exact w_X3_readProduct_51 hd hr hc_readSum hc_readProduct hc_readUnit hc_readEither hq (fun l0 l1 l2 l3 l4 w h wh g0 g1 hF => ih l0 l1 l2 l3 l4 w h wh g0 g1 hF) wh hv_l0 hv_l1 hF
        · replace hF := if_ofF c hF
          refine ⟨fun c => ?_, fun c => ?_⟩
          · replace hF := if_ofT c hF
            exact w_X3_readProduct_51 hd hr hc_readSum hc_readProduct hc_readUnit hc_readEither hq (fun l0 l1 l2 l3 l4 w h wh g0 g1 hF => ih l0 l1 l2 l3 l4 w h wh g0 g1 hF) wh hv_l0 hv_l1 hF
          · replace hF := if_ofF c hF
            refine ⟨fun c => ?_, fun c => ?_⟩
            · replace hF := if_ofT c hF
              exact w_X3_readProduct_51 hd hr hc_readSum hc_readProduct hc_readUnit hc_readEither hq (fun l0 l1 l2 l3 l4 w h wh g0 g1 hF => ih l0 l1 l2 l3 l4 w h wh g0 g1 hF) wh hv_l0 hv_l1 hF
            · replace hF := if_ofF c hF
              obtain ⟨rfl, rfl⟩ := some_of hF
              exact hq _ wh
      · replace hF := if_ofF c hF
        obtain ⟨c, hF⟩ := ck_of hF
        obtain ⟨rfl, rfl⟩ := some_of hF
        exact ⟨b01_nrw c, hq _ wh⟩
def b_X3_readProduct (fu : Nat) (c_readSum : Nat → Nat → Int32 → MEM → Option (Int32 × MEM)) (c_readProduct : Nat → Nat → Int32 → MEM → Option (Int32 × MEM)) (c_readUnit : Nat → Nat → Int32 → MEM → Option (Int32 × MEM)) (c_readEither : Nat → Nat → Int32 → Int32 → MEM → Option (Int32 × MEM)) (l0 : Nat) (l1 : Nat) (l2 : Int32) (w : MEM) : Option (Int32 × MEM) := bnd (c_readUnit l0 l1 l2 w) fun (x2 : Int32) (w1 : MEM) => f_X3_readProduct_10 fu c_readSum c_readProduct c_readUnit c_readEither fu l0 l1 l2 x2 (0 : Int32) w1
theorem E_X3_readProduct (fu : Nat) (c_readSum : Nat → Nat → Int32 → MEM → Option (Int32 × MEM)) (c_readProduct : Nat → Nat → Int32 → MEM → Option (Int32 × MEM)) (c_readUnit : Nat → Nat → Int32 → MEM → Option (Int32 × MEM)) (c_readEither : Nat → Nat → Int32 → Int32 → MEM → Option (Int32 × MEM)) (l0 : Nat) (l1 : Nat) (l2 : Int32) (w : MEM) : b_X3_readProduct fu c_readSum c_readProduct c_readUnit c_readEither l0 l1 l2 w = bnd (c_readUnit l0 l1 l2 w) fun (x2 : Int32) (w1 : MEM) => f_X3_readProduct_10 fu c_readSum c_readProduct c_readUnit c_readEither fu l0 l1 l2 x2 (0 : Int32) w1 := rfl
theorem w_X3_readProduct {X : SCR} {d rc rs DR : Nat} {Q : PO → PH → Prop} {o : Int32} {w1 : MEM} {fu : Nat} {c_readSum : Nat → Nat → Int32 → MEM → Option (Int32 × MEM)} {c_readProduct : Nat → Nat → Int32 → MEM → Option (Int32 × MEM)} {c_readUnit : Nat → Nat → Int32 → MEM → Option (Int32 × MEM)} {c_readEither : Nat → Nat → Int32 → Int32 → MEM → Option (Int32 × MEM)} (hd : 8 ≤ d) (hr : DR + 1 ≤ d) (hc_readSum : ∀ (a0 : Nat) (a1 : Nat) (a2 : Int32) (w : MEM) (h : PH) (o : Int32) (w1 : MEM), WH X h w → vo 3 a0 = true → vo 8 a1 = true → c_readSum a0 a1 a2 w = some (o, w1) → CT DR M_X3_readSum [vR (300, a0), vR (800, a1), vI a2] h 0 0 (QP X (.inl (some (vI o))) w1)) (hc_readProduct : ∀ (a0 : Nat) (a1 : Nat) (a2 : Int32) (w : MEM) (h : PH) (o : Int32) (w1 : MEM), WH X h w → vo 3 a0 = true → vo 8 a1 = true → c_readProduct a0 a1 a2 w = some (o, w1) → CT DR M_X3_readProduct [vR (300, a0), vR (800, a1), vI a2] h 0 0 (QP X (.inl (some (vI o))) w1)) (hc_readUnit : ∀ (a0 : Nat) (a1 : Nat) (a2 : Int32) (w : MEM) (h : PH) (o : Int32) (w1 : MEM), WH X h w → vo 3 a0 = true → vo 8 a1 = true → c_readUnit a0 a1 a2 w = some (o, w1) → CT DR M_X3_readUnit [vR (300, a0), vR (800, a1), vI a2] h 0 0 (QP X (.inl (some (vI o))) w1)) (hc_readEither : ∀ (a0 : Nat) (a1 : Nat) (a2 : Int32) (a3 : Int32) (w : MEM) (h : PH) (o : Int32) (w1 : MEM), WH X h w → vo 3 a0 = true → vo 8 a1 = true → c_readEither a0 a1 a2 a3 w = some (o, w1) → CT DR M_X3_readEither [vR (300, a0), vR (800, a1), vI a2, vI a3] h 0 0 (QP X (.inl (some (vI o))) w1)) (hq : ∀ h1, WH X h1 w1 → Q (.inl (some (vI o))) h1) {l0 : Nat} {l1 : Nat} {l2 : Int32} {w : MEM} {h : PH} (wh : WH X h w) (hv_l0 : vo 3 l0 = true) (hv_l1 : vo 8 l1 = true) (hF : b_X3_readProduct fu c_readSum c_readProduct c_readUnit c_readEither l0 l1 l2 w = some (o, w1)) : PW d M_X3_readProduct Q rc rs 0 [vR (300, l0), vR (800, l1), vI l2, vU, vU, vU] [] h := by
  replace hF := (E_X3_readProduct fu c_readSum c_readProduct c_readUnit c_readEither l0 l1 l2 w).symm.trans hF
  refine r_X3_readProduct_0 ?_
  refine ⟨⟨_, wh.2.1 10300 _ rfl hv_l0⟩, ?_⟩
  obtain ⟨x2, w1, hG, hF⟩ := bnd_of hF
  refine cl_I hr (hc_readUnit _ _ _ _ _ _ _ wh hv_l0 hv_l1 hG) ?_
  clear hG
  clear wh
  intro h wh
  exact w_X3_readProduct_10 hd hr hc_readSum hc_readProduct hc_readUnit hc_readEither hq  fu _ _ _ _ _ _ _ wh hv_l0 hv_l1 hF
-- X3_readUnit
def f_X3_readUnit_76 (fu : Nat) (c_readSum : Nat → Nat → Int32 → MEM → Option (Int32 × MEM)) (c_readProduct : Nat → Nat → Int32 → MEM → Option (Int32 × MEM)) (c_readUnit : Nat → Nat → Int32 → MEM → Option (Int32 × MEM)) (c_readEither : Nat → Nat → Int32 → Int32 → MEM → Option (Int32 × MEM)) (l0 : Nat) (l1 : Nat) (l2 : Int32) (s0 : Int32) (w : MEM) : Option (Int32 × MEM) := if s0 = (-1 : Int32) then (bnd (f_X3_valueAhead fu l1 w) fun (x2 : Int32) (w1 : MEM) => if x2 = (-1 : Int32) then (bnd (f_X8_number fu l1 (0 : Int32) (999 : Int32) w1) fun (x4 : Int32) (w3 : MEM) => bnd (f_X3_add fu l0 (0 : Int32) x4 w3) fun (u6 : Unit) (w5 : MEM) => if x4 = (-1 : Int32) then (some ((0 : Int32), w5)) else (some ((1 : Int32), w5))) else (bnd (f_X3_add fu l0 (1 : Int32) x2 w1) fun (u8 : Unit) (w7 : MEM) => some ((1 : Int32), w7))) else (if l2 < (6 : Int32) then (bnd (c_readEither l0 l1 (l2 + (1 : Int32)) s0 w) fun (x10 : Int32) (w9 : MEM) => ck (b01 x10) (some (x10, w9))) else (bnd (f_X8_refuse fu l1 (3 : Int32) w) fun (x12 : Int32) (w11 : MEM) => ck (b01 x12) (some (x12, w11))))
theorem E_X3_readUnit_76 (fu : Nat) (c_readSum : Nat → Nat → Int32 → MEM → Option (Int32 × MEM)) (c_readProduct : Nat → Nat → Int32 → MEM → Option (Int32 × MEM)) (c_readUnit : Nat → Nat → Int32 → MEM → Option (Int32 × MEM)) (c_readEither : Nat → Nat → Int32 → Int32 → MEM → Option (Int32 × MEM)) (l0 : Nat) (l1 : Nat) (l2 : Int32) (s0 : Int32) (w : MEM) : f_X3_readUnit_76 fu c_readSum c_readProduct c_readUnit c_readEither l0 l1 l2 s0 w = if s0 = (-1 : Int32) then (bnd (f_X3_valueAhead fu l1 w) fun (x2 : Int32) (w1 : MEM) => if x2 = (-1 : Int32) then (bnd (f_X8_number fu l1 (0 : Int32) (999 : Int32) w1) fun (x4 : Int32) (w3 : MEM) => bnd (f_X3_add fu l0 (0 : Int32) x4 w3) fun (u6 : Unit) (w5 : MEM) => if x4 = (-1 : Int32) then (some ((0 : Int32), w5)) else (some ((1 : Int32), w5))) else (bnd (f_X3_add fu l0 (1 : Int32) x2 w1) fun (u8 : Unit) (w7 : MEM) => some ((1 : Int32), w7))) else (if l2 < (6 : Int32) then (bnd (c_readEither l0 l1 (l2 + (1 : Int32)) s0 w) fun (x10 : Int32) (w9 : MEM) => ck (b01 x10) (some (x10, w9))) else (bnd (f_X8_refuse fu l1 (3 : Int32) w) fun (x12 : Int32) (w11 : MEM) => ck (b01 x12) (some (x12, w11)))) := rfl
theorem w_X3_readUnit_76 {X : SCR} {d rc rs DR : Nat} {Q : PO → PH → Prop} {o : Int32} {w1 : MEM} {fu : Nat} {c_readSum : Nat → Nat → Int32 → MEM → Option (Int32 × MEM)} {c_readProduct : Nat → Nat → Int32 → MEM → Option (Int32 × MEM)} {c_readUnit : Nat → Nat → Int32 → MEM → Option (Int32 × MEM)} {c_readEither : Nat → Nat → Int32 → Int32 → MEM → Option (Int32 × MEM)} (hd : 8 ≤ d) (hr : DR + 1 ≤ d) (hc_readSum : ∀ (a0 : Nat) (a1 : Nat) (a2 : Int32) (w : MEM) (h : PH) (o : Int32) (w1 : MEM), WH X h w → vo 3 a0 = true → vo 8 a1 = true → c_readSum a0 a1 a2 w = some (o, w1) → CT DR M_X3_readSum [vR (300, a0), vR (800, a1), vI a2] h 0 0 (QP X (.inl (some (vI o))) w1)) (hc_readProduct : ∀ (a0 : Nat) (a1 : Nat) (a2 : Int32) (w : MEM) (h : PH) (o : Int32) (w1 : MEM), WH X h w → vo 3 a0 = true → vo 8 a1 = true → c_readProduct a0 a1 a2 w = some (o, w1) → CT DR M_X3_readProduct [vR (300, a0), vR (800, a1), vI a2] h 0 0 (QP X (.inl (some (vI o))) w1)) (hc_readUnit : ∀ (a0 : Nat) (a1 : Nat) (a2 : Int32) (w : MEM) (h : PH) (o : Int32) (w1 : MEM), WH X h w → vo 3 a0 = true → vo 8 a1 = true → c_readUnit a0 a1 a2 w = some (o, w1) → CT DR M_X3_readUnit [vR (300, a0), vR (800, a1), vI a2] h 0 0 (QP X (.inl (some (vI o))) w1)) (hc_readEither : ∀ (a0 : Nat) (a1 : Nat) (a2 : Int32) (a3 : Int32) (w : MEM) (h : PH) (o : Int32) (w1 : MEM), WH X h w → vo 3 a0 = true → vo 8 a1 = true → c_readEither a0 a1 a2 a3 w = some (o, w1) → CT DR M_X3_readEither [vR (300, a0), vR (800, a1), vI a2, vI a3] h 0 0 (QP X (.inl (some (vI o))) w1)) (hq : ∀ h1, WH X h1 w1 → Q (.inl (some (vI o))) h1) {l0 : Nat} {l1 : Nat} {l2 : Int32} {s0 : Int32} {w : MEM} {h : PH} (wh : WH X h w) (hv_l0 : vo 3 l0 = true) (hv_l1 : vo 8 l1 = true) (hF : f_X3_readUnit_76 fu c_readSum c_readProduct c_readUnit c_readEither l0 l1 l2 s0 w = some (o, w1)) : PW d M_X3_readUnit Q rc rs 76 [vR (300, l0), vR (800, l1), vI l2, vU, vU, vU] [vI s0] h := by
  replace hF := (E_X3_readUnit_76 fu c_readSum c_readProduct c_readUnit c_readEither l0 l1 l2 s0 w).symm.trans hF
  refine r_X3_readUnit_76 ?_
  refine ⟨fun c => ?_, fun c => ?_⟩
  · replace hF := if_ofT c hF
    obtain ⟨x2, w1, hG, hF⟩ := bnd_of hF
    refine cl_I (D := 7) (Nat.le_trans (by decide) hd) (c_X3_valueAhead wh hv_l1 hG) ?_
    clear hG
    clear wh
    intro h wh
    refine ⟨fun c => ?_, fun c => ?_⟩
    · replace hF := if_ofT c hF
      refine ⟨⟨_, wh.2.1 10800 _ rfl hv_l1⟩, ?_⟩
      obtain ⟨x4, w3, hG, hF⟩ := bnd_of hF
      refine cl_I (D := 1) (Nat.le_trans (by decide) hd) (c_X8_number wh hv_l1 hG) ?_
      clear hG
      clear wh
      intro h wh
      refine ⟨⟨_, wh.2.1 10300 _ rfl hv_l0⟩, ?_⟩
      obtain ⟨u6, w5, hG, hF⟩ := bnd_of hF
      refine cl_V (D := 0) (Nat.le_trans (by decide) hd) (c_X3_add wh hv_l0 hG) ?_
      clear hG
      clear wh
      intro h wh
      refine ⟨fun c => ?_, fun c => ?_⟩
      · replace hF := if_ofT c hF
        obtain ⟨rfl, rfl⟩ := some_of hF
        exact hq _ wh
      · replace hF := if_ofF c hF
        obtain ⟨rfl, rfl⟩ := some_of hF
        exact hq _ wh
    · replace hF := if_ofF c hF
      refine ⟨⟨_, wh.2.1 10300 _ rfl hv_l0⟩, ?_⟩
      obtain ⟨u8, w7, hG, hF⟩ := bnd_of hF
      refine cl_V (D := 0) (Nat.le_trans (by decide) hd) (c_X3_add wh hv_l0 hG) ?_
      clear hG
      clear wh
      intro h wh
      obtain ⟨rfl, rfl⟩ := some_of hF
      exact hq _ wh
  · replace hF := if_ofF c hF
    refine ⟨fun c => ?_, fun c => ?_⟩
    · replace hF := if_ofT c hF
      refine ⟨⟨_, wh.2.1 10300 _ rfl hv_l0⟩, ?_⟩
      obtain ⟨x10, w9, hG, hF⟩ := bnd_of hF
      refine cl_I hr (hc_readEither _ _ _ _ _ _ _ _ wh hv_l0 hv_l1 hG) ?_
      clear hG
      clear wh
      intro h wh
      obtain ⟨c, hF⟩ := ck_of hF
      obtain ⟨rfl, rfl⟩ := some_of hF
      exact ⟨b01_nrw c, hq _ wh⟩
    · replace hF := if_ofF c hF
      refine ⟨⟨_, wh.2.1 10800 _ rfl hv_l1⟩, ?_⟩
      obtain ⟨x12, w11, hG, hF⟩ := bnd_of hF
      refine cl_I (D := 0) (Nat.le_trans (by decide) hd) (c_X8_refuse wh hv_l1 hG) ?_
      clear hG
      clear wh
      intro h wh
      obtain ⟨c, hF⟩ := ck_of hF
      obtain ⟨rfl, rfl⟩ := some_of hF
      exact ⟨b01_nrw c, hq _ wh⟩
def b_X3_readUnit (fu : Nat) (c_readSum : Nat → Nat → Int32 → MEM → Option (Int32 × MEM)) (c_readProduct : Nat → Nat → Int32 → MEM → Option (Int32 × MEM)) (c_readUnit : Nat → Nat → Int32 → MEM → Option (Int32 × MEM)) (c_readEither : Nat → Nat → Int32 → Int32 → MEM → Option (Int32 × MEM)) (l0 : Nat) (l1 : Nat) (l2 : Int32) (w : MEM) : Option (Int32 × MEM) := bnd (f_X8_takeSign fu l1 (40 : Int32) w) fun (x2 : Int32) (w1 : MEM) => if x2 = 0 then (bnd (f_X8_takeWord fu l1 4 w1) fun (x4 : Int32) (w3 : MEM) => if x4 = 0 then (bnd (f_X8_takeWord fu l1 5 w3) fun (x6 : Int32) (w5 : MEM) => if x6 = 0 then (f_X3_readUnit_76 fu c_readSum c_readProduct c_readUnit c_readEither l0 l1 l2 (-1 : Int32) w5) else (f_X3_readUnit_76 fu c_readSum c_readProduct c_readUnit c_readEither l0 l1 l2 (3 : Int32) w5)) else (f_X3_readUnit_76 fu c_readSum c_readProduct c_readUnit c_readEither l0 l1 l2 (2 : Int32) w3)) else (if l2 < (6 : Int32) then (bnd (c_readSum l0 l1 (l2 + (1 : Int32)) w1) fun (x8 : Int32) (w7 : MEM) => if x8 = 0 then (some ((0 : Int32), w7)) else (bnd (f_X8_needSign fu l1 (41 : Int32) w7) fun (x10 : Int32) (w9 : MEM) => if x10 = 0 then (some ((0 : Int32), w9)) else (some ((1 : Int32), w9)))) else (bnd (f_X8_refuse fu l1 (3 : Int32) w1) fun (x12 : Int32) (w11 : MEM) => ck (b01 x12) (some (x12, w11))))
theorem E_X3_readUnit (fu : Nat) (c_readSum : Nat → Nat → Int32 → MEM → Option (Int32 × MEM)) (c_readProduct : Nat → Nat → Int32 → MEM → Option (Int32 × MEM)) (c_readUnit : Nat → Nat → Int32 → MEM → Option (Int32 × MEM)) (c_readEither : Nat → Nat → Int32 → Int32 → MEM → Option (Int32 × MEM)) (l0 : Nat) (l1 : Nat) (l2 : Int32) (w : MEM) : b_X3_readUnit fu c_readSum c_readProduct c_readUnit c_readEither l0 l1 l2 w = bnd (f_X8_takeSign fu l1 (40 : Int32) w) fun (x2 : Int32) (w1 : MEM) => if x2 = 0 then (bnd (f_X8_takeWord fu l1 4 w1) fun (x4 : Int32) (w3 : MEM) => if x4 = 0 then (bnd (f_X8_takeWord fu l1 5 w3) fun (x6 : Int32) (w5 : MEM) => if x6 = 0 then (f_X3_readUnit_76 fu c_readSum c_readProduct c_readUnit c_readEither l0 l1 l2 (-1 : Int32) w5) else (f_X3_readUnit_76 fu c_readSum c_readProduct c_readUnit c_readEither l0 l1 l2 (3 : Int32) w5)) else (f_X3_readUnit_76 fu c_readSum c_readProduct c_readUnit c_readEither l0 l1 l2 (2 : Int32) w3)) else (if l2 < (6 : Int32) then (bnd (c_readSum l0 l1 (l2 + (1 : Int32)) w1) fun (x8 : Int32) (w7 : MEM) => if x8 = 0 then (some ((0 : Int32), w7)) else (bnd (f_X8_needSign fu l1 (41 : Int32) w7) fun (x10 : Int32) (w9 : MEM) => if x10 = 0 then (some ((0 : Int32), w9)) else (some ((1 : Int32), w9)))) else (bnd (f_X8_refuse fu l1 (3 : Int32) w1) fun (x12 : Int32) (w11 : MEM) => ck (b01 x12) (some (x12, w11)))) := rfl
theorem w_X3_readUnit {X : SCR} {d rc rs DR : Nat} {Q : PO → PH → Prop} {o : Int32} {w1 : MEM} {fu : Nat} {c_readSum : Nat → Nat → Int32 → MEM → Option (Int32 × MEM)} {c_readProduct : Nat → Nat → Int32 → MEM → Option (Int32 × MEM)} {c_readUnit : Nat → Nat → Int32 → MEM → Option (Int32 × MEM)} {c_readEither : Nat → Nat → Int32 → Int32 → MEM → Option (Int32 × MEM)} (hd : 8 ≤ d) (hr : DR + 1 ≤ d) (hc_readSum : ∀ (a0 : Nat) (a1 : Nat) (a2 : Int32) (w : MEM) (h : PH) (o : Int32) (w1 : MEM), WH X h w → vo 3 a0 = true → vo 8 a1 = true → c_readSum a0 a1 a2 w = some (o, w1) → CT DR M_X3_readSum [vR (300, a0), vR (800, a1), vI a2] h 0 0 (QP X (.inl (some (vI o))) w1)) (hc_readProduct : ∀ (a0 : Nat) (a1 : Nat) (a2 : Int32) (w : MEM) (h : PH) (o : Int32) (w1 : MEM), WH X h w → vo 3 a0 = true → vo 8 a1 = true → c_readProduct a0 a1 a2 w = some (o, w1) → CT DR M_X3_readProduct [vR (300, a0), vR (800, a1), vI a2] h 0 0 (QP X (.inl (some (vI o))) w1)) (hc_readUnit : ∀ (a0 : Nat) (a1 : Nat) (a2 : Int32) (w : MEM) (h : PH) (o : Int32) (w1 : MEM), WH X h w → vo 3 a0 = true → vo 8 a1 = true → c_readUnit a0 a1 a2 w = some (o, w1) → CT DR M_X3_readUnit [vR (300, a0), vR (800, a1), vI a2] h 0 0 (QP X (.inl (some (vI o))) w1)) (hc_readEither : ∀ (a0 : Nat) (a1 : Nat) (a2 : Int32) (a3 : Int32) (w : MEM) (h : PH) (o : Int32) (w1 : MEM), WH X h w → vo 3 a0 = true → vo 8 a1 = true → c_readEither a0 a1 a2 a3 w = some (o, w1) → CT DR M_X3_readEither [vR (300, a0), vR (800, a1), vI a2, vI a3] h 0 0 (QP X (.inl (some (vI o))) w1)) (hq : ∀ h1, WH X h1 w1 → Q (.inl (some (vI o))) h1) {l0 : Nat} {l1 : Nat} {l2 : Int32} {w : MEM} {h : PH} (wh : WH X h w) (hv_l0 : vo 3 l0 = true) (hv_l1 : vo 8 l1 = true) (hF : b_X3_readUnit fu c_readSum c_readProduct c_readUnit c_readEither l0 l1 l2 w = some (o, w1)) : PW d M_X3_readUnit Q rc rs 0 [vR (300, l0), vR (800, l1), vI l2, vU, vU, vU] [] h := by
  replace hF := (E_X3_readUnit fu c_readSum c_readProduct c_readUnit c_readEither l0 l1 l2 w).symm.trans hF
  refine r_X3_readUnit_0 ?_
  refine ⟨⟨_, wh.2.1 10800 _ rfl hv_l1⟩, ?_⟩
  obtain ⟨x2, w1, hG, hF⟩ := bnd_of hF
  refine cl_I (D := 1) (Nat.le_trans (by decide) hd) (c_X8_takeSign wh hv_l1 hG) ?_
  clear hG
  clear wh
  intro h wh
  refine ⟨fun c => ?_, fun c => ?_⟩
  · replace hF := if_ofT c hF
    refine ⟨⟨_, wh.2.1 10800 _ rfl hv_l1⟩, ?_⟩
    obtain ⟨x4, w3, hG, hF⟩ := bnd_of hF
    refine cl_I (D := 6) (Nat.le_trans (by decide) hd) (c_X8_takeWord wh hv_l1 (by decide) hG) ?_
    clear hG
    clear wh
    intro h wh
    refine ⟨fun c => ?_, fun c => ?_⟩
    · replace hF := if_ofT c hF
      refine ⟨⟨_, wh.2.1 10800 _ rfl hv_l1⟩, ?_⟩
      obtain ⟨x6, w5, hG, hF⟩ := bnd_of hF
      refine cl_I (D := 6) (Nat.le_trans (by decide) hd) (c_X8_takeWord wh hv_l1 (by decide) hG) ?_
      clear hG
      clear wh
      intro h wh
      refine ⟨fun c => ?_, fun c => ?_⟩
      · replace hF := if_ofT c hF
        exact w_X3_readUnit_76 hd hr hc_readSum hc_readProduct hc_readUnit hc_readEither hq  wh hv_l0 hv_l1 hF
      · replace hF := if_ofF c hF
        exact w_X3_readUnit_76 hd hr hc_readSum hc_readProduct hc_readUnit hc_readEither hq  wh hv_l0 hv_l1 hF
    · replace hF := if_ofF c hF
      exact w_X3_readUnit_76 hd hr hc_readSum hc_readProduct hc_readUnit hc_readEither hq  wh hv_l0 hv_l1 hF
  · replace hF := if_ofF c hF
    refine ⟨fun c => ?_, fun c => ?_⟩
    · replace hF := if_ofT c hF
      refine ⟨⟨_, wh.2.1 10300 _ rfl hv_l0⟩, ?_⟩
      obtain ⟨x8, w7, hG, hF⟩ := bnd_of hF
      refine cl_I hr (hc_readSum _ _ _ _ _ _ _ wh hv_l0 hv_l1 hG) ?_
      clear hG
      clear wh
      intro h wh
      refine ⟨fun c => ?_, fun c => ?_⟩
      · replace hF := if_ofT c hF
        obtain ⟨rfl, rfl⟩ := some_of hF
        exact hq _ wh
      · replace hF := if_ofF c hF
        refine ⟨⟨_, wh.2.1 10800 _ rfl hv_l1⟩, ?_⟩
        obtain ⟨x10, w9, hG, hF⟩ := bnd_of hF
        refine cl_I (D := 1) (Nat.le_trans (by decide) hd) (c_X8_needSign wh hv_l1 hG) ?_
        clear hG
        clear wh
        intro h wh
        refine ⟨fun c => ?_, fun c => ?_⟩
        · replace hF := if_ofT c hF
          obtain ⟨rfl, rfl⟩ := some_of hF
          exact hq _ wh
        · replace hF := if_ofF c hF
          obtain ⟨rfl, rfl⟩ := some_of hF
          exact hq _ wh
    · replace hF := if_ofF c hF
      refine ⟨⟨_, wh.2.1 10800 _ rfl hv_l1⟩, ?_⟩
      obtain ⟨x12, w11, hG, hF⟩ := bnd_of hF
      refine cl_I (D := 0) (Nat.le_trans (by decide) hd) (c_X8_refuse wh hv_l1 hG) ?_
      clear hG
      clear wh
      intro h wh
      obtain ⟨c, hF⟩ := ck_of hF
      obtain ⟨rfl, rfl⟩ := some_of hF
      exact ⟨b01_nrw c, hq _ wh⟩
-- X3_readEither
def b_X3_readEither (fu : Nat) (c_readSum : Nat → Nat → Int32 → MEM → Option (Int32 × MEM)) (c_readProduct : Nat → Nat → Int32 → MEM → Option (Int32 × MEM)) (c_readUnit : Nat → Nat → Int32 → MEM → Option (Int32 × MEM)) (c_readEither : Nat → Nat → Int32 → Int32 → MEM → Option (Int32 × MEM)) (l0 : Nat) (l1 : Nat) (l2 : Int32) (l3 : Int32) (w : MEM) : Option (Int32 × MEM) := bnd (f_X8_needSign fu l1 (91 : Int32) w) fun (x2 : Int32) (w1 : MEM) => if x2 = 0 then (bnd (f_X3_add fu l0 l3 (0 : Int32) w1) fun (u4 : Unit) (w3 : MEM) => some ((0 : Int32), w3)) else (bnd (c_readSum l0 l1 l2 w1) fun (x6 : Int32) (w5 : MEM) => if x6 = 0 then (bnd (f_X3_add fu l0 l3 (0 : Int32) w5) fun (u8 : Unit) (w7 : MEM) => some ((0 : Int32), w7)) else (bnd (f_X8_needSign fu l1 (44 : Int32) w5) fun (x10 : Int32) (w9 : MEM) => if x10 = 0 then (bnd (f_X3_add fu l0 l3 (0 : Int32) w9) fun (u12 : Unit) (w11 : MEM) => some ((0 : Int32), w11)) else (bnd (c_readSum l0 l1 l2 w9) fun (x14 : Int32) (w13 : MEM) => if x14 = 0 then (bnd (f_X3_add fu l0 l3 (0 : Int32) w13) fun (u16 : Unit) (w15 : MEM) => some ((0 : Int32), w15)) else (bnd (f_X8_needSign fu l1 (93 : Int32) w13) fun (x18 : Int32) (w17 : MEM) => if x18 = 0 then (bnd (f_X3_add fu l0 l3 (0 : Int32) w17) fun (u20 : Unit) (w19 : MEM) => some ((0 : Int32), w19)) else (bnd (f_X3_add fu l0 l3 (0 : Int32) w17) fun (u22 : Unit) (w21 : MEM) => some ((1 : Int32), w21))))))
theorem E_X3_readEither (fu : Nat) (c_readSum : Nat → Nat → Int32 → MEM → Option (Int32 × MEM)) (c_readProduct : Nat → Nat → Int32 → MEM → Option (Int32 × MEM)) (c_readUnit : Nat → Nat → Int32 → MEM → Option (Int32 × MEM)) (c_readEither : Nat → Nat → Int32 → Int32 → MEM → Option (Int32 × MEM)) (l0 : Nat) (l1 : Nat) (l2 : Int32) (l3 : Int32) (w : MEM) : b_X3_readEither fu c_readSum c_readProduct c_readUnit c_readEither l0 l1 l2 l3 w = bnd (f_X8_needSign fu l1 (91 : Int32) w) fun (x2 : Int32) (w1 : MEM) => if x2 = 0 then (bnd (f_X3_add fu l0 l3 (0 : Int32) w1) fun (u4 : Unit) (w3 : MEM) => some ((0 : Int32), w3)) else (bnd (c_readSum l0 l1 l2 w1) fun (x6 : Int32) (w5 : MEM) => if x6 = 0 then (bnd (f_X3_add fu l0 l3 (0 : Int32) w5) fun (u8 : Unit) (w7 : MEM) => some ((0 : Int32), w7)) else (bnd (f_X8_needSign fu l1 (44 : Int32) w5) fun (x10 : Int32) (w9 : MEM) => if x10 = 0 then (bnd (f_X3_add fu l0 l3 (0 : Int32) w9) fun (u12 : Unit) (w11 : MEM) => some ((0 : Int32), w11)) else (bnd (c_readSum l0 l1 l2 w9) fun (x14 : Int32) (w13 : MEM) => if x14 = 0 then (bnd (f_X3_add fu l0 l3 (0 : Int32) w13) fun (u16 : Unit) (w15 : MEM) => some ((0 : Int32), w15)) else (bnd (f_X8_needSign fu l1 (93 : Int32) w13) fun (x18 : Int32) (w17 : MEM) => if x18 = 0 then (bnd (f_X3_add fu l0 l3 (0 : Int32) w17) fun (u20 : Unit) (w19 : MEM) => some ((0 : Int32), w19)) else (bnd (f_X3_add fu l0 l3 (0 : Int32) w17) fun (u22 : Unit) (w21 : MEM) => some ((1 : Int32), w21)))))) := rfl
theorem w_X3_readEither {X : SCR} {d rc rs DR : Nat} {Q : PO → PH → Prop} {o : Int32} {w1 : MEM} {fu : Nat} {c_readSum : Nat → Nat → Int32 → MEM → Option (Int32 × MEM)} {c_readProduct : Nat → Nat → Int32 → MEM → Option (Int32 × MEM)} {c_readUnit : Nat → Nat → Int32 → MEM → Option (Int32 × MEM)} {c_readEither : Nat → Nat → Int32 → Int32 → MEM → Option (Int32 × MEM)} (hd : 8 ≤ d) (hr : DR + 1 ≤ d) (hc_readSum : ∀ (a0 : Nat) (a1 : Nat) (a2 : Int32) (w : MEM) (h : PH) (o : Int32) (w1 : MEM), WH X h w → vo 3 a0 = true → vo 8 a1 = true → c_readSum a0 a1 a2 w = some (o, w1) → CT DR M_X3_readSum [vR (300, a0), vR (800, a1), vI a2] h 0 0 (QP X (.inl (some (vI o))) w1)) (hc_readProduct : ∀ (a0 : Nat) (a1 : Nat) (a2 : Int32) (w : MEM) (h : PH) (o : Int32) (w1 : MEM), WH X h w → vo 3 a0 = true → vo 8 a1 = true → c_readProduct a0 a1 a2 w = some (o, w1) → CT DR M_X3_readProduct [vR (300, a0), vR (800, a1), vI a2] h 0 0 (QP X (.inl (some (vI o))) w1)) (hc_readUnit : ∀ (a0 : Nat) (a1 : Nat) (a2 : Int32) (w : MEM) (h : PH) (o : Int32) (w1 : MEM), WH X h w → vo 3 a0 = true → vo 8 a1 = true → c_readUnit a0 a1 a2 w = some (o, w1) → CT DR M_X3_readUnit [vR (300, a0), vR (800, a1), vI a2] h 0 0 (QP X (.inl (some (vI o))) w1)) (hc_readEither : ∀ (a0 : Nat) (a1 : Nat) (a2 : Int32) (a3 : Int32) (w : MEM) (h : PH) (o : Int32) (w1 : MEM), WH X h w → vo 3 a0 = true → vo 8 a1 = true → c_readEither a0 a1 a2 a3 w = some (o, w1) → CT DR M_X3_readEither [vR (300, a0), vR (800, a1), vI a2, vI a3] h 0 0 (QP X (.inl (some (vI o))) w1)) (hq : ∀ h1, WH X h1 w1 → Q (.inl (some (vI o))) h1) {l0 : Nat} {l1 : Nat} {l2 : Int32} {l3 : Int32} {w : MEM} {h : PH} (wh : WH X h w) (hv_l0 : vo 3 l0 = true) (hv_l1 : vo 8 l1 = true) (hF : b_X3_readEither fu c_readSum c_readProduct c_readUnit c_readEither l0 l1 l2 l3 w = some (o, w1)) : PW d M_X3_readEither Q rc rs 0 [vR (300, l0), vR (800, l1), vI l2, vI l3, vU] [] h := by
  replace hF := (E_X3_readEither fu c_readSum c_readProduct c_readUnit c_readEither l0 l1 l2 l3 w).symm.trans hF
  refine r_X3_readEither_0 ?_
  refine ⟨⟨_, wh.2.1 10800 _ rfl hv_l1⟩, ?_⟩
  obtain ⟨x2, w1, hG, hF⟩ := bnd_of hF
  refine cl_I (D := 1) (Nat.le_trans (by decide) hd) (c_X8_needSign wh hv_l1 hG) ?_
  clear hG
  clear wh
  intro h wh
  refine ⟨fun c => ?_, fun c => ?_⟩
  · replace hF := if_ofT c hF
    refine ⟨⟨_, wh.2.1 10300 _ rfl hv_l0⟩, ?_⟩
    obtain ⟨u4, w3, hG, hF⟩ := bnd_of hF
    refine cl_V (D := 0) (Nat.le_trans (by decide) hd) (c_X3_add wh hv_l0 hG) ?_
    clear hG
    clear wh
    intro h wh
    obtain ⟨rfl, rfl⟩ := some_of hF
    exact hq _ wh
  · replace hF := if_ofF c hF
    refine ⟨⟨_, wh.2.1 10300 _ rfl hv_l0⟩, ?_⟩
    obtain ⟨x6, w5, hG, hF⟩ := bnd_of hF
    refine cl_I hr (hc_readSum _ _ _ _ _ _ _ wh hv_l0 hv_l1 hG) ?_
    clear hG
    clear wh
    intro h wh
    refine ⟨fun c => ?_, fun c => ?_⟩
    · replace hF := if_ofT c hF
      refine ⟨⟨_, wh.2.1 10300 _ rfl hv_l0⟩, ?_⟩
      obtain ⟨u8, w7, hG, hF⟩ := bnd_of hF
      refine cl_V (D := 0) (Nat.le_trans (by decide) hd) (c_X3_add wh hv_l0 hG) ?_
      clear hG
      clear wh
      intro h wh
      obtain ⟨rfl, rfl⟩ := some_of hF
      exact hq _ wh
    · replace hF := if_ofF c hF
      refine ⟨⟨_, wh.2.1 10800 _ rfl hv_l1⟩, ?_⟩
      obtain ⟨x10, w9, hG, hF⟩ := bnd_of hF
      refine cl_I (D := 1) (Nat.le_trans (by decide) hd) (c_X8_needSign wh hv_l1 hG) ?_
      clear hG
      clear wh
      intro h wh
      refine ⟨fun c => ?_, fun c => ?_⟩
      · replace hF := if_ofT c hF
        refine ⟨⟨_, wh.2.1 10300 _ rfl hv_l0⟩, ?_⟩
        obtain ⟨u12, w11, hG, hF⟩ := bnd_of hF
        refine cl_V (D := 0) (Nat.le_trans (by decide) hd) (c_X3_add wh hv_l0 hG) ?_
        clear hG
        clear wh
        intro h wh
        obtain ⟨rfl, rfl⟩ := some_of hF
        exact hq _ wh
      · replace hF := if_ofF c hF
        refine ⟨⟨_, wh.2.1 10300 _ rfl hv_l0⟩, ?_⟩
        obtain ⟨x14, w13, hG, hF⟩ := bnd_of hF
        refine cl_I hr (hc_readSum _ _ _ _ _ _ _ wh hv_l0 hv_l1 hG) ?_
        clear hG
        clear wh
        intro h wh
        refine ⟨fun c => ?_, fun c => ?_⟩
        · replace hF := if_ofT c hF
          refine ⟨⟨_, wh.2.1 10300 _ rfl hv_l0⟩, ?_⟩
          obtain ⟨u16, w15, hG, hF⟩ := bnd_of hF
          refine cl_V (D := 0) (Nat.le_trans (by decide) hd) (c_X3_add wh hv_l0 hG) ?_
          clear hG
          clear wh
          intro h wh
          obtain ⟨rfl, rfl⟩ := some_of hF
          exact hq _ wh
        · replace hF := if_ofF c hF
          refine ⟨⟨_, wh.2.1 10800 _ rfl hv_l1⟩, ?_⟩
          obtain ⟨x18, w17, hG, hF⟩ := bnd_of hF
          refine cl_I (D := 1) (Nat.le_trans (by decide) hd) (c_X8_needSign wh hv_l1 hG) ?_
          clear hG
          clear wh
          intro h wh
          refine ⟨fun c => ?_, fun c => ?_⟩
          · replace hF := if_ofT c hF
            refine ⟨⟨_, wh.2.1 10300 _ rfl hv_l0⟩, ?_⟩
            obtain ⟨u20, w19, hG, hF⟩ := bnd_of hF
            refine cl_V (D := 0) (Nat.le_trans (by decide) hd) (c_X3_add wh hv_l0 hG) ?_
            clear hG
            clear wh
            intro h wh
            obtain ⟨rfl, rfl⟩ := some_of hF
            exact hq _ wh
          · replace hF := if_ofF c hF
            refine ⟨⟨_, wh.2.1 10300 _ rfl hv_l0⟩, ?_⟩
            obtain ⟨u22, w21, hG, hF⟩ := bnd_of hF
            refine cl_V (D := 0) (Nat.le_trans (by decide) hd) (c_X3_add wh hv_l0 hG) ?_
            clear hG
            clear wh
            intro h wh
            obtain ⟨rfl, rfl⟩ := some_of hF
            exact hq _ wh
def g_X3_readSums (fu : Nat) (p : (Nat → Nat → Int32 → MEM → Option (Int32 × MEM)) × (Nat → Nat → Int32 → MEM → Option (Int32 × MEM)) × (Nat → Nat → Int32 → MEM → Option (Int32 × MEM)) × (Nat → Nat → Int32 → Int32 → MEM → Option (Int32 × MEM))) : (Nat → Nat → Int32 → MEM → Option (Int32 × MEM)) × (Nat → Nat → Int32 → MEM → Option (Int32 × MEM)) × (Nat → Nat → Int32 → MEM → Option (Int32 × MEM)) × (Nat → Nat → Int32 → Int32 → MEM → Option (Int32 × MEM)) := (b_X3_readSum fu p.1 p.2.1 p.2.2.1 p.2.2.2, b_X3_readProduct fu p.1 p.2.1 p.2.2.1 p.2.2.2, b_X3_readUnit fu p.1 p.2.1 p.2.2.1 p.2.2.2, b_X3_readEither fu p.1 p.2.1 p.2.2.1 p.2.2.2)
def g_X3_readSum (fu : Nat) : Nat → (Nat → Nat → Int32 → MEM → Option (Int32 × MEM)) × (Nat → Nat → Int32 → MEM → Option (Int32 × MEM)) × (Nat → Nat → Int32 → MEM → Option (Int32 × MEM)) × (Nat → Nat → Int32 → Int32 → MEM → Option (Int32 × MEM))
  | 0 => ((fun _ _ _ _ => none), (fun _ _ _ _ => none), (fun _ _ _ _ => none), (fun _ _ _ _ _ => none))
  | n + 1 => g_X3_readSums fu (g_X3_readSum fu n)
def f_X3_readSum (fu n : Nat) : Nat → Nat → Int32 → MEM → Option (Int32 × MEM) := (g_X3_readSum fu n).1
def f_X3_readProduct (fu n : Nat) : Nat → Nat → Int32 → MEM → Option (Int32 × MEM) := (g_X3_readSum fu n).2.1
def f_X3_readUnit (fu n : Nat) : Nat → Nat → Int32 → MEM → Option (Int32 × MEM) := (g_X3_readSum fu n).2.2.1
def f_X3_readEither (fu n : Nat) : Nat → Nat → Int32 → Int32 → MEM → Option (Int32 × MEM) := (g_X3_readSum fu n).2.2.2
theorem Et_X3_readSum (fu n : Nat) (a0 : Nat) (a1 : Nat) (a2 : Int32) (w : MEM) : f_X3_readSum fu (n + 1) a0 a1 a2 w = b_X3_readSum fu (f_X3_readSum fu n) (f_X3_readProduct fu n) (f_X3_readUnit fu n) (f_X3_readEither fu n) a0 a1 a2 w := rfl
theorem Et_X3_readProduct (fu n : Nat) (a0 : Nat) (a1 : Nat) (a2 : Int32) (w : MEM) : f_X3_readProduct fu (n + 1) a0 a1 a2 w = b_X3_readProduct fu (f_X3_readSum fu n) (f_X3_readProduct fu n) (f_X3_readUnit fu n) (f_X3_readEither fu n) a0 a1 a2 w := rfl
theorem Et_X3_readUnit (fu n : Nat) (a0 : Nat) (a1 : Nat) (a2 : Int32) (w : MEM) : f_X3_readUnit fu (n + 1) a0 a1 a2 w = b_X3_readUnit fu (f_X3_readSum fu n) (f_X3_readProduct fu n) (f_X3_readUnit fu n) (f_X3_readEither fu n) a0 a1 a2 w := rfl
theorem Et_X3_readEither (fu n : Nat) (a0 : Nat) (a1 : Nat) (a2 : Int32) (a3 : Int32) (w : MEM) : f_X3_readEither fu (n + 1) a0 a1 a2 a3 w = b_X3_readEither fu (f_X3_readSum fu n) (f_X3_readProduct fu n) (f_X3_readUnit fu n) (f_X3_readEither fu n) a0 a1 a2 a3 w := rfl
theorem C_X3_readSum {X : SCR} (fu : Nat) : ∀ n, (∀ (a0 : Nat) (a1 : Nat) (a2 : Int32) (w : MEM) (h : PH) (o : Int32) (w1 : MEM), WH X h w → vo 3 a0 = true → vo 8 a1 = true → f_X3_readSum fu n a0 a1 a2 w = some (o, w1) → CT (8 + n) M_X3_readSum [vR (300, a0), vR (800, a1), vI a2] h 0 0 (QP X (.inl (some (vI o))) w1)) ∧ (∀ (a0 : Nat) (a1 : Nat) (a2 : Int32) (w : MEM) (h : PH) (o : Int32) (w1 : MEM), WH X h w → vo 3 a0 = true → vo 8 a1 = true → f_X3_readProduct fu n a0 a1 a2 w = some (o, w1) → CT (8 + n) M_X3_readProduct [vR (300, a0), vR (800, a1), vI a2] h 0 0 (QP X (.inl (some (vI o))) w1)) ∧ (∀ (a0 : Nat) (a1 : Nat) (a2 : Int32) (w : MEM) (h : PH) (o : Int32) (w1 : MEM), WH X h w → vo 3 a0 = true → vo 8 a1 = true → f_X3_readUnit fu n a0 a1 a2 w = some (o, w1) → CT (8 + n) M_X3_readUnit [vR (300, a0), vR (800, a1), vI a2] h 0 0 (QP X (.inl (some (vI o))) w1)) ∧ (∀ (a0 : Nat) (a1 : Nat) (a2 : Int32) (a3 : Int32) (w : MEM) (h : PH) (o : Int32) (w1 : MEM), WH X h w → vo 3 a0 = true → vo 8 a1 = true → f_X3_readEither fu n a0 a1 a2 a3 w = some (o, w1) → CT (8 + n) M_X3_readEither [vR (300, a0), vR (800, a1), vI a2, vI a3] h 0 0 (QP X (.inl (some (vI o))) w1)) := by
  intro n
  induction n with
  | zero => exact ⟨fun _ _ _ _ _ _ _ _ _ _ hF => (by cases hF), fun _ _ _ _ _ _ _ _ _ _ hF => (by cases hF), fun _ _ _ _ _ _ _ _ _ _ hF => (by cases hF), fun _ _ _ _ _ _ _ _ _ _ _ hF => (by cases hF)⟩
  | succ n ih =>
    refine ⟨?_, ?_, ?_, ?_⟩
    · intro a0 a1 a2 w h o w1 wh g0 g1 hF
      exact CT_of mk_X3_readSum (Nat.le_of_ble_eq_true rfl) rfl (w_X3_readSum (DR := 8 + n) (rc := 0) (rs := 0) (hd := by omega) (hr := by omega) (hc_readSum := ih.1) (hc_readProduct := ih.2.1) (hc_readUnit := ih.2.2.1) (hc_readEither := ih.2.2.2) (hq := fun h1 g => ⟨rfl, g⟩) wh g0 g1 ((Et_X3_readSum fu n a0 a1 a2 w).symm.trans hF))
    · intro a0 a1 a2 w h o w1 wh g0 g1 hF
      exact CT_of mk_X3_readProduct (Nat.le_of_ble_eq_true rfl) rfl (w_X3_readProduct (DR := 8 + n) (rc := 0) (rs := 0) (hd := by omega) (hr := by omega) (hc_readSum := ih.1) (hc_readProduct := ih.2.1) (hc_readUnit := ih.2.2.1) (hc_readEither := ih.2.2.2) (hq := fun h1 g => ⟨rfl, g⟩) wh g0 g1 ((Et_X3_readProduct fu n a0 a1 a2 w).symm.trans hF))
    · intro a0 a1 a2 w h o w1 wh g0 g1 hF
      exact CT_of mk_X3_readUnit (Nat.le_of_ble_eq_true rfl) rfl (w_X3_readUnit (DR := 8 + n) (rc := 0) (rs := 0) (hd := by omega) (hr := by omega) (hc_readSum := ih.1) (hc_readProduct := ih.2.1) (hc_readUnit := ih.2.2.1) (hc_readEither := ih.2.2.2) (hq := fun h1 g => ⟨rfl, g⟩) wh g0 g1 ((Et_X3_readUnit fu n a0 a1 a2 w).symm.trans hF))
    · intro a0 a1 a2 a3 w h o w1 wh g0 g1 hF
      exact CT_of mk_X3_readEither (Nat.le_of_ble_eq_true rfl) rfl (w_X3_readEither (DR := 8 + n) (rc := 0) (rs := 0) (hd := by omega) (hr := by omega) (hc_readSum := ih.1) (hc_readProduct := ih.2.1) (hc_readUnit := ih.2.2.1) (hc_readEither := ih.2.2.2) (hq := fun h1 g => ⟨rfl, g⟩) wh g0 g1 ((Et_X3_readEither fu n a0 a1 a2 a3 w).symm.trans hF))
theorem c_X3_readSum {X : SCR} {fu : Nat} {o : Int32} {w1 : MEM} {a0 : Nat} {a1 : Nat} {a2 : Int32} {w : MEM} {h : PH} (wh : WH X h w) (h0 : vo 3 a0 = true) (h1 : vo 8 a1 = true) (hF : f_X3_readSum fu 40 a0 a1 a2 w = some (o, w1)) : CT 48 M_X3_readSum [vR (300, a0), vR (800, a1), vI a2] h 0 0 (QP X (.inl (some (vI o))) w1) := (C_X3_readSum fu 40).1 a0 a1 a2 w h o w1 wh h0 h1 hF
theorem c_X3_readProduct {X : SCR} {fu : Nat} {o : Int32} {w1 : MEM} {a0 : Nat} {a1 : Nat} {a2 : Int32} {w : MEM} {h : PH} (wh : WH X h w) (h0 : vo 3 a0 = true) (h1 : vo 8 a1 = true) (hF : f_X3_readProduct fu 40 a0 a1 a2 w = some (o, w1)) : CT 48 M_X3_readProduct [vR (300, a0), vR (800, a1), vI a2] h 0 0 (QP X (.inl (some (vI o))) w1) := (C_X3_readSum fu 40).2.1 a0 a1 a2 w h o w1 wh h0 h1 hF
theorem c_X3_readUnit {X : SCR} {fu : Nat} {o : Int32} {w1 : MEM} {a0 : Nat} {a1 : Nat} {a2 : Int32} {w : MEM} {h : PH} (wh : WH X h w) (h0 : vo 3 a0 = true) (h1 : vo 8 a1 = true) (hF : f_X3_readUnit fu 40 a0 a1 a2 w = some (o, w1)) : CT 48 M_X3_readUnit [vR (300, a0), vR (800, a1), vI a2] h 0 0 (QP X (.inl (some (vI o))) w1) := (C_X3_readSum fu 40).2.2.1 a0 a1 a2 w h o w1 wh h0 h1 hF
theorem c_X3_readEither {X : SCR} {fu : Nat} {o : Int32} {w1 : MEM} {a0 : Nat} {a1 : Nat} {a2 : Int32} {a3 : Int32} {w : MEM} {h : PH} (wh : WH X h w) (h0 : vo 3 a0 = true) (h1 : vo 8 a1 = true) (hF : f_X3_readEither fu 40 a0 a1 a2 a3 w = some (o, w1)) : CT 48 M_X3_readEither [vR (300, a0), vR (800, a1), vI a2, vI a3] h 0 0 (QP X (.inl (some (vI o))) w1) := (C_X3_readSum fu 40).2.2.2 a0 a1 a2 a3 w h o w1 wh h0 h1 hF
-- X8_needEnd
def f_X8_needEnd (fu : Nat) (l0 : Nat) (w : MEM) : Option (Int32 × MEM) := bnd (f_X8_peek fu l0 w) fun (x2 : Int32) (w1 : MEM) => if x2 = (-1 : Int32) then (some ((1 : Int32), w1)) else (bnd (f_X8_refuse fu l0 (1 : Int32) w1) fun (x4 : Int32) (w3 : MEM) => if x4 = 0 then (some ((0 : Int32), w3)) else (some ((1 : Int32), w3)))
theorem E_X8_needEnd (fu : Nat) (l0 : Nat) (w : MEM) : f_X8_needEnd fu l0 w = bnd (f_X8_peek fu l0 w) fun (x2 : Int32) (w1 : MEM) => if x2 = (-1 : Int32) then (some ((1 : Int32), w1)) else (bnd (f_X8_refuse fu l0 (1 : Int32) w1) fun (x4 : Int32) (w3 : MEM) => if x4 = 0 then (some ((0 : Int32), w3)) else (some ((1 : Int32), w3))) := rfl
theorem w_X8_needEnd {X : SCR} {d rc rs : Nat} {Q : PO → PH → Prop} {o : Int32} {w1 : MEM} {fu : Nat} (hd : 1 ≤ d) (hq : ∀ h1, WH X h1 w1 → Q (.inl (some (vI o))) h1) {l0 : Nat} {w : MEM} {h : PH} (wh : WH X h w) (hv_l0 : vo 8 l0 = true) (hF : f_X8_needEnd fu l0 w = some (o, w1)) : PW d M_X8_needEnd Q rc rs 0 [vR (800, l0)] [] h := by
  replace hF := (E_X8_needEnd fu l0 w).symm.trans hF
  refine r_X8_needEnd_0 ?_
  refine ⟨⟨_, wh.2.1 10800 _ rfl hv_l0⟩, ?_⟩
  obtain ⟨x2, w1, hG, hF⟩ := bnd_of hF
  refine cl_I (D := 0) (Nat.le_trans (by decide) hd) (c_X8_peek wh hv_l0 hG) ?_
  clear hG
  clear wh
  intro h wh
  refine ⟨fun c => ?_, fun c => ?_⟩
  · replace hF := if_ofT c hF
    obtain ⟨rfl, rfl⟩ := some_of hF
    exact hq _ wh
  · replace hF := if_ofF c hF
    refine ⟨⟨_, wh.2.1 10800 _ rfl hv_l0⟩, ?_⟩
    obtain ⟨x4, w3, hG, hF⟩ := bnd_of hF
    refine cl_I (D := 0) (Nat.le_trans (by decide) hd) (c_X8_refuse wh hv_l0 hG) ?_
    clear hG
    clear wh
    intro h wh
    refine ⟨fun c => ?_, fun c => ?_⟩
    · replace hF := if_ofT c hF
      obtain ⟨rfl, rfl⟩ := some_of hF
      exact hq _ wh
    · replace hF := if_ofF c hF
      obtain ⟨rfl, rfl⟩ := some_of hF
      exact hq _ wh
theorem c_X8_needEnd {X : SCR} {fu : Nat} {o : Int32} {w1 : MEM} {a0 : Nat} {w : MEM} {h : PH} (wh : WH X h w) (h0 : vo 8 a0 = true) (hF : f_X8_needEnd fu a0 w = some (o, w1)) : CT 1 M_X8_needEnd [vR (800, a0)] h 0 0 (QP X (.inl (some (vI o))) w1) :=
  CT_of mk_X8_needEnd (Nat.le_of_ble_eq_true rfl) rfl (w_X8_needEnd (fu := fu) (rc := 0) (rs := 0) (hd := Nat.le_refl 1) (hq := fun h1 g => ⟨rfl, g⟩) wh h0 hF)
-- X3_read
def f_X3_read (fu : Nat) (l0 : Nat) (l1 : Nat) (w : MEM) : Option (Int32 × MEM) := lt (sS w (10304, l0) (0 : Int32)) fun (w1 : MEM) => bnd (f_X3_readSum fu 40 l0 l1 (0 : Int32) w1) fun (x3 : Int32) (w2 : MEM) => if x3 = 0 then (some ((0 : Int32), w2)) else (bnd (f_X8_needEnd fu l1 w2) fun (x5 : Int32) (w4 : MEM) => if x5 = 0 then (some ((0 : Int32), w4)) else (some ((1 : Int32), w4)))
theorem E_X3_read (fu : Nat) (l0 : Nat) (l1 : Nat) (w : MEM) : f_X3_read fu l0 l1 w = lt (sS w (10304, l0) (0 : Int32)) fun (w1 : MEM) => bnd (f_X3_readSum fu 40 l0 l1 (0 : Int32) w1) fun (x3 : Int32) (w2 : MEM) => if x3 = 0 then (some ((0 : Int32), w2)) else (bnd (f_X8_needEnd fu l1 w2) fun (x5 : Int32) (w4 : MEM) => if x5 = 0 then (some ((0 : Int32), w4)) else (some ((1 : Int32), w4))) := rfl
theorem w_X3_read {X : SCR} {d rc rs : Nat} {Q : PO → PH → Prop} {o : Int32} {w1 : MEM} {fu : Nat} (hd : 49 ≤ d) (hq : ∀ h1, WH X h1 w1 → Q (.inl (some (vI o))) h1) {l0 : Nat} {l1 : Nat} {w : MEM} {h : PH} (wh : WH X h w) (hv_l0 : vo 3 l0 = true) (hv_l1 : vo 8 l1 = true) (hF : f_X3_read fu l0 l1 w = some (o, w1)) : PW d M_X3_read Q rc rs 0 [vR (300, l0), vR (800, l1)] [] h := by
  replace hF := (E_X3_read fu l0 l1 w).symm.trans hF
  refine r_X3_read_0 ?_
  replace hF := lt_of hF
  refine sF_S wh rfl hv_l0 ?_
  clear wh
  intro h wh
  refine ⟨⟨_, wh.2.1 10300 _ rfl hv_l0⟩, ?_⟩
  obtain ⟨x3, w2, hG, hF⟩ := bnd_of hF
  refine cl_I (D := 48) (Nat.le_trans (by decide) hd) (c_X3_readSum wh hv_l0 hv_l1 hG) ?_
  clear hG
  clear wh
  intro h wh
  refine ⟨fun c => ?_, fun c => ?_⟩
  · replace hF := if_ofT c hF
    obtain ⟨rfl, rfl⟩ := some_of hF
    exact hq _ wh
  · replace hF := if_ofF c hF
    refine ⟨⟨_, wh.2.1 10800 _ rfl hv_l1⟩, ?_⟩
    obtain ⟨x5, w4, hG, hF⟩ := bnd_of hF
    refine cl_I (D := 1) (Nat.le_trans (by decide) hd) (c_X8_needEnd wh hv_l1 hG) ?_
    clear hG
    clear wh
    intro h wh
    refine ⟨fun c => ?_, fun c => ?_⟩
    · replace hF := if_ofT c hF
      obtain ⟨rfl, rfl⟩ := some_of hF
      exact hq _ wh
    · replace hF := if_ofF c hF
      obtain ⟨rfl, rfl⟩ := some_of hF
      exact hq _ wh
theorem c_X3_read {X : SCR} {fu : Nat} {o : Int32} {w1 : MEM} {a0 : Nat} {a1 : Nat} {w : MEM} {h : PH} (wh : WH X h w) (h0 : vo 3 a0 = true) (h1 : vo 8 a1 = true) (hF : f_X3_read fu a0 a1 w = some (o, w1)) : CT 49 M_X3_read [vR (300, a0), vR (800, a1)] h 0 0 (QP X (.inl (some (vI o))) w1) :=
  CT_of mk_X3_read (Nat.le_of_ble_eq_true rfl) rfl (w_X3_read (fu := fu) (rc := 0) (rs := 0) (hd := Nat.le_refl 49) (hq := fun h1 g => ⟨rfl, g⟩) wh h0 h1 hF)
-- X3_setHeir
def f_X3_setHeir (fu : Nat) (l0 : Nat) (l1 : Int32) (l2 : Int32) (l3 : Int32) (w : MEM) : Option (Unit × MEM) := ck (bI (0 : Int32) 9) (lt (sA w (304, l0) (0 : Int32) l1) fun (w1 : MEM) => ck (bI (1 : Int32) 9) (lt (sA w1 (304, l0) (1 : Int32) l2) fun (w2 : MEM) => ck (bI (8 : Int32) 9) (lt (sA w2 (304, l0) (8 : Int32) l3) fun (w3 : MEM) => some ((), w3))))
theorem E_X3_setHeir (fu : Nat) (l0 : Nat) (l1 : Int32) (l2 : Int32) (l3 : Int32) (w : MEM) : f_X3_setHeir fu l0 l1 l2 l3 w = ck (bI (0 : Int32) 9) (lt (sA w (304, l0) (0 : Int32) l1) fun (w1 : MEM) => ck (bI (1 : Int32) 9) (lt (sA w1 (304, l0) (1 : Int32) l2) fun (w2 : MEM) => ck (bI (8 : Int32) 9) (lt (sA w2 (304, l0) (8 : Int32) l3) fun (w3 : MEM) => some ((), w3)))) := rfl
theorem w_X3_setHeir {X : SCR} {d rc rs : Nat} {Q : PO → PH → Prop} {o : Unit} {w1 : MEM} {fu : Nat} (hd : 0 ≤ d) (hq : ∀ h1, WH X h1 w1 → Q (.inl none) h1) {l0 : Nat} {l1 : Int32} {l2 : Int32} {l3 : Int32} {w : MEM} {h : PH} (wh : WH X h w) (hv_l0 : vo 3 l0 = true) (hF : f_X3_setHeir fu l0 l1 l2 l3 w = some (o, w1)) : PW d M_X3_setHeir Q rc rs 0 [vR (300, l0), vI l1, vI l2, vI l3] [] h := by
  replace hF := (E_X3_setHeir fu l0 l1 l2 l3 w).symm.trans hF
  refine r_X3_setHeir_0 ?_
  refine gA_of (b := (304, l0)) (wh.2.1 10303 _ rfl hv_l0) ?_
  obtain ⟨c, hF⟩ := ck_of hF
  replace hF := lt_of hF
  refine yI_of wh (oA_304 hv_l0) c ?_
  clear c wh
  intro h wh
  refine gA_of (b := (304, l0)) (wh.2.1 10303 _ rfl hv_l0) ?_
  obtain ⟨c, hF⟩ := ck_of hF
  replace hF := lt_of hF
  refine yI_of wh (oA_304 hv_l0) c ?_
  clear c wh
  intro h wh
  refine gA_of (b := (304, l0)) (wh.2.1 10303 _ rfl hv_l0) ?_
  obtain ⟨c, hF⟩ := ck_of hF
  replace hF := lt_of hF
  refine yI_of wh (oA_304 hv_l0) c ?_
  clear c wh
  intro h wh
  obtain ⟨rfl, rfl⟩ := some_of hF
  exact hq _ wh
theorem c_X3_setHeir {X : SCR} {fu : Nat} {o : Unit} {w1 : MEM} {a0 : Nat} {a1 : Int32} {a2 : Int32} {a3 : Int32} {w : MEM} {h : PH} (wh : WH X h w) (h0 : vo 3 a0 = true) (hF : f_X3_setHeir fu a0 a1 a2 a3 w = some (o, w1)) : CT 0 M_X3_setHeir [vR (300, a0), vI a1, vI a2, vI a3] h 0 0 (QP X (.inl none) w1) :=
  CT_of mk_X3_setHeir (Nat.le_of_ble_eq_true rfl) rfl (w_X3_setHeir (fu := fu) (rc := 0) (rs := 0) (hd := Nat.le_refl 0) (hq := fun h1 g => ⟨rfl, g⟩) wh h0 hF)
-- X3_setGlass
def f_X3_setGlass (fu : Nat) (l0 : Nat) (l1 : Int32) (l2 : Int32) (l3 : Int32) (l4 : Int32) (w : MEM) : Option (Unit × MEM) := ck (bI (2 : Int32) 9) (lt (sA w (304, l0) (2 : Int32) l1) fun (w1 : MEM) => ck (bI (3 : Int32) 9) (lt (sA w1 (304, l0) (3 : Int32) l2) fun (w2 : MEM) => ck (bI (4 : Int32) 9) (lt (sA w2 (304, l0) (4 : Int32) l3) fun (w3 : MEM) => ck (bI (5 : Int32) 9) (lt (sA w3 (304, l0) (5 : Int32) l4) fun (w4 : MEM) => some ((), w4)))))
theorem E_X3_setGlass (fu : Nat) (l0 : Nat) (l1 : Int32) (l2 : Int32) (l3 : Int32) (l4 : Int32) (w : MEM) : f_X3_setGlass fu l0 l1 l2 l3 l4 w = ck (bI (2 : Int32) 9) (lt (sA w (304, l0) (2 : Int32) l1) fun (w1 : MEM) => ck (bI (3 : Int32) 9) (lt (sA w1 (304, l0) (3 : Int32) l2) fun (w2 : MEM) => ck (bI (4 : Int32) 9) (lt (sA w2 (304, l0) (4 : Int32) l3) fun (w3 : MEM) => ck (bI (5 : Int32) 9) (lt (sA w3 (304, l0) (5 : Int32) l4) fun (w4 : MEM) => some ((), w4))))) := rfl
theorem w_X3_setGlass {X : SCR} {d rc rs : Nat} {Q : PO → PH → Prop} {o : Unit} {w1 : MEM} {fu : Nat} (hd : 0 ≤ d) (hq : ∀ h1, WH X h1 w1 → Q (.inl none) h1) {l0 : Nat} {l1 : Int32} {l2 : Int32} {l3 : Int32} {l4 : Int32} {w : MEM} {h : PH} (wh : WH X h w) (hv_l0 : vo 3 l0 = true) (hF : f_X3_setGlass fu l0 l1 l2 l3 l4 w = some (o, w1)) : PW d M_X3_setGlass Q rc rs 0 [vR (300, l0), vI l1, vI l2, vI l3, vI l4] [] h := by
  replace hF := (E_X3_setGlass fu l0 l1 l2 l3 l4 w).symm.trans hF
  refine r_X3_setGlass_0 ?_
  refine gA_of (b := (304, l0)) (wh.2.1 10303 _ rfl hv_l0) ?_
  obtain ⟨c, hF⟩ := ck_of hF
  replace hF := lt_of hF
  refine yI_of wh (oA_304 hv_l0) c ?_
  clear c wh
  intro h wh
  refine gA_of (b := (304, l0)) (wh.2.1 10303 _ rfl hv_l0) ?_
  obtain ⟨c, hF⟩ := ck_of hF
  replace hF := lt_of hF
  refine yI_of wh (oA_304 hv_l0) c ?_
  clear c wh
  intro h wh
  refine gA_of (b := (304, l0)) (wh.2.1 10303 _ rfl hv_l0) ?_
  obtain ⟨c, hF⟩ := ck_of hF
  replace hF := lt_of hF
  refine yI_of wh (oA_304 hv_l0) c ?_
  clear c wh
  intro h wh
  refine gA_of (b := (304, l0)) (wh.2.1 10303 _ rfl hv_l0) ?_
  obtain ⟨c, hF⟩ := ck_of hF
  replace hF := lt_of hF
  refine yI_of wh (oA_304 hv_l0) c ?_
  clear c wh
  intro h wh
  obtain ⟨rfl, rfl⟩ := some_of hF
  exact hq _ wh
theorem c_X3_setGlass {X : SCR} {fu : Nat} {o : Unit} {w1 : MEM} {a0 : Nat} {a1 : Int32} {a2 : Int32} {a3 : Int32} {a4 : Int32} {w : MEM} {h : PH} (wh : WH X h w) (h0 : vo 3 a0 = true) (hF : f_X3_setGlass fu a0 a1 a2 a3 a4 w = some (o, w1)) : CT 0 M_X3_setGlass [vR (300, a0), vI a1, vI a2, vI a3, vI a4] h 0 0 (QP X (.inl none) w1) :=
  CT_of mk_X3_setGlass (Nat.le_of_ble_eq_true rfl) rfl (w_X3_setGlass (fu := fu) (rc := 0) (rs := 0) (hd := Nat.le_refl 0) (hq := fun h1 g => ⟨rfl, g⟩) wh h0 hF)
-- X3_setHour
def f_X3_setHour (fu : Nat) (l0 : Nat) (l1 : Int32) (l2 : Int32) (w : MEM) : Option (Unit × MEM) := ck (bI (6 : Int32) 9) (lt (sA w (304, l0) (6 : Int32) l1) fun (w1 : MEM) => ck (bI (7 : Int32) 9) (lt (sA w1 (304, l0) (7 : Int32) l2) fun (w2 : MEM) => some ((), w2)))
theorem E_X3_setHour (fu : Nat) (l0 : Nat) (l1 : Int32) (l2 : Int32) (w : MEM) : f_X3_setHour fu l0 l1 l2 w = ck (bI (6 : Int32) 9) (lt (sA w (304, l0) (6 : Int32) l1) fun (w1 : MEM) => ck (bI (7 : Int32) 9) (lt (sA w1 (304, l0) (7 : Int32) l2) fun (w2 : MEM) => some ((), w2))) := rfl
theorem w_X3_setHour {X : SCR} {d rc rs : Nat} {Q : PO → PH → Prop} {o : Unit} {w1 : MEM} {fu : Nat} (hd : 0 ≤ d) (hq : ∀ h1, WH X h1 w1 → Q (.inl none) h1) {l0 : Nat} {l1 : Int32} {l2 : Int32} {w : MEM} {h : PH} (wh : WH X h w) (hv_l0 : vo 3 l0 = true) (hF : f_X3_setHour fu l0 l1 l2 w = some (o, w1)) : PW d M_X3_setHour Q rc rs 0 [vR (300, l0), vI l1, vI l2] [] h := by
  replace hF := (E_X3_setHour fu l0 l1 l2 w).symm.trans hF
  refine r_X3_setHour_0 ?_
  refine gA_of (b := (304, l0)) (wh.2.1 10303 _ rfl hv_l0) ?_
  obtain ⟨c, hF⟩ := ck_of hF
  replace hF := lt_of hF
  refine yI_of wh (oA_304 hv_l0) c ?_
  clear c wh
  intro h wh
  refine gA_of (b := (304, l0)) (wh.2.1 10303 _ rfl hv_l0) ?_
  obtain ⟨c, hF⟩ := ck_of hF
  replace hF := lt_of hF
  refine yI_of wh (oA_304 hv_l0) c ?_
  clear c wh
  intro h wh
  obtain ⟨rfl, rfl⟩ := some_of hF
  exact hq _ wh
theorem c_X3_setHour {X : SCR} {fu : Nat} {o : Unit} {w1 : MEM} {a0 : Nat} {a1 : Int32} {a2 : Int32} {w : MEM} {h : PH} (wh : WH X h w) (h0 : vo 3 a0 = true) (hF : f_X3_setHour fu a0 a1 a2 w = some (o, w1)) : CT 0 M_X3_setHour [vR (300, a0), vI a1, vI a2] h 0 0 (QP X (.inl none) w1) :=
  CT_of mk_X3_setHour (Nat.le_of_ble_eq_true rfl) rfl (w_X3_setHour (fu := fu) (rc := 0) (rs := 0) (hd := Nat.le_refl 0) (hq := fun h1 g => ⟨rfl, g⟩) wh h0 hF)
-- X3_joined
def f_X3_joined (fu : Nat) (l0 : Int32) (l1 : Int32) (l2 : Int32) (w : MEM) : Option (Int32 × MEM) := if l0 = (2 : Int32) then (if l1 < l2 then (some (l1, w)) else (some (l2, w))) else (if l0 = (37 : Int32) then (if l2 = 0 then (some ((0 : Int32), w)) else (if l2 = 0 then none else (some ((l1 - l1 / l2 * l2), w)))) else (if l0 = (42 : Int32) then (some ((l1 * l2), w)) else (if l0 = (43 : Int32) then (some ((l1 + l2), w)) else (if l0 = (45 : Int32) then (some ((l1 - l2), w)) else (if l0 = (47 : Int32) then (if l2 = 0 then (some ((0 : Int32), w)) else (if l2 = 0 then none else (some ((l1 / l2), w)))) else (if l2 < l1 then (some (l1, w)) else (some (l2, w))))))))
theorem E_X3_joined (fu : Nat) (l0 : Int32) (l1 : Int32) (l2 : Int32) (w : MEM) : f_X3_joined fu l0 l1 l2 w = if l0 = (2 : Int32) then (if l1 < l2 then (some (l1, w)) else (some (l2, w))) else (if l0 = (37 : Int32) then (if l2 = 0 then (some ((0 : Int32), w)) else (if l2 = 0 then none else (some ((l1 - l1 / l2 * l2), w)))) else (if l0 = (42 : Int32) then (some ((l1 * l2), w)) else (if l0 = (43 : Int32) then (some ((l1 + l2), w)) else (if l0 = (45 : Int32) then (some ((l1 - l2), w)) else (if l0 = (47 : Int32) then (if l2 = 0 then (some ((0 : Int32), w)) else (if l2 = 0 then none else (some ((l1 / l2), w)))) else (if l2 < l1 then (some (l1, w)) else (some (l2, w)))))))) := rfl
theorem w_X3_joined {X : SCR} {d rc rs : Nat} {Q : PO → PH → Prop} {o : Int32} {w1 : MEM} {fu : Nat} (hd : 0 ≤ d) (hq : ∀ h1, WH X h1 w1 → Q (.inl (some (vI o))) h1) {l0 : Int32} {l1 : Int32} {l2 : Int32} {w : MEM} {h : PH} (wh : WH X h w)  (hF : f_X3_joined fu l0 l1 l2 w = some (o, w1)) : PW d M_X3_joined Q rc rs 0 [vI l0, vI l1, vI l2] [] h := by
  replace hF := (E_X3_joined fu l0 l1 l2 w).symm.trans hF
  refine r_X3_joined_0 ?_
  refine ⟨fun c => ?_, fun c => ?_, fun c => ?_, fun c => ?_, fun c => ?_, fun c => ?_, fun c => ?_⟩
  · replace hF := if_ofT c hF
    refine ⟨fun c => ?_, fun c => ?_⟩
    · replace hF := if_ofT c hF
      obtain ⟨rfl, rfl⟩ := some_of hF
      exact hq _ wh
    · replace hF := if_ofF c hF
      obtain ⟨rfl, rfl⟩ := some_of hF
      exact hq _ wh
  · replace hF := if_ofF (fun e9 => absurd (c.symm.trans e9) (by decide)) hF; replace hF := if_ofT c hF
    refine ⟨fun c => ?_, fun c => ?_⟩
    · replace hF := if_ofT c hF
      obtain ⟨rfl, rfl⟩ := some_of hF
      exact hq _ wh
    · replace hF := if_ofF c hF
      obtain ⟨c, hF⟩ := nzF_of hF
      refine ⟨c, ?_⟩
      obtain ⟨rfl, rfl⟩ := some_of hF
      exact hq _ wh
  · replace hF := if_ofF (fun e9 => absurd (c.symm.trans e9) (by decide)) hF; replace hF := if_ofF (fun e9 => absurd (c.symm.trans e9) (by decide)) hF; replace hF := if_ofT c hF
    obtain ⟨rfl, rfl⟩ := some_of hF
    exact hq _ wh
  · replace hF := if_ofF (fun e9 => absurd (c.symm.trans e9) (by decide)) hF; replace hF := if_ofF (fun e9 => absurd (c.symm.trans e9) (by decide)) hF; replace hF := if_ofF (fun e9 => absurd (c.symm.trans e9) (by decide)) hF; replace hF := if_ofT c hF
    obtain ⟨rfl, rfl⟩ := some_of hF
    exact hq _ wh
  · replace hF := if_ofF (fun e9 => absurd (c.symm.trans e9) (by decide)) hF; replace hF := if_ofF (fun e9 => absurd (c.symm.trans e9) (by decide)) hF; replace hF := if_ofF (fun e9 => absurd (c.symm.trans e9) (by decide)) hF; replace hF := if_ofF (fun e9 => absurd (c.symm.trans e9) (by decide)) hF; replace hF := if_ofT c hF
    obtain ⟨rfl, rfl⟩ := some_of hF
    exact hq _ wh
  · replace hF := if_ofF (fun e9 => absurd (c.symm.trans e9) (by decide)) hF; replace hF := if_ofF (fun e9 => absurd (c.symm.trans e9) (by decide)) hF; replace hF := if_ofF (fun e9 => absurd (c.symm.trans e9) (by decide)) hF; replace hF := if_ofF (fun e9 => absurd (c.symm.trans e9) (by decide)) hF; replace hF := if_ofF (fun e9 => absurd (c.symm.trans e9) (by decide)) hF; replace hF := if_ofT c hF
    refine ⟨fun c => ?_, fun c => ?_⟩
    · replace hF := if_ofT c hF
      obtain ⟨rfl, rfl⟩ := some_of hF
      exact hq _ wh
    · replace hF := if_ofF c hF
      obtain ⟨c, hF⟩ := nzF_of hF
      refine ⟨c, ?_⟩
      obtain ⟨rfl, rfl⟩ := some_of hF
      exact hq _ wh
  · replace hF := if_ofF c.1 hF; replace hF := if_ofF c.2.1 hF; replace hF := if_ofF c.2.2.1 hF; replace hF := if_ofF c.2.2.2.1 hF; replace hF := if_ofF c.2.2.2.2.1 hF; replace hF := if_ofF c.2.2.2.2.2 hF
    refine ⟨fun c => ?_, fun c => ?_⟩
    · replace hF := if_ofT c hF
      obtain ⟨rfl, rfl⟩ := some_of hF
      exact hq _ wh
    · replace hF := if_ofF c hF
      obtain ⟨rfl, rfl⟩ := some_of hF
      exact hq _ wh
theorem c_X3_joined {X : SCR} {fu : Nat} {o : Int32} {w1 : MEM} {a0 : Int32} {a1 : Int32} {a2 : Int32} {w : MEM} {h : PH} (wh : WH X h w)  (hF : f_X3_joined fu a0 a1 a2 w = some (o, w1)) : CT 0 M_X3_joined [vI a0, vI a1, vI a2] h 0 0 (QP X (.inl (some (vI o))) w1) :=
  CT_of mk_X3_joined (Nat.le_of_ble_eq_true rfl) rfl (w_X3_joined (fu := fu) (rc := 0) (rs := 0) (hd := Nat.le_refl 0) (hq := fun h1 g => ⟨rfl, g⟩) wh  hF)
-- J9_max_7cf53
def f_J9_max_7cf53 (fu : Nat) (l0 : Int32) (l1 : Int32) (w : MEM) : Option (Int32 × MEM) := if l0 < l1 then (some (l1, w)) else (some (l0, w))
theorem E_J9_max_7cf53 (fu : Nat) (l0 : Int32) (l1 : Int32) (w : MEM) : f_J9_max_7cf53 fu l0 l1 w = if l0 < l1 then (some (l1, w)) else (some (l0, w)) := rfl
theorem w_J9_max_7cf53 {X : SCR} {d rc rs : Nat} {Q : PO → PH → Prop} {o : Int32} {w1 : MEM} {fu : Nat} (hd : 0 ≤ d) (hq : ∀ h1, WH X h1 w1 → Q (.inl (some (vI o))) h1) {l0 : Int32} {l1 : Int32} {w : MEM} {h : PH} (wh : WH X h w)  (hF : f_J9_max_7cf53 fu l0 l1 w = some (o, w1)) : PW d M_J9_max_7cf53 Q rc rs 0 [vI l0, vI l1] [] h := by
  replace hF := (E_J9_max_7cf53 fu l0 l1 w).symm.trans hF
  refine r_J9_max_7cf53_0 ?_
  refine ⟨fun c => ?_, fun c => ?_⟩
  · replace hF := if_ofT c hF
    obtain ⟨rfl, rfl⟩ := some_of hF
    exact hq _ wh
  · replace hF := if_ofF c hF
    obtain ⟨rfl, rfl⟩ := some_of hF
    exact hq _ wh
theorem c_J9_max_7cf53 {X : SCR} {fu : Nat} {o : Int32} {w1 : MEM} {a0 : Int32} {a1 : Int32} {w : MEM} {h : PH} (wh : WH X h w)  (hF : f_J9_max_7cf53 fu a0 a1 w = some (o, w1)) : CT 0 M_J9_max_7cf53 [vI a0, vI a1] h 0 0 (QP X (.inl (some (vI o))) w1) :=
  CT_of mk_J9_max_7cf53 (Nat.le_of_ble_eq_true rfl) rfl (w_J9_max_7cf53 (fu := fu) (rc := 0) (rs := 0) (hd := Nat.le_refl 0) (hq := fun h1 g => ⟨rfl, g⟩) wh  hF)
-- X3_comes
def f_X3_comes_4 (fu : Nat) : Nat → Nat → Int32 → Int32 → MEM → Option (Int32 × MEM)
  | 0, _, _, _, _ => none
  | n + 1, l0, l1, l2, w => if l2 < (rS w (10304, l0)) then (if l1 < (150 : Int32) then (ck (bI l2 150) (lt ((rA w (301, l0) l2)) fun (v9 : Int32) => ck (bI l2 150) (lt ((rA w (302, l0) l2)) fun (v10 : Int32) => if v9 = 0 then (ck (bI l1 150) (lt (sA w (303, l0) l1 v10) fun (w17 : MEM) => f_X3_comes_4 fu n l0 (l1 + (1 : Int32)) (l2 + (1 : Int32)) w17)) else (if v9 = (1 : Int32) then (if v10 < 0 then (ck (bI l1 150) (lt (sA w (303, l0) l1 (0 : Int32)) fun (w14 : MEM) => f_X3_comes_4 fu n l0 (l1 + (1 : Int32)) (l2 + (1 : Int32)) w14)) else (if v10 < (9 : Int32) then (ck (bI v10 9) (ck (bI l1 150) (lt (sA w (303, l0) l1 (rA w (304, l0) v10)) fun (w16 : MEM) => f_X3_comes_4 fu n l0 (l1 + (1 : Int32)) (l2 + (1 : Int32)) w16))) else (ck (bI l1 150) (lt (sA w (303, l0) l1 (0 : Int32)) fun (w15 : MEM) => f_X3_comes_4 fu n l0 (l1 + (1 : Int32)) (l2 + (1 : Int32)) w15)))) else (if l1 < (2 : Int32) then (f_X3_comes_4 fu n l0 l1 (l2 + (1 : Int32)) w) else (ck (bI ((l1 + (-1 : Int32)) - (1 : Int32)) 150) (ck (bI (l1 + (-1 : Int32)) 150) (bnd (f_X3_joined fu v9 (rA w (303, l0) ((l1 + (-1 : Int32)) - (1 : Int32))) (rA w (303, l0) (l1 + (-1 : Int32))) w) fun (x12 : Int32) (w11 : MEM) => ck (bI ((l1 + (-1 : Int32)) - (1 : Int32)) 150) (lt (sA w11 (303, l0) ((l1 + (-1 : Int32)) - (1 : Int32)) x12) fun (w13 : MEM) => f_X3_comes_4 fu n l0 (l1 + (-1 : Int32)) (l2 + (1 : Int32)) w13))))))))) else (ck (bI (0 : Int32) 150) (bnd (f_J9_min_7cf53 fu (40 : Int32) (rA w (303, l0) (0 : Int32)) w) fun (x6 : Int32) (w5 : MEM) => bnd (f_J9_max_7cf53 fu (0 : Int32) x6 w5) fun (x8 : Int32) (w7 : MEM) => some (x8, w7)))) else (ck (bI (0 : Int32) 150) (bnd (f_J9_min_7cf53 fu (40 : Int32) (rA w (303, l0) (0 : Int32)) w) fun (x2 : Int32) (w1 : MEM) => bnd (f_J9_max_7cf53 fu (0 : Int32) x2 w1) fun (x4 : Int32) (w3 : MEM) => some (x4, w3)))
theorem E_X3_comes_4 (fu : Nat) (n : Nat) (l0 : Nat) (l1 : Int32) (l2 : Int32) (w : MEM) : f_X3_comes_4 fu (n + 1) l0 l1 l2 w = if l2 < (rS w (10304, l0)) then (if l1 < (150 : Int32) then (ck (bI l2 150) (lt ((rA w (301, l0) l2)) fun (v9 : Int32) => ck (bI l2 150) (lt ((rA w (302, l0) l2)) fun (v10 : Int32) => if v9 = 0 then (ck (bI l1 150) (lt (sA w (303, l0) l1 v10) fun (w17 : MEM) => f_X3_comes_4 fu n l0 (l1 + (1 : Int32)) (l2 + (1 : Int32)) w17)) else (if v9 = (1 : Int32) then (if v10 < 0 then (ck (bI l1 150) (lt (sA w (303, l0) l1 (0 : Int32)) fun (w14 : MEM) => f_X3_comes_4 fu n l0 (l1 + (1 : Int32)) (l2 + (1 : Int32)) w14)) else (if v10 < (9 : Int32) then (ck (bI v10 9) (ck (bI l1 150) (lt (sA w (303, l0) l1 (rA w (304, l0) v10)) fun (w16 : MEM) => f_X3_comes_4 fu n l0 (l1 + (1 : Int32)) (l2 + (1 : Int32)) w16))) else (ck (bI l1 150) (lt (sA w (303, l0) l1 (0 : Int32)) fun (w15 : MEM) => f_X3_comes_4 fu n l0 (l1 + (1 : Int32)) (l2 + (1 : Int32)) w15)))) else (if l1 < (2 : Int32) then (f_X3_comes_4 fu n l0 l1 (l2 + (1 : Int32)) w) else (ck (bI ((l1 + (-1 : Int32)) - (1 : Int32)) 150) (ck (bI (l1 + (-1 : Int32)) 150) (bnd (f_X3_joined fu v9 (rA w (303, l0) ((l1 + (-1 : Int32)) - (1 : Int32))) (rA w (303, l0) (l1 + (-1 : Int32))) w) fun (x12 : Int32) (w11 : MEM) => ck (bI ((l1 + (-1 : Int32)) - (1 : Int32)) 150) (lt (sA w11 (303, l0) ((l1 + (-1 : Int32)) - (1 : Int32)) x12) fun (w13 : MEM) => f_X3_comes_4 fu n l0 (l1 + (-1 : Int32)) (l2 + (1 : Int32)) w13))))))))) else (ck (bI (0 : Int32) 150) (bnd (f_J9_min_7cf53 fu (40 : Int32) (rA w (303, l0) (0 : Int32)) w) fun (x6 : Int32) (w5 : MEM) => bnd (f_J9_max_7cf53 fu (0 : Int32) x6 w5) fun (x8 : Int32) (w7 : MEM) => some (x8, w7)))) else (ck (bI (0 : Int32) 150) (bnd (f_J9_min_7cf53 fu (40 : Int32) (rA w (303, l0) (0 : Int32)) w) fun (x2 : Int32) (w1 : MEM) => bnd (f_J9_max_7cf53 fu (0 : Int32) x2 w1) fun (x4 : Int32) (w3 : MEM) => some (x4, w3))) := rfl
theorem w_X3_comes_4 {X : SCR} {d rc rs : Nat} {Q : PO → PH → Prop} {o : Int32} {w1 : MEM} {fu : Nat} (hd : 1 ≤ d) (hq : ∀ h1, WH X h1 w1 → Q (.inl (some (vI o))) h1) : ∀ (n : Nat) (l0 : Nat) (l1 : Int32) (l2 : Int32) (w : MEM) (h : PH), WH X h w → vo 3 l0 = true → f_X3_comes_4 fu n l0 l1 l2 w = some (o, w1) → PW d M_X3_comes Q rc rs 4 [vR (300, l0), vI l1, vI l2, vU, vU] [] h := by
  intro n
  induction n with
  | zero => intro l0 l1 l2 w h wh hv_l0 hF; cases hF
  | succ n ih =>
    intro l0 l1 l2 w h wh hv_l0 hF
    replace hF := (E_X3_comes_4 fu n l0 l1 l2 w).symm.trans hF
    refine r_X3_comes_4 ?_
    refine gI_of (wh.1 10304 _ rfl hv_l0) ?_
    refine ⟨fun c => ?_, fun c => ?_⟩
    · replace hF := if_ofT c hF
      refine ⟨fun c => ?_, fun c => ?_⟩
      · replace hF := if_ofT c hF
        refine gA_of (b := (301, l0)) (wh.2.1 10300 _ rfl hv_l0) ?_
        obtain ⟨c, hF⟩ := ck_of hF
        refine xI_of wh (oA_301 hv_l0) c ?_
        clear c
        replace hF := lt_of hF
        refine gA_of (b := (302, l0)) (wh.2.1 10301 _ rfl hv_l0) ?_
        obtain ⟨c, hF⟩ := ck_of hF
        refine xI_of wh (oA_302 hv_l0) c ?_
        clear c
        replace hF := lt_of hF
        refine ⟨fun c => ?_, fun c => ?_⟩
        · replace hF := if_ofT c hF
          refine gA_of (b := (303, l0)) (wh.2.1 10302 _ rfl hv_l0) ?_
          obtain ⟨c, hF⟩ := ck_of hF
          replace hF := lt_of hF
          refine yI_of wh (oA_303 hv_l0) c ?_
          clear c wh
          intro h wh
          exact ih _ _ _ _ _ wh hv_l0 hF
        · replace hF := if_ofF c hF
          refine ⟨fun c => ?_, fun c => ?_⟩
          · replace hF := if_ofT c hF
            refine gA_of (b := (303, l0)) (wh.2.1 10302 _ rfl hv_l0) ?_
            refine ⟨fun c => ?_, fun c => ?_⟩
            · replace hF := if_ofT c hF
              obtain ⟨c, hF⟩ := ck_of hF
              replace hF := lt_of hF
              refine yI_of wh (oA_303 hv_l0) c ?_
              clear c wh
              intro h wh
              exact ih _ _ _ _ _ wh hv_l0 hF
            · replace hF := if_ofF c hF
              refine ⟨fun c => ?_, fun c => ?_⟩
              · replace hF := if_ofT c hF
                refine gA_of (b := (304, l0)) (wh.2.1 10303 _ rfl hv_l0) ?_
                obtain ⟨c, hF⟩ := ck_of hF
                refine xI_of wh (oA_304 hv_l0) c ?_
                clear c
                obtain ⟨c, hF⟩ := ck_of hF
                replace hF := lt_of hF
                refine yI_of wh (oA_303 hv_l0) c ?_
                clear c wh
                intro h wh
                exact ih _ _ _ _ _ wh hv_l0 hF
              · replace hF := if_ofF c hF
                obtain ⟨c, hF⟩ := ck_of hF
                replace hF := lt_of hF
                refine yI_of wh (oA_303 hv_l0) c ?_
                clear c wh
                intro h wh
                exact ih _ _ _ _ _ wh hv_l0 hF
          · replace hF := if_ofF c hF
            refine ⟨fun c => ?_, fun c => ?_⟩
            · replace hF := if_ofT c hF
              exact ih _ _ _ _ _ wh hv_l0 hF
            · replace hF := if_ofF c hF
              refine gA_of (b := (303, l0)) (wh.2.1 10302 _ rfl hv_l0) ?_
              refine gA_of (b := (303, l0)) (wh.2.1 10302 _ rfl hv_l0) ?_
              obtain ⟨c, hF⟩ := ck_of hF
              refine xI_of wh (oA_303 hv_l0) c ?_
              clear c
              refine gA_of (b := (303, l0)) (wh.2.1 10302 _ rfl hv_l0) ?_
              obtain ⟨c, hF⟩ := ck_of hF
              refine xI_of wh (oA_303 hv_l0) c ?_
              clear c
              obtain ⟨x12, w11, hG, hF⟩ := bnd_of hF
              refine cl_I (D := 0) (Nat.le_trans (by decide) hd) (c_X3_joined wh  hG) ?_
              clear hG
              clear wh
              intro h wh
              obtain ⟨c, hF⟩ := ck_of hF
              replace hF := lt_of hF
              refine yI_of wh (oA_303 hv_l0) c ?_
              clear c wh
              intro h wh
              exact ih _ _ _ _ _ wh hv_l0 hF
      · replace hF := if_ofF c hF
        refine gA_of (b := (303, l0)) (wh.2.1 10302 _ rfl hv_l0) ?_
        obtain ⟨c, hF⟩ := ck_of hF
        refine xI_of wh (oA_303 hv_l0) c ?_
        clear c
        obtain ⟨x6, w5, hG, hF⟩ := bnd_of hF
        refine cl_I (D := 0) (Nat.le_trans (by decide) hd) (c_J9_min_7cf53 wh  hG) ?_
        clear hG
        clear wh
        intro h wh
        obtain ⟨x8, w7, hG, hF⟩ := bnd_of hF
        refine cl_I (D := 0) (Nat.le_trans (by decide) hd) (c_J9_max_7cf53 wh  hG) ?_
        clear hG
        clear wh
        intro h wh
        obtain ⟨rfl, rfl⟩ := some_of hF
        exact hq _ wh
    · replace hF := if_ofF c hF
      refine gA_of (b := (303, l0)) (wh.2.1 10302 _ rfl hv_l0) ?_
      obtain ⟨c, hF⟩ := ck_of hF
      refine xI_of wh (oA_303 hv_l0) c ?_
      clear c
      obtain ⟨x2, w1, hG, hF⟩ := bnd_of hF
      refine cl_I (D := 0) (Nat.le_trans (by decide) hd) (c_J9_min_7cf53 wh  hG) ?_
      clear hG
      clear wh
      intro h wh
      obtain ⟨x4, w3, hG, hF⟩ := bnd_of hF
      refine cl_I (D := 0) (Nat.le_trans (by decide) hd) (c_J9_max_7cf53 wh  hG) ?_
      clear hG
      clear wh
      intro h wh
      obtain ⟨rfl, rfl⟩ := some_of hF
      exact hq _ wh
def f_X3_comes (fu : Nat) (l0 : Nat) (w : MEM) : Option (Int32 × MEM) := f_X3_comes_4 fu fu l0 (0 : Int32) (0 : Int32) w
theorem E_X3_comes (fu : Nat) (l0 : Nat) (w : MEM) : f_X3_comes fu l0 w = f_X3_comes_4 fu fu l0 (0 : Int32) (0 : Int32) w := rfl
theorem w_X3_comes {X : SCR} {d rc rs : Nat} {Q : PO → PH → Prop} {o : Int32} {w1 : MEM} {fu : Nat} (hd : 1 ≤ d) (hq : ∀ h1, WH X h1 w1 → Q (.inl (some (vI o))) h1) {l0 : Nat} {w : MEM} {h : PH} (wh : WH X h w) (hv_l0 : vo 3 l0 = true) (hF : f_X3_comes fu l0 w = some (o, w1)) : PW d M_X3_comes Q rc rs 0 [vR (300, l0), vU, vU, vU, vU] [] h := by
  replace hF := (E_X3_comes fu l0 w).symm.trans hF
  refine r_X3_comes_0 ?_
  exact w_X3_comes_4 hd hq  fu _ _ _ _ _ wh hv_l0 hF
theorem c_X3_comes {X : SCR} {fu : Nat} {o : Int32} {w1 : MEM} {a0 : Nat} {w : MEM} {h : PH} (wh : WH X h w) (h0 : vo 3 a0 = true) (hF : f_X3_comes fu a0 w = some (o, w1)) : CT 1 M_X3_comes [vR (300, a0)] h 0 0 (QP X (.inl (some (vI o))) w1) :=
  CT_of mk_X3_comes (Nat.le_of_ble_eq_true rfl) rfl (w_X3_comes (fu := fu) (rc := 0) (rs := 0) (hd := Nat.le_refl 1) (hq := fun h1 g => ⟨rfl, g⟩) wh h0 hF)
-- X4_beAlone
def f_X4_beAlone (fu : Nat) (l0 : Nat) (l1 : Int32) (l2 : Int32) (l3 : Int32) (l4 : Int32) (w : MEM) : Option (Unit × MEM) := lt (sS w (10409, l0) l1) fun (w1 : MEM) => bnd (f_J7_fill_53178 fu (407, l0) (0 : Int32) w1) fun (u3 : Unit) (w2 : MEM) => ck (bI l2 7) (lt (sA w2 (407, l0) l2 (1 : Int32)) fun (w4 : MEM) => ck (bI l2 7) (lt (sA w4 (401, l0) l2 l3) fun (w5 : MEM) => ck (bI l2 7) (lt (sA w5 (402, l0) l2 l4) fun (w6 : MEM) => ck (bI l2 7) (lt (sA w6 (403, l0) l2 (0 : Int32)) fun (w7 : MEM) => ck (bI l2 7) (lt (sA w7 (404, l0) l2 (99 : Int32)) fun (w8 : MEM) => ck (bI l2 7) (lt (sA w8 (405, l0) l2 (0 : Int32)) fun (w9 : MEM) => ck (bI l2 7) (lt (sA w9 (406, l0) l2 (0 : Int32)) fun (w10 : MEM) => some ((), w10))))))))
theorem E_X4_beAlone (fu : Nat) (l0 : Nat) (l1 : Int32) (l2 : Int32) (l3 : Int32) (l4 : Int32) (w : MEM) : f_X4_beAlone fu l0 l1 l2 l3 l4 w = lt (sS w (10409, l0) l1) fun (w1 : MEM) => bnd (f_J7_fill_53178 fu (407, l0) (0 : Int32) w1) fun (u3 : Unit) (w2 : MEM) => ck (bI l2 7) (lt (sA w2 (407, l0) l2 (1 : Int32)) fun (w4 : MEM) => ck (bI l2 7) (lt (sA w4 (401, l0) l2 l3) fun (w5 : MEM) => ck (bI l2 7) (lt (sA w5 (402, l0) l2 l4) fun (w6 : MEM) => ck (bI l2 7) (lt (sA w6 (403, l0) l2 (0 : Int32)) fun (w7 : MEM) => ck (bI l2 7) (lt (sA w7 (404, l0) l2 (99 : Int32)) fun (w8 : MEM) => ck (bI l2 7) (lt (sA w8 (405, l0) l2 (0 : Int32)) fun (w9 : MEM) => ck (bI l2 7) (lt (sA w9 (406, l0) l2 (0 : Int32)) fun (w10 : MEM) => some ((), w10)))))))) := rfl
theorem w_X4_beAlone {X : SCR} {d rc rs : Nat} {Q : PO → PH → Prop} {o : Unit} {w1 : MEM} {fu : Nat} (hd : 1 ≤ d) (hq : ∀ h1, WH X h1 w1 → Q (.inl none) h1) {l0 : Nat} {l1 : Int32} {l2 : Int32} {l3 : Int32} {l4 : Int32} {w : MEM} {h : PH} (wh : WH X h w) (hv_l0 : vo 4 l0 = true) (hF : f_X4_beAlone fu l0 l1 l2 l3 l4 w = some (o, w1)) : PW d M_X4_beAlone Q rc rs 0 [vR (400, l0), vI l1, vI l2, vI l3, vI l4] [] h := by
  replace hF := (E_X4_beAlone fu l0 l1 l2 l3 l4 w).symm.trans hF
  refine r_X4_beAlone_0 ?_
  replace hF := lt_of hF
  refine sF_S wh rfl hv_l0 ?_
  clear wh
  intro h wh
  refine gA_of (b := (407, l0)) (wh.2.1 10406 _ rfl hv_l0) ?_
  obtain ⟨u3, w2, hG, hF⟩ := bnd_of hF
  refine cl_V (D := 0) (Nat.le_trans (by decide) hd) (c_J7_fill_53178 wh (oA_407 hv_l0) hG) ?_
  clear hG
  clear wh
  intro h wh
  refine gA_of (b := (407, l0)) (wh.2.1 10406 _ rfl hv_l0) ?_
  obtain ⟨c, hF⟩ := ck_of hF
  replace hF := lt_of hF
  refine yI_of wh (oA_407 hv_l0) c ?_
  clear c wh
  intro h wh
  refine gA_of (b := (401, l0)) (wh.2.1 10400 _ rfl hv_l0) ?_
  obtain ⟨c, hF⟩ := ck_of hF
  replace hF := lt_of hF
  refine yI_of wh (oA_401 hv_l0) c ?_
  clear c wh
  intro h wh
  refine gA_of (b := (402, l0)) (wh.2.1 10401 _ rfl hv_l0) ?_
  obtain ⟨c, hF⟩ := ck_of hF
  replace hF := lt_of hF
  refine yI_of wh (oA_402 hv_l0) c ?_
  clear c wh
  intro h wh
  refine gA_of (b := (403, l0)) (wh.2.1 10402 _ rfl hv_l0) ?_
  obtain ⟨c, hF⟩ := ck_of hF
  replace hF := lt_of hF
  refine yI_of wh (oA_403 hv_l0) c ?_
  clear c wh
  intro h wh
  refine gA_of (b := (404, l0)) (wh.2.1 10403 _ rfl hv_l0) ?_
  obtain ⟨c, hF⟩ := ck_of hF
  replace hF := lt_of hF
  refine yI_of wh (oA_404 hv_l0) c ?_
  clear c wh
  intro h wh
  refine gA_of (b := (405, l0)) (wh.2.1 10404 _ rfl hv_l0) ?_
  obtain ⟨c, hF⟩ := ck_of hF
  replace hF := lt_of hF
  refine yI_of wh (oA_405 hv_l0) c ?_
  clear c wh
  intro h wh
  refine gA_of (b := (406, l0)) (wh.2.1 10405 _ rfl hv_l0) ?_
  obtain ⟨c, hF⟩ := ck_of hF
  replace hF := lt_of hF
  refine yI_of wh (oA_406 hv_l0) c ?_
  clear c wh
  intro h wh
  obtain ⟨rfl, rfl⟩ := some_of hF
  exact hq _ wh
theorem c_X4_beAlone {X : SCR} {fu : Nat} {o : Unit} {w1 : MEM} {a0 : Nat} {a1 : Int32} {a2 : Int32} {a3 : Int32} {a4 : Int32} {w : MEM} {h : PH} (wh : WH X h w) (h0 : vo 4 a0 = true) (hF : f_X4_beAlone fu a0 a1 a2 a3 a4 w = some (o, w1)) : CT 1 M_X4_beAlone [vR (400, a0), vI a1, vI a2, vI a3, vI a4] h 0 0 (QP X (.inl none) w1) :=
  CT_of mk_X4_beAlone (Nat.le_of_ble_eq_true rfl) rfl (w_X4_beAlone (fu := fu) (rc := 0) (rs := 0) (hd := Nat.le_refl 1) (hq := fun h1 g => ⟨rfl, g⟩) wh h0 hF)
-- X4_standing
def f_X4_standing_4 (fu : Nat) : Nat → Nat → Int32 → Int32 → MEM → Option (Int32 × MEM)
  | 0, _, _, _, _ => none
  | n + 1, l0, l1, l2, w => if l2 < (7 : Int32) then (ck (bI l2 7) (lt ((l1 ||| ((rA w (407, l0) l2) <<< (l2 &&& 31)))) fun (v1 : Int32) => f_X4_standing_4 fu n l0 v1 (l2 + (1 : Int32)) w)) else (some (l1, w))
theorem E_X4_standing_4 (fu : Nat) (n : Nat) (l0 : Nat) (l1 : Int32) (l2 : Int32) (w : MEM) : f_X4_standing_4 fu (n + 1) l0 l1 l2 w = if l2 < (7 : Int32) then (ck (bI l2 7) (lt ((l1 ||| ((rA w (407, l0) l2) <<< (l2 &&& 31)))) fun (v1 : Int32) => f_X4_standing_4 fu n l0 v1 (l2 + (1 : Int32)) w)) else (some (l1, w)) := rfl
theorem w_X4_standing_4 {X : SCR} {d rc rs : Nat} {Q : PO → PH → Prop} {o : Int32} {w1 : MEM} {fu : Nat} (hd : 0 ≤ d) (hq : ∀ h1, WH X h1 w1 → Q (.inl (some (vI o))) h1) : ∀ (n : Nat) (l0 : Nat) (l1 : Int32) (l2 : Int32) (w : MEM) (h : PH), WH X h w → vo 4 l0 = true → f_X4_standing_4 fu n l0 l1 l2 w = some (o, w1) → PW d M_X4_standing Q rc rs 4 [vR (400, l0), vI l1, vI l2] [] h := by
  intro n
  induction n with
  | zero => intro l0 l1 l2 w h wh hv_l0 hF; cases hF
  | succ n ih =>
    intro l0 l1 l2 w h wh hv_l0 hF
    replace hF := (E_X4_standing_4 fu n l0 l1 l2 w).symm.trans hF
    refine r_X4_standing_4 ?_
    refine ⟨fun c => ?_, fun c => ?_⟩
    · replace hF := if_ofT c hF
      refine gA_of (b := (407, l0)) (wh.2.1 10406 _ rfl hv_l0) ?_
      obtain ⟨c, hF⟩ := ck_of hF
      refine xI_of wh (oA_407 hv_l0) c ?_
      clear c
      replace hF := lt_of hF
      exact ih _ _ _ _ _ wh hv_l0 hF
    · replace hF := if_ofF c hF
      obtain ⟨rfl, rfl⟩ := some_of hF
      exact hq _ wh
def f_X4_standing (fu : Nat) (l0 : Nat) (w : MEM) : Option (Int32 × MEM) := f_X4_standing_4 fu fu l0 (0 : Int32) (0 : Int32) w
theorem E_X4_standing (fu : Nat) (l0 : Nat) (w : MEM) : f_X4_standing fu l0 w = f_X4_standing_4 fu fu l0 (0 : Int32) (0 : Int32) w := rfl
theorem w_X4_standing {X : SCR} {d rc rs : Nat} {Q : PO → PH → Prop} {o : Int32} {w1 : MEM} {fu : Nat} (hd : 0 ≤ d) (hq : ∀ h1, WH X h1 w1 → Q (.inl (some (vI o))) h1) {l0 : Nat} {w : MEM} {h : PH} (wh : WH X h w) (hv_l0 : vo 4 l0 = true) (hF : f_X4_standing fu l0 w = some (o, w1)) : PW d M_X4_standing Q rc rs 0 [vR (400, l0), vU, vU] [] h := by
  replace hF := (E_X4_standing fu l0 w).symm.trans hF
  refine r_X4_standing_0 ?_
  exact w_X4_standing_4 hd hq  fu _ _ _ _ _ wh hv_l0 hF
theorem c_X4_standing {X : SCR} {fu : Nat} {o : Int32} {w1 : MEM} {a0 : Nat} {w : MEM} {h : PH} (wh : WH X h w) (h0 : vo 4 a0 = true) (hF : f_X4_standing fu a0 w = some (o, w1)) : CT 0 M_X4_standing [vR (400, a0)] h 0 0 (QP X (.inl (some (vI o))) w1) :=
  CT_of mk_X4_standing (Nat.le_of_ble_eq_true rfl) rfl (w_X4_standing (fu := fu) (rc := 0) (rs := 0) (hd := Nat.le_refl 0) (hq := fun h1 g => ⟨rfl, g⟩) wh h0 hF)
-- X4_cloudedHeirs
def f_X4_cloudedHeirs_4 (fu : Nat) : Nat → Nat → Int32 → Int32 → MEM → Option (Int32 × MEM)
  | 0, _, _, _, _ => none
  | n + 1, l0, l1, l2, w => if l2 < (7 : Int32) then (ck (bI l2 7) (if (rA w (408, l0) l2) = (-1 : Int32) then (lt ((l1 ||| (0 : Int32))) fun (v2 : Int32) => f_X4_cloudedHeirs_4 fu n l0 v2 (l2 + (1 : Int32)) w) else (lt ((l1 ||| ((1 : Int32) <<< (l2 &&& 31)))) fun (v1 : Int32) => f_X4_cloudedHeirs_4 fu n l0 v1 (l2 + (1 : Int32)) w))) else (some (l1, w))
theorem E_X4_cloudedHeirs_4 (fu : Nat) (n : Nat) (l0 : Nat) (l1 : Int32) (l2 : Int32) (w : MEM) : f_X4_cloudedHeirs_4 fu (n + 1) l0 l1 l2 w = if l2 < (7 : Int32) then (ck (bI l2 7) (if (rA w (408, l0) l2) = (-1 : Int32) then (lt ((l1 ||| (0 : Int32))) fun (v2 : Int32) => f_X4_cloudedHeirs_4 fu n l0 v2 (l2 + (1 : Int32)) w) else (lt ((l1 ||| ((1 : Int32) <<< (l2 &&& 31)))) fun (v1 : Int32) => f_X4_cloudedHeirs_4 fu n l0 v1 (l2 + (1 : Int32)) w))) else (some (l1, w)) := rfl
theorem w_X4_cloudedHeirs_4 {X : SCR} {d rc rs : Nat} {Q : PO → PH → Prop} {o : Int32} {w1 : MEM} {fu : Nat} (hd : 0 ≤ d) (hq : ∀ h1, WH X h1 w1 → Q (.inl (some (vI o))) h1) : ∀ (n : Nat) (l0 : Nat) (l1 : Int32) (l2 : Int32) (w : MEM) (h : PH), WH X h w → vo 4 l0 = true → f_X4_cloudedHeirs_4 fu n l0 l1 l2 w = some (o, w1) → PW d M_X4_cloudedHeirs Q rc rs 4 [vR (400, l0), vI l1, vI l2] [] h := by
  intro n
  induction n with
  | zero => intro l0 l1 l2 w h wh hv_l0 hF; cases hF
  | succ n ih =>
    intro l0 l1 l2 w h wh hv_l0 hF
    replace hF := (E_X4_cloudedHeirs_4 fu n l0 l1 l2 w).symm.trans hF
    refine r_X4_cloudedHeirs_4 ?_
    refine ⟨fun c => ?_, fun c => ?_⟩
    · replace hF := if_ofT c hF
      refine gA_of (b := (408, l0)) (wh.2.1 10407 _ rfl hv_l0) ?_
      obtain ⟨c, hF⟩ := ck_of hF
      refine xI_of wh (oA_408 hv_l0) c ?_
      clear c
      refine ⟨fun c => ?_, fun c => ?_⟩
      · replace hF := if_ofT c hF
        replace hF := lt_of hF
        exact ih _ _ _ _ _ wh hv_l0 hF
      · replace hF := if_ofF c hF
        replace hF := lt_of hF
        exact ih _ _ _ _ _ wh hv_l0 hF
    · replace hF := if_ofF c hF
      obtain ⟨rfl, rfl⟩ := some_of hF
      exact hq _ wh
def f_X4_cloudedHeirs (fu : Nat) (l0 : Nat) (w : MEM) : Option (Int32 × MEM) := f_X4_cloudedHeirs_4 fu fu l0 (0 : Int32) (0 : Int32) w
theorem E_X4_cloudedHeirs (fu : Nat) (l0 : Nat) (w : MEM) : f_X4_cloudedHeirs fu l0 w = f_X4_cloudedHeirs_4 fu fu l0 (0 : Int32) (0 : Int32) w := rfl
theorem w_X4_cloudedHeirs {X : SCR} {d rc rs : Nat} {Q : PO → PH → Prop} {o : Int32} {w1 : MEM} {fu : Nat} (hd : 0 ≤ d) (hq : ∀ h1, WH X h1 w1 → Q (.inl (some (vI o))) h1) {l0 : Nat} {w : MEM} {h : PH} (wh : WH X h w) (hv_l0 : vo 4 l0 = true) (hF : f_X4_cloudedHeirs fu l0 w = some (o, w1)) : PW d M_X4_cloudedHeirs Q rc rs 0 [vR (400, l0), vU, vU] [] h := by
  replace hF := (E_X4_cloudedHeirs fu l0 w).symm.trans hF
  refine r_X4_cloudedHeirs_0 ?_
  exact w_X4_cloudedHeirs_4 hd hq  fu _ _ _ _ _ wh hv_l0 hF
theorem c_X4_cloudedHeirs {X : SCR} {fu : Nat} {o : Int32} {w1 : MEM} {a0 : Nat} {w : MEM} {h : PH} (wh : WH X h w) (h0 : vo 4 a0 = true) (hF : f_X4_cloudedHeirs fu a0 w = some (o, w1)) : CT 0 M_X4_cloudedHeirs [vR (400, a0)] h 0 0 (QP X (.inl (some (vI o))) w1) :=
  CT_of mk_X4_cloudedHeirs (Nat.le_of_ble_eq_true rfl) rfl (w_X4_cloudedHeirs (fu := fu) (rc := 0) (rs := 0) (hd := Nat.le_refl 0) (hq := fun h1 g => ⟨rfl, g⟩) wh h0 hF)
-- X9_isAhead
def f_X9_isAhead (fu : Nat) (l0 : Int32) (l1 : Int32) (l2 : Int32) (l3 : Int32) (w : MEM) : Option (Int32 × MEM) := if l0 = (-1 : Int32) then (some ((0 : Int32), w)) else (if l0 < l2 then (some ((1 : Int32), w)) else (if l0 = l2 then (if l1 < l3 then (some ((1 : Int32), w)) else (some ((0 : Int32), w))) else (some ((0 : Int32), w))))
theorem E_X9_isAhead (fu : Nat) (l0 : Int32) (l1 : Int32) (l2 : Int32) (l3 : Int32) (w : MEM) : f_X9_isAhead fu l0 l1 l2 l3 w = if l0 = (-1 : Int32) then (some ((0 : Int32), w)) else (if l0 < l2 then (some ((1 : Int32), w)) else (if l0 = l2 then (if l1 < l3 then (some ((1 : Int32), w)) else (some ((0 : Int32), w))) else (some ((0 : Int32), w)))) := rfl
theorem w_X9_isAhead {X : SCR} {d rc rs : Nat} {Q : PO → PH → Prop} {o : Int32} {w1 : MEM} {fu : Nat} (hd : 0 ≤ d) (hq : ∀ h1, WH X h1 w1 → Q (.inl (some (vI o))) h1) {l0 : Int32} {l1 : Int32} {l2 : Int32} {l3 : Int32} {w : MEM} {h : PH} (wh : WH X h w)  (hF : f_X9_isAhead fu l0 l1 l2 l3 w = some (o, w1)) : PW d M_X9_isAhead Q rc rs 0 [vI l0, vI l1, vI l2, vI l3] [] h := by
  replace hF := (E_X9_isAhead fu l0 l1 l2 l3 w).symm.trans hF
  refine r_X9_isAhead_0 ?_
  refine ⟨fun c => ?_, fun c => ?_⟩
  · replace hF := if_ofT c hF
    obtain ⟨rfl, rfl⟩ := some_of hF
    exact hq _ wh
  · replace hF := if_ofF c hF
    refine ⟨fun c => ?_, fun c => ?_⟩
    · replace hF := if_ofT c hF
      obtain ⟨rfl, rfl⟩ := some_of hF
      exact hq _ wh
    · replace hF := if_ofF c hF
      refine ⟨fun c => ?_, fun c => ?_⟩
      · replace hF := if_ofT c hF
        refine ⟨fun c => ?_, fun c => ?_⟩
        · replace hF := if_ofT c hF
          obtain ⟨rfl, rfl⟩ := some_of hF
          exact hq _ wh
        · replace hF := if_ofF c hF
          obtain ⟨rfl, rfl⟩ := some_of hF
          exact hq _ wh
      · replace hF := if_ofF c hF
        obtain ⟨rfl, rfl⟩ := some_of hF
        exact hq _ wh
theorem c_X9_isAhead {X : SCR} {fu : Nat} {o : Int32} {w1 : MEM} {a0 : Int32} {a1 : Int32} {a2 : Int32} {a3 : Int32} {w : MEM} {h : PH} (wh : WH X h w)  (hF : f_X9_isAhead fu a0 a1 a2 a3 w = some (o, w1)) : CT 0 M_X9_isAhead [vI a0, vI a1, vI a2, vI a3] h 0 0 (QP X (.inl (some (vI o))) w1) :=
  CT_of mk_X9_isAhead (Nat.le_of_ble_eq_true rfl) rfl (w_X9_isAhead (fu := fu) (rc := 0) (rs := 0) (hd := Nat.le_refl 0) (hq := fun h1 g => ⟨rfl, g⟩) wh  hF)
-- X4_elderThan
def f_X4_elderThan_4 (fu : Nat) : Nat → Nat → Int32 → Int32 → Int32 → MEM → Option (Int32 × MEM)
  | 0, _, _, _, _, _ => none
  | n + 1, l0, l1, l2, l3, w => if l3 < (7 : Int32) then (ck (bI l3 7) (ck (bI l1 7) (bnd (f_X9_isAhead fu (rA w (408, l0) l3) l3 (rA w (408, l0) l1) l1 w) fun (x2 : Int32) (w1 : MEM) => if x2 = 0 then (f_X4_elderThan_4 fu n l0 l1 l2 (l3 + (1 : Int32)) w1) else (f_X4_elderThan_4 fu n l0 l1 (l2 + (1 : Int32)) (l3 + (1 : Int32)) w1)))) else (some (l2, w))
theorem E_X4_elderThan_4 (fu : Nat) (n : Nat) (l0 : Nat) (l1 : Int32) (l2 : Int32) (l3 : Int32) (w : MEM) : f_X4_elderThan_4 fu (n + 1) l0 l1 l2 l3 w = if l3 < (7 : Int32) then (ck (bI l3 7) (ck (bI l1 7) (bnd (f_X9_isAhead fu (rA w (408, l0) l3) l3 (rA w (408, l0) l1) l1 w) fun (x2 : Int32) (w1 : MEM) => if x2 = 0 then (f_X4_elderThan_4 fu n l0 l1 l2 (l3 + (1 : Int32)) w1) else (f_X4_elderThan_4 fu n l0 l1 (l2 + (1 : Int32)) (l3 + (1 : Int32)) w1)))) else (some (l2, w)) := rfl
theorem w_X4_elderThan_4 {X : SCR} {d rc rs : Nat} {Q : PO → PH → Prop} {o : Int32} {w1 : MEM} {fu : Nat} (hd : 1 ≤ d) (hq : ∀ h1, WH X h1 w1 → Q (.inl (some (vI o))) h1) : ∀ (n : Nat) (l0 : Nat) (l1 : Int32) (l2 : Int32) (l3 : Int32) (w : MEM) (h : PH), WH X h w → vo 4 l0 = true → f_X4_elderThan_4 fu n l0 l1 l2 l3 w = some (o, w1) → PW d M_X4_elderThan Q rc rs 4 [vR (400, l0), vI l1, vI l2, vI l3] [] h := by
  intro n
  induction n with
  | zero => intro l0 l1 l2 l3 w h wh hv_l0 hF; cases hF
  | succ n ih =>
    intro l0 l1 l2 l3 w h wh hv_l0 hF
    replace hF := (E_X4_elderThan_4 fu n l0 l1 l2 l3 w).symm.trans hF
    refine r_X4_elderThan_4 ?_
    refine ⟨fun c => ?_, fun c => ?_⟩
    · replace hF := if_ofT c hF
      refine gA_of (b := (408, l0)) (wh.2.1 10407 _ rfl hv_l0) ?_
      obtain ⟨c, hF⟩ := ck_of hF
      refine xI_of wh (oA_408 hv_l0) c ?_
      clear c
      refine gA_of (b := (408, l0)) (wh.2.1 10407 _ rfl hv_l0) ?_
      obtain ⟨c, hF⟩ := ck_of hF
      refine xI_of wh (oA_408 hv_l0) c ?_
      clear c
      obtain ⟨x2, w1, hG, hF⟩ := bnd_of hF
      refine cl_I (D := 0) (Nat.le_trans (by decide) hd) (c_X9_isAhead wh  hG) ?_
      clear hG
      clear wh
      intro h wh
      refine ⟨fun c => ?_, fun c => ?_⟩
      · replace hF := if_ofT c hF
        exact ih _ _ _ _ _ _ wh hv_l0 hF
      · replace hF := if_ofF c hF
        exact ih _ _ _ _ _ _ wh hv_l0 hF
    · replace hF := if_ofF c hF
      obtain ⟨rfl, rfl⟩ := some_of hF
      exact hq _ wh
def f_X4_elderThan (fu : Nat) (l0 : Nat) (l1 : Int32) (w : MEM) : Option (Int32 × MEM) := f_X4_elderThan_4 fu fu l0 l1 (0 : Int32) (0 : Int32) w
theorem E_X4_elderThan (fu : Nat) (l0 : Nat) (l1 : Int32) (w : MEM) : f_X4_elderThan fu l0 l1 w = f_X4_elderThan_4 fu fu l0 l1 (0 : Int32) (0 : Int32) w := rfl
theorem w_X4_elderThan {X : SCR} {d rc rs : Nat} {Q : PO → PH → Prop} {o : Int32} {w1 : MEM} {fu : Nat} (hd : 1 ≤ d) (hq : ∀ h1, WH X h1 w1 → Q (.inl (some (vI o))) h1) {l0 : Nat} {l1 : Int32} {w : MEM} {h : PH} (wh : WH X h w) (hv_l0 : vo 4 l0 = true) (hF : f_X4_elderThan fu l0 l1 w = some (o, w1)) : PW d M_X4_elderThan Q rc rs 0 [vR (400, l0), vI l1, vU, vU] [] h := by
  replace hF := (E_X4_elderThan fu l0 l1 w).symm.trans hF
  refine r_X4_elderThan_0 ?_
  exact w_X4_elderThan_4 hd hq  fu _ _ _ _ _ _ wh hv_l0 hF
theorem c_X4_elderThan {X : SCR} {fu : Nat} {o : Int32} {w1 : MEM} {a0 : Nat} {a1 : Int32} {w : MEM} {h : PH} (wh : WH X h w) (h0 : vo 4 a0 = true) (hF : f_X4_elderThan fu a0 a1 w = some (o, w1)) : CT 1 M_X4_elderThan [vR (400, a0), vI a1] h 0 0 (QP X (.inl (some (vI o))) w1) :=
  CT_of mk_X4_elderThan (Nat.le_of_ble_eq_true rfl) rfl (w_X4_elderThan (fu := fu) (rc := 0) (rs := 0) (hd := Nat.le_refl 1) (hq := fun h1 g => ⟨rfl, g⟩) wh h0 hF)
-- X4_ranked
def f_X4_ranked_2 (fu : Nat) : Nat → Nat → Int32 → Int32 → MEM → Option (Int32 × MEM)
  | 0, _, _, _, _ => none
  | n + 1, l0, l1, l2, w => if l2 < (7 : Int32) then (ck (bI l2 7) (if (rA w (408, l0) l2) = (-1 : Int32) then (f_X4_ranked_2 fu n l0 l1 (l2 + (1 : Int32)) w) else (bnd (f_X4_elderThan fu l0 l2 w) fun (x2 : Int32) (w1 : MEM) => if x2 = l1 then (some (l2, w1)) else (f_X4_ranked_2 fu n l0 l1 (l2 + (1 : Int32)) w1)))) else (some ((-1 : Int32), w))
theorem E_X4_ranked_2 (fu : Nat) (n : Nat) (l0 : Nat) (l1 : Int32) (l2 : Int32) (w : MEM) : f_X4_ranked_2 fu (n + 1) l0 l1 l2 w = if l2 < (7 : Int32) then (ck (bI l2 7) (if (rA w (408, l0) l2) = (-1 : Int32) then (f_X4_ranked_2 fu n l0 l1 (l2 + (1 : Int32)) w) else (bnd (f_X4_elderThan fu l0 l2 w) fun (x2 : Int32) (w1 : MEM) => if x2 = l1 then (some (l2, w1)) else (f_X4_ranked_2 fu n l0 l1 (l2 + (1 : Int32)) w1)))) else (some ((-1 : Int32), w)) := rfl
theorem w_X4_ranked_2 {X : SCR} {d rc rs : Nat} {Q : PO → PH → Prop} {o : Int32} {w1 : MEM} {fu : Nat} (hd : 2 ≤ d) (hq : ∀ h1, WH X h1 w1 → Q (.inl (some (vI o))) h1) : ∀ (n : Nat) (l0 : Nat) (l1 : Int32) (l2 : Int32) (w : MEM) (h : PH), WH X h w → vo 4 l0 = true → f_X4_ranked_2 fu n l0 l1 l2 w = some (o, w1) → PW d M_X4_ranked Q rc rs 2 [vR (400, l0), vI l1, vI l2] [] h := by
  intro n
  induction n with
  | zero => intro l0 l1 l2 w h wh hv_l0 hF; cases hF
  | succ n ih =>
    intro l0 l1 l2 w h wh hv_l0 hF
    replace hF := (E_X4_ranked_2 fu n l0 l1 l2 w).symm.trans hF
    refine r_X4_ranked_2 ?_
    refine ⟨fun c => ?_, fun c => ?_⟩
    · replace hF := if_ofT c hF
      refine gA_of (b := (408, l0)) (wh.2.1 10407 _ rfl hv_l0) ?_
      obtain ⟨c, hF⟩ := ck_of hF
      refine xI_of wh (oA_408 hv_l0) c ?_
      clear c
      refine ⟨fun c => ?_, fun c => ?_⟩
      · replace hF := if_ofT c hF
        exact ih _ _ _ _ _ wh hv_l0 hF
      · replace hF := if_ofF c hF
        refine ⟨⟨_, wh.2.1 10400 _ rfl hv_l0⟩, ?_⟩
        obtain ⟨x2, w1, hG, hF⟩ := bnd_of hF
        refine cl_I (D := 1) (Nat.le_trans (by decide) hd) (c_X4_elderThan wh hv_l0 hG) ?_
        clear hG
        clear wh
        intro h wh
        refine ⟨fun c => ?_, fun c => ?_⟩
        · replace hF := if_ofT c hF
          obtain ⟨rfl, rfl⟩ := some_of hF
          exact hq _ wh
        · replace hF := if_ofF c hF
          exact ih _ _ _ _ _ wh hv_l0 hF
    · replace hF := if_ofF c hF
      obtain ⟨rfl, rfl⟩ := some_of hF
      exact hq _ wh
def f_X4_ranked (fu : Nat) (l0 : Nat) (l1 : Int32) (w : MEM) : Option (Int32 × MEM) := f_X4_ranked_2 fu fu l0 l1 (0 : Int32) w
theorem E_X4_ranked (fu : Nat) (l0 : Nat) (l1 : Int32) (w : MEM) : f_X4_ranked fu l0 l1 w = f_X4_ranked_2 fu fu l0 l1 (0 : Int32) w := rfl
theorem w_X4_ranked {X : SCR} {d rc rs : Nat} {Q : PO → PH → Prop} {o : Int32} {w1 : MEM} {fu : Nat} (hd : 2 ≤ d) (hq : ∀ h1, WH X h1 w1 → Q (.inl (some (vI o))) h1) {l0 : Nat} {l1 : Int32} {w : MEM} {h : PH} (wh : WH X h w) (hv_l0 : vo 4 l0 = true) (hF : f_X4_ranked fu l0 l1 w = some (o, w1)) : PW d M_X4_ranked Q rc rs 0 [vR (400, l0), vI l1, vU] [] h := by
  replace hF := (E_X4_ranked fu l0 l1 w).symm.trans hF
  refine r_X4_ranked_0 ?_
  exact w_X4_ranked_2 hd hq  fu _ _ _ _ _ wh hv_l0 hF
theorem c_X4_ranked {X : SCR} {fu : Nat} {o : Int32} {w1 : MEM} {a0 : Nat} {a1 : Int32} {w : MEM} {h : PH} (wh : WH X h w) (h0 : vo 4 a0 = true) (hF : f_X4_ranked fu a0 a1 w = some (o, w1)) : CT 2 M_X4_ranked [vR (400, a0), vI a1] h 0 0 (QP X (.inl (some (vI o))) w1) :=
  CT_of mk_X4_ranked (Nat.le_of_ble_eq_true rfl) rfl (w_X4_ranked (fu := fu) (rc := 0) (rs := 0) (hd := Nat.le_refl 2) (hq := fun h1 g => ⟨rfl, g⟩) wh h0 hF)
-- X4_passTap
def f_X4_passTap_2 (fu : Nat) : Nat → Nat → Int32 → Int32 → Int32 → MEM → Option (Int32 × MEM)
  | 0, _, _, _, _, _ => none
  | n + 1, l0, l1, l2, l3, w => if l3 < (7 : Int32) then (ck (bI l1 7) (if (rA w (407, l0) l1) = (1 : Int32) then (ck (bI l3 7) (if (rA w (407, l0) l3) = (1 : Int32) then (if (l2 &&& ((1 : Int32) <<< (l3 &&& 31))) = 0 then (f_X4_passTap_2 fu n l0 l1 l2 (l3 + (1 : Int32)) w) else (ck (bI l3 7) (ck (bI l3 7) (lt (sA w (406, l0) l3 ((rA w (406, l0) l3) + (1 : Int32))) fun (w1 : MEM) => f_X4_passTap_2 fu n l0 l1 l2 (l3 + (1 : Int32)) w1)))) else (f_X4_passTap_2 fu n l0 l1 l2 (l3 + (1 : Int32)) w))) else (f_X4_passTap_2 fu n l0 l1 l2 (l3 + (1 : Int32)) w))) else (ck (bI l1 7) (if (rA w (407, l0) l1) = (1 : Int32) then (some ((1 : Int32), w)) else (some ((0 : Int32), w))))
theorem E_X4_passTap_2 (fu : Nat) (n : Nat) (l0 : Nat) (l1 : Int32) (l2 : Int32) (l3 : Int32) (w : MEM) : f_X4_passTap_2 fu (n + 1) l0 l1 l2 l3 w = if l3 < (7 : Int32) then (ck (bI l1 7) (if (rA w (407, l0) l1) = (1 : Int32) then (ck (bI l3 7) (if (rA w (407, l0) l3) = (1 : Int32) then (if (l2 &&& ((1 : Int32) <<< (l3 &&& 31))) = 0 then (f_X4_passTap_2 fu n l0 l1 l2 (l3 + (1 : Int32)) w) else (ck (bI l3 7) (ck (bI l3 7) (lt (sA w (406, l0) l3 ((rA w (406, l0) l3) + (1 : Int32))) fun (w1 : MEM) => f_X4_passTap_2 fu n l0 l1 l2 (l3 + (1 : Int32)) w1)))) else (f_X4_passTap_2 fu n l0 l1 l2 (l3 + (1 : Int32)) w))) else (f_X4_passTap_2 fu n l0 l1 l2 (l3 + (1 : Int32)) w))) else (ck (bI l1 7) (if (rA w (407, l0) l1) = (1 : Int32) then (some ((1 : Int32), w)) else (some ((0 : Int32), w)))) := rfl
theorem w_X4_passTap_2 {X : SCR} {d rc rs : Nat} {Q : PO → PH → Prop} {o : Int32} {w1 : MEM} {fu : Nat} (hd : 0 ≤ d) (hq : ∀ h1, WH X h1 w1 → Q (.inl (some (vI o))) h1) : ∀ (n : Nat) (l0 : Nat) (l1 : Int32) (l2 : Int32) (l3 : Int32) (w : MEM) (h : PH), WH X h w → vo 4 l0 = true → f_X4_passTap_2 fu n l0 l1 l2 l3 w = some (o, w1) → PW d M_X4_passTap Q rc rs 2 [vR (400, l0), vI l1, vI l2, vI l3] [] h := by
  intro n
  induction n with
  | zero => intro l0 l1 l2 l3 w h wh hv_l0 hF; cases hF
  | succ n ih =>
    intro l0 l1 l2 l3 w h wh hv_l0 hF
    replace hF := (E_X4_passTap_2 fu n l0 l1 l2 l3 w).symm.trans hF
    refine r_X4_passTap_2 ?_
    refine ⟨fun c => ?_, fun c => ?_⟩
    · replace hF := if_ofT c hF
      refine gA_of (b := (407, l0)) (wh.2.1 10406 _ rfl hv_l0) ?_
      obtain ⟨c, hF⟩ := ck_of hF
      refine xI_of wh (oA_407 hv_l0) c ?_
      clear c
      refine ⟨fun c => ?_, fun c => ?_⟩
      · replace hF := if_ofT c hF
        refine gA_of (b := (407, l0)) (wh.2.1 10406 _ rfl hv_l0) ?_
        obtain ⟨c, hF⟩ := ck_of hF
        refine xI_of wh (oA_407 hv_l0) c ?_
        clear c
        refine ⟨fun c => ?_, fun c => ?_⟩
        · replace hF := if_ofT c hF
          refine ⟨fun c => ?_, fun c => ?_⟩
          · replace hF := if_ofT c hF
            exact ih _ _ _ _ _ _ wh hv_l0 hF
          · replace hF := if_ofF c hF
            refine gA_of (b := (406, l0)) (wh.2.1 10405 _ rfl hv_l0) ?_
            obtain ⟨c, hF⟩ := ck_of hF
            refine xI_of wh (oA_406 hv_l0) c ?_
            clear c
            obtain ⟨c, hF⟩ := ck_of hF
            replace hF := lt_of hF
            refine yI_of wh (oA_406 hv_l0) c ?_
            clear c wh
            intro h wh
            exact ih _ _ _ _ _ _ wh hv_l0 hF
        · replace hF := if_ofF c hF
          exact ih _ _ _ _ _ _ wh hv_l0 hF
      · replace hF := if_ofF c hF
        exact ih _ _ _ _ _ _ wh hv_l0 hF
    · replace hF := if_ofF c hF
      refine gA_of (b := (407, l0)) (wh.2.1 10406 _ rfl hv_l0) ?_
      obtain ⟨c, hF⟩ := ck_of hF
      refine xI_of wh (oA_407 hv_l0) c ?_
      clear c
      refine ⟨fun c => ?_, fun c => ?_⟩
      · replace hF := if_ofT c hF
        obtain ⟨rfl, rfl⟩ := some_of hF
        exact hq _ wh
      · replace hF := if_ofF c hF
        obtain ⟨rfl, rfl⟩ := some_of hF
        exact hq _ wh
def f_X4_passTap (fu : Nat) (l0 : Nat) (l1 : Int32) (l2 : Int32) (w : MEM) : Option (Int32 × MEM) := f_X4_passTap_2 fu fu l0 l1 l2 (0 : Int32) w
theorem E_X4_passTap (fu : Nat) (l0 : Nat) (l1 : Int32) (l2 : Int32) (w : MEM) : f_X4_passTap fu l0 l1 l2 w = f_X4_passTap_2 fu fu l0 l1 l2 (0 : Int32) w := rfl
theorem w_X4_passTap {X : SCR} {d rc rs : Nat} {Q : PO → PH → Prop} {o : Int32} {w1 : MEM} {fu : Nat} (hd : 0 ≤ d) (hq : ∀ h1, WH X h1 w1 → Q (.inl (some (vI o))) h1) {l0 : Nat} {l1 : Int32} {l2 : Int32} {w : MEM} {h : PH} (wh : WH X h w) (hv_l0 : vo 4 l0 = true) (hF : f_X4_passTap fu l0 l1 l2 w = some (o, w1)) : PW d M_X4_passTap Q rc rs 0 [vR (400, l0), vI l1, vI l2, vU] [] h := by
  replace hF := (E_X4_passTap fu l0 l1 l2 w).symm.trans hF
  refine r_X4_passTap_0 ?_
  exact w_X4_passTap_2 hd hq  fu _ _ _ _ _ _ wh hv_l0 hF
theorem c_X4_passTap {X : SCR} {fu : Nat} {o : Int32} {w1 : MEM} {a0 : Nat} {a1 : Int32} {a2 : Int32} {w : MEM} {h : PH} (wh : WH X h w) (h0 : vo 4 a0 = true) (hF : f_X4_passTap fu a0 a1 a2 w = some (o, w1)) : CT 0 M_X4_passTap [vR (400, a0), vI a1, vI a2] h 0 0 (QP X (.inl (some (vI o))) w1) :=
  CT_of mk_X4_passTap (Nat.le_of_ble_eq_true rfl) rfl (w_X4_passTap (fu := fu) (rc := 0) (rs := 0) (hd := Nat.le_refl 0) (hq := fun h1 g => ⟨rfl, g⟩) wh h0 hF)
-- X4_wipeGlass
def f_X4_wipeGlass (fu : Nat) (l0 : Nat) (l1 : Int32) (w : MEM) : Option (Int32 × MEM) := ck (bI l1 7) (if 0 < (rA w (403, l0) l1) then (ck (bI l1 7) (lt (sA w (403, l0) l1 (0 : Int32)) fun (w2 : MEM) => some ((1 : Int32), w2))) else (ck (bI l1 7) (lt (sA w (403, l0) l1 (0 : Int32)) fun (w1 : MEM) => some ((0 : Int32), w1))))
theorem E_X4_wipeGlass (fu : Nat) (l0 : Nat) (l1 : Int32) (w : MEM) : f_X4_wipeGlass fu l0 l1 w = ck (bI l1 7) (if 0 < (rA w (403, l0) l1) then (ck (bI l1 7) (lt (sA w (403, l0) l1 (0 : Int32)) fun (w2 : MEM) => some ((1 : Int32), w2))) else (ck (bI l1 7) (lt (sA w (403, l0) l1 (0 : Int32)) fun (w1 : MEM) => some ((0 : Int32), w1)))) := rfl
theorem w_X4_wipeGlass {X : SCR} {d rc rs : Nat} {Q : PO → PH → Prop} {o : Int32} {w1 : MEM} {fu : Nat} (hd : 0 ≤ d) (hq : ∀ h1, WH X h1 w1 → Q (.inl (some (vI o))) h1) {l0 : Nat} {l1 : Int32} {w : MEM} {h : PH} (wh : WH X h w) (hv_l0 : vo 4 l0 = true) (hF : f_X4_wipeGlass fu l0 l1 w = some (o, w1)) : PW d M_X4_wipeGlass Q rc rs 0 [vR (400, l0), vI l1, vU] [] h := by
  replace hF := (E_X4_wipeGlass fu l0 l1 w).symm.trans hF
  refine r_X4_wipeGlass_0 ?_
  refine gA_of (b := (403, l0)) (wh.2.1 10402 _ rfl hv_l0) ?_
  obtain ⟨c, hF⟩ := ck_of hF
  refine xI_of wh (oA_403 hv_l0) c ?_
  clear c
  refine ⟨fun c => ?_, fun c => ?_⟩
  · replace hF := if_ofT c hF
    refine gA_of (b := (403, l0)) (wh.2.1 10402 _ rfl hv_l0) ?_
    obtain ⟨c, hF⟩ := ck_of hF
    replace hF := lt_of hF
    refine yI_of wh (oA_403 hv_l0) c ?_
    clear c wh
    intro h wh
    obtain ⟨rfl, rfl⟩ := some_of hF
    exact hq _ wh
  · replace hF := if_ofF c hF
    refine gA_of (b := (403, l0)) (wh.2.1 10402 _ rfl hv_l0) ?_
    obtain ⟨c, hF⟩ := ck_of hF
    replace hF := lt_of hF
    refine yI_of wh (oA_403 hv_l0) c ?_
    clear c wh
    intro h wh
    obtain ⟨rfl, rfl⟩ := some_of hF
    exact hq _ wh
theorem c_X4_wipeGlass {X : SCR} {fu : Nat} {o : Int32} {w1 : MEM} {a0 : Nat} {a1 : Int32} {w : MEM} {h : PH} (wh : WH X h w) (h0 : vo 4 a0 = true) (hF : f_X4_wipeGlass fu a0 a1 w = some (o, w1)) : CT 0 M_X4_wipeGlass [vR (400, a0), vI a1] h 0 0 (QP X (.inl (some (vI o))) w1) :=
  CT_of mk_X4_wipeGlass (Nat.le_of_ble_eq_true rfl) rfl (w_X4_wipeGlass (fu := fu) (rc := 0) (rs := 0) (hd := Nat.le_refl 0) (hq := fun h1 g => ⟨rfl, g⟩) wh h0 hF)
-- X4_changeAir
def f_X4_changeAir (fu : Nat) (l0 : Nat) (l1 : Int32) (w : MEM) : Option (Int32 × MEM) := ck (bI l1 7) (if (rA w (407, l0) l1) = (1 : Int32) then (ck (bI l1 7) (if (rA w (404, l0) l1) < (99 : Int32) then (if (1 : Int32) = 0 then (ck (bI l1 7) (ck (bI l1 7) (lt (sA w (404, l0) l1 (rA w (404, l0) l1)) fun (w9 : MEM) => some ((1 : Int32), w9)))) else (ck (bI l1 7) (bnd (f_J9_min_7cf53 fu (99 : Int32) ((rA w (404, l0) l1) + (40 : Int32)) w) fun (x11 : Int32) (w10 : MEM) => ck (bI l1 7) (lt (sA w10 (404, l0) l1 x11) fun (w12 : MEM) => some ((1 : Int32), w12))))) else (if (0 : Int32) = 0 then (ck (bI l1 7) (ck (bI l1 7) (lt (sA w (404, l0) l1 (rA w (404, l0) l1)) fun (w5 : MEM) => some ((0 : Int32), w5)))) else (ck (bI l1 7) (bnd (f_J9_min_7cf53 fu (99 : Int32) ((rA w (404, l0) l1) + (40 : Int32)) w) fun (x7 : Int32) (w6 : MEM) => ck (bI l1 7) (lt (sA w6 (404, l0) l1 x7) fun (w8 : MEM) => some ((0 : Int32), w8))))))) else (if (0 : Int32) = 0 then (ck (bI l1 7) (ck (bI l1 7) (lt (sA w (404, l0) l1 (rA w (404, l0) l1)) fun (w1 : MEM) => some ((0 : Int32), w1)))) else (ck (bI l1 7) (bnd (f_J9_min_7cf53 fu (99 : Int32) ((rA w (404, l0) l1) + (40 : Int32)) w) fun (x3 : Int32) (w2 : MEM) => ck (bI l1 7) (lt (sA w2 (404, l0) l1 x3) fun (w4 : MEM) => some ((0 : Int32), w4))))))
theorem E_X4_changeAir (fu : Nat) (l0 : Nat) (l1 : Int32) (w : MEM) : f_X4_changeAir fu l0 l1 w = ck (bI l1 7) (if (rA w (407, l0) l1) = (1 : Int32) then (ck (bI l1 7) (if (rA w (404, l0) l1) < (99 : Int32) then (if (1 : Int32) = 0 then (ck (bI l1 7) (ck (bI l1 7) (lt (sA w (404, l0) l1 (rA w (404, l0) l1)) fun (w9 : MEM) => some ((1 : Int32), w9)))) else (ck (bI l1 7) (bnd (f_J9_min_7cf53 fu (99 : Int32) ((rA w (404, l0) l1) + (40 : Int32)) w) fun (x11 : Int32) (w10 : MEM) => ck (bI l1 7) (lt (sA w10 (404, l0) l1 x11) fun (w12 : MEM) => some ((1 : Int32), w12))))) else (if (0 : Int32) = 0 then (ck (bI l1 7) (ck (bI l1 7) (lt (sA w (404, l0) l1 (rA w (404, l0) l1)) fun (w5 : MEM) => some ((0 : Int32), w5)))) else (ck (bI l1 7) (bnd (f_J9_min_7cf53 fu (99 : Int32) ((rA w (404, l0) l1) + (40 : Int32)) w) fun (x7 : Int32) (w6 : MEM) => ck (bI l1 7) (lt (sA w6 (404, l0) l1 x7) fun (w8 : MEM) => some ((0 : Int32), w8))))))) else (if (0 : Int32) = 0 then (ck (bI l1 7) (ck (bI l1 7) (lt (sA w (404, l0) l1 (rA w (404, l0) l1)) fun (w1 : MEM) => some ((0 : Int32), w1)))) else (ck (bI l1 7) (bnd (f_J9_min_7cf53 fu (99 : Int32) ((rA w (404, l0) l1) + (40 : Int32)) w) fun (x3 : Int32) (w2 : MEM) => ck (bI l1 7) (lt (sA w2 (404, l0) l1 x3) fun (w4 : MEM) => some ((0 : Int32), w4)))))) := rfl
theorem w_X4_changeAir {X : SCR} {d rc rs : Nat} {Q : PO → PH → Prop} {o : Int32} {w1 : MEM} {fu : Nat} (hd : 1 ≤ d) (hq : ∀ h1, WH X h1 w1 → Q (.inl (some (vI o))) h1) {l0 : Nat} {l1 : Int32} {w : MEM} {h : PH} (wh : WH X h w) (hv_l0 : vo 4 l0 = true) (hF : f_X4_changeAir fu l0 l1 w = some (o, w1)) : PW d M_X4_changeAir Q rc rs 0 [vR (400, l0), vI l1, vU] [] h := by
  replace hF := (E_X4_changeAir fu l0 l1 w).symm.trans hF
  refine r_X4_changeAir_0 ?_
  refine gA_of (b := (407, l0)) (wh.2.1 10406 _ rfl hv_l0) ?_
  obtain ⟨c, hF⟩ := ck_of hF
  refine xI_of wh (oA_407 hv_l0) c ?_
  clear c
  refine ⟨fun c => ?_, fun c => ?_⟩
  · replace hF := if_ofT c hF
    refine gA_of (b := (404, l0)) (wh.2.1 10403 _ rfl hv_l0) ?_
    obtain ⟨c, hF⟩ := ck_of hF
    refine xI_of wh (oA_404 hv_l0) c ?_
    clear c
    refine ⟨fun c => ?_, fun c => ?_⟩
    · replace hF := if_ofT c hF
      refine gA_of (b := (404, l0)) (wh.2.1 10403 _ rfl hv_l0) ?_
      refine ⟨fun c => ?_, fun c => ?_⟩
      · replace hF := if_ofT c hF
        refine gA_of (b := (404, l0)) (wh.2.1 10403 _ rfl hv_l0) ?_
        obtain ⟨c, hF⟩ := ck_of hF
        refine xI_of wh (oA_404 hv_l0) c ?_
        clear c
        obtain ⟨c, hF⟩ := ck_of hF
        replace hF := lt_of hF
        refine yI_of wh (oA_404 hv_l0) c ?_
        clear c wh
        intro h wh
        obtain ⟨rfl, rfl⟩ := some_of hF
        exact hq _ wh
      · replace hF := if_ofF c hF
        refine gA_of (b := (404, l0)) (wh.2.1 10403 _ rfl hv_l0) ?_
        obtain ⟨c, hF⟩ := ck_of hF
        refine xI_of wh (oA_404 hv_l0) c ?_
        clear c
        obtain ⟨x11, w10, hG, hF⟩ := bnd_of hF
        refine cl_I (D := 0) (Nat.le_trans (by decide) hd) (c_J9_min_7cf53 wh  hG) ?_
        clear hG
        clear wh
        intro h wh
        obtain ⟨c, hF⟩ := ck_of hF
        replace hF := lt_of hF
        refine yI_of wh (oA_404 hv_l0) c ?_
        clear c wh
        intro h wh
        obtain ⟨rfl, rfl⟩ := some_of hF
        exact hq _ wh
    · replace hF := if_ofF c hF
      refine gA_of (b := (404, l0)) (wh.2.1 10403 _ rfl hv_l0) ?_
      refine ⟨fun c => ?_, fun c => ?_⟩
      · replace hF := if_ofT c hF
        refine gA_of (b := (404, l0)) (wh.2.1 10403 _ rfl hv_l0) ?_
        obtain ⟨c, hF⟩ := ck_of hF
        refine xI_of wh (oA_404 hv_l0) c ?_
        clear c
        obtain ⟨c, hF⟩ := ck_of hF
        replace hF := lt_of hF
        refine yI_of wh (oA_404 hv_l0) c ?_
        clear c wh
        intro h wh
        obtain ⟨rfl, rfl⟩ := some_of hF
        exact hq _ wh
      · replace hF := if_ofF c hF
        refine gA_of (b := (404, l0)) (wh.2.1 10403 _ rfl hv_l0) ?_
        obtain ⟨c, hF⟩ := ck_of hF
        refine xI_of wh (oA_404 hv_l0) c ?_
        clear c
        obtain ⟨x7, w6, hG, hF⟩ := bnd_of hF
        refine cl_I (D := 0) (Nat.le_trans (by decide) hd) (c_J9_min_7cf53 wh  hG) ?_
        clear hG
        clear wh
        intro h wh
        obtain ⟨c, hF⟩ := ck_of hF
        replace hF := lt_of hF
        refine yI_of wh (oA_404 hv_l0) c ?_
        clear c wh
        intro h wh
        obtain ⟨rfl, rfl⟩ := some_of hF
        exact hq _ wh
  · replace hF := if_ofF c hF
    refine gA_of (b := (404, l0)) (wh.2.1 10403 _ rfl hv_l0) ?_
    refine ⟨fun c => ?_, fun c => ?_⟩
    · replace hF := if_ofT c hF
      refine gA_of (b := (404, l0)) (wh.2.1 10403 _ rfl hv_l0) ?_
      obtain ⟨c, hF⟩ := ck_of hF
      refine xI_of wh (oA_404 hv_l0) c ?_
      clear c
      obtain ⟨c, hF⟩ := ck_of hF
      replace hF := lt_of hF
      refine yI_of wh (oA_404 hv_l0) c ?_
      clear c wh
      intro h wh
      obtain ⟨rfl, rfl⟩ := some_of hF
      exact hq _ wh
    · replace hF := if_ofF c hF
      refine gA_of (b := (404, l0)) (wh.2.1 10403 _ rfl hv_l0) ?_
      obtain ⟨c, hF⟩ := ck_of hF
      refine xI_of wh (oA_404 hv_l0) c ?_
      clear c
      obtain ⟨x3, w2, hG, hF⟩ := bnd_of hF
      refine cl_I (D := 0) (Nat.le_trans (by decide) hd) (c_J9_min_7cf53 wh  hG) ?_
      clear hG
      clear wh
      intro h wh
      obtain ⟨c, hF⟩ := ck_of hF
      replace hF := lt_of hF
      refine yI_of wh (oA_404 hv_l0) c ?_
      clear c wh
      intro h wh
      obtain ⟨rfl, rfl⟩ := some_of hF
      exact hq _ wh
theorem c_X4_changeAir {X : SCR} {fu : Nat} {o : Int32} {w1 : MEM} {a0 : Nat} {a1 : Int32} {w : MEM} {h : PH} (wh : WH X h w) (h0 : vo 4 a0 = true) (hF : f_X4_changeAir fu a0 a1 w = some (o, w1)) : CT 1 M_X4_changeAir [vR (400, a0), vI a1] h 0 0 (QP X (.inl (some (vI o))) w1) :=
  CT_of mk_X4_changeAir (Nat.le_of_ble_eq_true rfl) rfl (w_X4_changeAir (fu := fu) (rc := 0) (rs := 0) (hd := Nat.le_refl 1) (hq := fun h1 g => ⟨rfl, g⟩) wh h0 hF)
-- X4_liftGlass
def f_X4_liftGlass (fu : Nat) (l0 : Nat) (l1 : Int32) (w : MEM) : Option (Int32 × MEM) := ck (bI l1 7) (if (rA w (407, l0) l1) = 0 then (some ((0 : Int32), w)) else (ck (bI l1 7) (lt (sA w (407, l0) l1 (0 : Int32)) fun (w1 : MEM) => ck (bI l1 7) (lt (sA w1 (403, l0) l1 (0 : Int32)) fun (w2 : MEM) => ck (bI l1 7) (lt (sA w2 (404, l0) l1 (99 : Int32)) fun (w3 : MEM) => ck (bI l1 7) (lt (sA w3 (406, l0) l1 (0 : Int32)) fun (w4 : MEM) => some ((1 : Int32), w4)))))))
theorem E_X4_liftGlass (fu : Nat) (l0 : Nat) (l1 : Int32) (w : MEM) : f_X4_liftGlass fu l0 l1 w = ck (bI l1 7) (if (rA w (407, l0) l1) = 0 then (some ((0 : Int32), w)) else (ck (bI l1 7) (lt (sA w (407, l0) l1 (0 : Int32)) fun (w1 : MEM) => ck (bI l1 7) (lt (sA w1 (403, l0) l1 (0 : Int32)) fun (w2 : MEM) => ck (bI l1 7) (lt (sA w2 (404, l0) l1 (99 : Int32)) fun (w3 : MEM) => ck (bI l1 7) (lt (sA w3 (406, l0) l1 (0 : Int32)) fun (w4 : MEM) => some ((1 : Int32), w4))))))) := rfl
theorem w_X4_liftGlass {X : SCR} {d rc rs : Nat} {Q : PO → PH → Prop} {o : Int32} {w1 : MEM} {fu : Nat} (hd : 0 ≤ d) (hq : ∀ h1, WH X h1 w1 → Q (.inl (some (vI o))) h1) {l0 : Nat} {l1 : Int32} {w : MEM} {h : PH} (wh : WH X h w) (hv_l0 : vo 4 l0 = true) (hF : f_X4_liftGlass fu l0 l1 w = some (o, w1)) : PW d M_X4_liftGlass Q rc rs 0 [vR (400, l0), vI l1] [] h := by
  replace hF := (E_X4_liftGlass fu l0 l1 w).symm.trans hF
  refine r_X4_liftGlass_0 ?_
  refine gA_of (b := (407, l0)) (wh.2.1 10406 _ rfl hv_l0) ?_
  obtain ⟨c, hF⟩ := ck_of hF
  refine xI_of wh (oA_407 hv_l0) c ?_
  clear c
  refine ⟨fun c => ?_, fun c => ?_⟩
  · replace hF := if_ofT c hF
    obtain ⟨rfl, rfl⟩ := some_of hF
    exact hq _ wh
  · replace hF := if_ofF c hF
    refine gA_of (b := (407, l0)) (wh.2.1 10406 _ rfl hv_l0) ?_
    obtain ⟨c, hF⟩ := ck_of hF
    replace hF := lt_of hF
    refine yI_of wh (oA_407 hv_l0) c ?_
    clear c wh
    intro h wh
    refine gA_of (b := (403, l0)) (wh.2.1 10402 _ rfl hv_l0) ?_
    obtain ⟨c, hF⟩ := ck_of hF
    replace hF := lt_of hF
    refine yI_of wh (oA_403 hv_l0) c ?_
    clear c wh
    intro h wh
    refine gA_of (b := (404, l0)) (wh.2.1 10403 _ rfl hv_l0) ?_
    obtain ⟨c, hF⟩ := ck_of hF
    replace hF := lt_of hF
    refine yI_of wh (oA_404 hv_l0) c ?_
    clear c wh
    intro h wh
    refine gA_of (b := (406, l0)) (wh.2.1 10405 _ rfl hv_l0) ?_
    obtain ⟨c, hF⟩ := ck_of hF
    replace hF := lt_of hF
    refine yI_of wh (oA_406 hv_l0) c ?_
    clear c wh
    intro h wh
    obtain ⟨rfl, rfl⟩ := some_of hF
    exact hq _ wh
theorem c_X4_liftGlass {X : SCR} {fu : Nat} {o : Int32} {w1 : MEM} {a0 : Nat} {a1 : Int32} {w : MEM} {h : PH} (wh : WH X h w) (h0 : vo 4 a0 = true) (hF : f_X4_liftGlass fu a0 a1 w = some (o, w1)) : CT 0 M_X4_liftGlass [vR (400, a0), vI a1] h 0 0 (QP X (.inl (some (vI o))) w1) :=
  CT_of mk_X4_liftGlass (Nat.le_of_ble_eq_true rfl) rfl (w_X4_liftGlass (fu := fu) (rc := 0) (rs := 0) (hd := Nat.le_refl 0) (hq := fun h1 g => ⟨rfl, g⟩) wh h0 hF)
-- X4_lowerGlass
def f_X4_lowerGlass (fu : Nat) (l0 : Nat) (l1 : Int32) (w : MEM) : Option (Int32 × MEM) := ck (bI l1 7) (if (rA w (407, l0) l1) = 0 then (ck (bI l1 7) (lt (sA w (407, l0) l1 (1 : Int32)) fun (w2 : MEM) => some ((1 : Int32), w2))) else (ck (bI l1 7) (lt (sA w (407, l0) l1 (1 : Int32)) fun (w1 : MEM) => some ((0 : Int32), w1))))
theorem E_X4_lowerGlass (fu : Nat) (l0 : Nat) (l1 : Int32) (w : MEM) : f_X4_lowerGlass fu l0 l1 w = ck (bI l1 7) (if (rA w (407, l0) l1) = 0 then (ck (bI l1 7) (lt (sA w (407, l0) l1 (1 : Int32)) fun (w2 : MEM) => some ((1 : Int32), w2))) else (ck (bI l1 7) (lt (sA w (407, l0) l1 (1 : Int32)) fun (w1 : MEM) => some ((0 : Int32), w1)))) := rfl
theorem w_X4_lowerGlass {X : SCR} {d rc rs : Nat} {Q : PO → PH → Prop} {o : Int32} {w1 : MEM} {fu : Nat} (hd : 0 ≤ d) (hq : ∀ h1, WH X h1 w1 → Q (.inl (some (vI o))) h1) {l0 : Nat} {l1 : Int32} {w : MEM} {h : PH} (wh : WH X h w) (hv_l0 : vo 4 l0 = true) (hF : f_X4_lowerGlass fu l0 l1 w = some (o, w1)) : PW d M_X4_lowerGlass Q rc rs 0 [vR (400, l0), vI l1, vU] [] h := by
  replace hF := (E_X4_lowerGlass fu l0 l1 w).symm.trans hF
  refine r_X4_lowerGlass_0 ?_
  refine gA_of (b := (407, l0)) (wh.2.1 10406 _ rfl hv_l0) ?_
  obtain ⟨c, hF⟩ := ck_of hF
  refine xI_of wh (oA_407 hv_l0) c ?_
  clear c
  refine ⟨fun c => ?_, fun c => ?_⟩
  · replace hF := if_ofT c hF
    refine gA_of (b := (407, l0)) (wh.2.1 10406 _ rfl hv_l0) ?_
    obtain ⟨c, hF⟩ := ck_of hF
    replace hF := lt_of hF
    refine yI_of wh (oA_407 hv_l0) c ?_
    clear c wh
    intro h wh
    obtain ⟨rfl, rfl⟩ := some_of hF
    exact hq _ wh
  · replace hF := if_ofF c hF
    refine gA_of (b := (407, l0)) (wh.2.1 10406 _ rfl hv_l0) ?_
    obtain ⟨c, hF⟩ := ck_of hF
    replace hF := lt_of hF
    refine yI_of wh (oA_407 hv_l0) c ?_
    clear c wh
    intro h wh
    obtain ⟨rfl, rfl⟩ := some_of hF
    exact hq _ wh
theorem c_X4_lowerGlass {X : SCR} {fu : Nat} {o : Int32} {w1 : MEM} {a0 : Nat} {a1 : Int32} {w : MEM} {h : PH} (wh : WH X h w) (h0 : vo 4 a0 = true) (hF : f_X4_lowerGlass fu a0 a1 w = some (o, w1)) : CT 0 M_X4_lowerGlass [vR (400, a0), vI a1] h 0 0 (QP X (.inl (some (vI o))) w1) :=
  CT_of mk_X4_lowerGlass (Nat.le_of_ble_eq_true rfl) rfl (w_X4_lowerGlass (fu := fu) (rc := 0) (rs := 0) (hd := Nat.le_refl 0) (hq := fun h1 g => ⟨rfl, g⟩) wh h0 hF)
-- X4_crackGlass
def f_X4_crackGlass (fu : Nat) (l0 : Nat) (l1 : Int32) (w : MEM) : Option (Int32 × MEM) := ck (bI l1 7) (if (rA w (407, l0) l1) = (1 : Int32) then (ck (bI l1 7) (if (rA w (405, l0) l1) < (3 : Int32) then (ck (bI l1 7) (if (1 : Int32) = 0 then (ck (bI l1 7) (lt (sA w (405, l0) l1 ((rA w (405, l0) l1) + (0 : Int32))) fun (w5 : MEM) => some ((1 : Int32), w5))) else (ck (bI l1 7) (lt (sA w (405, l0) l1 ((rA w (405, l0) l1) + (1 : Int32))) fun (w6 : MEM) => some ((1 : Int32), w6))))) else (ck (bI l1 7) (if (0 : Int32) = 0 then (ck (bI l1 7) (lt (sA w (405, l0) l1 ((rA w (405, l0) l1) + (0 : Int32))) fun (w3 : MEM) => some ((0 : Int32), w3))) else (ck (bI l1 7) (lt (sA w (405, l0) l1 ((rA w (405, l0) l1) + (1 : Int32))) fun (w4 : MEM) => some ((0 : Int32), w4))))))) else (ck (bI l1 7) (if (0 : Int32) = 0 then (ck (bI l1 7) (lt (sA w (405, l0) l1 ((rA w (405, l0) l1) + (0 : Int32))) fun (w1 : MEM) => some ((0 : Int32), w1))) else (ck (bI l1 7) (lt (sA w (405, l0) l1 ((rA w (405, l0) l1) + (1 : Int32))) fun (w2 : MEM) => some ((0 : Int32), w2))))))
theorem E_X4_crackGlass (fu : Nat) (l0 : Nat) (l1 : Int32) (w : MEM) : f_X4_crackGlass fu l0 l1 w = ck (bI l1 7) (if (rA w (407, l0) l1) = (1 : Int32) then (ck (bI l1 7) (if (rA w (405, l0) l1) < (3 : Int32) then (ck (bI l1 7) (if (1 : Int32) = 0 then (ck (bI l1 7) (lt (sA w (405, l0) l1 ((rA w (405, l0) l1) + (0 : Int32))) fun (w5 : MEM) => some ((1 : Int32), w5))) else (ck (bI l1 7) (lt (sA w (405, l0) l1 ((rA w (405, l0) l1) + (1 : Int32))) fun (w6 : MEM) => some ((1 : Int32), w6))))) else (ck (bI l1 7) (if (0 : Int32) = 0 then (ck (bI l1 7) (lt (sA w (405, l0) l1 ((rA w (405, l0) l1) + (0 : Int32))) fun (w3 : MEM) => some ((0 : Int32), w3))) else (ck (bI l1 7) (lt (sA w (405, l0) l1 ((rA w (405, l0) l1) + (1 : Int32))) fun (w4 : MEM) => some ((0 : Int32), w4))))))) else (ck (bI l1 7) (if (0 : Int32) = 0 then (ck (bI l1 7) (lt (sA w (405, l0) l1 ((rA w (405, l0) l1) + (0 : Int32))) fun (w1 : MEM) => some ((0 : Int32), w1))) else (ck (bI l1 7) (lt (sA w (405, l0) l1 ((rA w (405, l0) l1) + (1 : Int32))) fun (w2 : MEM) => some ((0 : Int32), w2)))))) := rfl
theorem w_X4_crackGlass {X : SCR} {d rc rs : Nat} {Q : PO → PH → Prop} {o : Int32} {w1 : MEM} {fu : Nat} (hd : 0 ≤ d) (hq : ∀ h1, WH X h1 w1 → Q (.inl (some (vI o))) h1) {l0 : Nat} {l1 : Int32} {w : MEM} {h : PH} (wh : WH X h w) (hv_l0 : vo 4 l0 = true) (hF : f_X4_crackGlass fu l0 l1 w = some (o, w1)) : PW d M_X4_crackGlass Q rc rs 0 [vR (400, l0), vI l1, vU] [] h := by
  replace hF := (E_X4_crackGlass fu l0 l1 w).symm.trans hF
  refine r_X4_crackGlass_0 ?_
  refine gA_of (b := (407, l0)) (wh.2.1 10406 _ rfl hv_l0) ?_
  obtain ⟨c, hF⟩ := ck_of hF
  refine xI_of wh (oA_407 hv_l0) c ?_
  clear c
  refine ⟨fun c => ?_, fun c => ?_⟩
  · replace hF := if_ofT c hF
    refine gA_of (b := (405, l0)) (wh.2.1 10404 _ rfl hv_l0) ?_
    obtain ⟨c, hF⟩ := ck_of hF
    refine xI_of wh (oA_405 hv_l0) c ?_
    clear c
    refine ⟨fun c => ?_, fun c => ?_⟩
    · replace hF := if_ofT c hF
      refine gA_of (b := (405, l0)) (wh.2.1 10404 _ rfl hv_l0) ?_
      obtain ⟨c, hF⟩ := ck_of hF
      refine xI_of wh (oA_405 hv_l0) c ?_
      clear c
      refine ⟨fun c => ?_, fun c => ?_⟩
      · replace hF := if_ofT c hF
        obtain ⟨c, hF⟩ := ck_of hF
        replace hF := lt_of hF
        refine yI_of wh (oA_405 hv_l0) c ?_
        clear c wh
        intro h wh
        obtain ⟨rfl, rfl⟩ := some_of hF
        exact hq _ wh
      · replace hF := if_ofF c hF
        obtain ⟨c, hF⟩ := ck_of hF
        replace hF := lt_of hF
        refine yI_of wh (oA_405 hv_l0) c ?_
        clear c wh
        intro h wh
        obtain ⟨rfl, rfl⟩ := some_of hF
        exact hq _ wh
    · replace hF := if_ofF c hF
      refine gA_of (b := (405, l0)) (wh.2.1 10404 _ rfl hv_l0) ?_
      obtain ⟨c, hF⟩ := ck_of hF
      refine xI_of wh (oA_405 hv_l0) c ?_
      clear c
      refine ⟨fun c => ?_, fun c => ?_⟩
      · replace hF := if_ofT c hF
        obtain ⟨c, hF⟩ := ck_of hF
        replace hF := lt_of hF
        refine yI_of wh (oA_405 hv_l0) c ?_
        clear c wh
        intro h wh
        obtain ⟨rfl, rfl⟩ := some_of hF
        exact hq _ wh
      · replace hF := if_ofF c hF
        obtain ⟨c, hF⟩ := ck_of hF
        replace hF := lt_of hF
        refine yI_of wh (oA_405 hv_l0) c ?_
        clear c wh
        intro h wh
        obtain ⟨rfl, rfl⟩ := some_of hF
        exact hq _ wh
  · replace hF := if_ofF c hF
    refine gA_of (b := (405, l0)) (wh.2.1 10404 _ rfl hv_l0) ?_
    obtain ⟨c, hF⟩ := ck_of hF
    refine xI_of wh (oA_405 hv_l0) c ?_
    clear c
    refine ⟨fun c => ?_, fun c => ?_⟩
    · replace hF := if_ofT c hF
      obtain ⟨c, hF⟩ := ck_of hF
      replace hF := lt_of hF
      refine yI_of wh (oA_405 hv_l0) c ?_
      clear c wh
      intro h wh
      obtain ⟨rfl, rfl⟩ := some_of hF
      exact hq _ wh
    · replace hF := if_ofF c hF
      obtain ⟨c, hF⟩ := ck_of hF
      replace hF := lt_of hF
      refine yI_of wh (oA_405 hv_l0) c ?_
      clear c wh
      intro h wh
      obtain ⟨rfl, rfl⟩ := some_of hF
      exact hq _ wh
theorem c_X4_crackGlass {X : SCR} {fu : Nat} {o : Int32} {w1 : MEM} {a0 : Nat} {a1 : Int32} {w : MEM} {h : PH} (wh : WH X h w) (h0 : vo 4 a0 = true) (hF : f_X4_crackGlass fu a0 a1 w = some (o, w1)) : CT 0 M_X4_crackGlass [vR (400, a0), vI a1] h 0 0 (QP X (.inl (some (vI o))) w1) :=
  CT_of mk_X4_crackGlass (Nat.le_of_ble_eq_true rfl) rfl (w_X4_crackGlass (fu := fu) (rc := 0) (rs := 0) (hd := Nat.le_refl 0) (hq := fun h1 g => ⟨rfl, g⟩) wh h0 hF)
-- X4_setFerns
def f_X4_setFerns (fu : Nat) (l0 : Nat) (l1 : Int32) (l2 : Int32) (w : MEM) : Option (Int32 × MEM) := ck (bI l1 7) (if (rA w (402, l0) l1) = l2 then (ck (bI l1 7) (lt (sA w (402, l0) l1 l2) fun (w1 : MEM) => some ((0 : Int32), w1))) else (ck (bI l1 7) (lt (sA w (402, l0) l1 l2) fun (w2 : MEM) => some ((1 : Int32), w2))))
theorem E_X4_setFerns (fu : Nat) (l0 : Nat) (l1 : Int32) (l2 : Int32) (w : MEM) : f_X4_setFerns fu l0 l1 l2 w = ck (bI l1 7) (if (rA w (402, l0) l1) = l2 then (ck (bI l1 7) (lt (sA w (402, l0) l1 l2) fun (w1 : MEM) => some ((0 : Int32), w1))) else (ck (bI l1 7) (lt (sA w (402, l0) l1 l2) fun (w2 : MEM) => some ((1 : Int32), w2)))) := rfl
theorem w_X4_setFerns {X : SCR} {d rc rs : Nat} {Q : PO → PH → Prop} {o : Int32} {w1 : MEM} {fu : Nat} (hd : 0 ≤ d) (hq : ∀ h1, WH X h1 w1 → Q (.inl (some (vI o))) h1) {l0 : Nat} {l1 : Int32} {l2 : Int32} {w : MEM} {h : PH} (wh : WH X h w) (hv_l0 : vo 4 l0 = true) (hF : f_X4_setFerns fu l0 l1 l2 w = some (o, w1)) : PW d M_X4_setFerns Q rc rs 0 [vR (400, l0), vI l1, vI l2, vU] [] h := by
  replace hF := (E_X4_setFerns fu l0 l1 l2 w).symm.trans hF
  refine r_X4_setFerns_0 ?_
  refine gA_of (b := (402, l0)) (wh.2.1 10401 _ rfl hv_l0) ?_
  obtain ⟨c, hF⟩ := ck_of hF
  refine xI_of wh (oA_402 hv_l0) c ?_
  clear c
  refine ⟨fun c => ?_, fun c => ?_⟩
  · replace hF := if_ofT c hF
    refine gA_of (b := (402, l0)) (wh.2.1 10401 _ rfl hv_l0) ?_
    obtain ⟨c, hF⟩ := ck_of hF
    replace hF := lt_of hF
    refine yI_of wh (oA_402 hv_l0) c ?_
    clear c wh
    intro h wh
    obtain ⟨rfl, rfl⟩ := some_of hF
    exact hq _ wh
  · replace hF := if_ofF c hF
    refine gA_of (b := (402, l0)) (wh.2.1 10401 _ rfl hv_l0) ?_
    obtain ⟨c, hF⟩ := ck_of hF
    replace hF := lt_of hF
    refine yI_of wh (oA_402 hv_l0) c ?_
    clear c wh
    intro h wh
    obtain ⟨rfl, rfl⟩ := some_of hF
    exact hq _ wh
theorem c_X4_setFerns {X : SCR} {fu : Nat} {o : Int32} {w1 : MEM} {a0 : Nat} {a1 : Int32} {a2 : Int32} {w : MEM} {h : PH} (wh : WH X h w) (h0 : vo 4 a0 = true) (hF : f_X4_setFerns fu a0 a1 a2 w = some (o, w1)) : CT 0 M_X4_setFerns [vR (400, a0), vI a1, vI a2] h 0 0 (QP X (.inl (some (vI o))) w1) :=
  CT_of mk_X4_setFerns (Nat.le_of_ble_eq_true rfl) rfl (w_X4_setFerns (fu := fu) (rc := 0) (rs := 0) (hd := Nat.le_refl 0) (hq := fun h1 g => ⟨rfl, g⟩) wh h0 hF)
-- X4_comesOn
def f_X4_comesOn (fu : Nat) (l0 : Nat) (l1 : Int32) (l2 : Int32) (l3 : Nat) (w : MEM) : Option (Int32 × MEM) := ck (bI l1 7) (if (rA w (407, l0) l1) = 0 then (some ((0 : Int32), w)) else (if (24 : Int32) = 0 then none else (lt (((rS w (10409, l0)) - (rS w (10409, l0)) / (24 : Int32) * (24 : Int32))) fun (v1 : Int32) => ck (bI l1 7) (ck (bI l1 7) (bnd (f_X3_setHeir fu l3 (rA w (401, l0) l1) (rA w (402, l0) l1) l1 w) fun (u3 : Unit) (w2 : MEM) => ck (bI l1 7) (ck (bI l1 7) (ck (bI l1 7) (ck (bI l1 7) (bnd (f_X3_setGlass fu l3 (rA w2 (406, l0) l1) (rA w2 (404, l0) l1) (rA w2 (405, l0) l1) (rA w2 (403, l0) l1) w2) fun (u5 : Unit) (w4 : MEM) => if v1 = l2 then (bnd (f_X3_setHour fu l3 v1 (1 : Int32) w4) fun (u11 : Unit) (w10 : MEM) => bnd (f_X3_comes fu l3 w10) fun (x13 : Int32) (w12 : MEM) => some (x13, w12)) else (bnd (f_X3_setHour fu l3 v1 (0 : Int32) w4) fun (u7 : Unit) (w6 : MEM) => bnd (f_X3_comes fu l3 w6) fun (x9 : Int32) (w8 : MEM) => some (x9, w8)))))))))))
theorem E_X4_comesOn (fu : Nat) (l0 : Nat) (l1 : Int32) (l2 : Int32) (l3 : Nat) (w : MEM) : f_X4_comesOn fu l0 l1 l2 l3 w = ck (bI l1 7) (if (rA w (407, l0) l1) = 0 then (some ((0 : Int32), w)) else (if (24 : Int32) = 0 then none else (lt (((rS w (10409, l0)) - (rS w (10409, l0)) / (24 : Int32) * (24 : Int32))) fun (v1 : Int32) => ck (bI l1 7) (ck (bI l1 7) (bnd (f_X3_setHeir fu l3 (rA w (401, l0) l1) (rA w (402, l0) l1) l1 w) fun (u3 : Unit) (w2 : MEM) => ck (bI l1 7) (ck (bI l1 7) (ck (bI l1 7) (ck (bI l1 7) (bnd (f_X3_setGlass fu l3 (rA w2 (406, l0) l1) (rA w2 (404, l0) l1) (rA w2 (405, l0) l1) (rA w2 (403, l0) l1) w2) fun (u5 : Unit) (w4 : MEM) => if v1 = l2 then (bnd (f_X3_setHour fu l3 v1 (1 : Int32) w4) fun (u11 : Unit) (w10 : MEM) => bnd (f_X3_comes fu l3 w10) fun (x13 : Int32) (w12 : MEM) => some (x13, w12)) else (bnd (f_X3_setHour fu l3 v1 (0 : Int32) w4) fun (u7 : Unit) (w6 : MEM) => bnd (f_X3_comes fu l3 w6) fun (x9 : Int32) (w8 : MEM) => some (x9, w8))))))))))) := rfl
theorem w_X4_comesOn {X : SCR} {d rc rs : Nat} {Q : PO → PH → Prop} {o : Int32} {w1 : MEM} {fu : Nat} (hd : 2 ≤ d) (hq : ∀ h1, WH X h1 w1 → Q (.inl (some (vI o))) h1) {l0 : Nat} {l1 : Int32} {l2 : Int32} {l3 : Nat} {w : MEM} {h : PH} (wh : WH X h w) (hv_l0 : vo 4 l0 = true) (hv_l3 : vo 3 l3 = true) (hF : f_X4_comesOn fu l0 l1 l2 l3 w = some (o, w1)) : PW d M_X4_comesOn Q rc rs 0 [vR (400, l0), vI l1, vI l2, vR (300, l3), vU] [] h := by
  replace hF := (E_X4_comesOn fu l0 l1 l2 l3 w).symm.trans hF
  refine r_X4_comesOn_0 ?_
  refine gA_of (b := (407, l0)) (wh.2.1 10406 _ rfl hv_l0) ?_
  obtain ⟨c, hF⟩ := ck_of hF
  refine xI_of wh (oA_407 hv_l0) c ?_
  clear c
  refine ⟨fun c => ?_, fun c => ?_⟩
  · replace hF := if_ofT c hF
    obtain ⟨rfl, rfl⟩ := some_of hF
    exact hq _ wh
  · replace hF := if_ofF c hF
    refine gI_of (wh.1 10409 _ rfl hv_l0) ?_
    obtain ⟨c, hF⟩ := nzF_of hF
    refine ⟨c, ?_⟩
    replace hF := lt_of hF
    refine gA_of (b := (401, l0)) (wh.2.1 10400 _ rfl hv_l0) ?_
    obtain ⟨c, hF⟩ := ck_of hF
    refine xI_of wh (oA_401 hv_l0) c ?_
    clear c
    refine gA_of (b := (402, l0)) (wh.2.1 10401 _ rfl hv_l0) ?_
    obtain ⟨c, hF⟩ := ck_of hF
    refine xI_of wh (oA_402 hv_l0) c ?_
    clear c
    refine ⟨⟨_, wh.2.1 10300 _ rfl hv_l3⟩, ?_⟩
    obtain ⟨u3, w2, hG, hF⟩ := bnd_of hF
    refine cl_V (D := 0) (Nat.le_trans (by decide) hd) (c_X3_setHeir wh hv_l3 hG) ?_
    clear hG
    clear wh
    intro h wh
    refine gA_of (b := (406, l0)) (wh.2.1 10405 _ rfl hv_l0) ?_
    obtain ⟨c, hF⟩ := ck_of hF
    refine xI_of wh (oA_406 hv_l0) c ?_
    clear c
    refine gA_of (b := (404, l0)) (wh.2.1 10403 _ rfl hv_l0) ?_
    obtain ⟨c, hF⟩ := ck_of hF
    refine xI_of wh (oA_404 hv_l0) c ?_
    clear c
    refine gA_of (b := (405, l0)) (wh.2.1 10404 _ rfl hv_l0) ?_
    obtain ⟨c, hF⟩ := ck_of hF
    refine xI_of wh (oA_405 hv_l0) c ?_
    clear c
    refine gA_of (b := (403, l0)) (wh.2.1 10402 _ rfl hv_l0) ?_
    obtain ⟨c, hF⟩ := ck_of hF
    refine xI_of wh (oA_403 hv_l0) c ?_
    clear c
    refine ⟨⟨_, wh.2.1 10300 _ rfl hv_l3⟩, ?_⟩
    obtain ⟨u5, w4, hG, hF⟩ := bnd_of hF
    refine cl_V (D := 0) (Nat.le_trans (by decide) hd) (c_X3_setGlass wh hv_l3 hG) ?_
    clear hG
    clear wh
    intro h wh
    refine ⟨fun c => ?_, fun c => ?_⟩
    · replace hF := if_ofT c hF
      refine ⟨⟨_, wh.2.1 10300 _ rfl hv_l3⟩, ?_⟩
      obtain ⟨u11, w10, hG, hF⟩ := bnd_of hF
      refine cl_V (D := 0) (Nat.le_trans (by decide) hd) (c_X3_setHour wh hv_l3 hG) ?_
      clear hG
      clear wh
      intro h wh
      refine ⟨⟨_, wh.2.1 10300 _ rfl hv_l3⟩, ?_⟩
      obtain ⟨x13, w12, hG, hF⟩ := bnd_of hF
      refine cl_I (D := 1) (Nat.le_trans (by decide) hd) (c_X3_comes wh hv_l3 hG) ?_
      clear hG
      clear wh
      intro h wh
      obtain ⟨rfl, rfl⟩ := some_of hF
      exact hq _ wh
    · replace hF := if_ofF c hF
      refine ⟨⟨_, wh.2.1 10300 _ rfl hv_l3⟩, ?_⟩
      obtain ⟨u7, w6, hG, hF⟩ := bnd_of hF
      refine cl_V (D := 0) (Nat.le_trans (by decide) hd) (c_X3_setHour wh hv_l3 hG) ?_
      clear hG
      clear wh
      intro h wh
      refine ⟨⟨_, wh.2.1 10300 _ rfl hv_l3⟩, ?_⟩
      obtain ⟨x9, w8, hG, hF⟩ := bnd_of hF
      refine cl_I (D := 1) (Nat.le_trans (by decide) hd) (c_X3_comes wh hv_l3 hG) ?_
      clear hG
      clear wh
      intro h wh
      obtain ⟨rfl, rfl⟩ := some_of hF
      exact hq _ wh
theorem c_X4_comesOn {X : SCR} {fu : Nat} {o : Int32} {w1 : MEM} {a0 : Nat} {a1 : Int32} {a2 : Int32} {a3 : Nat} {w : MEM} {h : PH} (wh : WH X h w) (h0 : vo 4 a0 = true) (h1 : vo 3 a3 = true) (hF : f_X4_comesOn fu a0 a1 a2 a3 w = some (o, w1)) : CT 2 M_X4_comesOn [vR (400, a0), vI a1, vI a2, vR (300, a3)] h 0 0 (QP X (.inl (some (vI o))) w1) :=
  CT_of mk_X4_comesOn (Nat.le_of_ble_eq_true rfl) rfl (w_X4_comesOn (fu := fu) (rc := 0) (rs := 0) (hd := Nat.le_refl 2) (hq := fun h1 g => ⟨rfl, g⟩) wh h0 h1 hF)
-- X4_passHour
def f_X4_passHour_180 (fu : Nat) (k69 : Nat → Nat → Nat → Int32 → MEM → Option (Int32 × MEM)) (l0 : Nat) (l1 : Nat) (l2 : Nat) (l4 : Int32) (s0 : LA) (s1 : Int32) (s2 : Int32) (s3 : Int32) (w : MEM) : Option (Int32 × MEM) := ck (bI s1 (aN s0.1)) (lt (sA w s0 s1 (s2 + s3)) fun (w1 : MEM) => ck (bI l4 7) (if (rA w1 (403, l0) l4) < (50 : Int32) then (ck (bI l4 7) (ck (bI l4 7) (lt (sA w1 (408, l0) l4 (rA w1 (408, l0) l4)) fun (w2 : MEM) => k69 l0 l1 l2 (l4 + (1 : Int32)) w2))) else (ck (bI l4 7) (if (rA w1 (408, l0) l4) = (-1 : Int32) then (ck (bI l4 7) (lt (sA w1 (408, l0) l4 (rS w1 (10409, l0))) fun (w4 : MEM) => k69 l0 l1 l2 (l4 + (1 : Int32)) w4)) else (ck (bI l4 7) (ck (bI l4 7) (lt (sA w1 (408, l0) l4 (rA w1 (408, l0) l4)) fun (w3 : MEM) => k69 l0 l1 l2 (l4 + (1 : Int32)) w3)))))))
theorem E_X4_passHour_180 (fu : Nat) (k69 : Nat → Nat → Nat → Int32 → MEM → Option (Int32 × MEM)) (l0 : Nat) (l1 : Nat) (l2 : Nat) (l4 : Int32) (s0 : LA) (s1 : Int32) (s2 : Int32) (s3 : Int32) (w : MEM) : f_X4_passHour_180 fu k69 l0 l1 l2 l4 s0 s1 s2 s3 w = ck (bI s1 (aN s0.1)) (lt (sA w s0 s1 (s2 + s3)) fun (w1 : MEM) => ck (bI l4 7) (if (rA w1 (403, l0) l4) < (50 : Int32) then (ck (bI l4 7) (ck (bI l4 7) (lt (sA w1 (408, l0) l4 (rA w1 (408, l0) l4)) fun (w2 : MEM) => k69 l0 l1 l2 (l4 + (1 : Int32)) w2))) else (ck (bI l4 7) (if (rA w1 (408, l0) l4) = (-1 : Int32) then (ck (bI l4 7) (lt (sA w1 (408, l0) l4 (rS w1 (10409, l0))) fun (w4 : MEM) => k69 l0 l1 l2 (l4 + (1 : Int32)) w4)) else (ck (bI l4 7) (ck (bI l4 7) (lt (sA w1 (408, l0) l4 (rA w1 (408, l0) l4)) fun (w3 : MEM) => k69 l0 l1 l2 (l4 + (1 : Int32)) w3))))))) := rfl
theorem w_X4_passHour_180 {X : SCR} {d rc rs : Nat} {Q : PO → PH → Prop} {o : Int32} {w1 : MEM} {fu : Nat} {k69 : Nat → Nat → Nat → Int32 → MEM → Option (Int32 × MEM)} (hd : 3 ≤ d) (hq : ∀ h1, WH X h1 w1 → Q (.inl (some (vI o))) h1) (hk69 : ∀ (l0 : Nat) (l1 : Nat) (l2 : Nat) (l4 : Int32) (w : MEM) (h : PH), WH X h w → vo 4 l0 = true → vo 1 l1 = true → vo 3 l2 = true → k69 l0 l1 l2 l4 w = some (o, w1) → PW d M_X4_passHour Q rc rs 69 [vR (400, l0), vR (100, l1), vR (300, l2), vU, vI l4, vU] [] h) {l0 : Nat} {l1 : Nat} {l2 : Nat} {l4 : Int32} {s0 : LA} {s1 : Int32} {s2 : Int32} {s3 : Int32} {w : MEM} {h : PH} (wh : WH X h w) (hv_l0 : vo 4 l0 = true) (hv_l1 : vo 1 l1 = true) (hv_l2 : vo 3 l2 = true) (ha_s0 : oA s0 0) (hF : f_X4_passHour_180 fu k69 l0 l1 l2 l4 s0 s1 s2 s3 w = some (o, w1)) : PW d M_X4_passHour Q rc rs 180 [vR (400, l0), vR (100, l1), vR (300, l2), vU, vI l4, vU] [vI s3, vI s2, vI s1, vR s0] h := by
  replace hF := (E_X4_passHour_180 fu k69 l0 l1 l2 l4 s0 s1 s2 s3 w).symm.trans hF
  refine r_X4_passHour_180 ?_
  obtain ⟨c, hF⟩ := ck_of hF
  replace hF := lt_of hF
  refine yI_of wh ha_s0 c ?_
  clear c wh
  intro h wh
  refine gA_of (b := (408, l0)) (wh.2.1 10407 _ rfl hv_l0) ?_
  refine gA_of (b := (403, l0)) (wh.2.1 10402 _ rfl hv_l0) ?_
  obtain ⟨c, hF⟩ := ck_of hF
  refine xI_of wh (oA_403 hv_l0) c ?_
  clear c
  refine ⟨fun c => ?_, fun c => ?_⟩
  · replace hF := if_ofT c hF
    refine gA_of (b := (408, l0)) (wh.2.1 10407 _ rfl hv_l0) ?_
    obtain ⟨c, hF⟩ := ck_of hF
    refine xI_of wh (oA_408 hv_l0) c ?_
    clear c
    obtain ⟨c, hF⟩ := ck_of hF
    replace hF := lt_of hF
    refine yI_of wh (oA_408 hv_l0) c ?_
    clear c wh
    intro h wh
    exact hk69 _ _ _ _ _ _ wh hv_l0 hv_l1 hv_l2 hF
  · replace hF := if_ofF c hF
    refine gA_of (b := (408, l0)) (wh.2.1 10407 _ rfl hv_l0) ?_
    obtain ⟨c, hF⟩ := ck_of hF
    refine xI_of wh (oA_408 hv_l0) c ?_
    clear c
    refine ⟨fun c => ?_, fun c => ?_⟩
    · replace hF := if_ofT c hF
      refine gI_of (wh.1 10409 _ rfl hv_l0) ?_
      obtain ⟨c, hF⟩ := ck_of hF
      replace hF := lt_of hF
      refine yI_of wh (oA_408 hv_l0) c ?_
      clear c wh
      intro h wh
      exact hk69 _ _ _ _ _ _ wh hv_l0 hv_l1 hv_l2 hF
    · replace hF := if_ofF c hF
      refine gA_of (b := (408, l0)) (wh.2.1 10407 _ rfl hv_l0) ?_
      obtain ⟨c, hF⟩ := ck_of hF
      refine xI_of wh (oA_408 hv_l0) c ?_
      clear c
      obtain ⟨c, hF⟩ := ck_of hF
      replace hF := lt_of hF
      refine yI_of wh (oA_408 hv_l0) c ?_
      clear c wh
      intro h wh
      exact hk69 _ _ _ _ _ _ wh hv_l0 hv_l1 hv_l2 hF
def f_X4_passHour_69 (fu : Nat) : Nat → Nat → Nat → Nat → Int32 → MEM → Option (Int32 × MEM)
  | 0, _, _, _, _, _ => none
  | n + 1, l0, l1, l2, l4, w => if l4 < (7 : Int32) then (ck (bI l4 7) (if (rA w (407, l0) l4) = (1 : Int32) then (ck (bI l4 7) (bnd (f_X4_comesOn fu l0 l4 (rS w (10110, l1)) l2 w) fun (x5 : Int32) (w4 : MEM) => bnd (f_J9_min_7cf53 fu (99 : Int32) ((rA w (403, l0) l4) + x5) w4) fun (x7 : Int32) (w6 : MEM) => ck (bI l4 7) (lt (sA w6 (403, l0) l4 x7) fun (w8 : MEM) => ck (bI l4 7) (ck (bI l4 7) (ck (bI l4 7) (bnd (f_J9_min_7cf53 fu (99 : Int32) (((rA w8 (404, l0) l4) - (rA w8 (401, l0) l4)) + (rA w8 (402, l0) l4)) w8) fun (x10 : Int32) (w9 : MEM) => bnd (f_J9_max_7cf53 fu (0 : Int32) x10 w9) fun (x12 : Int32) (w11 : MEM) => ck (bI l4 7) (lt (sA w11 (404, l0) l4 x12) fun (w13 : MEM) => ck (bI l4 7) (ck (bI l4 7) (if (rA w13 (404, l0) l4) = 0 then (f_X4_passHour_180 fu (fun l0 l1 l2 l4 w => f_X4_passHour_69 fu n l0 l1 l2 l4 w) l0 l1 l2 l4 (409, l0) l4 (rA w13 (409, l0) l4) (1 : Int32) w13) else (f_X4_passHour_180 fu (fun l0 l1 l2 l4 w => f_X4_passHour_69 fu n l0 l1 l2 l4 w) l0 l1 l2 l4 (409, l0) l4 (rA w13 (409, l0) l4) (0 : Int32) w13)))))))))) else (f_X4_passHour_69 fu n l0 l1 l2 (l4 + (1 : Int32)) w))) else (bnd (f_J7_fill_53178 fu (406, l0) (0 : Int32) w) fun (u2 : Unit) (w1 : MEM) => lt (sS w1 (10409, l0) ((rS w1 (10409, l0)) + (1 : Int32))) fun (w3 : MEM) => some ((1 : Int32), w3))
theorem E_X4_passHour_69 (fu : Nat) (n : Nat) (l0 : Nat) (l1 : Nat) (l2 : Nat) (l4 : Int32) (w : MEM) : f_X4_passHour_69 fu (n + 1) l0 l1 l2 l4 w = if l4 < (7 : Int32) then (ck (bI l4 7) (if (rA w (407, l0) l4) = (1 : Int32) then (ck (bI l4 7) (bnd (f_X4_comesOn fu l0 l4 (rS w (10110, l1)) l2 w) fun (x5 : Int32) (w4 : MEM) => bnd (f_J9_min_7cf53 fu (99 : Int32) ((rA w (403, l0) l4) + x5) w4) fun (x7 : Int32) (w6 : MEM) => ck (bI l4 7) (lt (sA w6 (403, l0) l4 x7) fun (w8 : MEM) => ck (bI l4 7) (ck (bI l4 7) (ck (bI l4 7) (bnd (f_J9_min_7cf53 fu (99 : Int32) (((rA w8 (404, l0) l4) - (rA w8 (401, l0) l4)) + (rA w8 (402, l0) l4)) w8) fun (x10 : Int32) (w9 : MEM) => bnd (f_J9_max_7cf53 fu (0 : Int32) x10 w9) fun (x12 : Int32) (w11 : MEM) => ck (bI l4 7) (lt (sA w11 (404, l0) l4 x12) fun (w13 : MEM) => ck (bI l4 7) (ck (bI l4 7) (if (rA w13 (404, l0) l4) = 0 then (f_X4_passHour_180 fu (fun l0 l1 l2 l4 w => f_X4_passHour_69 fu n l0 l1 l2 l4 w) l0 l1 l2 l4 (409, l0) l4 (rA w13 (409, l0) l4) (1 : Int32) w13) else (f_X4_passHour_180 fu (fun l0 l1 l2 l4 w => f_X4_passHour_69 fu n l0 l1 l2 l4 w) l0 l1 l2 l4 (409, l0) l4 (rA w13 (409, l0) l4) (0 : Int32) w13)))))))))) else (f_X4_passHour_69 fu n l0 l1 l2 (l4 + (1 : Int32)) w))) else (bnd (f_J7_fill_53178 fu (406, l0) (0 : Int32) w) fun (u2 : Unit) (w1 : MEM) => lt (sS w1 (10409, l0) ((rS w1 (10409, l0)) + (1 : Int32))) fun (w3 : MEM) => some ((1 : Int32), w3)) := rfl
theorem w_X4_passHour_69 {X : SCR} {d rc rs : Nat} {Q : PO → PH → Prop} {o : Int32} {w1 : MEM} {fu : Nat} (hd : 3 ≤ d) (hq : ∀ h1, WH X h1 w1 → Q (.inl (some (vI o))) h1) : ∀ (n : Nat) (l0 : Nat) (l1 : Nat) (l2 : Nat) (l4 : Int32) (w : MEM) (h : PH), WH X h w → vo 4 l0 = true → vo 1 l1 = true → vo 3 l2 = true → f_X4_passHour_69 fu n l0 l1 l2 l4 w = some (o, w1) → PW d M_X4_passHour Q rc rs 69 [vR (400, l0), vR (100, l1), vR (300, l2), vU, vI l4, vU] [] h := by
  intro n
  induction n with
  | zero => intro l0 l1 l2 l4 w h wh hv_l0 hv_l1 hv_l2 hF; cases hF
  | succ n ih =>
    intro l0 l1 l2 l4 w h wh hv_l0 hv_l1 hv_l2 hF
    replace hF := (E_X4_passHour_69 fu n l0 l1 l2 l4 w).symm.trans hF
    refine r_X4_passHour_69 ?_
    refine ⟨fun c => ?_, fun c => ?_⟩
    · replace hF := if_ofT c hF
      refine gA_of (b := (407, l0)) (wh.2.1 10406 _ rfl hv_l0) ?_
      obtain ⟨c, hF⟩ := ck_of hF
      refine xI_of wh (oA_407 hv_l0) c ?_
      clear c
      refine ⟨fun c => ?_, fun c => ?_⟩
      · replace hF := if_ofT c hF
        refine gA_of (b := (403, l0)) (wh.2.1 10402 _ rfl hv_l0) ?_
        refine gA_of (b := (403, l0)) (wh.2.1 10402 _ rfl hv_l0) ?_
        obtain ⟨c, hF⟩ := ck_of hF
        refine xI_of wh (oA_403 hv_l0) c ?_
        clear c
        refine gI_of (wh.1 10110 _ rfl hv_l1) ?_
        refine ⟨⟨_, wh.2.1 10400 _ rfl hv_l0⟩, ?_⟩
        obtain ⟨x5, w4, hG, hF⟩ := bnd_of hF
        refine cl_I (D := 2) (Nat.le_trans (by decide) hd) (c_X4_comesOn wh hv_l0 hv_l2 hG) ?_
        clear hG
        clear wh
        intro h wh
        obtain ⟨x7, w6, hG, hF⟩ := bnd_of hF
        refine cl_I (D := 0) (Nat.le_trans (by decide) hd) (c_J9_min_7cf53 wh  hG) ?_
        clear hG
        clear wh
        intro h wh
        obtain ⟨c, hF⟩ := ck_of hF
        replace hF := lt_of hF
        refine yI_of wh (oA_403 hv_l0) c ?_
        clear c wh
        intro h wh
        refine gA_of (b := (404, l0)) (wh.2.1 10403 _ rfl hv_l0) ?_
        refine gA_of (b := (404, l0)) (wh.2.1 10403 _ rfl hv_l0) ?_
        obtain ⟨c, hF⟩ := ck_of hF
        refine xI_of wh (oA_404 hv_l0) c ?_
        clear c
        refine gA_of (b := (401, l0)) (wh.2.1 10400 _ rfl hv_l0) ?_
        obtain ⟨c, hF⟩ := ck_of hF
        refine xI_of wh (oA_401 hv_l0) c ?_
        clear c
        refine gA_of (b := (402, l0)) (wh.2.1 10401 _ rfl hv_l0) ?_
        obtain ⟨c, hF⟩ := ck_of hF
        refine xI_of wh (oA_402 hv_l0) c ?_
        clear c
        obtain ⟨x10, w9, hG, hF⟩ := bnd_of hF
        refine cl_I (D := 0) (Nat.le_trans (by decide) hd) (c_J9_min_7cf53 wh  hG) ?_
        clear hG
        clear wh
        intro h wh
        obtain ⟨x12, w11, hG, hF⟩ := bnd_of hF
        refine cl_I (D := 0) (Nat.le_trans (by decide) hd) (c_J9_max_7cf53 wh  hG) ?_
        clear hG
        clear wh
        intro h wh
        obtain ⟨c, hF⟩ := ck_of hF
        replace hF := lt_of hF
        refine yI_of wh (oA_404 hv_l0) c ?_
        clear c wh
        intro h wh
        refine gA_of (b := (409, l0)) (wh.2.1 10408 _ rfl hv_l0) ?_
        obtain ⟨c, hF⟩ := ck_of hF
        refine xI_of wh (oA_409 hv_l0) c ?_
        clear c
        refine gA_of (b := (404, l0)) (wh.2.1 10403 _ rfl hv_l0) ?_
        obtain ⟨c, hF⟩ := ck_of hF
        refine xI_of wh (oA_404 hv_l0) c ?_
        clear c
        refine ⟨fun c => ?_, fun c => ?_⟩
        · replace hF := if_ofT c hF
          exact w_X4_passHour_180 hd hq (fun l0 l1 l2 l4 w h wh g0 g1 g2 hF => ih l0 l1 l2 l4 w h wh g0 g1 g2 hF) wh hv_l0 hv_l1 hv_l2 (oA_409 hv_l0) hF
        · replace hF := if_ofF c hF
          exact w_X4_passHour_180 hd hq (fun l0 l1 l2 l4 w h wh g0 g1 g2 hF => ih l0 l1 l2 l4 w h wh g0 g1 g2 hF) wh hv_l0 hv_l1 hv_l2 (oA_409 hv_l0) hF
      · replace hF := if_ofF c hF
        exact ih _ _ _ _ _ _ wh hv_l0 hv_l1 hv_l2 hF
    · replace hF := if_ofF c hF
      refine gA_of (b := (406, l0)) (wh.2.1 10405 _ rfl hv_l0) ?_
      obtain ⟨u2, w1, hG, hF⟩ := bnd_of hF
      refine cl_V (D := 0) (Nat.le_trans (by decide) hd) (c_J7_fill_53178 wh (oA_406 hv_l0) hG) ?_
      clear hG
      clear wh
      intro h wh
      refine gI_of (wh.1 10409 _ rfl hv_l0) ?_
      replace hF := lt_of hF
      refine sF_S wh rfl hv_l0 ?_
      clear wh
      intro h wh
      obtain ⟨rfl, rfl⟩ := some_of hF
      exact hq _ wh
def f_X4_passHour_3 (fu : Nat) : Nat → Nat → Nat → Nat → Int32 → Int32 → MEM → Option (Int32 × MEM)
  | 0, _, _, _, _, _, _ => none
  | n + 1, l0, l1, l2, l3, l4, w => if l3 = 0 then (f_X4_passHour_69 fu fu l0 l1 l2 (0 : Int32) w) else (if l4 < (rS w (10109, l1)) then (ck (bI l4 6) (lt ((rA w (106, l1) l4)) fun (v1 : Int32) => ck (bI v1 7) (if (rA w (407, l0) v1) = (1 : Int32) then (bnd (f_X1_nextCough fu l1 l4 (rS w (10409, l0)) w) fun (x3 : Int32) (w2 : MEM) => if x3 = 0 then (ck (bI v1 7) (ck (bI v1 7) (lt (sA w2 (406, l0) v1 ((rA w2 (406, l0) v1) + (1 : Int32))) fun (w4 : MEM) => f_X4_passHour_3 fu n l0 l1 l2 l3 (l4 + (1 : Int32)) w4))) else (f_X4_passHour_3 fu n l0 l1 l2 l3 (l4 + (1 : Int32)) w2)) else (f_X4_passHour_3 fu n l0 l1 l2 l3 (l4 + (1 : Int32)) w)))) else (f_X4_passHour_69 fu fu l0 l1 l2 (0 : Int32) w))
theorem E_X4_passHour_3 (fu : Nat) (n : Nat) (l0 : Nat) (l1 : Nat) (l2 : Nat) (l3 : Int32) (l4 : Int32) (w : MEM) : f_X4_passHour_3 fu (n + 1) l0 l1 l2 l3 l4 w = if l3 = 0 then (f_X4_passHour_69 fu fu l0 l1 l2 (0 : Int32) w) else (if l4 < (rS w (10109, l1)) then (ck (bI l4 6) (lt ((rA w (106, l1) l4)) fun (v1 : Int32) => ck (bI v1 7) (if (rA w (407, l0) v1) = (1 : Int32) then (bnd (f_X1_nextCough fu l1 l4 (rS w (10409, l0)) w) fun (x3 : Int32) (w2 : MEM) => if x3 = 0 then (ck (bI v1 7) (ck (bI v1 7) (lt (sA w2 (406, l0) v1 ((rA w2 (406, l0) v1) + (1 : Int32))) fun (w4 : MEM) => f_X4_passHour_3 fu n l0 l1 l2 l3 (l4 + (1 : Int32)) w4))) else (f_X4_passHour_3 fu n l0 l1 l2 l3 (l4 + (1 : Int32)) w2)) else (f_X4_passHour_3 fu n l0 l1 l2 l3 (l4 + (1 : Int32)) w)))) else (f_X4_passHour_69 fu fu l0 l1 l2 (0 : Int32) w)) := rfl
theorem w_X4_passHour_3 {X : SCR} {d rc rs : Nat} {Q : PO → PH → Prop} {o : Int32} {w1 : MEM} {fu : Nat} (hd : 3 ≤ d) (hq : ∀ h1, WH X h1 w1 → Q (.inl (some (vI o))) h1) : ∀ (n : Nat) (l0 : Nat) (l1 : Nat) (l2 : Nat) (l3 : Int32) (l4 : Int32) (w : MEM) (h : PH), WH X h w → vo 4 l0 = true → vo 1 l1 = true → vo 3 l2 = true → f_X4_passHour_3 fu n l0 l1 l2 l3 l4 w = some (o, w1) → PW d M_X4_passHour Q rc rs 3 [vR (400, l0), vR (100, l1), vR (300, l2), vI l3, vI l4, vU] [] h := by
  intro n
  induction n with
  | zero => intro l0 l1 l2 l3 l4 w h wh hv_l0 hv_l1 hv_l2 hF; cases hF
  | succ n ih =>
    intro l0 l1 l2 l3 l4 w h wh hv_l0 hv_l1 hv_l2 hF
    replace hF := (E_X4_passHour_3 fu n l0 l1 l2 l3 l4 w).symm.trans hF
    refine r_X4_passHour_3 ?_
    refine ⟨fun c => ?_, fun c => ?_⟩
    · replace hF := if_ofT c hF
      exact w_X4_passHour_69 hd hq  fu _ _ _ _ _ _ wh hv_l0 hv_l1 hv_l2 hF
    · replace hF := if_ofF c hF
      refine gI_of (wh.1 10109 _ rfl hv_l1) ?_
      refine ⟨fun c => ?_, fun c => ?_⟩
      · replace hF := if_ofT c hF
        refine gA_of (b := (106, l1)) (wh.2.1 10105 _ rfl hv_l1) ?_
        obtain ⟨c, hF⟩ := ck_of hF
        refine xI_of wh (oA_106 hv_l1) c ?_
        clear c
        replace hF := lt_of hF
        refine gA_of (b := (407, l0)) (wh.2.1 10406 _ rfl hv_l0) ?_
        obtain ⟨c, hF⟩ := ck_of hF
        refine xI_of wh (oA_407 hv_l0) c ?_
        clear c
        refine ⟨fun c => ?_, fun c => ?_⟩
        · replace hF := if_ofT c hF
          refine gI_of (wh.1 10409 _ rfl hv_l0) ?_
          refine ⟨⟨_, wh.2.1 10100 _ rfl hv_l1⟩, ?_⟩
          obtain ⟨x3, w2, hG, hF⟩ := bnd_of hF
          refine cl_I (D := 1) (Nat.le_trans (by decide) hd) (c_X1_nextCough wh hv_l1 hG) ?_
          clear hG
          clear wh
          intro h wh
          refine ⟨fun c => ?_, fun c => ?_⟩
          · replace hF := if_ofT c hF
            refine gA_of (b := (406, l0)) (wh.2.1 10405 _ rfl hv_l0) ?_
            obtain ⟨c, hF⟩ := ck_of hF
            refine xI_of wh (oA_406 hv_l0) c ?_
            clear c
            obtain ⟨c, hF⟩ := ck_of hF
            replace hF := lt_of hF
            refine yI_of wh (oA_406 hv_l0) c ?_
            clear c wh
            intro h wh
            exact ih _ _ _ _ _ _ _ wh hv_l0 hv_l1 hv_l2 hF
          · replace hF := if_ofF c hF
            exact ih _ _ _ _ _ _ _ wh hv_l0 hv_l1 hv_l2 hF
        · replace hF := if_ofF c hF
          exact ih _ _ _ _ _ _ _ wh hv_l0 hv_l1 hv_l2 hF
      · replace hF := if_ofF c hF
        exact w_X4_passHour_69 hd hq  fu _ _ _ _ _ _ wh hv_l0 hv_l1 hv_l2 hF
def f_X4_passHour (fu : Nat) (l0 : Nat) (l1 : Nat) (l2 : Nat) (l3 : Int32) (w : MEM) : Option (Int32 × MEM) := f_X4_passHour_3 fu fu l0 l1 l2 l3 (0 : Int32) w
theorem E_X4_passHour (fu : Nat) (l0 : Nat) (l1 : Nat) (l2 : Nat) (l3 : Int32) (w : MEM) : f_X4_passHour fu l0 l1 l2 l3 w = f_X4_passHour_3 fu fu l0 l1 l2 l3 (0 : Int32) w := rfl
theorem w_X4_passHour {X : SCR} {d rc rs : Nat} {Q : PO → PH → Prop} {o : Int32} {w1 : MEM} {fu : Nat} (hd : 3 ≤ d) (hq : ∀ h1, WH X h1 w1 → Q (.inl (some (vI o))) h1) {l0 : Nat} {l1 : Nat} {l2 : Nat} {l3 : Int32} {w : MEM} {h : PH} (wh : WH X h w) (hv_l0 : vo 4 l0 = true) (hv_l1 : vo 1 l1 = true) (hv_l2 : vo 3 l2 = true) (hF : f_X4_passHour fu l0 l1 l2 l3 w = some (o, w1)) : PW d M_X4_passHour Q rc rs 0 [vR (400, l0), vR (100, l1), vR (300, l2), vI l3, vU, vU] [] h := by
  replace hF := (E_X4_passHour fu l0 l1 l2 l3 w).symm.trans hF
  refine r_X4_passHour_0 ?_
  exact w_X4_passHour_3 hd hq  fu _ _ _ _ _ _ _ wh hv_l0 hv_l1 hv_l2 hF
theorem c_X4_passHour {X : SCR} {fu : Nat} {o : Int32} {w1 : MEM} {a0 : Nat} {a1 : Nat} {a2 : Nat} {a3 : Int32} {w : MEM} {h : PH} (wh : WH X h w) (h0 : vo 4 a0 = true) (h1 : vo 1 a1 = true) (h2 : vo 3 a2 = true) (hF : f_X4_passHour fu a0 a1 a2 a3 w = some (o, w1)) : CT 3 M_X4_passHour [vR (400, a0), vR (100, a1), vR (300, a2), vI a3] h 0 0 (QP X (.inl (some (vI o))) w1) :=
  CT_of mk_X4_passHour (Nat.le_of_ble_eq_true rfl) rfl (w_X4_passHour (fu := fu) (rc := 0) (rs := 0) (hd := Nat.le_refl 3) (hq := fun h1 g => ⟨rfl, g⟩) wh h0 h1 h2 hF)
-- X4_beginDawn
def f_X4_beginDawn (fu : Nat) (l0 : Nat) (w : MEM) : Option (Int32 × MEM) := bnd (f_J7_fill_53178 fu (408, l0) (-1 : Int32) w) fun (u2 : Unit) (w1 : MEM) => some ((1 : Int32), w1)
theorem E_X4_beginDawn (fu : Nat) (l0 : Nat) (w : MEM) : f_X4_beginDawn fu l0 w = bnd (f_J7_fill_53178 fu (408, l0) (-1 : Int32) w) fun (u2 : Unit) (w1 : MEM) => some ((1 : Int32), w1) := rfl
theorem w_X4_beginDawn {X : SCR} {d rc rs : Nat} {Q : PO → PH → Prop} {o : Int32} {w1 : MEM} {fu : Nat} (hd : 1 ≤ d) (hq : ∀ h1, WH X h1 w1 → Q (.inl (some (vI o))) h1) {l0 : Nat} {w : MEM} {h : PH} (wh : WH X h w) (hv_l0 : vo 4 l0 = true) (hF : f_X4_beginDawn fu l0 w = some (o, w1)) : PW d M_X4_beginDawn Q rc rs 0 [vR (400, l0)] [] h := by
  replace hF := (E_X4_beginDawn fu l0 w).symm.trans hF
  refine r_X4_beginDawn_0 ?_
  refine gA_of (b := (408, l0)) (wh.2.1 10407 _ rfl hv_l0) ?_
  obtain ⟨u2, w1, hG, hF⟩ := bnd_of hF
  refine cl_V (D := 0) (Nat.le_trans (by decide) hd) (c_J7_fill_53178 wh (oA_408 hv_l0) hG) ?_
  clear hG
  clear wh
  intro h wh
  obtain ⟨rfl, rfl⟩ := some_of hF
  exact hq _ wh
theorem c_X4_beginDawn {X : SCR} {fu : Nat} {o : Int32} {w1 : MEM} {a0 : Nat} {w : MEM} {h : PH} (wh : WH X h w) (h0 : vo 4 a0 = true) (hF : f_X4_beginDawn fu a0 w = some (o, w1)) : CT 1 M_X4_beginDawn [vR (400, a0)] h 0 0 (QP X (.inl (some (vI o))) w1) :=
  CT_of mk_X4_beginDawn (Nat.le_of_ble_eq_true rfl) rfl (w_X4_beginDawn (fu := fu) (rc := 0) (rs := 0) (hd := Nat.le_refl 1) (hq := fun h1 g => ⟨rfl, g⟩) wh h0 hF)
-- X4_tryStep
def f_X4_tryStep (fu : Nat) (l0 : Nat) (l1 : Int32) (l2 : Int32) (l3 : Int32) (l4 : Nat) (l5 : Nat) (w : MEM) : Option (Int32 × MEM) := if l1 = (0 : Int32) then (ck (bI l2 7) (bnd (f_X4_passTap fu l0 l2 (rA w (103, l4) l2) w) fun (x18 : Int32) (w17 : MEM) => ck (b01 x18) (some (x18, w17)))) else (if l1 = (1 : Int32) then (bnd (f_X4_wipeGlass fu l0 l2 w) fun (x16 : Int32) (w15 : MEM) => ck (b01 x16) (some (x16, w15))) else (if l1 = (2 : Int32) then (bnd (f_X4_changeAir fu l0 l2 w) fun (x14 : Int32) (w13 : MEM) => ck (b01 x14) (some (x14, w13))) else (if l1 = (3 : Int32) then (bnd (f_X4_liftGlass fu l0 l2 w) fun (x12 : Int32) (w11 : MEM) => ck (b01 x12) (some (x12, w11))) else (if l1 = (4 : Int32) then (bnd (f_X4_lowerGlass fu l0 l2 w) fun (x10 : Int32) (w9 : MEM) => ck (b01 x10) (some (x10, w9))) else (if l1 = (5 : Int32) then (bnd (f_X4_crackGlass fu l0 l2 w) fun (x8 : Int32) (w7 : MEM) => ck (b01 x8) (some (x8, w7))) else (if l1 = (6 : Int32) then (bnd (f_X4_setFerns fu l0 l2 l3 w) fun (x6 : Int32) (w5 : MEM) => ck (b01 x6) (some (x6, w5))) else (if l1 = (7 : Int32) then (if (rS w (10409, l0)) < (900 : Int32) then (bnd (f_X4_passHour fu l0 l4 l5 (1 : Int32) w) fun (x4 : Int32) (w3 : MEM) => if x4 = 0 then (some ((0 : Int32), w3)) else (some ((1 : Int32), w3))) else (some ((0 : Int32), w))) else (if l1 = (8 : Int32) then (bnd (f_X4_beginDawn fu l0 w) fun (x2 : Int32) (w1 : MEM) => if x2 = 0 then (some ((0 : Int32), w1)) else (some ((1 : Int32), w1))) else (some ((0 : Int32), w))))))))))
theorem E_X4_tryStep (fu : Nat) (l0 : Nat) (l1 : Int32) (l2 : Int32) (l3 : Int32) (l4 : Nat) (l5 : Nat) (w : MEM) : f_X4_tryStep fu l0 l1 l2 l3 l4 l5 w = if l1 = (0 : Int32) then (ck (bI l2 7) (bnd (f_X4_passTap fu l0 l2 (rA w (103, l4) l2) w) fun (x18 : Int32) (w17 : MEM) => ck (b01 x18) (some (x18, w17)))) else (if l1 = (1 : Int32) then (bnd (f_X4_wipeGlass fu l0 l2 w) fun (x16 : Int32) (w15 : MEM) => ck (b01 x16) (some (x16, w15))) else (if l1 = (2 : Int32) then (bnd (f_X4_changeAir fu l0 l2 w) fun (x14 : Int32) (w13 : MEM) => ck (b01 x14) (some (x14, w13))) else (if l1 = (3 : Int32) then (bnd (f_X4_liftGlass fu l0 l2 w) fun (x12 : Int32) (w11 : MEM) => ck (b01 x12) (some (x12, w11))) else (if l1 = (4 : Int32) then (bnd (f_X4_lowerGlass fu l0 l2 w) fun (x10 : Int32) (w9 : MEM) => ck (b01 x10) (some (x10, w9))) else (if l1 = (5 : Int32) then (bnd (f_X4_crackGlass fu l0 l2 w) fun (x8 : Int32) (w7 : MEM) => ck (b01 x8) (some (x8, w7))) else (if l1 = (6 : Int32) then (bnd (f_X4_setFerns fu l0 l2 l3 w) fun (x6 : Int32) (w5 : MEM) => ck (b01 x6) (some (x6, w5))) else (if l1 = (7 : Int32) then (if (rS w (10409, l0)) < (900 : Int32) then (bnd (f_X4_passHour fu l0 l4 l5 (1 : Int32) w) fun (x4 : Int32) (w3 : MEM) => if x4 = 0 then (some ((0 : Int32), w3)) else (some ((1 : Int32), w3))) else (some ((0 : Int32), w))) else (if l1 = (8 : Int32) then (bnd (f_X4_beginDawn fu l0 w) fun (x2 : Int32) (w1 : MEM) => if x2 = 0 then (some ((0 : Int32), w1)) else (some ((1 : Int32), w1))) else (some ((0 : Int32), w)))))))))) := rfl
theorem w_X4_tryStep {X : SCR} {d rc rs : Nat} {Q : PO → PH → Prop} {o : Int32} {w1 : MEM} {fu : Nat} (hd : 4 ≤ d) (hq : ∀ h1, WH X h1 w1 → Q (.inl (some (vI o))) h1) {l0 : Nat} {l1 : Int32} {l2 : Int32} {l3 : Int32} {l4 : Nat} {l5 : Nat} {w : MEM} {h : PH} (wh : WH X h w) (hv_l0 : vo 4 l0 = true) (hv_l4 : vo 1 l4 = true) (hv_l5 : vo 3 l5 = true) (hF : f_X4_tryStep fu l0 l1 l2 l3 l4 l5 w = some (o, w1)) : PW d M_X4_tryStep Q rc rs 0 [vR (400, l0), vI l1, vI l2, vI l3, vR (100, l4), vR (300, l5)] [] h := by
  replace hF := (E_X4_tryStep fu l0 l1 l2 l3 l4 l5 w).symm.trans hF
  refine r_X4_tryStep_0 ?_
  refine ⟨fun c => ?_, fun c => ?_, fun c => ?_, fun c => ?_, fun c => ?_, fun c => ?_, fun c => ?_, fun c => ?_, fun c => ?_⟩
  · replace hF := if_ofT c hF
    refine gA_of (b := (103, l4)) (wh.2.1 10102 _ rfl hv_l4) ?_
    obtain ⟨c, hF⟩ := ck_of hF
    refine xI_of wh (oA_103 hv_l4) c ?_
    clear c
    refine ⟨⟨_, wh.2.1 10400 _ rfl hv_l0⟩, ?_⟩
    obtain ⟨x18, w17, hG, hF⟩ := bnd_of hF
    refine cl_I (D := 0) (Nat.le_trans (by decide) hd) (c_X4_passTap wh hv_l0 hG) ?_
    clear hG
    clear wh
    intro h wh
    obtain ⟨c, hF⟩ := ck_of hF
    obtain ⟨rfl, rfl⟩ := some_of hF
    exact ⟨b01_nrw c, hq _ wh⟩
  · replace hF := if_ofF (fun e9 => absurd (c.symm.trans e9) (by decide)) hF; replace hF := if_ofT c hF
    refine ⟨⟨_, wh.2.1 10400 _ rfl hv_l0⟩, ?_⟩
    obtain ⟨x16, w15, hG, hF⟩ := bnd_of hF
    refine cl_I (D := 0) (Nat.le_trans (by decide) hd) (c_X4_wipeGlass wh hv_l0 hG) ?_
    clear hG
    clear wh
    intro h wh
    obtain ⟨c, hF⟩ := ck_of hF
    obtain ⟨rfl, rfl⟩ := some_of hF
    exact ⟨b01_nrw c, hq _ wh⟩
  · replace hF := if_ofF (fun e9 => absurd (c.symm.trans e9) (by decide)) hF; replace hF := if_ofF (fun e9 => absurd (c.symm.trans e9) (by decide)) hF; replace hF := if_ofT c hF
    refine ⟨⟨_, wh.2.1 10400 _ rfl hv_l0⟩, ?_⟩
    obtain ⟨x14, w13, hG, hF⟩ := bnd_of hF
    refine cl_I (D := 1) (Nat.le_trans (by decide) hd) (c_X4_changeAir wh hv_l0 hG) ?_
    clear hG
    clear wh
    intro h wh
    obtain ⟨c, hF⟩ := ck_of hF
    obtain ⟨rfl, rfl⟩ := some_of hF
    exact ⟨b01_nrw c, hq _ wh⟩
  · replace hF := if_ofF (fun e9 => absurd (c.symm.trans e9) (by decide)) hF; replace hF := if_ofF (fun e9 => absurd (c.symm.trans e9) (by decide)) hF; replace hF := if_ofF (fun e9 => absurd (c.symm.trans e9) (by decide)) hF; replace hF := if_ofT c hF
    refine ⟨⟨_, wh.2.1 10400 _ rfl hv_l0⟩, ?_⟩
    obtain ⟨x12, w11, hG, hF⟩ := bnd_of hF
    refine cl_I (D := 0) (Nat.le_trans (by decide) hd) (c_X4_liftGlass wh hv_l0 hG) ?_
    clear hG
    clear wh
    intro h wh
    obtain ⟨c, hF⟩ := ck_of hF
    obtain ⟨rfl, rfl⟩ := some_of hF
    exact ⟨b01_nrw c, hq _ wh⟩
  · replace hF := if_ofF (fun e9 => absurd (c.symm.trans e9) (by decide)) hF; replace hF := if_ofF (fun e9 => absurd (c.symm.trans e9) (by decide)) hF; replace hF := if_ofF (fun e9 => absurd (c.symm.trans e9) (by decide)) hF; replace hF := if_ofF (fun e9 => absurd (c.symm.trans e9) (by decide)) hF; replace hF := if_ofT c hF
    refine ⟨⟨_, wh.2.1 10400 _ rfl hv_l0⟩, ?_⟩
    obtain ⟨x10, w9, hG, hF⟩ := bnd_of hF
    refine cl_I (D := 0) (Nat.le_trans (by decide) hd) (c_X4_lowerGlass wh hv_l0 hG) ?_
    clear hG
    clear wh
    intro h wh
    obtain ⟨c, hF⟩ := ck_of hF
    obtain ⟨rfl, rfl⟩ := some_of hF
    exact ⟨b01_nrw c, hq _ wh⟩
  · replace hF := if_ofF (fun e9 => absurd (c.symm.trans e9) (by decide)) hF; replace hF := if_ofF (fun e9 => absurd (c.symm.trans e9) (by decide)) hF; replace hF := if_ofF (fun e9 => absurd (c.symm.trans e9) (by decide)) hF; replace hF := if_ofF (fun e9 => absurd (c.symm.trans e9) (by decide)) hF; replace hF := if_ofF (fun e9 => absurd (c.symm.trans e9) (by decide)) hF; replace hF := if_ofT c hF
    refine ⟨⟨_, wh.2.1 10400 _ rfl hv_l0⟩, ?_⟩
    obtain ⟨x8, w7, hG, hF⟩ := bnd_of hF
    refine cl_I (D := 0) (Nat.le_trans (by decide) hd) (c_X4_crackGlass wh hv_l0 hG) ?_
    clear hG
    clear wh
    intro h wh
    obtain ⟨c, hF⟩ := ck_of hF
    obtain ⟨rfl, rfl⟩ := some_of hF
    exact ⟨b01_nrw c, hq _ wh⟩
  · replace hF := if_ofF (fun e9 => absurd (c.symm.trans e9) (by decide)) hF; replace hF := if_ofF (fun e9 => absurd (c.symm.trans e9) (by decide)) hF; replace hF := if_ofF (fun e9 => absurd (c.symm.trans e9) (by decide)) hF; replace hF := if_ofF (fun e9 => absurd (c.symm.trans e9) (by decide)) hF; replace hF := if_ofF (fun e9 => absurd (c.symm.trans e9) (by decide)) hF; replace hF := if_ofF (fun e9 => absurd (c.symm.trans e9) (by decide)) hF; replace hF := if_ofT c hF
    refine ⟨⟨_, wh.2.1 10400 _ rfl hv_l0⟩, ?_⟩
    obtain ⟨x6, w5, hG, hF⟩ := bnd_of hF
    refine cl_I (D := 0) (Nat.le_trans (by decide) hd) (c_X4_setFerns wh hv_l0 hG) ?_
    clear hG
    clear wh
    intro h wh
    obtain ⟨c, hF⟩ := ck_of hF
    obtain ⟨rfl, rfl⟩ := some_of hF
    exact ⟨b01_nrw c, hq _ wh⟩
  · replace hF := if_ofF (fun e9 => absurd (c.symm.trans e9) (by decide)) hF; replace hF := if_ofF (fun e9 => absurd (c.symm.trans e9) (by decide)) hF; replace hF := if_ofF (fun e9 => absurd (c.symm.trans e9) (by decide)) hF; replace hF := if_ofF (fun e9 => absurd (c.symm.trans e9) (by decide)) hF; replace hF := if_ofF (fun e9 => absurd (c.symm.trans e9) (by decide)) hF; replace hF := if_ofF (fun e9 => absurd (c.symm.trans e9) (by decide)) hF; replace hF := if_ofF (fun e9 => absurd (c.symm.trans e9) (by decide)) hF; replace hF := if_ofT c hF
    refine gI_of (wh.1 10409 _ rfl hv_l0) ?_
    refine ⟨fun c => ?_, fun c => ?_⟩
    · replace hF := if_ofT c hF
      refine ⟨⟨_, wh.2.1 10400 _ rfl hv_l0⟩, ?_⟩
      obtain ⟨x4, w3, hG, hF⟩ := bnd_of hF
      refine cl_I (D := 3) (Nat.le_trans (by decide) hd) (c_X4_passHour wh hv_l0 hv_l4 hv_l5 hG) ?_
      clear hG
      clear wh
      intro h wh
      refine ⟨fun c => ?_, fun c => ?_⟩
      · replace hF := if_ofT c hF
        obtain ⟨rfl, rfl⟩ := some_of hF
        exact hq _ wh
      · replace hF := if_ofF c hF
        obtain ⟨rfl, rfl⟩ := some_of hF
        exact hq _ wh
    · replace hF := if_ofF c hF
      obtain ⟨rfl, rfl⟩ := some_of hF
      exact hq _ wh
  · replace hF := if_ofF c.1 hF; replace hF := if_ofF c.2.1 hF; replace hF := if_ofF c.2.2.1 hF; replace hF := if_ofF c.2.2.2.1 hF; replace hF := if_ofF c.2.2.2.2.1 hF; replace hF := if_ofF c.2.2.2.2.2.1 hF; replace hF := if_ofF c.2.2.2.2.2.2.1 hF; replace hF := if_ofF c.2.2.2.2.2.2.2 hF
    refine ⟨fun c => ?_, fun c => ?_⟩
    · replace hF := if_ofT c hF
      refine ⟨⟨_, wh.2.1 10400 _ rfl hv_l0⟩, ?_⟩
      obtain ⟨x2, w1, hG, hF⟩ := bnd_of hF
      refine cl_I (D := 1) (Nat.le_trans (by decide) hd) (c_X4_beginDawn wh hv_l0 hG) ?_
      clear hG
      clear wh
      intro h wh
      refine ⟨fun c => ?_, fun c => ?_⟩
      · replace hF := if_ofT c hF
        obtain ⟨rfl, rfl⟩ := some_of hF
        exact hq _ wh
      · replace hF := if_ofF c hF
        obtain ⟨rfl, rfl⟩ := some_of hF
        exact hq _ wh
    · replace hF := if_ofF c hF
      obtain ⟨rfl, rfl⟩ := some_of hF
      exact hq _ wh
theorem c_X4_tryStep {X : SCR} {fu : Nat} {o : Int32} {w1 : MEM} {a0 : Nat} {a1 : Int32} {a2 : Int32} {a3 : Int32} {a4 : Nat} {a5 : Nat} {w : MEM} {h : PH} (wh : WH X h w) (h0 : vo 4 a0 = true) (h1 : vo 1 a4 = true) (h2 : vo 3 a5 = true) (hF : f_X4_tryStep fu a0 a1 a2 a3 a4 a5 w = some (o, w1)) : CT 4 M_X4_tryStep [vR (400, a0), vI a1, vI a2, vI a3, vR (100, a4), vR (300, a5)] h 0 0 (QP X (.inl (some (vI o))) w1) :=
  CT_of mk_X4_tryStep (Nat.le_of_ble_eq_true rfl) rfl (w_X4_tryStep (fu := fu) (rc := 0) (rs := 0) (hd := Nat.le_refl 4) (hq := fun h1 g => ⟨rfl, g⟩) wh h0 h1 h2 hF)
-- X4_passHours
def f_X4_passHours_3 (fu : Nat) : Nat → Nat → Int32 → Nat → Nat → Int32 → MEM → Option (Unit × MEM)
  | 0, _, _, _, _, _, _ => none
  | n + 1, l0, l1, l2, l3, l4, w => if l4 < l1 then (bnd (f_X4_passHour fu l0 l2 l3 (1 : Int32) w) fun (x2 : Int32) (w1 : MEM) => f_X4_passHours_3 fu n l0 l1 l2 l3 (l4 + (1 : Int32)) w1) else (some ((), w))
theorem E_X4_passHours_3 (fu : Nat) (n : Nat) (l0 : Nat) (l1 : Int32) (l2 : Nat) (l3 : Nat) (l4 : Int32) (w : MEM) : f_X4_passHours_3 fu (n + 1) l0 l1 l2 l3 l4 w = if l4 < l1 then (bnd (f_X4_passHour fu l0 l2 l3 (1 : Int32) w) fun (x2 : Int32) (w1 : MEM) => f_X4_passHours_3 fu n l0 l1 l2 l3 (l4 + (1 : Int32)) w1) else (some ((), w)) := rfl
theorem w_X4_passHours_3 {X : SCR} {d rc rs : Nat} {Q : PO → PH → Prop} {o : Unit} {w1 : MEM} {fu : Nat} (hd : 4 ≤ d) (hq : ∀ h1, WH X h1 w1 → Q (.inl none) h1) : ∀ (n : Nat) (l0 : Nat) (l1 : Int32) (l2 : Nat) (l3 : Nat) (l4 : Int32) (w : MEM) (h : PH), WH X h w → vo 4 l0 = true → vo 1 l2 = true → vo 3 l3 = true → f_X4_passHours_3 fu n l0 l1 l2 l3 l4 w = some (o, w1) → PW d M_X4_passHours Q rc rs 3 [vR (400, l0), vI l1, vR (100, l2), vR (300, l3), vI l4] [] h := by
  intro n
  induction n with
  | zero => intro l0 l1 l2 l3 l4 w h wh hv_l0 hv_l2 hv_l3 hF; cases hF
  | succ n ih =>
    intro l0 l1 l2 l3 l4 w h wh hv_l0 hv_l2 hv_l3 hF
    replace hF := (E_X4_passHours_3 fu n l0 l1 l2 l3 l4 w).symm.trans hF
    refine r_X4_passHours_3 ?_
    refine ⟨fun c => ?_, fun c => ?_⟩
    · replace hF := if_ofT c hF
      refine ⟨⟨_, wh.2.1 10400 _ rfl hv_l0⟩, ?_⟩
      obtain ⟨x2, w1, hG, hF⟩ := bnd_of hF
      refine cl_I (D := 3) (Nat.le_trans (by decide) hd) (c_X4_passHour wh hv_l0 hv_l2 hv_l3 hG) ?_
      clear hG
      clear wh
      intro h wh
      exact ih _ _ _ _ _ _ _ wh hv_l0 hv_l2 hv_l3 hF
    · replace hF := if_ofF c hF
      obtain ⟨rfl, rfl⟩ := some_of hF
      exact hq _ wh
def f_X4_passHours (fu : Nat) (l0 : Nat) (l1 : Int32) (l2 : Nat) (l3 : Nat) (w : MEM) : Option (Unit × MEM) := f_X4_passHours_3 fu fu l0 l1 l2 l3 (0 : Int32) w
theorem E_X4_passHours (fu : Nat) (l0 : Nat) (l1 : Int32) (l2 : Nat) (l3 : Nat) (w : MEM) : f_X4_passHours fu l0 l1 l2 l3 w = f_X4_passHours_3 fu fu l0 l1 l2 l3 (0 : Int32) w := rfl
theorem w_X4_passHours {X : SCR} {d rc rs : Nat} {Q : PO → PH → Prop} {o : Unit} {w1 : MEM} {fu : Nat} (hd : 4 ≤ d) (hq : ∀ h1, WH X h1 w1 → Q (.inl none) h1) {l0 : Nat} {l1 : Int32} {l2 : Nat} {l3 : Nat} {w : MEM} {h : PH} (wh : WH X h w) (hv_l0 : vo 4 l0 = true) (hv_l2 : vo 1 l2 = true) (hv_l3 : vo 3 l3 = true) (hF : f_X4_passHours fu l0 l1 l2 l3 w = some (o, w1)) : PW d M_X4_passHours Q rc rs 0 [vR (400, l0), vI l1, vR (100, l2), vR (300, l3), vU] [] h := by
  replace hF := (E_X4_passHours fu l0 l1 l2 l3 w).symm.trans hF
  refine r_X4_passHours_0 ?_
  exact w_X4_passHours_3 hd hq  fu _ _ _ _ _ _ _ wh hv_l0 hv_l2 hv_l3 hF
theorem c_X4_passHours {X : SCR} {fu : Nat} {o : Unit} {w1 : MEM} {a0 : Nat} {a1 : Int32} {a2 : Nat} {a3 : Nat} {w : MEM} {h : PH} (wh : WH X h w) (h0 : vo 4 a0 = true) (h1 : vo 1 a2 = true) (h2 : vo 3 a3 = true) (hF : f_X4_passHours fu a0 a1 a2 a3 w = some (o, w1)) : CT 4 M_X4_passHours [vR (400, a0), vI a1, vR (100, a2), vR (300, a3)] h 0 0 (QP X (.inl none) w1) :=
  CT_of mk_X4_passHours (Nat.le_of_ble_eq_true rfl) rfl (w_X4_passHours (fu := fu) (rc := 0) (rs := 0) (hd := Nat.le_refl 4) (hq := fun h1 g => ⟨rfl, g⟩) wh h0 h1 h2 hF)
-- X5_clear
def f_X5_clear (fu : Nat) (l0 : Nat) (w : MEM) : Option (Unit × MEM) := lt (sS w (10502, l0) (0 : Int32)) fun (w1 : MEM) => lt (sS w1 (10503, l0) (-1 : Int32)) fun (w2 : MEM) => some ((), w2)
theorem E_X5_clear (fu : Nat) (l0 : Nat) (w : MEM) : f_X5_clear fu l0 w = lt (sS w (10502, l0) (0 : Int32)) fun (w1 : MEM) => lt (sS w1 (10503, l0) (-1 : Int32)) fun (w2 : MEM) => some ((), w2) := rfl
theorem w_X5_clear {X : SCR} {d rc rs : Nat} {Q : PO → PH → Prop} {o : Unit} {w1 : MEM} {fu : Nat} (hd : 0 ≤ d) (hq : ∀ h1, WH X h1 w1 → Q (.inl none) h1) {l0 : Nat} {w : MEM} {h : PH} (wh : WH X h w) (hv_l0 : vo 5 l0 = true) (hF : f_X5_clear fu l0 w = some (o, w1)) : PW d M_X5_clear Q rc rs 0 [vR (500, l0)] [] h := by
  replace hF := (E_X5_clear fu l0 w).symm.trans hF
  refine r_X5_clear_0 ?_
  replace hF := lt_of hF
  refine sF_S wh rfl hv_l0 ?_
  clear wh
  intro h wh
  replace hF := lt_of hF
  refine sF_S wh rfl hv_l0 ?_
  clear wh
  intro h wh
  obtain ⟨rfl, rfl⟩ := some_of hF
  exact hq _ wh
theorem c_X5_clear {X : SCR} {fu : Nat} {o : Unit} {w1 : MEM} {a0 : Nat} {w : MEM} {h : PH} (wh : WH X h w) (h0 : vo 5 a0 = true) (hF : f_X5_clear fu a0 w = some (o, w1)) : CT 0 M_X5_clear [vR (500, a0)] h 0 0 (QP X (.inl none) w1) :=
  CT_of mk_X5_clear (Nat.le_of_ble_eq_true rfl) rfl (w_X5_clear (fu := fu) (rc := 0) (rs := 0) (hd := Nat.le_refl 0) (hq := fun h1 g => ⟨rfl, g⟩) wh h0 hF)
-- X5_note
def f_X5_note (fu : Nat) (l0 : Nat) (l1 : Int32) (l2 : Int32) (w : MEM) : Option (Unit × MEM) := if (rS w (10502, l0)) < (90 : Int32) then (ck (bI (rS w (10502, l0)) 90) (ck (bI l1 13) (lt (sA w (502, 203 + (rS w (10502, l0)).toNatClampNeg) l1 l2) fun (w2 : MEM) => some ((), w2)))) else (some ((), w))
theorem E_X5_note (fu : Nat) (l0 : Nat) (l1 : Int32) (l2 : Int32) (w : MEM) : f_X5_note fu l0 l1 l2 w = if (rS w (10502, l0)) < (90 : Int32) then (ck (bI (rS w (10502, l0)) 90) (ck (bI l1 13) (lt (sA w (502, 203 + (rS w (10502, l0)).toNatClampNeg) l1 l2) fun (w2 : MEM) => some ((), w2)))) else (some ((), w)) := rfl
theorem w_X5_note {X : SCR} {d rc rs : Nat} {Q : PO → PH → Prop} {o : Unit} {w1 : MEM} {fu : Nat} (hd : 0 ≤ d) (hq : ∀ h1, WH X h1 w1 → Q (.inl none) h1) {l0 : Nat} {l1 : Int32} {l2 : Int32} {w : MEM} {h : PH} (wh : WH X h w) (hv_l0 : vo 5 l0 = true) (hF : f_X5_note fu l0 l1 l2 w = some (o, w1)) : PW d M_X5_note Q rc rs 0 [vR (500, l0), vI l1, vI l2] [] h := by
  replace hF := (E_X5_note fu l0 l1 l2 w).symm.trans hF
  refine r_X5_note_0 ?_
  refine gI_of (wh.1 10502 _ rfl hv_l0) ?_
  refine ⟨fun c => ?_, fun c => ?_⟩
  · replace hF := if_ofT c hF
    refine gA_of (b := (501, 203)) (wh.2.1 10500 _ rfl hv_l0) ?_
    refine gI_of (wh.1 10502 _ rfl hv_l0) ?_
    obtain ⟨c, hF⟩ := ck_of hF
    have hM1 := vMI c
    refine xA_M wh c ?_
    clear c
    obtain ⟨c, hF⟩ := ck_of hF
    replace hF := lt_of hF
    refine yI_of wh hM1 c ?_
    clear c wh
    intro h wh
    obtain ⟨rfl, rfl⟩ := some_of hF
    exact hq _ wh
  · replace hF := if_ofF c hF
    obtain ⟨rfl, rfl⟩ := some_of hF
    exact hq _ wh
theorem c_X5_note {X : SCR} {fu : Nat} {o : Unit} {w1 : MEM} {a0 : Nat} {a1 : Int32} {a2 : Int32} {w : MEM} {h : PH} (wh : WH X h w) (h0 : vo 5 a0 = true) (hF : f_X5_note fu a0 a1 a2 w = some (o, w1)) : CT 0 M_X5_note [vR (500, a0), vI a1, vI a2] h 0 0 (QP X (.inl none) w1) :=
  CT_of mk_X5_note (Nat.le_of_ble_eq_true rfl) rfl (w_X5_note (fu := fu) (rc := 0) (rs := 0) (hd := Nat.le_refl 0) (hq := fun h1 g => ⟨rfl, g⟩) wh h0 hF)
-- X5_keepIfRight
def f_X5_keepIfRight_12 (fu : Nat) : Nat → Nat → Nat → Int32 → Int32 → MEM → Option (Unit × MEM)
  | 0, _, _, _, _, _ => none
  | n + 1, l0, l1, l2, l3, w => if (12 : Int32) < l3 then (lt (sS w (10502, l0) ((rS w (10502, l0)) + (1 : Int32))) fun (w1 : MEM) => if (rS w1 (10503, l0)) = (-1 : Int32) then (lt (sS w1 (10503, l0) l2) fun (w3 : MEM) => some ((), w3)) else (lt (sS w1 (10503, l0) (rS w1 (10503, l0))) fun (w2 : MEM) => some ((), w2))) else (ck (bI l3 13) (if (rA w (1, l1) l3) = (-1 : Int32) then (f_X5_keepIfRight_12 fu n l0 l1 l2 (l3 + (1 : Int32)) w) else (ck (bI l3 13) (ck (bI (rS w (10502, l0)) 90) (ck (bI l3 13) (if (rA w (1, l1) l3) = (rA w (502, 203 + (rS w (10502, l0)).toNatClampNeg) l3) then (f_X5_keepIfRight_12 fu n l0 l1 l2 (l3 + (1 : Int32)) w) else (some ((), w))))))))
theorem E_X5_keepIfRight_12 (fu : Nat) (n : Nat) (l0 : Nat) (l1 : Nat) (l2 : Int32) (l3 : Int32) (w : MEM) : f_X5_keepIfRight_12 fu (n + 1) l0 l1 l2 l3 w = if (12 : Int32) < l3 then (lt (sS w (10502, l0) ((rS w (10502, l0)) + (1 : Int32))) fun (w1 : MEM) => if (rS w1 (10503, l0)) = (-1 : Int32) then (lt (sS w1 (10503, l0) l2) fun (w3 : MEM) => some ((), w3)) else (lt (sS w1 (10503, l0) (rS w1 (10503, l0))) fun (w2 : MEM) => some ((), w2))) else (ck (bI l3 13) (if (rA w (1, l1) l3) = (-1 : Int32) then (f_X5_keepIfRight_12 fu n l0 l1 l2 (l3 + (1 : Int32)) w) else (ck (bI l3 13) (ck (bI (rS w (10502, l0)) 90) (ck (bI l3 13) (if (rA w (1, l1) l3) = (rA w (502, 203 + (rS w (10502, l0)).toNatClampNeg) l3) then (f_X5_keepIfRight_12 fu n l0 l1 l2 (l3 + (1 : Int32)) w) else (some ((), w)))))))) := rfl
theorem w_X5_keepIfRight_12 {X : SCR} {d rc rs : Nat} {Q : PO → PH → Prop} {o : Unit} {w1 : MEM} {fu : Nat} (hd : 0 ≤ d) (hq : ∀ h1, WH X h1 w1 → Q (.inl none) h1) : ∀ (n : Nat) (l0 : Nat) (l1 : Nat) (l2 : Int32) (l3 : Int32) (w : MEM) (h : PH), WH X h w → vo 5 l0 = true → vo 0 l1 = true → f_X5_keepIfRight_12 fu n l0 l1 l2 l3 w = some (o, w1) → PW d M_X5_keepIfRight Q rc rs 12 [vR (500, l0), vR (0, l1), vI l2, vI l3] [] h := by
  intro n
  induction n with
  | zero => intro l0 l1 l2 l3 w h wh hv_l0 hv_l1 hF; cases hF
  | succ n ih =>
    intro l0 l1 l2 l3 w h wh hv_l0 hv_l1 hF
    replace hF := (E_X5_keepIfRight_12 fu n l0 l1 l2 l3 w).symm.trans hF
    refine r_X5_keepIfRight_12 ?_
    refine ⟨fun c => ?_, fun c => ?_⟩
    · replace hF := if_ofT c hF
      refine gI_of (wh.1 10502 _ rfl hv_l0) ?_
      replace hF := lt_of hF
      refine sF_S wh rfl hv_l0 ?_
      clear wh
      intro h wh
      refine gI_of (wh.1 10503 _ rfl hv_l0) ?_
      refine ⟨fun c => ?_, fun c => ?_⟩
      · replace hF := if_ofT c hF
        replace hF := lt_of hF
        refine sF_S wh rfl hv_l0 ?_
        clear wh
        intro h wh
        obtain ⟨rfl, rfl⟩ := some_of hF
        exact hq _ wh
      · replace hF := if_ofF c hF
        refine gI_of (wh.1 10503 _ rfl hv_l0) ?_
        replace hF := lt_of hF
        refine sF_S wh rfl hv_l0 ?_
        clear wh
        intro h wh
        obtain ⟨rfl, rfl⟩ := some_of hF
        exact hq _ wh
    · replace hF := if_ofF c hF
      refine gA_of (b := (1, l1)) (wh.2.1 10000 _ rfl hv_l1) ?_
      obtain ⟨c, hF⟩ := ck_of hF
      refine xI_of wh (oA_1 hv_l1) c ?_
      clear c
      refine ⟨fun c => ?_, fun c => ?_⟩
      · replace hF := if_ofT c hF
        exact ih _ _ _ _ _ _ wh hv_l0 hv_l1 hF
      · replace hF := if_ofF c hF
        refine gA_of (b := (1, l1)) (wh.2.1 10000 _ rfl hv_l1) ?_
        obtain ⟨c, hF⟩ := ck_of hF
        refine xI_of wh (oA_1 hv_l1) c ?_
        clear c
        refine gA_of (b := (501, 203)) (wh.2.1 10500 _ rfl hv_l0) ?_
        refine gI_of (wh.1 10502 _ rfl hv_l0) ?_
        obtain ⟨c, hF⟩ := ck_of hF
        have hM4 := vMI c
        refine xA_M wh c ?_
        clear c
        obtain ⟨c, hF⟩ := ck_of hF
        refine xI_of wh hM4 c ?_
        clear c
        refine ⟨fun c => ?_, fun c => ?_⟩
        · replace hF := if_ofT c hF
          exact ih _ _ _ _ _ _ wh hv_l0 hv_l1 hF
        · replace hF := if_ofF c hF
          obtain ⟨rfl, rfl⟩ := some_of hF
          exact hq _ wh
def f_X5_keepIfRight (fu : Nat) (l0 : Nat) (l1 : Nat) (l2 : Int32) (w : MEM) : Option (Unit × MEM) := if (rS w (10502, l0)) < (90 : Int32) then (f_X5_keepIfRight_12 fu fu l0 l1 l2 (1 : Int32) w) else (some ((), w))
theorem E_X5_keepIfRight (fu : Nat) (l0 : Nat) (l1 : Nat) (l2 : Int32) (w : MEM) : f_X5_keepIfRight fu l0 l1 l2 w = if (rS w (10502, l0)) < (90 : Int32) then (f_X5_keepIfRight_12 fu fu l0 l1 l2 (1 : Int32) w) else (some ((), w)) := rfl
theorem w_X5_keepIfRight {X : SCR} {d rc rs : Nat} {Q : PO → PH → Prop} {o : Unit} {w1 : MEM} {fu : Nat} (hd : 0 ≤ d) (hq : ∀ h1, WH X h1 w1 → Q (.inl none) h1) {l0 : Nat} {l1 : Nat} {l2 : Int32} {w : MEM} {h : PH} (wh : WH X h w) (hv_l0 : vo 5 l0 = true) (hv_l1 : vo 0 l1 = true) (hF : f_X5_keepIfRight fu l0 l1 l2 w = some (o, w1)) : PW d M_X5_keepIfRight Q rc rs 0 [vR (500, l0), vR (0, l1), vI l2, vU] [] h := by
  replace hF := (E_X5_keepIfRight fu l0 l1 l2 w).symm.trans hF
  refine r_X5_keepIfRight_0 ?_
  refine gI_of (wh.1 10502 _ rfl hv_l0) ?_
  refine ⟨fun c => ?_, fun c => ?_⟩
  · replace hF := if_ofT c hF
    exact w_X5_keepIfRight_12 hd hq  fu _ _ _ _ _ _ wh hv_l0 hv_l1 hF
  · replace hF := if_ofF c hF
    obtain ⟨rfl, rfl⟩ := some_of hF
    exact hq _ wh
theorem c_X5_keepIfRight {X : SCR} {fu : Nat} {o : Unit} {w1 : MEM} {a0 : Nat} {a1 : Nat} {a2 : Int32} {w : MEM} {h : PH} (wh : WH X h w) (h0 : vo 5 a0 = true) (h1 : vo 0 a1 = true) (hF : f_X5_keepIfRight fu a0 a1 a2 w = some (o, w1)) : CT 0 M_X5_keepIfRight [vR (500, a0), vR (0, a1), vI a2] h 0 0 (QP X (.inl none) w1) :=
  CT_of mk_X5_keepIfRight (Nat.le_of_ble_eq_true rfl) rfl (w_X5_keepIfRight (fu := fu) (rc := 0) (rs := 0) (hd := Nat.le_refl 0) (hq := fun h1 g => ⟨rfl, g⟩) wh h0 h1 hF)
-- X9_mostOf
def f_X9_mostOf_4 (fu : Nat) : Nat → LA → Int32 → Int32 → MEM → Option (Int32 × MEM)
  | 0, _, _, _, _ => none
  | n + 1, l0, l1, l2, w => if l2 < (nI (aN l0.1)) then (ck (bI l2 (aN l0.1)) (ck (bI l1 (aN l0.1)) (if (rA w l0 l1) < (rA w l0 l2) then (f_X9_mostOf_4 fu n l0 l2 (l2 + (1 : Int32)) w) else (f_X9_mostOf_4 fu n l0 l1 (l2 + (1 : Int32)) w)))) else (some (l1, w))
theorem E_X9_mostOf_4 (fu : Nat) (n : Nat) (l0 : LA) (l1 : Int32) (l2 : Int32) (w : MEM) : f_X9_mostOf_4 fu (n + 1) l0 l1 l2 w = if l2 < (nI (aN l0.1)) then (ck (bI l2 (aN l0.1)) (ck (bI l1 (aN l0.1)) (if (rA w l0 l1) < (rA w l0 l2) then (f_X9_mostOf_4 fu n l0 l2 (l2 + (1 : Int32)) w) else (f_X9_mostOf_4 fu n l0 l1 (l2 + (1 : Int32)) w)))) else (some (l1, w)) := rfl
theorem w_X9_mostOf_4 {X : SCR} {d rc rs : Nat} {Q : PO → PH → Prop} {o : Int32} {w1 : MEM} {fu : Nat} (hd : 0 ≤ d) (hq : ∀ h1, WH X h1 w1 → Q (.inl (some (vI o))) h1) : ∀ (n : Nat) (l0 : LA) (l1 : Int32) (l2 : Int32) (w : MEM) (h : PH), WH X h w → oA l0 0 → f_X9_mostOf_4 fu n l0 l1 l2 w = some (o, w1) → PW d M_X9_mostOf Q rc rs 4 [vR l0, vI l1, vI l2] [] h := by
  intro n
  induction n with
  | zero => intro l0 l1 l2 w h wh ha_l0 hF; cases hF
  | succ n ih =>
    intro l0 l1 l2 w h wh ha_l0 hF
    replace hF := (E_X9_mostOf_4 fu n l0 l1 l2 w).symm.trans hF
    refine r_X9_mostOf_4 ?_
    refine lnA_of wh ha_l0 ?_
    refine ⟨fun c => ?_, fun c => ?_⟩
    · replace hF := if_ofT c hF
      obtain ⟨c, hF⟩ := ck_of hF
      refine xI_of wh ha_l0 c ?_
      clear c
      obtain ⟨c, hF⟩ := ck_of hF
      refine xI_of wh ha_l0 c ?_
      clear c
      refine ⟨fun c => ?_, fun c => ?_⟩
      · replace hF := if_ofT c hF
        exact ih _ _ _ _ _ wh ha_l0 hF
      · replace hF := if_ofF c hF
        exact ih _ _ _ _ _ wh ha_l0 hF
    · replace hF := if_ofF c hF
      obtain ⟨rfl, rfl⟩ := some_of hF
      exact hq _ wh
def f_X9_mostOf (fu : Nat) (l0 : LA) (w : MEM) : Option (Int32 × MEM) := f_X9_mostOf_4 fu fu l0 (0 : Int32) (1 : Int32) w
theorem E_X9_mostOf (fu : Nat) (l0 : LA) (w : MEM) : f_X9_mostOf fu l0 w = f_X9_mostOf_4 fu fu l0 (0 : Int32) (1 : Int32) w := rfl
theorem w_X9_mostOf {X : SCR} {d rc rs : Nat} {Q : PO → PH → Prop} {o : Int32} {w1 : MEM} {fu : Nat} (hd : 0 ≤ d) (hq : ∀ h1, WH X h1 w1 → Q (.inl (some (vI o))) h1) {l0 : LA} {w : MEM} {h : PH} (wh : WH X h w) (ha_l0 : oA l0 0) (hF : f_X9_mostOf fu l0 w = some (o, w1)) : PW d M_X9_mostOf Q rc rs 0 [vR l0, vU, vU] [] h := by
  replace hF := (E_X9_mostOf fu l0 w).symm.trans hF
  refine r_X9_mostOf_0 ?_
  exact w_X9_mostOf_4 hd hq  fu _ _ _ _ _ wh ha_l0 hF
theorem c_X9_mostOf {X : SCR} {fu : Nat} {o : Int32} {w1 : MEM} {a0 : LA} {w : MEM} {h : PH} (wh : WH X h w) (h0 : oA a0 0) (hF : f_X9_mostOf fu a0 w = some (o, w1)) : CT 0 M_X9_mostOf [vR a0] h 0 0 (QP X (.inl (some (vI o))) w1) :=
  CT_of mk_X9_mostOf (Nat.le_of_ble_eq_true rfl) rfl (w_X9_mostOf (fu := fu) (rc := 0) (rs := 0) (hd := Nat.le_refl 0) (hq := fun h1 g => ⟨rfl, g⟩) wh h0 hF)
-- X5_mostAlike
def f_X5_mostAlike_10 (fu : Nat) : Nat → Nat → Int32 → Int32 → MEM → Option (Int32 × MEM)
  | 0, _, _, _, _ => none
  | n + 1, l0, l1, l2, w => if l2 < (rS w (10502, l0)) then (ck (bI l2 90) (ck (bI l1 13) (ck (bI (rA w (502, 203 + l2.toNatClampNeg) l1) 100) (ck (bI (rA w (502, 203 + l2.toNatClampNeg) l1) 100) (lt (sA w (503, 292) (rA w (502, 203 + l2.toNatClampNeg) l1) ((rA w (503, 292) (rA w (502, 203 + l2.toNatClampNeg) l1)) + (1 : Int32))) fun (w4 : MEM) => f_X5_mostAlike_10 fu n l0 l1 (l2 + (1 : Int32)) w4))))) else (bnd (f_X9_mostOf fu (503, 292) w) fun (x2 : Int32) (w1 : MEM) => ck (bI x2 100) (some ((rA w1 (503, 292) x2), w1)))
theorem E_X5_mostAlike_10 (fu : Nat) (n : Nat) (l0 : Nat) (l1 : Int32) (l2 : Int32) (w : MEM) : f_X5_mostAlike_10 fu (n + 1) l0 l1 l2 w = if l2 < (rS w (10502, l0)) then (ck (bI l2 90) (ck (bI l1 13) (ck (bI (rA w (502, 203 + l2.toNatClampNeg) l1) 100) (ck (bI (rA w (502, 203 + l2.toNatClampNeg) l1) 100) (lt (sA w (503, 292) (rA w (502, 203 + l2.toNatClampNeg) l1) ((rA w (503, 292) (rA w (502, 203 + l2.toNatClampNeg) l1)) + (1 : Int32))) fun (w4 : MEM) => f_X5_mostAlike_10 fu n l0 l1 (l2 + (1 : Int32)) w4))))) else (bnd (f_X9_mostOf fu (503, 292) w) fun (x2 : Int32) (w1 : MEM) => ck (bI x2 100) (some ((rA w1 (503, 292) x2), w1))) := rfl
theorem w_X5_mostAlike_10 {X : SCR} {d rc rs : Nat} {Q : PO → PH → Prop} {o : Int32} {w1 : MEM} {fu : Nat} (hd : 1 ≤ d) (hq : ∀ h1, WH X h1 w1 → Q (.inl (some (vI o))) h1) : ∀ (n : Nat) (l0 : Nat) (l1 : Int32) (l2 : Int32) (w : MEM) (h : PH), WH X h w → vo 5 l0 = true → f_X5_mostAlike_10 fu n l0 l1 l2 w = some (o, w1) → PW d M_X5_mostAlike Q rc rs 10 [vR (500, l0), vI l1, vI l2] [] h := by
  intro n
  induction n with
  | zero => intro l0 l1 l2 w h wh hv_l0 hF; cases hF
  | succ n ih =>
    intro l0 l1 l2 w h wh hv_l0 hF
    replace hF := (E_X5_mostAlike_10 fu n l0 l1 l2 w).symm.trans hF
    refine r_X5_mostAlike_10 ?_
    refine gI_of (wh.1 10502 _ rfl hv_l0) ?_
    refine ⟨fun c => ?_, fun c => ?_⟩
    · replace hF := if_ofT c hF
      refine gA_of (b := (503, 292)) (wh.2.1 10501 _ rfl hv_l0) ?_
      refine gA_of (b := (501, 203)) (wh.2.1 10500 _ rfl hv_l0) ?_
      obtain ⟨c, hF⟩ := ck_of hF
      have hM3 := vMI c
      refine xA_M wh c ?_
      clear c
      obtain ⟨c, hF⟩ := ck_of hF
      refine xI_of wh hM3 c ?_
      clear c
      obtain ⟨c, hF⟩ := ck_of hF
      refine xI_of wh (oA_503 rfl) c ?_
      clear c
      obtain ⟨c, hF⟩ := ck_of hF
      replace hF := lt_of hF
      refine yI_of wh (oA_503 rfl) c ?_
      clear c wh
      intro h wh
      exact ih _ _ _ _ _ wh hv_l0 hF
    · replace hF := if_ofF c hF
      refine gA_of (b := (503, 292)) (wh.2.1 10501 _ rfl hv_l0) ?_
      refine gA_of (b := (503, 292)) (wh.2.1 10501 _ rfl hv_l0) ?_
      obtain ⟨x2, w1, hG, hF⟩ := bnd_of hF
      refine cl_I (D := 0) (Nat.le_trans (by decide) hd) (c_X9_mostOf wh (oA_503 rfl) hG) ?_
      clear hG
      clear wh
      intro h wh
      obtain ⟨c, hF⟩ := ck_of hF
      refine xI_of wh (oA_503 rfl) c ?_
      clear c
      obtain ⟨rfl, rfl⟩ := some_of hF
      exact hq _ wh
def f_X5_mostAlike (fu : Nat) (l0 : Nat) (l1 : Int32) (w : MEM) : Option (Int32 × MEM) := bnd (f_J7_fill_53178 fu (503, 292) (0 : Int32) w) fun (u2 : Unit) (w1 : MEM) => f_X5_mostAlike_10 fu fu l0 l1 (0 : Int32) w1
theorem E_X5_mostAlike (fu : Nat) (l0 : Nat) (l1 : Int32) (w : MEM) : f_X5_mostAlike fu l0 l1 w = bnd (f_J7_fill_53178 fu (503, 292) (0 : Int32) w) fun (u2 : Unit) (w1 : MEM) => f_X5_mostAlike_10 fu fu l0 l1 (0 : Int32) w1 := rfl
theorem w_X5_mostAlike {X : SCR} {d rc rs : Nat} {Q : PO → PH → Prop} {o : Int32} {w1 : MEM} {fu : Nat} (hd : 1 ≤ d) (hq : ∀ h1, WH X h1 w1 → Q (.inl (some (vI o))) h1) {l0 : Nat} {l1 : Int32} {w : MEM} {h : PH} (wh : WH X h w) (hv_l0 : vo 5 l0 = true) (hF : f_X5_mostAlike fu l0 l1 w = some (o, w1)) : PW d M_X5_mostAlike Q rc rs 0 [vR (500, l0), vI l1, vU] [] h := by
  replace hF := (E_X5_mostAlike fu l0 l1 w).symm.trans hF
  refine r_X5_mostAlike_0 ?_
  refine gA_of (b := (503, 292)) (wh.2.1 10501 _ rfl hv_l0) ?_
  obtain ⟨u2, w1, hG, hF⟩ := bnd_of hF
  refine cl_V (D := 0) (Nat.le_trans (by decide) hd) (c_J7_fill_53178 wh (oA_503 rfl) hG) ?_
  clear hG
  clear wh
  intro h wh
  exact w_X5_mostAlike_10 hd hq  fu _ _ _ _ _ wh hv_l0 hF
theorem c_X5_mostAlike {X : SCR} {fu : Nat} {o : Int32} {w1 : MEM} {a0 : Nat} {a1 : Int32} {w : MEM} {h : PH} (wh : WH X h w) (h0 : vo 5 a0 = true) (hF : f_X5_mostAlike fu a0 a1 w = some (o, w1)) : CT 1 M_X5_mostAlike [vR (500, a0), vI a1] h 0 0 (QP X (.inl (some (vI o))) w1) :=
  CT_of mk_X5_mostAlike (Nat.le_of_ble_eq_true rfl) rfl (w_X5_mostAlike (fu := fu) (rc := 0) (rs := 0) (hd := Nat.le_refl 1) (hq := fun h1 g => ⟨rfl, g⟩) wh h0 hF)
-- X6_mayFollow
def f_X6_mayFollow (fu : Nat) (l0 : Int32) (l1 : Int32) (l2 : Int32) (l3 : Nat) (w : MEM) : Option (Int32 × MEM) := if (l0 &&& ((1 : Int32) <<< (l2 &&& 31))) = 0 then (if l1 = (7 : Int32) then (some ((1 : Int32), w)) else (bnd (f_X1_areTwo fu l3 l1 l2 w) fun (x2 : Int32) (w1 : MEM) => if x2 = 0 then (some ((1 : Int32), w1)) else (some ((0 : Int32), w1)))) else (some ((0 : Int32), w))
theorem E_X6_mayFollow (fu : Nat) (l0 : Int32) (l1 : Int32) (l2 : Int32) (l3 : Nat) (w : MEM) : f_X6_mayFollow fu l0 l1 l2 l3 w = if (l0 &&& ((1 : Int32) <<< (l2 &&& 31))) = 0 then (if l1 = (7 : Int32) then (some ((1 : Int32), w)) else (bnd (f_X1_areTwo fu l3 l1 l2 w) fun (x2 : Int32) (w1 : MEM) => if x2 = 0 then (some ((1 : Int32), w1)) else (some ((0 : Int32), w1)))) else (some ((0 : Int32), w)) := rfl
theorem w_X6_mayFollow {X : SCR} {d rc rs : Nat} {Q : PO → PH → Prop} {o : Int32} {w1 : MEM} {fu : Nat} (hd : 1 ≤ d) (hq : ∀ h1, WH X h1 w1 → Q (.inl (some (vI o))) h1) {l0 : Int32} {l1 : Int32} {l2 : Int32} {l3 : Nat} {w : MEM} {h : PH} (wh : WH X h w) (hv_l3 : vo 1 l3 = true) (hF : f_X6_mayFollow fu l0 l1 l2 l3 w = some (o, w1)) : PW d M_X6_mayFollow Q rc rs 0 [vI l0, vI l1, vI l2, vR (100, l3)] [] h := by
  replace hF := (E_X6_mayFollow fu l0 l1 l2 l3 w).symm.trans hF
  refine r_X6_mayFollow_0 ?_
  refine ⟨fun c => ?_, fun c => ?_⟩
  · replace hF := if_ofT c hF
    refine ⟨fun c => ?_, fun c => ?_⟩
    · replace hF := if_ofT c hF
      obtain ⟨rfl, rfl⟩ := some_of hF
      exact hq _ wh
    · replace hF := if_ofF c hF
      refine ⟨⟨_, wh.2.1 10100 _ rfl hv_l3⟩, ?_⟩
      obtain ⟨x2, w1, hG, hF⟩ := bnd_of hF
      refine cl_I (D := 0) (Nat.le_trans (by decide) hd) (c_X1_areTwo wh hv_l3 hG) ?_
      clear hG
      clear wh
      intro h wh
      refine ⟨fun c => ?_, fun c => ?_⟩
      · replace hF := if_ofT c hF
        obtain ⟨rfl, rfl⟩ := some_of hF
        exact hq _ wh
      · replace hF := if_ofF c hF
        obtain ⟨rfl, rfl⟩ := some_of hF
        exact hq _ wh
  · replace hF := if_ofF c hF
    obtain ⟨rfl, rfl⟩ := some_of hF
    exact hq _ wh
theorem c_X6_mayFollow {X : SCR} {fu : Nat} {o : Int32} {w1 : MEM} {a0 : Int32} {a1 : Int32} {a2 : Int32} {a3 : Nat} {w : MEM} {h : PH} (wh : WH X h w) (h0 : vo 1 a3 = true) (hF : f_X6_mayFollow fu a0 a1 a2 a3 w = some (o, w1)) : CT 1 M_X6_mayFollow [vI a0, vI a1, vI a2, vR (100, a3)] h 0 0 (QP X (.inl (some (vI o))) w1) :=
  CT_of mk_X6_mayFollow (Nat.le_of_ble_eq_true rfl) rfl (w_X6_mayFollow (fu := fu) (rc := 0) (rs := 0) (hd := Nat.le_refl 1) (hq := fun h1 g => ⟨rfl, g⟩) wh h0 hF)
-- X6_waysBehind
def f_X6_waysBehind_6 (fu : Nat) : Nat → Nat → Int32 → Int32 → Nat → Int32 → Int32 → MEM → Option (Int32 × MEM)
  | 0, _, _, _, _, _, _, _ => none
  | n + 1, l0, l1, l2, l3, l4, l5, w => if l5 < (rS w (10107, l3)) then (bnd (f_X6_mayFollow fu l1 l2 l5 l3 w) fun (x2 : Int32) (w1 : MEM) => if x2 = 0 then (f_X6_waysBehind_6 fu n l0 l1 l2 l3 l4 (l5 + (1 : Int32)) w1) else (ck (bI (((l1 ||| ((1 : Int32) <<< (l5 &&& 31))) * (8 : Int32)) + l5) 1024) (lt ((l4 + (rA w1 (601, l0) (((l1 ||| ((1 : Int32) <<< (l5 &&& 31))) * (8 : Int32)) + l5)))) fun (v3 : Int32) => f_X6_waysBehind_6 fu n l0 l1 l2 l3 v3 (l5 + (1 : Int32)) w1))) else (some (l4, w))
theorem E_X6_waysBehind_6 (fu : Nat) (n : Nat) (l0 : Nat) (l1 : Int32) (l2 : Int32) (l3 : Nat) (l4 : Int32) (l5 : Int32) (w : MEM) : f_X6_waysBehind_6 fu (n + 1) l0 l1 l2 l3 l4 l5 w = if l5 < (rS w (10107, l3)) then (bnd (f_X6_mayFollow fu l1 l2 l5 l3 w) fun (x2 : Int32) (w1 : MEM) => if x2 = 0 then (f_X6_waysBehind_6 fu n l0 l1 l2 l3 l4 (l5 + (1 : Int32)) w1) else (ck (bI (((l1 ||| ((1 : Int32) <<< (l5 &&& 31))) * (8 : Int32)) + l5) 1024) (lt ((l4 + (rA w1 (601, l0) (((l1 ||| ((1 : Int32) <<< (l5 &&& 31))) * (8 : Int32)) + l5)))) fun (v3 : Int32) => f_X6_waysBehind_6 fu n l0 l1 l2 l3 v3 (l5 + (1 : Int32)) w1))) else (some (l4, w)) := rfl
theorem w_X6_waysBehind_6 {X : SCR} {d rc rs : Nat} {Q : PO → PH → Prop} {o : Int32} {w1 : MEM} {fu : Nat} (hd : 2 ≤ d) (hq : ∀ h1, WH X h1 w1 → Q (.inl (some (vI o))) h1) : ∀ (n : Nat) (l0 : Nat) (l1 : Int32) (l2 : Int32) (l3 : Nat) (l4 : Int32) (l5 : Int32) (w : MEM) (h : PH), WH X h w → vo 6 l0 = true → vo 1 l3 = true → f_X6_waysBehind_6 fu n l0 l1 l2 l3 l4 l5 w = some (o, w1) → PW d M_X6_waysBehind Q rc rs 6 [vR (600, l0), vI l1, vI l2, vR (100, l3), vI l4, vI l5] [] h := by
  intro n
  induction n with
  | zero => intro l0 l1 l2 l3 l4 l5 w h wh hv_l0 hv_l3 hF; cases hF
  | succ n ih =>
    intro l0 l1 l2 l3 l4 l5 w h wh hv_l0 hv_l3 hF
    replace hF := (E_X6_waysBehind_6 fu n l0 l1 l2 l3 l4 l5 w).symm.trans hF
    refine r_X6_waysBehind_6 ?_
    refine gI_of (wh.1 10107 _ rfl hv_l3) ?_
    refine ⟨fun c => ?_, fun c => ?_⟩
    · replace hF := if_ofT c hF
      obtain ⟨x2, w1, hG, hF⟩ := bnd_of hF
      refine cl_I (D := 1) (Nat.le_trans (by decide) hd) (c_X6_mayFollow wh hv_l3 hG) ?_
      clear hG
      clear wh
      intro h wh
      refine ⟨fun c => ?_, fun c => ?_⟩
      · replace hF := if_ofT c hF
        exact ih _ _ _ _ _ _ _ _ wh hv_l0 hv_l3 hF
      · replace hF := if_ofF c hF
        refine gA_of (b := (601, l0)) (wh.2.1 10600 _ rfl hv_l0) ?_
        obtain ⟨c, hF⟩ := ck_of hF
        refine xI_of wh (oA_601 hv_l0) c ?_
        clear c
        replace hF := lt_of hF
        exact ih _ _ _ _ _ _ _ _ wh hv_l0 hv_l3 hF
    · replace hF := if_ofF c hF
      obtain ⟨rfl, rfl⟩ := some_of hF
      exact hq _ wh
def f_X6_waysBehind (fu : Nat) (l0 : Nat) (l1 : Int32) (l2 : Int32) (l3 : Nat) (w : MEM) : Option (Int32 × MEM) := f_X6_waysBehind_6 fu fu l0 l1 l2 l3 (0 : Int32) (0 : Int32) w
theorem E_X6_waysBehind (fu : Nat) (l0 : Nat) (l1 : Int32) (l2 : Int32) (l3 : Nat) (w : MEM) : f_X6_waysBehind fu l0 l1 l2 l3 w = f_X6_waysBehind_6 fu fu l0 l1 l2 l3 (0 : Int32) (0 : Int32) w := rfl
theorem w_X6_waysBehind {X : SCR} {d rc rs : Nat} {Q : PO → PH → Prop} {o : Int32} {w1 : MEM} {fu : Nat} (hd : 2 ≤ d) (hq : ∀ h1, WH X h1 w1 → Q (.inl (some (vI o))) h1) {l0 : Nat} {l1 : Int32} {l2 : Int32} {l3 : Nat} {w : MEM} {h : PH} (wh : WH X h w) (hv_l0 : vo 6 l0 = true) (hv_l3 : vo 1 l3 = true) (hF : f_X6_waysBehind fu l0 l1 l2 l3 w = some (o, w1)) : PW d M_X6_waysBehind Q rc rs 0 [vR (600, l0), vI l1, vI l2, vR (100, l3), vU, vU] [] h := by
  replace hF := (E_X6_waysBehind fu l0 l1 l2 l3 w).symm.trans hF
  refine r_X6_waysBehind_0 ?_
  exact w_X6_waysBehind_6 hd hq  fu _ _ _ _ _ _ _ _ wh hv_l0 hv_l3 hF
theorem c_X6_waysBehind {X : SCR} {fu : Nat} {o : Int32} {w1 : MEM} {a0 : Nat} {a1 : Int32} {a2 : Int32} {a3 : Nat} {w : MEM} {h : PH} (wh : WH X h w) (h0 : vo 6 a0 = true) (h1 : vo 1 a3 = true) (hF : f_X6_waysBehind fu a0 a1 a2 a3 w = some (o, w1)) : CT 2 M_X6_waysBehind [vR (600, a0), vI a1, vI a2, vR (100, a3)] h 0 0 (QP X (.inl (some (vI o))) w1) :=
  CT_of mk_X6_waysBehind (Nat.le_of_ble_eq_true rfl) rfl (w_X6_waysBehind (fu := fu) (rc := 0) (rs := 0) (hd := Nat.le_refl 2) (hq := fun h1 g => ⟨rfl, g⟩) wh h0 h1 hF)
-- X6_find
def f_X6_find_14 (fu : Nat) (k7 : Nat → Nat → Int32 → Int32 → MEM → Option (Unit × MEM)) : Nat → Nat → Nat → Int32 → Int32 → Int32 → MEM → Option (Unit × MEM)
  | 0, _, _, _, _, _, _ => none
  | n + 1, l0, l1, l2, l3, l4, w => if (7 : Int32) < l4 then (k7 l0 l1 l2 (l3 + (-1 : Int32)) w) else (if l3 = l2 then (ck (bI ((l3 * (8 : Int32)) + l4) 1024) (lt (sA w (601, l0) ((l3 * (8 : Int32)) + l4) (1 : Int32)) fun (w4 : MEM) => f_X6_find_14 fu k7 n l0 l1 l2 l3 (l4 + (1 : Int32)) w4)) else (bnd (f_X6_waysBehind fu l0 l3 l4 l1 w) fun (x2 : Int32) (w1 : MEM) => ck (bI ((l3 * (8 : Int32)) + l4) 1024) (lt (sA w1 (601, l0) ((l3 * (8 : Int32)) + l4) x2) fun (w3 : MEM) => f_X6_find_14 fu k7 n l0 l1 l2 l3 (l4 + (1 : Int32)) w3)))
theorem E_X6_find_14 (fu : Nat) (k7 : Nat → Nat → Int32 → Int32 → MEM → Option (Unit × MEM)) (n : Nat) (l0 : Nat) (l1 : Nat) (l2 : Int32) (l3 : Int32) (l4 : Int32) (w : MEM) : f_X6_find_14 fu k7 (n + 1) l0 l1 l2 l3 l4 w = if (7 : Int32) < l4 then (k7 l0 l1 l2 (l3 + (-1 : Int32)) w) else (if l3 = l2 then (ck (bI ((l3 * (8 : Int32)) + l4) 1024) (lt (sA w (601, l0) ((l3 * (8 : Int32)) + l4) (1 : Int32)) fun (w4 : MEM) => f_X6_find_14 fu k7 n l0 l1 l2 l3 (l4 + (1 : Int32)) w4)) else (bnd (f_X6_waysBehind fu l0 l3 l4 l1 w) fun (x2 : Int32) (w1 : MEM) => ck (bI ((l3 * (8 : Int32)) + l4) 1024) (lt (sA w1 (601, l0) ((l3 * (8 : Int32)) + l4) x2) fun (w3 : MEM) => f_X6_find_14 fu k7 n l0 l1 l2 l3 (l4 + (1 : Int32)) w3))) := rfl
theorem w_X6_find_14 {X : SCR} {d rc rs : Nat} {Q : PO → PH → Prop} {o : Unit} {w1 : MEM} {fu : Nat} {k7 : Nat → Nat → Int32 → Int32 → MEM → Option (Unit × MEM)} (hd : 3 ≤ d) (hq : ∀ h1, WH X h1 w1 → Q (.inl none) h1) (hk7 : ∀ (l0 : Nat) (l1 : Nat) (l2 : Int32) (l3 : Int32) (w : MEM) (h : PH), WH X h w → vo 6 l0 = true → vo 1 l1 = true → k7 l0 l1 l2 l3 w = some (o, w1) → PW d M_X6_find Q rc rs 7 [vR (600, l0), vR (100, l1), vI l2, vI l3, vU] [] h) : ∀ (n : Nat) (l0 : Nat) (l1 : Nat) (l2 : Int32) (l3 : Int32) (l4 : Int32) (w : MEM) (h : PH), WH X h w → vo 6 l0 = true → vo 1 l1 = true → f_X6_find_14 fu k7 n l0 l1 l2 l3 l4 w = some (o, w1) → PW d M_X6_find Q rc rs 14 [vR (600, l0), vR (100, l1), vI l2, vI l3, vI l4] [] h := by
  intro n
  induction n with
  | zero => intro l0 l1 l2 l3 l4 w h wh hv_l0 hv_l1 hF; cases hF
  | succ n ih =>
    intro l0 l1 l2 l3 l4 w h wh hv_l0 hv_l1 hF
    replace hF := (E_X6_find_14 fu k7 n l0 l1 l2 l3 l4 w).symm.trans hF
    refine r_X6_find_14 ?_
    refine ⟨fun c => ?_, fun c => ?_⟩
    · replace hF := if_ofT c hF
      exact hk7 _ _ _ _ _ _ wh hv_l0 hv_l1 hF
    · replace hF := if_ofF c hF
      refine gA_of (b := (601, l0)) (wh.2.1 10600 _ rfl hv_l0) ?_
      refine ⟨fun c => ?_, fun c => ?_⟩
      · replace hF := if_ofT c hF
        obtain ⟨c, hF⟩ := ck_of hF
        replace hF := lt_of hF
        refine yI_of wh (oA_601 hv_l0) c ?_
        clear c wh
        intro h wh
        exact ih _ _ _ _ _ _ _ wh hv_l0 hv_l1 hF
      · replace hF := if_ofF c hF
        refine ⟨⟨_, wh.2.1 10600 _ rfl hv_l0⟩, ?_⟩
        obtain ⟨x2, w1, hG, hF⟩ := bnd_of hF
        refine cl_I (D := 2) (Nat.le_trans (by decide) hd) (c_X6_waysBehind wh hv_l0 hv_l1 hG) ?_
        clear hG
        clear wh
        intro h wh
        obtain ⟨c, hF⟩ := ck_of hF
        replace hF := lt_of hF
        refine yI_of wh (oA_601 hv_l0) c ?_
        clear c wh
        intro h wh
        exact ih _ _ _ _ _ _ _ wh hv_l0 hv_l1 hF
def f_X6_find_7 (fu : Nat) : Nat → Nat → Nat → Int32 → Int32 → MEM → Option (Unit × MEM)
  | 0, _, _, _, _, _ => none
  | n + 1, l0, l1, l2, l3, w => if l3 < 0 then (some ((), w)) else (f_X6_find_14 fu (fun l0 l1 l2 l3 w => f_X6_find_7 fu n l0 l1 l2 l3 w) fu l0 l1 l2 l3 (0 : Int32) w)
theorem E_X6_find_7 (fu : Nat) (n : Nat) (l0 : Nat) (l1 : Nat) (l2 : Int32) (l3 : Int32) (w : MEM) : f_X6_find_7 fu (n + 1) l0 l1 l2 l3 w = if l3 < 0 then (some ((), w)) else (f_X6_find_14 fu (fun l0 l1 l2 l3 w => f_X6_find_7 fu n l0 l1 l2 l3 w) fu l0 l1 l2 l3 (0 : Int32) w) := rfl
theorem w_X6_find_7 {X : SCR} {d rc rs : Nat} {Q : PO → PH → Prop} {o : Unit} {w1 : MEM} {fu : Nat} (hd : 3 ≤ d) (hq : ∀ h1, WH X h1 w1 → Q (.inl none) h1) : ∀ (n : Nat) (l0 : Nat) (l1 : Nat) (l2 : Int32) (l3 : Int32) (w : MEM) (h : PH), WH X h w → vo 6 l0 = true → vo 1 l1 = true → f_X6_find_7 fu n l0 l1 l2 l3 w = some (o, w1) → PW d M_X6_find Q rc rs 7 [vR (600, l0), vR (100, l1), vI l2, vI l3, vU] [] h := by
  intro n
  induction n with
  | zero => intro l0 l1 l2 l3 w h wh hv_l0 hv_l1 hF; cases hF
  | succ n ih =>
    intro l0 l1 l2 l3 w h wh hv_l0 hv_l1 hF
    replace hF := (E_X6_find_7 fu n l0 l1 l2 l3 w).symm.trans hF
    refine r_X6_find_7 ?_
    refine ⟨fun c => ?_, fun c => ?_⟩
    · replace hF := if_ofT c hF
      obtain ⟨rfl, rfl⟩ := some_of hF
      exact hq _ wh
    · replace hF := if_ofF c hF
      exact w_X6_find_14 hd hq (fun l0 l1 l2 l3 w h wh g0 g1 hF => ih l0 l1 l2 l3 w h wh g0 g1 hF) fu _ _ _ _ _ _ _ wh hv_l0 hv_l1 hF
def f_X6_find (fu : Nat) (l0 : Nat) (l1 : Nat) (w : MEM) : Option (Unit × MEM) := bnd (f_X1_all fu l1 w) fun (x2 : Int32) (w1 : MEM) => f_X6_find_7 fu fu l0 l1 x2 x2 w1
theorem E_X6_find (fu : Nat) (l0 : Nat) (l1 : Nat) (w : MEM) : f_X6_find fu l0 l1 w = bnd (f_X1_all fu l1 w) fun (x2 : Int32) (w1 : MEM) => f_X6_find_7 fu fu l0 l1 x2 x2 w1 := rfl
theorem w_X6_find {X : SCR} {d rc rs : Nat} {Q : PO → PH → Prop} {o : Unit} {w1 : MEM} {fu : Nat} (hd : 3 ≤ d) (hq : ∀ h1, WH X h1 w1 → Q (.inl none) h1) {l0 : Nat} {l1 : Nat} {w : MEM} {h : PH} (wh : WH X h w) (hv_l0 : vo 6 l0 = true) (hv_l1 : vo 1 l1 = true) (hF : f_X6_find fu l0 l1 w = some (o, w1)) : PW d M_X6_find Q rc rs 0 [vR (600, l0), vR (100, l1), vU, vU, vU] [] h := by
  replace hF := (E_X6_find fu l0 l1 w).symm.trans hF
  refine r_X6_find_0 ?_
  refine ⟨⟨_, wh.2.1 10100 _ rfl hv_l1⟩, ?_⟩
  obtain ⟨x2, w1, hG, hF⟩ := bnd_of hF
  refine cl_I (D := 0) (Nat.le_trans (by decide) hd) (c_X1_all wh hv_l1 hG) ?_
  clear hG
  clear wh
  intro h wh
  exact w_X6_find_7 hd hq  fu _ _ _ _ _ _ wh hv_l0 hv_l1 hF
theorem c_X6_find {X : SCR} {fu : Nat} {o : Unit} {w1 : MEM} {a0 : Nat} {a1 : Nat} {w : MEM} {h : PH} (wh : WH X h w) (h0 : vo 6 a0 = true) (h1 : vo 1 a1 = true) (hF : f_X6_find fu a0 a1 w = some (o, w1)) : CT 3 M_X6_find [vR (600, a0), vR (100, a1)] h 0 0 (QP X (.inl none) w1) :=
  CT_of mk_X6_find (Nat.le_of_ble_eq_true rfl) rfl (w_X6_find (fu := fu) (rc := 0) (rs := 0) (hd := Nat.le_refl 3) (hq := fun h1 g => ⟨rfl, g⟩) wh h0 h1 hF)
-- X6_inAll
def f_X6_inAll (fu : Nat) (l0 : Nat) (w : MEM) : Option (Int32 × MEM) := ck (bI (7 : Int32) 1024) (some ((rA w (601, l0) (7 : Int32)), w))
theorem E_X6_inAll (fu : Nat) (l0 : Nat) (w : MEM) : f_X6_inAll fu l0 w = ck (bI (7 : Int32) 1024) (some ((rA w (601, l0) (7 : Int32)), w)) := rfl
theorem w_X6_inAll {X : SCR} {d rc rs : Nat} {Q : PO → PH → Prop} {o : Int32} {w1 : MEM} {fu : Nat} (hd : 0 ≤ d) (hq : ∀ h1, WH X h1 w1 → Q (.inl (some (vI o))) h1) {l0 : Nat} {w : MEM} {h : PH} (wh : WH X h w) (hv_l0 : vo 6 l0 = true) (hF : f_X6_inAll fu l0 w = some (o, w1)) : PW d M_X6_inAll Q rc rs 0 [vR (600, l0)] [] h := by
  replace hF := (E_X6_inAll fu l0 w).symm.trans hF
  refine r_X6_inAll_0 ?_
  refine gA_of (b := (601, l0)) (wh.2.1 10600 _ rfl hv_l0) ?_
  obtain ⟨c, hF⟩ := ck_of hF
  refine xI_of wh (oA_601 hv_l0) c ?_
  clear c
  obtain ⟨rfl, rfl⟩ := some_of hF
  exact hq _ wh
theorem c_X6_inAll {X : SCR} {fu : Nat} {o : Int32} {w1 : MEM} {a0 : Nat} {w : MEM} {h : PH} (wh : WH X h w) (h0 : vo 6 a0 = true) (hF : f_X6_inAll fu a0 w = some (o, w1)) : CT 0 M_X6_inAll [vR (600, a0)] h 0 0 (QP X (.inl (some (vI o))) w1) :=
  CT_of mk_X6_inAll (Nat.le_of_ble_eq_true rfl) rfl (w_X6_inAll (fu := fu) (rc := 0) (rs := 0) (hd := Nat.le_refl 0) (hq := fun h1 g => ⟨rfl, g⟩) wh h0 hF)
-- X6_firstBehind
def f_X6_firstBehind_3 (fu : Nat) : Nat → Nat → Int32 → Int32 → Nat → Int32 → MEM → Option (Int32 × MEM)
  | 0, _, _, _, _, _, _ => none
  | n + 1, l0, l1, l2, l3, l4, w => if l4 < (rS w (10107, l3)) then (bnd (f_X6_mayFollow fu l1 l2 l4 l3 w) fun (x2 : Int32) (w1 : MEM) => if x2 = 0 then (f_X6_firstBehind_3 fu n l0 l1 l2 l3 (l4 + (1 : Int32)) w1) else (ck (bI (((l1 ||| ((1 : Int32) <<< (l4 &&& 31))) * (8 : Int32)) + l4) 1024) (if 0 < (rA w1 (601, l0) (((l1 ||| ((1 : Int32) <<< (l4 &&& 31))) * (8 : Int32)) + l4)) then (some (l4, w1)) else (f_X6_firstBehind_3 fu n l0 l1 l2 l3 (l4 + (1 : Int32)) w1)))) else (some ((7 : Int32), w))
theorem E_X6_firstBehind_3 (fu : Nat) (n : Nat) (l0 : Nat) (l1 : Int32) (l2 : Int32) (l3 : Nat) (l4 : Int32) (w : MEM) : f_X6_firstBehind_3 fu (n + 1) l0 l1 l2 l3 l4 w = if l4 < (rS w (10107, l3)) then (bnd (f_X6_mayFollow fu l1 l2 l4 l3 w) fun (x2 : Int32) (w1 : MEM) => if x2 = 0 then (f_X6_firstBehind_3 fu n l0 l1 l2 l3 (l4 + (1 : Int32)) w1) else (ck (bI (((l1 ||| ((1 : Int32) <<< (l4 &&& 31))) * (8 : Int32)) + l4) 1024) (if 0 < (rA w1 (601, l0) (((l1 ||| ((1 : Int32) <<< (l4 &&& 31))) * (8 : Int32)) + l4)) then (some (l4, w1)) else (f_X6_firstBehind_3 fu n l0 l1 l2 l3 (l4 + (1 : Int32)) w1)))) else (some ((7 : Int32), w)) := rfl
theorem w_X6_firstBehind_3 {X : SCR} {d rc rs : Nat} {Q : PO → PH → Prop} {o : Int32} {w1 : MEM} {fu : Nat} (hd : 2 ≤ d) (hq : ∀ h1, WH X h1 w1 → Q (.inl (some (vI o))) h1) : ∀ (n : Nat) (l0 : Nat) (l1 : Int32) (l2 : Int32) (l3 : Nat) (l4 : Int32) (w : MEM) (h : PH), WH X h w → vo 6 l0 = true → vo 1 l3 = true → f_X6_firstBehind_3 fu n l0 l1 l2 l3 l4 w = some (o, w1) → PW d M_X6_firstBehind Q rc rs 3 [vR (600, l0), vI l1, vI l2, vR (100, l3), vI l4] [] h := by
  intro n
  induction n with
  | zero => intro l0 l1 l2 l3 l4 w h wh hv_l0 hv_l3 hF; cases hF
  | succ n ih =>
    intro l0 l1 l2 l3 l4 w h wh hv_l0 hv_l3 hF
    replace hF := (E_X6_firstBehind_3 fu n l0 l1 l2 l3 l4 w).symm.trans hF
    refine r_X6_firstBehind_3 ?_
    refine gI_of (wh.1 10107 _ rfl hv_l3) ?_
    refine ⟨fun c => ?_, fun c => ?_⟩
    · replace hF := if_ofT c hF
      obtain ⟨x2, w1, hG, hF⟩ := bnd_of hF
      refine cl_I (D := 1) (Nat.le_trans (by decide) hd) (c_X6_mayFollow wh hv_l3 hG) ?_
      clear hG
      clear wh
      intro h wh
      refine ⟨fun c => ?_, fun c => ?_⟩
      · replace hF := if_ofT c hF
        exact ih _ _ _ _ _ _ _ wh hv_l0 hv_l3 hF
      · replace hF := if_ofF c hF
        refine gA_of (b := (601, l0)) (wh.2.1 10600 _ rfl hv_l0) ?_
        obtain ⟨c, hF⟩ := ck_of hF
        refine xI_of wh (oA_601 hv_l0) c ?_
        clear c
        refine ⟨fun c => ?_, fun c => ?_⟩
        · replace hF := if_ofT c hF
          obtain ⟨rfl, rfl⟩ := some_of hF
          exact hq _ wh
        · replace hF := if_ofF c hF
          exact ih _ _ _ _ _ _ _ wh hv_l0 hv_l3 hF
    · replace hF := if_ofF c hF
      obtain ⟨rfl, rfl⟩ := some_of hF
      exact hq _ wh
def f_X6_firstBehind (fu : Nat) (l0 : Nat) (l1 : Int32) (l2 : Int32) (l3 : Nat) (w : MEM) : Option (Int32 × MEM) := f_X6_firstBehind_3 fu fu l0 l1 l2 l3 (0 : Int32) w
theorem E_X6_firstBehind (fu : Nat) (l0 : Nat) (l1 : Int32) (l2 : Int32) (l3 : Nat) (w : MEM) : f_X6_firstBehind fu l0 l1 l2 l3 w = f_X6_firstBehind_3 fu fu l0 l1 l2 l3 (0 : Int32) w := rfl
theorem w_X6_firstBehind {X : SCR} {d rc rs : Nat} {Q : PO → PH → Prop} {o : Int32} {w1 : MEM} {fu : Nat} (hd : 2 ≤ d) (hq : ∀ h1, WH X h1 w1 → Q (.inl (some (vI o))) h1) {l0 : Nat} {l1 : Int32} {l2 : Int32} {l3 : Nat} {w : MEM} {h : PH} (wh : WH X h w) (hv_l0 : vo 6 l0 = true) (hv_l3 : vo 1 l3 = true) (hF : f_X6_firstBehind fu l0 l1 l2 l3 w = some (o, w1)) : PW d M_X6_firstBehind Q rc rs 0 [vR (600, l0), vI l1, vI l2, vR (100, l3), vU] [] h := by
  replace hF := (E_X6_firstBehind fu l0 l1 l2 l3 w).symm.trans hF
  refine r_X6_firstBehind_0 ?_
  exact w_X6_firstBehind_3 hd hq  fu _ _ _ _ _ _ _ wh hv_l0 hv_l3 hF
theorem c_X6_firstBehind {X : SCR} {fu : Nat} {o : Int32} {w1 : MEM} {a0 : Nat} {a1 : Int32} {a2 : Int32} {a3 : Nat} {w : MEM} {h : PH} (wh : WH X h w) (h0 : vo 6 a0 = true) (h1 : vo 1 a3 = true) (hF : f_X6_firstBehind fu a0 a1 a2 a3 w = some (o, w1)) : CT 2 M_X6_firstBehind [vR (600, a0), vI a1, vI a2, vR (100, a3)] h 0 0 (QP X (.inl (some (vI o))) w1) :=
  CT_of mk_X6_firstBehind (Nat.le_of_ble_eq_true rfl) rfl (w_X6_firstBehind (fu := fu) (rc := 0) (rs := 0) (hd := Nat.le_refl 2) (hq := fun h1 g => ⟨rfl, g⟩) wh h0 h1 hF)
-- X6_firstOn
def f_X6_firstOn_19 (fu : Nat) : Nat → Nat → Int32 → Nat → Int32 → Int32 → Int32 → MEM → Option (Int32 × MEM)
  | 0, _, _, _, _, _, _, _ => none
  | n + 1, l0, l1, l2, l3, l4, l5, w => if l1 < l5 then (some (l4, w)) else (bnd (f_X6_firstBehind fu l0 l3 l4 l2 w) fun (x2 : Int32) (w1 : MEM) => if x2 = (7 : Int32) then (some ((-1 : Int32), w1)) else (lt ((l3 ||| ((1 : Int32) <<< (x2 &&& 31)))) fun (v3 : Int32) => f_X6_firstOn_19 fu n l0 l1 l2 v3 x2 (l5 + (1 : Int32)) w1))
theorem E_X6_firstOn_19 (fu : Nat) (n : Nat) (l0 : Nat) (l1 : Int32) (l2 : Nat) (l3 : Int32) (l4 : Int32) (l5 : Int32) (w : MEM) : f_X6_firstOn_19 fu (n + 1) l0 l1 l2 l3 l4 l5 w = if l1 < l5 then (some (l4, w)) else (bnd (f_X6_firstBehind fu l0 l3 l4 l2 w) fun (x2 : Int32) (w1 : MEM) => if x2 = (7 : Int32) then (some ((-1 : Int32), w1)) else (lt ((l3 ||| ((1 : Int32) <<< (x2 &&& 31)))) fun (v3 : Int32) => f_X6_firstOn_19 fu n l0 l1 l2 v3 x2 (l5 + (1 : Int32)) w1)) := rfl
theorem w_X6_firstOn_19 {X : SCR} {d rc rs : Nat} {Q : PO → PH → Prop} {o : Int32} {w1 : MEM} {fu : Nat} (hd : 3 ≤ d) (hq : ∀ h1, WH X h1 w1 → Q (.inl (some (vI o))) h1) : ∀ (n : Nat) (l0 : Nat) (l1 : Int32) (l2 : Nat) (l3 : Int32) (l4 : Int32) (l5 : Int32) (w : MEM) (h : PH), WH X h w → vo 6 l0 = true → vo 1 l2 = true → f_X6_firstOn_19 fu n l0 l1 l2 l3 l4 l5 w = some (o, w1) → PW d M_X6_firstOn Q rc rs 19 [vR (600, l0), vI l1, vR (100, l2), vI l3, vI l4, vI l5] [] h := by
  intro n
  induction n with
  | zero => intro l0 l1 l2 l3 l4 l5 w h wh hv_l0 hv_l2 hF; cases hF
  | succ n ih =>
    intro l0 l1 l2 l3 l4 l5 w h wh hv_l0 hv_l2 hF
    replace hF := (E_X6_firstOn_19 fu n l0 l1 l2 l3 l4 l5 w).symm.trans hF
    refine r_X6_firstOn_19 ?_
    refine ⟨fun c => ?_, fun c => ?_⟩
    · replace hF := if_ofT c hF
      obtain ⟨rfl, rfl⟩ := some_of hF
      exact hq _ wh
    · replace hF := if_ofF c hF
      refine ⟨⟨_, wh.2.1 10600 _ rfl hv_l0⟩, ?_⟩
      obtain ⟨x2, w1, hG, hF⟩ := bnd_of hF
      refine cl_I (D := 2) (Nat.le_trans (by decide) hd) (c_X6_firstBehind wh hv_l0 hv_l2 hG) ?_
      clear hG
      clear wh
      intro h wh
      refine ⟨fun c => ?_, fun c => ?_⟩
      · replace hF := if_ofT c hF
        obtain ⟨rfl, rfl⟩ := some_of hF
        exact hq _ wh
      · replace hF := if_ofF c hF
        replace hF := lt_of hF
        exact ih _ _ _ _ _ _ _ _ wh hv_l0 hv_l2 hF
def f_X6_firstOn (fu : Nat) (l0 : Nat) (l1 : Int32) (l2 : Nat) (w : MEM) : Option (Int32 × MEM) := if l1 < (rS w (10107, l2)) then (f_X6_firstOn_19 fu fu l0 l1 l2 (0 : Int32) (7 : Int32) (0 : Int32) w) else (some ((-1 : Int32), w))
theorem E_X6_firstOn (fu : Nat) (l0 : Nat) (l1 : Int32) (l2 : Nat) (w : MEM) : f_X6_firstOn fu l0 l1 l2 w = if l1 < (rS w (10107, l2)) then (f_X6_firstOn_19 fu fu l0 l1 l2 (0 : Int32) (7 : Int32) (0 : Int32) w) else (some ((-1 : Int32), w)) := rfl
theorem w_X6_firstOn {X : SCR} {d rc rs : Nat} {Q : PO → PH → Prop} {o : Int32} {w1 : MEM} {fu : Nat} (hd : 3 ≤ d) (hq : ∀ h1, WH X h1 w1 → Q (.inl (some (vI o))) h1) {l0 : Nat} {l1 : Int32} {l2 : Nat} {w : MEM} {h : PH} (wh : WH X h w) (hv_l0 : vo 6 l0 = true) (hv_l2 : vo 1 l2 = true) (hF : f_X6_firstOn fu l0 l1 l2 w = some (o, w1)) : PW d M_X6_firstOn Q rc rs 0 [vR (600, l0), vI l1, vR (100, l2), vU, vU, vU] [] h := by
  replace hF := (E_X6_firstOn fu l0 l1 l2 w).symm.trans hF
  refine r_X6_firstOn_0 ?_
  refine gI_of (wh.1 10107 _ rfl hv_l2) ?_
  refine ⟨fun c => ?_, fun c => ?_⟩
  · replace hF := if_ofT c hF
    exact w_X6_firstOn_19 hd hq  fu _ _ _ _ _ _ _ _ wh hv_l0 hv_l2 hF
  · replace hF := if_ofF c hF
    obtain ⟨rfl, rfl⟩ := some_of hF
    exact hq _ wh
theorem c_X6_firstOn {X : SCR} {fu : Nat} {o : Int32} {w1 : MEM} {a0 : Nat} {a1 : Int32} {a2 : Nat} {w : MEM} {h : PH} (wh : WH X h w) (h0 : vo 6 a0 = true) (h1 : vo 1 a2 = true) (hF : f_X6_firstOn fu a0 a1 a2 w = some (o, w1)) : CT 3 M_X6_firstOn [vR (600, a0), vI a1, vR (100, a2)] h 0 0 (QP X (.inl (some (vI o))) w1) :=
  CT_of mk_X6_firstOn (Nat.le_of_ble_eq_true rfl) rfl (w_X6_firstOn (fu := fu) (rc := 0) (rs := 0) (hd := Nat.le_refl 3) (hq := fun h1 g => ⟨rfl, g⟩) wh h0 h1 hF)
-- X7_kindAhead
def f_X7_kindAhead (fu : Nat) (l0 : Nat) (w : MEM) : Option (Int32 × MEM) := bnd (f_X8_takeWord fu l0 13 w) fun (x2 : Int32) (w1 : MEM) => if x2 = 0 then (bnd (f_X8_takeWord fu l0 14 w1) fun (x4 : Int32) (w3 : MEM) => if x4 = 0 then (bnd (f_X8_takeWord fu l0 15 w3) fun (x6 : Int32) (w5 : MEM) => if x6 = 0 then (bnd (f_X8_takeWord fu l0 16 w5) fun (x8 : Int32) (w7 : MEM) => if x8 = 0 then (bnd (f_X8_takeWord fu l0 9 w7) fun (x10 : Int32) (w9 : MEM) => if x10 = 0 then (bnd (f_X8_takeWord fu l0 17 w9) fun (x12 : Int32) (w11 : MEM) => if x12 = 0 then (bnd (f_X8_takeWord fu l0 18 w11) fun (x14 : Int32) (w13 : MEM) => if x14 = 0 then (bnd (f_X8_takeWord fu l0 12 w13) fun (x16 : Int32) (w15 : MEM) => if x16 = 0 then (bnd (f_X8_takeWord fu l0 19 w15) fun (x18 : Int32) (w17 : MEM) => if x18 = 0 then (bnd (f_X8_takeWord fu l0 20 w17) fun (x20 : Int32) (w19 : MEM) => if x20 = 0 then (some ((-1 : Int32), w19)) else (some ((9 : Int32), w19))) else (some ((8 : Int32), w17))) else (some ((7 : Int32), w15))) else (some ((6 : Int32), w13))) else (some ((0 : Int32), w11))) else (some ((2 : Int32), w9))) else (some ((5 : Int32), w7))) else (some ((4 : Int32), w5))) else (some ((3 : Int32), w3))) else (some ((1 : Int32), w1))
theorem E_X7_kindAhead (fu : Nat) (l0 : Nat) (w : MEM) : f_X7_kindAhead fu l0 w = bnd (f_X8_takeWord fu l0 13 w) fun (x2 : Int32) (w1 : MEM) => if x2 = 0 then (bnd (f_X8_takeWord fu l0 14 w1) fun (x4 : Int32) (w3 : MEM) => if x4 = 0 then (bnd (f_X8_takeWord fu l0 15 w3) fun (x6 : Int32) (w5 : MEM) => if x6 = 0 then (bnd (f_X8_takeWord fu l0 16 w5) fun (x8 : Int32) (w7 : MEM) => if x8 = 0 then (bnd (f_X8_takeWord fu l0 9 w7) fun (x10 : Int32) (w9 : MEM) => if x10 = 0 then (bnd (f_X8_takeWord fu l0 17 w9) fun (x12 : Int32) (w11 : MEM) => if x12 = 0 then (bnd (f_X8_takeWord fu l0 18 w11) fun (x14 : Int32) (w13 : MEM) => if x14 = 0 then (bnd (f_X8_takeWord fu l0 12 w13) fun (x16 : Int32) (w15 : MEM) => if x16 = 0 then (bnd (f_X8_takeWord fu l0 19 w15) fun (x18 : Int32) (w17 : MEM) => if x18 = 0 then (bnd (f_X8_takeWord fu l0 20 w17) fun (x20 : Int32) (w19 : MEM) => if x20 = 0 then (some ((-1 : Int32), w19)) else (some ((9 : Int32), w19))) else (some ((8 : Int32), w17))) else (some ((7 : Int32), w15))) else (some ((6 : Int32), w13))) else (some ((0 : Int32), w11))) else (some ((2 : Int32), w9))) else (some ((5 : Int32), w7))) else (some ((4 : Int32), w5))) else (some ((3 : Int32), w3))) else (some ((1 : Int32), w1)) := rfl
theorem w_X7_kindAhead {X : SCR} {d rc rs : Nat} {Q : PO → PH → Prop} {o : Int32} {w1 : MEM} {fu : Nat} (hd : 7 ≤ d) (hq : ∀ h1, WH X h1 w1 → Q (.inl (some (vI o))) h1) {l0 : Nat} {w : MEM} {h : PH} (wh : WH X h w) (hv_l0 : vo 8 l0 = true) (hF : f_X7_kindAhead fu l0 w = some (o, w1)) : PW d M_X7_kindAhead Q rc rs 0 [vR (800, l0)] [] h := by
  replace hF := (E_X7_kindAhead fu l0 w).symm.trans hF
  refine r_X7_kindAhead_0 ?_
  refine ⟨⟨_, wh.2.1 10800 _ rfl hv_l0⟩, ?_⟩
  obtain ⟨x2, w1, hG, hF⟩ := bnd_of hF
  refine cl_I (D := 6) (Nat.le_trans (by decide) hd) (c_X8_takeWord wh hv_l0 (by decide) hG) ?_
  clear hG
  clear wh
  intro h wh
  refine ⟨fun c => ?_, fun c => ?_⟩
  · replace hF := if_ofT c hF
    refine ⟨⟨_, wh.2.1 10800 _ rfl hv_l0⟩, ?_⟩
    obtain ⟨x4, w3, hG, hF⟩ := bnd_of hF
    refine cl_I (D := 6) (Nat.le_trans (by decide) hd) (c_X8_takeWord wh hv_l0 (by decide) hG) ?_
    clear hG
    clear wh
    intro h wh
    refine ⟨fun c => ?_, fun c => ?_⟩
    · replace hF := if_ofT c hF
      refine ⟨⟨_, wh.2.1 10800 _ rfl hv_l0⟩, ?_⟩
      obtain ⟨x6, w5, hG, hF⟩ := bnd_of hF
      refine cl_I (D := 6) (Nat.le_trans (by decide) hd) (c_X8_takeWord wh hv_l0 (by decide) hG) ?_
      clear hG
      clear wh
      intro h wh
      refine ⟨fun c => ?_, fun c => ?_⟩
      · replace hF := if_ofT c hF
        refine ⟨⟨_, wh.2.1 10800 _ rfl hv_l0⟩, ?_⟩
        obtain ⟨x8, w7, hG, hF⟩ := bnd_of hF
        refine cl_I (D := 6) (Nat.le_trans (by decide) hd) (c_X8_takeWord wh hv_l0 (by decide) hG) ?_
        clear hG
        clear wh
        intro h wh
        refine ⟨fun c => ?_, fun c => ?_⟩
        · replace hF := if_ofT c hF
          refine ⟨⟨_, wh.2.1 10800 _ rfl hv_l0⟩, ?_⟩
          obtain ⟨x10, w9, hG, hF⟩ := bnd_of hF
          refine cl_I (D := 6) (Nat.le_trans (by decide) hd) (c_X8_takeWord wh hv_l0 (by decide) hG) ?_
          clear hG
          clear wh
          intro h wh
          refine ⟨fun c => ?_, fun c => ?_⟩
          · replace hF := if_ofT c hF
            refine ⟨⟨_, wh.2.1 10800 _ rfl hv_l0⟩, ?_⟩
            obtain ⟨x12, w11, hG, hF⟩ := bnd_of hF
            refine cl_I (D := 6) (Nat.le_trans (by decide) hd) (c_X8_takeWord wh hv_l0 (by decide) hG) ?_
            clear hG
            clear wh
            intro h wh
            refine ⟨fun c => ?_, fun c => ?_⟩
            · replace hF := if_ofT c hF
              refine ⟨⟨_, wh.2.1 10800 _ rfl hv_l0⟩, ?_⟩
              obtain ⟨x14, w13, hG, hF⟩ := bnd_of hF
              refine cl_I (D := 6) (Nat.le_trans (by decide) hd) (c_X8_takeWord wh hv_l0 (by decide) hG) ?_
              clear hG
              clear wh
              intro h wh
              refine ⟨fun c => ?_, fun c => ?_⟩
              · replace hF := if_ofT c hF
                refine ⟨⟨_, wh.2.1 10800 _ rfl hv_l0⟩, ?_⟩
                obtain ⟨x16, w15, hG, hF⟩ := bnd_of hF
                refine cl_I (D := 6) (Nat.le_trans (by decide) hd) (c_X8_takeWord wh hv_l0 (by decide) hG) ?_
                clear hG
                clear wh
                intro h wh
                refine ⟨fun c => ?_, fun c => ?_⟩
                · replace hF := if_ofT c hF
                  refine ⟨⟨_, wh.2.1 10800 _ rfl hv_l0⟩, ?_⟩
                  obtain ⟨x18, w17, hG, hF⟩ := bnd_of hF
                  refine cl_I (D := 6) (Nat.le_trans (by decide) hd) (c_X8_takeWord wh hv_l0 (by decide) hG) ?_
                  clear hG
                  clear wh
                  intro h wh
                  refine ⟨fun c => ?_, fun c => ?_⟩
                  · replace hF := if_ofT c hF
                    refine ⟨⟨_, wh.2.1 10800 _ rfl hv_l0⟩, ?_⟩
                    obtain ⟨x20, w19, hG, hF⟩ := bnd_of hF
                    refine cl_I (D := 6) (Nat.le_trans (by decide) hd) (c_X8_takeWord wh hv_l0 (by decide) hG) ?_
                    clear hG
                    clear wh
                    intro h wh
                    refine ⟨fun c => ?_, fun c => ?_⟩
                    · replace hF := if_ofT c hF
                      obtain ⟨rfl, rfl⟩ := some_of hF
                      exact hq _ wh
                    · replace hF := if_ofF c hF
                      obtain ⟨rfl, rfl⟩ := some_of hF
                      exact hq _ wh
                  · replace hF := if_ofF c hF
                    obtain ⟨rfl, rfl⟩ := some_of hF
                    exact hq _ wh
                · replace hF := if_ofF c hF
                  obtain ⟨rfl, rfl⟩ := some_of hF
                  exact hq _ wh
              · replace hF := if_ofF c hF
                obtain ⟨rfl, rfl⟩ := some_of hF
                exact hq _ wh
            · replace hF := if_ofF c hF
              obtain ⟨rfl, rfl⟩ := some_of hF
              exact hq _ wh
          · replace hF := if_ofF c hF
            obtain ⟨rfl, rfl⟩ := some_of hF
            exact hq _ wh
        · replace hF := if_ofF c hF
          obtain ⟨rfl, rfl⟩ := some_of hF
          exact hq _ wh
      · replace hF := if_ofF c hF
        obtain ⟨rfl, rfl⟩ := some_of hF
        exact hq _ wh
    · replace hF := if_ofF c hF
      obtain ⟨rfl, rfl⟩ := some_of hF
      exact hq _ wh
  · replace hF := if_ofF c hF
    obtain ⟨rfl, rfl⟩ := some_of hF
    exact hq _ wh
theorem c_X7_kindAhead {X : SCR} {fu : Nat} {o : Int32} {w1 : MEM} {a0 : Nat} {w : MEM} {h : PH} (wh : WH X h w) (h0 : vo 8 a0 = true) (hF : f_X7_kindAhead fu a0 w = some (o, w1)) : CT 7 M_X7_kindAhead [vR (800, a0)] h 0 0 (QP X (.inl (some (vI o))) w1) :=
  CT_of mk_X7_kindAhead (Nat.le_of_ble_eq_true rfl) rfl (w_X7_kindAhead (fu := fu) (rc := 0) (rs := 0) (hd := Nat.le_refl 7) (hq := fun h1 g => ⟨rfl, g⟩) wh h0 hF)
-- X7_readRow
def f_X7_readRow_3 (fu : Nat) (c_readRow : Nat → Nat → Int32 → Int32 → MEM → Option (Int32 × MEM)) (c_readStep : Nat → Nat → Int32 → Int32 → MEM → Option (Int32 × MEM)) (c_readAgain : Nat → Nat → Int32 → Int32 → Int32 → MEM → Option (Int32 × MEM)) : Nat → Nat → Nat → Int32 → Int32 → Int32 → MEM → Option (Int32 × MEM)
  | 0, _, _, _, _, _, _ => none
  | n + 1, l0, l1, l2, l3, l4, w => if l4 < (150 : Int32) then (bnd (f_X8_peek fu l1 w) fun (x2 : Int32) (w1 : MEM) => if x2 = (-1 : Int32) then (some ((1 : Int32), w1)) else (if x2 = (93 : Int32) then (some ((1 : Int32), w1)) else (bnd (c_readStep l0 l1 l2 l3 w1) fun (x4 : Int32) (w3 : MEM) => if x4 = 0 then (some ((0 : Int32), w3)) else (bnd (f_X8_needSign fu l1 (59 : Int32) w3) fun (x6 : Int32) (w5 : MEM) => if x6 = 0 then (some ((0 : Int32), w5)) else (f_X7_readRow_3 fu c_readRow c_readStep c_readAgain n l0 l1 l2 l3 (l4 + (1 : Int32)) w5))))) else (some ((1 : Int32), w))
theorem E_X7_readRow_3 (fu : Nat) (c_readRow : Nat → Nat → Int32 → Int32 → MEM → Option (Int32 × MEM)) (c_readStep : Nat → Nat → Int32 → Int32 → MEM → Option (Int32 × MEM)) (c_readAgain : Nat → Nat → Int32 → Int32 → Int32 → MEM → Option (Int32 × MEM)) (n : Nat) (l0 : Nat) (l1 : Nat) (l2 : Int32) (l3 : Int32) (l4 : Int32) (w : MEM) : f_X7_readRow_3 fu c_readRow c_readStep c_readAgain (n + 1) l0 l1 l2 l3 l4 w = if l4 < (150 : Int32) then (bnd (f_X8_peek fu l1 w) fun (x2 : Int32) (w1 : MEM) => if x2 = (-1 : Int32) then (some ((1 : Int32), w1)) else (if x2 = (93 : Int32) then (some ((1 : Int32), w1)) else (bnd (c_readStep l0 l1 l2 l3 w1) fun (x4 : Int32) (w3 : MEM) => if x4 = 0 then (some ((0 : Int32), w3)) else (bnd (f_X8_needSign fu l1 (59 : Int32) w3) fun (x6 : Int32) (w5 : MEM) => if x6 = 0 then (some ((0 : Int32), w5)) else (f_X7_readRow_3 fu c_readRow c_readStep c_readAgain n l0 l1 l2 l3 (l4 + (1 : Int32)) w5))))) else (some ((1 : Int32), w)) := rfl
theorem w_X7_readRow_3 {X : SCR} {d rc rs DR : Nat} {Q : PO → PH → Prop} {o : Int32} {w1 : MEM} {fu : Nat} {c_readRow : Nat → Nat → Int32 → Int32 → MEM → Option (Int32 × MEM)} {c_readStep : Nat → Nat → Int32 → Int32 → MEM → Option (Int32 × MEM)} {c_readAgain : Nat → Nat → Int32 → Int32 → Int32 → MEM → Option (Int32 × MEM)} (hd : 8 ≤ d) (hr : DR + 1 ≤ d) (hc_readRow : ∀ (a0 : Nat) (a1 : Nat) (a2 : Int32) (a3 : Int32) (w : MEM) (h : PH) (o : Int32) (w1 : MEM), WH X h w → vo 7 a0 = true → vo 8 a1 = true → c_readRow a0 a1 a2 a3 w = some (o, w1) → CT DR M_X7_readRow [vR (700, a0), vR (800, a1), vI a2, vI a3] h 0 0 (QP X (.inl (some (vI o))) w1)) (hc_readStep : ∀ (a0 : Nat) (a1 : Nat) (a2 : Int32) (a3 : Int32) (w : MEM) (h : PH) (o : Int32) (w1 : MEM), WH X h w → vo 7 a0 = true → vo 8 a1 = true → c_readStep a0 a1 a2 a3 w = some (o, w1) → CT DR M_X7_readStep [vR (700, a0), vR (800, a1), vI a2, vI a3] h 0 0 (QP X (.inl (some (vI o))) w1)) (hc_readAgain : ∀ (a0 : Nat) (a1 : Nat) (a2 : Int32) (a3 : Int32) (a4 : Int32) (w : MEM) (h : PH) (o : Int32) (w1 : MEM), WH X h w → vo 7 a0 = true → vo 8 a1 = true → c_readAgain a0 a1 a2 a3 a4 w = some (o, w1) → CT DR M_X7_readAgain [vR (700, a0), vR (800, a1), vI a2, vI a3, vI a4] h 0 0 (QP X (.inl (some (vI o))) w1)) (hq : ∀ h1, WH X h1 w1 → Q (.inl (some (vI o))) h1) : ∀ (n : Nat) (l0 : Nat) (l1 : Nat) (l2 : Int32) (l3 : Int32) (l4 : Int32) (w : MEM) (h : PH), WH X h w → vo 7 l0 = true → vo 8 l1 = true → f_X7_readRow_3 fu c_readRow c_readStep c_readAgain n l0 l1 l2 l3 l4 w = some (o, w1) → PW d M_X7_readRow Q rc rs 3 [vR (700, l0), vR (800, l1), vI l2, vI l3, vI l4, vU] [] h := by
  intro n
  induction n with
  | zero => intro l0 l1 l2 l3 l4 w h wh hv_l0 hv_l1 hF; cases hF
  | succ n ih =>
    intro l0 l1 l2 l3 l4 w h wh hv_l0 hv_l1 hF
    replace hF := (E_X7_readRow_3 fu c_readRow c_readStep c_readAgain n l0 l1 l2 l3 l4 w).symm.trans hF
    refine r_X7_readRow_3 ?_
    refine ⟨fun c => ?_, fun c => ?_⟩
    · replace hF := if_ofT c hF
      refine ⟨⟨_, wh.2.1 10800 _ rfl hv_l1⟩, ?_⟩
      obtain ⟨x2, w1, hG, hF⟩ := bnd_of hF
      refine cl_I (D := 0) (Nat.le_trans (by decide) hd) (c_X8_peek wh hv_l1 hG) ?_
      clear hG
      clear wh
      intro h wh
      refine ⟨fun c => ?_, fun c => ?_⟩
      · replace hF := if_ofT c hF
        obtain ⟨rfl, rfl⟩ := some_of hF
        exact hq _ wh
      · replace hF := if_ofF c hF
        refine ⟨fun c => ?_, fun c => ?_⟩
        · replace hF := if_ofT c hF
          obtain ⟨rfl, rfl⟩ := some_of hF
          exact hq _ wh
        · replace hF := if_ofF c hF
          refine ⟨⟨_, wh.2.1 10700 _ rfl hv_l0⟩, ?_⟩
          obtain ⟨x4, w3, hG, hF⟩ := bnd_of hF
          refine cl_I hr (hc_readStep _ _ _ _ _ _ _ _ wh hv_l0 hv_l1 hG) ?_
          clear hG
          clear wh
          intro h wh
          refine ⟨fun c => ?_, fun c => ?_⟩
          · replace hF := if_ofT c hF
            obtain ⟨rfl, rfl⟩ := some_of hF
            exact hq _ wh
          · replace hF := if_ofF c hF
            refine ⟨⟨_, wh.2.1 10800 _ rfl hv_l1⟩, ?_⟩
            obtain ⟨x6, w5, hG, hF⟩ := bnd_of hF
            refine cl_I (D := 1) (Nat.le_trans (by decide) hd) (c_X8_needSign wh hv_l1 hG) ?_
            clear hG
            clear wh
            intro h wh
            refine ⟨fun c => ?_, fun c => ?_⟩
            · replace hF := if_ofT c hF
              obtain ⟨rfl, rfl⟩ := some_of hF
              exact hq _ wh
            · replace hF := if_ofF c hF
              exact ih _ _ _ _ _ _ _ wh hv_l0 hv_l1 hF
    · replace hF := if_ofF c hF
      obtain ⟨rfl, rfl⟩ := some_of hF
      exact hq _ wh
def b_X7_readRow (fu : Nat) (c_readRow : Nat → Nat → Int32 → Int32 → MEM → Option (Int32 × MEM)) (c_readStep : Nat → Nat → Int32 → Int32 → MEM → Option (Int32 × MEM)) (c_readAgain : Nat → Nat → Int32 → Int32 → Int32 → MEM → Option (Int32 × MEM)) (l0 : Nat) (l1 : Nat) (l2 : Int32) (l3 : Int32) (w : MEM) : Option (Int32 × MEM) := f_X7_readRow_3 fu c_readRow c_readStep c_readAgain fu l0 l1 l2 l3 (0 : Int32) w
theorem E_X7_readRow (fu : Nat) (c_readRow : Nat → Nat → Int32 → Int32 → MEM → Option (Int32 × MEM)) (c_readStep : Nat → Nat → Int32 → Int32 → MEM → Option (Int32 × MEM)) (c_readAgain : Nat → Nat → Int32 → Int32 → Int32 → MEM → Option (Int32 × MEM)) (l0 : Nat) (l1 : Nat) (l2 : Int32) (l3 : Int32) (w : MEM) : b_X7_readRow fu c_readRow c_readStep c_readAgain l0 l1 l2 l3 w = f_X7_readRow_3 fu c_readRow c_readStep c_readAgain fu l0 l1 l2 l3 (0 : Int32) w := rfl
theorem w_X7_readRow {X : SCR} {d rc rs DR : Nat} {Q : PO → PH → Prop} {o : Int32} {w1 : MEM} {fu : Nat} {c_readRow : Nat → Nat → Int32 → Int32 → MEM → Option (Int32 × MEM)} {c_readStep : Nat → Nat → Int32 → Int32 → MEM → Option (Int32 × MEM)} {c_readAgain : Nat → Nat → Int32 → Int32 → Int32 → MEM → Option (Int32 × MEM)} (hd : 8 ≤ d) (hr : DR + 1 ≤ d) (hc_readRow : ∀ (a0 : Nat) (a1 : Nat) (a2 : Int32) (a3 : Int32) (w : MEM) (h : PH) (o : Int32) (w1 : MEM), WH X h w → vo 7 a0 = true → vo 8 a1 = true → c_readRow a0 a1 a2 a3 w = some (o, w1) → CT DR M_X7_readRow [vR (700, a0), vR (800, a1), vI a2, vI a3] h 0 0 (QP X (.inl (some (vI o))) w1)) (hc_readStep : ∀ (a0 : Nat) (a1 : Nat) (a2 : Int32) (a3 : Int32) (w : MEM) (h : PH) (o : Int32) (w1 : MEM), WH X h w → vo 7 a0 = true → vo 8 a1 = true → c_readStep a0 a1 a2 a3 w = some (o, w1) → CT DR M_X7_readStep [vR (700, a0), vR (800, a1), vI a2, vI a3] h 0 0 (QP X (.inl (some (vI o))) w1)) (hc_readAgain : ∀ (a0 : Nat) (a1 : Nat) (a2 : Int32) (a3 : Int32) (a4 : Int32) (w : MEM) (h : PH) (o : Int32) (w1 : MEM), WH X h w → vo 7 a0 = true → vo 8 a1 = true → c_readAgain a0 a1 a2 a3 a4 w = some (o, w1) → CT DR M_X7_readAgain [vR (700, a0), vR (800, a1), vI a2, vI a3, vI a4] h 0 0 (QP X (.inl (some (vI o))) w1)) (hq : ∀ h1, WH X h1 w1 → Q (.inl (some (vI o))) h1) {l0 : Nat} {l1 : Nat} {l2 : Int32} {l3 : Int32} {w : MEM} {h : PH} (wh : WH X h w) (hv_l0 : vo 7 l0 = true) (hv_l1 : vo 8 l1 = true) (hF : b_X7_readRow fu c_readRow c_readStep c_readAgain l0 l1 l2 l3 w = some (o, w1)) : PW d M_X7_readRow Q rc rs 0 [vR (700, l0), vR (800, l1), vI l2, vI l3, vU, vU] [] h := by
  replace hF := (E_X7_readRow fu c_readRow c_readStep c_readAgain l0 l1 l2 l3 w).symm.trans hF
  refine r_X7_readRow_0 ?_
  exact w_X7_readRow_3 hd hr hc_readRow hc_readStep hc_readAgain hq  fu _ _ _ _ _ _ _ wh hv_l0 hv_l1 hF
-- X7_readStep
def f_X7_readStep_31 (fu : Nat) (c_readRow : Nat → Nat → Int32 → Int32 → MEM → Option (Int32 × MEM)) (c_readStep : Nat → Nat → Int32 → Int32 → MEM → Option (Int32 × MEM)) (c_readAgain : Nat → Nat → Int32 → Int32 → Int32 → MEM → Option (Int32 × MEM)) (l0 : Nat) (l1 : Nat) (l2 : Int32) (l3 : Int32) (l4 : Int32) (w : MEM) : Option (Int32 × MEM) := if (rS w (10704, l0)) < (150 : Int32) then (lt ((rS w (10704, l0))) fun (v1 : Int32) => lt (sS w (10704, l0) ((rS w (10704, l0)) + (1 : Int32))) fun (w2 : MEM) => ck (bI v1 150) (lt (sA w2 (701, l0) v1 l4) fun (w3 : MEM) => ck (bI v1 150) (lt (sA w3 (702, l0) v1 (0 : Int32)) fun (w4 : MEM) => ck (bI v1 150) (lt (sA w4 (703, l0) v1 (0 : Int32)) fun (w5 : MEM) => ck (bI v1 150) (lt (sA w5 (704, l0) v1 (rS w5 (10704, l0))) fun (w6 : MEM) => if l4 = (7 : Int32) then (some ((1 : Int32), w6)) else (if l4 = (8 : Int32) then (some ((1 : Int32), w6)) else (if l4 = (9 : Int32) then (bnd (c_readAgain l0 l1 l2 (l3 + (1 : Int32)) v1 w6) fun (x14 : Int32) (w13 : MEM) => ck (b01 x14) (some (x14, w13))) else (bnd (f_X8_number fu l1 (0 : Int32) (l2 - (1 : Int32)) w6) fun (x8 : Int32) (w7 : MEM) => ck (bI v1 150) (lt (sA w7 (702, l0) v1 x8) fun (w9 : MEM) => if l4 = (6 : Int32) then (ck (bI v1 150) (if (rA w9 (702, l0) v1) = (-1 : Int32) then (ck (bI v1 150) (if (rA w9 (702, l0) v1) = (-1 : Int32) then (some ((0 : Int32), w9)) else (some ((1 : Int32), w9)))) else (bnd (f_X8_number fu l1 (0 : Int32) (9 : Int32) w9) fun (x11 : Int32) (w10 : MEM) => ck (bI v1 150) (lt (sA w10 (703, l0) v1 x11) fun (w12 : MEM) => ck (bI v1 150) (if (rA w12 (703, l0) v1) = (-1 : Int32) then (some ((0 : Int32), w12)) else (some ((1 : Int32), w12))))))) else (ck (bI v1 150) (if (rA w9 (702, l0) v1) = (-1 : Int32) then (some ((0 : Int32), w9)) else (some ((1 : Int32), w9))))))))))))) else (bnd (f_X8_refuse fu l1 (3 : Int32) w) fun (x16 : Int32) (w15 : MEM) => ck (b01 x16) (some (x16, w15)))
theorem E_X7_readStep_31 (fu : Nat) (c_readRow : Nat → Nat → Int32 → Int32 → MEM → Option (Int32 × MEM)) (c_readStep : Nat → Nat → Int32 → Int32 → MEM → Option (Int32 × MEM)) (c_readAgain : Nat → Nat → Int32 → Int32 → Int32 → MEM → Option (Int32 × MEM)) (l0 : Nat) (l1 : Nat) (l2 : Int32) (l3 : Int32) (l4 : Int32) (w : MEM) : f_X7_readStep_31 fu c_readRow c_readStep c_readAgain l0 l1 l2 l3 l4 w = if (rS w (10704, l0)) < (150 : Int32) then (lt ((rS w (10704, l0))) fun (v1 : Int32) => lt (sS w (10704, l0) ((rS w (10704, l0)) + (1 : Int32))) fun (w2 : MEM) => ck (bI v1 150) (lt (sA w2 (701, l0) v1 l4) fun (w3 : MEM) => ck (bI v1 150) (lt (sA w3 (702, l0) v1 (0 : Int32)) fun (w4 : MEM) => ck (bI v1 150) (lt (sA w4 (703, l0) v1 (0 : Int32)) fun (w5 : MEM) => ck (bI v1 150) (lt (sA w5 (704, l0) v1 (rS w5 (10704, l0))) fun (w6 : MEM) => if l4 = (7 : Int32) then (some ((1 : Int32), w6)) else (if l4 = (8 : Int32) then (some ((1 : Int32), w6)) else (if l4 = (9 : Int32) then (bnd (c_readAgain l0 l1 l2 (l3 + (1 : Int32)) v1 w6) fun (x14 : Int32) (w13 : MEM) => ck (b01 x14) (some (x14, w13))) else (bnd (f_X8_number fu l1 (0 : Int32) (l2 - (1 : Int32)) w6) fun (x8 : Int32) (w7 : MEM) => ck (bI v1 150) (lt (sA w7 (702, l0) v1 x8) fun (w9 : MEM) => if l4 = (6 : Int32) then (ck (bI v1 150) (if (rA w9 (702, l0) v1) = (-1 : Int32) then (ck (bI v1 150) (if (rA w9 (702, l0) v1) = (-1 : Int32) then (some ((0 : Int32), w9)) else (some ((1 : Int32), w9)))) else (bnd (f_X8_number fu l1 (0 : Int32) (9 : Int32) w9) fun (x11 : Int32) (w10 : MEM) => ck (bI v1 150) (lt (sA w10 (703, l0) v1 x11) fun (w12 : MEM) => ck (bI v1 150) (if (rA w12 (703, l0) v1) = (-1 : Int32) then (some ((0 : Int32), w12)) else (some ((1 : Int32), w12))))))) else (ck (bI v1 150) (if (rA w9 (702, l0) v1) = (-1 : Int32) then (some ((0 : Int32), w9)) else (some ((1 : Int32), w9))))))))))))) else (bnd (f_X8_refuse fu l1 (3 : Int32) w) fun (x16 : Int32) (w15 : MEM) => ck (b01 x16) (some (x16, w15))) := rfl
theorem w_X7_readStep_31 {X : SCR} {d rc rs DR : Nat} {Q : PO → PH → Prop} {o : Int32} {w1 : MEM} {fu : Nat} {c_readRow : Nat → Nat → Int32 → Int32 → MEM → Option (Int32 × MEM)} {c_readStep : Nat → Nat → Int32 → Int32 → MEM → Option (Int32 × MEM)} {c_readAgain : Nat → Nat → Int32 → Int32 → Int32 → MEM → Option (Int32 × MEM)} (hd : 8 ≤ d) (hr : DR + 1 ≤ d) (hc_readRow : ∀ (a0 : Nat) (a1 : Nat) (a2 : Int32) (a3 : Int32) (w : MEM) (h : PH) (o : Int32) (w1 : MEM), WH X h w → vo 7 a0 = true → vo 8 a1 = true → c_readRow a0 a1 a2 a3 w = some (o, w1) → CT DR M_X7_readRow [vR (700, a0), vR (800, a1), vI a2, vI a3] h 0 0 (QP X (.inl (some (vI o))) w1)) (hc_readStep : ∀ (a0 : Nat) (a1 : Nat) (a2 : Int32) (a3 : Int32) (w : MEM) (h : PH) (o : Int32) (w1 : MEM), WH X h w → vo 7 a0 = true → vo 8 a1 = true → c_readStep a0 a1 a2 a3 w = some (o, w1) → CT DR M_X7_readStep [vR (700, a0), vR (800, a1), vI a2, vI a3] h 0 0 (QP X (.inl (some (vI o))) w1)) (hc_readAgain : ∀ (a0 : Nat) (a1 : Nat) (a2 : Int32) (a3 : Int32) (a4 : Int32) (w : MEM) (h : PH) (o : Int32) (w1 : MEM), WH X h w → vo 7 a0 = true → vo 8 a1 = true → c_readAgain a0 a1 a2 a3 a4 w = some (o, w1) → CT DR M_X7_readAgain [vR (700, a0), vR (800, a1), vI a2, vI a3, vI a4] h 0 0 (QP X (.inl (some (vI o))) w1)) (hq : ∀ h1, WH X h1 w1 → Q (.inl (some (vI o))) h1) {l0 : Nat} {l1 : Nat} {l2 : Int32} {l3 : Int32} {l4 : Int32} {w : MEM} {h : PH} (wh : WH X h w) (hv_l0 : vo 7 l0 = true) (hv_l1 : vo 8 l1 = true) (hF : f_X7_readStep_31 fu c_readRow c_readStep c_readAgain l0 l1 l2 l3 l4 w = some (o, w1)) : PW d M_X7_readStep Q rc rs 31 [vR (700, l0), vR (800, l1), vI l2, vI l3, vI l4, vU] [] h := by
  replace hF := (E_X7_readStep_31 fu c_readRow c_readStep c_readAgain l0 l1 l2 l3 l4 w).symm.trans hF
  refine r_X7_readStep_31 ?_
  refine gI_of (wh.1 10704 _ rfl hv_l0) ?_
  refine ⟨fun c => ?_, fun c => ?_⟩
  · replace hF := if_ofT c hF
    refine gI_of (wh.1 10704 _ rfl hv_l0) ?_
    replace hF := lt_of hF
    refine gI_of (wh.1 10704 _ rfl hv_l0) ?_
    replace hF := lt_of hF
    refine sF_S wh rfl hv_l0 ?_
    clear wh
    intro h wh
    refine gA_of (b := (701, l0)) (wh.2.1 10700 _ rfl hv_l0) ?_
    obtain ⟨c, hF⟩ := ck_of hF
    replace hF := lt_of hF
    refine yI_of wh (oA_701 hv_l0) c ?_
    clear c wh
    intro h wh
    refine gA_of (b := (702, l0)) (wh.2.1 10701 _ rfl hv_l0) ?_
    obtain ⟨c, hF⟩ := ck_of hF
    replace hF := lt_of hF
    refine yI_of wh (oA_702 hv_l0) c ?_
    clear c wh
    intro h wh
    refine gA_of (b := (703, l0)) (wh.2.1 10702 _ rfl hv_l0) ?_
    obtain ⟨c, hF⟩ := ck_of hF
    replace hF := lt_of hF
    refine yI_of wh (oA_703 hv_l0) c ?_
    clear c wh
    intro h wh
    refine gA_of (b := (704, l0)) (wh.2.1 10703 _ rfl hv_l0) ?_
    refine gI_of (wh.1 10704 _ rfl hv_l0) ?_
    obtain ⟨c, hF⟩ := ck_of hF
    replace hF := lt_of hF
    refine yI_of wh (oA_704 hv_l0) c ?_
    clear c wh
    intro h wh
    refine ⟨fun c => ?_, fun c => ?_⟩
    · replace hF := if_ofT c hF
      obtain ⟨rfl, rfl⟩ := some_of hF
      exact hq _ wh
    · replace hF := if_ofF c hF
      refine ⟨fun c => ?_, fun c => ?_⟩
      · replace hF := if_ofT c hF
        obtain ⟨rfl, rfl⟩ := some_of hF
        exact hq _ wh
      · replace hF := if_ofF c hF
        refine ⟨fun c => ?_, fun c => ?_⟩
        · replace hF := if_ofT c hF
          refine ⟨⟨_, wh.2.1 10700 _ rfl hv_l0⟩, ?_⟩
          obtain ⟨x14, w13, hG, hF⟩ := bnd_of hF
          refine cl_I hr (hc_readAgain _ _ _ _ _ _ _ _ _ wh hv_l0 hv_l1 hG) ?_
          clear hG
          clear wh
          intro h wh
          obtain ⟨c, hF⟩ := ck_of hF
          obtain ⟨rfl, rfl⟩ := some_of hF
          exact ⟨b01_nrw c, hq _ wh⟩
        · replace hF := if_ofF c hF
          refine gA_of (b := (702, l0)) (wh.2.1 10701 _ rfl hv_l0) ?_
          refine ⟨⟨_, wh.2.1 10800 _ rfl hv_l1⟩, ?_⟩
          obtain ⟨x8, w7, hG, hF⟩ := bnd_of hF
          refine cl_I (D := 1) (Nat.le_trans (by decide) hd) (c_X8_number wh hv_l1 hG) ?_
          clear hG
          clear wh
          intro h wh
          obtain ⟨c, hF⟩ := ck_of hF
          replace hF := lt_of hF
          refine yI_of wh (oA_702 hv_l0) c ?_
          clear c wh
          intro h wh
          refine ⟨fun c => ?_, fun c => ?_⟩
          · replace hF := if_ofT c hF
            refine gA_of (b := (702, l0)) (wh.2.1 10701 _ rfl hv_l0) ?_
            obtain ⟨c, hF⟩ := ck_of hF
            refine xI_of wh (oA_702 hv_l0) c ?_
            clear c
            refine ⟨fun c => ?_, fun c => ?_⟩
            · replace hF := if_ofT c hF
              refine gA_of (b := (702, l0)) (wh.2.1 10701 _ rfl hv_l0) ?_
              obtain ⟨c, hF⟩ := ck_of hF
              refine xI_of wh (oA_702 hv_l0) c ?_
              clear c
              refine ⟨fun c => ?_, fun c => ?_⟩
              · replace hF := if_ofT c hF
                obtain ⟨rfl, rfl⟩ := some_of hF
                exact hq _ wh
              · replace hF := if_ofF c hF
                obtain ⟨rfl, rfl⟩ := some_of hF
                exact hq _ wh
            · replace hF := if_ofF c hF
              refine gA_of (b := (703, l0)) (wh.2.1 10702 _ rfl hv_l0) ?_
              refine ⟨⟨_, wh.2.1 10800 _ rfl hv_l1⟩, ?_⟩
              obtain ⟨x11, w10, hG, hF⟩ := bnd_of hF
              refine cl_I (D := 1) (Nat.le_trans (by decide) hd) (c_X8_number wh hv_l1 hG) ?_
              clear hG
              clear wh
              intro h wh
              obtain ⟨c, hF⟩ := ck_of hF
              replace hF := lt_of hF
              refine yI_of wh (oA_703 hv_l0) c ?_
              clear c wh
              intro h wh
              refine gA_of (b := (703, l0)) (wh.2.1 10702 _ rfl hv_l0) ?_
              obtain ⟨c, hF⟩ := ck_of hF
              refine xI_of wh (oA_703 hv_l0) c ?_
              clear c
              refine ⟨fun c => ?_, fun c => ?_⟩
              · replace hF := if_ofT c hF
                obtain ⟨rfl, rfl⟩ := some_of hF
                exact hq _ wh
              · replace hF := if_ofF c hF
                obtain ⟨rfl, rfl⟩ := some_of hF
                exact hq _ wh
          · replace hF := if_ofF c hF
            refine gA_of (b := (702, l0)) (wh.2.1 10701 _ rfl hv_l0) ?_
            obtain ⟨c, hF⟩ := ck_of hF
            refine xI_of wh (oA_702 hv_l0) c ?_
            clear c
            refine ⟨fun c => ?_, fun c => ?_⟩
            · replace hF := if_ofT c hF
              obtain ⟨rfl, rfl⟩ := some_of hF
              exact hq _ wh
            · replace hF := if_ofF c hF
              obtain ⟨rfl, rfl⟩ := some_of hF
              exact hq _ wh
  · replace hF := if_ofF c hF
    refine ⟨⟨_, wh.2.1 10800 _ rfl hv_l1⟩, ?_⟩
    obtain ⟨x16, w15, hG, hF⟩ := bnd_of hF
    refine cl_I (D := 0) (Nat.le_trans (by decide) hd) (c_X8_refuse wh hv_l1 hG) ?_
    clear hG
    clear wh
    intro h wh
    obtain ⟨c, hF⟩ := ck_of hF
    obtain ⟨rfl, rfl⟩ := some_of hF
    exact ⟨b01_nrw c, hq _ wh⟩
def b_X7_readStep (fu : Nat) (c_readRow : Nat → Nat → Int32 → Int32 → MEM → Option (Int32 × MEM)) (c_readStep : Nat → Nat → Int32 → Int32 → MEM → Option (Int32 × MEM)) (c_readAgain : Nat → Nat → Int32 → Int32 → Int32 → MEM → Option (Int32 × MEM)) (l0 : Nat) (l1 : Nat) (l2 : Int32) (l3 : Int32) (w : MEM) : Option (Int32 × MEM) := bnd (f_X7_kindAhead fu l1 w) fun (x2 : Int32) (w1 : MEM) => if x2 = (-1 : Int32) then (bnd (f_X8_refuse fu l1 (1 : Int32) w1) fun (x6 : Int32) (w5 : MEM) => ck (b01 x6) (some (x6, w5))) else (if x2 = (9 : Int32) then (if l3 < (6 : Int32) then (f_X7_readStep_31 fu c_readRow c_readStep c_readAgain l0 l1 l2 l3 x2 w1) else (bnd (f_X8_refuse fu l1 (3 : Int32) w1) fun (x4 : Int32) (w3 : MEM) => ck (b01 x4) (some (x4, w3)))) else (f_X7_readStep_31 fu c_readRow c_readStep c_readAgain l0 l1 l2 l3 x2 w1))
theorem E_X7_readStep (fu : Nat) (c_readRow : Nat → Nat → Int32 → Int32 → MEM → Option (Int32 × MEM)) (c_readStep : Nat → Nat → Int32 → Int32 → MEM → Option (Int32 × MEM)) (c_readAgain : Nat → Nat → Int32 → Int32 → Int32 → MEM → Option (Int32 × MEM)) (l0 : Nat) (l1 : Nat) (l2 : Int32) (l3 : Int32) (w : MEM) : b_X7_readStep fu c_readRow c_readStep c_readAgain l0 l1 l2 l3 w = bnd (f_X7_kindAhead fu l1 w) fun (x2 : Int32) (w1 : MEM) => if x2 = (-1 : Int32) then (bnd (f_X8_refuse fu l1 (1 : Int32) w1) fun (x6 : Int32) (w5 : MEM) => ck (b01 x6) (some (x6, w5))) else (if x2 = (9 : Int32) then (if l3 < (6 : Int32) then (f_X7_readStep_31 fu c_readRow c_readStep c_readAgain l0 l1 l2 l3 x2 w1) else (bnd (f_X8_refuse fu l1 (3 : Int32) w1) fun (x4 : Int32) (w3 : MEM) => ck (b01 x4) (some (x4, w3)))) else (f_X7_readStep_31 fu c_readRow c_readStep c_readAgain l0 l1 l2 l3 x2 w1)) := rfl
theorem w_X7_readStep {X : SCR} {d rc rs DR : Nat} {Q : PO → PH → Prop} {o : Int32} {w1 : MEM} {fu : Nat} {c_readRow : Nat → Nat → Int32 → Int32 → MEM → Option (Int32 × MEM)} {c_readStep : Nat → Nat → Int32 → Int32 → MEM → Option (Int32 × MEM)} {c_readAgain : Nat → Nat → Int32 → Int32 → Int32 → MEM → Option (Int32 × MEM)} (hd : 8 ≤ d) (hr : DR + 1 ≤ d) (hc_readRow : ∀ (a0 : Nat) (a1 : Nat) (a2 : Int32) (a3 : Int32) (w : MEM) (h : PH) (o : Int32) (w1 : MEM), WH X h w → vo 7 a0 = true → vo 8 a1 = true → c_readRow a0 a1 a2 a3 w = some (o, w1) → CT DR M_X7_readRow [vR (700, a0), vR (800, a1), vI a2, vI a3] h 0 0 (QP X (.inl (some (vI o))) w1)) (hc_readStep : ∀ (a0 : Nat) (a1 : Nat) (a2 : Int32) (a3 : Int32) (w : MEM) (h : PH) (o : Int32) (w1 : MEM), WH X h w → vo 7 a0 = true → vo 8 a1 = true → c_readStep a0 a1 a2 a3 w = some (o, w1) → CT DR M_X7_readStep [vR (700, a0), vR (800, a1), vI a2, vI a3] h 0 0 (QP X (.inl (some (vI o))) w1)) (hc_readAgain : ∀ (a0 : Nat) (a1 : Nat) (a2 : Int32) (a3 : Int32) (a4 : Int32) (w : MEM) (h : PH) (o : Int32) (w1 : MEM), WH X h w → vo 7 a0 = true → vo 8 a1 = true → c_readAgain a0 a1 a2 a3 a4 w = some (o, w1) → CT DR M_X7_readAgain [vR (700, a0), vR (800, a1), vI a2, vI a3, vI a4] h 0 0 (QP X (.inl (some (vI o))) w1)) (hq : ∀ h1, WH X h1 w1 → Q (.inl (some (vI o))) h1) {l0 : Nat} {l1 : Nat} {l2 : Int32} {l3 : Int32} {w : MEM} {h : PH} (wh : WH X h w) (hv_l0 : vo 7 l0 = true) (hv_l1 : vo 8 l1 = true) (hF : b_X7_readStep fu c_readRow c_readStep c_readAgain l0 l1 l2 l3 w = some (o, w1)) : PW d M_X7_readStep Q rc rs 0 [vR (700, l0), vR (800, l1), vI l2, vI l3, vU, vU] [] h := by
  replace hF := (E_X7_readStep fu c_readRow c_readStep c_readAgain l0 l1 l2 l3 w).symm.trans hF
  refine r_X7_readStep_0 ?_
  obtain ⟨x2, w1, hG, hF⟩ := bnd_of hF
  refine cl_I (D := 7) (Nat.le_trans (by decide) hd) (c_X7_kindAhead wh hv_l1 hG) ?_
  clear hG
  clear wh
  intro h wh
  refine ⟨fun c => ?_, fun c => ?_⟩
  · replace hF := if_ofT c hF
    refine ⟨⟨_, wh.2.1 10800 _ rfl hv_l1⟩, ?_⟩
    obtain ⟨x6, w5, hG, hF⟩ := bnd_of hF
    refine cl_I (D := 0) (Nat.le_trans (by decide) hd) (c_X8_refuse wh hv_l1 hG) ?_
    clear hG
    clear wh
    intro h wh
    obtain ⟨c, hF⟩ := ck_of hF
    obtain ⟨rfl, rfl⟩ := some_of hF
    exact ⟨b01_nrw c, hq _ wh⟩
  · replace hF := if_ofF c hF
    refine ⟨fun c => ?_, fun c => ?_⟩
    · replace hF := if_ofT c hF
      refine ⟨fun c => ?_, fun c => ?_⟩
      · replace hF := if_ofT c hF
        exact w_X7_readStep_31 hd hr hc_readRow hc_readStep hc_readAgain hq  wh hv_l0 hv_l1 hF
      · replace hF := if_ofF c hF
        refine ⟨⟨_, wh.2.1 10800 _ rfl hv_l1⟩, ?_⟩
        obtain ⟨x4, w3, hG, hF⟩ := bnd_of hF
        refine cl_I (D := 0) (Nat.le_trans (by decide) hd) (c_X8_refuse wh hv_l1 hG) ?_
        clear hG
        clear wh
        intro h wh
        obtain ⟨c, hF⟩ := ck_of hF
        obtain ⟨rfl, rfl⟩ := some_of hF
        exact ⟨b01_nrw c, hq _ wh⟩
    · replace hF := if_ofF c hF
      exact w_X7_readStep_31 hd hr hc_readRow hc_readStep hc_readAgain hq  wh hv_l0 hv_l1 hF
-- X7_readAgain
def b_X7_readAgain (fu : Nat) (c_readRow : Nat → Nat → Int32 → Int32 → MEM → Option (Int32 × MEM)) (c_readStep : Nat → Nat → Int32 → Int32 → MEM → Option (Int32 × MEM)) (c_readAgain : Nat → Nat → Int32 → Int32 → Int32 → MEM → Option (Int32 × MEM)) (l0 : Nat) (l1 : Nat) (l2 : Int32) (l3 : Int32) (l4 : Int32) (w : MEM) : Option (Int32 × MEM) := bnd (f_X8_number fu l1 (0 : Int32) (30 : Int32) w) fun (x2 : Int32) (w1 : MEM) => ck (bI l4 150) (lt (sA w1 (703, l0) l4 x2) fun (w3 : MEM) => ck (bI l4 150) (if (rA w3 (703, l0) l4) = (-1 : Int32) then (ck (bI l4 150) (lt (sA w3 (704, l0) l4 (rS w3 (10704, l0))) fun (w4 : MEM) => some ((0 : Int32), w4))) else (bnd (f_X8_needSign fu l1 (91 : Int32) w3) fun (x6 : Int32) (w5 : MEM) => if x6 = 0 then (ck (bI l4 150) (lt (sA w5 (704, l0) l4 (rS w5 (10704, l0))) fun (w7 : MEM) => some ((0 : Int32), w7))) else (bnd (c_readRow l0 l1 l2 l3 w5) fun (x9 : Int32) (w8 : MEM) => if x9 = 0 then (ck (bI l4 150) (lt (sA w8 (704, l0) l4 (rS w8 (10704, l0))) fun (w10 : MEM) => some ((0 : Int32), w10))) else (bnd (f_X8_needSign fu l1 (93 : Int32) w8) fun (x12 : Int32) (w11 : MEM) => if x12 = 0 then (ck (bI l4 150) (lt (sA w11 (704, l0) l4 (rS w11 (10704, l0))) fun (w13 : MEM) => some ((0 : Int32), w13))) else (ck (bI l4 150) (lt (sA w11 (704, l0) l4 (rS w11 (10704, l0))) fun (w14 : MEM) => some ((1 : Int32), w14))))))))
theorem E_X7_readAgain (fu : Nat) (c_readRow : Nat → Nat → Int32 → Int32 → MEM → Option (Int32 × MEM)) (c_readStep : Nat → Nat → Int32 → Int32 → MEM → Option (Int32 × MEM)) (c_readAgain : Nat → Nat → Int32 → Int32 → Int32 → MEM → Option (Int32 × MEM)) (l0 : Nat) (l1 : Nat) (l2 : Int32) (l3 : Int32) (l4 : Int32) (w : MEM) : b_X7_readAgain fu c_readRow c_readStep c_readAgain l0 l1 l2 l3 l4 w = bnd (f_X8_number fu l1 (0 : Int32) (30 : Int32) w) fun (x2 : Int32) (w1 : MEM) => ck (bI l4 150) (lt (sA w1 (703, l0) l4 x2) fun (w3 : MEM) => ck (bI l4 150) (if (rA w3 (703, l0) l4) = (-1 : Int32) then (ck (bI l4 150) (lt (sA w3 (704, l0) l4 (rS w3 (10704, l0))) fun (w4 : MEM) => some ((0 : Int32), w4))) else (bnd (f_X8_needSign fu l1 (91 : Int32) w3) fun (x6 : Int32) (w5 : MEM) => if x6 = 0 then (ck (bI l4 150) (lt (sA w5 (704, l0) l4 (rS w5 (10704, l0))) fun (w7 : MEM) => some ((0 : Int32), w7))) else (bnd (c_readRow l0 l1 l2 l3 w5) fun (x9 : Int32) (w8 : MEM) => if x9 = 0 then (ck (bI l4 150) (lt (sA w8 (704, l0) l4 (rS w8 (10704, l0))) fun (w10 : MEM) => some ((0 : Int32), w10))) else (bnd (f_X8_needSign fu l1 (93 : Int32) w8) fun (x12 : Int32) (w11 : MEM) => if x12 = 0 then (ck (bI l4 150) (lt (sA w11 (704, l0) l4 (rS w11 (10704, l0))) fun (w13 : MEM) => some ((0 : Int32), w13))) else (ck (bI l4 150) (lt (sA w11 (704, l0) l4 (rS w11 (10704, l0))) fun (w14 : MEM) => some ((1 : Int32), w14)))))))) := rfl
theorem w_X7_readAgain {X : SCR} {d rc rs DR : Nat} {Q : PO → PH → Prop} {o : Int32} {w1 : MEM} {fu : Nat} {c_readRow : Nat → Nat → Int32 → Int32 → MEM → Option (Int32 × MEM)} {c_readStep : Nat → Nat → Int32 → Int32 → MEM → Option (Int32 × MEM)} {c_readAgain : Nat → Nat → Int32 → Int32 → Int32 → MEM → Option (Int32 × MEM)} (hd : 8 ≤ d) (hr : DR + 1 ≤ d) (hc_readRow : ∀ (a0 : Nat) (a1 : Nat) (a2 : Int32) (a3 : Int32) (w : MEM) (h : PH) (o : Int32) (w1 : MEM), WH X h w → vo 7 a0 = true → vo 8 a1 = true → c_readRow a0 a1 a2 a3 w = some (o, w1) → CT DR M_X7_readRow [vR (700, a0), vR (800, a1), vI a2, vI a3] h 0 0 (QP X (.inl (some (vI o))) w1)) (hc_readStep : ∀ (a0 : Nat) (a1 : Nat) (a2 : Int32) (a3 : Int32) (w : MEM) (h : PH) (o : Int32) (w1 : MEM), WH X h w → vo 7 a0 = true → vo 8 a1 = true → c_readStep a0 a1 a2 a3 w = some (o, w1) → CT DR M_X7_readStep [vR (700, a0), vR (800, a1), vI a2, vI a3] h 0 0 (QP X (.inl (some (vI o))) w1)) (hc_readAgain : ∀ (a0 : Nat) (a1 : Nat) (a2 : Int32) (a3 : Int32) (a4 : Int32) (w : MEM) (h : PH) (o : Int32) (w1 : MEM), WH X h w → vo 7 a0 = true → vo 8 a1 = true → c_readAgain a0 a1 a2 a3 a4 w = some (o, w1) → CT DR M_X7_readAgain [vR (700, a0), vR (800, a1), vI a2, vI a3, vI a4] h 0 0 (QP X (.inl (some (vI o))) w1)) (hq : ∀ h1, WH X h1 w1 → Q (.inl (some (vI o))) h1) {l0 : Nat} {l1 : Nat} {l2 : Int32} {l3 : Int32} {l4 : Int32} {w : MEM} {h : PH} (wh : WH X h w) (hv_l0 : vo 7 l0 = true) (hv_l1 : vo 8 l1 = true) (hF : b_X7_readAgain fu c_readRow c_readStep c_readAgain l0 l1 l2 l3 l4 w = some (o, w1)) : PW d M_X7_readAgain Q rc rs 0 [vR (700, l0), vR (800, l1), vI l2, vI l3, vI l4, vU] [] h := by
  replace hF := (E_X7_readAgain fu c_readRow c_readStep c_readAgain l0 l1 l2 l3 l4 w).symm.trans hF
  refine r_X7_readAgain_0 ?_
  refine gA_of (b := (703, l0)) (wh.2.1 10702 _ rfl hv_l0) ?_
  refine ⟨⟨_, wh.2.1 10800 _ rfl hv_l1⟩, ?_⟩
  obtain ⟨x2, w1, hG, hF⟩ := bnd_of hF
  refine cl_I (D := 1) (Nat.le_trans (by decide) hd) (c_X8_number wh hv_l1 hG) ?_
  clear hG
  clear wh
  intro h wh
  obtain ⟨c, hF⟩ := ck_of hF
  replace hF := lt_of hF
  refine yI_of wh (oA_703 hv_l0) c ?_
  clear c wh
  intro h wh
  refine gA_of (b := (703, l0)) (wh.2.1 10702 _ rfl hv_l0) ?_
  obtain ⟨c, hF⟩ := ck_of hF
  refine xI_of wh (oA_703 hv_l0) c ?_
  clear c
  refine ⟨fun c => ?_, fun c => ?_⟩
  · replace hF := if_ofT c hF
    refine gA_of (b := (704, l0)) (wh.2.1 10703 _ rfl hv_l0) ?_
    refine gI_of (wh.1 10704 _ rfl hv_l0) ?_
    obtain ⟨c, hF⟩ := ck_of hF
    replace hF := lt_of hF
    refine yI_of wh (oA_704 hv_l0) c ?_
    clear c wh
    intro h wh
    obtain ⟨rfl, rfl⟩ := some_of hF
    exact hq _ wh
  · replace hF := if_ofF c hF
    refine ⟨⟨_, wh.2.1 10800 _ rfl hv_l1⟩, ?_⟩
    obtain ⟨x6, w5, hG, hF⟩ := bnd_of hF
    refine cl_I (D := 1) (Nat.le_trans (by decide) hd) (c_X8_needSign wh hv_l1 hG) ?_
    clear hG
    clear wh
    intro h wh
    refine ⟨fun c => ?_, fun c => ?_⟩
    · replace hF := if_ofT c hF
      refine gA_of (b := (704, l0)) (wh.2.1 10703 _ rfl hv_l0) ?_
      refine gI_of (wh.1 10704 _ rfl hv_l0) ?_
      obtain ⟨c, hF⟩ := ck_of hF
      replace hF := lt_of hF
      refine yI_of wh (oA_704 hv_l0) c ?_
      clear c wh
      intro h wh
      obtain ⟨rfl, rfl⟩ := some_of hF
      exact hq _ wh
    · replace hF := if_ofF c hF
      refine ⟨⟨_, wh.2.1 10700 _ rfl hv_l0⟩, ?_⟩
      obtain ⟨x9, w8, hG, hF⟩ := bnd_of hF
      refine cl_I hr (hc_readRow _ _ _ _ _ _ _ _ wh hv_l0 hv_l1 hG) ?_
      clear hG
      clear wh
      intro h wh
      refine ⟨fun c => ?_, fun c => ?_⟩
      · replace hF := if_ofT c hF
        refine gA_of (b := (704, l0)) (wh.2.1 10703 _ rfl hv_l0) ?_
        refine gI_of (wh.1 10704 _ rfl hv_l0) ?_
        obtain ⟨c, hF⟩ := ck_of hF
        replace hF := lt_of hF
        refine yI_of wh (oA_704 hv_l0) c ?_
        clear c wh
        intro h wh
        obtain ⟨rfl, rfl⟩ := some_of hF
        exact hq _ wh
      · replace hF := if_ofF c hF
        refine ⟨⟨_, wh.2.1 10800 _ rfl hv_l1⟩, ?_⟩
        obtain ⟨x12, w11, hG, hF⟩ := bnd_of hF
        refine cl_I (D := 1) (Nat.le_trans (by decide) hd) (c_X8_needSign wh hv_l1 hG) ?_
        clear hG
        clear wh
        intro h wh
        refine ⟨fun c => ?_, fun c => ?_⟩
        · replace hF := if_ofT c hF
          refine gA_of (b := (704, l0)) (wh.2.1 10703 _ rfl hv_l0) ?_
          refine gI_of (wh.1 10704 _ rfl hv_l0) ?_
          obtain ⟨c, hF⟩ := ck_of hF
          replace hF := lt_of hF
          refine yI_of wh (oA_704 hv_l0) c ?_
          clear c wh
          intro h wh
          obtain ⟨rfl, rfl⟩ := some_of hF
          exact hq _ wh
        · replace hF := if_ofF c hF
          refine gA_of (b := (704, l0)) (wh.2.1 10703 _ rfl hv_l0) ?_
          refine gI_of (wh.1 10704 _ rfl hv_l0) ?_
          obtain ⟨c, hF⟩ := ck_of hF
          replace hF := lt_of hF
          refine yI_of wh (oA_704 hv_l0) c ?_
          clear c wh
          intro h wh
          obtain ⟨rfl, rfl⟩ := some_of hF
          exact hq _ wh
def g_X7_readRows (fu : Nat) (p : (Nat → Nat → Int32 → Int32 → MEM → Option (Int32 × MEM)) × (Nat → Nat → Int32 → Int32 → MEM → Option (Int32 × MEM)) × (Nat → Nat → Int32 → Int32 → Int32 → MEM → Option (Int32 × MEM))) : (Nat → Nat → Int32 → Int32 → MEM → Option (Int32 × MEM)) × (Nat → Nat → Int32 → Int32 → MEM → Option (Int32 × MEM)) × (Nat → Nat → Int32 → Int32 → Int32 → MEM → Option (Int32 × MEM)) := (b_X7_readRow fu p.1 p.2.1 p.2.2, b_X7_readStep fu p.1 p.2.1 p.2.2, b_X7_readAgain fu p.1 p.2.1 p.2.2)
def g_X7_readRow (fu : Nat) : Nat → (Nat → Nat → Int32 → Int32 → MEM → Option (Int32 × MEM)) × (Nat → Nat → Int32 → Int32 → MEM → Option (Int32 × MEM)) × (Nat → Nat → Int32 → Int32 → Int32 → MEM → Option (Int32 × MEM))
  | 0 => ((fun _ _ _ _ _ => none), (fun _ _ _ _ _ => none), (fun _ _ _ _ _ _ => none))
  | n + 1 => g_X7_readRows fu (g_X7_readRow fu n)
def f_X7_readRow (fu n : Nat) : Nat → Nat → Int32 → Int32 → MEM → Option (Int32 × MEM) := (g_X7_readRow fu n).1
def f_X7_readStep (fu n : Nat) : Nat → Nat → Int32 → Int32 → MEM → Option (Int32 × MEM) := (g_X7_readRow fu n).2.1
def f_X7_readAgain (fu n : Nat) : Nat → Nat → Int32 → Int32 → Int32 → MEM → Option (Int32 × MEM) := (g_X7_readRow fu n).2.2
theorem Et_X7_readRow (fu n : Nat) (a0 : Nat) (a1 : Nat) (a2 : Int32) (a3 : Int32) (w : MEM) : f_X7_readRow fu (n + 1) a0 a1 a2 a3 w = b_X7_readRow fu (f_X7_readRow fu n) (f_X7_readStep fu n) (f_X7_readAgain fu n) a0 a1 a2 a3 w := rfl
theorem Et_X7_readStep (fu n : Nat) (a0 : Nat) (a1 : Nat) (a2 : Int32) (a3 : Int32) (w : MEM) : f_X7_readStep fu (n + 1) a0 a1 a2 a3 w = b_X7_readStep fu (f_X7_readRow fu n) (f_X7_readStep fu n) (f_X7_readAgain fu n) a0 a1 a2 a3 w := rfl
theorem Et_X7_readAgain (fu n : Nat) (a0 : Nat) (a1 : Nat) (a2 : Int32) (a3 : Int32) (a4 : Int32) (w : MEM) : f_X7_readAgain fu (n + 1) a0 a1 a2 a3 a4 w = b_X7_readAgain fu (f_X7_readRow fu n) (f_X7_readStep fu n) (f_X7_readAgain fu n) a0 a1 a2 a3 a4 w := rfl
theorem C_X7_readRow {X : SCR} (fu : Nat) : ∀ n, (∀ (a0 : Nat) (a1 : Nat) (a2 : Int32) (a3 : Int32) (w : MEM) (h : PH) (o : Int32) (w1 : MEM), WH X h w → vo 7 a0 = true → vo 8 a1 = true → f_X7_readRow fu n a0 a1 a2 a3 w = some (o, w1) → CT (8 + n) M_X7_readRow [vR (700, a0), vR (800, a1), vI a2, vI a3] h 0 0 (QP X (.inl (some (vI o))) w1)) ∧ (∀ (a0 : Nat) (a1 : Nat) (a2 : Int32) (a3 : Int32) (w : MEM) (h : PH) (o : Int32) (w1 : MEM), WH X h w → vo 7 a0 = true → vo 8 a1 = true → f_X7_readStep fu n a0 a1 a2 a3 w = some (o, w1) → CT (8 + n) M_X7_readStep [vR (700, a0), vR (800, a1), vI a2, vI a3] h 0 0 (QP X (.inl (some (vI o))) w1)) ∧ (∀ (a0 : Nat) (a1 : Nat) (a2 : Int32) (a3 : Int32) (a4 : Int32) (w : MEM) (h : PH) (o : Int32) (w1 : MEM), WH X h w → vo 7 a0 = true → vo 8 a1 = true → f_X7_readAgain fu n a0 a1 a2 a3 a4 w = some (o, w1) → CT (8 + n) M_X7_readAgain [vR (700, a0), vR (800, a1), vI a2, vI a3, vI a4] h 0 0 (QP X (.inl (some (vI o))) w1)) := by
  intro n
  induction n with
  | zero => exact ⟨fun _ _ _ _ _ _ _ _ _ _ _ hF => (by cases hF), fun _ _ _ _ _ _ _ _ _ _ _ hF => (by cases hF), fun _ _ _ _ _ _ _ _ _ _ _ _ hF => (by cases hF)⟩
  | succ n ih =>
    refine ⟨?_, ?_, ?_⟩
    · intro a0 a1 a2 a3 w h o w1 wh g0 g1 hF
      exact CT_of mk_X7_readRow (Nat.le_of_ble_eq_true rfl) rfl (w_X7_readRow (DR := 8 + n) (rc := 0) (rs := 0) (hd := by omega) (hr := by omega) (hc_readRow := ih.1) (hc_readStep := ih.2.1) (hc_readAgain := ih.2.2) (hq := fun h1 g => ⟨rfl, g⟩) wh g0 g1 ((Et_X7_readRow fu n a0 a1 a2 a3 w).symm.trans hF))
    · intro a0 a1 a2 a3 w h o w1 wh g0 g1 hF
      exact CT_of mk_X7_readStep (Nat.le_of_ble_eq_true rfl) rfl (w_X7_readStep (DR := 8 + n) (rc := 0) (rs := 0) (hd := by omega) (hr := by omega) (hc_readRow := ih.1) (hc_readStep := ih.2.1) (hc_readAgain := ih.2.2) (hq := fun h1 g => ⟨rfl, g⟩) wh g0 g1 ((Et_X7_readStep fu n a0 a1 a2 a3 w).symm.trans hF))
    · intro a0 a1 a2 a3 a4 w h o w1 wh g0 g1 hF
      exact CT_of mk_X7_readAgain (Nat.le_of_ble_eq_true rfl) rfl (w_X7_readAgain (DR := 8 + n) (rc := 0) (rs := 0) (hd := by omega) (hr := by omega) (hc_readRow := ih.1) (hc_readStep := ih.2.1) (hc_readAgain := ih.2.2) (hq := fun h1 g => ⟨rfl, g⟩) wh g0 g1 ((Et_X7_readAgain fu n a0 a1 a2 a3 a4 w).symm.trans hF))
theorem c_X7_readRow {X : SCR} {fu : Nat} {o : Int32} {w1 : MEM} {a0 : Nat} {a1 : Nat} {a2 : Int32} {a3 : Int32} {w : MEM} {h : PH} (wh : WH X h w) (h0 : vo 7 a0 = true) (h1 : vo 8 a1 = true) (hF : f_X7_readRow fu 40 a0 a1 a2 a3 w = some (o, w1)) : CT 48 M_X7_readRow [vR (700, a0), vR (800, a1), vI a2, vI a3] h 0 0 (QP X (.inl (some (vI o))) w1) := (C_X7_readRow fu 40).1 a0 a1 a2 a3 w h o w1 wh h0 h1 hF
theorem c_X7_readStep {X : SCR} {fu : Nat} {o : Int32} {w1 : MEM} {a0 : Nat} {a1 : Nat} {a2 : Int32} {a3 : Int32} {w : MEM} {h : PH} (wh : WH X h w) (h0 : vo 7 a0 = true) (h1 : vo 8 a1 = true) (hF : f_X7_readStep fu 40 a0 a1 a2 a3 w = some (o, w1)) : CT 48 M_X7_readStep [vR (700, a0), vR (800, a1), vI a2, vI a3] h 0 0 (QP X (.inl (some (vI o))) w1) := (C_X7_readRow fu 40).2.1 a0 a1 a2 a3 w h o w1 wh h0 h1 hF
theorem c_X7_readAgain {X : SCR} {fu : Nat} {o : Int32} {w1 : MEM} {a0 : Nat} {a1 : Nat} {a2 : Int32} {a3 : Int32} {a4 : Int32} {w : MEM} {h : PH} (wh : WH X h w) (h0 : vo 7 a0 = true) (h1 : vo 8 a1 = true) (hF : f_X7_readAgain fu 40 a0 a1 a2 a3 a4 w = some (o, w1)) : CT 48 M_X7_readAgain [vR (700, a0), vR (800, a1), vI a2, vI a3, vI a4] h 0 0 (QP X (.inl (some (vI o))) w1) := (C_X7_readRow fu 40).2.2 a0 a1 a2 a3 a4 w h o w1 wh h0 h1 hF
-- X7_read
def f_X7_read (fu : Nat) (l0 : Nat) (l1 : Nat) (l2 : Int32) (w : MEM) : Option (Int32 × MEM) := lt (sS w (10704, l0) (0 : Int32)) fun (w1 : MEM) => bnd (f_X7_readRow fu 40 l0 l1 l2 (0 : Int32) w1) fun (x3 : Int32) (w2 : MEM) => if x3 = 0 then (some ((0 : Int32), w2)) else (bnd (f_X8_needEnd fu l1 w2) fun (x5 : Int32) (w4 : MEM) => if x5 = 0 then (some ((0 : Int32), w4)) else (some ((1 : Int32), w4)))
theorem E_X7_read (fu : Nat) (l0 : Nat) (l1 : Nat) (l2 : Int32) (w : MEM) : f_X7_read fu l0 l1 l2 w = lt (sS w (10704, l0) (0 : Int32)) fun (w1 : MEM) => bnd (f_X7_readRow fu 40 l0 l1 l2 (0 : Int32) w1) fun (x3 : Int32) (w2 : MEM) => if x3 = 0 then (some ((0 : Int32), w2)) else (bnd (f_X8_needEnd fu l1 w2) fun (x5 : Int32) (w4 : MEM) => if x5 = 0 then (some ((0 : Int32), w4)) else (some ((1 : Int32), w4))) := rfl
theorem w_X7_read {X : SCR} {d rc rs : Nat} {Q : PO → PH → Prop} {o : Int32} {w1 : MEM} {fu : Nat} (hd : 49 ≤ d) (hq : ∀ h1, WH X h1 w1 → Q (.inl (some (vI o))) h1) {l0 : Nat} {l1 : Nat} {l2 : Int32} {w : MEM} {h : PH} (wh : WH X h w) (hv_l0 : vo 7 l0 = true) (hv_l1 : vo 8 l1 = true) (hF : f_X7_read fu l0 l1 l2 w = some (o, w1)) : PW d M_X7_read Q rc rs 0 [vR (700, l0), vR (800, l1), vI l2] [] h := by
  replace hF := (E_X7_read fu l0 l1 l2 w).symm.trans hF
  refine r_X7_read_0 ?_
  replace hF := lt_of hF
  refine sF_S wh rfl hv_l0 ?_
  clear wh
  intro h wh
  refine ⟨⟨_, wh.2.1 10700 _ rfl hv_l0⟩, ?_⟩
  obtain ⟨x3, w2, hG, hF⟩ := bnd_of hF
  refine cl_I (D := 48) (Nat.le_trans (by decide) hd) (c_X7_readRow wh hv_l0 hv_l1 hG) ?_
  clear hG
  clear wh
  intro h wh
  refine ⟨fun c => ?_, fun c => ?_⟩
  · replace hF := if_ofT c hF
    obtain ⟨rfl, rfl⟩ := some_of hF
    exact hq _ wh
  · replace hF := if_ofF c hF
    refine ⟨⟨_, wh.2.1 10800 _ rfl hv_l1⟩, ?_⟩
    obtain ⟨x5, w4, hG, hF⟩ := bnd_of hF
    refine cl_I (D := 1) (Nat.le_trans (by decide) hd) (c_X8_needEnd wh hv_l1 hG) ?_
    clear hG
    clear wh
    intro h wh
    refine ⟨fun c => ?_, fun c => ?_⟩
    · replace hF := if_ofT c hF
      obtain ⟨rfl, rfl⟩ := some_of hF
      exact hq _ wh
    · replace hF := if_ofF c hF
      obtain ⟨rfl, rfl⟩ := some_of hF
      exact hq _ wh
theorem c_X7_read {X : SCR} {fu : Nat} {o : Int32} {w1 : MEM} {a0 : Nat} {a1 : Nat} {a2 : Int32} {w : MEM} {h : PH} (wh : WH X h w) (h0 : vo 7 a0 = true) (h1 : vo 8 a1 = true) (hF : f_X7_read fu a0 a1 a2 w = some (o, w1)) : CT 49 M_X7_read [vR (700, a0), vR (800, a1), vI a2] h 0 0 (QP X (.inl (some (vI o))) w1) :=
  CT_of mk_X7_read (Nat.le_of_ble_eq_true rfl) rfl (w_X7_read (fu := fu) (rc := 0) (rs := 0) (hd := Nat.le_refl 49) (hq := fun h1 g => ⟨rfl, g⟩) wh h0 h1 hF)
-- X7_runRow
def f_X7_runRow_6 (fu : Nat) (c_runRow : Nat → Int32 → Int32 → Int32 → Nat → Nat → Nat → MEM → Option (Unit × MEM)) (c_runAgain : Nat → Int32 → Int32 → Nat → Nat → Nat → MEM → Option (Unit × MEM)) : Nat → Nat → Int32 → Int32 → Nat → Nat → Nat → Int32 → Int32 → MEM → Option (Unit × MEM)
  | 0, _, _, _, _, _, _, _, _, _ => none
  | n + 1, l0, l2, l3, l4, l5, l6, l7, l8, w => if l8 < (150 : Int32) then (if l7 < l2 then (if l7 < (rS w (10704, l0)) then (if (rS w (10705, l0)) < (200 : Int32) then (lt (sS w (10705, l0) ((rS w (10705, l0)) + (1 : Int32))) fun (w1 : MEM) => ck (bI l7 150) (if (rA w1 (701, l0) l7) = (9 : Int32) then (bnd (c_runAgain l0 l7 (l3 + (1 : Int32)) l4 l5 l6 w1) fun (u11 : Unit) (w10 : MEM) => ck (bI l7 150) (lt ((rA w10 (704, l0) l7)) fun (v12 : Int32) => f_X7_runRow_6 fu c_runRow c_runAgain n l0 l2 l3 l4 l5 l6 v12 (l8 + (1 : Int32)) w10)) else (ck (bI l7 150) (ck (bI l7 150) (ck (bI l7 150) (bnd (f_X4_tryStep fu l4 (rA w1 (701, l0) l7) (rA w1 (702, l0) l7) (rA w1 (703, l0) l7) l5 l6 w1) fun (x3 : Int32) (w2 : MEM) => if x3 = 0 then (lt (sS w2 (10706, l0) ((rS w2 (10706, l0)) + (0 : Int32))) fun (w4 : MEM) => if x3 = 0 then (lt (sS w4 (10707, l0) ((rS w4 (10707, l0)) + (1 : Int32))) fun (w5 : MEM) => f_X7_runRow_6 fu c_runRow c_runAgain n l0 l2 l3 l4 l5 l6 (l7 + (1 : Int32)) (l8 + (1 : Int32)) w5) else (lt (sS w4 (10707, l0) ((rS w4 (10707, l0)) + (0 : Int32))) fun (w6 : MEM) => f_X7_runRow_6 fu c_runRow c_runAgain n l0 l2 l3 l4 l5 l6 (l7 + (1 : Int32)) (l8 + (1 : Int32)) w6)) else (lt (sS w2 (10706, l0) ((rS w2 (10706, l0)) + (1 : Int32))) fun (w7 : MEM) => if x3 = 0 then (lt (sS w7 (10707, l0) ((rS w7 (10707, l0)) + (1 : Int32))) fun (w8 : MEM) => f_X7_runRow_6 fu c_runRow c_runAgain n l0 l2 l3 l4 l5 l6 (l7 + (1 : Int32)) (l8 + (1 : Int32)) w8) else (lt (sS w7 (10707, l0) ((rS w7 (10707, l0)) + (0 : Int32))) fun (w9 : MEM) => f_X7_runRow_6 fu c_runRow c_runAgain n l0 l2 l3 l4 l5 l6 (l7 + (1 : Int32)) (l8 + (1 : Int32)) w9)))))))) else (some ((), w))) else (some ((), w))) else (some ((), w))) else (some ((), w))
theorem E_X7_runRow_6 (fu : Nat) (c_runRow : Nat → Int32 → Int32 → Int32 → Nat → Nat → Nat → MEM → Option (Unit × MEM)) (c_runAgain : Nat → Int32 → Int32 → Nat → Nat → Nat → MEM → Option (Unit × MEM)) (n : Nat) (l0 : Nat) (l2 : Int32) (l3 : Int32) (l4 : Nat) (l5 : Nat) (l6 : Nat) (l7 : Int32) (l8 : Int32) (w : MEM) : f_X7_runRow_6 fu c_runRow c_runAgain (n + 1) l0 l2 l3 l4 l5 l6 l7 l8 w = if l8 < (150 : Int32) then (if l7 < l2 then (if l7 < (rS w (10704, l0)) then (if (rS w (10705, l0)) < (200 : Int32) then (lt (sS w (10705, l0) ((rS w (10705, l0)) + (1 : Int32))) fun (w1 : MEM) => ck (bI l7 150) (if (rA w1 (701, l0) l7) = (9 : Int32) then (bnd (c_runAgain l0 l7 (l3 + (1 : Int32)) l4 l5 l6 w1) fun (u11 : Unit) (w10 : MEM) => ck (bI l7 150) (lt ((rA w10 (704, l0) l7)) fun (v12 : Int32) => f_X7_runRow_6 fu c_runRow c_runAgain n l0 l2 l3 l4 l5 l6 v12 (l8 + (1 : Int32)) w10)) else (ck (bI l7 150) (ck (bI l7 150) (ck (bI l7 150) (bnd (f_X4_tryStep fu l4 (rA w1 (701, l0) l7) (rA w1 (702, l0) l7) (rA w1 (703, l0) l7) l5 l6 w1) fun (x3 : Int32) (w2 : MEM) => if x3 = 0 then (lt (sS w2 (10706, l0) ((rS w2 (10706, l0)) + (0 : Int32))) fun (w4 : MEM) => if x3 = 0 then (lt (sS w4 (10707, l0) ((rS w4 (10707, l0)) + (1 : Int32))) fun (w5 : MEM) => f_X7_runRow_6 fu c_runRow c_runAgain n l0 l2 l3 l4 l5 l6 (l7 + (1 : Int32)) (l8 + (1 : Int32)) w5) else (lt (sS w4 (10707, l0) ((rS w4 (10707, l0)) + (0 : Int32))) fun (w6 : MEM) => f_X7_runRow_6 fu c_runRow c_runAgain n l0 l2 l3 l4 l5 l6 (l7 + (1 : Int32)) (l8 + (1 : Int32)) w6)) else (lt (sS w2 (10706, l0) ((rS w2 (10706, l0)) + (1 : Int32))) fun (w7 : MEM) => if x3 = 0 then (lt (sS w7 (10707, l0) ((rS w7 (10707, l0)) + (1 : Int32))) fun (w8 : MEM) => f_X7_runRow_6 fu c_runRow c_runAgain n l0 l2 l3 l4 l5 l6 (l7 + (1 : Int32)) (l8 + (1 : Int32)) w8) else (lt (sS w7 (10707, l0) ((rS w7 (10707, l0)) + (0 : Int32))) fun (w9 : MEM) => f_X7_runRow_6 fu c_runRow c_runAgain n l0 l2 l3 l4 l5 l6 (l7 + (1 : Int32)) (l8 + (1 : Int32)) w9)))))))) else (some ((), w))) else (some ((), w))) else (some ((), w))) else (some ((), w)) := rfl
theorem w_X7_runRow_6 {X : SCR} {d rc rs DR : Nat} {Q : PO → PH → Prop} {o : Unit} {w1 : MEM} {fu : Nat} {c_runRow : Nat → Int32 → Int32 → Int32 → Nat → Nat → Nat → MEM → Option (Unit × MEM)} {c_runAgain : Nat → Int32 → Int32 → Nat → Nat → Nat → MEM → Option (Unit × MEM)} (hd : 5 ≤ d) (hr : DR + 1 ≤ d) (hc_runRow : ∀ (a0 : Nat) (a1 : Int32) (a2 : Int32) (a3 : Int32) (a4 : Nat) (a5 : Nat) (a6 : Nat) (w : MEM) (h : PH) (o : Unit) (w1 : MEM), WH X h w → vo 7 a0 = true → vo 4 a4 = true → vo 1 a5 = true → vo 3 a6 = true → c_runRow a0 a1 a2 a3 a4 a5 a6 w = some (o, w1) → CT DR M_X7_runRow [vR (700, a0), vI a1, vI a2, vI a3, vR (400, a4), vR (100, a5), vR (300, a6)] h 0 0 (QP X (.inl none) w1)) (hc_runAgain : ∀ (a0 : Nat) (a1 : Int32) (a2 : Int32) (a3 : Nat) (a4 : Nat) (a5 : Nat) (w : MEM) (h : PH) (o : Unit) (w1 : MEM), WH X h w → vo 7 a0 = true → vo 4 a3 = true → vo 1 a4 = true → vo 3 a5 = true → c_runAgain a0 a1 a2 a3 a4 a5 w = some (o, w1) → CT DR M_X7_runAgain [vR (700, a0), vI a1, vI a2, vR (400, a3), vR (100, a4), vR (300, a5)] h 0 0 (QP X (.inl none) w1)) (hq : ∀ h1, WH X h1 w1 → Q (.inl none) h1) : ∀ (n : Nat) (l0 : Nat) (l2 : Int32) (l3 : Int32) (l4 : Nat) (l5 : Nat) (l6 : Nat) (l7 : Int32) (l8 : Int32) (w : MEM) (h : PH), WH X h w → vo 7 l0 = true → vo 4 l4 = true → vo 1 l5 = true → vo 3 l6 = true → f_X7_runRow_6 fu c_runRow c_runAgain n l0 l2 l3 l4 l5 l6 l7 l8 w = some (o, w1) → PW d M_X7_runRow Q rc rs 6 [vR (700, l0), vU, vI l2, vI l3, vR (400, l4), vR (100, l5), vR (300, l6), vI l7, vI l8, vU] [] h := by
  intro n
  induction n with
  | zero => intro l0 l2 l3 l4 l5 l6 l7 l8 w h wh hv_l0 hv_l4 hv_l5 hv_l6 hF; cases hF
  | succ n ih =>
    intro l0 l2 l3 l4 l5 l6 l7 l8 w h wh hv_l0 hv_l4 hv_l5 hv_l6 hF
    replace hF := (E_X7_runRow_6 fu c_runRow c_runAgain n l0 l2 l3 l4 l5 l6 l7 l8 w).symm.trans hF
    refine r_X7_runRow_6 ?_
    refine ⟨fun c => ?_, fun c => ?_⟩
    · replace hF := if_ofT c hF
      refine ⟨fun c => ?_, fun c => ?_⟩
      · replace hF := if_ofT c hF
        refine gI_of (wh.1 10704 _ rfl hv_l0) ?_
        refine ⟨fun c => ?_, fun c => ?_⟩
        · replace hF := if_ofT c hF
          refine gI_of (wh.1 10705 _ rfl hv_l0) ?_
          refine ⟨fun c => ?_, fun c => ?_⟩
          · replace hF := if_ofT c hF
            refine gI_of (wh.1 10705 _ rfl hv_l0) ?_
            replace hF := lt_of hF
            refine sF_S wh rfl hv_l0 ?_
            clear wh
            intro h wh
            refine gA_of (b := (701, l0)) (wh.2.1 10700 _ rfl hv_l0) ?_
            obtain ⟨c, hF⟩ := ck_of hF
            refine xI_of wh (oA_701 hv_l0) c ?_
            clear c
            refine ⟨fun c => ?_, fun c => ?_⟩
            · replace hF := if_ofT c hF
              refine ⟨⟨_, wh.2.1 10700 _ rfl hv_l0⟩, ?_⟩
              obtain ⟨u11, w10, hG, hF⟩ := bnd_of hF
              refine cl_V hr (hc_runAgain _ _ _ _ _ _ _ _ _ _ wh hv_l0 hv_l4 hv_l5 hv_l6 hG) ?_
              clear hG
              clear wh
              intro h wh
              refine gA_of (b := (704, l0)) (wh.2.1 10703 _ rfl hv_l0) ?_
              obtain ⟨c, hF⟩ := ck_of hF
              refine xI_of wh (oA_704 hv_l0) c ?_
              clear c
              replace hF := lt_of hF
              exact ih _ _ _ _ _ _ _ _ _ _ wh hv_l0 hv_l4 hv_l5 hv_l6 hF
            · replace hF := if_ofF c hF
              refine gA_of (b := (701, l0)) (wh.2.1 10700 _ rfl hv_l0) ?_
              obtain ⟨c, hF⟩ := ck_of hF
              refine xI_of wh (oA_701 hv_l0) c ?_
              clear c
              refine gA_of (b := (702, l0)) (wh.2.1 10701 _ rfl hv_l0) ?_
              obtain ⟨c, hF⟩ := ck_of hF
              refine xI_of wh (oA_702 hv_l0) c ?_
              clear c
              refine gA_of (b := (703, l0)) (wh.2.1 10702 _ rfl hv_l0) ?_
              obtain ⟨c, hF⟩ := ck_of hF
              refine xI_of wh (oA_703 hv_l0) c ?_
              clear c
              refine ⟨⟨_, wh.2.1 10400 _ rfl hv_l4⟩, ?_⟩
              obtain ⟨x3, w2, hG, hF⟩ := bnd_of hF
              refine cl_I (D := 4) (Nat.le_trans (by decide) hd) (c_X4_tryStep wh hv_l4 hv_l5 hv_l6 hG) ?_
              clear hG
              clear wh
              intro h wh
              refine gI_of (wh.1 10706 _ rfl hv_l0) ?_
              refine ⟨fun c => ?_, fun c => ?_⟩
              · replace hF := if_ofT c hF
                replace hF := lt_of hF
                refine sF_S wh rfl hv_l0 ?_
                clear wh
                intro h wh
                refine gI_of (wh.1 10707 _ rfl hv_l0) ?_
                refine ⟨fun c => ?_, fun c => ?_⟩
                · replace hF := if_ofT c hF
                  replace hF := lt_of hF
                  refine sF_S wh rfl hv_l0 ?_
                  clear wh
                  intro h wh
                  exact ih _ _ _ _ _ _ _ _ _ _ wh hv_l0 hv_l4 hv_l5 hv_l6 hF
                · replace hF := if_ofF c hF
                  replace hF := lt_of hF
                  refine sF_S wh rfl hv_l0 ?_
                  clear wh
                  intro h wh
                  exact ih _ _ _ _ _ _ _ _ _ _ wh hv_l0 hv_l4 hv_l5 hv_l6 hF
              · replace hF := if_ofF c hF
                replace hF := lt_of hF
                refine sF_S wh rfl hv_l0 ?_
                clear wh
                intro h wh
                refine gI_of (wh.1 10707 _ rfl hv_l0) ?_
                refine ⟨fun c => ?_, fun c => ?_⟩
                · replace hF := if_ofT c hF
                  replace hF := lt_of hF
                  refine sF_S wh rfl hv_l0 ?_
                  clear wh
                  intro h wh
                  exact ih _ _ _ _ _ _ _ _ _ _ wh hv_l0 hv_l4 hv_l5 hv_l6 hF
                · replace hF := if_ofF c hF
                  replace hF := lt_of hF
                  refine sF_S wh rfl hv_l0 ?_
                  clear wh
                  intro h wh
                  exact ih _ _ _ _ _ _ _ _ _ _ wh hv_l0 hv_l4 hv_l5 hv_l6 hF
          · replace hF := if_ofF c hF
            obtain ⟨rfl, rfl⟩ := some_of hF
            exact hq _ wh
        · replace hF := if_ofF c hF
          obtain ⟨rfl, rfl⟩ := some_of hF
          exact hq _ wh
      · replace hF := if_ofF c hF
        obtain ⟨rfl, rfl⟩ := some_of hF
        exact hq _ wh
    · replace hF := if_ofF c hF
      obtain ⟨rfl, rfl⟩ := some_of hF
      exact hq _ wh
def b_X7_runRow (fu : Nat) (c_runRow : Nat → Int32 → Int32 → Int32 → Nat → Nat → Nat → MEM → Option (Unit × MEM)) (c_runAgain : Nat → Int32 → Int32 → Nat → Nat → Nat → MEM → Option (Unit × MEM)) (l0 : Nat) (l1 : Int32) (l2 : Int32) (l3 : Int32) (l4 : Nat) (l5 : Nat) (l6 : Nat) (w : MEM) : Option (Unit × MEM) := f_X7_runRow_6 fu c_runRow c_runAgain fu l0 l2 l3 l4 l5 l6 l1 (0 : Int32) w
theorem E_X7_runRow (fu : Nat) (c_runRow : Nat → Int32 → Int32 → Int32 → Nat → Nat → Nat → MEM → Option (Unit × MEM)) (c_runAgain : Nat → Int32 → Int32 → Nat → Nat → Nat → MEM → Option (Unit × MEM)) (l0 : Nat) (l1 : Int32) (l2 : Int32) (l3 : Int32) (l4 : Nat) (l5 : Nat) (l6 : Nat) (w : MEM) : b_X7_runRow fu c_runRow c_runAgain l0 l1 l2 l3 l4 l5 l6 w = f_X7_runRow_6 fu c_runRow c_runAgain fu l0 l2 l3 l4 l5 l6 l1 (0 : Int32) w := rfl
theorem w_X7_runRow {X : SCR} {d rc rs DR : Nat} {Q : PO → PH → Prop} {o : Unit} {w1 : MEM} {fu : Nat} {c_runRow : Nat → Int32 → Int32 → Int32 → Nat → Nat → Nat → MEM → Option (Unit × MEM)} {c_runAgain : Nat → Int32 → Int32 → Nat → Nat → Nat → MEM → Option (Unit × MEM)} (hd : 5 ≤ d) (hr : DR + 1 ≤ d) (hc_runRow : ∀ (a0 : Nat) (a1 : Int32) (a2 : Int32) (a3 : Int32) (a4 : Nat) (a5 : Nat) (a6 : Nat) (w : MEM) (h : PH) (o : Unit) (w1 : MEM), WH X h w → vo 7 a0 = true → vo 4 a4 = true → vo 1 a5 = true → vo 3 a6 = true → c_runRow a0 a1 a2 a3 a4 a5 a6 w = some (o, w1) → CT DR M_X7_runRow [vR (700, a0), vI a1, vI a2, vI a3, vR (400, a4), vR (100, a5), vR (300, a6)] h 0 0 (QP X (.inl none) w1)) (hc_runAgain : ∀ (a0 : Nat) (a1 : Int32) (a2 : Int32) (a3 : Nat) (a4 : Nat) (a5 : Nat) (w : MEM) (h : PH) (o : Unit) (w1 : MEM), WH X h w → vo 7 a0 = true → vo 4 a3 = true → vo 1 a4 = true → vo 3 a5 = true → c_runAgain a0 a1 a2 a3 a4 a5 w = some (o, w1) → CT DR M_X7_runAgain [vR (700, a0), vI a1, vI a2, vR (400, a3), vR (100, a4), vR (300, a5)] h 0 0 (QP X (.inl none) w1)) (hq : ∀ h1, WH X h1 w1 → Q (.inl none) h1) {l0 : Nat} {l1 : Int32} {l2 : Int32} {l3 : Int32} {l4 : Nat} {l5 : Nat} {l6 : Nat} {w : MEM} {h : PH} (wh : WH X h w) (hv_l0 : vo 7 l0 = true) (hv_l4 : vo 4 l4 = true) (hv_l5 : vo 1 l5 = true) (hv_l6 : vo 3 l6 = true) (hF : b_X7_runRow fu c_runRow c_runAgain l0 l1 l2 l3 l4 l5 l6 w = some (o, w1)) : PW d M_X7_runRow Q rc rs 0 [vR (700, l0), vI l1, vI l2, vI l3, vR (400, l4), vR (100, l5), vR (300, l6), vU, vU, vU] [] h := by
  replace hF := (E_X7_runRow fu c_runRow c_runAgain l0 l1 l2 l3 l4 l5 l6 w).symm.trans hF
  refine r_X7_runRow_0 ?_
  exact w_X7_runRow_6 hd hr hc_runRow hc_runAgain hq  fu _ _ _ _ _ _ _ _ _ _ wh hv_l0 hv_l4 hv_l5 hv_l6 hF
-- X7_runAgain
def f_X7_runAgain_3 (fu : Nat) (c_runRow : Nat → Int32 → Int32 → Int32 → Nat → Nat → Nat → MEM → Option (Unit × MEM)) (c_runAgain : Nat → Int32 → Int32 → Nat → Nat → Nat → MEM → Option (Unit × MEM)) : Nat → Nat → Int32 → Int32 → Nat → Nat → Nat → Int32 → MEM → Option (Unit × MEM)
  | 0, _, _, _, _, _, _, _, _ => none
  | n + 1, l0, l1, l2, l3, l4, l5, l6, w => ck (bI l1 150) (if l6 < (rA w (703, l0) l1) then (if (rS w (10705, l0)) < (200 : Int32) then (if (6 : Int32) < l2 then (some ((), w)) else (ck (bI l1 150) (bnd (c_runRow l0 (l1 + (1 : Int32)) (rA w (704, l0) l1) l2 l3 l4 l5 w) fun (u2 : Unit) (w1 : MEM) => f_X7_runAgain_3 fu c_runRow c_runAgain n l0 l1 l2 l3 l4 l5 (l6 + (1 : Int32)) w1))) else (some ((), w))) else (some ((), w)))
theorem E_X7_runAgain_3 (fu : Nat) (c_runRow : Nat → Int32 → Int32 → Int32 → Nat → Nat → Nat → MEM → Option (Unit × MEM)) (c_runAgain : Nat → Int32 → Int32 → Nat → Nat → Nat → MEM → Option (Unit × MEM)) (n : Nat) (l0 : Nat) (l1 : Int32) (l2 : Int32) (l3 : Nat) (l4 : Nat) (l5 : Nat) (l6 : Int32) (w : MEM) : f_X7_runAgain_3 fu c_runRow c_runAgain (n + 1) l0 l1 l2 l3 l4 l5 l6 w = ck (bI l1 150) (if l6 < (rA w (703, l0) l1) then (if (rS w (10705, l0)) < (200 : Int32) then (if (6 : Int32) < l2 then (some ((), w)) else (ck (bI l1 150) (bnd (c_runRow l0 (l1 + (1 : Int32)) (rA w (704, l0) l1) l2 l3 l4 l5 w) fun (u2 : Unit) (w1 : MEM) => f_X7_runAgain_3 fu c_runRow c_runAgain n l0 l1 l2 l3 l4 l5 (l6 + (1 : Int32)) w1))) else (some ((), w))) else (some ((), w))) := rfl
theorem w_X7_runAgain_3 {X : SCR} {d rc rs DR : Nat} {Q : PO → PH → Prop} {o : Unit} {w1 : MEM} {fu : Nat} {c_runRow : Nat → Int32 → Int32 → Int32 → Nat → Nat → Nat → MEM → Option (Unit × MEM)} {c_runAgain : Nat → Int32 → Int32 → Nat → Nat → Nat → MEM → Option (Unit × MEM)} (hd : 5 ≤ d) (hr : DR + 1 ≤ d) (hc_runRow : ∀ (a0 : Nat) (a1 : Int32) (a2 : Int32) (a3 : Int32) (a4 : Nat) (a5 : Nat) (a6 : Nat) (w : MEM) (h : PH) (o : Unit) (w1 : MEM), WH X h w → vo 7 a0 = true → vo 4 a4 = true → vo 1 a5 = true → vo 3 a6 = true → c_runRow a0 a1 a2 a3 a4 a5 a6 w = some (o, w1) → CT DR M_X7_runRow [vR (700, a0), vI a1, vI a2, vI a3, vR (400, a4), vR (100, a5), vR (300, a6)] h 0 0 (QP X (.inl none) w1)) (hc_runAgain : ∀ (a0 : Nat) (a1 : Int32) (a2 : Int32) (a3 : Nat) (a4 : Nat) (a5 : Nat) (w : MEM) (h : PH) (o : Unit) (w1 : MEM), WH X h w → vo 7 a0 = true → vo 4 a3 = true → vo 1 a4 = true → vo 3 a5 = true → c_runAgain a0 a1 a2 a3 a4 a5 w = some (o, w1) → CT DR M_X7_runAgain [vR (700, a0), vI a1, vI a2, vR (400, a3), vR (100, a4), vR (300, a5)] h 0 0 (QP X (.inl none) w1)) (hq : ∀ h1, WH X h1 w1 → Q (.inl none) h1) : ∀ (n : Nat) (l0 : Nat) (l1 : Int32) (l2 : Int32) (l3 : Nat) (l4 : Nat) (l5 : Nat) (l6 : Int32) (w : MEM) (h : PH), WH X h w → vo 7 l0 = true → vo 4 l3 = true → vo 1 l4 = true → vo 3 l5 = true → f_X7_runAgain_3 fu c_runRow c_runAgain n l0 l1 l2 l3 l4 l5 l6 w = some (o, w1) → PW d M_X7_runAgain Q rc rs 3 [vR (700, l0), vI l1, vI l2, vR (400, l3), vR (100, l4), vR (300, l5), vI l6] [] h := by
  intro n
  induction n with
  | zero => intro l0 l1 l2 l3 l4 l5 l6 w h wh hv_l0 hv_l3 hv_l4 hv_l5 hF; cases hF
  | succ n ih =>
    intro l0 l1 l2 l3 l4 l5 l6 w h wh hv_l0 hv_l3 hv_l4 hv_l5 hF
    replace hF := (E_X7_runAgain_3 fu c_runRow c_runAgain n l0 l1 l2 l3 l4 l5 l6 w).symm.trans hF
    refine r_X7_runAgain_3 ?_
    refine gA_of (b := (703, l0)) (wh.2.1 10702 _ rfl hv_l0) ?_
    obtain ⟨c, hF⟩ := ck_of hF
    refine xI_of wh (oA_703 hv_l0) c ?_
    clear c
    refine ⟨fun c => ?_, fun c => ?_⟩
    · replace hF := if_ofT c hF
      refine gI_of (wh.1 10705 _ rfl hv_l0) ?_
      refine ⟨fun c => ?_, fun c => ?_⟩
      · replace hF := if_ofT c hF
        refine ⟨fun c => ?_, fun c => ?_⟩
        · replace hF := if_ofT c hF
          obtain ⟨rfl, rfl⟩ := some_of hF
          exact hq _ wh
        · replace hF := if_ofF c hF
          refine gA_of (b := (704, l0)) (wh.2.1 10703 _ rfl hv_l0) ?_
          obtain ⟨c, hF⟩ := ck_of hF
          refine xI_of wh (oA_704 hv_l0) c ?_
          clear c
          refine ⟨⟨_, wh.2.1 10700 _ rfl hv_l0⟩, ?_⟩
          obtain ⟨u2, w1, hG, hF⟩ := bnd_of hF
          refine cl_V hr (hc_runRow _ _ _ _ _ _ _ _ _ _ _ wh hv_l0 hv_l3 hv_l4 hv_l5 hG) ?_
          clear hG
          clear wh
          intro h wh
          exact ih _ _ _ _ _ _ _ _ _ wh hv_l0 hv_l3 hv_l4 hv_l5 hF
      · replace hF := if_ofF c hF
        obtain ⟨rfl, rfl⟩ := some_of hF
        exact hq _ wh
    · replace hF := if_ofF c hF
      obtain ⟨rfl, rfl⟩ := some_of hF
      exact hq _ wh
def b_X7_runAgain (fu : Nat) (c_runRow : Nat → Int32 → Int32 → Int32 → Nat → Nat → Nat → MEM → Option (Unit × MEM)) (c_runAgain : Nat → Int32 → Int32 → Nat → Nat → Nat → MEM → Option (Unit × MEM)) (l0 : Nat) (l1 : Int32) (l2 : Int32) (l3 : Nat) (l4 : Nat) (l5 : Nat) (w : MEM) : Option (Unit × MEM) := f_X7_runAgain_3 fu c_runRow c_runAgain fu l0 l1 l2 l3 l4 l5 (0 : Int32) w
theorem E_X7_runAgain (fu : Nat) (c_runRow : Nat → Int32 → Int32 → Int32 → Nat → Nat → Nat → MEM → Option (Unit × MEM)) (c_runAgain : Nat → Int32 → Int32 → Nat → Nat → Nat → MEM → Option (Unit × MEM)) (l0 : Nat) (l1 : Int32) (l2 : Int32) (l3 : Nat) (l4 : Nat) (l5 : Nat) (w : MEM) : b_X7_runAgain fu c_runRow c_runAgain l0 l1 l2 l3 l4 l5 w = f_X7_runAgain_3 fu c_runRow c_runAgain fu l0 l1 l2 l3 l4 l5 (0 : Int32) w := rfl
theorem w_X7_runAgain {X : SCR} {d rc rs DR : Nat} {Q : PO → PH → Prop} {o : Unit} {w1 : MEM} {fu : Nat} {c_runRow : Nat → Int32 → Int32 → Int32 → Nat → Nat → Nat → MEM → Option (Unit × MEM)} {c_runAgain : Nat → Int32 → Int32 → Nat → Nat → Nat → MEM → Option (Unit × MEM)} (hd : 5 ≤ d) (hr : DR + 1 ≤ d) (hc_runRow : ∀ (a0 : Nat) (a1 : Int32) (a2 : Int32) (a3 : Int32) (a4 : Nat) (a5 : Nat) (a6 : Nat) (w : MEM) (h : PH) (o : Unit) (w1 : MEM), WH X h w → vo 7 a0 = true → vo 4 a4 = true → vo 1 a5 = true → vo 3 a6 = true → c_runRow a0 a1 a2 a3 a4 a5 a6 w = some (o, w1) → CT DR M_X7_runRow [vR (700, a0), vI a1, vI a2, vI a3, vR (400, a4), vR (100, a5), vR (300, a6)] h 0 0 (QP X (.inl none) w1)) (hc_runAgain : ∀ (a0 : Nat) (a1 : Int32) (a2 : Int32) (a3 : Nat) (a4 : Nat) (a5 : Nat) (w : MEM) (h : PH) (o : Unit) (w1 : MEM), WH X h w → vo 7 a0 = true → vo 4 a3 = true → vo 1 a4 = true → vo 3 a5 = true → c_runAgain a0 a1 a2 a3 a4 a5 w = some (o, w1) → CT DR M_X7_runAgain [vR (700, a0), vI a1, vI a2, vR (400, a3), vR (100, a4), vR (300, a5)] h 0 0 (QP X (.inl none) w1)) (hq : ∀ h1, WH X h1 w1 → Q (.inl none) h1) {l0 : Nat} {l1 : Int32} {l2 : Int32} {l3 : Nat} {l4 : Nat} {l5 : Nat} {w : MEM} {h : PH} (wh : WH X h w) (hv_l0 : vo 7 l0 = true) (hv_l3 : vo 4 l3 = true) (hv_l4 : vo 1 l4 = true) (hv_l5 : vo 3 l5 = true) (hF : b_X7_runAgain fu c_runRow c_runAgain l0 l1 l2 l3 l4 l5 w = some (o, w1)) : PW d M_X7_runAgain Q rc rs 0 [vR (700, l0), vI l1, vI l2, vR (400, l3), vR (100, l4), vR (300, l5), vU] [] h := by
  replace hF := (E_X7_runAgain fu c_runRow c_runAgain l0 l1 l2 l3 l4 l5 w).symm.trans hF
  refine r_X7_runAgain_0 ?_
  exact w_X7_runAgain_3 hd hr hc_runRow hc_runAgain hq  fu _ _ _ _ _ _ _ _ _ wh hv_l0 hv_l3 hv_l4 hv_l5 hF
def g_X7_runRows (fu : Nat) (p : (Nat → Int32 → Int32 → Int32 → Nat → Nat → Nat → MEM → Option (Unit × MEM)) × (Nat → Int32 → Int32 → Nat → Nat → Nat → MEM → Option (Unit × MEM))) : (Nat → Int32 → Int32 → Int32 → Nat → Nat → Nat → MEM → Option (Unit × MEM)) × (Nat → Int32 → Int32 → Nat → Nat → Nat → MEM → Option (Unit × MEM)) := (b_X7_runRow fu p.1 p.2, b_X7_runAgain fu p.1 p.2)
def g_X7_runRow (fu : Nat) : Nat → (Nat → Int32 → Int32 → Int32 → Nat → Nat → Nat → MEM → Option (Unit × MEM)) × (Nat → Int32 → Int32 → Nat → Nat → Nat → MEM → Option (Unit × MEM))
  | 0 => ((fun _ _ _ _ _ _ _ _ => none), (fun _ _ _ _ _ _ _ => none))
  | n + 1 => g_X7_runRows fu (g_X7_runRow fu n)
def f_X7_runRow (fu n : Nat) : Nat → Int32 → Int32 → Int32 → Nat → Nat → Nat → MEM → Option (Unit × MEM) := (g_X7_runRow fu n).1
def f_X7_runAgain (fu n : Nat) : Nat → Int32 → Int32 → Nat → Nat → Nat → MEM → Option (Unit × MEM) := (g_X7_runRow fu n).2
theorem Et_X7_runRow (fu n : Nat) (a0 : Nat) (a1 : Int32) (a2 : Int32) (a3 : Int32) (a4 : Nat) (a5 : Nat) (a6 : Nat) (w : MEM) : f_X7_runRow fu (n + 1) a0 a1 a2 a3 a4 a5 a6 w = b_X7_runRow fu (f_X7_runRow fu n) (f_X7_runAgain fu n) a0 a1 a2 a3 a4 a5 a6 w := rfl
theorem Et_X7_runAgain (fu n : Nat) (a0 : Nat) (a1 : Int32) (a2 : Int32) (a3 : Nat) (a4 : Nat) (a5 : Nat) (w : MEM) : f_X7_runAgain fu (n + 1) a0 a1 a2 a3 a4 a5 w = b_X7_runAgain fu (f_X7_runRow fu n) (f_X7_runAgain fu n) a0 a1 a2 a3 a4 a5 w := rfl
theorem C_X7_runRow {X : SCR} (fu : Nat) : ∀ n, (∀ (a0 : Nat) (a1 : Int32) (a2 : Int32) (a3 : Int32) (a4 : Nat) (a5 : Nat) (a6 : Nat) (w : MEM) (h : PH) (o : Unit) (w1 : MEM), WH X h w → vo 7 a0 = true → vo 4 a4 = true → vo 1 a5 = true → vo 3 a6 = true → f_X7_runRow fu n a0 a1 a2 a3 a4 a5 a6 w = some (o, w1) → CT (5 + n) M_X7_runRow [vR (700, a0), vI a1, vI a2, vI a3, vR (400, a4), vR (100, a5), vR (300, a6)] h 0 0 (QP X (.inl none) w1)) ∧ (∀ (a0 : Nat) (a1 : Int32) (a2 : Int32) (a3 : Nat) (a4 : Nat) (a5 : Nat) (w : MEM) (h : PH) (o : Unit) (w1 : MEM), WH X h w → vo 7 a0 = true → vo 4 a3 = true → vo 1 a4 = true → vo 3 a5 = true → f_X7_runAgain fu n a0 a1 a2 a3 a4 a5 w = some (o, w1) → CT (5 + n) M_X7_runAgain [vR (700, a0), vI a1, vI a2, vR (400, a3), vR (100, a4), vR (300, a5)] h 0 0 (QP X (.inl none) w1)) := by
  intro n
  induction n with
  | zero => exact ⟨fun _ _ _ _ _ _ _ _ _ _ _ _ _ _ _ _ hF => (by cases hF), fun _ _ _ _ _ _ _ _ _ _ _ _ _ _ _ hF => (by cases hF)⟩
  | succ n ih =>
    refine ⟨?_, ?_⟩
    · intro a0 a1 a2 a3 a4 a5 a6 w h o w1 wh g0 g1 g2 g3 hF
      exact CT_of mk_X7_runRow (Nat.le_of_ble_eq_true rfl) rfl (w_X7_runRow (DR := 5 + n) (rc := 0) (rs := 0) (hd := by omega) (hr := by omega) (hc_runRow := ih.1) (hc_runAgain := ih.2) (hq := fun h1 g => ⟨rfl, g⟩) wh g0 g1 g2 g3 ((Et_X7_runRow fu n a0 a1 a2 a3 a4 a5 a6 w).symm.trans hF))
    · intro a0 a1 a2 a3 a4 a5 w h o w1 wh g0 g1 g2 g3 hF
      exact CT_of mk_X7_runAgain (Nat.le_of_ble_eq_true rfl) rfl (w_X7_runAgain (DR := 5 + n) (rc := 0) (rs := 0) (hd := by omega) (hr := by omega) (hc_runRow := ih.1) (hc_runAgain := ih.2) (hq := fun h1 g => ⟨rfl, g⟩) wh g0 g1 g2 g3 ((Et_X7_runAgain fu n a0 a1 a2 a3 a4 a5 w).symm.trans hF))
theorem c_X7_runRow {X : SCR} {fu : Nat} {o : Unit} {w1 : MEM} {a0 : Nat} {a1 : Int32} {a2 : Int32} {a3 : Int32} {a4 : Nat} {a5 : Nat} {a6 : Nat} {w : MEM} {h : PH} (wh : WH X h w) (h0 : vo 7 a0 = true) (h1 : vo 4 a4 = true) (h2 : vo 1 a5 = true) (h3 : vo 3 a6 = true) (hF : f_X7_runRow fu 40 a0 a1 a2 a3 a4 a5 a6 w = some (o, w1)) : CT 45 M_X7_runRow [vR (700, a0), vI a1, vI a2, vI a3, vR (400, a4), vR (100, a5), vR (300, a6)] h 0 0 (QP X (.inl none) w1) := (C_X7_runRow fu 40).1 a0 a1 a2 a3 a4 a5 a6 w h o w1 wh h0 h1 h2 h3 hF
theorem c_X7_runAgain {X : SCR} {fu : Nat} {o : Unit} {w1 : MEM} {a0 : Nat} {a1 : Int32} {a2 : Int32} {a3 : Nat} {a4 : Nat} {a5 : Nat} {w : MEM} {h : PH} (wh : WH X h w) (h0 : vo 7 a0 = true) (h1 : vo 4 a3 = true) (h2 : vo 1 a4 = true) (h3 : vo 3 a5 = true) (hF : f_X7_runAgain fu 40 a0 a1 a2 a3 a4 a5 w = some (o, w1)) : CT 45 M_X7_runAgain [vR (700, a0), vI a1, vI a2, vR (400, a3), vR (100, a4), vR (300, a5)] h 0 0 (QP X (.inl none) w1) := (C_X7_runRow fu 40).2 a0 a1 a2 a3 a4 a5 w h o w1 wh h0 h1 h2 h3 hF
-- X7_run
def f_X7_run (fu : Nat) (l0 : Nat) (l1 : Nat) (l2 : Nat) (l3 : Nat) (w : MEM) : Option (Unit × MEM) := lt (sS w (10705, l0) (0 : Int32)) fun (w1 : MEM) => lt (sS w1 (10706, l0) (0 : Int32)) fun (w2 : MEM) => lt (sS w2 (10707, l0) (0 : Int32)) fun (w3 : MEM) => bnd (f_X7_runRow fu 40 l0 (0 : Int32) (rS w3 (10704, l0)) (0 : Int32) l1 l2 l3 w3) fun (u5 : Unit) (w4 : MEM) => some ((), w4)
theorem E_X7_run (fu : Nat) (l0 : Nat) (l1 : Nat) (l2 : Nat) (l3 : Nat) (w : MEM) : f_X7_run fu l0 l1 l2 l3 w = lt (sS w (10705, l0) (0 : Int32)) fun (w1 : MEM) => lt (sS w1 (10706, l0) (0 : Int32)) fun (w2 : MEM) => lt (sS w2 (10707, l0) (0 : Int32)) fun (w3 : MEM) => bnd (f_X7_runRow fu 40 l0 (0 : Int32) (rS w3 (10704, l0)) (0 : Int32) l1 l2 l3 w3) fun (u5 : Unit) (w4 : MEM) => some ((), w4) := rfl
theorem w_X7_run {X : SCR} {d rc rs : Nat} {Q : PO → PH → Prop} {o : Unit} {w1 : MEM} {fu : Nat} (hd : 46 ≤ d) (hq : ∀ h1, WH X h1 w1 → Q (.inl none) h1) {l0 : Nat} {l1 : Nat} {l2 : Nat} {l3 : Nat} {w : MEM} {h : PH} (wh : WH X h w) (hv_l0 : vo 7 l0 = true) (hv_l1 : vo 4 l1 = true) (hv_l2 : vo 1 l2 = true) (hv_l3 : vo 3 l3 = true) (hF : f_X7_run fu l0 l1 l2 l3 w = some (o, w1)) : PW d M_X7_run Q rc rs 0 [vR (700, l0), vR (400, l1), vR (100, l2), vR (300, l3)] [] h := by
  replace hF := (E_X7_run fu l0 l1 l2 l3 w).symm.trans hF
  refine r_X7_run_0 ?_
  replace hF := lt_of hF
  refine sF_S wh rfl hv_l0 ?_
  clear wh
  intro h wh
  replace hF := lt_of hF
  refine sF_S wh rfl hv_l0 ?_
  clear wh
  intro h wh
  replace hF := lt_of hF
  refine sF_S wh rfl hv_l0 ?_
  clear wh
  intro h wh
  refine gI_of (wh.1 10704 _ rfl hv_l0) ?_
  refine ⟨⟨_, wh.2.1 10700 _ rfl hv_l0⟩, ?_⟩
  obtain ⟨u5, w4, hG, hF⟩ := bnd_of hF
  refine cl_V (D := 45) (Nat.le_trans (by decide) hd) (c_X7_runRow wh hv_l0 hv_l1 hv_l2 hv_l3 hG) ?_
  clear hG
  clear wh
  intro h wh
  obtain ⟨rfl, rfl⟩ := some_of hF
  exact hq _ wh
theorem c_X7_run {X : SCR} {fu : Nat} {o : Unit} {w1 : MEM} {a0 : Nat} {a1 : Nat} {a2 : Nat} {a3 : Nat} {w : MEM} {h : PH} (wh : WH X h w) (h0 : vo 7 a0 = true) (h1 : vo 4 a1 = true) (h2 : vo 1 a2 = true) (h3 : vo 3 a3 = true) (hF : f_X7_run fu a0 a1 a2 a3 w = some (o, w1)) : CT 46 M_X7_run [vR (700, a0), vR (400, a1), vR (100, a2), vR (300, a3)] h 0 0 (QP X (.inl none) w1) :=
  CT_of mk_X7_run (Nat.le_of_ble_eq_true rfl) rfl (w_X7_run (fu := fu) (rc := 0) (rs := 0) (hd := Nat.le_refl 46) (hq := fun h1 g => ⟨rfl, g⟩) wh h0 h1 h2 h3 hF)
-- X8_append
def f_X8_append_3 (fu : Nat) : Nat → Nat → Int32 → Int32 → MEM → Option (Unit × MEM)
  | 0, _, _, _, _ => none
  | n + 1, l0, l1, l2, w => if l2 < 0 then (some ((), w)) else (if (rS w (10801, l0)) < (nI 600) then (ck (bI (rS w (10801, l0)) 600) (lt (sA w (801, l0) (rS w (10801, l0)) (vp_nar .byte ((l1 >>> (l2 &&& 31)).toInt8.toInt32))) fun (w1 : MEM) => lt (sS w1 (10801, l0) ((rS w1 (10801, l0)) + (1 : Int32))) fun (w2 : MEM) => f_X8_append_3 fu n l0 l1 (l2 + (-8 : Int32)) w2)) else (some ((), w)))
theorem E_X8_append_3 (fu : Nat) (n : Nat) (l0 : Nat) (l1 : Int32) (l2 : Int32) (w : MEM) : f_X8_append_3 fu (n + 1) l0 l1 l2 w = if l2 < 0 then (some ((), w)) else (if (rS w (10801, l0)) < (nI 600) then (ck (bI (rS w (10801, l0)) 600) (lt (sA w (801, l0) (rS w (10801, l0)) (vp_nar .byte ((l1 >>> (l2 &&& 31)).toInt8.toInt32))) fun (w1 : MEM) => lt (sS w1 (10801, l0) ((rS w1 (10801, l0)) + (1 : Int32))) fun (w2 : MEM) => f_X8_append_3 fu n l0 l1 (l2 + (-8 : Int32)) w2)) else (some ((), w))) := rfl
theorem w_X8_append_3 {X : SCR} {d rc rs : Nat} {Q : PO → PH → Prop} {o : Unit} {w1 : MEM} {fu : Nat} (hd : 0 ≤ d) (hq : ∀ h1, WH X h1 w1 → Q (.inl none) h1) : ∀ (n : Nat) (l0 : Nat) (l1 : Int32) (l2 : Int32) (w : MEM) (h : PH), WH X h w → vo 8 l0 = true → f_X8_append_3 fu n l0 l1 l2 w = some (o, w1) → PW d M_X8_append Q rc rs 3 [vR (800, l0), vI l1, vI l2] [] h := by
  intro n
  induction n with
  | zero => intro l0 l1 l2 w h wh hv_l0 hF; cases hF
  | succ n ih =>
    intro l0 l1 l2 w h wh hv_l0 hF
    replace hF := (E_X8_append_3 fu n l0 l1 l2 w).symm.trans hF
    refine r_X8_append_3 ?_
    refine ⟨fun c => ?_, fun c => ?_⟩
    · replace hF := if_ofT c hF
      obtain ⟨rfl, rfl⟩ := some_of hF
      exact hq _ wh
    · replace hF := if_ofF c hF
      refine gI_of (wh.1 10801 _ rfl hv_l0) ?_
      refine gA_of (b := (801, l0)) (wh.2.1 10800 _ rfl hv_l0) ?_
      refine lnA_of wh (oA_801 hv_l0) ?_
      refine ⟨fun c => ?_, fun c => ?_⟩
      · replace hF := if_ofT c hF
        refine gA_of (b := (801, l0)) (wh.2.1 10800 _ rfl hv_l0) ?_
        refine gI_of (wh.1 10801 _ rfl hv_l0) ?_
        obtain ⟨c, hF⟩ := ck_of hF
        replace hF := lt_of hF
        refine yB_of wh (oA_801 hv_l0) c ?_
        clear c wh
        intro h wh
        refine gI_of (wh.1 10801 _ rfl hv_l0) ?_
        replace hF := lt_of hF
        refine sF_S wh rfl hv_l0 ?_
        clear wh
        intro h wh
        exact ih _ _ _ _ _ wh hv_l0 hF
      · replace hF := if_ofF c hF
        obtain ⟨rfl, rfl⟩ := some_of hF
        exact hq _ wh
def f_X8_append (fu : Nat) (l0 : Nat) (l1 : Int32) (w : MEM) : Option (Unit × MEM) := f_X8_append_3 fu fu l0 l1 (24 : Int32) w
theorem E_X8_append (fu : Nat) (l0 : Nat) (l1 : Int32) (w : MEM) : f_X8_append fu l0 l1 w = f_X8_append_3 fu fu l0 l1 (24 : Int32) w := rfl
theorem w_X8_append {X : SCR} {d rc rs : Nat} {Q : PO → PH → Prop} {o : Unit} {w1 : MEM} {fu : Nat} (hd : 0 ≤ d) (hq : ∀ h1, WH X h1 w1 → Q (.inl none) h1) {l0 : Nat} {l1 : Int32} {w : MEM} {h : PH} (wh : WH X h w) (hv_l0 : vo 8 l0 = true) (hF : f_X8_append fu l0 l1 w = some (o, w1)) : PW d M_X8_append Q rc rs 0 [vR (800, l0), vI l1, vU] [] h := by
  replace hF := (E_X8_append fu l0 l1 w).symm.trans hF
  refine r_X8_append_0 ?_
  exact w_X8_append_3 hd hq  fu _ _ _ _ _ wh hv_l0 hF
theorem c_X8_append {X : SCR} {fu : Nat} {o : Unit} {w1 : MEM} {a0 : Nat} {a1 : Int32} {w : MEM} {h : PH} (wh : WH X h w) (h0 : vo 8 a0 = true) (hF : f_X8_append fu a0 a1 w = some (o, w1)) : CT 0 M_X8_append [vR (800, a0), vI a1] h 0 0 (QP X (.inl none) w1) :=
  CT_of mk_X8_append (Nat.le_of_ble_eq_true rfl) rfl (w_X8_append (fu := fu) (rc := 0) (rs := 0) (hd := Nat.le_refl 0) (hq := fun h1 g => ⟨rfl, g⟩) wh h0 hF)
-- X8_begin
def f_X8_begin (fu : Nat) (l0 : Nat) (l1 : Int32) (w : MEM) : Option (Unit × MEM) := bnd (f_J9_min_7cf53 fu l1 (nI 600) w) fun (x2 : Int32) (w1 : MEM) => lt (sS w1 (10802, l0) x2) fun (w3 : MEM) => lt (sS w3 (10801, l0) (0 : Int32)) fun (w4 : MEM) => lt (sS w4 (10803, l0) (0 : Int32)) fun (w5 : MEM) => lt (sS w5 (10804, l0) (0 : Int32)) fun (w6 : MEM) => lt (sS w6 (10805, l0) (0 : Int32)) fun (w7 : MEM) => lt (sS w7 (10806, l0) (-1 : Int32)) fun (w8 : MEM) => some ((), w8)
theorem E_X8_begin (fu : Nat) (l0 : Nat) (l1 : Int32) (w : MEM) : f_X8_begin fu l0 l1 w = bnd (f_J9_min_7cf53 fu l1 (nI 600) w) fun (x2 : Int32) (w1 : MEM) => lt (sS w1 (10802, l0) x2) fun (w3 : MEM) => lt (sS w3 (10801, l0) (0 : Int32)) fun (w4 : MEM) => lt (sS w4 (10803, l0) (0 : Int32)) fun (w5 : MEM) => lt (sS w5 (10804, l0) (0 : Int32)) fun (w6 : MEM) => lt (sS w6 (10805, l0) (0 : Int32)) fun (w7 : MEM) => lt (sS w7 (10806, l0) (-1 : Int32)) fun (w8 : MEM) => some ((), w8) := rfl
theorem w_X8_begin {X : SCR} {d rc rs : Nat} {Q : PO → PH → Prop} {o : Unit} {w1 : MEM} {fu : Nat} (hd : 1 ≤ d) (hq : ∀ h1, WH X h1 w1 → Q (.inl none) h1) {l0 : Nat} {l1 : Int32} {w : MEM} {h : PH} (wh : WH X h w) (hv_l0 : vo 8 l0 = true) (hF : f_X8_begin fu l0 l1 w = some (o, w1)) : PW d M_X8_begin Q rc rs 0 [vR (800, l0), vI l1] [] h := by
  replace hF := (E_X8_begin fu l0 l1 w).symm.trans hF
  refine r_X8_begin_0 ?_
  refine gA_of (b := (801, l0)) (wh.2.1 10800 _ rfl hv_l0) ?_
  refine lnA_of wh (oA_801 hv_l0) ?_
  obtain ⟨x2, w1, hG, hF⟩ := bnd_of hF
  refine cl_I (D := 0) (Nat.le_trans (by decide) hd) (c_J9_min_7cf53 wh  hG) ?_
  clear hG
  clear wh
  intro h wh
  replace hF := lt_of hF
  refine sF_S wh rfl hv_l0 ?_
  clear wh
  intro h wh
  replace hF := lt_of hF
  refine sF_S wh rfl hv_l0 ?_
  clear wh
  intro h wh
  replace hF := lt_of hF
  refine sF_S wh rfl hv_l0 ?_
  clear wh
  intro h wh
  replace hF := lt_of hF
  refine sF_S wh rfl hv_l0 ?_
  clear wh
  intro h wh
  replace hF := lt_of hF
  refine sF_S wh rfl hv_l0 ?_
  clear wh
  intro h wh
  replace hF := lt_of hF
  refine sF_S wh rfl hv_l0 ?_
  clear wh
  intro h wh
  obtain ⟨rfl, rfl⟩ := some_of hF
  exact hq _ wh
theorem c_X8_begin {X : SCR} {fu : Nat} {o : Unit} {w1 : MEM} {a0 : Nat} {a1 : Int32} {w : MEM} {h : PH} (wh : WH X h w) (h0 : vo 8 a0 = true) (hF : f_X8_begin fu a0 a1 w = some (o, w1)) : CT 1 M_X8_begin [vR (800, a0), vI a1] h 0 0 (QP X (.inl none) w1) :=
  CT_of mk_X8_begin (Nat.le_of_ble_eq_true rfl) rfl (w_X8_begin (fu := fu) (rc := 0) (rs := 0) (hd := Nat.le_refl 1) (hq := fun h1 g => ⟨rfl, g⟩) wh h0 hF)
