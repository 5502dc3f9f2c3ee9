-- X9_feed
def f_X9_feed (fu : Nat) (l0 : Nat) (l1 : Int32) (l2 : Int32) (l3 : Int32) (l4 : Int32) (l5 : Int32) (w : MEM) : Option (Int32 × MEM) := if (600 : Int32) < ((rS w (10801, 1)) + (20 : Int32)) then (some ((-1 : Int32), w)) else (bnd (f_X8_append fu 1 l1 w) fun (u2 : Unit) (w1 : MEM) => bnd (f_X8_append fu 1 l2 w1) fun (u4 : Unit) (w3 : MEM) => bnd (f_X8_append fu 1 l3 w3) fun (u6 : Unit) (w5 : MEM) => bnd (f_X8_append fu 1 l4 w5) fun (u8 : Unit) (w7 : MEM) => bnd (f_X8_append fu 1 l5 w7) fun (u10 : Unit) (w9 : MEM) => some ((rS w9 (10801, 1)), w9))
theorem E_X9_feed (fu : Nat) (l0 : Nat) (l1 : Int32) (l2 : Int32) (l3 : Int32) (l4 : Int32) (l5 : Int32) (w : MEM) : f_X9_feed fu l0 l1 l2 l3 l4 l5 w = if (600 : Int32) < ((rS w (10801, 1)) + (20 : Int32)) then (some ((-1 : Int32), w)) else (bnd (f_X8_append fu 1 l1 w) fun (u2 : Unit) (w1 : MEM) => bnd (f_X8_append fu 1 l2 w1) fun (u4 : Unit) (w3 : MEM) => bnd (f_X8_append fu 1 l3 w3) fun (u6 : Unit) (w5 : MEM) => bnd (f_X8_append fu 1 l4 w5) fun (u8 : Unit) (w7 : MEM) => bnd (f_X8_append fu 1 l5 w7) fun (u10 : Unit) (w9 : MEM) => some ((rS w9 (10801, 1)), w9)) := rfl
theorem w_X9_feed {X : SCR} {d rc rs : Nat} {Q : PO → PH → Prop} {o : Int32} {w1 : MEM} {fu : Nat} (hd : 1 ≤ d) (hq : ∀ h1, WH X h1 w1 → Q (.inl (some (vI o))) h1) {l0 : Nat} {l1 : Int32} {l2 : Int32} {l3 : Int32} {l4 : Int32} {l5 : Int32} {w : MEM} {h : PH} (wh : WH X h w) (hv_l0 : vo 9 l0 = true) (hF : f_X9_feed fu l0 l1 l2 l3 l4 l5 w = some (o, w1)) : PW d M_X9_feed Q rc rs 0 [vR (900, l0), vI l1, vI l2, vI l3, vI l4, vI l5] [] h := by
  replace hF := (E_X9_feed fu l0 l1 l2 l3 l4 l5 w).symm.trans hF
  refine r_X9_feed_0 ?_
  refine gO_of (i := 1) (wh.2.1 10900 _ rfl hv_l0) ?_
  refine gI_of (wh.1 10801 _ rfl (rfl : vo 8 1 = true)) ?_
  refine ⟨fun c => ?_, fun c => ?_⟩
  · replace hF := if_ofT c hF
    obtain ⟨rfl, rfl⟩ := some_of hF
    exact hq _ wh
  · replace hF := if_ofF c hF
    refine gO_of (i := 1) (wh.2.1 10900 _ rfl hv_l0) ?_
    refine ⟨⟨_, wh.2.1 10800 _ rfl (rfl : vo 8 1 = true)⟩, ?_⟩
    obtain ⟨u2, w1, hG, hF⟩ := bnd_of hF
    refine cl_V (D := 0) (Nat.le_trans (by decide) hd) (c_X8_append wh (rfl : vo 8 1 = true) hG) ?_
    clear hG
    clear wh
    intro h wh
    refine gO_of (i := 1) (wh.2.1 10900 _ rfl hv_l0) ?_
    refine ⟨⟨_, wh.2.1 10800 _ rfl (rfl : vo 8 1 = true)⟩, ?_⟩
    obtain ⟨u4, w3, hG, hF⟩ := bnd_of hF
    refine cl_V (D := 0) (Nat.le_trans (by decide) hd) (c_X8_append wh (rfl : vo 8 1 = true) hG) ?_
    clear hG
    clear wh
    intro h wh
    refine gO_of (i := 1) (wh.2.1 10900 _ rfl hv_l0) ?_
    refine ⟨⟨_, wh.2.1 10800 _ rfl (rfl : vo 8 1 = true)⟩, ?_⟩
    obtain ⟨u6, w5, hG, hF⟩ := bnd_of hF
    refine cl_V (D := 0) (Nat.le_trans (by decide) hd) (c_X8_append wh (rfl : vo 8 1 = true) hG) ?_
    clear hG
    clear wh
    intro h wh
    refine gO_of (i := 1) (wh.2.1 10900 _ rfl hv_l0) ?_
    refine ⟨⟨_, wh.2.1 10800 _ rfl (rfl : vo 8 1 = true)⟩, ?_⟩
    obtain ⟨u8, w7, hG, hF⟩ := bnd_of hF
    refine cl_V (D := 0) (Nat.le_trans (by decide) hd) (c_X8_append wh (rfl : vo 8 1 = true) hG) ?_
    clear hG
    clear wh
    intro h wh
    refine gO_of (i := 1) (wh.2.1 10900 _ rfl hv_l0) ?_
    refine ⟨⟨_, wh.2.1 10800 _ rfl (rfl : vo 8 1 = true)⟩, ?_⟩
    obtain ⟨u10, w9, hG, hF⟩ := bnd_of hF
    refine cl_V (D := 0) (Nat.le_trans (by decide) hd) (c_X8_append wh (rfl : vo 8 1 = true) hG) ?_
    clear hG
    clear wh
    intro h wh
    refine gO_of (i := 1) (wh.2.1 10900 _ rfl hv_l0) ?_
    refine gI_of (wh.1 10801 _ rfl (rfl : vo 8 1 = true)) ?_
    obtain ⟨rfl, rfl⟩ := some_of hF
    exact hq _ wh
theorem c_X9_feed {X : SCR} {fu : Nat} {o : Int32} {w1 : MEM} {a0 : Nat} {a1 : Int32} {a2 : Int32} {a3 : Int32} {a4 : Int32} {a5 : Int32} {w : MEM} {h : PH} (wh : WH X h w) (h0 : vo 9 a0 = true) (hF : f_X9_feed fu a0 a1 a2 a3 a4 a5 w = some (o, w1)) : CT 1 M_X9_feed [vR (900, a0), vI a1, vI a2, vI a3, vI a4, vI a5] h 0 0 (QP X (.inl (some (vI o))) w1) :=
  CT_of mk_X9_feed (Nat.le_of_ble_eq_true rfl) rfl (w_X9_feed (fu := fu) (rc := 0) (rs := 0) (hd := Nat.le_refl 1) (hq := fun h1 g => ⟨rfl, g⟩) wh h0 hF)
-- X9_need
def f_X9_need (fu : Nat) (l0 : Nat) (l1 : Int32) (w : MEM) : Option ((Unit ⊕ Nat) × MEM) := if l1 = 0 then (lt (sS w (10917, l0) ((rS w (10917, l0)) + (1 : Int32))) fun (w1 : MEM) => some (.inr 0, w1)) else (some (.inl (), w))
theorem E_X9_need (fu : Nat) (l0 : Nat) (l1 : Int32) (w : MEM) : f_X9_need fu l0 l1 w = if l1 = 0 then (lt (sS w (10917, l0) ((rS w (10917, l0)) + (1 : Int32))) fun (w1 : MEM) => some (.inr 0, w1)) else (some (.inl (), w)) := rfl
theorem w_X9_need {X : SCR} {d rc rs : Nat} {Q : PO → PH → Prop} {o : (Unit ⊕ Nat)} {w1 : MEM} {fu : Nat} (hd : 6 ≤ d) (hq : ∀ h1, WH X h1 w1 → Q (oV o) h1) {l0 : Nat} {l1 : Int32} {w : MEM} {h : PH} (wh : WH X h w) (hv_l0 : vo 9 l0 = true) (hF : f_X9_need fu l0 l1 w = some (o, w1)) : PW d M_X9_need Q (1 + rc) (6 + rs) 0 [vR (900, l0), vI l1] [] h := by
  replace hF := (E_X9_need fu l0 l1 w).symm.trans hF
  refine r_X9_need_0 ?_
  refine ⟨fun c => ?_, fun c => ?_⟩
  · replace hF := if_ofT c hF
    refine gI_of (wh.1 10917 _ rfl hv_l0) ?_
    replace hF := lt_of hF
    refine sF_S wh rfl hv_l0 ?_
    clear wh
    intro h wh
    obtain ⟨rfl, rfl⟩ := some_of hF
    exact thr_of wh hd (hq _ wh)
  · replace hF := if_ofF c hF
    obtain ⟨rfl, rfl⟩ := some_of hF
    exact hq _ wh
theorem c_X9_need {X : SCR} {fu : Nat} {o : (Unit ⊕ Nat)} {w1 : MEM} {a0 : Nat} {a1 : Int32} {w : MEM} {h : PH} (wh : WH X h w) (h0 : vo 9 a0 = true) (hF : f_X9_need fu a0 a1 w = some (o, w1)) : CT 6 M_X9_need [vR (900, a0), vI a1] h 1 6 (QP X (oV o) w1) :=
  CT_of mk_X9_need (Nat.le_of_ble_eq_true rfl) rfl (w_X9_need (fu := fu) (rc := 0) (rs := 0) (hd := Nat.le_refl 6) (hq := fun h1 g => ⟨rfl, g⟩) wh h0 hF)
-- X9_needWithin
def f_X9_needWithin (fu : Nat) (l0 : Nat) (l1 : Int32) (l2 : Int32) (l3 : Int32) (w : MEM) : Option ((Unit ⊕ Nat) × MEM) := if l1 < l2 then (bndT (f_X9_need fu l0 (0 : Int32) w) fun (u2 : Unit) (w1 : MEM) => some (.inl (), w1)) else (if l3 < l1 then (bndT (f_X9_need fu l0 (0 : Int32) w) fun (u4 : Unit) (w3 : MEM) => some (.inl (), w3)) else (bndT (f_X9_need fu l0 (1 : Int32) w) fun (u6 : Unit) (w5 : MEM) => some (.inl (), w5)))
theorem E_X9_needWithin (fu : Nat) (l0 : Nat) (l1 : Int32) (l2 : Int32) (l3 : Int32) (w : MEM) : f_X9_needWithin fu l0 l1 l2 l3 w = if l1 < l2 then (bndT (f_X9_need fu l0 (0 : Int32) w) fun (u2 : Unit) (w1 : MEM) => some (.inl (), w1)) else (if l3 < l1 then (bndT (f_X9_need fu l0 (0 : Int32) w) fun (u4 : Unit) (w3 : MEM) => some (.inl (), w3)) else (bndT (f_X9_need fu l0 (1 : Int32) w) fun (u6 : Unit) (w5 : MEM) => some (.inl (), w5))) := rfl
theorem w_X9_needWithin {X : SCR} {d rc rs : Nat} {Q : PO → PH → Prop} {o : (Unit ⊕ Nat)} {w1 : MEM} {fu : Nat} (hd : 7 ≤ d) (hq : ∀ h1, WH X h1 w1 → Q (oV o) h1) {l0 : Nat} {l1 : Int32} {l2 : Int32} {l3 : Int32} {w : MEM} {h : PH} (wh : WH X h w) (hv_l0 : vo 9 l0 = true) (hF : f_X9_needWithin fu l0 l1 l2 l3 w = some (o, w1)) : PW d M_X9_needWithin Q (1 + rc) (6 + rs) 0 [vR (900, l0), vI l1, vI l2, vI l3] [] h := by
  replace hF := (E_X9_needWithin fu l0 l1 l2 l3 w).symm.trans hF
  refine r_X9_needWithin_0 ?_
  refine ⟨fun c => ?_, fun c => ?_⟩
  · replace hF := if_ofT c hF
    refine ⟨⟨_, wh.2.1 10900 _ rfl hv_l0⟩, ?_⟩
    rcases bndT_of hF with ⟨u2, w1, hG, hF⟩ | ⟨e9, hG, rfl⟩
    rotate_left
    · exact cl_TX (D := 6) (Nat.le_trans (by decide) hd) (c_X9_need wh hv_l0 hG) (fun h1 wh => hq _ wh)
    refine cl_TV (D := 6) (Nat.le_trans (by decide) hd) (c_X9_need wh hv_l0 hG) ?_
    clear hG
    clear wh
    intro h wh
    obtain ⟨rfl, rfl⟩ := some_of hF
    exact hq _ wh
  · replace hF := if_ofF c hF
    refine ⟨fun c => ?_, fun c => ?_⟩
    · replace hF := if_ofT c hF
      refine ⟨⟨_, wh.2.1 10900 _ rfl hv_l0⟩, ?_⟩
      rcases bndT_of hF with ⟨u4, w3, hG, hF⟩ | ⟨e9, hG, rfl⟩
      rotate_left
      · exact cl_TX (D := 6) (Nat.le_trans (by decide) hd) (c_X9_need wh hv_l0 hG) (fun h1 wh => hq _ wh)
      refine cl_TV (D := 6) (Nat.le_trans (by decide) hd) (c_X9_need wh hv_l0 hG) ?_
      clear hG
      clear wh
      intro h wh
      obtain ⟨rfl, rfl⟩ := some_of hF
      exact hq _ wh
    · replace hF := if_ofF c hF
      refine ⟨⟨_, wh.2.1 10900 _ rfl hv_l0⟩, ?_⟩
      rcases bndT_of hF with ⟨u6, w5, hG, hF⟩ | ⟨e9, hG, rfl⟩
      rotate_left
      · exact cl_TX (D := 6) (Nat.le_trans (by decide) hd) (c_X9_need wh hv_l0 hG) (fun h1 wh => hq _ wh)
      refine cl_TV (D := 6) (Nat.le_trans (by decide) hd) (c_X9_need wh hv_l0 hG) ?_
      clear hG
      clear wh
      intro h wh
      obtain ⟨rfl, rfl⟩ := some_of hF
      exact hq _ wh
theorem c_X9_needWithin {X : SCR} {fu : Nat} {o : (Unit ⊕ Nat)} {w1 : MEM} {a0 : Nat} {a1 : Int32} {a2 : Int32} {a3 : Int32} {w : MEM} {h : PH} (wh : WH X h w) (h0 : vo 9 a0 = true) (hF : f_X9_needWithin fu a0 a1 a2 a3 w = some (o, w1)) : CT 7 M_X9_needWithin [vR (900, a0), vI a1, vI a2, vI a3] h 1 6 (QP X (oV o) w1) :=
  CT_of mk_X9_needWithin (Nat.le_of_ble_eq_true rfl) rfl (w_X9_needWithin (fu := fu) (rc := 0) (rs := 0) (hd := Nat.le_refl 7) (hq := fun h1 g => ⟨rfl, g⟩) wh h0 hF)
-- X9_beginText
def f_X9_beginText (fu : Nat) (l0 : Nat) (l1 : Int32) (l2 : Int32) (w : MEM) : Option ((Unit ⊕ Nat) × MEM) := bnd (f_J9_min_7cf53 fu l2 (rS w (10801, 1)) w) fun (x2 : Int32) (w1 : MEM) => bndT (f_X9_needWithin fu l0 l1 (0 : Int32) x2 w1) fun (u4 : Unit) (w3 : MEM) => bnd (f_X8_begin fu 1 l1 w3) fun (u6 : Unit) (w5 : MEM) => some (.inl (), w5)
theorem E_X9_beginText (fu : Nat) (l0 : Nat) (l1 : Int32) (l2 : Int32) (w : MEM) : f_X9_beginText fu l0 l1 l2 w = bnd (f_J9_min_7cf53 fu l2 (rS w (10801, 1)) w) fun (x2 : Int32) (w1 : MEM) => bndT (f_X9_needWithin fu l0 l1 (0 : Int32) x2 w1) fun (u4 : Unit) (w3 : MEM) => bnd (f_X8_begin fu 1 l1 w3) fun (u6 : Unit) (w5 : MEM) => some (.inl (), w5) := rfl
theorem w_X9_beginText {X : SCR} {d rc rs : Nat} {Q : PO → PH → Prop} {o : (Unit ⊕ Nat)} {w1 : MEM} {fu : Nat} (hd : 8 ≤ d) (hq : ∀ h1, WH X h1 w1 → Q (oV o) h1) {l0 : Nat} {l1 : Int32} {l2 : Int32} {w : MEM} {h : PH} (wh : WH X h w) (hv_l0 : vo 9 l0 = true) (hF : f_X9_beginText fu l0 l1 l2 w = some (o, w1)) : PW d M_X9_beginText Q (1 + rc) (6 + rs) 0 [vR (900, l0), vI l1, vI l2] [] h := by
  replace hF := (E_X9_beginText fu l0 l1 l2 w).symm.trans hF
  refine r_X9_beginText_0 ?_
  refine gO_of (i := 1) (wh.2.1 10900 _ rfl hv_l0) ?_
  refine gI_of (wh.1 10801 _ rfl (rfl : vo 8 1 = true)) ?_
  obtain ⟨x2, w1, hG, hF⟩ := bnd_of hF
  refine cl_I (D := 0) (Nat.le_trans (by decide) hd) (c_J9_min_7cf53 wh  hG) ?_
  clear hG
  clear wh
  intro h wh
  refine ⟨⟨_, wh.2.1 10900 _ rfl hv_l0⟩, ?_⟩
  rcases bndT_of hF with ⟨u4, w3, hG, hF⟩ | ⟨e9, hG, rfl⟩
  rotate_left
  · exact cl_TX (D := 7) (Nat.le_trans (by decide) hd) (c_X9_needWithin wh hv_l0 hG) (fun h1 wh => hq _ wh)
  refine cl_TV (D := 7) (Nat.le_trans (by decide) hd) (c_X9_needWithin wh hv_l0 hG) ?_
  clear hG
  clear wh
  intro h wh
  refine gO_of (i := 1) (wh.2.1 10900 _ rfl hv_l0) ?_
  refine ⟨⟨_, wh.2.1 10800 _ rfl (rfl : vo 8 1 = true)⟩, ?_⟩
  obtain ⟨u6, w5, hG, hF⟩ := bnd_of hF
  refine cl_V (D := 1) (Nat.le_trans (by decide) hd) (c_X8_begin wh (rfl : vo 8 1 = true) hG) ?_
  clear hG
  clear wh
  intro h wh
  obtain ⟨rfl, rfl⟩ := some_of hF
  exact hq _ wh
theorem c_X9_beginText {X : SCR} {fu : Nat} {o : (Unit ⊕ Nat)} {w1 : MEM} {a0 : Nat} {a1 : Int32} {a2 : Int32} {w : MEM} {h : PH} (wh : WH X h w) (h0 : vo 9 a0 = true) (hF : f_X9_beginText fu a0 a1 a2 w = some (o, w1)) : CT 8 M_X9_beginText [vR (900, a0), vI a1, vI a2] h 1 6 (QP X (oV o) w1) :=
  CT_of mk_X9_beginText (Nat.le_of_ble_eq_true rfl) rfl (w_X9_beginText (fu := fu) (rc := 0) (rs := 0) (hd := Nat.le_refl 8) (hq := fun h1 g => ⟨rfl, g⟩) wh h0 hF)
-- X9_court
def f_X9_court (fu : Nat) (l0 : Nat) (l1 : Int32) (w : MEM) : Option ((Int32 ⊕ Nat) × MEM) := bndT (f_X9_beginText fu l0 l1 (600 : Int32) w) fun (u2 : Unit) (w1 : MEM) => bnd (f_X1_read fu (rT w1 (10909, l0)) 1 w1) fun (x5 : Int32) (w4 : MEM) => if x5 = 0 then (some (.inl ((rS w4 (10805, 1)) - (10 : Int32)), w4)) else (lt (sT w4 (10909, l0) (rT w4 (10908, l0))) fun (w8 : MEM) => lt (sT w8 (10908, l0) (rT w4 (10909, l0))) fun (w9 : MEM) => bnd (f_X3_beUsual fu (rT w9 (10910, l0)) w9) fun (u12 : Unit) (w11 : MEM) => bnd (f_X0_clear fu (rT w11 (10912, l0)) w11) fun (u15 : Unit) (w14 : MEM) => bnd (f_X2_begin fu 8 (rT w14 (10908, l0)) w14) fun (u18 : Unit) (w17 : MEM) => lt (sS w17 (10914, l0) (0 : Int32)) fun (w19 : MEM) => lt (sS w19 (10915, l0) (0 : Int32)) fun (w20 : MEM) => some (.inl (rS w20 (10107, (rT w20 (10908, l0)))), w20))
theorem E_X9_court (fu : Nat) (l0 : Nat) (l1 : Int32) (w : MEM) : f_X9_court fu l0 l1 w = bndT (f_X9_beginText fu l0 l1 (600 : Int32) w) fun (u2 : Unit) (w1 : MEM) => bnd (f_X1_read fu (rT w1 (10909, l0)) 1 w1) fun (x5 : Int32) (w4 : MEM) => if x5 = 0 then (some (.inl ((rS w4 (10805, 1)) - (10 : Int32)), w4)) else (lt (sT w4 (10909, l0) (rT w4 (10908, l0))) fun (w8 : MEM) => lt (sT w8 (10908, l0) (rT w4 (10909, l0))) fun (w9 : MEM) => bnd (f_X3_beUsual fu (rT w9 (10910, l0)) w9) fun (u12 : Unit) (w11 : MEM) => bnd (f_X0_clear fu (rT w11 (10912, l0)) w11) fun (u15 : Unit) (w14 : MEM) => bnd (f_X2_begin fu 8 (rT w14 (10908, l0)) w14) fun (u18 : Unit) (w17 : MEM) => lt (sS w17 (10914, l0) (0 : Int32)) fun (w19 : MEM) => lt (sS w19 (10915, l0) (0 : Int32)) fun (w20 : MEM) => some (.inl (rS w20 (10107, (rT w20 (10908, l0)))), w20)) := rfl
theorem w_X9_court {X : SCR} {d rc rs : Nat} {Q : PO → PH → Prop} {o : (Int32 ⊕ Nat)} {w1 : MEM} {fu : Nat} (hd : 9 ≤ d) (hq : ∀ h1, WH X h1 w1 → Q (oI o) h1) {l0 : Nat} {l1 : Int32} {w : MEM} {h : PH} (wh : WH X h w) (hv_l0 : vo 9 l0 = true) (hF : f_X9_court fu l0 l1 w = some (o, w1)) : PW d M_X9_court Q (1 + rc) (6 + rs) 0 [vR (900, l0), vI l1, vU] [] h := by
  replace hF := (E_X9_court fu l0 l1 w).symm.trans hF
  refine r_X9_court_0 ?_
  refine ⟨⟨_, wh.2.1 10900 _ rfl hv_l0⟩, ?_⟩
  rcases bndT_of hF with ⟨u2, w1, hG, hF⟩ | ⟨e9, hG, rfl⟩
  rotate_left
  · exact cl_TX (D := 8) (Nat.le_trans (by decide) hd) (c_X9_beginText wh hv_l0 hG) (fun h1 wh => hq _ wh)
  refine cl_TV (D := 8) (Nat.le_trans (by decide) hd) (c_X9_beginText wh hv_l0 hG) ?_
  clear hG
  clear wh
  intro h wh
  have hT3 := (wh.2.2.1 10909 _ rfl hv_l0).2
  refine gO_of (wh.2.2.1 10909 _ rfl hv_l0).1 ?_
  refine gO_of (i := 1) (wh.2.1 10900 _ rfl hv_l0) ?_
  refine ⟨⟨_, wh.2.1 10100 _ rfl hT3⟩, ?_⟩
  obtain ⟨x5, w4, hG, hF⟩ := bnd_of hF
  refine cl_I (D := 8) (Nat.le_trans (by decide) hd) (c_X1_read wh hT3 (rfl : vo 8 1 = true) hG) ?_
  clear hG
  clear wh
  intro h wh
  refine ⟨fun c => ?_, fun c => ?_⟩
  · replace hF := if_ofT c hF
    refine gO_of (i := 1) (wh.2.1 10900 _ rfl hv_l0) ?_
    refine gI_of (wh.1 10805 _ rfl (rfl : vo 8 1 = true)) ?_
    obtain ⟨rfl, rfl⟩ := some_of hF
    exact hq _ wh
  · replace hF := if_ofF c hF
    have hT6 := (wh.2.2.1 10909 _ rfl hv_l0).2
    refine gO_of (wh.2.2.1 10909 _ rfl hv_l0).1 ?_
    have hT7 := (wh.2.2.1 10908 _ rfl hv_l0).2
    refine gO_of (wh.2.2.1 10908 _ rfl hv_l0).1 ?_
    replace hF := lt_of hF
    refine sF_T wh rfl rfl hv_l0 hT7 ?_
    clear wh
    intro h wh
    replace hF := lt_of hF
    refine sF_T wh rfl rfl hv_l0 hT6 ?_
    clear wh
    intro h wh
    have hT10 := (wh.2.2.1 10910 _ rfl hv_l0).2
    refine gO_of (wh.2.2.1 10910 _ rfl hv_l0).1 ?_
    refine ⟨⟨_, wh.2.1 10300 _ rfl hT10⟩, ?_⟩
    obtain ⟨u12, w11, hG, hF⟩ := bnd_of hF
    refine cl_V (D := 1) (Nat.le_trans (by decide) hd) (c_X3_beUsual wh hT10 hG) ?_
    clear hG
    clear wh
    intro h wh
    have hT13 := (wh.2.2.1 10912 _ rfl hv_l0).2
    refine gO_of (wh.2.2.1 10912 _ rfl hv_l0).1 ?_
    refine ⟨⟨_, wh.2.1 10000 _ rfl hT13⟩, ?_⟩
    obtain ⟨u15, w14, hG, hF⟩ := bnd_of hF
    refine cl_V (D := 1) (Nat.le_trans (by decide) hd) (c_X0_clear wh hT13 hG) ?_
    clear hG
    clear wh
    intro h wh
    refine gO_of (i := 8) (wh.2.1 10902 _ rfl hv_l0) ?_
    have hT16 := (wh.2.2.1 10908 _ rfl hv_l0).2
    refine gO_of (wh.2.2.1 10908 _ rfl hv_l0).1 ?_
    refine ⟨⟨_, wh.2.1 10200 _ rfl (rfl : vo 2 8 = true)⟩, ?_⟩
    obtain ⟨u18, w17, hG, hF⟩ := bnd_of hF
    refine cl_V (D := 1) (Nat.le_trans (by decide) hd) (c_X2_begin wh (rfl : vo 2 8 = true) hT16 hG) ?_
    clear hG
    clear wh
    intro h wh
    replace hF := lt_of hF
    refine sF_S wh rfl hv_l0 ?_
    clear wh
    intro h wh
    replace hF := lt_of hF
    refine sF_S wh rfl hv_l0 ?_
    clear wh
    intro h wh
    have hT21 := (wh.2.2.1 10908 _ rfl hv_l0).2
    refine gO_of (wh.2.2.1 10908 _ rfl hv_l0).1 ?_
    refine gI_of (wh.1 10107 _ rfl hT21) ?_
    obtain ⟨rfl, rfl⟩ := some_of hF
    exact hq _ wh
theorem c_X9_court {X : SCR} {fu : Nat} {o : (Int32 ⊕ Nat)} {w1 : MEM} {a0 : Nat} {a1 : Int32} {w : MEM} {h : PH} (wh : WH X h w) (h0 : vo 9 a0 = true) (hF : f_X9_court fu a0 a1 w = some (o, w1)) : CT 9 M_X9_court [vR (900, a0), vI a1] h 1 6 (QP X (oI o) w1) :=
  CT_of mk_X9_court (Nat.le_of_ble_eq_true rfl) rfl (w_X9_court (fu := fu) (rc := 0) (rs := 0) (hd := Nat.le_refl 9) (hq := fun h1 g => ⟨rfl, g⟩) wh h0 hF)
-- X9_law
def f_X9_law (fu : Nat) (l0 : Nat) (l1 : Int32) (w : MEM) : Option ((Int32 ⊕ Nat) × MEM) := bndT (f_X9_beginText fu l0 l1 (150 : Int32) w) fun (u2 : Unit) (w1 : MEM) => bnd (f_X3_read fu (rT w1 (10911, l0)) 1 w1) fun (x5 : Int32) (w4 : MEM) => if x5 = 0 then (some (.inl ((rS w4 (10805, 1)) - (10 : Int32)), w4)) else (lt (sT w4 (10911, l0) (rT w4 (10910, l0))) fun (w8 : MEM) => lt (sT w8 (10910, l0) (rT w4 (10911, l0))) fun (w9 : MEM) => some (.inl (1 : Int32), w9))
theorem E_X9_law (fu : Nat) (l0 : Nat) (l1 : Int32) (w : MEM) : f_X9_law fu l0 l1 w = bndT (f_X9_beginText fu l0 l1 (150 : Int32) w) fun (u2 : Unit) (w1 : MEM) => bnd (f_X3_read fu (rT w1 (10911, l0)) 1 w1) fun (x5 : Int32) (w4 : MEM) => if x5 = 0 then (some (.inl ((rS w4 (10805, 1)) - (10 : Int32)), w4)) else (lt (sT w4 (10911, l0) (rT w4 (10910, l0))) fun (w8 : MEM) => lt (sT w8 (10910, l0) (rT w4 (10911, l0))) fun (w9 : MEM) => some (.inl (1 : Int32), w9)) := rfl
theorem w_X9_law {X : SCR} {d rc rs : Nat} {Q : PO → PH → Prop} {o : (Int32 ⊕ Nat)} {w1 : MEM} {fu : Nat} (hd : 50 ≤ d) (hq : ∀ h1, WH X h1 w1 → Q (oI o) h1) {l0 : Nat} {l1 : Int32} {w : MEM} {h : PH} (wh : WH X h w) (hv_l0 : vo 9 l0 = true) (hF : f_X9_law fu l0 l1 w = some (o, w1)) : PW d M_X9_law Q (1 + rc) (6 + rs) 0 [vR (900, l0), vI l1, vU] [] h := by
  replace hF := (E_X9_law fu l0 l1 w).symm.trans hF
  refine r_X9_law_0 ?_
  refine ⟨⟨_, wh.2.1 10900 _ rfl hv_l0⟩, ?_⟩
  rcases bndT_of hF with ⟨u2, w1, hG, hF⟩ | ⟨e9, hG, rfl⟩
  rotate_left
  · exact cl_TX (D := 8) (Nat.le_trans (by decide) hd) (c_X9_beginText wh hv_l0 hG) (fun h1 wh => hq _ wh)
  refine cl_TV (D := 8) (Nat.le_trans (by decide) hd) (c_X9_beginText wh hv_l0 hG) ?_
  clear hG
  clear wh
  intro h wh
  have hT3 := (wh.2.2.1 10911 _ rfl hv_l0).2
  refine gO_of (wh.2.2.1 10911 _ rfl hv_l0).1 ?_
  refine gO_of (i := 1) (wh.2.1 10900 _ rfl hv_l0) ?_
  refine ⟨⟨_, wh.2.1 10300 _ rfl hT3⟩, ?_⟩
  obtain ⟨x5, w4, hG, hF⟩ := bnd_of hF
  refine cl_I (D := 49) (Nat.le_trans (by decide) hd) (c_X3_read wh hT3 (rfl : vo 8 1 = true) hG) ?_
  clear hG
  clear wh
  intro h wh
  refine ⟨fun c => ?_, fun c => ?_⟩
  · replace hF := if_ofT c hF
    refine gO_of (i := 1) (wh.2.1 10900 _ rfl hv_l0) ?_
    refine gI_of (wh.1 10805 _ rfl (rfl : vo 8 1 = true)) ?_
    obtain ⟨rfl, rfl⟩ := some_of hF
    exact hq _ wh
  · replace hF := if_ofF c hF
    have hT6 := (wh.2.2.1 10911 _ rfl hv_l0).2
    refine gO_of (wh.2.2.1 10911 _ rfl hv_l0).1 ?_
    have hT7 := (wh.2.2.1 10910 _ rfl hv_l0).2
    refine gO_of (wh.2.2.1 10910 _ rfl hv_l0).1 ?_
    replace hF := lt_of hF
    refine sF_T wh rfl rfl hv_l0 hT7 ?_
    clear wh
    intro h wh
    replace hF := lt_of hF
    refine sF_T wh rfl rfl hv_l0 hT6 ?_
    clear wh
    intro h wh
    obtain ⟨rfl, rfl⟩ := some_of hF
    exact hq _ wh
theorem c_X9_law {X : SCR} {fu : Nat} {o : (Int32 ⊕ Nat)} {w1 : MEM} {a0 : Nat} {a1 : Int32} {w : MEM} {h : PH} (wh : WH X h w) (h0 : vo 9 a0 = true) (hF : f_X9_law fu a0 a1 w = some (o, w1)) : CT 50 M_X9_law [vR (900, a0), vI a1] h 1 6 (QP X (oI o) w1) :=
  CT_of mk_X9_law (Nat.le_of_ble_eq_true rfl) rfl (w_X9_law (fu := fu) (rc := 0) (rs := 0) (hd := Nat.le_refl 50) (hq := fun h1 g => ⟨rfl, g⟩) wh h0 hF)
-- X9_work
def f_X9_work (fu : Nat) (l0 : Nat) (l1 : Int32) (w : MEM) : Option ((Int32 ⊕ Nat) × MEM) := bndT (f_X9_beginText fu l0 l1 (150 : Int32) w) fun (u2 : Unit) (w1 : MEM) => if (rS w1 (10202, 8)) < (16 : Int32) then (bnd (f_X7_read fu 3 1 (rS w1 (10107, (rT w1 (10908, l0)))) w1) fun (x5 : Int32) (w4 : MEM) => if x5 = 0 then (some (.inl ((rS w4 (10805, 1)) - (10 : Int32)), w4)) else (bnd (f_X2_keep fu 8 w4) fun (u7 : Unit) (w6 : MEM) => bnd (f_X7_run fu 3 (8 + 1) (rT w6 (10908, l0)) (rT w6 (10910, l0)) w6) fun (u11 : Unit) (w10 : MEM) => lt (sS w10 (10915, l0) (rS w10 (10707, 3))) fun (w12 : MEM) => some (.inl (rS w12 (10706, 3)), w12))) else (some (.inl (-20 : Int32), w1))
theorem E_X9_work (fu : Nat) (l0 : Nat) (l1 : Int32) (w : MEM) : f_X9_work fu l0 l1 w = bndT (f_X9_beginText fu l0 l1 (150 : Int32) w) fun (u2 : Unit) (w1 : MEM) => if (rS w1 (10202, 8)) < (16 : Int32) then (bnd (f_X7_read fu 3 1 (rS w1 (10107, (rT w1 (10908, l0)))) w1) fun (x5 : Int32) (w4 : MEM) => if x5 = 0 then (some (.inl ((rS w4 (10805, 1)) - (10 : Int32)), w4)) else (bnd (f_X2_keep fu 8 w4) fun (u7 : Unit) (w6 : MEM) => bnd (f_X7_run fu 3 (8 + 1) (rT w6 (10908, l0)) (rT w6 (10910, l0)) w6) fun (u11 : Unit) (w10 : MEM) => lt (sS w10 (10915, l0) (rS w10 (10707, 3))) fun (w12 : MEM) => some (.inl (rS w12 (10706, 3)), w12))) else (some (.inl (-20 : Int32), w1)) := rfl
theorem w_X9_work {X : SCR} {d rc rs : Nat} {Q : PO → PH → Prop} {o : (Int32 ⊕ Nat)} {w1 : MEM} {fu : Nat} (hd : 50 ≤ d) (hq : ∀ h1, WH X h1 w1 → Q (oI o) h1) {l0 : Nat} {l1 : Int32} {w : MEM} {h : PH} (wh : WH X h w) (hv_l0 : vo 9 l0 = true) (hF : f_X9_work fu l0 l1 w = some (o, w1)) : PW d M_X9_work Q (1 + rc) (6 + rs) 0 [vR (900, l0), vI l1] [] h := by
  replace hF := (E_X9_work fu l0 l1 w).symm.trans hF
  refine r_X9_work_0 ?_
  refine ⟨⟨_, wh.2.1 10900 _ rfl hv_l0⟩, ?_⟩
  rcases bndT_of hF with ⟨u2, w1, hG, hF⟩ | ⟨e9, hG, rfl⟩
  rotate_left
  · exact cl_TX (D := 8) (Nat.le_trans (by decide) hd) (c_X9_beginText wh hv_l0 hG) (fun h1 wh => hq _ wh)
  refine cl_TV (D := 8) (Nat.le_trans (by decide) hd) (c_X9_beginText wh hv_l0 hG) ?_
  clear hG
  clear wh
  intro h wh
  refine gO_of (i := 8) (wh.2.1 10902 _ rfl hv_l0) ?_
  refine gI_of (wh.1 10202 _ rfl (rfl : vo 2 8 = true)) ?_
  refine ⟨fun c => ?_, fun c => ?_⟩
  · replace hF := if_ofT c hF
    refine gO_of (i := 3) (wh.2.1 10901 _ rfl hv_l0) ?_
    refine gO_of (i := 1) (wh.2.1 10900 _ rfl hv_l0) ?_
    have hT3 := (wh.2.2.1 10908 _ rfl hv_l0).2
    refine gO_of (wh.2.2.1 10908 _ rfl hv_l0).1 ?_
    refine gI_of (wh.1 10107 _ rfl hT3) ?_
    refine ⟨⟨_, wh.2.1 10700 _ rfl (rfl : vo 7 3 = true)⟩, ?_⟩
    obtain ⟨x5, w4, hG, hF⟩ := bnd_of hF
    refine cl_I (D := 49) (Nat.le_trans (by decide) hd) (c_X7_read wh (rfl : vo 7 3 = true) (rfl : vo 8 1 = true) hG) ?_
    clear hG
    clear wh
    intro h wh
    refine ⟨fun c => ?_, fun c => ?_⟩
    · replace hF := if_ofT c hF
      refine gO_of (i := 1) (wh.2.1 10900 _ rfl hv_l0) ?_
      refine gI_of (wh.1 10805 _ rfl (rfl : vo 8 1 = true)) ?_
      obtain ⟨rfl, rfl⟩ := some_of hF
      exact hq _ wh
    · replace hF := if_ofF c hF
      refine gO_of (i := 8) (wh.2.1 10902 _ rfl hv_l0) ?_
      refine ⟨⟨_, wh.2.1 10200 _ rfl (rfl : vo 2 8 = true)⟩, ?_⟩
      obtain ⟨u7, w6, hG, hF⟩ := bnd_of hF
      refine cl_V (D := 4) (Nat.le_trans (by decide) hd) (c_X2_keep wh (rfl : vo 2 8 = true) hG) ?_
      clear hG
      clear wh
      intro h wh
      refine gO_of (i := 3) (wh.2.1 10901 _ rfl hv_l0) ?_
      refine gO_of (i := 8) (wh.2.1 10902 _ rfl hv_l0) ?_
      refine gO_of (i := (8 + 1)) (wh.2.1 10200 _ rfl (rfl : vo 2 8 = true)) ?_
      have hT8 := (wh.2.2.1 10908 _ rfl hv_l0).2
      refine gO_of (wh.2.2.1 10908 _ rfl hv_l0).1 ?_
      have hT9 := (wh.2.2.1 10910 _ rfl hv_l0).2
      refine gO_of (wh.2.2.1 10910 _ rfl hv_l0).1 ?_
      refine ⟨⟨_, wh.2.1 10700 _ rfl (rfl : vo 7 3 = true)⟩, ?_⟩
      obtain ⟨u11, w10, hG, hF⟩ := bnd_of hF
      refine cl_V (D := 46) (Nat.le_trans (by decide) hd) (c_X7_run wh (rfl : vo 7 3 = true) (vH1 (rfl : vo 2 8 = true)) hT8 hT9 hG) ?_
      clear hG
      clear wh
      intro h wh
      refine gO_of (i := 3) (wh.2.1 10901 _ rfl hv_l0) ?_
      refine gI_of (wh.1 10707 _ rfl (rfl : vo 7 3 = true)) ?_
      replace hF := lt_of hF
      refine sF_S wh rfl hv_l0 ?_
      clear wh
      intro h wh
      refine gO_of (i := 3) (wh.2.1 10901 _ rfl hv_l0) ?_
      refine gI_of (wh.1 10706 _ rfl (rfl : vo 7 3 = true)) ?_
      obtain ⟨rfl, rfl⟩ := some_of hF
      exact hq _ wh
  · replace hF := if_ofF c hF
    obtain ⟨rfl, rfl⟩ := some_of hF
    exact hq _ wh
theorem c_X9_work {X : SCR} {fu : Nat} {o : (Int32 ⊕ Nat)} {w1 : MEM} {a0 : Nat} {a1 : Int32} {w : MEM} {h : PH} (wh : WH X h w) (h0 : vo 9 a0 = true) (hF : f_X9_work fu a0 a1 w = some (o, w1)) : CT 50 M_X9_work [vR (900, a0), vI a1] h 1 6 (QP X (oI o) w1) :=
  CT_of mk_X9_work (Nat.le_of_ble_eq_true rfl) rfl (w_X9_work (fu := fu) (rc := 0) (rs := 0) (hd := Nat.le_refl 50) (hq := fun h1 g => ⟨rfl, g⟩) wh h0 hF)
-- X9_book
def f_X9_book (fu : Nat) (l0 : Nat) (l1 : Int32) (w : MEM) : Option ((Int32 ⊕ Nat) × MEM) := bndT (f_X9_beginText fu l0 l1 (60 : Int32) w) fun (u2 : Unit) (w1 : MEM) => bnd (f_X0_read fu (rT w1 (10913, l0)) 1 w1) fun (x5 : Int32) (w4 : MEM) => if x5 = 0 then (some (.inl ((rS w4 (10805, 1)) - (10 : Int32)), w4)) else (lt (sT w4 (10913, l0) (rT w4 (10912, l0))) fun (w8 : MEM) => lt (sT w8 (10912, l0) (rT w4 (10913, l0))) fun (w9 : MEM) => some (.inl (rS w9 (10001, (rT w9 (10912, l0)))), w9))
theorem E_X9_book (fu : Nat) (l0 : Nat) (l1 : Int32) (w : MEM) : f_X9_book fu l0 l1 w = bndT (f_X9_beginText fu l0 l1 (60 : Int32) w) fun (u2 : Unit) (w1 : MEM) => bnd (f_X0_read fu (rT w1 (10913, l0)) 1 w1) fun (x5 : Int32) (w4 : MEM) => if x5 = 0 then (some (.inl ((rS w4 (10805, 1)) - (10 : Int32)), w4)) else (lt (sT w4 (10913, l0) (rT w4 (10912, l0))) fun (w8 : MEM) => lt (sT w8 (10912, l0) (rT w4 (10913, l0))) fun (w9 : MEM) => some (.inl (rS w9 (10001, (rT w9 (10912, l0)))), w9)) := rfl
theorem w_X9_book {X : SCR} {d rc rs : Nat} {Q : PO → PH → Prop} {o : (Int32 ⊕ Nat)} {w1 : MEM} {fu : Nat} (hd : 9 ≤ d) (hq : ∀ h1, WH X h1 w1 → Q (oI o) h1) {l0 : Nat} {l1 : Int32} {w : MEM} {h : PH} (wh : WH X h w) (hv_l0 : vo 9 l0 = true) (hF : f_X9_book fu l0 l1 w = some (o, w1)) : PW d M_X9_book Q (1 + rc) (6 + rs) 0 [vR (900, l0), vI l1, vU] [] h := by
  replace hF := (E_X9_book fu l0 l1 w).symm.trans hF
  refine r_X9_book_0 ?_
  refine ⟨⟨_, wh.2.1 10900 _ rfl hv_l0⟩, ?_⟩
  rcases bndT_of hF with ⟨u2, w1, hG, hF⟩ | ⟨e9, hG, rfl⟩
  rotate_left
  · exact cl_TX (D := 8) (Nat.le_trans (by decide) hd) (c_X9_beginText wh hv_l0 hG) (fun h1 wh => hq _ wh)
  refine cl_TV (D := 8) (Nat.le_trans (by decide) hd) (c_X9_beginText wh hv_l0 hG) ?_
  clear hG
  clear wh
  intro h wh
  have hT3 := (wh.2.2.1 10913 _ rfl hv_l0).2
  refine gO_of (wh.2.2.1 10913 _ rfl hv_l0).1 ?_
  refine gO_of (i := 1) (wh.2.1 10900 _ rfl hv_l0) ?_
  refine ⟨⟨_, wh.2.1 10000 _ rfl hT3⟩, ?_⟩
  obtain ⟨x5, w4, hG, hF⟩ := bnd_of hF
  refine cl_I (D := 3) (Nat.le_trans (by decide) hd) (c_X0_read wh hT3 (rfl : vo 8 1 = true) hG) ?_
  clear hG
  clear wh
  intro h wh
  refine ⟨fun c => ?_, fun c => ?_⟩
  · replace hF := if_ofT c hF
    refine gO_of (i := 1) (wh.2.1 10900 _ rfl hv_l0) ?_
    refine gI_of (wh.1 10805 _ rfl (rfl : vo 8 1 = true)) ?_
    obtain ⟨rfl, rfl⟩ := some_of hF
    exact hq _ wh
  · replace hF := if_ofF c hF
    have hT6 := (wh.2.2.1 10913 _ rfl hv_l0).2
    refine gO_of (wh.2.2.1 10913 _ rfl hv_l0).1 ?_
    have hT7 := (wh.2.2.1 10912 _ rfl hv_l0).2
    refine gO_of (wh.2.2.1 10912 _ rfl hv_l0).1 ?_
    replace hF := lt_of hF
    refine sF_T wh rfl rfl hv_l0 hT7 ?_
    clear wh
    intro h wh
    replace hF := lt_of hF
    refine sF_T wh rfl rfl hv_l0 hT6 ?_
    clear wh
    intro h wh
    have hT10 := (wh.2.2.1 10912 _ rfl hv_l0).2
    refine gO_of (wh.2.2.1 10912 _ rfl hv_l0).1 ?_
    refine gI_of (wh.1 10001 _ rfl hT10) ?_
    obtain ⟨rfl, rfl⟩ := some_of hF
    exact hq _ wh
theorem c_X9_book {X : SCR} {fu : Nat} {o : (Int32 ⊕ Nat)} {w1 : MEM} {a0 : Nat} {a1 : Int32} {w : MEM} {h : PH} (wh : WH X h w) (h0 : vo 9 a0 = true) (hF : f_X9_book fu a0 a1 w = some (o, w1)) : CT 9 M_X9_book [vR (900, a0), vI a1] h 1 6 (QP X (oI o) w1) :=
  CT_of mk_X9_book (Nat.le_of_ble_eq_true rfl) rfl (w_X9_book (fu := fu) (rc := 0) (rs := 0) (hd := Nat.le_refl 9) (hq := fun h1 g => ⟨rfl, g⟩) wh h0 hF)
-- X9_fault
def f_X9_fault (fu : Nat) (l0 : Nat) (w : MEM) : Option (Int32 × MEM) := some ((rS w (10806, 1)), w)
theorem E_X9_fault (fu : Nat) (l0 : Nat) (w : MEM) : f_X9_fault fu l0 w = some ((rS w (10806, 1)), w) := rfl
theorem w_X9_fault {X : SCR} {d rc rs : Nat} {Q : PO → PH → Prop} {o : Int32} {w1 : MEM} {fu : Nat} (hd : 0 ≤ d) (hq : ∀ h1, WH X h1 w1 → Q (.inl (some (vI o))) h1) {l0 : Nat} {w : MEM} {h : PH} (wh : WH X h w) (hv_l0 : vo 9 l0 = true) (hF : f_X9_fault fu l0 w = some (o, w1)) : PW d M_X9_fault Q rc rs 0 [vR (900, l0)] [] h := by
  replace hF := (E_X9_fault fu l0 w).symm.trans hF
  refine r_X9_fault_0 ?_
  refine gO_of (i := 1) (wh.2.1 10900 _ rfl hv_l0) ?_
  refine gI_of (wh.1 10806 _ rfl (rfl : vo 8 1 = true)) ?_
  obtain ⟨rfl, rfl⟩ := some_of hF
  exact hq _ wh
theorem c_X9_fault {X : SCR} {fu : Nat} {o : Int32} {w1 : MEM} {a0 : Nat} {w : MEM} {h : PH} (wh : WH X h w) (h0 : vo 9 a0 = true) (hF : f_X9_fault fu a0 w = some (o, w1)) : CT 0 M_X9_fault [vR (900, a0)] h 0 0 (QP X (.inl (some (vI o))) w1) :=
  CT_of mk_X9_fault (Nat.le_of_ble_eq_true rfl) rfl (w_X9_fault (fu := fu) (rc := 0) (rs := 0) (hd := Nat.le_refl 0) (hq := fun h1 g => ⟨rfl, g⟩) wh h0 hF)
-- X9_undo
def f_X9_undo (fu : Nat) (l0 : Nat) (w : MEM) : Option (Int32 × MEM) := if 0 < (rS w (10202, 8)) then (bnd (f_X2_takeBack fu 8 w) fun (u2 : Unit) (w1 : MEM) => lt (sS w1 (10915, l0) (0 : Int32)) fun (w3 : MEM) => some ((rS w3 (10202, 8)), w3)) else (some ((-1 : Int32), w))
theorem E_X9_undo (fu : Nat) (l0 : Nat) (w : MEM) : f_X9_undo fu l0 w = if 0 < (rS w (10202, 8)) then (bnd (f_X2_takeBack fu 8 w) fun (u2 : Unit) (w1 : MEM) => lt (sS w1 (10915, l0) (0 : Int32)) fun (w3 : MEM) => some ((rS w3 (10202, 8)), w3)) else (some ((-1 : Int32), w)) := rfl
theorem w_X9_undo {X : SCR} {d rc rs : Nat} {Q : PO → PH → Prop} {o : Int32} {w1 : MEM} {fu : Nat} (hd : 5 ≤ d) (hq : ∀ h1, WH X h1 w1 → Q (.inl (some (vI o))) h1) {l0 : Nat} {w : MEM} {h : PH} (wh : WH X h w) (hv_l0 : vo 9 l0 = true) (hF : f_X9_undo fu l0 w = some (o, w1)) : PW d M_X9_undo Q rc rs 0 [vR (900, l0)] [] h := by
  replace hF := (E_X9_undo fu l0 w).symm.trans hF
  refine r_X9_undo_0 ?_
  refine gO_of (i := 8) (wh.2.1 10902 _ rfl hv_l0) ?_
  refine gI_of (wh.1 10202 _ rfl (rfl : vo 2 8 = true)) ?_
  refine ⟨fun c => ?_, fun c => ?_⟩
  · replace hF := if_ofT c hF
    refine gO_of (i := 8) (wh.2.1 10902 _ rfl hv_l0) ?_
    refine ⟨⟨_, wh.2.1 10200 _ rfl (rfl : vo 2 8 = true)⟩, ?_⟩
    obtain ⟨u2, w1, hG, hF⟩ := bnd_of hF
    refine cl_V (D := 4) (Nat.le_trans (by decide) hd) (c_X2_takeBack wh (rfl : vo 2 8 = true) hG) ?_
    clear hG
    clear wh
    intro h wh
    replace hF := lt_of hF
    refine sF_S wh rfl hv_l0 ?_
    clear wh
    intro h wh
    refine gO_of (i := 8) (wh.2.1 10902 _ rfl hv_l0) ?_
    refine gI_of (wh.1 10202 _ rfl (rfl : vo 2 8 = true)) ?_
    obtain ⟨rfl, rfl⟩ := some_of hF
    exact hq _ wh
  · replace hF := if_ofF c hF
    obtain ⟨rfl, rfl⟩ := some_of hF
    exact hq _ wh
theorem c_X9_undo {X : SCR} {fu : Nat} {o : Int32} {w1 : MEM} {a0 : Nat} {w : MEM} {h : PH} (wh : WH X h w) (h0 : vo 9 a0 = true) (hF : f_X9_undo fu a0 w = some (o, w1)) : CT 5 M_X9_undo [vR (900, a0)] h 0 0 (QP X (.inl (some (vI o))) w1) :=
  CT_of mk_X9_undo (Nat.le_of_ble_eq_true rfl) rfl (w_X9_undo (fu := fu) (rc := 0) (rs := 0) (hd := Nat.le_refl 5) (hq := fun h1 g => ⟨rfl, g⟩) wh h0 hF)
-- X9_sum
def f_X9_sum_10 (fu : Nat) : Nat → Int32 → LA → Int32 → Int32 → MEM → Option (Int32 × MEM)
  | 0, _, _, _, _, _ => none
  | n + 1, l1, l2, l3, l4, w => if l4 < l3 then (ck (bI l4 (aN l2.1)) (lt ((rA w l2 l4)) fun (v1 : Int32) => lt ((l1 + v1)) fun (v2 : Int32) => f_X9_sum_10 fu n v2 l2 l3 (l4 + (1 : Int32)) w)) else (some (l1, w))
theorem E_X9_sum_10 (fu : Nat) (n : Nat) (l1 : Int32) (l2 : LA) (l3 : Int32) (l4 : Int32) (w : MEM) : f_X9_sum_10 fu (n + 1) l1 l2 l3 l4 w = if l4 < l3 then (ck (bI l4 (aN l2.1)) (lt ((rA w l2 l4)) fun (v1 : Int32) => lt ((l1 + v1)) fun (v2 : Int32) => f_X9_sum_10 fu n v2 l2 l3 (l4 + (1 : Int32)) w)) else (some (l1, w)) := rfl
theorem w_X9_sum_10 {X : SCR} {d rc rs : Nat} {Q : PO → PH → Prop} {o : Int32} {w1 : MEM} {fu : Nat} (hd : 0 ≤ d) (hq : ∀ h1, WH X h1 w1 → Q (.inl (some (vI o))) h1) : ∀ (n : Nat) (l1 : Int32) (l2 : LA) (l3 : Int32) (l4 : Int32) (w : MEM) (h : PH), WH X h w → oA l2 0 → f_X9_sum_10 fu n l1 l2 l3 l4 w = some (o, w1) → PW d M_X9_sum Q rc rs 10 [vU, vI l1, vR l2, vI l3, vI l4, vU] [] h := by
  intro n
  induction n with
  | zero => intro l1 l2 l3 l4 w h wh ha_l2 hF; cases hF
  | succ n ih =>
    intro l1 l2 l3 l4 w h wh ha_l2 hF
    replace hF := (E_X9_sum_10 fu n l1 l2 l3 l4 w).symm.trans hF
    refine r_X9_sum_10 ?_
    refine ⟨fun c => ?_, fun c => ?_⟩
    · replace hF := if_ofT c hF
      obtain ⟨c, hF⟩ := ck_of hF
      refine xI_of wh ha_l2 c ?_
      clear c
      replace hF := lt_of hF
      replace hF := lt_of hF
      exact ih _ _ _ _ _ _ wh ha_l2 hF
    · replace hF := if_ofF c hF
      obtain ⟨rfl, rfl⟩ := some_of hF
      exact hq _ wh
def f_X9_sum (fu : Nat) (l0 : LA) (w : MEM) : Option (Int32 × MEM) := lt ((nI (aN l0.1))) fun (v1 : Int32) => f_X9_sum_10 fu fu (0 : Int32) l0 v1 (0 : Int32) w
theorem E_X9_sum (fu : Nat) (l0 : LA) (w : MEM) : f_X9_sum fu l0 w = lt ((nI (aN l0.1))) fun (v1 : Int32) => f_X9_sum_10 fu fu (0 : Int32) l0 v1 (0 : Int32) w := rfl
theorem w_X9_sum {X : SCR} {d rc rs : Nat} {Q : PO → PH → Prop} {o : Int32} {w1 : MEM} {fu : Nat} (hd : 0 ≤ d) (hq : ∀ h1, WH X h1 w1 → Q (.inl (some (vI o))) h1) {l0 : LA} {w : MEM} {h : PH} (wh : WH X h w) (ha_l0 : oA l0 0) (hF : f_X9_sum fu l0 w = some (o, w1)) : PW d M_X9_sum Q rc rs 0 [vR l0, vU, vU, vU, vU, vU] [] h := by
  replace hF := (E_X9_sum fu l0 w).symm.trans hF
  refine r_X9_sum_0 ?_
  refine lnA_of wh ha_l0 ?_
  replace hF := lt_of hF
  exact w_X9_sum_10 hd hq  fu _ _ _ _ _ _ wh ha_l0 hF
theorem c_X9_sum {X : SCR} {fu : Nat} {o : Int32} {w1 : MEM} {a0 : LA} {w : MEM} {h : PH} (wh : WH X h w) (h0 : oA a0 0) (hF : f_X9_sum fu a0 w = some (o, w1)) : CT 0 M_X9_sum [vR a0] h 0 0 (QP X (.inl (some (vI o))) w1) :=
  CT_of mk_X9_sum (Nat.le_of_ble_eq_true rfl) rfl (w_X9_sum (fu := fu) (rc := 0) (rs := 0) (hd := Nat.le_refl 0) (hq := fun h1 g => ⟨rfl, g⟩) wh h0 hF)
-- X9_told
def f_X9_told (fu : Nat) (l0 : Nat) (l1 : Int32) (w : MEM) : Option ((Int32 ⊕ Nat) × MEM) := bndT (f_X9_needWithin fu l0 l1 (0 : Int32) (11 : Int32) w) fun (u2 : Unit) (w1 : MEM) => if l1 = (0 : Int32) then (some (.inl (rS w1 (10107, (rT w1 (10908, l0)))), w1)) else (if l1 = (1 : Int32) then (some (.inl (rS w1 (10108, (rT w1 (10908, l0)))), w1)) else (if l1 = (2 : Int32) then (some (.inl (rS w1 (10109, (rT w1 (10908, l0)))), w1)) else (if l1 = (3 : Int32) then (some (.inl (rS w1 (10409, (8 + 1))), w1)) else (if l1 = (4 : Int32) then (bnd (f_X4_standing fu (8 + 1) w1) fun (x14 : Int32) (w13 : MEM) => some (.inl x14, w13)) else (if l1 = (5 : Int32) then (bnd (f_X4_cloudedHeirs fu (8 + 1) w1) fun (x12 : Int32) (w11 : MEM) => some (.inl x12, w11)) else (if l1 = (6 : Int32) then (bnd (f_X4_ranked fu (8 + 1) (0 : Int32) w1) fun (x10 : Int32) (w9 : MEM) => some (.inl x10, w9)) else (if l1 = (7 : Int32) then (some (.inl (rS w1 (10110, (rT w1 (10908, l0)))), w1)) else (if l1 = (8 : Int32) then (bnd (f_X9_sum fu (409, (8 + 1)) w1) fun (x7 : Int32) (w6 : MEM) => some (.inl x7, w6)) else (if l1 = (9 : Int32) then (some (.inl (rS w1 (10001, (rT w1 (10912, l0)))), w1)) else (if l1 = (10 : Int32) then (some (.inl (rS w1 (10915, l0)), w1)) else (bnd (f_X9_sum fu (403, (8 + 1)) w1) fun (x4 : Int32) (w3 : MEM) => some (.inl x4, w3))))))))))))
theorem E_X9_told (fu : Nat) (l0 : Nat) (l1 : Int32) (w : MEM) : f_X9_told fu l0 l1 w = bndT (f_X9_needWithin fu l0 l1 (0 : Int32) (11 : Int32) w) fun (u2 : Unit) (w1 : MEM) => if l1 = (0 : Int32) then (some (.inl (rS w1 (10107, (rT w1 (10908, l0)))), w1)) else (if l1 = (1 : Int32) then (some (.inl (rS w1 (10108, (rT w1 (10908, l0)))), w1)) else (if l1 = (2 : Int32) then (some (.inl (rS w1 (10109, (rT w1 (10908, l0)))), w1)) else (if l1 = (3 : Int32) then (some (.inl (rS w1 (10409, (8 + 1))), w1)) else (if l1 = (4 : Int32) then (bnd (f_X4_standing fu (8 + 1) w1) fun (x14 : Int32) (w13 : MEM) => some (.inl x14, w13)) else (if l1 = (5 : Int32) then (bnd (f_X4_cloudedHeirs fu (8 + 1) w1) fun (x12 : Int32) (w11 : MEM) => some (.inl x12, w11)) else (if l1 = (6 : Int32) then (bnd (f_X4_ranked fu (8 + 1) (0 : Int32) w1) fun (x10 : Int32) (w9 : MEM) => some (.inl x10, w9)) else (if l1 = (7 : Int32) then (some (.inl (rS w1 (10110, (rT w1 (10908, l0)))), w1)) else (if l1 = (8 : Int32) then (bnd (f_X9_sum fu (409, (8 + 1)) w1) fun (x7 : Int32) (w6 : MEM) => some (.inl x7, w6)) else (if l1 = (9 : Int32) then (some (.inl (rS w1 (10001, (rT w1 (10912, l0)))), w1)) else (if l1 = (10 : Int32) then (some (.inl (rS w1 (10915, l0)), w1)) else (bnd (f_X9_sum fu (403, (8 + 1)) w1) fun (x4 : Int32) (w3 : MEM) => some (.inl x4, w3)))))))))))) := rfl
theorem w_X9_told {X : SCR} {d rc rs : Nat} {Q : PO → PH → Prop} {o : (Int32 ⊕ Nat)} {w1 : MEM} {fu : Nat} (hd : 8 ≤ d) (hq : ∀ h1, WH X h1 w1 → Q (oI o) h1) {l0 : Nat} {l1 : Int32} {w : MEM} {h : PH} (wh : WH X h w) (hv_l0 : vo 9 l0 = true) (hF : f_X9_told fu l0 l1 w = some (o, w1)) : PW d M_X9_told Q (1 + rc) (6 + rs) 0 [vR (900, l0), vI l1, vU] [] h := by
  replace hF := (E_X9_told fu l0 l1 w).symm.trans hF
  refine r_X9_told_0 ?_
  refine ⟨⟨_, wh.2.1 10900 _ rfl hv_l0⟩, ?_⟩
  rcases bndT_of hF with ⟨u2, w1, hG, hF⟩ | ⟨e9, hG, rfl⟩
  rotate_left
  · exact cl_TX (D := 7) (Nat.le_trans (by decide) hd) (c_X9_needWithin wh hv_l0 hG) (fun h1 wh => hq _ wh)
  refine cl_TV (D := 7) (Nat.le_trans (by decide) hd) (c_X9_needWithin wh hv_l0 hG) ?_
  clear hG
  clear wh
  intro h wh
  refine gO_of (i := 8) (wh.2.1 10902 _ rfl hv_l0) ?_
  refine gO_of (i := (8 + 1)) (wh.2.1 10200 _ rfl (rfl : vo 2 8 = true)) ?_
  refine ⟨fun c => ?_, fun c => ?_, fun c => ?_, fun c => ?_, fun c => ?_, fun c => ?_, fun c => ?_, fun c => ?_, fun c => ?_, fun c => ?_, fun c => ?_, fun c => ?_⟩
  · replace hF := if_ofT c hF
    have hT17 := (wh.2.2.1 10908 _ rfl hv_l0).2
    refine gO_of (wh.2.2.1 10908 _ rfl hv_l0).1 ?_
    refine gI_of (wh.1 10107 _ rfl hT17) ?_
    obtain ⟨rfl, rfl⟩ := some_of hF
    exact hq _ wh
  · replace hF := if_ofF (fun e9 => absurd (c.symm.trans e9) (by decide)) hF; replace hF := if_ofT c hF
    have hT16 := (wh.2.2.1 10908 _ rfl hv_l0).2
    refine gO_of (wh.2.2.1 10908 _ rfl hv_l0).1 ?_
    refine gI_of (wh.1 10108 _ rfl hT16) ?_
    obtain ⟨rfl, rfl⟩ := some_of hF
    exact hq _ wh
  · replace hF := if_ofF (fun e9 => absurd (c.symm.trans e9) (by decide)) hF; replace hF := if_ofF (fun e9 => absurd (c.symm.trans e9) (by decide)) hF; replace hF := if_ofT c hF
    have hT15 := (wh.2.2.1 10908 _ rfl hv_l0).2
    refine gO_of (wh.2.2.1 10908 _ rfl hv_l0).1 ?_
    refine gI_of (wh.1 10109 _ rfl hT15) ?_
    obtain ⟨rfl, rfl⟩ := some_of hF
    exact hq _ wh
  · replace hF := if_ofF (fun e9 => absurd (c.symm.trans e9) (by decide)) hF; replace hF := if_ofF (fun e9 => absurd (c.symm.trans e9) (by decide)) hF; replace hF := if_ofF (fun e9 => absurd (c.symm.trans e9) (by decide)) hF; replace hF := if_ofT c hF
    refine gI_of (wh.1 10409 _ rfl (vH1 (rfl : vo 2 8 = true))) ?_
    obtain ⟨rfl, rfl⟩ := some_of hF
    exact hq _ wh
  · replace hF := if_ofF (fun e9 => absurd (c.symm.trans e9) (by decide)) hF; replace hF := if_ofF (fun e9 => absurd (c.symm.trans e9) (by decide)) hF; replace hF := if_ofF (fun e9 => absurd (c.symm.trans e9) (by decide)) hF; replace hF := if_ofF (fun e9 => absurd (c.symm.trans e9) (by decide)) hF; replace hF := if_ofT c hF
    refine ⟨⟨_, wh.2.1 10400 _ rfl (vH1 (rfl : vo 2 8 = true))⟩, ?_⟩
    obtain ⟨x14, w13, hG, hF⟩ := bnd_of hF
    refine cl_I (D := 0) (Nat.le_trans (by decide) hd) (c_X4_standing wh (vH1 (rfl : vo 2 8 = true)) hG) ?_
    clear hG
    clear wh
    intro h wh
    obtain ⟨rfl, rfl⟩ := some_of hF
    exact hq _ wh
  · replace hF := if_ofF (fun e9 => absurd (c.symm.trans e9) (by decide)) hF; replace hF := if_ofF (fun e9 => absurd (c.symm.trans e9) (by decide)) hF; replace hF := if_ofF (fun e9 => absurd (c.symm.trans e9) (by decide)) hF; replace hF := if_ofF (fun e9 => absurd (c.symm.trans e9) (by decide)) hF; replace hF := if_ofF (fun e9 => absurd (c.symm.trans e9) (by decide)) hF; replace hF := if_ofT c hF
    refine ⟨⟨_, wh.2.1 10400 _ rfl (vH1 (rfl : vo 2 8 = true))⟩, ?_⟩
    obtain ⟨x12, w11, hG, hF⟩ := bnd_of hF
    refine cl_I (D := 0) (Nat.le_trans (by decide) hd) (c_X4_cloudedHeirs wh (vH1 (rfl : vo 2 8 = true)) hG) ?_
    clear hG
    clear wh
    intro h wh
    obtain ⟨rfl, rfl⟩ := some_of hF
    exact hq _ wh
  · replace hF := if_ofF (fun e9 => absurd (c.symm.trans e9) (by decide)) hF; replace hF := if_ofF (fun e9 => absurd (c.symm.trans e9) (by decide)) hF; replace hF := if_ofF (fun e9 => absurd (c.symm.trans e9) (by decide)) hF; replace hF := if_ofF (fun e9 => absurd (c.symm.trans e9) (by decide)) hF; replace hF := if_ofF (fun e9 => absurd (c.symm.trans e9) (by decide)) hF; replace hF := if_ofF (fun e9 => absurd (c.symm.trans e9) (by decide)) hF; replace hF := if_ofT c hF
    refine ⟨⟨_, wh.2.1 10400 _ rfl (vH1 (rfl : vo 2 8 = true))⟩, ?_⟩
    obtain ⟨x10, w9, hG, hF⟩ := bnd_of hF
    refine cl_I (D := 2) (Nat.le_trans (by decide) hd) (c_X4_ranked wh (vH1 (rfl : vo 2 8 = true)) hG) ?_
    clear hG
    clear wh
    intro h wh
    obtain ⟨rfl, rfl⟩ := some_of hF
    exact hq _ wh
  · replace hF := if_ofF (fun e9 => absurd (c.symm.trans e9) (by decide)) hF; replace hF := if_ofF (fun e9 => absurd (c.symm.trans e9) (by decide)) hF; replace hF := if_ofF (fun e9 => absurd (c.symm.trans e9) (by decide)) hF; replace hF := if_ofF (fun e9 => absurd (c.symm.trans e9) (by decide)) hF; replace hF := if_ofF (fun e9 => absurd (c.symm.trans e9) (by decide)) hF; replace hF := if_ofF (fun e9 => absurd (c.symm.trans e9) (by decide)) hF; replace hF := if_ofF (fun e9 => absurd (c.symm.trans e9) (by decide)) hF; replace hF := if_ofT c hF
    have hT8 := (wh.2.2.1 10908 _ rfl hv_l0).2
    refine gO_of (wh.2.2.1 10908 _ rfl hv_l0).1 ?_
    refine gI_of (wh.1 10110 _ rfl hT8) ?_
    obtain ⟨rfl, rfl⟩ := some_of hF
    exact hq _ wh
  · replace hF := if_ofF (fun e9 => absurd (c.symm.trans e9) (by decide)) hF; replace hF := if_ofF (fun e9 => absurd (c.symm.trans e9) (by decide)) hF; replace hF := if_ofF (fun e9 => absurd (c.symm.trans e9) (by decide)) hF; replace hF := if_ofF (fun e9 => absurd (c.symm.trans e9) (by decide)) hF; replace hF := if_ofF (fun e9 => absurd (c.symm.trans e9) (by decide)) hF; replace hF := if_ofF (fun e9 => absurd (c.symm.trans e9) (by decide)) hF; replace hF := if_ofF (fun e9 => absurd (c.symm.trans e9) (by decide)) hF; replace hF := if_ofF (fun e9 => absurd (c.symm.trans e9) (by decide)) hF; replace hF := if_ofT c hF
    refine gA_of (b := (409, (8 + 1))) (wh.2.1 10408 _ rfl (vH1 (rfl : vo 2 8 = true))) ?_
    obtain ⟨x7, w6, hG, hF⟩ := bnd_of hF
    refine cl_I (D := 0) (Nat.le_trans (by decide) hd) (c_X9_sum wh (oA_409 (vH1 (rfl : vo 2 8 = true))) hG) ?_
    clear hG
    clear wh
    intro h wh
    obtain ⟨rfl, rfl⟩ := some_of hF
    exact hq _ wh
  · replace hF := if_ofF (fun e9 => absurd (c.symm.trans e9) (by decide)) hF; replace hF := if_ofF (fun e9 => absurd (c.symm.trans e9) (by decide)) hF; replace hF := if_ofF (fun e9 => absurd (c.symm.trans e9) (by decide)) hF; replace hF := if_ofF (fun e9 => absurd (c.symm.trans e9) (by decide)) hF; replace hF := if_ofF (fun e9 => absurd (c.symm.trans e9) (by decide)) hF; replace hF := if_ofF (fun e9 => absurd (c.symm.trans e9) (by decide)) hF; replace hF := if_ofF (fun e9 => absurd (c.symm.trans e9) (by decide)) hF; replace hF := if_ofF (fun e9 => absurd (c.symm.trans e9) (by decide)) hF; replace hF := if_ofF (fun e9 => absurd (c.symm.trans e9) (by decide)) hF; replace hF := if_ofT c hF
    have hT5 := (wh.2.2.1 10912 _ rfl hv_l0).2
    refine gO_of (wh.2.2.1 10912 _ rfl hv_l0).1 ?_
    refine gI_of (wh.1 10001 _ rfl hT5) ?_
    obtain ⟨rfl, rfl⟩ := some_of hF
    exact hq _ wh
  · replace hF := if_ofF (fun e9 => absurd (c.symm.trans e9) (by decide)) hF; replace hF := if_ofF (fun e9 => absurd (c.symm.trans e9) (by decide)) hF; replace hF := if_ofF (fun e9 => absurd (c.symm.trans e9) (by decide)) hF; replace hF := if_ofF (fun e9 => absurd (c.symm.trans e9) (by decide)) hF; replace hF := if_ofF (fun e9 => absurd (c.symm.trans e9) (by decide)) hF; replace hF := if_ofF (fun e9 => absurd (c.symm.trans e9) (by decide)) hF; replace hF := if_ofF (fun e9 => absurd (c.symm.trans e9) (by decide)) hF; replace hF := if_ofF (fun e9 => absurd (c.symm.trans e9) (by decide)) hF; replace hF := if_ofF (fun e9 => absurd (c.symm.trans e9) (by decide)) hF; replace hF := if_ofF (fun e9 => absurd (c.symm.trans e9) (by decide)) hF; replace hF := if_ofT c hF
    refine gI_of (wh.1 10915 _ rfl hv_l0) ?_
    obtain ⟨rfl, rfl⟩ := some_of hF
    exact hq _ wh
  · replace hF := if_ofF c.1 hF; replace hF := if_ofF c.2.1 hF; replace hF := if_ofF c.2.2.1 hF; replace hF := if_ofF c.2.2.2.1 hF; replace hF := if_ofF c.2.2.2.2.1 hF; replace hF := if_ofF c.2.2.2.2.2.1 hF; replace hF := if_ofF c.2.2.2.2.2.2.1 hF; replace hF := if_ofF c.2.2.2.2.2.2.2.1 hF; replace hF := if_ofF c.2.2.2.2.2.2.2.2.1 hF; replace hF := if_ofF c.2.2.2.2.2.2.2.2.2.1 hF; replace hF := if_ofF c.2.2.2.2.2.2.2.2.2.2 hF
    refine gA_of (b := (403, (8 + 1))) (wh.2.1 10402 _ rfl (vH1 (rfl : vo 2 8 = true))) ?_
    obtain ⟨x4, w3, hG, hF⟩ := bnd_of hF
    refine cl_I (D := 0) (Nat.le_trans (by decide) hd) (c_X9_sum wh (oA_403 (vH1 (rfl : vo 2 8 = true))) hG) ?_
    clear hG
    clear wh
    intro h wh
    obtain ⟨rfl, rfl⟩ := some_of hF
    exact hq _ wh
theorem c_X9_told {X : SCR} {fu : Nat} {o : (Int32 ⊕ Nat)} {w1 : MEM} {a0 : Nat} {a1 : Int32} {w : MEM} {h : PH} (wh : WH X h w) (h0 : vo 9 a0 = true) (hF : f_X9_told fu a0 a1 w = some (o, w1)) : CT 8 M_X9_told [vR (900, a0), vI a1] h 1 6 (QP X (oI o) w1) :=
  CT_of mk_X9_told (Nat.le_of_ble_eq_true rfl) rfl (w_X9_told (fu := fu) (rc := 0) (rs := 0) (hd := Nat.le_refl 8) (hq := fun h1 g => ⟨rfl, g⟩) wh h0 hF)
-- X9_needBelow
def f_X9_needBelow (fu : Nat) (l0 : Nat) (l1 : Int32) (l2 : Int32) (w : MEM) : Option ((Unit ⊕ Nat) × MEM) := if l1 < 0 then (lt (sS w (10916, l0) ((rS w (10916, l0)) + (1 : Int32))) fun (w1 : MEM) => some (.inr 1, w1)) else (if l1 < l2 then (some (.inl (), w)) else (lt (sS w (10916, l0) ((rS w (10916, l0)) + (1 : Int32))) fun (w2 : MEM) => some (.inr 1, w2)))
theorem E_X9_needBelow (fu : Nat) (l0 : Nat) (l1 : Int32) (l2 : Int32) (w : MEM) : f_X9_needBelow fu l0 l1 l2 w = if l1 < 0 then (lt (sS w (10916, l0) ((rS w (10916, l0)) + (1 : Int32))) fun (w1 : MEM) => some (.inr 1, w1)) else (if l1 < l2 then (some (.inl (), w)) else (lt (sS w (10916, l0) ((rS w (10916, l0)) + (1 : Int32))) fun (w2 : MEM) => some (.inr 1, w2))) := rfl
theorem w_X9_needBelow {X : SCR} {d rc rs : Nat} {Q : PO → PH → Prop} {o : (Unit ⊕ Nat)} {w1 : MEM} {fu : Nat} (hd : 6 ≤ d) (hq : ∀ h1, WH X h1 w1 → Q (oV o) h1) {l0 : Nat} {l1 : Int32} {l2 : Int32} {w : MEM} {h : PH} (wh : WH X h w) (hv_l0 : vo 9 l0 = true) (hF : f_X9_needBelow fu l0 l1 l2 w = some (o, w1)) : PW d M_X9_needBelow Q (1 + rc) (6 + rs) 0 [vR (900, l0), vI l1, vI l2] [] h := by
  replace hF := (E_X9_needBelow fu l0 l1 l2 w).symm.trans hF
  refine r_X9_needBelow_0 ?_
  refine ⟨fun c => ?_, fun c => ?_⟩
  · replace hF := if_ofT c hF
    refine gI_of (wh.1 10916 _ rfl hv_l0) ?_
    replace hF := lt_of hF
    refine sF_S wh rfl hv_l0 ?_
    clear wh
    intro h wh
    obtain ⟨rfl, rfl⟩ := some_of hF
    exact thr_of wh hd (hq _ wh)
  · replace hF := if_ofF c hF
    refine ⟨fun c => ?_, fun c => ?_⟩
    · replace hF := if_ofT c hF
      obtain ⟨rfl, rfl⟩ := some_of hF
      exact hq _ wh
    · replace hF := if_ofF c hF
      refine gI_of (wh.1 10916 _ rfl hv_l0) ?_
      replace hF := lt_of hF
      refine sF_S wh rfl hv_l0 ?_
      clear wh
      intro h wh
      obtain ⟨rfl, rfl⟩ := some_of hF
      exact thr_of wh hd (hq _ wh)
theorem c_X9_needBelow {X : SCR} {fu : Nat} {o : (Unit ⊕ Nat)} {w1 : MEM} {a0 : Nat} {a1 : Int32} {a2 : Int32} {w : MEM} {h : PH} (wh : WH X h w) (h0 : vo 9 a0 = true) (hF : f_X9_needBelow fu a0 a1 a2 w = some (o, w1)) : CT 6 M_X9_needBelow [vR (900, a0), vI a1, vI a2] h 1 6 (QP X (oV o) w1) :=
  CT_of mk_X9_needBelow (Nat.le_of_ble_eq_true rfl) rfl (w_X9_needBelow (fu := fu) (rc := 0) (rs := 0) (hd := Nat.le_refl 6) (hq := fun h1 g => ⟨rfl, g⟩) wh h0 hF)
-- X9_needHeir
def f_X9_needHeir (fu : Nat) (l0 : Nat) (l1 : Int32) (w : MEM) : Option ((Unit ⊕ Nat) × MEM) := bndT (f_X9_needBelow fu l0 l1 (rS w (10107, (rT w (10908, l0)))) w) fun (u3 : Unit) (w2 : MEM) => some (.inl (), w2)
theorem E_X9_needHeir (fu : Nat) (l0 : Nat) (l1 : Int32) (w : MEM) : f_X9_needHeir fu l0 l1 w = bndT (f_X9_needBelow fu l0 l1 (rS w (10107, (rT w (10908, l0)))) w) fun (u3 : Unit) (w2 : MEM) => some (.inl (), w2) := rfl
theorem w_X9_needHeir {X : SCR} {d rc rs : Nat} {Q : PO → PH → Prop} {o : (Unit ⊕ Nat)} {w1 : MEM} {fu : Nat} (hd : 7 ≤ d) (hq : ∀ h1, WH X h1 w1 → Q (oV o) h1) {l0 : Nat} {l1 : Int32} {w : MEM} {h : PH} (wh : WH X h w) (hv_l0 : vo 9 l0 = true) (hF : f_X9_needHeir fu l0 l1 w = some (o, w1)) : PW d M_X9_needHeir Q (1 + rc) (6 + rs) 0 [vR (900, l0), vI l1] [] h := by
  replace hF := (E_X9_needHeir fu l0 l1 w).symm.trans hF
  refine r_X9_needHeir_0 ?_
  have hT1 := (wh.2.2.1 10908 _ rfl hv_l0).2
  refine gO_of (wh.2.2.1 10908 _ rfl hv_l0).1 ?_
  refine gI_of (wh.1 10107 _ rfl hT1) ?_
  refine ⟨⟨_, wh.2.1 10900 _ rfl hv_l0⟩, ?_⟩
  rcases bndT_of hF with ⟨u3, w2, hG, hF⟩ | ⟨e9, hG, rfl⟩
  rotate_left
  · exact cl_TX (D := 6) (Nat.le_trans (by decide) hd) (c_X9_needBelow wh hv_l0 hG) (fun h1 wh => hq _ wh)
  refine cl_TV (D := 6) (Nat.le_trans (by decide) hd) (c_X9_needBelow wh hv_l0 hG) ?_
  clear hG
  clear wh
  intro h wh
  obtain ⟨rfl, rfl⟩ := some_of hF
  exact hq _ wh
theorem c_X9_needHeir {X : SCR} {fu : Nat} {o : (Unit ⊕ Nat)} {w1 : MEM} {a0 : Nat} {a1 : Int32} {w : MEM} {h : PH} (wh : WH X h w) (h0 : vo 9 a0 = true) (hF : f_X9_needHeir fu a0 a1 w = some (o, w1)) : CT 7 M_X9_needHeir [vR (900, a0), vI a1] h 1 6 (QP X (oV o) w1) :=
  CT_of mk_X9_needHeir (Nat.le_of_ble_eq_true rfl) rfl (w_X9_needHeir (fu := fu) (rc := 0) (rs := 0) (hd := Nat.le_refl 7) (hq := fun h1 g => ⟨rfl, g⟩) wh h0 hF)
-- X9_heir
def f_X9_heir (fu : Nat) (l0 : Nat) (l1 : Int32) (l2 : Int32) (w : MEM) : Option ((Int32 ⊕ Nat) × MEM) := bndT (f_X9_needHeir fu l0 l1 w) fun (u2 : Unit) (w1 : MEM) => bndT (f_X9_needWithin fu l0 l2 (0 : Int32) (9 : Int32) w1) fun (u4 : Unit) (w3 : MEM) => if l2 = (0 : Int32) then (ck (bI l1 7) (some (.inl (rA w3 (401, (8 + 1)) l1), w3))) else (if l2 = (1 : Int32) then (ck (bI l1 7) (some (.inl (rA w3 (402, (8 + 1)) l1), w3))) else (if l2 = (2 : Int32) then (ck (bI l1 7) (some (.inl (rA w3 (403, (8 + 1)) l1), w3))) else (if l2 = (3 : Int32) then (ck (bI l1 7) (some (.inl (rA w3 (404, (8 + 1)) l1), w3))) else (if l2 = (4 : Int32) then (ck (bI l1 7) (some (.inl (rA w3 (405, (8 + 1)) l1), w3))) else (if l2 = (5 : Int32) then (ck (bI l1 7) (some (.inl (rA w3 (406, (8 + 1)) l1), w3))) else (if l2 = (6 : Int32) then (ck (bI l1 7) (some (.inl (rA w3 (407, (8 + 1)) l1), w3))) else (if l2 = (7 : Int32) then (ck (bI l1 7) (some (.inl (rA w3 (408, (8 + 1)) l1), w3))) else (if l2 = (8 : Int32) then (ck (bI l1 7) (some (.inl (rA w3 (409, (8 + 1)) l1), w3))) else (ck (bI l1 7) (some (.inl (rA w3 (103, (rT w3 (10908, l0))) l1), w3)))))))))))
theorem E_X9_heir (fu : Nat) (l0 : Nat) (l1 : Int32) (l2 : Int32) (w : MEM) : f_X9_heir fu l0 l1 l2 w = bndT (f_X9_needHeir fu l0 l1 w) fun (u2 : Unit) (w1 : MEM) => bndT (f_X9_needWithin fu l0 l2 (0 : Int32) (9 : Int32) w1) fun (u4 : Unit) (w3 : MEM) => if l2 = (0 : Int32) then (ck (bI l1 7) (some (.inl (rA w3 (401, (8 + 1)) l1), w3))) else (if l2 = (1 : Int32) then (ck (bI l1 7) (some (.inl (rA w3 (402, (8 + 1)) l1), w3))) else (if l2 = (2 : Int32) then (ck (bI l1 7) (some (.inl (rA w3 (403, (8 + 1)) l1), w3))) else (if l2 = (3 : Int32) then (ck (bI l1 7) (some (.inl (rA w3 (404, (8 + 1)) l1), w3))) else (if l2 = (4 : Int32) then (ck (bI l1 7) (some (.inl (rA w3 (405, (8 + 1)) l1), w3))) else (if l2 = (5 : Int32) then (ck (bI l1 7) (some (.inl (rA w3 (406, (8 + 1)) l1), w3))) else (if l2 = (6 : Int32) then (ck (bI l1 7) (some (.inl (rA w3 (407, (8 + 1)) l1), w3))) else (if l2 = (7 : Int32) then (ck (bI l1 7) (some (.inl (rA w3 (408, (8 + 1)) l1), w3))) else (if l2 = (8 : Int32) then (ck (bI l1 7) (some (.inl (rA w3 (409, (8 + 1)) l1), w3))) else (ck (bI l1 7) (some (.inl (rA w3 (103, (rT w3 (10908, l0))) l1), w3))))))))))) := rfl
theorem w_X9_heir {X : SCR} {d rc rs : Nat} {Q : PO → PH → Prop} {o : (Int32 ⊕ Nat)} {w1 : MEM} {fu : Nat} (hd : 8 ≤ d) (hq : ∀ h1, WH X h1 w1 → Q (oI o) h1) {l0 : Nat} {l1 : Int32} {l2 : Int32} {w : MEM} {h : PH} (wh : WH X h w) (hv_l0 : vo 9 l0 = true) (hF : f_X9_heir fu l0 l1 l2 w = some (o, w1)) : PW d M_X9_heir Q (1 + (1 + rc)) (6 + (6 + rs)) 0 [vR (900, l0), vI l1, vI l2, vU] [] h := by
  replace hF := (E_X9_heir fu l0 l1 l2 w).symm.trans hF
  refine r_X9_heir_0 ?_
  refine ⟨⟨_, wh.2.1 10900 _ rfl hv_l0⟩, ?_⟩
  rcases bndT_of hF with ⟨u2, w1, hG, hF⟩ | ⟨e9, hG, rfl⟩
  rotate_left
  · exact cl_TX (D := 7) (Nat.le_trans (by decide) hd) (c_X9_needHeir wh hv_l0 hG) (fun h1 wh => hq _ wh)
  refine cl_TV (D := 7) (Nat.le_trans (by decide) hd) (c_X9_needHeir wh hv_l0 hG) ?_
  clear hG
  clear wh
  intro h wh
  refine ⟨⟨_, wh.2.1 10900 _ rfl hv_l0⟩, ?_⟩
  rcases bndT_of hF with ⟨u4, w3, hG, hF⟩ | ⟨e9, hG, rfl⟩
  rotate_left
  · exact cl_TX (D := 7) (Nat.le_trans (by decide) hd) (c_X9_needWithin wh hv_l0 hG) (fun h1 wh => hq _ wh)
  refine cl_TV (D := 7) (Nat.le_trans (by decide) hd) (c_X9_needWithin wh hv_l0 hG) ?_
  clear hG
  clear wh
  intro h wh
  refine gO_of (i := 8) (wh.2.1 10902 _ rfl hv_l0) ?_
  refine gO_of (i := (8 + 1)) (wh.2.1 10200 _ rfl (rfl : vo 2 8 = true)) ?_
  refine ⟨fun c => ?_, fun c => ?_, fun c => ?_, fun c => ?_, fun c => ?_, fun c => ?_, fun c => ?_, fun c => ?_, fun c => ?_, fun c => ?_⟩
  · replace hF := if_ofT c hF
    refine gA_of (b := (401, (8 + 1))) (wh.2.1 10400 _ rfl (vH1 (rfl : vo 2 8 = true))) ?_
    obtain ⟨c, hF⟩ := ck_of hF
    refine xI_of wh (oA_401 (vH1 (rfl : vo 2 8 = true))) c ?_
    clear c
    obtain ⟨rfl, rfl⟩ := some_of hF
    exact hq _ wh
  · replace hF := if_ofF (fun e9 => absurd (c.symm.trans e9) (by decide)) hF; replace hF := if_ofT c hF
    refine gA_of (b := (402, (8 + 1))) (wh.2.1 10401 _ rfl (vH1 (rfl : vo 2 8 = true))) ?_
    obtain ⟨c, hF⟩ := ck_of hF
    refine xI_of wh (oA_402 (vH1 (rfl : vo 2 8 = true))) c ?_
    clear c
    obtain ⟨rfl, rfl⟩ := some_of hF
    exact hq _ wh
  · replace hF := if_ofF (fun e9 => absurd (c.symm.trans e9) (by decide)) hF; replace hF := if_ofF (fun e9 => absurd (c.symm.trans e9) (by decide)) hF; replace hF := if_ofT c hF
    refine gA_of (b := (403, (8 + 1))) (wh.2.1 10402 _ rfl (vH1 (rfl : vo 2 8 = true))) ?_
    obtain ⟨c, hF⟩ := ck_of hF
    refine xI_of wh (oA_403 (vH1 (rfl : vo 2 8 = true))) c ?_
    clear c
    obtain ⟨rfl, rfl⟩ := some_of hF
    exact hq _ wh
  · replace hF := if_ofF (fun e9 => absurd (c.symm.trans e9) (by decide)) hF; replace hF := if_ofF (fun e9 => absurd (c.symm.trans e9) (by decide)) hF; replace hF := if_ofF (fun e9 => absurd (c.symm.trans e9) (by decide)) hF; replace hF := if_ofT c hF
    refine gA_of (b := (404, (8 + 1))) (wh.2.1 10403 _ rfl (vH1 (rfl : vo 2 8 = true))) ?_
    obtain ⟨c, hF⟩ := ck_of hF
    refine xI_of wh (oA_404 (vH1 (rfl : vo 2 8 = true))) c ?_
    clear c
    obtain ⟨rfl, rfl⟩ := some_of hF
    exact hq _ wh
  · replace hF := if_ofF (fun e9 => absurd (c.symm.trans e9) (by decide)) hF; replace hF := if_ofF (fun e9 => absurd (c.symm.trans e9) (by decide)) hF; replace hF := if_ofF (fun e9 => absurd (c.symm.trans e9) (by decide)) hF; replace hF := if_ofF (fun e9 => absurd (c.symm.trans e9) (by decide)) hF; replace hF := if_ofT c hF
    refine gA_of (b := (405, (8 + 1))) (wh.2.1 10404 _ rfl (vH1 (rfl : vo 2 8 = true))) ?_
    obtain ⟨c, hF⟩ := ck_of hF
    refine xI_of wh (oA_405 (vH1 (rfl : vo 2 8 = true))) c ?_
    clear c
    obtain ⟨rfl, rfl⟩ := some_of hF
    exact hq _ wh
  · replace hF := if_ofF (fun e9 => absurd (c.symm.trans e9) (by decide)) hF; replace hF := if_ofF (fun e9 => absurd (c.symm.trans e9) (by decide)) hF; replace hF := if_ofF (fun e9 => absurd (c.symm.trans e9) (by decide)) hF; replace hF := if_ofF (fun e9 => absurd (c.symm.trans e9) (by decide)) hF; replace hF := if_ofF (fun e9 => absurd (c.symm.trans e9) (by decide)) hF; replace hF := if_ofT c hF
    refine gA_of (b := (406, (8 + 1))) (wh.2.1 10405 _ rfl (vH1 (rfl : vo 2 8 = true))) ?_
    obtain ⟨c, hF⟩ := ck_of hF
    refine xI_of wh (oA_406 (vH1 (rfl : vo 2 8 = true))) c ?_
    clear c
    obtain ⟨rfl, rfl⟩ := some_of hF
    exact hq _ wh
  · replace hF := if_ofF (fun e9 => absurd (c.symm.trans e9) (by decide)) hF; replace hF := if_ofF (fun e9 => absurd (c.symm.trans e9) (by decide)) hF; replace hF := if_ofF (fun e9 => absurd (c.symm.trans e9) (by decide)) hF; replace hF := if_ofF (fun e9 => absurd (c.symm.trans e9) (by decide)) hF; replace hF := if_ofF (fun e9 => absurd (c.symm.trans e9) (by decide)) hF; replace hF := if_ofF (fun e9 => absurd (c.symm.trans e9) (by decide)) hF; replace hF := if_ofT c hF
    refine gA_of (b := (407, (8 + 1))) (wh.2.1 10406 _ rfl (vH1 (rfl : vo 2 8 = true))) ?_
    obtain ⟨c, hF⟩ := ck_of hF
    refine xI_of wh (oA_407 (vH1 (rfl : vo 2 8 = true))) c ?_
    clear c
    obtain ⟨rfl, rfl⟩ := some_of hF
    exact hq _ wh
  · replace hF := if_ofF (fun e9 => absurd (c.symm.trans e9) (by decide)) hF; replace hF := if_ofF (fun e9 => absurd (c.symm.trans e9) (by decide)) hF; replace hF := if_ofF (fun e9 => absurd (c.symm.trans e9) (by decide)) hF; replace hF := if_ofF (fun e9 => absurd (c.symm.trans e9) (by decide)) hF; replace hF := if_ofF (fun e9 => absurd (c.symm.trans e9) (by decide)) hF; replace hF := if_ofF (fun e9 => absurd (c.symm.trans e9) (by decide)) hF; replace hF := if_ofF (fun e9 => absurd (c.symm.trans e9) (by decide)) hF; replace hF := if_ofT c hF
    refine gA_of (b := (408, (8 + 1))) (wh.2.1 10407 _ rfl (vH1 (rfl : vo 2 8 = true))) ?_
    obtain ⟨c, hF⟩ := ck_of hF
    refine xI_of wh (oA_408 (vH1 (rfl : vo 2 8 = true))) c ?_
    clear c
    obtain ⟨rfl, rfl⟩ := some_of hF
    exact hq _ wh
  · replace hF := if_ofF (fun e9 => absurd (c.symm.trans e9) (by decide)) hF; replace hF := if_ofF (fun e9 => absurd (c.symm.trans e9) (by decide)) hF; replace hF := if_ofF (fun e9 => absurd (c.symm.trans e9) (by decide)) hF; replace hF := if_ofF (fun e9 => absurd (c.symm.trans e9) (by decide)) hF; replace hF := if_ofF (fun e9 => absurd (c.symm.trans e9) (by decide)) hF; replace hF := if_ofF (fun e9 => absurd (c.symm.trans e9) (by decide)) hF; replace hF := if_ofF (fun e9 => absurd (c.symm.trans e9) (by decide)) hF; replace hF := if_ofF (fun e9 => absurd (c.symm.trans e9) (by decide)) hF; replace hF := if_ofT c hF
    refine gA_of (b := (409, (8 + 1))) (wh.2.1 10408 _ rfl (vH1 (rfl : vo 2 8 = true))) ?_
    obtain ⟨c, hF⟩ := ck_of hF
    refine xI_of wh (oA_409 (vH1 (rfl : vo 2 8 = true))) c ?_
    clear c
    obtain ⟨rfl, rfl⟩ := some_of hF
    exact hq _ wh
  · replace hF := if_ofF c.1 hF; replace hF := if_ofF c.2.1 hF; replace hF := if_ofF c.2.2.1 hF; replace hF := if_ofF c.2.2.2.1 hF; replace hF := if_ofF c.2.2.2.2.1 hF; replace hF := if_ofF c.2.2.2.2.2.1 hF; replace hF := if_ofF c.2.2.2.2.2.2.1 hF; replace hF := if_ofF c.2.2.2.2.2.2.2.1 hF; replace hF := if_ofF c.2.2.2.2.2.2.2.2 hF
    have hT5 := (wh.2.2.1 10908 _ rfl hv_l0).2
    refine gO_of (wh.2.2.1 10908 _ rfl hv_l0).1 ?_
    refine gA_of (b := (103, (rT w3 (10908, l0)))) (wh.2.1 10102 _ rfl hT5) ?_
    obtain ⟨c, hF⟩ := ck_of hF
    refine xI_of wh (oA_103 hT5) c ?_
    clear c
    obtain ⟨rfl, rfl⟩ := some_of hF
    exact hq _ wh
theorem c_X9_heir {X : SCR} {fu : Nat} {o : (Int32 ⊕ Nat)} {w1 : MEM} {a0 : Nat} {a1 : Int32} {a2 : Int32} {w : MEM} {h : PH} (wh : WH X h w) (h0 : vo 9 a0 = true) (hF : f_X9_heir fu a0 a1 a2 w = some (o, w1)) : CT 8 M_X9_heir [vR (900, a0), vI a1, vI a2] h 2 12 (QP X (oI o) w1) :=
  CT_of mk_X9_heir (Nat.le_of_ble_eq_true rfl) rfl (w_X9_heir (fu := fu) (rc := 0) (rs := 0) (hd := Nat.le_refl 8) (hq := fun h1 g => ⟨rfl, g⟩) wh h0 hF)
-- X9_two
def f_X9_two (fu : Nat) (l0 : Nat) (l1 : Int32) (l2 : Int32) (w : MEM) : Option ((Int32 ⊕ Nat) × MEM) := bndT (f_X9_needBelow fu l0 l1 (rS w (10108, (rT w (10908, l0)))) w) fun (u3 : Unit) (w2 : MEM) => bndT (f_X9_needWithin fu l0 l2 (0 : Int32) (1 : Int32) w2) fun (u5 : Unit) (w4 : MEM) => if l2 = 0 then (ck (bI l1 12) (some (.inl (rA w4 (104, (rT w4 (10908, l0))) l1), w4))) else (ck (bI l1 12) (some (.inl (rA w4 (105, (rT w4 (10908, l0))) l1), w4)))
theorem E_X9_two (fu : Nat) (l0 : Nat) (l1 : Int32) (l2 : Int32) (w : MEM) : f_X9_two fu l0 l1 l2 w = bndT (f_X9_needBelow fu l0 l1 (rS w (10108, (rT w (10908, l0)))) w) fun (u3 : Unit) (w2 : MEM) => bndT (f_X9_needWithin fu l0 l2 (0 : Int32) (1 : Int32) w2) fun (u5 : Unit) (w4 : MEM) => if l2 = 0 then (ck (bI l1 12) (some (.inl (rA w4 (104, (rT w4 (10908, l0))) l1), w4))) else (ck (bI l1 12) (some (.inl (rA w4 (105, (rT w4 (10908, l0))) l1), w4))) := rfl
theorem w_X9_two {X : SCR} {d rc rs : Nat} {Q : PO → PH → Prop} {o : (Int32 ⊕ Nat)} {w1 : MEM} {fu : Nat} (hd : 8 ≤ d) (hq : ∀ h1, WH X h1 w1 → Q (oI o) h1) {l0 : Nat} {l1 : Int32} {l2 : Int32} {w : MEM} {h : PH} (wh : WH X h w) (hv_l0 : vo 9 l0 = true) (hF : f_X9_two fu l0 l1 l2 w = some (o, w1)) : PW d M_X9_two Q (1 + (1 + rc)) (6 + (6 + rs)) 0 [vR (900, l0), vI l1, vI l2] [] h := by
  replace hF := (E_X9_two fu l0 l1 l2 w).symm.trans hF
  refine r_X9_two_0 ?_
  have hT1 := (wh.2.2.1 10908 _ rfl hv_l0).2
  refine gO_of (wh.2.2.1 10908 _ rfl hv_l0).1 ?_
  refine gI_of (wh.1 10108 _ rfl hT1) ?_
  refine ⟨⟨_, wh.2.1 10900 _ rfl hv_l0⟩, ?_⟩
  rcases bndT_of hF with ⟨u3, w2, hG, hF⟩ | ⟨e9, hG, rfl⟩
  rotate_left
  · exact cl_TX (D := 6) (Nat.le_trans (by decide) hd) (c_X9_needBelow wh hv_l0 hG) (fun h1 wh => hq _ wh)
  refine cl_TV (D := 6) (Nat.le_trans (by decide) hd) (c_X9_needBelow wh hv_l0 hG) ?_
  clear hG
  clear wh
  intro h wh
  refine ⟨⟨_, wh.2.1 10900 _ rfl hv_l0⟩, ?_⟩
  rcases bndT_of hF with ⟨u5, w4, hG, hF⟩ | ⟨e9, hG, rfl⟩
  rotate_left
  · exact cl_TX (D := 7) (Nat.le_trans (by decide) hd) (c_X9_needWithin wh hv_l0 hG) (fun h1 wh => hq _ wh)
  refine cl_TV (D := 7) (Nat.le_trans (by decide) hd) (c_X9_needWithin wh hv_l0 hG) ?_
  clear hG
  clear wh
  intro h wh
  refine ⟨fun c => ?_, fun c => ?_⟩
  · replace hF := if_ofT c hF
    have hT7 := (wh.2.2.1 10908 _ rfl hv_l0).2
    refine gO_of (wh.2.2.1 10908 _ rfl hv_l0).1 ?_
    refine gA_of (b := (104, (rT w4 (10908, l0)))) (wh.2.1 10103 _ rfl hT7) ?_
    obtain ⟨c, hF⟩ := ck_of hF
    refine xI_of wh (oA_104 hT7) c ?_
    clear c
    obtain ⟨rfl, rfl⟩ := some_of hF
    exact hq _ wh
  · replace hF := if_ofF c hF
    have hT6 := (wh.2.2.1 10908 _ rfl hv_l0).2
    refine gO_of (wh.2.2.1 10908 _ rfl hv_l0).1 ?_
    refine gA_of (b := (105, (rT w4 (10908, l0)))) (wh.2.1 10104 _ rfl hT6) ?_
    obtain ⟨c, hF⟩ := ck_of hF
    refine xI_of wh (oA_105 hT6) c ?_
    clear c
    obtain ⟨rfl, rfl⟩ := some_of hF
    exact hq _ wh
theorem c_X9_two {X : SCR} {fu : Nat} {o : (Int32 ⊕ Nat)} {w1 : MEM} {a0 : Nat} {a1 : Int32} {a2 : Int32} {w : MEM} {h : PH} (wh : WH X h w) (h0 : vo 9 a0 = true) (hF : f_X9_two fu a0 a1 a2 w = some (o, w1)) : CT 8 M_X9_two [vR (900, a0), vI a1, vI a2] h 2 12 (QP X (oI o) w1) :=
  CT_of mk_X9_two (Nat.le_of_ble_eq_true rfl) rfl (w_X9_two (fu := fu) (rc := 0) (rs := 0) (hd := Nat.le_refl 8) (hq := fun h1 g => ⟨rfl, g⟩) wh h0 hF)
-- X9_keeper
def f_X9_keeper (fu : Nat) (l0 : Nat) (l1 : Int32) (l2 : Int32) (w : MEM) : Option ((Int32 ⊕ Nat) × MEM) := bndT (f_X9_needBelow fu l0 l1 (rS w (10109, (rT w (10908, l0)))) w) fun (u3 : Unit) (w2 : MEM) => bndT (f_X9_needWithin fu l0 l2 (0 : Int32) (2 : Int32) w2) fun (u5 : Unit) (w4 : MEM) => if l2 = (0 : Int32) then (ck (bI l1 6) (some (.inl (rA w4 (106, (rT w4 (10908, l0))) l1), w4))) else (if l2 = (1 : Int32) then (ck (bI l1 6) (some (.inl (rA w4 (107, (rT w4 (10908, l0))) l1), w4))) else (bnd (f_X1_nextCough fu (rT w4 (10908, l0)) l1 (rS w4 (10409, (8 + 1))) w4) fun (x8 : Int32) (w7 : MEM) => some (.inl x8, w7)))
theorem E_X9_keeper (fu : Nat) (l0 : Nat) (l1 : Int32) (l2 : Int32) (w : MEM) : f_X9_keeper fu l0 l1 l2 w = bndT (f_X9_needBelow fu l0 l1 (rS w (10109, (rT w (10908, l0)))) w) fun (u3 : Unit) (w2 : MEM) => bndT (f_X9_needWithin fu l0 l2 (0 : Int32) (2 : Int32) w2) fun (u5 : Unit) (w4 : MEM) => if l2 = (0 : Int32) then (ck (bI l1 6) (some (.inl (rA w4 (106, (rT w4 (10908, l0))) l1), w4))) else (if l2 = (1 : Int32) then (ck (bI l1 6) (some (.inl (rA w4 (107, (rT w4 (10908, l0))) l1), w4))) else (bnd (f_X1_nextCough fu (rT w4 (10908, l0)) l1 (rS w4 (10409, (8 + 1))) w4) fun (x8 : Int32) (w7 : MEM) => some (.inl x8, w7))) := rfl
theorem w_X9_keeper {X : SCR} {d rc rs : Nat} {Q : PO → PH → Prop} {o : (Int32 ⊕ Nat)} {w1 : MEM} {fu : Nat} (hd : 8 ≤ d) (hq : ∀ h1, WH X h1 w1 → Q (oI o) h1) {l0 : Nat} {l1 : Int32} {l2 : Int32} {w : MEM} {h : PH} (wh : WH X h w) (hv_l0 : vo 9 l0 = true) (hF : f_X9_keeper fu l0 l1 l2 w = some (o, w1)) : PW d M_X9_keeper Q (1 + (1 + rc)) (6 + (6 + rs)) 0 [vR (900, l0), vI l1, vI l2] [] h := by
  replace hF := (E_X9_keeper fu l0 l1 l2 w).symm.trans hF
  refine r_X9_keeper_0 ?_
  have hT1 := (wh.2.2.1 10908 _ rfl hv_l0).2
  refine gO_of (wh.2.2.1 10908 _ rfl hv_l0).1 ?_
  refine gI_of (wh.1 10109 _ rfl hT1) ?_
  refine ⟨⟨_, wh.2.1 10900 _ rfl hv_l0⟩, ?_⟩
  rcases bndT_of hF with ⟨u3, w2, hG, hF⟩ | ⟨e9, hG, rfl⟩
  rotate_left
  · exact cl_TX (D := 6) (Nat.le_trans (by decide) hd) (c_X9_needBelow wh hv_l0 hG) (fun h1 wh => hq _ wh)
  refine cl_TV (D := 6) (Nat.le_trans (by decide) hd) (c_X9_needBelow wh hv_l0 hG) ?_
  clear hG
  clear wh
  intro h wh
  refine ⟨⟨_, wh.2.1 10900 _ rfl hv_l0⟩, ?_⟩
  rcases bndT_of hF with ⟨u5, w4, hG, hF⟩ | ⟨e9, hG, rfl⟩
  rotate_left
  · exact cl_TX (D := 7) (Nat.le_trans (by decide) hd) (c_X9_needWithin wh hv_l0 hG) (fun h1 wh => hq _ wh)
  refine cl_TV (D := 7) (Nat.le_trans (by decide) hd) (c_X9_needWithin wh hv_l0 hG) ?_
  clear hG
  clear wh
  intro h wh
  refine ⟨fun c => ?_, fun c => ?_, fun c => ?_⟩
  · replace hF := if_ofT c hF
    have hT10 := (wh.2.2.1 10908 _ rfl hv_l0).2
    refine gO_of (wh.2.2.1 10908 _ rfl hv_l0).1 ?_
    refine gA_of (b := (106, (rT w4 (10908, l0)))) (wh.2.1 10105 _ rfl hT10) ?_
    obtain ⟨c, hF⟩ := ck_of hF
    refine xI_of wh (oA_106 hT10) c ?_
    clear c
    obtain ⟨rfl, rfl⟩ := some_of hF
    exact hq _ wh
  · replace hF := if_ofF (fun e9 => absurd (c.symm.trans e9) (by decide)) hF; replace hF := if_ofT c hF
    have hT9 := (wh.2.2.1 10908 _ rfl hv_l0).2
    refine gO_of (wh.2.2.1 10908 _ rfl hv_l0).1 ?_
    refine gA_of (b := (107, (rT w4 (10908, l0)))) (wh.2.1 10106 _ rfl hT9) ?_
    obtain ⟨c, hF⟩ := ck_of hF
    refine xI_of wh (oA_107 hT9) c ?_
    clear c
    obtain ⟨rfl, rfl⟩ := some_of hF
    exact hq _ wh
  · replace hF := if_ofF c.1 hF; replace hF := if_ofF c.2 hF
    have hT6 := (wh.2.2.1 10908 _ rfl hv_l0).2
    refine gO_of (wh.2.2.1 10908 _ rfl hv_l0).1 ?_
    refine gO_of (i := 8) (wh.2.1 10902 _ rfl hv_l0) ?_
    refine gO_of (i := (8 + 1)) (wh.2.1 10200 _ rfl (rfl : vo 2 8 = true)) ?_
    refine gI_of (wh.1 10409 _ rfl (vH1 (rfl : vo 2 8 = true))) ?_
    refine ⟨⟨_, wh.2.1 10100 _ rfl hT6⟩, ?_⟩
    obtain ⟨x8, w7, hG, hF⟩ := bnd_of hF
    refine cl_I (D := 1) (Nat.le_trans (by decide) hd) (c_X1_nextCough wh hT6 hG) ?_
    clear hG
    clear wh
    intro h wh
    obtain ⟨rfl, rfl⟩ := some_of hF
    exact hq _ wh
theorem c_X9_keeper {X : SCR} {fu : Nat} {o : (Int32 ⊕ Nat)} {w1 : MEM} {a0 : Nat} {a1 : Int32} {a2 : Int32} {w : MEM} {h : PH} (wh : WH X h w) (h0 : vo 9 a0 = true) (hF : f_X9_keeper fu a0 a1 a2 w = some (o, w1)) : CT 8 M_X9_keeper [vR (900, a0), vI a1, vI a2] h 2 12 (QP X (oI o) w1) :=
  CT_of mk_X9_keeper (Nat.le_of_ble_eq_true rfl) rfl (w_X9_keeper (fu := fu) (rc := 0) (rs := 0) (hd := Nat.le_refl 8) (hq := fun h1 g => ⟨rfl, g⟩) wh h0 hF)
-- X9_cloud
def f_X9_cloud (fu : Nat) (l0 : Nat) (l1 : Int32) (w : MEM) : Option ((Int32 ⊕ Nat) × MEM) := bndT (f_X9_needHeir fu l0 l1 w) fun (u2 : Unit) (w1 : MEM) => bnd (f_X4_comesOn fu (8 + 1) l1 (rS w1 (10110, (rT w1 (10908, l0)))) (rT w1 (10910, l0)) w1) fun (x6 : Int32) (w5 : MEM) => some (.inl x6, w5)
theorem E_X9_cloud (fu : Nat) (l0 : Nat) (l1 : Int32) (w : MEM) : f_X9_cloud fu l0 l1 w = bndT (f_X9_needHeir fu l0 l1 w) fun (u2 : Unit) (w1 : MEM) => bnd (f_X4_comesOn fu (8 + 1) l1 (rS w1 (10110, (rT w1 (10908, l0)))) (rT w1 (10910, l0)) w1) fun (x6 : Int32) (w5 : MEM) => some (.inl x6, w5) := rfl
theorem w_X9_cloud {X : SCR} {d rc rs : Nat} {Q : PO → PH → Prop} {o : (Int32 ⊕ Nat)} {w1 : MEM} {fu : Nat} (hd : 8 ≤ d) (hq : ∀ h1, WH X h1 w1 → Q (oI o) h1) {l0 : Nat} {l1 : Int32} {w : MEM} {h : PH} (wh : WH X h w) (hv_l0 : vo 9 l0 = true) (hF : f_X9_cloud fu l0 l1 w = some (o, w1)) : PW d M_X9_cloud Q (1 + rc) (6 + rs) 0 [vR (900, l0), vI l1] [] h := by
  replace hF := (E_X9_cloud fu l0 l1 w).symm.trans hF
  refine r_X9_cloud_0 ?_
  refine ⟨⟨_, wh.2.1 10900 _ rfl hv_l0⟩, ?_⟩
  rcases bndT_of hF with ⟨u2, w1, hG, hF⟩ | ⟨e9, hG, rfl⟩
  rotate_left
  · exact cl_TX (D := 7) (Nat.le_trans (by decide) hd) (c_X9_needHeir wh hv_l0 hG) (fun h1 wh => hq _ wh)
  refine cl_TV (D := 7) (Nat.le_trans (by decide) hd) (c_X9_needHeir wh hv_l0 hG) ?_
  clear hG
  clear wh
  intro h wh
  refine gO_of (i := 8) (wh.2.1 10902 _ rfl hv_l0) ?_
  refine gO_of (i := (8 + 1)) (wh.2.1 10200 _ rfl (rfl : vo 2 8 = true)) ?_
  have hT3 := (wh.2.2.1 10908 _ rfl hv_l0).2
  refine gO_of (wh.2.2.1 10908 _ rfl hv_l0).1 ?_
  refine gI_of (wh.1 10110 _ rfl hT3) ?_
  have hT4 := (wh.2.2.1 10910 _ rfl hv_l0).2
  refine gO_of (wh.2.2.1 10910 _ rfl hv_l0).1 ?_
  refine ⟨⟨_, wh.2.1 10400 _ rfl (vH1 (rfl : vo 2 8 = true))⟩, ?_⟩
  obtain ⟨x6, w5, hG, hF⟩ := bnd_of hF
  refine cl_I (D := 2) (Nat.le_trans (by decide) hd) (c_X4_comesOn wh (vH1 (rfl : vo 2 8 = true)) hT4 hG) ?_
  clear hG
  clear wh
  intro h wh
  obtain ⟨rfl, rfl⟩ := some_of hF
  exact hq _ wh
theorem c_X9_cloud {X : SCR} {fu : Nat} {o : (Int32 ⊕ Nat)} {w1 : MEM} {a0 : Nat} {a1 : Int32} {w : MEM} {h : PH} (wh : WH X h w) (h0 : vo 9 a0 = true) (hF : f_X9_cloud fu a0 a1 w = some (o, w1)) : CT 8 M_X9_cloud [vR (900, a0), vI a1] h 1 6 (QP X (oI o) w1) :=
  CT_of mk_X9_cloud (Nat.le_of_ble_eq_true rfl) rfl (w_X9_cloud (fu := fu) (rc := 0) (rs := 0) (hd := Nat.le_refl 8) (hq := fun h1 g => ⟨rfl, g⟩) wh h0 hF)
-- X9_would
def f_X9_would (fu : Nat) (l0 : Nat) (l1 : Int32) (l2 : Int32) (l3 : Int32) (l4 : Int32) (l5 : Int32) (l6 : Int32) (l7 : Int32) (l8 : Int32) (l9 : Int32) (w : MEM) : Option ((Int32 ⊕ Nat) × MEM) := bndT (f_X9_needWithin fu l0 l1 (1 : Int32) (9 : Int32) w) fun (u2 : Unit) (w1 : MEM) => bndT (f_X9_needWithin fu l0 l2 (0 : Int32) (9 : Int32) w1) fun (u4 : Unit) (w3 : MEM) => bndT (f_X9_needWithin fu l0 l3 (0 : Int32) (999 : Int32) w3) fun (u6 : Unit) (w5 : MEM) => bndT (f_X9_needWithin fu l0 l4 (0 : Int32) (99 : Int32) w5) fun (u8 : Unit) (w7 : MEM) => bndT (f_X9_needWithin fu l0 l5 (0 : Int32) (3 : Int32) w7) fun (u10 : Unit) (w9 : MEM) => bndT (f_X9_needWithin fu l0 l6 (0 : Int32) (99 : Int32) w9) fun (u12 : Unit) (w11 : MEM) => bndT (f_X9_needWithin fu l0 l7 (0 : Int32) (23 : Int32) w11) fun (u14 : Unit) (w13 : MEM) => bndT (f_X9_needWithin fu l0 l8 (0 : Int32) (1 : Int32) w13) fun (u16 : Unit) (w15 : MEM) => bndT (f_X9_needWithin fu l0 l9 (0 : Int32) (6 : Int32) w15) fun (u18 : Unit) (w17 : MEM) => bnd (f_X3_setHeir fu (rT w17 (10910, l0)) l1 l2 l9 w17) fun (u21 : Unit) (w20 : MEM) => bnd (f_X3_setGlass fu (rT w20 (10910, l0)) l3 l4 l5 l6 w20) fun (u24 : Unit) (w23 : MEM) => bnd (f_X3_setHour fu (rT w23 (10910, l0)) l7 l8 w23) fun (u27 : Unit) (w26 : MEM) => bnd (f_X3_comes fu (rT w26 (10910, l0)) w26) fun (x30 : Int32) (w29 : MEM) => some (.inl x30, w29)
theorem E_X9_would (fu : Nat) (l0 : Nat) (l1 : Int32) (l2 : Int32) (l3 : Int32) (l4 : Int32) (l5 : Int32) (l6 : Int32) (l7 : Int32) (l8 : Int32) (l9 : Int32) (w : MEM) : f_X9_would fu l0 l1 l2 l3 l4 l5 l6 l7 l8 l9 w = bndT (f_X9_needWithin fu l0 l1 (1 : Int32) (9 : Int32) w) fun (u2 : Unit) (w1 : MEM) => bndT (f_X9_needWithin fu l0 l2 (0 : Int32) (9 : Int32) w1) fun (u4 : Unit) (w3 : MEM) => bndT (f_X9_needWithin fu l0 l3 (0 : Int32) (999 : Int32) w3) fun (u6 : Unit) (w5 : MEM) => bndT (f_X9_needWithin fu l0 l4 (0 : Int32) (99 : Int32) w5) fun (u8 : Unit) (w7 : MEM) => bndT (f_X9_needWithin fu l0 l5 (0 : Int32) (3 : Int32) w7) fun (u10 : Unit) (w9 : MEM) => bndT (f_X9_needWithin fu l0 l6 (0 : Int32) (99 : Int32) w9) fun (u12 : Unit) (w11 : MEM) => bndT (f_X9_needWithin fu l0 l7 (0 : Int32) (23 : Int32) w11) fun (u14 : Unit) (w13 : MEM) => bndT (f_X9_needWithin fu l0 l8 (0 : Int32) (1 : Int32) w13) fun (u16 : Unit) (w15 : MEM) => bndT (f_X9_needWithin fu l0 l9 (0 : Int32) (6 : Int32) w15) fun (u18 : Unit) (w17 : MEM) => bnd (f_X3_setHeir fu (rT w17 (10910, l0)) l1 l2 l9 w17) fun (u21 : Unit) (w20 : MEM) => bnd (f_X3_setGlass fu (rT w20 (10910, l0)) l3 l4 l5 l6 w20) fun (u24 : Unit) (w23 : MEM) => bnd (f_X3_setHour fu (rT w23 (10910, l0)) l7 l8 w23) fun (u27 : Unit) (w26 : MEM) => bnd (f_X3_comes fu (rT w26 (10910, l0)) w26) fun (x30 : Int32) (w29 : MEM) => some (.inl x30, w29) := rfl
theorem w_X9_would {X : SCR} {d rc rs : Nat} {Q : PO → PH → Prop} {o : (Int32 ⊕ Nat)} {w1 : MEM} {fu : Nat} (hd : 8 ≤ d) (hq : ∀ h1, WH X h1 w1 → Q (oI o) h1) {l0 : Nat} {l1 : Int32} {l2 : Int32} {l3 : Int32} {l4 : Int32} {l5 : Int32} {l6 : Int32} {l7 : Int32} {l8 : Int32} {l9 : Int32} {w : MEM} {h : PH} (wh : WH X h w) (hv_l0 : vo 9 l0 = true) (hF : f_X9_would fu l0 l1 l2 l3 l4 l5 l6 l7 l8 l9 w = some (o, w1)) : PW d M_X9_would Q (1 + (1 + (1 + (1 + (1 + (1 + (1 + (1 + (1 + rc))))))))) (6 + (6 + (6 + (6 + (6 + (6 + (6 + (6 + (6 + rs))))))))) 0 [vR (900, l0), vI l1, vI l2, vI l3, vI l4, vI l5, vI l6, vI l7, vI l8, vI l9] [] h := by
  replace hF := (E_X9_would fu l0 l1 l2 l3 l4 l5 l6 l7 l8 l9 w).symm.trans hF
  refine r_X9_would_0 ?_
  refine ⟨⟨_, wh.2.1 10900 _ rfl hv_l0⟩, ?_⟩
  rcases bndT_of hF with ⟨u2, w1, hG, hF⟩ | ⟨e9, hG, rfl⟩
  rotate_left
  · exact cl_TX (D := 7) (Nat.le_trans (by decide) hd) (c_X9_needWithin wh hv_l0 hG) (fun h1 wh => hq _ wh)
  refine cl_TV (D := 7) (Nat.le_trans (by decide) hd) (c_X9_needWithin wh hv_l0 hG) ?_
  clear hG
  clear wh
  intro h wh
  refine ⟨⟨_, wh.2.1 10900 _ rfl hv_l0⟩, ?_⟩
  rcases bndT_of hF with ⟨u4, w3, hG, hF⟩ | ⟨e9, hG, rfl⟩
  rotate_left
  · exact cl_TX (D := 7) (Nat.le_trans (by decide) hd) (c_X9_needWithin wh hv_l0 hG) (fun h1 wh => hq _ wh)
  refine cl_TV (D := 7) (Nat.le_trans (by decide) hd) (c_X9_needWithin wh hv_l0 hG) ?_
  clear hG
  clear wh
  intro h wh
  refine ⟨⟨_, wh.2.1 10900 _ rfl hv_l0⟩, ?_⟩
  rcases bndT_of hF with ⟨u6, w5, hG, hF⟩ | ⟨e9, hG, rfl⟩
  rotate_left
  · exact cl_TX (D := 7) (Nat.le_trans (by decide) hd) (c_X9_needWithin wh hv_l0 hG) (fun h1 wh => hq _ wh)
  refine cl_TV (D := 7) (Nat.le_trans (by decide) hd) (c_X9_needWithin wh hv_l0 hG) ?_
  clear hG
  clear wh
  intro h wh
  refine ⟨⟨_, wh.2.1 10900 _ rfl hv_l0⟩, ?_⟩
  rcases bndT_of hF with ⟨u8, w7, hG, hF⟩ | ⟨e9, hG, rfl⟩
  rotate_left
  · exact cl_TX (D := 7) (Nat.le_trans (by decide) hd) (c_X9_needWithin wh hv_l0 hG) (fun h1 wh => hq _ wh)
  refine cl_TV (D := 7) (Nat.le_trans (by decide) hd) (c_X9_needWithin wh hv_l0 hG) ?_
  clear hG
  clear wh
  intro h wh
  refine ⟨⟨_, wh.2.1 10900 _ rfl hv_l0⟩, ?_⟩
  rcases bndT_of hF with ⟨u10, w9, hG, hF⟩ | ⟨e9, hG, rfl⟩
  rotate_left
  · exact cl_TX (D := 7) (Nat.le_trans (by decide) hd) (c_X9_needWithin wh hv_l0 hG) (fun h1 wh => hq _ wh)
  refine cl_TV (D := 7) (Nat.le_trans (by decide) hd) (c_X9_needWithin wh hv_l0 hG) ?_
  clear hG
  clear wh
  intro h wh
  refine ⟨⟨_, wh.2.1 10900 _ rfl hv_l0⟩, ?_⟩
  rcases bndT_of hF with ⟨u12, w11, hG, hF⟩ | ⟨e9, hG, rfl⟩
  rotate_left
  · exact cl_TX (D := 7) (Nat.le_trans (by decide) hd) (c_X9_needWithin wh hv_l0 hG) (fun h1 wh => hq _ wh)
  refine cl_TV (D := 7) (Nat.le_trans (by decide) hd) (c_X9_needWithin wh hv_l0 hG) ?_
  clear hG
  clear wh
  intro h wh
  refine ⟨⟨_, wh.2.1 10900 _ rfl hv_l0⟩, ?_⟩
  rcases bndT_of hF with ⟨u14, w13, hG, hF⟩ | ⟨e9, hG, rfl⟩
  rotate_left
  · exact cl_TX (D := 7) (Nat.le_trans (by decide) hd) (c_X9_needWithin wh hv_l0 hG) (fun h1 wh => hq _ wh)
  refine cl_TV (D := 7) (Nat.le_trans (by decide) hd) (c_X9_needWithin wh hv_l0 hG) ?_
  clear hG
  clear wh
  intro h wh
  refine ⟨⟨_, wh.2.1 10900 _ rfl hv_l0⟩, ?_⟩
  rcases bndT_of hF with ⟨u16, w15, hG, hF⟩ | ⟨e9, hG, rfl⟩
  rotate_left
  · exact cl_TX (D := 7) (Nat.le_trans (by decide) hd) (c_X9_needWithin wh hv_l0 hG) (fun h1 wh => hq _ wh)
  refine cl_TV (D := 7) (Nat.le_trans (by decide) hd) (c_X9_needWithin wh hv_l0 hG) ?_
  clear hG
  clear wh
  intro h wh
  refine ⟨⟨_, wh.2.1 10900 _ rfl hv_l0⟩, ?_⟩
  rcases bndT_of hF with ⟨u18, w17, hG, hF⟩ | ⟨e9, hG, rfl⟩
  rotate_left
  · exact cl_TX (D := 7) (Nat.le_trans (by decide) hd) (c_X9_needWithin wh hv_l0 hG) (fun h1 wh => hq _ wh)
  refine cl_TV (D := 7) (Nat.le_trans (by decide) hd) (c_X9_needWithin wh hv_l0 hG) ?_
  clear hG
  clear wh
  intro h wh
  have hT19 := (wh.2.2.1 10910 _ rfl hv_l0).2
  refine gO_of (wh.2.2.1 10910 _ rfl hv_l0).1 ?_
  refine ⟨⟨_, wh.2.1 10300 _ rfl hT19⟩, ?_⟩
  obtain ⟨u21, w20, hG, hF⟩ := bnd_of hF
  refine cl_V (D := 0) (Nat.le_trans (by decide) hd) (c_X3_setHeir wh hT19 hG) ?_
  clear hG
  clear wh
  intro h wh
  have hT22 := (wh.2.2.1 10910 _ rfl hv_l0).2
  refine gO_of (wh.2.2.1 10910 _ rfl hv_l0).1 ?_
  refine ⟨⟨_, wh.2.1 10300 _ rfl hT22⟩, ?_⟩
  obtain ⟨u24, w23, hG, hF⟩ := bnd_of hF
  refine cl_V (D := 0) (Nat.le_trans (by decide) hd) (c_X3_setGlass wh hT22 hG) ?_
  clear hG
  clear wh
  intro h wh
  have hT25 := (wh.2.2.1 10910 _ rfl hv_l0).2
  refine gO_of (wh.2.2.1 10910 _ rfl hv_l0).1 ?_
  refine ⟨⟨_, wh.2.1 10300 _ rfl hT25⟩, ?_⟩
  obtain ⟨u27, w26, hG, hF⟩ := bnd_of hF
  refine cl_V (D := 0) (Nat.le_trans (by decide) hd) (c_X3_setHour wh hT25 hG) ?_
  clear hG
  clear wh
  intro h wh
  have hT28 := (wh.2.2.1 10910 _ rfl hv_l0).2
  refine gO_of (wh.2.2.1 10910 _ rfl hv_l0).1 ?_
  refine ⟨⟨_, wh.2.1 10300 _ rfl hT28⟩, ?_⟩
  obtain ⟨x30, w29, hG, hF⟩ := bnd_of hF
  refine cl_I (D := 1) (Nat.le_trans (by decide) hd) (c_X3_comes wh hT28 hG) ?_
  clear hG
  clear wh
  intro h wh
  obtain ⟨rfl, rfl⟩ := some_of hF
  exact hq _ wh
theorem c_X9_would {X : SCR} {fu : Nat} {o : (Int32 ⊕ Nat)} {w1 : MEM} {a0 : Nat} {a1 : Int32} {a2 : Int32} {a3 : Int32} {a4 : Int32} {a5 : Int32} {a6 : Int32} {a7 : Int32} {a8 : Int32} {a9 : Int32} {w : MEM} {h : PH} (wh : WH X h w) (h0 : vo 9 a0 = true) (hF : f_X9_would fu a0 a1 a2 a3 a4 a5 a6 a7 a8 a9 w = some (o, w1)) : CT 8 M_X9_would [vR (900, a0), vI a1, vI a2, vI a3, vI a4, vI a5, vI a6, vI a7, vI a8, vI a9] h 9 54 (QP X (oI o) w1) :=
  CT_of mk_X9_would (Nat.le_of_ble_eq_true rfl) rfl (w_X9_would (fu := fu) (rc := 0) (rs := 0) (hd := Nat.le_refl 8) (hq := fun h1 g => ⟨rfl, g⟩) wh h0 hF)
-- X9_rank
def f_X9_rank (fu : Nat) (l0 : Nat) (l1 : Int32) (w : MEM) : Option ((Int32 ⊕ Nat) × MEM) := bndT (f_X9_needWithin fu l0 l1 (0 : Int32) (6 : Int32) w) fun (u2 : Unit) (w1 : MEM) => bnd (f_X4_ranked fu (8 + 1) l1 w1) fun (x4 : Int32) (w3 : MEM) => some (.inl x4, w3)
theorem E_X9_rank (fu : Nat) (l0 : Nat) (l1 : Int32) (w : MEM) : f_X9_rank fu l0 l1 w = bndT (f_X9_needWithin fu l0 l1 (0 : Int32) (6 : Int32) w) fun (u2 : Unit) (w1 : MEM) => bnd (f_X4_ranked fu (8 + 1) l1 w1) fun (x4 : Int32) (w3 : MEM) => some (.inl x4, w3) := rfl
theorem w_X9_rank {X : SCR} {d rc rs : Nat} {Q : PO → PH → Prop} {o : (Int32 ⊕ Nat)} {w1 : MEM} {fu : Nat} (hd : 8 ≤ d) (hq : ∀ h1, WH X h1 w1 → Q (oI o) h1) {l0 : Nat} {l1 : Int32} {w : MEM} {h : PH} (wh : WH X h w) (hv_l0 : vo 9 l0 = true) (hF : f_X9_rank fu l0 l1 w = some (o, w1)) : PW d M_X9_rank Q (1 + rc) (6 + rs) 0 [vR (900, l0), vI l1] [] h := by
  replace hF := (E_X9_rank fu l0 l1 w).symm.trans hF
  refine r_X9_rank_0 ?_
  refine ⟨⟨_, wh.2.1 10900 _ rfl hv_l0⟩, ?_⟩
  rcases bndT_of hF with ⟨u2, w1, hG, hF⟩ | ⟨e9, hG, rfl⟩
  rotate_left
  · exact cl_TX (D := 7) (Nat.le_trans (by decide) hd) (c_X9_needWithin wh hv_l0 hG) (fun h1 wh => hq _ wh)
  refine cl_TV (D := 7) (Nat.le_trans (by decide) hd) (c_X9_needWithin wh hv_l0 hG) ?_
  clear hG
  clear wh
  intro h wh
  refine gO_of (i := 8) (wh.2.1 10902 _ rfl hv_l0) ?_
  refine gO_of (i := (8 + 1)) (wh.2.1 10200 _ rfl (rfl : vo 2 8 = true)) ?_
  refine ⟨⟨_, wh.2.1 10400 _ rfl (vH1 (rfl : vo 2 8 = true))⟩, ?_⟩
  obtain ⟨x4, w3, hG, hF⟩ := bnd_of hF
  refine cl_I (D := 2) (Nat.le_trans (by decide) hd) (c_X4_ranked wh (vH1 (rfl : vo 2 8 = true)) hG) ?_
  clear hG
  clear wh
  intro h wh
  obtain ⟨rfl, rfl⟩ := some_of hF
  exact hq _ wh
theorem c_X9_rank {X : SCR} {fu : Nat} {o : (Int32 ⊕ Nat)} {w1 : MEM} {a0 : Nat} {a1 : Int32} {w : MEM} {h : PH} (wh : WH X h w) (h0 : vo 9 a0 = true) (hF : f_X9_rank fu a0 a1 w = some (o, w1)) : CT 8 M_X9_rank [vR (900, a0), vI a1] h 1 6 (QP X (oI o) w1) :=
  CT_of mk_X9_rank (Nat.le_of_ble_eq_true rfl) rfl (w_X9_rank (fu := fu) (rc := 0) (rs := 0) (hd := Nat.le_refl 8) (hq := fun h1 g => ⟨rfl, g⟩) wh h0 hF)
-- X9_greenest
def f_X9_greenest (fu : Nat) (l0 : Nat) (l1 : Int32) (w : MEM) : Option ((Int32 ⊕ Nat) × MEM) := bndT (f_X9_needWithin fu l0 l1 (0 : Int32) (1 : Int32) w) fun (u2 : Unit) (w1 : MEM) => bnd (f_X9_mostOf fu (403, (8 + 1)) w1) fun (x4 : Int32) (w3 : MEM) => ck (bI x4 7) (if (rA w3 (403, (8 + 1)) x4) = 0 then (some (.inl (-1 : Int32), w3)) else (if l1 = 0 then (some (.inl x4, w3)) else (ck (bI x4 7) (some (.inl (rA w3 (403, (8 + 1)) x4), w3)))))
theorem E_X9_greenest (fu : Nat) (l0 : Nat) (l1 : Int32) (w : MEM) : f_X9_greenest fu l0 l1 w = bndT (f_X9_needWithin fu l0 l1 (0 : Int32) (1 : Int32) w) fun (u2 : Unit) (w1 : MEM) => bnd (f_X9_mostOf fu (403, (8 + 1)) w1) fun (x4 : Int32) (w3 : MEM) => ck (bI x4 7) (if (rA w3 (403, (8 + 1)) x4) = 0 then (some (.inl (-1 : Int32), w3)) else (if l1 = 0 then (some (.inl x4, w3)) else (ck (bI x4 7) (some (.inl (rA w3 (403, (8 + 1)) x4), w3))))) := rfl
theorem w_X9_greenest {X : SCR} {d rc rs : Nat} {Q : PO → PH → Prop} {o : (Int32 ⊕ Nat)} {w1 : MEM} {fu : Nat} (hd : 8 ≤ d) (hq : ∀ h1, WH X h1 w1 → Q (oI o) h1) {l0 : Nat} {l1 : Int32} {w : MEM} {h : PH} (wh : WH X h w) (hv_l0 : vo 9 l0 = true) (hF : f_X9_greenest fu l0 l1 w = some (o, w1)) : PW d M_X9_greenest Q (1 + rc) (6 + rs) 0 [vR (900, l0), vI l1, vU, vU] [] h := by
  replace hF := (E_X9_greenest fu l0 l1 w).symm.trans hF
  refine r_X9_greenest_0 ?_
  refine ⟨⟨_, wh.2.1 10900 _ rfl hv_l0⟩, ?_⟩
  rcases bndT_of hF with ⟨u2, w1, hG, hF⟩ | ⟨e9, hG, rfl⟩
  rotate_left
  · exact cl_TX (D := 7) (Nat.le_trans (by decide) hd) (c_X9_needWithin wh hv_l0 hG) (fun h1 wh => hq _ wh)
  refine cl_TV (D := 7) (Nat.le_trans (by decide) hd) (c_X9_needWithin wh hv_l0 hG) ?_
  clear hG
  clear wh
  intro h wh
  refine gO_of (i := 8) (wh.2.1 10902 _ rfl hv_l0) ?_
  refine gO_of (i := (8 + 1)) (wh.2.1 10200 _ rfl (rfl : vo 2 8 = true)) ?_
  refine gA_of (b := (403, (8 + 1))) (wh.2.1 10402 _ rfl (vH1 (rfl : vo 2 8 = true))) ?_
  obtain ⟨x4, w3, hG, hF⟩ := bnd_of hF
  refine cl_I (D := 0) (Nat.le_trans (by decide) hd) (c_X9_mostOf wh (oA_403 (vH1 (rfl : vo 2 8 = true))) hG) ?_
  clear hG
  clear wh
  intro h wh
  obtain ⟨c, hF⟩ := ck_of hF
  refine xI_of wh (oA_403 (vH1 (rfl : vo 2 8 = true))) c ?_
  clear c
  refine ⟨fun c => ?_, fun c => ?_⟩
  · replace hF := if_ofT c hF
    obtain ⟨rfl, rfl⟩ := some_of hF
    exact hq _ wh
  · replace hF := if_ofF c hF
    refine ⟨fun c => ?_, fun c => ?_⟩
    · replace hF := if_ofT c hF
      obtain ⟨rfl, rfl⟩ := some_of hF
      exact hq _ wh
    · replace hF := if_ofF c hF
      obtain ⟨c, hF⟩ := ck_of hF
      refine xI_of wh (oA_403 (vH1 (rfl : vo 2 8 = true))) c ?_
      clear c
      obtain ⟨rfl, rfl⟩ := some_of hF
      exact hq _ wh
theorem c_X9_greenest {X : SCR} {fu : Nat} {o : (Int32 ⊕ Nat)} {w1 : MEM} {a0 : Nat} {a1 : Int32} {w : MEM} {h : PH} (wh : WH X h w) (h0 : vo 9 a0 = true) (hF : f_X9_greenest fu a0 a1 w = some (o, w1)) : CT 8 M_X9_greenest [vR (900, a0), vI a1] h 1 6 (QP X (oI o) w1) :=
  CT_of mk_X9_greenest (Nat.le_of_ble_eq_true rfl) rfl (w_X9_greenest (fu := fu) (rc := 0) (rs := 0) (hd := Nat.le_refl 8) (hq := fun h1 g => ⟨rfl, g⟩) wh h0 hF)
-- X9_stalest
def f_X9_stalest_35 (fu : Nat) : Nat → Nat → Int32 → LA → Int32 → Int32 → MEM → Option ((Int32 ⊕ Nat) × MEM)
  | 0, _, _, _, _, _, _ => none
  | n + 1, l0, l1, l2, l3, l4, w => if l4 < (rS w (10107, (rT w (10908, l0)))) then (ck (bI l4 (aN l2.1)) (ck (bI l3 (aN l2.1)) (if (rA w l2 l4) < (rA w l2 l3) then (f_X9_stalest_35 fu n l0 l1 l2 l4 (l4 + (1 : Int32)) w) else (f_X9_stalest_35 fu n l0 l1 l2 l3 (l4 + (1 : Int32)) w)))) else (if l1 = 0 then (some (.inl l3, w)) else (ck (bI l3 (aN l2.1)) (some (.inl (rA w l2 l3), w))))
theorem E_X9_stalest_35 (fu : Nat) (n : Nat) (l0 : Nat) (l1 : Int32) (l2 : LA) (l3 : Int32) (l4 : Int32) (w : MEM) : f_X9_stalest_35 fu (n + 1) l0 l1 l2 l3 l4 w = if l4 < (rS w (10107, (rT w (10908, l0)))) then (ck (bI l4 (aN l2.1)) (ck (bI l3 (aN l2.1)) (if (rA w l2 l4) < (rA w l2 l3) then (f_X9_stalest_35 fu n l0 l1 l2 l4 (l4 + (1 : Int32)) w) else (f_X9_stalest_35 fu n l0 l1 l2 l3 (l4 + (1 : Int32)) w)))) else (if l1 = 0 then (some (.inl l3, w)) else (ck (bI l3 (aN l2.1)) (some (.inl (rA w l2 l3), w)))) := rfl
theorem w_X9_stalest_35 {X : SCR} {d rc rs : Nat} {Q : PO → PH → Prop} {o : (Int32 ⊕ Nat)} {w1 : MEM} {fu : Nat} (hd : 8 ≤ d) (hq : ∀ h1, WH X h1 w1 → Q (oI o) h1) : ∀ (n : Nat) (l0 : Nat) (l1 : Int32) (l2 : LA) (l3 : Int32) (l4 : Int32) (w : MEM) (h : PH), WH X h w → vo 9 l0 = true → oA l2 0 → f_X9_stalest_35 fu n l0 l1 l2 l3 l4 w = some (o, w1) → PW d M_X9_stalest Q rc rs 35 [vR (900, l0), vI l1, vR l2, vI l3, vI l4] [] h := by
  intro n
  induction n with
  | zero => intro l0 l1 l2 l3 l4 w h wh hv_l0 ha_l2 hF; cases hF
  | succ n ih =>
    intro l0 l1 l2 l3 l4 w h wh hv_l0 ha_l2 hF
    replace hF := (E_X9_stalest_35 fu n l0 l1 l2 l3 l4 w).symm.trans hF
    refine r_X9_stalest_35 ?_
    have hT1 := (wh.2.2.1 10908 _ rfl hv_l0).2
    refine gO_of (wh.2.2.1 10908 _ rfl hv_l0).1 ?_
    refine gI_of (wh.1 10107 _ rfl hT1) ?_
    refine ⟨fun c => ?_, fun c => ?_⟩
    · replace hF := if_ofT c hF
      obtain ⟨c, hF⟩ := ck_of hF
      refine xI_of wh ha_l2 c ?_
      clear c
      obtain ⟨c, hF⟩ := ck_of hF
      refine xI_of wh ha_l2 c ?_
      clear c
      refine ⟨fun c => ?_, fun c => ?_⟩
      · replace hF := if_ofT c hF
        exact ih _ _ _ _ _ _ _ wh hv_l0 ha_l2 hF
      · replace hF := if_ofF c hF
        exact ih _ _ _ _ _ _ _ wh hv_l0 ha_l2 hF
    · replace hF := if_ofF c hF
      refine ⟨fun c => ?_, fun c => ?_⟩
      · replace hF := if_ofT c hF
        obtain ⟨rfl, rfl⟩ := some_of hF
        exact hq _ wh
      · replace hF := if_ofF c hF
        obtain ⟨c, hF⟩ := ck_of hF
        refine xI_of wh ha_l2 c ?_
        clear c
        obtain ⟨rfl, rfl⟩ := some_of hF
        exact hq _ wh
def f_X9_stalest (fu : Nat) (l0 : Nat) (l1 : Int32) (w : MEM) : Option ((Int32 ⊕ Nat) × MEM) := bndT (f_X9_needWithin fu l0 l1 (0 : Int32) (1 : Int32) w) fun (u2 : Unit) (w1 : MEM) => if (rS w1 (10107, (rT w1 (10908, l0)))) = 0 then (some (.inl (-1 : Int32), w1)) else (f_X9_stalest_35 fu fu l0 l1 (404, (8 + 1)) (0 : Int32) (1 : Int32) w1)
theorem E_X9_stalest (fu : Nat) (l0 : Nat) (l1 : Int32) (w : MEM) : f_X9_stalest fu l0 l1 w = bndT (f_X9_needWithin fu l0 l1 (0 : Int32) (1 : Int32) w) fun (u2 : Unit) (w1 : MEM) => if (rS w1 (10107, (rT w1 (10908, l0)))) = 0 then (some (.inl (-1 : Int32), w1)) else (f_X9_stalest_35 fu fu l0 l1 (404, (8 + 1)) (0 : Int32) (1 : Int32) w1) := rfl
theorem w_X9_stalest {X : SCR} {d rc rs : Nat} {Q : PO → PH → Prop} {o : (Int32 ⊕ Nat)} {w1 : MEM} {fu : Nat} (hd : 8 ≤ d) (hq : ∀ h1, WH X h1 w1 → Q (oI o) h1) {l0 : Nat} {l1 : Int32} {w : MEM} {h : PH} (wh : WH X h w) (hv_l0 : vo 9 l0 = true) (hF : f_X9_stalest fu l0 l1 w = some (o, w1)) : PW d M_X9_stalest Q (1 + rc) (6 + rs) 0 [vR (900, l0), vI l1, vU, vU, vU] [] h := by
  replace hF := (E_X9_stalest fu l0 l1 w).symm.trans hF
  refine r_X9_stalest_0 ?_
  refine ⟨⟨_, wh.2.1 10900 _ rfl hv_l0⟩, ?_⟩
  rcases bndT_of hF with ⟨u2, w1, hG, hF⟩ | ⟨e9, hG, rfl⟩
  rotate_left
  · exact cl_TX (D := 7) (Nat.le_trans (by decide) hd) (c_X9_needWithin wh hv_l0 hG) (fun h1 wh => hq _ wh)
  refine cl_TV (D := 7) (Nat.le_trans (by decide) hd) (c_X9_needWithin wh hv_l0 hG) ?_
  clear hG
  clear wh
  intro h wh
  have hT3 := (wh.2.2.1 10908 _ rfl hv_l0).2
  refine gO_of (wh.2.2.1 10908 _ rfl hv_l0).1 ?_
  refine gI_of (wh.1 10107 _ rfl hT3) ?_
  refine ⟨fun c => ?_, fun c => ?_⟩
  · replace hF := if_ofT c hF
    obtain ⟨rfl, rfl⟩ := some_of hF
    exact hq _ wh
  · replace hF := if_ofF c hF
    refine gO_of (i := 8) (wh.2.1 10902 _ rfl hv_l0) ?_
    refine gO_of (i := (8 + 1)) (wh.2.1 10200 _ rfl (rfl : vo 2 8 = true)) ?_
    refine gA_of (b := (404, (8 + 1))) (wh.2.1 10403 _ rfl (vH1 (rfl : vo 2 8 = true))) ?_
    exact w_X9_stalest_35 hd hq  fu _ _ _ _ _ _ _ wh hv_l0 (oA_404 (vH1 (rfl : vo 2 8 = true))) hF
theorem c_X9_stalest {X : SCR} {fu : Nat} {o : (Int32 ⊕ Nat)} {w1 : MEM} {a0 : Nat} {a1 : Int32} {w : MEM} {h : PH} (wh : WH X h w) (h0 : vo 9 a0 = true) (hF : f_X9_stalest fu a0 a1 w = some (o, w1)) : CT 8 M_X9_stalest [vR (900, a0), vI a1] h 1 6 (QP X (oI o) w1) :=
  CT_of mk_X9_stalest (Nat.le_of_ble_eq_true rfl) rfl (w_X9_stalest (fu := fu) (rc := 0) (rs := 0) (hd := Nat.le_refl 8) (hq := fun h1 g => ⟨rfl, g⟩) wh h0 hF)
-- X9_coughs
def f_X9_coughs_18 (fu : Nat) : Nat → Nat → Int32 → Int32 → Int32 → Int32 → MEM → Option ((Int32 ⊕ Nat) × MEM)
  | 0, _, _, _, _, _, _ => none
  | n + 1, l0, l1, l2, l3, l4, w => if l4 < l2 then (bnd (f_X1_coughsBeside fu (rT w (10908, l0)) l1 ((rS w (10409, (8 + 1))) + l4) w) fun (x3 : Int32) (w2 : MEM) => lt ((l3 + x3)) fun (v4 : Int32) => f_X9_coughs_18 fu n l0 l1 l2 v4 (l4 + (1 : Int32)) w2) else (some (.inl l3, w))
theorem E_X9_coughs_18 (fu : Nat) (n : Nat) (l0 : Nat) (l1 : Int32) (l2 : Int32) (l3 : Int32) (l4 : Int32) (w : MEM) : f_X9_coughs_18 fu (n + 1) l0 l1 l2 l3 l4 w = if l4 < l2 then (bnd (f_X1_coughsBeside fu (rT w (10908, l0)) l1 ((rS w (10409, (8 + 1))) + l4) w) fun (x3 : Int32) (w2 : MEM) => lt ((l3 + x3)) fun (v4 : Int32) => f_X9_coughs_18 fu n l0 l1 l2 v4 (l4 + (1 : Int32)) w2) else (some (.inl l3, w)) := rfl
theorem w_X9_coughs_18 {X : SCR} {d rc rs : Nat} {Q : PO → PH → Prop} {o : (Int32 ⊕ Nat)} {w1 : MEM} {fu : Nat} (hd : 8 ≤ d) (hq : ∀ h1, WH X h1 w1 → Q (oI o) h1) : ∀ (n : Nat) (l0 : Nat) (l1 : Int32) (l2 : Int32) (l3 : Int32) (l4 : Int32) (w : MEM) (h : PH), WH X h w → vo 9 l0 = true → f_X9_coughs_18 fu n l0 l1 l2 l3 l4 w = some (o, w1) → PW d M_X9_coughs Q rc rs 18 [vR (900, l0), vI l1, vI l2, vI l3, vI l4] [] h := by
  intro n
  induction n with
  | zero => intro l0 l1 l2 l3 l4 w h wh hv_l0 hF; cases hF
  | succ n ih =>
    intro l0 l1 l2 l3 l4 w h wh hv_l0 hF
    replace hF := (E_X9_coughs_18 fu n l0 l1 l2 l3 l4 w).symm.trans hF
    refine r_X9_coughs_18 ?_
    refine ⟨fun c => ?_, fun c => ?_⟩
    · replace hF := if_ofT c hF
      have hT1 := (wh.2.2.1 10908 _ rfl hv_l0).2
      refine gO_of (wh.2.2.1 10908 _ rfl hv_l0).1 ?_
      refine gO_of (i := 8) (wh.2.1 10902 _ rfl hv_l0) ?_
      refine gO_of (i := (8 + 1)) (wh.2.1 10200 _ rfl (rfl : vo 2 8 = true)) ?_
      refine gI_of (wh.1 10409 _ rfl (vH1 (rfl : vo 2 8 = true))) ?_
      refine ⟨⟨_, wh.2.1 10100 _ rfl hT1⟩, ?_⟩
      obtain ⟨x3, w2, hG, hF⟩ := bnd_of hF
      refine cl_I (D := 2) (Nat.le_trans (by decide) hd) (c_X1_coughsBeside wh hT1 hG) ?_
      clear hG
      clear wh
      intro h wh
      replace hF := lt_of hF
      exact ih _ _ _ _ _ _ _ wh hv_l0 hF
    · replace hF := if_ofF c hF
      obtain ⟨rfl, rfl⟩ := some_of hF
      exact hq _ wh
def f_X9_coughs (fu : Nat) (l0 : Nat) (l1 : Int32) (l2 : Int32) (w : MEM) : Option ((Int32 ⊕ Nat) × MEM) := bndT (f_X9_needHeir fu l0 l1 w) fun (u2 : Unit) (w1 : MEM) => bndT (f_X9_needWithin fu l0 l2 (0 : Int32) (99 : Int32) w1) fun (u4 : Unit) (w3 : MEM) => f_X9_coughs_18 fu fu l0 l1 l2 (0 : Int32) (0 : Int32) w3
theorem E_X9_coughs (fu : Nat) (l0 : Nat) (l1 : Int32) (l2 : Int32) (w : MEM) : f_X9_coughs fu l0 l1 l2 w = bndT (f_X9_needHeir fu l0 l1 w) fun (u2 : Unit) (w1 : MEM) => bndT (f_X9_needWithin fu l0 l2 (0 : Int32) (99 : Int32) w1) fun (u4 : Unit) (w3 : MEM) => f_X9_coughs_18 fu fu l0 l1 l2 (0 : Int32) (0 : Int32) w3 := rfl
theorem w_X9_coughs {X : SCR} {d rc rs : Nat} {Q : PO → PH → Prop} {o : (Int32 ⊕ Nat)} {w1 : MEM} {fu : Nat} (hd : 8 ≤ d) (hq : ∀ h1, WH X h1 w1 → Q (oI o) h1) {l0 : Nat} {l1 : Int32} {l2 : Int32} {w : MEM} {h : PH} (wh : WH X h w) (hv_l0 : vo 9 l0 = true) (hF : f_X9_coughs fu l0 l1 l2 w = some (o, w1)) : PW d M_X9_coughs Q (1 + (1 + rc)) (6 + (6 + rs)) 0 [vR (900, l0), vI l1, vI l2, vU, vU] [] h := by
  replace hF := (E_X9_coughs fu l0 l1 l2 w).symm.trans hF
  refine r_X9_coughs_0 ?_
  refine ⟨⟨_, wh.2.1 10900 _ rfl hv_l0⟩, ?_⟩
  rcases bndT_of hF with ⟨u2, w1, hG, hF⟩ | ⟨e9, hG, rfl⟩
  rotate_left
  · exact cl_TX (D := 7) (Nat.le_trans (by decide) hd) (c_X9_needHeir wh hv_l0 hG) (fun h1 wh => hq _ wh)
  refine cl_TV (D := 7) (Nat.le_trans (by decide) hd) (c_X9_needHeir wh hv_l0 hG) ?_
  clear hG
  clear wh
  intro h wh
  refine ⟨⟨_, wh.2.1 10900 _ rfl hv_l0⟩, ?_⟩
  rcases bndT_of hF with ⟨u4, w3, hG, hF⟩ | ⟨e9, hG, rfl⟩
  rotate_left
  · exact cl_TX (D := 7) (Nat.le_trans (by decide) hd) (c_X9_needWithin wh hv_l0 hG) (fun h1 wh => hq _ wh)
  refine cl_TV (D := 7) (Nat.le_trans (by decide) hd) (c_X9_needWithin wh hv_l0 hG) ?_
  clear hG
  clear wh
  intro h wh
  exact w_X9_coughs_18 hd hq  fu _ _ _ _ _ _ _ wh hv_l0 hF
theorem c_X9_coughs {X : SCR} {fu : Nat} {o : (Int32 ⊕ Nat)} {w1 : MEM} {a0 : Nat} {a1 : Int32} {a2 : Int32} {w : MEM} {h : PH} (wh : WH X h w) (h0 : vo 9 a0 = true) (hF : f_X9_coughs fu a0 a1 a2 w = some (o, w1)) : CT 8 M_X9_coughs [vR (900, a0), vI a1, vI a2] h 2 12 (QP X (oI o) w1) :=
  CT_of mk_X9_coughs (Nat.le_of_ble_eq_true rfl) rfl (w_X9_coughs (fu := fu) (rc := 0) (rs := 0) (hd := Nat.le_refl 8) (hq := fun h1 g => ⟨rfl, g⟩) wh h0 hF)
-- X9_twins
def f_X9_twins_41 (fu : Nat) (k23 : Nat → Int32 → Nat → Int32 → Int32 → Int32 → MEM → Option ((Int32 ⊕ Nat) × MEM)) : Nat → Nat → Int32 → Nat → Int32 → Int32 → Int32 → Int32 → MEM → Option ((Int32 ⊕ Nat) × MEM)
  | 0, _, _, _, _, _, _, _, _ => none
  | n + 1, l0, l1, l2, l3, l4, l5, l6, w => if l6 < (rS w (10107, (rT w (10908, l0)))) then (ck (bI l5 7) (ck (bI l6 7) (if (rA w (401, l2) l5) = (rA w (401, l2) l6) then (ck (bI l5 7) (ck (bI l6 7) (if (rA w (402, l2) l5) = (rA w (402, l2) l6) then (if l4 = (-1 : Int32) then (lt ((((10 : Int32) * l5) + l6)) fun (v2 : Int32) => f_X9_twins_41 fu k23 n l0 l1 l2 (l3 + (1 : Int32)) v2 l5 (l6 + (1 : Int32)) w) else (f_X9_twins_41 fu k23 n l0 l1 l2 (l3 + (1 : Int32)) l4 l5 (l6 + (1 : Int32)) w)) else (f_X9_twins_41 fu k23 n l0 l1 l2 l3 l4 l5 (l6 + (1 : Int32)) w)))) else (f_X9_twins_41 fu k23 n l0 l1 l2 l3 l4 l5 (l6 + (1 : Int32)) w)))) else (k23 l0 l1 l2 l3 l4 (l5 + (1 : Int32)) w)
theorem E_X9_twins_41 (fu : Nat) (k23 : Nat → Int32 → Nat → Int32 → Int32 → Int32 → MEM → Option ((Int32 ⊕ Nat) × MEM)) (n : Nat) (l0 : Nat) (l1 : Int32) (l2 : Nat) (l3 : Int32) (l4 : Int32) (l5 : Int32) (l6 : Int32) (w : MEM) : f_X9_twins_41 fu k23 (n + 1) l0 l1 l2 l3 l4 l5 l6 w = if l6 < (rS w (10107, (rT w (10908, l0)))) then (ck (bI l5 7) (ck (bI l6 7) (if (rA w (401, l2) l5) = (rA w (401, l2) l6) then (ck (bI l5 7) (ck (bI l6 7) (if (rA w (402, l2) l5) = (rA w (402, l2) l6) then (if l4 = (-1 : Int32) then (lt ((((10 : Int32) * l5) + l6)) fun (v2 : Int32) => f_X9_twins_41 fu k23 n l0 l1 l2 (l3 + (1 : Int32)) v2 l5 (l6 + (1 : Int32)) w) else (f_X9_twins_41 fu k23 n l0 l1 l2 (l3 + (1 : Int32)) l4 l5 (l6 + (1 : Int32)) w)) else (f_X9_twins_41 fu k23 n l0 l1 l2 l3 l4 l5 (l6 + (1 : Int32)) w)))) else (f_X9_twins_41 fu k23 n l0 l1 l2 l3 l4 l5 (l6 + (1 : Int32)) w)))) else (k23 l0 l1 l2 l3 l4 (l5 + (1 : Int32)) w) := rfl
theorem w_X9_twins_41 {X : SCR} {d rc rs : Nat} {Q : PO → PH → Prop} {o : (Int32 ⊕ Nat)} {w1 : MEM} {fu : Nat} {k23 : Nat → Int32 → Nat → Int32 → Int32 → Int32 → MEM → Option ((Int32 ⊕ Nat) × MEM)} (hd : 8 ≤ d) (hq : ∀ h1, WH X h1 w1 → Q (oI o) h1) (hk23 : ∀ (l0 : Nat) (l1 : Int32) (l2 : Nat) (l3 : Int32) (l4 : Int32) (l5 : Int32) (w : MEM) (h : PH), WH X h w → vo 9 l0 = true → vo 4 l2 = true → k23 l0 l1 l2 l3 l4 l5 w = some (o, w1) → PW d M_X9_twins Q rc rs 23 [vR (900, l0), vI l1, vR (400, l2), vI l3, vI l4, vI l5, vU] [] h) : ∀ (n : Nat) (l0 : Nat) (l1 : Int32) (l2 : Nat) (l3 : Int32) (l4 : Int32) (l5 : Int32) (l6 : Int32) (w : MEM) (h : PH), WH X h w → vo 9 l0 = true → vo 4 l2 = true → f_X9_twins_41 fu k23 n l0 l1 l2 l3 l4 l5 l6 w = some (o, w1) → PW d M_X9_twins Q rc rs 41 [vR (900, l0), vI l1, vR (400, l2), vI l3, vI l4, vI l5, vI l6] [] h := by
  intro n
  induction n with
  | zero => intro l0 l1 l2 l3 l4 l5 l6 w h wh hv_l0 hv_l2 hF; cases hF
  | succ n ih =>
    intro l0 l1 l2 l3 l4 l5 l6 w h wh hv_l0 hv_l2 hF
    replace hF := (E_X9_twins_41 fu k23 n l0 l1 l2 l3 l4 l5 l6 w).symm.trans hF
    refine r_X9_twins_41 ?_
    have hT1 := (wh.2.2.1 10908 _ rfl hv_l0).2
    refine gO_of (wh.2.2.1 10908 _ rfl hv_l0).1 ?_
    refine gI_of (wh.1 10107 _ rfl hT1) ?_
    refine ⟨fun c => ?_, fun c => ?_⟩
    · replace hF := if_ofT c hF
      refine gA_of (b := (401, l2)) (wh.2.1 10400 _ rfl hv_l2) ?_
      obtain ⟨c, hF⟩ := ck_of hF
      refine xI_of wh (oA_401 hv_l2) c ?_
      clear c
      refine gA_of (b := (401, l2)) (wh.2.1 10400 _ rfl hv_l2) ?_
      obtain ⟨c, hF⟩ := ck_of hF
      refine xI_of wh (oA_401 hv_l2) c ?_
      clear c
      refine ⟨fun c => ?_, fun c => ?_⟩
      · replace hF := if_ofT c hF
        refine gA_of (b := (402, l2)) (wh.2.1 10401 _ rfl hv_l2) ?_
        obtain ⟨c, hF⟩ := ck_of hF
        refine xI_of wh (oA_402 hv_l2) c ?_
        clear c
        refine gA_of (b := (402, l2)) (wh.2.1 10401 _ rfl hv_l2) ?_
        obtain ⟨c, hF⟩ := ck_of hF
        refine xI_of wh (oA_402 hv_l2) c ?_
        clear c
        refine ⟨fun c => ?_, fun c => ?_⟩
        · replace hF := if_ofT c hF
          refine ⟨fun c => ?_, fun c => ?_⟩
          · replace hF := if_ofT c hF
            replace hF := lt_of hF
            exact ih _ _ _ _ _ _ _ _ _ wh hv_l0 hv_l2 hF
          · replace hF := if_ofF c hF
            exact ih _ _ _ _ _ _ _ _ _ wh hv_l0 hv_l2 hF
        · replace hF := if_ofF c hF
          exact ih _ _ _ _ _ _ _ _ _ wh hv_l0 hv_l2 hF
      · replace hF := if_ofF c hF
        exact ih _ _ _ _ _ _ _ _ _ wh hv_l0 hv_l2 hF
    · replace hF := if_ofF c hF
      exact hk23 _ _ _ _ _ _ _ _ wh hv_l0 hv_l2 hF
def f_X9_twins_23 (fu : Nat) : Nat → Nat → Int32 → Nat → Int32 → Int32 → Int32 → MEM → Option ((Int32 ⊕ Nat) × MEM)
  | 0, _, _, _, _, _, _, _ => none
  | n + 1, l0, l1, l2, l3, l4, l5, w => if l5 < (rS w (10107, (rT w (10908, l0)))) then (lt ((l5 + (1 : Int32))) fun (v2 : Int32) => f_X9_twins_41 fu (fun l0 l1 l2 l3 l4 l5 w => f_X9_twins_23 fu n l0 l1 l2 l3 l4 l5 w) fu l0 l1 l2 l3 l4 l5 v2 w) else (if l1 = 0 then (some (.inl l3, w)) else (some (.inl l4, w)))
theorem E_X9_twins_23 (fu : Nat) (n : Nat) (l0 : Nat) (l1 : Int32) (l2 : Nat) (l3 : Int32) (l4 : Int32) (l5 : Int32) (w : MEM) : f_X9_twins_23 fu (n + 1) l0 l1 l2 l3 l4 l5 w = if l5 < (rS w (10107, (rT w (10908, l0)))) then (lt ((l5 + (1 : Int32))) fun (v2 : Int32) => f_X9_twins_41 fu (fun l0 l1 l2 l3 l4 l5 w => f_X9_twins_23 fu n l0 l1 l2 l3 l4 l5 w) fu l0 l1 l2 l3 l4 l5 v2 w) else (if l1 = 0 then (some (.inl l3, w)) else (some (.inl l4, w))) := rfl
theorem w_X9_twins_23 {X : SCR} {d rc rs : Nat} {Q : PO → PH → Prop} {o : (Int32 ⊕ Nat)} {w1 : MEM} {fu : Nat} (hd : 8 ≤ d) (hq : ∀ h1, WH X h1 w1 → Q (oI o) h1) : ∀ (n : Nat) (l0 : Nat) (l1 : Int32) (l2 : Nat) (l3 : Int32) (l4 : Int32) (l5 : Int32) (w : MEM) (h : PH), WH X h w → vo 9 l0 = true → vo 4 l2 = true → f_X9_twins_23 fu n l0 l1 l2 l3 l4 l5 w = some (o, w1) → PW d M_X9_twins Q rc rs 23 [vR (900, l0), vI l1, vR (400, l2), vI l3, vI l4, vI l5, vU] [] h := by
  intro n
  induction n with
  | zero => intro l0 l1 l2 l3 l4 l5 w h wh hv_l0 hv_l2 hF; cases hF
  | succ n ih =>
    intro l0 l1 l2 l3 l4 l5 w h wh hv_l0 hv_l2 hF
    replace hF := (E_X9_twins_23 fu n l0 l1 l2 l3 l4 l5 w).symm.trans hF
    refine r_X9_twins_23 ?_
    have hT1 := (wh.2.2.1 10908 _ rfl hv_l0).2
    refine gO_of (wh.2.2.1 10908 _ rfl hv_l0).1 ?_
    refine gI_of (wh.1 10107 _ rfl hT1) ?_
    refine ⟨fun c => ?_, fun c => ?_⟩
    · replace hF := if_ofT c hF
      replace hF := lt_of hF
      exact w_X9_twins_41 hd hq (fun l0 l1 l2 l3 l4 l5 w h wh g0 g1 hF => ih l0 l1 l2 l3 l4 l5 w h wh g0 g1 hF) fu _ _ _ _ _ _ _ _ _ wh hv_l0 hv_l2 hF
    · replace hF := if_ofF c hF
      refine ⟨fun c => ?_, fun c => ?_⟩
      · replace hF := if_ofT c hF
        obtain ⟨rfl, rfl⟩ := some_of hF
        exact hq _ wh
      · replace hF := if_ofF c hF
        obtain ⟨rfl, rfl⟩ := some_of hF
        exact hq _ wh
def f_X9_twins (fu : Nat) (l0 : Nat) (l1 : Int32) (w : MEM) : Option ((Int32 ⊕ Nat) × MEM) := bndT (f_X9_needWithin fu l0 l1 (0 : Int32) (1 : Int32) w) fun (u2 : Unit) (w1 : MEM) => f_X9_twins_23 fu fu l0 l1 (8 + 1) (0 : Int32) (-1 : Int32) (0 : Int32) w1
theorem E_X9_twins (fu : Nat) (l0 : Nat) (l1 : Int32) (w : MEM) : f_X9_twins fu l0 l1 w = bndT (f_X9_needWithin fu l0 l1 (0 : Int32) (1 : Int32) w) fun (u2 : Unit) (w1 : MEM) => f_X9_twins_23 fu fu l0 l1 (8 + 1) (0 : Int32) (-1 : Int32) (0 : Int32) w1 := rfl
theorem w_X9_twins {X : SCR} {d rc rs : Nat} {Q : PO → PH → Prop} {o : (Int32 ⊕ Nat)} {w1 : MEM} {fu : Nat} (hd : 8 ≤ d) (hq : ∀ h1, WH X h1 w1 → Q (oI o) h1) {l0 : Nat} {l1 : Int32} {w : MEM} {h : PH} (wh : WH X h w) (hv_l0 : vo 9 l0 = true) (hF : f_X9_twins fu l0 l1 w = some (o, w1)) : PW d M_X9_twins Q (1 + rc) (6 + rs) 0 [vR (900, l0), vI l1, vU, vU, vU, vU, vU] [] h := by
  replace hF := (E_X9_twins fu l0 l1 w).symm.trans hF
  refine r_X9_twins_0 ?_
  refine ⟨⟨_, wh.2.1 10900 _ rfl hv_l0⟩, ?_⟩
  rcases bndT_of hF with ⟨u2, w1, hG, hF⟩ | ⟨e9, hG, rfl⟩
  rotate_left
  · exact cl_TX (D := 7) (Nat.le_trans (by decide) hd) (c_X9_needWithin wh hv_l0 hG) (fun h1 wh => hq _ wh)
  refine cl_TV (D := 7) (Nat.le_trans (by decide) hd) (c_X9_needWithin wh hv_l0 hG) ?_
  clear hG
  clear wh
  intro h wh
  refine gO_of (i := 8) (wh.2.1 10902 _ rfl hv_l0) ?_
  refine gO_of (i := (8 + 1)) (wh.2.1 10200 _ rfl (rfl : vo 2 8 = true)) ?_
  exact w_X9_twins_23 hd hq  fu _ _ _ _ _ _ _ _ wh hv_l0 (vH1 (rfl : vo 2 8 = true)) hF
theorem c_X9_twins {X : SCR} {fu : Nat} {o : (Int32 ⊕ Nat)} {w1 : MEM} {a0 : Nat} {a1 : Int32} {w : MEM} {h : PH} (wh : WH X h w) (h0 : vo 9 a0 = true) (hF : f_X9_twins fu a0 a1 w = some (o, w1)) : CT 8 M_X9_twins [vR (900, a0), vI a1] h 1 6 (QP X (oI o) w1) :=
  CT_of mk_X9_twins (Nat.le_of_ble_eq_true rfl) rfl (w_X9_twins (fu := fu) (rc := 0) (rs := 0) (hd := Nat.le_refl 8) (hq := fun h1 g => ⟨rfl, g⟩) wh h0 hF)
-- X9_sunny
def f_X9_sunny (fu : Nat) (l0 : Nat) (w : MEM) : Option (Int32 × MEM) := bnd (f_J9_floorMod_7cf53 fu ((rS w (10110, (rT w (10908, l0)))) - (rS w (10409, (8 + 1)))) (24 : Int32) w) fun (x3 : Int32) (w2 : MEM) => some (x3, w2)
theorem E_X9_sunny (fu : Nat) (l0 : Nat) (w : MEM) : f_X9_sunny fu l0 w = bnd (f_J9_floorMod_7cf53 fu ((rS w (10110, (rT w (10908, l0)))) - (rS w (10409, (8 + 1)))) (24 : Int32) w) fun (x3 : Int32) (w2 : MEM) => some (x3, w2) := rfl
theorem w_X9_sunny {X : SCR} {d rc rs : Nat} {Q : PO → PH → Prop} {o : Int32} {w1 : MEM} {fu : Nat} (hd : 1 ≤ d) (hq : ∀ h1, WH X h1 w1 → Q (.inl (some (vI o))) h1) {l0 : Nat} {w : MEM} {h : PH} (wh : WH X h w) (hv_l0 : vo 9 l0 = true) (hF : f_X9_sunny fu l0 w = some (o, w1)) : PW d M_X9_sunny Q rc rs 0 [vR (900, l0)] [] h := by
  replace hF := (E_X9_sunny fu l0 w).symm.trans hF
  refine r_X9_sunny_0 ?_
  have hT1 := (wh.2.2.1 10908 _ rfl hv_l0).2
  refine gO_of (wh.2.2.1 10908 _ rfl hv_l0).1 ?_
  refine gI_of (wh.1 10110 _ rfl hT1) ?_
  refine gO_of (i := 8) (wh.2.1 10902 _ rfl hv_l0) ?_
  refine gO_of (i := (8 + 1)) (wh.2.1 10200 _ rfl (rfl : vo 2 8 = true)) ?_
  refine gI_of (wh.1 10409 _ rfl (vH1 (rfl : vo 2 8 = true))) ?_
  obtain ⟨x3, w2, hG, hF⟩ := bnd_of hF
  refine cl_I (D := 0) (Nat.le_trans (by decide) hd) (c_J9_floorMod_7cf53 wh  hG) ?_
  clear hG
  clear wh
  intro h wh
  obtain ⟨rfl, rfl⟩ := some_of hF
  exact hq _ wh
theorem c_X9_sunny {X : SCR} {fu : Nat} {o : Int32} {w1 : MEM} {a0 : Nat} {w : MEM} {h : PH} (wh : WH X h w) (h0 : vo 9 a0 = true) (hF : f_X9_sunny fu a0 w = some (o, w1)) : CT 1 M_X9_sunny [vR (900, a0)] h 0 0 (QP X (.inl (some (vI o))) w1) :=
  CT_of mk_X9_sunny (Nat.le_of_ble_eq_true rfl) rfl (w_X9_sunny (fu := fu) (rc := 0) (rs := 0) (hd := Nat.le_refl 1) (hq := fun h1 g => ⟨rfl, g⟩) wh h0 hF)
-- X9_ahead
def f_X9_ahead (fu : Nat) (l0 : Nat) (l1 : Int32) (l2 : Int32) (w : MEM) : Option ((Int32 ⊕ Nat) × MEM) := bndT (f_X9_needWithin fu l0 l1 (0 : Int32) (99 : Int32) w) fun (u2 : Unit) (w1 : MEM) => bndT (f_X9_needWithin fu l0 l2 (0 : Int32) (3 : Int32) w1) fun (u4 : Unit) (w3 : MEM) => bnd (f_X4_copy fu 181 (8 + 1) w3) fun (u6 : Unit) (w5 : MEM) => bnd (f_X4_passHours fu 181 l1 (rT w5 (10908, l0)) (rT w5 (10910, l0)) w5) fun (u10 : Unit) (w9 : MEM) => if l2 = (0 : Int32) then (bnd (f_X9_sum fu (403, 181) w9) fun (x18 : Int32) (w17 : MEM) => some (.inl x18, w17)) else (if l2 = (1 : Int32) then (bnd (f_X4_cloudedHeirs fu 181 w9) fun (x16 : Int32) (w15 : MEM) => some (.inl x16, w15)) else (if l2 = (2 : Int32) then (bnd (f_X4_ranked fu 181 (0 : Int32) w9) fun (x14 : Int32) (w13 : MEM) => some (.inl x14, w13)) else (bnd (f_X9_sum fu (409, 181) w9) fun (x12 : Int32) (w11 : MEM) => some (.inl x12, w11))))
theorem E_X9_ahead (fu : Nat) (l0 : Nat) (l1 : Int32) (l2 : Int32) (w : MEM) : f_X9_ahead fu l0 l1 l2 w = bndT (f_X9_needWithin fu l0 l1 (0 : Int32) (99 : Int32) w) fun (u2 : Unit) (w1 : MEM) => bndT (f_X9_needWithin fu l0 l2 (0 : Int32) (3 : Int32) w1) fun (u4 : Unit) (w3 : MEM) => bnd (f_X4_copy fu 181 (8 + 1) w3) fun (u6 : Unit) (w5 : MEM) => bnd (f_X4_passHours fu 181 l1 (rT w5 (10908, l0)) (rT w5 (10910, l0)) w5) fun (u10 : Unit) (w9 : MEM) => if l2 = (0 : Int32) then (bnd (f_X9_sum fu (403, 181) w9) fun (x18 : Int32) (w17 : MEM) => some (.inl x18, w17)) else (if l2 = (1 : Int32) then (bnd (f_X4_cloudedHeirs fu 181 w9) fun (x16 : Int32) (w15 : MEM) => some (.inl x16, w15)) else (if l2 = (2 : Int32) then (bnd (f_X4_ranked fu 181 (0 : Int32) w9) fun (x14 : Int32) (w13 : MEM) => some (.inl x14, w13)) else (bnd (f_X9_sum fu (409, 181) w9) fun (x12 : Int32) (w11 : MEM) => some (.inl x12, w11)))) := rfl
theorem w_X9_ahead {X : SCR} {d rc rs : Nat} {Q : PO → PH → Prop} {o : (Int32 ⊕ Nat)} {w1 : MEM} {fu : Nat} (hd : 8 ≤ d) (hq : ∀ h1, WH X h1 w1 → Q (oI o) h1) {l0 : Nat} {l1 : Int32} {l2 : Int32} {w : MEM} {h : PH} (wh : WH X h w) (hv_l0 : vo 9 l0 = true) (hF : f_X9_ahead fu l0 l1 l2 w = some (o, w1)) : PW d M_X9_ahead Q (1 + (1 + rc)) (6 + (6 + rs)) 0 [vR (900, l0), vI l1, vI l2] [] h := by
  replace hF := (E_X9_ahead fu l0 l1 l2 w).symm.trans hF
  refine r_X9_ahead_0 ?_
  refine ⟨⟨_, wh.2.1 10900 _ rfl hv_l0⟩, ?_⟩
  rcases bndT_of hF with ⟨u2, w1, hG, hF⟩ | ⟨e9, hG, rfl⟩
  rotate_left
  · exact cl_TX (D := 7) (Nat.le_trans (by decide) hd) (c_X9_needWithin wh hv_l0 hG) (fun h1 wh => hq _ wh)
  refine cl_TV (D := 7) (Nat.le_trans (by decide) hd) (c_X9_needWithin wh hv_l0 hG) ?_
  clear hG
  clear wh
  intro h wh
  refine ⟨⟨_, wh.2.1 10900 _ rfl hv_l0⟩, ?_⟩
  rcases bndT_of hF with ⟨u4, w3, hG, hF⟩ | ⟨e9, hG, rfl⟩
  rotate_left
  · exact cl_TX (D := 7) (Nat.le_trans (by decide) hd) (c_X9_needWithin wh hv_l0 hG) (fun h1 wh => hq _ wh)
  refine cl_TV (D := 7) (Nat.le_trans (by decide) hd) (c_X9_needWithin wh hv_l0 hG) ?_
  clear hG
  clear wh
  intro h wh
  refine gO_of (i := 181) (wh.2.1 10904 _ rfl hv_l0) ?_
  refine gO_of (i := 8) (wh.2.1 10902 _ rfl hv_l0) ?_
  refine gO_of (i := (8 + 1)) (wh.2.1 10200 _ rfl (rfl : vo 2 8 = true)) ?_
  refine ⟨⟨_, wh.2.1 10400 _ rfl (rfl : vo 4 181 = true)⟩, ?_⟩
  obtain ⟨u6, w5, hG, hF⟩ := bnd_of hF
  refine cl_V (D := 3) (Nat.le_trans (by decide) hd) (c_X4_copy wh (rfl : vo 4 181 = true) (vH1 (rfl : vo 2 8 = true)) hG) ?_
  clear hG
  clear wh
  intro h wh
  refine gO_of (i := 181) (wh.2.1 10904 _ rfl hv_l0) ?_
  have hT7 := (wh.2.2.1 10908 _ rfl hv_l0).2
  refine gO_of (wh.2.2.1 10908 _ rfl hv_l0).1 ?_
  have hT8 := (wh.2.2.1 10910 _ rfl hv_l0).2
  refine gO_of (wh.2.2.1 10910 _ rfl hv_l0).1 ?_
  refine ⟨⟨_, wh.2.1 10400 _ rfl (rfl : vo 4 181 = true)⟩, ?_⟩
  obtain ⟨u10, w9, hG, hF⟩ := bnd_of hF
  refine cl_V (D := 4) (Nat.le_trans (by decide) hd) (c_X4_passHours wh (rfl : vo 4 181 = true) hT7 hT8 hG) ?_
  clear hG
  clear wh
  intro h wh
  refine ⟨fun c => ?_, fun c => ?_, fun c => ?_, fun c => ?_⟩
  · replace hF := if_ofT c hF
    refine gO_of (i := 181) (wh.2.1 10904 _ rfl hv_l0) ?_
    refine gA_of (b := (403, 181)) (wh.2.1 10402 _ rfl (rfl : vo 4 181 = true)) ?_
    obtain ⟨x18, w17, hG, hF⟩ := bnd_of hF
    refine cl_I (D := 0) (Nat.le_trans (by decide) hd) (c_X9_sum wh (oA_403 (rfl : vo 4 181 = true)) hG) ?_
    clear hG
    clear wh
    intro h wh
    obtain ⟨rfl, rfl⟩ := some_of hF
    exact hq _ wh
  · replace hF := if_ofF (fun e9 => absurd (c.symm.trans e9) (by decide)) hF; replace hF := if_ofT c hF
    refine gO_of (i := 181) (wh.2.1 10904 _ rfl hv_l0) ?_
    refine ⟨⟨_, wh.2.1 10400 _ rfl (rfl : vo 4 181 = true)⟩, ?_⟩
    obtain ⟨x16, w15, hG, hF⟩ := bnd_of hF
    refine cl_I (D := 0) (Nat.le_trans (by decide) hd) (c_X4_cloudedHeirs wh (rfl : vo 4 181 = true) hG) ?_
    clear hG
    clear wh
    intro h wh
    obtain ⟨rfl, rfl⟩ := some_of hF
    exact hq _ wh
  · replace hF := if_ofF (fun e9 => absurd (c.symm.trans e9) (by decide)) hF; replace hF := if_ofF (fun e9 => absurd (c.symm.trans e9) (by decide)) hF; replace hF := if_ofT c hF
    refine gO_of (i := 181) (wh.2.1 10904 _ rfl hv_l0) ?_
    refine ⟨⟨_, wh.2.1 10400 _ rfl (rfl : vo 4 181 = true)⟩, ?_⟩
    obtain ⟨x14, w13, hG, hF⟩ := bnd_of hF
    refine cl_I (D := 2) (Nat.le_trans (by decide) hd) (c_X4_ranked wh (rfl : vo 4 181 = true) hG) ?_
    clear hG
    clear wh
    intro h wh
    obtain ⟨rfl, rfl⟩ := some_of hF
    exact hq _ wh
  · replace hF := if_ofF c.1 hF; replace hF := if_ofF c.2.1 hF; replace hF := if_ofF c.2.2 hF
    refine gO_of (i := 181) (wh.2.1 10904 _ rfl hv_l0) ?_
    refine gA_of (b := (409, 181)) (wh.2.1 10408 _ rfl (rfl : vo 4 181 = true)) ?_
    obtain ⟨x12, w11, hG, hF⟩ := bnd_of hF
    refine cl_I (D := 0) (Nat.le_trans (by decide) hd) (c_X9_sum wh (oA_409 (rfl : vo 4 181 = true)) hG) ?_
    clear hG
    clear wh
    intro h wh
    obtain ⟨rfl, rfl⟩ := some_of hF
    exact hq _ wh
theorem c_X9_ahead {X : SCR} {fu : Nat} {o : (Int32 ⊕ Nat)} {w1 : MEM} {a0 : Nat} {a1 : Int32} {a2 : Int32} {w : MEM} {h : PH} (wh : WH X h w) (h0 : vo 9 a0 = true) (hF : f_X9_ahead fu a0 a1 a2 w = some (o, w1)) : CT 8 M_X9_ahead [vR (900, a0), vI a1, vI a2] h 2 12 (QP X (oI o) w1) :=
  CT_of mk_X9_ahead (Nat.le_of_ble_eq_true rfl) rfl (w_X9_ahead (fu := fu) (rc := 0) (rs := 0) (hd := Nat.le_refl 8) (hq := fun h1 g => ⟨rfl, g⟩) wh h0 hF)
-- X9_clouds
def f_X9_clouds_21 (fu : Nat) : Nat → Nat → Int32 → Int32 → MEM → Option ((Int32 ⊕ Nat) × MEM)
  | 0, _, _, _, _ => none
  | n + 1, l0, l1, l2, w => if (48 : Int32) < l2 then (some (.inl (-1 : Int32), w)) else (ck (bI l1 7) (if (rA w (403, 181) l1) < (50 : Int32) then (bnd (f_X4_passHour fu 181 (rT w (10908, l0)) (rT w (10910, l0)) (1 : Int32) w) fun (x4 : Int32) (w3 : MEM) => f_X9_clouds_21 fu n l0 l1 (l2 + (1 : Int32)) w3) else (some (.inl l2, w))))
theorem E_X9_clouds_21 (fu : Nat) (n : Nat) (l0 : Nat) (l1 : Int32) (l2 : Int32) (w : MEM) : f_X9_clouds_21 fu (n + 1) l0 l1 l2 w = if (48 : Int32) < l2 then (some (.inl (-1 : Int32), w)) else (ck (bI l1 7) (if (rA w (403, 181) l1) < (50 : Int32) then (bnd (f_X4_passHour fu 181 (rT w (10908, l0)) (rT w (10910, l0)) (1 : Int32) w) fun (x4 : Int32) (w3 : MEM) => f_X9_clouds_21 fu n l0 l1 (l2 + (1 : Int32)) w3) else (some (.inl l2, w)))) := rfl
theorem w_X9_clouds_21 {X : SCR} {d rc rs : Nat} {Q : PO → PH → Prop} {o : (Int32 ⊕ Nat)} {w1 : MEM} {fu : Nat} (hd : 8 ≤ d) (hq : ∀ h1, WH X h1 w1 → Q (oI o) h1) : ∀ (n : Nat) (l0 : Nat) (l1 : Int32) (l2 : Int32) (w : MEM) (h : PH), WH X h w → vo 9 l0 = true → f_X9_clouds_21 fu n l0 l1 l2 w = some (o, w1) → PW d M_X9_clouds Q rc rs 21 [vR (900, l0), vI l1, vI l2] [] h := by
  intro n
  induction n with
  | zero => intro l0 l1 l2 w h wh hv_l0 hF; cases hF
  | succ n ih =>
    intro l0 l1 l2 w h wh hv_l0 hF
    replace hF := (E_X9_clouds_21 fu n l0 l1 l2 w).symm.trans hF
    refine r_X9_clouds_21 ?_
    refine ⟨fun c => ?_, fun c => ?_⟩
    · replace hF := if_ofT c hF
      obtain ⟨rfl, rfl⟩ := some_of hF
      exact hq _ wh
    · replace hF := if_ofF c hF
      refine gO_of (i := 181) (wh.2.1 10904 _ rfl hv_l0) ?_
      refine gA_of (b := (403, 181)) (wh.2.1 10402 _ rfl (rfl : vo 4 181 = true)) ?_
      obtain ⟨c, hF⟩ := ck_of hF
      refine xI_of wh (oA_403 (rfl : vo 4 181 = true)) c ?_
      clear c
      refine ⟨fun c => ?_, fun c => ?_⟩
      · replace hF := if_ofT c hF
        refine gO_of (i := 181) (wh.2.1 10904 _ rfl hv_l0) ?_
        have hT1 := (wh.2.2.1 10908 _ rfl hv_l0).2
        refine gO_of (wh.2.2.1 10908 _ rfl hv_l0).1 ?_
        have hT2 := (wh.2.2.1 10910 _ rfl hv_l0).2
        refine gO_of (wh.2.2.1 10910 _ rfl hv_l0).1 ?_
        refine ⟨⟨_, wh.2.1 10400 _ rfl (rfl : vo 4 181 = true)⟩, ?_⟩
        obtain ⟨x4, w3, hG, hF⟩ := bnd_of hF
        refine cl_I (D := 3) (Nat.le_trans (by decide) hd) (c_X4_passHour wh (rfl : vo 4 181 = true) hT1 hT2 hG) ?_
        clear hG
        clear wh
        intro h wh
        exact ih _ _ _ _ _ wh hv_l0 hF
      · replace hF := if_ofF c hF
        obtain ⟨rfl, rfl⟩ := some_of hF
        exact hq _ wh
def f_X9_clouds (fu : Nat) (l0 : Nat) (l1 : Int32) (w : MEM) : Option ((Int32 ⊕ Nat) × MEM) := bndT (f_X9_needHeir fu l0 l1 w) fun (u2 : Unit) (w1 : MEM) => bnd (f_X4_copy fu 181 (8 + 1) w1) fun (u4 : Unit) (w3 : MEM) => f_X9_clouds_21 fu fu l0 l1 (0 : Int32) w3
theorem E_X9_clouds (fu : Nat) (l0 : Nat) (l1 : Int32) (w : MEM) : f_X9_clouds fu l0 l1 w = bndT (f_X9_needHeir fu l0 l1 w) fun (u2 : Unit) (w1 : MEM) => bnd (f_X4_copy fu 181 (8 + 1) w1) fun (u4 : Unit) (w3 : MEM) => f_X9_clouds_21 fu fu l0 l1 (0 : Int32) w3 := rfl
theorem w_X9_clouds {X : SCR} {d rc rs : Nat} {Q : PO → PH → Prop} {o : (Int32 ⊕ Nat)} {w1 : MEM} {fu : Nat} (hd : 8 ≤ d) (hq : ∀ h1, WH X h1 w1 → Q (oI o) h1) {l0 : Nat} {l1 : Int32} {w : MEM} {h : PH} (wh : WH X h w) (hv_l0 : vo 9 l0 = true) (hF : f_X9_clouds fu l0 l1 w = some (o, w1)) : PW d M_X9_clouds Q (1 + rc) (6 + rs) 0 [vR (900, l0), vI l1, vU] [] h := by
  replace hF := (E_X9_clouds fu l0 l1 w).symm.trans hF
  refine r_X9_clouds_0 ?_
  refine ⟨⟨_, wh.2.1 10900 _ rfl hv_l0⟩, ?_⟩
  rcases bndT_of hF with ⟨u2, w1, hG, hF⟩ | ⟨e9, hG, rfl⟩
  rotate_left
  · exact cl_TX (D := 7) (Nat.le_trans (by decide) hd) (c_X9_needHeir wh hv_l0 hG) (fun h1 wh => hq _ wh)
  refine cl_TV (D := 7) (Nat.le_trans (by decide) hd) (c_X9_needHeir wh hv_l0 hG) ?_
  clear hG
  clear wh
  intro h wh
  refine gO_of (i := 181) (wh.2.1 10904 _ rfl hv_l0) ?_
  refine gO_of (i := 8) (wh.2.1 10902 _ rfl hv_l0) ?_
  refine gO_of (i := (8 + 1)) (wh.2.1 10200 _ rfl (rfl : vo 2 8 = true)) ?_
  refine ⟨⟨_, wh.2.1 10400 _ rfl (rfl : vo 4 181 = true)⟩, ?_⟩
  obtain ⟨u4, w3, hG, hF⟩ := bnd_of hF
  refine cl_V (D := 3) (Nat.le_trans (by decide) hd) (c_X4_copy wh (rfl : vo 4 181 = true) (vH1 (rfl : vo 2 8 = true)) hG) ?_
  clear hG
  clear wh
  intro h wh
  exact w_X9_clouds_21 hd hq  fu _ _ _ _ _ wh hv_l0 hF
theorem c_X9_clouds {X : SCR} {fu : Nat} {o : (Int32 ⊕ Nat)} {w1 : MEM} {a0 : Nat} {a1 : Int32} {w : MEM} {h : PH} (wh : WH X h w) (h0 : vo 9 a0 = true) (hF : f_X9_clouds fu a0 a1 w = some (o, w1)) : CT 8 M_X9_clouds [vR (900, a0), vI a1] h 1 6 (QP X (oI o) w1) :=
  CT_of mk_X9_clouds (Nat.le_of_ble_eq_true rfl) rfl (w_X9_clouds (fu := fu) (rc := 0) (rs := 0) (hd := Nat.le_refl 8) (hq := fun h1 g => ⟨rfl, g⟩) wh h0 hF)
-- X9_leastWiped
def f_X9_leastWiped_22 (fu : Nat) : Nat → Nat → Int32 → Int32 → Int32 → Int32 → MEM → Option (Int32 × MEM)
  | 0, _, _, _, _, _, _ => none
  | n + 1, l0, l1, l2, l3, l4, w => if l4 < (rS w (10107, (rT w (10908, l0)))) then (if l4 = l1 then (f_X9_leastWiped_22 fu n l0 l1 l2 l3 (l4 + (1 : Int32)) w) else (ck (bI l4 7) (bnd (f_X9_isAhead fu (rA w (408, 181) l4) l4 l2 l1 w) fun (x3 : Int32) (w2 : MEM) => if x3 = 0 then (f_X9_leastWiped_22 fu n l0 l1 l2 l3 (l4 + (1 : Int32)) w2) else (ck (bI l4 7) (bnd (f_X9_isAhead fu (rA w2 (408, 191) l4) l4 l2 l1 w2) fun (x5 : Int32) (w4 : MEM) => if x5 = 0 then (lt ((l3 ||| ((1 : Int32) <<< (l4 &&& 31)))) fun (v6 : Int32) => f_X9_leastWiped_22 fu n l0 l1 l2 v6 (l4 + (1 : Int32)) w4) else (some ((-1 : Int32), w4))))))) else (some (l3, w))
theorem E_X9_leastWiped_22 (fu : Nat) (n : Nat) (l0 : Nat) (l1 : Int32) (l2 : Int32) (l3 : Int32) (l4 : Int32) (w : MEM) : f_X9_leastWiped_22 fu (n + 1) l0 l1 l2 l3 l4 w = if l4 < (rS w (10107, (rT w (10908, l0)))) then (if l4 = l1 then (f_X9_leastWiped_22 fu n l0 l1 l2 l3 (l4 + (1 : Int32)) w) else (ck (bI l4 7) (bnd (f_X9_isAhead fu (rA w (408, 181) l4) l4 l2 l1 w) fun (x3 : Int32) (w2 : MEM) => if x3 = 0 then (f_X9_leastWiped_22 fu n l0 l1 l2 l3 (l4 + (1 : Int32)) w2) else (ck (bI l4 7) (bnd (f_X9_isAhead fu (rA w2 (408, 191) l4) l4 l2 l1 w2) fun (x5 : Int32) (w4 : MEM) => if x5 = 0 then (lt ((l3 ||| ((1 : Int32) <<< (l4 &&& 31)))) fun (v6 : Int32) => f_X9_leastWiped_22 fu n l0 l1 l2 v6 (l4 + (1 : Int32)) w4) else (some ((-1 : Int32), w4))))))) else (some (l3, w)) := rfl
theorem w_X9_leastWiped_22 {X : SCR} {d rc rs : Nat} {Q : PO → PH → Prop} {o : Int32} {w1 : MEM} {fu : Nat} (hd : 1 ≤ d) (hq : ∀ h1, WH X h1 w1 → Q (.inl (some (vI o))) h1) : ∀ (n : Nat) (l0 : Nat) (l1 : Int32) (l2 : Int32) (l3 : Int32) (l4 : Int32) (w : MEM) (h : PH), WH X h w → vo 9 l0 = true → f_X9_leastWiped_22 fu n l0 l1 l2 l3 l4 w = some (o, w1) → PW d M_X9_leastWiped Q rc rs 22 [vR (900, l0), vI l1, vI l2, vI l3, vI l4] [] h := by
  intro n
  induction n with
  | zero => intro l0 l1 l2 l3 l4 w h wh hv_l0 hF; cases hF
  | succ n ih =>
    intro l0 l1 l2 l3 l4 w h wh hv_l0 hF
    replace hF := (E_X9_leastWiped_22 fu n l0 l1 l2 l3 l4 w).symm.trans hF
    refine r_X9_leastWiped_22 ?_
    have hT1 := (wh.2.2.1 10908 _ rfl hv_l0).2
    refine gO_of (wh.2.2.1 10908 _ rfl hv_l0).1 ?_
    refine gI_of (wh.1 10107 _ rfl hT1) ?_
    refine ⟨fun c => ?_, fun c => ?_⟩
    · replace hF := if_ofT c hF
      refine ⟨fun c => ?_, fun c => ?_⟩
      · replace hF := if_ofT c hF
        exact ih _ _ _ _ _ _ _ wh hv_l0 hF
      · replace hF := if_ofF c hF
        refine gO_of (i := 181) (wh.2.1 10904 _ rfl hv_l0) ?_
        refine gA_of (b := (408, 181)) (wh.2.1 10407 _ rfl (rfl : vo 4 181 = true)) ?_
        obtain ⟨c, hF⟩ := ck_of hF
        refine xI_of wh (oA_408 (rfl : vo 4 181 = true)) c ?_
        clear c
        obtain ⟨x3, w2, hG, hF⟩ := bnd_of hF
        refine cl_I (D := 0) (Nat.le_trans (by decide) hd) (c_X9_isAhead wh  hG) ?_
        clear hG
        clear wh
        intro h wh
        refine ⟨fun c => ?_, fun c => ?_⟩
        · replace hF := if_ofT c hF
          exact ih _ _ _ _ _ _ _ wh hv_l0 hF
        · replace hF := if_ofF c hF
          refine gO_of (i := 191) (wh.2.1 10905 _ rfl hv_l0) ?_
          refine gA_of (b := (408, 191)) (wh.2.1 10407 _ rfl (rfl : vo 4 191 = true)) ?_
          obtain ⟨c, hF⟩ := ck_of hF
          refine xI_of wh (oA_408 (rfl : vo 4 191 = true)) c ?_
          clear c
          obtain ⟨x5, w4, hG, hF⟩ := bnd_of hF
          refine cl_I (D := 0) (Nat.le_trans (by decide) hd) (c_X9_isAhead wh  hG) ?_
          clear hG
          clear wh
          intro h wh
          refine ⟨fun c => ?_, fun c => ?_⟩
          · replace hF := if_ofT c hF
            replace hF := lt_of hF
            exact ih _ _ _ _ _ _ _ wh hv_l0 hF
          · replace hF := if_ofF c hF
            obtain ⟨rfl, rfl⟩ := some_of hF
            exact hq _ wh
    · replace hF := if_ofF c hF
      obtain ⟨rfl, rfl⟩ := some_of hF
      exact hq _ wh
def f_X9_leastWiped (fu : Nat) (l0 : Nat) (l1 : Int32) (w : MEM) : Option (Int32 × MEM) := ck (bI l1 7) (lt ((rA w (408, 181) l1)) fun (v1 : Int32) => if v1 = (-1 : Int32) then (some ((-1 : Int32), w)) else (f_X9_leastWiped_22 fu fu l0 l1 v1 (0 : Int32) (0 : Int32) w))
theorem E_X9_leastWiped (fu : Nat) (l0 : Nat) (l1 : Int32) (w : MEM) : f_X9_leastWiped fu l0 l1 w = ck (bI l1 7) (lt ((rA w (408, 181) l1)) fun (v1 : Int32) => if v1 = (-1 : Int32) then (some ((-1 : Int32), w)) else (f_X9_leastWiped_22 fu fu l0 l1 v1 (0 : Int32) (0 : Int32) w)) := rfl
theorem w_X9_leastWiped {X : SCR} {d rc rs : Nat} {Q : PO → PH → Prop} {o : Int32} {w1 : MEM} {fu : Nat} (hd : 1 ≤ d) (hq : ∀ h1, WH X h1 w1 → Q (.inl (some (vI o))) h1) {l0 : Nat} {l1 : Int32} {w : MEM} {h : PH} (wh : WH X h w) (hv_l0 : vo 9 l0 = true) (hF : f_X9_leastWiped fu l0 l1 w = some (o, w1)) : PW d M_X9_leastWiped Q rc rs 0 [vR (900, l0), vI l1, vU, vU, vU] [] h := by
  replace hF := (E_X9_leastWiped fu l0 l1 w).symm.trans hF
  refine r_X9_leastWiped_0 ?_
  refine gO_of (i := 181) (wh.2.1 10904 _ rfl hv_l0) ?_
  refine gA_of (b := (408, 181)) (wh.2.1 10407 _ rfl (rfl : vo 4 181 = true)) ?_
  obtain ⟨c, hF⟩ := ck_of hF
  refine xI_of wh (oA_408 (rfl : vo 4 181 = true)) c ?_
  clear c
  replace hF := lt_of hF
  refine ⟨fun c => ?_, fun c => ?_⟩
  · replace hF := if_ofT c hF
    obtain ⟨rfl, rfl⟩ := some_of hF
    exact hq _ wh
  · replace hF := if_ofF c hF
    exact w_X9_leastWiped_22 hd hq  fu _ _ _ _ _ _ _ wh hv_l0 hF
theorem c_X9_leastWiped {X : SCR} {fu : Nat} {o : Int32} {w1 : MEM} {a0 : Nat} {a1 : Int32} {w : MEM} {h : PH} (wh : WH X h w) (h0 : vo 9 a0 = true) (hF : f_X9_leastWiped fu a0 a1 w = some (o, w1)) : CT 1 M_X9_leastWiped [vR (900, a0), vI a1] h 0 0 (QP X (.inl (some (vI o))) w1) :=
  CT_of mk_X9_leastWiped (Nat.le_of_ble_eq_true rfl) rfl (w_X9_leastWiped (fu := fu) (rc := 0) (rs := 0) (hd := Nat.le_refl 1) (hq := fun h1 g => ⟨rfl, g⟩) wh h0 hF)
-- X9_wipes
def f_X9_wipes (fu : Nat) (l0 : Nat) (l1 : Int32) (w : MEM) : Option ((Int32 ⊕ Nat) × MEM) := bndT (f_X9_needHeir fu l0 l1 w) fun (u2 : Unit) (w1 : MEM) => bnd (f_X4_copy fu 181 (8 + 1) w1) fun (u4 : Unit) (w3 : MEM) => bnd (f_X4_beginDawn fu 181 w3) fun (x6 : Int32) (w5 : MEM) => bnd (f_X4_passHours fu 181 (24 : Int32) (rT w5 (10908, l0)) (rT w5 (10910, l0)) w5) fun (u10 : Unit) (w9 : MEM) => bnd (f_X4_copy fu 191 (8 + 1) w9) fun (u12 : Unit) (w11 : MEM) => bnd (f_X4_beginDawn fu 191 w11) fun (x14 : Int32) (w13 : MEM) => bnd (f_J7_fill_53178 fu (403, 191) (0 : Int32) w13) fun (u16 : Unit) (w15 : MEM) => bnd (f_X4_passHours fu 191 (24 : Int32) (rT w15 (10908, l0)) (rT w15 (10910, l0)) w15) fun (u20 : Unit) (w19 : MEM) => bnd (f_X9_leastWiped fu l0 l1 w19) fun (x22 : Int32) (w21 : MEM) => some (.inl x22, w21)
theorem E_X9_wipes (fu : Nat) (l0 : Nat) (l1 : Int32) (w : MEM) : f_X9_wipes fu l0 l1 w = bndT (f_X9_needHeir fu l0 l1 w) fun (u2 : Unit) (w1 : MEM) => bnd (f_X4_copy fu 181 (8 + 1) w1) fun (u4 : Unit) (w3 : MEM) => bnd (f_X4_beginDawn fu 181 w3) fun (x6 : Int32) (w5 : MEM) => bnd (f_X4_passHours fu 181 (24 : Int32) (rT w5 (10908, l0)) (rT w5 (10910, l0)) w5) fun (u10 : Unit) (w9 : MEM) => bnd (f_X4_copy fu 191 (8 + 1) w9) fun (u12 : Unit) (w11 : MEM) => bnd (f_X4_beginDawn fu 191 w11) fun (x14 : Int32) (w13 : MEM) => bnd (f_J7_fill_53178 fu (403, 191) (0 : Int32) w13) fun (u16 : Unit) (w15 : MEM) => bnd (f_X4_passHours fu 191 (24 : Int32) (rT w15 (10908, l0)) (rT w15 (10910, l0)) w15) fun (u20 : Unit) (w19 : MEM) => bnd (f_X9_leastWiped fu l0 l1 w19) fun (x22 : Int32) (w21 : MEM) => some (.inl x22, w21) := rfl
theorem w_X9_wipes {X : SCR} {d rc rs : Nat} {Q : PO → PH → Prop} {o : (Int32 ⊕ Nat)} {w1 : MEM} {fu : Nat} (hd : 8 ≤ d) (hq : ∀ h1, WH X h1 w1 → Q (oI o) h1) {l0 : Nat} {l1 : Int32} {w : MEM} {h : PH} (wh : WH X h w) (hv_l0 : vo 9 l0 = true) (hF : f_X9_wipes fu l0 l1 w = some (o, w1)) : PW d M_X9_wipes Q (1 + rc) (6 + rs) 0 [vR (900, l0), vI l1] [] h := by
  replace hF := (E_X9_wipes fu l0 l1 w).symm.trans hF
  refine r_X9_wipes_0 ?_
  refine ⟨⟨_, wh.2.1 10900 _ rfl hv_l0⟩, ?_⟩
  rcases bndT_of hF with ⟨u2, w1, hG, hF⟩ | ⟨e9, hG, rfl⟩
  rotate_left
  · exact cl_TX (D := 7) (Nat.le_trans (by decide) hd) (c_X9_needHeir wh hv_l0 hG) (fun h1 wh => hq _ wh)
  refine cl_TV (D := 7) (Nat.le_trans (by decide) hd) (c_X9_needHeir wh hv_l0 hG) ?_
  clear hG
  clear wh
  intro h wh
  refine gO_of (i := 181) (wh.2.1 10904 _ rfl hv_l0) ?_
  refine gO_of (i := 8) (wh.2.1 10902 _ rfl hv_l0) ?_
  refine gO_of (i := (8 + 1)) (wh.2.1 10200 _ rfl (rfl : vo 2 8 = true)) ?_
  refine ⟨⟨_, wh.2.1 10400 _ rfl (rfl : vo 4 181 = true)⟩, ?_⟩
  obtain ⟨u4, w3, hG, hF⟩ := bnd_of hF
  refine cl_V (D := 3) (Nat.le_trans (by decide) hd) (c_X4_copy wh (rfl : vo 4 181 = true) (vH1 (rfl : vo 2 8 = true)) hG) ?_
  clear hG
  clear wh
  intro h wh
  refine gO_of (i := 181) (wh.2.1 10904 _ rfl hv_l0) ?_
  refine ⟨⟨_, wh.2.1 10400 _ rfl (rfl : vo 4 181 = true)⟩, ?_⟩
  obtain ⟨x6, w5, hG, hF⟩ := bnd_of hF
  refine cl_I (D := 1) (Nat.le_trans (by decide) hd) (c_X4_beginDawn wh (rfl : vo 4 181 = true) hG) ?_
  clear hG
  clear wh
  intro h wh
  refine gO_of (i := 181) (wh.2.1 10904 _ rfl hv_l0) ?_
  have hT7 := (wh.2.2.1 10908 _ rfl hv_l0).2
  refine gO_of (wh.2.2.1 10908 _ rfl hv_l0).1 ?_
  have hT8 := (wh.2.2.1 10910 _ rfl hv_l0).2
  refine gO_of (wh.2.2.1 10910 _ rfl hv_l0).1 ?_
  refine ⟨⟨_, wh.2.1 10400 _ rfl (rfl : vo 4 181 = true)⟩, ?_⟩
  obtain ⟨u10, w9, hG, hF⟩ := bnd_of hF
  refine cl_V (D := 4) (Nat.le_trans (by decide) hd) (c_X4_passHours wh (rfl : vo 4 181 = true) hT7 hT8 hG) ?_
  clear hG
  clear wh
  intro h wh
  refine gO_of (i := 191) (wh.2.1 10905 _ rfl hv_l0) ?_
  refine gO_of (i := 8) (wh.2.1 10902 _ rfl hv_l0) ?_
  refine gO_of (i := (8 + 1)) (wh.2.1 10200 _ rfl (rfl : vo 2 8 = true)) ?_
  refine ⟨⟨_, wh.2.1 10400 _ rfl (rfl : vo 4 191 = true)⟩, ?_⟩
  obtain ⟨u12, w11, hG, hF⟩ := bnd_of hF
  refine cl_V (D := 3) (Nat.le_trans (by decide) hd) (c_X4_copy wh (rfl : vo 4 191 = true) (vH1 (rfl : vo 2 8 = true)) hG) ?_
  clear hG
  clear wh
  intro h wh
  refine gO_of (i := 191) (wh.2.1 10905 _ rfl hv_l0) ?_
  refine ⟨⟨_, wh.2.1 10400 _ rfl (rfl : vo 4 191 = true)⟩, ?_⟩
  obtain ⟨x14, w13, hG, hF⟩ := bnd_of hF
  refine cl_I (D := 1) (Nat.le_trans (by decide) hd) (c_X4_beginDawn wh (rfl : vo 4 191 = true) hG) ?_
  clear hG
  clear wh
  intro h wh
  refine gO_of (i := 191) (wh.2.1 10905 _ rfl hv_l0) ?_
  refine gA_of (b := (403, 191)) (wh.2.1 10402 _ rfl (rfl : vo 4 191 = true)) ?_
  obtain ⟨u16, w15, hG, hF⟩ := bnd_of hF
  refine cl_V (D := 0) (Nat.le_trans (by decide) hd) (c_J7_fill_53178 wh (oA_403 (rfl : vo 4 191 = true)) hG) ?_
  clear hG
  clear wh
  intro h wh
  refine gO_of (i := 191) (wh.2.1 10905 _ rfl hv_l0) ?_
  have hT17 := (wh.2.2.1 10908 _ rfl hv_l0).2
  refine gO_of (wh.2.2.1 10908 _ rfl hv_l0).1 ?_
  have hT18 := (wh.2.2.1 10910 _ rfl hv_l0).2
  refine gO_of (wh.2.2.1 10910 _ rfl hv_l0).1 ?_
  refine ⟨⟨_, wh.2.1 10400 _ rfl (rfl : vo 4 191 = true)⟩, ?_⟩
  obtain ⟨u20, w19, hG, hF⟩ := bnd_of hF
  refine cl_V (D := 4) (Nat.le_trans (by decide) hd) (c_X4_passHours wh (rfl : vo 4 191 = true) hT17 hT18 hG) ?_
  clear hG
  clear wh
  intro h wh
  refine ⟨⟨_, wh.2.1 10900 _ rfl hv_l0⟩, ?_⟩
  obtain ⟨x22, w21, hG, hF⟩ := bnd_of hF
  refine cl_I (D := 1) (Nat.le_trans (by decide) hd) (c_X9_leastWiped wh hv_l0 hG) ?_
  clear hG
  clear wh
  intro h wh
  obtain ⟨rfl, rfl⟩ := some_of hF
  exact hq _ wh
theorem c_X9_wipes {X : SCR} {fu : Nat} {o : (Int32 ⊕ Nat)} {w1 : MEM} {a0 : Nat} {a1 : Int32} {w : MEM} {h : PH} (wh : WH X h w) (h0 : vo 9 a0 = true) (hF : f_X9_wipes fu a0 a1 w = some (o, w1)) : CT 8 M_X9_wipes [vR (900, a0), vI a1] h 1 6 (QP X (oI o) w1) :=
  CT_of mk_X9_wipes (Nat.le_of_ble_eq_true rfl) rfl (w_X9_wipes (fu := fu) (rc := 0) (rs := 0) (hd := Nat.le_refl 8) (hq := fun h1 g => ⟨rfl, g⟩) wh h0 hF)
-- X9_gasp
def f_X9_gasp_31 (fu : Nat) : Nat → Nat → Int32 → Int32 → Int32 → MEM → Option ((Int32 ⊕ Nat) × MEM)
  | 0, _, _, _, _, _ => none
  | n + 1, l0, l1, l2, l3, w => if (99 : Int32) < l3 then (some (.inl (-1 : Int32), w)) else (bnd (f_X4_passHour fu 181 (rT w (10908, l0)) (rT w (10910, l0)) (1 : Int32) w) fun (x4 : Int32) (w3 : MEM) => ck (bI l1 7) (if l2 < (rA w3 (409, 181) l1) then (some (.inl l3, w3)) else (f_X9_gasp_31 fu n l0 l1 l2 (l3 + (1 : Int32)) w3)))
theorem E_X9_gasp_31 (fu : Nat) (n : Nat) (l0 : Nat) (l1 : Int32) (l2 : Int32) (l3 : Int32) (w : MEM) : f_X9_gasp_31 fu (n + 1) l0 l1 l2 l3 w = if (99 : Int32) < l3 then (some (.inl (-1 : Int32), w)) else (bnd (f_X4_passHour fu 181 (rT w (10908, l0)) (rT w (10910, l0)) (1 : Int32) w) fun (x4 : Int32) (w3 : MEM) => ck (bI l1 7) (if l2 < (rA w3 (409, 181) l1) then (some (.inl l3, w3)) else (f_X9_gasp_31 fu n l0 l1 l2 (l3 + (1 : Int32)) w3))) := rfl
theorem w_X9_gasp_31 {X : SCR} {d rc rs : Nat} {Q : PO → PH → Prop} {o : (Int32 ⊕ Nat)} {w1 : MEM} {fu : Nat} (hd : 8 ≤ d) (hq : ∀ h1, WH X h1 w1 → Q (oI o) h1) : ∀ (n : Nat) (l0 : Nat) (l1 : Int32) (l2 : Int32) (l3 : Int32) (w : MEM) (h : PH), WH X h w → vo 9 l0 = true → f_X9_gasp_31 fu n l0 l1 l2 l3 w = some (o, w1) → PW d M_X9_gasp Q rc rs 31 [vR (900, l0), vI l1, vI l2, vI l3] [] h := by
  intro n
  induction n with
  | zero => intro l0 l1 l2 l3 w h wh hv_l0 hF; cases hF
  | succ n ih =>
    intro l0 l1 l2 l3 w h wh hv_l0 hF
    replace hF := (E_X9_gasp_31 fu n l0 l1 l2 l3 w).symm.trans hF
    refine r_X9_gasp_31 ?_
    refine ⟨fun c => ?_, fun c => ?_⟩
    · replace hF := if_ofT c hF
      obtain ⟨rfl, rfl⟩ := some_of hF
      exact hq _ wh
    · replace hF := if_ofF c hF
      refine gO_of (i := 181) (wh.2.1 10904 _ rfl hv_l0) ?_
      have hT1 := (wh.2.2.1 10908 _ rfl hv_l0).2
      refine gO_of (wh.2.2.1 10908 _ rfl hv_l0).1 ?_
      have hT2 := (wh.2.2.1 10910 _ rfl hv_l0).2
      refine gO_of (wh.2.2.1 10910 _ rfl hv_l0).1 ?_
      refine ⟨⟨_, wh.2.1 10400 _ rfl (rfl : vo 4 181 = true)⟩, ?_⟩
      obtain ⟨x4, w3, hG, hF⟩ := bnd_of hF
      refine cl_I (D := 3) (Nat.le_trans (by decide) hd) (c_X4_passHour wh (rfl : vo 4 181 = true) hT1 hT2 hG) ?_
      clear hG
      clear wh
      intro h wh
      refine gO_of (i := 181) (wh.2.1 10904 _ rfl hv_l0) ?_
      refine gA_of (b := (409, 181)) (wh.2.1 10408 _ rfl (rfl : vo 4 181 = true)) ?_
      obtain ⟨c, hF⟩ := ck_of hF
      refine xI_of wh (oA_409 (rfl : vo 4 181 = true)) c ?_
      clear c
      refine ⟨fun c => ?_, fun c => ?_⟩
      · replace hF := if_ofT c hF
        obtain ⟨rfl, rfl⟩ := some_of hF
        exact hq _ wh
      · replace hF := if_ofF c hF
        exact ih _ _ _ _ _ _ wh hv_l0 hF
def f_X9_gasp (fu : Nat) (l0 : Nat) (l1 : Int32) (w : MEM) : Option ((Int32 ⊕ Nat) × MEM) := bndT (f_X9_needHeir fu l0 l1 w) fun (u2 : Unit) (w1 : MEM) => bnd (f_X4_copy fu 181 (8 + 1) w1) fun (u4 : Unit) (w3 : MEM) => ck (bI l1 7) (lt ((rA w3 (409, 181) l1)) fun (v5 : Int32) => f_X9_gasp_31 fu fu l0 l1 v5 (1 : Int32) w3)
theorem E_X9_gasp (fu : Nat) (l0 : Nat) (l1 : Int32) (w : MEM) : f_X9_gasp fu l0 l1 w = bndT (f_X9_needHeir fu l0 l1 w) fun (u2 : Unit) (w1 : MEM) => bnd (f_X4_copy fu 181 (8 + 1) w1) fun (u4 : Unit) (w3 : MEM) => ck (bI l1 7) (lt ((rA w3 (409, 181) l1)) fun (v5 : Int32) => f_X9_gasp_31 fu fu l0 l1 v5 (1 : Int32) w3) := rfl
theorem w_X9_gasp {X : SCR} {d rc rs : Nat} {Q : PO → PH → Prop} {o : (Int32 ⊕ Nat)} {w1 : MEM} {fu : Nat} (hd : 8 ≤ d) (hq : ∀ h1, WH X h1 w1 → Q (oI o) h1) {l0 : Nat} {l1 : Int32} {w : MEM} {h : PH} (wh : WH X h w) (hv_l0 : vo 9 l0 = true) (hF : f_X9_gasp fu l0 l1 w = some (o, w1)) : PW d M_X9_gasp Q (1 + rc) (6 + rs) 0 [vR (900, l0), vI l1, vU, vU] [] h := by
  replace hF := (E_X9_gasp fu l0 l1 w).symm.trans hF
  refine r_X9_gasp_0 ?_
  refine ⟨⟨_, wh.2.1 10900 _ rfl hv_l0⟩, ?_⟩
  rcases bndT_of hF with ⟨u2, w1, hG, hF⟩ | ⟨e9, hG, rfl⟩
  rotate_left
  · exact cl_TX (D := 7) (Nat.le_trans (by decide) hd) (c_X9_needHeir wh hv_l0 hG) (fun h1 wh => hq _ wh)
  refine cl_TV (D := 7) (Nat.le_trans (by decide) hd) (c_X9_needHeir wh hv_l0 hG) ?_
  clear hG
  clear wh
  intro h wh
  refine gO_of (i := 181) (wh.2.1 10904 _ rfl hv_l0) ?_
  refine gO_of (i := 8) (wh.2.1 10902 _ rfl hv_l0) ?_
  refine gO_of (i := (8 + 1)) (wh.2.1 10200 _ rfl (rfl : vo 2 8 = true)) ?_
  refine ⟨⟨_, wh.2.1 10400 _ rfl (rfl : vo 4 181 = true)⟩, ?_⟩
  obtain ⟨u4, w3, hG, hF⟩ := bnd_of hF
  refine cl_V (D := 3) (Nat.le_trans (by decide) hd) (c_X4_copy wh (rfl : vo 4 181 = true) (vH1 (rfl : vo 2 8 = true)) hG) ?_
  clear hG
  clear wh
  intro h wh
  refine gO_of (i := 181) (wh.2.1 10904 _ rfl hv_l0) ?_
  refine gA_of (b := (409, 181)) (wh.2.1 10408 _ rfl (rfl : vo 4 181 = true)) ?_
  obtain ⟨c, hF⟩ := ck_of hF
  refine xI_of wh (oA_409 (rfl : vo 4 181 = true)) c ?_
  clear c
  replace hF := lt_of hF
  exact w_X9_gasp_31 hd hq  fu _ _ _ _ _ _ wh hv_l0 hF
theorem c_X9_gasp {X : SCR} {fu : Nat} {o : (Int32 ⊕ Nat)} {w1 : MEM} {a0 : Nat} {a1 : Int32} {w : MEM} {h : PH} (wh : WH X h w) (h0 : vo 9 a0 = true) (hF : f_X9_gasp fu a0 a1 w = some (o, w1)) : CT 8 M_X9_gasp [vR (900, a0), vI a1] h 1 6 (QP X (oI o) w1) :=
  CT_of mk_X9_gasp (Nat.le_of_ble_eq_true rfl) rfl (w_X9_gasp (fu := fu) (rc := 0) (rs := 0) (hd := Nat.le_refl 8) (hq := fun h1 g => ⟨rfl, g⟩) wh h0 hF)
-- X9_drawnAfter
def f_X9_drawnAfter (fu : Nat) (l0 : Int32) (w : MEM) : Option (Int32 × MEM) := some (((l0 * (1103515245 : Int32)) + (12345 : Int32)), w)
theorem E_X9_drawnAfter (fu : Nat) (l0 : Int32) (w : MEM) : f_X9_drawnAfter fu l0 w = some (((l0 * (1103515245 : Int32)) + (12345 : Int32)), w) := rfl
theorem w_X9_drawnAfter {X : SCR} {d rc rs : Nat} {Q : PO → PH → Prop} {o : Int32} {w1 : MEM} {fu : Nat} (hd : 0 ≤ d) (hq : ∀ h1, WH X h1 w1 → Q (.inl (some (vI o))) h1) {l0 : Int32} {w : MEM} {h : PH} (wh : WH X h w)  (hF : f_X9_drawnAfter fu l0 w = some (o, w1)) : PW d M_X9_drawnAfter Q rc rs 0 [vI l0] [] h := by
  replace hF := (E_X9_drawnAfter fu l0 w).symm.trans hF
  refine r_X9_drawnAfter_0 ?_
  obtain ⟨rfl, rfl⟩ := some_of hF
  exact hq _ wh
theorem c_X9_drawnAfter {X : SCR} {fu : Nat} {o : Int32} {w1 : MEM} {a0 : Int32} {w : MEM} {h : PH} (wh : WH X h w)  (hF : f_X9_drawnAfter fu a0 w = some (o, w1)) : CT 0 M_X9_drawnAfter [vI a0] h 0 0 (QP X (.inl (some (vI o))) w1) :=
  CT_of mk_X9_drawnAfter (Nat.le_of_ble_eq_true rfl) rfl (w_X9_drawnAfter (fu := fu) (rc := 0) (rs := 0) (hd := Nat.le_refl 0) (hq := fun h1 g => ⟨rfl, g⟩) wh  hF)
-- X9_drawnBy
def f_X9_drawnBy (fu : Nat) (l0 : Int32) (l1 : Int32) (w : MEM) : Option (Int32 × MEM) := if 0 < l1 then (if l1 = 0 then none else (some (((((l0.toUInt32 >>> ((16 : Int32).toUInt32 &&& Int32.toUInt32 31)).toInt32) &&& (32767 : Int32)) - (((l0.toUInt32 >>> ((16 : Int32).toUInt32 &&& Int32.toUInt32 31)).toInt32) &&& (32767 : Int32)) / l1 * l1), w))) else (some ((0 : Int32), w))
theorem E_X9_drawnBy (fu : Nat) (l0 : Int32) (l1 : Int32) (w : MEM) : f_X9_drawnBy fu l0 l1 w = if 0 < l1 then (if l1 = 0 then none else (some (((((l0.toUInt32 >>> ((16 : Int32).toUInt32 &&& Int32.toUInt32 31)).toInt32) &&& (32767 : Int32)) - (((l0.toUInt32 >>> ((16 : Int32).toUInt32 &&& Int32.toUInt32 31)).toInt32) &&& (32767 : Int32)) / l1 * l1), w))) else (some ((0 : Int32), w)) := rfl
theorem w_X9_drawnBy {X : SCR} {d rc rs : Nat} {Q : PO → PH → Prop} {o : Int32} {w1 : MEM} {fu : Nat} (hd : 0 ≤ d) (hq : ∀ h1, WH X h1 w1 → Q (.inl (some (vI o))) h1) {l0 : Int32} {l1 : Int32} {w : MEM} {h : PH} (wh : WH X h w)  (hF : f_X9_drawnBy fu l0 l1 w = some (o, w1)) : PW d M_X9_drawnBy Q rc rs 0 [vI l0, vI l1] [] h := by
  replace hF := (E_X9_drawnBy fu l0 l1 w).symm.trans hF
  refine r_X9_drawnBy_0 ?_
  refine ⟨fun c => ?_, fun c => ?_⟩
  · replace hF := if_ofT c hF
    obtain ⟨c, hF⟩ := nzF_of hF
    refine ⟨c, ?_⟩
    obtain ⟨rfl, rfl⟩ := some_of hF
    exact hq _ wh
  · replace hF := if_ofF c hF
    obtain ⟨rfl, rfl⟩ := some_of hF
    exact hq _ wh
theorem c_X9_drawnBy {X : SCR} {fu : Nat} {o : Int32} {w1 : MEM} {a0 : Int32} {a1 : Int32} {w : MEM} {h : PH} (wh : WH X h w)  (hF : f_X9_drawnBy fu a0 a1 w = some (o, w1)) : CT 0 M_X9_drawnBy [vI a0, vI a1] h 0 0 (QP X (.inl (some (vI o))) w1) :=
  CT_of mk_X9_drawnBy (Nat.le_of_ble_eq_true rfl) rfl (w_X9_drawnBy (fu := fu) (rc := 0) (rs := 0) (hd := Nat.le_refl 0) (hq := fun h1 g => ⟨rfl, g⟩) wh  hF)
-- X9_passYear
def f_X9_passYear_19 (fu : Nat) : Nat → Nat → Int32 → Int32 → Int32 → MEM → Option (Unit × MEM)
  | 0, _, _, _, _, _ => none
  | n + 1, l0, l2, l3, l4, w => if l4 < l2 then (if 0 < (rS w (10107, (rT w (10908, l0)))) then (bnd (f_X9_drawnAfter fu l3 w) fun (x7 : Int32) (w6 : MEM) => bnd (f_X9_drawnBy fu x7 (rS w6 (10107, (rT w6 (10908, l0)))) w6) fun (x10 : Int32) (w9 : MEM) => bnd (f_X9_drawnAfter fu x7 w9) fun (x12 : Int32) (w11 : MEM) => bnd (f_X9_drawnBy fu x12 (5 : Int32) w11) fun (x14 : Int32) (w13 : MEM) => bnd (f_X4_tryStep fu 181 x14 x10 (0 : Int32) (rT w13 (10908, l0)) (rT w13 (10910, l0)) w13) fun (x18 : Int32) (w17 : MEM) => bnd (f_X4_passHour fu 181 (rT w17 (10908, l0)) (rT w17 (10910, l0)) (1 : Int32) w17) fun (x22 : Int32) (w21 : MEM) => f_X9_passYear_19 fu n l0 l2 x12 (l4 + (1 : Int32)) w21) else (bnd (f_X4_passHour fu 181 (rT w (10908, l0)) (rT w (10910, l0)) (1 : Int32) w) fun (x5 : Int32) (w4 : MEM) => f_X9_passYear_19 fu n l0 l2 l3 (l4 + (1 : Int32)) w4)) else (some ((), w))
theorem E_X9_passYear_19 (fu : Nat) (n : Nat) (l0 : Nat) (l2 : Int32) (l3 : Int32) (l4 : Int32) (w : MEM) : f_X9_passYear_19 fu (n + 1) l0 l2 l3 l4 w = if l4 < l2 then (if 0 < (rS w (10107, (rT w (10908, l0)))) then (bnd (f_X9_drawnAfter fu l3 w) fun (x7 : Int32) (w6 : MEM) => bnd (f_X9_drawnBy fu x7 (rS w6 (10107, (rT w6 (10908, l0)))) w6) fun (x10 : Int32) (w9 : MEM) => bnd (f_X9_drawnAfter fu x7 w9) fun (x12 : Int32) (w11 : MEM) => bnd (f_X9_drawnBy fu x12 (5 : Int32) w11) fun (x14 : Int32) (w13 : MEM) => bnd (f_X4_tryStep fu 181 x14 x10 (0 : Int32) (rT w13 (10908, l0)) (rT w13 (10910, l0)) w13) fun (x18 : Int32) (w17 : MEM) => bnd (f_X4_passHour fu 181 (rT w17 (10908, l0)) (rT w17 (10910, l0)) (1 : Int32) w17) fun (x22 : Int32) (w21 : MEM) => f_X9_passYear_19 fu n l0 l2 x12 (l4 + (1 : Int32)) w21) else (bnd (f_X4_passHour fu 181 (rT w (10908, l0)) (rT w (10910, l0)) (1 : Int32) w) fun (x5 : Int32) (w4 : MEM) => f_X9_passYear_19 fu n l0 l2 l3 (l4 + (1 : Int32)) w4)) else (some ((), w)) := rfl
theorem w_X9_passYear_19 {X : SCR} {d rc rs : Nat} {Q : PO → PH → Prop} {o : Unit} {w1 : MEM} {fu : Nat} (hd : 5 ≤ d) (hq : ∀ h1, WH X h1 w1 → Q (.inl none) h1) : ∀ (n : Nat) (l0 : Nat) (l2 : Int32) (l3 : Int32) (l4 : Int32) (w : MEM) (h : PH), WH X h w → vo 9 l0 = true → f_X9_passYear_19 fu n l0 l2 l3 l4 w = some (o, w1) → PW d M_X9_passYear Q rc rs 19 [vR (900, l0), vU, vI l2, vI l3, vI l4, vU] [] h := by
  intro n
  induction n with
  | zero => intro l0 l2 l3 l4 w h wh hv_l0 hF; cases hF
  | succ n ih =>
    intro l0 l2 l3 l4 w h wh hv_l0 hF
    replace hF := (E_X9_passYear_19 fu n l0 l2 l3 l4 w).symm.trans hF
    refine r_X9_passYear_19 ?_
    refine ⟨fun c => ?_, fun c => ?_⟩
    · replace hF := if_ofT c hF
      have hT1 := (wh.2.2.1 10908 _ rfl hv_l0).2
      refine gO_of (wh.2.2.1 10908 _ rfl hv_l0).1 ?_
      refine gI_of (wh.1 10107 _ rfl hT1) ?_
      refine ⟨fun c => ?_, fun c => ?_⟩
      · replace hF := if_ofT c hF
        obtain ⟨x7, w6, hG, hF⟩ := bnd_of hF
        refine cl_I (D := 0) (Nat.le_trans (by decide) hd) (c_X9_drawnAfter wh  hG) ?_
        clear hG
        clear wh
        intro h wh
        have hT8 := (wh.2.2.1 10908 _ rfl hv_l0).2
        refine gO_of (wh.2.2.1 10908 _ rfl hv_l0).1 ?_
        refine gI_of (wh.1 10107 _ rfl hT8) ?_
        obtain ⟨x10, w9, hG, hF⟩ := bnd_of hF
        refine cl_I (D := 0) (Nat.le_trans (by decide) hd) (c_X9_drawnBy wh  hG) ?_
        clear hG
        clear wh
        intro h wh
        obtain ⟨x12, w11, hG, hF⟩ := bnd_of hF
        refine cl_I (D := 0) (Nat.le_trans (by decide) hd) (c_X9_drawnAfter wh  hG) ?_
        clear hG
        clear wh
        intro h wh
        refine gO_of (i := 181) (wh.2.1 10904 _ rfl hv_l0) ?_
        obtain ⟨x14, w13, hG, hF⟩ := bnd_of hF
        refine cl_I (D := 0) (Nat.le_trans (by decide) hd) (c_X9_drawnBy wh  hG) ?_
        clear hG
        clear wh
        intro h wh
        have hT15 := (wh.2.2.1 10908 _ rfl hv_l0).2
        refine gO_of (wh.2.2.1 10908 _ rfl hv_l0).1 ?_
        have hT16 := (wh.2.2.1 10910 _ rfl hv_l0).2
        refine gO_of (wh.2.2.1 10910 _ rfl hv_l0).1 ?_
        refine ⟨⟨_, wh.2.1 10400 _ rfl (rfl : vo 4 181 = true)⟩, ?_⟩
        obtain ⟨x18, w17, hG, hF⟩ := bnd_of hF
        refine cl_I (D := 4) (Nat.le_trans (by decide) hd) (c_X4_tryStep wh (rfl : vo 4 181 = true) hT15 hT16 hG) ?_
        clear hG
        clear wh
        intro h wh
        refine gO_of (i := 181) (wh.2.1 10904 _ rfl hv_l0) ?_
        have hT19 := (wh.2.2.1 10908 _ rfl hv_l0).2
        refine gO_of (wh.2.2.1 10908 _ rfl hv_l0).1 ?_
        have hT20 := (wh.2.2.1 10910 _ rfl hv_l0).2
        refine gO_of (wh.2.2.1 10910 _ rfl hv_l0).1 ?_
        refine ⟨⟨_, wh.2.1 10400 _ rfl (rfl : vo 4 181 = true)⟩, ?_⟩
        obtain ⟨x22, w21, hG, hF⟩ := bnd_of hF
        refine cl_I (D := 3) (Nat.le_trans (by decide) hd) (c_X4_passHour wh (rfl : vo 4 181 = true) hT19 hT20 hG) ?_
        clear hG
        clear wh
        intro h wh
        exact ih _ _ _ _ _ _ wh hv_l0 hF
      · replace hF := if_ofF c hF
        refine gO_of (i := 181) (wh.2.1 10904 _ rfl hv_l0) ?_
        have hT2 := (wh.2.2.1 10908 _ rfl hv_l0).2
        refine gO_of (wh.2.2.1 10908 _ rfl hv_l0).1 ?_
        have hT3 := (wh.2.2.1 10910 _ rfl hv_l0).2
        refine gO_of (wh.2.2.1 10910 _ rfl hv_l0).1 ?_
        refine ⟨⟨_, wh.2.1 10400 _ rfl (rfl : vo 4 181 = true)⟩, ?_⟩
        obtain ⟨x5, w4, hG, hF⟩ := bnd_of hF
        refine cl_I (D := 3) (Nat.le_trans (by decide) hd) (c_X4_passHour wh (rfl : vo 4 181 = true) hT2 hT3 hG) ?_
        clear hG
        clear wh
        intro h wh
        exact ih _ _ _ _ _ _ wh hv_l0 hF
    · replace hF := if_ofF c hF
      obtain ⟨rfl, rfl⟩ := some_of hF
      exact hq _ wh
def f_X9_passYear (fu : Nat) (l0 : Nat) (l1 : Int32) (l2 : Int32) (w : MEM) : Option (Unit × MEM) := bnd (f_X4_copy fu 181 (8 + 1) w) fun (u2 : Unit) (w1 : MEM) => f_X9_passYear_19 fu fu l0 l2 l1 (0 : Int32) w1
theorem E_X9_passYear (fu : Nat) (l0 : Nat) (l1 : Int32) (l2 : Int32) (w : MEM) : f_X9_passYear fu l0 l1 l2 w = bnd (f_X4_copy fu 181 (8 + 1) w) fun (u2 : Unit) (w1 : MEM) => f_X9_passYear_19 fu fu l0 l2 l1 (0 : Int32) w1 := rfl
theorem w_X9_passYear {X : SCR} {d rc rs : Nat} {Q : PO → PH → Prop} {o : Unit} {w1 : MEM} {fu : Nat} (hd : 5 ≤ d) (hq : ∀ h1, WH X h1 w1 → Q (.inl none) h1) {l0 : Nat} {l1 : Int32} {l2 : Int32} {w : MEM} {h : PH} (wh : WH X h w) (hv_l0 : vo 9 l0 = true) (hF : f_X9_passYear fu l0 l1 l2 w = some (o, w1)) : PW d M_X9_passYear Q rc rs 0 [vR (900, l0), vI l1, vI l2, vU, vU, vU] [] h := by
  replace hF := (E_X9_passYear fu l0 l1 l2 w).symm.trans hF
  refine r_X9_passYear_0 ?_
  refine gO_of (i := 181) (wh.2.1 10904 _ rfl hv_l0) ?_
  refine gO_of (i := 8) (wh.2.1 10902 _ rfl hv_l0) ?_
  refine gO_of (i := (8 + 1)) (wh.2.1 10200 _ rfl (rfl : vo 2 8 = true)) ?_
  refine ⟨⟨_, wh.2.1 10400 _ rfl (rfl : vo 4 181 = true)⟩, ?_⟩
  obtain ⟨u2, w1, hG, hF⟩ := bnd_of hF
  refine cl_V (D := 3) (Nat.le_trans (by decide) hd) (c_X4_copy wh (rfl : vo 4 181 = true) (vH1 (rfl : vo 2 8 = true)) hG) ?_
  clear hG
  clear wh
  intro h wh
  exact w_X9_passYear_19 hd hq  fu _ _ _ _ _ _ wh hv_l0 hF
theorem c_X9_passYear {X : SCR} {fu : Nat} {o : Unit} {w1 : MEM} {a0 : Nat} {a1 : Int32} {a2 : Int32} {w : MEM} {h : PH} (wh : WH X h w) (h0 : vo 9 a0 = true) (hF : f_X9_passYear fu a0 a1 a2 w = some (o, w1)) : CT 5 M_X9_passYear [vR (900, a0), vI a1, vI a2] h 0 0 (QP X (.inl none) w1) :=
  CT_of mk_X9_passYear (Nat.le_of_ble_eq_true rfl) rfl (w_X9_passYear (fu := fu) (rc := 0) (rs := 0) (hd := Nat.le_refl 5) (hq := fun h1 g => ⟨rfl, g⟩) wh h0 hF)
-- X9_yearGasps
def f_X9_yearGasps (fu : Nat) (l0 : Nat) (w : MEM) : Option (Int32 × MEM) := bnd (f_X9_sum fu (409, 181) w) fun (x2 : Int32) (w1 : MEM) => bnd (f_X9_sum fu (409, (8 + 1)) w1) fun (x4 : Int32) (w3 : MEM) => some ((x2 - x4), w3)
theorem E_X9_yearGasps (fu : Nat) (l0 : Nat) (w : MEM) : f_X9_yearGasps fu l0 w = bnd (f_X9_sum fu (409, 181) w) fun (x2 : Int32) (w1 : MEM) => bnd (f_X9_sum fu (409, (8 + 1)) w1) fun (x4 : Int32) (w3 : MEM) => some ((x2 - x4), w3) := rfl
theorem w_X9_yearGasps {X : SCR} {d rc rs : Nat} {Q : PO → PH → Prop} {o : Int32} {w1 : MEM} {fu : Nat} (hd : 1 ≤ d) (hq : ∀ h1, WH X h1 w1 → Q (.inl (some (vI o))) h1) {l0 : Nat} {w : MEM} {h : PH} (wh : WH X h w) (hv_l0 : vo 9 l0 = true) (hF : f_X9_yearGasps fu l0 w = some (o, w1)) : PW d M_X9_yearGasps Q rc rs 0 [vR (900, l0)] [] h := by
  replace hF := (E_X9_yearGasps fu l0 w).symm.trans hF
  refine r_X9_yearGasps_0 ?_
  refine gO_of (i := 181) (wh.2.1 10904 _ rfl hv_l0) ?_
  refine gA_of (b := (409, 181)) (wh.2.1 10408 _ rfl (rfl : vo 4 181 = true)) ?_
  obtain ⟨x2, w1, hG, hF⟩ := bnd_of hF
  refine cl_I (D := 0) (Nat.le_trans (by decide) hd) (c_X9_sum wh (oA_409 (rfl : vo 4 181 = true)) hG) ?_
  clear hG
  clear wh
  intro h wh
  refine gO_of (i := 8) (wh.2.1 10902 _ rfl hv_l0) ?_
  refine gO_of (i := (8 + 1)) (wh.2.1 10200 _ rfl (rfl : vo 2 8 = true)) ?_
  refine gA_of (b := (409, (8 + 1))) (wh.2.1 10408 _ rfl (vH1 (rfl : vo 2 8 = true))) ?_
  obtain ⟨x4, w3, hG, hF⟩ := bnd_of hF
  refine cl_I (D := 0) (Nat.le_trans (by decide) hd) (c_X9_sum wh (oA_409 (vH1 (rfl : vo 2 8 = true))) hG) ?_
  clear hG
  clear wh
  intro h wh
  obtain ⟨rfl, rfl⟩ := some_of hF
  exact hq _ wh
theorem c_X9_yearGasps {X : SCR} {fu : Nat} {o : Int32} {w1 : MEM} {a0 : Nat} {w : MEM} {h : PH} (wh : WH X h w) (h0 : vo 9 a0 = true) (hF : f_X9_yearGasps fu a0 w = some (o, w1)) : CT 1 M_X9_yearGasps [vR (900, a0)] h 0 0 (QP X (.inl (some (vI o))) w1) :=
  CT_of mk_X9_yearGasps (Nat.le_of_ble_eq_true rfl) rfl (w_X9_yearGasps (fu := fu) (rc := 0) (rs := 0) (hd := Nat.le_refl 1) (hq := fun h1 g => ⟨rfl, g⟩) wh h0 hF)
-- X9_year
def f_X9_year (fu : Nat) (l0 : Nat) (l1 : Int32) (l2 : Int32) (l3 : Int32) (w : MEM) : Option ((Int32 ⊕ Nat) × MEM) := bndT (f_X9_needWithin fu l0 l2 (1 : Int32) (96 : Int32) w) fun (u2 : Unit) (w1 : MEM) => bndT (f_X9_needWithin fu l0 l3 (0 : Int32) (3 : Int32) w1) fun (u4 : Unit) (w3 : MEM) => bnd (f_X9_passYear fu l0 l1 l2 w3) fun (u6 : Unit) (w5 : MEM) => if l3 = (0 : Int32) then (bnd (f_X9_sum fu (403, 181) w5) fun (x14 : Int32) (w13 : MEM) => some (.inl x14, w13)) else (if l3 = (1 : Int32) then (bnd (f_X4_ranked fu 181 (0 : Int32) w5) fun (x12 : Int32) (w11 : MEM) => some (.inl x12, w11)) else (if l3 = (2 : Int32) then (bnd (f_X9_yearGasps fu l0 w5) fun (x10 : Int32) (w9 : MEM) => some (.inl x10, w9)) else (bnd (f_X4_standing fu 181 w5) fun (x8 : Int32) (w7 : MEM) => some (.inl x8, w7))))
theorem E_X9_year (fu : Nat) (l0 : Nat) (l1 : Int32) (l2 : Int32) (l3 : Int32) (w : MEM) : f_X9_year fu l0 l1 l2 l3 w = bndT (f_X9_needWithin fu l0 l2 (1 : Int32) (96 : Int32) w) fun (u2 : Unit) (w1 : MEM) => bndT (f_X9_needWithin fu l0 l3 (0 : Int32) (3 : Int32) w1) fun (u4 : Unit) (w3 : MEM) => bnd (f_X9_passYear fu l0 l1 l2 w3) fun (u6 : Unit) (w5 : MEM) => if l3 = (0 : Int32) then (bnd (f_X9_sum fu (403, 181) w5) fun (x14 : Int32) (w13 : MEM) => some (.inl x14, w13)) else (if l3 = (1 : Int32) then (bnd (f_X4_ranked fu 181 (0 : Int32) w5) fun (x12 : Int32) (w11 : MEM) => some (.inl x12, w11)) else (if l3 = (2 : Int32) then (bnd (f_X9_yearGasps fu l0 w5) fun (x10 : Int32) (w9 : MEM) => some (.inl x10, w9)) else (bnd (f_X4_standing fu 181 w5) fun (x8 : Int32) (w7 : MEM) => some (.inl x8, w7)))) := rfl
theorem w_X9_year {X : SCR} {d rc rs : Nat} {Q : PO → PH → Prop} {o : (Int32 ⊕ Nat)} {w1 : MEM} {fu : Nat} (hd : 8 ≤ d) (hq : ∀ h1, WH X h1 w1 → Q (oI o) h1) {l0 : Nat} {l1 : Int32} {l2 : Int32} {l3 : Int32} {w : MEM} {h : PH} (wh : WH X h w) (hv_l0 : vo 9 l0 = true) (hF : f_X9_year fu l0 l1 l2 l3 w = some (o, w1)) : PW d M_X9_year Q (1 + (1 + rc)) (6 + (6 + rs)) 0 [vR (900, l0), vI l1, vI l2, vI l3] [] h := by
  replace hF := (E_X9_year fu l0 l1 l2 l3 w).symm.trans hF
  refine r_X9_year_0 ?_
  refine ⟨⟨_, wh.2.1 10900 _ rfl hv_l0⟩, ?_⟩
  rcases bndT_of hF with ⟨u2, w1, hG, hF⟩ | ⟨e9, hG, rfl⟩
  rotate_left
  · exact cl_TX (D := 7) (Nat.le_trans (by decide) hd) (c_X9_needWithin wh hv_l0 hG) (fun h1 wh => hq _ wh)
  refine cl_TV (D := 7) (Nat.le_trans (by decide) hd) (c_X9_needWithin wh hv_l0 hG) ?_
  clear hG
  clear wh
  intro h wh
  refine ⟨⟨_, wh.2.1 10900 _ rfl hv_l0⟩, ?_⟩
  rcases bndT_of hF with ⟨u4, w3, hG, hF⟩ | ⟨e9, hG, rfl⟩
  rotate_left
  · exact cl_TX (D := 7) (Nat.le_trans (by decide) hd) (c_X9_needWithin wh hv_l0 hG) (fun h1 wh => hq _ wh)
  refine cl_TV (D := 7) (Nat.le_trans (by decide) hd) (c_X9_needWithin wh hv_l0 hG) ?_
  clear hG
  clear wh
  intro h wh
  refine ⟨⟨_, wh.2.1 10900 _ rfl hv_l0⟩, ?_⟩
  obtain ⟨u6, w5, hG, hF⟩ := bnd_of hF
  refine cl_V (D := 5) (Nat.le_trans (by decide) hd) (c_X9_passYear wh hv_l0 hG) ?_
  clear hG
  clear wh
  intro h wh
  refine ⟨fun c => ?_, fun c => ?_, fun c => ?_, fun c => ?_⟩
  · replace hF := if_ofT c hF
    refine gO_of (i := 181) (wh.2.1 10904 _ rfl hv_l0) ?_
    refine gA_of (b := (403, 181)) (wh.2.1 10402 _ rfl (rfl : vo 4 181 = true)) ?_
    obtain ⟨x14, w13, hG, hF⟩ := bnd_of hF
    refine cl_I (D := 0) (Nat.le_trans (by decide) hd) (c_X9_sum wh (oA_403 (rfl : vo 4 181 = true)) hG) ?_
    clear hG
    clear wh
    intro h wh
    obtain ⟨rfl, rfl⟩ := some_of hF
    exact hq _ wh
  · replace hF := if_ofF (fun e9 => absurd (c.symm.trans e9) (by decide)) hF; replace hF := if_ofT c hF
    refine gO_of (i := 181) (wh.2.1 10904 _ rfl hv_l0) ?_
    refine ⟨⟨_, wh.2.1 10400 _ rfl (rfl : vo 4 181 = true)⟩, ?_⟩
    obtain ⟨x12, w11, hG, hF⟩ := bnd_of hF
    refine cl_I (D := 2) (Nat.le_trans (by decide) hd) (c_X4_ranked wh (rfl : vo 4 181 = true) hG) ?_
    clear hG
    clear wh
    intro h wh
    obtain ⟨rfl, rfl⟩ := some_of hF
    exact hq _ wh
  · replace hF := if_ofF (fun e9 => absurd (c.symm.trans e9) (by decide)) hF; replace hF := if_ofF (fun e9 => absurd (c.symm.trans e9) (by decide)) hF; replace hF := if_ofT c hF
    refine ⟨⟨_, wh.2.1 10900 _ rfl hv_l0⟩, ?_⟩
    obtain ⟨x10, w9, hG, hF⟩ := bnd_of hF
    refine cl_I (D := 1) (Nat.le_trans (by decide) hd) (c_X9_yearGasps wh hv_l0 hG) ?_
    clear hG
    clear wh
    intro h wh
    obtain ⟨rfl, rfl⟩ := some_of hF
    exact hq _ wh
  · replace hF := if_ofF c.1 hF; replace hF := if_ofF c.2.1 hF; replace hF := if_ofF c.2.2 hF
    refine gO_of (i := 181) (wh.2.1 10904 _ rfl hv_l0) ?_
    refine ⟨⟨_, wh.2.1 10400 _ rfl (rfl : vo 4 181 = true)⟩, ?_⟩
    obtain ⟨x8, w7, hG, hF⟩ := bnd_of hF
    refine cl_I (D := 0) (Nat.le_trans (by decide) hd) (c_X4_standing wh (rfl : vo 4 181 = true) hG) ?_
    clear hG
    clear wh
    intro h wh
    obtain ⟨rfl, rfl⟩ := some_of hF
    exact hq _ wh
theorem c_X9_year {X : SCR} {fu : Nat} {o : (Int32 ⊕ Nat)} {w1 : MEM} {a0 : Nat} {a1 : Int32} {a2 : Int32} {a3 : Int32} {w : MEM} {h : PH} (wh : WH X h w) (h0 : vo 9 a0 = true) (hF : f_X9_year fu a0 a1 a2 a3 w = some (o, w1)) : CT 8 M_X9_year [vR (900, a0), vI a1, vI a2, vI a3] h 2 12 (QP X (oI o) w1) :=
  CT_of mk_X9_year (Nat.le_of_ble_eq_true rfl) rfl (w_X9_year (fu := fu) (rc := 0) (rs := 0) (hd := Nat.le_refl 8) (hq := fun h1 g => ⟨rfl, g⟩) wh h0 hF)
-- X9_span
def f_X9_span_36 (fu : Nat) : Nat → Nat → Int32 → Int32 → Int32 → Int32 → Int32 → Int32 → Int32 → Int32 → MEM → Option ((Int32 ⊕ Nat) × MEM)
  | 0, _, _, _, _, _, _, _, _, _, _ => none
  | n + 1, l0, l1, l2, l3, l4, l5, l6, l7, l8, w => if l8 < l2 then (bnd (f_X9_passYear fu l0 (l1 + l8) l3 w) fun (u2 : Unit) (w1 : MEM) => bnd (f_X9_yearGasps fu l0 w1) fun (x4 : Int32) (w3 : MEM) => if l8 = 0 then (bnd (f_J9_max_7cf53 fu l6 x4 w3) fun (x14 : Int32) (w13 : MEM) => bnd (f_X4_ranked fu 181 (0 : Int32) w13) fun (x16 : Int32) (w15 : MEM) => if x16 = (-1 : Int32) then (lt ((l7 + (0 : Int32))) fun (v18 : Int32) => f_X9_span_36 fu n l0 l1 l2 l3 l4 x4 x14 v18 (l8 + (1 : Int32)) w15) else (lt ((l7 + (1 : Int32))) fun (v17 : Int32) => f_X9_span_36 fu n l0 l1 l2 l3 l4 x4 x14 v17 (l8 + (1 : Int32)) w15)) else (bnd (f_J9_min_7cf53 fu l5 x4 w3) fun (x6 : Int32) (w5 : MEM) => bnd (f_J9_max_7cf53 fu l6 x4 w5) fun (x8 : Int32) (w7 : MEM) => bnd (f_X4_ranked fu 181 (0 : Int32) w7) fun (x10 : Int32) (w9 : MEM) => if x10 = (-1 : Int32) then (lt ((l7 + (0 : Int32))) fun (v12 : Int32) => f_X9_span_36 fu n l0 l1 l2 l3 l4 x6 x8 v12 (l8 + (1 : Int32)) w9) else (lt ((l7 + (1 : Int32))) fun (v11 : Int32) => f_X9_span_36 fu n l0 l1 l2 l3 l4 x6 x8 v11 (l8 + (1 : Int32)) w9))) else (if l4 = (0 : Int32) then (some (.inl l5, w)) else (if l4 = (1 : Int32) then (some (.inl l6, w)) else (some (.inl l7, w))))
theorem E_X9_span_36 (fu : Nat) (n : Nat) (l0 : Nat) (l1 : Int32) (l2 : Int32) (l3 : Int32) (l4 : Int32) (l5 : Int32) (l6 : Int32) (l7 : Int32) (l8 : Int32) (w : MEM) : f_X9_span_36 fu (n + 1) l0 l1 l2 l3 l4 l5 l6 l7 l8 w = if l8 < l2 then (bnd (f_X9_passYear fu l0 (l1 + l8) l3 w) fun (u2 : Unit) (w1 : MEM) => bnd (f_X9_yearGasps fu l0 w1) fun (x4 : Int32) (w3 : MEM) => if l8 = 0 then (bnd (f_J9_max_7cf53 fu l6 x4 w3) fun (x14 : Int32) (w13 : MEM) => bnd (f_X4_ranked fu 181 (0 : Int32) w13) fun (x16 : Int32) (w15 : MEM) => if x16 = (-1 : Int32) then (lt ((l7 + (0 : Int32))) fun (v18 : Int32) => f_X9_span_36 fu n l0 l1 l2 l3 l4 x4 x14 v18 (l8 + (1 : Int32)) w15) else (lt ((l7 + (1 : Int32))) fun (v17 : Int32) => f_X9_span_36 fu n l0 l1 l2 l3 l4 x4 x14 v17 (l8 + (1 : Int32)) w15)) else (bnd (f_J9_min_7cf53 fu l5 x4 w3) fun (x6 : Int32) (w5 : MEM) => bnd (f_J9_max_7cf53 fu l6 x4 w5) fun (x8 : Int32) (w7 : MEM) => bnd (f_X4_ranked fu 181 (0 : Int32) w7) fun (x10 : Int32) (w9 : MEM) => if x10 = (-1 : Int32) then (lt ((l7 + (0 : Int32))) fun (v12 : Int32) => f_X9_span_36 fu n l0 l1 l2 l3 l4 x6 x8 v12 (l8 + (1 : Int32)) w9) else (lt ((l7 + (1 : Int32))) fun (v11 : Int32) => f_X9_span_36 fu n l0 l1 l2 l3 l4 x6 x8 v11 (l8 + (1 : Int32)) w9))) else (if l4 = (0 : Int32) then (some (.inl l5, w)) else (if l4 = (1 : Int32) then (some (.inl l6, w)) else (some (.inl l7, w)))) := rfl
theorem w_X9_span_36 {X : SCR} {d rc rs : Nat} {Q : PO → PH → Prop} {o : (Int32 ⊕ Nat)} {w1 : MEM} {fu : Nat} (hd : 8 ≤ d) (hq : ∀ h1, WH X h1 w1 → Q (oI o) h1) : ∀ (n : Nat) (l0 : Nat) (l1 : Int32) (l2 : Int32) (l3 : Int32) (l4 : Int32) (l5 : Int32) (l6 : Int32) (l7 : Int32) (l8 : Int32) (w : MEM) (h : PH), WH X h w → vo 9 l0 = true → f_X9_span_36 fu n l0 l1 l2 l3 l4 l5 l6 l7 l8 w = some (o, w1) → PW d M_X9_span Q rc rs 36 [vR (900, l0), vI l1, vI l2, vI l3, vI l4, vI l5, vI l6, vI l7, vI l8, vU] [] h := by
  intro n
  induction n with
  | zero => intro l0 l1 l2 l3 l4 l5 l6 l7 l8 w h wh hv_l0 hF; cases hF
  | succ n ih =>
    intro l0 l1 l2 l3 l4 l5 l6 l7 l8 w h wh hv_l0 hF
    replace hF := (E_X9_span_36 fu n l0 l1 l2 l3 l4 l5 l6 l7 l8 w).symm.trans hF
    refine r_X9_span_36 ?_
    refine ⟨fun c => ?_, fun c => ?_⟩
    · replace hF := if_ofT c hF
      refine ⟨⟨_, wh.2.1 10900 _ rfl hv_l0⟩, ?_⟩
      obtain ⟨u2, w1, hG, hF⟩ := bnd_of hF
      refine cl_V (D := 5) (Nat.le_trans (by decide) hd) (c_X9_passYear wh hv_l0 hG) ?_
      clear hG
      clear wh
      intro h wh
      refine ⟨⟨_, wh.2.1 10900 _ rfl hv_l0⟩, ?_⟩
      obtain ⟨x4, w3, hG, hF⟩ := bnd_of hF
      refine cl_I (D := 1) (Nat.le_trans (by decide) hd) (c_X9_yearGasps wh hv_l0 hG) ?_
      clear hG
      clear wh
      intro h wh
      refine ⟨fun c => ?_, fun c => ?_⟩
      · replace hF := if_ofT c hF
        obtain ⟨x14, w13, hG, hF⟩ := bnd_of hF
        refine cl_I (D := 0) (Nat.le_trans (by decide) hd) (c_J9_max_7cf53 wh  hG) ?_
        clear hG
        clear wh
        intro h wh
        refine gO_of (i := 181) (wh.2.1 10904 _ rfl hv_l0) ?_
        refine ⟨⟨_, wh.2.1 10400 _ rfl (rfl : vo 4 181 = true)⟩, ?_⟩
        obtain ⟨x16, w15, hG, hF⟩ := bnd_of hF
        refine cl_I (D := 2) (Nat.le_trans (by decide) hd) (c_X4_ranked wh (rfl : vo 4 181 = true) hG) ?_
        clear hG
        clear wh
        intro h wh
        refine ⟨fun c => ?_, fun c => ?_⟩
        · replace hF := if_ofT c hF
          replace hF := lt_of hF
          exact ih _ _ _ _ _ _ _ _ _ _ _ wh hv_l0 hF
        · replace hF := if_ofF c hF
          replace hF := lt_of hF
          exact ih _ _ _ _ _ _ _ _ _ _ _ wh hv_l0 hF
      · replace hF := if_ofF c hF
        obtain ⟨x6, w5, hG, hF⟩ := bnd_of hF
        refine cl_I (D := 0) (Nat.le_trans (by decide) hd) (c_J9_min_7cf53 wh  hG) ?_
        clear hG
        clear wh
        intro h wh
        obtain ⟨x8, w7, hG, hF⟩ := bnd_of hF
        refine cl_I (D := 0) (Nat.le_trans (by decide) hd) (c_J9_max_7cf53 wh  hG) ?_
        clear hG
        clear wh
        intro h wh
        refine gO_of (i := 181) (wh.2.1 10904 _ rfl hv_l0) ?_
        refine ⟨⟨_, wh.2.1 10400 _ rfl (rfl : vo 4 181 = true)⟩, ?_⟩
        obtain ⟨x10, w9, hG, hF⟩ := bnd_of hF
        refine cl_I (D := 2) (Nat.le_trans (by decide) hd) (c_X4_ranked wh (rfl : vo 4 181 = true) hG) ?_
        clear hG
        clear wh
        intro h wh
        refine ⟨fun c => ?_, fun c => ?_⟩
        · replace hF := if_ofT c hF
          replace hF := lt_of hF
          exact ih _ _ _ _ _ _ _ _ _ _ _ wh hv_l0 hF
        · replace hF := if_ofF c hF
          replace hF := lt_of hF
          exact ih _ _ _ _ _ _ _ _ _ _ _ wh hv_l0 hF
    · replace hF := if_ofF c hF
      refine ⟨fun c => ?_, fun c => ?_, fun c => ?_⟩
      · replace hF := if_ofT c hF
        obtain ⟨rfl, rfl⟩ := some_of hF
        exact hq _ wh
      · replace hF := if_ofF (fun e9 => absurd (c.symm.trans e9) (by decide)) hF; replace hF := if_ofT c hF
        obtain ⟨rfl, rfl⟩ := some_of hF
        exact hq _ wh
      · replace hF := if_ofF c.1 hF; replace hF := if_ofF c.2 hF
        obtain ⟨rfl, rfl⟩ := some_of hF
        exact hq _ wh
def f_X9_span (fu : Nat) (l0 : Nat) (l1 : Int32) (l2 : Int32) (l3 : Int32) (l4 : Int32) (w : MEM) : Option ((Int32 ⊕ Nat) × MEM) := bndT (f_X9_needWithin fu l0 l2 (1 : Int32) (20 : Int32) w) fun (u2 : Unit) (w1 : MEM) => bndT (f_X9_needWithin fu l0 l3 (1 : Int32) (96 : Int32) w1) fun (u4 : Unit) (w3 : MEM) => bndT (f_X9_needWithin fu l0 l4 (0 : Int32) (2 : Int32) w3) fun (u6 : Unit) (w5 : MEM) => f_X9_span_36 fu fu l0 l1 l2 l3 l4 (0 : Int32) (0 : Int32) (0 : Int32) (0 : Int32) w5
theorem E_X9_span (fu : Nat) (l0 : Nat) (l1 : Int32) (l2 : Int32) (l3 : Int32) (l4 : Int32) (w : MEM) : f_X9_span fu l0 l1 l2 l3 l4 w = bndT (f_X9_needWithin fu l0 l2 (1 : Int32) (20 : Int32) w) fun (u2 : Unit) (w1 : MEM) => bndT (f_X9_needWithin fu l0 l3 (1 : Int32) (96 : Int32) w1) fun (u4 : Unit) (w3 : MEM) => bndT (f_X9_needWithin fu l0 l4 (0 : Int32) (2 : Int32) w3) fun (u6 : Unit) (w5 : MEM) => f_X9_span_36 fu fu l0 l1 l2 l3 l4 (0 : Int32) (0 : Int32) (0 : Int32) (0 : Int32) w5 := rfl
theorem w_X9_span {X : SCR} {d rc rs : Nat} {Q : PO → PH → Prop} {o : (Int32 ⊕ Nat)} {w1 : MEM} {fu : Nat} (hd : 8 ≤ d) (hq : ∀ h1, WH X h1 w1 → Q (oI o) h1) {l0 : Nat} {l1 : Int32} {l2 : Int32} {l3 : Int32} {l4 : Int32} {w : MEM} {h : PH} (wh : WH X h w) (hv_l0 : vo 9 l0 = true) (hF : f_X9_span fu l0 l1 l2 l3 l4 w = some (o, w1)) : PW d M_X9_span Q (1 + (1 + (1 + rc))) (6 + (6 + (6 + rs))) 0 [vR (900, l0), vI l1, vI l2, vI l3, vI l4, vU, vU, vU, vU, vU] [] h := by
  replace hF := (E_X9_span fu l0 l1 l2 l3 l4 w).symm.trans hF
  refine r_X9_span_0 ?_
  refine ⟨⟨_, wh.2.1 10900 _ rfl hv_l0⟩, ?_⟩
  rcases bndT_of hF with ⟨u2, w1, hG, hF⟩ | ⟨e9, hG, rfl⟩
  rotate_left
  · exact cl_TX (D := 7) (Nat.le_trans (by decide) hd) (c_X9_needWithin wh hv_l0 hG) (fun h1 wh => hq _ wh)
  refine cl_TV (D := 7) (Nat.le_trans (by decide) hd) (c_X9_needWithin wh hv_l0 hG) ?_
  clear hG
  clear wh
  intro h wh
  refine ⟨⟨_, wh.2.1 10900 _ rfl hv_l0⟩, ?_⟩
  rcases bndT_of hF with ⟨u4, w3, hG, hF⟩ | ⟨e9, hG, rfl⟩
  rotate_left
  · exact cl_TX (D := 7) (Nat.le_trans (by decide) hd) (c_X9_needWithin wh hv_l0 hG) (fun h1 wh => hq _ wh)
  refine cl_TV (D := 7) (Nat.le_trans (by decide) hd) (c_X9_needWithin wh hv_l0 hG) ?_
  clear hG
  clear wh
  intro h wh
  refine ⟨⟨_, wh.2.1 10900 _ rfl hv_l0⟩, ?_⟩
  rcases bndT_of hF with ⟨u6, w5, hG, hF⟩ | ⟨e9, hG, rfl⟩
  rotate_left
  · exact cl_TX (D := 7) (Nat.le_trans (by decide) hd) (c_X9_needWithin wh hv_l0 hG) (fun h1 wh => hq _ wh)
  refine cl_TV (D := 7) (Nat.le_trans (by decide) hd) (c_X9_needWithin wh hv_l0 hG) ?_
  clear hG
  clear wh
  intro h wh
  exact w_X9_span_36 hd hq  fu _ _ _ _ _ _ _ _ _ _ _ wh hv_l0 hF
theorem c_X9_span {X : SCR} {fu : Nat} {o : (Int32 ⊕ Nat)} {w1 : MEM} {a0 : Nat} {a1 : Int32} {a2 : Int32} {a3 : Int32} {a4 : Int32} {w : MEM} {h : PH} (wh : WH X h w) (h0 : vo 9 a0 = true) (hF : f_X9_span fu a0 a1 a2 a3 a4 w = some (o, w1)) : CT 8 M_X9_span [vR (900, a0), vI a1, vI a2, vI a3, vI a4] h 3 18 (QP X (oI o) w1) :=
  CT_of mk_X9_span (Nat.le_of_ble_eq_true rfl) rfl (w_X9_span (fu := fu) (rc := 0) (rs := 0) (hd := Nat.le_refl 8) (hq := fun h1 g => ⟨rfl, g⟩) wh h0 hF)
-- X9_way
def f_X9_way (fu : Nat) (l0 : Nat) (l1 : Int32) (l2 : Int32) (w : MEM) : Option ((Int32 ⊕ Nat) × MEM) := bndT (f_X9_needHeir fu l0 l1 w) fun (u2 : Unit) (w1 : MEM) => bndT (f_X9_needHeir fu l0 l2 w1) fun (u4 : Unit) (w3 : MEM) => bnd (f_X1_tapsBetween fu (rT w3 (10908, l0)) l1 l2 w3) fun (x7 : Int32) (w6 : MEM) => some (.inl x7, w6)
theorem E_X9_way (fu : Nat) (l0 : Nat) (l1 : Int32) (l2 : Int32) (w : MEM) : f_X9_way fu l0 l1 l2 w = bndT (f_X9_needHeir fu l0 l1 w) fun (u2 : Unit) (w1 : MEM) => bndT (f_X9_needHeir fu l0 l2 w1) fun (u4 : Unit) (w3 : MEM) => bnd (f_X1_tapsBetween fu (rT w3 (10908, l0)) l1 l2 w3) fun (x7 : Int32) (w6 : MEM) => some (.inl x7, w6) := rfl
theorem w_X9_way {X : SCR} {d rc rs : Nat} {Q : PO → PH → Prop} {o : (Int32 ⊕ Nat)} {w1 : MEM} {fu : Nat} (hd : 8 ≤ d) (hq : ∀ h1, WH X h1 w1 → Q (oI o) h1) {l0 : Nat} {l1 : Int32} {l2 : Int32} {w : MEM} {h : PH} (wh : WH X h w) (hv_l0 : vo 9 l0 = true) (hF : f_X9_way fu l0 l1 l2 w = some (o, w1)) : PW d M_X9_way Q (1 + (1 + rc)) (6 + (6 + rs)) 0 [vR (900, l0), vI l1, vI l2] [] h := by
  replace hF := (E_X9_way fu l0 l1 l2 w).symm.trans hF
  refine r_X9_way_0 ?_
  refine ⟨⟨_, wh.2.1 10900 _ rfl hv_l0⟩, ?_⟩
  rcases bndT_of hF with ⟨u2, w1, hG, hF⟩ | ⟨e9, hG, rfl⟩
  rotate_left
  · exact cl_TX (D := 7) (Nat.le_trans (by decide) hd) (c_X9_needHeir wh hv_l0 hG) (fun h1 wh => hq _ wh)
  refine cl_TV (D := 7) (Nat.le_trans (by decide) hd) (c_X9_needHeir wh hv_l0 hG) ?_
  clear hG
  clear wh
  intro h wh
  refine ⟨⟨_, wh.2.1 10900 _ rfl hv_l0⟩, ?_⟩
  rcases bndT_of hF with ⟨u4, w3, hG, hF⟩ | ⟨e9, hG, rfl⟩
  rotate_left
  · exact cl_TX (D := 7) (Nat.le_trans (by decide) hd) (c_X9_needHeir wh hv_l0 hG) (fun h1 wh => hq _ wh)
  refine cl_TV (D := 7) (Nat.le_trans (by decide) hd) (c_X9_needHeir wh hv_l0 hG) ?_
  clear hG
  clear wh
  intro h wh
  have hT5 := (wh.2.2.1 10908 _ rfl hv_l0).2
  refine gO_of (wh.2.2.1 10908 _ rfl hv_l0).1 ?_
  refine ⟨⟨_, wh.2.1 10100 _ rfl hT5⟩, ?_⟩
  obtain ⟨x7, w6, hG, hF⟩ := bnd_of hF
  refine cl_I (D := 1) (Nat.le_trans (by decide) hd) (c_X1_tapsBetween wh hT5 hG) ?_
  clear hG
  clear wh
  intro h wh
  obtain ⟨rfl, rfl⟩ := some_of hF
  exact hq _ wh
theorem c_X9_way {X : SCR} {fu : Nat} {o : (Int32 ⊕ Nat)} {w1 : MEM} {a0 : Nat} {a1 : Int32} {a2 : Int32} {w : MEM} {h : PH} (wh : WH X h w) (h0 : vo 9 a0 = true) (hF : f_X9_way fu a0 a1 a2 w = some (o, w1)) : CT 8 M_X9_way [vR (900, a0), vI a1, vI a2] h 2 12 (QP X (oI o) w1) :=
  CT_of mk_X9_way (Nat.le_of_ble_eq_true rfl) rfl (w_X9_way (fu := fu) (rc := 0) (rs := 0) (hd := Nat.le_refl 8) (hq := fun h1 g => ⟨rfl, g⟩) wh h0 hF)
-- X9_hush
def f_X9_hush_62 (fu : Nat) : Nat → Nat → Int32 → Int32 → Int32 → Int32 → Int32 → MEM → Option ((Int32 ⊕ Nat) × MEM)
  | 0, _, _, _, _, _, _, _ => none
  | n + 1, l0, l1, l2, l3, l4, l5, w => bnd (f_X1_all fu (rT w (10908, l0)) w) fun (x3 : Int32) (w2 : MEM) => if x3 < l5 then (some (.inl l4, w2)) else (if (l5 &&& l3) = 0 then (bnd (f_J6_bitCount_0f7a4 fu l5 w2) fun (x5 : Int32) (w4 : MEM) => bnd (f_J6_bitCount_0f7a4 fu l4 w4) fun (x7 : Int32) (w6 : MEM) => if x5 < x7 then (bnd (f_X1_reached fu (rT w6 (10908, l0)) l1 l5 w6) fun (x10 : Int32) (w9 : MEM) => if (x10 &&& ((1 : Int32) <<< (l2 &&& 31))) = 0 then (f_X9_hush_62 fu n l0 l1 l2 l3 l5 (l5 + (1 : Int32)) w9) else (f_X9_hush_62 fu n l0 l1 l2 l3 l4 (l5 + (1 : Int32)) w9)) else (f_X9_hush_62 fu n l0 l1 l2 l3 l4 (l5 + (1 : Int32)) w6)) else (f_X9_hush_62 fu n l0 l1 l2 l3 l4 (l5 + (1 : Int32)) w2))
theorem E_X9_hush_62 (fu : Nat) (n : Nat) (l0 : Nat) (l1 : Int32) (l2 : Int32) (l3 : Int32) (l4 : Int32) (l5 : Int32) (w : MEM) : f_X9_hush_62 fu (n + 1) l0 l1 l2 l3 l4 l5 w = bnd (f_X1_all fu (rT w (10908, l0)) w) fun (x3 : Int32) (w2 : MEM) => if x3 < l5 then (some (.inl l4, w2)) else (if (l5 &&& l3) = 0 then (bnd (f_J6_bitCount_0f7a4 fu l5 w2) fun (x5 : Int32) (w4 : MEM) => bnd (f_J6_bitCount_0f7a4 fu l4 w4) fun (x7 : Int32) (w6 : MEM) => if x5 < x7 then (bnd (f_X1_reached fu (rT w6 (10908, l0)) l1 l5 w6) fun (x10 : Int32) (w9 : MEM) => if (x10 &&& ((1 : Int32) <<< (l2 &&& 31))) = 0 then (f_X9_hush_62 fu n l0 l1 l2 l3 l5 (l5 + (1 : Int32)) w9) else (f_X9_hush_62 fu n l0 l1 l2 l3 l4 (l5 + (1 : Int32)) w9)) else (f_X9_hush_62 fu n l0 l1 l2 l3 l4 (l5 + (1 : Int32)) w6)) else (f_X9_hush_62 fu n l0 l1 l2 l3 l4 (l5 + (1 : Int32)) w2)) := rfl
theorem w_X9_hush_62 {X : SCR} {d rc rs : Nat} {Q : PO → PH → Prop} {o : (Int32 ⊕ Nat)} {w1 : MEM} {fu : Nat} (hd : 8 ≤ d) (hq : ∀ h1, WH X h1 w1 → Q (oI o) h1) : ∀ (n : Nat) (l0 : Nat) (l1 : Int32) (l2 : Int32) (l3 : Int32) (l4 : Int32) (l5 : Int32) (w : MEM) (h : PH), WH X h w → vo 9 l0 = true → f_X9_hush_62 fu n l0 l1 l2 l3 l4 l5 w = some (o, w1) → PW d M_X9_hush Q rc rs 62 [vR (900, l0), vI l1, vI l2, vI l3, vI l4, vI l5] [] h := by
  intro n
  induction n with
  | zero => intro l0 l1 l2 l3 l4 l5 w h wh hv_l0 hF; cases hF
  | succ n ih =>
    intro l0 l1 l2 l3 l4 l5 w h wh hv_l0 hF
    replace hF := (E_X9_hush_62 fu n l0 l1 l2 l3 l4 l5 w).symm.trans hF
    refine r_X9_hush_62 ?_
    have hT1 := (wh.2.2.1 10908 _ rfl hv_l0).2
    refine gO_of (wh.2.2.1 10908 _ rfl hv_l0).1 ?_
    refine ⟨⟨_, wh.2.1 10100 _ rfl hT1⟩, ?_⟩
    obtain ⟨x3, w2, hG, hF⟩ := bnd_of hF
    refine cl_I (D := 0) (Nat.le_trans (by decide) hd) (c_X1_all wh hT1 hG) ?_
    clear hG
    clear wh
    intro h wh
    refine ⟨fun c => ?_, fun c => ?_⟩
    · replace hF := if_ofT c hF
      obtain ⟨rfl, rfl⟩ := some_of hF
      exact hq _ wh
    · replace hF := if_ofF c hF
      refine ⟨fun c => ?_, fun c => ?_⟩
      · replace hF := if_ofT c hF
        obtain ⟨x5, w4, hG, hF⟩ := bnd_of hF
        refine cl_I (D := 0) (Nat.le_trans (by decide) hd) (c_J6_bitCount_0f7a4 wh  hG) ?_
        clear hG
        clear wh
        intro h wh
        obtain ⟨x7, w6, hG, hF⟩ := bnd_of hF
        refine cl_I (D := 0) (Nat.le_trans (by decide) hd) (c_J6_bitCount_0f7a4 wh  hG) ?_
        clear hG
        clear wh
        intro h wh
        refine ⟨fun c => ?_, fun c => ?_⟩
        · replace hF := if_ofT c hF
          have hT8 := (wh.2.2.1 10908 _ rfl hv_l0).2
          refine gO_of (wh.2.2.1 10908 _ rfl hv_l0).1 ?_
          refine ⟨⟨_, wh.2.1 10100 _ rfl hT8⟩, ?_⟩
          obtain ⟨x10, w9, hG, hF⟩ := bnd_of hF
          refine cl_I (D := 1) (Nat.le_trans (by decide) hd) (c_X1_reached wh hT8 hG) ?_
          clear hG
          clear wh
          intro h wh
          refine ⟨fun c => ?_, fun c => ?_⟩
          · replace hF := if_ofT c hF
            exact ih _ _ _ _ _ _ _ _ wh hv_l0 hF
          · replace hF := if_ofF c hF
            exact ih _ _ _ _ _ _ _ _ wh hv_l0 hF
        · replace hF := if_ofF c hF
          exact ih _ _ _ _ _ _ _ _ wh hv_l0 hF
      · replace hF := if_ofF c hF
        exact ih _ _ _ _ _ _ _ _ wh hv_l0 hF
def f_X9_hush (fu : Nat) (l0 : Nat) (l1 : Int32) (l2 : Int32) (w : MEM) : Option ((Int32 ⊕ Nat) × MEM) := bndT (f_X9_needHeir fu l0 l1 w) fun (u2 : Unit) (w1 : MEM) => bndT (f_X9_needHeir fu l0 l2 w1) fun (u4 : Unit) (w3 : MEM) => if l1 = l2 then (bndT (f_X9_need fu l0 (0 : Int32) w3) fun (u6 : Unit) (w5 : MEM) => bnd (f_X1_areTwo fu (rT w5 (10908, l0)) l1 l2 w5) fun (x9 : Int32) (w8 : MEM) => if x9 = 0 then (lt ((((1 : Int32) <<< (l1 &&& 31)) ||| ((1 : Int32) <<< (l2 &&& 31)))) fun (v10 : Int32) => bnd (f_X1_all fu (rT w8 (10908, l0)) w8) fun (x13 : Int32) (w12 : MEM) => lt ((x13 &&& (v10 ^^^ (-1 : Int32)))) fun (v14 : Int32) => f_X9_hush_62 fu fu l0 l1 l2 v10 v14 (0 : Int32) w12) else (some (.inl (-1 : Int32), w8))) else (bndT (f_X9_need fu l0 (1 : Int32) w3) fun (u16 : Unit) (w15 : MEM) => bnd (f_X1_areTwo fu (rT w15 (10908, l0)) l1 l2 w15) fun (x19 : Int32) (w18 : MEM) => if x19 = 0 then (lt ((((1 : Int32) <<< (l1 &&& 31)) ||| ((1 : Int32) <<< (l2 &&& 31)))) fun (v20 : Int32) => bnd (f_X1_all fu (rT w18 (10908, l0)) w18) fun (x23 : Int32) (w22 : MEM) => lt ((x23 &&& (v20 ^^^ (-1 : Int32)))) fun (v24 : Int32) => f_X9_hush_62 fu fu l0 l1 l2 v20 v24 (0 : Int32) w22) else (some (.inl (-1 : Int32), w18)))
theorem E_X9_hush (fu : Nat) (l0 : Nat) (l1 : Int32) (l2 : Int32) (w : MEM) : f_X9_hush fu l0 l1 l2 w = bndT (f_X9_needHeir fu l0 l1 w) fun (u2 : Unit) (w1 : MEM) => bndT (f_X9_needHeir fu l0 l2 w1) fun (u4 : Unit) (w3 : MEM) => if l1 = l2 then (bndT (f_X9_need fu l0 (0 : Int32) w3) fun (u6 : Unit) (w5 : MEM) => bnd (f_X1_areTwo fu (rT w5 (10908, l0)) l1 l2 w5) fun (x9 : Int32) (w8 : MEM) => if x9 = 0 then (lt ((((1 : Int32) <<< (l1 &&& 31)) ||| ((1 : Int32) <<< (l2 &&& 31)))) fun (v10 : Int32) => bnd (f_X1_all fu (rT w8 (10908, l0)) w8) fun (x13 : Int32) (w12 : MEM) => lt ((x13 &&& (v10 ^^^ (-1 : Int32)))) fun (v14 : Int32) => f_X9_hush_62 fu fu l0 l1 l2 v10 v14 (0 : Int32) w12) else (some (.inl (-1 : Int32), w8))) else (bndT (f_X9_need fu l0 (1 : Int32) w3) fun (u16 : Unit) (w15 : MEM) => bnd (f_X1_areTwo fu (rT w15 (10908, l0)) l1 l2 w15) fun (x19 : Int32) (w18 : MEM) => if x19 = 0 then (lt ((((1 : Int32) <<< (l1 &&& 31)) ||| ((1 : Int32) <<< (l2 &&& 31)))) fun (v20 : Int32) => bnd (f_X1_all fu (rT w18 (10908, l0)) w18) fun (x23 : Int32) (w22 : MEM) => lt ((x23 &&& (v20 ^^^ (-1 : Int32)))) fun (v24 : Int32) => f_X9_hush_62 fu fu l0 l1 l2 v20 v24 (0 : Int32) w22) else (some (.inl (-1 : Int32), w18))) := rfl
theorem w_X9_hush {X : SCR} {d rc rs : Nat} {Q : PO → PH → Prop} {o : (Int32 ⊕ Nat)} {w1 : MEM} {fu : Nat} (hd : 8 ≤ d) (hq : ∀ h1, WH X h1 w1 → Q (oI o) h1) {l0 : Nat} {l1 : Int32} {l2 : Int32} {w : MEM} {h : PH} (wh : WH X h w) (hv_l0 : vo 9 l0 = true) (hF : f_X9_hush fu l0 l1 l2 w = some (o, w1)) : PW d M_X9_hush Q (1 + (1 + (1 + rc))) (6 + (6 + (6 + rs))) 0 [vR (900, l0), vI l1, vI l2, vU, vU, vU] [] h := by
  replace hF := (E_X9_hush fu l0 l1 l2 w).symm.trans hF
  refine r_X9_hush_0 ?_
  refine ⟨⟨_, wh.2.1 10900 _ rfl hv_l0⟩, ?_⟩
  rcases bndT_of hF with ⟨u2, w1, hG, hF⟩ | ⟨e9, hG, rfl⟩
  rotate_left
  · exact cl_TX (D := 7) (Nat.le_trans (by decide) hd) (c_X9_needHeir wh hv_l0 hG) (fun h1 wh => hq _ wh)
  refine cl_TV (D := 7) (Nat.le_trans (by decide) hd) (c_X9_needHeir wh hv_l0 hG) ?_
  clear hG
  clear wh
  intro h wh
  refine ⟨⟨_, wh.2.1 10900 _ rfl hv_l0⟩, ?_⟩
  rcases bndT_of hF with ⟨u4, w3, hG, hF⟩ | ⟨e9, hG, rfl⟩
  rotate_left
  · exact cl_TX (D := 7) (Nat.le_trans (by decide) hd) (c_X9_needHeir wh hv_l0 hG) (fun h1 wh => hq _ wh)
  refine cl_TV (D := 7) (Nat.le_trans (by decide) hd) (c_X9_needHeir wh hv_l0 hG) ?_
  clear hG
  clear wh
  intro h wh
  refine ⟨fun c => ?_, fun c => ?_⟩
  · replace hF := if_ofT c hF
    refine ⟨⟨_, wh.2.1 10900 _ rfl hv_l0⟩, ?_⟩
    rcases bndT_of hF with ⟨u6, w5, hG, hF⟩ | ⟨e9, hG, rfl⟩
    rotate_left
    · exact cl_TX (D := 6) (Nat.le_trans (by decide) hd) (c_X9_need wh hv_l0 hG) (fun h1 wh => hq _ wh)
    refine cl_TV (D := 6) (Nat.le_trans (by decide) hd) (c_X9_need wh hv_l0 hG) ?_
    clear hG
    clear wh
    intro h wh
    have hT7 := (wh.2.2.1 10908 _ rfl hv_l0).2
    refine gO_of (wh.2.2.1 10908 _ rfl hv_l0).1 ?_
    refine ⟨⟨_, wh.2.1 10100 _ rfl hT7⟩, ?_⟩
    obtain ⟨x9, w8, hG, hF⟩ := bnd_of hF
    refine cl_I (D := 0) (Nat.le_trans (by decide) hd) (c_X1_areTwo wh hT7 hG) ?_
    clear hG
    clear wh
    intro h wh
    refine ⟨fun c => ?_, fun c => ?_⟩
    · replace hF := if_ofT c hF
      replace hF := lt_of hF
      have hT11 := (wh.2.2.1 10908 _ rfl hv_l0).2
      refine gO_of (wh.2.2.1 10908 _ rfl hv_l0).1 ?_
      refine ⟨⟨_, wh.2.1 10100 _ rfl hT11⟩, ?_⟩
      obtain ⟨x13, w12, hG, hF⟩ := bnd_of hF
      refine cl_I (D := 0) (Nat.le_trans (by decide) hd) (c_X1_all wh hT11 hG) ?_
      clear hG
      clear wh
      intro h wh
      replace hF := lt_of hF
      exact w_X9_hush_62 hd hq  fu _ _ _ _ _ _ _ _ wh hv_l0 hF
    · replace hF := if_ofF c hF
      obtain ⟨rfl, rfl⟩ := some_of hF
      exact hq _ wh
  · replace hF := if_ofF c hF
    refine ⟨⟨_, wh.2.1 10900 _ rfl hv_l0⟩, ?_⟩
    rcases bndT_of hF with ⟨u16, w15, hG, hF⟩ | ⟨e9, hG, rfl⟩
    rotate_left
    · exact cl_TX (D := 6) (Nat.le_trans (by decide) hd) (c_X9_need wh hv_l0 hG) (fun h1 wh => hq _ wh)
    refine cl_TV (D := 6) (Nat.le_trans (by decide) hd) (c_X9_need wh hv_l0 hG) ?_
    clear hG
    clear wh
    intro h wh
    have hT17 := (wh.2.2.1 10908 _ rfl hv_l0).2
    refine gO_of (wh.2.2.1 10908 _ rfl hv_l0).1 ?_
    refine ⟨⟨_, wh.2.1 10100 _ rfl hT17⟩, ?_⟩
    obtain ⟨x19, w18, hG, hF⟩ := bnd_of hF
    refine cl_I (D := 0) (Nat.le_trans (by decide) hd) (c_X1_areTwo wh hT17 hG) ?_
    clear hG
    clear wh
    intro h wh
    refine ⟨fun c => ?_, fun c => ?_⟩
    · replace hF := if_ofT c hF
      replace hF := lt_of hF
      have hT21 := (wh.2.2.1 10908 _ rfl hv_l0).2
      refine gO_of (wh.2.2.1 10908 _ rfl hv_l0).1 ?_
      refine ⟨⟨_, wh.2.1 10100 _ rfl hT21⟩, ?_⟩
      obtain ⟨x23, w22, hG, hF⟩ := bnd_of hF
      refine cl_I (D := 0) (Nat.le_trans (by decide) hd) (c_X1_all wh hT21 hG) ?_
      clear hG
      clear wh
      intro h wh
      replace hF := lt_of hF
      exact w_X9_hush_62 hd hq  fu _ _ _ _ _ _ _ _ wh hv_l0 hF
    · replace hF := if_ofF c hF
      obtain ⟨rfl, rfl⟩ := some_of hF
      exact hq _ wh
theorem c_X9_hush {X : SCR} {fu : Nat} {o : (Int32 ⊕ Nat)} {w1 : MEM} {a0 : Nat} {a1 : Int32} {a2 : Int32} {w : MEM} {h : PH} (wh : WH X h w) (h0 : vo 9 a0 = true) (hF : f_X9_hush fu a0 a1 a2 w = some (o, w1)) : CT 8 M_X9_hush [vR (900, a0), vI a1, vI a2] h 3 18 (QP X (oI o) w1) :=
  CT_of mk_X9_hush (Nat.le_of_ble_eq_true rfl) rfl (w_X9_hush (fu := fu) (rc := 0) (rs := 0) (hd := Nat.le_refl 8) (hq := fun h1 g => ⟨rfl, g⟩) wh h0 hF)
-- X9_still
def f_X9_still_4 (fu : Nat) : Nat → Nat → Int32 → Int32 → MEM → Option (Int32 × MEM)
  | 0, _, _, _, _ => none
  | n + 1, l0, l1, l2, w => bnd (f_X1_all fu (rT w (10908, l0)) w) fun (x3 : Int32) (w2 : MEM) => if x3 < l2 then (some (l1, w2)) else (bnd (f_J6_bitCount_0f7a4 fu l2 w2) fun (x5 : Int32) (w4 : MEM) => bnd (f_J6_bitCount_0f7a4 fu l1 w4) fun (x7 : Int32) (w6 : MEM) => if x7 < x5 then (bnd (f_X1_isStill fu (rT w6 (10908, l0)) l2 w6) fun (x10 : Int32) (w9 : MEM) => if x10 = 0 then (f_X9_still_4 fu n l0 l1 (l2 + (1 : Int32)) w9) else (f_X9_still_4 fu n l0 l2 (l2 + (1 : Int32)) w9)) else (f_X9_still_4 fu n l0 l1 (l2 + (1 : Int32)) w6))
theorem E_X9_still_4 (fu : Nat) (n : Nat) (l0 : Nat) (l1 : Int32) (l2 : Int32) (w : MEM) : f_X9_still_4 fu (n + 1) l0 l1 l2 w = bnd (f_X1_all fu (rT w (10908, l0)) w) fun (x3 : Int32) (w2 : MEM) => if x3 < l2 then (some (l1, w2)) else (bnd (f_J6_bitCount_0f7a4 fu l2 w2) fun (x5 : Int32) (w4 : MEM) => bnd (f_J6_bitCount_0f7a4 fu l1 w4) fun (x7 : Int32) (w6 : MEM) => if x7 < x5 then (bnd (f_X1_isStill fu (rT w6 (10908, l0)) l2 w6) fun (x10 : Int32) (w9 : MEM) => if x10 = 0 then (f_X9_still_4 fu n l0 l1 (l2 + (1 : Int32)) w9) else (f_X9_still_4 fu n l0 l2 (l2 + (1 : Int32)) w9)) else (f_X9_still_4 fu n l0 l1 (l2 + (1 : Int32)) w6)) := rfl
theorem w_X9_still_4 {X : SCR} {d rc rs : Nat} {Q : PO → PH → Prop} {o : Int32} {w1 : MEM} {fu : Nat} (hd : 1 ≤ d) (hq : ∀ h1, WH X h1 w1 → Q (.inl (some (vI o))) h1) : ∀ (n : Nat) (l0 : Nat) (l1 : Int32) (l2 : Int32) (w : MEM) (h : PH), WH X h w → vo 9 l0 = true → f_X9_still_4 fu n l0 l1 l2 w = some (o, w1) → PW d M_X9_still Q rc rs 4 [vR (900, l0), vI l1, vI l2] [] h := by
  intro n
  induction n with
  | zero => intro l0 l1 l2 w h wh hv_l0 hF; cases hF
  | succ n ih =>
    intro l0 l1 l2 w h wh hv_l0 hF
    replace hF := (E_X9_still_4 fu n l0 l1 l2 w).symm.trans hF
    refine r_X9_still_4 ?_
    have hT1 := (wh.2.2.1 10908 _ rfl hv_l0).2
    refine gO_of (wh.2.2.1 10908 _ rfl hv_l0).1 ?_
    refine ⟨⟨_, wh.2.1 10100 _ rfl hT1⟩, ?_⟩
    obtain ⟨x3, w2, hG, hF⟩ := bnd_of hF
    refine cl_I (D := 0) (Nat.le_trans (by decide) hd) (c_X1_all wh hT1 hG) ?_
    clear hG
    clear wh
    intro h wh
    refine ⟨fun c => ?_, fun c => ?_⟩
    · replace hF := if_ofT c hF
      obtain ⟨rfl, rfl⟩ := some_of hF
      exact hq _ wh
    · replace hF := if_ofF c hF
      obtain ⟨x5, w4, hG, hF⟩ := bnd_of hF
      refine cl_I (D := 0) (Nat.le_trans (by decide) hd) (c_J6_bitCount_0f7a4 wh  hG) ?_
      clear hG
      clear wh
      intro h wh
      obtain ⟨x7, w6, hG, hF⟩ := bnd_of hF
      refine cl_I (D := 0) (Nat.le_trans (by decide) hd) (c_J6_bitCount_0f7a4 wh  hG) ?_
      clear hG
      clear wh
      intro h wh
      refine ⟨fun c => ?_, fun c => ?_⟩
      · replace hF := if_ofT c hF
        have hT8 := (wh.2.2.1 10908 _ rfl hv_l0).2
        refine gO_of (wh.2.2.1 10908 _ rfl hv_l0).1 ?_
        refine ⟨⟨_, wh.2.1 10100 _ rfl hT8⟩, ?_⟩
        obtain ⟨x10, w9, hG, hF⟩ := bnd_of hF
        refine cl_I (D := 0) (Nat.le_trans (by decide) hd) (c_X1_isStill wh hT8 hG) ?_
        clear hG
        clear wh
        intro h wh
        refine ⟨fun c => ?_, fun c => ?_⟩
        · replace hF := if_ofT c hF
          exact ih _ _ _ _ _ wh hv_l0 hF
        · replace hF := if_ofF c hF
          exact ih _ _ _ _ _ wh hv_l0 hF
      · replace hF := if_ofF c hF
        exact ih _ _ _ _ _ wh hv_l0 hF
def f_X9_still (fu : Nat) (l0 : Nat) (w : MEM) : Option (Int32 × MEM) := f_X9_still_4 fu fu l0 (0 : Int32) (0 : Int32) w
theorem E_X9_still (fu : Nat) (l0 : Nat) (w : MEM) : f_X9_still fu l0 w = f_X9_still_4 fu fu l0 (0 : Int32) (0 : Int32) w := rfl
theorem w_X9_still {X : SCR} {d rc rs : Nat} {Q : PO → PH → Prop} {o : Int32} {w1 : MEM} {fu : Nat} (hd : 1 ≤ d) (hq : ∀ h1, WH X h1 w1 → Q (.inl (some (vI o))) h1) {l0 : Nat} {w : MEM} {h : PH} (wh : WH X h w) (hv_l0 : vo 9 l0 = true) (hF : f_X9_still fu l0 w = some (o, w1)) : PW d M_X9_still Q rc rs 0 [vR (900, l0), vU, vU] [] h := by
  replace hF := (E_X9_still fu l0 w).symm.trans hF
  refine r_X9_still_0 ?_
  exact w_X9_still_4 hd hq  fu _ _ _ _ _ wh hv_l0 hF
theorem c_X9_still {X : SCR} {fu : Nat} {o : Int32} {w1 : MEM} {a0 : Nat} {w : MEM} {h : PH} (wh : WH X h w) (h0 : vo 9 a0 = true) (hF : f_X9_still fu a0 w = some (o, w1)) : CT 1 M_X9_still [vR (900, a0)] h 0 0 (QP X (.inl (some (vI o))) w1) :=
  CT_of mk_X9_still (Nat.le_of_ble_eq_true rfl) rfl (w_X9_still (fu := fu) (rc := 0) (rs := 0) (hd := Nat.le_refl 1) (hq := fun h1 g => ⟨rfl, g⟩) wh h0 hF)
-- X9_seats
def f_X9_seats (fu : Nat) (l0 : Nat) (w : MEM) : Option (Int32 × MEM) := bnd (f_X6_find fu 201 (rT w (10908, l0)) w) fun (u3 : Unit) (w2 : MEM) => bnd (f_X6_inAll fu 201 w2) fun (x5 : Int32) (w4 : MEM) => some (x5, w4)
theorem E_X9_seats (fu : Nat) (l0 : Nat) (w : MEM) : f_X9_seats fu l0 w = bnd (f_X6_find fu 201 (rT w (10908, l0)) w) fun (u3 : Unit) (w2 : MEM) => bnd (f_X6_inAll fu 201 w2) fun (x5 : Int32) (w4 : MEM) => some (x5, w4) := rfl
theorem w_X9_seats {X : SCR} {d rc rs : Nat} {Q : PO → PH → Prop} {o : Int32} {w1 : MEM} {fu : Nat} (hd : 4 ≤ d) (hq : ∀ h1, WH X h1 w1 → Q (.inl (some (vI o))) h1) {l0 : Nat} {w : MEM} {h : PH} (wh : WH X h w) (hv_l0 : vo 9 l0 = true) (hF : f_X9_seats fu l0 w = some (o, w1)) : PW d M_X9_seats Q rc rs 0 [vR (900, l0)] [] h := by
  replace hF := (E_X9_seats fu l0 w).symm.trans hF
  refine r_X9_seats_0 ?_
  refine gO_of (i := 201) (wh.2.1 10906 _ rfl hv_l0) ?_
  have hT1 := (wh.2.2.1 10908 _ rfl hv_l0).2
  refine gO_of (wh.2.2.1 10908 _ rfl hv_l0).1 ?_
  refine ⟨⟨_, wh.2.1 10600 _ rfl (rfl : vo 6 201 = true)⟩, ?_⟩
  obtain ⟨u3, w2, hG, hF⟩ := bnd_of hF
  refine cl_V (D := 3) (Nat.le_trans (by decide) hd) (c_X6_find wh (rfl : vo 6 201 = true) hT1 hG) ?_
  clear hG
  clear wh
  intro h wh
  refine gO_of (i := 201) (wh.2.1 10906 _ rfl hv_l0) ?_
  refine ⟨⟨_, wh.2.1 10600 _ rfl (rfl : vo 6 201 = true)⟩, ?_⟩
  obtain ⟨x5, w4, hG, hF⟩ := bnd_of hF
  refine cl_I (D := 0) (Nat.le_trans (by decide) hd) (c_X6_inAll wh (rfl : vo 6 201 = true) hG) ?_
  clear hG
  clear wh
  intro h wh
  obtain ⟨rfl, rfl⟩ := some_of hF
  exact hq _ wh
theorem c_X9_seats {X : SCR} {fu : Nat} {o : Int32} {w1 : MEM} {a0 : Nat} {w : MEM} {h : PH} (wh : WH X h w) (h0 : vo 9 a0 = true) (hF : f_X9_seats fu a0 w = some (o, w1)) : CT 4 M_X9_seats [vR (900, a0)] h 0 0 (QP X (.inl (some (vI o))) w1) :=
  CT_of mk_X9_seats (Nat.le_of_ble_eq_true rfl) rfl (w_X9_seats (fu := fu) (rc := 0) (rs := 0) (hd := Nat.le_refl 4) (hq := fun h1 g => ⟨rfl, g⟩) wh h0 hF)
-- X9_seat
def f_X9_seat (fu : Nat) (l0 : Nat) (l1 : Int32) (w : MEM) : Option ((Int32 ⊕ Nat) × MEM) := if l1 < 0 then (bndT (f_X9_need fu l0 (0 : Int32) w) fun (u2 : Unit) (w1 : MEM) => bnd (f_X6_find fu 201 (rT w1 (10908, l0)) w1) fun (u5 : Unit) (w4 : MEM) => bnd (f_X6_firstOn fu 201 l1 (rT w4 (10908, l0)) w4) fun (x8 : Int32) (w7 : MEM) => some (.inl x8, w7)) else (bndT (f_X9_need fu l0 (1 : Int32) w) fun (u10 : Unit) (w9 : MEM) => bnd (f_X6_find fu 201 (rT w9 (10908, l0)) w9) fun (u13 : Unit) (w12 : MEM) => bnd (f_X6_firstOn fu 201 l1 (rT w12 (10908, l0)) w12) fun (x16 : Int32) (w15 : MEM) => some (.inl x16, w15))
theorem E_X9_seat (fu : Nat) (l0 : Nat) (l1 : Int32) (w : MEM) : f_X9_seat fu l0 l1 w = if l1 < 0 then (bndT (f_X9_need fu l0 (0 : Int32) w) fun (u2 : Unit) (w1 : MEM) => bnd (f_X6_find fu 201 (rT w1 (10908, l0)) w1) fun (u5 : Unit) (w4 : MEM) => bnd (f_X6_firstOn fu 201 l1 (rT w4 (10908, l0)) w4) fun (x8 : Int32) (w7 : MEM) => some (.inl x8, w7)) else (bndT (f_X9_need fu l0 (1 : Int32) w) fun (u10 : Unit) (w9 : MEM) => bnd (f_X6_find fu 201 (rT w9 (10908, l0)) w9) fun (u13 : Unit) (w12 : MEM) => bnd (f_X6_firstOn fu 201 l1 (rT w12 (10908, l0)) w12) fun (x16 : Int32) (w15 : MEM) => some (.inl x16, w15)) := rfl
theorem w_X9_seat {X : SCR} {d rc rs : Nat} {Q : PO → PH → Prop} {o : (Int32 ⊕ Nat)} {w1 : MEM} {fu : Nat} (hd : 7 ≤ d) (hq : ∀ h1, WH X h1 w1 → Q (oI o) h1) {l0 : Nat} {l1 : Int32} {w : MEM} {h : PH} (wh : WH X h w) (hv_l0 : vo 9 l0 = true) (hF : f_X9_seat fu l0 l1 w = some (o, w1)) : PW d M_X9_seat Q (1 + rc) (6 + rs) 0 [vR (900, l0), vI l1] [] h := by
  replace hF := (E_X9_seat fu l0 l1 w).symm.trans hF
  refine r_X9_seat_0 ?_
  refine ⟨fun c => ?_, fun c => ?_⟩
  · replace hF := if_ofT c hF
    refine ⟨⟨_, wh.2.1 10900 _ rfl hv_l0⟩, ?_⟩
    rcases bndT_of hF with ⟨u2, w1, hG, hF⟩ | ⟨e9, hG, rfl⟩
    rotate_left
    · exact cl_TX (D := 6) (Nat.le_trans (by decide) hd) (c_X9_need wh hv_l0 hG) (fun h1 wh => hq _ wh)
    refine cl_TV (D := 6) (Nat.le_trans (by decide) hd) (c_X9_need wh hv_l0 hG) ?_
    clear hG
    clear wh
    intro h wh
    refine gO_of (i := 201) (wh.2.1 10906 _ rfl hv_l0) ?_
    have hT3 := (wh.2.2.1 10908 _ rfl hv_l0).2
    refine gO_of (wh.2.2.1 10908 _ rfl hv_l0).1 ?_
    refine ⟨⟨_, wh.2.1 10600 _ rfl (rfl : vo 6 201 = true)⟩, ?_⟩
    obtain ⟨u5, w4, hG, hF⟩ := bnd_of hF
    refine cl_V (D := 3) (Nat.le_trans (by decide) hd) (c_X6_find wh (rfl : vo 6 201 = true) hT3 hG) ?_
    clear hG
    clear wh
    intro h wh
    refine gO_of (i := 201) (wh.2.1 10906 _ rfl hv_l0) ?_
    have hT6 := (wh.2.2.1 10908 _ rfl hv_l0).2
    refine gO_of (wh.2.2.1 10908 _ rfl hv_l0).1 ?_
    refine ⟨⟨_, wh.2.1 10600 _ rfl (rfl : vo 6 201 = true)⟩, ?_⟩
    obtain ⟨x8, w7, hG, hF⟩ := bnd_of hF
    refine cl_I (D := 3) (Nat.le_trans (by decide) hd) (c_X6_firstOn wh (rfl : vo 6 201 = true) hT6 hG) ?_
    clear hG
    clear wh
    intro h wh
    obtain ⟨rfl, rfl⟩ := some_of hF
    exact hq _ wh
  · replace hF := if_ofF c hF
    refine ⟨⟨_, wh.2.1 10900 _ rfl hv_l0⟩, ?_⟩
    rcases bndT_of hF with ⟨u10, w9, hG, hF⟩ | ⟨e9, hG, rfl⟩
    rotate_left
    · exact cl_TX (D := 6) (Nat.le_trans (by decide) hd) (c_X9_need wh hv_l0 hG) (fun h1 wh => hq _ wh)
    refine cl_TV (D := 6) (Nat.le_trans (by decide) hd) (c_X9_need wh hv_l0 hG) ?_
    clear hG
    clear wh
    intro h wh
    refine gO_of (i := 201) (wh.2.1 10906 _ rfl hv_l0) ?_
    have hT11 := (wh.2.2.1 10908 _ rfl hv_l0).2
    refine gO_of (wh.2.2.1 10908 _ rfl hv_l0).1 ?_
    refine ⟨⟨_, wh.2.1 10600 _ rfl (rfl : vo 6 201 = true)⟩, ?_⟩
    obtain ⟨u13, w12, hG, hF⟩ := bnd_of hF
    refine cl_V (D := 3) (Nat.le_trans (by decide) hd) (c_X6_find wh (rfl : vo 6 201 = true) hT11 hG) ?_
    clear hG
    clear wh
    intro h wh
    refine gO_of (i := 201) (wh.2.1 10906 _ rfl hv_l0) ?_
    have hT14 := (wh.2.2.1 10908 _ rfl hv_l0).2
    refine gO_of (wh.2.2.1 10908 _ rfl hv_l0).1 ?_
    refine ⟨⟨_, wh.2.1 10600 _ rfl (rfl : vo 6 201 = true)⟩, ?_⟩
    obtain ⟨x16, w15, hG, hF⟩ := bnd_of hF
    refine cl_I (D := 3) (Nat.le_trans (by decide) hd) (c_X6_firstOn wh (rfl : vo 6 201 = true) hT14 hG) ?_
    clear hG
    clear wh
    intro h wh
    obtain ⟨rfl, rfl⟩ := some_of hF
    exact hq _ wh
theorem c_X9_seat {X : SCR} {fu : Nat} {o : (Int32 ⊕ Nat)} {w1 : MEM} {a0 : Nat} {a1 : Int32} {w : MEM} {h : PH} (wh : WH X h w) (h0 : vo 9 a0 = true) (hF : f_X9_seat fu a0 a1 w = some (o, w1)) : CT 7 M_X9_seat [vR (900, a0), vI a1] h 1 6 (QP X (oI o) w1) :=
  CT_of mk_X9_seat (Nat.le_of_ble_eq_true rfl) rfl (w_X9_seat (fu := fu) (rc := 0) (rs := 0) (hd := Nat.le_refl 7) (hq := fun h1 g => ⟨rfl, g⟩) wh h0 hF)
-- X9_ear
def f_X9_ear (fu : Nat) (l0 : Nat) (l1 : Int32) (w : MEM) : Option ((Int32 ⊕ Nat) × MEM) := bndT (f_X9_needHeir fu l0 l1 w) fun (u2 : Unit) (w1 : MEM) => bnd (f_X1_reached fu (rT w1 (10908, l0)) l1 (0 : Int32) w1) fun (x5 : Int32) (w4 : MEM) => some (.inl x5, w4)
theorem E_X9_ear (fu : Nat) (l0 : Nat) (l1 : Int32) (w : MEM) : f_X9_ear fu l0 l1 w = bndT (f_X9_needHeir fu l0 l1 w) fun (u2 : Unit) (w1 : MEM) => bnd (f_X1_reached fu (rT w1 (10908, l0)) l1 (0 : Int32) w1) fun (x5 : Int32) (w4 : MEM) => some (.inl x5, w4) := rfl
theorem w_X9_ear {X : SCR} {d rc rs : Nat} {Q : PO → PH → Prop} {o : (Int32 ⊕ Nat)} {w1 : MEM} {fu : Nat} (hd : 8 ≤ d) (hq : ∀ h1, WH X h1 w1 → Q (oI o) h1) {l0 : Nat} {l1 : Int32} {w : MEM} {h : PH} (wh : WH X h w) (hv_l0 : vo 9 l0 = true) (hF : f_X9_ear fu l0 l1 w = some (o, w1)) : PW d M_X9_ear Q (1 + rc) (6 + rs) 0 [vR (900, l0), vI l1] [] h := by
  replace hF := (E_X9_ear fu l0 l1 w).symm.trans hF
  refine r_X9_ear_0 ?_
  refine ⟨⟨_, wh.2.1 10900 _ rfl hv_l0⟩, ?_⟩
  rcases bndT_of hF with ⟨u2, w1, hG, hF⟩ | ⟨e9, hG, rfl⟩
  rotate_left
  · exact cl_TX (D := 7) (Nat.le_trans (by decide) hd) (c_X9_needHeir wh hv_l0 hG) (fun h1 wh => hq _ wh)
  refine cl_TV (D := 7) (Nat.le_trans (by decide) hd) (c_X9_needHeir wh hv_l0 hG) ?_
  clear hG
  clear wh
  intro h wh
  have hT3 := (wh.2.2.1 10908 _ rfl hv_l0).2
  refine gO_of (wh.2.2.1 10908 _ rfl hv_l0).1 ?_
  refine ⟨⟨_, wh.2.1 10100 _ rfl hT3⟩, ?_⟩
  obtain ⟨x5, w4, hG, hF⟩ := bnd_of hF
  refine cl_I (D := 1) (Nat.le_trans (by decide) hd) (c_X1_reached wh hT3 hG) ?_
  clear hG
  clear wh
  intro h wh
  obtain ⟨rfl, rfl⟩ := some_of hF
  exact hq _ wh
theorem c_X9_ear {X : SCR} {fu : Nat} {o : (Int32 ⊕ Nat)} {w1 : MEM} {a0 : Nat} {a1 : Int32} {w : MEM} {h : PH} (wh : WH X h w) (h0 : vo 9 a0 = true) (hF : f_X9_ear fu a0 a1 w = some (o, w1)) : CT 8 M_X9_ear [vR (900, a0), vI a1] h 1 6 (QP X (oI o) w1) :=
  CT_of mk_X9_ear (Nat.le_of_ble_eq_true rfl) rfl (w_X9_ear (fu := fu) (rc := 0) (rs := 0) (hd := Nat.le_refl 8) (hq := fun h1 g => ⟨rfl, g⟩) wh h0 hF)
-- X9_gossip
def f_X9_gossip_23 (fu : Nat) : Nat → Nat → Int32 → Int32 → Int32 → MEM → Option ((Int32 ⊕ Nat) × MEM)
  | 0, _, _, _, _, _ => none
  | n + 1, l0, l1, l2, l3, w => if l3 < (rS w (10107, (rT w (10908, l0)))) then (bnd (f_X1_friendsOf fu (rT w (10908, l0)) l3 w) fun (x7 : Int32) (w6 : MEM) => bnd (f_X1_friendsOf fu (rT w6 (10908, l0)) l2 w6) fun (x10 : Int32) (w9 : MEM) => if x10 < x7 then (f_X9_gossip_23 fu n l0 l1 l3 (l3 + (1 : Int32)) w9) else (f_X9_gossip_23 fu n l0 l1 l2 (l3 + (1 : Int32)) w9)) else (if l1 = 0 then (some (.inl l2, w)) else (bnd (f_X1_friendsOf fu (rT w (10908, l0)) l2 w) fun (x4 : Int32) (w3 : MEM) => some (.inl x4, w3)))
theorem E_X9_gossip_23 (fu : Nat) (n : Nat) (l0 : Nat) (l1 : Int32) (l2 : Int32) (l3 : Int32) (w : MEM) : f_X9_gossip_23 fu (n + 1) l0 l1 l2 l3 w = if l3 < (rS w (10107, (rT w (10908, l0)))) then (bnd (f_X1_friendsOf fu (rT w (10908, l0)) l3 w) fun (x7 : Int32) (w6 : MEM) => bnd (f_X1_friendsOf fu (rT w6 (10908, l0)) l2 w6) fun (x10 : Int32) (w9 : MEM) => if x10 < x7 then (f_X9_gossip_23 fu n l0 l1 l3 (l3 + (1 : Int32)) w9) else (f_X9_gossip_23 fu n l0 l1 l2 (l3 + (1 : Int32)) w9)) else (if l1 = 0 then (some (.inl l2, w)) else (bnd (f_X1_friendsOf fu (rT w (10908, l0)) l2 w) fun (x4 : Int32) (w3 : MEM) => some (.inl x4, w3))) := rfl
theorem w_X9_gossip_23 {X : SCR} {d rc rs : Nat} {Q : PO → PH → Prop} {o : (Int32 ⊕ Nat)} {w1 : MEM} {fu : Nat} (hd : 8 ≤ d) (hq : ∀ h1, WH X h1 w1 → Q (oI o) h1) : ∀ (n : Nat) (l0 : Nat) (l1 : Int32) (l2 : Int32) (l3 : Int32) (w : MEM) (h : PH), WH X h w → vo 9 l0 = true → f_X9_gossip_23 fu n l0 l1 l2 l3 w = some (o, w1) → PW d M_X9_gossip Q rc rs 23 [vR (900, l0), vI l1, vI l2, vI l3] [] h := by
  intro n
  induction n with
  | zero => intro l0 l1 l2 l3 w h wh hv_l0 hF; cases hF
  | succ n ih =>
    intro l0 l1 l2 l3 w h wh hv_l0 hF
    replace hF := (E_X9_gossip_23 fu n l0 l1 l2 l3 w).symm.trans hF
    refine r_X9_gossip_23 ?_
    have hT1 := (wh.2.2.1 10908 _ rfl hv_l0).2
    refine gO_of (wh.2.2.1 10908 _ rfl hv_l0).1 ?_
    refine gI_of (wh.1 10107 _ rfl hT1) ?_
    refine ⟨fun c => ?_, fun c => ?_⟩
    · replace hF := if_ofT c hF
      have hT5 := (wh.2.2.1 10908 _ rfl hv_l0).2
      refine gO_of (wh.2.2.1 10908 _ rfl hv_l0).1 ?_
      refine ⟨⟨_, wh.2.1 10100 _ rfl hT5⟩, ?_⟩
      obtain ⟨x7, w6, hG, hF⟩ := bnd_of hF
      refine cl_I (D := 1) (Nat.le_trans (by decide) hd) (c_X1_friendsOf wh hT5 hG) ?_
      clear hG
      clear wh
      intro h wh
      have hT8 := (wh.2.2.1 10908 _ rfl hv_l0).2
      refine gO_of (wh.2.2.1 10908 _ rfl hv_l0).1 ?_
      refine ⟨⟨_, wh.2.1 10100 _ rfl hT8⟩, ?_⟩
      obtain ⟨x10, w9, hG, hF⟩ := bnd_of hF
      refine cl_I (D := 1) (Nat.le_trans (by decide) hd) (c_X1_friendsOf wh hT8 hG) ?_
      clear hG
      clear wh
      intro h wh
      refine ⟨fun c => ?_, fun c => ?_⟩
      · replace hF := if_ofT c hF
        exact ih _ _ _ _ _ _ wh hv_l0 hF
      · replace hF := if_ofF c hF
        exact ih _ _ _ _ _ _ wh hv_l0 hF
    · replace hF := if_ofF c hF
      refine ⟨fun c => ?_, fun c => ?_⟩
      · replace hF := if_ofT c hF
        obtain ⟨rfl, rfl⟩ := some_of hF
        exact hq _ wh
      · replace hF := if_ofF c hF
        have hT2 := (wh.2.2.1 10908 _ rfl hv_l0).2
        refine gO_of (wh.2.2.1 10908 _ rfl hv_l0).1 ?_
        refine ⟨⟨_, wh.2.1 10100 _ rfl hT2⟩, ?_⟩
        obtain ⟨x4, w3, hG, hF⟩ := bnd_of hF
        refine cl_I (D := 1) (Nat.le_trans (by decide) hd) (c_X1_friendsOf wh hT2 hG) ?_
        clear hG
        clear wh
        intro h wh
        obtain ⟨rfl, rfl⟩ := some_of hF
        exact hq _ wh
def f_X9_gossip (fu : Nat) (l0 : Nat) (l1 : Int32) (w : MEM) : Option ((Int32 ⊕ Nat) × MEM) := bndT (f_X9_needWithin fu l0 l1 (0 : Int32) (1 : Int32) w) fun (u2 : Unit) (w1 : MEM) => if (rS w1 (10108, (rT w1 (10908, l0)))) = 0 then (some (.inl (-1 : Int32), w1)) else (f_X9_gossip_23 fu fu l0 l1 (0 : Int32) (1 : Int32) w1)
theorem E_X9_gossip (fu : Nat) (l0 : Nat) (l1 : Int32) (w : MEM) : f_X9_gossip fu l0 l1 w = bndT (f_X9_needWithin fu l0 l1 (0 : Int32) (1 : Int32) w) fun (u2 : Unit) (w1 : MEM) => if (rS w1 (10108, (rT w1 (10908, l0)))) = 0 then (some (.inl (-1 : Int32), w1)) else (f_X9_gossip_23 fu fu l0 l1 (0 : Int32) (1 : Int32) w1) := rfl
theorem w_X9_gossip {X : SCR} {d rc rs : Nat} {Q : PO → PH → Prop} {o : (Int32 ⊕ Nat)} {w1 : MEM} {fu : Nat} (hd : 8 ≤ d) (hq : ∀ h1, WH X h1 w1 → Q (oI o) h1) {l0 : Nat} {l1 : Int32} {w : MEM} {h : PH} (wh : WH X h w) (hv_l0 : vo 9 l0 = true) (hF : f_X9_gossip fu l0 l1 w = some (o, w1)) : PW d M_X9_gossip Q (1 + rc) (6 + rs) 0 [vR (900, l0), vI l1, vU, vU] [] h := by
  replace hF := (E_X9_gossip fu l0 l1 w).symm.trans hF
  refine r_X9_gossip_0 ?_
  refine ⟨⟨_, wh.2.1 10900 _ rfl hv_l0⟩, ?_⟩
  rcases bndT_of hF with ⟨u2, w1, hG, hF⟩ | ⟨e9, hG, rfl⟩
  rotate_left
  · exact cl_TX (D := 7) (Nat.le_trans (by decide) hd) (c_X9_needWithin wh hv_l0 hG) (fun h1 wh => hq _ wh)
  refine cl_TV (D := 7) (Nat.le_trans (by decide) hd) (c_X9_needWithin wh hv_l0 hG) ?_
  clear hG
  clear wh
  intro h wh
  have hT3 := (wh.2.2.1 10908 _ rfl hv_l0).2
  refine gO_of (wh.2.2.1 10908 _ rfl hv_l0).1 ?_
  refine gI_of (wh.1 10108 _ rfl hT3) ?_
  refine ⟨fun c => ?_, fun c => ?_⟩
  · replace hF := if_ofT c hF
    obtain ⟨rfl, rfl⟩ := some_of hF
    exact hq _ wh
  · replace hF := if_ofF c hF
    exact w_X9_gossip_23 hd hq  fu _ _ _ _ _ _ wh hv_l0 hF
theorem c_X9_gossip {X : SCR} {fu : Nat} {o : (Int32 ⊕ Nat)} {w1 : MEM} {a0 : Nat} {a1 : Int32} {w : MEM} {h : PH} (wh : WH X h w) (h0 : vo 9 a0 = true) (hF : f_X9_gossip fu a0 a1 w = some (o, w1)) : CT 8 M_X9_gossip [vR (900, a0), vI a1] h 1 6 (QP X (oI o) w1) :=
  CT_of mk_X9_gossip (Nat.le_of_ble_eq_true rfl) rfl (w_X9_gossip (fu := fu) (rc := 0) (rs := 0) (hd := Nat.le_refl 8) (hq := fun h1 g => ⟨rfl, g⟩) wh h0 hF)
-- X9_findPairs
def f_X9_findPairs_46 (fu : Nat) (k9 : Nat → Int32 → Int32 → MEM → Option (Unit × MEM)) (k17 : Nat → Int32 → Int32 → Int32 → MEM → Option (Unit × MEM)) : Nat → Nat → Int32 → Int32 → Int32 → Int32 → MEM → Option (Unit × MEM)
  | 0, _, _, _, _, _, _ => none
  | n + 1, l0, l1, l2, l3, l4, w => if (12 : Int32) < l4 then (bnd (f_X5_keepIfRight fu 203 (rT w (10912, l0)) (((10 : Int32) * l2) + l3) w) fun (u3 : Unit) (w2 : MEM) => k17 l0 l1 l2 (l3 + (1 : Int32)) w2) else (bnd (f_X4_passHour fu 181 (rT w (10908, l0)) (rT w (10910, l0)) (0 : Int32) w) fun (x7 : Int32) (w6 : MEM) => ck (bI l1 7) (bnd (f_X5_note fu 203 l4 (rA w6 (403, 181) l1) w6) fun (u9 : Unit) (w8 : MEM) => f_X9_findPairs_46 fu k9 k17 n l0 l1 l2 l3 (l4 + (1 : Int32)) w8))
theorem E_X9_findPairs_46 (fu : Nat) (k9 : Nat → Int32 → Int32 → MEM → Option (Unit × MEM)) (k17 : Nat → Int32 → Int32 → Int32 → MEM → Option (Unit × MEM)) (n : Nat) (l0 : Nat) (l1 : Int32) (l2 : Int32) (l3 : Int32) (l4 : Int32) (w : MEM) : f_X9_findPairs_46 fu k9 k17 (n + 1) l0 l1 l2 l3 l4 w = if (12 : Int32) < l4 then (bnd (f_X5_keepIfRight fu 203 (rT w (10912, l0)) (((10 : Int32) * l2) + l3) w) fun (u3 : Unit) (w2 : MEM) => k17 l0 l1 l2 (l3 + (1 : Int32)) w2) else (bnd (f_X4_passHour fu 181 (rT w (10908, l0)) (rT w (10910, l0)) (0 : Int32) w) fun (x7 : Int32) (w6 : MEM) => ck (bI l1 7) (bnd (f_X5_note fu 203 l4 (rA w6 (403, 181) l1) w6) fun (u9 : Unit) (w8 : MEM) => f_X9_findPairs_46 fu k9 k17 n l0 l1 l2 l3 (l4 + (1 : Int32)) w8)) := rfl
theorem w_X9_findPairs_46 {X : SCR} {d rc rs : Nat} {Q : PO → PH → Prop} {o : Unit} {w1 : MEM} {fu : Nat} {k9 : Nat → Int32 → Int32 → MEM → Option (Unit × MEM)} {k17 : Nat → Int32 → Int32 → Int32 → MEM → Option (Unit × MEM)} (hd : 4 ≤ d) (hq : ∀ h1, WH X h1 w1 → Q (.inl none) h1) (hk9 : ∀ (l0 : Nat) (l1 : Int32) (l2 : Int32) (w : MEM) (h : PH), WH X h w → vo 9 l0 = true → k9 l0 l1 l2 w = some (o, w1) → PW d M_X9_findPairs Q rc rs 9 [vR (900, l0), vI l1, vI l2, vU, vU] [] h) (hk17 : ∀ (l0 : Nat) (l1 : Int32) (l2 : Int32) (l3 : Int32) (w : MEM) (h : PH), WH X h w → vo 9 l0 = true → k17 l0 l1 l2 l3 w = some (o, w1) → PW d M_X9_findPairs Q rc rs 17 [vR (900, l0), vI l1, vI l2, vI l3, vU] [] h) : ∀ (n : Nat) (l0 : Nat) (l1 : Int32) (l2 : Int32) (l3 : Int32) (l4 : Int32) (w : MEM) (h : PH), WH X h w → vo 9 l0 = true → f_X9_findPairs_46 fu k9 k17 n l0 l1 l2 l3 l4 w = some (o, w1) → PW d M_X9_findPairs Q rc rs 46 [vR (900, l0), vI l1, vI l2, vI l3, vI l4] [] h := by
  intro n
  induction n with
  | zero => intro l0 l1 l2 l3 l4 w h wh hv_l0 hF; cases hF
  | succ n ih =>
    intro l0 l1 l2 l3 l4 w h wh hv_l0 hF
    replace hF := (E_X9_findPairs_46 fu k9 k17 n l0 l1 l2 l3 l4 w).symm.trans hF
    refine r_X9_findPairs_46 ?_
    refine ⟨fun c => ?_, fun c => ?_⟩
    · replace hF := if_ofT c hF
      refine gO_of (i := 203) (wh.2.1 10907 _ rfl hv_l0) ?_
      have hT1 := (wh.2.2.1 10912 _ rfl hv_l0).2
      refine gO_of (wh.2.2.1 10912 _ rfl hv_l0).1 ?_
      refine ⟨⟨_, wh.2.1 10500 _ rfl (rfl : vo 5 203 = true)⟩, ?_⟩
      obtain ⟨u3, w2, hG, hF⟩ := bnd_of hF
      refine cl_V (D := 0) (Nat.le_trans (by decide) hd) (c_X5_keepIfRight wh (rfl : vo 5 203 = true) hT1 hG) ?_
      clear hG
      clear wh
      intro h wh
      exact hk17 _ _ _ _ _ _ wh hv_l0 hF
    · replace hF := if_ofF c hF
      refine gO_of (i := 181) (wh.2.1 10904 _ rfl hv_l0) ?_
      have hT4 := (wh.2.2.1 10908 _ rfl hv_l0).2
      refine gO_of (wh.2.2.1 10908 _ rfl hv_l0).1 ?_
      have hT5 := (wh.2.2.1 10910 _ rfl hv_l0).2
      refine gO_of (wh.2.2.1 10910 _ rfl hv_l0).1 ?_
      refine ⟨⟨_, wh.2.1 10400 _ rfl (rfl : vo 4 181 = true)⟩, ?_⟩
      obtain ⟨x7, w6, hG, hF⟩ := bnd_of hF
      refine cl_I (D := 3) (Nat.le_trans (by decide) hd) (c_X4_passHour wh (rfl : vo 4 181 = true) hT4 hT5 hG) ?_
      clear hG
      clear wh
      intro h wh
      refine gO_of (i := 203) (wh.2.1 10907 _ rfl hv_l0) ?_
      refine gO_of (i := 181) (wh.2.1 10904 _ rfl hv_l0) ?_
      refine gA_of (b := (403, 181)) (wh.2.1 10402 _ rfl (rfl : vo 4 181 = true)) ?_
      obtain ⟨c, hF⟩ := ck_of hF
      refine xI_of wh (oA_403 (rfl : vo 4 181 = true)) c ?_
      clear c
      refine ⟨⟨_, wh.2.1 10500 _ rfl (rfl : vo 5 203 = true)⟩, ?_⟩
      obtain ⟨u9, w8, hG, hF⟩ := bnd_of hF
      refine cl_V (D := 0) (Nat.le_trans (by decide) hd) (c_X5_note wh (rfl : vo 5 203 = true) hG) ?_
      clear hG
      clear wh
      intro h wh
      exact ih _ _ _ _ _ _ _ wh hv_l0 hF
def f_X9_findPairs_17 (fu : Nat) (k9 : Nat → Int32 → Int32 → MEM → Option (Unit × MEM)) : Nat → Nat → Int32 → Int32 → Int32 → MEM → Option (Unit × MEM)
  | 0, _, _, _, _, _ => none
  | n + 1, l0, l1, l2, l3, w => if (9 : Int32) < l3 then (k9 l0 l1 (l2 + (1 : Int32)) w) else (bnd (f_X4_beAlone fu 181 (rS w (10409, (8 + 1))) l1 l2 l3 w) fun (u2 : Unit) (w1 : MEM) => f_X9_findPairs_46 fu k9 (fun l0 l1 l2 l3 w => f_X9_findPairs_17 fu k9 n l0 l1 l2 l3 w) fu l0 l1 l2 l3 (1 : Int32) w1)
theorem E_X9_findPairs_17 (fu : Nat) (k9 : Nat → Int32 → Int32 → MEM → Option (Unit × MEM)) (n : Nat) (l0 : Nat) (l1 : Int32) (l2 : Int32) (l3 : Int32) (w : MEM) : f_X9_findPairs_17 fu k9 (n + 1) l0 l1 l2 l3 w = if (9 : Int32) < l3 then (k9 l0 l1 (l2 + (1 : Int32)) w) else (bnd (f_X4_beAlone fu 181 (rS w (10409, (8 + 1))) l1 l2 l3 w) fun (u2 : Unit) (w1 : MEM) => f_X9_findPairs_46 fu k9 (fun l0 l1 l2 l3 w => f_X9_findPairs_17 fu k9 n l0 l1 l2 l3 w) fu l0 l1 l2 l3 (1 : Int32) w1) := rfl
theorem w_X9_findPairs_17 {X : SCR} {d rc rs : Nat} {Q : PO → PH → Prop} {o : Unit} {w1 : MEM} {fu : Nat} {k9 : Nat → Int32 → Int32 → MEM → Option (Unit × MEM)} (hd : 4 ≤ d) (hq : ∀ h1, WH X h1 w1 → Q (.inl none) h1) (hk9 : ∀ (l0 : Nat) (l1 : Int32) (l2 : Int32) (w : MEM) (h : PH), WH X h w → vo 9 l0 = true → k9 l0 l1 l2 w = some (o, w1) → PW d M_X9_findPairs Q rc rs 9 [vR (900, l0), vI l1, vI l2, vU, vU] [] h) : ∀ (n : Nat) (l0 : Nat) (l1 : Int32) (l2 : Int32) (l3 : Int32) (w : MEM) (h : PH), WH X h w → vo 9 l0 = true → f_X9_findPairs_17 fu k9 n l0 l1 l2 l3 w = some (o, w1) → PW d M_X9_findPairs Q rc rs 17 [vR (900, l0), vI l1, vI l2, vI l3, vU] [] h := by
  intro n
  induction n with
  | zero => intro l0 l1 l2 l3 w h wh hv_l0 hF; cases hF
  | succ n ih =>
    intro l0 l1 l2 l3 w h wh hv_l0 hF
    replace hF := (E_X9_findPairs_17 fu k9 n l0 l1 l2 l3 w).symm.trans hF
    refine r_X9_findPairs_17 ?_
    refine ⟨fun c => ?_, fun c => ?_⟩
    · replace hF := if_ofT c hF
      exact hk9 _ _ _ _ _ wh hv_l0 hF
    · replace hF := if_ofF c hF
      refine gO_of (i := 181) (wh.2.1 10904 _ rfl hv_l0) ?_
      refine gO_of (i := 8) (wh.2.1 10902 _ rfl hv_l0) ?_
      refine gO_of (i := (8 + 1)) (wh.2.1 10200 _ rfl (rfl : vo 2 8 = true)) ?_
      refine gI_of (wh.1 10409 _ rfl (vH1 (rfl : vo 2 8 = true))) ?_
      refine ⟨⟨_, wh.2.1 10400 _ rfl (rfl : vo 4 181 = true)⟩, ?_⟩
      obtain ⟨u2, w1, hG, hF⟩ := bnd_of hF
      refine cl_V (D := 1) (Nat.le_trans (by decide) hd) (c_X4_beAlone wh (rfl : vo 4 181 = true) hG) ?_
      clear hG
      clear wh
      intro h wh
      exact w_X9_findPairs_46 hd hq hk9 (fun l0 l1 l2 l3 w h wh g0 hF => ih l0 l1 l2 l3 w h wh g0 hF) fu _ _ _ _ _ _ _ wh hv_l0 hF
def f_X9_findPairs_9 (fu : Nat) : Nat → Nat → Int32 → Int32 → MEM → Option (Unit × MEM)
  | 0, _, _, _, _ => none
  | n + 1, l0, l1, l2, w => if (9 : Int32) < l2 then (some ((), w)) else (f_X9_findPairs_17 fu (fun l0 l1 l2 w => f_X9_findPairs_9 fu n l0 l1 l2 w) fu l0 l1 l2 (0 : Int32) w)
theorem E_X9_findPairs_9 (fu : Nat) (n : Nat) (l0 : Nat) (l1 : Int32) (l2 : Int32) (w : MEM) : f_X9_findPairs_9 fu (n + 1) l0 l1 l2 w = if (9 : Int32) < l2 then (some ((), w)) else (f_X9_findPairs_17 fu (fun l0 l1 l2 w => f_X9_findPairs_9 fu n l0 l1 l2 w) fu l0 l1 l2 (0 : Int32) w) := rfl
theorem w_X9_findPairs_9 {X : SCR} {d rc rs : Nat} {Q : PO → PH → Prop} {o : Unit} {w1 : MEM} {fu : Nat} (hd : 4 ≤ d) (hq : ∀ h1, WH X h1 w1 → Q (.inl none) h1) : ∀ (n : Nat) (l0 : Nat) (l1 : Int32) (l2 : Int32) (w : MEM) (h : PH), WH X h w → vo 9 l0 = true → f_X9_findPairs_9 fu n l0 l1 l2 w = some (o, w1) → PW d M_X9_findPairs Q rc rs 9 [vR (900, l0), vI l1, vI l2, vU, vU] [] h := by
  intro n
  induction n with
  | zero => intro l0 l1 l2 w h wh hv_l0 hF; cases hF
  | succ n ih =>
    intro l0 l1 l2 w h wh hv_l0 hF
    replace hF := (E_X9_findPairs_9 fu n l0 l1 l2 w).symm.trans hF
    refine r_X9_findPairs_9 ?_
    refine ⟨fun c => ?_, fun c => ?_⟩
    · replace hF := if_ofT c hF
      obtain ⟨rfl, rfl⟩ := some_of hF
      exact hq _ wh
    · replace hF := if_ofF c hF
      exact w_X9_findPairs_17 hd hq (fun l0 l1 l2 w h wh g0 hF => ih l0 l1 l2 w h wh g0 hF) fu _ _ _ _ _ _ wh hv_l0 hF
def f_X9_findPairs (fu : Nat) (l0 : Nat) (l1 : Int32) (w : MEM) : Option (Unit × MEM) := bnd (f_X5_clear fu 203 w) fun (u2 : Unit) (w1 : MEM) => f_X9_findPairs_9 fu fu l0 l1 (1 : Int32) w1
theorem E_X9_findPairs (fu : Nat) (l0 : Nat) (l1 : Int32) (w : MEM) : f_X9_findPairs fu l0 l1 w = bnd (f_X5_clear fu 203 w) fun (u2 : Unit) (w1 : MEM) => f_X9_findPairs_9 fu fu l0 l1 (1 : Int32) w1 := rfl
theorem w_X9_findPairs {X : SCR} {d rc rs : Nat} {Q : PO → PH → Prop} {o : Unit} {w1 : MEM} {fu : Nat} (hd : 4 ≤ d) (hq : ∀ h1, WH X h1 w1 → Q (.inl none) h1) {l0 : Nat} {l1 : Int32} {w : MEM} {h : PH} (wh : WH X h w) (hv_l0 : vo 9 l0 = true) (hF : f_X9_findPairs fu l0 l1 w = some (o, w1)) : PW d M_X9_findPairs Q rc rs 0 [vR (900, l0), vI l1, vU, vU, vU] [] h := by
  replace hF := (E_X9_findPairs fu l0 l1 w).symm.trans hF
  refine r_X9_findPairs_0 ?_
  refine gO_of (i := 203) (wh.2.1 10907 _ rfl hv_l0) ?_
  refine ⟨⟨_, wh.2.1 10500 _ rfl (rfl : vo 5 203 = true)⟩, ?_⟩
  obtain ⟨u2, w1, hG, hF⟩ := bnd_of hF
  refine cl_V (D := 0) (Nat.le_trans (by decide) hd) (c_X5_clear wh (rfl : vo 5 203 = true) hG) ?_
  clear hG
  clear wh
  intro h wh
  exact w_X9_findPairs_9 hd hq  fu _ _ _ _ _ wh hv_l0 hF
theorem c_X9_findPairs {X : SCR} {fu : Nat} {o : Unit} {w1 : MEM} {a0 : Nat} {a1 : Int32} {w : MEM} {h : PH} (wh : WH X h w) (h0 : vo 9 a0 = true) (hF : f_X9_findPairs fu a0 a1 w = some (o, w1)) : CT 4 M_X9_findPairs [vR (900, a0), vI a1] h 0 0 (QP X (.inl none) w1) :=
  CT_of mk_X9_findPairs (Nat.le_of_ble_eq_true rfl) rfl (w_X9_findPairs (fu := fu) (rc := 0) (rs := 0) (hd := Nat.le_refl 4) (hq := fun h1 g => ⟨rfl, g⟩) wh h0 hF)
-- X9_fits
def f_X9_fits (fu : Nat) (l0 : Nat) (l1 : Int32) (l2 : Int32) (w : MEM) : Option ((Int32 ⊕ Nat) × MEM) := bndT (f_X9_needHeir fu l0 l1 w) fun (u2 : Unit) (w1 : MEM) => bndT (f_X9_needWithin fu l0 l2 (0 : Int32) (1 : Int32) w1) fun (u4 : Unit) (w3 : MEM) => bnd (f_X9_findPairs fu l0 l1 w3) fun (u6 : Unit) (w5 : MEM) => if l2 = 0 then (some (.inl (rS w5 (10502, 203)), w5)) else (some (.inl (rS w5 (10503, 203)), w5))
theorem E_X9_fits (fu : Nat) (l0 : Nat) (l1 : Int32) (l2 : Int32) (w : MEM) : f_X9_fits fu l0 l1 l2 w = bndT (f_X9_needHeir fu l0 l1 w) fun (u2 : Unit) (w1 : MEM) => bndT (f_X9_needWithin fu l0 l2 (0 : Int32) (1 : Int32) w1) fun (u4 : Unit) (w3 : MEM) => bnd (f_X9_findPairs fu l0 l1 w3) fun (u6 : Unit) (w5 : MEM) => if l2 = 0 then (some (.inl (rS w5 (10502, 203)), w5)) else (some (.inl (rS w5 (10503, 203)), w5)) := rfl
theorem w_X9_fits {X : SCR} {d rc rs : Nat} {Q : PO → PH → Prop} {o : (Int32 ⊕ Nat)} {w1 : MEM} {fu : Nat} (hd : 8 ≤ d) (hq : ∀ h1, WH X h1 w1 → Q (oI o) h1) {l0 : Nat} {l1 : Int32} {l2 : Int32} {w : MEM} {h : PH} (wh : WH X h w) (hv_l0 : vo 9 l0 = true) (hF : f_X9_fits fu l0 l1 l2 w = some (o, w1)) : PW d M_X9_fits Q (1 + (1 + rc)) (6 + (6 + rs)) 0 [vR (900, l0), vI l1, vI l2] [] h := by
  replace hF := (E_X9_fits fu l0 l1 l2 w).symm.trans hF
  refine r_X9_fits_0 ?_
  refine ⟨⟨_, wh.2.1 10900 _ rfl hv_l0⟩, ?_⟩
  rcases bndT_of hF with ⟨u2, w1, hG, hF⟩ | ⟨e9, hG, rfl⟩
  rotate_left
  · exact cl_TX (D := 7) (Nat.le_trans (by decide) hd) (c_X9_needHeir wh hv_l0 hG) (fun h1 wh => hq _ wh)
  refine cl_TV (D := 7) (Nat.le_trans (by decide) hd) (c_X9_needHeir wh hv_l0 hG) ?_
  clear hG
  clear wh
  intro h wh
  refine ⟨⟨_, wh.2.1 10900 _ rfl hv_l0⟩, ?_⟩
  rcases bndT_of hF with ⟨u4, w3, hG, hF⟩ | ⟨e9, hG, rfl⟩
  rotate_left
  · exact cl_TX (D := 7) (Nat.le_trans (by decide) hd) (c_X9_needWithin wh hv_l0 hG) (fun h1 wh => hq _ wh)
  refine cl_TV (D := 7) (Nat.le_trans (by decide) hd) (c_X9_needWithin wh hv_l0 hG) ?_
  clear hG
  clear wh
  intro h wh
  refine ⟨⟨_, wh.2.1 10900 _ rfl hv_l0⟩, ?_⟩
  obtain ⟨u6, w5, hG, hF⟩ := bnd_of hF
  refine cl_V (D := 4) (Nat.le_trans (by decide) hd) (c_X9_findPairs wh hv_l0 hG) ?_
  clear hG
  clear wh
  intro h wh
  refine ⟨fun c => ?_, fun c => ?_⟩
  · replace hF := if_ofT c hF
    refine gO_of (i := 203) (wh.2.1 10907 _ rfl hv_l0) ?_
    refine gI_of (wh.1 10502 _ rfl (rfl : vo 5 203 = true)) ?_
    obtain ⟨rfl, rfl⟩ := some_of hF
    exact hq _ wh
  · replace hF := if_ofF c hF
    refine gO_of (i := 203) (wh.2.1 10907 _ rfl hv_l0) ?_
    refine gI_of (wh.1 10503 _ rfl (rfl : vo 5 203 = true)) ?_
    obtain ⟨rfl, rfl⟩ := some_of hF
    exact hq _ wh
theorem c_X9_fits {X : SCR} {fu : Nat} {o : (Int32 ⊕ Nat)} {w1 : MEM} {a0 : Nat} {a1 : Int32} {a2 : Int32} {w : MEM} {h : PH} (wh : WH X h w) (h0 : vo 9 a0 = true) (hF : f_X9_fits fu a0 a1 a2 w = some (o, w1)) : CT 8 M_X9_fits [vR (900, a0), vI a1, vI a2] h 2 12 (QP X (oI o) w1) :=
  CT_of mk_X9_fits (Nat.le_of_ble_eq_true rfl) rfl (w_X9_fits (fu := fu) (rc := 0) (rs := 0) (hd := Nat.le_refl 8) (hq := fun h1 g => ⟨rfl, g⟩) wh h0 hF)
-- X9_look
def f_X9_look_25 (fu : Nat) : Nat → Nat → Int32 → Int32 → Int32 → Int32 → MEM → Option ((Int32 ⊕ Nat) × MEM)
  | 0, _, _, _, _, _, _ => none
  | n + 1, l0, l2, l3, l4, l5, w => if (12 : Int32) < l5 then (if l2 = 0 then (some (.inl l3, w)) else (some (.inl l4, w))) else (ck (bI l5 13) (if (rA w (1, (rT w (10912, l0))) l5) = (-1 : Int32) then (bnd (f_X5_mostAlike fu 203 l5 w) fun (x3 : Int32) (w2 : MEM) => if l3 = (-1 : Int32) then (f_X9_look_25 fu n l0 l2 l5 x3 (l5 + (1 : Int32)) w2) else (if x3 < l4 then (f_X9_look_25 fu n l0 l2 l5 x3 (l5 + (1 : Int32)) w2) else (f_X9_look_25 fu n l0 l2 l3 l4 (l5 + (1 : Int32)) w2))) else (f_X9_look_25 fu n l0 l2 l3 l4 (l5 + (1 : Int32)) w)))
theorem E_X9_look_25 (fu : Nat) (n : Nat) (l0 : Nat) (l2 : Int32) (l3 : Int32) (l4 : Int32) (l5 : Int32) (w : MEM) : f_X9_look_25 fu (n + 1) l0 l2 l3 l4 l5 w = if (12 : Int32) < l5 then (if l2 = 0 then (some (.inl l3, w)) else (some (.inl l4, w))) else (ck (bI l5 13) (if (rA w (1, (rT w (10912, l0))) l5) = (-1 : Int32) then (bnd (f_X5_mostAlike fu 203 l5 w) fun (x3 : Int32) (w2 : MEM) => if l3 = (-1 : Int32) then (f_X9_look_25 fu n l0 l2 l5 x3 (l5 + (1 : Int32)) w2) else (if x3 < l4 then (f_X9_look_25 fu n l0 l2 l5 x3 (l5 + (1 : Int32)) w2) else (f_X9_look_25 fu n l0 l2 l3 l4 (l5 + (1 : Int32)) w2))) else (f_X9_look_25 fu n l0 l2 l3 l4 (l5 + (1 : Int32)) w))) := rfl
theorem w_X9_look_25 {X : SCR} {d rc rs : Nat} {Q : PO → PH → Prop} {o : (Int32 ⊕ Nat)} {w1 : MEM} {fu : Nat} (hd : 8 ≤ d) (hq : ∀ h1, WH X h1 w1 → Q (oI o) h1) : ∀ (n : Nat) (l0 : Nat) (l2 : Int32) (l3 : Int32) (l4 : Int32) (l5 : Int32) (w : MEM) (h : PH), WH X h w → vo 9 l0 = true → f_X9_look_25 fu n l0 l2 l3 l4 l5 w = some (o, w1) → PW d M_X9_look Q rc rs 25 [vR (900, l0), vU, vI l2, vI l3, vI l4, vI l5, vU] [] h := by
  intro n
  induction n with
  | zero => intro l0 l2 l3 l4 l5 w h wh hv_l0 hF; cases hF
  | succ n ih =>
    intro l0 l2 l3 l4 l5 w h wh hv_l0 hF
    replace hF := (E_X9_look_25 fu n l0 l2 l3 l4 l5 w).symm.trans hF
    refine r_X9_look_25 ?_
    refine ⟨fun c => ?_, fun c => ?_⟩
    · replace hF := if_ofT c hF
      refine ⟨fun c => ?_, fun c => ?_⟩
      · replace hF := if_ofT c hF
        obtain ⟨rfl, rfl⟩ := some_of hF
        exact hq _ wh
      · replace hF := if_ofF c hF
        obtain ⟨rfl, rfl⟩ := some_of hF
        exact hq _ wh
    · replace hF := if_ofF c hF
      have hT1 := (wh.2.2.1 10912 _ rfl hv_l0).2
      refine gO_of (wh.2.2.1 10912 _ rfl hv_l0).1 ?_
      refine gA_of (b := (1, (rT w (10912, l0)))) (wh.2.1 10000 _ rfl hT1) ?_
      obtain ⟨c, hF⟩ := ck_of hF
      refine xI_of wh (oA_1 hT1) c ?_
      clear c
      refine ⟨fun c => ?_, fun c => ?_⟩
      · replace hF := if_ofT c hF
        refine gO_of (i := 203) (wh.2.1 10907 _ rfl hv_l0) ?_
        refine ⟨⟨_, wh.2.1 10500 _ rfl (rfl : vo 5 203 = true)⟩, ?_⟩
        obtain ⟨x3, w2, hG, hF⟩ := bnd_of hF
        refine cl_I (D := 1) (Nat.le_trans (by decide) hd) (c_X5_mostAlike wh (rfl : vo 5 203 = true) hG) ?_
        clear hG
        clear wh
        intro h wh
        refine ⟨fun c => ?_, fun c => ?_⟩
        · replace hF := if_ofT c hF
          exact ih _ _ _ _ _ _ _ wh hv_l0 hF
        · replace hF := if_ofF c hF
          refine ⟨fun c => ?_, fun c => ?_⟩
          · replace hF := if_ofT c hF
            exact ih _ _ _ _ _ _ _ wh hv_l0 hF
          · replace hF := if_ofF c hF
            exact ih _ _ _ _ _ _ _ wh hv_l0 hF
      · replace hF := if_ofF c hF
        exact ih _ _ _ _ _ _ _ wh hv_l0 hF
def f_X9_look (fu : Nat) (l0 : Nat) (l1 : Int32) (l2 : Int32) (w : MEM) : Option ((Int32 ⊕ Nat) × MEM) := bndT (f_X9_needHeir fu l0 l1 w) fun (u2 : Unit) (w1 : MEM) => bndT (f_X9_needWithin fu l0 l2 (0 : Int32) (1 : Int32) w1) fun (u4 : Unit) (w3 : MEM) => bnd (f_X9_findPairs fu l0 l1 w3) fun (u6 : Unit) (w5 : MEM) => f_X9_look_25 fu fu l0 l2 (-1 : Int32) (-1 : Int32) (1 : Int32) w5
theorem E_X9_look (fu : Nat) (l0 : Nat) (l1 : Int32) (l2 : Int32) (w : MEM) : f_X9_look fu l0 l1 l2 w = bndT (f_X9_needHeir fu l0 l1 w) fun (u2 : Unit) (w1 : MEM) => bndT (f_X9_needWithin fu l0 l2 (0 : Int32) (1 : Int32) w1) fun (u4 : Unit) (w3 : MEM) => bnd (f_X9_findPairs fu l0 l1 w3) fun (u6 : Unit) (w5 : MEM) => f_X9_look_25 fu fu l0 l2 (-1 : Int32) (-1 : Int32) (1 : Int32) w5 := rfl
theorem w_X9_look {X : SCR} {d rc rs : Nat} {Q : PO → PH → Prop} {o : (Int32 ⊕ Nat)} {w1 : MEM} {fu : Nat} (hd : 8 ≤ d) (hq : ∀ h1, WH X h1 w1 → Q (oI o) h1) {l0 : Nat} {l1 : Int32} {l2 : Int32} {w : MEM} {h : PH} (wh : WH X h w) (hv_l0 : vo 9 l0 = true) (hF : f_X9_look fu l0 l1 l2 w = some (o, w1)) : PW d M_X9_look Q (1 + (1 + rc)) (6 + (6 + rs)) 0 [vR (900, l0), vI l1, vI l2, vU, vU, vU, vU] [] h := by
  replace hF := (E_X9_look fu l0 l1 l2 w).symm.trans hF
  refine r_X9_look_0 ?_
  refine ⟨⟨_, wh.2.1 10900 _ rfl hv_l0⟩, ?_⟩
  rcases bndT_of hF with ⟨u2, w1, hG, hF⟩ | ⟨e9, hG, rfl⟩
  rotate_left
  · exact cl_TX (D := 7) (Nat.le_trans (by decide) hd) (c_X9_needHeir wh hv_l0 hG) (fun h1 wh => hq _ wh)
  refine cl_TV (D := 7) (Nat.le_trans (by decide) hd) (c_X9_needHeir wh hv_l0 hG) ?_
  clear hG
  clear wh
  intro h wh
  refine ⟨⟨_, wh.2.1 10900 _ rfl hv_l0⟩, ?_⟩
  rcases bndT_of hF with ⟨u4, w3, hG, hF⟩ | ⟨e9, hG, rfl⟩
  rotate_left
  · exact cl_TX (D := 7) (Nat.le_trans (by decide) hd) (c_X9_needWithin wh hv_l0 hG) (fun h1 wh => hq _ wh)
  refine cl_TV (D := 7) (Nat.le_trans (by decide) hd) (c_X9_needWithin wh hv_l0 hG) ?_
  clear hG
  clear wh
  intro h wh
  refine ⟨⟨_, wh.2.1 10900 _ rfl hv_l0⟩, ?_⟩
  obtain ⟨u6, w5, hG, hF⟩ := bnd_of hF
  refine cl_V (D := 4) (Nat.le_trans (by decide) hd) (c_X9_findPairs wh hv_l0 hG) ?_
  clear hG
  clear wh
  intro h wh
  exact w_X9_look_25 hd hq  fu _ _ _ _ _ _ _ wh hv_l0 hF
theorem c_X9_look {X : SCR} {fu : Nat} {o : (Int32 ⊕ Nat)} {w1 : MEM} {a0 : Nat} {a1 : Int32} {a2 : Int32} {w : MEM} {h : PH} (wh : WH X h w) (h0 : vo 9 a0 = true) (hF : f_X9_look fu a0 a1 a2 w = some (o, w1)) : CT 8 M_X9_look [vR (900, a0), vI a1, vI a2] h 2 12 (QP X (oI o) w1) :=
  CT_of mk_X9_look (Nat.le_of_ble_eq_true rfl) rfl (w_X9_look (fu := fu) (rc := 0) (rs := 0) (hd := Nat.le_refl 8) (hq := fun h1 g => ⟨rfl, g⟩) wh h0 hF)
-- X9_choices
def f_X9_choices_4 (fu : Nat) : Nat → Int32 → Int32 → Int32 → Int32 → MEM → Option (Int32 × MEM)
  | 0, _, _, _, _, _ => none
  | n + 1, l0, l1, l2, l3, w => if l3 < l1 then (if (l3 + (1 : Int32)) = 0 then none else (lt (((l2 * (l0 - l3)) / (l3 + (1 : Int32)))) fun (v1 : Int32) => f_X9_choices_4 fu n l0 l1 v1 (l3 + (1 : Int32)) w)) else (some (l2, w))
theorem E_X9_choices_4 (fu : Nat) (n : Nat) (l0 : Int32) (l1 : Int32) (l2 : Int32) (l3 : Int32) (w : MEM) : f_X9_choices_4 fu (n + 1) l0 l1 l2 l3 w = if l3 < l1 then (if (l3 + (1 : Int32)) = 0 then none else (lt (((l2 * (l0 - l3)) / (l3 + (1 : Int32)))) fun (v1 : Int32) => f_X9_choices_4 fu n l0 l1 v1 (l3 + (1 : Int32)) w)) else (some (l2, w)) := rfl
theorem w_X9_choices_4 {X : SCR} {d rc rs : Nat} {Q : PO → PH → Prop} {o : Int32} {w1 : MEM} {fu : Nat} (hd : 0 ≤ d) (hq : ∀ h1, WH X h1 w1 → Q (.inl (some (vI o))) h1) : ∀ (n : Nat) (l0 : Int32) (l1 : Int32) (l2 : Int32) (l3 : Int32) (w : MEM) (h : PH), WH X h w → f_X9_choices_4 fu n l0 l1 l2 l3 w = some (o, w1) → PW d M_X9_choices Q rc rs 4 [vI l0, vI l1, vI l2, vI l3] [] h := by
  intro n
  induction n with
  | zero => intro l0 l1 l2 l3 w h wh  hF; cases hF
  | succ n ih =>
    intro l0 l1 l2 l3 w h wh  hF
    replace hF := (E_X9_choices_4 fu n l0 l1 l2 l3 w).symm.trans hF
    refine r_X9_choices_4 ?_
    refine ⟨fun c => ?_, fun c => ?_⟩
    · replace hF := if_ofT c hF
      obtain ⟨c, hF⟩ := nzF_of hF
      refine ⟨c, ?_⟩
      replace hF := lt_of hF
      exact ih _ _ _ _ _ _ wh  hF
    · replace hF := if_ofF c hF
      obtain ⟨rfl, rfl⟩ := some_of hF
      exact hq _ wh
def f_X9_choices (fu : Nat) (l0 : Int32) (l1 : Int32) (w : MEM) : Option (Int32 × MEM) := f_X9_choices_4 fu fu l0 l1 (1 : Int32) (0 : Int32) w
theorem E_X9_choices (fu : Nat) (l0 : Int32) (l1 : Int32) (w : MEM) : f_X9_choices fu l0 l1 w = f_X9_choices_4 fu fu l0 l1 (1 : Int32) (0 : Int32) w := rfl
theorem w_X9_choices {X : SCR} {d rc rs : Nat} {Q : PO → PH → Prop} {o : Int32} {w1 : MEM} {fu : Nat} (hd : 0 ≤ d) (hq : ∀ h1, WH X h1 w1 → Q (.inl (some (vI o))) h1) {l0 : Int32} {l1 : Int32} {w : MEM} {h : PH} (wh : WH X h w)  (hF : f_X9_choices fu l0 l1 w = some (o, w1)) : PW d M_X9_choices Q rc rs 0 [vI l0, vI l1, vU, vU] [] h := by
  replace hF := (E_X9_choices fu l0 l1 w).symm.trans hF
  refine r_X9_choices_0 ?_
  exact w_X9_choices_4 hd hq  fu _ _ _ _ _ _ wh  hF
theorem c_X9_choices {X : SCR} {fu : Nat} {o : Int32} {w1 : MEM} {a0 : Int32} {a1 : Int32} {w : MEM} {h : PH} (wh : WH X h w)  (hF : f_X9_choices fu a0 a1 w = some (o, w1)) : CT 0 M_X9_choices [vI a0, vI a1] h 0 0 (QP X (.inl (some (vI o))) w1) :=
  CT_of mk_X9_choices (Nat.le_of_ble_eq_true rfl) rfl (w_X9_choices (fu := fu) (rc := 0) (rs := 0) (hd := Nat.le_refl 0) (hq := fun h1 g => ⟨rfl, g⟩) wh  hF)
-- X9_commonDivisor
def f_X9_commonDivisor_15 (fu : Nat) : Nat → Int32 → Int32 → Int32 → MEM → Option (Int32 × MEM)
  | 0, _, _, _, _ => none
  | n + 1, l2, l3, l4, w => if l4 < (100 : Int32) then (if 0 < l3 then (if l3 = 0 then none else (lt ((l2 - l2 / l3 * l3)) fun (v1 : Int32) => f_X9_commonDivisor_15 fu n l3 v1 (l4 + (1 : Int32)) w)) else (some (l2, w))) else (some (l2, w))
theorem E_X9_commonDivisor_15 (fu : Nat) (n : Nat) (l2 : Int32) (l3 : Int32) (l4 : Int32) (w : MEM) : f_X9_commonDivisor_15 fu (n + 1) l2 l3 l4 w = if l4 < (100 : Int32) then (if 0 < l3 then (if l3 = 0 then none else (lt ((l2 - l2 / l3 * l3)) fun (v1 : Int32) => f_X9_commonDivisor_15 fu n l3 v1 (l4 + (1 : Int32)) w)) else (some (l2, w))) else (some (l2, w)) := rfl
theorem w_X9_commonDivisor_15 {X : SCR} {d rc rs : Nat} {Q : PO → PH → Prop} {o : Int32} {w1 : MEM} {fu : Nat} (hd : 1 ≤ d) (hq : ∀ h1, WH X h1 w1 → Q (.inl (some (vI o))) h1) : ∀ (n : Nat) (l2 : Int32) (l3 : Int32) (l4 : Int32) (w : MEM) (h : PH), WH X h w → f_X9_commonDivisor_15 fu n l2 l3 l4 w = some (o, w1) → PW d M_X9_commonDivisor Q rc rs 15 [vU, vU, vI l2, vI l3, vI l4, vU] [] h := by
  intro n
  induction n with
  | zero => intro l2 l3 l4 w h wh  hF; cases hF
  | succ n ih =>
    intro l2 l3 l4 w h wh  hF
    replace hF := (E_X9_commonDivisor_15 fu n l2 l3 l4 w).symm.trans hF
    refine r_X9_commonDivisor_15 ?_
    refine ⟨fun c => ?_, fun c => ?_⟩
    · replace hF := if_ofT c hF
      refine ⟨fun c => ?_, fun c => ?_⟩
      · replace hF := if_ofT c hF
        obtain ⟨c, hF⟩ := nzF_of hF
        refine ⟨c, ?_⟩
        replace hF := lt_of hF
        exact ih _ _ _ _ _ wh  hF
      · replace hF := if_ofF c hF
        obtain ⟨rfl, rfl⟩ := some_of hF
        exact hq _ wh
    · replace hF := if_ofF c hF
      obtain ⟨rfl, rfl⟩ := some_of hF
      exact hq _ wh
def f_X9_commonDivisor (fu : Nat) (l0 : Int32) (l1 : Int32) (w : MEM) : Option (Int32 × MEM) := bnd (f_J9_max_7cf53 fu l0 l1 w) fun (x2 : Int32) (w1 : MEM) => bnd (f_J9_min_7cf53 fu l0 l1 w1) fun (x4 : Int32) (w3 : MEM) => f_X9_commonDivisor_15 fu fu x2 x4 (0 : Int32) w3
theorem E_X9_commonDivisor (fu : Nat) (l0 : Int32) (l1 : Int32) (w : MEM) : f_X9_commonDivisor fu l0 l1 w = bnd (f_J9_max_7cf53 fu l0 l1 w) fun (x2 : Int32) (w1 : MEM) => bnd (f_J9_min_7cf53 fu l0 l1 w1) fun (x4 : Int32) (w3 : MEM) => f_X9_commonDivisor_15 fu fu x2 x4 (0 : Int32) w3 := rfl
theorem w_X9_commonDivisor {X : SCR} {d rc rs : Nat} {Q : PO → PH → Prop} {o : Int32} {w1 : MEM} {fu : Nat} (hd : 1 ≤ d) (hq : ∀ h1, WH X h1 w1 → Q (.inl (some (vI o))) h1) {l0 : Int32} {l1 : Int32} {w : MEM} {h : PH} (wh : WH X h w)  (hF : f_X9_commonDivisor fu l0 l1 w = some (o, w1)) : PW d M_X9_commonDivisor Q rc rs 0 [vI l0, vI l1, vU, vU, vU, vU] [] h := by
  replace hF := (E_X9_commonDivisor fu l0 l1 w).symm.trans hF
  refine r_X9_commonDivisor_0 ?_
  obtain ⟨x2, w1, hG, hF⟩ := bnd_of hF
  refine cl_I (D := 0) (Nat.le_trans (by decide) hd) (c_J9_max_7cf53 wh  hG) ?_
  clear hG
  clear wh
  intro h wh
  obtain ⟨x4, w3, hG, hF⟩ := bnd_of hF
  refine cl_I (D := 0) (Nat.le_trans (by decide) hd) (c_J9_min_7cf53 wh  hG) ?_
  clear hG
  clear wh
  intro h wh
  exact w_X9_commonDivisor_15 hd hq  fu _ _ _ _ _ wh  hF
theorem c_X9_commonDivisor {X : SCR} {fu : Nat} {o : Int32} {w1 : MEM} {a0 : Int32} {a1 : Int32} {w : MEM} {h : PH} (wh : WH X h w)  (hF : f_X9_commonDivisor fu a0 a1 w = some (o, w1)) : CT 1 M_X9_commonDivisor [vI a0, vI a1] h 0 0 (QP X (.inl (some (vI o))) w1) :=
  CT_of mk_X9_commonDivisor (Nat.le_of_ble_eq_true rfl) rfl (w_X9_commonDivisor (fu := fu) (rc := 0) (rs := 0) (hd := Nat.le_refl 1) (hq := fun h1 g => ⟨rfl, g⟩) wh  hF)
-- X9_lots
def f_X9_lots (fu : Nat) (l0 : Nat) (l1 : Int32) (l2 : Int32) (l3 : Int32) (l4 : Int32) (w : MEM) : Option ((Int32 ⊕ Nat) × MEM) := bndT (f_X9_needWithin fu l0 l1 (1 : Int32) (20 : Int32) w) fun (u2 : Unit) (w1 : MEM) => bndT (f_X9_needWithin fu l0 l2 (0 : Int32) l1 w1) fun (u4 : Unit) (w3 : MEM) => bndT (f_X9_needWithin fu l0 l3 (0 : Int32) l1 w3) fun (u6 : Unit) (w5 : MEM) => bndT (f_X9_needWithin fu l0 l4 (0 : Int32) (1 : Int32) w5) fun (u8 : Unit) (w7 : MEM) => bnd (f_X9_choices fu l1 l3 w7) fun (x10 : Int32) (w9 : MEM) => bnd (f_X9_choices fu (l1 - l2) l3 w9) fun (x12 : Int32) (w11 : MEM) => lt ((x10 - x12)) fun (v13 : Int32) => bnd (f_X9_commonDivisor fu v13 x10 w11) fun (x15 : Int32) (w14 : MEM) => if 0 < x15 then (if l4 = 0 then (if x15 = 0 then none else (some (.inl (v13 / x15), w14))) else (if x15 = 0 then none else (some (.inl (x10 / x15), w14)))) else (some (.inl (-1 : Int32), w14))
theorem E_X9_lots (fu : Nat) (l0 : Nat) (l1 : Int32) (l2 : Int32) (l3 : Int32) (l4 : Int32) (w : MEM) : f_X9_lots fu l0 l1 l2 l3 l4 w = bndT (f_X9_needWithin fu l0 l1 (1 : Int32) (20 : Int32) w) fun (u2 : Unit) (w1 : MEM) => bndT (f_X9_needWithin fu l0 l2 (0 : Int32) l1 w1) fun (u4 : Unit) (w3 : MEM) => bndT (f_X9_needWithin fu l0 l3 (0 : Int32) l1 w3) fun (u6 : Unit) (w5 : MEM) => bndT (f_X9_needWithin fu l0 l4 (0 : Int32) (1 : Int32) w5) fun (u8 : Unit) (w7 : MEM) => bnd (f_X9_choices fu l1 l3 w7) fun (x10 : Int32) (w9 : MEM) => bnd (f_X9_choices fu (l1 - l2) l3 w9) fun (x12 : Int32) (w11 : MEM) => lt ((x10 - x12)) fun (v13 : Int32) => bnd (f_X9_commonDivisor fu v13 x10 w11) fun (x15 : Int32) (w14 : MEM) => if 0 < x15 then (if l4 = 0 then (if x15 = 0 then none else (some (.inl (v13 / x15), w14))) else (if x15 = 0 then none else (some (.inl (x10 / x15), w14)))) else (some (.inl (-1 : Int32), w14)) := rfl
theorem w_X9_lots {X : SCR} {d rc rs : Nat} {Q : PO → PH → Prop} {o : (Int32 ⊕ Nat)} {w1 : MEM} {fu : Nat} (hd : 8 ≤ d) (hq : ∀ h1, WH X h1 w1 → Q (oI o) h1) {l0 : Nat} {l1 : Int32} {l2 : Int32} {l3 : Int32} {l4 : Int32} {w : MEM} {h : PH} (wh : WH X h w) (hv_l0 : vo 9 l0 = true) (hF : f_X9_lots fu l0 l1 l2 l3 l4 w = some (o, w1)) : PW d M_X9_lots Q (1 + (1 + (1 + (1 + rc)))) (6 + (6 + (6 + (6 + rs)))) 0 [vR (900, l0), vI l1, vI l2, vI l3, vI l4, vU, vU, vU] [] h := by
  replace hF := (E_X9_lots fu l0 l1 l2 l3 l4 w).symm.trans hF
  refine r_X9_lots_0 ?_
  refine ⟨⟨_, wh.2.1 10900 _ rfl hv_l0⟩, ?_⟩
  rcases bndT_of hF with ⟨u2, w1, hG, hF⟩ | ⟨e9, hG, rfl⟩
  rotate_left
  · exact cl_TX (D := 7) (Nat.le_trans (by decide) hd) (c_X9_needWithin wh hv_l0 hG) (fun h1 wh => hq _ wh)
  refine cl_TV (D := 7) (Nat.le_trans (by decide) hd) (c_X9_needWithin wh hv_l0 hG) ?_
  clear hG
  clear wh
  intro h wh
  refine ⟨⟨_, wh.2.1 10900 _ rfl hv_l0⟩, ?_⟩
  rcases bndT_of hF with ⟨u4, w3, hG, hF⟩ | ⟨e9, hG, rfl⟩
  rotate_left
  · exact cl_TX (D := 7) (Nat.le_trans (by decide) hd) (c_X9_needWithin wh hv_l0 hG) (fun h1 wh => hq _ wh)
  refine cl_TV (D := 7) (Nat.le_trans (by decide) hd) (c_X9_needWithin wh hv_l0 hG) ?_
  clear hG
  clear wh
  intro h wh
  refine ⟨⟨_, wh.2.1 10900 _ rfl hv_l0⟩, ?_⟩
  rcases bndT_of hF with ⟨u6, w5, hG, hF⟩ | ⟨e9, hG, rfl⟩
  rotate_left
  · exact cl_TX (D := 7) (Nat.le_trans (by decide) hd) (c_X9_needWithin wh hv_l0 hG) (fun h1 wh => hq _ wh)
  refine cl_TV (D := 7) (Nat.le_trans (by decide) hd) (c_X9_needWithin wh hv_l0 hG) ?_
  clear hG
  clear wh
  intro h wh
  refine ⟨⟨_, wh.2.1 10900 _ rfl hv_l0⟩, ?_⟩
  rcases bndT_of hF with ⟨u8, w7, hG, hF⟩ | ⟨e9, hG, rfl⟩
  rotate_left
  · exact cl_TX (D := 7) (Nat.le_trans (by decide) hd) (c_X9_needWithin wh hv_l0 hG) (fun h1 wh => hq _ wh)
  refine cl_TV (D := 7) (Nat.le_trans (by decide) hd) (c_X9_needWithin wh hv_l0 hG) ?_
  clear hG
  clear wh
  intro h wh
  obtain ⟨x10, w9, hG, hF⟩ := bnd_of hF
  refine cl_I (D := 0) (Nat.le_trans (by decide) hd) (c_X9_choices wh  hG) ?_
  clear hG
  clear wh
  intro h wh
  obtain ⟨x12, w11, hG, hF⟩ := bnd_of hF
  refine cl_I (D := 0) (Nat.le_trans (by decide) hd) (c_X9_choices wh  hG) ?_
  clear hG
  clear wh
  intro h wh
  replace hF := lt_of hF
  obtain ⟨x15, w14, hG, hF⟩ := bnd_of hF
  refine cl_I (D := 1) (Nat.le_trans (by decide) hd) (c_X9_commonDivisor wh  hG) ?_
  clear hG
  clear wh
  intro h wh
  refine ⟨fun c => ?_, fun c => ?_⟩
  · replace hF := if_ofT c hF
    refine ⟨fun c => ?_, fun c => ?_⟩
    · replace hF := if_ofT c hF
      obtain ⟨c, hF⟩ := nzF_of hF
      refine ⟨c, ?_⟩
      obtain ⟨rfl, rfl⟩ := some_of hF
      exact hq _ wh
    · replace hF := if_ofF c hF
      obtain ⟨c, hF⟩ := nzF_of hF
      refine ⟨c, ?_⟩
      obtain ⟨rfl, rfl⟩ := some_of hF
      exact hq _ wh
  · replace hF := if_ofF c hF
    obtain ⟨rfl, rfl⟩ := some_of hF
    exact hq _ wh
theorem c_X9_lots {X : SCR} {fu : Nat} {o : (Int32 ⊕ Nat)} {w1 : MEM} {a0 : Nat} {a1 : Int32} {a2 : Int32} {a3 : Int32} {a4 : Int32} {w : MEM} {h : PH} (wh : WH X h w) (h0 : vo 9 a0 = true) (hF : f_X9_lots fu a0 a1 a2 a3 a4 w = some (o, w1)) : CT 8 M_X9_lots [vR (900, a0), vI a1, vI a2, vI a3, vI a4] h 4 24 (QP X (oI o) w1) :=
  CT_of mk_X9_lots (Nat.le_of_ble_eq_true rfl) rfl (w_X9_lots (fu := fu) (rc := 0) (rs := 0) (hd := Nat.le_refl 8) (hq := fun h1 g => ⟨rfl, g⟩) wh h0 hF)
-- X9_regentHas
def f_X9_regentHas (fu : Nat) (l0 : Int32) (l1 : Int32) (l2 : Int32) (l3 : Int32) (w : MEM) : Option (Int32 × MEM) := if l0 = l1 then (if l0 = 0 then (some ((0 : Int32), w)) else (some (l2, w))) else (if l0 = 0 then (some (l3, w)) else (some ((-1 : Int32), w)))
theorem E_X9_regentHas (fu : Nat) (l0 : Int32) (l1 : Int32) (l2 : Int32) (l3 : Int32) (w : MEM) : f_X9_regentHas fu l0 l1 l2 l3 w = if l0 = l1 then (if l0 = 0 then (some ((0 : Int32), w)) else (some (l2, w))) else (if l0 = 0 then (some (l3, w)) else (some ((-1 : Int32), w))) := rfl
theorem w_X9_regentHas {X : SCR} {d rc rs : Nat} {Q : PO → PH → Prop} {o : Int32} {w1 : MEM} {fu : Nat} (hd : 0 ≤ d) (hq : ∀ h1, WH X h1 w1 → Q (.inl (some (vI o))) h1) {l0 : Int32} {l1 : Int32} {l2 : Int32} {l3 : Int32} {w : MEM} {h : PH} (wh : WH X h w)  (hF : f_X9_regentHas fu l0 l1 l2 l3 w = some (o, w1)) : PW d M_X9_regentHas Q rc rs 0 [vI l0, vI l1, vI l2, vI l3] [] h := by
  replace hF := (E_X9_regentHas fu l0 l1 l2 l3 w).symm.trans hF
  refine r_X9_regentHas_0 ?_
  refine ⟨fun c => ?_, fun c => ?_⟩
  · replace hF := if_ofT c hF
    refine ⟨fun c => ?_, fun c => ?_⟩
    · replace hF := if_ofT c hF
      obtain ⟨rfl, rfl⟩ := some_of hF
      exact hq _ wh
    · replace hF := if_ofF c hF
      obtain ⟨rfl, rfl⟩ := some_of hF
      exact hq _ wh
  · replace hF := if_ofF c hF
    refine ⟨fun c => ?_, fun c => ?_⟩
    · replace hF := if_ofT c hF
      obtain ⟨rfl, rfl⟩ := some_of hF
      exact hq _ wh
    · replace hF := if_ofF c hF
      obtain ⟨rfl, rfl⟩ := some_of hF
      exact hq _ wh
theorem c_X9_regentHas {X : SCR} {fu : Nat} {o : Int32} {w1 : MEM} {a0 : Int32} {a1 : Int32} {a2 : Int32} {a3 : Int32} {w : MEM} {h : PH} (wh : WH X h w)  (hF : f_X9_regentHas fu a0 a1 a2 a3 w = some (o, w1)) : CT 0 M_X9_regentHas [vI a0, vI a1, vI a2, vI a3] h 0 0 (QP X (.inl (some (vI o))) w1) :=
  CT_of mk_X9_regentHas (Nat.le_of_ble_eq_true rfl) rfl (w_X9_regentHas (fu := fu) (rc := 0) (rs := 0) (hd := Nat.le_refl 0) (hq := fun h1 g => ⟨rfl, g⟩) wh  hF)
-- X9_rests
def f_X9_rests (fu : Nat) (l0 : Int32) (l1 : Int32) (l2 : Int32) (l3 : Int32) (w : MEM) : Option (Int32 × MEM) := bnd (f_X9_regentHas fu l0 l1 l2 l3 w) fun (x2 : Int32) (w1 : MEM) => bnd (f_X9_regentHas fu ((1 : Int32) - l0) l1 l2 l3 w1) fun (x4 : Int32) (w3 : MEM) => if x2 < x4 then (some ((0 : Int32), w3)) else (bnd (f_X9_regentHas fu l1 l0 l2 l3 w3) fun (x6 : Int32) (w5 : MEM) => bnd (f_X9_regentHas fu ((1 : Int32) - l1) l0 l2 l3 w5) fun (x8 : Int32) (w7 : MEM) => if x6 < x8 then (some ((0 : Int32), w7)) else (some ((1 : Int32), w7)))
theorem E_X9_rests (fu : Nat) (l0 : Int32) (l1 : Int32) (l2 : Int32) (l3 : Int32) (w : MEM) : f_X9_rests fu l0 l1 l2 l3 w = bnd (f_X9_regentHas fu l0 l1 l2 l3 w) fun (x2 : Int32) (w1 : MEM) => bnd (f_X9_regentHas fu ((1 : Int32) - l0) l1 l2 l3 w1) fun (x4 : Int32) (w3 : MEM) => if x2 < x4 then (some ((0 : Int32), w3)) else (bnd (f_X9_regentHas fu l1 l0 l2 l3 w3) fun (x6 : Int32) (w5 : MEM) => bnd (f_X9_regentHas fu ((1 : Int32) - l1) l0 l2 l3 w5) fun (x8 : Int32) (w7 : MEM) => if x6 < x8 then (some ((0 : Int32), w7)) else (some ((1 : Int32), w7))) := rfl
theorem w_X9_rests {X : SCR} {d rc rs : Nat} {Q : PO → PH → Prop} {o : Int32} {w1 : MEM} {fu : Nat} (hd : 1 ≤ d) (hq : ∀ h1, WH X h1 w1 → Q (.inl (some (vI o))) h1) {l0 : Int32} {l1 : Int32} {l2 : Int32} {l3 : Int32} {w : MEM} {h : PH} (wh : WH X h w)  (hF : f_X9_rests fu l0 l1 l2 l3 w = some (o, w1)) : PW d M_X9_rests Q rc rs 0 [vI l0, vI l1, vI l2, vI l3] [] h := by
  replace hF := (E_X9_rests fu l0 l1 l2 l3 w).symm.trans hF
  refine r_X9_rests_0 ?_
  obtain ⟨x2, w1, hG, hF⟩ := bnd_of hF
  refine cl_I (D := 0) (Nat.le_trans (by decide) hd) (c_X9_regentHas wh  hG) ?_
  clear hG
  clear wh
  intro h wh
  obtain ⟨x4, w3, hG, hF⟩ := bnd_of hF
  refine cl_I (D := 0) (Nat.le_trans (by decide) hd) (c_X9_regentHas wh  hG) ?_
  clear hG
  clear wh
  intro h wh
  refine ⟨fun c => ?_, fun c => ?_⟩
  · replace hF := if_ofT c hF
    obtain ⟨rfl, rfl⟩ := some_of hF
    exact hq _ wh
  · replace hF := if_ofF c hF
    obtain ⟨x6, w5, hG, hF⟩ := bnd_of hF
    refine cl_I (D := 0) (Nat.le_trans (by decide) hd) (c_X9_regentHas wh  hG) ?_
    clear hG
    clear wh
    intro h wh
    obtain ⟨x8, w7, hG, hF⟩ := bnd_of hF
    refine cl_I (D := 0) (Nat.le_trans (by decide) hd) (c_X9_regentHas wh  hG) ?_
    clear hG
    clear wh
    intro h wh
    refine ⟨fun c => ?_, fun c => ?_⟩
    · replace hF := if_ofT c hF
      obtain ⟨rfl, rfl⟩ := some_of hF
      exact hq _ wh
    · replace hF := if_ofF c hF
      obtain ⟨rfl, rfl⟩ := some_of hF
      exact hq _ wh
theorem c_X9_rests {X : SCR} {fu : Nat} {o : Int32} {w1 : MEM} {a0 : Int32} {a1 : Int32} {a2 : Int32} {a3 : Int32} {w : MEM} {h : PH} (wh : WH X h w)  (hF : f_X9_rests fu a0 a1 a2 a3 w = some (o, w1)) : CT 1 M_X9_rests [vI a0, vI a1, vI a2, vI a3] h 0 0 (QP X (.inl (some (vI o))) w1) :=
  CT_of mk_X9_rests (Nat.le_of_ble_eq_true rfl) rfl (w_X9_rests (fu := fu) (rc := 0) (rs := 0) (hd := Nat.le_refl 1) (hq := fun h1 g => ⟨rfl, g⟩) wh  hF)
-- X9_bothHave
def f_X9_bothHave (fu : Nat) (l0 : Int32) (l1 : Int32) (l2 : Int32) (l3 : Int32) (w : MEM) : Option (Int32 × MEM) := bnd (f_X9_regentHas fu l0 l1 l2 l3 w) fun (x2 : Int32) (w1 : MEM) => bnd (f_X9_regentHas fu l1 l0 l2 l3 w1) fun (x4 : Int32) (w3 : MEM) => some ((x2 + x4), w3)
theorem E_X9_bothHave (fu : Nat) (l0 : Int32) (l1 : Int32) (l2 : Int32) (l3 : Int32) (w : MEM) : f_X9_bothHave fu l0 l1 l2 l3 w = bnd (f_X9_regentHas fu l0 l1 l2 l3 w) fun (x2 : Int32) (w1 : MEM) => bnd (f_X9_regentHas fu l1 l0 l2 l3 w1) fun (x4 : Int32) (w3 : MEM) => some ((x2 + x4), w3) := rfl
theorem w_X9_bothHave {X : SCR} {d rc rs : Nat} {Q : PO → PH → Prop} {o : Int32} {w1 : MEM} {fu : Nat} (hd : 1 ≤ d) (hq : ∀ h1, WH X h1 w1 → Q (.inl (some (vI o))) h1) {l0 : Int32} {l1 : Int32} {l2 : Int32} {l3 : Int32} {w : MEM} {h : PH} (wh : WH X h w)  (hF : f_X9_bothHave fu l0 l1 l2 l3 w = some (o, w1)) : PW d M_X9_bothHave Q rc rs 0 [vI l0, vI l1, vI l2, vI l3] [] h := by
  replace hF := (E_X9_bothHave fu l0 l1 l2 l3 w).symm.trans hF
  refine r_X9_bothHave_0 ?_
  obtain ⟨x2, w1, hG, hF⟩ := bnd_of hF
  refine cl_I (D := 0) (Nat.le_trans (by decide) hd) (c_X9_regentHas wh  hG) ?_
  clear hG
  clear wh
  intro h wh
  obtain ⟨x4, w3, hG, hF⟩ := bnd_of hF
  refine cl_I (D := 0) (Nat.le_trans (by decide) hd) (c_X9_regentHas wh  hG) ?_
  clear hG
  clear wh
  intro h wh
  obtain ⟨rfl, rfl⟩ := some_of hF
  exact hq _ wh
theorem c_X9_bothHave {X : SCR} {fu : Nat} {o : Int32} {w1 : MEM} {a0 : Int32} {a1 : Int32} {a2 : Int32} {a3 : Int32} {w : MEM} {h : PH} (wh : WH X h w)  (hF : f_X9_bothHave fu a0 a1 a2 a3 w = some (o, w1)) : CT 1 M_X9_bothHave [vI a0, vI a1, vI a2, vI a3] h 0 0 (QP X (.inl (some (vI o))) w1) :=
  CT_of mk_X9_bothHave (Nat.le_of_ble_eq_true rfl) rfl (w_X9_bothHave (fu := fu) (rc := 0) (rs := 0) (hd := Nat.le_refl 1) (hq := fun h1 g => ⟨rfl, g⟩) wh  hF)
-- X9_regents
def f_X9_regents_41 (fu : Nat) (k32 : Int32 → Int32 → Int32 → Int32 → Int32 → Int32 → MEM → Option ((Int32 ⊕ Nat) × MEM)) : Nat → Int32 → Int32 → Int32 → Int32 → Int32 → Int32 → Int32 → MEM → Option ((Int32 ⊕ Nat) × MEM)
  | 0, _, _, _, _, _, _, _, _ => none
  | n + 1, l1, l2, l3, l4, l5, l6, l7, w => if (1 : Int32) < l7 then (k32 l1 l2 l3 l4 l5 (l6 + (1 : Int32)) w) else (bnd (f_X9_rests fu l6 l7 l1 l2 w) fun (x2 : Int32) (w1 : MEM) => if x2 = 0 then (f_X9_regents_41 fu k32 n l1 l2 l3 l4 l5 l6 (l7 + (1 : Int32)) w1) else (if l5 = (-1 : Int32) then (lt ((((10 : Int32) * l6) + l7)) fun (v3 : Int32) => f_X9_regents_41 fu k32 n l1 l2 l3 (l4 + (1 : Int32)) v3 l6 (l7 + (1 : Int32)) w1) else (f_X9_regents_41 fu k32 n l1 l2 l3 (l4 + (1 : Int32)) l5 l6 (l7 + (1 : Int32)) w1)))
theorem E_X9_regents_41 (fu : Nat) (k32 : Int32 → Int32 → Int32 → Int32 → Int32 → Int32 → MEM → Option ((Int32 ⊕ Nat) × MEM)) (n : Nat) (l1 : Int32) (l2 : Int32) (l3 : Int32) (l4 : Int32) (l5 : Int32) (l6 : Int32) (l7 : Int32) (w : MEM) : f_X9_regents_41 fu k32 (n + 1) l1 l2 l3 l4 l5 l6 l7 w = if (1 : Int32) < l7 then (k32 l1 l2 l3 l4 l5 (l6 + (1 : Int32)) w) else (bnd (f_X9_rests fu l6 l7 l1 l2 w) fun (x2 : Int32) (w1 : MEM) => if x2 = 0 then (f_X9_regents_41 fu k32 n l1 l2 l3 l4 l5 l6 (l7 + (1 : Int32)) w1) else (if l5 = (-1 : Int32) then (lt ((((10 : Int32) * l6) + l7)) fun (v3 : Int32) => f_X9_regents_41 fu k32 n l1 l2 l3 (l4 + (1 : Int32)) v3 l6 (l7 + (1 : Int32)) w1) else (f_X9_regents_41 fu k32 n l1 l2 l3 (l4 + (1 : Int32)) l5 l6 (l7 + (1 : Int32)) w1))) := rfl
theorem w_X9_regents_41 {X : SCR} {d rc rs : Nat} {Q : PO → PH → Prop} {o : (Int32 ⊕ Nat)} {w1 : MEM} {fu : Nat} {k32 : Int32 → Int32 → Int32 → Int32 → Int32 → Int32 → MEM → Option ((Int32 ⊕ Nat) × MEM)} (hd : 8 ≤ d) (hq : ∀ h1, WH X h1 w1 → Q (oI o) h1) (hk32 : ∀ (l1 : Int32) (l2 : Int32) (l3 : Int32) (l4 : Int32) (l5 : Int32) (l6 : Int32) (w : MEM) (h : PH), WH X h w → k32 l1 l2 l3 l4 l5 l6 w = some (o, w1) → PW d M_X9_regents Q rc rs 32 [vU, vI l1, vI l2, vI l3, vI l4, vI l5, vI l6, vU] [] h) : ∀ (n : Nat) (l1 : Int32) (l2 : Int32) (l3 : Int32) (l4 : Int32) (l5 : Int32) (l6 : Int32) (l7 : Int32) (w : MEM) (h : PH), WH X h w → f_X9_regents_41 fu k32 n l1 l2 l3 l4 l5 l6 l7 w = some (o, w1) → PW d M_X9_regents Q rc rs 41 [vU, vI l1, vI l2, vI l3, vI l4, vI l5, vI l6, vI l7] [] h := by
  intro n
  induction n with
  | zero => intro l1 l2 l3 l4 l5 l6 l7 w h wh  hF; cases hF
  | succ n ih =>
    intro l1 l2 l3 l4 l5 l6 l7 w h wh  hF
    replace hF := (E_X9_regents_41 fu k32 n l1 l2 l3 l4 l5 l6 l7 w).symm.trans hF
    refine r_X9_regents_41 ?_
    refine ⟨fun c => ?_, fun c => ?_⟩
    · replace hF := if_ofT c hF
      exact hk32 _ _ _ _ _ _ _ _ wh  hF
    · replace hF := if_ofF c hF
      obtain ⟨x2, w1, hG, hF⟩ := bnd_of hF
      refine cl_I (D := 1) (Nat.le_trans (by decide) hd) (c_X9_rests wh  hG) ?_
      clear hG
      clear wh
      intro h wh
      refine ⟨fun c => ?_, fun c => ?_⟩
      · replace hF := if_ofT c hF
        exact ih _ _ _ _ _ _ _ _ _ wh  hF
      · replace hF := if_ofF c hF
        refine ⟨fun c => ?_, fun c => ?_⟩
        · replace hF := if_ofT c hF
          replace hF := lt_of hF
          exact ih _ _ _ _ _ _ _ _ _ wh  hF
        · replace hF := if_ofF c hF
          exact ih _ _ _ _ _ _ _ _ _ wh  hF
def f_X9_regents_32 (fu : Nat) : Nat → Int32 → Int32 → Int32 → Int32 → Int32 → Int32 → MEM → Option ((Int32 ⊕ Nat) × MEM)
  | 0, _, _, _, _, _, _, _ => none
  | n + 1, l1, l2, l3, l4, l5, l6, w => if (1 : Int32) < l6 then (if l3 = (0 : Int32) then (some (.inl l4, w)) else (if l3 = (1 : Int32) then (some (.inl l5, w)) else (if l5 = (-1 : Int32) then (some (.inl (0 : Int32), w)) else (if (10 : Int32) = 0 then none else (if (10 : Int32) = 0 then none else (bnd (f_X9_bothHave fu (l5 / (10 : Int32)) (l5 - l5 / (10 : Int32) * (10 : Int32)) l1 l2 w) fun (x2 : Int32) (w1 : MEM) => some (.inl x2, w1))))))) else (f_X9_regents_41 fu (fun l1 l2 l3 l4 l5 l6 w => f_X9_regents_32 fu n l1 l2 l3 l4 l5 l6 w) fu l1 l2 l3 l4 l5 l6 (0 : Int32) w)
theorem E_X9_regents_32 (fu : Nat) (n : Nat) (l1 : Int32) (l2 : Int32) (l3 : Int32) (l4 : Int32) (l5 : Int32) (l6 : Int32) (w : MEM) : f_X9_regents_32 fu (n + 1) l1 l2 l3 l4 l5 l6 w = if (1 : Int32) < l6 then (if l3 = (0 : Int32) then (some (.inl l4, w)) else (if l3 = (1 : Int32) then (some (.inl l5, w)) else (if l5 = (-1 : Int32) then (some (.inl (0 : Int32), w)) else (if (10 : Int32) = 0 then none else (if (10 : Int32) = 0 then none else (bnd (f_X9_bothHave fu (l5 / (10 : Int32)) (l5 - l5 / (10 : Int32) * (10 : Int32)) l1 l2 w) fun (x2 : Int32) (w1 : MEM) => some (.inl x2, w1))))))) else (f_X9_regents_41 fu (fun l1 l2 l3 l4 l5 l6 w => f_X9_regents_32 fu n l1 l2 l3 l4 l5 l6 w) fu l1 l2 l3 l4 l5 l6 (0 : Int32) w) := rfl
theorem w_X9_regents_32 {X : SCR} {d rc rs : Nat} {Q : PO → PH → Prop} {o : (Int32 ⊕ Nat)} {w1 : MEM} {fu : Nat} (hd : 8 ≤ d) (hq : ∀ h1, WH X h1 w1 → Q (oI o) h1) : ∀ (n : Nat) (l1 : Int32) (l2 : Int32) (l3 : Int32) (l4 : Int32) (l5 : Int32) (l6 : Int32) (w : MEM) (h : PH), WH X h w → f_X9_regents_32 fu n l1 l2 l3 l4 l5 l6 w = some (o, w1) → PW d M_X9_regents Q rc rs 32 [vU, vI l1, vI l2, vI l3, vI l4, vI l5, vI l6, vU] [] h := by
  intro n
  induction n with
  | zero => intro l1 l2 l3 l4 l5 l6 w h wh  hF; cases hF
  | succ n ih =>
    intro l1 l2 l3 l4 l5 l6 w h wh  hF
    replace hF := (E_X9_regents_32 fu n l1 l2 l3 l4 l5 l6 w).symm.trans hF
    refine r_X9_regents_32 ?_
    refine ⟨fun c => ?_, fun c => ?_⟩
    · replace hF := if_ofT c hF
      refine ⟨fun c => ?_, fun c => ?_, fun c => ?_⟩
      · replace hF := if_ofT c hF
        obtain ⟨rfl, rfl⟩ := some_of hF
        exact hq _ wh
      · replace hF := if_ofF (fun e9 => absurd (c.symm.trans e9) (by decide)) hF; replace hF := if_ofT c hF
        obtain ⟨rfl, rfl⟩ := some_of hF
        exact hq _ wh
      · replace hF := if_ofF c.1 hF; replace hF := if_ofF c.2 hF
        refine ⟨fun c => ?_, fun c => ?_⟩
        · replace hF := if_ofT c hF
          obtain ⟨rfl, rfl⟩ := some_of hF
          exact hq _ wh
        · replace hF := if_ofF c hF
          obtain ⟨c, hF⟩ := nzF_of hF
          refine ⟨c, ?_⟩
          obtain ⟨c, hF⟩ := nzF_of hF
          refine ⟨c, ?_⟩
          obtain ⟨x2, w1, hG, hF⟩ := bnd_of hF
          refine cl_I (D := 1) (Nat.le_trans (by decide) hd) (c_X9_bothHave wh  hG) ?_
          clear hG
          clear wh
          intro h wh
          obtain ⟨rfl, rfl⟩ := some_of hF
          exact hq _ wh
    · replace hF := if_ofF c hF
      exact w_X9_regents_41 hd hq (fun l1 l2 l3 l4 l5 l6 w h wh  hF => ih l1 l2 l3 l4 l5 l6 w h wh  hF) fu _ _ _ _ _ _ _ _ _ wh  hF
def f_X9_regents (fu : Nat) (l0 : Nat) (l1 : Int32) (l2 : Int32) (l3 : Int32) (w : MEM) : Option ((Int32 ⊕ Nat) × MEM) := bndT (f_X9_needWithin fu l0 l1 (0 : Int32) (99 : Int32) w) fun (u2 : Unit) (w1 : MEM) => bndT (f_X9_needWithin fu l0 l2 (0 : Int32) (99 : Int32) w1) fun (u4 : Unit) (w3 : MEM) => bndT (f_X9_needWithin fu l0 l3 (0 : Int32) (2 : Int32) w3) fun (u6 : Unit) (w5 : MEM) => f_X9_regents_32 fu fu l1 l2 l3 (0 : Int32) (-1 : Int32) (0 : Int32) w5
theorem E_X9_regents (fu : Nat) (l0 : Nat) (l1 : Int32) (l2 : Int32) (l3 : Int32) (w : MEM) : f_X9_regents fu l0 l1 l2 l3 w = bndT (f_X9_needWithin fu l0 l1 (0 : Int32) (99 : Int32) w) fun (u2 : Unit) (w1 : MEM) => bndT (f_X9_needWithin fu l0 l2 (0 : Int32) (99 : Int32) w1) fun (u4 : Unit) (w3 : MEM) => bndT (f_X9_needWithin fu l0 l3 (0 : Int32) (2 : Int32) w3) fun (u6 : Unit) (w5 : MEM) => f_X9_regents_32 fu fu l1 l2 l3 (0 : Int32) (-1 : Int32) (0 : Int32) w5 := rfl
theorem w_X9_regents {X : SCR} {d rc rs : Nat} {Q : PO → PH → Prop} {o : (Int32 ⊕ Nat)} {w1 : MEM} {fu : Nat} (hd : 8 ≤ d) (hq : ∀ h1, WH X h1 w1 → Q (oI o) h1) {l0 : Nat} {l1 : Int32} {l2 : Int32} {l3 : Int32} {w : MEM} {h : PH} (wh : WH X h w) (hv_l0 : vo 9 l0 = true) (hF : f_X9_regents fu l0 l1 l2 l3 w = some (o, w1)) : PW d M_X9_regents Q (1 + (1 + (1 + rc))) (6 + (6 + (6 + rs))) 0 [vR (900, l0), vI l1, vI l2, vI l3, vU, vU, vU, vU] [] h := by
  replace hF := (E_X9_regents fu l0 l1 l2 l3 w).symm.trans hF
  refine r_X9_regents_0 ?_
  refine ⟨⟨_, wh.2.1 10900 _ rfl hv_l0⟩, ?_⟩
  rcases bndT_of hF with ⟨u2, w1, hG, hF⟩ | ⟨e9, hG, rfl⟩
  rotate_left
  · exact cl_TX (D := 7) (Nat.le_trans (by decide) hd) (c_X9_needWithin wh hv_l0 hG) (fun h1 wh => hq _ wh)
  refine cl_TV (D := 7) (Nat.le_trans (by decide) hd) (c_X9_needWithin wh hv_l0 hG) ?_
  clear hG
  clear wh
  intro h wh
  refine ⟨⟨_, wh.2.1 10900 _ rfl hv_l0⟩, ?_⟩
  rcases bndT_of hF with ⟨u4, w3, hG, hF⟩ | ⟨e9, hG, rfl⟩
  rotate_left
  · exact cl_TX (D := 7) (Nat.le_trans (by decide) hd) (c_X9_needWithin wh hv_l0 hG) (fun h1 wh => hq _ wh)
  refine cl_TV (D := 7) (Nat.le_trans (by decide) hd) (c_X9_needWithin wh hv_l0 hG) ?_
  clear hG
  clear wh
  intro h wh
  refine ⟨⟨_, wh.2.1 10900 _ rfl hv_l0⟩, ?_⟩
  rcases bndT_of hF with ⟨u6, w5, hG, hF⟩ | ⟨e9, hG, rfl⟩
  rotate_left
  · exact cl_TX (D := 7) (Nat.le_trans (by decide) hd) (c_X9_needWithin wh hv_l0 hG) (fun h1 wh => hq _ wh)
  refine cl_TV (D := 7) (Nat.le_trans (by decide) hd) (c_X9_needWithin wh hv_l0 hG) ?_
  clear hG
  clear wh
  intro h wh
  exact w_X9_regents_32 hd hq  fu _ _ _ _ _ _ _ _ wh  hF
theorem c_X9_regents {X : SCR} {fu : Nat} {o : (Int32 ⊕ Nat)} {w1 : MEM} {a0 : Nat} {a1 : Int32} {a2 : Int32} {a3 : Int32} {w : MEM} {h : PH} (wh : WH X h w) (h0 : vo 9 a0 = true) (hF : f_X9_regents fu a0 a1 a2 a3 w = some (o, w1)) : CT 8 M_X9_regents [vR (900, a0), vI a1, vI a2, vI a3] h 3 18 (QP X (oI o) w1) :=
  CT_of mk_X9_regents (Nat.le_of_ble_eq_true rfl) rfl (w_X9_regents (fu := fu) (rc := 0) (rs := 0) (hd := Nat.le_refl 8) (hq := fun h1 g => ⟨rfl, g⟩) wh h0 hF)
-- X9_moss
def f_X9_moss_54 (fu : Nat) : Nat → Nat → Int32 → Int32 → Int32 → Int32 → Int32 → MEM → Option ((Int32 ⊕ Nat) × MEM)
  | 0, _, _, _, _, _, _, _ => none
  | n + 1, l0, l1, l2, l3, l4, l5, w => if 0 < l5 then (bnd (f_X1_mossBy fu (rT w (10908, l0)) l2 l4 w) fun (x6 : Int32) (w5 : MEM) => if l3 < x6 then (lt ((l5 - (1 : Int32))) fun (v10 : Int32) => f_X9_moss_54 fu n l0 l1 l2 l3 v10 (l5 + (-1 : Int32)) w5) else (ck (bI l1 7) (bnd (f_J9_min_7cf53 fu (rA w5 (101, (rT w5 (10908, l0))) l1) l4 w5) fun (x9 : Int32) (w8 : MEM) => some (.inl x9, w8)))) else (ck (bI l1 7) (bnd (f_J9_min_7cf53 fu (rA w (101, (rT w (10908, l0))) l1) l4 w) fun (x3 : Int32) (w2 : MEM) => some (.inl x3, w2)))
theorem E_X9_moss_54 (fu : Nat) (n : Nat) (l0 : Nat) (l1 : Int32) (l2 : Int32) (l3 : Int32) (l4 : Int32) (l5 : Int32) (w : MEM) : f_X9_moss_54 fu (n + 1) l0 l1 l2 l3 l4 l5 w = if 0 < l5 then (bnd (f_X1_mossBy fu (rT w (10908, l0)) l2 l4 w) fun (x6 : Int32) (w5 : MEM) => if l3 < x6 then (lt ((l5 - (1 : Int32))) fun (v10 : Int32) => f_X9_moss_54 fu n l0 l1 l2 l3 v10 (l5 + (-1 : Int32)) w5) else (ck (bI l1 7) (bnd (f_J9_min_7cf53 fu (rA w5 (101, (rT w5 (10908, l0))) l1) l4 w5) fun (x9 : Int32) (w8 : MEM) => some (.inl x9, w8)))) else (ck (bI l1 7) (bnd (f_J9_min_7cf53 fu (rA w (101, (rT w (10908, l0))) l1) l4 w) fun (x3 : Int32) (w2 : MEM) => some (.inl x3, w2))) := rfl
theorem w_X9_moss_54 {X : SCR} {d rc rs : Nat} {Q : PO → PH → Prop} {o : (Int32 ⊕ Nat)} {w1 : MEM} {fu : Nat} (hd : 8 ≤ d) (hq : ∀ h1, WH X h1 w1 → Q (oI o) h1) : ∀ (n : Nat) (l0 : Nat) (l1 : Int32) (l2 : Int32) (l3 : Int32) (l4 : Int32) (l5 : Int32) (w : MEM) (h : PH), WH X h w → vo 9 l0 = true → f_X9_moss_54 fu n l0 l1 l2 l3 l4 l5 w = some (o, w1) → PW d M_X9_moss Q rc rs 54 [vR (900, l0), vI l1, vI l2, vI l3, vI l4, vI l5] [] h := by
  intro n
  induction n with
  | zero => intro l0 l1 l2 l3 l4 l5 w h wh hv_l0 hF; cases hF
  | succ n ih =>
    intro l0 l1 l2 l3 l4 l5 w h wh hv_l0 hF
    replace hF := (E_X9_moss_54 fu n l0 l1 l2 l3 l4 l5 w).symm.trans hF
    refine r_X9_moss_54 ?_
    refine ⟨fun c => ?_, fun c => ?_⟩
    · replace hF := if_ofT c hF
      have hT4 := (wh.2.2.1 10908 _ rfl hv_l0).2
      refine gO_of (wh.2.2.1 10908 _ rfl hv_l0).1 ?_
      refine ⟨⟨_, wh.2.1 10100 _ rfl hT4⟩, ?_⟩
      obtain ⟨x6, w5, hG, hF⟩ := bnd_of hF
      refine cl_I (D := 1) (Nat.le_trans (by decide) hd) (c_X1_mossBy wh hT4 hG) ?_
      clear hG
      clear wh
      intro h wh
      refine ⟨fun c => ?_, fun c => ?_⟩
      · replace hF := if_ofT c hF
        replace hF := lt_of hF
        exact ih _ _ _ _ _ _ _ _ wh hv_l0 hF
      · replace hF := if_ofF c hF
        have hT7 := (wh.2.2.1 10908 _ rfl hv_l0).2
        refine gO_of (wh.2.2.1 10908 _ rfl hv_l0).1 ?_
        refine gA_of (b := (101, (rT w5 (10908, l0)))) (wh.2.1 10100 _ rfl hT7) ?_
        obtain ⟨c, hF⟩ := ck_of hF
        refine xI_of wh (oA_101 hT7) c ?_
        clear c
        obtain ⟨x9, w8, hG, hF⟩ := bnd_of hF
        refine cl_I (D := 0) (Nat.le_trans (by decide) hd) (c_J9_min_7cf53 wh  hG) ?_
        clear hG
        clear wh
        intro h wh
        obtain ⟨rfl, rfl⟩ := some_of hF
        exact hq _ wh
    · replace hF := if_ofF c hF
      have hT1 := (wh.2.2.1 10908 _ rfl hv_l0).2
      refine gO_of (wh.2.2.1 10908 _ rfl hv_l0).1 ?_
      refine gA_of (b := (101, (rT w (10908, l0)))) (wh.2.1 10100 _ rfl hT1) ?_
      obtain ⟨c, hF⟩ := ck_of hF
      refine xI_of wh (oA_101 hT1) c ?_
      clear c
      obtain ⟨x3, w2, hG, hF⟩ := bnd_of hF
      refine cl_I (D := 0) (Nat.le_trans (by decide) hd) (c_J9_min_7cf53 wh  hG) ?_
      clear hG
      clear wh
      intro h wh
      obtain ⟨rfl, rfl⟩ := some_of hF
      exact hq _ wh
def f_X9_moss (fu : Nat) (l0 : Nat) (l1 : Int32) (l2 : Int32) (l3 : Int32) (w : MEM) : Option ((Int32 ⊕ Nat) × MEM) := bndT (f_X9_needHeir fu l0 l1 w) fun (u2 : Unit) (w1 : MEM) => bnd (f_X1_all fu (rT w1 (10908, l0)) w1) fun (x5 : Int32) (w4 : MEM) => if (l2 &&& (x5 ^^^ (-1 : Int32))) = 0 then (bndT (f_X9_need fu l0 (1 : Int32) w4) fun (u11 : Unit) (w10 : MEM) => bndT (f_X9_needWithin fu l0 l3 (0 : Int32) (99 : Int32) w10) fun (u13 : Unit) (w12 : MEM) => if (l2 &&& ((1 : Int32) <<< (l1 &&& 31))) = 0 then (some (.inl (0 : Int32), w12)) else (f_X9_moss_54 fu fu l0 l1 l2 l3 (9 : Int32) (9 : Int32) w12)) else (bndT (f_X9_need fu l0 (0 : Int32) w4) fun (u7 : Unit) (w6 : MEM) => bndT (f_X9_needWithin fu l0 l3 (0 : Int32) (99 : Int32) w6) fun (u9 : Unit) (w8 : MEM) => if (l2 &&& ((1 : Int32) <<< (l1 &&& 31))) = 0 then (some (.inl (0 : Int32), w8)) else (f_X9_moss_54 fu fu l0 l1 l2 l3 (9 : Int32) (9 : Int32) w8))
theorem E_X9_moss (fu : Nat) (l0 : Nat) (l1 : Int32) (l2 : Int32) (l3 : Int32) (w : MEM) : f_X9_moss fu l0 l1 l2 l3 w = bndT (f_X9_needHeir fu l0 l1 w) fun (u2 : Unit) (w1 : MEM) => bnd (f_X1_all fu (rT w1 (10908, l0)) w1) fun (x5 : Int32) (w4 : MEM) => if (l2 &&& (x5 ^^^ (-1 : Int32))) = 0 then (bndT (f_X9_need fu l0 (1 : Int32) w4) fun (u11 : Unit) (w10 : MEM) => bndT (f_X9_needWithin fu l0 l3 (0 : Int32) (99 : Int32) w10) fun (u13 : Unit) (w12 : MEM) => if (l2 &&& ((1 : Int32) <<< (l1 &&& 31))) = 0 then (some (.inl (0 : Int32), w12)) else (f_X9_moss_54 fu fu l0 l1 l2 l3 (9 : Int32) (9 : Int32) w12)) else (bndT (f_X9_need fu l0 (0 : Int32) w4) fun (u7 : Unit) (w6 : MEM) => bndT (f_X9_needWithin fu l0 l3 (0 : Int32) (99 : Int32) w6) fun (u9 : Unit) (w8 : MEM) => if (l2 &&& ((1 : Int32) <<< (l1 &&& 31))) = 0 then (some (.inl (0 : Int32), w8)) else (f_X9_moss_54 fu fu l0 l1 l2 l3 (9 : Int32) (9 : Int32) w8)) := rfl
theorem w_X9_moss {X : SCR} {d rc rs : Nat} {Q : PO → PH → Prop} {o : (Int32 ⊕ Nat)} {w1 : MEM} {fu : Nat} (hd : 8 ≤ d) (hq : ∀ h1, WH X h1 w1 → Q (oI o) h1) {l0 : Nat} {l1 : Int32} {l2 : Int32} {l3 : Int32} {w : MEM} {h : PH} (wh : WH X h w) (hv_l0 : vo 9 l0 = true) (hF : f_X9_moss fu l0 l1 l2 l3 w = some (o, w1)) : PW d M_X9_moss Q (1 + (1 + (1 + rc))) (6 + (6 + (6 + rs))) 0 [vR (900, l0), vI l1, vI l2, vI l3, vU, vU] [] h := by
  replace hF := (E_X9_moss fu l0 l1 l2 l3 w).symm.trans hF
  refine r_X9_moss_0 ?_
  refine ⟨⟨_, wh.2.1 10900 _ rfl hv_l0⟩, ?_⟩
  rcases bndT_of hF with ⟨u2, w1, hG, hF⟩ | ⟨e9, hG, rfl⟩
  rotate_left
  · exact cl_TX (D := 7) (Nat.le_trans (by decide) hd) (c_X9_needHeir wh hv_l0 hG) (fun h1 wh => hq _ wh)
  refine cl_TV (D := 7) (Nat.le_trans (by decide) hd) (c_X9_needHeir wh hv_l0 hG) ?_
  clear hG
  clear wh
  intro h wh
  have hT3 := (wh.2.2.1 10908 _ rfl hv_l0).2
  refine gO_of (wh.2.2.1 10908 _ rfl hv_l0).1 ?_
  refine ⟨⟨_, wh.2.1 10100 _ rfl hT3⟩, ?_⟩
  obtain ⟨x5, w4, hG, hF⟩ := bnd_of hF
  refine cl_I (D := 0) (Nat.le_trans (by decide) hd) (c_X1_all wh hT3 hG) ?_
  clear hG
  clear wh
  intro h wh
  refine ⟨fun c => ?_, fun c => ?_⟩
  · replace hF := if_ofT c hF
    refine ⟨⟨_, wh.2.1 10900 _ rfl hv_l0⟩, ?_⟩
    rcases bndT_of hF with ⟨u11, w10, hG, hF⟩ | ⟨e9, hG, rfl⟩
    rotate_left
    · exact cl_TX (D := 6) (Nat.le_trans (by decide) hd) (c_X9_need wh hv_l0 hG) (fun h1 wh => hq _ wh)
    refine cl_TV (D := 6) (Nat.le_trans (by decide) hd) (c_X9_need wh hv_l0 hG) ?_
    clear hG
    clear wh
    intro h wh
    refine ⟨⟨_, wh.2.1 10900 _ rfl hv_l0⟩, ?_⟩
    rcases bndT_of hF with ⟨u13, w12, hG, hF⟩ | ⟨e9, hG, rfl⟩
    rotate_left
    · exact cl_TX (D := 7) (Nat.le_trans (by decide) hd) (c_X9_needWithin wh hv_l0 hG) (fun h1 wh => hq _ wh)
    refine cl_TV (D := 7) (Nat.le_trans (by decide) hd) (c_X9_needWithin wh hv_l0 hG) ?_
    clear hG
    clear wh
    intro h wh
    refine ⟨fun c => ?_, fun c => ?_⟩
    · replace hF := if_ofT c hF
      obtain ⟨rfl, rfl⟩ := some_of hF
      exact hq _ wh
    · replace hF := if_ofF c hF
      exact w_X9_moss_54 hd hq  fu _ _ _ _ _ _ _ _ wh hv_l0 hF
  · replace hF := if_ofF c hF
    refine ⟨⟨_, wh.2.1 10900 _ rfl hv_l0⟩, ?_⟩
    rcases bndT_of hF with ⟨u7, w6, hG, hF⟩ | ⟨e9, hG, rfl⟩
    rotate_left
    · exact cl_TX (D := 6) (Nat.le_trans (by decide) hd) (c_X9_need wh hv_l0 hG) (fun h1 wh => hq _ wh)
    refine cl_TV (D := 6) (Nat.le_trans (by decide) hd) (c_X9_need wh hv_l0 hG) ?_
    clear hG
    clear wh
    intro h wh
    refine ⟨⟨_, wh.2.1 10900 _ rfl hv_l0⟩, ?_⟩
    rcases bndT_of hF with ⟨u9, w8, hG, hF⟩ | ⟨e9, hG, rfl⟩
    rotate_left
    · exact cl_TX (D := 7) (Nat.le_trans (by decide) hd) (c_X9_needWithin wh hv_l0 hG) (fun h1 wh => hq _ wh)
    refine cl_TV (D := 7) (Nat.le_trans (by decide) hd) (c_X9_needWithin wh hv_l0 hG) ?_
    clear hG
    clear wh
    intro h wh
    refine ⟨fun c => ?_, fun c => ?_⟩
    · replace hF := if_ofT c hF
      obtain ⟨rfl, rfl⟩ := some_of hF
      exact hq _ wh
    · replace hF := if_ofF c hF
      exact w_X9_moss_54 hd hq  fu _ _ _ _ _ _ _ _ wh hv_l0 hF
theorem c_X9_moss {X : SCR} {fu : Nat} {o : (Int32 ⊕ Nat)} {w1 : MEM} {a0 : Nat} {a1 : Int32} {a2 : Int32} {a3 : Int32} {w : MEM} {h : PH} (wh : WH X h w) (h0 : vo 9 a0 = true) (hF : f_X9_moss fu a0 a1 a2 a3 w = some (o, w1)) : CT 8 M_X9_moss [vR (900, a0), vI a1, vI a2, vI a3] h 3 18 (QP X (oI o) w1) :=
  CT_of mk_X9_moss (Nat.le_of_ble_eq_true rfl) rfl (w_X9_moss (fu := fu) (rc := 0) (rs := 0) (hd := Nat.le_refl 8) (hq := fun h1 g => ⟨rfl, g⟩) wh h0 hF)
-- X9_backward
def f_X9_backward_16 (fu : Nat) : Nat → Int32 → Int32 → Int32 → MEM → Option ((Int32 ⊕ Nat) × MEM)
  | 0, _, _, _, _ => none
  | n + 1, l2, l3, l4, w => if l4 < (8 : Int32) then (if 0 < l3 then (if (10 : Int32) = 0 then none else (lt (((l2 * (10 : Int32)) + (l3 - l3 / (10 : Int32) * (10 : Int32)))) fun (v1 : Int32) => if (10 : Int32) = 0 then none else (lt ((l3 / (10 : Int32))) fun (v2 : Int32) => f_X9_backward_16 fu n v1 v2 (l4 + (1 : Int32)) w))) else (some (.inl l2, w))) else (some (.inl l2, w))
theorem E_X9_backward_16 (fu : Nat) (n : Nat) (l2 : Int32) (l3 : Int32) (l4 : Int32) (w : MEM) : f_X9_backward_16 fu (n + 1) l2 l3 l4 w = if l4 < (8 : Int32) then (if 0 < l3 then (if (10 : Int32) = 0 then none else (lt (((l2 * (10 : Int32)) + (l3 - l3 / (10 : Int32) * (10 : Int32)))) fun (v1 : Int32) => if (10 : Int32) = 0 then none else (lt ((l3 / (10 : Int32))) fun (v2 : Int32) => f_X9_backward_16 fu n v1 v2 (l4 + (1 : Int32)) w))) else (some (.inl l2, w))) else (some (.inl l2, w)) := rfl
theorem w_X9_backward_16 {X : SCR} {d rc rs : Nat} {Q : PO → PH → Prop} {o : (Int32 ⊕ Nat)} {w1 : MEM} {fu : Nat} (hd : 8 ≤ d) (hq : ∀ h1, WH X h1 w1 → Q (oI o) h1) : ∀ (n : Nat) (l2 : Int32) (l3 : Int32) (l4 : Int32) (w : MEM) (h : PH), WH X h w → f_X9_backward_16 fu n l2 l3 l4 w = some (o, w1) → PW d M_X9_backward Q rc rs 16 [vU, vU, vI l2, vI l3, vI l4] [] h := by
  intro n
  induction n with
  | zero => intro l2 l3 l4 w h wh  hF; cases hF
  | succ n ih =>
    intro l2 l3 l4 w h wh  hF
    replace hF := (E_X9_backward_16 fu n l2 l3 l4 w).symm.trans hF
    refine r_X9_backward_16 ?_
    refine ⟨fun c => ?_, fun c => ?_⟩
    · replace hF := if_ofT c hF
      refine ⟨fun c => ?_, fun c => ?_⟩
      · replace hF := if_ofT c hF
        obtain ⟨c, hF⟩ := nzF_of hF
        refine ⟨c, ?_⟩
        replace hF := lt_of hF
        obtain ⟨c, hF⟩ := nzF_of hF
        refine ⟨c, ?_⟩
        replace hF := lt_of hF
        exact ih _ _ _ _ _ wh  hF
      · replace hF := if_ofF c hF
        obtain ⟨rfl, rfl⟩ := some_of hF
        exact hq _ wh
    · replace hF := if_ofF c hF
      obtain ⟨rfl, rfl⟩ := some_of hF
      exact hq _ wh
def f_X9_backward (fu : Nat) (l0 : Nat) (l1 : Int32) (w : MEM) : Option ((Int32 ⊕ Nat) × MEM) := bndT (f_X9_needWithin fu l0 l1 (0 : Int32) (99999999 : Int32) w) fun (u2 : Unit) (w1 : MEM) => f_X9_backward_16 fu fu (0 : Int32) l1 (0 : Int32) w1
theorem E_X9_backward (fu : Nat) (l0 : Nat) (l1 : Int32) (w : MEM) : f_X9_backward fu l0 l1 w = bndT (f_X9_needWithin fu l0 l1 (0 : Int32) (99999999 : Int32) w) fun (u2 : Unit) (w1 : MEM) => f_X9_backward_16 fu fu (0 : Int32) l1 (0 : Int32) w1 := rfl
theorem w_X9_backward {X : SCR} {d rc rs : Nat} {Q : PO → PH → Prop} {o : (Int32 ⊕ Nat)} {w1 : MEM} {fu : Nat} (hd : 8 ≤ d) (hq : ∀ h1, WH X h1 w1 → Q (oI o) h1) {l0 : Nat} {l1 : Int32} {w : MEM} {h : PH} (wh : WH X h w) (hv_l0 : vo 9 l0 = true) (hF : f_X9_backward fu l0 l1 w = some (o, w1)) : PW d M_X9_backward Q (1 + rc) (6 + rs) 0 [vR (900, l0), vI l1, vU, vU, vU] [] h := by
  replace hF := (E_X9_backward fu l0 l1 w).symm.trans hF
  refine r_X9_backward_0 ?_
  refine ⟨⟨_, wh.2.1 10900 _ rfl hv_l0⟩, ?_⟩
  rcases bndT_of hF with ⟨u2, w1, hG, hF⟩ | ⟨e9, hG, rfl⟩
  rotate_left
  · exact cl_TX (D := 7) (Nat.le_trans (by decide) hd) (c_X9_needWithin wh hv_l0 hG) (fun h1 wh => hq _ wh)
  refine cl_TV (D := 7) (Nat.le_trans (by decide) hd) (c_X9_needWithin wh hv_l0 hG) ?_
  clear hG
  clear wh
  intro h wh
  exact w_X9_backward_16 hd hq  fu _ _ _ _ _ wh  hF
theorem c_X9_backward {X : SCR} {fu : Nat} {o : (Int32 ⊕ Nat)} {w1 : MEM} {a0 : Nat} {a1 : Int32} {w : MEM} {h : PH} (wh : WH X h w) (h0 : vo 9 a0 = true) (hF : f_X9_backward fu a0 a1 w = some (o, w1)) : CT 8 M_X9_backward [vR (900, a0), vI a1] h 1 6 (QP X (oI o) w1) :=
  CT_of mk_X9_backward (Nat.le_of_ble_eq_true rfl) rfl (w_X9_backward (fu := fu) (rc := 0) (rs := 0) (hd := Nat.le_refl 8) (hq := fun h1 g => ⟨rfl, g⟩) wh h0 hF)
-- X9_image
def f_X9_image (fu : Nat) (l0 : Nat) (w : MEM) : Option (Int32 × MEM) := if (rS w (10914, l0)) < (3 : Int32) then (ck (bI (rS w (10914, l0)) 3) (bnd (f_X2_copy fu (326 + 172 * (rS w (10914, l0)).toNatClampNeg) 8 w) fun (u3 : Unit) (w2 : MEM) => lt (sS w2 (10914, l0) ((rS w2 (10914, l0)) + (1 : Int32))) fun (w4 : MEM) => some ((rS w4 (10914, l0)), w4))) else (some ((-1 : Int32), w))
theorem E_X9_image (fu : Nat) (l0 : Nat) (w : MEM) : f_X9_image fu l0 w = if (rS w (10914, l0)) < (3 : Int32) then (ck (bI (rS w (10914, l0)) 3) (bnd (f_X2_copy fu (326 + 172 * (rS w (10914, l0)).toNatClampNeg) 8 w) fun (u3 : Unit) (w2 : MEM) => lt (sS w2 (10914, l0) ((rS w2 (10914, l0)) + (1 : Int32))) fun (w4 : MEM) => some ((rS w4 (10914, l0)), w4))) else (some ((-1 : Int32), w)) := rfl
theorem w_X9_image {X : SCR} {d rc rs : Nat} {Q : PO → PH → Prop} {o : Int32} {w1 : MEM} {fu : Nat} (hd : 5 ≤ d) (hq : ∀ h1, WH X h1 w1 → Q (.inl (some (vI o))) h1) {l0 : Nat} {w : MEM} {h : PH} (wh : WH X h w) (hv_l0 : vo 9 l0 = true) (hF : f_X9_image fu l0 w = some (o, w1)) : PW d M_X9_image Q rc rs 0 [vR (900, l0)] [] h := by
  replace hF := (E_X9_image fu l0 w).symm.trans hF
  refine r_X9_image_0 ?_
  refine gI_of (wh.1 10914 _ rfl hv_l0) ?_
  refine ⟨fun c => ?_, fun c => ?_⟩
  · replace hF := if_ofT c hF
    refine gA_of (b := (901, 179)) (wh.2.1 10903 _ rfl hv_l0) ?_
    refine gI_of (wh.1 10914 _ rfl hv_l0) ?_
    obtain ⟨c, hF⟩ := ck_of hF
    have hM1 := vIM c
    refine xO_I wh c ?_
    clear c
    refine gO_of (i := 8) (wh.2.1 10902 _ rfl hv_l0) ?_
    refine ⟨⟨_, wh.2.1 10200 _ rfl hM1⟩, ?_⟩
    obtain ⟨u3, w2, hG, hF⟩ := bnd_of hF
    refine cl_V (D := 4) (Nat.le_trans (by decide) hd) (c_X2_copy wh hM1 (rfl : vo 2 8 = true) hG) ?_
    clear hG
    clear wh
    intro h wh
    refine gI_of (wh.1 10914 _ rfl hv_l0) ?_
    replace hF := lt_of hF
    refine sF_S wh rfl hv_l0 ?_
    clear wh
    intro h wh
    refine gI_of (wh.1 10914 _ rfl hv_l0) ?_
    obtain ⟨rfl, rfl⟩ := some_of hF
    exact hq _ wh
  · replace hF := if_ofF c hF
    obtain ⟨rfl, rfl⟩ := some_of hF
    exact hq _ wh
theorem c_X9_image {X : SCR} {fu : Nat} {o : Int32} {w1 : MEM} {a0 : Nat} {w : MEM} {h : PH} (wh : WH X h w) (h0 : vo 9 a0 = true) (hF : f_X9_image fu a0 w = some (o, w1)) : CT 5 M_X9_image [vR (900, a0)] h 0 0 (QP X (.inl (some (vI o))) w1) :=
  CT_of mk_X9_image (Nat.le_of_ble_eq_true rfl) rfl (w_X9_image (fu := fu) (rc := 0) (rs := 0) (hd := Nat.le_refl 5) (hq := fun h1 g => ⟨rfl, g⟩) wh h0 hF)
-- X9_restore
def f_X9_restore (fu : Nat) (l0 : Nat) (w : MEM) : Option (Int32 × MEM) := if 0 < (rS w (10914, l0)) then (lt (sS w (10914, l0) ((rS w (10914, l0)) - (1 : Int32))) fun (w1 : MEM) => ck (bI (rS w1 (10914, l0)) 3) (bnd (f_X2_copy fu 8 (326 + 172 * (rS w1 (10914, l0)).toNatClampNeg) w1) fun (u4 : Unit) (w3 : MEM) => lt (sS w3 (10915, l0) (0 : Int32)) fun (w5 : MEM) => some ((rS w5 (10914, l0)), w5))) else (some ((-1 : Int32), w))
theorem E_X9_restore (fu : Nat) (l0 : Nat) (w : MEM) : f_X9_restore fu l0 w = if 0 < (rS w (10914, l0)) then (lt (sS w (10914, l0) ((rS w (10914, l0)) - (1 : Int32))) fun (w1 : MEM) => ck (bI (rS w1 (10914, l0)) 3) (bnd (f_X2_copy fu 8 (326 + 172 * (rS w1 (10914, l0)).toNatClampNeg) w1) fun (u4 : Unit) (w3 : MEM) => lt (sS w3 (10915, l0) (0 : Int32)) fun (w5 : MEM) => some ((rS w5 (10914, l0)), w5))) else (some ((-1 : Int32), w)) := rfl
theorem w_X9_restore {X : SCR} {d rc rs : Nat} {Q : PO → PH → Prop} {o : Int32} {w1 : MEM} {fu : Nat} (hd : 5 ≤ d) (hq : ∀ h1, WH X h1 w1 → Q (.inl (some (vI o))) h1) {l0 : Nat} {w : MEM} {h : PH} (wh : WH X h w) (hv_l0 : vo 9 l0 = true) (hF : f_X9_restore fu l0 w = some (o, w1)) : PW d M_X9_restore Q rc rs 0 [vR (900, l0)] [] h := by
  replace hF := (E_X9_restore fu l0 w).symm.trans hF
  refine r_X9_restore_0 ?_
  refine gI_of (wh.1 10914 _ rfl hv_l0) ?_
  refine ⟨fun c => ?_, fun c => ?_⟩
  · replace hF := if_ofT c hF
    refine gI_of (wh.1 10914 _ rfl hv_l0) ?_
    replace hF := lt_of hF
    refine sF_S wh rfl hv_l0 ?_
    clear wh
    intro h wh
    refine gO_of (i := 8) (wh.2.1 10902 _ rfl hv_l0) ?_
    refine gA_of (b := (901, 179)) (wh.2.1 10903 _ rfl hv_l0) ?_
    refine gI_of (wh.1 10914 _ rfl hv_l0) ?_
    obtain ⟨c, hF⟩ := ck_of hF
    have hM2 := vIM c
    refine xO_I wh c ?_
    clear c
    refine ⟨⟨_, wh.2.1 10200 _ rfl (rfl : vo 2 8 = true)⟩, ?_⟩
    obtain ⟨u4, w3, hG, hF⟩ := bnd_of hF
    refine cl_V (D := 4) (Nat.le_trans (by decide) hd) (c_X2_copy wh (rfl : vo 2 8 = true) hM2 hG) ?_
    clear hG
    clear wh
    intro h wh
    replace hF := lt_of hF
    refine sF_S wh rfl hv_l0 ?_
    clear wh
    intro h wh
    refine gI_of (wh.1 10914 _ rfl hv_l0) ?_
    obtain ⟨rfl, rfl⟩ := some_of hF
    exact hq _ wh
  · replace hF := if_ofF c hF
    obtain ⟨rfl, rfl⟩ := some_of hF
    exact hq _ wh
theorem c_X9_restore {X : SCR} {fu : Nat} {o : Int32} {w1 : MEM} {a0 : Nat} {w : MEM} {h : PH} (wh : WH X h w) (h0 : vo 9 a0 = true) (hF : f_X9_restore fu a0 w = some (o, w1)) : CT 5 M_X9_restore [vR (900, a0)] h 0 0 (QP X (.inl (some (vI o))) w1) :=
  CT_of mk_X9_restore (Nat.le_of_ble_eq_true rfl) rfl (w_X9_restore (fu := fu) (rc := 0) (rs := 0) (hd := Nat.le_refl 5) (hq := fun h1 g => ⟨rfl, g⟩) wh h0 hF)
-- X9_status
def f_X9_status (fu : Nat) (l0 : Nat) (l1 : Int32) (w : MEM) : Option (Int32 × MEM) := if l1 = (0 : Int32) then (some ((rS w (10916, l0)), w)) else (if l1 = (1 : Int32) then (some ((rS w (10917, l0)), w)) else (some ((-1 : Int32), w)))
theorem E_X9_status (fu : Nat) (l0 : Nat) (l1 : Int32) (w : MEM) : f_X9_status fu l0 l1 w = if l1 = (0 : Int32) then (some ((rS w (10916, l0)), w)) else (if l1 = (1 : Int32) then (some ((rS w (10917, l0)), w)) else (some ((-1 : Int32), w))) := rfl
theorem w_X9_status {X : SCR} {d rc rs : Nat} {Q : PO → PH → Prop} {o : Int32} {w1 : MEM} {fu : Nat} (hd : 0 ≤ d) (hq : ∀ h1, WH X h1 w1 → Q (.inl (some (vI o))) h1) {l0 : Nat} {l1 : Int32} {w : MEM} {h : PH} (wh : WH X h w) (hv_l0 : vo 9 l0 = true) (hF : f_X9_status fu l0 l1 w = some (o, w1)) : PW d M_X9_status Q rc rs 0 [vR (900, l0), vI l1] [] h := by
  replace hF := (E_X9_status fu l0 l1 w).symm.trans hF
  refine r_X9_status_0 ?_
  refine ⟨fun c => ?_, fun c => ?_, fun c => ?_⟩
  · replace hF := if_ofT c hF
    refine gI_of (wh.1 10916 _ rfl hv_l0) ?_
    obtain ⟨rfl, rfl⟩ := some_of hF
    exact hq _ wh
  · replace hF := if_ofF (fun e9 => absurd (c.symm.trans e9) (by decide)) hF; replace hF := if_ofT c hF
    refine gI_of (wh.1 10917 _ rfl hv_l0) ?_
    obtain ⟨rfl, rfl⟩ := some_of hF
    exact hq _ wh
  · replace hF := if_ofF c.1 hF; replace hF := if_ofF c.2 hF
    obtain ⟨rfl, rfl⟩ := some_of hF
    exact hq _ wh
theorem c_X9_status {X : SCR} {fu : Nat} {o : Int32} {w1 : MEM} {a0 : Nat} {a1 : Int32} {w : MEM} {h : PH} (wh : WH X h w) (h0 : vo 9 a0 = true) (hF : f_X9_status fu a0 a1 w = some (o, w1)) : CT 0 M_X9_status [vR (900, a0), vI a1] h 0 0 (QP X (.inl (some (vI o))) w1) :=
  CT_of mk_X9_status (Nat.le_of_ble_eq_true rfl) rfl (w_X9_status (fu := fu) (rc := 0) (rs := 0) (hd := Nat.le_refl 0) (hq := fun h1 g => ⟨rfl, g⟩) wh h0 hF)
-- X9_count
def f_X9_count (fu : Nat) (l0 : Nat) (l1 : Int32) (w : MEM) : Option (Int32 × MEM) := if l1 = (0 : Int32) then (some ((rS w (10914, l0)), w)) else (if l1 = (1 : Int32) then (some ((rS w (10801, 1)), w)) else (if l1 = (2 : Int32) then (some ((rS w (10202, 8)), w)) else (some ((-1 : Int32), w))))
theorem E_X9_count (fu : Nat) (l0 : Nat) (l1 : Int32) (w : MEM) : f_X9_count fu l0 l1 w = if l1 = (0 : Int32) then (some ((rS w (10914, l0)), w)) else (if l1 = (1 : Int32) then (some ((rS w (10801, 1)), w)) else (if l1 = (2 : Int32) then (some ((rS w (10202, 8)), w)) else (some ((-1 : Int32), w)))) := rfl
theorem w_X9_count {X : SCR} {d rc rs : Nat} {Q : PO → PH → Prop} {o : Int32} {w1 : MEM} {fu : Nat} (hd : 0 ≤ d) (hq : ∀ h1, WH X h1 w1 → Q (.inl (some (vI o))) h1) {l0 : Nat} {l1 : Int32} {w : MEM} {h : PH} (wh : WH X h w) (hv_l0 : vo 9 l0 = true) (hF : f_X9_count fu l0 l1 w = some (o, w1)) : PW d M_X9_count Q rc rs 0 [vR (900, l0), vI l1] [] h := by
  replace hF := (E_X9_count fu l0 l1 w).symm.trans hF
  refine r_X9_count_0 ?_
  refine ⟨fun c => ?_, fun c => ?_, fun c => ?_, fun c => ?_⟩
  · replace hF := if_ofT c hF
    refine gI_of (wh.1 10914 _ rfl hv_l0) ?_
    obtain ⟨rfl, rfl⟩ := some_of hF
    exact hq _ wh
  · replace hF := if_ofF (fun e9 => absurd (c.symm.trans e9) (by decide)) hF; replace hF := if_ofT c hF
    refine gO_of (i := 1) (wh.2.1 10900 _ rfl hv_l0) ?_
    refine gI_of (wh.1 10801 _ rfl (rfl : vo 8 1 = true)) ?_
    obtain ⟨rfl, rfl⟩ := some_of hF
    exact hq _ wh
  · replace hF := if_ofF (fun e9 => absurd (c.symm.trans e9) (by decide)) hF; replace hF := if_ofF (fun e9 => absurd (c.symm.trans e9) (by decide)) hF; replace hF := if_ofT c hF
    refine gO_of (i := 8) (wh.2.1 10902 _ rfl hv_l0) ?_
    refine gI_of (wh.1 10202 _ rfl (rfl : vo 2 8 = true)) ?_
    obtain ⟨rfl, rfl⟩ := some_of hF
    exact hq _ wh
  · replace hF := if_ofF c.1 hF; replace hF := if_ofF c.2.1 hF; replace hF := if_ofF c.2.2 hF
    obtain ⟨rfl, rfl⟩ := some_of hF
    exact hq _ wh
theorem c_X9_count {X : SCR} {fu : Nat} {o : Int32} {w1 : MEM} {a0 : Nat} {a1 : Int32} {w : MEM} {h : PH} (wh : WH X h w) (h0 : vo 9 a0 = true) (hF : f_X9_count fu a0 a1 w = some (o, w1)) : CT 0 M_X9_count [vR (900, a0), vI a1] h 0 0 (QP X (.inl (some (vI o))) w1) :=
  CT_of mk_X9_count (Nat.le_of_ble_eq_true rfl) rfl (w_X9_count (fu := fu) (rc := 0) (rs := 0) (hd := Nat.le_refl 0) (hq := fun h1 g => ⟨rfl, g⟩) wh h0 hF)
