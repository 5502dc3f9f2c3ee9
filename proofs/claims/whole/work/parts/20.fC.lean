-- X10_thrown
def f_X10_thrown (fu : Nat) (l0 : Nat) (w : MEM) : Option (Int32 × MEM) := some ((rS w (11000, l0)), w)
theorem E_X10_thrown (fu : Nat) (l0 : Nat) (w : MEM) : f_X10_thrown fu l0 w = some ((rS w (11000, l0)), w) := rfl
theorem w_X10_thrown {X : SCR} {d rc rs : Nat} {Q : PO → PH → Prop} {o : Int32} {w1 : MEM} {fu : Nat} (hd : 0 ≤ d) (hq : ∀ h1, WH X h1 w1 → Q (.inl (some (vI o))) h1) {l0 : Nat} {w : MEM} {h : PH} (wh : WH X h w) (hv_l0 : vo 10 l0 = true) (hF : f_X10_thrown fu l0 w = some (o, w1)) : PW d M_X10_thrown Q rc rs 0 [vR (1000, l0)] [] h := by
  replace hF := (E_X10_thrown fu l0 w).symm.trans hF
  refine r_X10_thrown_0 ?_
  refine gI_of (wh.1 11000 _ rfl hv_l0) ?_
  obtain ⟨rfl, rfl⟩ := some_of hF
  exact hq _ wh
theorem c_X10_thrown {X : SCR} {fu : Nat} {o : Int32} {w1 : MEM} {a0 : Nat} {w : MEM} {h : PH} (wh : WH X h w) (h0 : vo 10 a0 = true) (hF : f_X10_thrown fu a0 w = some (o, w1)) : CT 0 M_X10_thrown [vR (1000, a0)] h 0 0 (QP X (.inl (some (vI o))) w1) :=
  CT_of mk_X10_thrown (Nat.le_of_ble_eq_true rfl) rfl (w_X10_thrown (fu := fu) (rc := 0) (rs := 0) (hd := Nat.le_refl 0) (hq := fun h1 g => ⟨rfl, g⟩) wh h0 hF)
-- X10_may
def f_X10_may (fu : Nat) (l0 : Nat) (l1 : Int32) (l2 : Int32) (l3 : Int32) (w : MEM) : Option (Int32 × MEM) := if l1 = 0 then (if (rS w (11000, l0)) = 0 then (lt (sS w (11000, l0) l2) fun (w1 : MEM) => ck (bI l3 2) (ck (bI l3 2) (lt (sA w1 (1001, l0) l3 ((rA w1 (1001, l0) l3) + (1 : Int32))) fun (w2 : MEM) => if (rS w2 (11000, l0)) = 0 then (some ((1 : Int32), w2)) else (some ((0 : Int32), w2))))) else (if (rS w (11000, l0)) = 0 then (some ((1 : Int32), w)) else (some ((0 : Int32), w)))) else (if (rS w (11000, l0)) = 0 then (some ((1 : Int32), w)) else (some ((0 : Int32), w)))
theorem E_X10_may (fu : Nat) (l0 : Nat) (l1 : Int32) (l2 : Int32) (l3 : Int32) (w : MEM) : f_X10_may fu l0 l1 l2 l3 w = if l1 = 0 then (if (rS w (11000, l0)) = 0 then (lt (sS w (11000, l0) l2) fun (w1 : MEM) => ck (bI l3 2) (ck (bI l3 2) (lt (sA w1 (1001, l0) l3 ((rA w1 (1001, l0) l3) + (1 : Int32))) fun (w2 : MEM) => if (rS w2 (11000, l0)) = 0 then (some ((1 : Int32), w2)) else (some ((0 : Int32), w2))))) else (if (rS w (11000, l0)) = 0 then (some ((1 : Int32), w)) else (some ((0 : Int32), w)))) else (if (rS w (11000, l0)) = 0 then (some ((1 : Int32), w)) else (some ((0 : Int32), w))) := rfl
theorem w_X10_may {X : SCR} {d rc rs : Nat} {Q : PO → PH → Prop} {o : Int32} {w1 : MEM} {fu : Nat} (hd : 0 ≤ d) (hq : ∀ h1, WH X h1 w1 → Q (.inl (some (vI o))) h1) {l0 : Nat} {l1 : Int32} {l2 : Int32} {l3 : Int32} {w : MEM} {h : PH} (wh : WH X h w) (hv_l0 : vo 10 l0 = true) (hF : f_X10_may fu l0 l1 l2 l3 w = some (o, w1)) : PW d M_X10_may Q rc rs 0 [vR (1000, l0), vI l1, vI l2, vI l3] [] h := by
  replace hF := (E_X10_may fu l0 l1 l2 l3 w).symm.trans hF
  refine r_X10_may_0 ?_
  refine ⟨fun c => ?_, fun c => ?_⟩
  · replace hF := if_ofT c hF
    refine gI_of (wh.1 11000 _ rfl hv_l0) ?_
    refine ⟨fun c => ?_, fun c => ?_⟩
    · replace hF := if_ofT c hF
      replace hF := lt_of hF
      refine sF_S wh rfl hv_l0 ?_
      clear wh
      intro h wh
      refine gA_of (b := (1001, l0)) (wh.2.1 11001 _ rfl hv_l0) ?_
      obtain ⟨c, hF⟩ := ck_of hF
      refine xI_of wh (oA_1001 hv_l0) c ?_
      clear c
      obtain ⟨c, hF⟩ := ck_of hF
      replace hF := lt_of hF
      refine yI_of wh (oA_1001 hv_l0) c ?_
      clear c wh
      intro h wh
      refine gI_of (wh.1 11000 _ rfl hv_l0) ?_
      refine ⟨fun c => ?_, fun c => ?_⟩
      · replace hF := if_ofT c hF
        obtain ⟨rfl, rfl⟩ := some_of hF
        exact hq _ wh
      · replace hF := if_ofF c hF
        obtain ⟨rfl, rfl⟩ := some_of hF
        exact hq _ wh
    · replace hF := if_ofF c hF
      refine gI_of (wh.1 11000 _ rfl hv_l0) ?_
      refine ⟨fun c => ?_, fun c => ?_⟩
      · replace hF := if_ofT c hF
        obtain ⟨rfl, rfl⟩ := some_of hF
        exact hq _ wh
      · replace hF := if_ofF c hF
        obtain ⟨rfl, rfl⟩ := some_of hF
        exact hq _ wh
  · replace hF := if_ofF c hF
    refine gI_of (wh.1 11000 _ rfl hv_l0) ?_
    refine ⟨fun c => ?_, fun c => ?_⟩
    · replace hF := if_ofT c hF
      obtain ⟨rfl, rfl⟩ := some_of hF
      exact hq _ wh
    · replace hF := if_ofF c hF
      obtain ⟨rfl, rfl⟩ := some_of hF
      exact hq _ wh
theorem c_X10_may {X : SCR} {fu : Nat} {o : Int32} {w1 : MEM} {a0 : Nat} {a1 : Int32} {a2 : Int32} {a3 : Int32} {w : MEM} {h : PH} (wh : WH X h w) (h0 : vo 10 a0 = true) (hF : f_X10_may fu a0 a1 a2 a3 w = some (o, w1)) : CT 0 M_X10_may [vR (1000, a0), vI a1, vI a2, vI a3] h 0 0 (QP X (.inl (some (vI o))) w1) :=
  CT_of mk_X10_may (Nat.le_of_ble_eq_true rfl) rfl (w_X10_may (fu := fu) (rc := 0) (rs := 0) (hd := Nat.le_refl 0) (hq := fun h1 g => ⟨rfl, g⟩) wh h0 hF)
-- X10_within
def f_X10_within (fu : Nat) (l0 : Int32) (l1 : Int32) (l2 : Int32) (w : MEM) : Option (Int32 × MEM) := if l0 < l1 then (some ((0 : Int32), w)) else (if l2 < l0 then (some ((0 : Int32), w)) else (some ((1 : Int32), w)))
theorem E_X10_within (fu : Nat) (l0 : Int32) (l1 : Int32) (l2 : Int32) (w : MEM) : f_X10_within fu l0 l1 l2 w = if l0 < l1 then (some ((0 : Int32), w)) else (if l2 < l0 then (some ((0 : Int32), w)) else (some ((1 : Int32), w))) := rfl
theorem w_X10_within {X : SCR} {d rc rs : Nat} {Q : PO → PH → Prop} {o : Int32} {w1 : MEM} {fu : Nat} (hd : 0 ≤ d) (hq : ∀ h1, WH X h1 w1 → Q (.inl (some (vI o))) h1) {l0 : Int32} {l1 : Int32} {l2 : Int32} {w : MEM} {h : PH} (wh : WH X h w)  (hF : f_X10_within fu l0 l1 l2 w = some (o, w1)) : PW d M_X10_within Q rc rs 0 [vI l0, vI l1, vI l2] [] h := by
  replace hF := (E_X10_within fu l0 l1 l2 w).symm.trans hF
  refine r_X10_within_0 ?_
  refine ⟨fun c => ?_, fun c => ?_⟩
  · replace hF := if_ofT c hF
    obtain ⟨rfl, rfl⟩ := some_of hF
    exact hq _ wh
  · replace hF := if_ofF c hF
    refine ⟨fun c => ?_, fun c => ?_⟩
    · replace hF := if_ofT c hF
      obtain ⟨rfl, rfl⟩ := some_of hF
      exact hq _ wh
    · replace hF := if_ofF c hF
      obtain ⟨rfl, rfl⟩ := some_of hF
      exact hq _ wh
theorem c_X10_within {X : SCR} {fu : Nat} {o : Int32} {w1 : MEM} {a0 : Int32} {a1 : Int32} {a2 : Int32} {w : MEM} {h : PH} (wh : WH X h w)  (hF : f_X10_within fu a0 a1 a2 w = some (o, w1)) : CT 0 M_X10_within [vI a0, vI a1, vI a2] h 0 0 (QP X (.inl (some (vI o))) w1) :=
  CT_of mk_X10_within (Nat.le_of_ble_eq_true rfl) rfl (w_X10_within (fu := fu) (rc := 0) (rs := 0) (hd := Nat.le_refl 0) (hq := fun h1 g => ⟨rfl, g⟩) wh  hF)
-- X10_feed
def f_X10_feed_23 (fu : Nat) : Nat → Nat → Int32 → Int32 → Int32 → Int32 → Int32 → Int32 → MEM → Option (Int32 × MEM)
  | 0, _, _, _, _, _, _, _, _ => none
  | n + 1, l0, l1, l2, l3, l4, l5, l6, w => if l6 < (20 : Int32) then (if l6 < (4 : Int32) then (if (4 : Int32) = 0 then none else (ck (bI (rS w (11002, l0)) 600) (lt (sA w (1002, l0) (rS w (11002, l0)) ((l1 >>> (((24 : Int32) - ((8 : Int32) * (l6 - l6 / (4 : Int32) * (4 : Int32)))) &&& 31)) &&& (255 : Int32))) fun (w9 : MEM) => lt (sS w9 (11002, l0) ((rS w9 (11002, l0)) + (1 : Int32))) fun (w10 : MEM) => f_X10_feed_23 fu n l0 l1 l2 l3 l4 l5 (l6 + (1 : Int32)) w10))) else (if l6 < (8 : Int32) then (if (4 : Int32) = 0 then none else (ck (bI (rS w (11002, l0)) 600) (lt (sA w (1002, l0) (rS w (11002, l0)) ((l2 >>> (((24 : Int32) - ((8 : Int32) * (l6 - l6 / (4 : Int32) * (4 : Int32)))) &&& 31)) &&& (255 : Int32))) fun (w7 : MEM) => lt (sS w7 (11002, l0) ((rS w7 (11002, l0)) + (1 : Int32))) fun (w8 : MEM) => f_X10_feed_23 fu n l0 l1 l2 l3 l4 l5 (l6 + (1 : Int32)) w8))) else (if l6 < (12 : Int32) then (if (4 : Int32) = 0 then none else (ck (bI (rS w (11002, l0)) 600) (lt (sA w (1002, l0) (rS w (11002, l0)) ((l3 >>> (((24 : Int32) - ((8 : Int32) * (l6 - l6 / (4 : Int32) * (4 : Int32)))) &&& 31)) &&& (255 : Int32))) fun (w5 : MEM) => lt (sS w5 (11002, l0) ((rS w5 (11002, l0)) + (1 : Int32))) fun (w6 : MEM) => f_X10_feed_23 fu n l0 l1 l2 l3 l4 l5 (l6 + (1 : Int32)) w6))) else (if l6 < (16 : Int32) then (if (4 : Int32) = 0 then none else (ck (bI (rS w (11002, l0)) 600) (lt (sA w (1002, l0) (rS w (11002, l0)) ((l4 >>> (((24 : Int32) - ((8 : Int32) * (l6 - l6 / (4 : Int32) * (4 : Int32)))) &&& 31)) &&& (255 : Int32))) fun (w3 : MEM) => lt (sS w3 (11002, l0) ((rS w3 (11002, l0)) + (1 : Int32))) fun (w4 : MEM) => f_X10_feed_23 fu n l0 l1 l2 l3 l4 l5 (l6 + (1 : Int32)) w4))) else (if (4 : Int32) = 0 then none else (ck (bI (rS w (11002, l0)) 600) (lt (sA w (1002, l0) (rS w (11002, l0)) ((l5 >>> (((24 : Int32) - ((8 : Int32) * (l6 - l6 / (4 : Int32) * (4 : Int32)))) &&& 31)) &&& (255 : Int32))) fun (w1 : MEM) => lt (sS w1 (11002, l0) ((rS w1 (11002, l0)) + (1 : Int32))) fun (w2 : MEM) => f_X10_feed_23 fu n l0 l1 l2 l3 l4 l5 (l6 + (1 : Int32)) w2))))))) else (some ((rS w (11002, l0)), w))
theorem E_X10_feed_23 (fu : Nat) (n : Nat) (l0 : Nat) (l1 : Int32) (l2 : Int32) (l3 : Int32) (l4 : Int32) (l5 : Int32) (l6 : Int32) (w : MEM) : f_X10_feed_23 fu (n + 1) l0 l1 l2 l3 l4 l5 l6 w = if l6 < (20 : Int32) then (if l6 < (4 : Int32) then (if (4 : Int32) = 0 then none else (ck (bI (rS w (11002, l0)) 600) (lt (sA w (1002, l0) (rS w (11002, l0)) ((l1 >>> (((24 : Int32) - ((8 : Int32) * (l6 - l6 / (4 : Int32) * (4 : Int32)))) &&& 31)) &&& (255 : Int32))) fun (w9 : MEM) => lt (sS w9 (11002, l0) ((rS w9 (11002, l0)) + (1 : Int32))) fun (w10 : MEM) => f_X10_feed_23 fu n l0 l1 l2 l3 l4 l5 (l6 + (1 : Int32)) w10))) else (if l6 < (8 : Int32) then (if (4 : Int32) = 0 then none else (ck (bI (rS w (11002, l0)) 600) (lt (sA w (1002, l0) (rS w (11002, l0)) ((l2 >>> (((24 : Int32) - ((8 : Int32) * (l6 - l6 / (4 : Int32) * (4 : Int32)))) &&& 31)) &&& (255 : Int32))) fun (w7 : MEM) => lt (sS w7 (11002, l0) ((rS w7 (11002, l0)) + (1 : Int32))) fun (w8 : MEM) => f_X10_feed_23 fu n l0 l1 l2 l3 l4 l5 (l6 + (1 : Int32)) w8))) else (if l6 < (12 : Int32) then (if (4 : Int32) = 0 then none else (ck (bI (rS w (11002, l0)) 600) (lt (sA w (1002, l0) (rS w (11002, l0)) ((l3 >>> (((24 : Int32) - ((8 : Int32) * (l6 - l6 / (4 : Int32) * (4 : Int32)))) &&& 31)) &&& (255 : Int32))) fun (w5 : MEM) => lt (sS w5 (11002, l0) ((rS w5 (11002, l0)) + (1 : Int32))) fun (w6 : MEM) => f_X10_feed_23 fu n l0 l1 l2 l3 l4 l5 (l6 + (1 : Int32)) w6))) else (if l6 < (16 : Int32) then (if (4 : Int32) = 0 then none else (ck (bI (rS w (11002, l0)) 600) (lt (sA w (1002, l0) (rS w (11002, l0)) ((l4 >>> (((24 : Int32) - ((8 : Int32) * (l6 - l6 / (4 : Int32) * (4 : Int32)))) &&& 31)) &&& (255 : Int32))) fun (w3 : MEM) => lt (sS w3 (11002, l0) ((rS w3 (11002, l0)) + (1 : Int32))) fun (w4 : MEM) => f_X10_feed_23 fu n l0 l1 l2 l3 l4 l5 (l6 + (1 : Int32)) w4))) else (if (4 : Int32) = 0 then none else (ck (bI (rS w (11002, l0)) 600) (lt (sA w (1002, l0) (rS w (11002, l0)) ((l5 >>> (((24 : Int32) - ((8 : Int32) * (l6 - l6 / (4 : Int32) * (4 : Int32)))) &&& 31)) &&& (255 : Int32))) fun (w1 : MEM) => lt (sS w1 (11002, l0) ((rS w1 (11002, l0)) + (1 : Int32))) fun (w2 : MEM) => f_X10_feed_23 fu n l0 l1 l2 l3 l4 l5 (l6 + (1 : Int32)) w2))))))) else (some ((rS w (11002, l0)), w)) := rfl
theorem w_X10_feed_23 {X : SCR} {d rc rs : Nat} {Q : PO → PH → Prop} {o : Int32} {w1 : MEM} {fu : Nat} (hd : 0 ≤ d) (hq : ∀ h1, WH X h1 w1 → Q (.inl (some (vI o))) h1) : ∀ (n : Nat) (l0 : Nat) (l1 : Int32) (l2 : Int32) (l3 : Int32) (l4 : Int32) (l5 : Int32) (l6 : Int32) (w : MEM) (h : PH), WH X h w → vo 10 l0 = true → f_X10_feed_23 fu n l0 l1 l2 l3 l4 l5 l6 w = some (o, w1) → PW d M_X10_feed Q rc rs 23 [vR (1000, l0), vI l1, vI l2, vI l3, vI l4, vI l5, vI l6, vU] [] h := by
  intro n
  induction n with
  | zero => intro l0 l1 l2 l3 l4 l5 l6 w h wh hv_l0 hF; cases hF
  | succ n ih =>
    intro l0 l1 l2 l3 l4 l5 l6 w h wh hv_l0 hF
    replace hF := (E_X10_feed_23 fu n l0 l1 l2 l3 l4 l5 l6 w).symm.trans hF
    refine r_X10_feed_23 ?_
    refine ⟨fun c => ?_, fun c => ?_⟩
    · replace hF := if_ofT c hF
      refine ⟨fun c => ?_, fun c => ?_⟩
      · replace hF := if_ofT c hF
        refine gA_of (b := (1002, l0)) (wh.2.1 11009 _ rfl hv_l0) ?_
        refine gI_of (wh.1 11002 _ rfl hv_l0) ?_
        obtain ⟨c, hF⟩ := nzF_of hF
        refine ⟨c, ?_⟩
        obtain ⟨c, hF⟩ := ck_of hF
        replace hF := lt_of hF
        refine yI_of wh (oA_1002 hv_l0) c ?_
        clear c wh
        intro h wh
        refine gI_of (wh.1 11002 _ rfl hv_l0) ?_
        replace hF := lt_of hF
        refine sF_S wh rfl hv_l0 ?_
        clear wh
        intro h wh
        exact ih _ _ _ _ _ _ _ _ _ wh hv_l0 hF
      · replace hF := if_ofF c hF
        refine ⟨fun c => ?_, fun c => ?_⟩
        · replace hF := if_ofT c hF
          refine gA_of (b := (1002, l0)) (wh.2.1 11009 _ rfl hv_l0) ?_
          refine gI_of (wh.1 11002 _ rfl hv_l0) ?_
          obtain ⟨c, hF⟩ := nzF_of hF
          refine ⟨c, ?_⟩
          obtain ⟨c, hF⟩ := ck_of hF
          replace hF := lt_of hF
          refine yI_of wh (oA_1002 hv_l0) c ?_
          clear c wh
          intro h wh
          refine gI_of (wh.1 11002 _ rfl hv_l0) ?_
          replace hF := lt_of hF
          refine sF_S wh rfl hv_l0 ?_
          clear wh
          intro h wh
          exact ih _ _ _ _ _ _ _ _ _ wh hv_l0 hF
        · replace hF := if_ofF c hF
          refine ⟨fun c => ?_, fun c => ?_⟩
          · replace hF := if_ofT c hF
            refine gA_of (b := (1002, l0)) (wh.2.1 11009 _ rfl hv_l0) ?_
            refine gI_of (wh.1 11002 _ rfl hv_l0) ?_
            obtain ⟨c, hF⟩ := nzF_of hF
            refine ⟨c, ?_⟩
            obtain ⟨c, hF⟩ := ck_of hF
            replace hF := lt_of hF
            refine yI_of wh (oA_1002 hv_l0) c ?_
            clear c wh
            intro h wh
            refine gI_of (wh.1 11002 _ rfl hv_l0) ?_
            replace hF := lt_of hF
            refine sF_S wh rfl hv_l0 ?_
            clear wh
            intro h wh
            exact ih _ _ _ _ _ _ _ _ _ wh hv_l0 hF
          · replace hF := if_ofF c hF
            refine ⟨fun c => ?_, fun c => ?_⟩
            · replace hF := if_ofT c hF
              refine gA_of (b := (1002, l0)) (wh.2.1 11009 _ rfl hv_l0) ?_
              refine gI_of (wh.1 11002 _ rfl hv_l0) ?_
              obtain ⟨c, hF⟩ := nzF_of hF
              refine ⟨c, ?_⟩
              obtain ⟨c, hF⟩ := ck_of hF
              replace hF := lt_of hF
              refine yI_of wh (oA_1002 hv_l0) c ?_
              clear c wh
              intro h wh
              refine gI_of (wh.1 11002 _ rfl hv_l0) ?_
              replace hF := lt_of hF
              refine sF_S wh rfl hv_l0 ?_
              clear wh
              intro h wh
              exact ih _ _ _ _ _ _ _ _ _ wh hv_l0 hF
            · replace hF := if_ofF c hF
              refine gA_of (b := (1002, l0)) (wh.2.1 11009 _ rfl hv_l0) ?_
              refine gI_of (wh.1 11002 _ rfl hv_l0) ?_
              obtain ⟨c, hF⟩ := nzF_of hF
              refine ⟨c, ?_⟩
              obtain ⟨c, hF⟩ := ck_of hF
              replace hF := lt_of hF
              refine yI_of wh (oA_1002 hv_l0) c ?_
              clear c wh
              intro h wh
              refine gI_of (wh.1 11002 _ rfl hv_l0) ?_
              replace hF := lt_of hF
              refine sF_S wh rfl hv_l0 ?_
              clear wh
              intro h wh
              exact ih _ _ _ _ _ _ _ _ _ wh hv_l0 hF
    · replace hF := if_ofF c hF
      refine gI_of (wh.1 11002 _ rfl hv_l0) ?_
      obtain ⟨rfl, rfl⟩ := some_of hF
      exact hq _ wh
def f_X10_feed (fu : Nat) (l0 : Nat) (l1 : Int32) (l2 : Int32) (l3 : Int32) (l4 : Int32) (l5 : Int32) (w : MEM) : Option (Int32 × MEM) := lt (sS w (11000, l0) (0 : Int32)) fun (w1 : MEM) => if (600 : Int32) < ((rS w1 (11002, l0)) + (20 : Int32)) then (some ((-1 : Int32), w1)) else (f_X10_feed_23 fu fu l0 l1 l2 l3 l4 l5 (0 : Int32) w1)
theorem E_X10_feed (fu : Nat) (l0 : Nat) (l1 : Int32) (l2 : Int32) (l3 : Int32) (l4 : Int32) (l5 : Int32) (w : MEM) : f_X10_feed fu l0 l1 l2 l3 l4 l5 w = lt (sS w (11000, l0) (0 : Int32)) fun (w1 : MEM) => if (600 : Int32) < ((rS w1 (11002, l0)) + (20 : Int32)) then (some ((-1 : Int32), w1)) else (f_X10_feed_23 fu fu l0 l1 l2 l3 l4 l5 (0 : Int32) w1) := rfl
theorem w_X10_feed {X : SCR} {d rc rs : Nat} {Q : PO → PH → Prop} {o : Int32} {w1 : MEM} {fu : Nat} (hd : 0 ≤ d) (hq : ∀ h1, WH X h1 w1 → Q (.inl (some (vI o))) h1) {l0 : Nat} {l1 : Int32} {l2 : Int32} {l3 : Int32} {l4 : Int32} {l5 : Int32} {w : MEM} {h : PH} (wh : WH X h w) (hv_l0 : vo 10 l0 = true) (hF : f_X10_feed fu l0 l1 l2 l3 l4 l5 w = some (o, w1)) : PW d M_X10_feed Q rc rs 0 [vR (1000, l0), vI l1, vI l2, vI l3, vI l4, vI l5, vU, vU] [] h := by
  replace hF := (E_X10_feed fu l0 l1 l2 l3 l4 l5 w).symm.trans hF
  refine r_X10_feed_0 ?_
  replace hF := lt_of hF
  refine sF_S wh rfl hv_l0 ?_
  clear wh
  intro h wh
  refine gI_of (wh.1 11002 _ rfl hv_l0) ?_
  refine ⟨fun c => ?_, fun c => ?_⟩
  · replace hF := if_ofT c hF
    obtain ⟨rfl, rfl⟩ := some_of hF
    exact hq _ wh
  · replace hF := if_ofF c hF
    exact w_X10_feed_23 hd hq  fu _ _ _ _ _ _ _ _ _ wh hv_l0 hF
theorem c_X10_feed {X : SCR} {fu : Nat} {o : Int32} {w1 : MEM} {a0 : Nat} {a1 : Int32} {a2 : Int32} {a3 : Int32} {a4 : Int32} {a5 : Int32} {w : MEM} {h : PH} (wh : WH X h w) (h0 : vo 10 a0 = true) (hF : f_X10_feed fu a0 a1 a2 a3 a4 a5 w = some (o, w1)) : CT 0 M_X10_feed [vR (1000, a0), vI a1, vI a2, vI a3, vI a4, vI a5] h 0 0 (QP X (.inl (some (vI o))) w1) :=
  CT_of mk_X10_feed (Nat.le_of_ble_eq_true rfl) rfl (w_X10_feed (fu := fu) (rc := 0) (rs := 0) (hd := Nat.le_refl 0) (hq := fun h1 g => ⟨rfl, g⟩) wh h0 hF)
-- X10_fine
def f_X10_fine (fu : Nat) (l0 : Nat) (w : MEM) : Option (Int32 × MEM) := if (rS w (11005, l0)) = (-1 : Int32) then (some ((1 : Int32), w)) else (some ((0 : Int32), w))
theorem E_X10_fine (fu : Nat) (l0 : Nat) (w : MEM) : f_X10_fine fu l0 w = if (rS w (11005, l0)) = (-1 : Int32) then (some ((1 : Int32), w)) else (some ((0 : Int32), w)) := rfl
theorem w_X10_fine {X : SCR} {d rc rs : Nat} {Q : PO → PH → Prop} {o : Int32} {w1 : MEM} {fu : Nat} (hd : 0 ≤ d) (hq : ∀ h1, WH X h1 w1 → Q (.inl (some (vI o))) h1) {l0 : Nat} {w : MEM} {h : PH} (wh : WH X h w) (hv_l0 : vo 10 l0 = true) (hF : f_X10_fine fu l0 w = some (o, w1)) : PW d M_X10_fine Q rc rs 0 [vR (1000, l0)] [] h := by
  replace hF := (E_X10_fine fu l0 w).symm.trans hF
  refine r_X10_fine_0 ?_
  refine gI_of (wh.1 11005 _ rfl hv_l0) ?_
  refine ⟨fun c => ?_, fun c => ?_⟩
  · replace hF := if_ofT c hF
    obtain ⟨rfl, rfl⟩ := some_of hF
    exact hq _ wh
  · replace hF := if_ofF c hF
    obtain ⟨rfl, rfl⟩ := some_of hF
    exact hq _ wh
theorem c_X10_fine {X : SCR} {fu : Nat} {o : Int32} {w1 : MEM} {a0 : Nat} {w : MEM} {h : PH} (wh : WH X h w) (h0 : vo 10 a0 = true) (hF : f_X10_fine fu a0 w = some (o, w1)) : CT 0 M_X10_fine [vR (1000, a0)] h 0 0 (QP X (.inl (some (vI o))) w1) :=
  CT_of mk_X10_fine (Nat.le_of_ble_eq_true rfl) rfl (w_X10_fine (fu := fu) (rc := 0) (rs := 0) (hd := Nat.le_refl 0) (hq := fun h1 g => ⟨rfl, g⟩) wh h0 hF)
-- X10_wrong
def f_X10_wrong (fu : Nat) (l0 : Nat) (l1 : Int32) (l2 : Int32) (w : MEM) : Option (Unit × MEM) := if (rS w (11005, l0)) = (-1 : Int32) then (lt (sS w (11005, l0) l2) fun (w1 : MEM) => lt (sS w1 (11006, l0) l1) fun (w2 : MEM) => some ((), w2)) else (some ((), w))
theorem E_X10_wrong (fu : Nat) (l0 : Nat) (l1 : Int32) (l2 : Int32) (w : MEM) : f_X10_wrong fu l0 l1 l2 w = if (rS w (11005, l0)) = (-1 : Int32) then (lt (sS w (11005, l0) l2) fun (w1 : MEM) => lt (sS w1 (11006, l0) l1) fun (w2 : MEM) => some ((), w2)) else (some ((), w)) := rfl
theorem w_X10_wrong {X : SCR} {d rc rs : Nat} {Q : PO → PH → Prop} {o : Unit} {w1 : MEM} {fu : Nat} (hd : 0 ≤ d) (hq : ∀ h1, WH X h1 w1 → Q (.inl none) h1) {l0 : Nat} {l1 : Int32} {l2 : Int32} {w : MEM} {h : PH} (wh : WH X h w) (hv_l0 : vo 10 l0 = true) (hF : f_X10_wrong fu l0 l1 l2 w = some (o, w1)) : PW d M_X10_wrong Q rc rs 0 [vR (1000, l0), vI l1, vI l2] [] h := by
  replace hF := (E_X10_wrong fu l0 l1 l2 w).symm.trans hF
  refine r_X10_wrong_0 ?_
  refine gI_of (wh.1 11005 _ rfl hv_l0) ?_
  refine ⟨fun c => ?_, fun c => ?_⟩
  · replace hF := if_ofT c hF
    replace hF := lt_of hF
    refine sF_S wh rfl hv_l0 ?_
    clear wh
    intro h wh
    replace hF := lt_of hF
    refine sF_S wh rfl hv_l0 ?_
    clear wh
    intro h wh
    obtain ⟨rfl, rfl⟩ := some_of hF
    exact hq _ wh
  · replace hF := if_ofF c hF
    obtain ⟨rfl, rfl⟩ := some_of hF
    exact hq _ wh
theorem c_X10_wrong {X : SCR} {fu : Nat} {o : Unit} {w1 : MEM} {a0 : Nat} {a1 : Int32} {a2 : Int32} {w : MEM} {h : PH} (wh : WH X h w) (h0 : vo 10 a0 = true) (hF : f_X10_wrong fu a0 a1 a2 w = some (o, w1)) : CT 0 M_X10_wrong [vR (1000, a0), vI a1, vI a2] h 0 0 (QP X (.inl none) w1) :=
  CT_of mk_X10_wrong (Nat.le_of_ble_eq_true rfl) rfl (w_X10_wrong (fu := fu) (rc := 0) (rs := 0) (hd := Nat.le_refl 0) (hq := fun h1 g => ⟨rfl, g⟩) wh h0 hF)
-- X10_here
def f_X10_here_0 (fu : Nat) : Nat → Nat → MEM → Option (Int32 × MEM)
  | 0, _, _ => none
  | n + 1, l0, w => if (rS w (11004, l0)) < (rS w (11003, l0)) then (ck (bI (rS w (11004, l0)) 600) (if (rA w (1002, l0) (rS w (11004, l0))) = (32 : Int32) then (lt (sS w (11004, l0) ((rS w (11004, l0)) + (1 : Int32))) fun (w1 : MEM) => f_X10_here_0 fu n l0 w1) else (if (rS w (11004, l0)) < (rS w (11003, l0)) then (ck (bI (rS w (11004, l0)) 600) (some ((rA w (1002, l0) (rS w (11004, l0))), w))) else (some ((0 : Int32), w))))) else (if (rS w (11004, l0)) < (rS w (11003, l0)) then (ck (bI (rS w (11004, l0)) 600) (some ((rA w (1002, l0) (rS w (11004, l0))), w))) else (some ((0 : Int32), w)))
theorem E_X10_here_0 (fu : Nat) (n : Nat) (l0 : Nat) (w : MEM) : f_X10_here_0 fu (n + 1) l0 w = if (rS w (11004, l0)) < (rS w (11003, l0)) then (ck (bI (rS w (11004, l0)) 600) (if (rA w (1002, l0) (rS w (11004, l0))) = (32 : Int32) then (lt (sS w (11004, l0) ((rS w (11004, l0)) + (1 : Int32))) fun (w1 : MEM) => f_X10_here_0 fu n l0 w1) else (if (rS w (11004, l0)) < (rS w (11003, l0)) then (ck (bI (rS w (11004, l0)) 600) (some ((rA w (1002, l0) (rS w (11004, l0))), w))) else (some ((0 : Int32), w))))) else (if (rS w (11004, l0)) < (rS w (11003, l0)) then (ck (bI (rS w (11004, l0)) 600) (some ((rA w (1002, l0) (rS w (11004, l0))), w))) else (some ((0 : Int32), w))) := rfl
theorem w_X10_here_0 {X : SCR} {d rc rs : Nat} {Q : PO → PH → Prop} {o : Int32} {w1 : MEM} {fu : Nat} (hd : 0 ≤ d) (hq : ∀ h1, WH X h1 w1 → Q (.inl (some (vI o))) h1) : ∀ (n : Nat) (l0 : Nat) (w : MEM) (h : PH), WH X h w → vo 10 l0 = true → f_X10_here_0 fu n l0 w = some (o, w1) → PW d M_X10_here Q rc rs 0 [vR (1000, l0)] [] h := by
  intro n
  induction n with
  | zero => intro l0 w h wh hv_l0 hF; cases hF
  | succ n ih =>
    intro l0 w h wh hv_l0 hF
    replace hF := (E_X10_here_0 fu n l0 w).symm.trans hF
    refine r_X10_here_0 ?_
    refine gI_of (wh.1 11004 _ rfl hv_l0) ?_
    refine gI_of (wh.1 11003 _ rfl hv_l0) ?_
    refine ⟨fun c => ?_, fun c => ?_⟩
    · replace hF := if_ofT c hF
      refine gA_of (b := (1002, l0)) (wh.2.1 11009 _ rfl hv_l0) ?_
      refine gI_of (wh.1 11004 _ rfl hv_l0) ?_
      obtain ⟨c, hF⟩ := ck_of hF
      refine xI_of wh (oA_1002 hv_l0) c ?_
      clear c
      refine ⟨fun c => ?_, fun c => ?_⟩
      · replace hF := if_ofT c hF
        refine gI_of (wh.1 11004 _ rfl hv_l0) ?_
        replace hF := lt_of hF
        refine sF_S wh rfl hv_l0 ?_
        clear wh
        intro h wh
        exact ih _ _ _ wh hv_l0 hF
      · replace hF := if_ofF c hF
        refine gI_of (wh.1 11004 _ rfl hv_l0) ?_
        refine gI_of (wh.1 11003 _ rfl hv_l0) ?_
        refine ⟨fun c => ?_, fun c => ?_⟩
        · replace hF := if_ofT c hF
          refine gA_of (b := (1002, l0)) (wh.2.1 11009 _ rfl hv_l0) ?_
          refine gI_of (wh.1 11004 _ rfl hv_l0) ?_
          obtain ⟨c, hF⟩ := ck_of hF
          refine xI_of wh (oA_1002 hv_l0) c ?_
          clear c
          obtain ⟨rfl, rfl⟩ := some_of hF
          exact hq _ wh
        · replace hF := if_ofF c hF
          obtain ⟨rfl, rfl⟩ := some_of hF
          exact hq _ wh
    · replace hF := if_ofF c hF
      refine gI_of (wh.1 11004 _ rfl hv_l0) ?_
      refine gI_of (wh.1 11003 _ rfl hv_l0) ?_
      refine ⟨fun c => ?_, fun c => ?_⟩
      · replace hF := if_ofT c hF
        refine gA_of (b := (1002, l0)) (wh.2.1 11009 _ rfl hv_l0) ?_
        refine gI_of (wh.1 11004 _ rfl hv_l0) ?_
        obtain ⟨c, hF⟩ := ck_of hF
        refine xI_of wh (oA_1002 hv_l0) c ?_
        clear c
        obtain ⟨rfl, rfl⟩ := some_of hF
        exact hq _ wh
      · replace hF := if_ofF c hF
        obtain ⟨rfl, rfl⟩ := some_of hF
        exact hq _ wh
def f_X10_here (fu : Nat) (a0 : Nat) (w : MEM) : Option (Int32 × MEM) := f_X10_here_0 fu fu a0 w
theorem w_X10_here {X : SCR} {d rc rs : Nat} {Q : PO → PH → Prop} {o : Int32} {w1 : MEM} {fu : Nat} (hd : 0 ≤ d) (hq : ∀ h1, WH X h1 w1 → Q (.inl (some (vI o))) h1) {a0 : Nat} {w : MEM} {h : PH} (wh : WH X h w) (h0 : vo 10 a0 = true) (hF : f_X10_here fu a0 w = some (o, w1)) : PW d M_X10_here Q rc rs 0 [vR (1000, a0)] [] h := w_X10_here_0 hd hq fu _ _ _ wh h0 hF
theorem c_X10_here {X : SCR} {fu : Nat} {o : Int32} {w1 : MEM} {a0 : Nat} {w : MEM} {h : PH} (wh : WH X h w) (h0 : vo 10 a0 = true) (hF : f_X10_here fu a0 w = some (o, w1)) : CT 0 M_X10_here [vR (1000, a0)] h 0 0 (QP X (.inl (some (vI o))) w1) :=
  CT_of mk_X10_here (Nat.le_of_ble_eq_true rfl) rfl (w_X10_here (fu := fu) (rc := 0) (rs := 0) (hd := Nat.le_refl 0) (hq := fun h1 g => ⟨rfl, g⟩) wh h0 hF)
-- X10_isSmall
def f_X10_isSmall (fu : Nat) (l0 : Int32) (w : MEM) : Option (Int32 × MEM) := if l0 < (97 : Int32) then (some ((0 : Int32), w)) else (if (122 : Int32) < l0 then (some ((0 : Int32), w)) else (some ((1 : Int32), w)))
theorem E_X10_isSmall (fu : Nat) (l0 : Int32) (w : MEM) : f_X10_isSmall fu l0 w = if l0 < (97 : Int32) then (some ((0 : Int32), w)) else (if (122 : Int32) < l0 then (some ((0 : Int32), w)) else (some ((1 : Int32), w))) := rfl
theorem w_X10_isSmall {X : SCR} {d rc rs : Nat} {Q : PO → PH → Prop} {o : Int32} {w1 : MEM} {fu : Nat} (hd : 0 ≤ d) (hq : ∀ h1, WH X h1 w1 → Q (.inl (some (vI o))) h1) {l0 : Int32} {w : MEM} {h : PH} (wh : WH X h w)  (hF : f_X10_isSmall fu l0 w = some (o, w1)) : PW d M_X10_isSmall Q rc rs 0 [vI l0] [] h := by
  replace hF := (E_X10_isSmall fu l0 w).symm.trans hF
  refine r_X10_isSmall_0 ?_
  refine ⟨fun c => ?_, fun c => ?_⟩
  · replace hF := if_ofT c hF
    obtain ⟨rfl, rfl⟩ := some_of hF
    exact hq _ wh
  · replace hF := if_ofF c hF
    refine ⟨fun c => ?_, fun c => ?_⟩
    · replace hF := if_ofT c hF
      obtain ⟨rfl, rfl⟩ := some_of hF
      exact hq _ wh
    · replace hF := if_ofF c hF
      obtain ⟨rfl, rfl⟩ := some_of hF
      exact hq _ wh
theorem c_X10_isSmall {X : SCR} {fu : Nat} {o : Int32} {w1 : MEM} {a0 : Int32} {w : MEM} {h : PH} (wh : WH X h w)  (hF : f_X10_isSmall fu a0 w = some (o, w1)) : CT 0 M_X10_isSmall [vI a0] h 0 0 (QP X (.inl (some (vI o))) w1) :=
  CT_of mk_X10_isSmall (Nat.le_of_ble_eq_true rfl) rfl (w_X10_isSmall (fu := fu) (rc := 0) (rs := 0) (hd := Nat.le_refl 0) (hq := fun h1 g => ⟨rfl, g⟩) wh  hF)
-- X10_isDigit
def f_X10_isDigit (fu : Nat) (l0 : Int32) (w : MEM) : Option (Int32 × MEM) := if l0 < (48 : Int32) then (some ((0 : Int32), w)) else (if (57 : Int32) < l0 then (some ((0 : Int32), w)) else (some ((1 : Int32), w)))
theorem E_X10_isDigit (fu : Nat) (l0 : Int32) (w : MEM) : f_X10_isDigit fu l0 w = if l0 < (48 : Int32) then (some ((0 : Int32), w)) else (if (57 : Int32) < l0 then (some ((0 : Int32), w)) else (some ((1 : Int32), w))) := rfl
theorem w_X10_isDigit {X : SCR} {d rc rs : Nat} {Q : PO → PH → Prop} {o : Int32} {w1 : MEM} {fu : Nat} (hd : 0 ≤ d) (hq : ∀ h1, WH X h1 w1 → Q (.inl (some (vI o))) h1) {l0 : Int32} {w : MEM} {h : PH} (wh : WH X h w)  (hF : f_X10_isDigit fu l0 w = some (o, w1)) : PW d M_X10_isDigit Q rc rs 0 [vI l0] [] h := by
  replace hF := (E_X10_isDigit fu l0 w).symm.trans hF
  refine r_X10_isDigit_0 ?_
  refine ⟨fun c => ?_, fun c => ?_⟩
  · replace hF := if_ofT c hF
    obtain ⟨rfl, rfl⟩ := some_of hF
    exact hq _ wh
  · replace hF := if_ofF c hF
    refine ⟨fun c => ?_, fun c => ?_⟩
    · replace hF := if_ofT c hF
      obtain ⟨rfl, rfl⟩ := some_of hF
      exact hq _ wh
    · replace hF := if_ofF c hF
      obtain ⟨rfl, rfl⟩ := some_of hF
      exact hq _ wh
theorem c_X10_isDigit {X : SCR} {fu : Nat} {o : Int32} {w1 : MEM} {a0 : Int32} {w : MEM} {h : PH} (wh : WH X h w)  (hF : f_X10_isDigit fu a0 w = some (o, w1)) : CT 0 M_X10_isDigit [vI a0] h 0 0 (QP X (.inl (some (vI o))) w1) :=
  CT_of mk_X10_isDigit (Nat.le_of_ble_eq_true rfl) rfl (w_X10_isDigit (fu := fu) (rc := 0) (rs := 0) (hd := Nat.le_refl 0) (hq := fun h1 g => ⟨rfl, g⟩) wh  hF)
-- X10_word
def f_X10_word_14 (fu : Nat) : Nat → Nat → Int32 → Int32 → Int32 → MEM → Option (Int32 × MEM)
  | 0, _, _, _, _, _ => none
  | n + 1, l0, l1, l2, l3, w => if l3 < (rS w (11003, l0)) then (ck (bI l3 600) (bnd (f_X10_isSmall fu (rA w (1002, l0) l3) w) fun (x2 : Int32) (w1 : MEM) => if x2 = 0 then (if (6 : Int32) < l2 then (some ((0 : Int32), w1)) else (some (l1, w1))) else (if l2 < (6 : Int32) then (ck (bI l3 600) (lt (((l1 <<< ((5 : Int32) &&& 31)) ||| ((rA w1 (1002, l0) l3) - (96 : Int32)))) fun (v3 : Int32) => f_X10_word_14 fu n l0 v3 (l2 + (1 : Int32)) (l3 + (1 : Int32)) w1)) else (f_X10_word_14 fu n l0 (0 : Int32) (l2 + (1 : Int32)) (l3 + (1 : Int32)) w1)))) else (if (6 : Int32) < l2 then (some ((0 : Int32), w)) else (some (l1, w)))
theorem E_X10_word_14 (fu : Nat) (n : Nat) (l0 : Nat) (l1 : Int32) (l2 : Int32) (l3 : Int32) (w : MEM) : f_X10_word_14 fu (n + 1) l0 l1 l2 l3 w = if l3 < (rS w (11003, l0)) then (ck (bI l3 600) (bnd (f_X10_isSmall fu (rA w (1002, l0) l3) w) fun (x2 : Int32) (w1 : MEM) => if x2 = 0 then (if (6 : Int32) < l2 then (some ((0 : Int32), w1)) else (some (l1, w1))) else (if l2 < (6 : Int32) then (ck (bI l3 600) (lt (((l1 <<< ((5 : Int32) &&& 31)) ||| ((rA w1 (1002, l0) l3) - (96 : Int32)))) fun (v3 : Int32) => f_X10_word_14 fu n l0 v3 (l2 + (1 : Int32)) (l3 + (1 : Int32)) w1)) else (f_X10_word_14 fu n l0 (0 : Int32) (l2 + (1 : Int32)) (l3 + (1 : Int32)) w1)))) else (if (6 : Int32) < l2 then (some ((0 : Int32), w)) else (some (l1, w))) := rfl
theorem w_X10_word_14 {X : SCR} {d rc rs : Nat} {Q : PO → PH → Prop} {o : Int32} {w1 : MEM} {fu : Nat} (hd : 1 ≤ d) (hq : ∀ h1, WH X h1 w1 → Q (.inl (some (vI o))) h1) : ∀ (n : Nat) (l0 : Nat) (l1 : Int32) (l2 : Int32) (l3 : Int32) (w : MEM) (h : PH), WH X h w → vo 10 l0 = true → f_X10_word_14 fu n l0 l1 l2 l3 w = some (o, w1) → PW d M_X10_word Q rc rs 14 [vR (1000, l0), vI l1, vI l2, vI l3] [] h := by
  intro n
  induction n with
  | zero => intro l0 l1 l2 l3 w h wh hv_l0 hF; cases hF
  | succ n ih =>
    intro l0 l1 l2 l3 w h wh hv_l0 hF
    replace hF := (E_X10_word_14 fu n l0 l1 l2 l3 w).symm.trans hF
    refine r_X10_word_14 ?_
    refine gI_of (wh.1 11003 _ rfl hv_l0) ?_
    refine ⟨fun c => ?_, fun c => ?_⟩
    · replace hF := if_ofT c hF
      refine gA_of (b := (1002, l0)) (wh.2.1 11009 _ rfl hv_l0) ?_
      obtain ⟨c, hF⟩ := ck_of hF
      refine xI_of wh (oA_1002 hv_l0) c ?_
      clear c
      obtain ⟨x2, w1, hG, hF⟩ := bnd_of hF
      refine cl_I (D := 0) (Nat.le_trans (by decide) hd) (c_X10_isSmall wh  hG) ?_
      clear hG
      clear wh
      intro h wh
      refine ⟨fun c => ?_, fun c => ?_⟩
      · replace hF := if_ofT c hF
        refine ⟨fun c => ?_, fun c => ?_⟩
        · replace hF := if_ofT c hF
          obtain ⟨rfl, rfl⟩ := some_of hF
          exact hq _ wh
        · replace hF := if_ofF c hF
          obtain ⟨rfl, rfl⟩ := some_of hF
          exact hq _ wh
      · replace hF := if_ofF c hF
        refine ⟨fun c => ?_, fun c => ?_⟩
        · replace hF := if_ofT c hF
          refine gA_of (b := (1002, l0)) (wh.2.1 11009 _ rfl hv_l0) ?_
          obtain ⟨c, hF⟩ := ck_of hF
          refine xI_of wh (oA_1002 hv_l0) c ?_
          clear c
          replace hF := lt_of hF
          exact ih _ _ _ _ _ _ wh hv_l0 hF
        · replace hF := if_ofF c hF
          exact ih _ _ _ _ _ _ wh hv_l0 hF
    · replace hF := if_ofF c hF
      refine ⟨fun c => ?_, fun c => ?_⟩
      · replace hF := if_ofT c hF
        obtain ⟨rfl, rfl⟩ := some_of hF
        exact hq _ wh
      · replace hF := if_ofF c hF
        obtain ⟨rfl, rfl⟩ := some_of hF
        exact hq _ wh
def f_X10_word (fu : Nat) (l0 : Nat) (w : MEM) : Option (Int32 × MEM) := bnd (f_X10_here fu l0 w) fun (x2 : Int32) (w1 : MEM) => lt ((rS w1 (11004, l0))) fun (v3 : Int32) => f_X10_word_14 fu fu l0 (0 : Int32) (0 : Int32) v3 w1
theorem E_X10_word (fu : Nat) (l0 : Nat) (w : MEM) : f_X10_word fu l0 w = bnd (f_X10_here fu l0 w) fun (x2 : Int32) (w1 : MEM) => lt ((rS w1 (11004, l0))) fun (v3 : Int32) => f_X10_word_14 fu fu l0 (0 : Int32) (0 : Int32) v3 w1 := rfl
theorem w_X10_word {X : SCR} {d rc rs : Nat} {Q : PO → PH → Prop} {o : Int32} {w1 : MEM} {fu : Nat} (hd : 1 ≤ d) (hq : ∀ h1, WH X h1 w1 → Q (.inl (some (vI o))) h1) {l0 : Nat} {w : MEM} {h : PH} (wh : WH X h w) (hv_l0 : vo 10 l0 = true) (hF : f_X10_word fu l0 w = some (o, w1)) : PW d M_X10_word Q rc rs 0 [vR (1000, l0), vU, vU, vU] [] h := by
  replace hF := (E_X10_word fu l0 w).symm.trans hF
  refine r_X10_word_0 ?_
  refine ⟨⟨_, wh.1 11000 _ rfl hv_l0⟩, ?_⟩
  obtain ⟨x2, w1, hG, hF⟩ := bnd_of hF
  refine cl_I (D := 0) (Nat.le_trans (by decide) hd) (c_X10_here wh hv_l0 hG) ?_
  clear hG
  clear wh
  intro h wh
  refine gI_of (wh.1 11004 _ rfl hv_l0) ?_
  replace hF := lt_of hF
  exact w_X10_word_14 hd hq  fu _ _ _ _ _ _ wh hv_l0 hF
theorem c_X10_word {X : SCR} {fu : Nat} {o : Int32} {w1 : MEM} {a0 : Nat} {w : MEM} {h : PH} (wh : WH X h w) (h0 : vo 10 a0 = true) (hF : f_X10_word fu a0 w = some (o, w1)) : CT 1 M_X10_word [vR (1000, a0)] h 0 0 (QP X (.inl (some (vI o))) w1) :=
  CT_of mk_X10_word (Nat.le_of_ble_eq_true rfl) rfl (w_X10_word (fu := fu) (rc := 0) (rs := 0) (hd := Nat.le_refl 1) (hq := fun h1 g => ⟨rfl, g⟩) wh h0 hF)
-- X10_of
def f_X10_of_4 (fu : Nat) : Nat → Nat → Int32 → Int32 → MEM → Option (Int32 × MEM)
  | 0, _, _, _, _ => none
  | n + 1, l0, l1, l2, w => bnd (f_J0_length_8abf5 fu l0 w) fun (x2 : Int32) (w1 : MEM) => if l2 < x2 then (bnd (f_J0_charAt_5068e fu l0 l2 w1) fun (x4 : Int32) (w3 : MEM) => lt (((l1 <<< ((5 : Int32) &&& 31)) ||| (x4 - (96 : Int32)))) fun (v5 : Int32) => f_X10_of_4 fu n l0 v5 (l2 + (1 : Int32)) w3) else (some (l1, w1))
theorem E_X10_of_4 (fu : Nat) (n : Nat) (l0 : Nat) (l1 : Int32) (l2 : Int32) (w : MEM) : f_X10_of_4 fu (n + 1) l0 l1 l2 w = bnd (f_J0_length_8abf5 fu l0 w) fun (x2 : Int32) (w1 : MEM) => if l2 < x2 then (bnd (f_J0_charAt_5068e fu l0 l2 w1) fun (x4 : Int32) (w3 : MEM) => lt (((l1 <<< ((5 : Int32) &&& 31)) ||| (x4 - (96 : Int32)))) fun (v5 : Int32) => f_X10_of_4 fu n l0 v5 (l2 + (1 : Int32)) w3) else (some (l1, w1)) := rfl
theorem w_X10_of_4 {X : SCR} {d rc rs : Nat} {Q : PO → PH → Prop} {o : Int32} {w1 : MEM} {fu : Nat} (hd : 6 ≤ d) (hq : ∀ h1, WH X h1 w1 → Q (.inl (some (vI o))) h1) : ∀ (n : Nat) (l0 : Nat) (l1 : Int32) (l2 : Int32) (w : MEM) (h : PH), WH X h w → l0 < 21 → f_X10_of_4 fu n l0 l1 l2 w = some (o, w1) → PW d M_X10_of Q rc rs 4 [vR (1200, l0), vI l1, vI l2] [] h := by
  intro n
  induction n with
  | zero => intro l0 l1 l2 w h wh hs_l0 hF; cases hF
  | succ n ih =>
    intro l0 l1 l2 w h wh hs_l0 hF
    replace hF := (E_X10_of_4 fu n l0 l1 l2 w).symm.trans hF
    refine r_X10_of_4 hs_l0 ?_
    obtain ⟨x2, w1, hG, hF⟩ := bnd_of hF
    refine cl_I (D := 2) (Nat.le_trans (by decide) hd) (c_J0_length_8abf5 wh hs_l0 hG) ?_
    clear hG
    clear wh
    intro h wh
    refine ⟨fun c => ?_, fun c => ?_⟩
    · replace hF := if_ofT c hF
      obtain ⟨x4, w3, hG, hF⟩ := bnd_of hF
      refine cl_I (D := 5) (Nat.le_trans (by decide) hd) (c_J0_charAt_5068e wh hs_l0 hG) ?_
      clear hG
      clear wh
      intro h wh
      replace hF := lt_of hF
      exact ih _ _ _ _ _ wh hs_l0 hF
    · replace hF := if_ofF c hF
      obtain ⟨rfl, rfl⟩ := some_of hF
      exact hq _ wh
def f_X10_of (fu : Nat) (l0 : Nat) (w : MEM) : Option (Int32 × MEM) := f_X10_of_4 fu fu l0 (0 : Int32) (0 : Int32) w
theorem E_X10_of (fu : Nat) (l0 : Nat) (w : MEM) : f_X10_of fu l0 w = f_X10_of_4 fu fu l0 (0 : Int32) (0 : Int32) w := rfl
theorem w_X10_of {X : SCR} {d rc rs : Nat} {Q : PO → PH → Prop} {o : Int32} {w1 : MEM} {fu : Nat} (hd : 6 ≤ d) (hq : ∀ h1, WH X h1 w1 → Q (.inl (some (vI o))) h1) {l0 : Nat} {w : MEM} {h : PH} (wh : WH X h w) (hs_l0 : l0 < 21) (hF : f_X10_of fu l0 w = some (o, w1)) : PW d M_X10_of Q rc rs 0 [vR (1200, l0), vU, vU] [] h := by
  replace hF := (E_X10_of fu l0 w).symm.trans hF
  refine r_X10_of_0 hs_l0 ?_
  exact w_X10_of_4 hd hq  fu _ _ _ _ _ wh hs_l0 hF
theorem c_X10_of {X : SCR} {fu : Nat} {o : Int32} {w1 : MEM} {a0 : Nat} {w : MEM} {h : PH} (wh : WH X h w) (h0 : a0 < 21) (hF : f_X10_of fu a0 w = some (o, w1)) : CT 6 M_X10_of [vR (1200, a0)] h 0 0 (QP X (.inl (some (vI o))) w1) :=
  CT_of mk_X10_of (Nat.le_of_ble_eq_true rfl) rfl (w_X10_of (fu := fu) (rc := 0) (rs := 0) (hd := Nat.le_refl 6) (hq := fun h1 g => ⟨rfl, g⟩) wh h0 hF)
-- X10_pass
def f_X10_pass_0 (fu : Nat) : Nat → Nat → MEM → Option (Unit × MEM)
  | 0, _, _ => none
  | n + 1, l0, w => if (rS w (11004, l0)) < (rS w (11003, l0)) then (ck (bI (rS w (11004, l0)) 600) (bnd (f_X10_isSmall fu (rA w (1002, l0) (rS w (11004, l0))) w) fun (x2 : Int32) (w1 : MEM) => if x2 = 0 then (some ((), w1)) else (lt (sS w1 (11004, l0) ((rS w1 (11004, l0)) + (1 : Int32))) fun (w3 : MEM) => f_X10_pass_0 fu n l0 w3))) else (some ((), w))
theorem E_X10_pass_0 (fu : Nat) (n : Nat) (l0 : Nat) (w : MEM) : f_X10_pass_0 fu (n + 1) l0 w = if (rS w (11004, l0)) < (rS w (11003, l0)) then (ck (bI (rS w (11004, l0)) 600) (bnd (f_X10_isSmall fu (rA w (1002, l0) (rS w (11004, l0))) w) fun (x2 : Int32) (w1 : MEM) => if x2 = 0 then (some ((), w1)) else (lt (sS w1 (11004, l0) ((rS w1 (11004, l0)) + (1 : Int32))) fun (w3 : MEM) => f_X10_pass_0 fu n l0 w3))) else (some ((), w)) := rfl
theorem w_X10_pass_0 {X : SCR} {d rc rs : Nat} {Q : PO → PH → Prop} {o : Unit} {w1 : MEM} {fu : Nat} (hd : 1 ≤ d) (hq : ∀ h1, WH X h1 w1 → Q (.inl none) h1) : ∀ (n : Nat) (l0 : Nat) (w : MEM) (h : PH), WH X h w → vo 10 l0 = true → f_X10_pass_0 fu n l0 w = some (o, w1) → PW d M_X10_pass Q rc rs 0 [vR (1000, l0)] [] h := by
  intro n
  induction n with
  | zero => intro l0 w h wh hv_l0 hF; cases hF
  | succ n ih =>
    intro l0 w h wh hv_l0 hF
    replace hF := (E_X10_pass_0 fu n l0 w).symm.trans hF
    refine r_X10_pass_0 ?_
    refine gI_of (wh.1 11004 _ rfl hv_l0) ?_
    refine gI_of (wh.1 11003 _ rfl hv_l0) ?_
    refine ⟨fun c => ?_, fun c => ?_⟩
    · replace hF := if_ofT c hF
      refine gA_of (b := (1002, l0)) (wh.2.1 11009 _ rfl hv_l0) ?_
      refine gI_of (wh.1 11004 _ rfl hv_l0) ?_
      obtain ⟨c, hF⟩ := ck_of hF
      refine xI_of wh (oA_1002 hv_l0) c ?_
      clear c
      obtain ⟨x2, w1, hG, hF⟩ := bnd_of hF
      refine cl_I (D := 0) (Nat.le_trans (by decide) hd) (c_X10_isSmall wh  hG) ?_
      clear hG
      clear wh
      intro h wh
      refine ⟨fun c => ?_, fun c => ?_⟩
      · replace hF := if_ofT c hF
        obtain ⟨rfl, rfl⟩ := some_of hF
        exact hq _ wh
      · replace hF := if_ofF c hF
        refine gI_of (wh.1 11004 _ rfl hv_l0) ?_
        replace hF := lt_of hF
        refine sF_S wh rfl hv_l0 ?_
        clear wh
        intro h wh
        exact ih _ _ _ wh hv_l0 hF
    · replace hF := if_ofF c hF
      obtain ⟨rfl, rfl⟩ := some_of hF
      exact hq _ wh
def f_X10_pass (fu : Nat) (a0 : Nat) (w : MEM) : Option (Unit × MEM) := f_X10_pass_0 fu fu a0 w
theorem w_X10_pass {X : SCR} {d rc rs : Nat} {Q : PO → PH → Prop} {o : Unit} {w1 : MEM} {fu : Nat} (hd : 1 ≤ d) (hq : ∀ h1, WH X h1 w1 → Q (.inl none) h1) {a0 : Nat} {w : MEM} {h : PH} (wh : WH X h w) (h0 : vo 10 a0 = true) (hF : f_X10_pass fu a0 w = some (o, w1)) : PW d M_X10_pass Q rc rs 0 [vR (1000, a0)] [] h := w_X10_pass_0 hd hq fu _ _ _ wh h0 hF
theorem c_X10_pass {X : SCR} {fu : Nat} {o : Unit} {w1 : MEM} {a0 : Nat} {w : MEM} {h : PH} (wh : WH X h w) (h0 : vo 10 a0 = true) (hF : f_X10_pass fu a0 w = some (o, w1)) : CT 1 M_X10_pass [vR (1000, a0)] h 0 0 (QP X (.inl none) w1) :=
  CT_of mk_X10_pass (Nat.le_of_ble_eq_true rfl) rfl (w_X10_pass (fu := fu) (rc := 0) (rs := 0) (hd := Nat.le_refl 1) (hq := fun h1 g => ⟨rfl, g⟩) wh h0 hF)
-- X10_readNumber
def f_X10_readNumber_41 (fu : Nat) : Nat → Nat → Int32 → Int32 → Int32 → Int32 → MEM → Option (Int32 × MEM)
  | 0, _, _, _, _, _, _ => none
  | n + 1, l0, l1, l2, l4, l5, w => if (rS w (11004, l0)) < (rS w (11003, l0)) then (ck (bI (rS w (11004, l0)) 600) (bnd (f_X10_isDigit fu (rA w (1002, l0) (rS w (11004, l0))) w) fun (x6 : Int32) (w5 : MEM) => if x6 = 0 then (if l5 < l1 then (bnd (f_X10_wrong fu l0 (2 : Int32) l4 w5) fun (u8 : Unit) (w7 : MEM) => some ((0 : Int32), w7)) else (if l2 < l5 then (bnd (f_X10_wrong fu l0 (2 : Int32) l4 w5) fun (u10 : Unit) (w9 : MEM) => some ((0 : Int32), w9)) else (some (l5, w5)))) else (if (9999 : Int32) < l5 then (lt (sS w5 (11004, l0) ((rS w5 (11004, l0)) + (1 : Int32))) fun (w13 : MEM) => f_X10_readNumber_41 fu n l0 l1 l2 l4 (10000 : Int32) w13) else (ck (bI (rS w5 (11004, l0)) 600) (lt (((((10 : Int32) * l5) + (rA w5 (1002, l0) (rS w5 (11004, l0)))) - (48 : Int32))) fun (v11 : Int32) => lt (sS w5 (11004, l0) ((rS w5 (11004, l0)) + (1 : Int32))) fun (w12 : MEM) => f_X10_readNumber_41 fu n l0 l1 l2 l4 v11 w12))))) else (if l5 < l1 then (bnd (f_X10_wrong fu l0 (2 : Int32) l4 w) fun (u2 : Unit) (w1 : MEM) => some ((0 : Int32), w1)) else (if l2 < l5 then (bnd (f_X10_wrong fu l0 (2 : Int32) l4 w) fun (u4 : Unit) (w3 : MEM) => some ((0 : Int32), w3)) else (some (l5, w))))
theorem E_X10_readNumber_41 (fu : Nat) (n : Nat) (l0 : Nat) (l1 : Int32) (l2 : Int32) (l4 : Int32) (l5 : Int32) (w : MEM) : f_X10_readNumber_41 fu (n + 1) l0 l1 l2 l4 l5 w = if (rS w (11004, l0)) < (rS w (11003, l0)) then (ck (bI (rS w (11004, l0)) 600) (bnd (f_X10_isDigit fu (rA w (1002, l0) (rS w (11004, l0))) w) fun (x6 : Int32) (w5 : MEM) => if x6 = 0 then (if l5 < l1 then (bnd (f_X10_wrong fu l0 (2 : Int32) l4 w5) fun (u8 : Unit) (w7 : MEM) => some ((0 : Int32), w7)) else (if l2 < l5 then (bnd (f_X10_wrong fu l0 (2 : Int32) l4 w5) fun (u10 : Unit) (w9 : MEM) => some ((0 : Int32), w9)) else (some (l5, w5)))) else (if (9999 : Int32) < l5 then (lt (sS w5 (11004, l0) ((rS w5 (11004, l0)) + (1 : Int32))) fun (w13 : MEM) => f_X10_readNumber_41 fu n l0 l1 l2 l4 (10000 : Int32) w13) else (ck (bI (rS w5 (11004, l0)) 600) (lt (((((10 : Int32) * l5) + (rA w5 (1002, l0) (rS w5 (11004, l0)))) - (48 : Int32))) fun (v11 : Int32) => lt (sS w5 (11004, l0) ((rS w5 (11004, l0)) + (1 : Int32))) fun (w12 : MEM) => f_X10_readNumber_41 fu n l0 l1 l2 l4 v11 w12))))) else (if l5 < l1 then (bnd (f_X10_wrong fu l0 (2 : Int32) l4 w) fun (u2 : Unit) (w1 : MEM) => some ((0 : Int32), w1)) else (if l2 < l5 then (bnd (f_X10_wrong fu l0 (2 : Int32) l4 w) fun (u4 : Unit) (w3 : MEM) => some ((0 : Int32), w3)) else (some (l5, w)))) := rfl
theorem w_X10_readNumber_41 {X : SCR} {d rc rs : Nat} {Q : PO → PH → Prop} {o : Int32} {w1 : MEM} {fu : Nat} (hd : 1 ≤ d) (hq : ∀ h1, WH X h1 w1 → Q (.inl (some (vI o))) h1) : ∀ (n : Nat) (l0 : Nat) (l1 : Int32) (l2 : Int32) (l4 : Int32) (l5 : Int32) (w : MEM) (h : PH), WH X h w → vo 10 l0 = true → f_X10_readNumber_41 fu n l0 l1 l2 l4 l5 w = some (o, w1) → PW d M_X10_readNumber Q rc rs 41 [vR (1000, l0), vI l1, vI l2, vU, vI l4, vI l5] [] h := by
  intro n
  induction n with
  | zero => intro l0 l1 l2 l4 l5 w h wh hv_l0 hF; cases hF
  | succ n ih =>
    intro l0 l1 l2 l4 l5 w h wh hv_l0 hF
    replace hF := (E_X10_readNumber_41 fu n l0 l1 l2 l4 l5 w).symm.trans hF
    refine r_X10_readNumber_41 ?_
    refine gI_of (wh.1 11004 _ rfl hv_l0) ?_
    refine gI_of (wh.1 11003 _ rfl hv_l0) ?_
    refine ⟨fun c => ?_, fun c => ?_⟩
    · replace hF := if_ofT c hF
      refine gA_of (b := (1002, l0)) (wh.2.1 11009 _ rfl hv_l0) ?_
      refine gI_of (wh.1 11004 _ rfl hv_l0) ?_
      obtain ⟨c, hF⟩ := ck_of hF
      refine xI_of wh (oA_1002 hv_l0) c ?_
      clear c
      obtain ⟨x6, w5, hG, hF⟩ := bnd_of hF
      refine cl_I (D := 0) (Nat.le_trans (by decide) hd) (c_X10_isDigit wh  hG) ?_
      clear hG
      clear wh
      intro h wh
      refine ⟨fun c => ?_, fun c => ?_⟩
      · replace hF := if_ofT c hF
        refine ⟨fun c => ?_, fun c => ?_⟩
        · replace hF := if_ofT c hF
          refine ⟨⟨_, wh.1 11000 _ rfl hv_l0⟩, ?_⟩
          obtain ⟨u8, w7, hG, hF⟩ := bnd_of hF
          refine cl_V (D := 0) (Nat.le_trans (by decide) hd) (c_X10_wrong wh hv_l0 hG) ?_
          clear hG
          clear wh
          intro h wh
          obtain ⟨rfl, rfl⟩ := some_of hF
          exact hq _ wh
        · replace hF := if_ofF c hF
          refine ⟨fun c => ?_, fun c => ?_⟩
          · replace hF := if_ofT c hF
            refine ⟨⟨_, wh.1 11000 _ rfl hv_l0⟩, ?_⟩
            obtain ⟨u10, w9, hG, hF⟩ := bnd_of hF
            refine cl_V (D := 0) (Nat.le_trans (by decide) hd) (c_X10_wrong wh hv_l0 hG) ?_
            clear hG
            clear wh
            intro h wh
            obtain ⟨rfl, rfl⟩ := some_of hF
            exact hq _ wh
          · replace hF := if_ofF c hF
            obtain ⟨rfl, rfl⟩ := some_of hF
            exact hq _ wh
      · replace hF := if_ofF c hF
        refine ⟨fun c => ?_, fun c => ?_⟩
        · replace hF := if_ofT c hF
          refine gI_of (wh.1 11004 _ rfl hv_l0) ?_
          replace hF := lt_of hF
          refine sF_S wh rfl hv_l0 ?_
          clear wh
          intro h wh
          exact ih _ _ _ _ _ _ _ wh hv_l0 hF
        · replace hF := if_ofF c hF
          refine gA_of (b := (1002, l0)) (wh.2.1 11009 _ rfl hv_l0) ?_
          refine gI_of (wh.1 11004 _ rfl hv_l0) ?_
          obtain ⟨c, hF⟩ := ck_of hF
          refine xI_of wh (oA_1002 hv_l0) c ?_
          clear c
          replace hF := lt_of hF
          refine gI_of (wh.1 11004 _ rfl hv_l0) ?_
          replace hF := lt_of hF
          refine sF_S wh rfl hv_l0 ?_
          clear wh
          intro h wh
          exact ih _ _ _ _ _ _ _ wh hv_l0 hF
    · replace hF := if_ofF c hF
      refine ⟨fun c => ?_, fun c => ?_⟩
      · replace hF := if_ofT c hF
        refine ⟨⟨_, wh.1 11000 _ rfl hv_l0⟩, ?_⟩
        obtain ⟨u2, w1, hG, hF⟩ := bnd_of hF
        refine cl_V (D := 0) (Nat.le_trans (by decide) hd) (c_X10_wrong wh hv_l0 hG) ?_
        clear hG
        clear wh
        intro h wh
        obtain ⟨rfl, rfl⟩ := some_of hF
        exact hq _ wh
      · replace hF := if_ofF c hF
        refine ⟨fun c => ?_, fun c => ?_⟩
        · replace hF := if_ofT c hF
          refine ⟨⟨_, wh.1 11000 _ rfl hv_l0⟩, ?_⟩
          obtain ⟨u4, w3, hG, hF⟩ := bnd_of hF
          refine cl_V (D := 0) (Nat.le_trans (by decide) hd) (c_X10_wrong wh hv_l0 hG) ?_
          clear hG
          clear wh
          intro h wh
          obtain ⟨rfl, rfl⟩ := some_of hF
          exact hq _ wh
        · replace hF := if_ofF c hF
          obtain ⟨rfl, rfl⟩ := some_of hF
          exact hq _ wh
def f_X10_readNumber (fu : Nat) (l0 : Nat) (l1 : Int32) (l2 : Int32) (w : MEM) : Option (Int32 × MEM) := bnd (f_X10_fine fu l0 w) fun (x2 : Int32) (w1 : MEM) => if x2 = 0 then (some ((0 : Int32), w1)) else (bnd (f_X10_here fu l0 w1) fun (x4 : Int32) (w3 : MEM) => lt ((rS w3 (11004, l0))) fun (v5 : Int32) => bnd (f_X10_isDigit fu x4 w3) fun (x7 : Int32) (w6 : MEM) => if x7 = 0 then (bnd (f_X10_wrong fu l0 (1 : Int32) (rS w6 (11004, l0)) w6) fun (u9 : Unit) (w8 : MEM) => some ((0 : Int32), w8)) else (f_X10_readNumber_41 fu fu l0 l1 l2 v5 (0 : Int32) w6))
theorem E_X10_readNumber (fu : Nat) (l0 : Nat) (l1 : Int32) (l2 : Int32) (w : MEM) : f_X10_readNumber fu l0 l1 l2 w = bnd (f_X10_fine fu l0 w) fun (x2 : Int32) (w1 : MEM) => if x2 = 0 then (some ((0 : Int32), w1)) else (bnd (f_X10_here fu l0 w1) fun (x4 : Int32) (w3 : MEM) => lt ((rS w3 (11004, l0))) fun (v5 : Int32) => bnd (f_X10_isDigit fu x4 w3) fun (x7 : Int32) (w6 : MEM) => if x7 = 0 then (bnd (f_X10_wrong fu l0 (1 : Int32) (rS w6 (11004, l0)) w6) fun (u9 : Unit) (w8 : MEM) => some ((0 : Int32), w8)) else (f_X10_readNumber_41 fu fu l0 l1 l2 v5 (0 : Int32) w6)) := rfl
theorem w_X10_readNumber {X : SCR} {d rc rs : Nat} {Q : PO → PH → Prop} {o : Int32} {w1 : MEM} {fu : Nat} (hd : 1 ≤ d) (hq : ∀ h1, WH X h1 w1 → Q (.inl (some (vI o))) h1) {l0 : Nat} {l1 : Int32} {l2 : Int32} {w : MEM} {h : PH} (wh : WH X h w) (hv_l0 : vo 10 l0 = true) (hF : f_X10_readNumber fu l0 l1 l2 w = some (o, w1)) : PW d M_X10_readNumber Q rc rs 0 [vR (1000, l0), vI l1, vI l2, vU, vU, vU] [] h := by
  replace hF := (E_X10_readNumber fu l0 l1 l2 w).symm.trans hF
  refine r_X10_readNumber_0 ?_
  refine ⟨⟨_, wh.1 11000 _ rfl hv_l0⟩, ?_⟩
  obtain ⟨x2, w1, hG, hF⟩ := bnd_of hF
  refine cl_I (D := 0) (Nat.le_trans (by decide) hd) (c_X10_fine wh hv_l0 hG) ?_
  clear hG
  clear wh
  intro h wh
  refine ⟨fun c => ?_, fun c => ?_⟩
  · replace hF := if_ofT c hF
    obtain ⟨rfl, rfl⟩ := some_of hF
    exact hq _ wh
  · replace hF := if_ofF c hF
    refine ⟨⟨_, wh.1 11000 _ rfl hv_l0⟩, ?_⟩
    obtain ⟨x4, w3, hG, hF⟩ := bnd_of hF
    refine cl_I (D := 0) (Nat.le_trans (by decide) hd) (c_X10_here wh hv_l0 hG) ?_
    clear hG
    clear wh
    intro h wh
    refine gI_of (wh.1 11004 _ rfl hv_l0) ?_
    replace hF := lt_of hF
    obtain ⟨x7, w6, hG, hF⟩ := bnd_of hF
    refine cl_I (D := 0) (Nat.le_trans (by decide) hd) (c_X10_isDigit wh  hG) ?_
    clear hG
    clear wh
    intro h wh
    refine ⟨fun c => ?_, fun c => ?_⟩
    · replace hF := if_ofT c hF
      refine gI_of (wh.1 11004 _ rfl hv_l0) ?_
      refine ⟨⟨_, wh.1 11000 _ rfl hv_l0⟩, ?_⟩
      obtain ⟨u9, w8, hG, hF⟩ := bnd_of hF
      refine cl_V (D := 0) (Nat.le_trans (by decide) hd) (c_X10_wrong wh hv_l0 hG) ?_
      clear hG
      clear wh
      intro h wh
      obtain ⟨rfl, rfl⟩ := some_of hF
      exact hq _ wh
    · replace hF := if_ofF c hF
      exact w_X10_readNumber_41 hd hq  fu _ _ _ _ _ _ _ wh hv_l0 hF
theorem c_X10_readNumber {X : SCR} {fu : Nat} {o : Int32} {w1 : MEM} {a0 : Nat} {a1 : Int32} {a2 : Int32} {w : MEM} {h : PH} (wh : WH X h w) (h0 : vo 10 a0 = true) (hF : f_X10_readNumber fu a0 a1 a2 w = some (o, w1)) : CT 1 M_X10_readNumber [vR (1000, a0), vI a1, vI a2] h 0 0 (QP X (.inl (some (vI o))) w1) :=
  CT_of mk_X10_readNumber (Nat.le_of_ble_eq_true rfl) rfl (w_X10_readNumber (fu := fu) (rc := 0) (rs := 0) (hd := Nat.le_refl 1) (hq := fun h1 g => ⟨rfl, g⟩) wh h0 hF)
-- X10_sign
def f_X10_sign (fu : Nat) (l0 : Nat) (l1 : Int32) (w : MEM) : Option (Unit × MEM) := bnd (f_X10_fine fu l0 w) fun (x2 : Int32) (w1 : MEM) => if x2 = 0 then (bnd (f_X10_fine fu l0 w1) fun (x4 : Int32) (w3 : MEM) => if x4 = 0 then (some ((), w3)) else (lt (sS w3 (11004, l0) ((rS w3 (11004, l0)) + (1 : Int32))) fun (w5 : MEM) => some ((), w5))) else (bnd (f_X10_here fu l0 w1) fun (x7 : Int32) (w6 : MEM) => if x7 = l1 then (bnd (f_X10_fine fu l0 w6) fun (x9 : Int32) (w8 : MEM) => if x9 = 0 then (some ((), w8)) else (lt (sS w8 (11004, l0) ((rS w8 (11004, l0)) + (1 : Int32))) fun (w10 : MEM) => some ((), w10))) else (bnd (f_X10_wrong fu l0 (1 : Int32) (rS w6 (11004, l0)) w6) fun (u12 : Unit) (w11 : MEM) => bnd (f_X10_fine fu l0 w11) fun (x14 : Int32) (w13 : MEM) => if x14 = 0 then (some ((), w13)) else (lt (sS w13 (11004, l0) ((rS w13 (11004, l0)) + (1 : Int32))) fun (w15 : MEM) => some ((), w15))))
theorem E_X10_sign (fu : Nat) (l0 : Nat) (l1 : Int32) (w : MEM) : f_X10_sign fu l0 l1 w = bnd (f_X10_fine fu l0 w) fun (x2 : Int32) (w1 : MEM) => if x2 = 0 then (bnd (f_X10_fine fu l0 w1) fun (x4 : Int32) (w3 : MEM) => if x4 = 0 then (some ((), w3)) else (lt (sS w3 (11004, l0) ((rS w3 (11004, l0)) + (1 : Int32))) fun (w5 : MEM) => some ((), w5))) else (bnd (f_X10_here fu l0 w1) fun (x7 : Int32) (w6 : MEM) => if x7 = l1 then (bnd (f_X10_fine fu l0 w6) fun (x9 : Int32) (w8 : MEM) => if x9 = 0 then (some ((), w8)) else (lt (sS w8 (11004, l0) ((rS w8 (11004, l0)) + (1 : Int32))) fun (w10 : MEM) => some ((), w10))) else (bnd (f_X10_wrong fu l0 (1 : Int32) (rS w6 (11004, l0)) w6) fun (u12 : Unit) (w11 : MEM) => bnd (f_X10_fine fu l0 w11) fun (x14 : Int32) (w13 : MEM) => if x14 = 0 then (some ((), w13)) else (lt (sS w13 (11004, l0) ((rS w13 (11004, l0)) + (1 : Int32))) fun (w15 : MEM) => some ((), w15)))) := rfl
theorem w_X10_sign {X : SCR} {d rc rs : Nat} {Q : PO → PH → Prop} {o : Unit} {w1 : MEM} {fu : Nat} (hd : 1 ≤ d) (hq : ∀ h1, WH X h1 w1 → Q (.inl none) h1) {l0 : Nat} {l1 : Int32} {w : MEM} {h : PH} (wh : WH X h w) (hv_l0 : vo 10 l0 = true) (hF : f_X10_sign fu l0 l1 w = some (o, w1)) : PW d M_X10_sign Q rc rs 0 [vR (1000, l0), vI l1] [] h := by
  replace hF := (E_X10_sign fu l0 l1 w).symm.trans hF
  refine r_X10_sign_0 ?_
  refine ⟨⟨_, wh.1 11000 _ rfl hv_l0⟩, ?_⟩
  obtain ⟨x2, w1, hG, hF⟩ := bnd_of hF
  refine cl_I (D := 0) (Nat.le_trans (by decide) hd) (c_X10_fine wh hv_l0 hG) ?_
  clear hG
  clear wh
  intro h wh
  refine ⟨fun c => ?_, fun c => ?_⟩
  · replace hF := if_ofT c hF
    refine ⟨⟨_, wh.1 11000 _ rfl hv_l0⟩, ?_⟩
    obtain ⟨x4, w3, hG, hF⟩ := bnd_of hF
    refine cl_I (D := 0) (Nat.le_trans (by decide) hd) (c_X10_fine wh hv_l0 hG) ?_
    clear hG
    clear wh
    intro h wh
    refine ⟨fun c => ?_, fun c => ?_⟩
    · replace hF := if_ofT c hF
      obtain ⟨rfl, rfl⟩ := some_of hF
      exact hq _ wh
    · replace hF := if_ofF c hF
      refine gI_of (wh.1 11004 _ rfl hv_l0) ?_
      replace hF := lt_of hF
      refine sF_S wh rfl hv_l0 ?_
      clear wh
      intro h wh
      obtain ⟨rfl, rfl⟩ := some_of hF
      exact hq _ wh
  · replace hF := if_ofF c hF
    refine ⟨⟨_, wh.1 11000 _ rfl hv_l0⟩, ?_⟩
    obtain ⟨x7, w6, hG, hF⟩ := bnd_of hF
    refine cl_I (D := 0) (Nat.le_trans (by decide) hd) (c_X10_here wh hv_l0 hG) ?_
    clear hG
    clear wh
    intro h wh
    refine ⟨fun c => ?_, fun c => ?_⟩
    · replace hF := if_ofT c hF
      refine ⟨⟨_, wh.1 11000 _ rfl hv_l0⟩, ?_⟩
      obtain ⟨x9, w8, hG, hF⟩ := bnd_of hF
      refine cl_I (D := 0) (Nat.le_trans (by decide) hd) (c_X10_fine wh hv_l0 hG) ?_
      clear hG
      clear wh
      intro h wh
      refine ⟨fun c => ?_, fun c => ?_⟩
      · replace hF := if_ofT c hF
        obtain ⟨rfl, rfl⟩ := some_of hF
        exact hq _ wh
      · replace hF := if_ofF c hF
        refine gI_of (wh.1 11004 _ rfl hv_l0) ?_
        replace hF := lt_of hF
        refine sF_S wh rfl hv_l0 ?_
        clear wh
        intro h wh
        obtain ⟨rfl, rfl⟩ := some_of hF
        exact hq _ wh
    · replace hF := if_ofF c hF
      refine gI_of (wh.1 11004 _ rfl hv_l0) ?_
      refine ⟨⟨_, wh.1 11000 _ rfl hv_l0⟩, ?_⟩
      obtain ⟨u12, w11, hG, hF⟩ := bnd_of hF
      refine cl_V (D := 0) (Nat.le_trans (by decide) hd) (c_X10_wrong wh hv_l0 hG) ?_
      clear hG
      clear wh
      intro h wh
      refine ⟨⟨_, wh.1 11000 _ rfl hv_l0⟩, ?_⟩
      obtain ⟨x14, w13, hG, hF⟩ := bnd_of hF
      refine cl_I (D := 0) (Nat.le_trans (by decide) hd) (c_X10_fine wh hv_l0 hG) ?_
      clear hG
      clear wh
      intro h wh
      refine ⟨fun c => ?_, fun c => ?_⟩
      · replace hF := if_ofT c hF
        obtain ⟨rfl, rfl⟩ := some_of hF
        exact hq _ wh
      · replace hF := if_ofF c hF
        refine gI_of (wh.1 11004 _ rfl hv_l0) ?_
        replace hF := lt_of hF
        refine sF_S wh rfl hv_l0 ?_
        clear wh
        intro h wh
        obtain ⟨rfl, rfl⟩ := some_of hF
        exact hq _ wh
theorem c_X10_sign {X : SCR} {fu : Nat} {o : Unit} {w1 : MEM} {a0 : Nat} {a1 : Int32} {w : MEM} {h : PH} (wh : WH X h w) (h0 : vo 10 a0 = true) (hF : f_X10_sign fu a0 a1 w = some (o, w1)) : CT 1 M_X10_sign [vR (1000, a0), vI a1] h 0 0 (QP X (.inl none) w1) :=
  CT_of mk_X10_sign (Nat.le_of_ble_eq_true rfl) rfl (w_X10_sign (fu := fu) (rc := 0) (rs := 0) (hd := Nat.le_refl 1) (hq := fun h1 g => ⟨rfl, g⟩) wh h0 hF)
-- X10_isMore
def f_X10_isMore (fu : Nat) (l0 : Nat) (w : MEM) : Option (Int32 × MEM) := bnd (f_X10_here fu l0 w) fun (x2 : Int32) (w1 : MEM) => if (rS w1 (11004, l0)) < (rS w1 (11003, l0)) then (some ((1 : Int32), w1)) else (some ((0 : Int32), w1))
theorem E_X10_isMore (fu : Nat) (l0 : Nat) (w : MEM) : f_X10_isMore fu l0 w = bnd (f_X10_here fu l0 w) fun (x2 : Int32) (w1 : MEM) => if (rS w1 (11004, l0)) < (rS w1 (11003, l0)) then (some ((1 : Int32), w1)) else (some ((0 : Int32), w1)) := rfl
theorem w_X10_isMore {X : SCR} {d rc rs : Nat} {Q : PO → PH → Prop} {o : Int32} {w1 : MEM} {fu : Nat} (hd : 1 ≤ d) (hq : ∀ h1, WH X h1 w1 → Q (.inl (some (vI o))) h1) {l0 : Nat} {w : MEM} {h : PH} (wh : WH X h w) (hv_l0 : vo 10 l0 = true) (hF : f_X10_isMore fu l0 w = some (o, w1)) : PW d M_X10_isMore Q rc rs 0 [vR (1000, l0)] [] h := by
  replace hF := (E_X10_isMore fu l0 w).symm.trans hF
  refine r_X10_isMore_0 ?_
  refine ⟨⟨_, wh.1 11000 _ rfl hv_l0⟩, ?_⟩
  obtain ⟨x2, w1, hG, hF⟩ := bnd_of hF
  refine cl_I (D := 0) (Nat.le_trans (by decide) hd) (c_X10_here wh hv_l0 hG) ?_
  clear hG
  clear wh
  intro h wh
  refine gI_of (wh.1 11004 _ rfl hv_l0) ?_
  refine gI_of (wh.1 11003 _ rfl hv_l0) ?_
  refine ⟨fun c => ?_, fun c => ?_⟩
  · replace hF := if_ofT c hF
    obtain ⟨rfl, rfl⟩ := some_of hF
    exact hq _ wh
  · replace hF := if_ofF c hF
    obtain ⟨rfl, rfl⟩ := some_of hF
    exact hq _ wh
theorem c_X10_isMore {X : SCR} {fu : Nat} {o : Int32} {w1 : MEM} {a0 : Nat} {w : MEM} {h : PH} (wh : WH X h w) (h0 : vo 10 a0 = true) (hF : f_X10_isMore fu a0 w = some (o, w1)) : CT 1 M_X10_isMore [vR (1000, a0)] h 0 0 (QP X (.inl (some (vI o))) w1) :=
  CT_of mk_X10_isMore (Nat.le_of_ble_eq_true rfl) rfl (w_X10_isMore (fu := fu) (rc := 0) (rs := 0) (hd := Nat.le_refl 1) (hq := fun h1 g => ⟨rfl, g⟩) wh h0 hF)
-- X10_begins
def f_X10_begins (fu : Nat) (l0 : Nat) (l1 : Int32) (w : MEM) : Option (Unit × MEM) := lt (sS w (11002, l0) (0 : Int32)) fun (w1 : MEM) => lt (sS w1 (11008, l0) (-1 : Int32)) fun (w2 : MEM) => lt (sS w2 (11003, l0) l1) fun (w3 : MEM) => lt (sS w3 (11004, l0) (0 : Int32)) fun (w4 : MEM) => lt (sS w4 (11005, l0) (-1 : Int32)) fun (w5 : MEM) => lt (sS w5 (11007, l0) (0 : Int32)) fun (w6 : MEM) => some ((), w6)
theorem E_X10_begins (fu : Nat) (l0 : Nat) (l1 : Int32) (w : MEM) : f_X10_begins fu l0 l1 w = lt (sS w (11002, l0) (0 : Int32)) fun (w1 : MEM) => lt (sS w1 (11008, l0) (-1 : Int32)) fun (w2 : MEM) => lt (sS w2 (11003, l0) l1) fun (w3 : MEM) => lt (sS w3 (11004, l0) (0 : Int32)) fun (w4 : MEM) => lt (sS w4 (11005, l0) (-1 : Int32)) fun (w5 : MEM) => lt (sS w5 (11007, l0) (0 : Int32)) fun (w6 : MEM) => some ((), w6) := rfl
theorem w_X10_begins {X : SCR} {d rc rs : Nat} {Q : PO → PH → Prop} {o : Unit} {w1 : MEM} {fu : Nat} (hd : 0 ≤ d) (hq : ∀ h1, WH X h1 w1 → Q (.inl none) h1) {l0 : Nat} {l1 : Int32} {w : MEM} {h : PH} (wh : WH X h w) (hv_l0 : vo 10 l0 = true) (hF : f_X10_begins fu l0 l1 w = some (o, w1)) : PW d M_X10_begins Q rc rs 0 [vR (1000, l0), vI l1] [] h := by
  replace hF := (E_X10_begins fu l0 l1 w).symm.trans hF
  refine r_X10_begins_0 ?_
  replace hF := lt_of hF
  refine sF_S wh rfl hv_l0 ?_
  clear wh
  intro h wh
  replace hF := lt_of hF
  refine sF_S wh rfl hv_l0 ?_
  clear wh
  intro h wh
  replace hF := lt_of hF
  refine sF_S wh rfl hv_l0 ?_
  clear wh
  intro h wh
  replace hF := lt_of hF
  refine sF_S wh rfl hv_l0 ?_
  clear wh
  intro h wh
  replace hF := lt_of hF
  refine sF_S wh rfl hv_l0 ?_
  clear wh
  intro h wh
  replace hF := lt_of hF
  refine sF_S wh rfl hv_l0 ?_
  clear wh
  intro h wh
  obtain ⟨rfl, rfl⟩ := some_of hF
  exact hq _ wh
theorem c_X10_begins {X : SCR} {fu : Nat} {o : Unit} {w1 : MEM} {a0 : Nat} {a1 : Int32} {w : MEM} {h : PH} (wh : WH X h w) (h0 : vo 10 a0 = true) (hF : f_X10_begins fu a0 a1 w = some (o, w1)) : CT 0 M_X10_begins [vR (1000, a0), vI a1] h 0 0 (QP X (.inl none) w1) :=
  CT_of mk_X10_begins (Nat.le_of_ble_eq_true rfl) rfl (w_X10_begins (fu := fu) (rc := 0) (rs := 0) (hd := Nat.le_refl 0) (hq := fun h1 g => ⟨rfl, g⟩) wh h0 hF)
-- X10_result
def f_X10_result (fu : Nat) (l0 : Nat) (l1 : Int32) (w : MEM) : Option (Int32 × MEM) := lt (sS w (11008, l0) (rS w (11005, l0))) fun (w1 : MEM) => bnd (f_X10_fine fu l0 w1) fun (x3 : Int32) (w2 : MEM) => if x3 = 0 then (some (((rS w2 (11006, l0)) - (10 : Int32)), w2)) else (some (l1, w2))
theorem E_X10_result (fu : Nat) (l0 : Nat) (l1 : Int32) (w : MEM) : f_X10_result fu l0 l1 w = lt (sS w (11008, l0) (rS w (11005, l0))) fun (w1 : MEM) => bnd (f_X10_fine fu l0 w1) fun (x3 : Int32) (w2 : MEM) => if x3 = 0 then (some (((rS w2 (11006, l0)) - (10 : Int32)), w2)) else (some (l1, w2)) := rfl
theorem w_X10_result {X : SCR} {d rc rs : Nat} {Q : PO → PH → Prop} {o : Int32} {w1 : MEM} {fu : Nat} (hd : 1 ≤ d) (hq : ∀ h1, WH X h1 w1 → Q (.inl (some (vI o))) h1) {l0 : Nat} {l1 : Int32} {w : MEM} {h : PH} (wh : WH X h w) (hv_l0 : vo 10 l0 = true) (hF : f_X10_result fu l0 l1 w = some (o, w1)) : PW d M_X10_result Q rc rs 0 [vR (1000, l0), vI l1] [] h := by
  replace hF := (E_X10_result fu l0 l1 w).symm.trans hF
  refine r_X10_result_0 ?_
  refine gI_of (wh.1 11005 _ rfl hv_l0) ?_
  replace hF := lt_of hF
  refine sF_S wh rfl hv_l0 ?_
  clear wh
  intro h wh
  refine ⟨⟨_, wh.1 11000 _ rfl hv_l0⟩, ?_⟩
  obtain ⟨x3, w2, hG, hF⟩ := bnd_of hF
  refine cl_I (D := 0) (Nat.le_trans (by decide) hd) (c_X10_fine wh hv_l0 hG) ?_
  clear hG
  clear wh
  intro h wh
  refine ⟨fun c => ?_, fun c => ?_⟩
  · replace hF := if_ofT c hF
    refine gI_of (wh.1 11006 _ rfl hv_l0) ?_
    obtain ⟨rfl, rfl⟩ := some_of hF
    exact hq _ wh
  · replace hF := if_ofF c hF
    obtain ⟨rfl, rfl⟩ := some_of hF
    exact hq _ wh
theorem c_X10_result {X : SCR} {fu : Nat} {o : Int32} {w1 : MEM} {a0 : Nat} {a1 : Int32} {w : MEM} {h : PH} (wh : WH X h w) (h0 : vo 10 a0 = true) (hF : f_X10_result fu a0 a1 w = some (o, w1)) : CT 1 M_X10_result [vR (1000, a0), vI a1] h 0 0 (QP X (.inl (some (vI o))) w1) :=
  CT_of mk_X10_result (Nat.le_of_ble_eq_true rfl) rfl (w_X10_result (fu := fu) (rc := 0) (rs := 0) (hd := Nat.le_refl 1) (hq := fun h1 g => ⟨rfl, g⟩) wh h0 hF)
-- X10_fault
def f_X10_fault (fu : Nat) (l0 : Nat) (w : MEM) : Option (Int32 × MEM) := lt (sS w (11000, l0) (0 : Int32)) fun (w1 : MEM) => some ((rS w1 (11008, l0)), w1)
theorem E_X10_fault (fu : Nat) (l0 : Nat) (w : MEM) : f_X10_fault fu l0 w = lt (sS w (11000, l0) (0 : Int32)) fun (w1 : MEM) => some ((rS w1 (11008, l0)), w1) := rfl
theorem w_X10_fault {X : SCR} {d rc rs : Nat} {Q : PO → PH → Prop} {o : Int32} {w1 : MEM} {fu : Nat} (hd : 0 ≤ d) (hq : ∀ h1, WH X h1 w1 → Q (.inl (some (vI o))) h1) {l0 : Nat} {w : MEM} {h : PH} (wh : WH X h w) (hv_l0 : vo 10 l0 = true) (hF : f_X10_fault fu l0 w = some (o, w1)) : PW d M_X10_fault Q rc rs 0 [vR (1000, l0)] [] h := by
  replace hF := (E_X10_fault fu l0 w).symm.trans hF
  refine r_X10_fault_0 ?_
  replace hF := lt_of hF
  refine sF_S wh rfl hv_l0 ?_
  clear wh
  intro h wh
  refine gI_of (wh.1 11008 _ rfl hv_l0) ?_
  obtain ⟨rfl, rfl⟩ := some_of hF
  exact hq _ wh
theorem c_X10_fault {X : SCR} {fu : Nat} {o : Int32} {w1 : MEM} {a0 : Nat} {w : MEM} {h : PH} (wh : WH X h w) (h0 : vo 10 a0 = true) (hF : f_X10_fault fu a0 w = some (o, w1)) : CT 0 M_X10_fault [vR (1000, a0)] h 0 0 (QP X (.inl (some (vI o))) w1) :=
  CT_of mk_X10_fault (Nat.le_of_ble_eq_true rfl) rfl (w_X10_fault (fu := fu) (rc := 0) (rs := 0) (hd := Nat.le_refl 0) (hq := fun h1 g => ⟨rfl, g⟩) wh h0 hF)
-- X10_copies
def f_X10_copies_3 (fu : Nat) : Nat → LA → LA → Int32 → Int32 → MEM → Option (Unit × MEM)
  | 0, _, _, _, _, _ => none
  | n + 1, l1, l2, l3, l4, w => if l4 < l3 then (ck (bI l4 (aN l1.1)) (ck (bI l4 (aN l2.1)) (lt (sA w l2 l4 (rA w l1 l4)) fun (w1 : MEM) => f_X10_copies_3 fu n l1 l2 l3 (l4 + (1 : Int32)) w1))) else (some ((), w))
theorem E_X10_copies_3 (fu : Nat) (n : Nat) (l1 : LA) (l2 : LA) (l3 : Int32) (l4 : Int32) (w : MEM) : f_X10_copies_3 fu (n + 1) l1 l2 l3 l4 w = if l4 < l3 then (ck (bI l4 (aN l1.1)) (ck (bI l4 (aN l2.1)) (lt (sA w l2 l4 (rA w l1 l4)) fun (w1 : MEM) => f_X10_copies_3 fu n l1 l2 l3 (l4 + (1 : Int32)) w1))) else (some ((), w)) := rfl
theorem w_X10_copies_3 {X : SCR} {d rc rs : Nat} {Q : PO → PH → Prop} {o : Unit} {w1 : MEM} {fu : Nat} (hd : 0 ≤ d) (hq : ∀ h1, WH X h1 w1 → Q (.inl none) h1) : ∀ (n : Nat) (l1 : LA) (l2 : LA) (l3 : Int32) (l4 : Int32) (w : MEM) (h : PH), WH X h w → oA l1 0 → oA l2 0 → f_X10_copies_3 fu n l1 l2 l3 l4 w = some (o, w1) → PW d M_X10_copies Q rc rs 3 [vU, vR l1, vR l2, vI l3, vI l4] [] h := by
  intro n
  induction n with
  | zero => intro l1 l2 l3 l4 w h wh ha_l1 ha_l2 hF; cases hF
  | succ n ih =>
    intro l1 l2 l3 l4 w h wh ha_l1 ha_l2 hF
    replace hF := (E_X10_copies_3 fu n l1 l2 l3 l4 w).symm.trans hF
    refine r_X10_copies_3 ?_
    refine ⟨fun c => ?_, fun c => ?_⟩
    · replace hF := if_ofT c hF
      obtain ⟨c, hF⟩ := ck_of hF
      refine xI_of wh ha_l1 c ?_
      clear c
      obtain ⟨c, hF⟩ := ck_of hF
      replace hF := lt_of hF
      refine yI_of wh ha_l2 c ?_
      clear c wh
      intro h wh
      exact ih _ _ _ _ _ _ wh ha_l1 ha_l2 hF
    · replace hF := if_ofF c hF
      obtain ⟨rfl, rfl⟩ := some_of hF
      exact hq _ wh
def f_X10_copies (fu : Nat) (l0 : Nat) (l1 : LA) (l2 : LA) (l3 : Int32) (w : MEM) : Option (Unit × MEM) := f_X10_copies_3 fu fu l1 l2 l3 (0 : Int32) w
theorem E_X10_copies (fu : Nat) (l0 : Nat) (l1 : LA) (l2 : LA) (l3 : Int32) (w : MEM) : f_X10_copies fu l0 l1 l2 l3 w = f_X10_copies_3 fu fu l1 l2 l3 (0 : Int32) w := rfl
theorem w_X10_copies {X : SCR} {d rc rs : Nat} {Q : PO → PH → Prop} {o : Unit} {w1 : MEM} {fu : Nat} (hd : 0 ≤ d) (hq : ∀ h1, WH X h1 w1 → Q (.inl none) h1) {l0 : Nat} {l1 : LA} {l2 : LA} {l3 : Int32} {w : MEM} {h : PH} (wh : WH X h w) (hv_l0 : vo 10 l0 = true) (ha_l1 : oA l1 0) (ha_l2 : oA l2 0) (hF : f_X10_copies fu l0 l1 l2 l3 w = some (o, w1)) : PW d M_X10_copies Q rc rs 0 [vR (1000, l0), vR l1, vR l2, vI l3, vU] [] h := by
  replace hF := (E_X10_copies fu l0 l1 l2 l3 w).symm.trans hF
  refine r_X10_copies_0 ?_
  exact w_X10_copies_3 hd hq  fu _ _ _ _ _ _ wh ha_l1 ha_l2 hF
theorem c_X10_copies {X : SCR} {fu : Nat} {o : Unit} {w1 : MEM} {a0 : Nat} {a1 : LA} {a2 : LA} {a3 : Int32} {w : MEM} {h : PH} (wh : WH X h w) (h0 : vo 10 a0 = true) (h1 : oA a1 0) (h2 : oA a2 0) (hF : f_X10_copies fu a0 a1 a2 a3 w = some (o, w1)) : CT 0 M_X10_copies [vR (1000, a0), vR a1, vR a2, vI a3] h 0 0 (QP X (.inl none) w1) :=
  CT_of mk_X10_copies (Nat.le_of_ble_eq_true rfl) rfl (w_X10_copies (fu := fu) (rc := 0) (rs := 0) (hd := Nat.le_refl 0) (hq := fun h1 g => ⟨rfl, g⟩) wh h0 h1 h2 hF)
-- X10_clears
def f_X10_clears (fu : Nat) (l0 : Nat) (w : MEM) : Option (Unit × MEM) := lt (sS w (11018, l0) (0 : Int32)) fun (w1 : MEM) => lt (sS w1 (11019, l0) (0 : Int32)) fun (w2 : MEM) => lt (sS w2 (11020, l0) (0 : Int32)) fun (w3 : MEM) => lt (sS w3 (11021, l0) (12 : Int32)) fun (w4 : MEM) => some ((), w4)
theorem E_X10_clears (fu : Nat) (l0 : Nat) (w : MEM) : f_X10_clears fu l0 w = lt (sS w (11018, l0) (0 : Int32)) fun (w1 : MEM) => lt (sS w1 (11019, l0) (0 : Int32)) fun (w2 : MEM) => lt (sS w2 (11020, l0) (0 : Int32)) fun (w3 : MEM) => lt (sS w3 (11021, l0) (12 : Int32)) fun (w4 : MEM) => some ((), w4) := rfl
theorem w_X10_clears {X : SCR} {d rc rs : Nat} {Q : PO → PH → Prop} {o : Unit} {w1 : MEM} {fu : Nat} (hd : 0 ≤ d) (hq : ∀ h1, WH X h1 w1 → Q (.inl none) h1) {l0 : Nat} {w : MEM} {h : PH} (wh : WH X h w) (hv_l0 : vo 10 l0 = true) (hF : f_X10_clears fu l0 w = some (o, w1)) : PW d M_X10_clears Q rc rs 0 [vR (1000, l0)] [] h := by
  replace hF := (E_X10_clears fu l0 w).symm.trans hF
  refine r_X10_clears_0 ?_
  replace hF := lt_of hF
  refine sF_S wh rfl hv_l0 ?_
  clear wh
  intro h wh
  replace hF := lt_of hF
  refine sF_S wh rfl hv_l0 ?_
  clear wh
  intro h wh
  replace hF := lt_of hF
  refine sF_S wh rfl hv_l0 ?_
  clear wh
  intro h wh
  replace hF := lt_of hF
  refine sF_S wh rfl hv_l0 ?_
  clear wh
  intro h wh
  obtain ⟨rfl, rfl⟩ := some_of hF
  exact hq _ wh
theorem c_X10_clears {X : SCR} {fu : Nat} {o : Unit} {w1 : MEM} {a0 : Nat} {w : MEM} {h : PH} (wh : WH X h w) (h0 : vo 10 a0 = true) (hF : f_X10_clears fu a0 w = some (o, w1)) : CT 0 M_X10_clears [vR (1000, a0)] h 0 0 (QP X (.inl none) w1) :=
  CT_of mk_X10_clears (Nat.le_of_ble_eq_true rfl) rfl (w_X10_clears (fu := fu) (rc := 0) (rs := 0) (hd := Nat.le_refl 0) (hq := fun h1 g => ⟨rfl, g⟩) wh h0 hF)
-- X10_sets
def f_X10_sets_188 (fu : Nat) (k157 : Nat → Int32 → MEM → Option (Unit × MEM)) (l0 : Nat) (l1 : Int32) (s0 : LA) (s1 : Int32) (s2 : Int32) (w : MEM) : Option (Unit × MEM) := ck (bI s1 (aN s0.1)) (lt (sA w s0 s1 s2) fun (w1 : MEM) => ck (bI ((14 : Int32) + l1) 57) (lt (sA w1 (1019, l0) ((14 : Int32) + l1) (99 : Int32)) fun (w2 : MEM) => if l1 < (rS w2 (11022, l0)) then (ck (bI ((35 : Int32) + l1) 57) (lt (sA w2 (1019, l0) ((35 : Int32) + l1) (1 : Int32)) fun (w5 : MEM) => ck (bI ((42 : Int32) + l1) 57) (lt (sA w5 (1019, l0) ((42 : Int32) + l1) (-1 : Int32)) fun (w6 : MEM) => k157 l0 (l1 + (1 : Int32)) w6))) else (ck (bI ((35 : Int32) + l1) 57) (lt (sA w2 (1019, l0) ((35 : Int32) + l1) (0 : Int32)) fun (w3 : MEM) => ck (bI ((42 : Int32) + l1) 57) (lt (sA w3 (1019, l0) ((42 : Int32) + l1) (-1 : Int32)) fun (w4 : MEM) => k157 l0 (l1 + (1 : Int32)) w4)))))
theorem E_X10_sets_188 (fu : Nat) (k157 : Nat → Int32 → MEM → Option (Unit × MEM)) (l0 : Nat) (l1 : Int32) (s0 : LA) (s1 : Int32) (s2 : Int32) (w : MEM) : f_X10_sets_188 fu k157 l0 l1 s0 s1 s2 w = ck (bI s1 (aN s0.1)) (lt (sA w s0 s1 s2) fun (w1 : MEM) => ck (bI ((14 : Int32) + l1) 57) (lt (sA w1 (1019, l0) ((14 : Int32) + l1) (99 : Int32)) fun (w2 : MEM) => if l1 < (rS w2 (11022, l0)) then (ck (bI ((35 : Int32) + l1) 57) (lt (sA w2 (1019, l0) ((35 : Int32) + l1) (1 : Int32)) fun (w5 : MEM) => ck (bI ((42 : Int32) + l1) 57) (lt (sA w5 (1019, l0) ((42 : Int32) + l1) (-1 : Int32)) fun (w6 : MEM) => k157 l0 (l1 + (1 : Int32)) w6))) else (ck (bI ((35 : Int32) + l1) 57) (lt (sA w2 (1019, l0) ((35 : Int32) + l1) (0 : Int32)) fun (w3 : MEM) => ck (bI ((42 : Int32) + l1) 57) (lt (sA w3 (1019, l0) ((42 : Int32) + l1) (-1 : Int32)) fun (w4 : MEM) => k157 l0 (l1 + (1 : Int32)) w4))))) := rfl
theorem w_X10_sets_188 {X : SCR} {d rc rs : Nat} {Q : PO → PH → Prop} {o : Unit} {w1 : MEM} {fu : Nat} {k157 : Nat → Int32 → MEM → Option (Unit × MEM)} (hd : 1 ≤ d) (hq : ∀ h1, WH X h1 w1 → Q (.inl none) h1) (hk157 : ∀ (l0 : Nat) (l1 : Int32) (w : MEM) (h : PH), WH X h w → vo 10 l0 = true → k157 l0 l1 w = some (o, w1) → PW d M_X10_sets Q rc rs 157 [vR (1000, l0), vI l1] [] h) {l0 : Nat} {l1 : Int32} {s0 : LA} {s1 : Int32} {s2 : Int32} {w : MEM} {h : PH} (wh : WH X h w) (hv_l0 : vo 10 l0 = true) (ha_s0 : oA s0 0) (hF : f_X10_sets_188 fu k157 l0 l1 s0 s1 s2 w = some (o, w1)) : PW d M_X10_sets Q rc rs 188 [vR (1000, l0), vI l1] [vI s2, vI s1, vR s0] h := by
  replace hF := (E_X10_sets_188 fu k157 l0 l1 s0 s1 s2 w).symm.trans hF
  refine r_X10_sets_188 ?_
  obtain ⟨c, hF⟩ := ck_of hF
  replace hF := lt_of hF
  refine yI_of wh ha_s0 c ?_
  clear c wh
  intro h wh
  refine gA_of (b := (1019, l0)) (wh.2.1 11042 _ rfl hv_l0) ?_
  obtain ⟨c, hF⟩ := ck_of hF
  replace hF := lt_of hF
  refine yI_of wh (oA_1019 hv_l0) c ?_
  clear c wh
  intro h wh
  refine gA_of (b := (1019, l0)) (wh.2.1 11042 _ rfl hv_l0) ?_
  refine gI_of (wh.1 11022 _ rfl hv_l0) ?_
  refine ⟨fun c => ?_, fun c => ?_⟩
  · replace hF := if_ofT c hF
    obtain ⟨c, hF⟩ := ck_of hF
    replace hF := lt_of hF
    refine yI_of wh (oA_1019 hv_l0) c ?_
    clear c wh
    intro h wh
    refine gA_of (b := (1019, l0)) (wh.2.1 11042 _ rfl hv_l0) ?_
    obtain ⟨c, hF⟩ := ck_of hF
    replace hF := lt_of hF
    refine yI_of wh (oA_1019 hv_l0) c ?_
    clear c wh
    intro h wh
    exact hk157 _ _ _ _ wh hv_l0 hF
  · replace hF := if_ofF c hF
    obtain ⟨c, hF⟩ := ck_of hF
    replace hF := lt_of hF
    refine yI_of wh (oA_1019 hv_l0) c ?_
    clear c wh
    intro h wh
    refine gA_of (b := (1019, l0)) (wh.2.1 11042 _ rfl hv_l0) ?_
    obtain ⟨c, hF⟩ := ck_of hF
    replace hF := lt_of hF
    refine yI_of wh (oA_1019 hv_l0) c ?_
    clear c wh
    intro h wh
    exact hk157 _ _ _ _ wh hv_l0 hF
def f_X10_sets_157 (fu : Nat) : Nat → Nat → Int32 → MEM → Option (Unit × MEM)
  | 0, _, _, _ => none
  | n + 1, l0, l1, w => if l1 < (7 : Int32) then (if l1 < (rS w (11022, l0)) then (ck (bI l1 7) (f_X10_sets_188 fu (fun l0 l1 w => f_X10_sets_157 fu n l0 l1 w) l0 l1 (1019, l0) ((0 : Int32) + l1) (rA w (1008, l0) l1) w)) else (f_X10_sets_188 fu (fun l0 l1 w => f_X10_sets_157 fu n l0 l1 w) l0 l1 (1019, l0) ((0 : Int32) + l1) (0 : Int32) w)) else (some ((), w))
theorem E_X10_sets_157 (fu : Nat) (n : Nat) (l0 : Nat) (l1 : Int32) (w : MEM) : f_X10_sets_157 fu (n + 1) l0 l1 w = if l1 < (7 : Int32) then (if l1 < (rS w (11022, l0)) then (ck (bI l1 7) (f_X10_sets_188 fu (fun l0 l1 w => f_X10_sets_157 fu n l0 l1 w) l0 l1 (1019, l0) ((0 : Int32) + l1) (rA w (1008, l0) l1) w)) else (f_X10_sets_188 fu (fun l0 l1 w => f_X10_sets_157 fu n l0 l1 w) l0 l1 (1019, l0) ((0 : Int32) + l1) (0 : Int32) w)) else (some ((), w)) := rfl
theorem w_X10_sets_157 {X : SCR} {d rc rs : Nat} {Q : PO → PH → Prop} {o : Unit} {w1 : MEM} {fu : Nat} (hd : 1 ≤ d) (hq : ∀ h1, WH X h1 w1 → Q (.inl none) h1) : ∀ (n : Nat) (l0 : Nat) (l1 : Int32) (w : MEM) (h : PH), WH X h w → vo 10 l0 = true → f_X10_sets_157 fu n l0 l1 w = some (o, w1) → PW d M_X10_sets Q rc rs 157 [vR (1000, l0), vI l1] [] h := by
  intro n
  induction n with
  | zero => intro l0 l1 w h wh hv_l0 hF; cases hF
  | succ n ih =>
    intro l0 l1 w h wh hv_l0 hF
    replace hF := (E_X10_sets_157 fu n l0 l1 w).symm.trans hF
    refine r_X10_sets_157 ?_
    refine ⟨fun c => ?_, fun c => ?_⟩
    · replace hF := if_ofT c hF
      refine gA_of (b := (1019, l0)) (wh.2.1 11042 _ rfl hv_l0) ?_
      refine gI_of (wh.1 11022 _ rfl hv_l0) ?_
      refine ⟨fun c => ?_, fun c => ?_⟩
      · replace hF := if_ofT c hF
        refine gA_of (b := (1008, l0)) (wh.2.1 11015 _ rfl hv_l0) ?_
        obtain ⟨c, hF⟩ := ck_of hF
        refine xI_of wh (oA_1008 hv_l0) c ?_
        clear c
        exact w_X10_sets_188 hd hq (fun l0 l1 w h wh g0 hF => ih l0 l1 w h wh g0 hF) wh hv_l0 (oA_1019 hv_l0) hF
      · replace hF := if_ofF c hF
        exact w_X10_sets_188 hd hq (fun l0 l1 w h wh g0 hF => ih l0 l1 w h wh g0 hF) wh hv_l0 (oA_1019 hv_l0) hF
    · replace hF := if_ofF c hF
      obtain ⟨rfl, rfl⟩ := some_of hF
      exact hq _ wh
def f_X10_sets_136 (fu : Nat) : Nat → Nat → Int32 → MEM → Option (Unit × MEM)
  | 0, _, _, _ => none
  | n + 1, l0, l1, w => if l1 < (57 : Int32) then (ck (bI l1 57) (lt (sA w (1019, l0) l1 (0 : Int32)) fun (w1 : MEM) => f_X10_sets_136 fu n l0 (l1 + (1 : Int32)) w1)) else (f_X10_sets_157 fu fu l0 (0 : Int32) w)
theorem E_X10_sets_136 (fu : Nat) (n : Nat) (l0 : Nat) (l1 : Int32) (w : MEM) : f_X10_sets_136 fu (n + 1) l0 l1 w = if l1 < (57 : Int32) then (ck (bI l1 57) (lt (sA w (1019, l0) l1 (0 : Int32)) fun (w1 : MEM) => f_X10_sets_136 fu n l0 (l1 + (1 : Int32)) w1)) else (f_X10_sets_157 fu fu l0 (0 : Int32) w) := rfl
theorem w_X10_sets_136 {X : SCR} {d rc rs : Nat} {Q : PO → PH → Prop} {o : Unit} {w1 : MEM} {fu : Nat} (hd : 1 ≤ d) (hq : ∀ h1, WH X h1 w1 → Q (.inl none) h1) : ∀ (n : Nat) (l0 : Nat) (l1 : Int32) (w : MEM) (h : PH), WH X h w → vo 10 l0 = true → f_X10_sets_136 fu n l0 l1 w = some (o, w1) → PW d M_X10_sets Q rc rs 136 [vR (1000, l0), vI l1] [] h := by
  intro n
  induction n with
  | zero => intro l0 l1 w h wh hv_l0 hF; cases hF
  | succ n ih =>
    intro l0 l1 w h wh hv_l0 hF
    replace hF := (E_X10_sets_136 fu n l0 l1 w).symm.trans hF
    refine r_X10_sets_136 ?_
    refine ⟨fun c => ?_, fun c => ?_⟩
    · replace hF := if_ofT c hF
      refine gA_of (b := (1019, l0)) (wh.2.1 11042 _ rfl hv_l0) ?_
      obtain ⟨c, hF⟩ := ck_of hF
      replace hF := lt_of hF
      refine yI_of wh (oA_1019 hv_l0) c ?_
      clear c wh
      intro h wh
      exact ih _ _ _ _ wh hv_l0 hF
    · replace hF := if_ofF c hF
      exact w_X10_sets_157 hd hq  fu _ _ _ _ wh hv_l0 hF
def f_X10_sets_115 (fu : Nat) : Nat → Nat → Int32 → MEM → Option (Unit × MEM)
  | 0, _, _, _ => none
  | n + 1, l0, l1, w => if (12 : Int32) < l1 then (f_X10_sets_136 fu fu l0 (0 : Int32) w) else (ck (bI l1 13) (lt (sA w (1023, l0) l1 (-1 : Int32)) fun (w1 : MEM) => f_X10_sets_115 fu n l0 (l1 + (1 : Int32)) w1))
theorem E_X10_sets_115 (fu : Nat) (n : Nat) (l0 : Nat) (l1 : Int32) (w : MEM) : f_X10_sets_115 fu (n + 1) l0 l1 w = if (12 : Int32) < l1 then (f_X10_sets_136 fu fu l0 (0 : Int32) w) else (ck (bI l1 13) (lt (sA w (1023, l0) l1 (-1 : Int32)) fun (w1 : MEM) => f_X10_sets_115 fu n l0 (l1 + (1 : Int32)) w1)) := rfl
theorem w_X10_sets_115 {X : SCR} {d rc rs : Nat} {Q : PO → PH → Prop} {o : Unit} {w1 : MEM} {fu : Nat} (hd : 1 ≤ d) (hq : ∀ h1, WH X h1 w1 → Q (.inl none) h1) : ∀ (n : Nat) (l0 : Nat) (l1 : Int32) (w : MEM) (h : PH), WH X h w → vo 10 l0 = true → f_X10_sets_115 fu n l0 l1 w = some (o, w1) → PW d M_X10_sets Q rc rs 115 [vR (1000, l0), vI l1] [] h := by
  intro n
  induction n with
  | zero => intro l0 l1 w h wh hv_l0 hF; cases hF
  | succ n ih =>
    intro l0 l1 w h wh hv_l0 hF
    replace hF := (E_X10_sets_115 fu n l0 l1 w).symm.trans hF
    refine r_X10_sets_115 ?_
    refine ⟨fun c => ?_, fun c => ?_⟩
    · replace hF := if_ofT c hF
      exact w_X10_sets_136 hd hq  fu _ _ _ _ wh hv_l0 hF
    · replace hF := if_ofF c hF
      refine gA_of (b := (1023, l0)) (wh.2.1 11046 _ rfl hv_l0) ?_
      obtain ⟨c, hF⟩ := ck_of hF
      replace hF := lt_of hF
      refine yI_of wh (oA_1023 hv_l0) c ?_
      clear c wh
      intro h wh
      exact ih _ _ _ _ wh hv_l0 hF
def f_X10_sets (fu : Nat) (l0 : Nat) (w : MEM) : Option (Unit × MEM) := lt (sS w (11022, l0) (rS w (11018, l0))) fun (w1 : MEM) => lt (sS w1 (11023, l0) (rS w1 (11019, l0))) fun (w2 : MEM) => lt (sS w2 (11024, l0) (rS w2 (11020, l0))) fun (w3 : MEM) => lt (sS w3 (11025, l0) (rS w3 (11021, l0))) fun (w4 : MEM) => bnd (f_X10_copies fu l0 (1003, l0) (1007, l0) (7 : Int32) w4) fun (u6 : Unit) (w5 : MEM) => bnd (f_X10_copies fu l0 (1004, l0) (1008, l0) (7 : Int32) w5) fun (u8 : Unit) (w7 : MEM) => bnd (f_X10_copies fu l0 (1005, l0) (1009, l0) (24 : Int32) w7) fun (u10 : Unit) (w9 : MEM) => bnd (f_X10_copies fu l0 (1006, l0) (1010, l0) (12 : Int32) w9) fun (u12 : Unit) (w11 : MEM) => lt (sS w11 (11032, l0) (0 : Int32)) fun (w13 : MEM) => lt (sS w13 (11047, l0) (0 : Int32)) fun (w14 : MEM) => lt (sS w14 (11037, l0) (0 : Int32)) fun (w15 : MEM) => lt (sS w15 (11054, l0) (0 : Int32)) fun (w16 : MEM) => lt (sS w16 (11038, l0) (0 : Int32)) fun (w17 : MEM) => f_X10_sets_115 fu fu l0 (0 : Int32) w17
theorem E_X10_sets (fu : Nat) (l0 : Nat) (w : MEM) : f_X10_sets fu l0 w = lt (sS w (11022, l0) (rS w (11018, l0))) fun (w1 : MEM) => lt (sS w1 (11023, l0) (rS w1 (11019, l0))) fun (w2 : MEM) => lt (sS w2 (11024, l0) (rS w2 (11020, l0))) fun (w3 : MEM) => lt (sS w3 (11025, l0) (rS w3 (11021, l0))) fun (w4 : MEM) => bnd (f_X10_copies fu l0 (1003, l0) (1007, l0) (7 : Int32) w4) fun (u6 : Unit) (w5 : MEM) => bnd (f_X10_copies fu l0 (1004, l0) (1008, l0) (7 : Int32) w5) fun (u8 : Unit) (w7 : MEM) => bnd (f_X10_copies fu l0 (1005, l0) (1009, l0) (24 : Int32) w7) fun (u10 : Unit) (w9 : MEM) => bnd (f_X10_copies fu l0 (1006, l0) (1010, l0) (12 : Int32) w9) fun (u12 : Unit) (w11 : MEM) => lt (sS w11 (11032, l0) (0 : Int32)) fun (w13 : MEM) => lt (sS w13 (11047, l0) (0 : Int32)) fun (w14 : MEM) => lt (sS w14 (11037, l0) (0 : Int32)) fun (w15 : MEM) => lt (sS w15 (11054, l0) (0 : Int32)) fun (w16 : MEM) => lt (sS w16 (11038, l0) (0 : Int32)) fun (w17 : MEM) => f_X10_sets_115 fu fu l0 (0 : Int32) w17 := rfl
theorem w_X10_sets {X : SCR} {d rc rs : Nat} {Q : PO → PH → Prop} {o : Unit} {w1 : MEM} {fu : Nat} (hd : 1 ≤ d) (hq : ∀ h1, WH X h1 w1 → Q (.inl none) h1) {l0 : Nat} {w : MEM} {h : PH} (wh : WH X h w) (hv_l0 : vo 10 l0 = true) (hF : f_X10_sets fu l0 w = some (o, w1)) : PW d M_X10_sets Q rc rs 0 [vR (1000, l0), vU] [] h := by
  replace hF := (E_X10_sets fu l0 w).symm.trans hF
  refine r_X10_sets_0 ?_
  refine gI_of (wh.1 11018 _ rfl hv_l0) ?_
  replace hF := lt_of hF
  refine sF_S wh rfl hv_l0 ?_
  clear wh
  intro h wh
  refine gI_of (wh.1 11019 _ rfl hv_l0) ?_
  replace hF := lt_of hF
  refine sF_S wh rfl hv_l0 ?_
  clear wh
  intro h wh
  refine gI_of (wh.1 11020 _ rfl hv_l0) ?_
  replace hF := lt_of hF
  refine sF_S wh rfl hv_l0 ?_
  clear wh
  intro h wh
  refine gI_of (wh.1 11021 _ rfl hv_l0) ?_
  replace hF := lt_of hF
  refine sF_S wh rfl hv_l0 ?_
  clear wh
  intro h wh
  refine gA_of (b := (1003, l0)) (wh.2.1 11010 _ rfl hv_l0) ?_
  refine gA_of (b := (1007, l0)) (wh.2.1 11014 _ rfl hv_l0) ?_
  refine ⟨⟨_, wh.1 11000 _ rfl hv_l0⟩, ?_⟩
  obtain ⟨u6, w5, hG, hF⟩ := bnd_of hF
  refine cl_V (D := 0) (Nat.le_trans (by decide) hd) (c_X10_copies wh hv_l0 (oA_1003 hv_l0) (oA_1007 hv_l0) hG) ?_
  clear hG
  clear wh
  intro h wh
  refine gA_of (b := (1004, l0)) (wh.2.1 11011 _ rfl hv_l0) ?_
  refine gA_of (b := (1008, l0)) (wh.2.1 11015 _ rfl hv_l0) ?_
  refine ⟨⟨_, wh.1 11000 _ rfl hv_l0⟩, ?_⟩
  obtain ⟨u8, w7, hG, hF⟩ := bnd_of hF
  refine cl_V (D := 0) (Nat.le_trans (by decide) hd) (c_X10_copies wh hv_l0 (oA_1004 hv_l0) (oA_1008 hv_l0) hG) ?_
  clear hG
  clear wh
  intro h wh
  refine gA_of (b := (1005, l0)) (wh.2.1 11012 _ rfl hv_l0) ?_
  refine gA_of (b := (1009, l0)) (wh.2.1 11016 _ rfl hv_l0) ?_
  refine ⟨⟨_, wh.1 11000 _ rfl hv_l0⟩, ?_⟩
  obtain ⟨u10, w9, hG, hF⟩ := bnd_of hF
  refine cl_V (D := 0) (Nat.le_trans (by decide) hd) (c_X10_copies wh hv_l0 (oA_1005 hv_l0) (oA_1009 hv_l0) hG) ?_
  clear hG
  clear wh
  intro h wh
  refine gA_of (b := (1006, l0)) (wh.2.1 11013 _ rfl hv_l0) ?_
  refine gA_of (b := (1010, l0)) (wh.2.1 11017 _ rfl hv_l0) ?_
  refine ⟨⟨_, wh.1 11000 _ rfl hv_l0⟩, ?_⟩
  obtain ⟨u12, w11, hG, hF⟩ := bnd_of hF
  refine cl_V (D := 0) (Nat.le_trans (by decide) hd) (c_X10_copies wh hv_l0 (oA_1006 hv_l0) (oA_1010 hv_l0) hG) ?_
  clear hG
  clear wh
  intro h wh
  replace hF := lt_of hF
  refine sF_S wh rfl hv_l0 ?_
  clear wh
  intro h wh
  replace hF := lt_of hF
  refine sF_S wh rfl hv_l0 ?_
  clear wh
  intro h wh
  replace hF := lt_of hF
  refine sF_S wh rfl hv_l0 ?_
  clear wh
  intro h wh
  replace hF := lt_of hF
  refine sF_S wh rfl hv_l0 ?_
  clear wh
  intro h wh
  replace hF := lt_of hF
  refine sF_S wh rfl hv_l0 ?_
  clear wh
  intro h wh
  exact w_X10_sets_115 hd hq  fu _ _ _ _ wh hv_l0 hF
theorem c_X10_sets {X : SCR} {fu : Nat} {o : Unit} {w1 : MEM} {a0 : Nat} {w : MEM} {h : PH} (wh : WH X h w) (h0 : vo 10 a0 = true) (hF : f_X10_sets fu a0 w = some (o, w1)) : CT 1 M_X10_sets [vR (1000, a0)] h 0 0 (QP X (.inl none) w1) :=
  CT_of mk_X10_sets (Nat.le_of_ble_eq_true rfl) rfl (w_X10_sets (fu := fu) (rc := 0) (rs := 0) (hd := Nat.le_refl 1) (hq := fun h1 g => ⟨rfl, g⟩) wh h0 hF)
-- X10_readHeir
def f_X10_readHeir (fu : Nat) (l0 : Nat) (w : MEM) : Option (Int32 × MEM) := bnd (f_X10_readNumber fu l0 (0 : Int32) ((rS w (11018, l0)) - (1 : Int32)) w) fun (x2 : Int32) (w1 : MEM) => some (x2, w1)
theorem E_X10_readHeir (fu : Nat) (l0 : Nat) (w : MEM) : f_X10_readHeir fu l0 w = bnd (f_X10_readNumber fu l0 (0 : Int32) ((rS w (11018, l0)) - (1 : Int32)) w) fun (x2 : Int32) (w1 : MEM) => some (x2, w1) := rfl
theorem w_X10_readHeir {X : SCR} {d rc rs : Nat} {Q : PO → PH → Prop} {o : Int32} {w1 : MEM} {fu : Nat} (hd : 2 ≤ d) (hq : ∀ h1, WH X h1 w1 → Q (.inl (some (vI o))) h1) {l0 : Nat} {w : MEM} {h : PH} (wh : WH X h w) (hv_l0 : vo 10 l0 = true) (hF : f_X10_readHeir fu l0 w = some (o, w1)) : PW d M_X10_readHeir Q rc rs 0 [vR (1000, l0)] [] h := by
  replace hF := (E_X10_readHeir fu l0 w).symm.trans hF
  refine r_X10_readHeir_0 ?_
  refine gI_of (wh.1 11018 _ rfl hv_l0) ?_
  refine ⟨⟨_, wh.1 11000 _ rfl hv_l0⟩, ?_⟩
  obtain ⟨x2, w1, hG, hF⟩ := bnd_of hF
  refine cl_I (D := 1) (Nat.le_trans (by decide) hd) (c_X10_readNumber wh hv_l0 hG) ?_
  clear hG
  clear wh
  intro h wh
  obtain ⟨rfl, rfl⟩ := some_of hF
  exact hq _ wh
theorem c_X10_readHeir {X : SCR} {fu : Nat} {o : Int32} {w1 : MEM} {a0 : Nat} {w : MEM} {h : PH} (wh : WH X h w) (h0 : vo 10 a0 = true) (hF : f_X10_readHeir fu a0 w = some (o, w1)) : CT 2 M_X10_readHeir [vR (1000, a0)] h 0 0 (QP X (.inl (some (vI o))) w1) :=
  CT_of mk_X10_readHeir (Nat.le_of_ble_eq_true rfl) rfl (w_X10_readHeir (fu := fu) (rc := 0) (rs := 0) (hd := Nat.le_refl 2) (hq := fun h1 g => ⟨rfl, g⟩) wh h0 hF)
-- X10_readTwo0
def f_X10_readTwo0_41 (fu : Nat) : Nat → Nat → Int32 → Int32 → Int32 → Int32 → MEM → Option (Unit × MEM)
  | 0, _, _, _, _, _, _ => none
  | n + 1, l0, l1, l2, l3, l4, w => if l4 < (rS w (11019, l0)) then (bnd (f_X10_fine fu l0 w) fun (x5 : Int32) (w4 : MEM) => if x5 = 0 then (ck (bI ((2 : Int32) * (rS w4 (11019, l0))) 24) (lt (sA w4 (1005, l0) ((2 : Int32) * (rS w4 (11019, l0))) l1) fun (w6 : MEM) => ck (bI (((2 : Int32) * (rS w6 (11019, l0))) + (1 : Int32)) 24) (lt (sA w6 (1005, l0) (((2 : Int32) * (rS w6 (11019, l0))) + (1 : Int32)) l3) fun (w7 : MEM) => lt (sS w7 (11019, l0) ((rS w7 (11019, l0)) + (1 : Int32))) fun (w8 : MEM) => some ((), w8)))) else (ck (bI ((2 : Int32) * l4) 24) (lt ((rA w4 (1005, l0) ((2 : Int32) * l4))) fun (v9 : Int32) => ck (bI (((2 : Int32) * l4) + (1 : Int32)) 24) (lt ((rA w4 (1005, l0) (((2 : Int32) * l4) + (1 : Int32)))) fun (v10 : Int32) => if v9 = l1 then (if v10 = l3 then (bnd (f_X10_wrong fu l0 (2 : Int32) l2 w4) fun (u14 : Unit) (w13 : MEM) => f_X10_readTwo0_41 fu n l0 l1 l2 l3 (l4 + (1 : Int32)) w13) else (if v9 = l3 then (if v10 = l1 then (bnd (f_X10_wrong fu l0 (2 : Int32) l2 w4) fun (u16 : Unit) (w15 : MEM) => f_X10_readTwo0_41 fu n l0 l1 l2 l3 (l4 + (1 : Int32)) w15) else (f_X10_readTwo0_41 fu n l0 l1 l2 l3 (l4 + (1 : Int32)) w4)) else (f_X10_readTwo0_41 fu n l0 l1 l2 l3 (l4 + (1 : Int32)) w4))) else (if v9 = l3 then (if v10 = l1 then (bnd (f_X10_wrong fu l0 (2 : Int32) l2 w4) fun (u12 : Unit) (w11 : MEM) => f_X10_readTwo0_41 fu n l0 l1 l2 l3 (l4 + (1 : Int32)) w11) else (f_X10_readTwo0_41 fu n l0 l1 l2 l3 (l4 + (1 : Int32)) w4)) else (f_X10_readTwo0_41 fu n l0 l1 l2 l3 (l4 + (1 : Int32)) w4)))))) else (ck (bI ((2 : Int32) * (rS w (11019, l0))) 24) (lt (sA w (1005, l0) ((2 : Int32) * (rS w (11019, l0))) l1) fun (w1 : MEM) => ck (bI (((2 : Int32) * (rS w1 (11019, l0))) + (1 : Int32)) 24) (lt (sA w1 (1005, l0) (((2 : Int32) * (rS w1 (11019, l0))) + (1 : Int32)) l3) fun (w2 : MEM) => lt (sS w2 (11019, l0) ((rS w2 (11019, l0)) + (1 : Int32))) fun (w3 : MEM) => some ((), w3))))
theorem E_X10_readTwo0_41 (fu : Nat) (n : Nat) (l0 : Nat) (l1 : Int32) (l2 : Int32) (l3 : Int32) (l4 : Int32) (w : MEM) : f_X10_readTwo0_41 fu (n + 1) l0 l1 l2 l3 l4 w = if l4 < (rS w (11019, l0)) then (bnd (f_X10_fine fu l0 w) fun (x5 : Int32) (w4 : MEM) => if x5 = 0 then (ck (bI ((2 : Int32) * (rS w4 (11019, l0))) 24) (lt (sA w4 (1005, l0) ((2 : Int32) * (rS w4 (11019, l0))) l1) fun (w6 : MEM) => ck (bI (((2 : Int32) * (rS w6 (11019, l0))) + (1 : Int32)) 24) (lt (sA w6 (1005, l0) (((2 : Int32) * (rS w6 (11019, l0))) + (1 : Int32)) l3) fun (w7 : MEM) => lt (sS w7 (11019, l0) ((rS w7 (11019, l0)) + (1 : Int32))) fun (w8 : MEM) => some ((), w8)))) else (ck (bI ((2 : Int32) * l4) 24) (lt ((rA w4 (1005, l0) ((2 : Int32) * l4))) fun (v9 : Int32) => ck (bI (((2 : Int32) * l4) + (1 : Int32)) 24) (lt ((rA w4 (1005, l0) (((2 : Int32) * l4) + (1 : Int32)))) fun (v10 : Int32) => if v9 = l1 then (if v10 = l3 then (bnd (f_X10_wrong fu l0 (2 : Int32) l2 w4) fun (u14 : Unit) (w13 : MEM) => f_X10_readTwo0_41 fu n l0 l1 l2 l3 (l4 + (1 : Int32)) w13) else (if v9 = l3 then (if v10 = l1 then (bnd (f_X10_wrong fu l0 (2 : Int32) l2 w4) fun (u16 : Unit) (w15 : MEM) => f_X10_readTwo0_41 fu n l0 l1 l2 l3 (l4 + (1 : Int32)) w15) else (f_X10_readTwo0_41 fu n l0 l1 l2 l3 (l4 + (1 : Int32)) w4)) else (f_X10_readTwo0_41 fu n l0 l1 l2 l3 (l4 + (1 : Int32)) w4))) else (if v9 = l3 then (if v10 = l1 then (bnd (f_X10_wrong fu l0 (2 : Int32) l2 w4) fun (u12 : Unit) (w11 : MEM) => f_X10_readTwo0_41 fu n l0 l1 l2 l3 (l4 + (1 : Int32)) w11) else (f_X10_readTwo0_41 fu n l0 l1 l2 l3 (l4 + (1 : Int32)) w4)) else (f_X10_readTwo0_41 fu n l0 l1 l2 l3 (l4 + (1 : Int32)) w4)))))) else (ck (bI ((2 : Int32) * (rS w (11019, l0))) 24) (lt (sA w (1005, l0) ((2 : Int32) * (rS w (11019, l0))) l1) fun (w1 : MEM) => ck (bI (((2 : Int32) * (rS w1 (11019, l0))) + (1 : Int32)) 24) (lt (sA w1 (1005, l0) (((2 : Int32) * (rS w1 (11019, l0))) + (1 : Int32)) l3) fun (w2 : MEM) => lt (sS w2 (11019, l0) ((rS w2 (11019, l0)) + (1 : Int32))) fun (w3 : MEM) => some ((), w3)))) := rfl
theorem w_X10_readTwo0_41 {X : SCR} {d rc rs : Nat} {Q : PO → PH → Prop} {o : Unit} {w1 : MEM} {fu : Nat} (hd : 3 ≤ d) (hq : ∀ h1, WH X h1 w1 → Q (.inl none) h1) : ∀ (n : Nat) (l0 : Nat) (l1 : Int32) (l2 : Int32) (l3 : Int32) (l4 : Int32) (w : MEM) (h : PH), WH X h w → vo 10 l0 = true → f_X10_readTwo0_41 fu n l0 l1 l2 l3 l4 w = some (o, w1) → PW d M_X10_readTwo0 Q rc rs 41 [vR (1000, l0), vI l1, vI l2, vI l3, vI l4, vU, vU] [] h := by
  intro n
  induction n with
  | zero => intro l0 l1 l2 l3 l4 w h wh hv_l0 hF; cases hF
  | succ n ih =>
    intro l0 l1 l2 l3 l4 w h wh hv_l0 hF
    replace hF := (E_X10_readTwo0_41 fu n l0 l1 l2 l3 l4 w).symm.trans hF
    refine r_X10_readTwo0_41 ?_
    refine gI_of (wh.1 11019 _ rfl hv_l0) ?_
    refine ⟨fun c => ?_, fun c => ?_⟩
    · replace hF := if_ofT c hF
      refine ⟨⟨_, wh.1 11000 _ rfl hv_l0⟩, ?_⟩
      obtain ⟨x5, w4, hG, hF⟩ := bnd_of hF
      refine cl_I (D := 0) (Nat.le_trans (by decide) hd) (c_X10_fine wh hv_l0 hG) ?_
      clear hG
      clear wh
      intro h wh
      refine ⟨fun c => ?_, fun c => ?_⟩
      · replace hF := if_ofT c hF
        refine gA_of (b := (1005, l0)) (wh.2.1 11012 _ rfl hv_l0) ?_
        refine gI_of (wh.1 11019 _ rfl hv_l0) ?_
        obtain ⟨c, hF⟩ := ck_of hF
        replace hF := lt_of hF
        refine yI_of wh (oA_1005 hv_l0) c ?_
        clear c wh
        intro h wh
        refine gA_of (b := (1005, l0)) (wh.2.1 11012 _ rfl hv_l0) ?_
        refine gI_of (wh.1 11019 _ rfl hv_l0) ?_
        obtain ⟨c, hF⟩ := ck_of hF
        replace hF := lt_of hF
        refine yI_of wh (oA_1005 hv_l0) c ?_
        clear c wh
        intro h wh
        refine gI_of (wh.1 11019 _ rfl hv_l0) ?_
        replace hF := lt_of hF
        refine sF_S wh rfl hv_l0 ?_
        clear wh
        intro h wh
        obtain ⟨rfl, rfl⟩ := some_of hF
        exact hq _ wh
      · replace hF := if_ofF c hF
        refine gA_of (b := (1005, l0)) (wh.2.1 11012 _ rfl hv_l0) ?_
        obtain ⟨c, hF⟩ := ck_of hF
        refine xI_of wh (oA_1005 hv_l0) c ?_
        clear c
        replace hF := lt_of hF
        refine gA_of (b := (1005, l0)) (wh.2.1 11012 _ rfl hv_l0) ?_
        obtain ⟨c, hF⟩ := ck_of hF
        refine xI_of wh (oA_1005 hv_l0) c ?_
        clear c
        replace hF := lt_of hF
        refine ⟨fun c => ?_, fun c => ?_⟩
        · replace hF := if_ofT c hF
          refine ⟨fun c => ?_, fun c => ?_⟩
          · replace hF := if_ofT c hF
            refine ⟨⟨_, wh.1 11000 _ rfl hv_l0⟩, ?_⟩
            obtain ⟨u14, w13, hG, hF⟩ := bnd_of hF
            refine cl_V (D := 0) (Nat.le_trans (by decide) hd) (c_X10_wrong wh hv_l0 hG) ?_
            clear hG
            clear wh
            intro h wh
            exact ih _ _ _ _ _ _ _ wh hv_l0 hF
          · replace hF := if_ofF c hF
            refine ⟨fun c => ?_, fun c => ?_⟩
            · replace hF := if_ofT c hF
              refine ⟨fun c => ?_, fun c => ?_⟩
              · replace hF := if_ofT c hF
                refine ⟨⟨_, wh.1 11000 _ rfl hv_l0⟩, ?_⟩
                obtain ⟨u16, w15, hG, hF⟩ := bnd_of hF
                refine cl_V (D := 0) (Nat.le_trans (by decide) hd) (c_X10_wrong wh hv_l0 hG) ?_
                clear hG
                clear wh
                intro h wh
                exact ih _ _ _ _ _ _ _ wh hv_l0 hF
              · replace hF := if_ofF c hF
                exact ih _ _ _ _ _ _ _ wh hv_l0 hF
            · replace hF := if_ofF c hF
              exact ih _ _ _ _ _ _ _ wh hv_l0 hF
        · replace hF := if_ofF c hF
          refine ⟨fun c => ?_, fun c => ?_⟩
          · replace hF := if_ofT c hF
            refine ⟨fun c => ?_, fun c => ?_⟩
            · replace hF := if_ofT c hF
              refine ⟨⟨_, wh.1 11000 _ rfl hv_l0⟩, ?_⟩
              obtain ⟨u12, w11, hG, hF⟩ := bnd_of hF
              refine cl_V (D := 0) (Nat.le_trans (by decide) hd) (c_X10_wrong wh hv_l0 hG) ?_
              clear hG
              clear wh
              intro h wh
              exact ih _ _ _ _ _ _ _ wh hv_l0 hF
            · replace hF := if_ofF c hF
              exact ih _ _ _ _ _ _ _ wh hv_l0 hF
          · replace hF := if_ofF c hF
            exact ih _ _ _ _ _ _ _ wh hv_l0 hF
    · replace hF := if_ofF c hF
      refine gA_of (b := (1005, l0)) (wh.2.1 11012 _ rfl hv_l0) ?_
      refine gI_of (wh.1 11019 _ rfl hv_l0) ?_
      obtain ⟨c, hF⟩ := ck_of hF
      replace hF := lt_of hF
      refine yI_of wh (oA_1005 hv_l0) c ?_
      clear c wh
      intro h wh
      refine gA_of (b := (1005, l0)) (wh.2.1 11012 _ rfl hv_l0) ?_
      refine gI_of (wh.1 11019 _ rfl hv_l0) ?_
      obtain ⟨c, hF⟩ := ck_of hF
      replace hF := lt_of hF
      refine yI_of wh (oA_1005 hv_l0) c ?_
      clear c wh
      intro h wh
      refine gI_of (wh.1 11019 _ rfl hv_l0) ?_
      replace hF := lt_of hF
      refine sF_S wh rfl hv_l0 ?_
      clear wh
      intro h wh
      obtain ⟨rfl, rfl⟩ := some_of hF
      exact hq _ wh
def f_X10_readTwo0 (fu : Nat) (l0 : Nat) (w : MEM) : Option (Unit × MEM) := bnd (f_X10_readHeir fu l0 w) fun (x2 : Int32) (w1 : MEM) => bnd (f_X10_here fu l0 w1) fun (x4 : Int32) (w3 : MEM) => lt ((rS w3 (11004, l0))) fun (v5 : Int32) => bnd (f_X10_readHeir fu l0 w3) fun (x7 : Int32) (w6 : MEM) => bnd (f_X10_fine fu l0 w6) fun (x9 : Int32) (w8 : MEM) => if x9 = 0 then (f_X10_readTwo0_41 fu fu l0 x2 v5 x7 (0 : Int32) w8) else (if x2 = x7 then (bnd (f_X10_wrong fu l0 (2 : Int32) v5 w8) fun (u11 : Unit) (w10 : MEM) => f_X10_readTwo0_41 fu fu l0 x2 v5 x7 (0 : Int32) w10) else (f_X10_readTwo0_41 fu fu l0 x2 v5 x7 (0 : Int32) w8))
theorem E_X10_readTwo0 (fu : Nat) (l0 : Nat) (w : MEM) : f_X10_readTwo0 fu l0 w = bnd (f_X10_readHeir fu l0 w) fun (x2 : Int32) (w1 : MEM) => bnd (f_X10_here fu l0 w1) fun (x4 : Int32) (w3 : MEM) => lt ((rS w3 (11004, l0))) fun (v5 : Int32) => bnd (f_X10_readHeir fu l0 w3) fun (x7 : Int32) (w6 : MEM) => bnd (f_X10_fine fu l0 w6) fun (x9 : Int32) (w8 : MEM) => if x9 = 0 then (f_X10_readTwo0_41 fu fu l0 x2 v5 x7 (0 : Int32) w8) else (if x2 = x7 then (bnd (f_X10_wrong fu l0 (2 : Int32) v5 w8) fun (u11 : Unit) (w10 : MEM) => f_X10_readTwo0_41 fu fu l0 x2 v5 x7 (0 : Int32) w10) else (f_X10_readTwo0_41 fu fu l0 x2 v5 x7 (0 : Int32) w8)) := rfl
theorem w_X10_readTwo0 {X : SCR} {d rc rs : Nat} {Q : PO → PH → Prop} {o : Unit} {w1 : MEM} {fu : Nat} (hd : 3 ≤ d) (hq : ∀ h1, WH X h1 w1 → Q (.inl none) h1) {l0 : Nat} {w : MEM} {h : PH} (wh : WH X h w) (hv_l0 : vo 10 l0 = true) (hF : f_X10_readTwo0 fu l0 w = some (o, w1)) : PW d M_X10_readTwo0 Q rc rs 0 [vR (1000, l0), vU, vU, vU, vU, vU, vU] [] h := by
  replace hF := (E_X10_readTwo0 fu l0 w).symm.trans hF
  refine r_X10_readTwo0_0 ?_
  refine ⟨⟨_, wh.1 11000 _ rfl hv_l0⟩, ?_⟩
  obtain ⟨x2, w1, hG, hF⟩ := bnd_of hF
  refine cl_I (D := 2) (Nat.le_trans (by decide) hd) (c_X10_readHeir wh hv_l0 hG) ?_
  clear hG
  clear wh
  intro h wh
  refine ⟨⟨_, wh.1 11000 _ rfl hv_l0⟩, ?_⟩
  obtain ⟨x4, w3, hG, hF⟩ := bnd_of hF
  refine cl_I (D := 0) (Nat.le_trans (by decide) hd) (c_X10_here wh hv_l0 hG) ?_
  clear hG
  clear wh
  intro h wh
  refine gI_of (wh.1 11004 _ rfl hv_l0) ?_
  replace hF := lt_of hF
  refine ⟨⟨_, wh.1 11000 _ rfl hv_l0⟩, ?_⟩
  obtain ⟨x7, w6, hG, hF⟩ := bnd_of hF
  refine cl_I (D := 2) (Nat.le_trans (by decide) hd) (c_X10_readHeir wh hv_l0 hG) ?_
  clear hG
  clear wh
  intro h wh
  refine ⟨⟨_, wh.1 11000 _ rfl hv_l0⟩, ?_⟩
  obtain ⟨x9, w8, hG, hF⟩ := bnd_of hF
  refine cl_I (D := 0) (Nat.le_trans (by decide) hd) (c_X10_fine wh hv_l0 hG) ?_
  clear hG
  clear wh
  intro h wh
  refine ⟨fun c => ?_, fun c => ?_⟩
  · replace hF := if_ofT c hF
    exact w_X10_readTwo0_41 hd hq  fu _ _ _ _ _ _ _ wh hv_l0 hF
  · replace hF := if_ofF c hF
    refine ⟨fun c => ?_, fun c => ?_⟩
    · replace hF := if_ofT c hF
      refine ⟨⟨_, wh.1 11000 _ rfl hv_l0⟩, ?_⟩
      obtain ⟨u11, w10, hG, hF⟩ := bnd_of hF
      refine cl_V (D := 0) (Nat.le_trans (by decide) hd) (c_X10_wrong wh hv_l0 hG) ?_
      clear hG
      clear wh
      intro h wh
      exact w_X10_readTwo0_41 hd hq  fu _ _ _ _ _ _ _ wh hv_l0 hF
    · replace hF := if_ofF c hF
      exact w_X10_readTwo0_41 hd hq  fu _ _ _ _ _ _ _ wh hv_l0 hF
theorem c_X10_readTwo0 {X : SCR} {fu : Nat} {o : Unit} {w1 : MEM} {a0 : Nat} {w : MEM} {h : PH} (wh : WH X h w) (h0 : vo 10 a0 = true) (hF : f_X10_readTwo0 fu a0 w = some (o, w1)) : CT 3 M_X10_readTwo0 [vR (1000, a0)] h 0 0 (QP X (.inl none) w1) :=
  CT_of mk_X10_readTwo0 (Nat.le_of_ble_eq_true rfl) rfl (w_X10_readTwo0 (fu := fu) (rc := 0) (rs := 0) (hd := Nat.le_refl 3) (hq := fun h1 g => ⟨rfl, g⟩) wh h0 hF)
-- X10_isRow
def f_X10_isRow (fu : Nat) (l0 : Int32) (w : MEM) : Option (Int32 × MEM) := bnd (f_X10_of fu 0 w) fun (x2 : Int32) (w1 : MEM) => if l0 = x2 then (some ((1 : Int32), w1)) else (bnd (f_X10_of fu 1 w1) fun (x4 : Int32) (w3 : MEM) => if l0 = x4 then (some ((1 : Int32), w3)) else (bnd (f_X10_of fu 2 w3) fun (x6 : Int32) (w5 : MEM) => if l0 = x6 then (some ((1 : Int32), w5)) else (bnd (f_X10_of fu 3 w5) fun (x8 : Int32) (w7 : MEM) => if l0 = x8 then (some ((1 : Int32), w7)) else (some ((0 : Int32), w7)))))
theorem E_X10_isRow (fu : Nat) (l0 : Int32) (w : MEM) : f_X10_isRow fu l0 w = bnd (f_X10_of fu 0 w) fun (x2 : Int32) (w1 : MEM) => if l0 = x2 then (some ((1 : Int32), w1)) else (bnd (f_X10_of fu 1 w1) fun (x4 : Int32) (w3 : MEM) => if l0 = x4 then (some ((1 : Int32), w3)) else (bnd (f_X10_of fu 2 w3) fun (x6 : Int32) (w5 : MEM) => if l0 = x6 then (some ((1 : Int32), w5)) else (bnd (f_X10_of fu 3 w5) fun (x8 : Int32) (w7 : MEM) => if l0 = x8 then (some ((1 : Int32), w7)) else (some ((0 : Int32), w7))))) := rfl
theorem w_X10_isRow {X : SCR} {d rc rs : Nat} {Q : PO → PH → Prop} {o : Int32} {w1 : MEM} {fu : Nat} (hd : 7 ≤ d) (hq : ∀ h1, WH X h1 w1 → Q (.inl (some (vI o))) h1) {l0 : Int32} {w : MEM} {h : PH} (wh : WH X h w)  (hF : f_X10_isRow fu l0 w = some (o, w1)) : PW d M_X10_isRow Q rc rs 0 [vI l0] [] h := by
  replace hF := (E_X10_isRow fu l0 w).symm.trans hF
  refine r_X10_isRow_0 ?_
  obtain ⟨x2, w1, hG, hF⟩ := bnd_of hF
  refine cl_I (D := 6) (Nat.le_trans (by decide) hd) (c_X10_of wh (by decide) hG) ?_
  clear hG
  clear wh
  intro h wh
  refine ⟨fun c => ?_, fun c => ?_⟩
  · replace hF := if_ofT c hF
    obtain ⟨rfl, rfl⟩ := some_of hF
    exact hq _ wh
  · replace hF := if_ofF c hF
    obtain ⟨x4, w3, hG, hF⟩ := bnd_of hF
    refine cl_I (D := 6) (Nat.le_trans (by decide) hd) (c_X10_of wh (by decide) hG) ?_
    clear hG
    clear wh
    intro h wh
    refine ⟨fun c => ?_, fun c => ?_⟩
    · replace hF := if_ofT c hF
      obtain ⟨rfl, rfl⟩ := some_of hF
      exact hq _ wh
    · replace hF := if_ofF c hF
      obtain ⟨x6, w5, hG, hF⟩ := bnd_of hF
      refine cl_I (D := 6) (Nat.le_trans (by decide) hd) (c_X10_of wh (by decide) hG) ?_
      clear hG
      clear wh
      intro h wh
      refine ⟨fun c => ?_, fun c => ?_⟩
      · replace hF := if_ofT c hF
        obtain ⟨rfl, rfl⟩ := some_of hF
        exact hq _ wh
      · replace hF := if_ofF c hF
        obtain ⟨x8, w7, hG, hF⟩ := bnd_of hF
        refine cl_I (D := 6) (Nat.le_trans (by decide) hd) (c_X10_of wh (by decide) hG) ?_
        clear hG
        clear wh
        intro h wh
        refine ⟨fun c => ?_, fun c => ?_⟩
        · replace hF := if_ofT c hF
          obtain ⟨rfl, rfl⟩ := some_of hF
          exact hq _ wh
        · replace hF := if_ofF c hF
          obtain ⟨rfl, rfl⟩ := some_of hF
          exact hq _ wh
theorem c_X10_isRow {X : SCR} {fu : Nat} {o : Int32} {w1 : MEM} {a0 : Int32} {w : MEM} {h : PH} (wh : WH X h w)  (hF : f_X10_isRow fu a0 w = some (o, w1)) : CT 7 M_X10_isRow [vI a0] h 0 0 (QP X (.inl (some (vI o))) w1) :=
  CT_of mk_X10_isRow (Nat.le_of_ble_eq_true rfl) rfl (w_X10_isRow (fu := fu) (rc := 0) (rs := 0) (hd := Nat.le_refl 7) (hq := fun h1 g => ⟨rfl, g⟩) wh  hF)
-- X10_isFull
def f_X10_isFull_18 (fu : Nat) (l0 : Nat) (l1 : Int32) (w : MEM) : Option (Int32 × MEM) := bnd (f_X10_of fu 1 w) fun (x2 : Int32) (w1 : MEM) => if l1 = x2 then (if (rS w1 (11019, l0)) = (12 : Int32) then (some ((1 : Int32), w1)) else (bnd (f_X10_of fu 2 w1) fun (x6 : Int32) (w5 : MEM) => if l1 = x6 then (if (rS w5 (11020, l0)) = (6 : Int32) then (some ((1 : Int32), w5)) else (some ((0 : Int32), w5))) else (some ((0 : Int32), w5)))) else (bnd (f_X10_of fu 2 w1) fun (x4 : Int32) (w3 : MEM) => if l1 = x4 then (if (rS w3 (11020, l0)) = (6 : Int32) then (some ((1 : Int32), w3)) else (some ((0 : Int32), w3))) else (some ((0 : Int32), w3)))
theorem E_X10_isFull_18 (fu : Nat) (l0 : Nat) (l1 : Int32) (w : MEM) : f_X10_isFull_18 fu l0 l1 w = bnd (f_X10_of fu 1 w) fun (x2 : Int32) (w1 : MEM) => if l1 = x2 then (if (rS w1 (11019, l0)) = (12 : Int32) then (some ((1 : Int32), w1)) else (bnd (f_X10_of fu 2 w1) fun (x6 : Int32) (w5 : MEM) => if l1 = x6 then (if (rS w5 (11020, l0)) = (6 : Int32) then (some ((1 : Int32), w5)) else (some ((0 : Int32), w5))) else (some ((0 : Int32), w5)))) else (bnd (f_X10_of fu 2 w1) fun (x4 : Int32) (w3 : MEM) => if l1 = x4 then (if (rS w3 (11020, l0)) = (6 : Int32) then (some ((1 : Int32), w3)) else (some ((0 : Int32), w3))) else (some ((0 : Int32), w3))) := rfl
theorem w_X10_isFull_18 {X : SCR} {d rc rs : Nat} {Q : PO → PH → Prop} {o : Int32} {w1 : MEM} {fu : Nat} (hd : 7 ≤ d) (hq : ∀ h1, WH X h1 w1 → Q (.inl (some (vI o))) h1) {l0 : Nat} {l1 : Int32} {w : MEM} {h : PH} (wh : WH X h w) (hv_l0 : vo 10 l0 = true) (hF : f_X10_isFull_18 fu l0 l1 w = some (o, w1)) : PW d M_X10_isFull Q rc rs 18 [vR (1000, l0), vI l1] [] h := by
  replace hF := (E_X10_isFull_18 fu l0 l1 w).symm.trans hF
  refine r_X10_isFull_18 ?_
  obtain ⟨x2, w1, hG, hF⟩ := bnd_of hF
  refine cl_I (D := 6) (Nat.le_trans (by decide) hd) (c_X10_of wh (by decide) hG) ?_
  clear hG
  clear wh
  intro h wh
  refine ⟨fun c => ?_, fun c => ?_⟩
  · replace hF := if_ofT c hF
    refine gI_of (wh.1 11019 _ rfl hv_l0) ?_
    refine ⟨fun c => ?_, fun c => ?_⟩
    · replace hF := if_ofT c hF
      obtain ⟨rfl, rfl⟩ := some_of hF
      exact hq _ wh
    · replace hF := if_ofF c hF
      obtain ⟨x6, w5, hG, hF⟩ := bnd_of hF
      refine cl_I (D := 6) (Nat.le_trans (by decide) hd) (c_X10_of wh (by decide) hG) ?_
      clear hG
      clear wh
      intro h wh
      refine ⟨fun c => ?_, fun c => ?_⟩
      · replace hF := if_ofT c hF
        refine gI_of (wh.1 11020 _ rfl hv_l0) ?_
        refine ⟨fun c => ?_, fun c => ?_⟩
        · replace hF := if_ofT c hF
          obtain ⟨rfl, rfl⟩ := some_of hF
          exact hq _ wh
        · replace hF := if_ofF c hF
          obtain ⟨rfl, rfl⟩ := some_of hF
          exact hq _ wh
      · replace hF := if_ofF c hF
        obtain ⟨rfl, rfl⟩ := some_of hF
        exact hq _ wh
  · replace hF := if_ofF c hF
    obtain ⟨x4, w3, hG, hF⟩ := bnd_of hF
    refine cl_I (D := 6) (Nat.le_trans (by decide) hd) (c_X10_of wh (by decide) hG) ?_
    clear hG
    clear wh
    intro h wh
    refine ⟨fun c => ?_, fun c => ?_⟩
    · replace hF := if_ofT c hF
      refine gI_of (wh.1 11020 _ rfl hv_l0) ?_
      refine ⟨fun c => ?_, fun c => ?_⟩
      · replace hF := if_ofT c hF
        obtain ⟨rfl, rfl⟩ := some_of hF
        exact hq _ wh
      · replace hF := if_ofF c hF
        obtain ⟨rfl, rfl⟩ := some_of hF
        exact hq _ wh
    · replace hF := if_ofF c hF
      obtain ⟨rfl, rfl⟩ := some_of hF
      exact hq _ wh
def f_X10_isFull (fu : Nat) (l0 : Nat) (l1 : Int32) (w : MEM) : Option (Int32 × MEM) := bnd (f_X10_of fu 0 w) fun (x2 : Int32) (w1 : MEM) => if l1 = x2 then (if (rS w1 (11018, l0)) = (7 : Int32) then (some ((1 : Int32), w1)) else (f_X10_isFull_18 fu l0 l1 w1)) else (f_X10_isFull_18 fu l0 l1 w1)
theorem E_X10_isFull (fu : Nat) (l0 : Nat) (l1 : Int32) (w : MEM) : f_X10_isFull fu l0 l1 w = bnd (f_X10_of fu 0 w) fun (x2 : Int32) (w1 : MEM) => if l1 = x2 then (if (rS w1 (11018, l0)) = (7 : Int32) then (some ((1 : Int32), w1)) else (f_X10_isFull_18 fu l0 l1 w1)) else (f_X10_isFull_18 fu l0 l1 w1) := rfl
theorem w_X10_isFull {X : SCR} {d rc rs : Nat} {Q : PO → PH → Prop} {o : Int32} {w1 : MEM} {fu : Nat} (hd : 7 ≤ d) (hq : ∀ h1, WH X h1 w1 → Q (.inl (some (vI o))) h1) {l0 : Nat} {l1 : Int32} {w : MEM} {h : PH} (wh : WH X h w) (hv_l0 : vo 10 l0 = true) (hF : f_X10_isFull fu l0 l1 w = some (o, w1)) : PW d M_X10_isFull Q rc rs 0 [vR (1000, l0), vI l1] [] h := by
  replace hF := (E_X10_isFull fu l0 l1 w).symm.trans hF
  refine r_X10_isFull_0 ?_
  obtain ⟨x2, w1, hG, hF⟩ := bnd_of hF
  refine cl_I (D := 6) (Nat.le_trans (by decide) hd) (c_X10_of wh (by decide) hG) ?_
  clear hG
  clear wh
  intro h wh
  refine ⟨fun c => ?_, fun c => ?_⟩
  · replace hF := if_ofT c hF
    refine gI_of (wh.1 11018 _ rfl hv_l0) ?_
    refine ⟨fun c => ?_, fun c => ?_⟩
    · replace hF := if_ofT c hF
      obtain ⟨rfl, rfl⟩ := some_of hF
      exact hq _ wh
    · replace hF := if_ofF c hF
      exact w_X10_isFull_18 hd hq  wh hv_l0 hF
  · replace hF := if_ofF c hF
    exact w_X10_isFull_18 hd hq  wh hv_l0 hF
theorem c_X10_isFull {X : SCR} {fu : Nat} {o : Int32} {w1 : MEM} {a0 : Nat} {a1 : Int32} {w : MEM} {h : PH} (wh : WH X h w) (h0 : vo 10 a0 = true) (hF : f_X10_isFull fu a0 a1 w = some (o, w1)) : CT 7 M_X10_isFull [vR (1000, a0), vI a1] h 0 0 (QP X (.inl (some (vI o))) w1) :=
  CT_of mk_X10_isFull (Nat.le_of_ble_eq_true rfl) rfl (w_X10_isFull (fu := fu) (rc := 0) (rs := 0) (hd := Nat.le_refl 7) (hq := fun h1 g => ⟨rfl, g⟩) wh h0 hF)
-- X10_readRow
def f_X10_readRow (fu : Nat) (l0 : Nat) (l1 : Int32) (w : MEM) : Option (Unit × MEM) := bnd (f_X10_of fu 0 w) fun (x2 : Int32) (w1 : MEM) => if l1 = x2 then (bnd (f_X10_readNumber fu l0 (1 : Int32) (9 : Int32) w1) fun (x20 : Int32) (w19 : MEM) => ck (bI (rS w1 (11018, l0)) 7) (lt (sA w19 (1003, l0) (rS w1 (11018, l0)) x20) fun (w21 : MEM) => bnd (f_X10_readNumber fu l0 (0 : Int32) (9 : Int32) w21) fun (x23 : Int32) (w22 : MEM) => ck (bI (rS w21 (11018, l0)) 7) (lt (sA w22 (1004, l0) (rS w21 (11018, l0)) x23) fun (w24 : MEM) => lt (sS w24 (11018, l0) ((rS w24 (11018, l0)) + (1 : Int32))) fun (w25 : MEM) => some ((), w25)))) else (bnd (f_X10_of fu 1 w1) fun (x4 : Int32) (w3 : MEM) => if l1 = x4 then (bnd (f_X10_readTwo0 fu l0 w3) fun (u18 : Unit) (w17 : MEM) => some ((), w17)) else (bnd (f_X10_of fu 2 w3) fun (x6 : Int32) (w5 : MEM) => if l1 = x6 then (bnd (f_X10_readHeir fu l0 w5) fun (x11 : Int32) (w10 : MEM) => ck (bI ((2 : Int32) * (rS w5 (11020, l0))) 12) (lt (sA w10 (1006, l0) ((2 : Int32) * (rS w5 (11020, l0))) x11) fun (w12 : MEM) => bnd (f_X10_readNumber fu l0 (1 : Int32) (24 : Int32) w12) fun (x14 : Int32) (w13 : MEM) => ck (bI (((2 : Int32) * (rS w12 (11020, l0))) + (1 : Int32)) 12) (lt (sA w13 (1006, l0) (((2 : Int32) * (rS w12 (11020, l0))) + (1 : Int32)) x14) fun (w15 : MEM) => lt (sS w15 (11020, l0) ((rS w15 (11020, l0)) + (1 : Int32))) fun (w16 : MEM) => some ((), w16)))) else (bnd (f_X10_readNumber fu l0 (0 : Int32) (23 : Int32) w5) fun (x8 : Int32) (w7 : MEM) => lt (sS w7 (11021, l0) x8) fun (w9 : MEM) => some ((), w9))))
theorem E_X10_readRow (fu : Nat) (l0 : Nat) (l1 : Int32) (w : MEM) : f_X10_readRow fu l0 l1 w = bnd (f_X10_of fu 0 w) fun (x2 : Int32) (w1 : MEM) => if l1 = x2 then (bnd (f_X10_readNumber fu l0 (1 : Int32) (9 : Int32) w1) fun (x20 : Int32) (w19 : MEM) => ck (bI (rS w1 (11018, l0)) 7) (lt (sA w19 (1003, l0) (rS w1 (11018, l0)) x20) fun (w21 : MEM) => bnd (f_X10_readNumber fu l0 (0 : Int32) (9 : Int32) w21) fun (x23 : Int32) (w22 : MEM) => ck (bI (rS w21 (11018, l0)) 7) (lt (sA w22 (1004, l0) (rS w21 (11018, l0)) x23) fun (w24 : MEM) => lt (sS w24 (11018, l0) ((rS w24 (11018, l0)) + (1 : Int32))) fun (w25 : MEM) => some ((), w25)))) else (bnd (f_X10_of fu 1 w1) fun (x4 : Int32) (w3 : MEM) => if l1 = x4 then (bnd (f_X10_readTwo0 fu l0 w3) fun (u18 : Unit) (w17 : MEM) => some ((), w17)) else (bnd (f_X10_of fu 2 w3) fun (x6 : Int32) (w5 : MEM) => if l1 = x6 then (bnd (f_X10_readHeir fu l0 w5) fun (x11 : Int32) (w10 : MEM) => ck (bI ((2 : Int32) * (rS w5 (11020, l0))) 12) (lt (sA w10 (1006, l0) ((2 : Int32) * (rS w5 (11020, l0))) x11) fun (w12 : MEM) => bnd (f_X10_readNumber fu l0 (1 : Int32) (24 : Int32) w12) fun (x14 : Int32) (w13 : MEM) => ck (bI (((2 : Int32) * (rS w12 (11020, l0))) + (1 : Int32)) 12) (lt (sA w13 (1006, l0) (((2 : Int32) * (rS w12 (11020, l0))) + (1 : Int32)) x14) fun (w15 : MEM) => lt (sS w15 (11020, l0) ((rS w15 (11020, l0)) + (1 : Int32))) fun (w16 : MEM) => some ((), w16)))) else (bnd (f_X10_readNumber fu l0 (0 : Int32) (23 : Int32) w5) fun (x8 : Int32) (w7 : MEM) => lt (sS w7 (11021, l0) x8) fun (w9 : MEM) => some ((), w9)))) := rfl
theorem w_X10_readRow {X : SCR} {d rc rs : Nat} {Q : PO → PH → Prop} {o : Unit} {w1 : MEM} {fu : Nat} (hd : 7 ≤ d) (hq : ∀ h1, WH X h1 w1 → Q (.inl none) h1) {l0 : Nat} {l1 : Int32} {w : MEM} {h : PH} (wh : WH X h w) (hv_l0 : vo 10 l0 = true) (hF : f_X10_readRow fu l0 l1 w = some (o, w1)) : PW d M_X10_readRow Q rc rs 0 [vR (1000, l0), vI l1] [] h := by
  replace hF := (E_X10_readRow fu l0 l1 w).symm.trans hF
  refine r_X10_readRow_0 ?_
  obtain ⟨x2, w1, hG, hF⟩ := bnd_of hF
  refine cl_I (D := 6) (Nat.le_trans (by decide) hd) (c_X10_of wh (by decide) hG) ?_
  clear hG
  clear wh
  intro h wh
  refine ⟨fun c => ?_, fun c => ?_⟩
  · replace hF := if_ofT c hF
    refine gA_of (b := (1003, l0)) (wh.2.1 11010 _ rfl hv_l0) ?_
    refine gI_of (wh.1 11018 _ rfl hv_l0) ?_
    refine ⟨⟨_, wh.1 11000 _ rfl hv_l0⟩, ?_⟩
    obtain ⟨x20, w19, hG, hF⟩ := bnd_of hF
    refine cl_I (D := 1) (Nat.le_trans (by decide) hd) (c_X10_readNumber wh hv_l0 hG) ?_
    clear hG
    clear wh
    intro h wh
    obtain ⟨c, hF⟩ := ck_of hF
    replace hF := lt_of hF
    refine yI_of wh (oA_1003 hv_l0) c ?_
    clear c wh
    intro h wh
    refine gA_of (b := (1004, l0)) (wh.2.1 11011 _ rfl hv_l0) ?_
    refine gI_of (wh.1 11018 _ rfl hv_l0) ?_
    refine ⟨⟨_, wh.1 11000 _ rfl hv_l0⟩, ?_⟩
    obtain ⟨x23, w22, hG, hF⟩ := bnd_of hF
    refine cl_I (D := 1) (Nat.le_trans (by decide) hd) (c_X10_readNumber wh hv_l0 hG) ?_
    clear hG
    clear wh
    intro h wh
    obtain ⟨c, hF⟩ := ck_of hF
    replace hF := lt_of hF
    refine yI_of wh (oA_1004 hv_l0) c ?_
    clear c wh
    intro h wh
    refine gI_of (wh.1 11018 _ rfl hv_l0) ?_
    replace hF := lt_of hF
    refine sF_S wh rfl hv_l0 ?_
    clear wh
    intro h wh
    obtain ⟨rfl, rfl⟩ := some_of hF
    exact hq _ wh
  · replace hF := if_ofF c hF
    obtain ⟨x4, w3, hG, hF⟩ := bnd_of hF
    refine cl_I (D := 6) (Nat.le_trans (by decide) hd) (c_X10_of wh (by decide) hG) ?_
    clear hG
    clear wh
    intro h wh
    refine ⟨fun c => ?_, fun c => ?_⟩
    · replace hF := if_ofT c hF
      refine ⟨⟨_, wh.1 11000 _ rfl hv_l0⟩, ?_⟩
      obtain ⟨u18, w17, hG, hF⟩ := bnd_of hF
      refine cl_V (D := 3) (Nat.le_trans (by decide) hd) (c_X10_readTwo0 wh hv_l0 hG) ?_
      clear hG
      clear wh
      intro h wh
      obtain ⟨rfl, rfl⟩ := some_of hF
      exact hq _ wh
    · replace hF := if_ofF c hF
      obtain ⟨x6, w5, hG, hF⟩ := bnd_of hF
      refine cl_I (D := 6) (Nat.le_trans (by decide) hd) (c_X10_of wh (by decide) hG) ?_
      clear hG
      clear wh
      intro h wh
      refine ⟨fun c => ?_, fun c => ?_⟩
      · replace hF := if_ofT c hF
        refine gA_of (b := (1006, l0)) (wh.2.1 11013 _ rfl hv_l0) ?_
        refine gI_of (wh.1 11020 _ rfl hv_l0) ?_
        refine ⟨⟨_, wh.1 11000 _ rfl hv_l0⟩, ?_⟩
        obtain ⟨x11, w10, hG, hF⟩ := bnd_of hF
        refine cl_I (D := 2) (Nat.le_trans (by decide) hd) (c_X10_readHeir wh hv_l0 hG) ?_
        clear hG
        clear wh
        intro h wh
        obtain ⟨c, hF⟩ := ck_of hF
        replace hF := lt_of hF
        refine yI_of wh (oA_1006 hv_l0) c ?_
        clear c wh
        intro h wh
        refine gA_of (b := (1006, l0)) (wh.2.1 11013 _ rfl hv_l0) ?_
        refine gI_of (wh.1 11020 _ rfl hv_l0) ?_
        refine ⟨⟨_, wh.1 11000 _ rfl hv_l0⟩, ?_⟩
        obtain ⟨x14, w13, hG, hF⟩ := bnd_of hF
        refine cl_I (D := 1) (Nat.le_trans (by decide) hd) (c_X10_readNumber wh hv_l0 hG) ?_
        clear hG
        clear wh
        intro h wh
        obtain ⟨c, hF⟩ := ck_of hF
        replace hF := lt_of hF
        refine yI_of wh (oA_1006 hv_l0) c ?_
        clear c wh
        intro h wh
        refine gI_of (wh.1 11020 _ rfl hv_l0) ?_
        replace hF := lt_of hF
        refine sF_S wh rfl hv_l0 ?_
        clear wh
        intro h wh
        obtain ⟨rfl, rfl⟩ := some_of hF
        exact hq _ wh
      · replace hF := if_ofF c hF
        refine ⟨⟨_, wh.1 11000 _ rfl hv_l0⟩, ?_⟩
        obtain ⟨x8, w7, hG, hF⟩ := bnd_of hF
        refine cl_I (D := 1) (Nat.le_trans (by decide) hd) (c_X10_readNumber wh hv_l0 hG) ?_
        clear hG
        clear wh
        intro h wh
        replace hF := lt_of hF
        refine sF_S wh rfl hv_l0 ?_
        clear wh
        intro h wh
        obtain ⟨rfl, rfl⟩ := some_of hF
        exact hq _ wh
theorem c_X10_readRow {X : SCR} {fu : Nat} {o : Unit} {w1 : MEM} {a0 : Nat} {a1 : Int32} {w : MEM} {h : PH} (wh : WH X h w) (h0 : vo 10 a0 = true) (hF : f_X10_readRow fu a0 a1 w = some (o, w1)) : CT 7 M_X10_readRow [vR (1000, a0), vI a1] h 0 0 (QP X (.inl none) w1) :=
  CT_of mk_X10_readRow (Nat.le_of_ble_eq_true rfl) rfl (w_X10_readRow (fu := fu) (rc := 0) (rs := 0) (hd := Nat.le_refl 7) (hq := fun h1 g => ⟨rfl, g⟩) wh h0 hF)
-- X10_court
def f_X10_court_105 (fu : Nat) (k44 : Nat → Int32 → MEM → Option (Int32 × MEM)) (l0 : Nat) (l2 : Int32) (l3 : Int32) (w : MEM) : Option (Int32 × MEM) := bnd (f_X10_fine fu l0 w) fun (x2 : Int32) (w1 : MEM) => if x2 = 0 then (bnd (f_X10_result fu l0 (rS w1 (11018, l0)) w1) fun (x10 : Int32) (w9 : MEM) => if (rS w9 (11005, l0)) = (-1 : Int32) then (bnd (f_X10_sets fu l0 w9) fun (u12 : Unit) (w11 : MEM) => some (x10, w11)) else (some (x10, w9))) else (bnd (f_X10_pass fu l0 w1) fun (u4 : Unit) (w3 : MEM) => bnd (f_X10_readRow fu l0 l3 w3) fun (u6 : Unit) (w5 : MEM) => bnd (f_X10_sign fu l0 (59 : Int32) w5) fun (u8 : Unit) (w7 : MEM) => k44 l0 (l2 + (1 : Int32)) w7)
theorem E_X10_court_105 (fu : Nat) (k44 : Nat → Int32 → MEM → Option (Int32 × MEM)) (l0 : Nat) (l2 : Int32) (l3 : Int32) (w : MEM) : f_X10_court_105 fu k44 l0 l2 l3 w = bnd (f_X10_fine fu l0 w) fun (x2 : Int32) (w1 : MEM) => if x2 = 0 then (bnd (f_X10_result fu l0 (rS w1 (11018, l0)) w1) fun (x10 : Int32) (w9 : MEM) => if (rS w9 (11005, l0)) = (-1 : Int32) then (bnd (f_X10_sets fu l0 w9) fun (u12 : Unit) (w11 : MEM) => some (x10, w11)) else (some (x10, w9))) else (bnd (f_X10_pass fu l0 w1) fun (u4 : Unit) (w3 : MEM) => bnd (f_X10_readRow fu l0 l3 w3) fun (u6 : Unit) (w5 : MEM) => bnd (f_X10_sign fu l0 (59 : Int32) w5) fun (u8 : Unit) (w7 : MEM) => k44 l0 (l2 + (1 : Int32)) w7) := rfl
theorem w_X10_court_105 {X : SCR} {d rc rs : Nat} {Q : PO → PH → Prop} {o : Int32} {w1 : MEM} {fu : Nat} {k44 : Nat → Int32 → MEM → Option (Int32 × MEM)} (hd : 8 ≤ d) (hq : ∀ h1, WH X h1 w1 → Q (.inl (some (vI o))) h1) (hk44 : ∀ (l0 : Nat) (l2 : Int32) (w : MEM) (h : PH), WH X h w → vo 10 l0 = true → k44 l0 l2 w = some (o, w1) → PW d M_X10_court Q rc rs 44 [vR (1000, l0), vU, vI l2, vU] [] h) {l0 : Nat} {l2 : Int32} {l3 : Int32} {w : MEM} {h : PH} (wh : WH X h w) (hv_l0 : vo 10 l0 = true) (hF : f_X10_court_105 fu k44 l0 l2 l3 w = some (o, w1)) : PW d M_X10_court Q rc rs 105 [vR (1000, l0), vU, vI l2, vI l3] [] h := by
  replace hF := (E_X10_court_105 fu k44 l0 l2 l3 w).symm.trans hF
  refine r_X10_court_105 ?_
  refine ⟨⟨_, wh.1 11000 _ rfl hv_l0⟩, ?_⟩
  obtain ⟨x2, w1, hG, hF⟩ := bnd_of hF
  refine cl_I (D := 0) (Nat.le_trans (by decide) hd) (c_X10_fine wh hv_l0 hG) ?_
  clear hG
  clear wh
  intro h wh
  refine ⟨fun c => ?_, fun c => ?_⟩
  · replace hF := if_ofT c hF
    refine gI_of (wh.1 11018 _ rfl hv_l0) ?_
    refine ⟨⟨_, wh.1 11000 _ rfl hv_l0⟩, ?_⟩
    obtain ⟨x10, w9, hG, hF⟩ := bnd_of hF
    refine cl_I (D := 1) (Nat.le_trans (by decide) hd) (c_X10_result wh hv_l0 hG) ?_
    clear hG
    clear wh
    intro h wh
    refine gI_of (wh.1 11005 _ rfl hv_l0) ?_
    refine ⟨fun c => ?_, fun c => ?_⟩
    · replace hF := if_ofT c hF
      refine ⟨⟨_, wh.1 11000 _ rfl hv_l0⟩, ?_⟩
      obtain ⟨u12, w11, hG, hF⟩ := bnd_of hF
      refine cl_V (D := 1) (Nat.le_trans (by decide) hd) (c_X10_sets wh hv_l0 hG) ?_
      clear hG
      clear wh
      intro h wh
      obtain ⟨rfl, rfl⟩ := some_of hF
      exact hq _ wh
    · replace hF := if_ofF c hF
      obtain ⟨rfl, rfl⟩ := some_of hF
      exact hq _ wh
  · replace hF := if_ofF c hF
    refine ⟨⟨_, wh.1 11000 _ rfl hv_l0⟩, ?_⟩
    obtain ⟨u4, w3, hG, hF⟩ := bnd_of hF
    refine cl_V (D := 1) (Nat.le_trans (by decide) hd) (c_X10_pass wh hv_l0 hG) ?_
    clear hG
    clear wh
    intro h wh
    refine ⟨⟨_, wh.1 11000 _ rfl hv_l0⟩, ?_⟩
    obtain ⟨u6, w5, hG, hF⟩ := bnd_of hF
    refine cl_V (D := 7) (Nat.le_trans (by decide) hd) (c_X10_readRow wh hv_l0 hG) ?_
    clear hG
    clear wh
    intro h wh
    refine ⟨⟨_, wh.1 11000 _ rfl hv_l0⟩, ?_⟩
    obtain ⟨u8, w7, hG, hF⟩ := bnd_of hF
    refine cl_V (D := 1) (Nat.le_trans (by decide) hd) (c_X10_sign wh hv_l0 hG) ?_
    clear hG
    clear wh
    intro h wh
    exact hk44 _ _ _ _ wh hv_l0 hF
def f_X10_court_44 (fu : Nat) : Nat → Nat → Int32 → MEM → Option (Int32 × MEM)
  | 0, _, _, _ => none
  | n + 1, l0, l2, w => bnd (f_X10_fine fu l0 w) fun (x2 : Int32) (w1 : MEM) => if x2 = 0 then (bnd (f_X10_result fu l0 (rS w1 (11018, l0)) w1) fun (x4 : Int32) (w3 : MEM) => if (rS w3 (11005, l0)) = (-1 : Int32) then (bnd (f_X10_sets fu l0 w3) fun (u6 : Unit) (w5 : MEM) => some (x4, w5)) else (some (x4, w3))) else (bnd (f_X10_isMore fu l0 w1) fun (x8 : Int32) (w7 : MEM) => if x8 = 0 then (bnd (f_X10_result fu l0 (rS w7 (11018, l0)) w7) fun (x10 : Int32) (w9 : MEM) => if (rS w9 (11005, l0)) = (-1 : Int32) then (bnd (f_X10_sets fu l0 w9) fun (u12 : Unit) (w11 : MEM) => some (x10, w11)) else (some (x10, w9))) else (bnd (f_X10_word fu l0 w7) fun (x14 : Int32) (w13 : MEM) => bnd (f_X10_isRow fu x14 w13) fun (x16 : Int32) (w15 : MEM) => if x16 = 0 then (bnd (f_X10_wrong fu l0 (1 : Int32) (rS w15 (11004, l0)) w15) fun (u24 : Unit) (w23 : MEM) => f_X10_court_105 fu (fun l0 l2 w => f_X10_court_44 fu n l0 l2 w) l0 l2 x14 w23) else (if l2 = (60 : Int32) then (bnd (f_X10_wrong fu l0 (3 : Int32) (rS w15 (11004, l0)) w15) fun (u18 : Unit) (w17 : MEM) => f_X10_court_105 fu (fun l0 l2 w => f_X10_court_44 fu n l0 l2 w) l0 l2 x14 w17) else (bnd (f_X10_isFull fu l0 x14 w15) fun (x20 : Int32) (w19 : MEM) => if x20 = 0 then (f_X10_court_105 fu (fun l0 l2 w => f_X10_court_44 fu n l0 l2 w) l0 l2 x14 w19) else (bnd (f_X10_wrong fu l0 (3 : Int32) (rS w19 (11004, l0)) w19) fun (u22 : Unit) (w21 : MEM) => f_X10_court_105 fu (fun l0 l2 w => f_X10_court_44 fu n l0 l2 w) l0 l2 x14 w21)))))
theorem E_X10_court_44 (fu : Nat) (n : Nat) (l0 : Nat) (l2 : Int32) (w : MEM) : f_X10_court_44 fu (n + 1) l0 l2 w = bnd (f_X10_fine fu l0 w) fun (x2 : Int32) (w1 : MEM) => if x2 = 0 then (bnd (f_X10_result fu l0 (rS w1 (11018, l0)) w1) fun (x4 : Int32) (w3 : MEM) => if (rS w3 (11005, l0)) = (-1 : Int32) then (bnd (f_X10_sets fu l0 w3) fun (u6 : Unit) (w5 : MEM) => some (x4, w5)) else (some (x4, w3))) else (bnd (f_X10_isMore fu l0 w1) fun (x8 : Int32) (w7 : MEM) => if x8 = 0 then (bnd (f_X10_result fu l0 (rS w7 (11018, l0)) w7) fun (x10 : Int32) (w9 : MEM) => if (rS w9 (11005, l0)) = (-1 : Int32) then (bnd (f_X10_sets fu l0 w9) fun (u12 : Unit) (w11 : MEM) => some (x10, w11)) else (some (x10, w9))) else (bnd (f_X10_word fu l0 w7) fun (x14 : Int32) (w13 : MEM) => bnd (f_X10_isRow fu x14 w13) fun (x16 : Int32) (w15 : MEM) => if x16 = 0 then (bnd (f_X10_wrong fu l0 (1 : Int32) (rS w15 (11004, l0)) w15) fun (u24 : Unit) (w23 : MEM) => f_X10_court_105 fu (fun l0 l2 w => f_X10_court_44 fu n l0 l2 w) l0 l2 x14 w23) else (if l2 = (60 : Int32) then (bnd (f_X10_wrong fu l0 (3 : Int32) (rS w15 (11004, l0)) w15) fun (u18 : Unit) (w17 : MEM) => f_X10_court_105 fu (fun l0 l2 w => f_X10_court_44 fu n l0 l2 w) l0 l2 x14 w17) else (bnd (f_X10_isFull fu l0 x14 w15) fun (x20 : Int32) (w19 : MEM) => if x20 = 0 then (f_X10_court_105 fu (fun l0 l2 w => f_X10_court_44 fu n l0 l2 w) l0 l2 x14 w19) else (bnd (f_X10_wrong fu l0 (3 : Int32) (rS w19 (11004, l0)) w19) fun (u22 : Unit) (w21 : MEM) => f_X10_court_105 fu (fun l0 l2 w => f_X10_court_44 fu n l0 l2 w) l0 l2 x14 w21))))) := rfl
theorem w_X10_court_44 {X : SCR} {d rc rs : Nat} {Q : PO → PH → Prop} {o : Int32} {w1 : MEM} {fu : Nat} (hd : 8 ≤ d) (hq : ∀ h1, WH X h1 w1 → Q (.inl (some (vI o))) h1) : ∀ (n : Nat) (l0 : Nat) (l2 : Int32) (w : MEM) (h : PH), WH X h w → vo 10 l0 = true → f_X10_court_44 fu n l0 l2 w = some (o, w1) → PW d M_X10_court Q rc rs 44 [vR (1000, l0), vU, vI l2, vU] [] h := by
  intro n
  induction n with
  | zero => intro l0 l2 w h wh hv_l0 hF; cases hF
  | succ n ih =>
    intro l0 l2 w h wh hv_l0 hF
    replace hF := (E_X10_court_44 fu n l0 l2 w).symm.trans hF
    refine r_X10_court_44 ?_
    refine ⟨⟨_, wh.1 11000 _ rfl hv_l0⟩, ?_⟩
    obtain ⟨x2, w1, hG, hF⟩ := bnd_of hF
    refine cl_I (D := 0) (Nat.le_trans (by decide) hd) (c_X10_fine wh hv_l0 hG) ?_
    clear hG
    clear wh
    intro h wh
    refine ⟨fun c => ?_, fun c => ?_⟩
    · replace hF := if_ofT c hF
      refine gI_of (wh.1 11018 _ rfl hv_l0) ?_
      refine ⟨⟨_, wh.1 11000 _ rfl hv_l0⟩, ?_⟩
      obtain ⟨x4, w3, hG, hF⟩ := bnd_of hF
      refine cl_I (D := 1) (Nat.le_trans (by decide) hd) (c_X10_result wh hv_l0 hG) ?_
      clear hG
      clear wh
      intro h wh
      refine gI_of (wh.1 11005 _ rfl hv_l0) ?_
      refine ⟨fun c => ?_, fun c => ?_⟩
      · replace hF := if_ofT c hF
        refine ⟨⟨_, wh.1 11000 _ rfl hv_l0⟩, ?_⟩
        obtain ⟨u6, w5, hG, hF⟩ := bnd_of hF
        refine cl_V (D := 1) (Nat.le_trans (by decide) hd) (c_X10_sets wh hv_l0 hG) ?_
        clear hG
        clear wh
        intro h wh
        obtain ⟨rfl, rfl⟩ := some_of hF
        exact hq _ wh
      · replace hF := if_ofF c hF
        obtain ⟨rfl, rfl⟩ := some_of hF
        exact hq _ wh
    · replace hF := if_ofF c hF
      refine ⟨⟨_, wh.1 11000 _ rfl hv_l0⟩, ?_⟩
      obtain ⟨x8, w7, hG, hF⟩ := bnd_of hF
      refine cl_I (D := 1) (Nat.le_trans (by decide) hd) (c_X10_isMore wh hv_l0 hG) ?_
      clear hG
      clear wh
      intro h wh
      refine ⟨fun c => ?_, fun c => ?_⟩
      · replace hF := if_ofT c hF
        refine gI_of (wh.1 11018 _ rfl hv_l0) ?_
        refine ⟨⟨_, wh.1 11000 _ rfl hv_l0⟩, ?_⟩
        obtain ⟨x10, w9, hG, hF⟩ := bnd_of hF
        refine cl_I (D := 1) (Nat.le_trans (by decide) hd) (c_X10_result wh hv_l0 hG) ?_
        clear hG
        clear wh
        intro h wh
        refine gI_of (wh.1 11005 _ rfl hv_l0) ?_
        refine ⟨fun c => ?_, fun c => ?_⟩
        · replace hF := if_ofT c hF
          refine ⟨⟨_, wh.1 11000 _ rfl hv_l0⟩, ?_⟩
          obtain ⟨u12, w11, hG, hF⟩ := bnd_of hF
          refine cl_V (D := 1) (Nat.le_trans (by decide) hd) (c_X10_sets wh hv_l0 hG) ?_
          clear hG
          clear wh
          intro h wh
          obtain ⟨rfl, rfl⟩ := some_of hF
          exact hq _ wh
        · replace hF := if_ofF c hF
          obtain ⟨rfl, rfl⟩ := some_of hF
          exact hq _ wh
      · replace hF := if_ofF c hF
        refine ⟨⟨_, wh.1 11000 _ rfl hv_l0⟩, ?_⟩
        obtain ⟨x14, w13, hG, hF⟩ := bnd_of hF
        refine cl_I (D := 1) (Nat.le_trans (by decide) hd) (c_X10_word wh hv_l0 hG) ?_
        clear hG
        clear wh
        intro h wh
        obtain ⟨x16, w15, hG, hF⟩ := bnd_of hF
        refine cl_I (D := 7) (Nat.le_trans (by decide) hd) (c_X10_isRow wh  hG) ?_
        clear hG
        clear wh
        intro h wh
        refine ⟨fun c => ?_, fun c => ?_⟩
        · replace hF := if_ofT c hF
          refine gI_of (wh.1 11004 _ rfl hv_l0) ?_
          refine ⟨⟨_, wh.1 11000 _ rfl hv_l0⟩, ?_⟩
          obtain ⟨u24, w23, hG, hF⟩ := bnd_of hF
          refine cl_V (D := 0) (Nat.le_trans (by decide) hd) (c_X10_wrong wh hv_l0 hG) ?_
          clear hG
          clear wh
          intro h wh
          exact w_X10_court_105 hd hq (fun l0 l2 w h wh g0 hF => ih l0 l2 w h wh g0 hF) wh hv_l0 hF
        · replace hF := if_ofF c hF
          refine ⟨fun c => ?_, fun c => ?_⟩
          · replace hF := if_ofT c hF
            refine gI_of (wh.1 11004 _ rfl hv_l0) ?_
            refine ⟨⟨_, wh.1 11000 _ rfl hv_l0⟩, ?_⟩
            obtain ⟨u18, w17, hG, hF⟩ := bnd_of hF
            refine cl_V (D := 0) (Nat.le_trans (by decide) hd) (c_X10_wrong wh hv_l0 hG) ?_
            clear hG
            clear wh
            intro h wh
            exact w_X10_court_105 hd hq (fun l0 l2 w h wh g0 hF => ih l0 l2 w h wh g0 hF) wh hv_l0 hF
          · replace hF := if_ofF c hF
            refine ⟨⟨_, wh.1 11000 _ rfl hv_l0⟩, ?_⟩
            obtain ⟨x20, w19, hG, hF⟩ := bnd_of hF
            refine cl_I (D := 7) (Nat.le_trans (by decide) hd) (c_X10_isFull wh hv_l0 hG) ?_
            clear hG
            clear wh
            intro h wh
            refine ⟨fun c => ?_, fun c => ?_⟩
            · replace hF := if_ofT c hF
              exact w_X10_court_105 hd hq (fun l0 l2 w h wh g0 hF => ih l0 l2 w h wh g0 hF) wh hv_l0 hF
            · replace hF := if_ofF c hF
              refine gI_of (wh.1 11004 _ rfl hv_l0) ?_
              refine ⟨⟨_, wh.1 11000 _ rfl hv_l0⟩, ?_⟩
              obtain ⟨u22, w21, hG, hF⟩ := bnd_of hF
              refine cl_V (D := 0) (Nat.le_trans (by decide) hd) (c_X10_wrong wh hv_l0 hG) ?_
              clear hG
              clear wh
              intro h wh
              exact w_X10_court_105 hd hq (fun l0 l2 w h wh g0 hF => ih l0 l2 w h wh g0 hF) wh hv_l0 hF
def f_X10_court (fu : Nat) (l0 : Nat) (l1 : Int32) (w : MEM) : Option (Int32 × MEM) := lt (sS w (11000, l0) (0 : Int32)) fun (w1 : MEM) => if l1 < 0 then (bnd (f_X10_may fu l0 (0 : Int32) (1 : Int32) (1 : Int32) w1) fun (x3 : Int32) (w2 : MEM) => if x3 = 0 then (some ((0 : Int32), w2)) else (bnd (f_X10_begins fu l0 l1 w2) fun (u5 : Unit) (w4 : MEM) => bnd (f_X10_clears fu l0 w4) fun (u7 : Unit) (w6 : MEM) => f_X10_court_44 fu fu l0 (0 : Int32) w6)) else (if (rS w1 (11002, l0)) < l1 then (bnd (f_X10_may fu l0 (0 : Int32) (1 : Int32) (1 : Int32) w1) fun (x9 : Int32) (w8 : MEM) => if x9 = 0 then (some ((0 : Int32), w8)) else (bnd (f_X10_begins fu l0 l1 w8) fun (u11 : Unit) (w10 : MEM) => bnd (f_X10_clears fu l0 w10) fun (u13 : Unit) (w12 : MEM) => f_X10_court_44 fu fu l0 (0 : Int32) w12)) else (bnd (f_X10_may fu l0 (1 : Int32) (1 : Int32) (1 : Int32) w1) fun (x15 : Int32) (w14 : MEM) => if x15 = 0 then (some ((0 : Int32), w14)) else (bnd (f_X10_begins fu l0 l1 w14) fun (u17 : Unit) (w16 : MEM) => bnd (f_X10_clears fu l0 w16) fun (u19 : Unit) (w18 : MEM) => f_X10_court_44 fu fu l0 (0 : Int32) w18)))
theorem E_X10_court (fu : Nat) (l0 : Nat) (l1 : Int32) (w : MEM) : f_X10_court fu l0 l1 w = lt (sS w (11000, l0) (0 : Int32)) fun (w1 : MEM) => if l1 < 0 then (bnd (f_X10_may fu l0 (0 : Int32) (1 : Int32) (1 : Int32) w1) fun (x3 : Int32) (w2 : MEM) => if x3 = 0 then (some ((0 : Int32), w2)) else (bnd (f_X10_begins fu l0 l1 w2) fun (u5 : Unit) (w4 : MEM) => bnd (f_X10_clears fu l0 w4) fun (u7 : Unit) (w6 : MEM) => f_X10_court_44 fu fu l0 (0 : Int32) w6)) else (if (rS w1 (11002, l0)) < l1 then (bnd (f_X10_may fu l0 (0 : Int32) (1 : Int32) (1 : Int32) w1) fun (x9 : Int32) (w8 : MEM) => if x9 = 0 then (some ((0 : Int32), w8)) else (bnd (f_X10_begins fu l0 l1 w8) fun (u11 : Unit) (w10 : MEM) => bnd (f_X10_clears fu l0 w10) fun (u13 : Unit) (w12 : MEM) => f_X10_court_44 fu fu l0 (0 : Int32) w12)) else (bnd (f_X10_may fu l0 (1 : Int32) (1 : Int32) (1 : Int32) w1) fun (x15 : Int32) (w14 : MEM) => if x15 = 0 then (some ((0 : Int32), w14)) else (bnd (f_X10_begins fu l0 l1 w14) fun (u17 : Unit) (w16 : MEM) => bnd (f_X10_clears fu l0 w16) fun (u19 : Unit) (w18 : MEM) => f_X10_court_44 fu fu l0 (0 : Int32) w18))) := rfl
theorem w_X10_court {X : SCR} {d rc rs : Nat} {Q : PO → PH → Prop} {o : Int32} {w1 : MEM} {fu : Nat} (hd : 8 ≤ d) (hq : ∀ h1, WH X h1 w1 → Q (.inl (some (vI o))) h1) {l0 : Nat} {l1 : Int32} {w : MEM} {h : PH} (wh : WH X h w) (hv_l0 : vo 10 l0 = true) (hF : f_X10_court fu l0 l1 w = some (o, w1)) : PW d M_X10_court Q rc rs 0 [vR (1000, l0), vI l1, vU, vU] [] h := by
  replace hF := (E_X10_court fu l0 l1 w).symm.trans hF
  refine r_X10_court_0 ?_
  replace hF := lt_of hF
  refine sF_S wh rfl hv_l0 ?_
  clear wh
  intro h wh
  refine ⟨fun c => ?_, fun c => ?_⟩
  · replace hF := if_ofT c hF
    refine ⟨⟨_, wh.1 11000 _ rfl hv_l0⟩, ?_⟩
    obtain ⟨x3, w2, hG, hF⟩ := bnd_of hF
    refine cl_I (D := 0) (Nat.le_trans (by decide) hd) (c_X10_may wh hv_l0 hG) ?_
    clear hG
    clear wh
    intro h wh
    refine ⟨fun c => ?_, fun c => ?_⟩
    · replace hF := if_ofT c hF
      obtain ⟨rfl, rfl⟩ := some_of hF
      exact hq _ wh
    · replace hF := if_ofF c hF
      refine ⟨⟨_, wh.1 11000 _ rfl hv_l0⟩, ?_⟩
      obtain ⟨u5, w4, hG, hF⟩ := bnd_of hF
      refine cl_V (D := 0) (Nat.le_trans (by decide) hd) (c_X10_begins wh hv_l0 hG) ?_
      clear hG
      clear wh
      intro h wh
      refine ⟨⟨_, wh.1 11000 _ rfl hv_l0⟩, ?_⟩
      obtain ⟨u7, w6, hG, hF⟩ := bnd_of hF
      refine cl_V (D := 0) (Nat.le_trans (by decide) hd) (c_X10_clears wh hv_l0 hG) ?_
      clear hG
      clear wh
      intro h wh
      exact w_X10_court_44 hd hq  fu _ _ _ _ wh hv_l0 hF
  · replace hF := if_ofF c hF
    refine gI_of (wh.1 11002 _ rfl hv_l0) ?_
    refine ⟨fun c => ?_, fun c => ?_⟩
    · replace hF := if_ofT c hF
      refine ⟨⟨_, wh.1 11000 _ rfl hv_l0⟩, ?_⟩
      obtain ⟨x9, w8, hG, hF⟩ := bnd_of hF
      refine cl_I (D := 0) (Nat.le_trans (by decide) hd) (c_X10_may wh hv_l0 hG) ?_
      clear hG
      clear wh
      intro h wh
      refine ⟨fun c => ?_, fun c => ?_⟩
      · replace hF := if_ofT c hF
        obtain ⟨rfl, rfl⟩ := some_of hF
        exact hq _ wh
      · replace hF := if_ofF c hF
        refine ⟨⟨_, wh.1 11000 _ rfl hv_l0⟩, ?_⟩
        obtain ⟨u11, w10, hG, hF⟩ := bnd_of hF
        refine cl_V (D := 0) (Nat.le_trans (by decide) hd) (c_X10_begins wh hv_l0 hG) ?_
        clear hG
        clear wh
        intro h wh
        refine ⟨⟨_, wh.1 11000 _ rfl hv_l0⟩, ?_⟩
        obtain ⟨u13, w12, hG, hF⟩ := bnd_of hF
        refine cl_V (D := 0) (Nat.le_trans (by decide) hd) (c_X10_clears wh hv_l0 hG) ?_
        clear hG
        clear wh
        intro h wh
        exact w_X10_court_44 hd hq  fu _ _ _ _ wh hv_l0 hF
    · replace hF := if_ofF c hF
      refine ⟨⟨_, wh.1 11000 _ rfl hv_l0⟩, ?_⟩
      obtain ⟨x15, w14, hG, hF⟩ := bnd_of hF
      refine cl_I (D := 0) (Nat.le_trans (by decide) hd) (c_X10_may wh hv_l0 hG) ?_
      clear hG
      clear wh
      intro h wh
      refine ⟨fun c => ?_, fun c => ?_⟩
      · replace hF := if_ofT c hF
        obtain ⟨rfl, rfl⟩ := some_of hF
        exact hq _ wh
      · replace hF := if_ofF c hF
        refine ⟨⟨_, wh.1 11000 _ rfl hv_l0⟩, ?_⟩
        obtain ⟨u17, w16, hG, hF⟩ := bnd_of hF
        refine cl_V (D := 0) (Nat.le_trans (by decide) hd) (c_X10_begins wh hv_l0 hG) ?_
        clear hG
        clear wh
        intro h wh
        refine ⟨⟨_, wh.1 11000 _ rfl hv_l0⟩, ?_⟩
        obtain ⟨u19, w18, hG, hF⟩ := bnd_of hF
        refine cl_V (D := 0) (Nat.le_trans (by decide) hd) (c_X10_clears wh hv_l0 hG) ?_
        clear hG
        clear wh
        intro h wh
        exact w_X10_court_44 hd hq  fu _ _ _ _ wh hv_l0 hF
theorem c_X10_court {X : SCR} {fu : Nat} {o : Int32} {w1 : MEM} {a0 : Nat} {a1 : Int32} {w : MEM} {h : PH} (wh : WH X h w) (h0 : vo 10 a0 = true) (hF : f_X10_court fu a0 a1 w = some (o, w1)) : CT 8 M_X10_court [vR (1000, a0), vI a1] h 0 0 (QP X (.inl (some (vI o))) w1) :=
  CT_of mk_X10_court (Nat.le_of_ble_eq_true rfl) rfl (w_X10_court (fu := fu) (rc := 0) (rs := 0) (hd := Nat.le_refl 8) (hq := fun h1 g => ⟨rfl, g⟩) wh h0 hF)
-- X10_emit
def f_X10_emit (fu : Nat) (l0 : Nat) (l1 : Int32) (l2 : Int32) (w : MEM) : Option (Unit × MEM) := bnd (f_X10_fine fu l0 w) fun (x2 : Int32) (w1 : MEM) => if x2 = 0 then (some ((), w1)) else (ck (bI (rS w1 (11031, l0)) 150) (lt (sA w1 (1011, l0) (rS w1 (11031, l0)) l1) fun (w3 : MEM) => ck (bI (rS w3 (11031, l0)) 150) (lt (sA w3 (1012, l0) (rS w3 (11031, l0)) l2) fun (w4 : MEM) => lt (sS w4 (11031, l0) ((rS w4 (11031, l0)) + (1 : Int32))) fun (w5 : MEM) => some ((), w5))))
theorem E_X10_emit (fu : Nat) (l0 : Nat) (l1 : Int32) (l2 : Int32) (w : MEM) : f_X10_emit fu l0 l1 l2 w = bnd (f_X10_fine fu l0 w) fun (x2 : Int32) (w1 : MEM) => if x2 = 0 then (some ((), w1)) else (ck (bI (rS w1 (11031, l0)) 150) (lt (sA w1 (1011, l0) (rS w1 (11031, l0)) l1) fun (w3 : MEM) => ck (bI (rS w3 (11031, l0)) 150) (lt (sA w3 (1012, l0) (rS w3 (11031, l0)) l2) fun (w4 : MEM) => lt (sS w4 (11031, l0) ((rS w4 (11031, l0)) + (1 : Int32))) fun (w5 : MEM) => some ((), w5)))) := rfl
theorem w_X10_emit {X : SCR} {d rc rs : Nat} {Q : PO → PH → Prop} {o : Unit} {w1 : MEM} {fu : Nat} (hd : 1 ≤ d) (hq : ∀ h1, WH X h1 w1 → Q (.inl none) h1) {l0 : Nat} {l1 : Int32} {l2 : Int32} {w : MEM} {h : PH} (wh : WH X h w) (hv_l0 : vo 10 l0 = true) (hF : f_X10_emit fu l0 l1 l2 w = some (o, w1)) : PW d M_X10_emit Q rc rs 0 [vR (1000, l0), vI l1, vI l2] [] h := by
  replace hF := (E_X10_emit fu l0 l1 l2 w).symm.trans hF
  refine r_X10_emit_0 ?_
  refine ⟨⟨_, wh.1 11000 _ rfl hv_l0⟩, ?_⟩
  obtain ⟨x2, w1, hG, hF⟩ := bnd_of hF
  refine cl_I (D := 0) (Nat.le_trans (by decide) hd) (c_X10_fine wh hv_l0 hG) ?_
  clear hG
  clear wh
  intro h wh
  refine ⟨fun c => ?_, fun c => ?_⟩
  · replace hF := if_ofT c hF
    obtain ⟨rfl, rfl⟩ := some_of hF
    exact hq _ wh
  · replace hF := if_ofF c hF
    refine gA_of (b := (1011, l0)) (wh.2.1 11026 _ rfl hv_l0) ?_
    refine gI_of (wh.1 11031 _ rfl hv_l0) ?_
    obtain ⟨c, hF⟩ := ck_of hF
    replace hF := lt_of hF
    refine yI_of wh (oA_1011 hv_l0) c ?_
    clear c wh
    intro h wh
    refine gA_of (b := (1012, l0)) (wh.2.1 11027 _ rfl hv_l0) ?_
    refine gI_of (wh.1 11031 _ rfl hv_l0) ?_
    obtain ⟨c, hF⟩ := ck_of hF
    replace hF := lt_of hF
    refine yI_of wh (oA_1012 hv_l0) c ?_
    clear c wh
    intro h wh
    refine gI_of (wh.1 11031 _ rfl hv_l0) ?_
    replace hF := lt_of hF
    refine sF_S wh rfl hv_l0 ?_
    clear wh
    intro h wh
    obtain ⟨rfl, rfl⟩ := some_of hF
    exact hq _ wh
theorem c_X10_emit {X : SCR} {fu : Nat} {o : Unit} {w1 : MEM} {a0 : Nat} {a1 : Int32} {a2 : Int32} {w : MEM} {h : PH} (wh : WH X h w) (h0 : vo 10 a0 = true) (hF : f_X10_emit fu a0 a1 a2 w = some (o, w1)) : CT 1 M_X10_emit [vR (1000, a0), vI a1, vI a2] h 0 0 (QP X (.inl none) w1) :=
  CT_of mk_X10_emit (Nat.le_of_ble_eq_true rfl) rfl (w_X10_emit (fu := fu) (rc := 0) (rs := 0) (hd := Nat.le_refl 1) (hq := fun h1 g => ⟨rfl, g⟩) wh h0 hF)
-- X10_opensOne
def f_X10_opensOne (fu : Nat) (l0 : Nat) (l1 : Int32) (w : MEM) : Option (Unit × MEM) := bnd (f_X10_fine fu l0 w) fun (x2 : Int32) (w1 : MEM) => if x2 = 0 then (bnd (f_X10_fine fu l0 w1) fun (x4 : Int32) (w3 : MEM) => if x4 = 0 then (lt (sS w3 (11007, l0) ((rS w3 (11007, l0)) + (1 : Int32))) fun (w5 : MEM) => some ((), w5)) else (lt (sS w3 (11004, l0) ((rS w3 (11004, l0)) + l1)) fun (w6 : MEM) => lt (sS w6 (11007, l0) ((rS w6 (11007, l0)) + (1 : Int32))) fun (w7 : MEM) => some ((), w7))) else (if (rS w1 (11007, l0)) = (6 : Int32) then (bnd (f_X10_wrong fu l0 (3 : Int32) (rS w1 (11004, l0)) w1) fun (u14 : Unit) (w13 : MEM) => bnd (f_X10_fine fu l0 w13) fun (x16 : Int32) (w15 : MEM) => if x16 = 0 then (lt (sS w15 (11007, l0) ((rS w15 (11007, l0)) + (1 : Int32))) fun (w17 : MEM) => some ((), w17)) else (lt (sS w15 (11004, l0) ((rS w15 (11004, l0)) + l1)) fun (w18 : MEM) => lt (sS w18 (11007, l0) ((rS w18 (11007, l0)) + (1 : Int32))) fun (w19 : MEM) => some ((), w19))) else (bnd (f_X10_fine fu l0 w1) fun (x9 : Int32) (w8 : MEM) => if x9 = 0 then (lt (sS w8 (11007, l0) ((rS w8 (11007, l0)) + (1 : Int32))) fun (w10 : MEM) => some ((), w10)) else (lt (sS w8 (11004, l0) ((rS w8 (11004, l0)) + l1)) fun (w11 : MEM) => lt (sS w11 (11007, l0) ((rS w11 (11007, l0)) + (1 : Int32))) fun (w12 : MEM) => some ((), w12))))
theorem E_X10_opensOne (fu : Nat) (l0 : Nat) (l1 : Int32) (w : MEM) : f_X10_opensOne fu l0 l1 w = bnd (f_X10_fine fu l0 w) fun (x2 : Int32) (w1 : MEM) => if x2 = 0 then (bnd (f_X10_fine fu l0 w1) fun (x4 : Int32) (w3 : MEM) => if x4 = 0 then (lt (sS w3 (11007, l0) ((rS w3 (11007, l0)) + (1 : Int32))) fun (w5 : MEM) => some ((), w5)) else (lt (sS w3 (11004, l0) ((rS w3 (11004, l0)) + l1)) fun (w6 : MEM) => lt (sS w6 (11007, l0) ((rS w6 (11007, l0)) + (1 : Int32))) fun (w7 : MEM) => some ((), w7))) else (if (rS w1 (11007, l0)) = (6 : Int32) then (bnd (f_X10_wrong fu l0 (3 : Int32) (rS w1 (11004, l0)) w1) fun (u14 : Unit) (w13 : MEM) => bnd (f_X10_fine fu l0 w13) fun (x16 : Int32) (w15 : MEM) => if x16 = 0 then (lt (sS w15 (11007, l0) ((rS w15 (11007, l0)) + (1 : Int32))) fun (w17 : MEM) => some ((), w17)) else (lt (sS w15 (11004, l0) ((rS w15 (11004, l0)) + l1)) fun (w18 : MEM) => lt (sS w18 (11007, l0) ((rS w18 (11007, l0)) + (1 : Int32))) fun (w19 : MEM) => some ((), w19))) else (bnd (f_X10_fine fu l0 w1) fun (x9 : Int32) (w8 : MEM) => if x9 = 0 then (lt (sS w8 (11007, l0) ((rS w8 (11007, l0)) + (1 : Int32))) fun (w10 : MEM) => some ((), w10)) else (lt (sS w8 (11004, l0) ((rS w8 (11004, l0)) + l1)) fun (w11 : MEM) => lt (sS w11 (11007, l0) ((rS w11 (11007, l0)) + (1 : Int32))) fun (w12 : MEM) => some ((), w12)))) := rfl
theorem w_X10_opensOne {X : SCR} {d rc rs : Nat} {Q : PO → PH → Prop} {o : Unit} {w1 : MEM} {fu : Nat} (hd : 1 ≤ d) (hq : ∀ h1, WH X h1 w1 → Q (.inl none) h1) {l0 : Nat} {l1 : Int32} {w : MEM} {h : PH} (wh : WH X h w) (hv_l0 : vo 10 l0 = true) (hF : f_X10_opensOne fu l0 l1 w = some (o, w1)) : PW d M_X10_opensOne Q rc rs 0 [vR (1000, l0), vI l1] [] h := by
  replace hF := (E_X10_opensOne fu l0 l1 w).symm.trans hF
  refine r_X10_opensOne_0 ?_
  refine ⟨⟨_, wh.1 11000 _ rfl hv_l0⟩, ?_⟩
  obtain ⟨x2, w1, hG, hF⟩ := bnd_of hF
  refine cl_I (D := 0) (Nat.le_trans (by decide) hd) (c_X10_fine wh hv_l0 hG) ?_
  clear hG
  clear wh
  intro h wh
  refine ⟨fun c => ?_, fun c => ?_⟩
  · replace hF := if_ofT c hF
    refine ⟨⟨_, wh.1 11000 _ rfl hv_l0⟩, ?_⟩
    obtain ⟨x4, w3, hG, hF⟩ := bnd_of hF
    refine cl_I (D := 0) (Nat.le_trans (by decide) hd) (c_X10_fine wh hv_l0 hG) ?_
    clear hG
    clear wh
    intro h wh
    refine ⟨fun c => ?_, fun c => ?_⟩
    · replace hF := if_ofT c hF
      refine gI_of (wh.1 11007 _ rfl hv_l0) ?_
      replace hF := lt_of hF
      refine sF_S wh rfl hv_l0 ?_
      clear wh
      intro h wh
      obtain ⟨rfl, rfl⟩ := some_of hF
      exact hq _ wh
    · replace hF := if_ofF c hF
      refine gI_of (wh.1 11004 _ rfl hv_l0) ?_
      replace hF := lt_of hF
      refine sF_S wh rfl hv_l0 ?_
      clear wh
      intro h wh
      refine gI_of (wh.1 11007 _ rfl hv_l0) ?_
      replace hF := lt_of hF
      refine sF_S wh rfl hv_l0 ?_
      clear wh
      intro h wh
      obtain ⟨rfl, rfl⟩ := some_of hF
      exact hq _ wh
  · replace hF := if_ofF c hF
    refine gI_of (wh.1 11007 _ rfl hv_l0) ?_
    refine ⟨fun c => ?_, fun c => ?_⟩
    · replace hF := if_ofT c hF
      refine gI_of (wh.1 11004 _ rfl hv_l0) ?_
      refine ⟨⟨_, wh.1 11000 _ rfl hv_l0⟩, ?_⟩
      obtain ⟨u14, w13, hG, hF⟩ := bnd_of hF
      refine cl_V (D := 0) (Nat.le_trans (by decide) hd) (c_X10_wrong wh hv_l0 hG) ?_
      clear hG
      clear wh
      intro h wh
      refine ⟨⟨_, wh.1 11000 _ rfl hv_l0⟩, ?_⟩
      obtain ⟨x16, w15, hG, hF⟩ := bnd_of hF
      refine cl_I (D := 0) (Nat.le_trans (by decide) hd) (c_X10_fine wh hv_l0 hG) ?_
      clear hG
      clear wh
      intro h wh
      refine ⟨fun c => ?_, fun c => ?_⟩
      · replace hF := if_ofT c hF
        refine gI_of (wh.1 11007 _ rfl hv_l0) ?_
        replace hF := lt_of hF
        refine sF_S wh rfl hv_l0 ?_
        clear wh
        intro h wh
        obtain ⟨rfl, rfl⟩ := some_of hF
        exact hq _ wh
      · replace hF := if_ofF c hF
        refine gI_of (wh.1 11004 _ rfl hv_l0) ?_
        replace hF := lt_of hF
        refine sF_S wh rfl hv_l0 ?_
        clear wh
        intro h wh
        refine gI_of (wh.1 11007 _ rfl hv_l0) ?_
        replace hF := lt_of hF
        refine sF_S wh rfl hv_l0 ?_
        clear wh
        intro h wh
        obtain ⟨rfl, rfl⟩ := some_of hF
        exact hq _ wh
    · replace hF := if_ofF c hF
      refine ⟨⟨_, wh.1 11000 _ rfl hv_l0⟩, ?_⟩
      obtain ⟨x9, w8, hG, hF⟩ := bnd_of hF
      refine cl_I (D := 0) (Nat.le_trans (by decide) hd) (c_X10_fine wh hv_l0 hG) ?_
      clear hG
      clear wh
      intro h wh
      refine ⟨fun c => ?_, fun c => ?_⟩
      · replace hF := if_ofT c hF
        refine gI_of (wh.1 11007 _ rfl hv_l0) ?_
        replace hF := lt_of hF
        refine sF_S wh rfl hv_l0 ?_
        clear wh
        intro h wh
        obtain ⟨rfl, rfl⟩ := some_of hF
        exact hq _ wh
      · replace hF := if_ofF c hF
        refine gI_of (wh.1 11004 _ rfl hv_l0) ?_
        replace hF := lt_of hF
        refine sF_S wh rfl hv_l0 ?_
        clear wh
        intro h wh
        refine gI_of (wh.1 11007 _ rfl hv_l0) ?_
        replace hF := lt_of hF
        refine sF_S wh rfl hv_l0 ?_
        clear wh
        intro h wh
        obtain ⟨rfl, rfl⟩ := some_of hF
        exact hq _ wh
theorem c_X10_opensOne {X : SCR} {fu : Nat} {o : Unit} {w1 : MEM} {a0 : Nat} {a1 : Int32} {w : MEM} {h : PH} (wh : WH X h w) (h0 : vo 10 a0 = true) (hF : f_X10_opensOne fu a0 a1 w = some (o, w1)) : CT 1 M_X10_opensOne [vR (1000, a0), vI a1] h 0 0 (QP X (.inl none) w1) :=
  CT_of mk_X10_opensOne (Nat.le_of_ble_eq_true rfl) rfl (w_X10_opensOne (fu := fu) (rc := 0) (rs := 0) (hd := Nat.le_refl 1) (hq := fun h1 g => ⟨rfl, g⟩) wh h0 hF)
-- X10_factHere
def f_X10_factHere (fu : Nat) (l0 : Nat) (w : MEM) : Option (Int32 × MEM) := bnd (f_X10_word fu l0 w) fun (x2 : Int32) (w1 : MEM) => bnd (f_X10_of fu 6 w1) fun (x4 : Int32) (w3 : MEM) => if x2 = x4 then (some ((0 : Int32), w3)) else (bnd (f_X10_of fu 7 w3) fun (x6 : Int32) (w5 : MEM) => if x2 = x6 then (some ((1 : Int32), w5)) else (bnd (f_X10_of fu 8 w5) fun (x8 : Int32) (w7 : MEM) => if x2 = x8 then (some ((2 : Int32), w7)) else (bnd (f_X10_of fu 9 w7) fun (x10 : Int32) (w9 : MEM) => if x2 = x10 then (some ((3 : Int32), w9)) else (bnd (f_X10_of fu 10 w9) fun (x12 : Int32) (w11 : MEM) => if x2 = x12 then (some ((4 : Int32), w11)) else (bnd (f_X10_of fu 11 w11) fun (x14 : Int32) (w13 : MEM) => if x2 = x14 then (some ((5 : Int32), w13)) else (bnd (f_X10_of fu 12 w13) fun (x16 : Int32) (w15 : MEM) => if x2 = x16 then (some ((6 : Int32), w15)) else (bnd (f_X10_of fu 3 w15) fun (x18 : Int32) (w17 : MEM) => if x2 = x18 then (some ((7 : Int32), w17)) else (bnd (f_X10_of fu 0 w17) fun (x20 : Int32) (w19 : MEM) => if x2 = x20 then (some ((8 : Int32), w19)) else (some ((-1 : Int32), w19))))))))))
theorem E_X10_factHere (fu : Nat) (l0 : Nat) (w : MEM) : f_X10_factHere fu l0 w = bnd (f_X10_word fu l0 w) fun (x2 : Int32) (w1 : MEM) => bnd (f_X10_of fu 6 w1) fun (x4 : Int32) (w3 : MEM) => if x2 = x4 then (some ((0 : Int32), w3)) else (bnd (f_X10_of fu 7 w3) fun (x6 : Int32) (w5 : MEM) => if x2 = x6 then (some ((1 : Int32), w5)) else (bnd (f_X10_of fu 8 w5) fun (x8 : Int32) (w7 : MEM) => if x2 = x8 then (some ((2 : Int32), w7)) else (bnd (f_X10_of fu 9 w7) fun (x10 : Int32) (w9 : MEM) => if x2 = x10 then (some ((3 : Int32), w9)) else (bnd (f_X10_of fu 10 w9) fun (x12 : Int32) (w11 : MEM) => if x2 = x12 then (some ((4 : Int32), w11)) else (bnd (f_X10_of fu 11 w11) fun (x14 : Int32) (w13 : MEM) => if x2 = x14 then (some ((5 : Int32), w13)) else (bnd (f_X10_of fu 12 w13) fun (x16 : Int32) (w15 : MEM) => if x2 = x16 then (some ((6 : Int32), w15)) else (bnd (f_X10_of fu 3 w15) fun (x18 : Int32) (w17 : MEM) => if x2 = x18 then (some ((7 : Int32), w17)) else (bnd (f_X10_of fu 0 w17) fun (x20 : Int32) (w19 : MEM) => if x2 = x20 then (some ((8 : Int32), w19)) else (some ((-1 : Int32), w19)))))))))) := rfl
theorem w_X10_factHere {X : SCR} {d rc rs : Nat} {Q : PO → PH → Prop} {o : Int32} {w1 : MEM} {fu : Nat} (hd : 7 ≤ d) (hq : ∀ h1, WH X h1 w1 → Q (.inl (some (vI o))) h1) {l0 : Nat} {w : MEM} {h : PH} (wh : WH X h w) (hv_l0 : vo 10 l0 = true) (hF : f_X10_factHere fu l0 w = some (o, w1)) : PW d M_X10_factHere Q rc rs 0 [vR (1000, l0), vU] [] h := by
  replace hF := (E_X10_factHere fu l0 w).symm.trans hF
  refine r_X10_factHere_0 ?_
  refine ⟨⟨_, wh.1 11000 _ rfl hv_l0⟩, ?_⟩
  obtain ⟨x2, w1, hG, hF⟩ := bnd_of hF
  refine cl_I (D := 1) (Nat.le_trans (by decide) hd) (c_X10_word wh hv_l0 hG) ?_
  clear hG
  clear wh
  intro h wh
  obtain ⟨x4, w3, hG, hF⟩ := bnd_of hF
  refine cl_I (D := 6) (Nat.le_trans (by decide) hd) (c_X10_of wh (by decide) hG) ?_
  clear hG
  clear wh
  intro h wh
  refine ⟨fun c => ?_, fun c => ?_⟩
  · replace hF := if_ofT c hF
    obtain ⟨rfl, rfl⟩ := some_of hF
    exact hq _ wh
  · replace hF := if_ofF c hF
    obtain ⟨x6, w5, hG, hF⟩ := bnd_of hF
    refine cl_I (D := 6) (Nat.le_trans (by decide) hd) (c_X10_of wh (by decide) hG) ?_
    clear hG
    clear wh
    intro h wh
    refine ⟨fun c => ?_, fun c => ?_⟩
    · replace hF := if_ofT c hF
      obtain ⟨rfl, rfl⟩ := some_of hF
      exact hq _ wh
    · replace hF := if_ofF c hF
      obtain ⟨x8, w7, hG, hF⟩ := bnd_of hF
      refine cl_I (D := 6) (Nat.le_trans (by decide) hd) (c_X10_of wh (by decide) hG) ?_
      clear hG
      clear wh
      intro h wh
      refine ⟨fun c => ?_, fun c => ?_⟩
      · replace hF := if_ofT c hF
        obtain ⟨rfl, rfl⟩ := some_of hF
        exact hq _ wh
      · replace hF := if_ofF c hF
        obtain ⟨x10, w9, hG, hF⟩ := bnd_of hF
        refine cl_I (D := 6) (Nat.le_trans (by decide) hd) (c_X10_of wh (by decide) hG) ?_
        clear hG
        clear wh
        intro h wh
        refine ⟨fun c => ?_, fun c => ?_⟩
        · replace hF := if_ofT c hF
          obtain ⟨rfl, rfl⟩ := some_of hF
          exact hq _ wh
        · replace hF := if_ofF c hF
          obtain ⟨x12, w11, hG, hF⟩ := bnd_of hF
          refine cl_I (D := 6) (Nat.le_trans (by decide) hd) (c_X10_of wh (by decide) hG) ?_
          clear hG
          clear wh
          intro h wh
          refine ⟨fun c => ?_, fun c => ?_⟩
          · replace hF := if_ofT c hF
            obtain ⟨rfl, rfl⟩ := some_of hF
            exact hq _ wh
          · replace hF := if_ofF c hF
            obtain ⟨x14, w13, hG, hF⟩ := bnd_of hF
            refine cl_I (D := 6) (Nat.le_trans (by decide) hd) (c_X10_of wh (by decide) hG) ?_
            clear hG
            clear wh
            intro h wh
            refine ⟨fun c => ?_, fun c => ?_⟩
            · replace hF := if_ofT c hF
              obtain ⟨rfl, rfl⟩ := some_of hF
              exact hq _ wh
            · replace hF := if_ofF c hF
              obtain ⟨x16, w15, hG, hF⟩ := bnd_of hF
              refine cl_I (D := 6) (Nat.le_trans (by decide) hd) (c_X10_of wh (by decide) hG) ?_
              clear hG
              clear wh
              intro h wh
              refine ⟨fun c => ?_, fun c => ?_⟩
              · replace hF := if_ofT c hF
                obtain ⟨rfl, rfl⟩ := some_of hF
                exact hq _ wh
              · replace hF := if_ofF c hF
                obtain ⟨x18, w17, hG, hF⟩ := bnd_of hF
                refine cl_I (D := 6) (Nat.le_trans (by decide) hd) (c_X10_of wh (by decide) hG) ?_
                clear hG
                clear wh
                intro h wh
                refine ⟨fun c => ?_, fun c => ?_⟩
                · replace hF := if_ofT c hF
                  obtain ⟨rfl, rfl⟩ := some_of hF
                  exact hq _ wh
                · replace hF := if_ofF c hF
                  obtain ⟨x20, w19, hG, hF⟩ := bnd_of hF
                  refine cl_I (D := 6) (Nat.le_trans (by decide) hd) (c_X10_of wh (by decide) hG) ?_
                  clear hG
                  clear wh
                  intro h wh
                  refine ⟨fun c => ?_, fun c => ?_⟩
                  · replace hF := if_ofT c hF
                    obtain ⟨rfl, rfl⟩ := some_of hF
                    exact hq _ wh
                  · replace hF := if_ofF c hF
                    obtain ⟨rfl, rfl⟩ := some_of hF
                    exact hq _ wh
theorem c_X10_factHere {X : SCR} {fu : Nat} {o : Int32} {w1 : MEM} {a0 : Nat} {w : MEM} {h : PH} (wh : WH X h w) (h0 : vo 10 a0 = true) (hF : f_X10_factHere fu a0 w = some (o, w1)) : CT 7 M_X10_factHere [vR (1000, a0)] h 0 0 (QP X (.inl (some (vI o))) w1) :=
  CT_of mk_X10_factHere (Nat.le_of_ble_eq_true rfl) rfl (w_X10_factHere (fu := fu) (rc := 0) (rs := 0) (hd := Nat.le_refl 7) (hq := fun h1 g => ⟨rfl, g⟩) wh h0 hF)
-- X10_readSum
def f_X10_readSum_29 (fu : Nat) (c_readSum : Nat → MEM → Option (Unit × MEM)) (c_readProduct : Nat → MEM → Option (Unit × MEM)) (c_readUnit : Nat → MEM → Option (Unit × MEM)) (c_readTwo : Nat → Int32 → Int32 → MEM → Option (Unit × MEM)) (k4 : Nat → MEM → Option (Unit × MEM)) (l0 : Nat) (w : MEM) : Option (Unit × MEM) := bnd (f_X10_here fu l0 w) fun (x2 : Int32) (w1 : MEM) => if x2 = (43 : Int32) then (lt (sS w1 (11004, l0) ((rS w1 (11004, l0)) + (1 : Int32))) fun (w8 : MEM) => bnd (c_readProduct l0 w8) fun (u10 : Unit) (w9 : MEM) => bnd (f_X10_emit fu l0 (2 : Int32) (0 : Int32) w9) fun (u12 : Unit) (w11 : MEM) => k4 l0 w11) else (lt (sS w1 (11004, l0) ((rS w1 (11004, l0)) + (1 : Int32))) fun (w3 : MEM) => bnd (c_readProduct l0 w3) fun (u5 : Unit) (w4 : MEM) => bnd (f_X10_emit fu l0 (3 : Int32) (0 : Int32) w4) fun (u7 : Unit) (w6 : MEM) => k4 l0 w6)
theorem E_X10_readSum_29 (fu : Nat) (c_readSum : Nat → MEM → Option (Unit × MEM)) (c_readProduct : Nat → MEM → Option (Unit × MEM)) (c_readUnit : Nat → MEM → Option (Unit × MEM)) (c_readTwo : Nat → Int32 → Int32 → MEM → Option (Unit × MEM)) (k4 : Nat → MEM → Option (Unit × MEM)) (l0 : Nat) (w : MEM) : f_X10_readSum_29 fu c_readSum c_readProduct c_readUnit c_readTwo k4 l0 w = bnd (f_X10_here fu l0 w) fun (x2 : Int32) (w1 : MEM) => if x2 = (43 : Int32) then (lt (sS w1 (11004, l0) ((rS w1 (11004, l0)) + (1 : Int32))) fun (w8 : MEM) => bnd (c_readProduct l0 w8) fun (u10 : Unit) (w9 : MEM) => bnd (f_X10_emit fu l0 (2 : Int32) (0 : Int32) w9) fun (u12 : Unit) (w11 : MEM) => k4 l0 w11) else (lt (sS w1 (11004, l0) ((rS w1 (11004, l0)) + (1 : Int32))) fun (w3 : MEM) => bnd (c_readProduct l0 w3) fun (u5 : Unit) (w4 : MEM) => bnd (f_X10_emit fu l0 (3 : Int32) (0 : Int32) w4) fun (u7 : Unit) (w6 : MEM) => k4 l0 w6) := rfl
theorem w_X10_readSum_29 {X : SCR} {d rc rs DR : Nat} {Q : PO → PH → Prop} {o : Unit} {w1 : MEM} {fu : Nat} {c_readSum : Nat → MEM → Option (Unit × MEM)} {c_readProduct : Nat → MEM → Option (Unit × MEM)} {c_readUnit : Nat → MEM → Option (Unit × MEM)} {c_readTwo : Nat → Int32 → Int32 → MEM → Option (Unit × MEM)} {k4 : Nat → MEM → Option (Unit × MEM)} (hd : 8 ≤ d) (hr : DR + 1 ≤ d) (hc_readSum : ∀ (a0 : Nat) (w : MEM) (h : PH) (o : Unit) (w1 : MEM), WH X h w → vo 10 a0 = true → c_readSum a0 w = some (o, w1) → CT DR M_X10_readSum [vR (1000, a0)] h 0 0 (QP X (.inl none) w1)) (hc_readProduct : ∀ (a0 : Nat) (w : MEM) (h : PH) (o : Unit) (w1 : MEM), WH X h w → vo 10 a0 = true → c_readProduct a0 w = some (o, w1) → CT DR M_X10_readProduct [vR (1000, a0)] h 0 0 (QP X (.inl none) w1)) (hc_readUnit : ∀ (a0 : Nat) (w : MEM) (h : PH) (o : Unit) (w1 : MEM), WH X h w → vo 10 a0 = true → c_readUnit a0 w = some (o, w1) → CT DR M_X10_readUnit [vR (1000, a0)] h 0 0 (QP X (.inl none) w1)) (hc_readTwo : ∀ (a0 : Nat) (a1 : Int32) (a2 : Int32) (w : MEM) (h : PH) (o : Unit) (w1 : MEM), WH X h w → vo 10 a0 = true → c_readTwo a0 a1 a2 w = some (o, w1) → CT DR M_X10_readTwo [vR (1000, a0), vI a1, vI a2] h 0 0 (QP X (.inl none) w1)) (hq : ∀ h1, WH X h1 w1 → Q (.inl none) h1) (hk4 : ∀ (l0 : Nat) (w : MEM) (h : PH), WH X h w → vo 10 l0 = true → k4 l0 w = some (o, w1) → PW d M_X10_readSum Q rc rs 4 [vR (1000, l0), vU] [] h) {l0 : Nat} {w : MEM} {h : PH} (wh : WH X h w) (hv_l0 : vo 10 l0 = true) (hF : f_X10_readSum_29 fu c_readSum c_readProduct c_readUnit c_readTwo k4 l0 w = some (o, w1)) : PW d M_X10_readSum Q rc rs 29 [vR (1000, l0), vU] [] h := by
  replace hF := (E_X10_readSum_29 fu c_readSum c_readProduct c_readUnit c_readTwo k4 l0 w).symm.trans hF
  refine r_X10_readSum_29 ?_
  refine ⟨⟨_, wh.1 11000 _ rfl hv_l0⟩, ?_⟩
  obtain ⟨x2, w1, hG, hF⟩ := bnd_of hF
  refine cl_I (D := 0) (Nat.le_trans (by decide) hd) (c_X10_here wh hv_l0 hG) ?_
  clear hG
  clear wh
  intro h wh
  refine ⟨fun c => ?_, fun c => ?_⟩
  · replace hF := if_ofT c hF
    refine gI_of (wh.1 11004 _ rfl hv_l0) ?_
    replace hF := lt_of hF
    refine sF_S wh rfl hv_l0 ?_
    clear wh
    intro h wh
    refine ⟨⟨_, wh.1 11000 _ rfl hv_l0⟩, ?_⟩
    obtain ⟨u10, w9, hG, hF⟩ := bnd_of hF
    refine cl_V hr (hc_readProduct _ _ _ _ _ wh hv_l0 hG) ?_
    clear hG
    clear wh
    intro h wh
    refine ⟨⟨_, wh.1 11000 _ rfl hv_l0⟩, ?_⟩
    obtain ⟨u12, w11, hG, hF⟩ := bnd_of hF
    refine cl_V (D := 1) (Nat.le_trans (by decide) hd) (c_X10_emit wh hv_l0 hG) ?_
    clear hG
    clear wh
    intro h wh
    exact hk4 _ _ _ wh hv_l0 hF
  · replace hF := if_ofF c hF
    refine gI_of (wh.1 11004 _ rfl hv_l0) ?_
    replace hF := lt_of hF
    refine sF_S wh rfl hv_l0 ?_
    clear wh
    intro h wh
    refine ⟨⟨_, wh.1 11000 _ rfl hv_l0⟩, ?_⟩
    obtain ⟨u5, w4, hG, hF⟩ := bnd_of hF
    refine cl_V hr (hc_readProduct _ _ _ _ _ wh hv_l0 hG) ?_
    clear hG
    clear wh
    intro h wh
    refine ⟨⟨_, wh.1 11000 _ rfl hv_l0⟩, ?_⟩
    obtain ⟨u7, w6, hG, hF⟩ := bnd_of hF
    refine cl_V (D := 1) (Nat.le_trans (by decide) hd) (c_X10_emit wh hv_l0 hG) ?_
    clear hG
    clear wh
    intro h wh
    exact hk4 _ _ _ wh hv_l0 hF
def f_X10_readSum_4 (fu : Nat) (c_readSum : Nat → MEM → Option (Unit × MEM)) (c_readProduct : Nat → MEM → Option (Unit × MEM)) (c_readUnit : Nat → MEM → Option (Unit × MEM)) (c_readTwo : Nat → Int32 → Int32 → MEM → Option (Unit × MEM)) : Nat → Nat → MEM → Option (Unit × MEM)
  | 0, _, _ => none
  | n + 1, l0, w => bnd (f_X10_fine fu l0 w) fun (x2 : Int32) (w1 : MEM) => if x2 = 0 then (some ((), w1)) else (bnd (f_X10_here fu l0 w1) fun (x4 : Int32) (w3 : MEM) => if x4 = (43 : Int32) then (f_X10_readSum_29 fu c_readSum c_readProduct c_readUnit c_readTwo (fun l0 w => f_X10_readSum_4 fu c_readSum c_readProduct c_readUnit c_readTwo n l0 w) l0 w3) else (bnd (f_X10_here fu l0 w3) fun (x6 : Int32) (w5 : MEM) => if x6 = (45 : Int32) then (f_X10_readSum_29 fu c_readSum c_readProduct c_readUnit c_readTwo (fun l0 w => f_X10_readSum_4 fu c_readSum c_readProduct c_readUnit c_readTwo n l0 w) l0 w5) else (some ((), w5))))
theorem E_X10_readSum_4 (fu : Nat) (c_readSum : Nat → MEM → Option (Unit × MEM)) (c_readProduct : Nat → MEM → Option (Unit × MEM)) (c_readUnit : Nat → MEM → Option (Unit × MEM)) (c_readTwo : Nat → Int32 → Int32 → MEM → Option (Unit × MEM)) (n : Nat) (l0 : Nat) (w : MEM) : f_X10_readSum_4 fu c_readSum c_readProduct c_readUnit c_readTwo (n + 1) l0 w = bnd (f_X10_fine fu l0 w) fun (x2 : Int32) (w1 : MEM) => if x2 = 0 then (some ((), w1)) else (bnd (f_X10_here fu l0 w1) fun (x4 : Int32) (w3 : MEM) => if x4 = (43 : Int32) then (f_X10_readSum_29 fu c_readSum c_readProduct c_readUnit c_readTwo (fun l0 w => f_X10_readSum_4 fu c_readSum c_readProduct c_readUnit c_readTwo n l0 w) l0 w3) else (bnd (f_X10_here fu l0 w3) fun (x6 : Int32) (w5 : MEM) => if x6 = (45 : Int32) then (f_X10_readSum_29 fu c_readSum c_readProduct c_readUnit c_readTwo (fun l0 w => f_X10_readSum_4 fu c_readSum c_readProduct c_readUnit c_readTwo n l0 w) l0 w5) else (some ((), w5)))) := rfl
theorem w_X10_readSum_4 {X : SCR} {d rc rs DR : Nat} {Q : PO → PH → Prop} {o : Unit} {w1 : MEM} {fu : Nat} {c_readSum : Nat → MEM → Option (Unit × MEM)} {c_readProduct : Nat → MEM → Option (Unit × MEM)} {c_readUnit : Nat → MEM → Option (Unit × MEM)} {c_readTwo : Nat → Int32 → Int32 → MEM → Option (Unit × MEM)} (hd : 8 ≤ d) (hr : DR + 1 ≤ d) (hc_readSum : ∀ (a0 : Nat) (w : MEM) (h : PH) (o : Unit) (w1 : MEM), WH X h w → vo 10 a0 = true → c_readSum a0 w = some (o, w1) → CT DR M_X10_readSum [vR (1000, a0)] h 0 0 (QP X (.inl none) w1)) (hc_readProduct : ∀ (a0 : Nat) (w : MEM) (h : PH) (o : Unit) (w1 : MEM), WH X h w → vo 10 a0 = true → c_readProduct a0 w = some (o, w1) → CT DR M_X10_readProduct [vR (1000, a0)] h 0 0 (QP X (.inl none) w1)) (hc_readUnit : ∀ (a0 : Nat) (w : MEM) (h : PH) (o : Unit) (w1 : MEM), WH X h w → vo 10 a0 = true → c_readUnit a0 w = some (o, w1) → CT DR M_X10_readUnit [vR (1000, a0)] h 0 0 (QP X (.inl none) w1)) (hc_readTwo : ∀ (a0 : Nat) (a1 : Int32) (a2 : Int32) (w : MEM) (h : PH) (o : Unit) (w1 : MEM), WH X h w → vo 10 a0 = true → c_readTwo a0 a1 a2 w = some (o, w1) → CT DR M_X10_readTwo [vR (1000, a0), vI a1, vI a2] h 0 0 (QP X (.inl none) w1)) (hq : ∀ h1, WH X h1 w1 → Q (.inl none) h1) : ∀ (n : Nat) (l0 : Nat) (w : MEM) (h : PH), WH X h w → vo 10 l0 = true → f_X10_readSum_4 fu c_readSum c_readProduct c_readUnit c_readTwo n l0 w = some (o, w1) → PW d M_X10_readSum Q rc rs 4 [vR (1000, l0), vU] [] h := by
  intro n
  induction n with
  | zero => intro l0 w h wh hv_l0 hF; cases hF
  | succ n ih =>
    intro l0 w h wh hv_l0 hF
    replace hF := (E_X10_readSum_4 fu c_readSum c_readProduct c_readUnit c_readTwo n l0 w).symm.trans hF
    refine r_X10_readSum_4 ?_
    refine ⟨⟨_, wh.1 11000 _ rfl hv_l0⟩, ?_⟩
    obtain ⟨x2, w1, hG, hF⟩ := bnd_of hF
    refine cl_I (D := 0) (Nat.le_trans (by decide) hd) (c_X10_fine wh hv_l0 hG) ?_
    clear hG
    clear wh
    intro h wh
    refine ⟨fun c => ?_, fun c => ?_⟩
    · replace hF := if_ofT c hF
      obtain ⟨rfl, rfl⟩ := some_of hF
      exact hq _ wh
    · replace hF := if_ofF c hF
      refine ⟨⟨_, wh.1 11000 _ rfl hv_l0⟩, ?_⟩
      obtain ⟨x4, w3, hG, hF⟩ := bnd_of hF
      refine cl_I (D := 0) (Nat.le_trans (by decide) hd) (c_X10_here wh hv_l0 hG) ?_
      clear hG
      clear wh
      intro h wh
      refine ⟨fun c => ?_, fun c => ?_⟩
      · replace hF := if_ofT c hF
        exact w_X10_readSum_29 hd hr hc_readSum hc_readProduct hc_readUnit hc_readTwo hq (fun l0 w h wh g0 hF => ih l0 w h wh g0 hF) wh hv_l0 hF
      · replace hF := if_ofF c hF
        refine ⟨⟨_, wh.1 11000 _ rfl hv_l0⟩, ?_⟩
        obtain ⟨x6, w5, hG, hF⟩ := bnd_of hF
        refine cl_I (D := 0) (Nat.le_trans (by decide) hd) (c_X10_here wh hv_l0 hG) ?_
        clear hG
        clear wh
        intro h wh
        refine ⟨fun c => ?_, fun c => ?_⟩
        · replace hF := if_ofT c hF
          exact w_X10_readSum_29 hd hr hc_readSum hc_readProduct hc_readUnit hc_readTwo hq (fun l0 w h wh g0 hF => ih l0 w h wh g0 hF) wh hv_l0 hF
        · replace hF := if_ofF c hF
          obtain ⟨rfl, rfl⟩ := some_of hF
          exact hq _ wh
def b_X10_readSum (fu : Nat) (c_readSum : Nat → MEM → Option (Unit × MEM)) (c_readProduct : Nat → MEM → Option (Unit × MEM)) (c_readUnit : Nat → MEM → Option (Unit × MEM)) (c_readTwo : Nat → Int32 → Int32 → MEM → Option (Unit × MEM)) (l0 : Nat) (w : MEM) : Option (Unit × MEM) := bnd (c_readProduct l0 w) fun (u2 : Unit) (w1 : MEM) => f_X10_readSum_4 fu c_readSum c_readProduct c_readUnit c_readTwo fu l0 w1
theorem E_X10_readSum (fu : Nat) (c_readSum : Nat → MEM → Option (Unit × MEM)) (c_readProduct : Nat → MEM → Option (Unit × MEM)) (c_readUnit : Nat → MEM → Option (Unit × MEM)) (c_readTwo : Nat → Int32 → Int32 → MEM → Option (Unit × MEM)) (l0 : Nat) (w : MEM) : b_X10_readSum fu c_readSum c_readProduct c_readUnit c_readTwo l0 w = bnd (c_readProduct l0 w) fun (u2 : Unit) (w1 : MEM) => f_X10_readSum_4 fu c_readSum c_readProduct c_readUnit c_readTwo fu l0 w1 := rfl
theorem w_X10_readSum {X : SCR} {d rc rs DR : Nat} {Q : PO → PH → Prop} {o : Unit} {w1 : MEM} {fu : Nat} {c_readSum : Nat → MEM → Option (Unit × MEM)} {c_readProduct : Nat → MEM → Option (Unit × MEM)} {c_readUnit : Nat → MEM → Option (Unit × MEM)} {c_readTwo : Nat → Int32 → Int32 → MEM → Option (Unit × MEM)} (hd : 8 ≤ d) (hr : DR + 1 ≤ d) (hc_readSum : ∀ (a0 : Nat) (w : MEM) (h : PH) (o : Unit) (w1 : MEM), WH X h w → vo 10 a0 = true → c_readSum a0 w = some (o, w1) → CT DR M_X10_readSum [vR (1000, a0)] h 0 0 (QP X (.inl none) w1)) (hc_readProduct : ∀ (a0 : Nat) (w : MEM) (h : PH) (o : Unit) (w1 : MEM), WH X h w → vo 10 a0 = true → c_readProduct a0 w = some (o, w1) → CT DR M_X10_readProduct [vR (1000, a0)] h 0 0 (QP X (.inl none) w1)) (hc_readUnit : ∀ (a0 : Nat) (w : MEM) (h : PH) (o : Unit) (w1 : MEM), WH X h w → vo 10 a0 = true → c_readUnit a0 w = some (o, w1) → CT DR M_X10_readUnit [vR (1000, a0)] h 0 0 (QP X (.inl none) w1)) (hc_readTwo : ∀ (a0 : Nat) (a1 : Int32) (a2 : Int32) (w : MEM) (h : PH) (o : Unit) (w1 : MEM), WH X h w → vo 10 a0 = true → c_readTwo a0 a1 a2 w = some (o, w1) → CT DR M_X10_readTwo [vR (1000, a0), vI a1, vI a2] h 0 0 (QP X (.inl none) w1)) (hq : ∀ h1, WH X h1 w1 → Q (.inl none) h1) {l0 : Nat} {w : MEM} {h : PH} (wh : WH X h w) (hv_l0 : vo 10 l0 = true) (hF : b_X10_readSum fu c_readSum c_readProduct c_readUnit c_readTwo l0 w = some (o, w1)) : PW d M_X10_readSum Q rc rs 0 [vR (1000, l0), vU] [] h := by
  replace hF := (E_X10_readSum fu c_readSum c_readProduct c_readUnit c_readTwo l0 w).symm.trans hF
  refine r_X10_readSum_0 ?_
  refine ⟨⟨_, wh.1 11000 _ rfl hv_l0⟩, ?_⟩
  obtain ⟨u2, w1, hG, hF⟩ := bnd_of hF
  refine cl_V hr (hc_readProduct _ _ _ _ _ wh hv_l0 hG) ?_
  clear hG
  clear wh
  intro h wh
  exact w_X10_readSum_4 hd hr hc_readSum hc_readProduct hc_readUnit hc_readTwo hq  fu _ _ _ wh hv_l0 hF
-- X10_readProduct
def f_X10_readProduct_38 (fu : Nat) (c_readSum : Nat → MEM → Option (Unit × MEM)) (c_readProduct : Nat → MEM → Option (Unit × MEM)) (c_readUnit : Nat → MEM → Option (Unit × MEM)) (c_readTwo : Nat → Int32 → Int32 → MEM → Option (Unit × MEM)) (k4 : Nat → MEM → Option (Unit × MEM)) (l0 : Nat) (w : MEM) : Option (Unit × MEM) := bnd (f_X10_here fu l0 w) fun (x2 : Int32) (w1 : MEM) => if x2 = (42 : Int32) then (lt (sS w1 (11004, l0) ((rS w1 (11004, l0)) + (1 : Int32))) fun (w15 : MEM) => bnd (c_readUnit l0 w15) fun (u17 : Unit) (w16 : MEM) => bnd (f_X10_emit fu l0 (4 : Int32) (0 : Int32) w16) fun (u19 : Unit) (w18 : MEM) => k4 l0 w18) else (bnd (f_X10_here fu l0 w1) fun (x4 : Int32) (w3 : MEM) => if x4 = (47 : Int32) then (lt (sS w3 (11004, l0) ((rS w3 (11004, l0)) + (1 : Int32))) fun (w10 : MEM) => bnd (c_readUnit l0 w10) fun (u12 : Unit) (w11 : MEM) => bnd (f_X10_emit fu l0 (5 : Int32) (0 : Int32) w11) fun (u14 : Unit) (w13 : MEM) => k4 l0 w13) else (lt (sS w3 (11004, l0) ((rS w3 (11004, l0)) + (1 : Int32))) fun (w5 : MEM) => bnd (c_readUnit l0 w5) fun (u7 : Unit) (w6 : MEM) => bnd (f_X10_emit fu l0 (8 : Int32) (0 : Int32) w6) fun (u9 : Unit) (w8 : MEM) => k4 l0 w8))
theorem E_X10_readProduct_38 (fu : Nat) (c_readSum : Nat → MEM → Option (Unit × MEM)) (c_readProduct : Nat → MEM → Option (Unit × MEM)) (c_readUnit : Nat → MEM → Option (Unit × MEM)) (c_readTwo : Nat → Int32 → Int32 → MEM → Option (Unit × MEM)) (k4 : Nat → MEM → Option (Unit × MEM)) (l0 : Nat) (w : MEM) : f_X10_readProduct_38 fu c_readSum c_readProduct c_readUnit c_readTwo k4 l0 w = bnd (f_X10_here fu l0 w) fun (x2 : Int32) (w1 : MEM) => if x2 = (42 : Int32) then (lt (sS w1 (11004, l0) ((rS w1 (11004, l0)) + (1 : Int32))) fun (w15 : MEM) => bnd (c_readUnit l0 w15) fun (u17 : Unit) (w16 : MEM) => bnd (f_X10_emit fu l0 (4 : Int32) (0 : Int32) w16) fun (u19 : Unit) (w18 : MEM) => k4 l0 w18) else (bnd (f_X10_here fu l0 w1) fun (x4 : Int32) (w3 : MEM) => if x4 = (47 : Int32) then (lt (sS w3 (11004, l0) ((rS w3 (11004, l0)) + (1 : Int32))) fun (w10 : MEM) => bnd (c_readUnit l0 w10) fun (u12 : Unit) (w11 : MEM) => bnd (f_X10_emit fu l0 (5 : Int32) (0 : Int32) w11) fun (u14 : Unit) (w13 : MEM) => k4 l0 w13) else (lt (sS w3 (11004, l0) ((rS w3 (11004, l0)) + (1 : Int32))) fun (w5 : MEM) => bnd (c_readUnit l0 w5) fun (u7 : Unit) (w6 : MEM) => bnd (f_X10_emit fu l0 (8 : Int32) (0 : Int32) w6) fun (u9 : Unit) (w8 : MEM) => k4 l0 w8)) := rfl
theorem w_X10_readProduct_38 {X : SCR} {d rc rs DR : Nat} {Q : PO → PH → Prop} {o : Unit} {w1 : MEM} {fu : Nat} {c_readSum : Nat → MEM → Option (Unit × MEM)} {c_readProduct : Nat → MEM → Option (Unit × MEM)} {c_readUnit : Nat → MEM → Option (Unit × MEM)} {c_readTwo : Nat → Int32 → Int32 → MEM → Option (Unit × MEM)} {k4 : Nat → MEM → Option (Unit × MEM)} (hd : 8 ≤ d) (hr : DR + 1 ≤ d) (hc_readSum : ∀ (a0 : Nat) (w : MEM) (h : PH) (o : Unit) (w1 : MEM), WH X h w → vo 10 a0 = true → c_readSum a0 w = some (o, w1) → CT DR M_X10_readSum [vR (1000, a0)] h 0 0 (QP X (.inl none) w1)) (hc_readProduct : ∀ (a0 : Nat) (w : MEM) (h : PH) (o : Unit) (w1 : MEM), WH X h w → vo 10 a0 = true → c_readProduct a0 w = some (o, w1) → CT DR M_X10_readProduct [vR (1000, a0)] h 0 0 (QP X (.inl none) w1)) (hc_readUnit : ∀ (a0 : Nat) (w : MEM) (h : PH) (o : Unit) (w1 : MEM), WH X h w → vo 10 a0 = true → c_readUnit a0 w = some (o, w1) → CT DR M_X10_readUnit [vR (1000, a0)] h 0 0 (QP X (.inl none) w1)) (hc_readTwo : ∀ (a0 : Nat) (a1 : Int32) (a2 : Int32) (w : MEM) (h : PH) (o : Unit) (w1 : MEM), WH X h w → vo 10 a0 = true → c_readTwo a0 a1 a2 w = some (o, w1) → CT DR M_X10_readTwo [vR (1000, a0), vI a1, vI a2] h 0 0 (QP X (.inl none) w1)) (hq : ∀ h1, WH X h1 w1 → Q (.inl none) h1) (hk4 : ∀ (l0 : Nat) (w : MEM) (h : PH), WH X h w → vo 10 l0 = true → k4 l0 w = some (o, w1) → PW d M_X10_readProduct Q rc rs 4 [vR (1000, l0), vU] [] h) {l0 : Nat} {w : MEM} {h : PH} (wh : WH X h w) (hv_l0 : vo 10 l0 = true) (hF : f_X10_readProduct_38 fu c_readSum c_readProduct c_readUnit c_readTwo k4 l0 w = some (o, w1)) : PW d M_X10_readProduct Q rc rs 38 [vR (1000, l0), vU] [] h := by
  replace hF := (E_X10_readProduct_38 fu c_readSum c_readProduct c_readUnit c_readTwo k4 l0 w).symm.trans hF
  refine r_X10_readProduct_38 ?_
  refine ⟨⟨_, wh.1 11000 _ rfl hv_l0⟩, ?_⟩
  obtain ⟨x2, w1, hG, hF⟩ := bnd_of hF
  refine cl_I (D := 0) (Nat.le_trans (by decide) hd) (c_X10_here wh hv_l0 hG) ?_
  clear hG
  clear wh
  intro h wh
  refine ⟨fun c => ?_, fun c => ?_⟩
  · replace hF := if_ofT c hF
    refine gI_of (wh.1 11004 _ rfl hv_l0) ?_
    replace hF := lt_of hF
    refine sF_S wh rfl hv_l0 ?_
    clear wh
    intro h wh
    refine ⟨⟨_, wh.1 11000 _ rfl hv_l0⟩, ?_⟩
    obtain ⟨u17, w16, hG, hF⟩ := bnd_of hF
    refine cl_V hr (hc_readUnit _ _ _ _ _ wh hv_l0 hG) ?_
    clear hG
    clear wh
    intro h wh
    refine ⟨⟨_, wh.1 11000 _ rfl hv_l0⟩, ?_⟩
    obtain ⟨u19, w18, hG, hF⟩ := bnd_of hF
    refine cl_V (D := 1) (Nat.le_trans (by decide) hd) (c_X10_emit wh hv_l0 hG) ?_
    clear hG
    clear wh
    intro h wh
    exact hk4 _ _ _ wh hv_l0 hF
  · replace hF := if_ofF c hF
    refine ⟨⟨_, wh.1 11000 _ rfl hv_l0⟩, ?_⟩
    obtain ⟨x4, w3, hG, hF⟩ := bnd_of hF
    refine cl_I (D := 0) (Nat.le_trans (by decide) hd) (c_X10_here wh hv_l0 hG) ?_
    clear hG
    clear wh
    intro h wh
    refine ⟨fun c => ?_, fun c => ?_⟩
    · replace hF := if_ofT c hF
      refine gI_of (wh.1 11004 _ rfl hv_l0) ?_
      replace hF := lt_of hF
      refine sF_S wh rfl hv_l0 ?_
      clear wh
      intro h wh
      refine ⟨⟨_, wh.1 11000 _ rfl hv_l0⟩, ?_⟩
      obtain ⟨u12, w11, hG, hF⟩ := bnd_of hF
      refine cl_V hr (hc_readUnit _ _ _ _ _ wh hv_l0 hG) ?_
      clear hG
      clear wh
      intro h wh
      refine ⟨⟨_, wh.1 11000 _ rfl hv_l0⟩, ?_⟩
      obtain ⟨u14, w13, hG, hF⟩ := bnd_of hF
      refine cl_V (D := 1) (Nat.le_trans (by decide) hd) (c_X10_emit wh hv_l0 hG) ?_
      clear hG
      clear wh
      intro h wh
      exact hk4 _ _ _ wh hv_l0 hF
    · replace hF := if_ofF c hF
      refine gI_of (wh.1 11004 _ rfl hv_l0) ?_
      replace hF := lt_of hF
      refine sF_S wh rfl hv_l0 ?_
      clear wh
      intro h wh
      refine ⟨⟨_, wh.1 11000 _ rfl hv_l0⟩, ?_⟩
      obtain ⟨u7, w6, hG, hF⟩ := bnd_of hF
      refine cl_V hr (hc_readUnit _ _ _ _ _ wh hv_l0 hG) ?_
      clear hG
      clear wh
      intro h wh
      refine ⟨⟨_, wh.1 11000 _ rfl hv_l0⟩, ?_⟩
      obtain ⟨u9, w8, hG, hF⟩ := bnd_of hF
      refine cl_V (D := 1) (Nat.le_trans (by decide) hd) (c_X10_emit wh hv_l0 hG) ?_
      clear hG
      clear wh
      intro h wh
      exact hk4 _ _ _ wh hv_l0 hF
def f_X10_readProduct_4 (fu : Nat) (c_readSum : Nat → MEM → Option (Unit × MEM)) (c_readProduct : Nat → MEM → Option (Unit × MEM)) (c_readUnit : Nat → MEM → Option (Unit × MEM)) (c_readTwo : Nat → Int32 → Int32 → MEM → Option (Unit × MEM)) : Nat → Nat → MEM → Option (Unit × MEM)
  | 0, _, _ => none
  | n + 1, l0, w => bnd (f_X10_fine fu l0 w) fun (x2 : Int32) (w1 : MEM) => if x2 = 0 then (some ((), w1)) else (bnd (f_X10_here fu l0 w1) fun (x4 : Int32) (w3 : MEM) => if x4 = (42 : Int32) then (f_X10_readProduct_38 fu c_readSum c_readProduct c_readUnit c_readTwo (fun l0 w => f_X10_readProduct_4 fu c_readSum c_readProduct c_readUnit c_readTwo n l0 w) l0 w3) else (bnd (f_X10_here fu l0 w3) fun (x6 : Int32) (w5 : MEM) => if x6 = (47 : Int32) then (f_X10_readProduct_38 fu c_readSum c_readProduct c_readUnit c_readTwo (fun l0 w => f_X10_readProduct_4 fu c_readSum c_readProduct c_readUnit c_readTwo n l0 w) l0 w5) else (bnd (f_X10_here fu l0 w5) fun (x8 : Int32) (w7 : MEM) => if x8 = (37 : Int32) then (f_X10_readProduct_38 fu c_readSum c_readProduct c_readUnit c_readTwo (fun l0 w => f_X10_readProduct_4 fu c_readSum c_readProduct c_readUnit c_readTwo n l0 w) l0 w7) else (some ((), w7)))))
theorem E_X10_readProduct_4 (fu : Nat) (c_readSum : Nat → MEM → Option (Unit × MEM)) (c_readProduct : Nat → MEM → Option (Unit × MEM)) (c_readUnit : Nat → MEM → Option (Unit × MEM)) (c_readTwo : Nat → Int32 → Int32 → MEM → Option (Unit × MEM)) (n : Nat) (l0 : Nat) (w : MEM) : f_X10_readProduct_4 fu c_readSum c_readProduct c_readUnit c_readTwo (n + 1) l0 w = bnd (f_X10_fine fu l0 w) fun (x2 : Int32) (w1 : MEM) => if x2 = 0 then (some ((), w1)) else (bnd (f_X10_here fu l0 w1) fun (x4 : Int32) (w3 : MEM) => if x4 = (42 : Int32) then (f_X10_readProduct_38 fu c_readSum c_readProduct c_readUnit c_readTwo (fun l0 w => f_X10_readProduct_4 fu c_readSum c_readProduct c_readUnit c_readTwo n l0 w) l0 w3) else (bnd (f_X10_here fu l0 w3) fun (x6 : Int32) (w5 : MEM) => if x6 = (47 : Int32) then (f_X10_readProduct_38 fu c_readSum c_readProduct c_readUnit c_readTwo (fun l0 w => f_X10_readProduct_4 fu c_readSum c_readProduct c_readUnit c_readTwo n l0 w) l0 w5) else (bnd (f_X10_here fu l0 w5) fun (x8 : Int32) (w7 : MEM) => if x8 = (37 : Int32) then (f_X10_readProduct_38 fu c_readSum c_readProduct c_readUnit c_readTwo (fun l0 w => f_X10_readProduct_4 fu c_readSum c_readProduct c_readUnit c_readTwo n l0 w) l0 w7) else (some ((), w7))))) := rfl
theorem w_X10_readProduct_4 {X : SCR} {d rc rs DR : Nat} {Q : PO → PH → Prop} {o : Unit} {w1 : MEM} {fu : Nat} {c_readSum : Nat → MEM → Option (Unit × MEM)} {c_readProduct : Nat → MEM → Option (Unit × MEM)} {c_readUnit : Nat → MEM → Option (Unit × MEM)} {c_readTwo : Nat → Int32 → Int32 → MEM → Option (Unit × MEM)} (hd : 8 ≤ d) (hr : DR + 1 ≤ d) (hc_readSum : ∀ (a0 : Nat) (w : MEM) (h : PH) (o : Unit) (w1 : MEM), WH X h w → vo 10 a0 = true → c_readSum a0 w = some (o, w1) → CT DR M_X10_readSum [vR (1000, a0)] h 0 0 (QP X (.inl none) w1)) (hc_readProduct : ∀ (a0 : Nat) (w : MEM) (h : PH) (o : Unit) (w1 : MEM), WH X h w → vo 10 a0 = true → c_readProduct a0 w = some (o, w1) → CT DR M_X10_readProduct [vR (1000, a0)] h 0 0 (QP X (.inl none) w1)) (hc_readUnit : ∀ (a0 : Nat) (w : MEM) (h : PH) (o : Unit) (w1 : MEM), WH X h w → vo 10 a0 = true → c_readUnit a0 w = some (o, w1) → CT DR M_X10_readUnit [vR (1000, a0)] h 0 0 (QP X (.inl none) w1)) (hc_readTwo : ∀ (a0 : Nat) (a1 : Int32) (a2 : Int32) (w : MEM) (h : PH) (o : Unit) (w1 : MEM), WH X h w → vo 10 a0 = true → c_readTwo a0 a1 a2 w = some (o, w1) → CT DR M_X10_readTwo [vR (1000, a0), vI a1, vI a2] h 0 0 (QP X (.inl none) w1)) (hq : ∀ h1, WH X h1 w1 → Q (.inl none) h1) : ∀ (n : Nat) (l0 : Nat) (w : MEM) (h : PH), WH X h w → vo 10 l0 = true → f_X10_readProduct_4 fu c_readSum c_readProduct c_readUnit c_readTwo n l0 w = some (o, w1) → PW d M_X10_readProduct Q rc rs 4 [vR (1000, l0), vU] [] h := by
  intro n
  induction n with
  | zero => intro l0 w h wh hv_l0 hF; cases hF
  | succ n ih =>
    intro l0 w h wh hv_l0 hF
    replace hF := (E_X10_readProduct_4 fu c_readSum c_readProduct c_readUnit c_readTwo n l0 w).symm.trans hF
    refine r_X10_readProduct_4 ?_
    refine ⟨⟨_, wh.1 11000 _ rfl hv_l0⟩, ?_⟩
    obtain ⟨x2, w1, hG, hF⟩ := bnd_of hF
    refine cl_I (D := 0) (Nat.le_trans (by decide) hd) (c_X10_fine wh hv_l0 hG) ?_
    clear hG
    clear wh
    intro h wh
    refine ⟨fun c => ?_, fun c => ?_⟩
    · replace hF := if_ofT c hF
      obtain ⟨rfl, rfl⟩ := some_of hF
      exact hq _ wh
    · replace hF := if_ofF c hF
      refine ⟨⟨_, wh.1 11000 _ rfl hv_l0⟩, ?_⟩
      obtain ⟨x4, w3, hG, hF⟩ := bnd_of hF
      refine cl_I (D := 0) (Nat.le_trans (by decide) hd) (c_X10_here wh hv_l0 hG) ?_
      clear hG
      clear wh
      intro h wh
      refine ⟨fun c => ?_, fun c => ?_⟩
      · replace hF := if_ofT c hF
        exact w_X10_readProduct_38 hd hr hc_readSum hc_readProduct hc_readUnit hc_readTwo hq (fun l0 w h wh g0 hF => ih l0 w h wh g0 hF) wh hv_l0 hF
      · replace hF := if_ofF c hF
        refine ⟨⟨_, wh.1 11000 _ rfl hv_l0⟩, ?_⟩
        obtain ⟨x6, w5, hG, hF⟩ := bnd_of hF
        refine cl_I (D := 0) (Nat.le_trans (by decide) hd) (c_X10_here wh hv_l0 hG) ?_
        clear hG
        clear wh
        intro h wh
        refine ⟨fun c => ?_, fun c => ?_⟩
        · replace hF := if_ofT c hF
          exact w_X10_readProduct_38 hd hr hc_readSum hc_readProduct hc_readUnit hc_readTwo hq (fun l0 w h wh g0 hF => ih l0 w h wh g0 hF) wh hv_l0 hF
        · replace hF := if_ofF c hF
          refine ⟨⟨_, wh.1 11000 _ rfl hv_l0⟩, ?_⟩
          obtain ⟨x8, w7, hG, hF⟩ := bnd_of hF
          refine cl_I (D := 0) (Nat.le_trans (by decide) hd) (c_X10_here wh hv_l0 hG) ?_
          clear hG
          clear wh
          intro h wh
          refine ⟨fun c => ?_, fun c => ?_⟩
          · replace hF := if_ofT c hF
            exact w_X10_readProduct_38 hd hr hc_readSum hc_readProduct hc_readUnit hc_readTwo hq (fun l0 w h wh g0 hF => ih l0 w h wh g0 hF) wh hv_l0 hF
          · replace hF := if_ofF c hF
            obtain ⟨rfl, rfl⟩ := some_of hF
            exact hq _ wh
def b_X10_readProduct (fu : Nat) (c_readSum : Nat → MEM → Option (Unit × MEM)) (c_readProduct : Nat → MEM → Option (Unit × MEM)) (c_readUnit : Nat → MEM → Option (Unit × MEM)) (c_readTwo : Nat → Int32 → Int32 → MEM → Option (Unit × MEM)) (l0 : Nat) (w : MEM) : Option (Unit × MEM) := bnd (c_readUnit l0 w) fun (u2 : Unit) (w1 : MEM) => f_X10_readProduct_4 fu c_readSum c_readProduct c_readUnit c_readTwo fu l0 w1
theorem E_X10_readProduct (fu : Nat) (c_readSum : Nat → MEM → Option (Unit × MEM)) (c_readProduct : Nat → MEM → Option (Unit × MEM)) (c_readUnit : Nat → MEM → Option (Unit × MEM)) (c_readTwo : Nat → Int32 → Int32 → MEM → Option (Unit × MEM)) (l0 : Nat) (w : MEM) : b_X10_readProduct fu c_readSum c_readProduct c_readUnit c_readTwo l0 w = bnd (c_readUnit l0 w) fun (u2 : Unit) (w1 : MEM) => f_X10_readProduct_4 fu c_readSum c_readProduct c_readUnit c_readTwo fu l0 w1 := rfl
theorem w_X10_readProduct {X : SCR} {d rc rs DR : Nat} {Q : PO → PH → Prop} {o : Unit} {w1 : MEM} {fu : Nat} {c_readSum : Nat → MEM → Option (Unit × MEM)} {c_readProduct : Nat → MEM → Option (Unit × MEM)} {c_readUnit : Nat → MEM → Option (Unit × MEM)} {c_readTwo : Nat → Int32 → Int32 → MEM → Option (Unit × MEM)} (hd : 8 ≤ d) (hr : DR + 1 ≤ d) (hc_readSum : ∀ (a0 : Nat) (w : MEM) (h : PH) (o : Unit) (w1 : MEM), WH X h w → vo 10 a0 = true → c_readSum a0 w = some (o, w1) → CT DR M_X10_readSum [vR (1000, a0)] h 0 0 (QP X (.inl none) w1)) (hc_readProduct : ∀ (a0 : Nat) (w : MEM) (h : PH) (o : Unit) (w1 : MEM), WH X h w → vo 10 a0 = true → c_readProduct a0 w = some (o, w1) → CT DR M_X10_readProduct [vR (1000, a0)] h 0 0 (QP X (.inl none) w1)) (hc_readUnit : ∀ (a0 : Nat) (w : MEM) (h : PH) (o : Unit) (w1 : MEM), WH X h w → vo 10 a0 = true → c_readUnit a0 w = some (o, w1) → CT DR M_X10_readUnit [vR (1000, a0)] h 0 0 (QP X (.inl none) w1)) (hc_readTwo : ∀ (a0 : Nat) (a1 : Int32) (a2 : Int32) (w : MEM) (h : PH) (o : Unit) (w1 : MEM), WH X h w → vo 10 a0 = true → c_readTwo a0 a1 a2 w = some (o, w1) → CT DR M_X10_readTwo [vR (1000, a0), vI a1, vI a2] h 0 0 (QP X (.inl none) w1)) (hq : ∀ h1, WH X h1 w1 → Q (.inl none) h1) {l0 : Nat} {w : MEM} {h : PH} (wh : WH X h w) (hv_l0 : vo 10 l0 = true) (hF : b_X10_readProduct fu c_readSum c_readProduct c_readUnit c_readTwo l0 w = some (o, w1)) : PW d M_X10_readProduct Q rc rs 0 [vR (1000, l0), vU] [] h := by
  replace hF := (E_X10_readProduct fu c_readSum c_readProduct c_readUnit c_readTwo l0 w).symm.trans hF
  refine r_X10_readProduct_0 ?_
  refine ⟨⟨_, wh.1 11000 _ rfl hv_l0⟩, ?_⟩
  obtain ⟨u2, w1, hG, hF⟩ := bnd_of hF
  refine cl_V hr (hc_readUnit _ _ _ _ _ wh hv_l0 hG) ?_
  clear hG
  clear wh
  intro h wh
  exact w_X10_readProduct_4 hd hr hc_readSum hc_readProduct hc_readUnit hc_readTwo hq  fu _ _ _ wh hv_l0 hF
-- X10_readUnit
def b_X10_readUnit (fu : Nat) (c_readSum : Nat → MEM → Option (Unit × MEM)) (c_readProduct : Nat → MEM → Option (Unit × MEM)) (c_readUnit : Nat → MEM → Option (Unit × MEM)) (c_readTwo : Nat → Int32 → Int32 → MEM → Option (Unit × MEM)) (l0 : Nat) (w : MEM) : Option (Unit × MEM) := bnd (f_X10_fine fu l0 w) fun (x2 : Int32) (w1 : MEM) => if x2 = 0 then (some ((), w1)) else (bnd (f_X10_here fu l0 w1) fun (x4 : Int32) (w3 : MEM) => if x4 = (40 : Int32) then (bnd (f_X10_opensOne fu l0 (1 : Int32) w3) fun (u42 : Unit) (w41 : MEM) => bnd (c_readSum l0 w41) fun (u44 : Unit) (w43 : MEM) => bnd (f_X10_sign fu l0 (41 : Int32) w43) fun (u46 : Unit) (w45 : MEM) => lt (sS w45 (11007, l0) ((rS w45 (11007, l0)) - (1 : Int32))) fun (w47 : MEM) => some ((), w47)) else (bnd (f_X10_here fu l0 w3) fun (x6 : Int32) (w5 : MEM) => bnd (f_X10_isDigit fu x6 w5) fun (x8 : Int32) (w7 : MEM) => if x8 = 0 then (bnd (f_X10_word fu l0 w7) fun (x10 : Int32) (w9 : MEM) => bnd (f_X10_of fu 4 w9) fun (x12 : Int32) (w11 : MEM) => if x10 = x12 then (bnd (c_readTwo l0 (5 : Int32) (6 : Int32) w11) fun (u36 : Unit) (w35 : MEM) => some ((), w35)) else (bnd (f_X10_word fu l0 w11) fun (x14 : Int32) (w13 : MEM) => bnd (f_X10_of fu 5 w13) fun (x16 : Int32) (w15 : MEM) => if x14 = x16 then (bnd (c_readTwo l0 (4 : Int32) (7 : Int32) w15) fun (u34 : Unit) (w33 : MEM) => some ((), w33)) else (bnd (f_X10_factHere fu l0 w15) fun (x18 : Int32) (w17 : MEM) => if x18 = (-1 : Int32) then (bnd (f_X10_wrong fu l0 (1 : Int32) (rS w17 (11004, l0)) w17) fun (u26 : Unit) (w25 : MEM) => bnd (f_X10_fine fu l0 w25) fun (x28 : Int32) (w27 : MEM) => if x28 = 0 then (some ((), w27)) else (bnd (f_X10_pass fu l0 w27) fun (u30 : Unit) (w29 : MEM) => bnd (f_X10_emit fu l0 (1 : Int32) x18 w29) fun (u32 : Unit) (w31 : MEM) => some ((), w31))) else (bnd (f_X10_fine fu l0 w17) fun (x20 : Int32) (w19 : MEM) => if x20 = 0 then (some ((), w19)) else (bnd (f_X10_pass fu l0 w19) fun (u22 : Unit) (w21 : MEM) => bnd (f_X10_emit fu l0 (1 : Int32) x18 w21) fun (u24 : Unit) (w23 : MEM) => some ((), w23)))))) else (bnd (f_X10_readNumber fu l0 (0 : Int32) (999 : Int32) w7) fun (x38 : Int32) (w37 : MEM) => bnd (f_X10_emit fu l0 (0 : Int32) x38 w37) fun (u40 : Unit) (w39 : MEM) => some ((), w39))))
theorem E_X10_readUnit (fu : Nat) (c_readSum : Nat → MEM → Option (Unit × MEM)) (c_readProduct : Nat → MEM → Option (Unit × MEM)) (c_readUnit : Nat → MEM → Option (Unit × MEM)) (c_readTwo : Nat → Int32 → Int32 → MEM → Option (Unit × MEM)) (l0 : Nat) (w : MEM) : b_X10_readUnit fu c_readSum c_readProduct c_readUnit c_readTwo l0 w = bnd (f_X10_fine fu l0 w) fun (x2 : Int32) (w1 : MEM) => if x2 = 0 then (some ((), w1)) else (bnd (f_X10_here fu l0 w1) fun (x4 : Int32) (w3 : MEM) => if x4 = (40 : Int32) then (bnd (f_X10_opensOne fu l0 (1 : Int32) w3) fun (u42 : Unit) (w41 : MEM) => bnd (c_readSum l0 w41) fun (u44 : Unit) (w43 : MEM) => bnd (f_X10_sign fu l0 (41 : Int32) w43) fun (u46 : Unit) (w45 : MEM) => lt (sS w45 (11007, l0) ((rS w45 (11007, l0)) - (1 : Int32))) fun (w47 : MEM) => some ((), w47)) else (bnd (f_X10_here fu l0 w3) fun (x6 : Int32) (w5 : MEM) => bnd (f_X10_isDigit fu x6 w5) fun (x8 : Int32) (w7 : MEM) => if x8 = 0 then (bnd (f_X10_word fu l0 w7) fun (x10 : Int32) (w9 : MEM) => bnd (f_X10_of fu 4 w9) fun (x12 : Int32) (w11 : MEM) => if x10 = x12 then (bnd (c_readTwo l0 (5 : Int32) (6 : Int32) w11) fun (u36 : Unit) (w35 : MEM) => some ((), w35)) else (bnd (f_X10_word fu l0 w11) fun (x14 : Int32) (w13 : MEM) => bnd (f_X10_of fu 5 w13) fun (x16 : Int32) (w15 : MEM) => if x14 = x16 then (bnd (c_readTwo l0 (4 : Int32) (7 : Int32) w15) fun (u34 : Unit) (w33 : MEM) => some ((), w33)) else (bnd (f_X10_factHere fu l0 w15) fun (x18 : Int32) (w17 : MEM) => if x18 = (-1 : Int32) then (bnd (f_X10_wrong fu l0 (1 : Int32) (rS w17 (11004, l0)) w17) fun (u26 : Unit) (w25 : MEM) => bnd (f_X10_fine fu l0 w25) fun (x28 : Int32) (w27 : MEM) => if x28 = 0 then (some ((), w27)) else (bnd (f_X10_pass fu l0 w27) fun (u30 : Unit) (w29 : MEM) => bnd (f_X10_emit fu l0 (1 : Int32) x18 w29) fun (u32 : Unit) (w31 : MEM) => some ((), w31))) else (bnd (f_X10_fine fu l0 w17) fun (x20 : Int32) (w19 : MEM) => if x20 = 0 then (some ((), w19)) else (bnd (f_X10_pass fu l0 w19) fun (u22 : Unit) (w21 : MEM) => bnd (f_X10_emit fu l0 (1 : Int32) x18 w21) fun (u24 : Unit) (w23 : MEM) => some ((), w23)))))) else (bnd (f_X10_readNumber fu l0 (0 : Int32) (999 : Int32) w7) fun (x38 : Int32) (w37 : MEM) => bnd (f_X10_emit fu l0 (0 : Int32) x38 w37) fun (u40 : Unit) (w39 : MEM) => some ((), w39)))) := rfl
theorem w_X10_readUnit {X : SCR} {d rc rs DR : Nat} {Q : PO → PH → Prop} {o : Unit} {w1 : MEM} {fu : Nat} {c_readSum : Nat → MEM → Option (Unit × MEM)} {c_readProduct : Nat → MEM → Option (Unit × MEM)} {c_readUnit : Nat → MEM → Option (Unit × MEM)} {c_readTwo : Nat → Int32 → Int32 → MEM → Option (Unit × MEM)} (hd : 8 ≤ d) (hr : DR + 1 ≤ d) (hc_readSum : ∀ (a0 : Nat) (w : MEM) (h : PH) (o : Unit) (w1 : MEM), WH X h w → vo 10 a0 = true → c_readSum a0 w = some (o, w1) → CT DR M_X10_readSum [vR (1000, a0)] h 0 0 (QP X (.inl none) w1)) (hc_readProduct : ∀ (a0 : Nat) (w : MEM) (h : PH) (o : Unit) (w1 : MEM), WH X h w → vo 10 a0 = true → c_readProduct a0 w = some (o, w1) → CT DR M_X10_readProduct [vR (1000, a0)] h 0 0 (QP X (.inl none) w1)) (hc_readUnit : ∀ (a0 : Nat) (w : MEM) (h : PH) (o : Unit) (w1 : MEM), WH X h w → vo 10 a0 = true → c_readUnit a0 w = some (o, w1) → CT DR M_X10_readUnit [vR (1000, a0)] h 0 0 (QP X (.inl none) w1)) (hc_readTwo : ∀ (a0 : Nat) (a1 : Int32) (a2 : Int32) (w : MEM) (h : PH) (o : Unit) (w1 : MEM), WH X h w → vo 10 a0 = true → c_readTwo a0 a1 a2 w = some (o, w1) → CT DR M_X10_readTwo [vR (1000, a0), vI a1, vI a2] h 0 0 (QP X (.inl none) w1)) (hq : ∀ h1, WH X h1 w1 → Q (.inl none) h1) {l0 : Nat} {w : MEM} {h : PH} (wh : WH X h w) (hv_l0 : vo 10 l0 = true) (hF : b_X10_readUnit fu c_readSum c_readProduct c_readUnit c_readTwo l0 w = some (o, w1)) : PW d M_X10_readUnit Q rc rs 0 [vR (1000, l0), vU] [] h := by
  replace hF := (E_X10_readUnit fu c_readSum c_readProduct c_readUnit c_readTwo l0 w).symm.trans hF
  refine r_X10_readUnit_0 ?_
  refine ⟨⟨_, wh.1 11000 _ rfl hv_l0⟩, ?_⟩
  obtain ⟨x2, w1, hG, hF⟩ := bnd_of hF
  refine cl_I (D := 0) (Nat.le_trans (by decide) hd) (c_X10_fine wh hv_l0 hG) ?_
  clear hG
  clear wh
  intro h wh
  refine ⟨fun c => ?_, fun c => ?_⟩
  · replace hF := if_ofT c hF
    obtain ⟨rfl, rfl⟩ := some_of hF
    exact hq _ wh
  · replace hF := if_ofF c hF
    refine ⟨⟨_, wh.1 11000 _ rfl hv_l0⟩, ?_⟩
    obtain ⟨x4, w3, hG, hF⟩ := bnd_of hF
    refine cl_I (D := 0) (Nat.le_trans (by decide) hd) (c_X10_here wh hv_l0 hG) ?_
    clear hG
    clear wh
    intro h wh
    refine ⟨fun c => ?_, fun c => ?_⟩
    · replace hF := if_ofT c hF
      refine ⟨⟨_, wh.1 11000 _ rfl hv_l0⟩, ?_⟩
      obtain ⟨u42, w41, hG, hF⟩ := bnd_of hF
      refine cl_V (D := 1) (Nat.le_trans (by decide) hd) (c_X10_opensOne wh hv_l0 hG) ?_
      clear hG
      clear wh
      intro h wh
      refine ⟨⟨_, wh.1 11000 _ rfl hv_l0⟩, ?_⟩
      obtain ⟨u44, w43, hG, hF⟩ := bnd_of hF
      refine cl_V hr (hc_readSum _ _ _ _ _ wh hv_l0 hG) ?_
      clear hG
      clear wh
      intro h wh
      refine ⟨⟨_, wh.1 11000 _ rfl hv_l0⟩, ?_⟩
      obtain ⟨u46, w45, hG, hF⟩ := bnd_of hF
      refine cl_V (D := 1) (Nat.le_trans (by decide) hd) (c_X10_sign wh hv_l0 hG) ?_
      clear hG
      clear wh
      intro h wh
      refine gI_of (wh.1 11007 _ rfl hv_l0) ?_
      replace hF := lt_of hF
      refine sF_S wh rfl hv_l0 ?_
      clear wh
      intro h wh
      obtain ⟨rfl, rfl⟩ := some_of hF
      exact hq _ wh
    · replace hF := if_ofF c hF
      refine ⟨⟨_, wh.1 11000 _ rfl hv_l0⟩, ?_⟩
      obtain ⟨x6, w5, hG, hF⟩ := bnd_of hF
      refine cl_I (D := 0) (Nat.le_trans (by decide) hd) (c_X10_here wh hv_l0 hG) ?_
      clear hG
      clear wh
      intro h wh
      obtain ⟨x8, w7, hG, hF⟩ := bnd_of hF
      refine cl_I (D := 0) (Nat.le_trans (by decide) hd) (c_X10_isDigit wh  hG) ?_
      clear hG
      clear wh
      intro h wh
      refine ⟨fun c => ?_, fun c => ?_⟩
      · replace hF := if_ofT c hF
        refine ⟨⟨_, wh.1 11000 _ rfl hv_l0⟩, ?_⟩
        obtain ⟨x10, w9, hG, hF⟩ := bnd_of hF
        refine cl_I (D := 1) (Nat.le_trans (by decide) hd) (c_X10_word wh hv_l0 hG) ?_
        clear hG
        clear wh
        intro h wh
        obtain ⟨x12, w11, hG, hF⟩ := bnd_of hF
        refine cl_I (D := 6) (Nat.le_trans (by decide) hd) (c_X10_of wh (by decide) hG) ?_
        clear hG
        clear wh
        intro h wh
        refine ⟨fun c => ?_, fun c => ?_⟩
        · replace hF := if_ofT c hF
          refine ⟨⟨_, wh.1 11000 _ rfl hv_l0⟩, ?_⟩
          obtain ⟨u36, w35, hG, hF⟩ := bnd_of hF
          refine cl_V hr (hc_readTwo _ _ _ _ _ _ _ wh hv_l0 hG) ?_
          clear hG
          clear wh
          intro h wh
          obtain ⟨rfl, rfl⟩ := some_of hF
          exact hq _ wh
        · replace hF := if_ofF c hF
          refine ⟨⟨_, wh.1 11000 _ rfl hv_l0⟩, ?_⟩
          obtain ⟨x14, w13, hG, hF⟩ := bnd_of hF
          refine cl_I (D := 1) (Nat.le_trans (by decide) hd) (c_X10_word wh hv_l0 hG) ?_
          clear hG
          clear wh
          intro h wh
          obtain ⟨x16, w15, hG, hF⟩ := bnd_of hF
          refine cl_I (D := 6) (Nat.le_trans (by decide) hd) (c_X10_of wh (by decide) hG) ?_
          clear hG
          clear wh
          intro h wh
          refine ⟨fun c => ?_, fun c => ?_⟩
          · replace hF := if_ofT c hF
            refine ⟨⟨_, wh.1 11000 _ rfl hv_l0⟩, ?_⟩
            obtain ⟨u34, w33, hG, hF⟩ := bnd_of hF
            refine cl_V hr (hc_readTwo _ _ _ _ _ _ _ wh hv_l0 hG) ?_
            clear hG
            clear wh
            intro h wh
            obtain ⟨rfl, rfl⟩ := some_of hF
            exact hq _ wh
          · replace hF := if_ofF c hF
            refine ⟨⟨_, wh.1 11000 _ rfl hv_l0⟩, ?_⟩
            obtain ⟨x18, w17, hG, hF⟩ := bnd_of hF
            refine cl_I (D := 7) (Nat.le_trans (by decide) hd) (c_X10_factHere wh hv_l0 hG) ?_
            clear hG
            clear wh
            intro h wh
            refine ⟨fun c => ?_, fun c => ?_⟩
            · replace hF := if_ofT c hF
              refine gI_of (wh.1 11004 _ rfl hv_l0) ?_
              refine ⟨⟨_, wh.1 11000 _ rfl hv_l0⟩, ?_⟩
              obtain ⟨u26, w25, hG, hF⟩ := bnd_of hF
              refine cl_V (D := 0) (Nat.le_trans (by decide) hd) (c_X10_wrong wh hv_l0 hG) ?_
              clear hG
              clear wh
              intro h wh
              refine ⟨⟨_, wh.1 11000 _ rfl hv_l0⟩, ?_⟩
              obtain ⟨x28, w27, hG, hF⟩ := bnd_of hF
              refine cl_I (D := 0) (Nat.le_trans (by decide) hd) (c_X10_fine wh hv_l0 hG) ?_
              clear hG
              clear wh
              intro h wh
              refine ⟨fun c => ?_, fun c => ?_⟩
              · replace hF := if_ofT c hF
                obtain ⟨rfl, rfl⟩ := some_of hF
                exact hq _ wh
              · replace hF := if_ofF c hF
                refine ⟨⟨_, wh.1 11000 _ rfl hv_l0⟩, ?_⟩
                obtain ⟨u30, w29, hG, hF⟩ := bnd_of hF
                refine cl_V (D := 1) (Nat.le_trans (by decide) hd) (c_X10_pass wh hv_l0 hG) ?_
                clear hG
                clear wh
                intro h wh
                refine ⟨⟨_, wh.1 11000 _ rfl hv_l0⟩, ?_⟩
                obtain ⟨u32, w31, hG, hF⟩ := bnd_of hF
                refine cl_V (D := 1) (Nat.le_trans (by decide) hd) (c_X10_emit wh hv_l0 hG) ?_
                clear hG
                clear wh
                intro h wh
                obtain ⟨rfl, rfl⟩ := some_of hF
                exact hq _ wh
            · replace hF := if_ofF c hF
              refine ⟨⟨_, wh.1 11000 _ rfl hv_l0⟩, ?_⟩
              obtain ⟨x20, w19, hG, hF⟩ := bnd_of hF
              refine cl_I (D := 0) (Nat.le_trans (by decide) hd) (c_X10_fine wh hv_l0 hG) ?_
              clear hG
              clear wh
              intro h wh
              refine ⟨fun c => ?_, fun c => ?_⟩
              · replace hF := if_ofT c hF
                obtain ⟨rfl, rfl⟩ := some_of hF
                exact hq _ wh
              · replace hF := if_ofF c hF
                refine ⟨⟨_, wh.1 11000 _ rfl hv_l0⟩, ?_⟩
                obtain ⟨u22, w21, hG, hF⟩ := bnd_of hF
                refine cl_V (D := 1) (Nat.le_trans (by decide) hd) (c_X10_pass wh hv_l0 hG) ?_
                clear hG
                clear wh
                intro h wh
                refine ⟨⟨_, wh.1 11000 _ rfl hv_l0⟩, ?_⟩
                obtain ⟨u24, w23, hG, hF⟩ := bnd_of hF
                refine cl_V (D := 1) (Nat.le_trans (by decide) hd) (c_X10_emit wh hv_l0 hG) ?_
                clear hG
                clear wh
                intro h wh
                obtain ⟨rfl, rfl⟩ := some_of hF
                exact hq _ wh
      · replace hF := if_ofF c hF
        refine ⟨⟨_, wh.1 11000 _ rfl hv_l0⟩, ?_⟩
        obtain ⟨x38, w37, hG, hF⟩ := bnd_of hF
        refine cl_I (D := 1) (Nat.le_trans (by decide) hd) (c_X10_readNumber wh hv_l0 hG) ?_
        clear hG
        clear wh
        intro h wh
        refine ⟨⟨_, wh.1 11000 _ rfl hv_l0⟩, ?_⟩
        obtain ⟨u40, w39, hG, hF⟩ := bnd_of hF
        refine cl_V (D := 1) (Nat.le_trans (by decide) hd) (c_X10_emit wh hv_l0 hG) ?_
        clear hG
        clear wh
        intro h wh
        obtain ⟨rfl, rfl⟩ := some_of hF
        exact hq _ wh
-- X10_readTwo
def b_X10_readTwo (fu : Nat) (c_readSum : Nat → MEM → Option (Unit × MEM)) (c_readProduct : Nat → MEM → Option (Unit × MEM)) (c_readUnit : Nat → MEM → Option (Unit × MEM)) (c_readTwo : Nat → Int32 → Int32 → MEM → Option (Unit × MEM)) (l0 : Nat) (l1 : Int32) (l2 : Int32) (w : MEM) : Option (Unit × MEM) := bnd (f_X10_opensOne fu l0 l1 w) fun (u2 : Unit) (w1 : MEM) => bnd (f_X10_sign fu l0 (91 : Int32) w1) fun (u4 : Unit) (w3 : MEM) => bnd (c_readSum l0 w3) fun (u6 : Unit) (w5 : MEM) => bnd (f_X10_sign fu l0 (44 : Int32) w5) fun (u8 : Unit) (w7 : MEM) => bnd (c_readSum l0 w7) fun (u10 : Unit) (w9 : MEM) => bnd (f_X10_sign fu l0 (93 : Int32) w9) fun (u12 : Unit) (w11 : MEM) => lt (sS w11 (11007, l0) ((rS w11 (11007, l0)) - (1 : Int32))) fun (w13 : MEM) => bnd (f_X10_emit fu l0 l2 (0 : Int32) w13) fun (u15 : Unit) (w14 : MEM) => some ((), w14)
theorem E_X10_readTwo (fu : Nat) (c_readSum : Nat → MEM → Option (Unit × MEM)) (c_readProduct : Nat → MEM → Option (Unit × MEM)) (c_readUnit : Nat → MEM → Option (Unit × MEM)) (c_readTwo : Nat → Int32 → Int32 → MEM → Option (Unit × MEM)) (l0 : Nat) (l1 : Int32) (l2 : Int32) (w : MEM) : b_X10_readTwo fu c_readSum c_readProduct c_readUnit c_readTwo l0 l1 l2 w = bnd (f_X10_opensOne fu l0 l1 w) fun (u2 : Unit) (w1 : MEM) => bnd (f_X10_sign fu l0 (91 : Int32) w1) fun (u4 : Unit) (w3 : MEM) => bnd (c_readSum l0 w3) fun (u6 : Unit) (w5 : MEM) => bnd (f_X10_sign fu l0 (44 : Int32) w5) fun (u8 : Unit) (w7 : MEM) => bnd (c_readSum l0 w7) fun (u10 : Unit) (w9 : MEM) => bnd (f_X10_sign fu l0 (93 : Int32) w9) fun (u12 : Unit) (w11 : MEM) => lt (sS w11 (11007, l0) ((rS w11 (11007, l0)) - (1 : Int32))) fun (w13 : MEM) => bnd (f_X10_emit fu l0 l2 (0 : Int32) w13) fun (u15 : Unit) (w14 : MEM) => some ((), w14) := rfl
theorem w_X10_readTwo {X : SCR} {d rc rs DR : Nat} {Q : PO → PH → Prop} {o : Unit} {w1 : MEM} {fu : Nat} {c_readSum : Nat → MEM → Option (Unit × MEM)} {c_readProduct : Nat → MEM → Option (Unit × MEM)} {c_readUnit : Nat → MEM → Option (Unit × MEM)} {c_readTwo : Nat → Int32 → Int32 → MEM → Option (Unit × MEM)} (hd : 8 ≤ d) (hr : DR + 1 ≤ d) (hc_readSum : ∀ (a0 : Nat) (w : MEM) (h : PH) (o : Unit) (w1 : MEM), WH X h w → vo 10 a0 = true → c_readSum a0 w = some (o, w1) → CT DR M_X10_readSum [vR (1000, a0)] h 0 0 (QP X (.inl none) w1)) (hc_readProduct : ∀ (a0 : Nat) (w : MEM) (h : PH) (o : Unit) (w1 : MEM), WH X h w → vo 10 a0 = true → c_readProduct a0 w = some (o, w1) → CT DR M_X10_readProduct [vR (1000, a0)] h 0 0 (QP X (.inl none) w1)) (hc_readUnit : ∀ (a0 : Nat) (w : MEM) (h : PH) (o : Unit) (w1 : MEM), WH X h w → vo 10 a0 = true → c_readUnit a0 w = some (o, w1) → CT DR M_X10_readUnit [vR (1000, a0)] h 0 0 (QP X (.inl none) w1)) (hc_readTwo : ∀ (a0 : Nat) (a1 : Int32) (a2 : Int32) (w : MEM) (h : PH) (o : Unit) (w1 : MEM), WH X h w → vo 10 a0 = true → c_readTwo a0 a1 a2 w = some (o, w1) → CT DR M_X10_readTwo [vR (1000, a0), vI a1, vI a2] h 0 0 (QP X (.inl none) w1)) (hq : ∀ h1, WH X h1 w1 → Q (.inl none) h1) {l0 : Nat} {l1 : Int32} {l2 : Int32} {w : MEM} {h : PH} (wh : WH X h w) (hv_l0 : vo 10 l0 = true) (hF : b_X10_readTwo fu c_readSum c_readProduct c_readUnit c_readTwo l0 l1 l2 w = some (o, w1)) : PW d M_X10_readTwo Q rc rs 0 [vR (1000, l0), vI l1, vI l2] [] h := by
  replace hF := (E_X10_readTwo fu c_readSum c_readProduct c_readUnit c_readTwo l0 l1 l2 w).symm.trans hF
  refine r_X10_readTwo_0 ?_
  refine ⟨⟨_, wh.1 11000 _ rfl hv_l0⟩, ?_⟩
  obtain ⟨u2, w1, hG, hF⟩ := bnd_of hF
  refine cl_V (D := 1) (Nat.le_trans (by decide) hd) (c_X10_opensOne wh hv_l0 hG) ?_
  clear hG
  clear wh
  intro h wh
  refine ⟨⟨_, wh.1 11000 _ rfl hv_l0⟩, ?_⟩
  obtain ⟨u4, w3, hG, hF⟩ := bnd_of hF
  refine cl_V (D := 1) (Nat.le_trans (by decide) hd) (c_X10_sign wh hv_l0 hG) ?_
  clear hG
  clear wh
  intro h wh
  refine ⟨⟨_, wh.1 11000 _ rfl hv_l0⟩, ?_⟩
  obtain ⟨u6, w5, hG, hF⟩ := bnd_of hF
  refine cl_V hr (hc_readSum _ _ _ _ _ wh hv_l0 hG) ?_
  clear hG
  clear wh
  intro h wh
  refine ⟨⟨_, wh.1 11000 _ rfl hv_l0⟩, ?_⟩
  obtain ⟨u8, w7, hG, hF⟩ := bnd_of hF
  refine cl_V (D := 1) (Nat.le_trans (by decide) hd) (c_X10_sign wh hv_l0 hG) ?_
  clear hG
  clear wh
  intro h wh
  refine ⟨⟨_, wh.1 11000 _ rfl hv_l0⟩, ?_⟩
  obtain ⟨u10, w9, hG, hF⟩ := bnd_of hF
  refine cl_V hr (hc_readSum _ _ _ _ _ wh hv_l0 hG) ?_
  clear hG
  clear wh
  intro h wh
  refine ⟨⟨_, wh.1 11000 _ rfl hv_l0⟩, ?_⟩
  obtain ⟨u12, w11, hG, hF⟩ := bnd_of hF
  refine cl_V (D := 1) (Nat.le_trans (by decide) hd) (c_X10_sign wh hv_l0 hG) ?_
  clear hG
  clear wh
  intro h wh
  refine gI_of (wh.1 11007 _ rfl hv_l0) ?_
  replace hF := lt_of hF
  refine sF_S wh rfl hv_l0 ?_
  clear wh
  intro h wh
  refine ⟨⟨_, wh.1 11000 _ rfl hv_l0⟩, ?_⟩
  obtain ⟨u15, w14, hG, hF⟩ := bnd_of hF
  refine cl_V (D := 1) (Nat.le_trans (by decide) hd) (c_X10_emit wh hv_l0 hG) ?_
  clear hG
  clear wh
  intro h wh
  obtain ⟨rfl, rfl⟩ := some_of hF
  exact hq _ wh
def g_X10_readSums (fu : Nat) (p : (Nat → MEM → Option (Unit × MEM)) × (Nat → MEM → Option (Unit × MEM)) × (Nat → MEM → Option (Unit × MEM)) × (Nat → Int32 → Int32 → MEM → Option (Unit × MEM))) : (Nat → MEM → Option (Unit × MEM)) × (Nat → MEM → Option (Unit × MEM)) × (Nat → MEM → Option (Unit × MEM)) × (Nat → Int32 → Int32 → MEM → Option (Unit × MEM)) := (b_X10_readSum fu p.1 p.2.1 p.2.2.1 p.2.2.2, b_X10_readProduct fu p.1 p.2.1 p.2.2.1 p.2.2.2, b_X10_readUnit fu p.1 p.2.1 p.2.2.1 p.2.2.2, b_X10_readTwo fu p.1 p.2.1 p.2.2.1 p.2.2.2)
def g_X10_readSum (fu : Nat) : Nat → (Nat → MEM → Option (Unit × MEM)) × (Nat → MEM → Option (Unit × MEM)) × (Nat → MEM → Option (Unit × MEM)) × (Nat → Int32 → Int32 → MEM → Option (Unit × MEM))
  | 0 => ((fun _ _ => none), (fun _ _ => none), (fun _ _ => none), (fun _ _ _ _ => none))
  | n + 1 => g_X10_readSums fu (g_X10_readSum fu n)
def f_X10_readSum (fu n : Nat) : Nat → MEM → Option (Unit × MEM) := (g_X10_readSum fu n).1
def f_X10_readProduct (fu n : Nat) : Nat → MEM → Option (Unit × MEM) := (g_X10_readSum fu n).2.1
def f_X10_readUnit (fu n : Nat) : Nat → MEM → Option (Unit × MEM) := (g_X10_readSum fu n).2.2.1
def f_X10_readTwo (fu n : Nat) : Nat → Int32 → Int32 → MEM → Option (Unit × MEM) := (g_X10_readSum fu n).2.2.2
theorem Et_X10_readSum (fu n : Nat) (a0 : Nat) (w : MEM) : f_X10_readSum fu (n + 1) a0 w = b_X10_readSum fu (f_X10_readSum fu n) (f_X10_readProduct fu n) (f_X10_readUnit fu n) (f_X10_readTwo fu n) a0 w := rfl
theorem Et_X10_readProduct (fu n : Nat) (a0 : Nat) (w : MEM) : f_X10_readProduct fu (n + 1) a0 w = b_X10_readProduct fu (f_X10_readSum fu n) (f_X10_readProduct fu n) (f_X10_readUnit fu n) (f_X10_readTwo fu n) a0 w := rfl
theorem Et_X10_readUnit (fu n : Nat) (a0 : Nat) (w : MEM) : f_X10_readUnit fu (n + 1) a0 w = b_X10_readUnit fu (f_X10_readSum fu n) (f_X10_readProduct fu n) (f_X10_readUnit fu n) (f_X10_readTwo fu n) a0 w := rfl
theorem Et_X10_readTwo (fu n : Nat) (a0 : Nat) (a1 : Int32) (a2 : Int32) (w : MEM) : f_X10_readTwo fu (n + 1) a0 a1 a2 w = b_X10_readTwo fu (f_X10_readSum fu n) (f_X10_readProduct fu n) (f_X10_readUnit fu n) (f_X10_readTwo fu n) a0 a1 a2 w := rfl
theorem C_X10_readSum {X : SCR} (fu : Nat) : ∀ n, (∀ (a0 : Nat) (w : MEM) (h : PH) (o : Unit) (w1 : MEM), WH X h w → vo 10 a0 = true → f_X10_readSum fu n a0 w = some (o, w1) → CT (8 + n) M_X10_readSum [vR (1000, a0)] h 0 0 (QP X (.inl none) w1)) ∧ (∀ (a0 : Nat) (w : MEM) (h : PH) (o : Unit) (w1 : MEM), WH X h w → vo 10 a0 = true → f_X10_readProduct fu n a0 w = some (o, w1) → CT (8 + n) M_X10_readProduct [vR (1000, a0)] h 0 0 (QP X (.inl none) w1)) ∧ (∀ (a0 : Nat) (w : MEM) (h : PH) (o : Unit) (w1 : MEM), WH X h w → vo 10 a0 = true → f_X10_readUnit fu n a0 w = some (o, w1) → CT (8 + n) M_X10_readUnit [vR (1000, a0)] h 0 0 (QP X (.inl none) w1)) ∧ (∀ (a0 : Nat) (a1 : Int32) (a2 : Int32) (w : MEM) (h : PH) (o : Unit) (w1 : MEM), WH X h w → vo 10 a0 = true → f_X10_readTwo fu n a0 a1 a2 w = some (o, w1) → CT (8 + n) M_X10_readTwo [vR (1000, a0), vI a1, vI a2] h 0 0 (QP X (.inl none) w1)) := by
  intro n
  induction n with
  | zero => exact ⟨fun _ _ _ _ _ _ _ hF => (by cases hF), fun _ _ _ _ _ _ _ hF => (by cases hF), fun _ _ _ _ _ _ _ hF => (by cases hF), fun _ _ _ _ _ _ _ _ _ hF => (by cases hF)⟩
  | succ n ih =>
    refine ⟨?_, ?_, ?_, ?_⟩
    · intro a0 w h o w1 wh g0 hF
      exact CT_of mk_X10_readSum (Nat.le_of_ble_eq_true rfl) rfl (w_X10_readSum (DR := 8 + n) (rc := 0) (rs := 0) (hd := by omega) (hr := by omega) (hc_readSum := ih.1) (hc_readProduct := ih.2.1) (hc_readUnit := ih.2.2.1) (hc_readTwo := ih.2.2.2) (hq := fun h1 g => ⟨rfl, g⟩) wh g0 ((Et_X10_readSum fu n a0 w).symm.trans hF))
    · intro a0 w h o w1 wh g0 hF
      exact CT_of mk_X10_readProduct (Nat.le_of_ble_eq_true rfl) rfl (w_X10_readProduct (DR := 8 + n) (rc := 0) (rs := 0) (hd := by omega) (hr := by omega) (hc_readSum := ih.1) (hc_readProduct := ih.2.1) (hc_readUnit := ih.2.2.1) (hc_readTwo := ih.2.2.2) (hq := fun h1 g => ⟨rfl, g⟩) wh g0 ((Et_X10_readProduct fu n a0 w).symm.trans hF))
    · intro a0 w h o w1 wh g0 hF
      exact CT_of mk_X10_readUnit (Nat.le_of_ble_eq_true rfl) rfl (w_X10_readUnit (DR := 8 + n) (rc := 0) (rs := 0) (hd := by omega) (hr := by omega) (hc_readSum := ih.1) (hc_readProduct := ih.2.1) (hc_readUnit := ih.2.2.1) (hc_readTwo := ih.2.2.2) (hq := fun h1 g => ⟨rfl, g⟩) wh g0 ((Et_X10_readUnit fu n a0 w).symm.trans hF))
    · intro a0 a1 a2 w h o w1 wh g0 hF
      exact CT_of mk_X10_readTwo (Nat.le_of_ble_eq_true rfl) rfl (w_X10_readTwo (DR := 8 + n) (rc := 0) (rs := 0) (hd := by omega) (hr := by omega) (hc_readSum := ih.1) (hc_readProduct := ih.2.1) (hc_readUnit := ih.2.2.1) (hc_readTwo := ih.2.2.2) (hq := fun h1 g => ⟨rfl, g⟩) wh g0 ((Et_X10_readTwo fu n a0 a1 a2 w).symm.trans hF))
theorem c_X10_readSum {X : SCR} {fu : Nat} {o : Unit} {w1 : MEM} {a0 : Nat} {w : MEM} {h : PH} (wh : WH X h w) (h0 : vo 10 a0 = true) (hF : f_X10_readSum fu 40 a0 w = some (o, w1)) : CT 48 M_X10_readSum [vR (1000, a0)] h 0 0 (QP X (.inl none) w1) := (C_X10_readSum fu 40).1 a0 w h o w1 wh h0 hF
theorem c_X10_readProduct {X : SCR} {fu : Nat} {o : Unit} {w1 : MEM} {a0 : Nat} {w : MEM} {h : PH} (wh : WH X h w) (h0 : vo 10 a0 = true) (hF : f_X10_readProduct fu 40 a0 w = some (o, w1)) : CT 48 M_X10_readProduct [vR (1000, a0)] h 0 0 (QP X (.inl none) w1) := (C_X10_readSum fu 40).2.1 a0 w h o w1 wh h0 hF
theorem c_X10_readUnit {X : SCR} {fu : Nat} {o : Unit} {w1 : MEM} {a0 : Nat} {w : MEM} {h : PH} (wh : WH X h w) (h0 : vo 10 a0 = true) (hF : f_X10_readUnit fu 40 a0 w = some (o, w1)) : CT 48 M_X10_readUnit [vR (1000, a0)] h 0 0 (QP X (.inl none) w1) := (C_X10_readSum fu 40).2.2.1 a0 w h o w1 wh h0 hF
theorem c_X10_readTwo {X : SCR} {fu : Nat} {o : Unit} {w1 : MEM} {a0 : Nat} {a1 : Int32} {a2 : Int32} {w : MEM} {h : PH} (wh : WH X h w) (h0 : vo 10 a0 = true) (hF : f_X10_readTwo fu 40 a0 a1 a2 w = some (o, w1)) : CT 48 M_X10_readTwo [vR (1000, a0), vI a1, vI a2] h 0 0 (QP X (.inl none) w1) := (C_X10_readSum fu 40).2.2.2 a0 a1 a2 w h o w1 wh h0 hF
-- X10_law
def f_X10_law_77 (fu : Nat) (l0 : Nat) (w : MEM) : Option (Int32 × MEM) := bnd (f_X10_result fu l0 (1 : Int32) w) fun (x2 : Int32) (w1 : MEM) => if (rS w1 (11005, l0)) = (-1 : Int32) then (lt (sS w1 (11032, l0) (rS w1 (11031, l0))) fun (w3 : MEM) => bnd (f_X10_copies fu l0 (1011, l0) (1013, l0) (rS w3 (11031, l0)) w3) fun (u5 : Unit) (w4 : MEM) => bnd (f_X10_copies fu l0 (1012, l0) (1014, l0) (rS w4 (11031, l0)) w4) fun (u7 : Unit) (w6 : MEM) => some (x2, w6)) else (some (x2, w1))
theorem E_X10_law_77 (fu : Nat) (l0 : Nat) (w : MEM) : f_X10_law_77 fu l0 w = bnd (f_X10_result fu l0 (1 : Int32) w) fun (x2 : Int32) (w1 : MEM) => if (rS w1 (11005, l0)) = (-1 : Int32) then (lt (sS w1 (11032, l0) (rS w1 (11031, l0))) fun (w3 : MEM) => bnd (f_X10_copies fu l0 (1011, l0) (1013, l0) (rS w3 (11031, l0)) w3) fun (u5 : Unit) (w4 : MEM) => bnd (f_X10_copies fu l0 (1012, l0) (1014, l0) (rS w4 (11031, l0)) w4) fun (u7 : Unit) (w6 : MEM) => some (x2, w6)) else (some (x2, w1)) := rfl
theorem w_X10_law_77 {X : SCR} {d rc rs : Nat} {Q : PO → PH → Prop} {o : Int32} {w1 : MEM} {fu : Nat} (hd : 49 ≤ d) (hq : ∀ h1, WH X h1 w1 → Q (.inl (some (vI o))) h1) {l0 : Nat} {w : MEM} {h : PH} (wh : WH X h w) (hv_l0 : vo 10 l0 = true) (hF : f_X10_law_77 fu l0 w = some (o, w1)) : PW d M_X10_law Q rc rs 77 [vR (1000, l0), vU, vU] [] h := by
  replace hF := (E_X10_law_77 fu l0 w).symm.trans hF
  refine r_X10_law_77 ?_
  refine ⟨⟨_, wh.1 11000 _ rfl hv_l0⟩, ?_⟩
  obtain ⟨x2, w1, hG, hF⟩ := bnd_of hF
  refine cl_I (D := 1) (Nat.le_trans (by decide) hd) (c_X10_result wh hv_l0 hG) ?_
  clear hG
  clear wh
  intro h wh
  refine gI_of (wh.1 11005 _ rfl hv_l0) ?_
  refine ⟨fun c => ?_, fun c => ?_⟩
  · replace hF := if_ofT c hF
    refine gI_of (wh.1 11031 _ rfl hv_l0) ?_
    replace hF := lt_of hF
    refine sF_S wh rfl hv_l0 ?_
    clear wh
    intro h wh
    refine gA_of (b := (1011, l0)) (wh.2.1 11026 _ rfl hv_l0) ?_
    refine gA_of (b := (1013, l0)) (wh.2.1 11028 _ rfl hv_l0) ?_
    refine gI_of (wh.1 11031 _ rfl hv_l0) ?_
    refine ⟨⟨_, wh.1 11000 _ rfl hv_l0⟩, ?_⟩
    obtain ⟨u5, w4, hG, hF⟩ := bnd_of hF
    refine cl_V (D := 0) (Nat.le_trans (by decide) hd) (c_X10_copies wh hv_l0 (oA_1011 hv_l0) (oA_1013 hv_l0) hG) ?_
    clear hG
    clear wh
    intro h wh
    refine gA_of (b := (1012, l0)) (wh.2.1 11027 _ rfl hv_l0) ?_
    refine gA_of (b := (1014, l0)) (wh.2.1 11029 _ rfl hv_l0) ?_
    refine gI_of (wh.1 11031 _ rfl hv_l0) ?_
    refine ⟨⟨_, wh.1 11000 _ rfl hv_l0⟩, ?_⟩
    obtain ⟨u7, w6, hG, hF⟩ := bnd_of hF
    refine cl_V (D := 0) (Nat.le_trans (by decide) hd) (c_X10_copies wh hv_l0 (oA_1012 hv_l0) (oA_1014 hv_l0) hG) ?_
    clear hG
    clear wh
    intro h wh
    obtain ⟨rfl, rfl⟩ := some_of hF
    exact hq _ wh
  · replace hF := if_ofF c hF
    obtain ⟨rfl, rfl⟩ := some_of hF
    exact hq _ wh
def f_X10_law (fu : Nat) (l0 : Nat) (l1 : Int32) (w : MEM) : Option (Int32 × MEM) := lt (sS w (11000, l0) (0 : Int32)) fun (w1 : MEM) => if l1 < 0 then (bnd (f_X10_may fu l0 (0 : Int32) (1 : Int32) (1 : Int32) w1) fun (x3 : Int32) (w2 : MEM) => if x3 = 0 then (some ((0 : Int32), w2)) else (bnd (f_X10_begins fu l0 l1 w2) fun (u5 : Unit) (w4 : MEM) => lt (sS w4 (11031, l0) (0 : Int32)) fun (w6 : MEM) => bnd (f_X10_readSum fu 40 l0 w6) fun (u8 : Unit) (w7 : MEM) => bnd (f_X10_fine fu l0 w7) fun (x10 : Int32) (w9 : MEM) => if x10 = 0 then (f_X10_law_77 fu l0 w9) else (bnd (f_X10_isMore fu l0 w9) fun (x12 : Int32) (w11 : MEM) => if x12 = 0 then (f_X10_law_77 fu l0 w11) else (bnd (f_X10_wrong fu l0 (1 : Int32) (rS w11 (11004, l0)) w11) fun (u14 : Unit) (w13 : MEM) => f_X10_law_77 fu l0 w13)))) else (if (rS w1 (11002, l0)) < l1 then (bnd (f_X10_may fu l0 (0 : Int32) (1 : Int32) (1 : Int32) w1) fun (x16 : Int32) (w15 : MEM) => if x16 = 0 then (some ((0 : Int32), w15)) else (bnd (f_X10_begins fu l0 l1 w15) fun (u18 : Unit) (w17 : MEM) => lt (sS w17 (11031, l0) (0 : Int32)) fun (w19 : MEM) => bnd (f_X10_readSum fu 40 l0 w19) fun (u21 : Unit) (w20 : MEM) => bnd (f_X10_fine fu l0 w20) fun (x23 : Int32) (w22 : MEM) => if x23 = 0 then (f_X10_law_77 fu l0 w22) else (bnd (f_X10_isMore fu l0 w22) fun (x25 : Int32) (w24 : MEM) => if x25 = 0 then (f_X10_law_77 fu l0 w24) else (bnd (f_X10_wrong fu l0 (1 : Int32) (rS w24 (11004, l0)) w24) fun (u27 : Unit) (w26 : MEM) => f_X10_law_77 fu l0 w26)))) else (if (150 : Int32) < l1 then (bnd (f_X10_may fu l0 (0 : Int32) (1 : Int32) (1 : Int32) w1) fun (x29 : Int32) (w28 : MEM) => if x29 = 0 then (some ((0 : Int32), w28)) else (bnd (f_X10_begins fu l0 l1 w28) fun (u31 : Unit) (w30 : MEM) => lt (sS w30 (11031, l0) (0 : Int32)) fun (w32 : MEM) => bnd (f_X10_readSum fu 40 l0 w32) fun (u34 : Unit) (w33 : MEM) => bnd (f_X10_fine fu l0 w33) fun (x36 : Int32) (w35 : MEM) => if x36 = 0 then (f_X10_law_77 fu l0 w35) else (bnd (f_X10_isMore fu l0 w35) fun (x38 : Int32) (w37 : MEM) => if x38 = 0 then (f_X10_law_77 fu l0 w37) else (bnd (f_X10_wrong fu l0 (1 : Int32) (rS w37 (11004, l0)) w37) fun (u40 : Unit) (w39 : MEM) => f_X10_law_77 fu l0 w39)))) else (bnd (f_X10_may fu l0 (1 : Int32) (1 : Int32) (1 : Int32) w1) fun (x42 : Int32) (w41 : MEM) => if x42 = 0 then (some ((0 : Int32), w41)) else (bnd (f_X10_begins fu l0 l1 w41) fun (u44 : Unit) (w43 : MEM) => lt (sS w43 (11031, l0) (0 : Int32)) fun (w45 : MEM) => bnd (f_X10_readSum fu 40 l0 w45) fun (u47 : Unit) (w46 : MEM) => bnd (f_X10_fine fu l0 w46) fun (x49 : Int32) (w48 : MEM) => if x49 = 0 then (f_X10_law_77 fu l0 w48) else (bnd (f_X10_isMore fu l0 w48) fun (x51 : Int32) (w50 : MEM) => if x51 = 0 then (f_X10_law_77 fu l0 w50) else (bnd (f_X10_wrong fu l0 (1 : Int32) (rS w50 (11004, l0)) w50) fun (u53 : Unit) (w52 : MEM) => f_X10_law_77 fu l0 w52))))))
theorem E_X10_law (fu : Nat) (l0 : Nat) (l1 : Int32) (w : MEM) : f_X10_law fu l0 l1 w = lt (sS w (11000, l0) (0 : Int32)) fun (w1 : MEM) => if l1 < 0 then (bnd (f_X10_may fu l0 (0 : Int32) (1 : Int32) (1 : Int32) w1) fun (x3 : Int32) (w2 : MEM) => if x3 = 0 then (some ((0 : Int32), w2)) else (bnd (f_X10_begins fu l0 l1 w2) fun (u5 : Unit) (w4 : MEM) => lt (sS w4 (11031, l0) (0 : Int32)) fun (w6 : MEM) => bnd (f_X10_readSum fu 40 l0 w6) fun (u8 : Unit) (w7 : MEM) => bnd (f_X10_fine fu l0 w7) fun (x10 : Int32) (w9 : MEM) => if x10 = 0 then (f_X10_law_77 fu l0 w9) else (bnd (f_X10_isMore fu l0 w9) fun (x12 : Int32) (w11 : MEM) => if x12 = 0 then (f_X10_law_77 fu l0 w11) else (bnd (f_X10_wrong fu l0 (1 : Int32) (rS w11 (11004, l0)) w11) fun (u14 : Unit) (w13 : MEM) => f_X10_law_77 fu l0 w13)))) else (if (rS w1 (11002, l0)) < l1 then (bnd (f_X10_may fu l0 (0 : Int32) (1 : Int32) (1 : Int32) w1) fun (x16 : Int32) (w15 : MEM) => if x16 = 0 then (some ((0 : Int32), w15)) else (bnd (f_X10_begins fu l0 l1 w15) fun (u18 : Unit) (w17 : MEM) => lt (sS w17 (11031, l0) (0 : Int32)) fun (w19 : MEM) => bnd (f_X10_readSum fu 40 l0 w19) fun (u21 : Unit) (w20 : MEM) => bnd (f_X10_fine fu l0 w20) fun (x23 : Int32) (w22 : MEM) => if x23 = 0 then (f_X10_law_77 fu l0 w22) else (bnd (f_X10_isMore fu l0 w22) fun (x25 : Int32) (w24 : MEM) => if x25 = 0 then (f_X10_law_77 fu l0 w24) else (bnd (f_X10_wrong fu l0 (1 : Int32) (rS w24 (11004, l0)) w24) fun (u27 : Unit) (w26 : MEM) => f_X10_law_77 fu l0 w26)))) else (if (150 : Int32) < l1 then (bnd (f_X10_may fu l0 (0 : Int32) (1 : Int32) (1 : Int32) w1) fun (x29 : Int32) (w28 : MEM) => if x29 = 0 then (some ((0 : Int32), w28)) else (bnd (f_X10_begins fu l0 l1 w28) fun (u31 : Unit) (w30 : MEM) => lt (sS w30 (11031, l0) (0 : Int32)) fun (w32 : MEM) => bnd (f_X10_readSum fu 40 l0 w32) fun (u34 : Unit) (w33 : MEM) => bnd (f_X10_fine fu l0 w33) fun (x36 : Int32) (w35 : MEM) => if x36 = 0 then (f_X10_law_77 fu l0 w35) else (bnd (f_X10_isMore fu l0 w35) fun (x38 : Int32) (w37 : MEM) => if x38 = 0 then (f_X10_law_77 fu l0 w37) else (bnd (f_X10_wrong fu l0 (1 : Int32) (rS w37 (11004, l0)) w37) fun (u40 : Unit) (w39 : MEM) => f_X10_law_77 fu l0 w39)))) else (bnd (f_X10_may fu l0 (1 : Int32) (1 : Int32) (1 : Int32) w1) fun (x42 : Int32) (w41 : MEM) => if x42 = 0 then (some ((0 : Int32), w41)) else (bnd (f_X10_begins fu l0 l1 w41) fun (u44 : Unit) (w43 : MEM) => lt (sS w43 (11031, l0) (0 : Int32)) fun (w45 : MEM) => bnd (f_X10_readSum fu 40 l0 w45) fun (u47 : Unit) (w46 : MEM) => bnd (f_X10_fine fu l0 w46) fun (x49 : Int32) (w48 : MEM) => if x49 = 0 then (f_X10_law_77 fu l0 w48) else (bnd (f_X10_isMore fu l0 w48) fun (x51 : Int32) (w50 : MEM) => if x51 = 0 then (f_X10_law_77 fu l0 w50) else (bnd (f_X10_wrong fu l0 (1 : Int32) (rS w50 (11004, l0)) w50) fun (u53 : Unit) (w52 : MEM) => f_X10_law_77 fu l0 w52)))))) := rfl
theorem w_X10_law {X : SCR} {d rc rs : Nat} {Q : PO → PH → Prop} {o : Int32} {w1 : MEM} {fu : Nat} (hd : 49 ≤ d) (hq : ∀ h1, WH X h1 w1 → Q (.inl (some (vI o))) h1) {l0 : Nat} {l1 : Int32} {w : MEM} {h : PH} (wh : WH X h w) (hv_l0 : vo 10 l0 = true) (hF : f_X10_law fu l0 l1 w = some (o, w1)) : PW d M_X10_law Q rc rs 0 [vR (1000, l0), vI l1, vU] [] h := by
  replace hF := (E_X10_law fu l0 l1 w).symm.trans hF
  refine r_X10_law_0 ?_
  replace hF := lt_of hF
  refine sF_S wh rfl hv_l0 ?_
  clear wh
  intro h wh
  refine ⟨fun c => ?_, fun c => ?_⟩
  · replace hF := if_ofT c hF
    refine ⟨⟨_, wh.1 11000 _ rfl hv_l0⟩, ?_⟩
    obtain ⟨x3, w2, hG, hF⟩ := bnd_of hF
    refine cl_I (D := 0) (Nat.le_trans (by decide) hd) (c_X10_may wh hv_l0 hG) ?_
    clear hG
    clear wh
    intro h wh
    refine ⟨fun c => ?_, fun c => ?_⟩
    · replace hF := if_ofT c hF
      obtain ⟨rfl, rfl⟩ := some_of hF
      exact hq _ wh
    · replace hF := if_ofF c hF
      refine ⟨⟨_, wh.1 11000 _ rfl hv_l0⟩, ?_⟩
      obtain ⟨u5, w4, hG, hF⟩ := bnd_of hF
      refine cl_V (D := 0) (Nat.le_trans (by decide) hd) (c_X10_begins wh hv_l0 hG) ?_
      clear hG
      clear wh
      intro h wh
      replace hF := lt_of hF
      refine sF_S wh rfl hv_l0 ?_
      clear wh
      intro h wh
      refine ⟨⟨_, wh.1 11000 _ rfl hv_l0⟩, ?_⟩
      obtain ⟨u8, w7, hG, hF⟩ := bnd_of hF
      refine cl_V (D := 48) (Nat.le_trans (by decide) hd) (c_X10_readSum wh hv_l0 hG) ?_
      clear hG
      clear wh
      intro h wh
      refine ⟨⟨_, wh.1 11000 _ rfl hv_l0⟩, ?_⟩
      obtain ⟨x10, w9, hG, hF⟩ := bnd_of hF
      refine cl_I (D := 0) (Nat.le_trans (by decide) hd) (c_X10_fine wh hv_l0 hG) ?_
      clear hG
      clear wh
      intro h wh
      refine ⟨fun c => ?_, fun c => ?_⟩
      · replace hF := if_ofT c hF
        exact w_X10_law_77 hd hq  wh hv_l0 hF
      · replace hF := if_ofF c hF
        refine ⟨⟨_, wh.1 11000 _ rfl hv_l0⟩, ?_⟩
        obtain ⟨x12, w11, hG, hF⟩ := bnd_of hF
        refine cl_I (D := 1) (Nat.le_trans (by decide) hd) (c_X10_isMore wh hv_l0 hG) ?_
        clear hG
        clear wh
        intro h wh
        refine ⟨fun c => ?_, fun c => ?_⟩
        · replace hF := if_ofT c hF
          exact w_X10_law_77 hd hq  wh hv_l0 hF
        · replace hF := if_ofF c hF
          refine gI_of (wh.1 11004 _ rfl hv_l0) ?_
          refine ⟨⟨_, wh.1 11000 _ rfl hv_l0⟩, ?_⟩
          obtain ⟨u14, w13, hG, hF⟩ := bnd_of hF
          refine cl_V (D := 0) (Nat.le_trans (by decide) hd) (c_X10_wrong wh hv_l0 hG) ?_
          clear hG
          clear wh
          intro h wh
          exact w_X10_law_77 hd hq  wh hv_l0 hF
  · replace hF := if_ofF c hF
    refine gI_of (wh.1 11002 _ rfl hv_l0) ?_
    refine ⟨fun c => ?_, fun c => ?_⟩
    · replace hF := if_ofT c hF
      refine ⟨⟨_, wh.1 11000 _ rfl hv_l0⟩, ?_⟩
      obtain ⟨x16, w15, hG, hF⟩ := bnd_of hF
      refine cl_I (D := 0) (Nat.le_trans (by decide) hd) (c_X10_may wh hv_l0 hG) ?_
      clear hG
      clear wh
      intro h wh
      refine ⟨fun c => ?_, fun c => ?_⟩
      · replace hF := if_ofT c hF
        obtain ⟨rfl, rfl⟩ := some_of hF
        exact hq _ wh
      · replace hF := if_ofF c hF
        refine ⟨⟨_, wh.1 11000 _ rfl hv_l0⟩, ?_⟩
        obtain ⟨u18, w17, hG, hF⟩ := bnd_of hF
        refine cl_V (D := 0) (Nat.le_trans (by decide) hd) (c_X10_begins wh hv_l0 hG) ?_
        clear hG
        clear wh
        intro h wh
        replace hF := lt_of hF
        refine sF_S wh rfl hv_l0 ?_
        clear wh
        intro h wh
        refine ⟨⟨_, wh.1 11000 _ rfl hv_l0⟩, ?_⟩
        obtain ⟨u21, w20, hG, hF⟩ := bnd_of hF
        refine cl_V (D := 48) (Nat.le_trans (by decide) hd) (c_X10_readSum wh hv_l0 hG) ?_
        clear hG
        clear wh
        intro h wh
        refine ⟨⟨_, wh.1 11000 _ rfl hv_l0⟩, ?_⟩
        obtain ⟨x23, w22, hG, hF⟩ := bnd_of hF
        refine cl_I (D := 0) (Nat.le_trans (by decide) hd) (c_X10_fine wh hv_l0 hG) ?_
        clear hG
        clear wh
        intro h wh
        refine ⟨fun c => ?_, fun c => ?_⟩
        · replace hF := if_ofT c hF
          exact w_X10_law_77 hd hq  wh hv_l0 hF
        · replace hF := if_ofF c hF
          refine ⟨⟨_, wh.1 11000 _ rfl hv_l0⟩, ?_⟩
          obtain ⟨x25, w24, hG, hF⟩ := bnd_of hF
          refine cl_I (D := 1) (Nat.le_trans (by decide) hd) (c_X10_isMore wh hv_l0 hG) ?_
          clear hG
          clear wh
          intro h wh
          refine ⟨fun c => ?_, fun c => ?_⟩
          · replace hF := if_ofT c hF
            exact w_X10_law_77 hd hq  wh hv_l0 hF
          · replace hF := if_ofF c hF
            refine gI_of (wh.1 11004 _ rfl hv_l0) ?_
            refine ⟨⟨_, wh.1 11000 _ rfl hv_l0⟩, ?_⟩
            obtain ⟨u27, w26, hG, hF⟩ := bnd_of hF
            refine cl_V (D := 0) (Nat.le_trans (by decide) hd) (c_X10_wrong wh hv_l0 hG) ?_
            clear hG
            clear wh
            intro h wh
            exact w_X10_law_77 hd hq  wh hv_l0 hF
    · replace hF := if_ofF c hF
      refine ⟨fun c => ?_, fun c => ?_⟩
      · replace hF := if_ofT c hF
        refine ⟨⟨_, wh.1 11000 _ rfl hv_l0⟩, ?_⟩
        obtain ⟨x29, w28, hG, hF⟩ := bnd_of hF
        refine cl_I (D := 0) (Nat.le_trans (by decide) hd) (c_X10_may wh hv_l0 hG) ?_
        clear hG
        clear wh
        intro h wh
        refine ⟨fun c => ?_, fun c => ?_⟩
        · replace hF := if_ofT c hF
          obtain ⟨rfl, rfl⟩ := some_of hF
          exact hq _ wh
        · replace hF := if_ofF c hF
          refine ⟨⟨_, wh.1 11000 _ rfl hv_l0⟩, ?_⟩
          obtain ⟨u31, w30, hG, hF⟩ := bnd_of hF
          refine cl_V (D := 0) (Nat.le_trans (by decide) hd) (c_X10_begins wh hv_l0 hG) ?_
          clear hG
          clear wh
          intro h wh
          replace hF := lt_of hF
          refine sF_S wh rfl hv_l0 ?_
          clear wh
          intro h wh
          refine ⟨⟨_, wh.1 11000 _ rfl hv_l0⟩, ?_⟩
          obtain ⟨u34, w33, hG, hF⟩ := bnd_of hF
          refine cl_V (D := 48) (Nat.le_trans (by decide) hd) (c_X10_readSum wh hv_l0 hG) ?_
          clear hG
          clear wh
          intro h wh
          refine ⟨⟨_, wh.1 11000 _ rfl hv_l0⟩, ?_⟩
          obtain ⟨x36, w35, hG, hF⟩ := bnd_of hF
          refine cl_I (D := 0) (Nat.le_trans (by decide) hd) (c_X10_fine wh hv_l0 hG) ?_
          clear hG
          clear wh
          intro h wh
          refine ⟨fun c => ?_, fun c => ?_⟩
          · replace hF := if_ofT c hF
            exact w_X10_law_77 hd hq  wh hv_l0 hF
          · replace hF := if_ofF c hF
            refine ⟨⟨_, wh.1 11000 _ rfl hv_l0⟩, ?_⟩
            obtain ⟨x38, w37, hG, hF⟩ := bnd_of hF
            refine cl_I (D := 1) (Nat.le_trans (by decide) hd) (c_X10_isMore wh hv_l0 hG) ?_
            clear hG
            clear wh
            intro h wh
            refine ⟨fun c => ?_, fun c => ?_⟩
            · replace hF := if_ofT c hF
              exact w_X10_law_77 hd hq  wh hv_l0 hF
            · replace hF := if_ofF c hF
              refine gI_of (wh.1 11004 _ rfl hv_l0) ?_
              refine ⟨⟨_, wh.1 11000 _ rfl hv_l0⟩, ?_⟩
              obtain ⟨u40, w39, hG, hF⟩ := bnd_of hF
              refine cl_V (D := 0) (Nat.le_trans (by decide) hd) (c_X10_wrong wh hv_l0 hG) ?_
              clear hG
              clear wh
              intro h wh
              exact w_X10_law_77 hd hq  wh hv_l0 hF
      · replace hF := if_ofF c hF
        refine ⟨⟨_, wh.1 11000 _ rfl hv_l0⟩, ?_⟩
        obtain ⟨x42, w41, hG, hF⟩ := bnd_of hF
        refine cl_I (D := 0) (Nat.le_trans (by decide) hd) (c_X10_may wh hv_l0 hG) ?_
        clear hG
        clear wh
        intro h wh
        refine ⟨fun c => ?_, fun c => ?_⟩
        · replace hF := if_ofT c hF
          obtain ⟨rfl, rfl⟩ := some_of hF
          exact hq _ wh
        · replace hF := if_ofF c hF
          refine ⟨⟨_, wh.1 11000 _ rfl hv_l0⟩, ?_⟩
          obtain ⟨u44, w43, hG, hF⟩ := bnd_of hF
          refine cl_V (D := 0) (Nat.le_trans (by decide) hd) (c_X10_begins wh hv_l0 hG) ?_
          clear hG
          clear wh
          intro h wh
          replace hF := lt_of hF
          refine sF_S wh rfl hv_l0 ?_
          clear wh
          intro h wh
          refine ⟨⟨_, wh.1 11000 _ rfl hv_l0⟩, ?_⟩
          obtain ⟨u47, w46, hG, hF⟩ := bnd_of hF
          refine cl_V (D := 48) (Nat.le_trans (by decide) hd) (c_X10_readSum wh hv_l0 hG) ?_
          clear hG
          clear wh
          intro h wh
          refine ⟨⟨_, wh.1 11000 _ rfl hv_l0⟩, ?_⟩
          obtain ⟨x49, w48, hG, hF⟩ := bnd_of hF
          refine cl_I (D := 0) (Nat.le_trans (by decide) hd) (c_X10_fine wh hv_l0 hG) ?_
          clear hG
          clear wh
          intro h wh
          refine ⟨fun c => ?_, fun c => ?_⟩
          · replace hF := if_ofT c hF
            exact w_X10_law_77 hd hq  wh hv_l0 hF
          · replace hF := if_ofF c hF
            refine ⟨⟨_, wh.1 11000 _ rfl hv_l0⟩, ?_⟩
            obtain ⟨x51, w50, hG, hF⟩ := bnd_of hF
            refine cl_I (D := 1) (Nat.le_trans (by decide) hd) (c_X10_isMore wh hv_l0 hG) ?_
            clear hG
            clear wh
            intro h wh
            refine ⟨fun c => ?_, fun c => ?_⟩
            · replace hF := if_ofT c hF
              exact w_X10_law_77 hd hq  wh hv_l0 hF
            · replace hF := if_ofF c hF
              refine gI_of (wh.1 11004 _ rfl hv_l0) ?_
              refine ⟨⟨_, wh.1 11000 _ rfl hv_l0⟩, ?_⟩
              obtain ⟨u53, w52, hG, hF⟩ := bnd_of hF
              refine cl_V (D := 0) (Nat.le_trans (by decide) hd) (c_X10_wrong wh hv_l0 hG) ?_
              clear hG
              clear wh
              intro h wh
              exact w_X10_law_77 hd hq  wh hv_l0 hF
theorem c_X10_law {X : SCR} {fu : Nat} {o : Int32} {w1 : MEM} {a0 : Nat} {a1 : Int32} {w : MEM} {h : PH} (wh : WH X h w) (h0 : vo 10 a0 = true) (hF : f_X10_law fu a0 a1 w = some (o, w1)) : CT 49 M_X10_law [vR (1000, a0), vI a1] h 0 0 (QP X (.inl (some (vI o))) w1) :=
  CT_of mk_X10_law (Nat.le_of_ble_eq_true rfl) rfl (w_X10_law (fu := fu) (rc := 0) (rs := 0) (hd := Nat.le_refl 49) (hq := fun h1 g => ⟨rfl, g⟩) wh h0 hF)
-- X10_both
def f_X10_both (fu : Nat) (l0 : Int32) (l1 : Int32) (l2 : Int32) (w : MEM) : Option (Int32 × MEM) := if l0 = (2 : Int32) then (some ((l1 + l2), w)) else (if l0 = (3 : Int32) then (some ((l1 - l2), w)) else (if l0 = (4 : Int32) then (some ((l1 * l2), w)) else (if l0 = (5 : Int32) then (if l2 = 0 then (some ((0 : Int32), w)) else (if l0 = (5 : Int32) then (if l2 = 0 then none else (some ((l1 / l2), w))) else (if l2 = 0 then none else (some ((l1 - l1 / l2 * l2), w))))) else (if l0 = (8 : Int32) then (if l2 = 0 then (some ((0 : Int32), w)) else (if l0 = (5 : Int32) then (if l2 = 0 then none else (some ((l1 / l2), w))) else (if l2 = 0 then none else (some ((l1 - l1 / l2 * l2), w))))) else (if l1 < l2 then (if l0 = (6 : Int32) then (if (1 : Int32) = (1 : Int32) then (some (l1, w)) else (some (l2, w))) else (if (1 : Int32) = (0 : Int32) then (some (l1, w)) else (some (l2, w)))) else (if l0 = (6 : Int32) then (if (0 : Int32) = (1 : Int32) then (some (l1, w)) else (some (l2, w))) else (if (0 : Int32) = (0 : Int32) then (some (l1, w)) else (some (l2, w)))))))))
theorem E_X10_both (fu : Nat) (l0 : Int32) (l1 : Int32) (l2 : Int32) (w : MEM) : f_X10_both fu l0 l1 l2 w = if l0 = (2 : Int32) then (some ((l1 + l2), w)) else (if l0 = (3 : Int32) then (some ((l1 - l2), w)) else (if l0 = (4 : Int32) then (some ((l1 * l2), w)) else (if l0 = (5 : Int32) then (if l2 = 0 then (some ((0 : Int32), w)) else (if l0 = (5 : Int32) then (if l2 = 0 then none else (some ((l1 / l2), w))) else (if l2 = 0 then none else (some ((l1 - l1 / l2 * l2), w))))) else (if l0 = (8 : Int32) then (if l2 = 0 then (some ((0 : Int32), w)) else (if l0 = (5 : Int32) then (if l2 = 0 then none else (some ((l1 / l2), w))) else (if l2 = 0 then none else (some ((l1 - l1 / l2 * l2), w))))) else (if l1 < l2 then (if l0 = (6 : Int32) then (if (1 : Int32) = (1 : Int32) then (some (l1, w)) else (some (l2, w))) else (if (1 : Int32) = (0 : Int32) then (some (l1, w)) else (some (l2, w)))) else (if l0 = (6 : Int32) then (if (0 : Int32) = (1 : Int32) then (some (l1, w)) else (some (l2, w))) else (if (0 : Int32) = (0 : Int32) then (some (l1, w)) else (some (l2, w))))))))) := rfl
theorem w_X10_both {X : SCR} {d rc rs : Nat} {Q : PO → PH → Prop} {o : Int32} {w1 : MEM} {fu : Nat} (hd : 0 ≤ d) (hq : ∀ h1, WH X h1 w1 → Q (.inl (some (vI o))) h1) {l0 : Int32} {l1 : Int32} {l2 : Int32} {w : MEM} {h : PH} (wh : WH X h w)  (hF : f_X10_both fu l0 l1 l2 w = some (o, w1)) : PW d M_X10_both Q rc rs 0 [vI l0, vI l1, vI l2] [] h := by
  replace hF := (E_X10_both fu l0 l1 l2 w).symm.trans hF
  refine r_X10_both_0 ?_
  refine ⟨fun c => ?_, fun c => ?_⟩
  · replace hF := if_ofT c hF
    obtain ⟨rfl, rfl⟩ := some_of hF
    exact hq _ wh
  · replace hF := if_ofF c hF
    refine ⟨fun c => ?_, fun c => ?_⟩
    · replace hF := if_ofT c hF
      obtain ⟨rfl, rfl⟩ := some_of hF
      exact hq _ wh
    · replace hF := if_ofF c hF
      refine ⟨fun c => ?_, fun c => ?_⟩
      · replace hF := if_ofT c hF
        obtain ⟨rfl, rfl⟩ := some_of hF
        exact hq _ wh
      · replace hF := if_ofF c hF
        refine ⟨fun c => ?_, fun c => ?_⟩
        · replace hF := if_ofT c hF
          refine ⟨fun c => ?_, fun c => ?_⟩
          · replace hF := if_ofT c hF
            obtain ⟨rfl, rfl⟩ := some_of hF
            exact hq _ wh
          · replace hF := if_ofF c hF
            refine ⟨fun c => ?_, fun c => ?_⟩
            · replace hF := if_ofT c hF
              obtain ⟨c, hF⟩ := nzF_of hF
              refine ⟨c, ?_⟩
              obtain ⟨rfl, rfl⟩ := some_of hF
              exact hq _ wh
            · replace hF := if_ofF c hF
              obtain ⟨c, hF⟩ := nzF_of hF
              refine ⟨c, ?_⟩
              obtain ⟨rfl, rfl⟩ := some_of hF
              exact hq _ wh
        · replace hF := if_ofF c hF
          refine ⟨fun c => ?_, fun c => ?_⟩
          · replace hF := if_ofT c hF
            refine ⟨fun c => ?_, fun c => ?_⟩
            · replace hF := if_ofT c hF
              obtain ⟨rfl, rfl⟩ := some_of hF
              exact hq _ wh
            · replace hF := if_ofF c hF
              refine ⟨fun c => ?_, fun c => ?_⟩
              · replace hF := if_ofT c hF
                obtain ⟨c, hF⟩ := nzF_of hF
                refine ⟨c, ?_⟩
                obtain ⟨rfl, rfl⟩ := some_of hF
                exact hq _ wh
              · replace hF := if_ofF c hF
                obtain ⟨c, hF⟩ := nzF_of hF
                refine ⟨c, ?_⟩
                obtain ⟨rfl, rfl⟩ := some_of hF
                exact hq _ wh
          · replace hF := if_ofF c hF
            refine ⟨fun c => ?_, fun c => ?_⟩
            · replace hF := if_ofT c hF
              refine ⟨fun c => ?_, fun c => ?_⟩
              · replace hF := if_ofT c hF
                refine ⟨fun c => ?_, fun c => ?_⟩
                · replace hF := if_ofT c hF
                  obtain ⟨rfl, rfl⟩ := some_of hF
                  exact hq _ wh
                · replace hF := if_ofF c hF
                  obtain ⟨rfl, rfl⟩ := some_of hF
                  exact hq _ wh
              · replace hF := if_ofF c hF
                refine ⟨fun c => ?_, fun c => ?_⟩
                · replace hF := if_ofT c hF
                  obtain ⟨rfl, rfl⟩ := some_of hF
                  exact hq _ wh
                · replace hF := if_ofF c hF
                  obtain ⟨rfl, rfl⟩ := some_of hF
                  exact hq _ wh
            · replace hF := if_ofF c hF
              refine ⟨fun c => ?_, fun c => ?_⟩
              · replace hF := if_ofT c hF
                refine ⟨fun c => ?_, fun c => ?_⟩
                · replace hF := if_ofT c hF
                  obtain ⟨rfl, rfl⟩ := some_of hF
                  exact hq _ wh
                · replace hF := if_ofF c hF
                  obtain ⟨rfl, rfl⟩ := some_of hF
                  exact hq _ wh
              · replace hF := if_ofF c hF
                refine ⟨fun c => ?_, fun c => ?_⟩
                · replace hF := if_ofT c hF
                  obtain ⟨rfl, rfl⟩ := some_of hF
                  exact hq _ wh
                · replace hF := if_ofF c hF
                  obtain ⟨rfl, rfl⟩ := some_of hF
                  exact hq _ wh
theorem c_X10_both {X : SCR} {fu : Nat} {o : Int32} {w1 : MEM} {a0 : Int32} {a1 : Int32} {a2 : Int32} {w : MEM} {h : PH} (wh : WH X h w)  (hF : f_X10_both fu a0 a1 a2 w = some (o, w1)) : CT 0 M_X10_both [vI a0, vI a1, vI a2] h 0 0 (QP X (.inl (some (vI o))) w1) :=
  CT_of mk_X10_both (Nat.le_of_ble_eq_true rfl) rfl (w_X10_both (fu := fu) (rc := 0) (rs := 0) (hd := Nat.le_refl 0) (hq := fun h1 g => ⟨rfl, g⟩) wh  hF)
-- X10_valueNow
def f_X10_valueNow_4 (fu : Nat) : Nat → Nat → Int32 → Int32 → MEM → Option (Int32 × MEM)
  | 0, _, _, _, _ => none
  | n + 1, l0, l1, l2, w => if l2 < (rS w (11032, l0)) then (ck (bI l2 150) (lt ((rA w (1013, l0) l2)) fun (v1 : Int32) => if (1 : Int32) < v1 then (ck (bI ((l1 + (-1 : Int32)) - (1 : Int32)) 150) (ck (bI (l1 + (-1 : Int32)) 150) (bnd (f_X10_both fu v1 (rA w (1015, l0) ((l1 + (-1 : Int32)) - (1 : Int32))) (rA w (1015, l0) (l1 + (-1 : Int32))) w) fun (x3 : Int32) (w2 : MEM) => ck (bI ((l1 + (-1 : Int32)) - (1 : Int32)) 150) (lt (sA w2 (1015, l0) ((l1 + (-1 : Int32)) - (1 : Int32)) x3) fun (w4 : MEM) => f_X10_valueNow_4 fu n l0 (l1 + (-1 : Int32)) (l2 + (1 : Int32)) w4)))) else (if v1 = 0 then (ck (bI l2 150) (ck (bI l1 150) (lt (sA w (1015, l0) l1 (rA w (1014, l0) l2)) fun (w6 : MEM) => f_X10_valueNow_4 fu n l0 (l1 + (1 : Int32)) (l2 + (1 : Int32)) w6))) else (ck (bI l2 150) (ck (bI (rA w (1014, l0) l2) 9) (ck (bI l1 150) (lt (sA w (1015, l0) l1 (rA w (1016, l0) (rA w (1014, l0) l2))) fun (w5 : MEM) => f_X10_valueNow_4 fu n l0 (l1 + (1 : Int32)) (l2 + (1 : Int32)) w5))))))) else (ck (bI (0 : Int32) 150) (some ((rA w (1015, l0) (0 : Int32)), w)))
theorem E_X10_valueNow_4 (fu : Nat) (n : Nat) (l0 : Nat) (l1 : Int32) (l2 : Int32) (w : MEM) : f_X10_valueNow_4 fu (n + 1) l0 l1 l2 w = if l2 < (rS w (11032, l0)) then (ck (bI l2 150) (lt ((rA w (1013, l0) l2)) fun (v1 : Int32) => if (1 : Int32) < v1 then (ck (bI ((l1 + (-1 : Int32)) - (1 : Int32)) 150) (ck (bI (l1 + (-1 : Int32)) 150) (bnd (f_X10_both fu v1 (rA w (1015, l0) ((l1 + (-1 : Int32)) - (1 : Int32))) (rA w (1015, l0) (l1 + (-1 : Int32))) w) fun (x3 : Int32) (w2 : MEM) => ck (bI ((l1 + (-1 : Int32)) - (1 : Int32)) 150) (lt (sA w2 (1015, l0) ((l1 + (-1 : Int32)) - (1 : Int32)) x3) fun (w4 : MEM) => f_X10_valueNow_4 fu n l0 (l1 + (-1 : Int32)) (l2 + (1 : Int32)) w4)))) else (if v1 = 0 then (ck (bI l2 150) (ck (bI l1 150) (lt (sA w (1015, l0) l1 (rA w (1014, l0) l2)) fun (w6 : MEM) => f_X10_valueNow_4 fu n l0 (l1 + (1 : Int32)) (l2 + (1 : Int32)) w6))) else (ck (bI l2 150) (ck (bI (rA w (1014, l0) l2) 9) (ck (bI l1 150) (lt (sA w (1015, l0) l1 (rA w (1016, l0) (rA w (1014, l0) l2))) fun (w5 : MEM) => f_X10_valueNow_4 fu n l0 (l1 + (1 : Int32)) (l2 + (1 : Int32)) w5))))))) else (ck (bI (0 : Int32) 150) (some ((rA w (1015, l0) (0 : Int32)), w))) := rfl
theorem w_X10_valueNow_4 {X : SCR} {d rc rs : Nat} {Q : PO → PH → Prop} {o : Int32} {w1 : MEM} {fu : Nat} (hd : 1 ≤ d) (hq : ∀ h1, WH X h1 w1 → Q (.inl (some (vI o))) h1) : ∀ (n : Nat) (l0 : Nat) (l1 : Int32) (l2 : Int32) (w : MEM) (h : PH), WH X h w → vo 10 l0 = true → f_X10_valueNow_4 fu n l0 l1 l2 w = some (o, w1) → PW d M_X10_valueNow Q rc rs 4 [vR (1000, l0), vI l1, vI l2, vU] [] h := by
  intro n
  induction n with
  | zero => intro l0 l1 l2 w h wh hv_l0 hF; cases hF
  | succ n ih =>
    intro l0 l1 l2 w h wh hv_l0 hF
    replace hF := (E_X10_valueNow_4 fu n l0 l1 l2 w).symm.trans hF
    refine r_X10_valueNow_4 ?_
    refine gI_of (wh.1 11032 _ rfl hv_l0) ?_
    refine ⟨fun c => ?_, fun c => ?_⟩
    · replace hF := if_ofT c hF
      refine gA_of (b := (1013, l0)) (wh.2.1 11028 _ rfl hv_l0) ?_
      obtain ⟨c, hF⟩ := ck_of hF
      refine xI_of wh (oA_1013 hv_l0) c ?_
      clear c
      replace hF := lt_of hF
      refine ⟨fun c => ?_, fun c => ?_⟩
      · replace hF := if_ofT c hF
        refine gA_of (b := (1015, l0)) (wh.2.1 11030 _ rfl hv_l0) ?_
        refine gA_of (b := (1015, l0)) (wh.2.1 11030 _ rfl hv_l0) ?_
        obtain ⟨c, hF⟩ := ck_of hF
        refine xI_of wh (oA_1015 hv_l0) c ?_
        clear c
        refine gA_of (b := (1015, l0)) (wh.2.1 11030 _ rfl hv_l0) ?_
        obtain ⟨c, hF⟩ := ck_of hF
        refine xI_of wh (oA_1015 hv_l0) c ?_
        clear c
        obtain ⟨x3, w2, hG, hF⟩ := bnd_of hF
        refine cl_I (D := 0) (Nat.le_trans (by decide) hd) (c_X10_both wh  hG) ?_
        clear hG
        clear wh
        intro h wh
        obtain ⟨c, hF⟩ := ck_of hF
        replace hF := lt_of hF
        refine yI_of wh (oA_1015 hv_l0) c ?_
        clear c wh
        intro h wh
        exact ih _ _ _ _ _ wh hv_l0 hF
      · replace hF := if_ofF c hF
        refine gA_of (b := (1015, l0)) (wh.2.1 11030 _ rfl hv_l0) ?_
        refine ⟨fun c => ?_, fun c => ?_⟩
        · replace hF := if_ofT c hF
          refine gA_of (b := (1014, l0)) (wh.2.1 11029 _ rfl hv_l0) ?_
          obtain ⟨c, hF⟩ := ck_of hF
          refine xI_of wh (oA_1014 hv_l0) c ?_
          clear c
          obtain ⟨c, hF⟩ := ck_of hF
          replace hF := lt_of hF
          refine yI_of wh (oA_1015 hv_l0) c ?_
          clear c wh
          intro h wh
          exact ih _ _ _ _ _ wh hv_l0 hF
        · replace hF := if_ofF c hF
          refine gA_of (b := (1016, l0)) (wh.2.1 11033 _ rfl hv_l0) ?_
          refine gA_of (b := (1014, l0)) (wh.2.1 11029 _ rfl hv_l0) ?_
          obtain ⟨c, hF⟩ := ck_of hF
          refine xI_of wh (oA_1014 hv_l0) c ?_
          clear c
          obtain ⟨c, hF⟩ := ck_of hF
          refine xI_of wh (oA_1016 hv_l0) c ?_
          clear c
          obtain ⟨c, hF⟩ := ck_of hF
          replace hF := lt_of hF
          refine yI_of wh (oA_1015 hv_l0) c ?_
          clear c wh
          intro h wh
          exact ih _ _ _ _ _ wh hv_l0 hF
    · replace hF := if_ofF c hF
      refine gA_of (b := (1015, l0)) (wh.2.1 11030 _ rfl hv_l0) ?_
      obtain ⟨c, hF⟩ := ck_of hF
      refine xI_of wh (oA_1015 hv_l0) c ?_
      clear c
      obtain ⟨rfl, rfl⟩ := some_of hF
      exact hq _ wh
def f_X10_valueNow (fu : Nat) (l0 : Nat) (w : MEM) : Option (Int32 × MEM) := f_X10_valueNow_4 fu fu l0 (0 : Int32) (0 : Int32) w
theorem E_X10_valueNow (fu : Nat) (l0 : Nat) (w : MEM) : f_X10_valueNow fu l0 w = f_X10_valueNow_4 fu fu l0 (0 : Int32) (0 : Int32) w := rfl
theorem w_X10_valueNow {X : SCR} {d rc rs : Nat} {Q : PO → PH → Prop} {o : Int32} {w1 : MEM} {fu : Nat} (hd : 1 ≤ d) (hq : ∀ h1, WH X h1 w1 → Q (.inl (some (vI o))) h1) {l0 : Nat} {w : MEM} {h : PH} (wh : WH X h w) (hv_l0 : vo 10 l0 = true) (hF : f_X10_valueNow fu l0 w = some (o, w1)) : PW d M_X10_valueNow Q rc rs 0 [vR (1000, l0), vU, vU, vU] [] h := by
  replace hF := (E_X10_valueNow fu l0 w).symm.trans hF
  refine r_X10_valueNow_0 ?_
  exact w_X10_valueNow_4 hd hq  fu _ _ _ _ _ wh hv_l0 hF
theorem c_X10_valueNow {X : SCR} {fu : Nat} {o : Int32} {w1 : MEM} {a0 : Nat} {w : MEM} {h : PH} (wh : WH X h w) (h0 : vo 10 a0 = true) (hF : f_X10_valueNow fu a0 w = some (o, w1)) : CT 1 M_X10_valueNow [vR (1000, a0)] h 0 0 (QP X (.inl (some (vI o))) w1) :=
  CT_of mk_X10_valueNow (Nat.le_of_ble_eq_true rfl) rfl (w_X10_valueNow (fu := fu) (rc := 0) (rs := 0) (hd := Nat.le_refl 1) (hq := fun h1 g => ⟨rfl, g⟩) wh h0 hF)
-- X10_cloudNow
def f_X10_cloudNow (fu : Nat) (l0 : Nat) (w : MEM) : Option (Int32 × MEM) := if (rS w (11032, l0)) = 0 then (ck (bI (0 : Int32) 9) (ck (bI (1 : Int32) 9) (ck (bI (2 : Int32) 9) (lt (((((2 : Int32) * (rA w (1016, l0) (0 : Int32))) + (rA w (1016, l0) (1 : Int32))) - (rA w (1016, l0) (2 : Int32)))) fun (v3 : Int32) => if v3 < 0 then (some ((0 : Int32), w)) else (if (40 : Int32) < v3 then (some ((40 : Int32), w)) else (some (v3, w))))))) else (bnd (f_X10_valueNow fu l0 w) fun (x2 : Int32) (w1 : MEM) => if x2 < 0 then (some ((0 : Int32), w1)) else (if (40 : Int32) < x2 then (some ((40 : Int32), w1)) else (some (x2, w1))))
theorem E_X10_cloudNow (fu : Nat) (l0 : Nat) (w : MEM) : f_X10_cloudNow fu l0 w = if (rS w (11032, l0)) = 0 then (ck (bI (0 : Int32) 9) (ck (bI (1 : Int32) 9) (ck (bI (2 : Int32) 9) (lt (((((2 : Int32) * (rA w (1016, l0) (0 : Int32))) + (rA w (1016, l0) (1 : Int32))) - (rA w (1016, l0) (2 : Int32)))) fun (v3 : Int32) => if v3 < 0 then (some ((0 : Int32), w)) else (if (40 : Int32) < v3 then (some ((40 : Int32), w)) else (some (v3, w))))))) else (bnd (f_X10_valueNow fu l0 w) fun (x2 : Int32) (w1 : MEM) => if x2 < 0 then (some ((0 : Int32), w1)) else (if (40 : Int32) < x2 then (some ((40 : Int32), w1)) else (some (x2, w1)))) := rfl
theorem w_X10_cloudNow {X : SCR} {d rc rs : Nat} {Q : PO → PH → Prop} {o : Int32} {w1 : MEM} {fu : Nat} (hd : 2 ≤ d) (hq : ∀ h1, WH X h1 w1 → Q (.inl (some (vI o))) h1) {l0 : Nat} {w : MEM} {h : PH} (wh : WH X h w) (hv_l0 : vo 10 l0 = true) (hF : f_X10_cloudNow fu l0 w = some (o, w1)) : PW d M_X10_cloudNow Q rc rs 0 [vR (1000, l0), vU] [] h := by
  replace hF := (E_X10_cloudNow fu l0 w).symm.trans hF
  refine r_X10_cloudNow_0 ?_
  refine gI_of (wh.1 11032 _ rfl hv_l0) ?_
  refine ⟨fun c => ?_, fun c => ?_⟩
  · replace hF := if_ofT c hF
    refine gA_of (b := (1016, l0)) (wh.2.1 11033 _ rfl hv_l0) ?_
    obtain ⟨c, hF⟩ := ck_of hF
    refine xI_of wh (oA_1016 hv_l0) c ?_
    clear c
    refine gA_of (b := (1016, l0)) (wh.2.1 11033 _ rfl hv_l0) ?_
    obtain ⟨c, hF⟩ := ck_of hF
    refine xI_of wh (oA_1016 hv_l0) c ?_
    clear c
    refine gA_of (b := (1016, l0)) (wh.2.1 11033 _ rfl hv_l0) ?_
    obtain ⟨c, hF⟩ := ck_of hF
    refine xI_of wh (oA_1016 hv_l0) c ?_
    clear c
    replace hF := lt_of hF
    refine ⟨fun c => ?_, fun c => ?_⟩
    · replace hF := if_ofT c hF
      obtain ⟨rfl, rfl⟩ := some_of hF
      exact hq _ wh
    · replace hF := if_ofF c hF
      refine ⟨fun c => ?_, fun c => ?_⟩
      · replace hF := if_ofT c hF
        obtain ⟨rfl, rfl⟩ := some_of hF
        exact hq _ wh
      · replace hF := if_ofF c hF
        obtain ⟨rfl, rfl⟩ := some_of hF
        exact hq _ wh
  · replace hF := if_ofF c hF
    refine ⟨⟨_, wh.1 11000 _ rfl hv_l0⟩, ?_⟩
    obtain ⟨x2, w1, hG, hF⟩ := bnd_of hF
    refine cl_I (D := 1) (Nat.le_trans (by decide) hd) (c_X10_valueNow wh hv_l0 hG) ?_
    clear hG
    clear wh
    intro h wh
    refine ⟨fun c => ?_, fun c => ?_⟩
    · replace hF := if_ofT c hF
      obtain ⟨rfl, rfl⟩ := some_of hF
      exact hq _ wh
    · replace hF := if_ofF c hF
      refine ⟨fun c => ?_, fun c => ?_⟩
      · replace hF := if_ofT c hF
        obtain ⟨rfl, rfl⟩ := some_of hF
        exact hq _ wh
      · replace hF := if_ofF c hF
        obtain ⟨rfl, rfl⟩ := some_of hF
        exact hq _ wh
theorem c_X10_cloudNow {X : SCR} {fu : Nat} {o : Int32} {w1 : MEM} {a0 : Nat} {w : MEM} {h : PH} (wh : WH X h w) (h0 : vo 10 a0 = true) (hF : f_X10_cloudNow fu a0 w = some (o, w1)) : CT 2 M_X10_cloudNow [vR (1000, a0)] h 0 0 (QP X (.inl (some (vI o))) w1) :=
  CT_of mk_X10_cloudNow (Nat.le_of_ble_eq_true rfl) rfl (w_X10_cloudNow (fu := fu) (rc := 0) (rs := 0) (hd := Nat.le_refl 2) (hq := fun h1 g => ⟨rfl, g⟩) wh h0 hF)
-- X10_tellsStep
def f_X10_tellsStep (fu : Nat) (l0 : Nat) (l1 : Int32) (l2 : Int32) (l3 : Int32) (w : MEM) : Option (Unit × MEM) := bnd (f_X10_fine fu l0 w) fun (x2 : Int32) (w1 : MEM) => if x2 = 0 then (some ((), w1)) else (ck (bI (rS w1 (11036, l0)) 150) (lt (sA w1 (1017, l0) (rS w1 (11036, l0)) l1) fun (w3 : MEM) => ck (bI ((rS w3 (11036, l0)) + (1 : Int32)) 150) (lt (sA w3 (1017, l0) ((rS w3 (11036, l0)) + (1 : Int32)) l2) fun (w4 : MEM) => ck (bI ((rS w4 (11036, l0)) + (2 : Int32)) 150) (lt (sA w4 (1017, l0) ((rS w4 (11036, l0)) + (2 : Int32)) l3) fun (w5 : MEM) => lt (sS w5 (11036, l0) ((rS w5 (11036, l0)) + (3 : Int32))) fun (w6 : MEM) => some ((), w6)))))
theorem E_X10_tellsStep (fu : Nat) (l0 : Nat) (l1 : Int32) (l2 : Int32) (l3 : Int32) (w : MEM) : f_X10_tellsStep fu l0 l1 l2 l3 w = bnd (f_X10_fine fu l0 w) fun (x2 : Int32) (w1 : MEM) => if x2 = 0 then (some ((), w1)) else (ck (bI (rS w1 (11036, l0)) 150) (lt (sA w1 (1017, l0) (rS w1 (11036, l0)) l1) fun (w3 : MEM) => ck (bI ((rS w3 (11036, l0)) + (1 : Int32)) 150) (lt (sA w3 (1017, l0) ((rS w3 (11036, l0)) + (1 : Int32)) l2) fun (w4 : MEM) => ck (bI ((rS w4 (11036, l0)) + (2 : Int32)) 150) (lt (sA w4 (1017, l0) ((rS w4 (11036, l0)) + (2 : Int32)) l3) fun (w5 : MEM) => lt (sS w5 (11036, l0) ((rS w5 (11036, l0)) + (3 : Int32))) fun (w6 : MEM) => some ((), w6))))) := rfl
theorem w_X10_tellsStep {X : SCR} {d rc rs : Nat} {Q : PO → PH → Prop} {o : Unit} {w1 : MEM} {fu : Nat} (hd : 1 ≤ d) (hq : ∀ h1, WH X h1 w1 → Q (.inl none) h1) {l0 : Nat} {l1 : Int32} {l2 : Int32} {l3 : Int32} {w : MEM} {h : PH} (wh : WH X h w) (hv_l0 : vo 10 l0 = true) (hF : f_X10_tellsStep fu l0 l1 l2 l3 w = some (o, w1)) : PW d M_X10_tellsStep Q rc rs 0 [vR (1000, l0), vI l1, vI l2, vI l3] [] h := by
  replace hF := (E_X10_tellsStep fu l0 l1 l2 l3 w).symm.trans hF
  refine r_X10_tellsStep_0 ?_
  refine ⟨⟨_, wh.1 11000 _ rfl hv_l0⟩, ?_⟩
  obtain ⟨x2, w1, hG, hF⟩ := bnd_of hF
  refine cl_I (D := 0) (Nat.le_trans (by decide) hd) (c_X10_fine wh hv_l0 hG) ?_
  clear hG
  clear wh
  intro h wh
  refine ⟨fun c => ?_, fun c => ?_⟩
  · replace hF := if_ofT c hF
    obtain ⟨rfl, rfl⟩ := some_of hF
    exact hq _ wh
  · replace hF := if_ofF c hF
    refine gA_of (b := (1017, l0)) (wh.2.1 11034 _ rfl hv_l0) ?_
    refine gI_of (wh.1 11036 _ rfl hv_l0) ?_
    obtain ⟨c, hF⟩ := ck_of hF
    replace hF := lt_of hF
    refine yI_of wh (oA_1017 hv_l0) c ?_
    clear c wh
    intro h wh
    refine gA_of (b := (1017, l0)) (wh.2.1 11034 _ rfl hv_l0) ?_
    refine gI_of (wh.1 11036 _ rfl hv_l0) ?_
    obtain ⟨c, hF⟩ := ck_of hF
    replace hF := lt_of hF
    refine yI_of wh (oA_1017 hv_l0) c ?_
    clear c wh
    intro h wh
    refine gA_of (b := (1017, l0)) (wh.2.1 11034 _ rfl hv_l0) ?_
    refine gI_of (wh.1 11036 _ rfl hv_l0) ?_
    obtain ⟨c, hF⟩ := ck_of hF
    replace hF := lt_of hF
    refine yI_of wh (oA_1017 hv_l0) c ?_
    clear c wh
    intro h wh
    refine gI_of (wh.1 11036 _ rfl hv_l0) ?_
    replace hF := lt_of hF
    refine sF_S wh rfl hv_l0 ?_
    clear wh
    intro h wh
    obtain ⟨rfl, rfl⟩ := some_of hF
    exact hq _ wh
theorem c_X10_tellsStep {X : SCR} {fu : Nat} {o : Unit} {w1 : MEM} {a0 : Nat} {a1 : Int32} {a2 : Int32} {a3 : Int32} {w : MEM} {h : PH} (wh : WH X h w) (h0 : vo 10 a0 = true) (hF : f_X10_tellsStep fu a0 a1 a2 a3 w = some (o, w1)) : CT 1 M_X10_tellsStep [vR (1000, a0), vI a1, vI a2, vI a3] h 0 0 (QP X (.inl none) w1) :=
  CT_of mk_X10_tellsStep (Nat.le_of_ble_eq_true rfl) rfl (w_X10_tellsStep (fu := fu) (rc := 0) (rs := 0) (hd := Nat.le_refl 1) (hq := fun h1 g => ⟨rfl, g⟩) wh h0 hF)
-- X10_stepOf
def f_X10_stepOf (fu : Nat) (l0 : Int32) (w : MEM) : Option (Int32 × MEM) := bnd (f_X10_of fu 13 w) fun (x2 : Int32) (w1 : MEM) => if l0 = x2 then (some ((0 : Int32), w1)) else (bnd (f_X10_of fu 14 w1) fun (x4 : Int32) (w3 : MEM) => if l0 = x4 then (some ((1 : Int32), w3)) else (bnd (f_X10_of fu 15 w3) fun (x6 : Int32) (w5 : MEM) => if l0 = x6 then (some ((2 : Int32), w5)) else (bnd (f_X10_of fu 16 w5) fun (x8 : Int32) (w7 : MEM) => if l0 = x8 then (some ((3 : Int32), w7)) else (bnd (f_X10_of fu 9 w7) fun (x10 : Int32) (w9 : MEM) => if l0 = x10 then (some ((4 : Int32), w9)) else (bnd (f_X10_of fu 17 w9) fun (x12 : Int32) (w11 : MEM) => if l0 = x12 then (some ((5 : Int32), w11)) else (bnd (f_X10_of fu 18 w11) fun (x14 : Int32) (w13 : MEM) => if l0 = x14 then (some ((6 : Int32), w13)) else (bnd (f_X10_of fu 12 w13) fun (x16 : Int32) (w15 : MEM) => if l0 = x16 then (some ((7 : Int32), w15)) else (bnd (f_X10_of fu 19 w15) fun (x18 : Int32) (w17 : MEM) => if l0 = x18 then (some ((8 : Int32), w17)) else (bnd (f_X10_of fu 20 w17) fun (x20 : Int32) (w19 : MEM) => if l0 = x20 then (some ((9 : Int32), w19)) else (some ((-1 : Int32), w19)))))))))))
theorem E_X10_stepOf (fu : Nat) (l0 : Int32) (w : MEM) : f_X10_stepOf fu l0 w = bnd (f_X10_of fu 13 w) fun (x2 : Int32) (w1 : MEM) => if l0 = x2 then (some ((0 : Int32), w1)) else (bnd (f_X10_of fu 14 w1) fun (x4 : Int32) (w3 : MEM) => if l0 = x4 then (some ((1 : Int32), w3)) else (bnd (f_X10_of fu 15 w3) fun (x6 : Int32) (w5 : MEM) => if l0 = x6 then (some ((2 : Int32), w5)) else (bnd (f_X10_of fu 16 w5) fun (x8 : Int32) (w7 : MEM) => if l0 = x8 then (some ((3 : Int32), w7)) else (bnd (f_X10_of fu 9 w7) fun (x10 : Int32) (w9 : MEM) => if l0 = x10 then (some ((4 : Int32), w9)) else (bnd (f_X10_of fu 17 w9) fun (x12 : Int32) (w11 : MEM) => if l0 = x12 then (some ((5 : Int32), w11)) else (bnd (f_X10_of fu 18 w11) fun (x14 : Int32) (w13 : MEM) => if l0 = x14 then (some ((6 : Int32), w13)) else (bnd (f_X10_of fu 12 w13) fun (x16 : Int32) (w15 : MEM) => if l0 = x16 then (some ((7 : Int32), w15)) else (bnd (f_X10_of fu 19 w15) fun (x18 : Int32) (w17 : MEM) => if l0 = x18 then (some ((8 : Int32), w17)) else (bnd (f_X10_of fu 20 w17) fun (x20 : Int32) (w19 : MEM) => if l0 = x20 then (some ((9 : Int32), w19)) else (some ((-1 : Int32), w19))))))))))) := rfl
theorem w_X10_stepOf {X : SCR} {d rc rs : Nat} {Q : PO → PH → Prop} {o : Int32} {w1 : MEM} {fu : Nat} (hd : 7 ≤ d) (hq : ∀ h1, WH X h1 w1 → Q (.inl (some (vI o))) h1) {l0 : Int32} {w : MEM} {h : PH} (wh : WH X h w)  (hF : f_X10_stepOf fu l0 w = some (o, w1)) : PW d M_X10_stepOf Q rc rs 0 [vI l0] [] h := by
  replace hF := (E_X10_stepOf fu l0 w).symm.trans hF
  refine r_X10_stepOf_0 ?_
  obtain ⟨x2, w1, hG, hF⟩ := bnd_of hF
  refine cl_I (D := 6) (Nat.le_trans (by decide) hd) (c_X10_of wh (by decide) hG) ?_
  clear hG
  clear wh
  intro h wh
  refine ⟨fun c => ?_, fun c => ?_⟩
  · replace hF := if_ofT c hF
    obtain ⟨rfl, rfl⟩ := some_of hF
    exact hq _ wh
  · replace hF := if_ofF c hF
    obtain ⟨x4, w3, hG, hF⟩ := bnd_of hF
    refine cl_I (D := 6) (Nat.le_trans (by decide) hd) (c_X10_of wh (by decide) hG) ?_
    clear hG
    clear wh
    intro h wh
    refine ⟨fun c => ?_, fun c => ?_⟩
    · replace hF := if_ofT c hF
      obtain ⟨rfl, rfl⟩ := some_of hF
      exact hq _ wh
    · replace hF := if_ofF c hF
      obtain ⟨x6, w5, hG, hF⟩ := bnd_of hF
      refine cl_I (D := 6) (Nat.le_trans (by decide) hd) (c_X10_of wh (by decide) hG) ?_
      clear hG
      clear wh
      intro h wh
      refine ⟨fun c => ?_, fun c => ?_⟩
      · replace hF := if_ofT c hF
        obtain ⟨rfl, rfl⟩ := some_of hF
        exact hq _ wh
      · replace hF := if_ofF c hF
        obtain ⟨x8, w7, hG, hF⟩ := bnd_of hF
        refine cl_I (D := 6) (Nat.le_trans (by decide) hd) (c_X10_of wh (by decide) hG) ?_
        clear hG
        clear wh
        intro h wh
        refine ⟨fun c => ?_, fun c => ?_⟩
        · replace hF := if_ofT c hF
          obtain ⟨rfl, rfl⟩ := some_of hF
          exact hq _ wh
        · replace hF := if_ofF c hF
          obtain ⟨x10, w9, hG, hF⟩ := bnd_of hF
          refine cl_I (D := 6) (Nat.le_trans (by decide) hd) (c_X10_of wh (by decide) hG) ?_
          clear hG
          clear wh
          intro h wh
          refine ⟨fun c => ?_, fun c => ?_⟩
          · replace hF := if_ofT c hF
            obtain ⟨rfl, rfl⟩ := some_of hF
            exact hq _ wh
          · replace hF := if_ofF c hF
            obtain ⟨x12, w11, hG, hF⟩ := bnd_of hF
            refine cl_I (D := 6) (Nat.le_trans (by decide) hd) (c_X10_of wh (by decide) hG) ?_
            clear hG
            clear wh
            intro h wh
            refine ⟨fun c => ?_, fun c => ?_⟩
            · replace hF := if_ofT c hF
              obtain ⟨rfl, rfl⟩ := some_of hF
              exact hq _ wh
            · replace hF := if_ofF c hF
              obtain ⟨x14, w13, hG, hF⟩ := bnd_of hF
              refine cl_I (D := 6) (Nat.le_trans (by decide) hd) (c_X10_of wh (by decide) hG) ?_
              clear hG
              clear wh
              intro h wh
              refine ⟨fun c => ?_, fun c => ?_⟩
              · replace hF := if_ofT c hF
                obtain ⟨rfl, rfl⟩ := some_of hF
                exact hq _ wh
              · replace hF := if_ofF c hF
                obtain ⟨x16, w15, hG, hF⟩ := bnd_of hF
                refine cl_I (D := 6) (Nat.le_trans (by decide) hd) (c_X10_of wh (by decide) hG) ?_
                clear hG
                clear wh
                intro h wh
                refine ⟨fun c => ?_, fun c => ?_⟩
                · replace hF := if_ofT c hF
                  obtain ⟨rfl, rfl⟩ := some_of hF
                  exact hq _ wh
                · replace hF := if_ofF c hF
                  obtain ⟨x18, w17, hG, hF⟩ := bnd_of hF
                  refine cl_I (D := 6) (Nat.le_trans (by decide) hd) (c_X10_of wh (by decide) hG) ?_
                  clear hG
                  clear wh
                  intro h wh
                  refine ⟨fun c => ?_, fun c => ?_⟩
                  · replace hF := if_ofT c hF
                    obtain ⟨rfl, rfl⟩ := some_of hF
                    exact hq _ wh
                  · replace hF := if_ofF c hF
                    obtain ⟨x20, w19, hG, hF⟩ := bnd_of hF
                    refine cl_I (D := 6) (Nat.le_trans (by decide) hd) (c_X10_of wh (by decide) hG) ?_
                    clear hG
                    clear wh
                    intro h wh
                    refine ⟨fun c => ?_, fun c => ?_⟩
                    · replace hF := if_ofT c hF
                      obtain ⟨rfl, rfl⟩ := some_of hF
                      exact hq _ wh
                    · replace hF := if_ofF c hF
                      obtain ⟨rfl, rfl⟩ := some_of hF
                      exact hq _ wh
theorem c_X10_stepOf {X : SCR} {fu : Nat} {o : Int32} {w1 : MEM} {a0 : Int32} {w : MEM} {h : PH} (wh : WH X h w)  (hF : f_X10_stepOf fu a0 w = some (o, w1)) : CT 7 M_X10_stepOf [vI a0] h 0 0 (QP X (.inl (some (vI o))) w1) :=
  CT_of mk_X10_stepOf (Nat.le_of_ble_eq_true rfl) rfl (w_X10_stepOf (fu := fu) (rc := 0) (rs := 0) (hd := Nat.le_refl 7) (hq := fun h1 g => ⟨rfl, g⟩) wh  hF)
-- X10_readStep
def f_X10_readStep_86 (fu : Nat) (c_readStep : Nat → MEM → Option (Unit × MEM)) (l0 : Nat) (l3 : Int32) (w : MEM) : Option (Unit × MEM) := bnd (f_X10_sign fu l0 (93 : Int32) w) fun (u2 : Unit) (w1 : MEM) => lt (sS w1 (11007, l0) ((rS w1 (11007, l0)) - (1 : Int32))) fun (w3 : MEM) => bnd (f_X10_fine fu l0 w3) fun (x5 : Int32) (w4 : MEM) => if x5 = 0 then (bnd (f_X10_sign fu l0 (59 : Int32) w4) fun (u7 : Unit) (w6 : MEM) => some ((), w6)) else (ck (bI (l3 + (2 : Int32)) 150) (lt (sA w4 (1017, l0) (l3 + (2 : Int32)) (rS w4 (11036, l0))) fun (w8 : MEM) => bnd (f_X10_sign fu l0 (59 : Int32) w8) fun (u10 : Unit) (w9 : MEM) => some ((), w9)))
theorem E_X10_readStep_86 (fu : Nat) (c_readStep : Nat → MEM → Option (Unit × MEM)) (l0 : Nat) (l3 : Int32) (w : MEM) : f_X10_readStep_86 fu c_readStep l0 l3 w = bnd (f_X10_sign fu l0 (93 : Int32) w) fun (u2 : Unit) (w1 : MEM) => lt (sS w1 (11007, l0) ((rS w1 (11007, l0)) - (1 : Int32))) fun (w3 : MEM) => bnd (f_X10_fine fu l0 w3) fun (x5 : Int32) (w4 : MEM) => if x5 = 0 then (bnd (f_X10_sign fu l0 (59 : Int32) w4) fun (u7 : Unit) (w6 : MEM) => some ((), w6)) else (ck (bI (l3 + (2 : Int32)) 150) (lt (sA w4 (1017, l0) (l3 + (2 : Int32)) (rS w4 (11036, l0))) fun (w8 : MEM) => bnd (f_X10_sign fu l0 (59 : Int32) w8) fun (u10 : Unit) (w9 : MEM) => some ((), w9))) := rfl
theorem w_X10_readStep_86 {X : SCR} {d rc rs DR : Nat} {Q : PO → PH → Prop} {o : Unit} {w1 : MEM} {fu : Nat} {c_readStep : Nat → MEM → Option (Unit × MEM)} (hd : 8 ≤ d) (hr : DR + 1 ≤ d) (hc_readStep : ∀ (a0 : Nat) (w : MEM) (h : PH) (o : Unit) (w1 : MEM), WH X h w → vo 10 a0 = true → c_readStep a0 w = some (o, w1) → CT DR M_X10_readStep [vR (1000, a0)] h 0 0 (QP X (.inl none) w1)) (hq : ∀ h1, WH X h1 w1 → Q (.inl none) h1) {l0 : Nat} {l3 : Int32} {w : MEM} {h : PH} (wh : WH X h w) (hv_l0 : vo 10 l0 = true) (hF : f_X10_readStep_86 fu c_readStep l0 l3 w = some (o, w1)) : PW d M_X10_readStep Q rc rs 86 [vR (1000, l0), vU, vU, vI l3] [] h := by
  replace hF := (E_X10_readStep_86 fu c_readStep l0 l3 w).symm.trans hF
  refine r_X10_readStep_86 ?_
  refine ⟨⟨_, wh.1 11000 _ rfl hv_l0⟩, ?_⟩
  obtain ⟨u2, w1, hG, hF⟩ := bnd_of hF
  refine cl_V (D := 1) (Nat.le_trans (by decide) hd) (c_X10_sign wh hv_l0 hG) ?_
  clear hG
  clear wh
  intro h wh
  refine gI_of (wh.1 11007 _ rfl hv_l0) ?_
  replace hF := lt_of hF
  refine sF_S wh rfl hv_l0 ?_
  clear wh
  intro h wh
  refine ⟨⟨_, wh.1 11000 _ rfl hv_l0⟩, ?_⟩
  obtain ⟨x5, w4, hG, hF⟩ := bnd_of hF
  refine cl_I (D := 0) (Nat.le_trans (by decide) hd) (c_X10_fine wh hv_l0 hG) ?_
  clear hG
  clear wh
  intro h wh
  refine ⟨fun c => ?_, fun c => ?_⟩
  · replace hF := if_ofT c hF
    refine ⟨⟨_, wh.1 11000 _ rfl hv_l0⟩, ?_⟩
    obtain ⟨u7, w6, hG, hF⟩ := bnd_of hF
    refine cl_V (D := 1) (Nat.le_trans (by decide) hd) (c_X10_sign wh hv_l0 hG) ?_
    clear hG
    clear wh
    intro h wh
    obtain ⟨rfl, rfl⟩ := some_of hF
    exact hq _ wh
  · replace hF := if_ofF c hF
    refine gA_of (b := (1017, l0)) (wh.2.1 11034 _ rfl hv_l0) ?_
    refine gI_of (wh.1 11036 _ rfl hv_l0) ?_
    obtain ⟨c, hF⟩ := ck_of hF
    replace hF := lt_of hF
    refine yI_of wh (oA_1017 hv_l0) c ?_
    clear c wh
    intro h wh
    refine ⟨⟨_, wh.1 11000 _ rfl hv_l0⟩, ?_⟩
    obtain ⟨u10, w9, hG, hF⟩ := bnd_of hF
    refine cl_V (D := 1) (Nat.le_trans (by decide) hd) (c_X10_sign wh hv_l0 hG) ?_
    clear hG
    clear wh
    intro h wh
    obtain ⟨rfl, rfl⟩ := some_of hF
    exact hq _ wh
def f_X10_readStep_63 (fu : Nat) (c_readStep : Nat → MEM → Option (Unit × MEM)) : Nat → Nat → Int32 → MEM → Option (Unit × MEM)
  | 0, _, _, _ => none
  | n + 1, l0, l3, w => bnd (f_X10_fine fu l0 w) fun (x2 : Int32) (w1 : MEM) => if x2 = 0 then (f_X10_readStep_86 fu c_readStep l0 l3 w1) else (bnd (f_X10_here fu l0 w1) fun (x4 : Int32) (w3 : MEM) => if x4 = (93 : Int32) then (f_X10_readStep_86 fu c_readStep l0 l3 w3) else (bnd (c_readStep l0 w3) fun (u6 : Unit) (w5 : MEM) => f_X10_readStep_63 fu c_readStep n l0 l3 w5))
theorem E_X10_readStep_63 (fu : Nat) (c_readStep : Nat → MEM → Option (Unit × MEM)) (n : Nat) (l0 : Nat) (l3 : Int32) (w : MEM) : f_X10_readStep_63 fu c_readStep (n + 1) l0 l3 w = bnd (f_X10_fine fu l0 w) fun (x2 : Int32) (w1 : MEM) => if x2 = 0 then (f_X10_readStep_86 fu c_readStep l0 l3 w1) else (bnd (f_X10_here fu l0 w1) fun (x4 : Int32) (w3 : MEM) => if x4 = (93 : Int32) then (f_X10_readStep_86 fu c_readStep l0 l3 w3) else (bnd (c_readStep l0 w3) fun (u6 : Unit) (w5 : MEM) => f_X10_readStep_63 fu c_readStep n l0 l3 w5)) := rfl
theorem w_X10_readStep_63 {X : SCR} {d rc rs DR : Nat} {Q : PO → PH → Prop} {o : Unit} {w1 : MEM} {fu : Nat} {c_readStep : Nat → MEM → Option (Unit × MEM)} (hd : 8 ≤ d) (hr : DR + 1 ≤ d) (hc_readStep : ∀ (a0 : Nat) (w : MEM) (h : PH) (o : Unit) (w1 : MEM), WH X h w → vo 10 a0 = true → c_readStep a0 w = some (o, w1) → CT DR M_X10_readStep [vR (1000, a0)] h 0 0 (QP X (.inl none) w1)) (hq : ∀ h1, WH X h1 w1 → Q (.inl none) h1) : ∀ (n : Nat) (l0 : Nat) (l3 : Int32) (w : MEM) (h : PH), WH X h w → vo 10 l0 = true → f_X10_readStep_63 fu c_readStep n l0 l3 w = some (o, w1) → PW d M_X10_readStep Q rc rs 63 [vR (1000, l0), vU, vU, vI l3] [] h := by
  intro n
  induction n with
  | zero => intro l0 l3 w h wh hv_l0 hF; cases hF
  | succ n ih =>
    intro l0 l3 w h wh hv_l0 hF
    replace hF := (E_X10_readStep_63 fu c_readStep n l0 l3 w).symm.trans hF
    refine r_X10_readStep_63 ?_
    refine ⟨⟨_, wh.1 11000 _ rfl hv_l0⟩, ?_⟩
    obtain ⟨x2, w1, hG, hF⟩ := bnd_of hF
    refine cl_I (D := 0) (Nat.le_trans (by decide) hd) (c_X10_fine wh hv_l0 hG) ?_
    clear hG
    clear wh
    intro h wh
    refine ⟨fun c => ?_, fun c => ?_⟩
    · replace hF := if_ofT c hF
      exact w_X10_readStep_86 hd hr hc_readStep hq  wh hv_l0 hF
    · replace hF := if_ofF c hF
      refine ⟨⟨_, wh.1 11000 _ rfl hv_l0⟩, ?_⟩
      obtain ⟨x4, w3, hG, hF⟩ := bnd_of hF
      refine cl_I (D := 0) (Nat.le_trans (by decide) hd) (c_X10_here wh hv_l0 hG) ?_
      clear hG
      clear wh
      intro h wh
      refine ⟨fun c => ?_, fun c => ?_⟩
      · replace hF := if_ofT c hF
        exact w_X10_readStep_86 hd hr hc_readStep hq  wh hv_l0 hF
      · replace hF := if_ofF c hF
        refine ⟨⟨_, wh.1 11000 _ rfl hv_l0⟩, ?_⟩
        obtain ⟨u6, w5, hG, hF⟩ := bnd_of hF
        refine cl_V hr (hc_readStep _ _ _ _ _ wh hv_l0 hG) ?_
        clear hG
        clear wh
        intro h wh
        exact ih _ _ _ _ wh hv_l0 hF
def b_X10_readStep (fu : Nat) (c_readStep : Nat → MEM → Option (Unit × MEM)) (l0 : Nat) (w : MEM) : Option (Unit × MEM) := bnd (f_X10_word fu l0 w) fun (x2 : Int32) (w1 : MEM) => bnd (f_X10_stepOf fu x2 w1) fun (x4 : Int32) (w3 : MEM) => if x4 = (-1 : Int32) then (bnd (f_X10_wrong fu l0 (1 : Int32) (rS w3 (11004, l0)) w3) fun (u39 : Unit) (w38 : MEM) => bnd (f_X10_sign fu l0 (59 : Int32) w38) fun (u41 : Unit) (w40 : MEM) => some ((), w40)) else (if x4 = (9 : Int32) then (bnd (f_X10_opensOne fu l0 (5 : Int32) w3) fun (u30 : Unit) (w29 : MEM) => bnd (f_X10_readNumber fu l0 (0 : Int32) (30 : Int32) w29) fun (x32 : Int32) (w31 : MEM) => bnd (f_X10_sign fu l0 (91 : Int32) w31) fun (u34 : Unit) (w33 : MEM) => lt ((rS w33 (11036, l0))) fun (v35 : Int32) => bnd (f_X10_tellsStep fu l0 (9 : Int32) x32 (0 : Int32) w33) fun (u37 : Unit) (w36 : MEM) => f_X10_readStep_63 fu c_readStep fu l0 v35 w36) else (bnd (f_X10_pass fu l0 w3) fun (u6 : Unit) (w5 : MEM) => if x4 < (7 : Int32) then (bnd (f_X10_readNumber fu l0 (0 : Int32) ((rS w5 (11022, l0)) - (1 : Int32)) w5) fun (x18 : Int32) (w17 : MEM) => if x4 = (6 : Int32) then (bnd (f_X10_readNumber fu l0 (0 : Int32) (9 : Int32) w17) fun (x24 : Int32) (w23 : MEM) => bnd (f_X10_tellsStep fu l0 x4 x18 x24 w23) fun (u26 : Unit) (w25 : MEM) => bnd (f_X10_sign fu l0 (59 : Int32) w25) fun (u28 : Unit) (w27 : MEM) => some ((), w27)) else (bnd (f_X10_tellsStep fu l0 x4 x18 (0 : Int32) w17) fun (u20 : Unit) (w19 : MEM) => bnd (f_X10_sign fu l0 (59 : Int32) w19) fun (u22 : Unit) (w21 : MEM) => some ((), w21))) else (if x4 = (6 : Int32) then (bnd (f_X10_readNumber fu l0 (0 : Int32) (9 : Int32) w5) fun (x12 : Int32) (w11 : MEM) => bnd (f_X10_tellsStep fu l0 x4 (0 : Int32) x12 w11) fun (u14 : Unit) (w13 : MEM) => bnd (f_X10_sign fu l0 (59 : Int32) w13) fun (u16 : Unit) (w15 : MEM) => some ((), w15)) else (bnd (f_X10_tellsStep fu l0 x4 (0 : Int32) (0 : Int32) w5) fun (u8 : Unit) (w7 : MEM) => bnd (f_X10_sign fu l0 (59 : Int32) w7) fun (u10 : Unit) (w9 : MEM) => some ((), w9)))))
theorem E_X10_readStep (fu : Nat) (c_readStep : Nat → MEM → Option (Unit × MEM)) (l0 : Nat) (w : MEM) : b_X10_readStep fu c_readStep l0 w = bnd (f_X10_word fu l0 w) fun (x2 : Int32) (w1 : MEM) => bnd (f_X10_stepOf fu x2 w1) fun (x4 : Int32) (w3 : MEM) => if x4 = (-1 : Int32) then (bnd (f_X10_wrong fu l0 (1 : Int32) (rS w3 (11004, l0)) w3) fun (u39 : Unit) (w38 : MEM) => bnd (f_X10_sign fu l0 (59 : Int32) w38) fun (u41 : Unit) (w40 : MEM) => some ((), w40)) else (if x4 = (9 : Int32) then (bnd (f_X10_opensOne fu l0 (5 : Int32) w3) fun (u30 : Unit) (w29 : MEM) => bnd (f_X10_readNumber fu l0 (0 : Int32) (30 : Int32) w29) fun (x32 : Int32) (w31 : MEM) => bnd (f_X10_sign fu l0 (91 : Int32) w31) fun (u34 : Unit) (w33 : MEM) => lt ((rS w33 (11036, l0))) fun (v35 : Int32) => bnd (f_X10_tellsStep fu l0 (9 : Int32) x32 (0 : Int32) w33) fun (u37 : Unit) (w36 : MEM) => f_X10_readStep_63 fu c_readStep fu l0 v35 w36) else (bnd (f_X10_pass fu l0 w3) fun (u6 : Unit) (w5 : MEM) => if x4 < (7 : Int32) then (bnd (f_X10_readNumber fu l0 (0 : Int32) ((rS w5 (11022, l0)) - (1 : Int32)) w5) fun (x18 : Int32) (w17 : MEM) => if x4 = (6 : Int32) then (bnd (f_X10_readNumber fu l0 (0 : Int32) (9 : Int32) w17) fun (x24 : Int32) (w23 : MEM) => bnd (f_X10_tellsStep fu l0 x4 x18 x24 w23) fun (u26 : Unit) (w25 : MEM) => bnd (f_X10_sign fu l0 (59 : Int32) w25) fun (u28 : Unit) (w27 : MEM) => some ((), w27)) else (bnd (f_X10_tellsStep fu l0 x4 x18 (0 : Int32) w17) fun (u20 : Unit) (w19 : MEM) => bnd (f_X10_sign fu l0 (59 : Int32) w19) fun (u22 : Unit) (w21 : MEM) => some ((), w21))) else (if x4 = (6 : Int32) then (bnd (f_X10_readNumber fu l0 (0 : Int32) (9 : Int32) w5) fun (x12 : Int32) (w11 : MEM) => bnd (f_X10_tellsStep fu l0 x4 (0 : Int32) x12 w11) fun (u14 : Unit) (w13 : MEM) => bnd (f_X10_sign fu l0 (59 : Int32) w13) fun (u16 : Unit) (w15 : MEM) => some ((), w15)) else (bnd (f_X10_tellsStep fu l0 x4 (0 : Int32) (0 : Int32) w5) fun (u8 : Unit) (w7 : MEM) => bnd (f_X10_sign fu l0 (59 : Int32) w7) fun (u10 : Unit) (w9 : MEM) => some ((), w9))))) := rfl
theorem w_X10_readStep {X : SCR} {d rc rs DR : Nat} {Q : PO → PH → Prop} {o : Unit} {w1 : MEM} {fu : Nat} {c_readStep : Nat → MEM → Option (Unit × MEM)} (hd : 8 ≤ d) (hr : DR + 1 ≤ d) (hc_readStep : ∀ (a0 : Nat) (w : MEM) (h : PH) (o : Unit) (w1 : MEM), WH X h w → vo 10 a0 = true → c_readStep a0 w = some (o, w1) → CT DR M_X10_readStep [vR (1000, a0)] h 0 0 (QP X (.inl none) w1)) (hq : ∀ h1, WH X h1 w1 → Q (.inl none) h1) {l0 : Nat} {w : MEM} {h : PH} (wh : WH X h w) (hv_l0 : vo 10 l0 = true) (hF : b_X10_readStep fu c_readStep l0 w = some (o, w1)) : PW d M_X10_readStep Q rc rs 0 [vR (1000, l0), vU, vU, vU] [] h := by
  replace hF := (E_X10_readStep fu c_readStep l0 w).symm.trans hF
  refine r_X10_readStep_0 ?_
  refine ⟨⟨_, wh.1 11000 _ rfl hv_l0⟩, ?_⟩
  obtain ⟨x2, w1, hG, hF⟩ := bnd_of hF
  refine cl_I (D := 1) (Nat.le_trans (by decide) hd) (c_X10_word wh hv_l0 hG) ?_
  clear hG
  clear wh
  intro h wh
  obtain ⟨x4, w3, hG, hF⟩ := bnd_of hF
  refine cl_I (D := 7) (Nat.le_trans (by decide) hd) (c_X10_stepOf wh  hG) ?_
  clear hG
  clear wh
  intro h wh
  refine ⟨fun c => ?_, fun c => ?_⟩
  · replace hF := if_ofT c hF
    refine gI_of (wh.1 11004 _ rfl hv_l0) ?_
    refine ⟨⟨_, wh.1 11000 _ rfl hv_l0⟩, ?_⟩
    obtain ⟨u39, w38, hG, hF⟩ := bnd_of hF
    refine cl_V (D := 0) (Nat.le_trans (by decide) hd) (c_X10_wrong wh hv_l0 hG) ?_
    clear hG
    clear wh
    intro h wh
    refine ⟨⟨_, wh.1 11000 _ rfl hv_l0⟩, ?_⟩
    obtain ⟨u41, w40, hG, hF⟩ := bnd_of hF
    refine cl_V (D := 1) (Nat.le_trans (by decide) hd) (c_X10_sign wh hv_l0 hG) ?_
    clear hG
    clear wh
    intro h wh
    obtain ⟨rfl, rfl⟩ := some_of hF
    exact hq _ wh
  · replace hF := if_ofF c hF
    refine ⟨fun c => ?_, fun c => ?_⟩
    · replace hF := if_ofT c hF
      refine ⟨⟨_, wh.1 11000 _ rfl hv_l0⟩, ?_⟩
      obtain ⟨u30, w29, hG, hF⟩ := bnd_of hF
      refine cl_V (D := 1) (Nat.le_trans (by decide) hd) (c_X10_opensOne wh hv_l0 hG) ?_
      clear hG
      clear wh
      intro h wh
      refine ⟨⟨_, wh.1 11000 _ rfl hv_l0⟩, ?_⟩
      obtain ⟨x32, w31, hG, hF⟩ := bnd_of hF
      refine cl_I (D := 1) (Nat.le_trans (by decide) hd) (c_X10_readNumber wh hv_l0 hG) ?_
      clear hG
      clear wh
      intro h wh
      refine ⟨⟨_, wh.1 11000 _ rfl hv_l0⟩, ?_⟩
      obtain ⟨u34, w33, hG, hF⟩ := bnd_of hF
      refine cl_V (D := 1) (Nat.le_trans (by decide) hd) (c_X10_sign wh hv_l0 hG) ?_
      clear hG
      clear wh
      intro h wh
      refine gI_of (wh.1 11036 _ rfl hv_l0) ?_
      replace hF := lt_of hF
      refine ⟨⟨_, wh.1 11000 _ rfl hv_l0⟩, ?_⟩
      obtain ⟨u37, w36, hG, hF⟩ := bnd_of hF
      refine cl_V (D := 1) (Nat.le_trans (by decide) hd) (c_X10_tellsStep wh hv_l0 hG) ?_
      clear hG
      clear wh
      intro h wh
      exact w_X10_readStep_63 hd hr hc_readStep hq  fu _ _ _ _ wh hv_l0 hF
    · replace hF := if_ofF c hF
      refine ⟨⟨_, wh.1 11000 _ rfl hv_l0⟩, ?_⟩
      obtain ⟨u6, w5, hG, hF⟩ := bnd_of hF
      refine cl_V (D := 1) (Nat.le_trans (by decide) hd) (c_X10_pass wh hv_l0 hG) ?_
      clear hG
      clear wh
      intro h wh
      refine ⟨fun c => ?_, fun c => ?_⟩
      · replace hF := if_ofT c hF
        refine gI_of (wh.1 11022 _ rfl hv_l0) ?_
        refine ⟨⟨_, wh.1 11000 _ rfl hv_l0⟩, ?_⟩
        obtain ⟨x18, w17, hG, hF⟩ := bnd_of hF
        refine cl_I (D := 1) (Nat.le_trans (by decide) hd) (c_X10_readNumber wh hv_l0 hG) ?_
        clear hG
        clear wh
        intro h wh
        refine ⟨fun c => ?_, fun c => ?_⟩
        · replace hF := if_ofT c hF
          refine ⟨⟨_, wh.1 11000 _ rfl hv_l0⟩, ?_⟩
          obtain ⟨x24, w23, hG, hF⟩ := bnd_of hF
          refine cl_I (D := 1) (Nat.le_trans (by decide) hd) (c_X10_readNumber wh hv_l0 hG) ?_
          clear hG
          clear wh
          intro h wh
          refine ⟨⟨_, wh.1 11000 _ rfl hv_l0⟩, ?_⟩
          obtain ⟨u26, w25, hG, hF⟩ := bnd_of hF
          refine cl_V (D := 1) (Nat.le_trans (by decide) hd) (c_X10_tellsStep wh hv_l0 hG) ?_
          clear hG
          clear wh
          intro h wh
          refine ⟨⟨_, wh.1 11000 _ rfl hv_l0⟩, ?_⟩
          obtain ⟨u28, w27, hG, hF⟩ := bnd_of hF
          refine cl_V (D := 1) (Nat.le_trans (by decide) hd) (c_X10_sign wh hv_l0 hG) ?_
          clear hG
          clear wh
          intro h wh
          obtain ⟨rfl, rfl⟩ := some_of hF
          exact hq _ wh
        · replace hF := if_ofF c hF
          refine ⟨⟨_, wh.1 11000 _ rfl hv_l0⟩, ?_⟩
          obtain ⟨u20, w19, hG, hF⟩ := bnd_of hF
          refine cl_V (D := 1) (Nat.le_trans (by decide) hd) (c_X10_tellsStep wh hv_l0 hG) ?_
          clear hG
          clear wh
          intro h wh
          refine ⟨⟨_, wh.1 11000 _ rfl hv_l0⟩, ?_⟩
          obtain ⟨u22, w21, hG, hF⟩ := bnd_of hF
          refine cl_V (D := 1) (Nat.le_trans (by decide) hd) (c_X10_sign wh hv_l0 hG) ?_
          clear hG
          clear wh
          intro h wh
          obtain ⟨rfl, rfl⟩ := some_of hF
          exact hq _ wh
      · replace hF := if_ofF c hF
        refine ⟨fun c => ?_, fun c => ?_⟩
        · replace hF := if_ofT c hF
          refine ⟨⟨_, wh.1 11000 _ rfl hv_l0⟩, ?_⟩
          obtain ⟨x12, w11, hG, hF⟩ := bnd_of hF
          refine cl_I (D := 1) (Nat.le_trans (by decide) hd) (c_X10_readNumber wh hv_l0 hG) ?_
          clear hG
          clear wh
          intro h wh
          refine ⟨⟨_, wh.1 11000 _ rfl hv_l0⟩, ?_⟩
          obtain ⟨u14, w13, hG, hF⟩ := bnd_of hF
          refine cl_V (D := 1) (Nat.le_trans (by decide) hd) (c_X10_tellsStep wh hv_l0 hG) ?_
          clear hG
          clear wh
          intro h wh
          refine ⟨⟨_, wh.1 11000 _ rfl hv_l0⟩, ?_⟩
          obtain ⟨u16, w15, hG, hF⟩ := bnd_of hF
          refine cl_V (D := 1) (Nat.le_trans (by decide) hd) (c_X10_sign wh hv_l0 hG) ?_
          clear hG
          clear wh
          intro h wh
          obtain ⟨rfl, rfl⟩ := some_of hF
          exact hq _ wh
        · replace hF := if_ofF c hF
          refine ⟨⟨_, wh.1 11000 _ rfl hv_l0⟩, ?_⟩
          obtain ⟨u8, w7, hG, hF⟩ := bnd_of hF
          refine cl_V (D := 1) (Nat.le_trans (by decide) hd) (c_X10_tellsStep wh hv_l0 hG) ?_
          clear hG
          clear wh
          intro h wh
          refine ⟨⟨_, wh.1 11000 _ rfl hv_l0⟩, ?_⟩
          obtain ⟨u10, w9, hG, hF⟩ := bnd_of hF
          refine cl_V (D := 1) (Nat.le_trans (by decide) hd) (c_X10_sign wh hv_l0 hG) ?_
          clear hG
          clear wh
          intro h wh
          obtain ⟨rfl, rfl⟩ := some_of hF
          exact hq _ wh
def f_X10_readStep (fu : Nat) : Nat → Nat → MEM → Option (Unit × MEM)
  | 0 => fun _ _ => none
  | n + 1 => b_X10_readStep fu (f_X10_readStep fu n)
theorem Et_X10_readStep (fu n : Nat) (a0 : Nat) (w : MEM) : f_X10_readStep fu (n + 1) a0 w = b_X10_readStep fu (f_X10_readStep fu n) a0 w := rfl
theorem C_X10_readStep {X : SCR} (fu : Nat) : ∀ n, (∀ (a0 : Nat) (w : MEM) (h : PH) (o : Unit) (w1 : MEM), WH X h w → vo 10 a0 = true → f_X10_readStep fu n a0 w = some (o, w1) → CT (8 + n) M_X10_readStep [vR (1000, a0)] h 0 0 (QP X (.inl none) w1)) := by
  intro n
  induction n with
  | zero => exact fun _ _ _ _ _ _ _ hF => (by cases hF)
  | succ n ih =>
    · intro a0 w h o w1 wh g0 hF
      exact CT_of mk_X10_readStep (Nat.le_of_ble_eq_true rfl) rfl (w_X10_readStep (DR := 8 + n) (rc := 0) (rs := 0) (hd := by omega) (hr := by omega) (hc_readStep := ih) (hq := fun h1 g => ⟨rfl, g⟩) wh g0 ((Et_X10_readStep fu n a0 w).symm.trans hF))
theorem c_X10_readStep {X : SCR} {fu : Nat} {o : Unit} {w1 : MEM} {a0 : Nat} {w : MEM} {h : PH} (wh : WH X h w) (h0 : vo 10 a0 = true) (hF : f_X10_readStep fu 40 a0 w = some (o, w1)) : CT 48 M_X10_readStep [vR (1000, a0)] h 0 0 (QP X (.inl none) w1) := (C_X10_readStep fu 40) a0 w h o w1 wh h0 hF
-- X10_take
def f_X10_take (fu : Nat) (l0 : Nat) (w : MEM) : Option (Unit × MEM) := bnd (f_X10_copies fu l0 (1019, l0) (1020, l0) (57 : Int32) w) fun (u2 : Unit) (w1 : MEM) => some ((), w1)
theorem E_X10_take (fu : Nat) (l0 : Nat) (w : MEM) : f_X10_take fu l0 w = bnd (f_X10_copies fu l0 (1019, l0) (1020, l0) (57 : Int32) w) fun (u2 : Unit) (w1 : MEM) => some ((), w1) := rfl
theorem w_X10_take {X : SCR} {d rc rs : Nat} {Q : PO → PH → Prop} {o : Unit} {w1 : MEM} {fu : Nat} (hd : 1 ≤ d) (hq : ∀ h1, WH X h1 w1 → Q (.inl none) h1) {l0 : Nat} {w : MEM} {h : PH} (wh : WH X h w) (hv_l0 : vo 10 l0 = true) (hF : f_X10_take fu l0 w = some (o, w1)) : PW d M_X10_take Q rc rs 0 [vR (1000, l0)] [] h := by
  replace hF := (E_X10_take fu l0 w).symm.trans hF
  refine r_X10_take_0 ?_
  refine gA_of (b := (1019, l0)) (wh.2.1 11042 _ rfl hv_l0) ?_
  refine gA_of (b := (1020, l0)) (wh.2.1 11043 _ rfl hv_l0) ?_
  refine ⟨⟨_, wh.1 11000 _ rfl hv_l0⟩, ?_⟩
  obtain ⟨u2, w1, hG, hF⟩ := bnd_of hF
  refine cl_V (D := 0) (Nat.le_trans (by decide) hd) (c_X10_copies wh hv_l0 (oA_1019 hv_l0) (oA_1020 hv_l0) hG) ?_
  clear hG
  clear wh
  intro h wh
  obtain ⟨rfl, rfl⟩ := some_of hF
  exact hq _ wh
theorem c_X10_take {X : SCR} {fu : Nat} {o : Unit} {w1 : MEM} {a0 : Nat} {w : MEM} {h : PH} (wh : WH X h w) (h0 : vo 10 a0 = true) (hF : f_X10_take fu a0 w = some (o, w1)) : CT 1 M_X10_take [vR (1000, a0)] h 0 0 (QP X (.inl none) w1) :=
  CT_of mk_X10_take (Nat.le_of_ble_eq_true rfl) rfl (w_X10_take (fu := fu) (rc := 0) (rs := 0) (hd := Nat.le_refl 1) (hq := fun h1 g => ⟨rfl, g⟩) wh h0 hF)
-- X10_puts
def f_X10_puts (fu : Nat) (l0 : Nat) (l1 : Int32) (l2 : Int32) (l3 : Int32) (w : MEM) : Option (Int32 × MEM) := if l3 = 0 then (ck (b01 l3) (some (l3, w))) else (ck (bI l1 57) (lt (sA w (1020, l0) l1 l2) fun (w1 : MEM) => ck (b01 l3) (some (l3, w1))))
theorem E_X10_puts (fu : Nat) (l0 : Nat) (l1 : Int32) (l2 : Int32) (l3 : Int32) (w : MEM) : f_X10_puts fu l0 l1 l2 l3 w = if l3 = 0 then (ck (b01 l3) (some (l3, w))) else (ck (bI l1 57) (lt (sA w (1020, l0) l1 l2) fun (w1 : MEM) => ck (b01 l3) (some (l3, w1)))) := rfl
theorem w_X10_puts {X : SCR} {d rc rs : Nat} {Q : PO → PH → Prop} {o : Int32} {w1 : MEM} {fu : Nat} (hd : 0 ≤ d) (hq : ∀ h1, WH X h1 w1 → Q (.inl (some (vI o))) h1) {l0 : Nat} {l1 : Int32} {l2 : Int32} {l3 : Int32} {w : MEM} {h : PH} (wh : WH X h w) (hv_l0 : vo 10 l0 = true) (hF : f_X10_puts fu l0 l1 l2 l3 w = some (o, w1)) : PW d M_X10_puts Q rc rs 0 [vR (1000, l0), vI l1, vI l2, vI l3] [] h := by
  replace hF := (E_X10_puts fu l0 l1 l2 l3 w).symm.trans hF
  refine r_X10_puts_0 ?_
  refine ⟨fun c => ?_, fun c => ?_⟩
  · replace hF := if_ofT c hF
    obtain ⟨c, hF⟩ := ck_of hF
    obtain ⟨rfl, rfl⟩ := some_of hF
    exact ⟨b01_nrw c, hq _ wh⟩
  · replace hF := if_ofF c hF
    refine gA_of (b := (1020, l0)) (wh.2.1 11043 _ rfl hv_l0) ?_
    obtain ⟨c, hF⟩ := ck_of hF
    replace hF := lt_of hF
    refine yI_of wh (oA_1020 hv_l0) c ?_
    clear c wh
    intro h wh
    obtain ⟨c, hF⟩ := ck_of hF
    obtain ⟨rfl, rfl⟩ := some_of hF
    exact ⟨b01_nrw c, hq _ wh⟩
theorem c_X10_puts {X : SCR} {fu : Nat} {o : Int32} {w1 : MEM} {a0 : Nat} {a1 : Int32} {a2 : Int32} {a3 : Int32} {w : MEM} {h : PH} (wh : WH X h w) (h0 : vo 10 a0 = true) (hF : f_X10_puts fu a0 a1 a2 a3 w = some (o, w1)) : CT 0 M_X10_puts [vR (1000, a0), vI a1, vI a2, vI a3] h 0 0 (QP X (.inl (some (vI o))) w1) :=
  CT_of mk_X10_puts (Nat.le_of_ble_eq_true rfl) rfl (w_X10_puts (fu := fu) (rc := 0) (rs := 0) (hd := Nat.le_refl 0) (hq := fun h1 g => ⟨rfl, g⟩) wh h0 hF)
-- X10_lifts
def f_X10_lifts (fu : Nat) (l0 : Nat) (l1 : Int32) (w : MEM) : Option (Int32 × MEM) := ck (bI ((35 : Int32) + l1) 57) (if (rA w (1020, l0) ((35 : Int32) + l1)) = 0 then (some ((0 : Int32), w)) else (ck (bI ((35 : Int32) + l1) 57) (lt (sA w (1020, l0) ((35 : Int32) + l1) (0 : Int32)) fun (w1 : MEM) => ck (bI ((7 : Int32) + l1) 57) (lt (sA w1 (1020, l0) ((7 : Int32) + l1) (0 : Int32)) fun (w2 : MEM) => ck (bI ((14 : Int32) + l1) 57) (lt (sA w2 (1020, l0) ((14 : Int32) + l1) (99 : Int32)) fun (w3 : MEM) => ck (bI ((28 : Int32) + l1) 57) (lt (sA w3 (1020, l0) ((28 : Int32) + l1) (0 : Int32)) fun (w4 : MEM) => some ((1 : Int32), w4)))))))
theorem E_X10_lifts (fu : Nat) (l0 : Nat) (l1 : Int32) (w : MEM) : f_X10_lifts fu l0 l1 w = ck (bI ((35 : Int32) + l1) 57) (if (rA w (1020, l0) ((35 : Int32) + l1)) = 0 then (some ((0 : Int32), w)) else (ck (bI ((35 : Int32) + l1) 57) (lt (sA w (1020, l0) ((35 : Int32) + l1) (0 : Int32)) fun (w1 : MEM) => ck (bI ((7 : Int32) + l1) 57) (lt (sA w1 (1020, l0) ((7 : Int32) + l1) (0 : Int32)) fun (w2 : MEM) => ck (bI ((14 : Int32) + l1) 57) (lt (sA w2 (1020, l0) ((14 : Int32) + l1) (99 : Int32)) fun (w3 : MEM) => ck (bI ((28 : Int32) + l1) 57) (lt (sA w3 (1020, l0) ((28 : Int32) + l1) (0 : Int32)) fun (w4 : MEM) => some ((1 : Int32), w4))))))) := rfl
theorem w_X10_lifts {X : SCR} {d rc rs : Nat} {Q : PO → PH → Prop} {o : Int32} {w1 : MEM} {fu : Nat} (hd : 0 ≤ d) (hq : ∀ h1, WH X h1 w1 → Q (.inl (some (vI o))) h1) {l0 : Nat} {l1 : Int32} {w : MEM} {h : PH} (wh : WH X h w) (hv_l0 : vo 10 l0 = true) (hF : f_X10_lifts fu l0 l1 w = some (o, w1)) : PW d M_X10_lifts Q rc rs 0 [vR (1000, l0), vI l1] [] h := by
  replace hF := (E_X10_lifts fu l0 l1 w).symm.trans hF
  refine r_X10_lifts_0 ?_
  refine gA_of (b := (1020, l0)) (wh.2.1 11043 _ rfl hv_l0) ?_
  obtain ⟨c, hF⟩ := ck_of hF
  refine xI_of wh (oA_1020 hv_l0) c ?_
  clear c
  refine ⟨fun c => ?_, fun c => ?_⟩
  · replace hF := if_ofT c hF
    obtain ⟨rfl, rfl⟩ := some_of hF
    exact hq _ wh
  · replace hF := if_ofF c hF
    refine gA_of (b := (1020, l0)) (wh.2.1 11043 _ rfl hv_l0) ?_
    obtain ⟨c, hF⟩ := ck_of hF
    replace hF := lt_of hF
    refine yI_of wh (oA_1020 hv_l0) c ?_
    clear c wh
    intro h wh
    refine gA_of (b := (1020, l0)) (wh.2.1 11043 _ rfl hv_l0) ?_
    obtain ⟨c, hF⟩ := ck_of hF
    replace hF := lt_of hF
    refine yI_of wh (oA_1020 hv_l0) c ?_
    clear c wh
    intro h wh
    refine gA_of (b := (1020, l0)) (wh.2.1 11043 _ rfl hv_l0) ?_
    obtain ⟨c, hF⟩ := ck_of hF
    replace hF := lt_of hF
    refine yI_of wh (oA_1020 hv_l0) c ?_
    clear c wh
    intro h wh
    refine gA_of (b := (1020, l0)) (wh.2.1 11043 _ rfl hv_l0) ?_
    obtain ⟨c, hF⟩ := ck_of hF
    replace hF := lt_of hF
    refine yI_of wh (oA_1020 hv_l0) c ?_
    clear c wh
    intro h wh
    obtain ⟨rfl, rfl⟩ := some_of hF
    exact hq _ wh
theorem c_X10_lifts {X : SCR} {fu : Nat} {o : Int32} {w1 : MEM} {a0 : Nat} {a1 : Int32} {w : MEM} {h : PH} (wh : WH X h w) (h0 : vo 10 a0 = true) (hF : f_X10_lifts fu a0 a1 w = some (o, w1)) : CT 0 M_X10_lifts [vR (1000, a0), vI a1] h 0 0 (QP X (.inl (some (vI o))) w1) :=
  CT_of mk_X10_lifts (Nat.le_of_ble_eq_true rfl) rfl (w_X10_lifts (fu := fu) (rc := 0) (rs := 0) (hd := Nat.le_refl 0) (hq := fun h1 g => ⟨rfl, g⟩) wh h0 hF)
-- X10_held
def f_X10_held (fu : Nat) (l0 : Int32) (w : MEM) : Option (Int32 × MEM) := if l0 < 0 then (some ((0 : Int32), w)) else (if (99 : Int32) < l0 then (some ((99 : Int32), w)) else (some (l0, w)))
theorem E_X10_held (fu : Nat) (l0 : Int32) (w : MEM) : f_X10_held fu l0 w = if l0 < 0 then (some ((0 : Int32), w)) else (if (99 : Int32) < l0 then (some ((99 : Int32), w)) else (some (l0, w))) := rfl
theorem w_X10_held {X : SCR} {d rc rs : Nat} {Q : PO → PH → Prop} {o : Int32} {w1 : MEM} {fu : Nat} (hd : 0 ≤ d) (hq : ∀ h1, WH X h1 w1 → Q (.inl (some (vI o))) h1) {l0 : Int32} {w : MEM} {h : PH} (wh : WH X h w)  (hF : f_X10_held fu l0 w = some (o, w1)) : PW d M_X10_held Q rc rs 0 [vI l0] [] h := by
  replace hF := (E_X10_held fu l0 w).symm.trans hF
  refine r_X10_held_0 ?_
  refine ⟨fun c => ?_, fun c => ?_⟩
  · replace hF := if_ofT c hF
    obtain ⟨rfl, rfl⟩ := some_of hF
    exact hq _ wh
  · replace hF := if_ofF c hF
    refine ⟨fun c => ?_, fun c => ?_⟩
    · replace hF := if_ofT c hF
      obtain ⟨rfl, rfl⟩ := some_of hF
      exact hq _ wh
    · replace hF := if_ofF c hF
      obtain ⟨rfl, rfl⟩ := some_of hF
      exact hq _ wh
theorem c_X10_held {X : SCR} {fu : Nat} {o : Int32} {w1 : MEM} {a0 : Int32} {w : MEM} {h : PH} (wh : WH X h w)  (hF : f_X10_held fu a0 w = some (o, w1)) : CT 0 M_X10_held [vI a0] h 0 0 (QP X (.inl (some (vI o))) w1) :=
  CT_of mk_X10_held (Nat.le_of_ble_eq_true rfl) rfl (w_X10_held (fu := fu) (rc := 0) (rs := 0) (hd := Nat.le_refl 0) (hq := fun h1 g => ⟨rfl, g⟩) wh  hF)
-- X10_twosOf
def f_X10_twosOf_4 (fu : Nat) : Nat → Nat → Int32 → Int32 → Int32 → MEM → Option (Int32 × MEM)
  | 0, _, _, _, _, _ => none
  | n + 1, l0, l1, l2, l3, w => if l3 < (rS w (11023, l0)) then (ck (bI ((2 : Int32) * l3) 24) (if (rA w (1009, l0) ((2 : Int32) * l3)) = l1 then (ck (bI (((2 : Int32) * l3) + (1 : Int32)) 24) (lt ((l2 ||| ((1 : Int32) <<< ((rA w (1009, l0) (((2 : Int32) * l3) + (1 : Int32))) &&& 31)))) fun (v2 : Int32) => ck (bI (((2 : Int32) * l3) + (1 : Int32)) 24) (if (rA w (1009, l0) (((2 : Int32) * l3) + (1 : Int32))) = l1 then (ck (bI ((2 : Int32) * l3) 24) (lt ((v2 ||| ((1 : Int32) <<< ((rA w (1009, l0) ((2 : Int32) * l3)) &&& 31)))) fun (v3 : Int32) => f_X10_twosOf_4 fu n l0 l1 v3 (l3 + (1 : Int32)) w)) else (f_X10_twosOf_4 fu n l0 l1 v2 (l3 + (1 : Int32)) w)))) else (ck (bI (((2 : Int32) * l3) + (1 : Int32)) 24) (if (rA w (1009, l0) (((2 : Int32) * l3) + (1 : Int32))) = l1 then (ck (bI ((2 : Int32) * l3) 24) (lt ((l2 ||| ((1 : Int32) <<< ((rA w (1009, l0) ((2 : Int32) * l3)) &&& 31)))) fun (v1 : Int32) => f_X10_twosOf_4 fu n l0 l1 v1 (l3 + (1 : Int32)) w)) else (f_X10_twosOf_4 fu n l0 l1 l2 (l3 + (1 : Int32)) w))))) else (some (l2, w))
theorem E_X10_twosOf_4 (fu : Nat) (n : Nat) (l0 : Nat) (l1 : Int32) (l2 : Int32) (l3 : Int32) (w : MEM) : f_X10_twosOf_4 fu (n + 1) l0 l1 l2 l3 w = if l3 < (rS w (11023, l0)) then (ck (bI ((2 : Int32) * l3) 24) (if (rA w (1009, l0) ((2 : Int32) * l3)) = l1 then (ck (bI (((2 : Int32) * l3) + (1 : Int32)) 24) (lt ((l2 ||| ((1 : Int32) <<< ((rA w (1009, l0) (((2 : Int32) * l3) + (1 : Int32))) &&& 31)))) fun (v2 : Int32) => ck (bI (((2 : Int32) * l3) + (1 : Int32)) 24) (if (rA w (1009, l0) (((2 : Int32) * l3) + (1 : Int32))) = l1 then (ck (bI ((2 : Int32) * l3) 24) (lt ((v2 ||| ((1 : Int32) <<< ((rA w (1009, l0) ((2 : Int32) * l3)) &&& 31)))) fun (v3 : Int32) => f_X10_twosOf_4 fu n l0 l1 v3 (l3 + (1 : Int32)) w)) else (f_X10_twosOf_4 fu n l0 l1 v2 (l3 + (1 : Int32)) w)))) else (ck (bI (((2 : Int32) * l3) + (1 : Int32)) 24) (if (rA w (1009, l0) (((2 : Int32) * l3) + (1 : Int32))) = l1 then (ck (bI ((2 : Int32) * l3) 24) (lt ((l2 ||| ((1 : Int32) <<< ((rA w (1009, l0) ((2 : Int32) * l3)) &&& 31)))) fun (v1 : Int32) => f_X10_twosOf_4 fu n l0 l1 v1 (l3 + (1 : Int32)) w)) else (f_X10_twosOf_4 fu n l0 l1 l2 (l3 + (1 : Int32)) w))))) else (some (l2, w)) := rfl
theorem w_X10_twosOf_4 {X : SCR} {d rc rs : Nat} {Q : PO → PH → Prop} {o : Int32} {w1 : MEM} {fu : Nat} (hd : 0 ≤ d) (hq : ∀ h1, WH X h1 w1 → Q (.inl (some (vI o))) h1) : ∀ (n : Nat) (l0 : Nat) (l1 : Int32) (l2 : Int32) (l3 : Int32) (w : MEM) (h : PH), WH X h w → vo 10 l0 = true → f_X10_twosOf_4 fu n l0 l1 l2 l3 w = some (o, w1) → PW d M_X10_twosOf Q rc rs 4 [vR (1000, l0), vI l1, vI l2, vI l3] [] h := by
  intro n
  induction n with
  | zero => intro l0 l1 l2 l3 w h wh hv_l0 hF; cases hF
  | succ n ih =>
    intro l0 l1 l2 l3 w h wh hv_l0 hF
    replace hF := (E_X10_twosOf_4 fu n l0 l1 l2 l3 w).symm.trans hF
    refine r_X10_twosOf_4 ?_
    refine gI_of (wh.1 11023 _ rfl hv_l0) ?_
    refine ⟨fun c => ?_, fun c => ?_⟩
    · replace hF := if_ofT c hF
      refine gA_of (b := (1009, l0)) (wh.2.1 11016 _ rfl hv_l0) ?_
      obtain ⟨c, hF⟩ := ck_of hF
      refine xI_of wh (oA_1009 hv_l0) c ?_
      clear c
      refine ⟨fun c => ?_, fun c => ?_⟩
      · replace hF := if_ofT c hF
        refine gA_of (b := (1009, l0)) (wh.2.1 11016 _ rfl hv_l0) ?_
        obtain ⟨c, hF⟩ := ck_of hF
        refine xI_of wh (oA_1009 hv_l0) c ?_
        clear c
        replace hF := lt_of hF
        refine gA_of (b := (1009, l0)) (wh.2.1 11016 _ rfl hv_l0) ?_
        obtain ⟨c, hF⟩ := ck_of hF
        refine xI_of wh (oA_1009 hv_l0) c ?_
        clear c
        refine ⟨fun c => ?_, fun c => ?_⟩
        · replace hF := if_ofT c hF
          refine gA_of (b := (1009, l0)) (wh.2.1 11016 _ rfl hv_l0) ?_
          obtain ⟨c, hF⟩ := ck_of hF
          refine xI_of wh (oA_1009 hv_l0) c ?_
          clear c
          replace hF := lt_of hF
          exact ih _ _ _ _ _ _ wh hv_l0 hF
        · replace hF := if_ofF c hF
          exact ih _ _ _ _ _ _ wh hv_l0 hF
      · replace hF := if_ofF c hF
        refine gA_of (b := (1009, l0)) (wh.2.1 11016 _ rfl hv_l0) ?_
        obtain ⟨c, hF⟩ := ck_of hF
        refine xI_of wh (oA_1009 hv_l0) c ?_
        clear c
        refine ⟨fun c => ?_, fun c => ?_⟩
        · replace hF := if_ofT c hF
          refine gA_of (b := (1009, l0)) (wh.2.1 11016 _ rfl hv_l0) ?_
          obtain ⟨c, hF⟩ := ck_of hF
          refine xI_of wh (oA_1009 hv_l0) c ?_
          clear c
          replace hF := lt_of hF
          exact ih _ _ _ _ _ _ wh hv_l0 hF
        · replace hF := if_ofF c hF
          exact ih _ _ _ _ _ _ wh hv_l0 hF
    · replace hF := if_ofF c hF
      obtain ⟨rfl, rfl⟩ := some_of hF
      exact hq _ wh
def f_X10_twosOf (fu : Nat) (l0 : Nat) (l1 : Int32) (w : MEM) : Option (Int32 × MEM) := f_X10_twosOf_4 fu fu l0 l1 (0 : Int32) (0 : Int32) w
theorem E_X10_twosOf (fu : Nat) (l0 : Nat) (l1 : Int32) (w : MEM) : f_X10_twosOf fu l0 l1 w = f_X10_twosOf_4 fu fu l0 l1 (0 : Int32) (0 : Int32) w := rfl
theorem w_X10_twosOf {X : SCR} {d rc rs : Nat} {Q : PO → PH → Prop} {o : Int32} {w1 : MEM} {fu : Nat} (hd : 0 ≤ d) (hq : ∀ h1, WH X h1 w1 → Q (.inl (some (vI o))) h1) {l0 : Nat} {l1 : Int32} {w : MEM} {h : PH} (wh : WH X h w) (hv_l0 : vo 10 l0 = true) (hF : f_X10_twosOf fu l0 l1 w = some (o, w1)) : PW d M_X10_twosOf Q rc rs 0 [vR (1000, l0), vI l1, vU, vU] [] h := by
  replace hF := (E_X10_twosOf fu l0 l1 w).symm.trans hF
  refine r_X10_twosOf_0 ?_
  exact w_X10_twosOf_4 hd hq  fu _ _ _ _ _ _ wh hv_l0 hF
theorem c_X10_twosOf {X : SCR} {fu : Nat} {o : Int32} {w1 : MEM} {a0 : Nat} {a1 : Int32} {w : MEM} {h : PH} (wh : WH X h w) (h0 : vo 10 a0 = true) (hF : f_X10_twosOf fu a0 a1 w = some (o, w1)) : CT 0 M_X10_twosOf [vR (1000, a0), vI a1] h 0 0 (QP X (.inl (some (vI o))) w1) :=
  CT_of mk_X10_twosOf (Nat.le_of_ble_eq_true rfl) rfl (w_X10_twosOf (fu := fu) (rc := 0) (rs := 0) (hd := Nat.le_refl 0) (hq := fun h1 g => ⟨rfl, g⟩) wh h0 hF)
-- X10_taps
def f_X10_taps_16 (fu : Nat) : Nat → Nat → Int32 → Int32 → MEM → Option (Int32 × MEM)
  | 0, _, _, _, _ => none
  | n + 1, l0, l1, l2, w => if l2 < (rS w (11022, l0)) then (ck (bI ((28 : Int32) + l2) 57) (bnd (f_X10_twosOf fu l0 l1 w) fun (x2 : Int32) (w1 : MEM) => if ((x2 >>> (l2 &&& 31)) &&& (1 : Int32)) = (1 : Int32) then (ck (bI ((35 : Int32) + l2) 57) (if (rA w1 (1020, l0) ((35 : Int32) + l2)) = (1 : Int32) then (ck (bI ((28 : Int32) + l2) 57) (lt (sA w1 (1020, l0) ((28 : Int32) + l2) ((rA w (1020, l0) ((28 : Int32) + l2)) + (1 : Int32))) fun (w5 : MEM) => f_X10_taps_16 fu n l0 l1 (l2 + (1 : Int32)) w5)) else (ck (bI ((28 : Int32) + l2) 57) (lt (sA w1 (1020, l0) ((28 : Int32) + l2) ((rA w (1020, l0) ((28 : Int32) + l2)) + (0 : Int32))) fun (w4 : MEM) => f_X10_taps_16 fu n l0 l1 (l2 + (1 : Int32)) w4)))) else (ck (bI ((28 : Int32) + l2) 57) (lt (sA w1 (1020, l0) ((28 : Int32) + l2) ((rA w (1020, l0) ((28 : Int32) + l2)) + (0 : Int32))) fun (w3 : MEM) => f_X10_taps_16 fu n l0 l1 (l2 + (1 : Int32)) w3)))) else (some ((1 : Int32), w))
theorem E_X10_taps_16 (fu : Nat) (n : Nat) (l0 : Nat) (l1 : Int32) (l2 : Int32) (w : MEM) : f_X10_taps_16 fu (n + 1) l0 l1 l2 w = if l2 < (rS w (11022, l0)) then (ck (bI ((28 : Int32) + l2) 57) (bnd (f_X10_twosOf fu l0 l1 w) fun (x2 : Int32) (w1 : MEM) => if ((x2 >>> (l2 &&& 31)) &&& (1 : Int32)) = (1 : Int32) then (ck (bI ((35 : Int32) + l2) 57) (if (rA w1 (1020, l0) ((35 : Int32) + l2)) = (1 : Int32) then (ck (bI ((28 : Int32) + l2) 57) (lt (sA w1 (1020, l0) ((28 : Int32) + l2) ((rA w (1020, l0) ((28 : Int32) + l2)) + (1 : Int32))) fun (w5 : MEM) => f_X10_taps_16 fu n l0 l1 (l2 + (1 : Int32)) w5)) else (ck (bI ((28 : Int32) + l2) 57) (lt (sA w1 (1020, l0) ((28 : Int32) + l2) ((rA w (1020, l0) ((28 : Int32) + l2)) + (0 : Int32))) fun (w4 : MEM) => f_X10_taps_16 fu n l0 l1 (l2 + (1 : Int32)) w4)))) else (ck (bI ((28 : Int32) + l2) 57) (lt (sA w1 (1020, l0) ((28 : Int32) + l2) ((rA w (1020, l0) ((28 : Int32) + l2)) + (0 : Int32))) fun (w3 : MEM) => f_X10_taps_16 fu n l0 l1 (l2 + (1 : Int32)) w3)))) else (some ((1 : Int32), w)) := rfl
theorem w_X10_taps_16 {X : SCR} {d rc rs : Nat} {Q : PO → PH → Prop} {o : Int32} {w1 : MEM} {fu : Nat} (hd : 1 ≤ d) (hq : ∀ h1, WH X h1 w1 → Q (.inl (some (vI o))) h1) : ∀ (n : Nat) (l0 : Nat) (l1 : Int32) (l2 : Int32) (w : MEM) (h : PH), WH X h w → vo 10 l0 = true → f_X10_taps_16 fu n l0 l1 l2 w = some (o, w1) → PW d M_X10_taps Q rc rs 16 [vR (1000, l0), vI l1, vI l2] [] h := by
  intro n
  induction n with
  | zero => intro l0 l1 l2 w h wh hv_l0 hF; cases hF
  | succ n ih =>
    intro l0 l1 l2 w h wh hv_l0 hF
    replace hF := (E_X10_taps_16 fu n l0 l1 l2 w).symm.trans hF
    refine r_X10_taps_16 ?_
    refine gI_of (wh.1 11022 _ rfl hv_l0) ?_
    refine ⟨fun c => ?_, fun c => ?_⟩
    · replace hF := if_ofT c hF
      refine gA_of (b := (1020, l0)) (wh.2.1 11043 _ rfl hv_l0) ?_
      obtain ⟨c, hF⟩ := ck_of hF
      refine xI_of wh (oA_1020 hv_l0) c ?_
      clear c
      refine ⟨⟨_, wh.1 11000 _ rfl hv_l0⟩, ?_⟩
      obtain ⟨x2, w1, hG, hF⟩ := bnd_of hF
      refine cl_I (D := 0) (Nat.le_trans (by decide) hd) (c_X10_twosOf wh hv_l0 hG) ?_
      clear hG
      clear wh
      intro h wh
      refine ⟨fun c => ?_, fun c => ?_⟩
      · replace hF := if_ofT c hF
        refine gA_of (b := (1020, l0)) (wh.2.1 11043 _ rfl hv_l0) ?_
        obtain ⟨c, hF⟩ := ck_of hF
        refine xI_of wh (oA_1020 hv_l0) c ?_
        clear c
        refine ⟨fun c => ?_, fun c => ?_⟩
        · replace hF := if_ofT c hF
          obtain ⟨c, hF⟩ := ck_of hF
          replace hF := lt_of hF
          refine yI_of wh (oA_1020 hv_l0) c ?_
          clear c wh
          intro h wh
          exact ih _ _ _ _ _ wh hv_l0 hF
        · replace hF := if_ofF c hF
          obtain ⟨c, hF⟩ := ck_of hF
          replace hF := lt_of hF
          refine yI_of wh (oA_1020 hv_l0) c ?_
          clear c wh
          intro h wh
          exact ih _ _ _ _ _ wh hv_l0 hF
      · replace hF := if_ofF c hF
        obtain ⟨c, hF⟩ := ck_of hF
        replace hF := lt_of hF
        refine yI_of wh (oA_1020 hv_l0) c ?_
        clear c wh
        intro h wh
        exact ih _ _ _ _ _ wh hv_l0 hF
    · replace hF := if_ofF c hF
      obtain ⟨rfl, rfl⟩ := some_of hF
      exact hq _ wh
def f_X10_taps (fu : Nat) (l0 : Nat) (l1 : Int32) (w : MEM) : Option (Int32 × MEM) := ck (bI ((35 : Int32) + l1) 57) (if (rA w (1020, l0) ((35 : Int32) + l1)) = 0 then (some ((0 : Int32), w)) else (f_X10_taps_16 fu fu l0 l1 (0 : Int32) w))
theorem E_X10_taps (fu : Nat) (l0 : Nat) (l1 : Int32) (w : MEM) : f_X10_taps fu l0 l1 w = ck (bI ((35 : Int32) + l1) 57) (if (rA w (1020, l0) ((35 : Int32) + l1)) = 0 then (some ((0 : Int32), w)) else (f_X10_taps_16 fu fu l0 l1 (0 : Int32) w)) := rfl
theorem w_X10_taps {X : SCR} {d rc rs : Nat} {Q : PO → PH → Prop} {o : Int32} {w1 : MEM} {fu : Nat} (hd : 1 ≤ d) (hq : ∀ h1, WH X h1 w1 → Q (.inl (some (vI o))) h1) {l0 : Nat} {l1 : Int32} {w : MEM} {h : PH} (wh : WH X h w) (hv_l0 : vo 10 l0 = true) (hF : f_X10_taps fu l0 l1 w = some (o, w1)) : PW d M_X10_taps Q rc rs 0 [vR (1000, l0), vI l1, vU] [] h := by
  replace hF := (E_X10_taps fu l0 l1 w).symm.trans hF
  refine r_X10_taps_0 ?_
  refine gA_of (b := (1020, l0)) (wh.2.1 11043 _ rfl hv_l0) ?_
  obtain ⟨c, hF⟩ := ck_of hF
  refine xI_of wh (oA_1020 hv_l0) c ?_
  clear c
  refine ⟨fun c => ?_, fun c => ?_⟩
  · replace hF := if_ofT c hF
    obtain ⟨rfl, rfl⟩ := some_of hF
    exact hq _ wh
  · replace hF := if_ofF c hF
    exact w_X10_taps_16 hd hq  fu _ _ _ _ _ wh hv_l0 hF
theorem c_X10_taps {X : SCR} {fu : Nat} {o : Int32} {w1 : MEM} {a0 : Nat} {a1 : Int32} {w : MEM} {h : PH} (wh : WH X h w) (h0 : vo 10 a0 = true) (hF : f_X10_taps fu a0 a1 w = some (o, w1)) : CT 1 M_X10_taps [vR (1000, a0), vI a1] h 0 0 (QP X (.inl (some (vI o))) w1) :=
  CT_of mk_X10_taps (Nat.le_of_ble_eq_true rfl) rfl (w_X10_taps (fu := fu) (rc := 0) (rs := 0) (hd := Nat.le_refl 1) (hq := fun h1 g => ⟨rfl, g⟩) wh h0 hF)
-- X10_dawns
def f_X10_dawns_2 (fu : Nat) : Nat → Nat → Int32 → MEM → Option (Unit × MEM)
  | 0, _, _, _ => none
  | n + 1, l0, l1, w => if l1 < (rS w (11022, l0)) then (ck (bI ((42 : Int32) + l1) 57) (lt (sA w (1020, l0) ((42 : Int32) + l1) (-1 : Int32)) fun (w1 : MEM) => f_X10_dawns_2 fu n l0 (l1 + (1 : Int32)) w1)) else (some ((), w))
theorem E_X10_dawns_2 (fu : Nat) (n : Nat) (l0 : Nat) (l1 : Int32) (w : MEM) : f_X10_dawns_2 fu (n + 1) l0 l1 w = if l1 < (rS w (11022, l0)) then (ck (bI ((42 : Int32) + l1) 57) (lt (sA w (1020, l0) ((42 : Int32) + l1) (-1 : Int32)) fun (w1 : MEM) => f_X10_dawns_2 fu n l0 (l1 + (1 : Int32)) w1)) else (some ((), w)) := rfl
theorem w_X10_dawns_2 {X : SCR} {d rc rs : Nat} {Q : PO → PH → Prop} {o : Unit} {w1 : MEM} {fu : Nat} (hd : 0 ≤ d) (hq : ∀ h1, WH X h1 w1 → Q (.inl none) h1) : ∀ (n : Nat) (l0 : Nat) (l1 : Int32) (w : MEM) (h : PH), WH X h w → vo 10 l0 = true → f_X10_dawns_2 fu n l0 l1 w = some (o, w1) → PW d M_X10_dawns Q rc rs 2 [vR (1000, l0), vI l1] [] h := by
  intro n
  induction n with
  | zero => intro l0 l1 w h wh hv_l0 hF; cases hF
  | succ n ih =>
    intro l0 l1 w h wh hv_l0 hF
    replace hF := (E_X10_dawns_2 fu n l0 l1 w).symm.trans hF
    refine r_X10_dawns_2 ?_
    refine gI_of (wh.1 11022 _ rfl hv_l0) ?_
    refine ⟨fun c => ?_, fun c => ?_⟩
    · replace hF := if_ofT c hF
      refine gA_of (b := (1020, l0)) (wh.2.1 11043 _ rfl hv_l0) ?_
      obtain ⟨c, hF⟩ := ck_of hF
      replace hF := lt_of hF
      refine yI_of wh (oA_1020 hv_l0) c ?_
      clear c wh
      intro h wh
      exact ih _ _ _ _ wh hv_l0 hF
    · replace hF := if_ofF c hF
      obtain ⟨rfl, rfl⟩ := some_of hF
      exact hq _ wh
def f_X10_dawns (fu : Nat) (l0 : Nat) (w : MEM) : Option (Unit × MEM) := f_X10_dawns_2 fu fu l0 (0 : Int32) w
theorem E_X10_dawns (fu : Nat) (l0 : Nat) (w : MEM) : f_X10_dawns fu l0 w = f_X10_dawns_2 fu fu l0 (0 : Int32) w := rfl
theorem w_X10_dawns {X : SCR} {d rc rs : Nat} {Q : PO → PH → Prop} {o : Unit} {w1 : MEM} {fu : Nat} (hd : 0 ≤ d) (hq : ∀ h1, WH X h1 w1 → Q (.inl none) h1) {l0 : Nat} {w : MEM} {h : PH} (wh : WH X h w) (hv_l0 : vo 10 l0 = true) (hF : f_X10_dawns fu l0 w = some (o, w1)) : PW d M_X10_dawns Q rc rs 0 [vR (1000, l0), vU] [] h := by
  replace hF := (E_X10_dawns fu l0 w).symm.trans hF
  refine r_X10_dawns_0 ?_
  exact w_X10_dawns_2 hd hq  fu _ _ _ _ wh hv_l0 hF
theorem c_X10_dawns {X : SCR} {fu : Nat} {o : Unit} {w1 : MEM} {a0 : Nat} {w : MEM} {h : PH} (wh : WH X h w) (h0 : vo 10 a0 = true) (hF : f_X10_dawns fu a0 w = some (o, w1)) : CT 0 M_X10_dawns [vR (1000, a0)] h 0 0 (QP X (.inl none) w1) :=
  CT_of mk_X10_dawns (Nat.le_of_ble_eq_true rfl) rfl (w_X10_dawns (fu := fu) (rc := 0) (rs := 0) (hd := Nat.le_refl 0) (hq := fun h1 g => ⟨rfl, g⟩) wh h0 hF)
-- X10_sunOf
def f_X10_sunOf (fu : Nat) (l0 : Nat) (l1 : Int32) (w : MEM) : Option (Int32 × MEM) := if (24 : Int32) = 0 then none else (if (l1 - l1 / (24 : Int32) * (24 : Int32)) = (rS w (11025, l0)) then (some ((1 : Int32), w)) else (some ((0 : Int32), w)))
theorem E_X10_sunOf (fu : Nat) (l0 : Nat) (l1 : Int32) (w : MEM) : f_X10_sunOf fu l0 l1 w = if (24 : Int32) = 0 then none else (if (l1 - l1 / (24 : Int32) * (24 : Int32)) = (rS w (11025, l0)) then (some ((1 : Int32), w)) else (some ((0 : Int32), w))) := rfl
theorem w_X10_sunOf {X : SCR} {d rc rs : Nat} {Q : PO → PH → Prop} {o : Int32} {w1 : MEM} {fu : Nat} (hd : 0 ≤ d) (hq : ∀ h1, WH X h1 w1 → Q (.inl (some (vI o))) h1) {l0 : Nat} {l1 : Int32} {w : MEM} {h : PH} (wh : WH X h w) (hv_l0 : vo 10 l0 = true) (hF : f_X10_sunOf fu l0 l1 w = some (o, w1)) : PW d M_X10_sunOf Q rc rs 0 [vR (1000, l0), vI l1] [] h := by
  replace hF := (E_X10_sunOf fu l0 l1 w).symm.trans hF
  refine r_X10_sunOf_0 ?_
  obtain ⟨c, hF⟩ := nzF_of hF
  refine ⟨c, ?_⟩
  refine gI_of (wh.1 11025 _ rfl hv_l0) ?_
  refine ⟨fun c => ?_, fun c => ?_⟩
  · replace hF := if_ofT c hF
    obtain ⟨rfl, rfl⟩ := some_of hF
    exact hq _ wh
  · replace hF := if_ofF c hF
    obtain ⟨rfl, rfl⟩ := some_of hF
    exact hq _ wh
theorem c_X10_sunOf {X : SCR} {fu : Nat} {o : Int32} {w1 : MEM} {a0 : Nat} {a1 : Int32} {w : MEM} {h : PH} (wh : WH X h w) (h0 : vo 10 a0 = true) (hF : f_X10_sunOf fu a0 a1 w = some (o, w1)) : CT 0 M_X10_sunOf [vR (1000, a0), vI a1] h 0 0 (QP X (.inl (some (vI o))) w1) :=
  CT_of mk_X10_sunOf (Nat.le_of_ble_eq_true rfl) rfl (w_X10_sunOf (fu := fu) (rc := 0) (rs := 0) (hd := Nat.le_refl 0) (hq := fun h1 g => ⟨rfl, g⟩) wh h0 hF)
-- X10_cloudOf
def f_X10_cloudOf (fu : Nat) (l0 : Nat) (l1 : Int32) (l2 : Int32) (l3 : Int32) (l4 : Int32) (l5 : Int32) (l6 : Int32) (l7 : Int32) (l8 : Int32) (l9 : Int32) (w : MEM) : Option (Int32 × MEM) := ck (bI (0 : Int32) 9) (lt (sA w (1016, l0) (0 : Int32) l1) fun (w1 : MEM) => ck (bI (1 : Int32) 9) (lt (sA w1 (1016, l0) (1 : Int32) l2) fun (w2 : MEM) => ck (bI (2 : Int32) 9) (lt (sA w2 (1016, l0) (2 : Int32) l3) fun (w3 : MEM) => ck (bI (3 : Int32) 9) (lt (sA w3 (1016, l0) (3 : Int32) l4) fun (w4 : MEM) => ck (bI (4 : Int32) 9) (lt (sA w4 (1016, l0) (4 : Int32) l5) fun (w5 : MEM) => ck (bI (5 : Int32) 9) (lt (sA w5 (1016, l0) (5 : Int32) l6) fun (w6 : MEM) => ck (bI (6 : Int32) 9) (lt (sA w6 (1016, l0) (6 : Int32) l7) fun (w7 : MEM) => ck (bI (7 : Int32) 9) (lt (sA w7 (1016, l0) (7 : Int32) l8) fun (w8 : MEM) => ck (bI (8 : Int32) 9) (lt (sA w8 (1016, l0) (8 : Int32) l9) fun (w9 : MEM) => bnd (f_X10_cloudNow fu l0 w9) fun (x11 : Int32) (w10 : MEM) => some (x11, w10))))))))))
theorem E_X10_cloudOf (fu : Nat) (l0 : Nat) (l1 : Int32) (l2 : Int32) (l3 : Int32) (l4 : Int32) (l5 : Int32) (l6 : Int32) (l7 : Int32) (l8 : Int32) (l9 : Int32) (w : MEM) : f_X10_cloudOf fu l0 l1 l2 l3 l4 l5 l6 l7 l8 l9 w = ck (bI (0 : Int32) 9) (lt (sA w (1016, l0) (0 : Int32) l1) fun (w1 : MEM) => ck (bI (1 : Int32) 9) (lt (sA w1 (1016, l0) (1 : Int32) l2) fun (w2 : MEM) => ck (bI (2 : Int32) 9) (lt (sA w2 (1016, l0) (2 : Int32) l3) fun (w3 : MEM) => ck (bI (3 : Int32) 9) (lt (sA w3 (1016, l0) (3 : Int32) l4) fun (w4 : MEM) => ck (bI (4 : Int32) 9) (lt (sA w4 (1016, l0) (4 : Int32) l5) fun (w5 : MEM) => ck (bI (5 : Int32) 9) (lt (sA w5 (1016, l0) (5 : Int32) l6) fun (w6 : MEM) => ck (bI (6 : Int32) 9) (lt (sA w6 (1016, l0) (6 : Int32) l7) fun (w7 : MEM) => ck (bI (7 : Int32) 9) (lt (sA w7 (1016, l0) (7 : Int32) l8) fun (w8 : MEM) => ck (bI (8 : Int32) 9) (lt (sA w8 (1016, l0) (8 : Int32) l9) fun (w9 : MEM) => bnd (f_X10_cloudNow fu l0 w9) fun (x11 : Int32) (w10 : MEM) => some (x11, w10)))))))))) := rfl
theorem w_X10_cloudOf {X : SCR} {d rc rs : Nat} {Q : PO → PH → Prop} {o : Int32} {w1 : MEM} {fu : Nat} (hd : 3 ≤ d) (hq : ∀ h1, WH X h1 w1 → Q (.inl (some (vI o))) h1) {l0 : Nat} {l1 : Int32} {l2 : Int32} {l3 : Int32} {l4 : Int32} {l5 : Int32} {l6 : Int32} {l7 : Int32} {l8 : Int32} {l9 : Int32} {w : MEM} {h : PH} (wh : WH X h w) (hv_l0 : vo 10 l0 = true) (hF : f_X10_cloudOf fu l0 l1 l2 l3 l4 l5 l6 l7 l8 l9 w = some (o, w1)) : PW d M_X10_cloudOf Q rc rs 0 [vR (1000, l0), vI l1, vI l2, vI l3, vI l4, vI l5, vI l6, vI l7, vI l8, vI l9] [] h := by
  replace hF := (E_X10_cloudOf fu l0 l1 l2 l3 l4 l5 l6 l7 l8 l9 w).symm.trans hF
  refine r_X10_cloudOf_0 ?_
  refine gA_of (b := (1016, l0)) (wh.2.1 11033 _ rfl hv_l0) ?_
  obtain ⟨c, hF⟩ := ck_of hF
  replace hF := lt_of hF
  refine yI_of wh (oA_1016 hv_l0) c ?_
  clear c wh
  intro h wh
  refine gA_of (b := (1016, l0)) (wh.2.1 11033 _ rfl hv_l0) ?_
  obtain ⟨c, hF⟩ := ck_of hF
  replace hF := lt_of hF
  refine yI_of wh (oA_1016 hv_l0) c ?_
  clear c wh
  intro h wh
  refine gA_of (b := (1016, l0)) (wh.2.1 11033 _ rfl hv_l0) ?_
  obtain ⟨c, hF⟩ := ck_of hF
  replace hF := lt_of hF
  refine yI_of wh (oA_1016 hv_l0) c ?_
  clear c wh
  intro h wh
  refine gA_of (b := (1016, l0)) (wh.2.1 11033 _ rfl hv_l0) ?_
  obtain ⟨c, hF⟩ := ck_of hF
  replace hF := lt_of hF
  refine yI_of wh (oA_1016 hv_l0) c ?_
  clear c wh
  intro h wh
  refine gA_of (b := (1016, l0)) (wh.2.1 11033 _ rfl hv_l0) ?_
  obtain ⟨c, hF⟩ := ck_of hF
  replace hF := lt_of hF
  refine yI_of wh (oA_1016 hv_l0) c ?_
  clear c wh
  intro h wh
  refine gA_of (b := (1016, l0)) (wh.2.1 11033 _ rfl hv_l0) ?_
  obtain ⟨c, hF⟩ := ck_of hF
  replace hF := lt_of hF
  refine yI_of wh (oA_1016 hv_l0) c ?_
  clear c wh
  intro h wh
  refine gA_of (b := (1016, l0)) (wh.2.1 11033 _ rfl hv_l0) ?_
  obtain ⟨c, hF⟩ := ck_of hF
  replace hF := lt_of hF
  refine yI_of wh (oA_1016 hv_l0) c ?_
  clear c wh
  intro h wh
  refine gA_of (b := (1016, l0)) (wh.2.1 11033 _ rfl hv_l0) ?_
  obtain ⟨c, hF⟩ := ck_of hF
  replace hF := lt_of hF
  refine yI_of wh (oA_1016 hv_l0) c ?_
  clear c wh
  intro h wh
  refine gA_of (b := (1016, l0)) (wh.2.1 11033 _ rfl hv_l0) ?_
  obtain ⟨c, hF⟩ := ck_of hF
  replace hF := lt_of hF
  refine yI_of wh (oA_1016 hv_l0) c ?_
  clear c wh
  intro h wh
  refine ⟨⟨_, wh.1 11000 _ rfl hv_l0⟩, ?_⟩
  obtain ⟨x11, w10, hG, hF⟩ := bnd_of hF
  refine cl_I (D := 2) (Nat.le_trans (by decide) hd) (c_X10_cloudNow wh hv_l0 hG) ?_
  clear hG
  clear wh
  intro h wh
  obtain ⟨rfl, rfl⟩ := some_of hF
  exact hq _ wh
theorem c_X10_cloudOf {X : SCR} {fu : Nat} {o : Int32} {w1 : MEM} {a0 : Nat} {a1 : Int32} {a2 : Int32} {a3 : Int32} {a4 : Int32} {a5 : Int32} {a6 : Int32} {a7 : Int32} {a8 : Int32} {a9 : Int32} {w : MEM} {h : PH} (wh : WH X h w) (h0 : vo 10 a0 = true) (hF : f_X10_cloudOf fu a0 a1 a2 a3 a4 a5 a6 a7 a8 a9 w = some (o, w1)) : CT 3 M_X10_cloudOf [vR (1000, a0), vI a1, vI a2, vI a3, vI a4, vI a5, vI a6, vI a7, vI a8, vI a9] h 0 0 (QP X (.inl (some (vI o))) w1) :=
  CT_of mk_X10_cloudOf (Nat.le_of_ble_eq_true rfl) rfl (w_X10_cloudOf (fu := fu) (rc := 0) (rs := 0) (hd := Nat.le_refl 3) (hq := fun h1 g => ⟨rfl, g⟩) wh h0 hF)
-- X10_cloudBy
def f_X10_cloudBy (fu : Nat) (l0 : Nat) (l1 : Int32) (w : MEM) : Option (Int32 × MEM) := ck (bI ((35 : Int32) + l1) 57) (if (rA w (1020, l0) ((35 : Int32) + l1)) = 0 then (some ((0 : Int32), w)) else (ck (bI l1 7) (ck (bI ((0 : Int32) + l1) 57) (ck (bI ((28 : Int32) + l1) 57) (ck (bI ((14 : Int32) + l1) 57) (ck (bI ((21 : Int32) + l1) 57) (ck (bI ((7 : Int32) + l1) 57) (ck (bI (56 : Int32) 57) (if (24 : Int32) = 0 then none else (ck (bI (56 : Int32) 57) (bnd (f_X10_sunOf fu l0 (rA w (1020, l0) (56 : Int32)) w) fun (x2 : Int32) (w1 : MEM) => bnd (f_X10_cloudOf fu l0 (rA w (1007, l0) l1) (rA w (1020, l0) ((0 : Int32) + l1)) (rA w (1020, l0) ((28 : Int32) + l1)) (rA w (1020, l0) ((14 : Int32) + l1)) (rA w (1020, l0) ((21 : Int32) + l1)) (rA w (1020, l0) ((7 : Int32) + l1)) ((rA w (1020, l0) (56 : Int32)) - (rA w (1020, l0) (56 : Int32)) / (24 : Int32) * (24 : Int32)) x2 l1 w1) fun (x4 : Int32) (w3 : MEM) => some (x4, w3))))))))))))
theorem E_X10_cloudBy (fu : Nat) (l0 : Nat) (l1 : Int32) (w : MEM) : f_X10_cloudBy fu l0 l1 w = ck (bI ((35 : Int32) + l1) 57) (if (rA w (1020, l0) ((35 : Int32) + l1)) = 0 then (some ((0 : Int32), w)) else (ck (bI l1 7) (ck (bI ((0 : Int32) + l1) 57) (ck (bI ((28 : Int32) + l1) 57) (ck (bI ((14 : Int32) + l1) 57) (ck (bI ((21 : Int32) + l1) 57) (ck (bI ((7 : Int32) + l1) 57) (ck (bI (56 : Int32) 57) (if (24 : Int32) = 0 then none else (ck (bI (56 : Int32) 57) (bnd (f_X10_sunOf fu l0 (rA w (1020, l0) (56 : Int32)) w) fun (x2 : Int32) (w1 : MEM) => bnd (f_X10_cloudOf fu l0 (rA w (1007, l0) l1) (rA w (1020, l0) ((0 : Int32) + l1)) (rA w (1020, l0) ((28 : Int32) + l1)) (rA w (1020, l0) ((14 : Int32) + l1)) (rA w (1020, l0) ((21 : Int32) + l1)) (rA w (1020, l0) ((7 : Int32) + l1)) ((rA w (1020, l0) (56 : Int32)) - (rA w (1020, l0) (56 : Int32)) / (24 : Int32) * (24 : Int32)) x2 l1 w1) fun (x4 : Int32) (w3 : MEM) => some (x4, w3)))))))))))) := rfl
theorem w_X10_cloudBy {X : SCR} {d rc rs : Nat} {Q : PO → PH → Prop} {o : Int32} {w1 : MEM} {fu : Nat} (hd : 4 ≤ d) (hq : ∀ h1, WH X h1 w1 → Q (.inl (some (vI o))) h1) {l0 : Nat} {l1 : Int32} {w : MEM} {h : PH} (wh : WH X h w) (hv_l0 : vo 10 l0 = true) (hF : f_X10_cloudBy fu l0 l1 w = some (o, w1)) : PW d M_X10_cloudBy Q rc rs 0 [vR (1000, l0), vI l1] [] h := by
  replace hF := (E_X10_cloudBy fu l0 l1 w).symm.trans hF
  refine r_X10_cloudBy_0 ?_
  refine gA_of (b := (1020, l0)) (wh.2.1 11043 _ rfl hv_l0) ?_
  obtain ⟨c, hF⟩ := ck_of hF
  refine xI_of wh (oA_1020 hv_l0) c ?_
  clear c
  refine ⟨fun c => ?_, fun c => ?_⟩
  · replace hF := if_ofT c hF
    obtain ⟨rfl, rfl⟩ := some_of hF
    exact hq _ wh
  · replace hF := if_ofF c hF
    refine gA_of (b := (1007, l0)) (wh.2.1 11014 _ rfl hv_l0) ?_
    obtain ⟨c, hF⟩ := ck_of hF
    refine xI_of wh (oA_1007 hv_l0) c ?_
    clear c
    refine gA_of (b := (1020, l0)) (wh.2.1 11043 _ rfl hv_l0) ?_
    obtain ⟨c, hF⟩ := ck_of hF
    refine xI_of wh (oA_1020 hv_l0) c ?_
    clear c
    refine gA_of (b := (1020, l0)) (wh.2.1 11043 _ rfl hv_l0) ?_
    obtain ⟨c, hF⟩ := ck_of hF
    refine xI_of wh (oA_1020 hv_l0) c ?_
    clear c
    refine gA_of (b := (1020, l0)) (wh.2.1 11043 _ rfl hv_l0) ?_
    obtain ⟨c, hF⟩ := ck_of hF
    refine xI_of wh (oA_1020 hv_l0) c ?_
    clear c
    refine gA_of (b := (1020, l0)) (wh.2.1 11043 _ rfl hv_l0) ?_
    obtain ⟨c, hF⟩ := ck_of hF
    refine xI_of wh (oA_1020 hv_l0) c ?_
    clear c
    refine gA_of (b := (1020, l0)) (wh.2.1 11043 _ rfl hv_l0) ?_
    obtain ⟨c, hF⟩ := ck_of hF
    refine xI_of wh (oA_1020 hv_l0) c ?_
    clear c
    refine gA_of (b := (1020, l0)) (wh.2.1 11043 _ rfl hv_l0) ?_
    obtain ⟨c, hF⟩ := ck_of hF
    refine xI_of wh (oA_1020 hv_l0) c ?_
    clear c
    obtain ⟨c, hF⟩ := nzF_of hF
    refine ⟨c, ?_⟩
    refine gA_of (b := (1020, l0)) (wh.2.1 11043 _ rfl hv_l0) ?_
    obtain ⟨c, hF⟩ := ck_of hF
    refine xI_of wh (oA_1020 hv_l0) c ?_
    clear c
    refine ⟨⟨_, wh.1 11000 _ rfl hv_l0⟩, ?_⟩
    obtain ⟨x2, w1, hG, hF⟩ := bnd_of hF
    refine cl_I (D := 0) (Nat.le_trans (by decide) hd) (c_X10_sunOf wh hv_l0 hG) ?_
    clear hG
    clear wh
    intro h wh
    refine ⟨⟨_, wh.1 11000 _ rfl hv_l0⟩, ?_⟩
    obtain ⟨x4, w3, hG, hF⟩ := bnd_of hF
    refine cl_I (D := 3) (Nat.le_trans (by decide) hd) (c_X10_cloudOf wh hv_l0 hG) ?_
    clear hG
    clear wh
    intro h wh
    obtain ⟨rfl, rfl⟩ := some_of hF
    exact hq _ wh
theorem c_X10_cloudBy {X : SCR} {fu : Nat} {o : Int32} {w1 : MEM} {a0 : Nat} {a1 : Int32} {w : MEM} {h : PH} (wh : WH X h w) (h0 : vo 10 a0 = true) (hF : f_X10_cloudBy fu a0 a1 w = some (o, w1)) : CT 4 M_X10_cloudBy [vR (1000, a0), vI a1] h 0 0 (QP X (.inl (some (vI o))) w1) :=
  CT_of mk_X10_cloudBy (Nat.le_of_ble_eq_true rfl) rfl (w_X10_cloudBy (fu := fu) (rc := 0) (rs := 0) (hd := Nat.le_refl 4) (hq := fun h1 g => ⟨rfl, g⟩) wh h0 hF)
-- X10_passes
def f_X10_passes_188 (fu : Nat) (k74 : Nat → Int32 → MEM → Option (Unit × MEM)) (l0 : Nat) (l1 : Int32) (s0 : LA) (s1 : Int32) (s2 : Int32) (s3 : Int32) (w : MEM) : Option (Unit × MEM) := ck (bI s1 (aN s0.1)) (lt (sA w s0 s1 (s2 + s3)) fun (w1 : MEM) => ck (bI ((7 : Int32) + l1) 57) (if (rA w1 (1020, l0) ((7 : Int32) + l1)) < (50 : Int32) then (k74 l0 (l1 + (1 : Int32)) w1) else (ck (bI ((42 : Int32) + l1) 57) (if (rA w1 (1020, l0) ((42 : Int32) + l1)) = (-1 : Int32) then (ck (bI (56 : Int32) 57) (ck (bI ((42 : Int32) + l1) 57) (lt (sA w1 (1020, l0) ((42 : Int32) + l1) (rA w1 (1020, l0) (56 : Int32))) fun (w2 : MEM) => k74 l0 (l1 + (1 : Int32)) w2))) else (k74 l0 (l1 + (1 : Int32)) w1)))))
theorem E_X10_passes_188 (fu : Nat) (k74 : Nat → Int32 → MEM → Option (Unit × MEM)) (l0 : Nat) (l1 : Int32) (s0 : LA) (s1 : Int32) (s2 : Int32) (s3 : Int32) (w : MEM) : f_X10_passes_188 fu k74 l0 l1 s0 s1 s2 s3 w = ck (bI s1 (aN s0.1)) (lt (sA w s0 s1 (s2 + s3)) fun (w1 : MEM) => ck (bI ((7 : Int32) + l1) 57) (if (rA w1 (1020, l0) ((7 : Int32) + l1)) < (50 : Int32) then (k74 l0 (l1 + (1 : Int32)) w1) else (ck (bI ((42 : Int32) + l1) 57) (if (rA w1 (1020, l0) ((42 : Int32) + l1)) = (-1 : Int32) then (ck (bI (56 : Int32) 57) (ck (bI ((42 : Int32) + l1) 57) (lt (sA w1 (1020, l0) ((42 : Int32) + l1) (rA w1 (1020, l0) (56 : Int32))) fun (w2 : MEM) => k74 l0 (l1 + (1 : Int32)) w2))) else (k74 l0 (l1 + (1 : Int32)) w1))))) := rfl
theorem w_X10_passes_188 {X : SCR} {d rc rs : Nat} {Q : PO → PH → Prop} {o : Unit} {w1 : MEM} {fu : Nat} {k74 : Nat → Int32 → MEM → Option (Unit × MEM)} (hd : 5 ≤ d) (hq : ∀ h1, WH X h1 w1 → Q (.inl none) h1) (hk74 : ∀ (l0 : Nat) (l1 : Int32) (w : MEM) (h : PH), WH X h w → vo 10 l0 = true → k74 l0 l1 w = some (o, w1) → PW d M_X10_passes Q rc rs 74 [vR (1000, l0), vI l1, vU] [] h) {l0 : Nat} {l1 : Int32} {s0 : LA} {s1 : Int32} {s2 : Int32} {s3 : Int32} {w : MEM} {h : PH} (wh : WH X h w) (hv_l0 : vo 10 l0 = true) (ha_s0 : oA s0 0) (hF : f_X10_passes_188 fu k74 l0 l1 s0 s1 s2 s3 w = some (o, w1)) : PW d M_X10_passes Q rc rs 188 [vR (1000, l0), vI l1, vU] [vI s3, vI s2, vI s1, vR s0] h := by
  replace hF := (E_X10_passes_188 fu k74 l0 l1 s0 s1 s2 s3 w).symm.trans hF
  refine r_X10_passes_188 ?_
  obtain ⟨c, hF⟩ := ck_of hF
  replace hF := lt_of hF
  refine yI_of wh ha_s0 c ?_
  clear c wh
  intro h wh
  refine gA_of (b := (1020, l0)) (wh.2.1 11043 _ rfl hv_l0) ?_
  obtain ⟨c, hF⟩ := ck_of hF
  refine xI_of wh (oA_1020 hv_l0) c ?_
  clear c
  refine ⟨fun c => ?_, fun c => ?_⟩
  · replace hF := if_ofT c hF
    exact hk74 _ _ _ _ wh hv_l0 hF
  · replace hF := if_ofF c hF
    refine gA_of (b := (1020, l0)) (wh.2.1 11043 _ rfl hv_l0) ?_
    obtain ⟨c, hF⟩ := ck_of hF
    refine xI_of wh (oA_1020 hv_l0) c ?_
    clear c
    refine ⟨fun c => ?_, fun c => ?_⟩
    · replace hF := if_ofT c hF
      refine gA_of (b := (1020, l0)) (wh.2.1 11043 _ rfl hv_l0) ?_
      refine gA_of (b := (1020, l0)) (wh.2.1 11043 _ rfl hv_l0) ?_
      obtain ⟨c, hF⟩ := ck_of hF
      refine xI_of wh (oA_1020 hv_l0) c ?_
      clear c
      obtain ⟨c, hF⟩ := ck_of hF
      replace hF := lt_of hF
      refine yI_of wh (oA_1020 hv_l0) c ?_
      clear c wh
      intro h wh
      exact hk74 _ _ _ _ wh hv_l0 hF
    · replace hF := if_ofF c hF
      exact hk74 _ _ _ _ wh hv_l0 hF
def f_X10_passes_241 (fu : Nat) : Nat → Nat → Int32 → MEM → Option (Unit × MEM)
  | 0, _, _, _ => none
  | n + 1, l0, l1, w => if l1 < (rS w (11022, l0)) then (ck (bI ((28 : Int32) + l1) 57) (lt (sA w (1020, l0) ((28 : Int32) + l1) (0 : Int32)) fun (w2 : MEM) => f_X10_passes_241 fu n l0 (l1 + (1 : Int32)) w2)) else (ck (bI (56 : Int32) 57) (ck (bI (56 : Int32) 57) (lt (sA w (1020, l0) (56 : Int32) ((rA w (1020, l0) (56 : Int32)) + (1 : Int32))) fun (w1 : MEM) => some ((), w1))))
theorem E_X10_passes_241 (fu : Nat) (n : Nat) (l0 : Nat) (l1 : Int32) (w : MEM) : f_X10_passes_241 fu (n + 1) l0 l1 w = if l1 < (rS w (11022, l0)) then (ck (bI ((28 : Int32) + l1) 57) (lt (sA w (1020, l0) ((28 : Int32) + l1) (0 : Int32)) fun (w2 : MEM) => f_X10_passes_241 fu n l0 (l1 + (1 : Int32)) w2)) else (ck (bI (56 : Int32) 57) (ck (bI (56 : Int32) 57) (lt (sA w (1020, l0) (56 : Int32) ((rA w (1020, l0) (56 : Int32)) + (1 : Int32))) fun (w1 : MEM) => some ((), w1)))) := rfl
theorem w_X10_passes_241 {X : SCR} {d rc rs : Nat} {Q : PO → PH → Prop} {o : Unit} {w1 : MEM} {fu : Nat} (hd : 5 ≤ d) (hq : ∀ h1, WH X h1 w1 → Q (.inl none) h1) : ∀ (n : Nat) (l0 : Nat) (l1 : Int32) (w : MEM) (h : PH), WH X h w → vo 10 l0 = true → f_X10_passes_241 fu n l0 l1 w = some (o, w1) → PW d M_X10_passes Q rc rs 241 [vR (1000, l0), vI l1, vU] [] h := by
  intro n
  induction n with
  | zero => intro l0 l1 w h wh hv_l0 hF; cases hF
  | succ n ih =>
    intro l0 l1 w h wh hv_l0 hF
    replace hF := (E_X10_passes_241 fu n l0 l1 w).symm.trans hF
    refine r_X10_passes_241 ?_
    refine gI_of (wh.1 11022 _ rfl hv_l0) ?_
    refine ⟨fun c => ?_, fun c => ?_⟩
    · replace hF := if_ofT c hF
      refine gA_of (b := (1020, l0)) (wh.2.1 11043 _ rfl hv_l0) ?_
      obtain ⟨c, hF⟩ := ck_of hF
      replace hF := lt_of hF
      refine yI_of wh (oA_1020 hv_l0) c ?_
      clear c wh
      intro h wh
      exact ih _ _ _ _ wh hv_l0 hF
    · replace hF := if_ofF c hF
      refine gA_of (b := (1020, l0)) (wh.2.1 11043 _ rfl hv_l0) ?_
      obtain ⟨c, hF⟩ := ck_of hF
      refine xI_of wh (oA_1020 hv_l0) c ?_
      clear c
      obtain ⟨c, hF⟩ := ck_of hF
      replace hF := lt_of hF
      refine yI_of wh (oA_1020 hv_l0) c ?_
      clear c wh
      intro h wh
      obtain ⟨rfl, rfl⟩ := some_of hF
      exact hq _ wh
def f_X10_passes_74 (fu : Nat) : Nat → Nat → Int32 → MEM → Option (Unit × MEM)
  | 0, _, _, _ => none
  | n + 1, l0, l1, w => if l1 < (rS w (11022, l0)) then (ck (bI ((35 : Int32) + l1) 57) (if (rA w (1020, l0) ((35 : Int32) + l1)) = 0 then (f_X10_passes_74 fu n l0 (l1 + (1 : Int32)) w) else (ck (bI ((7 : Int32) + l1) 57) (bnd (f_X10_cloudBy fu l0 l1 w) fun (x2 : Int32) (w1 : MEM) => bnd (f_X10_held fu ((rA w (1020, l0) ((7 : Int32) + l1)) + x2) w1) fun (x4 : Int32) (w3 : MEM) => ck (bI ((7 : Int32) + l1) 57) (lt (sA w3 (1020, l0) ((7 : Int32) + l1) x4) fun (w5 : MEM) => ck (bI ((14 : Int32) + l1) 57) (ck (bI l1 7) (ck (bI ((0 : Int32) + l1) 57) (bnd (f_X10_held fu (((rA w5 (1020, l0) ((14 : Int32) + l1)) - (rA w5 (1007, l0) l1)) + (rA w5 (1020, l0) ((0 : Int32) + l1))) w5) fun (x7 : Int32) (w6 : MEM) => ck (bI ((14 : Int32) + l1) 57) (lt (sA w6 (1020, l0) ((14 : Int32) + l1) x7) fun (w8 : MEM) => ck (bI ((49 : Int32) + l1) 57) (ck (bI ((14 : Int32) + l1) 57) (if (rA w8 (1020, l0) ((14 : Int32) + l1)) = 0 then (f_X10_passes_188 fu (fun l0 l1 w => f_X10_passes_74 fu n l0 l1 w) l0 l1 (1020, l0) ((49 : Int32) + l1) (rA w8 (1020, l0) ((49 : Int32) + l1)) (1 : Int32) w8) else (f_X10_passes_188 fu (fun l0 l1 w => f_X10_passes_74 fu n l0 l1 w) l0 l1 (1020, l0) ((49 : Int32) + l1) (rA w8 (1020, l0) ((49 : Int32) + l1)) (0 : Int32) w8)))))))))))) else (f_X10_passes_241 fu fu l0 (0 : Int32) w)
theorem E_X10_passes_74 (fu : Nat) (n : Nat) (l0 : Nat) (l1 : Int32) (w : MEM) : f_X10_passes_74 fu (n + 1) l0 l1 w = if l1 < (rS w (11022, l0)) then (ck (bI ((35 : Int32) + l1) 57) (if (rA w (1020, l0) ((35 : Int32) + l1)) = 0 then (f_X10_passes_74 fu n l0 (l1 + (1 : Int32)) w) else (ck (bI ((7 : Int32) + l1) 57) (bnd (f_X10_cloudBy fu l0 l1 w) fun (x2 : Int32) (w1 : MEM) => bnd (f_X10_held fu ((rA w (1020, l0) ((7 : Int32) + l1)) + x2) w1) fun (x4 : Int32) (w3 : MEM) => ck (bI ((7 : Int32) + l1) 57) (lt (sA w3 (1020, l0) ((7 : Int32) + l1) x4) fun (w5 : MEM) => ck (bI ((14 : Int32) + l1) 57) (ck (bI l1 7) (ck (bI ((0 : Int32) + l1) 57) (bnd (f_X10_held fu (((rA w5 (1020, l0) ((14 : Int32) + l1)) - (rA w5 (1007, l0) l1)) + (rA w5 (1020, l0) ((0 : Int32) + l1))) w5) fun (x7 : Int32) (w6 : MEM) => ck (bI ((14 : Int32) + l1) 57) (lt (sA w6 (1020, l0) ((14 : Int32) + l1) x7) fun (w8 : MEM) => ck (bI ((49 : Int32) + l1) 57) (ck (bI ((14 : Int32) + l1) 57) (if (rA w8 (1020, l0) ((14 : Int32) + l1)) = 0 then (f_X10_passes_188 fu (fun l0 l1 w => f_X10_passes_74 fu n l0 l1 w) l0 l1 (1020, l0) ((49 : Int32) + l1) (rA w8 (1020, l0) ((49 : Int32) + l1)) (1 : Int32) w8) else (f_X10_passes_188 fu (fun l0 l1 w => f_X10_passes_74 fu n l0 l1 w) l0 l1 (1020, l0) ((49 : Int32) + l1) (rA w8 (1020, l0) ((49 : Int32) + l1)) (0 : Int32) w8)))))))))))) else (f_X10_passes_241 fu fu l0 (0 : Int32) w) := rfl
theorem w_X10_passes_74 {X : SCR} {d rc rs : Nat} {Q : PO → PH → Prop} {o : Unit} {w1 : MEM} {fu : Nat} (hd : 5 ≤ d) (hq : ∀ h1, WH X h1 w1 → Q (.inl none) h1) : ∀ (n : Nat) (l0 : Nat) (l1 : Int32) (w : MEM) (h : PH), WH X h w → vo 10 l0 = true → f_X10_passes_74 fu n l0 l1 w = some (o, w1) → PW d M_X10_passes Q rc rs 74 [vR (1000, l0), vI l1, vU] [] h := by
  intro n
  induction n with
  | zero => intro l0 l1 w h wh hv_l0 hF; cases hF
  | succ n ih =>
    intro l0 l1 w h wh hv_l0 hF
    replace hF := (E_X10_passes_74 fu n l0 l1 w).symm.trans hF
    refine r_X10_passes_74 ?_
    refine gI_of (wh.1 11022 _ rfl hv_l0) ?_
    refine ⟨fun c => ?_, fun c => ?_⟩
    · replace hF := if_ofT c hF
      refine gA_of (b := (1020, l0)) (wh.2.1 11043 _ rfl hv_l0) ?_
      obtain ⟨c, hF⟩ := ck_of hF
      refine xI_of wh (oA_1020 hv_l0) c ?_
      clear c
      refine ⟨fun c => ?_, fun c => ?_⟩
      · replace hF := if_ofT c hF
        exact ih _ _ _ _ wh hv_l0 hF
      · replace hF := if_ofF c hF
        refine gA_of (b := (1020, l0)) (wh.2.1 11043 _ rfl hv_l0) ?_
        refine gA_of (b := (1020, l0)) (wh.2.1 11043 _ rfl hv_l0) ?_
        obtain ⟨c, hF⟩ := ck_of hF
        refine xI_of wh (oA_1020 hv_l0) c ?_
        clear c
        refine ⟨⟨_, wh.1 11000 _ rfl hv_l0⟩, ?_⟩
        obtain ⟨x2, w1, hG, hF⟩ := bnd_of hF
        refine cl_I (D := 4) (Nat.le_trans (by decide) hd) (c_X10_cloudBy wh hv_l0 hG) ?_
        clear hG
        clear wh
        intro h wh
        obtain ⟨x4, w3, hG, hF⟩ := bnd_of hF
        refine cl_I (D := 0) (Nat.le_trans (by decide) hd) (c_X10_held wh  hG) ?_
        clear hG
        clear wh
        intro h wh
        obtain ⟨c, hF⟩ := ck_of hF
        replace hF := lt_of hF
        refine yI_of wh (oA_1020 hv_l0) c ?_
        clear c wh
        intro h wh
        refine gA_of (b := (1020, l0)) (wh.2.1 11043 _ rfl hv_l0) ?_
        refine gA_of (b := (1020, l0)) (wh.2.1 11043 _ rfl hv_l0) ?_
        obtain ⟨c, hF⟩ := ck_of hF
        refine xI_of wh (oA_1020 hv_l0) c ?_
        clear c
        refine gA_of (b := (1007, l0)) (wh.2.1 11014 _ rfl hv_l0) ?_
        obtain ⟨c, hF⟩ := ck_of hF
        refine xI_of wh (oA_1007 hv_l0) c ?_
        clear c
        refine gA_of (b := (1020, l0)) (wh.2.1 11043 _ rfl hv_l0) ?_
        obtain ⟨c, hF⟩ := ck_of hF
        refine xI_of wh (oA_1020 hv_l0) c ?_
        clear c
        obtain ⟨x7, w6, hG, hF⟩ := bnd_of hF
        refine cl_I (D := 0) (Nat.le_trans (by decide) hd) (c_X10_held wh  hG) ?_
        clear hG
        clear wh
        intro h wh
        obtain ⟨c, hF⟩ := ck_of hF
        replace hF := lt_of hF
        refine yI_of wh (oA_1020 hv_l0) c ?_
        clear c wh
        intro h wh
        refine gA_of (b := (1020, l0)) (wh.2.1 11043 _ rfl hv_l0) ?_
        obtain ⟨c, hF⟩ := ck_of hF
        refine xI_of wh (oA_1020 hv_l0) c ?_
        clear c
        refine gA_of (b := (1020, l0)) (wh.2.1 11043 _ rfl hv_l0) ?_
        obtain ⟨c, hF⟩ := ck_of hF
        refine xI_of wh (oA_1020 hv_l0) c ?_
        clear c
        refine ⟨fun c => ?_, fun c => ?_⟩
        · replace hF := if_ofT c hF
          exact w_X10_passes_188 hd hq (fun l0 l1 w h wh g0 hF => ih l0 l1 w h wh g0 hF) wh hv_l0 (oA_1020 hv_l0) hF
        · replace hF := if_ofF c hF
          exact w_X10_passes_188 hd hq (fun l0 l1 w h wh g0 hF => ih l0 l1 w h wh g0 hF) wh hv_l0 (oA_1020 hv_l0) hF
    · replace hF := if_ofF c hF
      exact w_X10_passes_241 hd hq  fu _ _ _ _ wh hv_l0 hF
def f_X10_passes_2 (fu : Nat) : Nat → Nat → Int32 → MEM → Option (Unit × MEM)
  | 0, _, _, _ => none
  | n + 1, l0, l1, w => if l1 < (rS w (11024, l0)) then (ck (bI ((2 : Int32) * l1) 12) (lt ((rA w (1010, l0) ((2 : Int32) * l1))) fun (v1 : Int32) => ck (bI (56 : Int32) 57) (ck (bI (((2 : Int32) * l1) + (1 : Int32)) 12) (if (rA w (1010, l0) (((2 : Int32) * l1) + (1 : Int32))) = 0 then none else (if ((rA w (1020, l0) (56 : Int32)) - (rA w (1020, l0) (56 : Int32)) / (rA w (1010, l0) (((2 : Int32) * l1) + (1 : Int32))) * (rA w (1010, l0) (((2 : Int32) * l1) + (1 : Int32)))) = 0 then (ck (bI ((35 : Int32) + v1) 57) (if (rA w (1020, l0) ((35 : Int32) + v1)) = (1 : Int32) then (ck (bI ((28 : Int32) + v1) 57) (ck (bI ((28 : Int32) + v1) 57) (lt (sA w (1020, l0) ((28 : Int32) + v1) ((rA w (1020, l0) ((28 : Int32) + v1)) + (1 : Int32))) fun (w2 : MEM) => f_X10_passes_2 fu n l0 (l1 + (1 : Int32)) w2))) else (f_X10_passes_2 fu n l0 (l1 + (1 : Int32)) w))) else (f_X10_passes_2 fu n l0 (l1 + (1 : Int32)) w)))))) else (f_X10_passes_74 fu fu l0 (0 : Int32) w)
theorem E_X10_passes_2 (fu : Nat) (n : Nat) (l0 : Nat) (l1 : Int32) (w : MEM) : f_X10_passes_2 fu (n + 1) l0 l1 w = if l1 < (rS w (11024, l0)) then (ck (bI ((2 : Int32) * l1) 12) (lt ((rA w (1010, l0) ((2 : Int32) * l1))) fun (v1 : Int32) => ck (bI (56 : Int32) 57) (ck (bI (((2 : Int32) * l1) + (1 : Int32)) 12) (if (rA w (1010, l0) (((2 : Int32) * l1) + (1 : Int32))) = 0 then none else (if ((rA w (1020, l0) (56 : Int32)) - (rA w (1020, l0) (56 : Int32)) / (rA w (1010, l0) (((2 : Int32) * l1) + (1 : Int32))) * (rA w (1010, l0) (((2 : Int32) * l1) + (1 : Int32)))) = 0 then (ck (bI ((35 : Int32) + v1) 57) (if (rA w (1020, l0) ((35 : Int32) + v1)) = (1 : Int32) then (ck (bI ((28 : Int32) + v1) 57) (ck (bI ((28 : Int32) + v1) 57) (lt (sA w (1020, l0) ((28 : Int32) + v1) ((rA w (1020, l0) ((28 : Int32) + v1)) + (1 : Int32))) fun (w2 : MEM) => f_X10_passes_2 fu n l0 (l1 + (1 : Int32)) w2))) else (f_X10_passes_2 fu n l0 (l1 + (1 : Int32)) w))) else (f_X10_passes_2 fu n l0 (l1 + (1 : Int32)) w)))))) else (f_X10_passes_74 fu fu l0 (0 : Int32) w) := rfl
theorem w_X10_passes_2 {X : SCR} {d rc rs : Nat} {Q : PO → PH → Prop} {o : Unit} {w1 : MEM} {fu : Nat} (hd : 5 ≤ d) (hq : ∀ h1, WH X h1 w1 → Q (.inl none) h1) : ∀ (n : Nat) (l0 : Nat) (l1 : Int32) (w : MEM) (h : PH), WH X h w → vo 10 l0 = true → f_X10_passes_2 fu n l0 l1 w = some (o, w1) → PW d M_X10_passes Q rc rs 2 [vR (1000, l0), vI l1, vU] [] h := by
  intro n
  induction n with
  | zero => intro l0 l1 w h wh hv_l0 hF; cases hF
  | succ n ih =>
    intro l0 l1 w h wh hv_l0 hF
    replace hF := (E_X10_passes_2 fu n l0 l1 w).symm.trans hF
    refine r_X10_passes_2 ?_
    refine gI_of (wh.1 11024 _ rfl hv_l0) ?_
    refine ⟨fun c => ?_, fun c => ?_⟩
    · replace hF := if_ofT c hF
      refine gA_of (b := (1010, l0)) (wh.2.1 11017 _ rfl hv_l0) ?_
      obtain ⟨c, hF⟩ := ck_of hF
      refine xI_of wh (oA_1010 hv_l0) c ?_
      clear c
      replace hF := lt_of hF
      refine gA_of (b := (1020, l0)) (wh.2.1 11043 _ rfl hv_l0) ?_
      obtain ⟨c, hF⟩ := ck_of hF
      refine xI_of wh (oA_1020 hv_l0) c ?_
      clear c
      refine gA_of (b := (1010, l0)) (wh.2.1 11017 _ rfl hv_l0) ?_
      obtain ⟨c, hF⟩ := ck_of hF
      refine xI_of wh (oA_1010 hv_l0) c ?_
      clear c
      obtain ⟨c, hF⟩ := nzF_of hF
      refine ⟨c, ?_⟩
      refine ⟨fun c => ?_, fun c => ?_⟩
      · replace hF := if_ofT c hF
        refine gA_of (b := (1020, l0)) (wh.2.1 11043 _ rfl hv_l0) ?_
        obtain ⟨c, hF⟩ := ck_of hF
        refine xI_of wh (oA_1020 hv_l0) c ?_
        clear c
        refine ⟨fun c => ?_, fun c => ?_⟩
        · replace hF := if_ofT c hF
          refine gA_of (b := (1020, l0)) (wh.2.1 11043 _ rfl hv_l0) ?_
          obtain ⟨c, hF⟩ := ck_of hF
          refine xI_of wh (oA_1020 hv_l0) c ?_
          clear c
          obtain ⟨c, hF⟩ := ck_of hF
          replace hF := lt_of hF
          refine yI_of wh (oA_1020 hv_l0) c ?_
          clear c wh
          intro h wh
          exact ih _ _ _ _ wh hv_l0 hF
        · replace hF := if_ofF c hF
          exact ih _ _ _ _ wh hv_l0 hF
      · replace hF := if_ofF c hF
        exact ih _ _ _ _ wh hv_l0 hF
    · replace hF := if_ofF c hF
      exact w_X10_passes_74 hd hq  fu _ _ _ _ wh hv_l0 hF
def f_X10_passes (fu : Nat) (l0 : Nat) (w : MEM) : Option (Unit × MEM) := f_X10_passes_2 fu fu l0 (0 : Int32) w
theorem E_X10_passes (fu : Nat) (l0 : Nat) (w : MEM) : f_X10_passes fu l0 w = f_X10_passes_2 fu fu l0 (0 : Int32) w := rfl
theorem w_X10_passes {X : SCR} {d rc rs : Nat} {Q : PO → PH → Prop} {o : Unit} {w1 : MEM} {fu : Nat} (hd : 5 ≤ d) (hq : ∀ h1, WH X h1 w1 → Q (.inl none) h1) {l0 : Nat} {w : MEM} {h : PH} (wh : WH X h w) (hv_l0 : vo 10 l0 = true) (hF : f_X10_passes fu l0 w = some (o, w1)) : PW d M_X10_passes Q rc rs 0 [vR (1000, l0), vU, vU] [] h := by
  replace hF := (E_X10_passes fu l0 w).symm.trans hF
  refine r_X10_passes_0 ?_
  exact w_X10_passes_2 hd hq  fu _ _ _ _ wh hv_l0 hF
theorem c_X10_passes {X : SCR} {fu : Nat} {o : Unit} {w1 : MEM} {a0 : Nat} {w : MEM} {h : PH} (wh : WH X h w) (h0 : vo 10 a0 = true) (hF : f_X10_passes fu a0 w = some (o, w1)) : CT 5 M_X10_passes [vR (1000, a0)] h 0 0 (QP X (.inl none) w1) :=
  CT_of mk_X10_passes (Nat.le_of_ble_eq_true rfl) rfl (w_X10_passes (fu := fu) (rc := 0) (rs := 0) (hd := Nat.le_refl 5) (hq := fun h1 g => ⟨rfl, g⟩) wh h0 hF)
-- X10_goes
def f_X10_goes_24 (fu : Nat) (l0 : Nat) (l1 : Int32) (l2 : Int32) (l3 : Int32) (s0 : Int32) (w : MEM) : Option (Int32 × MEM) := if l1 = 0 then (ck (bI ((7 : Int32) + l2) 57) (if 0 < (rA w (1020, l0) ((7 : Int32) + l2)) then (bnd (f_X10_puts fu l0 ((7 : Int32) + l2) (0 : Int32) (1 : Int32) w) fun (x34 : Int32) (w33 : MEM) => ck (b01 x34) (some (x34, w33))) else (bnd (f_X10_puts fu l0 ((7 : Int32) + l2) (0 : Int32) (0 : Int32) w) fun (x32 : Int32) (w31 : MEM) => ck (b01 x32) (some (x32, w31))))) else (if l1 = (1 : Int32) then (bnd (f_X10_lifts fu l0 l2 w) fun (x30 : Int32) (w29 : MEM) => ck (b01 x30) (some (x30, w29))) else (if l1 = (2 : Int32) then (if s0 = 0 then (bnd (f_X10_puts fu l0 ((35 : Int32) + l2) (1 : Int32) (1 : Int32) w) fun (x28 : Int32) (w27 : MEM) => ck (b01 x28) (some (x28, w27))) else (bnd (f_X10_puts fu l0 ((35 : Int32) + l2) (1 : Int32) (0 : Int32) w) fun (x26 : Int32) (w25 : MEM) => ck (b01 x26) (some (x26, w25)))) else (if l1 = (3 : Int32) then (ck (bI ((21 : Int32) + l2) 57) (if s0 = 0 then (bnd (f_X10_puts fu l0 ((21 : Int32) + l2) ((rA w (1020, l0) ((21 : Int32) + l2)) + (1 : Int32)) (0 : Int32) w) fun (x20 : Int32) (w19 : MEM) => ck (b01 x20) (some (x20, w19))) else (ck (bI ((21 : Int32) + l2) 57) (if (rA w (1020, l0) ((21 : Int32) + l2)) < (3 : Int32) then (bnd (f_X10_puts fu l0 ((21 : Int32) + l2) ((rA w (1020, l0) ((21 : Int32) + l2)) + (1 : Int32)) (1 : Int32) w) fun (x24 : Int32) (w23 : MEM) => ck (b01 x24) (some (x24, w23))) else (bnd (f_X10_puts fu l0 ((21 : Int32) + l2) ((rA w (1020, l0) ((21 : Int32) + l2)) + (1 : Int32)) (0 : Int32) w) fun (x22 : Int32) (w21 : MEM) => ck (b01 x22) (some (x22, w21))))))) else (if l1 = (4 : Int32) then (ck (bI ((14 : Int32) + l2) 57) (bnd (f_X10_held fu ((rA w (1020, l0) ((14 : Int32) + l2)) + (40 : Int32)) w) fun (x12 : Int32) (w11 : MEM) => if s0 = 0 then (bnd (f_X10_puts fu l0 ((14 : Int32) + l2) x12 (0 : Int32) w11) fun (x14 : Int32) (w13 : MEM) => ck (b01 x14) (some (x14, w13))) else (ck (bI ((14 : Int32) + l2) 57) (if (rA w11 (1020, l0) ((14 : Int32) + l2)) < (99 : Int32) then (bnd (f_X10_puts fu l0 ((14 : Int32) + l2) x12 (1 : Int32) w11) fun (x18 : Int32) (w17 : MEM) => ck (b01 x18) (some (x18, w17))) else (bnd (f_X10_puts fu l0 ((14 : Int32) + l2) x12 (0 : Int32) w11) fun (x16 : Int32) (w15 : MEM) => ck (b01 x16) (some (x16, w15))))))) else (if l1 = (5 : Int32) then (bnd (f_X10_taps fu l0 l2 w) fun (x10 : Int32) (w9 : MEM) => ck (b01 x10) (some (x10, w9))) else (if l1 = (6 : Int32) then (ck (bI ((0 : Int32) + l2) 57) (if (rA w (1020, l0) ((0 : Int32) + l2)) = l3 then (bnd (f_X10_puts fu l0 ((0 : Int32) + l2) l3 (0 : Int32) w) fun (x6 : Int32) (w5 : MEM) => ck (b01 x6) (some (x6, w5))) else (bnd (f_X10_puts fu l0 ((0 : Int32) + l2) l3 (1 : Int32) w) fun (x8 : Int32) (w7 : MEM) => ck (b01 x8) (some (x8, w7))))) else (if l1 = (8 : Int32) then (bnd (f_X10_dawns fu l0 w) fun (u4 : Unit) (w3 : MEM) => some ((1 : Int32), w3)) else (ck (bI (56 : Int32) 57) (if (rA w (1020, l0) (56 : Int32)) = (900 : Int32) then (some ((0 : Int32), w)) else (bnd (f_X10_passes fu l0 w) fun (u2 : Unit) (w1 : MEM) => some ((1 : Int32), w1)))))))))))
theorem E_X10_goes_24 (fu : Nat) (l0 : Nat) (l1 : Int32) (l2 : Int32) (l3 : Int32) (s0 : Int32) (w : MEM) : f_X10_goes_24 fu l0 l1 l2 l3 s0 w = if l1 = 0 then (ck (bI ((7 : Int32) + l2) 57) (if 0 < (rA w (1020, l0) ((7 : Int32) + l2)) then (bnd (f_X10_puts fu l0 ((7 : Int32) + l2) (0 : Int32) (1 : Int32) w) fun (x34 : Int32) (w33 : MEM) => ck (b01 x34) (some (x34, w33))) else (bnd (f_X10_puts fu l0 ((7 : Int32) + l2) (0 : Int32) (0 : Int32) w) fun (x32 : Int32) (w31 : MEM) => ck (b01 x32) (some (x32, w31))))) else (if l1 = (1 : Int32) then (bnd (f_X10_lifts fu l0 l2 w) fun (x30 : Int32) (w29 : MEM) => ck (b01 x30) (some (x30, w29))) else (if l1 = (2 : Int32) then (if s0 = 0 then (bnd (f_X10_puts fu l0 ((35 : Int32) + l2) (1 : Int32) (1 : Int32) w) fun (x28 : Int32) (w27 : MEM) => ck (b01 x28) (some (x28, w27))) else (bnd (f_X10_puts fu l0 ((35 : Int32) + l2) (1 : Int32) (0 : Int32) w) fun (x26 : Int32) (w25 : MEM) => ck (b01 x26) (some (x26, w25)))) else (if l1 = (3 : Int32) then (ck (bI ((21 : Int32) + l2) 57) (if s0 = 0 then (bnd (f_X10_puts fu l0 ((21 : Int32) + l2) ((rA w (1020, l0) ((21 : Int32) + l2)) + (1 : Int32)) (0 : Int32) w) fun (x20 : Int32) (w19 : MEM) => ck (b01 x20) (some (x20, w19))) else (ck (bI ((21 : Int32) + l2) 57) (if (rA w (1020, l0) ((21 : Int32) + l2)) < (3 : Int32) then (bnd (f_X10_puts fu l0 ((21 : Int32) + l2) ((rA w (1020, l0) ((21 : Int32) + l2)) + (1 : Int32)) (1 : Int32) w) fun (x24 : Int32) (w23 : MEM) => ck (b01 x24) (some (x24, w23))) else (bnd (f_X10_puts fu l0 ((21 : Int32) + l2) ((rA w (1020, l0) ((21 : Int32) + l2)) + (1 : Int32)) (0 : Int32) w) fun (x22 : Int32) (w21 : MEM) => ck (b01 x22) (some (x22, w21))))))) else (if l1 = (4 : Int32) then (ck (bI ((14 : Int32) + l2) 57) (bnd (f_X10_held fu ((rA w (1020, l0) ((14 : Int32) + l2)) + (40 : Int32)) w) fun (x12 : Int32) (w11 : MEM) => if s0 = 0 then (bnd (f_X10_puts fu l0 ((14 : Int32) + l2) x12 (0 : Int32) w11) fun (x14 : Int32) (w13 : MEM) => ck (b01 x14) (some (x14, w13))) else (ck (bI ((14 : Int32) + l2) 57) (if (rA w11 (1020, l0) ((14 : Int32) + l2)) < (99 : Int32) then (bnd (f_X10_puts fu l0 ((14 : Int32) + l2) x12 (1 : Int32) w11) fun (x18 : Int32) (w17 : MEM) => ck (b01 x18) (some (x18, w17))) else (bnd (f_X10_puts fu l0 ((14 : Int32) + l2) x12 (0 : Int32) w11) fun (x16 : Int32) (w15 : MEM) => ck (b01 x16) (some (x16, w15))))))) else (if l1 = (5 : Int32) then (bnd (f_X10_taps fu l0 l2 w) fun (x10 : Int32) (w9 : MEM) => ck (b01 x10) (some (x10, w9))) else (if l1 = (6 : Int32) then (ck (bI ((0 : Int32) + l2) 57) (if (rA w (1020, l0) ((0 : Int32) + l2)) = l3 then (bnd (f_X10_puts fu l0 ((0 : Int32) + l2) l3 (0 : Int32) w) fun (x6 : Int32) (w5 : MEM) => ck (b01 x6) (some (x6, w5))) else (bnd (f_X10_puts fu l0 ((0 : Int32) + l2) l3 (1 : Int32) w) fun (x8 : Int32) (w7 : MEM) => ck (b01 x8) (some (x8, w7))))) else (if l1 = (8 : Int32) then (bnd (f_X10_dawns fu l0 w) fun (u4 : Unit) (w3 : MEM) => some ((1 : Int32), w3)) else (ck (bI (56 : Int32) 57) (if (rA w (1020, l0) (56 : Int32)) = (900 : Int32) then (some ((0 : Int32), w)) else (bnd (f_X10_passes fu l0 w) fun (u2 : Unit) (w1 : MEM) => some ((1 : Int32), w1))))))))))) := rfl
theorem w_X10_goes_24 {X : SCR} {d rc rs : Nat} {Q : PO → PH → Prop} {o : Int32} {w1 : MEM} {fu : Nat} (hd : 6 ≤ d) (hq : ∀ h1, WH X h1 w1 → Q (.inl (some (vI o))) h1) {l0 : Nat} {l1 : Int32} {l2 : Int32} {l3 : Int32} {s0 : Int32} {w : MEM} {h : PH} (wh : WH X h w) (hv_l0 : vo 10 l0 = true) (hF : f_X10_goes_24 fu l0 l1 l2 l3 s0 w = some (o, w1)) : PW d M_X10_goes Q rc rs 24 [vR (1000, l0), vI l1, vI l2, vI l3, vU] [vI s0] h := by
  replace hF := (E_X10_goes_24 fu l0 l1 l2 l3 s0 w).symm.trans hF
  refine r_X10_goes_24 ?_
  refine ⟨fun c => ?_, fun c => ?_⟩
  · replace hF := if_ofT c hF
    refine gA_of (b := (1020, l0)) (wh.2.1 11043 _ rfl hv_l0) ?_
    obtain ⟨c, hF⟩ := ck_of hF
    refine xI_of wh (oA_1020 hv_l0) c ?_
    clear c
    refine ⟨fun c => ?_, fun c => ?_⟩
    · replace hF := if_ofT c hF
      refine ⟨⟨_, wh.1 11000 _ rfl hv_l0⟩, ?_⟩
      obtain ⟨x34, w33, hG, hF⟩ := bnd_of hF
      refine cl_I (D := 0) (Nat.le_trans (by decide) hd) (c_X10_puts wh hv_l0 hG) ?_
      clear hG
      clear wh
      intro h wh
      obtain ⟨c, hF⟩ := ck_of hF
      obtain ⟨rfl, rfl⟩ := some_of hF
      exact ⟨b01_nrw c, hq _ wh⟩
    · replace hF := if_ofF c hF
      refine ⟨⟨_, wh.1 11000 _ rfl hv_l0⟩, ?_⟩
      obtain ⟨x32, w31, hG, hF⟩ := bnd_of hF
      refine cl_I (D := 0) (Nat.le_trans (by decide) hd) (c_X10_puts wh hv_l0 hG) ?_
      clear hG
      clear wh
      intro h wh
      obtain ⟨c, hF⟩ := ck_of hF
      obtain ⟨rfl, rfl⟩ := some_of hF
      exact ⟨b01_nrw c, hq _ wh⟩
  · replace hF := if_ofF c hF
    refine ⟨fun c => ?_, fun c => ?_⟩
    · replace hF := if_ofT c hF
      refine ⟨⟨_, wh.1 11000 _ rfl hv_l0⟩, ?_⟩
      obtain ⟨x30, w29, hG, hF⟩ := bnd_of hF
      refine cl_I (D := 0) (Nat.le_trans (by decide) hd) (c_X10_lifts wh hv_l0 hG) ?_
      clear hG
      clear wh
      intro h wh
      obtain ⟨c, hF⟩ := ck_of hF
      obtain ⟨rfl, rfl⟩ := some_of hF
      exact ⟨b01_nrw c, hq _ wh⟩
    · replace hF := if_ofF c hF
      refine ⟨fun c => ?_, fun c => ?_⟩
      · replace hF := if_ofT c hF
        refine ⟨fun c => ?_, fun c => ?_⟩
        · replace hF := if_ofT c hF
          refine ⟨⟨_, wh.1 11000 _ rfl hv_l0⟩, ?_⟩
          obtain ⟨x28, w27, hG, hF⟩ := bnd_of hF
          refine cl_I (D := 0) (Nat.le_trans (by decide) hd) (c_X10_puts wh hv_l0 hG) ?_
          clear hG
          clear wh
          intro h wh
          obtain ⟨c, hF⟩ := ck_of hF
          obtain ⟨rfl, rfl⟩ := some_of hF
          exact ⟨b01_nrw c, hq _ wh⟩
        · replace hF := if_ofF c hF
          refine ⟨⟨_, wh.1 11000 _ rfl hv_l0⟩, ?_⟩
          obtain ⟨x26, w25, hG, hF⟩ := bnd_of hF
          refine cl_I (D := 0) (Nat.le_trans (by decide) hd) (c_X10_puts wh hv_l0 hG) ?_
          clear hG
          clear wh
          intro h wh
          obtain ⟨c, hF⟩ := ck_of hF
          obtain ⟨rfl, rfl⟩ := some_of hF
          exact ⟨b01_nrw c, hq _ wh⟩
      · replace hF := if_ofF c hF
        refine ⟨fun c => ?_, fun c => ?_⟩
        · replace hF := if_ofT c hF
          refine gA_of (b := (1020, l0)) (wh.2.1 11043 _ rfl hv_l0) ?_
          obtain ⟨c, hF⟩ := ck_of hF
          refine xI_of wh (oA_1020 hv_l0) c ?_
          clear c
          refine ⟨fun c => ?_, fun c => ?_⟩
          · replace hF := if_ofT c hF
            refine ⟨⟨_, wh.1 11000 _ rfl hv_l0⟩, ?_⟩
            obtain ⟨x20, w19, hG, hF⟩ := bnd_of hF
            refine cl_I (D := 0) (Nat.le_trans (by decide) hd) (c_X10_puts wh hv_l0 hG) ?_
            clear hG
            clear wh
            intro h wh
            obtain ⟨c, hF⟩ := ck_of hF
            obtain ⟨rfl, rfl⟩ := some_of hF
            exact ⟨b01_nrw c, hq _ wh⟩
          · replace hF := if_ofF c hF
            refine gA_of (b := (1020, l0)) (wh.2.1 11043 _ rfl hv_l0) ?_
            obtain ⟨c, hF⟩ := ck_of hF
            refine xI_of wh (oA_1020 hv_l0) c ?_
            clear c
            refine ⟨fun c => ?_, fun c => ?_⟩
            · replace hF := if_ofT c hF
              refine ⟨⟨_, wh.1 11000 _ rfl hv_l0⟩, ?_⟩
              obtain ⟨x24, w23, hG, hF⟩ := bnd_of hF
              refine cl_I (D := 0) (Nat.le_trans (by decide) hd) (c_X10_puts wh hv_l0 hG) ?_
              clear hG
              clear wh
              intro h wh
              obtain ⟨c, hF⟩ := ck_of hF
              obtain ⟨rfl, rfl⟩ := some_of hF
              exact ⟨b01_nrw c, hq _ wh⟩
            · replace hF := if_ofF c hF
              refine ⟨⟨_, wh.1 11000 _ rfl hv_l0⟩, ?_⟩
              obtain ⟨x22, w21, hG, hF⟩ := bnd_of hF
              refine cl_I (D := 0) (Nat.le_trans (by decide) hd) (c_X10_puts wh hv_l0 hG) ?_
              clear hG
              clear wh
              intro h wh
              obtain ⟨c, hF⟩ := ck_of hF
              obtain ⟨rfl, rfl⟩ := some_of hF
              exact ⟨b01_nrw c, hq _ wh⟩
        · replace hF := if_ofF c hF
          refine ⟨fun c => ?_, fun c => ?_⟩
          · replace hF := if_ofT c hF
            refine gA_of (b := (1020, l0)) (wh.2.1 11043 _ rfl hv_l0) ?_
            obtain ⟨c, hF⟩ := ck_of hF
            refine xI_of wh (oA_1020 hv_l0) c ?_
            clear c
            obtain ⟨x12, w11, hG, hF⟩ := bnd_of hF
            refine cl_I (D := 0) (Nat.le_trans (by decide) hd) (c_X10_held wh  hG) ?_
            clear hG
            clear wh
            intro h wh
            refine ⟨fun c => ?_, fun c => ?_⟩
            · replace hF := if_ofT c hF
              refine ⟨⟨_, wh.1 11000 _ rfl hv_l0⟩, ?_⟩
              obtain ⟨x14, w13, hG, hF⟩ := bnd_of hF
              refine cl_I (D := 0) (Nat.le_trans (by decide) hd) (c_X10_puts wh hv_l0 hG) ?_
              clear hG
              clear wh
              intro h wh
              obtain ⟨c, hF⟩ := ck_of hF
              obtain ⟨rfl, rfl⟩ := some_of hF
              exact ⟨b01_nrw c, hq _ wh⟩
            · replace hF := if_ofF c hF
              refine gA_of (b := (1020, l0)) (wh.2.1 11043 _ rfl hv_l0) ?_
              obtain ⟨c, hF⟩ := ck_of hF
              refine xI_of wh (oA_1020 hv_l0) c ?_
              clear c
              refine ⟨fun c => ?_, fun c => ?_⟩
              · replace hF := if_ofT c hF
                refine ⟨⟨_, wh.1 11000 _ rfl hv_l0⟩, ?_⟩
                obtain ⟨x18, w17, hG, hF⟩ := bnd_of hF
                refine cl_I (D := 0) (Nat.le_trans (by decide) hd) (c_X10_puts wh hv_l0 hG) ?_
                clear hG
                clear wh
                intro h wh
                obtain ⟨c, hF⟩ := ck_of hF
                obtain ⟨rfl, rfl⟩ := some_of hF
                exact ⟨b01_nrw c, hq _ wh⟩
              · replace hF := if_ofF c hF
                refine ⟨⟨_, wh.1 11000 _ rfl hv_l0⟩, ?_⟩
                obtain ⟨x16, w15, hG, hF⟩ := bnd_of hF
                refine cl_I (D := 0) (Nat.le_trans (by decide) hd) (c_X10_puts wh hv_l0 hG) ?_
                clear hG
                clear wh
                intro h wh
                obtain ⟨c, hF⟩ := ck_of hF
                obtain ⟨rfl, rfl⟩ := some_of hF
                exact ⟨b01_nrw c, hq _ wh⟩
          · replace hF := if_ofF c hF
            refine ⟨fun c => ?_, fun c => ?_⟩
            · replace hF := if_ofT c hF
              refine ⟨⟨_, wh.1 11000 _ rfl hv_l0⟩, ?_⟩
              obtain ⟨x10, w9, hG, hF⟩ := bnd_of hF
              refine cl_I (D := 1) (Nat.le_trans (by decide) hd) (c_X10_taps wh hv_l0 hG) ?_
              clear hG
              clear wh
              intro h wh
              obtain ⟨c, hF⟩ := ck_of hF
              obtain ⟨rfl, rfl⟩ := some_of hF
              exact ⟨b01_nrw c, hq _ wh⟩
            · replace hF := if_ofF c hF
              refine ⟨fun c => ?_, fun c => ?_⟩
              · replace hF := if_ofT c hF
                refine gA_of (b := (1020, l0)) (wh.2.1 11043 _ rfl hv_l0) ?_
                obtain ⟨c, hF⟩ := ck_of hF
                refine xI_of wh (oA_1020 hv_l0) c ?_
                clear c
                refine ⟨fun c => ?_, fun c => ?_⟩
                · replace hF := if_ofT c hF
                  refine ⟨⟨_, wh.1 11000 _ rfl hv_l0⟩, ?_⟩
                  obtain ⟨x6, w5, hG, hF⟩ := bnd_of hF
                  refine cl_I (D := 0) (Nat.le_trans (by decide) hd) (c_X10_puts wh hv_l0 hG) ?_
                  clear hG
                  clear wh
                  intro h wh
                  obtain ⟨c, hF⟩ := ck_of hF
                  obtain ⟨rfl, rfl⟩ := some_of hF
                  exact ⟨b01_nrw c, hq _ wh⟩
                · replace hF := if_ofF c hF
                  refine ⟨⟨_, wh.1 11000 _ rfl hv_l0⟩, ?_⟩
                  obtain ⟨x8, w7, hG, hF⟩ := bnd_of hF
                  refine cl_I (D := 0) (Nat.le_trans (by decide) hd) (c_X10_puts wh hv_l0 hG) ?_
                  clear hG
                  clear wh
                  intro h wh
                  obtain ⟨c, hF⟩ := ck_of hF
                  obtain ⟨rfl, rfl⟩ := some_of hF
                  exact ⟨b01_nrw c, hq _ wh⟩
              · replace hF := if_ofF c hF
                refine ⟨fun c => ?_, fun c => ?_⟩
                · replace hF := if_ofT c hF
                  refine ⟨⟨_, wh.1 11000 _ rfl hv_l0⟩, ?_⟩
                  obtain ⟨u4, w3, hG, hF⟩ := bnd_of hF
                  refine cl_V (D := 0) (Nat.le_trans (by decide) hd) (c_X10_dawns wh hv_l0 hG) ?_
                  clear hG
                  clear wh
                  intro h wh
                  obtain ⟨rfl, rfl⟩ := some_of hF
                  exact hq _ wh
                · replace hF := if_ofF c hF
                  refine gA_of (b := (1020, l0)) (wh.2.1 11043 _ rfl hv_l0) ?_
                  obtain ⟨c, hF⟩ := ck_of hF
                  refine xI_of wh (oA_1020 hv_l0) c ?_
                  clear c
                  refine ⟨fun c => ?_, fun c => ?_⟩
                  · replace hF := if_ofT c hF
                    obtain ⟨rfl, rfl⟩ := some_of hF
                    exact hq _ wh
                  · replace hF := if_ofF c hF
                    refine ⟨⟨_, wh.1 11000 _ rfl hv_l0⟩, ?_⟩
                    obtain ⟨u2, w1, hG, hF⟩ := bnd_of hF
                    refine cl_V (D := 5) (Nat.le_trans (by decide) hd) (c_X10_passes wh hv_l0 hG) ?_
                    clear hG
                    clear wh
                    intro h wh
                    obtain ⟨rfl, rfl⟩ := some_of hF
                    exact hq _ wh
def f_X10_goes (fu : Nat) (l0 : Nat) (l1 : Int32) (l2 : Int32) (l3 : Int32) (w : MEM) : Option (Int32 × MEM) := if l1 < (7 : Int32) then (ck (bI ((35 : Int32) + l2) 57) (if (rA w (1020, l0) ((35 : Int32) + l2)) = (1 : Int32) then (f_X10_goes_24 fu l0 l1 l2 l3 (1 : Int32) w) else (f_X10_goes_24 fu l0 l1 l2 l3 (0 : Int32) w))) else (f_X10_goes_24 fu l0 l1 l2 l3 (0 : Int32) w)
theorem E_X10_goes (fu : Nat) (l0 : Nat) (l1 : Int32) (l2 : Int32) (l3 : Int32) (w : MEM) : f_X10_goes fu l0 l1 l2 l3 w = if l1 < (7 : Int32) then (ck (bI ((35 : Int32) + l2) 57) (if (rA w (1020, l0) ((35 : Int32) + l2)) = (1 : Int32) then (f_X10_goes_24 fu l0 l1 l2 l3 (1 : Int32) w) else (f_X10_goes_24 fu l0 l1 l2 l3 (0 : Int32) w))) else (f_X10_goes_24 fu l0 l1 l2 l3 (0 : Int32) w) := rfl
theorem w_X10_goes {X : SCR} {d rc rs : Nat} {Q : PO → PH → Prop} {o : Int32} {w1 : MEM} {fu : Nat} (hd : 6 ≤ d) (hq : ∀ h1, WH X h1 w1 → Q (.inl (some (vI o))) h1) {l0 : Nat} {l1 : Int32} {l2 : Int32} {l3 : Int32} {w : MEM} {h : PH} (wh : WH X h w) (hv_l0 : vo 10 l0 = true) (hF : f_X10_goes fu l0 l1 l2 l3 w = some (o, w1)) : PW d M_X10_goes Q rc rs 0 [vR (1000, l0), vI l1, vI l2, vI l3, vU] [] h := by
  replace hF := (E_X10_goes fu l0 l1 l2 l3 w).symm.trans hF
  refine r_X10_goes_0 ?_
  refine ⟨fun c => ?_, fun c => ?_⟩
  · replace hF := if_ofT c hF
    refine gA_of (b := (1020, l0)) (wh.2.1 11043 _ rfl hv_l0) ?_
    obtain ⟨c, hF⟩ := ck_of hF
    refine xI_of wh (oA_1020 hv_l0) c ?_
    clear c
    refine ⟨fun c => ?_, fun c => ?_⟩
    · replace hF := if_ofT c hF
      exact w_X10_goes_24 hd hq  wh hv_l0 hF
    · replace hF := if_ofF c hF
      exact w_X10_goes_24 hd hq  wh hv_l0 hF
  · replace hF := if_ofF c hF
    exact w_X10_goes_24 hd hq  wh hv_l0 hF
theorem c_X10_goes {X : SCR} {fu : Nat} {o : Int32} {w1 : MEM} {a0 : Nat} {a1 : Int32} {a2 : Int32} {a3 : Int32} {w : MEM} {h : PH} (wh : WH X h w) (h0 : vo 10 a0 = true) (hF : f_X10_goes fu a0 a1 a2 a3 w = some (o, w1)) : CT 6 M_X10_goes [vR (1000, a0), vI a1, vI a2, vI a3] h 0 0 (QP X (.inl (some (vI o))) w1) :=
  CT_of mk_X10_goes (Nat.le_of_ble_eq_true rfl) rfl (w_X10_goes (fu := fu) (rc := 0) (rs := 0) (hd := Nat.le_refl 6) (hq := fun h1 g => ⟨rfl, g⟩) wh h0 hF)
-- X10_goesSteps
def f_X10_goesSteps_51 (fu : Nat) (c_goesSteps : Nat → Int32 → Int32 → MEM → Option (Unit × MEM)) (k2 : Nat → Int32 → Int32 → MEM → Option (Unit × MEM)) : Nat → Nat → Int32 → Int32 → Int32 → Int32 → MEM → Option (Unit × MEM)
  | 0, _, _, _, _, _, _ => none
  | n + 1, l0, l2, l3, l4, l5, w => ck (bI (l3 + (1 : Int32)) 150) (if l5 < (rA w (1018, l0) (l3 + (1 : Int32))) then (if (rS w (11039, l0)) < (200 : Int32) then (bnd (c_goesSteps l0 (l3 + (3 : Int32)) l4 w) fun (u2 : Unit) (w1 : MEM) => f_X10_goesSteps_51 fu c_goesSteps k2 n l0 l2 l3 l4 (l5 + (1 : Int32)) w1) else (k2 l0 l2 l4 w)) else (k2 l0 l2 l4 w))
theorem E_X10_goesSteps_51 (fu : Nat) (c_goesSteps : Nat → Int32 → Int32 → MEM → Option (Unit × MEM)) (k2 : Nat → Int32 → Int32 → MEM → Option (Unit × MEM)) (n : Nat) (l0 : Nat) (l2 : Int32) (l3 : Int32) (l4 : Int32) (l5 : Int32) (w : MEM) : f_X10_goesSteps_51 fu c_goesSteps k2 (n + 1) l0 l2 l3 l4 l5 w = ck (bI (l3 + (1 : Int32)) 150) (if l5 < (rA w (1018, l0) (l3 + (1 : Int32))) then (if (rS w (11039, l0)) < (200 : Int32) then (bnd (c_goesSteps l0 (l3 + (3 : Int32)) l4 w) fun (u2 : Unit) (w1 : MEM) => f_X10_goesSteps_51 fu c_goesSteps k2 n l0 l2 l3 l4 (l5 + (1 : Int32)) w1) else (k2 l0 l2 l4 w)) else (k2 l0 l2 l4 w)) := rfl
theorem w_X10_goesSteps_51 {X : SCR} {d rc rs DR : Nat} {Q : PO → PH → Prop} {o : Unit} {w1 : MEM} {fu : Nat} {c_goesSteps : Nat → Int32 → Int32 → MEM → Option (Unit × MEM)} {k2 : Nat → Int32 → Int32 → MEM → Option (Unit × MEM)} (hd : 7 ≤ d) (hr : DR + 1 ≤ d) (hc_goesSteps : ∀ (a0 : Nat) (a1 : Int32) (a2 : Int32) (w : MEM) (h : PH) (o : Unit) (w1 : MEM), WH X h w → vo 10 a0 = true → c_goesSteps a0 a1 a2 w = some (o, w1) → CT DR M_X10_goesSteps [vR (1000, a0), vI a1, vI a2] h 0 0 (QP X (.inl none) w1)) (hq : ∀ h1, WH X h1 w1 → Q (.inl none) h1) (hk2 : ∀ (l0 : Nat) (l2 : Int32) (l3 : Int32) (w : MEM) (h : PH), WH X h w → vo 10 l0 = true → k2 l0 l2 l3 w = some (o, w1) → PW d M_X10_goesSteps Q rc rs 2 [vR (1000, l0), vU, vI l2, vI l3, vU, vU] [] h) : ∀ (n : Nat) (l0 : Nat) (l2 : Int32) (l3 : Int32) (l4 : Int32) (l5 : Int32) (w : MEM) (h : PH), WH X h w → vo 10 l0 = true → f_X10_goesSteps_51 fu c_goesSteps k2 n l0 l2 l3 l4 l5 w = some (o, w1) → PW d M_X10_goesSteps Q rc rs 51 [vR (1000, l0), vU, vI l2, vI l3, vI l4, vI l5] [] h := by
  intro n
  induction n with
  | zero => intro l0 l2 l3 l4 l5 w h wh hv_l0 hF; cases hF
  | succ n ih =>
    intro l0 l2 l3 l4 l5 w h wh hv_l0 hF
    replace hF := (E_X10_goesSteps_51 fu c_goesSteps k2 n l0 l2 l3 l4 l5 w).symm.trans hF
    refine r_X10_goesSteps_51 ?_
    refine gA_of (b := (1018, l0)) (wh.2.1 11035 _ rfl hv_l0) ?_
    obtain ⟨c, hF⟩ := ck_of hF
    refine xI_of wh (oA_1018 hv_l0) c ?_
    clear c
    refine ⟨fun c => ?_, fun c => ?_⟩
    · replace hF := if_ofT c hF
      refine gI_of (wh.1 11039 _ rfl hv_l0) ?_
      refine ⟨fun c => ?_, fun c => ?_⟩
      · replace hF := if_ofT c hF
        refine ⟨⟨_, wh.1 11000 _ rfl hv_l0⟩, ?_⟩
        obtain ⟨u2, w1, hG, hF⟩ := bnd_of hF
        refine cl_V hr (hc_goesSteps _ _ _ _ _ _ _ wh hv_l0 hG) ?_
        clear hG
        clear wh
        intro h wh
        exact ih _ _ _ _ _ _ _ wh hv_l0 hF
      · replace hF := if_ofF c hF
        exact hk2 _ _ _ _ _ wh hv_l0 hF
    · replace hF := if_ofF c hF
      exact hk2 _ _ _ _ _ wh hv_l0 hF
def f_X10_goesSteps_2 (fu : Nat) (c_goesSteps : Nat → Int32 → Int32 → MEM → Option (Unit × MEM)) : Nat → Nat → Int32 → Int32 → MEM → Option (Unit × MEM)
  | 0, _, _, _, _ => none
  | n + 1, l0, l2, l3, w => if l3 < l2 then (if (rS w (11039, l0)) < (200 : Int32) then (lt (sS w (11039, l0) ((rS w (11039, l0)) + (1 : Int32))) fun (w1 : MEM) => ck (bI l3 150) (if (rA w1 (1018, l0) l3) = (9 : Int32) then (ck (bI (l3 + (2 : Int32)) 150) (lt ((rA w1 (1018, l0) (l3 + (2 : Int32)))) fun (v6 : Int32) => f_X10_goesSteps_51 fu c_goesSteps (fun l0 l2 l3 w => f_X10_goesSteps_2 fu c_goesSteps n l0 l2 l3 w) fu l0 l2 l3 v6 (0 : Int32) w1)) else (ck (bI l3 150) (ck (bI (l3 + (1 : Int32)) 150) (ck (bI (l3 + (2 : Int32)) 150) (bnd (f_X10_goes fu l0 (rA w1 (1018, l0) l3) (rA w1 (1018, l0) (l3 + (1 : Int32))) (rA w1 (1018, l0) (l3 + (2 : Int32))) w1) fun (x3 : Int32) (w2 : MEM) => if x3 = 0 then (lt (sS w2 (11041, l0) ((rS w2 (11041, l0)) + (1 : Int32))) fun (w4 : MEM) => f_X10_goesSteps_2 fu c_goesSteps n l0 l2 (l3 + (3 : Int32)) w4) else (lt (sS w2 (11040, l0) ((rS w2 (11040, l0)) + (1 : Int32))) fun (w5 : MEM) => f_X10_goesSteps_2 fu c_goesSteps n l0 l2 (l3 + (3 : Int32)) w5))))))) else (some ((), w))) else (some ((), w))
theorem E_X10_goesSteps_2 (fu : Nat) (c_goesSteps : Nat → Int32 → Int32 → MEM → Option (Unit × MEM)) (n : Nat) (l0 : Nat) (l2 : Int32) (l3 : Int32) (w : MEM) : f_X10_goesSteps_2 fu c_goesSteps (n + 1) l0 l2 l3 w = if l3 < l2 then (if (rS w (11039, l0)) < (200 : Int32) then (lt (sS w (11039, l0) ((rS w (11039, l0)) + (1 : Int32))) fun (w1 : MEM) => ck (bI l3 150) (if (rA w1 (1018, l0) l3) = (9 : Int32) then (ck (bI (l3 + (2 : Int32)) 150) (lt ((rA w1 (1018, l0) (l3 + (2 : Int32)))) fun (v6 : Int32) => f_X10_goesSteps_51 fu c_goesSteps (fun l0 l2 l3 w => f_X10_goesSteps_2 fu c_goesSteps n l0 l2 l3 w) fu l0 l2 l3 v6 (0 : Int32) w1)) else (ck (bI l3 150) (ck (bI (l3 + (1 : Int32)) 150) (ck (bI (l3 + (2 : Int32)) 150) (bnd (f_X10_goes fu l0 (rA w1 (1018, l0) l3) (rA w1 (1018, l0) (l3 + (1 : Int32))) (rA w1 (1018, l0) (l3 + (2 : Int32))) w1) fun (x3 : Int32) (w2 : MEM) => if x3 = 0 then (lt (sS w2 (11041, l0) ((rS w2 (11041, l0)) + (1 : Int32))) fun (w4 : MEM) => f_X10_goesSteps_2 fu c_goesSteps n l0 l2 (l3 + (3 : Int32)) w4) else (lt (sS w2 (11040, l0) ((rS w2 (11040, l0)) + (1 : Int32))) fun (w5 : MEM) => f_X10_goesSteps_2 fu c_goesSteps n l0 l2 (l3 + (3 : Int32)) w5))))))) else (some ((), w))) else (some ((), w)) := rfl
theorem w_X10_goesSteps_2 {X : SCR} {d rc rs DR : Nat} {Q : PO → PH → Prop} {o : Unit} {w1 : MEM} {fu : Nat} {c_goesSteps : Nat → Int32 → Int32 → MEM → Option (Unit × MEM)} (hd : 7 ≤ d) (hr : DR + 1 ≤ d) (hc_goesSteps : ∀ (a0 : Nat) (a1 : Int32) (a2 : Int32) (w : MEM) (h : PH) (o : Unit) (w1 : MEM), WH X h w → vo 10 a0 = true → c_goesSteps a0 a1 a2 w = some (o, w1) → CT DR M_X10_goesSteps [vR (1000, a0), vI a1, vI a2] h 0 0 (QP X (.inl none) w1)) (hq : ∀ h1, WH X h1 w1 → Q (.inl none) h1) : ∀ (n : Nat) (l0 : Nat) (l2 : Int32) (l3 : Int32) (w : MEM) (h : PH), WH X h w → vo 10 l0 = true → f_X10_goesSteps_2 fu c_goesSteps n l0 l2 l3 w = some (o, w1) → PW d M_X10_goesSteps Q rc rs 2 [vR (1000, l0), vU, vI l2, vI l3, vU, vU] [] h := by
  intro n
  induction n with
  | zero => intro l0 l2 l3 w h wh hv_l0 hF; cases hF
  | succ n ih =>
    intro l0 l2 l3 w h wh hv_l0 hF
    replace hF := (E_X10_goesSteps_2 fu c_goesSteps n l0 l2 l3 w).symm.trans hF
    refine r_X10_goesSteps_2 ?_
    refine ⟨fun c => ?_, fun c => ?_⟩
    · replace hF := if_ofT c hF
      refine gI_of (wh.1 11039 _ rfl hv_l0) ?_
      refine ⟨fun c => ?_, fun c => ?_⟩
      · replace hF := if_ofT c hF
        refine gI_of (wh.1 11039 _ rfl hv_l0) ?_
        replace hF := lt_of hF
        refine sF_S wh rfl hv_l0 ?_
        clear wh
        intro h wh
        refine gA_of (b := (1018, l0)) (wh.2.1 11035 _ rfl hv_l0) ?_
        obtain ⟨c, hF⟩ := ck_of hF
        refine xI_of wh (oA_1018 hv_l0) c ?_
        clear c
        refine ⟨fun c => ?_, fun c => ?_⟩
        · replace hF := if_ofT c hF
          refine gA_of (b := (1018, l0)) (wh.2.1 11035 _ rfl hv_l0) ?_
          obtain ⟨c, hF⟩ := ck_of hF
          refine xI_of wh (oA_1018 hv_l0) c ?_
          clear c
          replace hF := lt_of hF
          exact w_X10_goesSteps_51 hd hr hc_goesSteps hq (fun l0 l2 l3 w h wh g0 hF => ih l0 l2 l3 w h wh g0 hF) fu _ _ _ _ _ _ _ wh hv_l0 hF
        · replace hF := if_ofF c hF
          refine gA_of (b := (1018, l0)) (wh.2.1 11035 _ rfl hv_l0) ?_
          obtain ⟨c, hF⟩ := ck_of hF
          refine xI_of wh (oA_1018 hv_l0) c ?_
          clear c
          refine gA_of (b := (1018, l0)) (wh.2.1 11035 _ rfl hv_l0) ?_
          obtain ⟨c, hF⟩ := ck_of hF
          refine xI_of wh (oA_1018 hv_l0) c ?_
          clear c
          refine gA_of (b := (1018, l0)) (wh.2.1 11035 _ rfl hv_l0) ?_
          obtain ⟨c, hF⟩ := ck_of hF
          refine xI_of wh (oA_1018 hv_l0) c ?_
          clear c
          refine ⟨⟨_, wh.1 11000 _ rfl hv_l0⟩, ?_⟩
          obtain ⟨x3, w2, hG, hF⟩ := bnd_of hF
          refine cl_I (D := 6) (Nat.le_trans (by decide) hd) (c_X10_goes wh hv_l0 hG) ?_
          clear hG
          clear wh
          intro h wh
          refine ⟨fun c => ?_, fun c => ?_⟩
          · replace hF := if_ofT c hF
            refine gI_of (wh.1 11041 _ rfl hv_l0) ?_
            replace hF := lt_of hF
            refine sF_S wh rfl hv_l0 ?_
            clear wh
            intro h wh
            exact ih _ _ _ _ _ wh hv_l0 hF
          · replace hF := if_ofF c hF
            refine gI_of (wh.1 11040 _ rfl hv_l0) ?_
            replace hF := lt_of hF
            refine sF_S wh rfl hv_l0 ?_
            clear wh
            intro h wh
            exact ih _ _ _ _ _ wh hv_l0 hF
      · replace hF := if_ofF c hF
        obtain ⟨rfl, rfl⟩ := some_of hF
        exact hq _ wh
    · replace hF := if_ofF c hF
      obtain ⟨rfl, rfl⟩ := some_of hF
      exact hq _ wh
def b_X10_goesSteps (fu : Nat) (c_goesSteps : Nat → Int32 → Int32 → MEM → Option (Unit × MEM)) (l0 : Nat) (l1 : Int32) (l2 : Int32) (w : MEM) : Option (Unit × MEM) := f_X10_goesSteps_2 fu c_goesSteps fu l0 l2 l1 w
theorem E_X10_goesSteps (fu : Nat) (c_goesSteps : Nat → Int32 → Int32 → MEM → Option (Unit × MEM)) (l0 : Nat) (l1 : Int32) (l2 : Int32) (w : MEM) : b_X10_goesSteps fu c_goesSteps l0 l1 l2 w = f_X10_goesSteps_2 fu c_goesSteps fu l0 l2 l1 w := rfl
theorem w_X10_goesSteps {X : SCR} {d rc rs DR : Nat} {Q : PO → PH → Prop} {o : Unit} {w1 : MEM} {fu : Nat} {c_goesSteps : Nat → Int32 → Int32 → MEM → Option (Unit × MEM)} (hd : 7 ≤ d) (hr : DR + 1 ≤ d) (hc_goesSteps : ∀ (a0 : Nat) (a1 : Int32) (a2 : Int32) (w : MEM) (h : PH) (o : Unit) (w1 : MEM), WH X h w → vo 10 a0 = true → c_goesSteps a0 a1 a2 w = some (o, w1) → CT DR M_X10_goesSteps [vR (1000, a0), vI a1, vI a2] h 0 0 (QP X (.inl none) w1)) (hq : ∀ h1, WH X h1 w1 → Q (.inl none) h1) {l0 : Nat} {l1 : Int32} {l2 : Int32} {w : MEM} {h : PH} (wh : WH X h w) (hv_l0 : vo 10 l0 = true) (hF : b_X10_goesSteps fu c_goesSteps l0 l1 l2 w = some (o, w1)) : PW d M_X10_goesSteps Q rc rs 0 [vR (1000, l0), vI l1, vI l2, vU, vU, vU] [] h := by
  replace hF := (E_X10_goesSteps fu c_goesSteps l0 l1 l2 w).symm.trans hF
  refine r_X10_goesSteps_0 ?_
  exact w_X10_goesSteps_2 hd hr hc_goesSteps hq  fu _ _ _ _ _ wh hv_l0 hF
def f_X10_goesSteps (fu : Nat) : Nat → Nat → Int32 → Int32 → MEM → Option (Unit × MEM)
  | 0 => fun _ _ _ _ => none
  | n + 1 => b_X10_goesSteps fu (f_X10_goesSteps fu n)
theorem Et_X10_goesSteps (fu n : Nat) (a0 : Nat) (a1 : Int32) (a2 : Int32) (w : MEM) : f_X10_goesSteps fu (n + 1) a0 a1 a2 w = b_X10_goesSteps fu (f_X10_goesSteps fu n) a0 a1 a2 w := rfl
theorem C_X10_goesSteps {X : SCR} (fu : Nat) : ∀ n, (∀ (a0 : Nat) (a1 : Int32) (a2 : Int32) (w : MEM) (h : PH) (o : Unit) (w1 : MEM), WH X h w → vo 10 a0 = true → f_X10_goesSteps fu n a0 a1 a2 w = some (o, w1) → CT (7 + n) M_X10_goesSteps [vR (1000, a0), vI a1, vI a2] h 0 0 (QP X (.inl none) w1)) := by
  intro n
  induction n with
  | zero => exact fun _ _ _ _ _ _ _ _ _ hF => (by cases hF)
  | succ n ih =>
    · intro a0 a1 a2 w h o w1 wh g0 hF
      exact CT_of mk_X10_goesSteps (Nat.le_of_ble_eq_true rfl) rfl (w_X10_goesSteps (DR := 7 + n) (rc := 0) (rs := 0) (hd := by omega) (hr := by omega) (hc_goesSteps := ih) (hq := fun h1 g => ⟨rfl, g⟩) wh g0 ((Et_X10_goesSteps fu n a0 a1 a2 w).symm.trans hF))
theorem c_X10_goesSteps {X : SCR} {fu : Nat} {o : Unit} {w1 : MEM} {a0 : Nat} {a1 : Int32} {a2 : Int32} {w : MEM} {h : PH} (wh : WH X h w) (h0 : vo 10 a0 = true) (hF : f_X10_goesSteps fu 40 a0 a1 a2 w = some (o, w1)) : CT 47 M_X10_goesSteps [vR (1000, a0), vI a1, vI a2] h 0 0 (QP X (.inl none) w1) := (C_X10_goesSteps fu 40) a0 a1 a2 w h o w1 wh h0 hF
-- X10_work
def f_X10_work_123 (fu : Nat) : Nat → Nat → Int32 → MEM → Option (Int32 × MEM)
  | 0, _, _, _ => none
  | n + 1, l0, l3, w => if l3 < (57 : Int32) then (ck (bI l3 57) (ck (bI (((57 : Int32) * (rS w (11037, l0))) + l3) 912) (lt (sA w (1021, l0) (((57 : Int32) * (rS w (11037, l0))) + l3) (rA w (1019, l0) l3)) fun (w12 : MEM) => f_X10_work_123 fu n l0 (l3 + (1 : Int32)) w12))) else (lt (sS w (11037, l0) ((rS w (11037, l0)) + (1 : Int32))) fun (w1 : MEM) => bnd (f_X10_take fu l0 w1) fun (u3 : Unit) (w2 : MEM) => lt (sS w2 (11039, l0) (0 : Int32)) fun (w4 : MEM) => lt (sS w4 (11040, l0) (0 : Int32)) fun (w5 : MEM) => lt (sS w5 (11041, l0) (0 : Int32)) fun (w6 : MEM) => bnd (f_X10_goesSteps fu 40 l0 (0 : Int32) (rS w6 (11036, l0)) w6) fun (u8 : Unit) (w7 : MEM) => bnd (f_X10_copies fu l0 (1020, l0) (1019, l0) (57 : Int32) w7) fun (u10 : Unit) (w9 : MEM) => lt (sS w9 (11038, l0) (rS w9 (11041, l0))) fun (w11 : MEM) => some ((rS w11 (11040, l0)), w11))
theorem E_X10_work_123 (fu : Nat) (n : Nat) (l0 : Nat) (l3 : Int32) (w : MEM) : f_X10_work_123 fu (n + 1) l0 l3 w = if l3 < (57 : Int32) then (ck (bI l3 57) (ck (bI (((57 : Int32) * (rS w (11037, l0))) + l3) 912) (lt (sA w (1021, l0) (((57 : Int32) * (rS w (11037, l0))) + l3) (rA w (1019, l0) l3)) fun (w12 : MEM) => f_X10_work_123 fu n l0 (l3 + (1 : Int32)) w12))) else (lt (sS w (11037, l0) ((rS w (11037, l0)) + (1 : Int32))) fun (w1 : MEM) => bnd (f_X10_take fu l0 w1) fun (u3 : Unit) (w2 : MEM) => lt (sS w2 (11039, l0) (0 : Int32)) fun (w4 : MEM) => lt (sS w4 (11040, l0) (0 : Int32)) fun (w5 : MEM) => lt (sS w5 (11041, l0) (0 : Int32)) fun (w6 : MEM) => bnd (f_X10_goesSteps fu 40 l0 (0 : Int32) (rS w6 (11036, l0)) w6) fun (u8 : Unit) (w7 : MEM) => bnd (f_X10_copies fu l0 (1020, l0) (1019, l0) (57 : Int32) w7) fun (u10 : Unit) (w9 : MEM) => lt (sS w9 (11038, l0) (rS w9 (11041, l0))) fun (w11 : MEM) => some ((rS w11 (11040, l0)), w11)) := rfl
theorem w_X10_work_123 {X : SCR} {d rc rs : Nat} {Q : PO → PH → Prop} {o : Int32} {w1 : MEM} {fu : Nat} (hd : 49 ≤ d) (hq : ∀ h1, WH X h1 w1 → Q (.inl (some (vI o))) h1) : ∀ (n : Nat) (l0 : Nat) (l3 : Int32) (w : MEM) (h : PH), WH X h w → vo 10 l0 = true → f_X10_work_123 fu n l0 l3 w = some (o, w1) → PW d M_X10_work Q rc rs 123 [vR (1000, l0), vU, vU, vI l3] [] h := by
  intro n
  induction n with
  | zero => intro l0 l3 w h wh hv_l0 hF; cases hF
  | succ n ih =>
    intro l0 l3 w h wh hv_l0 hF
    replace hF := (E_X10_work_123 fu n l0 l3 w).symm.trans hF
    refine r_X10_work_123 ?_
    refine ⟨fun c => ?_, fun c => ?_⟩
    · replace hF := if_ofT c hF
      refine gA_of (b := (1021, l0)) (wh.2.1 11044 _ rfl hv_l0) ?_
      refine gI_of (wh.1 11037 _ rfl hv_l0) ?_
      refine gA_of (b := (1019, l0)) (wh.2.1 11042 _ rfl hv_l0) ?_
      obtain ⟨c, hF⟩ := ck_of hF
      refine xI_of wh (oA_1019 hv_l0) c ?_
      clear c
      obtain ⟨c, hF⟩ := ck_of hF
      replace hF := lt_of hF
      refine yI_of wh (oA_1021 hv_l0) c ?_
      clear c wh
      intro h wh
      exact ih _ _ _ _ wh hv_l0 hF
    · replace hF := if_ofF c hF
      refine gI_of (wh.1 11037 _ rfl hv_l0) ?_
      replace hF := lt_of hF
      refine sF_S wh rfl hv_l0 ?_
      clear wh
      intro h wh
      refine ⟨⟨_, wh.1 11000 _ rfl hv_l0⟩, ?_⟩
      obtain ⟨u3, w2, hG, hF⟩ := bnd_of hF
      refine cl_V (D := 1) (Nat.le_trans (by decide) hd) (c_X10_take wh hv_l0 hG) ?_
      clear hG
      clear wh
      intro h wh
      replace hF := lt_of hF
      refine sF_S wh rfl hv_l0 ?_
      clear wh
      intro h wh
      replace hF := lt_of hF
      refine sF_S wh rfl hv_l0 ?_
      clear wh
      intro h wh
      replace hF := lt_of hF
      refine sF_S wh rfl hv_l0 ?_
      clear wh
      intro h wh
      refine gI_of (wh.1 11036 _ rfl hv_l0) ?_
      refine ⟨⟨_, wh.1 11000 _ rfl hv_l0⟩, ?_⟩
      obtain ⟨u8, w7, hG, hF⟩ := bnd_of hF
      refine cl_V (D := 47) (Nat.le_trans (by decide) hd) (c_X10_goesSteps wh hv_l0 hG) ?_
      clear hG
      clear wh
      intro h wh
      refine gA_of (b := (1020, l0)) (wh.2.1 11043 _ rfl hv_l0) ?_
      refine gA_of (b := (1019, l0)) (wh.2.1 11042 _ rfl hv_l0) ?_
      refine ⟨⟨_, wh.1 11000 _ rfl hv_l0⟩, ?_⟩
      obtain ⟨u10, w9, hG, hF⟩ := bnd_of hF
      refine cl_V (D := 0) (Nat.le_trans (by decide) hd) (c_X10_copies wh hv_l0 (oA_1020 hv_l0) (oA_1019 hv_l0) hG) ?_
      clear hG
      clear wh
      intro h wh
      refine gI_of (wh.1 11041 _ rfl hv_l0) ?_
      replace hF := lt_of hF
      refine sF_S wh rfl hv_l0 ?_
      clear wh
      intro h wh
      refine gI_of (wh.1 11040 _ rfl hv_l0) ?_
      obtain ⟨rfl, rfl⟩ := some_of hF
      exact hq _ wh
def f_X10_work_68 (fu : Nat) : Nat → Nat → MEM → Option (Int32 × MEM)
  | 0, _, _ => none
  | n + 1, l0, w => bnd (f_X10_fine fu l0 w) fun (x2 : Int32) (w1 : MEM) => if x2 = 0 then (bnd (f_X10_result fu l0 (0 : Int32) w1) fun (x4 : Int32) (w3 : MEM) => if (rS w3 (11005, l0)) = (-1 : Int32) then (bnd (f_X10_copies fu l0 (1017, l0) (1018, l0) (rS w3 (11036, l0)) w3) fun (u6 : Unit) (w5 : MEM) => f_X10_work_123 fu fu l0 (0 : Int32) w5) else (some (x4, w3))) else (bnd (f_X10_isMore fu l0 w1) fun (x8 : Int32) (w7 : MEM) => if x8 = 0 then (bnd (f_X10_result fu l0 (0 : Int32) w7) fun (x10 : Int32) (w9 : MEM) => if (rS w9 (11005, l0)) = (-1 : Int32) then (bnd (f_X10_copies fu l0 (1017, l0) (1018, l0) (rS w9 (11036, l0)) w9) fun (u12 : Unit) (w11 : MEM) => f_X10_work_123 fu fu l0 (0 : Int32) w11) else (some (x10, w9))) else (bnd (f_X10_readStep fu 40 l0 w7) fun (u14 : Unit) (w13 : MEM) => f_X10_work_68 fu n l0 w13))
theorem E_X10_work_68 (fu : Nat) (n : Nat) (l0 : Nat) (w : MEM) : f_X10_work_68 fu (n + 1) l0 w = bnd (f_X10_fine fu l0 w) fun (x2 : Int32) (w1 : MEM) => if x2 = 0 then (bnd (f_X10_result fu l0 (0 : Int32) w1) fun (x4 : Int32) (w3 : MEM) => if (rS w3 (11005, l0)) = (-1 : Int32) then (bnd (f_X10_copies fu l0 (1017, l0) (1018, l0) (rS w3 (11036, l0)) w3) fun (u6 : Unit) (w5 : MEM) => f_X10_work_123 fu fu l0 (0 : Int32) w5) else (some (x4, w3))) else (bnd (f_X10_isMore fu l0 w1) fun (x8 : Int32) (w7 : MEM) => if x8 = 0 then (bnd (f_X10_result fu l0 (0 : Int32) w7) fun (x10 : Int32) (w9 : MEM) => if (rS w9 (11005, l0)) = (-1 : Int32) then (bnd (f_X10_copies fu l0 (1017, l0) (1018, l0) (rS w9 (11036, l0)) w9) fun (u12 : Unit) (w11 : MEM) => f_X10_work_123 fu fu l0 (0 : Int32) w11) else (some (x10, w9))) else (bnd (f_X10_readStep fu 40 l0 w7) fun (u14 : Unit) (w13 : MEM) => f_X10_work_68 fu n l0 w13)) := rfl
theorem w_X10_work_68 {X : SCR} {d rc rs : Nat} {Q : PO → PH → Prop} {o : Int32} {w1 : MEM} {fu : Nat} (hd : 49 ≤ d) (hq : ∀ h1, WH X h1 w1 → Q (.inl (some (vI o))) h1) : ∀ (n : Nat) (l0 : Nat) (w : MEM) (h : PH), WH X h w → vo 10 l0 = true → f_X10_work_68 fu n l0 w = some (o, w1) → PW d M_X10_work Q rc rs 68 [vR (1000, l0), vU, vU, vU] [] h := by
  intro n
  induction n with
  | zero => intro l0 w h wh hv_l0 hF; cases hF
  | succ n ih =>
    intro l0 w h wh hv_l0 hF
    replace hF := (E_X10_work_68 fu n l0 w).symm.trans hF
    refine r_X10_work_68 ?_
    refine ⟨⟨_, wh.1 11000 _ rfl hv_l0⟩, ?_⟩
    obtain ⟨x2, w1, hG, hF⟩ := bnd_of hF
    refine cl_I (D := 0) (Nat.le_trans (by decide) hd) (c_X10_fine wh hv_l0 hG) ?_
    clear hG
    clear wh
    intro h wh
    refine ⟨fun c => ?_, fun c => ?_⟩
    · replace hF := if_ofT c hF
      refine ⟨⟨_, wh.1 11000 _ rfl hv_l0⟩, ?_⟩
      obtain ⟨x4, w3, hG, hF⟩ := bnd_of hF
      refine cl_I (D := 1) (Nat.le_trans (by decide) hd) (c_X10_result wh hv_l0 hG) ?_
      clear hG
      clear wh
      intro h wh
      refine gI_of (wh.1 11005 _ rfl hv_l0) ?_
      refine ⟨fun c => ?_, fun c => ?_⟩
      · replace hF := if_ofT c hF
        refine gA_of (b := (1017, l0)) (wh.2.1 11034 _ rfl hv_l0) ?_
        refine gA_of (b := (1018, l0)) (wh.2.1 11035 _ rfl hv_l0) ?_
        refine gI_of (wh.1 11036 _ rfl hv_l0) ?_
        refine ⟨⟨_, wh.1 11000 _ rfl hv_l0⟩, ?_⟩
        obtain ⟨u6, w5, hG, hF⟩ := bnd_of hF
        refine cl_V (D := 0) (Nat.le_trans (by decide) hd) (c_X10_copies wh hv_l0 (oA_1017 hv_l0) (oA_1018 hv_l0) hG) ?_
        clear hG
        clear wh
        intro h wh
        exact w_X10_work_123 hd hq  fu _ _ _ _ wh hv_l0 hF
      · replace hF := if_ofF c hF
        obtain ⟨rfl, rfl⟩ := some_of hF
        exact hq _ wh
    · replace hF := if_ofF c hF
      refine ⟨⟨_, wh.1 11000 _ rfl hv_l0⟩, ?_⟩
      obtain ⟨x8, w7, hG, hF⟩ := bnd_of hF
      refine cl_I (D := 1) (Nat.le_trans (by decide) hd) (c_X10_isMore wh hv_l0 hG) ?_
      clear hG
      clear wh
      intro h wh
      refine ⟨fun c => ?_, fun c => ?_⟩
      · replace hF := if_ofT c hF
        refine ⟨⟨_, wh.1 11000 _ rfl hv_l0⟩, ?_⟩
        obtain ⟨x10, w9, hG, hF⟩ := bnd_of hF
        refine cl_I (D := 1) (Nat.le_trans (by decide) hd) (c_X10_result wh hv_l0 hG) ?_
        clear hG
        clear wh
        intro h wh
        refine gI_of (wh.1 11005 _ rfl hv_l0) ?_
        refine ⟨fun c => ?_, fun c => ?_⟩
        · replace hF := if_ofT c hF
          refine gA_of (b := (1017, l0)) (wh.2.1 11034 _ rfl hv_l0) ?_
          refine gA_of (b := (1018, l0)) (wh.2.1 11035 _ rfl hv_l0) ?_
          refine gI_of (wh.1 11036 _ rfl hv_l0) ?_
          refine ⟨⟨_, wh.1 11000 _ rfl hv_l0⟩, ?_⟩
          obtain ⟨u12, w11, hG, hF⟩ := bnd_of hF
          refine cl_V (D := 0) (Nat.le_trans (by decide) hd) (c_X10_copies wh hv_l0 (oA_1017 hv_l0) (oA_1018 hv_l0) hG) ?_
          clear hG
          clear wh
          intro h wh
          exact w_X10_work_123 hd hq  fu _ _ _ _ wh hv_l0 hF
        · replace hF := if_ofF c hF
          obtain ⟨rfl, rfl⟩ := some_of hF
          exact hq _ wh
      · replace hF := if_ofF c hF
        refine ⟨⟨_, wh.1 11000 _ rfl hv_l0⟩, ?_⟩
        obtain ⟨u14, w13, hG, hF⟩ := bnd_of hF
        refine cl_V (D := 48) (Nat.le_trans (by decide) hd) (c_X10_readStep wh hv_l0 hG) ?_
        clear hG
        clear wh
        intro h wh
        exact ih _ _ _ wh hv_l0 hF
def f_X10_work (fu : Nat) (l0 : Nat) (l1 : Int32) (w : MEM) : Option (Int32 × MEM) := lt (sS w (11000, l0) (0 : Int32)) fun (w1 : MEM) => if l1 < 0 then (bnd (f_X10_may fu l0 (0 : Int32) (1 : Int32) (1 : Int32) w1) fun (x3 : Int32) (w2 : MEM) => if x3 = 0 then (some ((0 : Int32), w2)) else (bnd (f_X10_begins fu l0 l1 w2) fun (u5 : Unit) (w4 : MEM) => if (rS w4 (11037, l0)) = (16 : Int32) then (bnd (f_X10_result fu l0 (0 : Int32) w4) fun (x8 : Int32) (w7 : MEM) => some ((-20 : Int32), w7)) else (lt (sS w4 (11036, l0) (0 : Int32)) fun (w6 : MEM) => f_X10_work_68 fu fu l0 w6))) else (if (rS w1 (11002, l0)) < l1 then (bnd (f_X10_may fu l0 (0 : Int32) (1 : Int32) (1 : Int32) w1) fun (x10 : Int32) (w9 : MEM) => if x10 = 0 then (some ((0 : Int32), w9)) else (bnd (f_X10_begins fu l0 l1 w9) fun (u12 : Unit) (w11 : MEM) => if (rS w11 (11037, l0)) = (16 : Int32) then (bnd (f_X10_result fu l0 (0 : Int32) w11) fun (x15 : Int32) (w14 : MEM) => some ((-20 : Int32), w14)) else (lt (sS w11 (11036, l0) (0 : Int32)) fun (w13 : MEM) => f_X10_work_68 fu fu l0 w13))) else (if (150 : Int32) < l1 then (bnd (f_X10_may fu l0 (0 : Int32) (1 : Int32) (1 : Int32) w1) fun (x17 : Int32) (w16 : MEM) => if x17 = 0 then (some ((0 : Int32), w16)) else (bnd (f_X10_begins fu l0 l1 w16) fun (u19 : Unit) (w18 : MEM) => if (rS w18 (11037, l0)) = (16 : Int32) then (bnd (f_X10_result fu l0 (0 : Int32) w18) fun (x22 : Int32) (w21 : MEM) => some ((-20 : Int32), w21)) else (lt (sS w18 (11036, l0) (0 : Int32)) fun (w20 : MEM) => f_X10_work_68 fu fu l0 w20))) else (bnd (f_X10_may fu l0 (1 : Int32) (1 : Int32) (1 : Int32) w1) fun (x24 : Int32) (w23 : MEM) => if x24 = 0 then (some ((0 : Int32), w23)) else (bnd (f_X10_begins fu l0 l1 w23) fun (u26 : Unit) (w25 : MEM) => if (rS w25 (11037, l0)) = (16 : Int32) then (bnd (f_X10_result fu l0 (0 : Int32) w25) fun (x29 : Int32) (w28 : MEM) => some ((-20 : Int32), w28)) else (lt (sS w25 (11036, l0) (0 : Int32)) fun (w27 : MEM) => f_X10_work_68 fu fu l0 w27)))))
theorem E_X10_work (fu : Nat) (l0 : Nat) (l1 : Int32) (w : MEM) : f_X10_work fu l0 l1 w = lt (sS w (11000, l0) (0 : Int32)) fun (w1 : MEM) => if l1 < 0 then (bnd (f_X10_may fu l0 (0 : Int32) (1 : Int32) (1 : Int32) w1) fun (x3 : Int32) (w2 : MEM) => if x3 = 0 then (some ((0 : Int32), w2)) else (bnd (f_X10_begins fu l0 l1 w2) fun (u5 : Unit) (w4 : MEM) => if (rS w4 (11037, l0)) = (16 : Int32) then (bnd (f_X10_result fu l0 (0 : Int32) w4) fun (x8 : Int32) (w7 : MEM) => some ((-20 : Int32), w7)) else (lt (sS w4 (11036, l0) (0 : Int32)) fun (w6 : MEM) => f_X10_work_68 fu fu l0 w6))) else (if (rS w1 (11002, l0)) < l1 then (bnd (f_X10_may fu l0 (0 : Int32) (1 : Int32) (1 : Int32) w1) fun (x10 : Int32) (w9 : MEM) => if x10 = 0 then (some ((0 : Int32), w9)) else (bnd (f_X10_begins fu l0 l1 w9) fun (u12 : Unit) (w11 : MEM) => if (rS w11 (11037, l0)) = (16 : Int32) then (bnd (f_X10_result fu l0 (0 : Int32) w11) fun (x15 : Int32) (w14 : MEM) => some ((-20 : Int32), w14)) else (lt (sS w11 (11036, l0) (0 : Int32)) fun (w13 : MEM) => f_X10_work_68 fu fu l0 w13))) else (if (150 : Int32) < l1 then (bnd (f_X10_may fu l0 (0 : Int32) (1 : Int32) (1 : Int32) w1) fun (x17 : Int32) (w16 : MEM) => if x17 = 0 then (some ((0 : Int32), w16)) else (bnd (f_X10_begins fu l0 l1 w16) fun (u19 : Unit) (w18 : MEM) => if (rS w18 (11037, l0)) = (16 : Int32) then (bnd (f_X10_result fu l0 (0 : Int32) w18) fun (x22 : Int32) (w21 : MEM) => some ((-20 : Int32), w21)) else (lt (sS w18 (11036, l0) (0 : Int32)) fun (w20 : MEM) => f_X10_work_68 fu fu l0 w20))) else (bnd (f_X10_may fu l0 (1 : Int32) (1 : Int32) (1 : Int32) w1) fun (x24 : Int32) (w23 : MEM) => if x24 = 0 then (some ((0 : Int32), w23)) else (bnd (f_X10_begins fu l0 l1 w23) fun (u26 : Unit) (w25 : MEM) => if (rS w25 (11037, l0)) = (16 : Int32) then (bnd (f_X10_result fu l0 (0 : Int32) w25) fun (x29 : Int32) (w28 : MEM) => some ((-20 : Int32), w28)) else (lt (sS w25 (11036, l0) (0 : Int32)) fun (w27 : MEM) => f_X10_work_68 fu fu l0 w27))))) := rfl
theorem w_X10_work {X : SCR} {d rc rs : Nat} {Q : PO → PH → Prop} {o : Int32} {w1 : MEM} {fu : Nat} (hd : 49 ≤ d) (hq : ∀ h1, WH X h1 w1 → Q (.inl (some (vI o))) h1) {l0 : Nat} {l1 : Int32} {w : MEM} {h : PH} (wh : WH X h w) (hv_l0 : vo 10 l0 = true) (hF : f_X10_work fu l0 l1 w = some (o, w1)) : PW d M_X10_work Q rc rs 0 [vR (1000, l0), vI l1, vU, vU] [] h := by
  replace hF := (E_X10_work fu l0 l1 w).symm.trans hF
  refine r_X10_work_0 ?_
  replace hF := lt_of hF
  refine sF_S wh rfl hv_l0 ?_
  clear wh
  intro h wh
  refine ⟨fun c => ?_, fun c => ?_⟩
  · replace hF := if_ofT c hF
    refine ⟨⟨_, wh.1 11000 _ rfl hv_l0⟩, ?_⟩
    obtain ⟨x3, w2, hG, hF⟩ := bnd_of hF
    refine cl_I (D := 0) (Nat.le_trans (by decide) hd) (c_X10_may wh hv_l0 hG) ?_
    clear hG
    clear wh
    intro h wh
    refine ⟨fun c => ?_, fun c => ?_⟩
    · replace hF := if_ofT c hF
      obtain ⟨rfl, rfl⟩ := some_of hF
      exact hq _ wh
    · replace hF := if_ofF c hF
      refine ⟨⟨_, wh.1 11000 _ rfl hv_l0⟩, ?_⟩
      obtain ⟨u5, w4, hG, hF⟩ := bnd_of hF
      refine cl_V (D := 0) (Nat.le_trans (by decide) hd) (c_X10_begins wh hv_l0 hG) ?_
      clear hG
      clear wh
      intro h wh
      refine gI_of (wh.1 11037 _ rfl hv_l0) ?_
      refine ⟨fun c => ?_, fun c => ?_⟩
      · replace hF := if_ofT c hF
        refine ⟨⟨_, wh.1 11000 _ rfl hv_l0⟩, ?_⟩
        obtain ⟨x8, w7, hG, hF⟩ := bnd_of hF
        refine cl_I (D := 1) (Nat.le_trans (by decide) hd) (c_X10_result wh hv_l0 hG) ?_
        clear hG
        clear wh
        intro h wh
        obtain ⟨rfl, rfl⟩ := some_of hF
        exact hq _ wh
      · replace hF := if_ofF c hF
        replace hF := lt_of hF
        refine sF_S wh rfl hv_l0 ?_
        clear wh
        intro h wh
        exact w_X10_work_68 hd hq  fu _ _ _ wh hv_l0 hF
  · replace hF := if_ofF c hF
    refine gI_of (wh.1 11002 _ rfl hv_l0) ?_
    refine ⟨fun c => ?_, fun c => ?_⟩
    · replace hF := if_ofT c hF
      refine ⟨⟨_, wh.1 11000 _ rfl hv_l0⟩, ?_⟩
      obtain ⟨x10, w9, hG, hF⟩ := bnd_of hF
      refine cl_I (D := 0) (Nat.le_trans (by decide) hd) (c_X10_may wh hv_l0 hG) ?_
      clear hG
      clear wh
      intro h wh
      refine ⟨fun c => ?_, fun c => ?_⟩
      · replace hF := if_ofT c hF
        obtain ⟨rfl, rfl⟩ := some_of hF
        exact hq _ wh
      · replace hF := if_ofF c hF
        refine ⟨⟨_, wh.1 11000 _ rfl hv_l0⟩, ?_⟩
        obtain ⟨u12, w11, hG, hF⟩ := bnd_of hF
        refine cl_V (D := 0) (Nat.le_trans (by decide) hd) (c_X10_begins wh hv_l0 hG) ?_
        clear hG
        clear wh
        intro h wh
        refine gI_of (wh.1 11037 _ rfl hv_l0) ?_
        refine ⟨fun c => ?_, fun c => ?_⟩
        · replace hF := if_ofT c hF
          refine ⟨⟨_, wh.1 11000 _ rfl hv_l0⟩, ?_⟩
          obtain ⟨x15, w14, hG, hF⟩ := bnd_of hF
          refine cl_I (D := 1) (Nat.le_trans (by decide) hd) (c_X10_result wh hv_l0 hG) ?_
          clear hG
          clear wh
          intro h wh
          obtain ⟨rfl, rfl⟩ := some_of hF
          exact hq _ wh
        · replace hF := if_ofF c hF
          replace hF := lt_of hF
          refine sF_S wh rfl hv_l0 ?_
          clear wh
          intro h wh
          exact w_X10_work_68 hd hq  fu _ _ _ wh hv_l0 hF
    · replace hF := if_ofF c hF
      refine ⟨fun c => ?_, fun c => ?_⟩
      · replace hF := if_ofT c hF
        refine ⟨⟨_, wh.1 11000 _ rfl hv_l0⟩, ?_⟩
        obtain ⟨x17, w16, hG, hF⟩ := bnd_of hF
        refine cl_I (D := 0) (Nat.le_trans (by decide) hd) (c_X10_may wh hv_l0 hG) ?_
        clear hG
        clear wh
        intro h wh
        refine ⟨fun c => ?_, fun c => ?_⟩
        · replace hF := if_ofT c hF
          obtain ⟨rfl, rfl⟩ := some_of hF
          exact hq _ wh
        · replace hF := if_ofF c hF
          refine ⟨⟨_, wh.1 11000 _ rfl hv_l0⟩, ?_⟩
          obtain ⟨u19, w18, hG, hF⟩ := bnd_of hF
          refine cl_V (D := 0) (Nat.le_trans (by decide) hd) (c_X10_begins wh hv_l0 hG) ?_
          clear hG
          clear wh
          intro h wh
          refine gI_of (wh.1 11037 _ rfl hv_l0) ?_
          refine ⟨fun c => ?_, fun c => ?_⟩
          · replace hF := if_ofT c hF
            refine ⟨⟨_, wh.1 11000 _ rfl hv_l0⟩, ?_⟩
            obtain ⟨x22, w21, hG, hF⟩ := bnd_of hF
            refine cl_I (D := 1) (Nat.le_trans (by decide) hd) (c_X10_result wh hv_l0 hG) ?_
            clear hG
            clear wh
            intro h wh
            obtain ⟨rfl, rfl⟩ := some_of hF
            exact hq _ wh
          · replace hF := if_ofF c hF
            replace hF := lt_of hF
            refine sF_S wh rfl hv_l0 ?_
            clear wh
            intro h wh
            exact w_X10_work_68 hd hq  fu _ _ _ wh hv_l0 hF
      · replace hF := if_ofF c hF
        refine ⟨⟨_, wh.1 11000 _ rfl hv_l0⟩, ?_⟩
        obtain ⟨x24, w23, hG, hF⟩ := bnd_of hF
        refine cl_I (D := 0) (Nat.le_trans (by decide) hd) (c_X10_may wh hv_l0 hG) ?_
        clear hG
        clear wh
        intro h wh
        refine ⟨fun c => ?_, fun c => ?_⟩
        · replace hF := if_ofT c hF
          obtain ⟨rfl, rfl⟩ := some_of hF
          exact hq _ wh
        · replace hF := if_ofF c hF
          refine ⟨⟨_, wh.1 11000 _ rfl hv_l0⟩, ?_⟩
          obtain ⟨u26, w25, hG, hF⟩ := bnd_of hF
          refine cl_V (D := 0) (Nat.le_trans (by decide) hd) (c_X10_begins wh hv_l0 hG) ?_
          clear hG
          clear wh
          intro h wh
          refine gI_of (wh.1 11037 _ rfl hv_l0) ?_
          refine ⟨fun c => ?_, fun c => ?_⟩
          · replace hF := if_ofT c hF
            refine ⟨⟨_, wh.1 11000 _ rfl hv_l0⟩, ?_⟩
            obtain ⟨x29, w28, hG, hF⟩ := bnd_of hF
            refine cl_I (D := 1) (Nat.le_trans (by decide) hd) (c_X10_result wh hv_l0 hG) ?_
            clear hG
            clear wh
            intro h wh
            obtain ⟨rfl, rfl⟩ := some_of hF
            exact hq _ wh
          · replace hF := if_ofF c hF
            replace hF := lt_of hF
            refine sF_S wh rfl hv_l0 ?_
            clear wh
            intro h wh
            exact w_X10_work_68 hd hq  fu _ _ _ wh hv_l0 hF
theorem c_X10_work {X : SCR} {fu : Nat} {o : Int32} {w1 : MEM} {a0 : Nat} {a1 : Int32} {w : MEM} {h : PH} (wh : WH X h w) (h0 : vo 10 a0 = true) (hF : f_X10_work fu a0 a1 w = some (o, w1)) : CT 49 M_X10_work [vR (1000, a0), vI a1] h 0 0 (QP X (.inl (some (vI o))) w1) :=
  CT_of mk_X10_work (Nat.le_of_ble_eq_true rfl) rfl (w_X10_work (fu := fu) (rc := 0) (rs := 0) (hd := Nat.le_refl 49) (hq := fun h1 g => ⟨rfl, g⟩) wh h0 hF)
-- X10_ranked
def f_X10_ranked_31 (fu : Nat) (k2 : Nat → Int32 → Int32 → MEM → Option (Int32 × MEM)) : Nat → Nat → Int32 → Int32 → Int32 → Int32 → MEM → Option (Int32 × MEM)
  | 0, _, _, _, _, _, _ => none
  | n + 1, l0, l1, l2, l3, l4, w => if l4 < (rS w (11022, l0)) then (ck (bI ((42 : Int32) + l4) 57) (if (rA w (1020, l0) ((42 : Int32) + l4)) = (-1 : Int32) then (lt ((l3 + (0 : Int32))) fun (v1 : Int32) => f_X10_ranked_31 fu k2 n l0 l1 l2 v1 (l4 + (1 : Int32)) w) else (ck (bI ((42 : Int32) + l4) 57) (ck (bI ((42 : Int32) + l2) 57) (if (rA w (1020, l0) ((42 : Int32) + l4)) < (rA w (1020, l0) ((42 : Int32) + l2)) then (lt ((l3 + (1 : Int32))) fun (v2 : Int32) => f_X10_ranked_31 fu k2 n l0 l1 l2 v2 (l4 + (1 : Int32)) w) else (ck (bI ((42 : Int32) + l4) 57) (ck (bI ((42 : Int32) + l2) 57) (if (rA w (1020, l0) ((42 : Int32) + l4)) = (rA w (1020, l0) ((42 : Int32) + l2)) then (if l4 < l2 then (lt ((l3 + (1 : Int32))) fun (v5 : Int32) => f_X10_ranked_31 fu k2 n l0 l1 l2 v5 (l4 + (1 : Int32)) w) else (lt ((l3 + (0 : Int32))) fun (v4 : Int32) => f_X10_ranked_31 fu k2 n l0 l1 l2 v4 (l4 + (1 : Int32)) w)) else (lt ((l3 + (0 : Int32))) fun (v3 : Int32) => f_X10_ranked_31 fu k2 n l0 l1 l2 v3 (l4 + (1 : Int32)) w))))))))) else (if l3 = l1 then (some (l2, w)) else (k2 l0 l1 (l2 + (1 : Int32)) w))
theorem E_X10_ranked_31 (fu : Nat) (k2 : Nat → Int32 → Int32 → MEM → Option (Int32 × MEM)) (n : Nat) (l0 : Nat) (l1 : Int32) (l2 : Int32) (l3 : Int32) (l4 : Int32) (w : MEM) : f_X10_ranked_31 fu k2 (n + 1) l0 l1 l2 l3 l4 w = if l4 < (rS w (11022, l0)) then (ck (bI ((42 : Int32) + l4) 57) (if (rA w (1020, l0) ((42 : Int32) + l4)) = (-1 : Int32) then (lt ((l3 + (0 : Int32))) fun (v1 : Int32) => f_X10_ranked_31 fu k2 n l0 l1 l2 v1 (l4 + (1 : Int32)) w) else (ck (bI ((42 : Int32) + l4) 57) (ck (bI ((42 : Int32) + l2) 57) (if (rA w (1020, l0) ((42 : Int32) + l4)) < (rA w (1020, l0) ((42 : Int32) + l2)) then (lt ((l3 + (1 : Int32))) fun (v2 : Int32) => f_X10_ranked_31 fu k2 n l0 l1 l2 v2 (l4 + (1 : Int32)) w) else (ck (bI ((42 : Int32) + l4) 57) (ck (bI ((42 : Int32) + l2) 57) (if (rA w (1020, l0) ((42 : Int32) + l4)) = (rA w (1020, l0) ((42 : Int32) + l2)) then (if l4 < l2 then (lt ((l3 + (1 : Int32))) fun (v5 : Int32) => f_X10_ranked_31 fu k2 n l0 l1 l2 v5 (l4 + (1 : Int32)) w) else (lt ((l3 + (0 : Int32))) fun (v4 : Int32) => f_X10_ranked_31 fu k2 n l0 l1 l2 v4 (l4 + (1 : Int32)) w)) else (lt ((l3 + (0 : Int32))) fun (v3 : Int32) => f_X10_ranked_31 fu k2 n l0 l1 l2 v3 (l4 + (1 : Int32)) w))))))))) else (if l3 = l1 then (some (l2, w)) else (k2 l0 l1 (l2 + (1 : Int32)) w)) := rfl
theorem w_X10_ranked_31 {X : SCR} {d rc rs : Nat} {Q : PO → PH → Prop} {o : Int32} {w1 : MEM} {fu : Nat} {k2 : Nat → Int32 → Int32 → MEM → Option (Int32 × MEM)} (hd : 0 ≤ d) (hq : ∀ h1, WH X h1 w1 → Q (.inl (some (vI o))) h1) (hk2 : ∀ (l0 : Nat) (l1 : Int32) (l2 : Int32) (w : MEM) (h : PH), WH X h w → vo 10 l0 = true → k2 l0 l1 l2 w = some (o, w1) → PW d M_X10_ranked Q rc rs 2 [vR (1000, l0), vI l1, vI l2, vU, vU] [] h) : ∀ (n : Nat) (l0 : Nat) (l1 : Int32) (l2 : Int32) (l3 : Int32) (l4 : Int32) (w : MEM) (h : PH), WH X h w → vo 10 l0 = true → f_X10_ranked_31 fu k2 n l0 l1 l2 l3 l4 w = some (o, w1) → PW d M_X10_ranked Q rc rs 31 [vR (1000, l0), vI l1, vI l2, vI l3, vI l4] [] h := by
  intro n
  induction n with
  | zero => intro l0 l1 l2 l3 l4 w h wh hv_l0 hF; cases hF
  | succ n ih =>
    intro l0 l1 l2 l3 l4 w h wh hv_l0 hF
    replace hF := (E_X10_ranked_31 fu k2 n l0 l1 l2 l3 l4 w).symm.trans hF
    refine r_X10_ranked_31 ?_
    refine gI_of (wh.1 11022 _ rfl hv_l0) ?_
    refine ⟨fun c => ?_, fun c => ?_⟩
    · replace hF := if_ofT c hF
      refine gA_of (b := (1020, l0)) (wh.2.1 11043 _ rfl hv_l0) ?_
      obtain ⟨c, hF⟩ := ck_of hF
      refine xI_of wh (oA_1020 hv_l0) c ?_
      clear c
      refine ⟨fun c => ?_, fun c => ?_⟩
      · replace hF := if_ofT c hF
        replace hF := lt_of hF
        exact ih _ _ _ _ _ _ _ wh hv_l0 hF
      · replace hF := if_ofF c hF
        refine gA_of (b := (1020, l0)) (wh.2.1 11043 _ rfl hv_l0) ?_
        obtain ⟨c, hF⟩ := ck_of hF
        refine xI_of wh (oA_1020 hv_l0) c ?_
        clear c
        refine gA_of (b := (1020, l0)) (wh.2.1 11043 _ rfl hv_l0) ?_
        obtain ⟨c, hF⟩ := ck_of hF
        refine xI_of wh (oA_1020 hv_l0) c ?_
        clear c
        refine ⟨fun c => ?_, fun c => ?_⟩
        · replace hF := if_ofT c hF
          replace hF := lt_of hF
          exact ih _ _ _ _ _ _ _ wh hv_l0 hF
        · replace hF := if_ofF c hF
          refine gA_of (b := (1020, l0)) (wh.2.1 11043 _ rfl hv_l0) ?_
          obtain ⟨c, hF⟩ := ck_of hF
          refine xI_of wh (oA_1020 hv_l0) c ?_
          clear c
          refine gA_of (b := (1020, l0)) (wh.2.1 11043 _ rfl hv_l0) ?_
          obtain ⟨c, hF⟩ := ck_of hF
          refine xI_of wh (oA_1020 hv_l0) c ?_
          clear c
          refine ⟨fun c => ?_, fun c => ?_⟩
          · replace hF := if_ofT c hF
            refine ⟨fun c => ?_, fun c => ?_⟩
            · replace hF := if_ofT c hF
              replace hF := lt_of hF
              exact ih _ _ _ _ _ _ _ wh hv_l0 hF
            · replace hF := if_ofF c hF
              replace hF := lt_of hF
              exact ih _ _ _ _ _ _ _ wh hv_l0 hF
          · replace hF := if_ofF c hF
            replace hF := lt_of hF
            exact ih _ _ _ _ _ _ _ wh hv_l0 hF
    · replace hF := if_ofF c hF
      refine ⟨fun c => ?_, fun c => ?_⟩
      · replace hF := if_ofT c hF
        obtain ⟨rfl, rfl⟩ := some_of hF
        exact hq _ wh
      · replace hF := if_ofF c hF
        exact hk2 _ _ _ _ _ wh hv_l0 hF
def f_X10_ranked_2 (fu : Nat) : Nat → Nat → Int32 → Int32 → MEM → Option (Int32 × MEM)
  | 0, _, _, _, _ => none
  | n + 1, l0, l1, l2, w => if l2 < (rS w (11022, l0)) then (ck (bI ((42 : Int32) + l2) 57) (if (rA w (1020, l0) ((42 : Int32) + l2)) = (-1 : Int32) then (f_X10_ranked_2 fu n l0 l1 (l2 + (1 : Int32)) w) else (f_X10_ranked_31 fu (fun l0 l1 l2 w => f_X10_ranked_2 fu n l0 l1 l2 w) fu l0 l1 l2 (0 : Int32) (0 : Int32) w))) else (some ((-1 : Int32), w))
theorem E_X10_ranked_2 (fu : Nat) (n : Nat) (l0 : Nat) (l1 : Int32) (l2 : Int32) (w : MEM) : f_X10_ranked_2 fu (n + 1) l0 l1 l2 w = if l2 < (rS w (11022, l0)) then (ck (bI ((42 : Int32) + l2) 57) (if (rA w (1020, l0) ((42 : Int32) + l2)) = (-1 : Int32) then (f_X10_ranked_2 fu n l0 l1 (l2 + (1 : Int32)) w) else (f_X10_ranked_31 fu (fun l0 l1 l2 w => f_X10_ranked_2 fu n l0 l1 l2 w) fu l0 l1 l2 (0 : Int32) (0 : Int32) w))) else (some ((-1 : Int32), w)) := rfl
theorem w_X10_ranked_2 {X : SCR} {d rc rs : Nat} {Q : PO → PH → Prop} {o : Int32} {w1 : MEM} {fu : Nat} (hd : 0 ≤ d) (hq : ∀ h1, WH X h1 w1 → Q (.inl (some (vI o))) h1) : ∀ (n : Nat) (l0 : Nat) (l1 : Int32) (l2 : Int32) (w : MEM) (h : PH), WH X h w → vo 10 l0 = true → f_X10_ranked_2 fu n l0 l1 l2 w = some (o, w1) → PW d M_X10_ranked Q rc rs 2 [vR (1000, l0), vI l1, vI l2, vU, vU] [] h := by
  intro n
  induction n with
  | zero => intro l0 l1 l2 w h wh hv_l0 hF; cases hF
  | succ n ih =>
    intro l0 l1 l2 w h wh hv_l0 hF
    replace hF := (E_X10_ranked_2 fu n l0 l1 l2 w).symm.trans hF
    refine r_X10_ranked_2 ?_
    refine gI_of (wh.1 11022 _ rfl hv_l0) ?_
    refine ⟨fun c => ?_, fun c => ?_⟩
    · replace hF := if_ofT c hF
      refine gA_of (b := (1020, l0)) (wh.2.1 11043 _ rfl hv_l0) ?_
      obtain ⟨c, hF⟩ := ck_of hF
      refine xI_of wh (oA_1020 hv_l0) c ?_
      clear c
      refine ⟨fun c => ?_, fun c => ?_⟩
      · replace hF := if_ofT c hF
        exact ih _ _ _ _ _ wh hv_l0 hF
      · replace hF := if_ofF c hF
        exact w_X10_ranked_31 hd hq (fun l0 l1 l2 w h wh g0 hF => ih l0 l1 l2 w h wh g0 hF) fu _ _ _ _ _ _ _ wh hv_l0 hF
    · replace hF := if_ofF c hF
      obtain ⟨rfl, rfl⟩ := some_of hF
      exact hq _ wh
def f_X10_ranked (fu : Nat) (l0 : Nat) (l1 : Int32) (w : MEM) : Option (Int32 × MEM) := f_X10_ranked_2 fu fu l0 l1 (0 : Int32) w
theorem E_X10_ranked (fu : Nat) (l0 : Nat) (l1 : Int32) (w : MEM) : f_X10_ranked fu l0 l1 w = f_X10_ranked_2 fu fu l0 l1 (0 : Int32) w := rfl
theorem w_X10_ranked {X : SCR} {d rc rs : Nat} {Q : PO → PH → Prop} {o : Int32} {w1 : MEM} {fu : Nat} (hd : 0 ≤ d) (hq : ∀ h1, WH X h1 w1 → Q (.inl (some (vI o))) h1) {l0 : Nat} {l1 : Int32} {w : MEM} {h : PH} (wh : WH X h w) (hv_l0 : vo 10 l0 = true) (hF : f_X10_ranked fu l0 l1 w = some (o, w1)) : PW d M_X10_ranked Q rc rs 0 [vR (1000, l0), vI l1, vU, vU, vU] [] h := by
  replace hF := (E_X10_ranked fu l0 l1 w).symm.trans hF
  refine r_X10_ranked_0 ?_
  exact w_X10_ranked_2 hd hq  fu _ _ _ _ _ wh hv_l0 hF
theorem c_X10_ranked {X : SCR} {fu : Nat} {o : Int32} {w1 : MEM} {a0 : Nat} {a1 : Int32} {w : MEM} {h : PH} (wh : WH X h w) (h0 : vo 10 a0 = true) (hF : f_X10_ranked fu a0 a1 w = some (o, w1)) : CT 0 M_X10_ranked [vR (1000, a0), vI a1] h 0 0 (QP X (.inl (some (vI o))) w1) :=
  CT_of mk_X10_ranked (Nat.le_of_ble_eq_true rfl) rfl (w_X10_ranked (fu := fu) (rc := 0) (rs := 0) (hd := Nat.le_refl 0) (hq := fun h1 g => ⟨rfl, g⟩) wh h0 hF)
-- X10_book
def f_X10_book_143 (fu : Nat) (k67 : Nat → Int32 → MEM → Option (Int32 × MEM)) (l0 : Nat) (l2 : Int32) (l4 : Int32) (w : MEM) : Option (Int32 × MEM) := bnd (f_X10_readNumber fu l0 (0 : Int32) (99 : Int32) w) fun (x2 : Int32) (w1 : MEM) => bnd (f_X10_sign fu l0 (59 : Int32) w1) fun (u4 : Unit) (w3 : MEM) => bnd (f_X10_fine fu l0 w3) fun (x6 : Int32) (w5 : MEM) => if x6 = 0 then (bnd (f_X10_result fu l0 l2 w5) fun (x9 : Int32) (w8 : MEM) => if (rS w8 (11005, l0)) = (-1 : Int32) then (lt (sS w8 (11047, l0) l2) fun (w10 : MEM) => bnd (f_X10_copies fu l0 (1022, l0) (1023, l0) (13 : Int32) w10) fun (u12 : Unit) (w11 : MEM) => some (x9, w11)) else (some (x9, w8))) else (ck (bI l4 13) (lt (sA w5 (1022, l0) l4 x2) fun (w7 : MEM) => k67 l0 (l2 + (1 : Int32)) w7))
theorem E_X10_book_143 (fu : Nat) (k67 : Nat → Int32 → MEM → Option (Int32 × MEM)) (l0 : Nat) (l2 : Int32) (l4 : Int32) (w : MEM) : f_X10_book_143 fu k67 l0 l2 l4 w = bnd (f_X10_readNumber fu l0 (0 : Int32) (99 : Int32) w) fun (x2 : Int32) (w1 : MEM) => bnd (f_X10_sign fu l0 (59 : Int32) w1) fun (u4 : Unit) (w3 : MEM) => bnd (f_X10_fine fu l0 w3) fun (x6 : Int32) (w5 : MEM) => if x6 = 0 then (bnd (f_X10_result fu l0 l2 w5) fun (x9 : Int32) (w8 : MEM) => if (rS w8 (11005, l0)) = (-1 : Int32) then (lt (sS w8 (11047, l0) l2) fun (w10 : MEM) => bnd (f_X10_copies fu l0 (1022, l0) (1023, l0) (13 : Int32) w10) fun (u12 : Unit) (w11 : MEM) => some (x9, w11)) else (some (x9, w8))) else (ck (bI l4 13) (lt (sA w5 (1022, l0) l4 x2) fun (w7 : MEM) => k67 l0 (l2 + (1 : Int32)) w7)) := rfl
theorem w_X10_book_143 {X : SCR} {d rc rs : Nat} {Q : PO → PH → Prop} {o : Int32} {w1 : MEM} {fu : Nat} {k67 : Nat → Int32 → MEM → Option (Int32 × MEM)} (hd : 2 ≤ d) (hq : ∀ h1, WH X h1 w1 → Q (.inl (some (vI o))) h1) (hk67 : ∀ (l0 : Nat) (l2 : Int32) (w : MEM) (h : PH), WH X h w → vo 10 l0 = true → k67 l0 l2 w = some (o, w1) → PW d M_X10_book Q rc rs 67 [vR (1000, l0), vU, vI l2, vU, vU, vU] [] h) {l0 : Nat} {l2 : Int32} {l4 : Int32} {w : MEM} {h : PH} (wh : WH X h w) (hv_l0 : vo 10 l0 = true) (hF : f_X10_book_143 fu k67 l0 l2 l4 w = some (o, w1)) : PW d M_X10_book Q rc rs 143 [vR (1000, l0), vU, vI l2, vU, vI l4, vU] [] h := by
  replace hF := (E_X10_book_143 fu k67 l0 l2 l4 w).symm.trans hF
  refine r_X10_book_143 ?_
  refine ⟨⟨_, wh.1 11000 _ rfl hv_l0⟩, ?_⟩
  obtain ⟨x2, w1, hG, hF⟩ := bnd_of hF
  refine cl_I (D := 1) (Nat.le_trans (by decide) hd) (c_X10_readNumber wh hv_l0 hG) ?_
  clear hG
  clear wh
  intro h wh
  refine ⟨⟨_, wh.1 11000 _ rfl hv_l0⟩, ?_⟩
  obtain ⟨u4, w3, hG, hF⟩ := bnd_of hF
  refine cl_V (D := 1) (Nat.le_trans (by decide) hd) (c_X10_sign wh hv_l0 hG) ?_
  clear hG
  clear wh
  intro h wh
  refine ⟨⟨_, wh.1 11000 _ rfl hv_l0⟩, ?_⟩
  obtain ⟨x6, w5, hG, hF⟩ := bnd_of hF
  refine cl_I (D := 0) (Nat.le_trans (by decide) hd) (c_X10_fine wh hv_l0 hG) ?_
  clear hG
  clear wh
  intro h wh
  refine ⟨fun c => ?_, fun c => ?_⟩
  · replace hF := if_ofT c hF
    refine ⟨⟨_, wh.1 11000 _ rfl hv_l0⟩, ?_⟩
    obtain ⟨x9, w8, hG, hF⟩ := bnd_of hF
    refine cl_I (D := 1) (Nat.le_trans (by decide) hd) (c_X10_result wh hv_l0 hG) ?_
    clear hG
    clear wh
    intro h wh
    refine gI_of (wh.1 11005 _ rfl hv_l0) ?_
    refine ⟨fun c => ?_, fun c => ?_⟩
    · replace hF := if_ofT c hF
      replace hF := lt_of hF
      refine sF_S wh rfl hv_l0 ?_
      clear wh
      intro h wh
      refine gA_of (b := (1022, l0)) (wh.2.1 11045 _ rfl hv_l0) ?_
      refine gA_of (b := (1023, l0)) (wh.2.1 11046 _ rfl hv_l0) ?_
      refine ⟨⟨_, wh.1 11000 _ rfl hv_l0⟩, ?_⟩
      obtain ⟨u12, w11, hG, hF⟩ := bnd_of hF
      refine cl_V (D := 0) (Nat.le_trans (by decide) hd) (c_X10_copies wh hv_l0 (oA_1022 hv_l0) (oA_1023 hv_l0) hG) ?_
      clear hG
      clear wh
      intro h wh
      obtain ⟨rfl, rfl⟩ := some_of hF
      exact hq _ wh
    · replace hF := if_ofF c hF
      obtain ⟨rfl, rfl⟩ := some_of hF
      exact hq _ wh
  · replace hF := if_ofF c hF
    refine gA_of (b := (1022, l0)) (wh.2.1 11045 _ rfl hv_l0) ?_
    obtain ⟨c, hF⟩ := ck_of hF
    replace hF := lt_of hF
    refine yI_of wh (oA_1022 hv_l0) c ?_
    clear c wh
    intro h wh
    exact hk67 _ _ _ _ wh hv_l0 hF
def f_X10_book_67 (fu : Nat) : Nat → Nat → Int32 → MEM → Option (Int32 × MEM)
  | 0, _, _, _ => none
  | n + 1, l0, l2, w => bnd (f_X10_fine fu l0 w) fun (x2 : Int32) (w1 : MEM) => if x2 = 0 then (bnd (f_X10_result fu l0 l2 w1) fun (x4 : Int32) (w3 : MEM) => if (rS w3 (11005, l0)) = (-1 : Int32) then (lt (sS w3 (11047, l0) l2) fun (w5 : MEM) => bnd (f_X10_copies fu l0 (1022, l0) (1023, l0) (13 : Int32) w5) fun (u7 : Unit) (w6 : MEM) => some (x4, w6)) else (some (x4, w3))) else (bnd (f_X10_isMore fu l0 w1) fun (x9 : Int32) (w8 : MEM) => if x9 = 0 then (bnd (f_X10_result fu l0 l2 w8) fun (x11 : Int32) (w10 : MEM) => if (rS w10 (11005, l0)) = (-1 : Int32) then (lt (sS w10 (11047, l0) l2) fun (w12 : MEM) => bnd (f_X10_copies fu l0 (1022, l0) (1023, l0) (13 : Int32) w12) fun (u14 : Unit) (w13 : MEM) => some (x11, w13)) else (some (x11, w10))) else (bnd (f_X10_here fu l0 w8) fun (x16 : Int32) (w15 : MEM) => lt ((rS w15 (11004, l0))) fun (v17 : Int32) => bnd (f_X10_readNumber fu l0 (1 : Int32) (12 : Int32) w15) fun (x19 : Int32) (w18 : MEM) => bnd (f_X10_fine fu l0 w18) fun (x21 : Int32) (w20 : MEM) => if x21 = 0 then (bnd (f_X10_fine fu l0 w20) fun (x23 : Int32) (w22 : MEM) => if x23 = 0 then (f_X10_book_143 fu (fun l0 l2 w => f_X10_book_67 fu n l0 l2 w) l0 l2 x19 w22) else (if l2 = (6 : Int32) then (bnd (f_X10_wrong fu l0 (3 : Int32) v17 w22) fun (u25 : Unit) (w24 : MEM) => f_X10_book_143 fu (fun l0 l2 w => f_X10_book_67 fu n l0 l2 w) l0 l2 x19 w24) else (f_X10_book_143 fu (fun l0 l2 w => f_X10_book_67 fu n l0 l2 w) l0 l2 x19 w22))) else (ck (bI x19 13) (if (rA w20 (1022, l0) x19) = (-1 : Int32) then (bnd (f_X10_fine fu l0 w20) fun (x27 : Int32) (w26 : MEM) => if x27 = 0 then (f_X10_book_143 fu (fun l0 l2 w => f_X10_book_67 fu n l0 l2 w) l0 l2 x19 w26) else (if l2 = (6 : Int32) then (bnd (f_X10_wrong fu l0 (3 : Int32) v17 w26) fun (u29 : Unit) (w28 : MEM) => f_X10_book_143 fu (fun l0 l2 w => f_X10_book_67 fu n l0 l2 w) l0 l2 x19 w28) else (f_X10_book_143 fu (fun l0 l2 w => f_X10_book_67 fu n l0 l2 w) l0 l2 x19 w26))) else (bnd (f_X10_wrong fu l0 (2 : Int32) v17 w20) fun (u31 : Unit) (w30 : MEM) => bnd (f_X10_fine fu l0 w30) fun (x33 : Int32) (w32 : MEM) => if x33 = 0 then (f_X10_book_143 fu (fun l0 l2 w => f_X10_book_67 fu n l0 l2 w) l0 l2 x19 w32) else (if l2 = (6 : Int32) then (bnd (f_X10_wrong fu l0 (3 : Int32) v17 w32) fun (u35 : Unit) (w34 : MEM) => f_X10_book_143 fu (fun l0 l2 w => f_X10_book_67 fu n l0 l2 w) l0 l2 x19 w34) else (f_X10_book_143 fu (fun l0 l2 w => f_X10_book_67 fu n l0 l2 w) l0 l2 x19 w32)))))))
theorem E_X10_book_67 (fu : Nat) (n : Nat) (l0 : Nat) (l2 : Int32) (w : MEM) : f_X10_book_67 fu (n + 1) l0 l2 w = bnd (f_X10_fine fu l0 w) fun (x2 : Int32) (w1 : MEM) => if x2 = 0 then (bnd (f_X10_result fu l0 l2 w1) fun (x4 : Int32) (w3 : MEM) => if (rS w3 (11005, l0)) = (-1 : Int32) then (lt (sS w3 (11047, l0) l2) fun (w5 : MEM) => bnd (f_X10_copies fu l0 (1022, l0) (1023, l0) (13 : Int32) w5) fun (u7 : Unit) (w6 : MEM) => some (x4, w6)) else (some (x4, w3))) else (bnd (f_X10_isMore fu l0 w1) fun (x9 : Int32) (w8 : MEM) => if x9 = 0 then (bnd (f_X10_result fu l0 l2 w8) fun (x11 : Int32) (w10 : MEM) => if (rS w10 (11005, l0)) = (-1 : Int32) then (lt (sS w10 (11047, l0) l2) fun (w12 : MEM) => bnd (f_X10_copies fu l0 (1022, l0) (1023, l0) (13 : Int32) w12) fun (u14 : Unit) (w13 : MEM) => some (x11, w13)) else (some (x11, w10))) else (bnd (f_X10_here fu l0 w8) fun (x16 : Int32) (w15 : MEM) => lt ((rS w15 (11004, l0))) fun (v17 : Int32) => bnd (f_X10_readNumber fu l0 (1 : Int32) (12 : Int32) w15) fun (x19 : Int32) (w18 : MEM) => bnd (f_X10_fine fu l0 w18) fun (x21 : Int32) (w20 : MEM) => if x21 = 0 then (bnd (f_X10_fine fu l0 w20) fun (x23 : Int32) (w22 : MEM) => if x23 = 0 then (f_X10_book_143 fu (fun l0 l2 w => f_X10_book_67 fu n l0 l2 w) l0 l2 x19 w22) else (if l2 = (6 : Int32) then (bnd (f_X10_wrong fu l0 (3 : Int32) v17 w22) fun (u25 : Unit) (w24 : MEM) => f_X10_book_143 fu (fun l0 l2 w => f_X10_book_67 fu n l0 l2 w) l0 l2 x19 w24) else (f_X10_book_143 fu (fun l0 l2 w => f_X10_book_67 fu n l0 l2 w) l0 l2 x19 w22))) else (ck (bI x19 13) (if (rA w20 (1022, l0) x19) = (-1 : Int32) then (bnd (f_X10_fine fu l0 w20) fun (x27 : Int32) (w26 : MEM) => if x27 = 0 then (f_X10_book_143 fu (fun l0 l2 w => f_X10_book_67 fu n l0 l2 w) l0 l2 x19 w26) else (if l2 = (6 : Int32) then (bnd (f_X10_wrong fu l0 (3 : Int32) v17 w26) fun (u29 : Unit) (w28 : MEM) => f_X10_book_143 fu (fun l0 l2 w => f_X10_book_67 fu n l0 l2 w) l0 l2 x19 w28) else (f_X10_book_143 fu (fun l0 l2 w => f_X10_book_67 fu n l0 l2 w) l0 l2 x19 w26))) else (bnd (f_X10_wrong fu l0 (2 : Int32) v17 w20) fun (u31 : Unit) (w30 : MEM) => bnd (f_X10_fine fu l0 w30) fun (x33 : Int32) (w32 : MEM) => if x33 = 0 then (f_X10_book_143 fu (fun l0 l2 w => f_X10_book_67 fu n l0 l2 w) l0 l2 x19 w32) else (if l2 = (6 : Int32) then (bnd (f_X10_wrong fu l0 (3 : Int32) v17 w32) fun (u35 : Unit) (w34 : MEM) => f_X10_book_143 fu (fun l0 l2 w => f_X10_book_67 fu n l0 l2 w) l0 l2 x19 w34) else (f_X10_book_143 fu (fun l0 l2 w => f_X10_book_67 fu n l0 l2 w) l0 l2 x19 w32))))))) := rfl
theorem w_X10_book_67 {X : SCR} {d rc rs : Nat} {Q : PO → PH → Prop} {o : Int32} {w1 : MEM} {fu : Nat} (hd : 2 ≤ d) (hq : ∀ h1, WH X h1 w1 → Q (.inl (some (vI o))) h1) : ∀ (n : Nat) (l0 : Nat) (l2 : Int32) (w : MEM) (h : PH), WH X h w → vo 10 l0 = true → f_X10_book_67 fu n l0 l2 w = some (o, w1) → PW d M_X10_book Q rc rs 67 [vR (1000, l0), vU, vI l2, vU, vU, vU] [] h := by
  intro n
  induction n with
  | zero => intro l0 l2 w h wh hv_l0 hF; cases hF
  | succ n ih =>
    intro l0 l2 w h wh hv_l0 hF
    replace hF := (E_X10_book_67 fu n l0 l2 w).symm.trans hF
    refine r_X10_book_67 ?_
    refine ⟨⟨_, wh.1 11000 _ rfl hv_l0⟩, ?_⟩
    obtain ⟨x2, w1, hG, hF⟩ := bnd_of hF
    refine cl_I (D := 0) (Nat.le_trans (by decide) hd) (c_X10_fine wh hv_l0 hG) ?_
    clear hG
    clear wh
    intro h wh
    refine ⟨fun c => ?_, fun c => ?_⟩
    · replace hF := if_ofT c hF
      refine ⟨⟨_, wh.1 11000 _ rfl hv_l0⟩, ?_⟩
      obtain ⟨x4, w3, hG, hF⟩ := bnd_of hF
      refine cl_I (D := 1) (Nat.le_trans (by decide) hd) (c_X10_result wh hv_l0 hG) ?_
      clear hG
      clear wh
      intro h wh
      refine gI_of (wh.1 11005 _ rfl hv_l0) ?_
      refine ⟨fun c => ?_, fun c => ?_⟩
      · replace hF := if_ofT c hF
        replace hF := lt_of hF
        refine sF_S wh rfl hv_l0 ?_
        clear wh
        intro h wh
        refine gA_of (b := (1022, l0)) (wh.2.1 11045 _ rfl hv_l0) ?_
        refine gA_of (b := (1023, l0)) (wh.2.1 11046 _ rfl hv_l0) ?_
        refine ⟨⟨_, wh.1 11000 _ rfl hv_l0⟩, ?_⟩
        obtain ⟨u7, w6, hG, hF⟩ := bnd_of hF
        refine cl_V (D := 0) (Nat.le_trans (by decide) hd) (c_X10_copies wh hv_l0 (oA_1022 hv_l0) (oA_1023 hv_l0) hG) ?_
        clear hG
        clear wh
        intro h wh
        obtain ⟨rfl, rfl⟩ := some_of hF
        exact hq _ wh
      · replace hF := if_ofF c hF
        obtain ⟨rfl, rfl⟩ := some_of hF
        exact hq _ wh
    · replace hF := if_ofF c hF
      refine ⟨⟨_, wh.1 11000 _ rfl hv_l0⟩, ?_⟩
      obtain ⟨x9, w8, hG, hF⟩ := bnd_of hF
      refine cl_I (D := 1) (Nat.le_trans (by decide) hd) (c_X10_isMore wh hv_l0 hG) ?_
      clear hG
      clear wh
      intro h wh
      refine ⟨fun c => ?_, fun c => ?_⟩
      · replace hF := if_ofT c hF
        refine ⟨⟨_, wh.1 11000 _ rfl hv_l0⟩, ?_⟩
        obtain ⟨x11, w10, hG, hF⟩ := bnd_of hF
        refine cl_I (D := 1) (Nat.le_trans (by decide) hd) (c_X10_result wh hv_l0 hG) ?_
        clear hG
        clear wh
        intro h wh
        refine gI_of (wh.1 11005 _ rfl hv_l0) ?_
        refine ⟨fun c => ?_, fun c => ?_⟩
        · replace hF := if_ofT c hF
          replace hF := lt_of hF
          refine sF_S wh rfl hv_l0 ?_
          clear wh
          intro h wh
          refine gA_of (b := (1022, l0)) (wh.2.1 11045 _ rfl hv_l0) ?_
          refine gA_of (b := (1023, l0)) (wh.2.1 11046 _ rfl hv_l0) ?_
          refine ⟨⟨_, wh.1 11000 _ rfl hv_l0⟩, ?_⟩
          obtain ⟨u14, w13, hG, hF⟩ := bnd_of hF
          refine cl_V (D := 0) (Nat.le_trans (by decide) hd) (c_X10_copies wh hv_l0 (oA_1022 hv_l0) (oA_1023 hv_l0) hG) ?_
          clear hG
          clear wh
          intro h wh
          obtain ⟨rfl, rfl⟩ := some_of hF
          exact hq _ wh
        · replace hF := if_ofF c hF
          obtain ⟨rfl, rfl⟩ := some_of hF
          exact hq _ wh
      · replace hF := if_ofF c hF
        refine ⟨⟨_, wh.1 11000 _ rfl hv_l0⟩, ?_⟩
        obtain ⟨x16, w15, hG, hF⟩ := bnd_of hF
        refine cl_I (D := 0) (Nat.le_trans (by decide) hd) (c_X10_here wh hv_l0 hG) ?_
        clear hG
        clear wh
        intro h wh
        refine gI_of (wh.1 11004 _ rfl hv_l0) ?_
        replace hF := lt_of hF
        refine ⟨⟨_, wh.1 11000 _ rfl hv_l0⟩, ?_⟩
        obtain ⟨x19, w18, hG, hF⟩ := bnd_of hF
        refine cl_I (D := 1) (Nat.le_trans (by decide) hd) (c_X10_readNumber wh hv_l0 hG) ?_
        clear hG
        clear wh
        intro h wh
        refine ⟨⟨_, wh.1 11000 _ rfl hv_l0⟩, ?_⟩
        obtain ⟨x21, w20, hG, hF⟩ := bnd_of hF
        refine cl_I (D := 0) (Nat.le_trans (by decide) hd) (c_X10_fine wh hv_l0 hG) ?_
        clear hG
        clear wh
        intro h wh
        refine ⟨fun c => ?_, fun c => ?_⟩
        · replace hF := if_ofT c hF
          refine ⟨⟨_, wh.1 11000 _ rfl hv_l0⟩, ?_⟩
          obtain ⟨x23, w22, hG, hF⟩ := bnd_of hF
          refine cl_I (D := 0) (Nat.le_trans (by decide) hd) (c_X10_fine wh hv_l0 hG) ?_
          clear hG
          clear wh
          intro h wh
          refine ⟨fun c => ?_, fun c => ?_⟩
          · replace hF := if_ofT c hF
            exact w_X10_book_143 hd hq (fun l0 l2 w h wh g0 hF => ih l0 l2 w h wh g0 hF) wh hv_l0 hF
          · replace hF := if_ofF c hF
            refine ⟨fun c => ?_, fun c => ?_⟩
            · replace hF := if_ofT c hF
              refine ⟨⟨_, wh.1 11000 _ rfl hv_l0⟩, ?_⟩
              obtain ⟨u25, w24, hG, hF⟩ := bnd_of hF
              refine cl_V (D := 0) (Nat.le_trans (by decide) hd) (c_X10_wrong wh hv_l0 hG) ?_
              clear hG
              clear wh
              intro h wh
              exact w_X10_book_143 hd hq (fun l0 l2 w h wh g0 hF => ih l0 l2 w h wh g0 hF) wh hv_l0 hF
            · replace hF := if_ofF c hF
              exact w_X10_book_143 hd hq (fun l0 l2 w h wh g0 hF => ih l0 l2 w h wh g0 hF) wh hv_l0 hF
        · replace hF := if_ofF c hF
          refine gA_of (b := (1022, l0)) (wh.2.1 11045 _ rfl hv_l0) ?_
          obtain ⟨c, hF⟩ := ck_of hF
          refine xI_of wh (oA_1022 hv_l0) c ?_
          clear c
          refine ⟨fun c => ?_, fun c => ?_⟩
          · replace hF := if_ofT c hF
            refine ⟨⟨_, wh.1 11000 _ rfl hv_l0⟩, ?_⟩
            obtain ⟨x27, w26, hG, hF⟩ := bnd_of hF
            refine cl_I (D := 0) (Nat.le_trans (by decide) hd) (c_X10_fine wh hv_l0 hG) ?_
            clear hG
            clear wh
            intro h wh
            refine ⟨fun c => ?_, fun c => ?_⟩
            · replace hF := if_ofT c hF
              exact w_X10_book_143 hd hq (fun l0 l2 w h wh g0 hF => ih l0 l2 w h wh g0 hF) wh hv_l0 hF
            · replace hF := if_ofF c hF
              refine ⟨fun c => ?_, fun c => ?_⟩
              · replace hF := if_ofT c hF
                refine ⟨⟨_, wh.1 11000 _ rfl hv_l0⟩, ?_⟩
                obtain ⟨u29, w28, hG, hF⟩ := bnd_of hF
                refine cl_V (D := 0) (Nat.le_trans (by decide) hd) (c_X10_wrong wh hv_l0 hG) ?_
                clear hG
                clear wh
                intro h wh
                exact w_X10_book_143 hd hq (fun l0 l2 w h wh g0 hF => ih l0 l2 w h wh g0 hF) wh hv_l0 hF
              · replace hF := if_ofF c hF
                exact w_X10_book_143 hd hq (fun l0 l2 w h wh g0 hF => ih l0 l2 w h wh g0 hF) wh hv_l0 hF
          · replace hF := if_ofF c hF
            refine ⟨⟨_, wh.1 11000 _ rfl hv_l0⟩, ?_⟩
            obtain ⟨u31, w30, hG, hF⟩ := bnd_of hF
            refine cl_V (D := 0) (Nat.le_trans (by decide) hd) (c_X10_wrong wh hv_l0 hG) ?_
            clear hG
            clear wh
            intro h wh
            refine ⟨⟨_, wh.1 11000 _ rfl hv_l0⟩, ?_⟩
            obtain ⟨x33, w32, hG, hF⟩ := bnd_of hF
            refine cl_I (D := 0) (Nat.le_trans (by decide) hd) (c_X10_fine wh hv_l0 hG) ?_
            clear hG
            clear wh
            intro h wh
            refine ⟨fun c => ?_, fun c => ?_⟩
            · replace hF := if_ofT c hF
              exact w_X10_book_143 hd hq (fun l0 l2 w h wh g0 hF => ih l0 l2 w h wh g0 hF) wh hv_l0 hF
            · replace hF := if_ofF c hF
              refine ⟨fun c => ?_, fun c => ?_⟩
              · replace hF := if_ofT c hF
                refine ⟨⟨_, wh.1 11000 _ rfl hv_l0⟩, ?_⟩
                obtain ⟨u35, w34, hG, hF⟩ := bnd_of hF
                refine cl_V (D := 0) (Nat.le_trans (by decide) hd) (c_X10_wrong wh hv_l0 hG) ?_
                clear hG
                clear wh
                intro h wh
                exact w_X10_book_143 hd hq (fun l0 l2 w h wh g0 hF => ih l0 l2 w h wh g0 hF) wh hv_l0 hF
              · replace hF := if_ofF c hF
                exact w_X10_book_143 hd hq (fun l0 l2 w h wh g0 hF => ih l0 l2 w h wh g0 hF) wh hv_l0 hF
def f_X10_book_46 (fu : Nat) : Nat → Nat → Int32 → MEM → Option (Int32 × MEM)
  | 0, _, _, _ => none
  | n + 1, l0, l2, w => if (12 : Int32) < l2 then (f_X10_book_67 fu fu l0 (0 : Int32) w) else (ck (bI l2 13) (lt (sA w (1022, l0) l2 (-1 : Int32)) fun (w1 : MEM) => f_X10_book_46 fu n l0 (l2 + (1 : Int32)) w1))
theorem E_X10_book_46 (fu : Nat) (n : Nat) (l0 : Nat) (l2 : Int32) (w : MEM) : f_X10_book_46 fu (n + 1) l0 l2 w = if (12 : Int32) < l2 then (f_X10_book_67 fu fu l0 (0 : Int32) w) else (ck (bI l2 13) (lt (sA w (1022, l0) l2 (-1 : Int32)) fun (w1 : MEM) => f_X10_book_46 fu n l0 (l2 + (1 : Int32)) w1)) := rfl
theorem w_X10_book_46 {X : SCR} {d rc rs : Nat} {Q : PO → PH → Prop} {o : Int32} {w1 : MEM} {fu : Nat} (hd : 2 ≤ d) (hq : ∀ h1, WH X h1 w1 → Q (.inl (some (vI o))) h1) : ∀ (n : Nat) (l0 : Nat) (l2 : Int32) (w : MEM) (h : PH), WH X h w → vo 10 l0 = true → f_X10_book_46 fu n l0 l2 w = some (o, w1) → PW d M_X10_book Q rc rs 46 [vR (1000, l0), vU, vI l2, vU, vU, vU] [] h := by
  intro n
  induction n with
  | zero => intro l0 l2 w h wh hv_l0 hF; cases hF
  | succ n ih =>
    intro l0 l2 w h wh hv_l0 hF
    replace hF := (E_X10_book_46 fu n l0 l2 w).symm.trans hF
    refine r_X10_book_46 ?_
    refine ⟨fun c => ?_, fun c => ?_⟩
    · replace hF := if_ofT c hF
      exact w_X10_book_67 hd hq  fu _ _ _ _ wh hv_l0 hF
    · replace hF := if_ofF c hF
      refine gA_of (b := (1022, l0)) (wh.2.1 11045 _ rfl hv_l0) ?_
      obtain ⟨c, hF⟩ := ck_of hF
      replace hF := lt_of hF
      refine yI_of wh (oA_1022 hv_l0) c ?_
      clear c wh
      intro h wh
      exact ih _ _ _ _ wh hv_l0 hF
def f_X10_book (fu : Nat) (l0 : Nat) (l1 : Int32) (w : MEM) : Option (Int32 × MEM) := lt (sS w (11000, l0) (0 : Int32)) fun (w1 : MEM) => if l1 < 0 then (bnd (f_X10_may fu l0 (0 : Int32) (1 : Int32) (1 : Int32) w1) fun (x3 : Int32) (w2 : MEM) => if x3 = 0 then (some ((0 : Int32), w2)) else (bnd (f_X10_begins fu l0 l1 w2) fun (u5 : Unit) (w4 : MEM) => f_X10_book_46 fu fu l0 (0 : Int32) w4)) else (if (rS w1 (11002, l0)) < l1 then (bnd (f_X10_may fu l0 (0 : Int32) (1 : Int32) (1 : Int32) w1) fun (x7 : Int32) (w6 : MEM) => if x7 = 0 then (some ((0 : Int32), w6)) else (bnd (f_X10_begins fu l0 l1 w6) fun (u9 : Unit) (w8 : MEM) => f_X10_book_46 fu fu l0 (0 : Int32) w8)) else (if (60 : Int32) < l1 then (bnd (f_X10_may fu l0 (0 : Int32) (1 : Int32) (1 : Int32) w1) fun (x11 : Int32) (w10 : MEM) => if x11 = 0 then (some ((0 : Int32), w10)) else (bnd (f_X10_begins fu l0 l1 w10) fun (u13 : Unit) (w12 : MEM) => f_X10_book_46 fu fu l0 (0 : Int32) w12)) else (bnd (f_X10_may fu l0 (1 : Int32) (1 : Int32) (1 : Int32) w1) fun (x15 : Int32) (w14 : MEM) => if x15 = 0 then (some ((0 : Int32), w14)) else (bnd (f_X10_begins fu l0 l1 w14) fun (u17 : Unit) (w16 : MEM) => f_X10_book_46 fu fu l0 (0 : Int32) w16))))
theorem E_X10_book (fu : Nat) (l0 : Nat) (l1 : Int32) (w : MEM) : f_X10_book fu l0 l1 w = lt (sS w (11000, l0) (0 : Int32)) fun (w1 : MEM) => if l1 < 0 then (bnd (f_X10_may fu l0 (0 : Int32) (1 : Int32) (1 : Int32) w1) fun (x3 : Int32) (w2 : MEM) => if x3 = 0 then (some ((0 : Int32), w2)) else (bnd (f_X10_begins fu l0 l1 w2) fun (u5 : Unit) (w4 : MEM) => f_X10_book_46 fu fu l0 (0 : Int32) w4)) else (if (rS w1 (11002, l0)) < l1 then (bnd (f_X10_may fu l0 (0 : Int32) (1 : Int32) (1 : Int32) w1) fun (x7 : Int32) (w6 : MEM) => if x7 = 0 then (some ((0 : Int32), w6)) else (bnd (f_X10_begins fu l0 l1 w6) fun (u9 : Unit) (w8 : MEM) => f_X10_book_46 fu fu l0 (0 : Int32) w8)) else (if (60 : Int32) < l1 then (bnd (f_X10_may fu l0 (0 : Int32) (1 : Int32) (1 : Int32) w1) fun (x11 : Int32) (w10 : MEM) => if x11 = 0 then (some ((0 : Int32), w10)) else (bnd (f_X10_begins fu l0 l1 w10) fun (u13 : Unit) (w12 : MEM) => f_X10_book_46 fu fu l0 (0 : Int32) w12)) else (bnd (f_X10_may fu l0 (1 : Int32) (1 : Int32) (1 : Int32) w1) fun (x15 : Int32) (w14 : MEM) => if x15 = 0 then (some ((0 : Int32), w14)) else (bnd (f_X10_begins fu l0 l1 w14) fun (u17 : Unit) (w16 : MEM) => f_X10_book_46 fu fu l0 (0 : Int32) w16)))) := rfl
theorem w_X10_book {X : SCR} {d rc rs : Nat} {Q : PO → PH → Prop} {o : Int32} {w1 : MEM} {fu : Nat} (hd : 2 ≤ d) (hq : ∀ h1, WH X h1 w1 → Q (.inl (some (vI o))) h1) {l0 : Nat} {l1 : Int32} {w : MEM} {h : PH} (wh : WH X h w) (hv_l0 : vo 10 l0 = true) (hF : f_X10_book fu l0 l1 w = some (o, w1)) : PW d M_X10_book Q rc rs 0 [vR (1000, l0), vI l1, vU, vU, vU, vU] [] h := by
  replace hF := (E_X10_book fu l0 l1 w).symm.trans hF
  refine r_X10_book_0 ?_
  replace hF := lt_of hF
  refine sF_S wh rfl hv_l0 ?_
  clear wh
  intro h wh
  refine ⟨fun c => ?_, fun c => ?_⟩
  · replace hF := if_ofT c hF
    refine ⟨⟨_, wh.1 11000 _ rfl hv_l0⟩, ?_⟩
    obtain ⟨x3, w2, hG, hF⟩ := bnd_of hF
    refine cl_I (D := 0) (Nat.le_trans (by decide) hd) (c_X10_may wh hv_l0 hG) ?_
    clear hG
    clear wh
    intro h wh
    refine ⟨fun c => ?_, fun c => ?_⟩
    · replace hF := if_ofT c hF
      obtain ⟨rfl, rfl⟩ := some_of hF
      exact hq _ wh
    · replace hF := if_ofF c hF
      refine ⟨⟨_, wh.1 11000 _ rfl hv_l0⟩, ?_⟩
      obtain ⟨u5, w4, hG, hF⟩ := bnd_of hF
      refine cl_V (D := 0) (Nat.le_trans (by decide) hd) (c_X10_begins wh hv_l0 hG) ?_
      clear hG
      clear wh
      intro h wh
      exact w_X10_book_46 hd hq  fu _ _ _ _ wh hv_l0 hF
  · replace hF := if_ofF c hF
    refine gI_of (wh.1 11002 _ rfl hv_l0) ?_
    refine ⟨fun c => ?_, fun c => ?_⟩
    · replace hF := if_ofT c hF
      refine ⟨⟨_, wh.1 11000 _ rfl hv_l0⟩, ?_⟩
      obtain ⟨x7, w6, hG, hF⟩ := bnd_of hF
      refine cl_I (D := 0) (Nat.le_trans (by decide) hd) (c_X10_may wh hv_l0 hG) ?_
      clear hG
      clear wh
      intro h wh
      refine ⟨fun c => ?_, fun c => ?_⟩
      · replace hF := if_ofT c hF
        obtain ⟨rfl, rfl⟩ := some_of hF
        exact hq _ wh
      · replace hF := if_ofF c hF
        refine ⟨⟨_, wh.1 11000 _ rfl hv_l0⟩, ?_⟩
        obtain ⟨u9, w8, hG, hF⟩ := bnd_of hF
        refine cl_V (D := 0) (Nat.le_trans (by decide) hd) (c_X10_begins wh hv_l0 hG) ?_
        clear hG
        clear wh
        intro h wh
        exact w_X10_book_46 hd hq  fu _ _ _ _ wh hv_l0 hF
    · replace hF := if_ofF c hF
      refine ⟨fun c => ?_, fun c => ?_⟩
      · replace hF := if_ofT c hF
        refine ⟨⟨_, wh.1 11000 _ rfl hv_l0⟩, ?_⟩
        obtain ⟨x11, w10, hG, hF⟩ := bnd_of hF
        refine cl_I (D := 0) (Nat.le_trans (by decide) hd) (c_X10_may wh hv_l0 hG) ?_
        clear hG
        clear wh
        intro h wh
        refine ⟨fun c => ?_, fun c => ?_⟩
        · replace hF := if_ofT c hF
          obtain ⟨rfl, rfl⟩ := some_of hF
          exact hq _ wh
        · replace hF := if_ofF c hF
          refine ⟨⟨_, wh.1 11000 _ rfl hv_l0⟩, ?_⟩
          obtain ⟨u13, w12, hG, hF⟩ := bnd_of hF
          refine cl_V (D := 0) (Nat.le_trans (by decide) hd) (c_X10_begins wh hv_l0 hG) ?_
          clear hG
          clear wh
          intro h wh
          exact w_X10_book_46 hd hq  fu _ _ _ _ wh hv_l0 hF
      · replace hF := if_ofF c hF
        refine ⟨⟨_, wh.1 11000 _ rfl hv_l0⟩, ?_⟩
        obtain ⟨x15, w14, hG, hF⟩ := bnd_of hF
        refine cl_I (D := 0) (Nat.le_trans (by decide) hd) (c_X10_may wh hv_l0 hG) ?_
        clear hG
        clear wh
        intro h wh
        refine ⟨fun c => ?_, fun c => ?_⟩
        · replace hF := if_ofT c hF
          obtain ⟨rfl, rfl⟩ := some_of hF
          exact hq _ wh
        · replace hF := if_ofF c hF
          refine ⟨⟨_, wh.1 11000 _ rfl hv_l0⟩, ?_⟩
          obtain ⟨u17, w16, hG, hF⟩ := bnd_of hF
          refine cl_V (D := 0) (Nat.le_trans (by decide) hd) (c_X10_begins wh hv_l0 hG) ?_
          clear hG
          clear wh
          intro h wh
          exact w_X10_book_46 hd hq  fu _ _ _ _ wh hv_l0 hF
theorem c_X10_book {X : SCR} {fu : Nat} {o : Int32} {w1 : MEM} {a0 : Nat} {a1 : Int32} {w : MEM} {h : PH} (wh : WH X h w) (h0 : vo 10 a0 = true) (hF : f_X10_book fu a0 a1 w = some (o, w1)) : CT 2 M_X10_book [vR (1000, a0), vI a1] h 0 0 (QP X (.inl (some (vI o))) w1) :=
  CT_of mk_X10_book (Nat.le_of_ble_eq_true rfl) rfl (w_X10_book (fu := fu) (rc := 0) (rs := 0) (hd := Nat.le_refl 2) (hq := fun h1 g => ⟨rfl, g⟩) wh h0 hF)
-- X10_undo
def f_X10_undo_26 (fu : Nat) : Nat → Nat → Int32 → MEM → Option (Int32 × MEM)
  | 0, _, _, _ => none
  | n + 1, l0, l1, w => if l1 < (57 : Int32) then (ck (bI (((57 : Int32) * (rS w (11037, l0))) + l1) 912) (ck (bI l1 57) (lt (sA w (1019, l0) l1 (rA w (1021, l0) (((57 : Int32) * (rS w (11037, l0))) + l1))) fun (w2 : MEM) => f_X10_undo_26 fu n l0 (l1 + (1 : Int32)) w2))) else (lt (sS w (11038, l0) (0 : Int32)) fun (w1 : MEM) => some ((rS w1 (11037, l0)), w1))
theorem E_X10_undo_26 (fu : Nat) (n : Nat) (l0 : Nat) (l1 : Int32) (w : MEM) : f_X10_undo_26 fu (n + 1) l0 l1 w = if l1 < (57 : Int32) then (ck (bI (((57 : Int32) * (rS w (11037, l0))) + l1) 912) (ck (bI l1 57) (lt (sA w (1019, l0) l1 (rA w (1021, l0) (((57 : Int32) * (rS w (11037, l0))) + l1))) fun (w2 : MEM) => f_X10_undo_26 fu n l0 (l1 + (1 : Int32)) w2))) else (lt (sS w (11038, l0) (0 : Int32)) fun (w1 : MEM) => some ((rS w1 (11037, l0)), w1)) := rfl
theorem w_X10_undo_26 {X : SCR} {d rc rs : Nat} {Q : PO → PH → Prop} {o : Int32} {w1 : MEM} {fu : Nat} (hd : 0 ≤ d) (hq : ∀ h1, WH X h1 w1 → Q (.inl (some (vI o))) h1) : ∀ (n : Nat) (l0 : Nat) (l1 : Int32) (w : MEM) (h : PH), WH X h w → vo 10 l0 = true → f_X10_undo_26 fu n l0 l1 w = some (o, w1) → PW d M_X10_undo Q rc rs 26 [vR (1000, l0), vI l1] [] h := by
  intro n
  induction n with
  | zero => intro l0 l1 w h wh hv_l0 hF; cases hF
  | succ n ih =>
    intro l0 l1 w h wh hv_l0 hF
    replace hF := (E_X10_undo_26 fu n l0 l1 w).symm.trans hF
    refine r_X10_undo_26 ?_
    refine ⟨fun c => ?_, fun c => ?_⟩
    · replace hF := if_ofT c hF
      refine gA_of (b := (1019, l0)) (wh.2.1 11042 _ rfl hv_l0) ?_
      refine gA_of (b := (1021, l0)) (wh.2.1 11044 _ rfl hv_l0) ?_
      refine gI_of (wh.1 11037 _ rfl hv_l0) ?_
      obtain ⟨c, hF⟩ := ck_of hF
      refine xI_of wh (oA_1021 hv_l0) c ?_
      clear c
      obtain ⟨c, hF⟩ := ck_of hF
      replace hF := lt_of hF
      refine yI_of wh (oA_1019 hv_l0) c ?_
      clear c wh
      intro h wh
      exact ih _ _ _ _ wh hv_l0 hF
    · replace hF := if_ofF c hF
      replace hF := lt_of hF
      refine sF_S wh rfl hv_l0 ?_
      clear wh
      intro h wh
      refine gI_of (wh.1 11037 _ rfl hv_l0) ?_
      obtain ⟨rfl, rfl⟩ := some_of hF
      exact hq _ wh
def f_X10_undo (fu : Nat) (l0 : Nat) (w : MEM) : Option (Int32 × MEM) := lt (sS w (11000, l0) (0 : Int32)) fun (w1 : MEM) => if (rS w1 (11037, l0)) = 0 then (some ((-1 : Int32), w1)) else (lt (sS w1 (11037, l0) ((rS w1 (11037, l0)) - (1 : Int32))) fun (w2 : MEM) => f_X10_undo_26 fu fu l0 (0 : Int32) w2)
theorem E_X10_undo (fu : Nat) (l0 : Nat) (w : MEM) : f_X10_undo fu l0 w = lt (sS w (11000, l0) (0 : Int32)) fun (w1 : MEM) => if (rS w1 (11037, l0)) = 0 then (some ((-1 : Int32), w1)) else (lt (sS w1 (11037, l0) ((rS w1 (11037, l0)) - (1 : Int32))) fun (w2 : MEM) => f_X10_undo_26 fu fu l0 (0 : Int32) w2) := rfl
theorem w_X10_undo {X : SCR} {d rc rs : Nat} {Q : PO → PH → Prop} {o : Int32} {w1 : MEM} {fu : Nat} (hd : 0 ≤ d) (hq : ∀ h1, WH X h1 w1 → Q (.inl (some (vI o))) h1) {l0 : Nat} {w : MEM} {h : PH} (wh : WH X h w) (hv_l0 : vo 10 l0 = true) (hF : f_X10_undo fu l0 w = some (o, w1)) : PW d M_X10_undo Q rc rs 0 [vR (1000, l0), vU] [] h := by
  replace hF := (E_X10_undo fu l0 w).symm.trans hF
  refine r_X10_undo_0 ?_
  replace hF := lt_of hF
  refine sF_S wh rfl hv_l0 ?_
  clear wh
  intro h wh
  refine gI_of (wh.1 11037 _ rfl hv_l0) ?_
  refine ⟨fun c => ?_, fun c => ?_⟩
  · replace hF := if_ofT c hF
    obtain ⟨rfl, rfl⟩ := some_of hF
    exact hq _ wh
  · replace hF := if_ofF c hF
    refine gI_of (wh.1 11037 _ rfl hv_l0) ?_
    replace hF := lt_of hF
    refine sF_S wh rfl hv_l0 ?_
    clear wh
    intro h wh
    exact w_X10_undo_26 hd hq  fu _ _ _ _ wh hv_l0 hF
theorem c_X10_undo {X : SCR} {fu : Nat} {o : Int32} {w1 : MEM} {a0 : Nat} {w : MEM} {h : PH} (wh : WH X h w) (h0 : vo 10 a0 = true) (hF : f_X10_undo fu a0 w = some (o, w1)) : CT 0 M_X10_undo [vR (1000, a0)] h 0 0 (QP X (.inl (some (vI o))) w1) :=
  CT_of mk_X10_undo (Nat.le_of_ble_eq_true rfl) rfl (w_X10_undo (fu := fu) (rc := 0) (rs := 0) (hd := Nat.le_refl 0) (hq := fun h1 g => ⟨rfl, g⟩) wh h0 hF)
-- X10_sumOf
def f_X10_sumOf_4 (fu : Nat) : Nat → Nat → Int32 → Int32 → Int32 → MEM → Option (Int32 × MEM)
  | 0, _, _, _, _, _ => none
  | n + 1, l0, l1, l2, l3, w => if l3 < (rS w (11022, l0)) then (ck (bI (l1 + l3) 57) (lt ((l2 + (rA w (1020, l0) (l1 + l3)))) fun (v1 : Int32) => f_X10_sumOf_4 fu n l0 l1 v1 (l3 + (1 : Int32)) w)) else (some (l2, w))
theorem E_X10_sumOf_4 (fu : Nat) (n : Nat) (l0 : Nat) (l1 : Int32) (l2 : Int32) (l3 : Int32) (w : MEM) : f_X10_sumOf_4 fu (n + 1) l0 l1 l2 l3 w = if l3 < (rS w (11022, l0)) then (ck (bI (l1 + l3) 57) (lt ((l2 + (rA w (1020, l0) (l1 + l3)))) fun (v1 : Int32) => f_X10_sumOf_4 fu n l0 l1 v1 (l3 + (1 : Int32)) w)) else (some (l2, w)) := rfl
theorem w_X10_sumOf_4 {X : SCR} {d rc rs : Nat} {Q : PO → PH → Prop} {o : Int32} {w1 : MEM} {fu : Nat} (hd : 0 ≤ d) (hq : ∀ h1, WH X h1 w1 → Q (.inl (some (vI o))) h1) : ∀ (n : Nat) (l0 : Nat) (l1 : Int32) (l2 : Int32) (l3 : Int32) (w : MEM) (h : PH), WH X h w → vo 10 l0 = true → f_X10_sumOf_4 fu n l0 l1 l2 l3 w = some (o, w1) → PW d M_X10_sumOf Q rc rs 4 [vR (1000, l0), vI l1, vI l2, vI l3] [] h := by
  intro n
  induction n with
  | zero => intro l0 l1 l2 l3 w h wh hv_l0 hF; cases hF
  | succ n ih =>
    intro l0 l1 l2 l3 w h wh hv_l0 hF
    replace hF := (E_X10_sumOf_4 fu n l0 l1 l2 l3 w).symm.trans hF
    refine r_X10_sumOf_4 ?_
    refine gI_of (wh.1 11022 _ rfl hv_l0) ?_
    refine ⟨fun c => ?_, fun c => ?_⟩
    · replace hF := if_ofT c hF
      refine gA_of (b := (1020, l0)) (wh.2.1 11043 _ rfl hv_l0) ?_
      obtain ⟨c, hF⟩ := ck_of hF
      refine xI_of wh (oA_1020 hv_l0) c ?_
      clear c
      replace hF := lt_of hF
      exact ih _ _ _ _ _ _ wh hv_l0 hF
    · replace hF := if_ofF c hF
      obtain ⟨rfl, rfl⟩ := some_of hF
      exact hq _ wh
def f_X10_sumOf (fu : Nat) (l0 : Nat) (l1 : Int32) (w : MEM) : Option (Int32 × MEM) := f_X10_sumOf_4 fu fu l0 l1 (0 : Int32) (0 : Int32) w
theorem E_X10_sumOf (fu : Nat) (l0 : Nat) (l1 : Int32) (w : MEM) : f_X10_sumOf fu l0 l1 w = f_X10_sumOf_4 fu fu l0 l1 (0 : Int32) (0 : Int32) w := rfl
theorem w_X10_sumOf {X : SCR} {d rc rs : Nat} {Q : PO → PH → Prop} {o : Int32} {w1 : MEM} {fu : Nat} (hd : 0 ≤ d) (hq : ∀ h1, WH X h1 w1 → Q (.inl (some (vI o))) h1) {l0 : Nat} {l1 : Int32} {w : MEM} {h : PH} (wh : WH X h w) (hv_l0 : vo 10 l0 = true) (hF : f_X10_sumOf fu l0 l1 w = some (o, w1)) : PW d M_X10_sumOf Q rc rs 0 [vR (1000, l0), vI l1, vU, vU] [] h := by
  replace hF := (E_X10_sumOf fu l0 l1 w).symm.trans hF
  refine r_X10_sumOf_0 ?_
  exact w_X10_sumOf_4 hd hq  fu _ _ _ _ _ _ wh hv_l0 hF
theorem c_X10_sumOf {X : SCR} {fu : Nat} {o : Int32} {w1 : MEM} {a0 : Nat} {a1 : Int32} {w : MEM} {h : PH} (wh : WH X h w) (h0 : vo 10 a0 = true) (hF : f_X10_sumOf fu a0 a1 w = some (o, w1)) : CT 0 M_X10_sumOf [vR (1000, a0), vI a1] h 0 0 (QP X (.inl (some (vI o))) w1) :=
  CT_of mk_X10_sumOf (Nat.le_of_ble_eq_true rfl) rfl (w_X10_sumOf (fu := fu) (rc := 0) (rs := 0) (hd := Nat.le_refl 0) (hq := fun h1 g => ⟨rfl, g⟩) wh h0 hF)
-- X10_standing
def f_X10_standing_4 (fu : Nat) : Nat → Nat → Int32 → Int32 → MEM → Option (Int32 × MEM)
  | 0, _, _, _, _ => none
  | n + 1, l0, l1, l2, w => if l2 < (rS w (11022, l0)) then (ck (bI ((35 : Int32) + l2) 57) (lt ((l1 ||| ((rA w (1020, l0) ((35 : Int32) + l2)) <<< (l2 &&& 31)))) fun (v1 : Int32) => f_X10_standing_4 fu n l0 v1 (l2 + (1 : Int32)) w)) else (some (l1, w))
theorem E_X10_standing_4 (fu : Nat) (n : Nat) (l0 : Nat) (l1 : Int32) (l2 : Int32) (w : MEM) : f_X10_standing_4 fu (n + 1) l0 l1 l2 w = if l2 < (rS w (11022, l0)) then (ck (bI ((35 : Int32) + l2) 57) (lt ((l1 ||| ((rA w (1020, l0) ((35 : Int32) + l2)) <<< (l2 &&& 31)))) fun (v1 : Int32) => f_X10_standing_4 fu n l0 v1 (l2 + (1 : Int32)) w)) else (some (l1, w)) := rfl
theorem w_X10_standing_4 {X : SCR} {d rc rs : Nat} {Q : PO → PH → Prop} {o : Int32} {w1 : MEM} {fu : Nat} (hd : 0 ≤ d) (hq : ∀ h1, WH X h1 w1 → Q (.inl (some (vI o))) h1) : ∀ (n : Nat) (l0 : Nat) (l1 : Int32) (l2 : Int32) (w : MEM) (h : PH), WH X h w → vo 10 l0 = true → f_X10_standing_4 fu n l0 l1 l2 w = some (o, w1) → PW d M_X10_standing Q rc rs 4 [vR (1000, l0), vI l1, vI l2] [] h := by
  intro n
  induction n with
  | zero => intro l0 l1 l2 w h wh hv_l0 hF; cases hF
  | succ n ih =>
    intro l0 l1 l2 w h wh hv_l0 hF
    replace hF := (E_X10_standing_4 fu n l0 l1 l2 w).symm.trans hF
    refine r_X10_standing_4 ?_
    refine gI_of (wh.1 11022 _ rfl hv_l0) ?_
    refine ⟨fun c => ?_, fun c => ?_⟩
    · replace hF := if_ofT c hF
      refine gA_of (b := (1020, l0)) (wh.2.1 11043 _ rfl hv_l0) ?_
      obtain ⟨c, hF⟩ := ck_of hF
      refine xI_of wh (oA_1020 hv_l0) c ?_
      clear c
      replace hF := lt_of hF
      exact ih _ _ _ _ _ wh hv_l0 hF
    · replace hF := if_ofF c hF
      obtain ⟨rfl, rfl⟩ := some_of hF
      exact hq _ wh
def f_X10_standing (fu : Nat) (l0 : Nat) (w : MEM) : Option (Int32 × MEM) := f_X10_standing_4 fu fu l0 (0 : Int32) (0 : Int32) w
theorem E_X10_standing (fu : Nat) (l0 : Nat) (w : MEM) : f_X10_standing fu l0 w = f_X10_standing_4 fu fu l0 (0 : Int32) (0 : Int32) w := rfl
theorem w_X10_standing {X : SCR} {d rc rs : Nat} {Q : PO → PH → Prop} {o : Int32} {w1 : MEM} {fu : Nat} (hd : 0 ≤ d) (hq : ∀ h1, WH X h1 w1 → Q (.inl (some (vI o))) h1) {l0 : Nat} {w : MEM} {h : PH} (wh : WH X h w) (hv_l0 : vo 10 l0 = true) (hF : f_X10_standing fu l0 w = some (o, w1)) : PW d M_X10_standing Q rc rs 0 [vR (1000, l0), vU, vU] [] h := by
  replace hF := (E_X10_standing fu l0 w).symm.trans hF
  refine r_X10_standing_0 ?_
  exact w_X10_standing_4 hd hq  fu _ _ _ _ _ wh hv_l0 hF
theorem c_X10_standing {X : SCR} {fu : Nat} {o : Int32} {w1 : MEM} {a0 : Nat} {w : MEM} {h : PH} (wh : WH X h w) (h0 : vo 10 a0 = true) (hF : f_X10_standing fu a0 w = some (o, w1)) : CT 0 M_X10_standing [vR (1000, a0)] h 0 0 (QP X (.inl (some (vI o))) w1) :=
  CT_of mk_X10_standing (Nat.le_of_ble_eq_true rfl) rfl (w_X10_standing (fu := fu) (rc := 0) (rs := 0) (hd := Nat.le_refl 0) (hq := fun h1 g => ⟨rfl, g⟩) wh h0 hF)
-- X10_clouded
def f_X10_clouded_4 (fu : Nat) : Nat → Nat → Int32 → Int32 → MEM → Option (Int32 × MEM)
  | 0, _, _, _, _ => none
  | n + 1, l0, l1, l2, w => if l2 < (rS w (11022, l0)) then (ck (bI ((42 : Int32) + l2) 57) (if (rA w (1020, l0) ((42 : Int32) + l2)) = (-1 : Int32) then (lt ((l1 ||| (0 : Int32))) fun (v2 : Int32) => f_X10_clouded_4 fu n l0 v2 (l2 + (1 : Int32)) w) else (lt ((l1 ||| ((1 : Int32) <<< (l2 &&& 31)))) fun (v1 : Int32) => f_X10_clouded_4 fu n l0 v1 (l2 + (1 : Int32)) w))) else (some (l1, w))
theorem E_X10_clouded_4 (fu : Nat) (n : Nat) (l0 : Nat) (l1 : Int32) (l2 : Int32) (w : MEM) : f_X10_clouded_4 fu (n + 1) l0 l1 l2 w = if l2 < (rS w (11022, l0)) then (ck (bI ((42 : Int32) + l2) 57) (if (rA w (1020, l0) ((42 : Int32) + l2)) = (-1 : Int32) then (lt ((l1 ||| (0 : Int32))) fun (v2 : Int32) => f_X10_clouded_4 fu n l0 v2 (l2 + (1 : Int32)) w) else (lt ((l1 ||| ((1 : Int32) <<< (l2 &&& 31)))) fun (v1 : Int32) => f_X10_clouded_4 fu n l0 v1 (l2 + (1 : Int32)) w))) else (some (l1, w)) := rfl
theorem w_X10_clouded_4 {X : SCR} {d rc rs : Nat} {Q : PO → PH → Prop} {o : Int32} {w1 : MEM} {fu : Nat} (hd : 0 ≤ d) (hq : ∀ h1, WH X h1 w1 → Q (.inl (some (vI o))) h1) : ∀ (n : Nat) (l0 : Nat) (l1 : Int32) (l2 : Int32) (w : MEM) (h : PH), WH X h w → vo 10 l0 = true → f_X10_clouded_4 fu n l0 l1 l2 w = some (o, w1) → PW d M_X10_clouded Q rc rs 4 [vR (1000, l0), vI l1, vI l2] [] h := by
  intro n
  induction n with
  | zero => intro l0 l1 l2 w h wh hv_l0 hF; cases hF
  | succ n ih =>
    intro l0 l1 l2 w h wh hv_l0 hF
    replace hF := (E_X10_clouded_4 fu n l0 l1 l2 w).symm.trans hF
    refine r_X10_clouded_4 ?_
    refine gI_of (wh.1 11022 _ rfl hv_l0) ?_
    refine ⟨fun c => ?_, fun c => ?_⟩
    · replace hF := if_ofT c hF
      refine gA_of (b := (1020, l0)) (wh.2.1 11043 _ rfl hv_l0) ?_
      obtain ⟨c, hF⟩ := ck_of hF
      refine xI_of wh (oA_1020 hv_l0) c ?_
      clear c
      refine ⟨fun c => ?_, fun c => ?_⟩
      · replace hF := if_ofT c hF
        replace hF := lt_of hF
        exact ih _ _ _ _ _ wh hv_l0 hF
      · replace hF := if_ofF c hF
        replace hF := lt_of hF
        exact ih _ _ _ _ _ wh hv_l0 hF
    · replace hF := if_ofF c hF
      obtain ⟨rfl, rfl⟩ := some_of hF
      exact hq _ wh
def f_X10_clouded (fu : Nat) (l0 : Nat) (w : MEM) : Option (Int32 × MEM) := f_X10_clouded_4 fu fu l0 (0 : Int32) (0 : Int32) w
theorem E_X10_clouded (fu : Nat) (l0 : Nat) (w : MEM) : f_X10_clouded fu l0 w = f_X10_clouded_4 fu fu l0 (0 : Int32) (0 : Int32) w := rfl
theorem w_X10_clouded {X : SCR} {d rc rs : Nat} {Q : PO → PH → Prop} {o : Int32} {w1 : MEM} {fu : Nat} (hd : 0 ≤ d) (hq : ∀ h1, WH X h1 w1 → Q (.inl (some (vI o))) h1) {l0 : Nat} {w : MEM} {h : PH} (wh : WH X h w) (hv_l0 : vo 10 l0 = true) (hF : f_X10_clouded fu l0 w = some (o, w1)) : PW d M_X10_clouded Q rc rs 0 [vR (1000, l0), vU, vU] [] h := by
  replace hF := (E_X10_clouded fu l0 w).symm.trans hF
  refine r_X10_clouded_0 ?_
  exact w_X10_clouded_4 hd hq  fu _ _ _ _ _ wh hv_l0 hF
theorem c_X10_clouded {X : SCR} {fu : Nat} {o : Int32} {w1 : MEM} {a0 : Nat} {w : MEM} {h : PH} (wh : WH X h w) (h0 : vo 10 a0 = true) (hF : f_X10_clouded fu a0 w = some (o, w1)) : CT 0 M_X10_clouded [vR (1000, a0)] h 0 0 (QP X (.inl (some (vI o))) w1) :=
  CT_of mk_X10_clouded (Nat.le_of_ble_eq_true rfl) rfl (w_X10_clouded (fu := fu) (rc := 0) (rs := 0) (hd := Nat.le_refl 0) (hq := fun h1 g => ⟨rfl, g⟩) wh h0 hF)
-- X10_told
def f_X10_told (fu : Nat) (l0 : Nat) (l1 : Int32) (w : MEM) : Option (Int32 × MEM) := lt (sS w (11000, l0) (0 : Int32)) fun (w1 : MEM) => bnd (f_X10_within fu l1 (0 : Int32) (11 : Int32) w1) fun (x3 : Int32) (w2 : MEM) => bnd (f_X10_may fu l0 x3 (1 : Int32) (1 : Int32) w2) fun (x5 : Int32) (w4 : MEM) => if x5 = 0 then (some ((0 : Int32), w4)) else (bnd (f_X10_take fu l0 w4) fun (u7 : Unit) (w6 : MEM) => if l1 < (4 : Int32) then (if l1 = 0 then (some ((rS w6 (11022, l0)), w6)) else (if l1 = (1 : Int32) then (some ((rS w6 (11023, l0)), w6)) else (if l1 = (2 : Int32) then (some ((rS w6 (11024, l0)), w6)) else (ck (bI (56 : Int32) 57) (some ((rA w6 (1020, l0) (56 : Int32)), w6)))))) else (if l1 < (8 : Int32) then (if l1 = (4 : Int32) then (bnd (f_X10_standing fu l0 w6) fun (x17 : Int32) (w16 : MEM) => some (x17, w16)) else (if l1 = (5 : Int32) then (bnd (f_X10_clouded fu l0 w6) fun (x15 : Int32) (w14 : MEM) => some (x15, w14)) else (if l1 = (6 : Int32) then (bnd (f_X10_ranked fu l0 (0 : Int32) w6) fun (x13 : Int32) (w12 : MEM) => some (x13, w12)) else (some ((rS w6 (11025, l0)), w6))))) else (if l1 = (8 : Int32) then (bnd (f_X10_sumOf fu l0 (49 : Int32) w6) fun (x11 : Int32) (w10 : MEM) => some (x11, w10)) else (if l1 = (9 : Int32) then (some ((rS w6 (11047, l0)), w6)) else (if l1 = (10 : Int32) then (some ((rS w6 (11038, l0)), w6)) else (bnd (f_X10_sumOf fu l0 (7 : Int32) w6) fun (x9 : Int32) (w8 : MEM) => some (x9, w8)))))))
theorem E_X10_told (fu : Nat) (l0 : Nat) (l1 : Int32) (w : MEM) : f_X10_told fu l0 l1 w = lt (sS w (11000, l0) (0 : Int32)) fun (w1 : MEM) => bnd (f_X10_within fu l1 (0 : Int32) (11 : Int32) w1) fun (x3 : Int32) (w2 : MEM) => bnd (f_X10_may fu l0 x3 (1 : Int32) (1 : Int32) w2) fun (x5 : Int32) (w4 : MEM) => if x5 = 0 then (some ((0 : Int32), w4)) else (bnd (f_X10_take fu l0 w4) fun (u7 : Unit) (w6 : MEM) => if l1 < (4 : Int32) then (if l1 = 0 then (some ((rS w6 (11022, l0)), w6)) else (if l1 = (1 : Int32) then (some ((rS w6 (11023, l0)), w6)) else (if l1 = (2 : Int32) then (some ((rS w6 (11024, l0)), w6)) else (ck (bI (56 : Int32) 57) (some ((rA w6 (1020, l0) (56 : Int32)), w6)))))) else (if l1 < (8 : Int32) then (if l1 = (4 : Int32) then (bnd (f_X10_standing fu l0 w6) fun (x17 : Int32) (w16 : MEM) => some (x17, w16)) else (if l1 = (5 : Int32) then (bnd (f_X10_clouded fu l0 w6) fun (x15 : Int32) (w14 : MEM) => some (x15, w14)) else (if l1 = (6 : Int32) then (bnd (f_X10_ranked fu l0 (0 : Int32) w6) fun (x13 : Int32) (w12 : MEM) => some (x13, w12)) else (some ((rS w6 (11025, l0)), w6))))) else (if l1 = (8 : Int32) then (bnd (f_X10_sumOf fu l0 (49 : Int32) w6) fun (x11 : Int32) (w10 : MEM) => some (x11, w10)) else (if l1 = (9 : Int32) then (some ((rS w6 (11047, l0)), w6)) else (if l1 = (10 : Int32) then (some ((rS w6 (11038, l0)), w6)) else (bnd (f_X10_sumOf fu l0 (7 : Int32) w6) fun (x9 : Int32) (w8 : MEM) => some (x9, w8))))))) := rfl
theorem w_X10_told {X : SCR} {d rc rs : Nat} {Q : PO → PH → Prop} {o : Int32} {w1 : MEM} {fu : Nat} (hd : 2 ≤ d) (hq : ∀ h1, WH X h1 w1 → Q (.inl (some (vI o))) h1) {l0 : Nat} {l1 : Int32} {w : MEM} {h : PH} (wh : WH X h w) (hv_l0 : vo 10 l0 = true) (hF : f_X10_told fu l0 l1 w = some (o, w1)) : PW d M_X10_told Q rc rs 0 [vR (1000, l0), vI l1] [] h := by
  replace hF := (E_X10_told fu l0 l1 w).symm.trans hF
  refine r_X10_told_0 ?_
  replace hF := lt_of hF
  refine sF_S wh rfl hv_l0 ?_
  clear wh
  intro h wh
  obtain ⟨x3, w2, hG, hF⟩ := bnd_of hF
  refine cl_I (D := 0) (Nat.le_trans (by decide) hd) (c_X10_within wh  hG) ?_
  clear hG
  clear wh
  intro h wh
  refine ⟨⟨_, wh.1 11000 _ rfl hv_l0⟩, ?_⟩
  obtain ⟨x5, w4, hG, hF⟩ := bnd_of hF
  refine cl_I (D := 0) (Nat.le_trans (by decide) hd) (c_X10_may wh hv_l0 hG) ?_
  clear hG
  clear wh
  intro h wh
  refine ⟨fun c => ?_, fun c => ?_⟩
  · replace hF := if_ofT c hF
    obtain ⟨rfl, rfl⟩ := some_of hF
    exact hq _ wh
  · replace hF := if_ofF c hF
    refine ⟨⟨_, wh.1 11000 _ rfl hv_l0⟩, ?_⟩
    obtain ⟨u7, w6, hG, hF⟩ := bnd_of hF
    refine cl_V (D := 1) (Nat.le_trans (by decide) hd) (c_X10_take wh hv_l0 hG) ?_
    clear hG
    clear wh
    intro h wh
    refine ⟨fun c => ?_, fun c => ?_⟩
    · replace hF := if_ofT c hF
      refine ⟨fun c => ?_, fun c => ?_⟩
      · replace hF := if_ofT c hF
        refine gI_of (wh.1 11022 _ rfl hv_l0) ?_
        obtain ⟨rfl, rfl⟩ := some_of hF
        exact hq _ wh
      · replace hF := if_ofF c hF
        refine ⟨fun c => ?_, fun c => ?_⟩
        · replace hF := if_ofT c hF
          refine gI_of (wh.1 11023 _ rfl hv_l0) ?_
          obtain ⟨rfl, rfl⟩ := some_of hF
          exact hq _ wh
        · replace hF := if_ofF c hF
          refine ⟨fun c => ?_, fun c => ?_⟩
          · replace hF := if_ofT c hF
            refine gI_of (wh.1 11024 _ rfl hv_l0) ?_
            obtain ⟨rfl, rfl⟩ := some_of hF
            exact hq _ wh
          · replace hF := if_ofF c hF
            refine gA_of (b := (1020, l0)) (wh.2.1 11043 _ rfl hv_l0) ?_
            obtain ⟨c, hF⟩ := ck_of hF
            refine xI_of wh (oA_1020 hv_l0) c ?_
            clear c
            obtain ⟨rfl, rfl⟩ := some_of hF
            exact hq _ wh
    · replace hF := if_ofF c hF
      refine ⟨fun c => ?_, fun c => ?_⟩
      · replace hF := if_ofT c hF
        refine ⟨fun c => ?_, fun c => ?_⟩
        · replace hF := if_ofT c hF
          refine ⟨⟨_, wh.1 11000 _ rfl hv_l0⟩, ?_⟩
          obtain ⟨x17, w16, hG, hF⟩ := bnd_of hF
          refine cl_I (D := 0) (Nat.le_trans (by decide) hd) (c_X10_standing wh hv_l0 hG) ?_
          clear hG
          clear wh
          intro h wh
          obtain ⟨rfl, rfl⟩ := some_of hF
          exact hq _ wh
        · replace hF := if_ofF c hF
          refine ⟨fun c => ?_, fun c => ?_⟩
          · replace hF := if_ofT c hF
            refine ⟨⟨_, wh.1 11000 _ rfl hv_l0⟩, ?_⟩
            obtain ⟨x15, w14, hG, hF⟩ := bnd_of hF
            refine cl_I (D := 0) (Nat.le_trans (by decide) hd) (c_X10_clouded wh hv_l0 hG) ?_
            clear hG
            clear wh
            intro h wh
            obtain ⟨rfl, rfl⟩ := some_of hF
            exact hq _ wh
          · replace hF := if_ofF c hF
            refine ⟨fun c => ?_, fun c => ?_⟩
            · replace hF := if_ofT c hF
              refine ⟨⟨_, wh.1 11000 _ rfl hv_l0⟩, ?_⟩
              obtain ⟨x13, w12, hG, hF⟩ := bnd_of hF
              refine cl_I (D := 0) (Nat.le_trans (by decide) hd) (c_X10_ranked wh hv_l0 hG) ?_
              clear hG
              clear wh
              intro h wh
              obtain ⟨rfl, rfl⟩ := some_of hF
              exact hq _ wh
            · replace hF := if_ofF c hF
              refine gI_of (wh.1 11025 _ rfl hv_l0) ?_
              obtain ⟨rfl, rfl⟩ := some_of hF
              exact hq _ wh
      · replace hF := if_ofF c hF
        refine ⟨fun c => ?_, fun c => ?_⟩
        · replace hF := if_ofT c hF
          refine ⟨⟨_, wh.1 11000 _ rfl hv_l0⟩, ?_⟩
          obtain ⟨x11, w10, hG, hF⟩ := bnd_of hF
          refine cl_I (D := 0) (Nat.le_trans (by decide) hd) (c_X10_sumOf wh hv_l0 hG) ?_
          clear hG
          clear wh
          intro h wh
          obtain ⟨rfl, rfl⟩ := some_of hF
          exact hq _ wh
        · replace hF := if_ofF c hF
          refine ⟨fun c => ?_, fun c => ?_⟩
          · replace hF := if_ofT c hF
            refine gI_of (wh.1 11047 _ rfl hv_l0) ?_
            obtain ⟨rfl, rfl⟩ := some_of hF
            exact hq _ wh
          · replace hF := if_ofF c hF
            refine ⟨fun c => ?_, fun c => ?_⟩
            · replace hF := if_ofT c hF
              refine gI_of (wh.1 11038 _ rfl hv_l0) ?_
              obtain ⟨rfl, rfl⟩ := some_of hF
              exact hq _ wh
            · replace hF := if_ofF c hF
              refine ⟨⟨_, wh.1 11000 _ rfl hv_l0⟩, ?_⟩
              obtain ⟨x9, w8, hG, hF⟩ := bnd_of hF
              refine cl_I (D := 0) (Nat.le_trans (by decide) hd) (c_X10_sumOf wh hv_l0 hG) ?_
              clear hG
              clear wh
              intro h wh
              obtain ⟨rfl, rfl⟩ := some_of hF
              exact hq _ wh
theorem c_X10_told {X : SCR} {fu : Nat} {o : Int32} {w1 : MEM} {a0 : Nat} {a1 : Int32} {w : MEM} {h : PH} (wh : WH X h w) (h0 : vo 10 a0 = true) (hF : f_X10_told fu a0 a1 w = some (o, w1)) : CT 2 M_X10_told [vR (1000, a0), vI a1] h 0 0 (QP X (.inl (some (vI o))) w1) :=
  CT_of mk_X10_told (Nat.le_of_ble_eq_true rfl) rfl (w_X10_told (fu := fu) (rc := 0) (rs := 0) (hd := Nat.le_refl 2) (hq := fun h1 g => ⟨rfl, g⟩) wh h0 hF)
-- X10_isHeir
def f_X10_isHeir (fu : Nat) (l0 : Nat) (l1 : Int32) (l2 : Int32) (w : MEM) : Option (Int32 × MEM) := bnd (f_X10_within fu l1 (0 : Int32) ((rS w (11022, l0)) - (1 : Int32)) w) fun (x2 : Int32) (w1 : MEM) => bnd (f_X10_may fu l0 x2 l2 (0 : Int32) w1) fun (x4 : Int32) (w3 : MEM) => ck (b01 x4) (some (x4, w3))
theorem E_X10_isHeir (fu : Nat) (l0 : Nat) (l1 : Int32) (l2 : Int32) (w : MEM) : f_X10_isHeir fu l0 l1 l2 w = bnd (f_X10_within fu l1 (0 : Int32) ((rS w (11022, l0)) - (1 : Int32)) w) fun (x2 : Int32) (w1 : MEM) => bnd (f_X10_may fu l0 x2 l2 (0 : Int32) w1) fun (x4 : Int32) (w3 : MEM) => ck (b01 x4) (some (x4, w3)) := rfl
theorem w_X10_isHeir {X : SCR} {d rc rs : Nat} {Q : PO → PH → Prop} {o : Int32} {w1 : MEM} {fu : Nat} (hd : 1 ≤ d) (hq : ∀ h1, WH X h1 w1 → Q (.inl (some (vI o))) h1) {l0 : Nat} {l1 : Int32} {l2 : Int32} {w : MEM} {h : PH} (wh : WH X h w) (hv_l0 : vo 10 l0 = true) (hF : f_X10_isHeir fu l0 l1 l2 w = some (o, w1)) : PW d M_X10_isHeir Q rc rs 0 [vR (1000, l0), vI l1, vI l2] [] h := by
  replace hF := (E_X10_isHeir fu l0 l1 l2 w).symm.trans hF
  refine r_X10_isHeir_0 ?_
  refine gI_of (wh.1 11022 _ rfl hv_l0) ?_
  obtain ⟨x2, w1, hG, hF⟩ := bnd_of hF
  refine cl_I (D := 0) (Nat.le_trans (by decide) hd) (c_X10_within wh  hG) ?_
  clear hG
  clear wh
  intro h wh
  refine ⟨⟨_, wh.1 11000 _ rfl hv_l0⟩, ?_⟩
  obtain ⟨x4, w3, hG, hF⟩ := bnd_of hF
  refine cl_I (D := 0) (Nat.le_trans (by decide) hd) (c_X10_may wh hv_l0 hG) ?_
  clear hG
  clear wh
  intro h wh
  obtain ⟨c, hF⟩ := ck_of hF
  obtain ⟨rfl, rfl⟩ := some_of hF
  exact ⟨b01_nrw c, hq _ wh⟩
theorem c_X10_isHeir {X : SCR} {fu : Nat} {o : Int32} {w1 : MEM} {a0 : Nat} {a1 : Int32} {a2 : Int32} {w : MEM} {h : PH} (wh : WH X h w) (h0 : vo 10 a0 = true) (hF : f_X10_isHeir fu a0 a1 a2 w = some (o, w1)) : CT 1 M_X10_isHeir [vR (1000, a0), vI a1, vI a2] h 0 0 (QP X (.inl (some (vI o))) w1) :=
  CT_of mk_X10_isHeir (Nat.le_of_ble_eq_true rfl) rfl (w_X10_isHeir (fu := fu) (rc := 0) (rs := 0) (hd := Nat.le_refl 1) (hq := fun h1 g => ⟨rfl, g⟩) wh h0 hF)
-- X10_heir
def f_X10_heir (fu : Nat) (l0 : Nat) (l1 : Int32) (l2 : Int32) (w : MEM) : Option (Int32 × MEM) := lt (sS w (11000, l0) (0 : Int32)) fun (w1 : MEM) => bnd (f_X10_isHeir fu l0 l1 (1 : Int32) w1) fun (x3 : Int32) (w2 : MEM) => if x3 = 0 then (some ((0 : Int32), w2)) else (bnd (f_X10_within fu l2 (0 : Int32) (9 : Int32) w2) fun (x5 : Int32) (w4 : MEM) => bnd (f_X10_may fu l0 x5 (2 : Int32) (1 : Int32) w4) fun (x7 : Int32) (w6 : MEM) => if x7 = 0 then (some ((0 : Int32), w6)) else (if l2 = 0 then (if l2 = 0 then (ck (bI l1 7) (some ((rA w6 (1007, l0) l1), w6))) else (bnd (f_X10_twosOf fu l0 l1 w6) fun (x9 : Int32) (w8 : MEM) => some (x9, w8))) else (if l2 = (9 : Int32) then (if l2 = 0 then (ck (bI l1 7) (some ((rA w6 (1007, l0) l1), w6))) else (bnd (f_X10_twosOf fu l0 l1 w6) fun (x11 : Int32) (w10 : MEM) => some (x11, w10))) else (if l2 = (1 : Int32) then (ck (bI ((0 : Int32) + l1) 57) (some ((rA w6 (1019, l0) ((0 : Int32) + l1)), w6))) else (if l2 = (2 : Int32) then (ck (bI ((7 : Int32) + l1) 57) (some ((rA w6 (1019, l0) ((7 : Int32) + l1)), w6))) else (if l2 = (3 : Int32) then (ck (bI ((14 : Int32) + l1) 57) (some ((rA w6 (1019, l0) ((14 : Int32) + l1)), w6))) else (if l2 = (4 : Int32) then (ck (bI ((21 : Int32) + l1) 57) (some ((rA w6 (1019, l0) ((21 : Int32) + l1)), w6))) else (if l2 = (5 : Int32) then (ck (bI ((28 : Int32) + l1) 57) (some ((rA w6 (1019, l0) ((28 : Int32) + l1)), w6))) else (if l2 = (6 : Int32) then (ck (bI ((35 : Int32) + l1) 57) (some ((rA w6 (1019, l0) ((35 : Int32) + l1)), w6))) else (if l2 = (7 : Int32) then (ck (bI ((42 : Int32) + l1) 57) (some ((rA w6 (1019, l0) ((42 : Int32) + l1)), w6))) else (ck (bI ((49 : Int32) + l1) 57) (some ((rA w6 (1019, l0) ((49 : Int32) + l1)), w6)))))))))))))
theorem E_X10_heir (fu : Nat) (l0 : Nat) (l1 : Int32) (l2 : Int32) (w : MEM) : f_X10_heir fu l0 l1 l2 w = lt (sS w (11000, l0) (0 : Int32)) fun (w1 : MEM) => bnd (f_X10_isHeir fu l0 l1 (1 : Int32) w1) fun (x3 : Int32) (w2 : MEM) => if x3 = 0 then (some ((0 : Int32), w2)) else (bnd (f_X10_within fu l2 (0 : Int32) (9 : Int32) w2) fun (x5 : Int32) (w4 : MEM) => bnd (f_X10_may fu l0 x5 (2 : Int32) (1 : Int32) w4) fun (x7 : Int32) (w6 : MEM) => if x7 = 0 then (some ((0 : Int32), w6)) else (if l2 = 0 then (if l2 = 0 then (ck (bI l1 7) (some ((rA w6 (1007, l0) l1), w6))) else (bnd (f_X10_twosOf fu l0 l1 w6) fun (x9 : Int32) (w8 : MEM) => some (x9, w8))) else (if l2 = (9 : Int32) then (if l2 = 0 then (ck (bI l1 7) (some ((rA w6 (1007, l0) l1), w6))) else (bnd (f_X10_twosOf fu l0 l1 w6) fun (x11 : Int32) (w10 : MEM) => some (x11, w10))) else (if l2 = (1 : Int32) then (ck (bI ((0 : Int32) + l1) 57) (some ((rA w6 (1019, l0) ((0 : Int32) + l1)), w6))) else (if l2 = (2 : Int32) then (ck (bI ((7 : Int32) + l1) 57) (some ((rA w6 (1019, l0) ((7 : Int32) + l1)), w6))) else (if l2 = (3 : Int32) then (ck (bI ((14 : Int32) + l1) 57) (some ((rA w6 (1019, l0) ((14 : Int32) + l1)), w6))) else (if l2 = (4 : Int32) then (ck (bI ((21 : Int32) + l1) 57) (some ((rA w6 (1019, l0) ((21 : Int32) + l1)), w6))) else (if l2 = (5 : Int32) then (ck (bI ((28 : Int32) + l1) 57) (some ((rA w6 (1019, l0) ((28 : Int32) + l1)), w6))) else (if l2 = (6 : Int32) then (ck (bI ((35 : Int32) + l1) 57) (some ((rA w6 (1019, l0) ((35 : Int32) + l1)), w6))) else (if l2 = (7 : Int32) then (ck (bI ((42 : Int32) + l1) 57) (some ((rA w6 (1019, l0) ((42 : Int32) + l1)), w6))) else (ck (bI ((49 : Int32) + l1) 57) (some ((rA w6 (1019, l0) ((49 : Int32) + l1)), w6))))))))))))) := rfl
theorem w_X10_heir {X : SCR} {d rc rs : Nat} {Q : PO → PH → Prop} {o : Int32} {w1 : MEM} {fu : Nat} (hd : 2 ≤ d) (hq : ∀ h1, WH X h1 w1 → Q (.inl (some (vI o))) h1) {l0 : Nat} {l1 : Int32} {l2 : Int32} {w : MEM} {h : PH} (wh : WH X h w) (hv_l0 : vo 10 l0 = true) (hF : f_X10_heir fu l0 l1 l2 w = some (o, w1)) : PW d M_X10_heir Q rc rs 0 [vR (1000, l0), vI l1, vI l2] [] h := by
  replace hF := (E_X10_heir fu l0 l1 l2 w).symm.trans hF
  refine r_X10_heir_0 ?_
  replace hF := lt_of hF
  refine sF_S wh rfl hv_l0 ?_
  clear wh
  intro h wh
  refine ⟨⟨_, wh.1 11000 _ rfl hv_l0⟩, ?_⟩
  obtain ⟨x3, w2, hG, hF⟩ := bnd_of hF
  refine cl_I (D := 1) (Nat.le_trans (by decide) hd) (c_X10_isHeir wh hv_l0 hG) ?_
  clear hG
  clear wh
  intro h wh
  refine ⟨fun c => ?_, fun c => ?_⟩
  · replace hF := if_ofT c hF
    obtain ⟨rfl, rfl⟩ := some_of hF
    exact hq _ wh
  · replace hF := if_ofF c hF
    obtain ⟨x5, w4, hG, hF⟩ := bnd_of hF
    refine cl_I (D := 0) (Nat.le_trans (by decide) hd) (c_X10_within wh  hG) ?_
    clear hG
    clear wh
    intro h wh
    refine ⟨⟨_, wh.1 11000 _ rfl hv_l0⟩, ?_⟩
    obtain ⟨x7, w6, hG, hF⟩ := bnd_of hF
    refine cl_I (D := 0) (Nat.le_trans (by decide) hd) (c_X10_may wh hv_l0 hG) ?_
    clear hG
    clear wh
    intro h wh
    refine ⟨fun c => ?_, fun c => ?_⟩
    · replace hF := if_ofT c hF
      obtain ⟨rfl, rfl⟩ := some_of hF
      exact hq _ wh
    · replace hF := if_ofF c hF
      refine ⟨fun c => ?_, fun c => ?_⟩
      · replace hF := if_ofT c hF
        refine ⟨fun c => ?_, fun c => ?_⟩
        · replace hF := if_ofT c hF
          refine gA_of (b := (1007, l0)) (wh.2.1 11014 _ rfl hv_l0) ?_
          obtain ⟨c, hF⟩ := ck_of hF
          refine xI_of wh (oA_1007 hv_l0) c ?_
          clear c
          obtain ⟨rfl, rfl⟩ := some_of hF
          exact hq _ wh
        · replace hF := if_ofF c hF
          refine ⟨⟨_, wh.1 11000 _ rfl hv_l0⟩, ?_⟩
          obtain ⟨x9, w8, hG, hF⟩ := bnd_of hF
          refine cl_I (D := 0) (Nat.le_trans (by decide) hd) (c_X10_twosOf wh hv_l0 hG) ?_
          clear hG
          clear wh
          intro h wh
          obtain ⟨rfl, rfl⟩ := some_of hF
          exact hq _ wh
      · replace hF := if_ofF c hF
        refine ⟨fun c => ?_, fun c => ?_⟩
        · replace hF := if_ofT c hF
          refine ⟨fun c => ?_, fun c => ?_⟩
          · replace hF := if_ofT c hF
            refine gA_of (b := (1007, l0)) (wh.2.1 11014 _ rfl hv_l0) ?_
            obtain ⟨c, hF⟩ := ck_of hF
            refine xI_of wh (oA_1007 hv_l0) c ?_
            clear c
            obtain ⟨rfl, rfl⟩ := some_of hF
            exact hq _ wh
          · replace hF := if_ofF c hF
            refine ⟨⟨_, wh.1 11000 _ rfl hv_l0⟩, ?_⟩
            obtain ⟨x11, w10, hG, hF⟩ := bnd_of hF
            refine cl_I (D := 0) (Nat.le_trans (by decide) hd) (c_X10_twosOf wh hv_l0 hG) ?_
            clear hG
            clear wh
            intro h wh
            obtain ⟨rfl, rfl⟩ := some_of hF
            exact hq _ wh
        · replace hF := if_ofF c hF
          refine gA_of (b := (1019, l0)) (wh.2.1 11042 _ rfl hv_l0) ?_
          refine ⟨fun c => ?_, fun c => ?_⟩
          · replace hF := if_ofT c hF
            obtain ⟨c, hF⟩ := ck_of hF
            refine xI_of wh (oA_1019 hv_l0) c ?_
            clear c
            obtain ⟨rfl, rfl⟩ := some_of hF
            exact hq _ wh
          · replace hF := if_ofF c hF
            refine ⟨fun c => ?_, fun c => ?_⟩
            · replace hF := if_ofT c hF
              obtain ⟨c, hF⟩ := ck_of hF
              refine xI_of wh (oA_1019 hv_l0) c ?_
              clear c
              obtain ⟨rfl, rfl⟩ := some_of hF
              exact hq _ wh
            · replace hF := if_ofF c hF
              refine ⟨fun c => ?_, fun c => ?_⟩
              · replace hF := if_ofT c hF
                obtain ⟨c, hF⟩ := ck_of hF
                refine xI_of wh (oA_1019 hv_l0) c ?_
                clear c
                obtain ⟨rfl, rfl⟩ := some_of hF
                exact hq _ wh
              · replace hF := if_ofF c hF
                refine ⟨fun c => ?_, fun c => ?_⟩
                · replace hF := if_ofT c hF
                  obtain ⟨c, hF⟩ := ck_of hF
                  refine xI_of wh (oA_1019 hv_l0) c ?_
                  clear c
                  obtain ⟨rfl, rfl⟩ := some_of hF
                  exact hq _ wh
                · replace hF := if_ofF c hF
                  refine ⟨fun c => ?_, fun c => ?_⟩
                  · replace hF := if_ofT c hF
                    obtain ⟨c, hF⟩ := ck_of hF
                    refine xI_of wh (oA_1019 hv_l0) c ?_
                    clear c
                    obtain ⟨rfl, rfl⟩ := some_of hF
                    exact hq _ wh
                  · replace hF := if_ofF c hF
                    refine ⟨fun c => ?_, fun c => ?_⟩
                    · replace hF := if_ofT c hF
                      obtain ⟨c, hF⟩ := ck_of hF
                      refine xI_of wh (oA_1019 hv_l0) c ?_
                      clear c
                      obtain ⟨rfl, rfl⟩ := some_of hF
                      exact hq _ wh
                    · replace hF := if_ofF c hF
                      refine ⟨fun c => ?_, fun c => ?_⟩
                      · replace hF := if_ofT c hF
                        obtain ⟨c, hF⟩ := ck_of hF
                        refine xI_of wh (oA_1019 hv_l0) c ?_
                        clear c
                        obtain ⟨rfl, rfl⟩ := some_of hF
                        exact hq _ wh
                      · replace hF := if_ofF c hF
                        obtain ⟨c, hF⟩ := ck_of hF
                        refine xI_of wh (oA_1019 hv_l0) c ?_
                        clear c
                        obtain ⟨rfl, rfl⟩ := some_of hF
                        exact hq _ wh
theorem c_X10_heir {X : SCR} {fu : Nat} {o : Int32} {w1 : MEM} {a0 : Nat} {a1 : Int32} {a2 : Int32} {w : MEM} {h : PH} (wh : WH X h w) (h0 : vo 10 a0 = true) (hF : f_X10_heir fu a0 a1 a2 w = some (o, w1)) : CT 2 M_X10_heir [vR (1000, a0), vI a1, vI a2] h 0 0 (QP X (.inl (some (vI o))) w1) :=
  CT_of mk_X10_heir (Nat.le_of_ble_eq_true rfl) rfl (w_X10_heir (fu := fu) (rc := 0) (rs := 0) (hd := Nat.le_refl 2) (hq := fun h1 g => ⟨rfl, g⟩) wh h0 hF)
-- X10_two
def f_X10_two (fu : Nat) (l0 : Nat) (l1 : Int32) (l2 : Int32) (w : MEM) : Option (Int32 × MEM) := lt (sS w (11000, l0) (0 : Int32)) fun (w1 : MEM) => bnd (f_X10_within fu l1 (0 : Int32) ((rS w1 (11023, l0)) - (1 : Int32)) w1) fun (x3 : Int32) (w2 : MEM) => bnd (f_X10_may fu l0 x3 (1 : Int32) (0 : Int32) w2) fun (x5 : Int32) (w4 : MEM) => if x5 = 0 then (some ((0 : Int32), w4)) else (bnd (f_X10_within fu l2 (0 : Int32) (1 : Int32) w4) fun (x7 : Int32) (w6 : MEM) => bnd (f_X10_may fu l0 x7 (2 : Int32) (1 : Int32) w6) fun (x9 : Int32) (w8 : MEM) => if x9 = 0 then (some ((0 : Int32), w8)) else (ck (bI (((2 : Int32) * l1) + l2) 24) (some ((rA w8 (1009, l0) (((2 : Int32) * l1) + l2)), w8))))
theorem E_X10_two (fu : Nat) (l0 : Nat) (l1 : Int32) (l2 : Int32) (w : MEM) : f_X10_two fu l0 l1 l2 w = lt (sS w (11000, l0) (0 : Int32)) fun (w1 : MEM) => bnd (f_X10_within fu l1 (0 : Int32) ((rS w1 (11023, l0)) - (1 : Int32)) w1) fun (x3 : Int32) (w2 : MEM) => bnd (f_X10_may fu l0 x3 (1 : Int32) (0 : Int32) w2) fun (x5 : Int32) (w4 : MEM) => if x5 = 0 then (some ((0 : Int32), w4)) else (bnd (f_X10_within fu l2 (0 : Int32) (1 : Int32) w4) fun (x7 : Int32) (w6 : MEM) => bnd (f_X10_may fu l0 x7 (2 : Int32) (1 : Int32) w6) fun (x9 : Int32) (w8 : MEM) => if x9 = 0 then (some ((0 : Int32), w8)) else (ck (bI (((2 : Int32) * l1) + l2) 24) (some ((rA w8 (1009, l0) (((2 : Int32) * l1) + l2)), w8)))) := rfl
theorem w_X10_two {X : SCR} {d rc rs : Nat} {Q : PO → PH → Prop} {o : Int32} {w1 : MEM} {fu : Nat} (hd : 1 ≤ d) (hq : ∀ h1, WH X h1 w1 → Q (.inl (some (vI o))) h1) {l0 : Nat} {l1 : Int32} {l2 : Int32} {w : MEM} {h : PH} (wh : WH X h w) (hv_l0 : vo 10 l0 = true) (hF : f_X10_two fu l0 l1 l2 w = some (o, w1)) : PW d M_X10_two Q rc rs 0 [vR (1000, l0), vI l1, vI l2] [] h := by
  replace hF := (E_X10_two fu l0 l1 l2 w).symm.trans hF
  refine r_X10_two_0 ?_
  replace hF := lt_of hF
  refine sF_S wh rfl hv_l0 ?_
  clear wh
  intro h wh
  refine gI_of (wh.1 11023 _ rfl hv_l0) ?_
  obtain ⟨x3, w2, hG, hF⟩ := bnd_of hF
  refine cl_I (D := 0) (Nat.le_trans (by decide) hd) (c_X10_within wh  hG) ?_
  clear hG
  clear wh
  intro h wh
  refine ⟨⟨_, wh.1 11000 _ rfl hv_l0⟩, ?_⟩
  obtain ⟨x5, w4, hG, hF⟩ := bnd_of hF
  refine cl_I (D := 0) (Nat.le_trans (by decide) hd) (c_X10_may wh hv_l0 hG) ?_
  clear hG
  clear wh
  intro h wh
  refine ⟨fun c => ?_, fun c => ?_⟩
  · replace hF := if_ofT c hF
    obtain ⟨rfl, rfl⟩ := some_of hF
    exact hq _ wh
  · replace hF := if_ofF c hF
    obtain ⟨x7, w6, hG, hF⟩ := bnd_of hF
    refine cl_I (D := 0) (Nat.le_trans (by decide) hd) (c_X10_within wh  hG) ?_
    clear hG
    clear wh
    intro h wh
    refine ⟨⟨_, wh.1 11000 _ rfl hv_l0⟩, ?_⟩
    obtain ⟨x9, w8, hG, hF⟩ := bnd_of hF
    refine cl_I (D := 0) (Nat.le_trans (by decide) hd) (c_X10_may wh hv_l0 hG) ?_
    clear hG
    clear wh
    intro h wh
    refine ⟨fun c => ?_, fun c => ?_⟩
    · replace hF := if_ofT c hF
      obtain ⟨rfl, rfl⟩ := some_of hF
      exact hq _ wh
    · replace hF := if_ofF c hF
      refine gA_of (b := (1009, l0)) (wh.2.1 11016 _ rfl hv_l0) ?_
      obtain ⟨c, hF⟩ := ck_of hF
      refine xI_of wh (oA_1009 hv_l0) c ?_
      clear c
      obtain ⟨rfl, rfl⟩ := some_of hF
      exact hq _ wh
theorem c_X10_two {X : SCR} {fu : Nat} {o : Int32} {w1 : MEM} {a0 : Nat} {a1 : Int32} {a2 : Int32} {w : MEM} {h : PH} (wh : WH X h w) (h0 : vo 10 a0 = true) (hF : f_X10_two fu a0 a1 a2 w = some (o, w1)) : CT 1 M_X10_two [vR (1000, a0), vI a1, vI a2] h 0 0 (QP X (.inl (some (vI o))) w1) :=
  CT_of mk_X10_two (Nat.le_of_ble_eq_true rfl) rfl (w_X10_two (fu := fu) (rc := 0) (rs := 0) (hd := Nat.le_refl 1) (hq := fun h1 g => ⟨rfl, g⟩) wh h0 hF)
-- X10_keeper
def f_X10_keeper_60 (fu : Nat) : Nat → Nat → Int32 → Int32 → MEM → Option (Int32 × MEM)
  | 0, _, _, _, _ => none
  | n + 1, l0, l1, l3, w => ck (bI (56 : Int32) 57) (ck (bI (((2 : Int32) * l1) + (1 : Int32)) 12) (if (rA w (1010, l0) (((2 : Int32) * l1) + (1 : Int32))) = 0 then none else (if (((rA w (1019, l0) (56 : Int32)) + l3) - ((rA w (1019, l0) (56 : Int32)) + l3) / (rA w (1010, l0) (((2 : Int32) * l1) + (1 : Int32))) * (rA w (1010, l0) (((2 : Int32) * l1) + (1 : Int32)))) = 0 then (some (l3, w)) else (f_X10_keeper_60 fu n l0 l1 (l3 + (1 : Int32)) w))))
theorem E_X10_keeper_60 (fu : Nat) (n : Nat) (l0 : Nat) (l1 : Int32) (l3 : Int32) (w : MEM) : f_X10_keeper_60 fu (n + 1) l0 l1 l3 w = ck (bI (56 : Int32) 57) (ck (bI (((2 : Int32) * l1) + (1 : Int32)) 12) (if (rA w (1010, l0) (((2 : Int32) * l1) + (1 : Int32))) = 0 then none else (if (((rA w (1019, l0) (56 : Int32)) + l3) - ((rA w (1019, l0) (56 : Int32)) + l3) / (rA w (1010, l0) (((2 : Int32) * l1) + (1 : Int32))) * (rA w (1010, l0) (((2 : Int32) * l1) + (1 : Int32)))) = 0 then (some (l3, w)) else (f_X10_keeper_60 fu n l0 l1 (l3 + (1 : Int32)) w)))) := rfl
theorem w_X10_keeper_60 {X : SCR} {d rc rs : Nat} {Q : PO → PH → Prop} {o : Int32} {w1 : MEM} {fu : Nat} (hd : 1 ≤ d) (hq : ∀ h1, WH X h1 w1 → Q (.inl (some (vI o))) h1) : ∀ (n : Nat) (l0 : Nat) (l1 : Int32) (l3 : Int32) (w : MEM) (h : PH), WH X h w → vo 10 l0 = true → f_X10_keeper_60 fu n l0 l1 l3 w = some (o, w1) → PW d M_X10_keeper Q rc rs 60 [vR (1000, l0), vI l1, vU, vI l3] [] h := by
  intro n
  induction n with
  | zero => intro l0 l1 l3 w h wh hv_l0 hF; cases hF
  | succ n ih =>
    intro l0 l1 l3 w h wh hv_l0 hF
    replace hF := (E_X10_keeper_60 fu n l0 l1 l3 w).symm.trans hF
    refine r_X10_keeper_60 ?_
    refine gA_of (b := (1019, l0)) (wh.2.1 11042 _ rfl hv_l0) ?_
    obtain ⟨c, hF⟩ := ck_of hF
    refine xI_of wh (oA_1019 hv_l0) c ?_
    clear c
    refine gA_of (b := (1010, l0)) (wh.2.1 11017 _ rfl hv_l0) ?_
    obtain ⟨c, hF⟩ := ck_of hF
    refine xI_of wh (oA_1010 hv_l0) c ?_
    clear c
    obtain ⟨c, hF⟩ := nzF_of hF
    refine ⟨c, ?_⟩
    refine ⟨fun c => ?_, fun c => ?_⟩
    · replace hF := if_ofT c hF
      obtain ⟨rfl, rfl⟩ := some_of hF
      exact hq _ wh
    · replace hF := if_ofF c hF
      exact ih _ _ _ _ _ wh hv_l0 hF
def f_X10_keeper (fu : Nat) (l0 : Nat) (l1 : Int32) (l2 : Int32) (w : MEM) : Option (Int32 × MEM) := lt (sS w (11000, l0) (0 : Int32)) fun (w1 : MEM) => bnd (f_X10_within fu l1 (0 : Int32) ((rS w1 (11024, l0)) - (1 : Int32)) w1) fun (x3 : Int32) (w2 : MEM) => bnd (f_X10_may fu l0 x3 (1 : Int32) (0 : Int32) w2) fun (x5 : Int32) (w4 : MEM) => if x5 = 0 then (some ((0 : Int32), w4)) else (bnd (f_X10_within fu l2 (0 : Int32) (2 : Int32) w4) fun (x7 : Int32) (w6 : MEM) => bnd (f_X10_may fu l0 x7 (2 : Int32) (1 : Int32) w6) fun (x9 : Int32) (w8 : MEM) => if x9 = 0 then (some ((0 : Int32), w8)) else (if l2 < (2 : Int32) then (ck (bI (((2 : Int32) * l1) + l2) 12) (some ((rA w8 (1010, l0) (((2 : Int32) * l1) + l2)), w8))) else (f_X10_keeper_60 fu fu l0 l1 (0 : Int32) w8)))
theorem E_X10_keeper (fu : Nat) (l0 : Nat) (l1 : Int32) (l2 : Int32) (w : MEM) : f_X10_keeper fu l0 l1 l2 w = lt (sS w (11000, l0) (0 : Int32)) fun (w1 : MEM) => bnd (f_X10_within fu l1 (0 : Int32) ((rS w1 (11024, l0)) - (1 : Int32)) w1) fun (x3 : Int32) (w2 : MEM) => bnd (f_X10_may fu l0 x3 (1 : Int32) (0 : Int32) w2) fun (x5 : Int32) (w4 : MEM) => if x5 = 0 then (some ((0 : Int32), w4)) else (bnd (f_X10_within fu l2 (0 : Int32) (2 : Int32) w4) fun (x7 : Int32) (w6 : MEM) => bnd (f_X10_may fu l0 x7 (2 : Int32) (1 : Int32) w6) fun (x9 : Int32) (w8 : MEM) => if x9 = 0 then (some ((0 : Int32), w8)) else (if l2 < (2 : Int32) then (ck (bI (((2 : Int32) * l1) + l2) 12) (some ((rA w8 (1010, l0) (((2 : Int32) * l1) + l2)), w8))) else (f_X10_keeper_60 fu fu l0 l1 (0 : Int32) w8))) := rfl
theorem w_X10_keeper {X : SCR} {d rc rs : Nat} {Q : PO → PH → Prop} {o : Int32} {w1 : MEM} {fu : Nat} (hd : 1 ≤ d) (hq : ∀ h1, WH X h1 w1 → Q (.inl (some (vI o))) h1) {l0 : Nat} {l1 : Int32} {l2 : Int32} {w : MEM} {h : PH} (wh : WH X h w) (hv_l0 : vo 10 l0 = true) (hF : f_X10_keeper fu l0 l1 l2 w = some (o, w1)) : PW d M_X10_keeper Q rc rs 0 [vR (1000, l0), vI l1, vI l2, vU] [] h := by
  replace hF := (E_X10_keeper fu l0 l1 l2 w).symm.trans hF
  refine r_X10_keeper_0 ?_
  replace hF := lt_of hF
  refine sF_S wh rfl hv_l0 ?_
  clear wh
  intro h wh
  refine gI_of (wh.1 11024 _ rfl hv_l0) ?_
  obtain ⟨x3, w2, hG, hF⟩ := bnd_of hF
  refine cl_I (D := 0) (Nat.le_trans (by decide) hd) (c_X10_within wh  hG) ?_
  clear hG
  clear wh
  intro h wh
  refine ⟨⟨_, wh.1 11000 _ rfl hv_l0⟩, ?_⟩
  obtain ⟨x5, w4, hG, hF⟩ := bnd_of hF
  refine cl_I (D := 0) (Nat.le_trans (by decide) hd) (c_X10_may wh hv_l0 hG) ?_
  clear hG
  clear wh
  intro h wh
  refine ⟨fun c => ?_, fun c => ?_⟩
  · replace hF := if_ofT c hF
    obtain ⟨rfl, rfl⟩ := some_of hF
    exact hq _ wh
  · replace hF := if_ofF c hF
    obtain ⟨x7, w6, hG, hF⟩ := bnd_of hF
    refine cl_I (D := 0) (Nat.le_trans (by decide) hd) (c_X10_within wh  hG) ?_
    clear hG
    clear wh
    intro h wh
    refine ⟨⟨_, wh.1 11000 _ rfl hv_l0⟩, ?_⟩
    obtain ⟨x9, w8, hG, hF⟩ := bnd_of hF
    refine cl_I (D := 0) (Nat.le_trans (by decide) hd) (c_X10_may wh hv_l0 hG) ?_
    clear hG
    clear wh
    intro h wh
    refine ⟨fun c => ?_, fun c => ?_⟩
    · replace hF := if_ofT c hF
      obtain ⟨rfl, rfl⟩ := some_of hF
      exact hq _ wh
    · replace hF := if_ofF c hF
      refine ⟨fun c => ?_, fun c => ?_⟩
      · replace hF := if_ofT c hF
        refine gA_of (b := (1010, l0)) (wh.2.1 11017 _ rfl hv_l0) ?_
        obtain ⟨c, hF⟩ := ck_of hF
        refine xI_of wh (oA_1010 hv_l0) c ?_
        clear c
        obtain ⟨rfl, rfl⟩ := some_of hF
        exact hq _ wh
      · replace hF := if_ofF c hF
        exact w_X10_keeper_60 hd hq  fu _ _ _ _ _ wh hv_l0 hF
theorem c_X10_keeper {X : SCR} {fu : Nat} {o : Int32} {w1 : MEM} {a0 : Nat} {a1 : Int32} {a2 : Int32} {w : MEM} {h : PH} (wh : WH X h w) (h0 : vo 10 a0 = true) (hF : f_X10_keeper fu a0 a1 a2 w = some (o, w1)) : CT 1 M_X10_keeper [vR (1000, a0), vI a1, vI a2] h 0 0 (QP X (.inl (some (vI o))) w1) :=
  CT_of mk_X10_keeper (Nat.le_of_ble_eq_true rfl) rfl (w_X10_keeper (fu := fu) (rc := 0) (rs := 0) (hd := Nat.le_refl 1) (hq := fun h1 g => ⟨rfl, g⟩) wh h0 hF)
-- X10_cloud
def f_X10_cloud (fu : Nat) (l0 : Nat) (l1 : Int32) (w : MEM) : Option (Int32 × MEM) := lt (sS w (11000, l0) (0 : Int32)) fun (w1 : MEM) => bnd (f_X10_isHeir fu l0 l1 (1 : Int32) w1) fun (x3 : Int32) (w2 : MEM) => if x3 = 0 then (some ((0 : Int32), w2)) else (bnd (f_X10_take fu l0 w2) fun (u5 : Unit) (w4 : MEM) => bnd (f_X10_cloudBy fu l0 l1 w4) fun (x7 : Int32) (w6 : MEM) => some (x7, w6))
theorem E_X10_cloud (fu : Nat) (l0 : Nat) (l1 : Int32) (w : MEM) : f_X10_cloud fu l0 l1 w = lt (sS w (11000, l0) (0 : Int32)) fun (w1 : MEM) => bnd (f_X10_isHeir fu l0 l1 (1 : Int32) w1) fun (x3 : Int32) (w2 : MEM) => if x3 = 0 then (some ((0 : Int32), w2)) else (bnd (f_X10_take fu l0 w2) fun (u5 : Unit) (w4 : MEM) => bnd (f_X10_cloudBy fu l0 l1 w4) fun (x7 : Int32) (w6 : MEM) => some (x7, w6)) := rfl
theorem w_X10_cloud {X : SCR} {d rc rs : Nat} {Q : PO → PH → Prop} {o : Int32} {w1 : MEM} {fu : Nat} (hd : 5 ≤ d) (hq : ∀ h1, WH X h1 w1 → Q (.inl (some (vI o))) h1) {l0 : Nat} {l1 : Int32} {w : MEM} {h : PH} (wh : WH X h w) (hv_l0 : vo 10 l0 = true) (hF : f_X10_cloud fu l0 l1 w = some (o, w1)) : PW d M_X10_cloud Q rc rs 0 [vR (1000, l0), vI l1] [] h := by
  replace hF := (E_X10_cloud fu l0 l1 w).symm.trans hF
  refine r_X10_cloud_0 ?_
  replace hF := lt_of hF
  refine sF_S wh rfl hv_l0 ?_
  clear wh
  intro h wh
  refine ⟨⟨_, wh.1 11000 _ rfl hv_l0⟩, ?_⟩
  obtain ⟨x3, w2, hG, hF⟩ := bnd_of hF
  refine cl_I (D := 1) (Nat.le_trans (by decide) hd) (c_X10_isHeir wh hv_l0 hG) ?_
  clear hG
  clear wh
  intro h wh
  refine ⟨fun c => ?_, fun c => ?_⟩
  · replace hF := if_ofT c hF
    obtain ⟨rfl, rfl⟩ := some_of hF
    exact hq _ wh
  · replace hF := if_ofF c hF
    refine ⟨⟨_, wh.1 11000 _ rfl hv_l0⟩, ?_⟩
    obtain ⟨u5, w4, hG, hF⟩ := bnd_of hF
    refine cl_V (D := 1) (Nat.le_trans (by decide) hd) (c_X10_take wh hv_l0 hG) ?_
    clear hG
    clear wh
    intro h wh
    refine ⟨⟨_, wh.1 11000 _ rfl hv_l0⟩, ?_⟩
    obtain ⟨x7, w6, hG, hF⟩ := bnd_of hF
    refine cl_I (D := 4) (Nat.le_trans (by decide) hd) (c_X10_cloudBy wh hv_l0 hG) ?_
    clear hG
    clear wh
    intro h wh
    obtain ⟨rfl, rfl⟩ := some_of hF
    exact hq _ wh
theorem c_X10_cloud {X : SCR} {fu : Nat} {o : Int32} {w1 : MEM} {a0 : Nat} {a1 : Int32} {w : MEM} {h : PH} (wh : WH X h w) (h0 : vo 10 a0 = true) (hF : f_X10_cloud fu a0 a1 w = some (o, w1)) : CT 5 M_X10_cloud [vR (1000, a0), vI a1] h 0 0 (QP X (.inl (some (vI o))) w1) :=
  CT_of mk_X10_cloud (Nat.le_of_ble_eq_true rfl) rfl (w_X10_cloud (fu := fu) (rc := 0) (rs := 0) (hd := Nat.le_refl 5) (hq := fun h1 g => ⟨rfl, g⟩) wh h0 hF)
-- X10_would
def f_X10_would (fu : Nat) (l0 : Nat) (l1 : Int32) (l2 : Int32) (l3 : Int32) (l4 : Int32) (l5 : Int32) (l6 : Int32) (l7 : Int32) (l8 : Int32) (l9 : Int32) (w : MEM) : Option (Int32 × MEM) := lt (sS w (11000, l0) (0 : Int32)) fun (w1 : MEM) => bnd (f_X10_within fu l1 (1 : Int32) (9 : Int32) w1) fun (x3 : Int32) (w2 : MEM) => if x3 = 0 then (bnd (f_X10_may fu l0 (0 : Int32) (1 : Int32) (1 : Int32) w2) fun (x5 : Int32) (w4 : MEM) => if x5 = 0 then (some ((0 : Int32), w4)) else (bnd (f_X10_cloudOf fu l0 l1 l2 l3 l4 l5 l6 l7 l8 l9 w4) fun (x7 : Int32) (w6 : MEM) => some (x7, w6))) else (bnd (f_X10_within fu l2 (0 : Int32) (9 : Int32) w2) fun (x9 : Int32) (w8 : MEM) => if x9 = 0 then (bnd (f_X10_may fu l0 (0 : Int32) (1 : Int32) (1 : Int32) w8) fun (x11 : Int32) (w10 : MEM) => if x11 = 0 then (some ((0 : Int32), w10)) else (bnd (f_X10_cloudOf fu l0 l1 l2 l3 l4 l5 l6 l7 l8 l9 w10) fun (x13 : Int32) (w12 : MEM) => some (x13, w12))) else (bnd (f_X10_within fu l3 (0 : Int32) (999 : Int32) w8) fun (x15 : Int32) (w14 : MEM) => if x15 = 0 then (bnd (f_X10_may fu l0 (0 : Int32) (1 : Int32) (1 : Int32) w14) fun (x17 : Int32) (w16 : MEM) => if x17 = 0 then (some ((0 : Int32), w16)) else (bnd (f_X10_cloudOf fu l0 l1 l2 l3 l4 l5 l6 l7 l8 l9 w16) fun (x19 : Int32) (w18 : MEM) => some (x19, w18))) else (bnd (f_X10_within fu l4 (0 : Int32) (99 : Int32) w14) fun (x21 : Int32) (w20 : MEM) => if x21 = 0 then (bnd (f_X10_may fu l0 (0 : Int32) (1 : Int32) (1 : Int32) w20) fun (x23 : Int32) (w22 : MEM) => if x23 = 0 then (some ((0 : Int32), w22)) else (bnd (f_X10_cloudOf fu l0 l1 l2 l3 l4 l5 l6 l7 l8 l9 w22) fun (x25 : Int32) (w24 : MEM) => some (x25, w24))) else (bnd (f_X10_within fu l5 (0 : Int32) (3 : Int32) w20) fun (x27 : Int32) (w26 : MEM) => if x27 = 0 then (bnd (f_X10_may fu l0 (0 : Int32) (1 : Int32) (1 : Int32) w26) fun (x29 : Int32) (w28 : MEM) => if x29 = 0 then (some ((0 : Int32), w28)) else (bnd (f_X10_cloudOf fu l0 l1 l2 l3 l4 l5 l6 l7 l8 l9 w28) fun (x31 : Int32) (w30 : MEM) => some (x31, w30))) else (bnd (f_X10_within fu l6 (0 : Int32) (99 : Int32) w26) fun (x33 : Int32) (w32 : MEM) => if x33 = 0 then (bnd (f_X10_may fu l0 (0 : Int32) (1 : Int32) (1 : Int32) w32) fun (x35 : Int32) (w34 : MEM) => if x35 = 0 then (some ((0 : Int32), w34)) else (bnd (f_X10_cloudOf fu l0 l1 l2 l3 l4 l5 l6 l7 l8 l9 w34) fun (x37 : Int32) (w36 : MEM) => some (x37, w36))) else (bnd (f_X10_within fu l7 (0 : Int32) (23 : Int32) w32) fun (x39 : Int32) (w38 : MEM) => if x39 = 0 then (bnd (f_X10_may fu l0 (0 : Int32) (1 : Int32) (1 : Int32) w38) fun (x41 : Int32) (w40 : MEM) => if x41 = 0 then (some ((0 : Int32), w40)) else (bnd (f_X10_cloudOf fu l0 l1 l2 l3 l4 l5 l6 l7 l8 l9 w40) fun (x43 : Int32) (w42 : MEM) => some (x43, w42))) else (bnd (f_X10_within fu l8 (0 : Int32) (1 : Int32) w38) fun (x45 : Int32) (w44 : MEM) => if x45 = 0 then (bnd (f_X10_may fu l0 (0 : Int32) (1 : Int32) (1 : Int32) w44) fun (x47 : Int32) (w46 : MEM) => if x47 = 0 then (some ((0 : Int32), w46)) else (bnd (f_X10_cloudOf fu l0 l1 l2 l3 l4 l5 l6 l7 l8 l9 w46) fun (x49 : Int32) (w48 : MEM) => some (x49, w48))) else (bnd (f_X10_within fu l9 (0 : Int32) (6 : Int32) w44) fun (x51 : Int32) (w50 : MEM) => if x51 = 0 then (bnd (f_X10_may fu l0 (0 : Int32) (1 : Int32) (1 : Int32) w50) fun (x53 : Int32) (w52 : MEM) => if x53 = 0 then (some ((0 : Int32), w52)) else (bnd (f_X10_cloudOf fu l0 l1 l2 l3 l4 l5 l6 l7 l8 l9 w52) fun (x55 : Int32) (w54 : MEM) => some (x55, w54))) else (bnd (f_X10_may fu l0 (1 : Int32) (1 : Int32) (1 : Int32) w50) fun (x57 : Int32) (w56 : MEM) => if x57 = 0 then (some ((0 : Int32), w56)) else (bnd (f_X10_cloudOf fu l0 l1 l2 l3 l4 l5 l6 l7 l8 l9 w56) fun (x59 : Int32) (w58 : MEM) => some (x59, w58)))))))))))
theorem E_X10_would (fu : Nat) (l0 : Nat) (l1 : Int32) (l2 : Int32) (l3 : Int32) (l4 : Int32) (l5 : Int32) (l6 : Int32) (l7 : Int32) (l8 : Int32) (l9 : Int32) (w : MEM) : f_X10_would fu l0 l1 l2 l3 l4 l5 l6 l7 l8 l9 w = lt (sS w (11000, l0) (0 : Int32)) fun (w1 : MEM) => bnd (f_X10_within fu l1 (1 : Int32) (9 : Int32) w1) fun (x3 : Int32) (w2 : MEM) => if x3 = 0 then (bnd (f_X10_may fu l0 (0 : Int32) (1 : Int32) (1 : Int32) w2) fun (x5 : Int32) (w4 : MEM) => if x5 = 0 then (some ((0 : Int32), w4)) else (bnd (f_X10_cloudOf fu l0 l1 l2 l3 l4 l5 l6 l7 l8 l9 w4) fun (x7 : Int32) (w6 : MEM) => some (x7, w6))) else (bnd (f_X10_within fu l2 (0 : Int32) (9 : Int32) w2) fun (x9 : Int32) (w8 : MEM) => if x9 = 0 then (bnd (f_X10_may fu l0 (0 : Int32) (1 : Int32) (1 : Int32) w8) fun (x11 : Int32) (w10 : MEM) => if x11 = 0 then (some ((0 : Int32), w10)) else (bnd (f_X10_cloudOf fu l0 l1 l2 l3 l4 l5 l6 l7 l8 l9 w10) fun (x13 : Int32) (w12 : MEM) => some (x13, w12))) else (bnd (f_X10_within fu l3 (0 : Int32) (999 : Int32) w8) fun (x15 : Int32) (w14 : MEM) => if x15 = 0 then (bnd (f_X10_may fu l0 (0 : Int32) (1 : Int32) (1 : Int32) w14) fun (x17 : Int32) (w16 : MEM) => if x17 = 0 then (some ((0 : Int32), w16)) else (bnd (f_X10_cloudOf fu l0 l1 l2 l3 l4 l5 l6 l7 l8 l9 w16) fun (x19 : Int32) (w18 : MEM) => some (x19, w18))) else (bnd (f_X10_within fu l4 (0 : Int32) (99 : Int32) w14) fun (x21 : Int32) (w20 : MEM) => if x21 = 0 then (bnd (f_X10_may fu l0 (0 : Int32) (1 : Int32) (1 : Int32) w20) fun (x23 : Int32) (w22 : MEM) => if x23 = 0 then (some ((0 : Int32), w22)) else (bnd (f_X10_cloudOf fu l0 l1 l2 l3 l4 l5 l6 l7 l8 l9 w22) fun (x25 : Int32) (w24 : MEM) => some (x25, w24))) else (bnd (f_X10_within fu l5 (0 : Int32) (3 : Int32) w20) fun (x27 : Int32) (w26 : MEM) => if x27 = 0 then (bnd (f_X10_may fu l0 (0 : Int32) (1 : Int32) (1 : Int32) w26) fun (x29 : Int32) (w28 : MEM) => if x29 = 0 then (some ((0 : Int32), w28)) else (bnd (f_X10_cloudOf fu l0 l1 l2 l3 l4 l5 l6 l7 l8 l9 w28) fun (x31 : Int32) (w30 : MEM) => some (x31, w30))) else (bnd (f_X10_within fu l6 (0 : Int32) (99 : Int32) w26) fun (x33 : Int32) (w32 : MEM) => if x33 = 0 then (bnd (f_X10_may fu l0 (0 : Int32) (1 : Int32) (1 : Int32) w32) fun (x35 : Int32) (w34 : MEM) => if x35 = 0 then (some ((0 : Int32), w34)) else (bnd (f_X10_cloudOf fu l0 l1 l2 l3 l4 l5 l6 l7 l8 l9 w34) fun (x37 : Int32) (w36 : MEM) => some (x37, w36))) else (bnd (f_X10_within fu l7 (0 : Int32) (23 : Int32) w32) fun (x39 : Int32) (w38 : MEM) => if x39 = 0 then (bnd (f_X10_may fu l0 (0 : Int32) (1 : Int32) (1 : Int32) w38) fun (x41 : Int32) (w40 : MEM) => if x41 = 0 then (some ((0 : Int32), w40)) else (bnd (f_X10_cloudOf fu l0 l1 l2 l3 l4 l5 l6 l7 l8 l9 w40) fun (x43 : Int32) (w42 : MEM) => some (x43, w42))) else (bnd (f_X10_within fu l8 (0 : Int32) (1 : Int32) w38) fun (x45 : Int32) (w44 : MEM) => if x45 = 0 then (bnd (f_X10_may fu l0 (0 : Int32) (1 : Int32) (1 : Int32) w44) fun (x47 : Int32) (w46 : MEM) => if x47 = 0 then (some ((0 : Int32), w46)) else (bnd (f_X10_cloudOf fu l0 l1 l2 l3 l4 l5 l6 l7 l8 l9 w46) fun (x49 : Int32) (w48 : MEM) => some (x49, w48))) else (bnd (f_X10_within fu l9 (0 : Int32) (6 : Int32) w44) fun (x51 : Int32) (w50 : MEM) => if x51 = 0 then (bnd (f_X10_may fu l0 (0 : Int32) (1 : Int32) (1 : Int32) w50) fun (x53 : Int32) (w52 : MEM) => if x53 = 0 then (some ((0 : Int32), w52)) else (bnd (f_X10_cloudOf fu l0 l1 l2 l3 l4 l5 l6 l7 l8 l9 w52) fun (x55 : Int32) (w54 : MEM) => some (x55, w54))) else (bnd (f_X10_may fu l0 (1 : Int32) (1 : Int32) (1 : Int32) w50) fun (x57 : Int32) (w56 : MEM) => if x57 = 0 then (some ((0 : Int32), w56)) else (bnd (f_X10_cloudOf fu l0 l1 l2 l3 l4 l5 l6 l7 l8 l9 w56) fun (x59 : Int32) (w58 : MEM) => some (x59, w58))))))))))) := rfl
theorem w_X10_would {X : SCR} {d rc rs : Nat} {Q : PO → PH → Prop} {o : Int32} {w1 : MEM} {fu : Nat} (hd : 4 ≤ d) (hq : ∀ h1, WH X h1 w1 → Q (.inl (some (vI o))) h1) {l0 : Nat} {l1 : Int32} {l2 : Int32} {l3 : Int32} {l4 : Int32} {l5 : Int32} {l6 : Int32} {l7 : Int32} {l8 : Int32} {l9 : Int32} {w : MEM} {h : PH} (wh : WH X h w) (hv_l0 : vo 10 l0 = true) (hF : f_X10_would fu l0 l1 l2 l3 l4 l5 l6 l7 l8 l9 w = some (o, w1)) : PW d M_X10_would Q rc rs 0 [vR (1000, l0), vI l1, vI l2, vI l3, vI l4, vI l5, vI l6, vI l7, vI l8, vI l9] [] h := by
  replace hF := (E_X10_would fu l0 l1 l2 l3 l4 l5 l6 l7 l8 l9 w).symm.trans hF
  refine r_X10_would_0 ?_
  replace hF := lt_of hF
  refine sF_S wh rfl hv_l0 ?_
  clear wh
  intro h wh
  obtain ⟨x3, w2, hG, hF⟩ := bnd_of hF
  refine cl_I (D := 0) (Nat.le_trans (by decide) hd) (c_X10_within wh  hG) ?_
  clear hG
  clear wh
  intro h wh
  refine ⟨fun c => ?_, fun c => ?_⟩
  · replace hF := if_ofT c hF
    refine ⟨⟨_, wh.1 11000 _ rfl hv_l0⟩, ?_⟩
    obtain ⟨x5, w4, hG, hF⟩ := bnd_of hF
    refine cl_I (D := 0) (Nat.le_trans (by decide) hd) (c_X10_may wh hv_l0 hG) ?_
    clear hG
    clear wh
    intro h wh
    refine ⟨fun c => ?_, fun c => ?_⟩
    · replace hF := if_ofT c hF
      obtain ⟨rfl, rfl⟩ := some_of hF
      exact hq _ wh
    · replace hF := if_ofF c hF
      refine ⟨⟨_, wh.1 11000 _ rfl hv_l0⟩, ?_⟩
      obtain ⟨x7, w6, hG, hF⟩ := bnd_of hF
      refine cl_I (D := 3) (Nat.le_trans (by decide) hd) (c_X10_cloudOf wh hv_l0 hG) ?_
      clear hG
      clear wh
      intro h wh
      obtain ⟨rfl, rfl⟩ := some_of hF
      exact hq _ wh
  · replace hF := if_ofF c hF
    obtain ⟨x9, w8, hG, hF⟩ := bnd_of hF
    refine cl_I (D := 0) (Nat.le_trans (by decide) hd) (c_X10_within wh  hG) ?_
    clear hG
    clear wh
    intro h wh
    refine ⟨fun c => ?_, fun c => ?_⟩
    · replace hF := if_ofT c hF
      refine ⟨⟨_, wh.1 11000 _ rfl hv_l0⟩, ?_⟩
      obtain ⟨x11, w10, hG, hF⟩ := bnd_of hF
      refine cl_I (D := 0) (Nat.le_trans (by decide) hd) (c_X10_may wh hv_l0 hG) ?_
      clear hG
      clear wh
      intro h wh
      refine ⟨fun c => ?_, fun c => ?_⟩
      · replace hF := if_ofT c hF
        obtain ⟨rfl, rfl⟩ := some_of hF
        exact hq _ wh
      · replace hF := if_ofF c hF
        refine ⟨⟨_, wh.1 11000 _ rfl hv_l0⟩, ?_⟩
        obtain ⟨x13, w12, hG, hF⟩ := bnd_of hF
        refine cl_I (D := 3) (Nat.le_trans (by decide) hd) (c_X10_cloudOf wh hv_l0 hG) ?_
        clear hG
        clear wh
        intro h wh
        obtain ⟨rfl, rfl⟩ := some_of hF
        exact hq _ wh
    · replace hF := if_ofF c hF
      obtain ⟨x15, w14, hG, hF⟩ := bnd_of hF
      refine cl_I (D := 0) (Nat.le_trans (by decide) hd) (c_X10_within wh  hG) ?_
      clear hG
      clear wh
      intro h wh
      refine ⟨fun c => ?_, fun c => ?_⟩
      · replace hF := if_ofT c hF
        refine ⟨⟨_, wh.1 11000 _ rfl hv_l0⟩, ?_⟩
        obtain ⟨x17, w16, hG, hF⟩ := bnd_of hF
        refine cl_I (D := 0) (Nat.le_trans (by decide) hd) (c_X10_may wh hv_l0 hG) ?_
        clear hG
        clear wh
        intro h wh
        refine ⟨fun c => ?_, fun c => ?_⟩
        · replace hF := if_ofT c hF
          obtain ⟨rfl, rfl⟩ := some_of hF
          exact hq _ wh
        · replace hF := if_ofF c hF
          refine ⟨⟨_, wh.1 11000 _ rfl hv_l0⟩, ?_⟩
          obtain ⟨x19, w18, hG, hF⟩ := bnd_of hF
          refine cl_I (D := 3) (Nat.le_trans (by decide) hd) (c_X10_cloudOf wh hv_l0 hG) ?_
          clear hG
          clear wh
          intro h wh
          obtain ⟨rfl, rfl⟩ := some_of hF
          exact hq _ wh
      · replace hF := if_ofF c hF
        obtain ⟨x21, w20, hG, hF⟩ := bnd_of hF
        refine cl_I (D := 0) (Nat.le_trans (by decide) hd) (c_X10_within wh  hG) ?_
        clear hG
        clear wh
        intro h wh
        refine ⟨fun c => ?_, fun c => ?_⟩
        · replace hF := if_ofT c hF
          refine ⟨⟨_, wh.1 11000 _ rfl hv_l0⟩, ?_⟩
          obtain ⟨x23, w22, hG, hF⟩ := bnd_of hF
          refine cl_I (D := 0) (Nat.le_trans (by decide) hd) (c_X10_may wh hv_l0 hG) ?_
          clear hG
          clear wh
          intro h wh
          refine ⟨fun c => ?_, fun c => ?_⟩
          · replace hF := if_ofT c hF
            obtain ⟨rfl, rfl⟩ := some_of hF
            exact hq _ wh
          · replace hF := if_ofF c hF
            refine ⟨⟨_, wh.1 11000 _ rfl hv_l0⟩, ?_⟩
            obtain ⟨x25, w24, hG, hF⟩ := bnd_of hF
            refine cl_I (D := 3) (Nat.le_trans (by decide) hd) (c_X10_cloudOf wh hv_l0 hG) ?_
            clear hG
            clear wh
            intro h wh
            obtain ⟨rfl, rfl⟩ := some_of hF
            exact hq _ wh
        · replace hF := if_ofF c hF
          obtain ⟨x27, w26, hG, hF⟩ := bnd_of hF
          refine cl_I (D := 0) (Nat.le_trans (by decide) hd) (c_X10_within wh  hG) ?_
          clear hG
          clear wh
          intro h wh
          refine ⟨fun c => ?_, fun c => ?_⟩
          · replace hF := if_ofT c hF
            refine ⟨⟨_, wh.1 11000 _ rfl hv_l0⟩, ?_⟩
            obtain ⟨x29, w28, hG, hF⟩ := bnd_of hF
            refine cl_I (D := 0) (Nat.le_trans (by decide) hd) (c_X10_may wh hv_l0 hG) ?_
            clear hG
            clear wh
            intro h wh
            refine ⟨fun c => ?_, fun c => ?_⟩
            · replace hF := if_ofT c hF
              obtain ⟨rfl, rfl⟩ := some_of hF
              exact hq _ wh
            · replace hF := if_ofF c hF
              refine ⟨⟨_, wh.1 11000 _ rfl hv_l0⟩, ?_⟩
              obtain ⟨x31, w30, hG, hF⟩ := bnd_of hF
              refine cl_I (D := 3) (Nat.le_trans (by decide) hd) (c_X10_cloudOf wh hv_l0 hG) ?_
              clear hG
              clear wh
              intro h wh
              obtain ⟨rfl, rfl⟩ := some_of hF
              exact hq _ wh
          · replace hF := if_ofF c hF
            obtain ⟨x33, w32, hG, hF⟩ := bnd_of hF
            refine cl_I (D := 0) (Nat.le_trans (by decide) hd) (c_X10_within wh  hG) ?_
            clear hG
            clear wh
            intro h wh
            refine ⟨fun c => ?_, fun c => ?_⟩
            · replace hF := if_ofT c hF
              refine ⟨⟨_, wh.1 11000 _ rfl hv_l0⟩, ?_⟩
              obtain ⟨x35, w34, hG, hF⟩ := bnd_of hF
              refine cl_I (D := 0) (Nat.le_trans (by decide) hd) (c_X10_may wh hv_l0 hG) ?_
              clear hG
              clear wh
              intro h wh
              refine ⟨fun c => ?_, fun c => ?_⟩
              · replace hF := if_ofT c hF
                obtain ⟨rfl, rfl⟩ := some_of hF
                exact hq _ wh
              · replace hF := if_ofF c hF
                refine ⟨⟨_, wh.1 11000 _ rfl hv_l0⟩, ?_⟩
                obtain ⟨x37, w36, hG, hF⟩ := bnd_of hF
                refine cl_I (D := 3) (Nat.le_trans (by decide) hd) (c_X10_cloudOf wh hv_l0 hG) ?_
                clear hG
                clear wh
                intro h wh
                obtain ⟨rfl, rfl⟩ := some_of hF
                exact hq _ wh
            · replace hF := if_ofF c hF
              obtain ⟨x39, w38, hG, hF⟩ := bnd_of hF
              refine cl_I (D := 0) (Nat.le_trans (by decide) hd) (c_X10_within wh  hG) ?_
              clear hG
              clear wh
              intro h wh
              refine ⟨fun c => ?_, fun c => ?_⟩
              · replace hF := if_ofT c hF
                refine ⟨⟨_, wh.1 11000 _ rfl hv_l0⟩, ?_⟩
                obtain ⟨x41, w40, hG, hF⟩ := bnd_of hF
                refine cl_I (D := 0) (Nat.le_trans (by decide) hd) (c_X10_may wh hv_l0 hG) ?_
                clear hG
                clear wh
                intro h wh
                refine ⟨fun c => ?_, fun c => ?_⟩
                · replace hF := if_ofT c hF
                  obtain ⟨rfl, rfl⟩ := some_of hF
                  exact hq _ wh
                · replace hF := if_ofF c hF
                  refine ⟨⟨_, wh.1 11000 _ rfl hv_l0⟩, ?_⟩
                  obtain ⟨x43, w42, hG, hF⟩ := bnd_of hF
                  refine cl_I (D := 3) (Nat.le_trans (by decide) hd) (c_X10_cloudOf wh hv_l0 hG) ?_
                  clear hG
                  clear wh
                  intro h wh
                  obtain ⟨rfl, rfl⟩ := some_of hF
                  exact hq _ wh
              · replace hF := if_ofF c hF
                obtain ⟨x45, w44, hG, hF⟩ := bnd_of hF
                refine cl_I (D := 0) (Nat.le_trans (by decide) hd) (c_X10_within wh  hG) ?_
                clear hG
                clear wh
                intro h wh
                refine ⟨fun c => ?_, fun c => ?_⟩
                · replace hF := if_ofT c hF
                  refine ⟨⟨_, wh.1 11000 _ rfl hv_l0⟩, ?_⟩
                  obtain ⟨x47, w46, hG, hF⟩ := bnd_of hF
                  refine cl_I (D := 0) (Nat.le_trans (by decide) hd) (c_X10_may wh hv_l0 hG) ?_
                  clear hG
                  clear wh
                  intro h wh
                  refine ⟨fun c => ?_, fun c => ?_⟩
                  · replace hF := if_ofT c hF
                    obtain ⟨rfl, rfl⟩ := some_of hF
                    exact hq _ wh
                  · replace hF := if_ofF c hF
                    refine ⟨⟨_, wh.1 11000 _ rfl hv_l0⟩, ?_⟩
                    obtain ⟨x49, w48, hG, hF⟩ := bnd_of hF
                    refine cl_I (D := 3) (Nat.le_trans (by decide) hd) (c_X10_cloudOf wh hv_l0 hG) ?_
                    clear hG
                    clear wh
                    intro h wh
                    obtain ⟨rfl, rfl⟩ := some_of hF
                    exact hq _ wh
                · replace hF := if_ofF c hF
                  obtain ⟨x51, w50, hG, hF⟩ := bnd_of hF
                  refine cl_I (D := 0) (Nat.le_trans (by decide) hd) (c_X10_within wh  hG) ?_
                  clear hG
                  clear wh
                  intro h wh
                  refine ⟨fun c => ?_, fun c => ?_⟩
                  · replace hF := if_ofT c hF
                    refine ⟨⟨_, wh.1 11000 _ rfl hv_l0⟩, ?_⟩
                    obtain ⟨x53, w52, hG, hF⟩ := bnd_of hF
                    refine cl_I (D := 0) (Nat.le_trans (by decide) hd) (c_X10_may wh hv_l0 hG) ?_
                    clear hG
                    clear wh
                    intro h wh
                    refine ⟨fun c => ?_, fun c => ?_⟩
                    · replace hF := if_ofT c hF
                      obtain ⟨rfl, rfl⟩ := some_of hF
                      exact hq _ wh
                    · replace hF := if_ofF c hF
                      refine ⟨⟨_, wh.1 11000 _ rfl hv_l0⟩, ?_⟩
                      obtain ⟨x55, w54, hG, hF⟩ := bnd_of hF
                      refine cl_I (D := 3) (Nat.le_trans (by decide) hd) (c_X10_cloudOf wh hv_l0 hG) ?_
                      clear hG
                      clear wh
                      intro h wh
                      obtain ⟨rfl, rfl⟩ := some_of hF
                      exact hq _ wh
                  · replace hF := if_ofF c hF
                    refine ⟨⟨_, wh.1 11000 _ rfl hv_l0⟩, ?_⟩
                    obtain ⟨x57, w56, hG, hF⟩ := bnd_of hF
                    refine cl_I (D := 0) (Nat.le_trans (by decide) hd) (c_X10_may wh hv_l0 hG) ?_
                    clear hG
                    clear wh
                    intro h wh
                    refine ⟨fun c => ?_, fun c => ?_⟩
                    · replace hF := if_ofT c hF
                      obtain ⟨rfl, rfl⟩ := some_of hF
                      exact hq _ wh
                    · replace hF := if_ofF c hF
                      refine ⟨⟨_, wh.1 11000 _ rfl hv_l0⟩, ?_⟩
                      obtain ⟨x59, w58, hG, hF⟩ := bnd_of hF
                      refine cl_I (D := 3) (Nat.le_trans (by decide) hd) (c_X10_cloudOf wh hv_l0 hG) ?_
                      clear hG
                      clear wh
                      intro h wh
                      obtain ⟨rfl, rfl⟩ := some_of hF
                      exact hq _ wh
theorem c_X10_would {X : SCR} {fu : Nat} {o : Int32} {w1 : MEM} {a0 : Nat} {a1 : Int32} {a2 : Int32} {a3 : Int32} {a4 : Int32} {a5 : Int32} {a6 : Int32} {a7 : Int32} {a8 : Int32} {a9 : Int32} {w : MEM} {h : PH} (wh : WH X h w) (h0 : vo 10 a0 = true) (hF : f_X10_would fu a0 a1 a2 a3 a4 a5 a6 a7 a8 a9 w = some (o, w1)) : CT 4 M_X10_would [vR (1000, a0), vI a1, vI a2, vI a3, vI a4, vI a5, vI a6, vI a7, vI a8, vI a9] h 0 0 (QP X (.inl (some (vI o))) w1) :=
  CT_of mk_X10_would (Nat.le_of_ble_eq_true rfl) rfl (w_X10_would (fu := fu) (rc := 0) (rs := 0) (hd := Nat.le_refl 4) (hq := fun h1 g => ⟨rfl, g⟩) wh h0 hF)
