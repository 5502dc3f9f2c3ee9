/-! a PART of the memory: some objects alone (Y.1), over a heap (Y.2) that stays as it is elsewhere -/
abbrev EX : Type := (Nat → Nat → Bool) × PH
def tou (Y : EX) (b : LA) : Prop := (kl b.1 = 1 ∧ Y.1 ((b.1 - 10000) / 100) b.2 = true) ∨ (kl b.1 = 4 ∧ Y.1 (b.1 / 100) b.2 = true)
def WP (Y : EX) (h : PH) (w : MEM) : Prop :=
  (∀ t i, kl t = 1 → Y.1 ((t - 10000) / 100) i = true → h (t, i) = pF (vI (rS w (t, i)))) ∧
  (∀ t i, kl t = 2 → Y.1 ((t - 10000) / 100) i = true → h (t, i) = pF (vR (fR t i))) ∧
  (∀ t i, kl t = 4 → Y.1 (t / 100) i = true → h (t, i) = pA (aK t) (aN t) (.inl (fA w (t, i)))) ∧
  (∀ b, ¬ tou Y b → h b = Y.2 b)
theorem WP.S {Y : EX} {h : PH} {w : MEM} (wh : WP Y h w) {t i : Nat} (ht : kl t = 1) (hv : Y.1 ((t - 10000) / 100) i = true) (x : Int32) : WP Y (up h (t, i) (pF (vI x))) (sS w (t, i) x) := by
  obtain ⟨g1, g2, g3, g4⟩ := wh
  refine ⟨fun t1 i1 h1 h2 => ?_, fun t1 i1 h1 h2 => ?_, fun t1 i1 h1 h2 => ?_, fun b hb => ?_⟩
  · unfold up; rw [rS_sS]; split
    · rfl
    · exact g1 t1 i1 h1 h2
  · rw [up_ne h _ (ne_kl ht h1 (by decide))]; exact g2 t1 i1 h1 h2
  · rw [up_ne h _ (ne_kl ht h1 (by decide))]; exact g3 t1 i1 h1 h2
  · rw [up_ne h _ (fun e => hb (by rw [e]; exact Or.inl ⟨ht, hv⟩))]
    exact g4 b hb
theorem WP.A {Y : EX} {h : PH} {w : MEM} (wh : WP Y h w) {t i : Nat} (ht : kl t = 4) (hv : Y.1 (t / 100) i = true) (f : Nat → Int32) : WP Y (up h (t, i) (pA (aK t) (aN t) (.inl f))) (tA w (t, i) f) := by
  obtain ⟨g1, g2, g3, g4⟩ := wh
  refine ⟨fun t1 i1 h1 h2 => ?_, fun t1 i1 h1 h2 => ?_, fun t1 i1 h1 h2 => ?_, fun b hb => ?_⟩
  · rw [up_ne h _ (ne_kl ht h1 (by decide))]; exact g1 t1 i1 h1 h2
  · rw [up_ne h _ (ne_kl ht h1 (by decide))]; exact g2 t1 i1 h1 h2
  · unfold up; rw [fA_tA]; split
    · rename_i e
      obtain ⟨rfl, rfl⟩ := Prod.mk.inj e
      rfl
    · exact g3 t1 i1 h1 h2
  · rw [up_ne h _ (fun e => hb (by rw [e]; exact Or.inr ⟨ht, hv⟩))]
    exact g4 b hb
def oAp (Y : EX) (a : LA) (kd : Nat) : Prop := kl a.1 = 4 ∧ Y.1 (a.1 / 100) a.2 = true ∧ aK a.1 = kd
section
variable {Y : EX}
theorem xI_p {h : PH} {w : MEM} (wh : WP Y h w) {a : LA} {i : Int32} {K : Int32 → Prop} (ha : oAp Y a 0) (hb : bI i (aN a.1) = true) (k : K (rA w a i)) : xI h a i K := by
  have e := wh.2.2.1 a.1 a.2 ha.1 ha.2.1
  rw [ha.2.2] at e
  exact ⟨_, _, e, bI_in hb, k⟩
theorem yI_p {h : PH} {w : MEM} (wh : WP Y h w) {a : LA} {i x : Int32} {K : PH → Prop} (ha : oAp Y a 0) (hb : bI i (aN a.1) = true) (k : ∀ h1, WP Y h1 (sA w a i x) → K h1) : yI h a i x K := by
  have e := wh.2.2.1 a.1 a.2 ha.1 ha.2.1
  have g := wh.A (i := a.2) ha.1 ha.2.1 (upd (fA w a) i.toNatClampNeg x)
  rw [ha.2.2] at e g
  exact ⟨_, _, e, bI_in hb, k _ g⟩
theorem sF_p {h : PH} {w : MEM} (wh : WP Y h w) {t i : Nat} {x : Int32} {K : PH → Prop} (ht : kl t = 1) (hv : Y.1 ((t - 10000) / 100) i = true) (k : ∀ h1, WP Y h1 (sS w (t, i) x) → K h1) : sF h (t, i) (vI x) K := ⟨⟨_, wh.1 t i ht hv⟩, k _ (wh.S ht hv x)⟩
theorem lnA_p {h : PH} {w : MEM} (wh : WP Y h w) {a : LA} {kd : Nat} {K : Int32 → Prop} (ha : oAp Y a kd) (k : K (nI (aN a.1))) : lnA h a K := by
  have hk : aK a.1 < 90 := by unfold aK; split <;> decide
  exact ⟨_, _, _, hk, wh.2.2.1 a.1 a.2 ha.1 ha.2.1, k⟩
def QPp (Y : EX) (p : PO) (w1 : MEM) : PO → PH → Prop := fun r h1 => r = p ∧ WP Y h1 w1
theorem cl_Vp {d D rc rs : Nat} {M : MR} {av : List PV} {h : PH} {w1 : MEM} {K : PH → Nat → Nat → Prop} {XX : String → PH → Nat → Nat → Prop} (hd : D + 1 ≤ d) (c : CT D M av h 0 0 (QPp Y (.inl none) w1)) (k : ∀ h1, WP Y h1 w1 → K h1 rc rs) : cl d rc rs M av h (kV K) XX :=
  ⟨D, 0, 0, rc, rs, _, hd, (Nat.zero_add rc).symm, (Nat.zero_add rs).symm, c, fun v h1 q => by
    obtain ⟨e, q⟩ := q
    injection e with e
    exact ⟨e, k h1 q⟩, fun E h1 q => by cases q.1⟩
theorem oAp_101 {i : Nat} (hv : Y.1 1 i = true) : oAp Y (101, i) 0 := ⟨rfl, (by simpa using hv), rfl⟩
theorem oAp_102 {i : Nat} (hv : Y.1 1 i = true) : oAp Y (102, i) 0 := ⟨rfl, (by simpa using hv), rfl⟩
theorem oAp_301 {i : Nat} (hv : Y.1 3 i = true) : oAp Y (301, i) 0 := ⟨rfl, (by simpa using hv), rfl⟩
theorem oAp_302 {i : Nat} (hv : Y.1 3 i = true) : oAp Y (302, i) 0 := ⟨rfl, (by simpa using hv), rfl⟩
theorem oAp_401 {i : Nat} (hv : Y.1 4 i = true) : oAp Y (401, i) 0 := ⟨rfl, (by simpa using hv), rfl⟩
theorem oAp_402 {i : Nat} (hv : Y.1 4 i = true) : oAp Y (402, i) 0 := ⟨rfl, (by simpa using hv), rfl⟩
theorem oAp_403 {i : Nat} (hv : Y.1 4 i = true) : oAp Y (403, i) 0 := ⟨rfl, (by simpa using hv), rfl⟩
theorem oAp_404 {i : Nat} (hv : Y.1 4 i = true) : oAp Y (404, i) 0 := ⟨rfl, (by simpa using hv), rfl⟩
theorem oAp_405 {i : Nat} (hv : Y.1 4 i = true) : oAp Y (405, i) 0 := ⟨rfl, (by simpa using hv), rfl⟩
theorem oAp_406 {i : Nat} (hv : Y.1 4 i = true) : oAp Y (406, i) 0 := ⟨rfl, (by simpa using hv), rfl⟩
theorem oAp_407 {i : Nat} (hv : Y.1 4 i = true) : oAp Y (407, i) 0 := ⟨rfl, (by simpa using hv), rfl⟩
theorem oAp_408 {i : Nat} (hv : Y.1 4 i = true) : oAp Y (408, i) 0 := ⟨rfl, (by simpa using hv), rfl⟩
theorem oAp_409 {i : Nat} (hv : Y.1 4 i = true) : oAp Y (409, i) 0 := ⟨rfl, (by simpa using hv), rfl⟩
theorem oAp_1003 {i : Nat} (hv : Y.1 10 i = true) : oAp Y (1003, i) 0 := ⟨rfl, (by simpa using hv), rfl⟩
theorem oAp_1004 {i : Nat} (hv : Y.1 10 i = true) : oAp Y (1004, i) 0 := ⟨rfl, (by simpa using hv), rfl⟩
theorem oAp_1005 {i : Nat} (hv : Y.1 10 i = true) : oAp Y (1005, i) 0 := ⟨rfl, (by simpa using hv), rfl⟩
theorem oAp_1006 {i : Nat} (hv : Y.1 10 i = true) : oAp Y (1006, i) 0 := ⟨rfl, (by simpa using hv), rfl⟩
theorem oAp_1007 {i : Nat} (hv : Y.1 10 i = true) : oAp Y (1007, i) 0 := ⟨rfl, (by simpa using hv), rfl⟩
theorem oAp_1008 {i : Nat} (hv : Y.1 10 i = true) : oAp Y (1008, i) 0 := ⟨rfl, (by simpa using hv), rfl⟩
theorem oAp_1009 {i : Nat} (hv : Y.1 10 i = true) : oAp Y (1009, i) 0 := ⟨rfl, (by simpa using hv), rfl⟩
theorem oAp_1010 {i : Nat} (hv : Y.1 10 i = true) : oAp Y (1010, i) 0 := ⟨rfl, (by simpa using hv), rfl⟩
theorem oAp_1019 {i : Nat} (hv : Y.1 10 i = true) : oAp Y (1019, i) 0 := ⟨rfl, (by simpa using hv), rfl⟩
theorem oAp_1023 {i : Nat} (hv : Y.1 10 i = true) : oAp Y (1023, i) 0 := ⟨rfl, (by simpa using hv), rfl⟩
theorem wp_J7_fill_53178_5 {Y : EX} {d rc rs : Nat} {Q : PO → PH → Prop} {o : Unit} {w1 : MEM} {fu : Nat} (hd : 0 ≤ d) (hq : ∀ h1, WP Y h1 w1 → Q (.inl none) h1) : ∀ (n : Nat) (l0 : LA) (l1 : Int32) (l2 : Int32) (l3 : Int32) (w : MEM) (h : PH), WP Y h w → oAp Y l0 0 → f_J7_fill_53178_5 fu n l0 l1 l2 l3 w = some (o, w1) → PW d M_J7_fill_53178 Q rc rs 5 [vR l0, vI l1, vI l2, vI l3] [] h := by
  intro n
  induction n with
  | zero => intro l0 l1 l2 l3 w h wh ha_l0 hF; cases hF
  | succ n ih =>
    intro l0 l1 l2 l3 w h wh ha_l0 hF
    replace hF := (E_J7_fill_53178_5 fu n l0 l1 l2 l3 w).symm.trans hF
    refine r_J7_fill_53178_5 ?_
    refine ⟨fun c => ?_, fun c => ?_⟩
    · replace hF := if_ofT c hF
      obtain ⟨c, hF⟩ := ck_of hF
      replace hF := lt_of hF
      refine yI_p wh ha_l0 c ?_
      clear c wh
      intro h wh
      exact ih _ _ _ _ _ _ wh ha_l0 hF
    · replace hF := if_ofF c hF
      obtain ⟨rfl, rfl⟩ := some_of hF
      exact hq _ wh
theorem wp_J7_fill_53178 {Y : EX} {d rc rs : Nat} {Q : PO → PH → Prop} {o : Unit} {w1 : MEM} {fu : Nat} (hd : 0 ≤ d) (hq : ∀ h1, WP Y h1 w1 → Q (.inl none) h1) {l0 : LA} {l1 : Int32} {w : MEM} {h : PH} (wh : WP Y h w) (ha_l0 : oAp Y l0 0) (hF : f_J7_fill_53178 fu l0 l1 w = some (o, w1)) : PW d M_J7_fill_53178 Q rc rs 0 [vR l0, vI l1, vU, vU] [] h := by
  replace hF := (E_J7_fill_53178 fu l0 l1 w).symm.trans hF
  refine r_J7_fill_53178_0 ?_
  refine lnA_p wh ha_l0 ?_
  replace hF := lt_of hF
  exact wp_J7_fill_53178_5 hd hq  fu _ _ _ _ _ _ wh ha_l0 hF
theorem cp_J7_fill_53178 {Y : EX} {fu : Nat} {o : Unit} {w1 : MEM} {a0 : LA} {a1 : Int32} {w : MEM} {h : PH} (wh : WP Y h w) (h0 : oAp Y a0 0) (hF : f_J7_fill_53178 fu a0 a1 w = some (o, w1)) : CT 0 M_J7_fill_53178 [vR a0, vI a1] h 0 0 (QPp Y (.inl none) w1) :=
  CT_of mk_J7_fill_53178 (Nat.le_of_ble_eq_true rfl) rfl (wp_J7_fill_53178 (fu := fu) (rc := 0) (rs := 0) (hd := Nat.le_refl 0) (hq := fun h1 g => ⟨rfl, g⟩) wh h0 hF)
theorem wp_X4_begin_7 {Y : EX} {d rc rs : Nat} {Q : PO → PH → Prop} {o : Unit} {w1 : MEM} {fu : Nat} (hd : 0 ≤ d) (hq : ∀ h1, WP Y h1 w1 → Q (.inl none) h1) : ∀ (n : Nat) (l0 : Nat) (l1 : Nat) (l2 : Int32) (w : MEM) (h : PH), WP Y h w → Y.1 4 l0 = true → Y.1 1 l1 = true → f_X4_begin_7 fu n l0 l1 l2 w = some (o, w1) → PW d M_X4_begin Q rc rs 7 [vR (400, l0), vR (100, l1), vI l2] [] h := by
  intro n
  induction n with
  | zero => intro l0 l1 l2 w h wh hv_l0 hv_l1 hF; cases hF
  | succ n ih =>
    intro l0 l1 l2 w h wh hv_l0 hv_l1 hF
    replace hF := (E_X4_begin_7 fu n l0 l1 l2 w).symm.trans hF
    refine r_X4_begin_7 ?_
    refine ⟨fun c => ?_, fun c => ?_⟩
    · replace hF := if_ofT c hF
      refine gA_of (b := (401, l0)) (wh.2.1 10400 _ rfl hv_l0) ?_
      refine gA_of (b := (101, l1)) (wh.2.1 10100 _ rfl hv_l1) ?_
      obtain ⟨c, hF⟩ := ck_of hF
      refine xI_p wh (oAp_101 hv_l1) c ?_
      clear c
      obtain ⟨c, hF⟩ := ck_of hF
      replace hF := lt_of hF
      refine yI_p wh (oAp_401 hv_l0) c ?_
      clear c wh
      intro h wh
      refine gA_of (b := (402, l0)) (wh.2.1 10401 _ rfl hv_l0) ?_
      refine gA_of (b := (102, l1)) (wh.2.1 10101 _ rfl hv_l1) ?_
      obtain ⟨c, hF⟩ := ck_of hF
      refine xI_p wh (oAp_102 hv_l1) c ?_
      clear c
      obtain ⟨c, hF⟩ := ck_of hF
      replace hF := lt_of hF
      refine yI_p wh (oAp_402 hv_l0) c ?_
      clear c wh
      intro h wh
      refine gA_of (b := (403, l0)) (wh.2.1 10402 _ rfl hv_l0) ?_
      obtain ⟨c, hF⟩ := ck_of hF
      replace hF := lt_of hF
      refine yI_p wh (oAp_403 hv_l0) c ?_
      clear c wh
      intro h wh
      refine gA_of (b := (404, l0)) (wh.2.1 10403 _ rfl hv_l0) ?_
      obtain ⟨c, hF⟩ := ck_of hF
      replace hF := lt_of hF
      refine yI_p wh (oAp_404 hv_l0) c ?_
      clear c wh
      intro h wh
      refine gA_of (b := (405, l0)) (wh.2.1 10404 _ rfl hv_l0) ?_
      obtain ⟨c, hF⟩ := ck_of hF
      replace hF := lt_of hF
      refine yI_p wh (oAp_405 hv_l0) c ?_
      clear c wh
      intro h wh
      refine gA_of (b := (406, l0)) (wh.2.1 10405 _ rfl hv_l0) ?_
      obtain ⟨c, hF⟩ := ck_of hF
      replace hF := lt_of hF
      refine yI_p wh (oAp_406 hv_l0) c ?_
      clear c wh
      intro h wh
      refine gA_of (b := (407, l0)) (wh.2.1 10406 _ rfl hv_l0) ?_
      refine gI_of (wh.1 10107 _ rfl hv_l1) ?_
      refine ⟨fun c => ?_, fun c => ?_⟩
      · replace hF := if_ofT c hF
        obtain ⟨c, hF⟩ := ck_of hF
        replace hF := lt_of hF
        refine yI_p wh (oAp_407 hv_l0) c ?_
        clear c wh
        intro h wh
        refine gA_of (b := (408, l0)) (wh.2.1 10407 _ rfl hv_l0) ?_
        obtain ⟨c, hF⟩ := ck_of hF
        replace hF := lt_of hF
        refine yI_p wh (oAp_408 hv_l0) c ?_
        clear c wh
        intro h wh
        refine gA_of (b := (409, l0)) (wh.2.1 10408 _ rfl hv_l0) ?_
        obtain ⟨c, hF⟩ := ck_of hF
        replace hF := lt_of hF
        refine yI_p wh (oAp_409 hv_l0) c ?_
        clear c wh
        intro h wh
        exact ih _ _ _ _ _ wh hv_l0 hv_l1 hF
      · replace hF := if_ofF c hF
        obtain ⟨c, hF⟩ := ck_of hF
        replace hF := lt_of hF
        refine yI_p wh (oAp_407 hv_l0) c ?_
        clear c wh
        intro h wh
        refine gA_of (b := (408, l0)) (wh.2.1 10407 _ rfl hv_l0) ?_
        obtain ⟨c, hF⟩ := ck_of hF
        replace hF := lt_of hF
        refine yI_p wh (oAp_408 hv_l0) c ?_
        clear c wh
        intro h wh
        refine gA_of (b := (409, l0)) (wh.2.1 10408 _ rfl hv_l0) ?_
        obtain ⟨c, hF⟩ := ck_of hF
        replace hF := lt_of hF
        refine yI_p wh (oAp_409 hv_l0) c ?_
        clear c wh
        intro h wh
        exact ih _ _ _ _ _ wh hv_l0 hv_l1 hF
    · replace hF := if_ofF c hF
      obtain ⟨rfl, rfl⟩ := some_of hF
      exact hq _ wh
theorem wp_X4_begin {Y : EX} {d rc rs : Nat} {Q : PO → PH → Prop} {o : Unit} {w1 : MEM} {fu : Nat} (hd : 0 ≤ d) (hq : ∀ h1, WP Y h1 w1 → Q (.inl none) h1) {l0 : Nat} {l1 : Nat} {w : MEM} {h : PH} (wh : WP Y h w) (hv_l0 : Y.1 4 l0 = true) (hv_l1 : Y.1 1 l1 = true) (hF : f_X4_begin fu l0 l1 w = some (o, w1)) : PW d M_X4_begin Q rc rs 0 [vR (400, l0), vR (100, l1), vU] [] h := by
  replace hF := (E_X4_begin fu l0 l1 w).symm.trans hF
  refine r_X4_begin_0 ?_
  replace hF := lt_of hF
  refine sF_p wh rfl hv_l0 ?_
  clear wh
  intro h wh
  exact wp_X4_begin_7 hd hq  fu _ _ _ _ _ wh hv_l0 hv_l1 hF
theorem cp_X4_begin {Y : EX} {fu : Nat} {o : Unit} {w1 : MEM} {a0 : Nat} {a1 : Nat} {w : MEM} {h : PH} (wh : WP Y h w) (h0 : Y.1 4 a0 = true) (h1 : Y.1 1 a1 = true) (hF : f_X4_begin fu a0 a1 w = some (o, w1)) : CT 0 M_X4_begin [vR (400, a0), vR (100, a1)] h 0 0 (QPp Y (.inl none) w1) :=
  CT_of mk_X4_begin (Nat.le_of_ble_eq_true rfl) rfl (wp_X4_begin (fu := fu) (rc := 0) (rs := 0) (hd := Nat.le_refl 0) (hq := fun h1 g => ⟨rfl, g⟩) wh h0 h1 hF)
theorem wp_X2_begin {Y : EX} {d rc rs : Nat} {Q : PO → PH → Prop} {o : Unit} {w1 : MEM} {fu : Nat} (hd : 1 ≤ d) (hq : ∀ h1, WP Y h1 w1 → Q (.inl none) h1) {l0 : Nat} {l1 : Nat} {w : MEM} {h : PH} (wh : WP Y h w) (hv_l0 : Y.1 2 l0 = true) (hv9 : Y.1 4 (l0 + 1) = true) (hv_l1 : Y.1 1 l1 = true) (hF : f_X2_begin fu l0 l1 w = some (o, w1)) : PW d M_X2_begin Q rc rs 0 [vR (200, l0), vR (100, l1)] [] h := by
  replace hF := (E_X2_begin fu l0 l1 w).symm.trans hF
  refine r_X2_begin_0 ?_
  refine gO_of (i := (l0 + 1)) (wh.2.1 10200 _ rfl hv_l0) ?_
  refine ⟨⟨_, wh.2.1 10400 _ rfl (hv9)⟩, ?_⟩
  obtain ⟨u2, w1, hG, hF⟩ := bnd_of hF
  refine cl_Vp (D := 0) (Nat.le_trans (by decide) hd) (cp_X4_begin wh (hv9) hv_l1 hG) ?_
  clear hG
  clear wh
  intro h wh
  replace hF := lt_of hF
  refine sF_p wh rfl hv_l0 ?_
  clear wh
  intro h wh
  obtain ⟨rfl, rfl⟩ := some_of hF
  exact hq _ wh
theorem cp_X2_begin {Y : EX} {fu : Nat} {o : Unit} {w1 : MEM} {a0 : Nat} {a1 : Nat} {w : MEM} {h : PH} (wh : WP Y h w) (h0 : Y.1 2 a0 = true) (hv9 : Y.1 4 (a0 + 1) = true) (h1 : Y.1 1 a1 = true) (hF : f_X2_begin fu a0 a1 w = some (o, w1)) : CT 1 M_X2_begin [vR (200, a0), vR (100, a1)] h 0 0 (QPp Y (.inl none) w1) :=
  CT_of mk_X2_begin (Nat.le_of_ble_eq_true rfl) rfl (wp_X2_begin (fu := fu) (rc := 0) (rs := 0) (hd := Nat.le_refl 1) (hq := fun h1 g => ⟨rfl, g⟩) wh h0 hv9 h1 hF)
theorem wp_X3_add {Y : EX} {d rc rs : Nat} {Q : PO → PH → Prop} {o : Unit} {w1 : MEM} {fu : Nat} (hd : 0 ≤ d) (hq : ∀ h1, WP Y h1 w1 → Q (.inl none) h1) {l0 : Nat} {l1 : Int32} {l2 : Int32} {w : MEM} {h : PH} (wh : WP Y h w) (hv_l0 : Y.1 3 l0 = true) (hF : f_X3_add fu l0 l1 l2 w = some (o, w1)) : PW d M_X3_add Q rc rs 0 [vR (300, l0), vI l1, vI l2] [] h := by
  replace hF := (E_X3_add fu l0 l1 l2 w).symm.trans hF
  refine r_X3_add_0 ?_
  refine gI_of (wh.1 10304 _ rfl hv_l0) ?_
  refine ⟨fun c => ?_, fun c => ?_⟩
  · replace hF := if_ofT c hF
    refine gA_of (b := (301, l0)) (wh.2.1 10300 _ rfl hv_l0) ?_
    refine gI_of (wh.1 10304 _ rfl hv_l0) ?_
    obtain ⟨c, hF⟩ := ck_of hF
    replace hF := lt_of hF
    refine yI_p wh (oAp_301 hv_l0) c ?_
    clear c wh
    intro h wh
    refine gA_of (b := (302, l0)) (wh.2.1 10301 _ rfl hv_l0) ?_
    refine gI_of (wh.1 10304 _ rfl hv_l0) ?_
    obtain ⟨c, hF⟩ := ck_of hF
    replace hF := lt_of hF
    refine yI_p wh (oAp_302 hv_l0) c ?_
    clear c wh
    intro h wh
    refine gI_of (wh.1 10304 _ rfl hv_l0) ?_
    replace hF := lt_of hF
    refine sF_p wh rfl hv_l0 ?_
    clear wh
    intro h wh
    obtain ⟨rfl, rfl⟩ := some_of hF
    exact hq _ wh
  · replace hF := if_ofF c hF
    obtain ⟨rfl, rfl⟩ := some_of hF
    exact hq _ wh
theorem cp_X3_add {Y : EX} {fu : Nat} {o : Unit} {w1 : MEM} {a0 : Nat} {a1 : Int32} {a2 : Int32} {w : MEM} {h : PH} (wh : WP Y h w) (h0 : Y.1 3 a0 = true) (hF : f_X3_add fu a0 a1 a2 w = some (o, w1)) : CT 0 M_X3_add [vR (300, a0), vI a1, vI a2] h 0 0 (QPp Y (.inl none) w1) :=
  CT_of mk_X3_add (Nat.le_of_ble_eq_true rfl) rfl (wp_X3_add (fu := fu) (rc := 0) (rs := 0) (hd := Nat.le_refl 0) (hq := fun h1 g => ⟨rfl, g⟩) wh h0 hF)
theorem wp_X3_beUsual {Y : EX} {d rc rs : Nat} {Q : PO → PH → Prop} {o : Unit} {w1 : MEM} {fu : Nat} (hd : 1 ≤ d) (hq : ∀ h1, WP Y h1 w1 → Q (.inl none) h1) {l0 : Nat} {w : MEM} {h : PH} (wh : WP Y h w) (hv_l0 : Y.1 3 l0 = true) (hF : f_X3_beUsual fu l0 w = some (o, w1)) : PW d M_X3_beUsual Q rc rs 0 [vR (300, l0)] [] h := by
  replace hF := (E_X3_beUsual fu l0 w).symm.trans hF
  refine r_X3_beUsual_0 ?_
  replace hF := lt_of hF
  refine sF_p wh rfl hv_l0 ?_
  clear wh
  intro h wh
  refine ⟨⟨_, wh.2.1 10300 _ rfl hv_l0⟩, ?_⟩
  obtain ⟨u3, w2, hG, hF⟩ := bnd_of hF
  refine cl_Vp (D := 0) (Nat.le_trans (by decide) hd) (cp_X3_add wh hv_l0 hG) ?_
  clear hG
  clear wh
  intro h wh
  refine ⟨⟨_, wh.2.1 10300 _ rfl hv_l0⟩, ?_⟩
  obtain ⟨u5, w4, hG, hF⟩ := bnd_of hF
  refine cl_Vp (D := 0) (Nat.le_trans (by decide) hd) (cp_X3_add wh hv_l0 hG) ?_
  clear hG
  clear wh
  intro h wh
  refine ⟨⟨_, wh.2.1 10300 _ rfl hv_l0⟩, ?_⟩
  obtain ⟨u7, w6, hG, hF⟩ := bnd_of hF
  refine cl_Vp (D := 0) (Nat.le_trans (by decide) hd) (cp_X3_add wh hv_l0 hG) ?_
  clear hG
  clear wh
  intro h wh
  refine ⟨⟨_, wh.2.1 10300 _ rfl hv_l0⟩, ?_⟩
  obtain ⟨u9, w8, hG, hF⟩ := bnd_of hF
  refine cl_Vp (D := 0) (Nat.le_trans (by decide) hd) (cp_X3_add wh hv_l0 hG) ?_
  clear hG
  clear wh
  intro h wh
  refine ⟨⟨_, wh.2.1 10300 _ rfl hv_l0⟩, ?_⟩
  obtain ⟨u11, w10, hG, hF⟩ := bnd_of hF
  refine cl_Vp (D := 0) (Nat.le_trans (by decide) hd) (cp_X3_add wh hv_l0 hG) ?_
  clear hG
  clear wh
  intro h wh
  refine ⟨⟨_, wh.2.1 10300 _ rfl hv_l0⟩, ?_⟩
  obtain ⟨u13, w12, hG, hF⟩ := bnd_of hF
  refine cl_Vp (D := 0) (Nat.le_trans (by decide) hd) (cp_X3_add wh hv_l0 hG) ?_
  clear hG
  clear wh
  intro h wh
  refine ⟨⟨_, wh.2.1 10300 _ rfl hv_l0⟩, ?_⟩
  obtain ⟨u15, w14, hG, hF⟩ := bnd_of hF
  refine cl_Vp (D := 0) (Nat.le_trans (by decide) hd) (cp_X3_add wh hv_l0 hG) ?_
  clear hG
  clear wh
  intro h wh
  obtain ⟨rfl, rfl⟩ := some_of hF
  exact hq _ wh
theorem cp_X3_beUsual {Y : EX} {fu : Nat} {o : Unit} {w1 : MEM} {a0 : Nat} {w : MEM} {h : PH} (wh : WP Y h w) (h0 : Y.1 3 a0 = true) (hF : f_X3_beUsual fu a0 w = some (o, w1)) : CT 1 M_X3_beUsual [vR (300, a0)] h 0 0 (QPp Y (.inl none) w1) :=
  CT_of mk_X3_beUsual (Nat.le_of_ble_eq_true rfl) rfl (wp_X3_beUsual (fu := fu) (rc := 0) (rs := 0) (hd := Nat.le_refl 1) (hq := fun h1 g => ⟨rfl, g⟩) wh h0 hF)
theorem wp_X10_copies_3 {Y : EX} {d rc rs : Nat} {Q : PO → PH → Prop} {o : Unit} {w1 : MEM} {fu : Nat} (hd : 0 ≤ d) (hq : ∀ h1, WP Y h1 w1 → Q (.inl none) h1) : ∀ (n : Nat) (l1 : LA) (l2 : LA) (l3 : Int32) (l4 : Int32) (w : MEM) (h : PH), WP Y h w → oAp Y l1 0 → oAp Y l2 0 → f_X10_copies_3 fu n l1 l2 l3 l4 w = some (o, w1) → PW d M_X10_copies Q rc rs 3 [vU, vR l1, vR l2, vI l3, vI l4] [] h := by
  intro n
  induction n with
  | zero => intro l1 l2 l3 l4 w h wh ha_l1 ha_l2 hF; cases hF
  | succ n ih =>
    intro l1 l2 l3 l4 w h wh ha_l1 ha_l2 hF
    replace hF := (E_X10_copies_3 fu n l1 l2 l3 l4 w).symm.trans hF
    refine r_X10_copies_3 ?_
    refine ⟨fun c => ?_, fun c => ?_⟩
    · replace hF := if_ofT c hF
      obtain ⟨c, hF⟩ := ck_of hF
      refine xI_p wh ha_l1 c ?_
      clear c
      obtain ⟨c, hF⟩ := ck_of hF
      replace hF := lt_of hF
      refine yI_p wh ha_l2 c ?_
      clear c wh
      intro h wh
      exact ih _ _ _ _ _ _ wh ha_l1 ha_l2 hF
    · replace hF := if_ofF c hF
      obtain ⟨rfl, rfl⟩ := some_of hF
      exact hq _ wh
theorem wp_X10_copies {Y : EX} {d rc rs : Nat} {Q : PO → PH → Prop} {o : Unit} {w1 : MEM} {fu : Nat} (hd : 0 ≤ d) (hq : ∀ h1, WP Y h1 w1 → Q (.inl none) h1) {l0 : Nat} {l1 : LA} {l2 : LA} {l3 : Int32} {w : MEM} {h : PH} (wh : WP Y h w) (hv_l0 : Y.1 10 l0 = true) (ha_l1 : oAp Y l1 0) (ha_l2 : oAp Y l2 0) (hF : f_X10_copies fu l0 l1 l2 l3 w = some (o, w1)) : PW d M_X10_copies Q rc rs 0 [vR (1000, l0), vR l1, vR l2, vI l3, vU] [] h := by
  replace hF := (E_X10_copies fu l0 l1 l2 l3 w).symm.trans hF
  refine r_X10_copies_0 ?_
  exact wp_X10_copies_3 hd hq  fu _ _ _ _ _ _ wh ha_l1 ha_l2 hF
theorem cp_X10_copies {Y : EX} {fu : Nat} {o : Unit} {w1 : MEM} {a0 : Nat} {a1 : LA} {a2 : LA} {a3 : Int32} {w : MEM} {h : PH} (wh : WP Y h w) (h0 : Y.1 10 a0 = true) (h1 : oAp Y a1 0) (h2 : oAp Y a2 0) (hF : f_X10_copies fu a0 a1 a2 a3 w = some (o, w1)) : CT 0 M_X10_copies [vR (1000, a0), vR a1, vR a2, vI a3] h 0 0 (QPp Y (.inl none) w1) :=
  CT_of mk_X10_copies (Nat.le_of_ble_eq_true rfl) rfl (wp_X10_copies (fu := fu) (rc := 0) (rs := 0) (hd := Nat.le_refl 0) (hq := fun h1 g => ⟨rfl, g⟩) wh h0 h1 h2 hF)
theorem wp_X10_clears {Y : EX} {d rc rs : Nat} {Q : PO → PH → Prop} {o : Unit} {w1 : MEM} {fu : Nat} (hd : 0 ≤ d) (hq : ∀ h1, WP Y h1 w1 → Q (.inl none) h1) {l0 : Nat} {w : MEM} {h : PH} (wh : WP Y h w) (hv_l0 : Y.1 10 l0 = true) (hF : f_X10_clears fu l0 w = some (o, w1)) : PW d M_X10_clears Q rc rs 0 [vR (1000, l0)] [] h := by
  replace hF := (E_X10_clears fu l0 w).symm.trans hF
  refine r_X10_clears_0 ?_
  replace hF := lt_of hF
  refine sF_p wh rfl hv_l0 ?_
  clear wh
  intro h wh
  replace hF := lt_of hF
  refine sF_p wh rfl hv_l0 ?_
  clear wh
  intro h wh
  replace hF := lt_of hF
  refine sF_p wh rfl hv_l0 ?_
  clear wh
  intro h wh
  replace hF := lt_of hF
  refine sF_p wh rfl hv_l0 ?_
  clear wh
  intro h wh
  obtain ⟨rfl, rfl⟩ := some_of hF
  exact hq _ wh
theorem cp_X10_clears {Y : EX} {fu : Nat} {o : Unit} {w1 : MEM} {a0 : Nat} {w : MEM} {h : PH} (wh : WP Y h w) (h0 : Y.1 10 a0 = true) (hF : f_X10_clears fu a0 w = some (o, w1)) : CT 0 M_X10_clears [vR (1000, a0)] h 0 0 (QPp Y (.inl none) w1) :=
  CT_of mk_X10_clears (Nat.le_of_ble_eq_true rfl) rfl (wp_X10_clears (fu := fu) (rc := 0) (rs := 0) (hd := Nat.le_refl 0) (hq := fun h1 g => ⟨rfl, g⟩) wh h0 hF)
theorem wp_X10_sets_188 {Y : EX} {d rc rs : Nat} {Q : PO → PH → Prop} {o : Unit} {w1 : MEM} {fu : Nat} {k157 : Nat → Int32 → MEM → Option (Unit × MEM)} (hd : 1 ≤ d) (hq : ∀ h1, WP Y h1 w1 → Q (.inl none) h1) (hk157 : ∀ (l0 : Nat) (l1 : Int32) (w : MEM) (h : PH), WP Y h w → Y.1 10 l0 = true → k157 l0 l1 w = some (o, w1) → PW d M_X10_sets Q rc rs 157 [vR (1000, l0), vI l1] [] h) {l0 : Nat} {l1 : Int32} {s0 : LA} {s1 : Int32} {s2 : Int32} {w : MEM} {h : PH} (wh : WP Y h w) (hv_l0 : Y.1 10 l0 = true) (ha_s0 : oAp Y s0 0) (hF : f_X10_sets_188 fu k157 l0 l1 s0 s1 s2 w = some (o, w1)) : PW d M_X10_sets Q rc rs 188 [vR (1000, l0), vI l1] [vI s2, vI s1, vR s0] h := by
  replace hF := (E_X10_sets_188 fu k157 l0 l1 s0 s1 s2 w).symm.trans hF
  refine r_X10_sets_188 ?_
  obtain ⟨c, hF⟩ := ck_of hF
  replace hF := lt_of hF
  refine yI_p wh ha_s0 c ?_
  clear c wh
  intro h wh
  refine gA_of (b := (1019, l0)) (wh.2.1 11042 _ rfl hv_l0) ?_
  obtain ⟨c, hF⟩ := ck_of hF
  replace hF := lt_of hF
  refine yI_p wh (oAp_1019 hv_l0) c ?_
  clear c wh
  intro h wh
  refine gA_of (b := (1019, l0)) (wh.2.1 11042 _ rfl hv_l0) ?_
  refine gI_of (wh.1 11022 _ rfl hv_l0) ?_
  refine ⟨fun c => ?_, fun c => ?_⟩
  · replace hF := if_ofT c hF
    obtain ⟨c, hF⟩ := ck_of hF
    replace hF := lt_of hF
    refine yI_p wh (oAp_1019 hv_l0) c ?_
    clear c wh
    intro h wh
    refine gA_of (b := (1019, l0)) (wh.2.1 11042 _ rfl hv_l0) ?_
    obtain ⟨c, hF⟩ := ck_of hF
    replace hF := lt_of hF
    refine yI_p wh (oAp_1019 hv_l0) c ?_
    clear c wh
    intro h wh
    exact hk157 _ _ _ _ wh hv_l0 hF
  · replace hF := if_ofF c hF
    obtain ⟨c, hF⟩ := ck_of hF
    replace hF := lt_of hF
    refine yI_p wh (oAp_1019 hv_l0) c ?_
    clear c wh
    intro h wh
    refine gA_of (b := (1019, l0)) (wh.2.1 11042 _ rfl hv_l0) ?_
    obtain ⟨c, hF⟩ := ck_of hF
    replace hF := lt_of hF
    refine yI_p wh (oAp_1019 hv_l0) c ?_
    clear c wh
    intro h wh
    exact hk157 _ _ _ _ wh hv_l0 hF
theorem wp_X10_sets_157 {Y : EX} {d rc rs : Nat} {Q : PO → PH → Prop} {o : Unit} {w1 : MEM} {fu : Nat} (hd : 1 ≤ d) (hq : ∀ h1, WP Y h1 w1 → Q (.inl none) h1) : ∀ (n : Nat) (l0 : Nat) (l1 : Int32) (w : MEM) (h : PH), WP Y h w → Y.1 10 l0 = true → f_X10_sets_157 fu n l0 l1 w = some (o, w1) → PW d M_X10_sets Q rc rs 157 [vR (1000, l0), vI l1] [] h := by
  intro n
  induction n with
  | zero => intro l0 l1 w h wh hv_l0 hF; cases hF
  | succ n ih =>
    intro l0 l1 w h wh hv_l0 hF
    replace hF := (E_X10_sets_157 fu n l0 l1 w).symm.trans hF
    refine r_X10_sets_157 ?_
    refine ⟨fun c => ?_, fun c => ?_⟩
    · replace hF := if_ofT c hF
      refine gA_of (b := (1019, l0)) (wh.2.1 11042 _ rfl hv_l0) ?_
      refine gI_of (wh.1 11022 _ rfl hv_l0) ?_
      refine ⟨fun c => ?_, fun c => ?_⟩
      · replace hF := if_ofT c hF
        refine gA_of (b := (1008, l0)) (wh.2.1 11015 _ rfl hv_l0) ?_
        obtain ⟨c, hF⟩ := ck_of hF
        refine xI_p wh (oAp_1008 hv_l0) c ?_
        clear c
        exact wp_X10_sets_188 hd hq (fun l0 l1 w h wh g0 hF => ih l0 l1 w h wh g0 hF) wh hv_l0 (oAp_1019 hv_l0) hF
      · replace hF := if_ofF c hF
        exact wp_X10_sets_188 hd hq (fun l0 l1 w h wh g0 hF => ih l0 l1 w h wh g0 hF) wh hv_l0 (oAp_1019 hv_l0) hF
    · replace hF := if_ofF c hF
      obtain ⟨rfl, rfl⟩ := some_of hF
      exact hq _ wh
theorem wp_X10_sets_136 {Y : EX} {d rc rs : Nat} {Q : PO → PH → Prop} {o : Unit} {w1 : MEM} {fu : Nat} (hd : 1 ≤ d) (hq : ∀ h1, WP Y h1 w1 → Q (.inl none) h1) : ∀ (n : Nat) (l0 : Nat) (l1 : Int32) (w : MEM) (h : PH), WP Y h w → Y.1 10 l0 = true → f_X10_sets_136 fu n l0 l1 w = some (o, w1) → PW d M_X10_sets Q rc rs 136 [vR (1000, l0), vI l1] [] h := by
  intro n
  induction n with
  | zero => intro l0 l1 w h wh hv_l0 hF; cases hF
  | succ n ih =>
    intro l0 l1 w h wh hv_l0 hF
    replace hF := (E_X10_sets_136 fu n l0 l1 w).symm.trans hF
    refine r_X10_sets_136 ?_
    refine ⟨fun c => ?_, fun c => ?_⟩
    · replace hF := if_ofT c hF
      refine gA_of (b := (1019, l0)) (wh.2.1 11042 _ rfl hv_l0) ?_
      obtain ⟨c, hF⟩ := ck_of hF
      replace hF := lt_of hF
      refine yI_p wh (oAp_1019 hv_l0) c ?_
      clear c wh
      intro h wh
      exact ih _ _ _ _ wh hv_l0 hF
    · replace hF := if_ofF c hF
      exact wp_X10_sets_157 hd hq  fu _ _ _ _ wh hv_l0 hF
theorem wp_X10_sets_115 {Y : EX} {d rc rs : Nat} {Q : PO → PH → Prop} {o : Unit} {w1 : MEM} {fu : Nat} (hd : 1 ≤ d) (hq : ∀ h1, WP Y h1 w1 → Q (.inl none) h1) : ∀ (n : Nat) (l0 : Nat) (l1 : Int32) (w : MEM) (h : PH), WP Y h w → Y.1 10 l0 = true → f_X10_sets_115 fu n l0 l1 w = some (o, w1) → PW d M_X10_sets Q rc rs 115 [vR (1000, l0), vI l1] [] h := by
  intro n
  induction n with
  | zero => intro l0 l1 w h wh hv_l0 hF; cases hF
  | succ n ih =>
    intro l0 l1 w h wh hv_l0 hF
    replace hF := (E_X10_sets_115 fu n l0 l1 w).symm.trans hF
    refine r_X10_sets_115 ?_
    refine ⟨fun c => ?_, fun c => ?_⟩
    · replace hF := if_ofT c hF
      exact wp_X10_sets_136 hd hq  fu _ _ _ _ wh hv_l0 hF
    · replace hF := if_ofF c hF
      refine gA_of (b := (1023, l0)) (wh.2.1 11046 _ rfl hv_l0) ?_
      obtain ⟨c, hF⟩ := ck_of hF
      replace hF := lt_of hF
      refine yI_p wh (oAp_1023 hv_l0) c ?_
      clear c wh
      intro h wh
      exact ih _ _ _ _ wh hv_l0 hF
theorem wp_X10_sets {Y : EX} {d rc rs : Nat} {Q : PO → PH → Prop} {o : Unit} {w1 : MEM} {fu : Nat} (hd : 1 ≤ d) (hq : ∀ h1, WP Y h1 w1 → Q (.inl none) h1) {l0 : Nat} {w : MEM} {h : PH} (wh : WP Y h w) (hv_l0 : Y.1 10 l0 = true) (hF : f_X10_sets fu l0 w = some (o, w1)) : PW d M_X10_sets Q rc rs 0 [vR (1000, l0), vU] [] h := by
  replace hF := (E_X10_sets fu l0 w).symm.trans hF
  refine r_X10_sets_0 ?_
  refine gI_of (wh.1 11018 _ rfl hv_l0) ?_
  replace hF := lt_of hF
  refine sF_p wh rfl hv_l0 ?_
  clear wh
  intro h wh
  refine gI_of (wh.1 11019 _ rfl hv_l0) ?_
  replace hF := lt_of hF
  refine sF_p wh rfl hv_l0 ?_
  clear wh
  intro h wh
  refine gI_of (wh.1 11020 _ rfl hv_l0) ?_
  replace hF := lt_of hF
  refine sF_p wh rfl hv_l0 ?_
  clear wh
  intro h wh
  refine gI_of (wh.1 11021 _ rfl hv_l0) ?_
  replace hF := lt_of hF
  refine sF_p wh rfl hv_l0 ?_
  clear wh
  intro h wh
  refine gA_of (b := (1003, l0)) (wh.2.1 11010 _ rfl hv_l0) ?_
  refine gA_of (b := (1007, l0)) (wh.2.1 11014 _ rfl hv_l0) ?_
  refine ⟨⟨_, wh.1 11000 _ rfl hv_l0⟩, ?_⟩
  obtain ⟨u6, w5, hG, hF⟩ := bnd_of hF
  refine cl_Vp (D := 0) (Nat.le_trans (by decide) hd) (cp_X10_copies wh hv_l0 (oAp_1003 hv_l0) (oAp_1007 hv_l0) hG) ?_
  clear hG
  clear wh
  intro h wh
  refine gA_of (b := (1004, l0)) (wh.2.1 11011 _ rfl hv_l0) ?_
  refine gA_of (b := (1008, l0)) (wh.2.1 11015 _ rfl hv_l0) ?_
  refine ⟨⟨_, wh.1 11000 _ rfl hv_l0⟩, ?_⟩
  obtain ⟨u8, w7, hG, hF⟩ := bnd_of hF
  refine cl_Vp (D := 0) (Nat.le_trans (by decide) hd) (cp_X10_copies wh hv_l0 (oAp_1004 hv_l0) (oAp_1008 hv_l0) hG) ?_
  clear hG
  clear wh
  intro h wh
  refine gA_of (b := (1005, l0)) (wh.2.1 11012 _ rfl hv_l0) ?_
  refine gA_of (b := (1009, l0)) (wh.2.1 11016 _ rfl hv_l0) ?_
  refine ⟨⟨_, wh.1 11000 _ rfl hv_l0⟩, ?_⟩
  obtain ⟨u10, w9, hG, hF⟩ := bnd_of hF
  refine cl_Vp (D := 0) (Nat.le_trans (by decide) hd) (cp_X10_copies wh hv_l0 (oAp_1005 hv_l0) (oAp_1009 hv_l0) hG) ?_
  clear hG
  clear wh
  intro h wh
  refine gA_of (b := (1006, l0)) (wh.2.1 11013 _ rfl hv_l0) ?_
  refine gA_of (b := (1010, l0)) (wh.2.1 11017 _ rfl hv_l0) ?_
  refine ⟨⟨_, wh.1 11000 _ rfl hv_l0⟩, ?_⟩
  obtain ⟨u12, w11, hG, hF⟩ := bnd_of hF
  refine cl_Vp (D := 0) (Nat.le_trans (by decide) hd) (cp_X10_copies wh hv_l0 (oAp_1006 hv_l0) (oAp_1010 hv_l0) hG) ?_
  clear hG
  clear wh
  intro h wh
  replace hF := lt_of hF
  refine sF_p wh rfl hv_l0 ?_
  clear wh
  intro h wh
  replace hF := lt_of hF
  refine sF_p wh rfl hv_l0 ?_
  clear wh
  intro h wh
  replace hF := lt_of hF
  refine sF_p wh rfl hv_l0 ?_
  clear wh
  intro h wh
  replace hF := lt_of hF
  refine sF_p wh rfl hv_l0 ?_
  clear wh
  intro h wh
  replace hF := lt_of hF
  refine sF_p wh rfl hv_l0 ?_
  clear wh
  intro h wh
  exact wp_X10_sets_115 hd hq  fu _ _ _ _ wh hv_l0 hF
theorem cp_X10_sets {Y : EX} {fu : Nat} {o : Unit} {w1 : MEM} {a0 : Nat} {w : MEM} {h : PH} (wh : WP Y h w) (h0 : Y.1 10 a0 = true) (hF : f_X10_sets fu a0 w = some (o, w1)) : CT 1 M_X10_sets [vR (1000, a0)] h 0 0 (QPp Y (.inl none) w1) :=
  CT_of mk_X10_sets (Nat.le_of_ble_eq_true rfl) rfl (wp_X10_sets (fu := fu) (rc := 0) (rs := 0) (hd := Nat.le_refl 1) (hq := fun h1 g => ⟨rfl, g⟩) wh h0 hF)
end
