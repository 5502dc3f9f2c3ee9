/-! work: a plain step, read by both -/
def leafM (m : Nat) (v : MEM) : Option (Unit × MEM) := if nI m < (7 : Int32) then (bnd (f_X10_readNumber 3000 842 (0 : Int32) ((rS v (11022, 842)) - (1 : Int32)) v) fun (x18 : Int32) (w17 : MEM) => if nI m = (6 : Int32) then (bnd (f_X10_readNumber 3000 842 (0 : Int32) (9 : Int32) w17) fun (x24 : Int32) (w23 : MEM) => bnd (f_X10_tellsStep 3000 842 (nI m) x18 x24 w23) fun (u26 : Unit) (w25 : MEM) => bnd (f_X10_sign 3000 842 (59 : Int32) w25) fun (u28 : Unit) (w27 : MEM) => some ((), w27)) else (bnd (f_X10_tellsStep 3000 842 (nI m) x18 (0 : Int32) w17) fun (u20 : Unit) (w19 : MEM) => bnd (f_X10_sign 3000 842 (59 : Int32) w19) fun (u22 : Unit) (w21 : MEM) => some ((), w21))) else (if nI m = (6 : Int32) then (bnd (f_X10_readNumber 3000 842 (0 : Int32) (9 : Int32) v) fun (x12 : Int32) (w11 : MEM) => bnd (f_X10_tellsStep 3000 842 (nI m) (0 : Int32) x12 w11) fun (u14 : Unit) (w13 : MEM) => bnd (f_X10_sign 3000 842 (59 : Int32) w13) fun (u16 : Unit) (w15 : MEM) => some ((), w15)) else (bnd (f_X10_tellsStep 3000 842 (nI m) (0 : Int32) (0 : Int32) v) fun (u8 : Unit) (w7 : MEM) => bnd (f_X10_sign 3000 842 (59 : Int32) w7) fun (u10 : Unit) (w9 : MEM) => some ((), w9)))
theorem kcl_7 : ∀ m < 9, m < 7 → ¬ nI (kcl m) = (7 : Int32) ∧ ¬ nI (kcl m) = (8 : Int32) ∧ ¬ nI (kcl m) = (9 : Int32) := by decide +kernel
theorem kcl_6 : ∀ m < 9, (nI (kcl m) = (6 : Int32)) ↔ m = 6 := by decide +kernel
theorem semi0 (u : MEM) : semi (some (0, u)) = some (0, u) := by
  unfold semi
  rw [bnd_some, if_pos rfl]
theorem leaf_ok {H : Nat} {T : Nat → Nat} {N p r0 d p0 : Nat} {S : STP} {m : Nat} {u0 u : MEM} {M : MEM → Option (Unit × MEM)} (cR cS : Nat → Nat → Int32 → Int32 → MEM → Option (Int32 × MEM)) (cA : Nat → Nat → Int32 → Int32 → Int32 → MEM → Option (Int32 × MEM)) (hm : m < 9) (hH : H ≤ 7) (hN : N ≤ 150) (f : Fr pTx u0 u) (hT : TXC u T N r0) (hS : SC u S) (h3 : 3 * sN S ≤ p0) (hr : p0 + 2 ≤ r0) (hM : ∀ v, TXM v T N p → ∃ v1, TXM v1 T N r0 ∧ Fr pTm v v1 ∧ M v = leafM m v1) : stO H T N p d p0 (sN S) S u0 (semi (f_X7_readStep_31 3000 cR cS cA 3 1 (nI H) (nI d) (nI (kcl m)) u)) M := by
  have hr0 := hT.2.1
  have h50 : 3 * sN S + 3 ≤ 150 := by omega
  have sg : ∀ (h b : Nat) (v1 v2 : MEM), TXM v2 T N r0 → True := fun _ _ _ _ _ => trivial
  rw [c31 m cR cS cA hS (by omega)]
  generalize hw : w31 u (sN S) (nI (kcl m)) = w6
  have S6 : SC w6 (pushS S m 0 0) := by rw [← hw]; exact w31_SC hS m
  have T6 : TXC w6 T N r0 := by rw [← hw]; exact hT
  have f6 : Fr pWa u0 w6 := by rw [← hw]; exact f.wa.tr (w31_fr _ _ _)
  by_cases c7 : m < 7
  · obtain ⟨n7, n8, n9⟩ := kcl_7 m hm c7
    have hlt : nI m < (7 : Int32) := by rw [nltL _ _ (by omega) (by decide)]; exact c7
    rw [if_neg n7, if_neg n8, if_neg n9]
    obtain ⟨q, s⟩ := sk_ex T N N r0 hr0 (by omega)
    obtain ⟨r, e⟩ := rd_ex T N N q s.2.1 (by omega)
    have s1 := s.1
    rcases C_num (lo := 0) (n := H) (hi := nI H - 1) T6 s e (by omega) rfl (by omega) with ⟨k1, k2, k3, u2, k4, k5, k6, k7⟩ | ⟨k1, k2, u2, k4, k5, k6⟩ | ⟨k1, u2, k4, k5, k6⟩
    · obtain ⟨A, hA⟩ : ∃ A, dv T q (r - q) = A := ⟨_, rfl⟩
      rw [hA] at k2 k3 k4
      have k4 : f_X8_number 3000 1 (0 : Int32) (nI H - 1) w6 = some (nI A, u2) := k4
      have S7 : SC (tA u2 (702, 3) (upd (fA u2 (702, 3)) (sN S) (nI A))) (pushS S m A 0) := (S6.fr k6).h A
      have f7 : Fr pWa u0 (tA u2 (702, 3) (upd (fA u2 (702, 3)) (sN S) (nI A))) := Fr.A (a := (702, 3)) (f6.tr k6.wa) _ rfl
      have m1 : ∀ v, TXM v T N p → rS v (11022, 842) = nI H → ∃ v1 v2, Fr pTm v v2 ∧ TXM v2 T N r ∧ M v = leafM m v1 ∧ f_X10_readNumber 3000 842 (0 : Int32) (rS v1 (11022, 842) - 1) v1 = some (nI A, v2) := by
        intro v hv hh
        obtain ⟨v1, b1, b2, b3⟩ := hM v hv
        have e22 : rS v1 (11022, 842) = nI H := (b2.2.1 _ rfl).trans hh
        rcases M_num (lo := 0) (n := H) (hi := nI H - 1) b1 s e (by omega) rfl (by omega) with ⟨o1, o2, o3, v3, o4, o5, o6⟩ | ⟨o1, o2, v3, o4, o5, o6⟩ | ⟨o1, v3, o4, o5, o6⟩
        · rw [hA] at o4
          exact ⟨v1, v3, b2.tr o6, o5, b3, by rw [e22]; exact o4⟩
        · rw [hA] at o2
          exact absurd ⟨k2, k3⟩ o2
        · omega
      rw [k4, bnd_some, lt_eq]
      by_cases c6 : m = 6
      · have hk6 := (kcl_6 m hm).mpr c6
        have hm6 : nI m = (6 : Int32) := by rw [c6]; rfl
        rw [if_pos hk6, if_neg (ne_m1 (by omega))]
        have T7 : TXC (tA u2 (702, 3) (upd (fA u2 (702, 3)) (sN S) (nI A))) T N r := k5
        obtain ⟨q2, t⟩ := sk_ex T N N r k5.2.1 (by omega)
        obtain ⟨r2, e2⟩ := rd_ex T N N q2 t.2.1 (by omega)
        have t1 := t.1
        rcases C_num (lo := 0) (n := 10) (hi := 9) T7 t e2 (by omega) rfl (by omega) with ⟨l1, l2, l3, u4, l4, l5, l6, l7⟩ | ⟨l1, l2, u4, l4, l5, l6⟩ | ⟨l1, u4, l4, l5, l6⟩
        · obtain ⟨B, hB⟩ : ∃ B, dv T q2 (r2 - q2) = B := ⟨_, rfl⟩
          rw [hB] at l2 l3 l4
          have l4 : f_X8_number 3000 1 (0 : Int32) (9 : Int32) (tA u2 (702, 3) (upd (fA u2 (702, 3)) (sN S) (nI A))) = some (nI B, u4) := l4
          rw [l4, bnd_some, lt_eq, if_neg (ne_m1 (by omega))]
          refine leafEnd (m := m) (h := A) (b := B) (r0 := r2) hm (by omega) (Fr.A (a := (703, 3)) (f7.tr l6.wa) _ rfl) l5 ((S7.fr l6).b B) (by omega) ?_ ?_
          · obtain ⟨y1, y2, y3, y4⟩ := pushS_at S m A B
            unfold okS
            rw [y1, y2, y3]
            omega
          · intro v hv hP hh
            obtain ⟨v1, v2, b1, b2, b3, b4⟩ := m1 v hv hh
            rcases M_num (lo := 0) (n := 10) (hi := 9) b2 t e2 (by omega) rfl (by omega) with ⟨o1, o2, o3, v3, o4, o5, o6⟩ | ⟨o1, o2, v3, o4, o5, o6⟩ | ⟨o1, v3, o4, o5, o6⟩
            · rw [hB] at o4
              have o4 : f_X10_readNumber 3000 842 (0 : Int32) (9 : Int32) v2 = some (nI B, v3) := o4
              obtain ⟨v4, y1, y2, y3, y4, y5⟩ := push_M m A B hm o5 ((hP.fr b1).fr o6) h50
              refine ⟨v4, y2, y3, y4.trans ((o6.2.1 _ rfl).trans (b1.2.1 _ rfl)), (b1.tr o6).wm.tr y5, ?_⟩
              rw [b3]
              unfold leafM
              rw [if_pos hlt, b4, bnd_some, if_pos hm6, o4, bnd_some, y1, bnd_some]
            · rw [hB] at o2
              exact absurd ⟨l2, l3⟩ o2
            · omega
        · have l4 : f_X8_number 3000 1 (0 : Int32) (9 : Int32) (tA u2 (702, 3) (upd (fA u2 (702, 3)) (sN S) (nI A))) = some (-1, u4) := l4
          rw [l4, bnd_some, lt_eq, if_pos rfl, semi0]
          refine Or.inr ⟨2, q2, _, rfl, Fr.A (a := (703, 3)) (f7.tr l6.wa) _ rfl, l5, ?_⟩
          intro v hv hP hd hh
          obtain ⟨v1, v2, b1, b2, b3, b4⟩ := m1 v hv hh
          rcases M_num (lo := 0) (n := 10) (hi := 9) b2 t e2 (by omega) rfl (by omega) with ⟨o1, o2, o3, v3, o4, o5, o6⟩ | ⟨o1, o2, v3, o4, o5, o6⟩ | ⟨o1, v3, o4, o5, o6⟩
          · exact absurd ⟨o2, o3⟩ l2
          · have o4 : f_X10_readNumber 3000 842 (0 : Int32) (9 : Int32) v2 = some (0, v3) := o4
            refine ⟨v3, ?_, o5, (b1.tr o6).wm⟩
            rw [b3]
            unfold leafM
            rw [if_pos hlt, b4, bnd_some, if_pos hm6, o4, bnd_some, tells_F _ _ _ o5, bnd_some, M_signF _ o5, bnd_some]
          · omega
        · have l4 : f_X8_number 3000 1 (0 : Int32) (9 : Int32) (tA u2 (702, 3) (upd (fA u2 (702, 3)) (sN S) (nI A))) = some (-1, u4) := l4
          rw [l4, bnd_some, lt_eq, if_pos rfl, semi0]
          refine Or.inr ⟨1, q2, _, rfl, Fr.A (a := (703, 3)) (f7.tr l6.wa) _ rfl, l5, ?_⟩
          intro v hv hP hd hh
          obtain ⟨v1, v2, b1, b2, b3, b4⟩ := m1 v hv hh
          rcases M_num (lo := 0) (n := 10) (hi := 9) b2 t e2 (by omega) rfl (by omega) with ⟨o1, o2, o3, v3, o4, o5, o6⟩ | ⟨o1, o2, v3, o4, o5, o6⟩ | ⟨o1, v3, o4, o5, o6⟩
          · omega
          · omega
          · have o4 : f_X10_readNumber 3000 842 (0 : Int32) (9 : Int32) v2 = some (0, v3) := o4
            refine ⟨v3, ?_, o5, (b1.tr o6).wm⟩
            rw [b3]
            unfold leafM
            rw [if_pos hlt, b4, bnd_some, if_pos hm6, o4, bnd_some, tells_F _ _ _ o5, bnd_some, M_signF _ o5, bnd_some]
      · have hk6 : ¬ nI (kcl m) = (6 : Int32) := fun e => c6 ((kcl_6 m hm).mp e)
        have hm6 : ¬ nI m = (6 : Int32) := by rw [neqL _ _ (by omega) (by decide)]; exact c6
        rw [if_neg hk6, if_neg (ne_m1 (by omega))]
        refine leafEnd (m := m) (h := A) (b := 0) (r0 := r) hm (by omega) f7 k5 S7 (by omega) ?_ ?_
        · obtain ⟨y1, y2, y3, y4⟩ := pushS_at S m A 0
          unfold okS
          rw [y1, y2, y3]
          omega
        · intro v hv hP hh
          obtain ⟨v1, v2, b1, b2, b3, b4⟩ := m1 v hv hh
          obtain ⟨v4, y1, y2, y3, y4, y5⟩ := push_M m A 0 hm b2 (hP.fr b1) h50
          have y1 : f_X10_tellsStep 3000 842 (nI m) (nI A) (0 : Int32) v2 = some ((), v4) := y1
          refine ⟨v4, y2, y3, y4.trans (b1.2.1 _ rfl), b1.wm.tr y5, ?_⟩
          rw [b3]
          unfold leafM
          rw [if_pos hlt, b4, bnd_some, if_neg hm6, y1, bnd_some]
    · have k4 : f_X8_number 3000 1 (0 : Int32) (nI H - 1) w6 = some (-1, u2) := k4
      have ex : (if nI (kcl m) = (6 : Int32) then (if (-1 : Int32) = (-1 : Int32) then (if (-1 : Int32) = (-1 : Int32) then (some ((0 : Int32), tA u2 (702, 3) (upd (fA u2 (702, 3)) (sN S) (-1)))) else (some ((1 : Int32), tA u2 (702, 3) (upd (fA u2 (702, 3)) (sN S) (-1))))) else (bnd (f_X8_number 3000 1 (0 : Int32) (9 : Int32) (tA u2 (702, 3) (upd (fA u2 (702, 3)) (sN S) (-1)))) fun (x11 : Int32) (w10 : MEM) => lt (tA w10 (703, 3) (upd (fA w10 (703, 3)) (sN S) x11)) fun (w12 : MEM) => if x11 = (-1 : Int32) then (some ((0 : Int32), w12)) else (some ((1 : Int32), w12)))) else (if (-1 : Int32) = (-1 : Int32) then (some ((0 : Int32), tA u2 (702, 3) (upd (fA u2 (702, 3)) (sN S) (-1)))) else (some ((1 : Int32), tA u2 (702, 3) (upd (fA u2 (702, 3)) (sN S) (-1)))))) = some (0, tA u2 (702, 3) (upd (fA u2 (702, 3)) (sN S) (-1))) := by
        split <;> rfl
      rw [k4, bnd_some, lt_eq, ex, semi0]
      refine Or.inr ⟨2, q, _, rfl, Fr.A (a := (702, 3)) (f6.tr k6.wa) _ rfl, k5, ?_⟩
      intro v hv hP hd hh
      obtain ⟨v1, b1, b2, b3⟩ := hM v hv
      have e22 : rS v1 (11022, 842) = nI H := (b2.2.1 _ rfl).trans hh
      rcases M_num (lo := 0) (n := H) (hi := nI H - 1) b1 s e (by omega) rfl (by omega) with ⟨o1, o2, o3, v3, o4, o5, o6⟩ | ⟨o1, o2, v3, o4, o5, o6⟩ | ⟨o1, v3, o4, o5, o6⟩
      · exact absurd ⟨o2, o3⟩ k2
      · have o4 : f_X10_readNumber 3000 842 (0 : Int32) (nI H - 1) v1 = some (0, v3) := o4
        refine ⟨v3, ?_, o5, (b2.tr o6).wm⟩
        rw [b3]
        unfold leafM
        rw [if_pos hlt, e22, o4, bnd_some]
        split
        · rw [M_numF _ _ o5, bnd_some, tells_F _ _ _ o5, bnd_some, M_signF _ o5, bnd_some]
        · rw [tells_F _ _ _ o5, bnd_some, M_signF _ o5, bnd_some]
      · omega
    · have k4 : f_X8_number 3000 1 (0 : Int32) (nI H - 1) w6 = some (-1, u2) := k4
      have ex : (if nI (kcl m) = (6 : Int32) then (if (-1 : Int32) = (-1 : Int32) then (if (-1 : Int32) = (-1 : Int32) then (some ((0 : Int32), tA u2 (702, 3) (upd (fA u2 (702, 3)) (sN S) (-1)))) else (some ((1 : Int32), tA u2 (702, 3) (upd (fA u2 (702, 3)) (sN S) (-1))))) else (bnd (f_X8_number 3000 1 (0 : Int32) (9 : Int32) (tA u2 (702, 3) (upd (fA u2 (702, 3)) (sN S) (-1)))) fun (x11 : Int32) (w10 : MEM) => lt (tA w10 (703, 3) (upd (fA w10 (703, 3)) (sN S) x11)) fun (w12 : MEM) => if x11 = (-1 : Int32) then (some ((0 : Int32), w12)) else (some ((1 : Int32), w12)))) else (if (-1 : Int32) = (-1 : Int32) then (some ((0 : Int32), tA u2 (702, 3) (upd (fA u2 (702, 3)) (sN S) (-1)))) else (some ((1 : Int32), tA u2 (702, 3) (upd (fA u2 (702, 3)) (sN S) (-1)))))) = some (0, tA u2 (702, 3) (upd (fA u2 (702, 3)) (sN S) (-1))) := by
        split <;> rfl
      rw [k4, bnd_some, lt_eq, ex, semi0]
      refine Or.inr ⟨1, q, _, rfl, Fr.A (a := (702, 3)) (f6.tr k6.wa) _ rfl, k5, ?_⟩
      intro v hv hP hd hh
      obtain ⟨v1, b1, b2, b3⟩ := hM v hv
      have e22 : rS v1 (11022, 842) = nI H := (b2.2.1 _ rfl).trans hh
      rcases M_num (lo := 0) (n := H) (hi := nI H - 1) b1 s e (by omega) rfl (by omega) with ⟨o1, o2, o3, v3, o4, o5, o6⟩ | ⟨o1, o2, v3, o4, o5, o6⟩ | ⟨o1, v3, o4, o5, o6⟩
      · omega
      · omega
      · have o4 : f_X10_readNumber 3000 842 (0 : Int32) (nI H - 1) v1 = some (0, v3) := o4
        refine ⟨v3, ?_, o5, (b2.tr o6).wm⟩
        rw [b3]
        unfold leafM
        rw [if_pos hlt, e22, o4, bnd_some]
        split
        · rw [M_numF _ _ o5, bnd_some, tells_F _ _ _ o5, bnd_some, M_signF _ o5, bnd_some]
        · rw [tells_F _ _ _ o5, bnd_some, M_signF _ o5, bnd_some]
  · have e78 : (if nI (kcl m) = (7 : Int32) then (some ((1 : Int32), w6)) else (if nI (kcl m) = (8 : Int32) then (some ((1 : Int32), w6)) else (if nI (kcl m) = (9 : Int32) then (bnd (cA 3 1 (nI H) (nI d + (1 : Int32)) (nI (sN S)) w6) fun (x14 : Int32) (w13 : MEM) => ck (b01 x14) (some (x14, w13))) else (bnd (f_X8_number 3000 1 (0 : Int32) (nI H - (1 : Int32)) w6) fun (x8 : Int32) (w7 : MEM) => lt (tA w7 (702, 3) (upd (fA w7 (702, 3)) (sN S) x8)) fun (w9 : MEM) => if nI (kcl m) = (6 : Int32) then (if x8 = (-1 : Int32) then (if x8 = (-1 : Int32) then (some ((0 : Int32), w9)) else (some ((1 : Int32), w9))) else (bnd (f_X8_number 3000 1 (0 : Int32) (9 : Int32) w9) fun (x11 : Int32) (w10 : MEM) => lt (tA w10 (703, 3) (upd (fA w10 (703, 3)) (sN S) x11)) fun (w12 : MEM) => if x11 = (-1 : Int32) then (some ((0 : Int32), w12)) else (some ((1 : Int32), w12)))) else (if x8 = (-1 : Int32) then (some ((0 : Int32), w9)) else (some ((1 : Int32), w9))))))) = some (1, w6) := by
      rcases (by omega : m = 7 ∨ m = 8) with c | c
      · subst c
        rw [if_pos (show nI (kcl 7) = (7 : Int32) from rfl)]
      · subst c
        rw [if_neg (show ¬ nI (kcl 8) = (7 : Int32) by decide), if_pos (show nI (kcl 8) = (8 : Int32) from rfl)]
    have hnl : ¬ nI m < (7 : Int32) := by rw [nltL _ _ (by omega) (by decide)]; exact c7
    have hm6 : ¬ nI m = (6 : Int32) := by rw [neqL _ _ (by omega) (by decide)]; show ¬ m = 6; omega
    rw [e78]
    refine leafEnd (m := m) (h := 0) (b := 0) (r0 := r0) hm (by omega) f6 T6 S6 hr ?_ ?_
    · obtain ⟨y1, y2, y3, y4⟩ := pushS_at S m 0 0
      unfold okS
      rw [y1, y2, y3]
      omega
    · intro v hv hP hh
      obtain ⟨v1, b1, b2, b3⟩ := hM v hv
      obtain ⟨v4, y1, y2, y3, y4, y5⟩ := push_M m 0 0 hm b1 (hP.fr b2) h50
      have y1 : f_X10_tellsStep 3000 842 (nI m) (0 : Int32) (0 : Int32) v1 = some ((), v4) := y1
      refine ⟨v4, y2, y3, y4.trans (b2.2.1 _ rfl), b2.wm.tr y5, ?_⟩
      rw [b3]
      unfold leafM
      rw [if_neg hnl, if_neg hm6, y1, bnd_some]
