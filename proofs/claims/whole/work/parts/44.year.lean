/-! years -/
theorem shr_same (x : Int32) : (x.toUInt32 >>> ((16 : Int32).toUInt32 &&& Int32.toUInt32 31)).toInt32 &&& (32767 : Int32) = (x >>> ((16 : Int32) &&& 31)) &&& (32767 : Int32) := by
  apply Int32.toBitVec_inj.mp
  rw [Int32.toBitVec_and, Int32.toBitVec_and]
  have h1 : ((x.toUInt32 >>> ((16 : Int32).toUInt32 &&& Int32.toUInt32 31)).toInt32).toBitVec = x.toBitVec >>> (16 : Nat) := rfl
  have h2 : (x >>> ((16 : Int32) &&& 31)).toBitVec = x.toBitVec.sshiftRight 16 := rfl
  rw [h1, h2]
  apply BitVec.eq_of_getLsbD_eq
  intro i hi
  rw [BitVec.getLsbD_and, BitVec.getLsbD_and, BitVec.getLsbD_ushiftRight, BitVec.getLsbD_sshiftRight]
  have key : ∀ i < 32, 15 ≤ i → ((32767 : Int32).toBitVec).getLsbD i = false := by decide
  by_cases c : 15 ≤ i
  · rw [key i hi c, Bool.and_false, Bool.and_false]
  · have h3 : (decide (32 ≤ i)) = false := decide_eq_false (by omega)
    have h4 : 16 + i < 32 := by omega
    simp [h3, h4]
def pkN (s : Int32) : Nat := (s >>> ((16 : Int32) &&& 31)).toBitVec.toNat % 2 ^ 15
theorem pkN_lt (s : Int32) : pkN s < 32768 := Nat.mod_lt _ (by decide)
theorem pkN_M (s : Int32) : (s >>> ((16 : Int32) &&& 31)) &&& (32767 : Int32) = nI (pkN s) := pk_and _ 15 rfl
theorem pkN_C (s : Int32) : (s.toUInt32 >>> ((16 : Int32).toUInt32 &&& Int32.toUInt32 31)).toInt32 &&& (32767 : Int32) = nI (pkN s) := (shr_same s).trans (pkN_M s)
def drS (s : Int32) : Int32 := s * 1103515245 + 12345
theorem drawnBy_ok (fu : Nat) (s : Int32) {n : Nat} (h0 : 0 < n) (hn : n < 1000) (w : MEM) : f_X9_drawnBy fu s (nI n) w = some (nI (pkN s % n), w) := by
  have h1 := pkN_lt s
  rw [E_X9_drawnBy, if_pos (by rw [nLlt _ _ (by omega) (by decide)]; exact h0), if_neg (nI_ne0 h0 (by omega)), pkN_C, nI_mod (by omega) h0 (by omega)]
theorem draws_ok (fu : Nat) {n : Nat} (h0 : 0 < n) (hn : n < 1000) (w : MEM) : f_X10_draws fu 842 (nI n) w = some (nI (pkN (drS (rS w (11052, 842))) % n), sS w (11052, 842) (drS (rS w (11052, 842)))) := by
  have h1 := pkN_lt (drS (rS w (11052, 842)))
  rw [E_X10_draws, lt_eq, if_neg (nI_ne0 h0 (by omega)), rS_sS, if_pos rfl]
  have e : rS w (11052, 842) * 1103515245 + 12345 = drS (rS w (11052, 842)) := rfl
  rw [e, pkN_M, nI_mod (by omega) h0 (by omega)]
def kq (q : Nat) : Nat := match q with
  | 0 => 5
  | 1 => 0
  | 2 => 4
  | 3 => 1
  | _ => 2
theorem kq_ok : ∀ q < 5, kmC (kq q) = q ∧ kq q < 7 := by decide
def ystp (C : ACt) (s : Int32 × (Nat → Int32)) : Int32 × (Nat → Int32) := if 0 < cH C then (drS (drS s.1), passS C (opS C (kq (pkN (drS (drS s.1)) % 5)) (pkN (drS s.1) % cH C) 0 s.2).1) else (s.1, passS C s.2)
def yrS (C : ACt) (N : Nat) (s : Int32 × (Nat → Int32)) : Int32 × (Nat → Int32) := lp N 0 (fun _ s => ystp C s) s
theorem yrS_s (C : ACt) (N : Nat) (s : Int32 × (Nat → Int32)) : yrS C (N + 1) s = ystp C (yrS C N s) := by
  unfold yrS
  rw [lp_snoc]
theorem Bd_ystp {C : ACt} {t : Nat} {s : Int32 × (Nat → Int32)} (hw : WFc C) (h : Bd C t s.2) : Bd C (t + 1) (ystp C s).2 := by
  unfold ystp
  split
  · rename_i c
    have := (kq_ok _ (Nat.mod_lt (pkN (drS (drS s.1))) (by omega : 0 < 5))).2
    exact Bd_pass hw (Bd_op7 hw h this (Nat.mod_lt _ c))
  · exact Bd_pass hw h
theorem Bd_yr {C : ACt} {t : Nat} {s : Int32 × (Nat → Int32)} (hw : WFc C) (h : Bd C t s.2) : ∀ n, Bd C (t + n) (yrS C n s).2
  | 0 => h
  | n + 1 => by
    rw [yrS_s]
    exact Bd_ystp hw (Bd_yr hw h n)
theorem passYear_C {w : MEM} {C : ACt} {F : Nat → Int32} {c l b t N : Nat} {seed : Int32} (hr : REF w c l b) (hc : INVc C c l b w) (hR : Rm w 9 C F) (hb : Bd C t F) (ht : t ≤ 900) (hN : N ≤ 96) : ∃ w1, f_X9_passYear 3000 0 seed (nI N) w = some ((), w1) ∧ Fr scC w w1 ∧ Rm w1 181 C (yrS C N (seed, F)).2 := by
  have hw := hc.1
  have h7 := hw.1
  have hl := hr.l
  obtain ⟨w1, k1, k2, k3⟩ := copy_C 3000 (i := 181) (j := 9) (by decide) w
  have f1 : Fr scC w w1 := k2.mono (pMor_scC (Or.inl rfl))
  obtain ⟨x, n1, e1, e2, e3, e4⟩ := for_rel (F := fun n i (s : Int32 × MEM) => f_X9_passYear_19 3000 n 0 (nI N) s.1 i s.2) (N := N) (fun k s => Fr scC w s.2 ∧ Rm s.2 181 C (yrS C k (seed, F)).2 ∧ s.1 = (yrS C k (seed, F)).1)
    (fun n k s hk p => by
      obtain ⟨sd, u⟩ := s
      obtain ⟨p1, p2, p3⟩ := p
      have p1 : Fr scC w u := p1
      have p2 : Rm u 181 C (yrS C k (seed, F)).2 := p2
      have p3 : sd = (yrS C k (seed, F)).1 := p3
      have hbk : Bd C (t + k) (yrS C k (seed, F)).2 := Bd_yr (s := (seed, F)) hw hb k
      have hcu := (hc.fr (p1.mono scC_scr).K).2.1
      rw [yrS_s]
      generalize yrS C k (seed, F) = y at p2 p3 hbk
      have hru := hr.fr p1
      show ∃ b : Int32 × MEM, f_X9_passYear_19 3000 (n + 1) 0 (nI N) sd (nI k) u = f_X9_passYear_19 3000 n 0 (nI N) b.1 (nI (k + 1)) b.2 ∧ _
      rw [E_X9_passYear_19, if_pos (by rw [nlt _ _ (by omega) (by omega)]; exact hk), hru.1, hcu.1, naddL]
      by_cases c0 : 0 < cH C
      · rw [if_pos (by rw [nLlt _ _ (by omega) (by decide)]; exact c0), E_X9_drawnAfter, bnd_some]
        have ed : ∀ s, s * 1103515245 + 12345 = drS s := fun s => rfl
        have q5 := Nat.mod_lt (pkN (drS (drS sd))) (show 0 < 5 by omega)
        have qh := Nat.mod_lt (pkN (drS sd)) c0
        have k5 := kq_ok _ q5
        obtain ⟨u1, a1, a2, a3⟩ := tryStep_C (fu := 3000) (k := kq (pkN (drS (drS sd)) % 5)) (h := pkN (drS sd) % cH C) (b := 0) hw hcu p2 hbk (fun e => by omega) (by omega) (by omega) (fun _ => qh)
        have g1 := p1.tr (a2.mono (pMC_scC (Or.inl rfl) hl))
        have hb1 : Bd C (t + k) (opS C (kq (pkN (drS (drS sd)) % 5)) (pkN (drS sd) % cH C) 0 y.2).1 := Bd_op7 hw hbk k5.2 qh
        obtain ⟨u2, b1, b2, b3⟩ := passHour_C (fu := 3000) hw ((hc.fr (g1.mono scC_scr).K).2.1) a3 hb1 (by omega) (by omega)
        have g2 := g1.tr (b2.mono (pMC_scC (Or.inl rfl) hl))
        rw [k5.1] at a1
        have ey : ystp C y = (drS (drS sd), passS C (opS C (kq (pkN (drS (drS sd)) % 5)) (pkN (drS sd) % cH C) 0 y.2).1) := by
          unfold ystp
          rw [if_pos c0, ← p3]
        refine ⟨(drS (drS sd), u2), ?_, g2, ?_, ?_⟩
        · rw [ed, hru.1, hcu.1, drawnBy_ok _ _ c0 (by omega), bnd_some, E_X9_drawnAfter, bnd_some, ed]
          rw [show (5 : Int32) = nI 5 from rfl, drawnBy_ok _ _ (by omega) (by omega), bnd_some, hru.1, hru.2.1, a1, bnd_some, (hr.fr g1).1, (hr.fr g1).2.1, b1, bnd_some]
        · rw [ey]; exact b3
        · rw [ey]
      · obtain ⟨u2, b1, b2, b3⟩ := passHour_C (fu := 3000) hw hcu p2 hbk (by omega) (by omega)
        have ey : ystp C y = (y.1, passS C y.2) := by
          unfold ystp
          rw [if_neg c0]
        refine ⟨(sd, u2), ?_, p1.tr (b2.mono (pMC_scC (Or.inl rfl) hl)), ?_, ?_⟩
        · rw [if_neg (by rw [nLlt _ _ (by omega) (by decide)]; exact c0), hru.2.1, b1, bnd_some]
        · rw [ey]; exact b3
        · rw [ey]; exact p3)
    N 3000 0 (seed, w1) (by omega) (by omega) ⟨f1, k3 C F h7 hR, rfl⟩
  have e1 : f_X9_passYear_19 3000 3000 0 (nI N) seed 0 w1 = f_X9_passYear_19 3000 (n1 + 1) 0 (nI N) x.1 (nI N) x.2 := e1
  refine ⟨x.2, ?_, e2, e3⟩
  rw [E_X9_passYear, show (8 + 1 : Nat) = 9 from rfl, k1, bnd_some, e1, E_X9_passYear_19, if_neg (by rw [nlt _ _ (by omega) (by omega)]; omega)]
def pYM (a : LA) : Bool := pSM a || Nat.beq a.1 11052
theorem pSM_pYM (a : LA) (h : pSM a = true) : pYM a = true := by
  unfold pYM
  rw [h, Bool.true_or]
theorem pYM_scr (a : LA) (h : pYM a = true) : scr a = true := by
  rcases or_t (a := pSM a) (b := Nat.beq a.1 11052) h with e | e
  · exact pSM_scr a e
  · obtain ⟨t, i⟩ := a
    have := Nat.eq_of_beq_eq_true e
    have : t = 11052 := this
    subst this
    rfl
theorem okYM : okM pYM := ⟨rfl, rfl, rfl, rfl, rfl, rfl, rfl, rfl, rfl, rfl⟩
theorem yearGoes_M {u : MEM} {C : ACt} {N : Nat} (seed : Int32) (hw : WFc C) (hm : MOD u C) (hN : N ≤ 96) : ∃ u1, f_X10_yearGoes 3000 842 seed (nI N) u = some ((), u1) ∧ Fr pYM u u1 ∧ fA u1 (1020, 842) = (yrS C N (seed, takeF u)).2 := by
  have h7 := hw.1
  have f0 : Fr pYM u (sS (tk u) (11052, 842) seed) := Fr.S (a := (11052, 842)) (Fr.A (a := (1020, 842)) (Fr.rf _ _) _ rfl) _ rfl
  obtain ⟨v, n1, e1, e2, e3, e4⟩ := for_rel (F := fun n i (v : MEM) => f_X10_yearGoes_11 3000 n 842 (nI N) i v) (N := N) (fun k v => Fr pYM u v ∧ fA v (1020, 842) = (yrS C k (seed, takeF u)).2 ∧ rS v (11052, 842) = (yrS C k (seed, takeF u)).1)
    (fun n k v hk p => by
      obtain ⟨p1, p2, p3⟩ := p
      rw [yrS_s]
      generalize yrS C k (seed, takeF u) = y at p2 p3
      have hmv := hm.fr p1 okYM
      show ∃ b : MEM, f_X10_yearGoes_11 3000 (n + 1) 842 (nI N) (nI k) v = f_X10_yearGoes_11 3000 n 842 (nI N) (nI (k + 1)) b ∧ _
      rw [E_X10_yearGoes_11, if_pos (by rw [nlt _ _ (by omega) (by omega)]; exact hk), hmv.1, naddL]
      by_cases c0 : 0 < cH C
      · have q5 := Nat.mod_lt (pkN (drS (drS y.1))) (show 0 < 5 by omega)
        have qh := Nat.mod_lt (pkN (drS y.1)) c0
        have k5 := kq_ok _ q5
        generalize hv2 : sS (sS v (11052, 842) (drS y.1)) (11052, 842) (drS (drS y.1)) = v2
        have g0 : Fr pYM u v2 := by
          rw [← hv2]
          exact Fr.S (a := (11052, 842)) (Fr.S (a := (11052, 842)) p1 _ rfl) _ rfl
        have g01 : fA v2 (1020, 842) = y.2 := by rw [← hv2]; exact p2
        have g02 : rS v2 (11052, 842) = drS (drS y.1) := by rw [← hv2, rS_sS, if_pos rfl]
        have ey : ystp C y = (drS (drS y.1), passS C (opS C (kq (pkN (drS (drS y.1)) % 5)) (pkN (drS y.1) % cH C) 0 y.2).1) := by
          unfold ystp
          rw [if_pos c0]
        rw [if_pos (by rw [nLlt _ _ (by omega) (by decide)]; exact c0), draws_ok _ c0 (by omega), bnd_some, p3]
        rw [show (5 : Int32) = nI 5 from rfl, draws_ok _ (by omega) (by omega), bnd_some, rS_sS, if_pos rfl, hv2]
        generalize hq : pkN (drS (drS y.1)) % 5 = q at q5 k5 ey
        obtain ⟨v3, a1, a2, a3⟩ := goes_M (fu := 3000) (k := kq q) (h := pkN (drS y.1) % cH C) (b := 0) hw (hm.fr g0 okYM) (by omega) (by omega) (fun _ => qh)
        have g1 := g0.tr (a2.mono pSM_pYM)
        obtain ⟨v4, b1, b2, b3⟩ := passes_M (fu := 3000) hw (hm.fr g1 okYM) (by omega)
        have g2 := g1.tr (b2.mono pSM_pYM)
        refine ⟨v4, ?_, g2, ?_, ?_⟩
        · rcases (by omega : q = 0 ∨ q = 1 ∨ q = 2 ∨ q = 3 ∨ q = 4) with e | e | e | e | e <;> subst e
          · have a1 : f_X10_goes 3000 842 (nI 5) (nI (pkN (drS y.1) % cH C)) 0 v2 = some (_, v3) := a1
            rw [if_pos (by decide), a1, bnd_some, b1, bnd_some]
          · have a1 : f_X10_goes 3000 842 (0 : Int32) (nI (pkN (drS y.1) % cH C)) 0 v2 = some (_, v3) := a1
            rw [if_neg (by decide), if_pos (by decide), a1, bnd_some, b1, bnd_some]
          · have a1 : f_X10_goes 3000 842 (4 : Int32) (nI (pkN (drS y.1) % cH C)) 0 v2 = some (_, v3) := a1
            rw [if_neg (by decide), if_neg (by decide), if_pos (by decide), a1, bnd_some, b1, bnd_some]
          · have a1 : f_X10_goes 3000 842 (1 : Int32) (nI (pkN (drS y.1) % cH C)) 0 v2 = some (_, v3) := a1
            rw [if_neg (by decide), if_neg (by decide), if_neg (by decide), if_pos (by decide), a1, bnd_some, b1, bnd_some]
          · have a1 : f_X10_goes 3000 842 (2 : Int32) (nI (pkN (drS y.1) % cH C)) 0 v2 = some (_, v3) := a1
            rw [if_neg (by decide), if_neg (by decide), if_neg (by decide), if_neg (by decide), a1, bnd_some, b1, bnd_some]
        · rw [ey, b3, a3, g01]
        · rw [ey, b2.2.1 _ rfl, a2.2.1 _ rfl]
          exact g02
      · obtain ⟨v4, b1, b2, b3⟩ := passes_M (fu := 3000) hw hmv (by omega)
        have ey : ystp C y = (y.1, passS C y.2) := by
          unfold ystp
          rw [if_neg c0]
        refine ⟨v4, ?_, p1.tr (b2.mono pSM_pYM), ?_, ?_⟩
        · rw [if_neg (by rw [nLlt _ _ (by omega) (by decide)]; exact c0), b1, bnd_some]
        · rw [ey, b3, p2]
        · rw [ey, b2.2.1 _ rfl]; exact p3)
    N 3000 0 (sS (tk u) (11052, 842) seed) (by omega) (by omega) ⟨f0, fA_tk u, by rw [rS_sS, if_pos rfl]; rfl⟩
  have e1 : f_X10_yearGoes_11 3000 3000 842 (nI N) 0 (sS (tk u) (11052, 842) seed) = f_X10_yearGoes_11 3000 (n1 + 1) 842 (nI N) (nI N) v := e1
  refine ⟨v, ?_, e2, e3⟩
  rw [E_X10_yearGoes, tk_M (by omega), bnd_some, lt_eq, e1, E_X10_yearGoes_11, if_neg (by rw [nlt _ _ (by omega) (by omega)]; omega)]
/-! only the first 57 count -/
theorem col_57 {f g : Nat → Int32} (e : ∀ h < 7, colE h f g) : ∀ j < 57, f j = g j := by
  intro j hj
  by_cases c : j = 56
  · subst c; exact (e 0 (by omega)).2
  · have := (e (j % 7) (Nat.mod_lt _ (by omega))).1 (j / 7) (by omega)
    rwa [show 7 * (j / 7) + j % 7 = j by omega] at this
theorem col_of57 {f g : Nat → Int32} (e : ∀ j < 57, f j = g j) {h : Nat} (hh : h < 7) : colE h f g := ⟨fun t ht => e _ (by omega), e 56 (by omega)⟩
theorem pass57 {C : ACt} {f g : Nat → Int32} (hw : WFc C) (e : ∀ j < 57, f j = g j) : ∀ j < 57, passS C f j = passS C g j := col_57 (fun h hh => pass_col hw (col_of57 e hh) hh)
theorem upd57 {f g : Nat → Int32} (e : ∀ j < 57, f j = g j) (k : Nat) {x y : Int32} (h : x = y) : ∀ j < 57, upd f k x j = upd g k y j := by
  intro j hj
  rw [upd_eq, upd_eq, h]
  split
  · rfl
  · exact e j hj
theorem op57 {C : ACt} {f g : Nat → Int32} {k h : Nat} {b : Int32} (hw : WFc C) (e : ∀ j < 57, f j = g j) (hk : k < 7) (hh : h < cH C) : ∀ j < 57, (opS C k h b f).1 j = (opS C k h b g).1 j := by
  have h7 := hw.1
  rcases (by omega : k = 0 ∨ k = 1 ∨ k = 2 ∨ k = 3 ∨ k = 4 ∨ k = 5 ∨ k = 6) with ek | ek | ek | ek | ek | ek | ek <;> subst ek
  · rw [oS0, oS0, e (7 + h) (by omega)]
    split
    · exact upd57 e _ rfl
    · exact e
  · rw [oS1, oS1, e (35 + h) (by omega)]
    split
    · exact e
    · exact upd57 (upd57 (upd57 (upd57 e _ rfl) _ rfl) _ rfl) _ rfl
  · rw [oS2, oS2, e (35 + h) (by omega)]
    split
    · exact e
    · exact upd57 e _ rfl
  · rw [oS3, oS3, e (35 + h) (by omega), e (21 + h) (by omega)]
    split
    · exact upd57 e _ rfl
    · exact e
  · rw [oS4, oS4, e (35 + h) (by omega), e (14 + h) (by omega)]
    split
    · exact upd57 e _ rfl
    · exact e
  · rw [oS5, oS5, e (35 + h) (by omega)]
    split
    · exact e
    · have key : ∀ m, m ≤ cH C → ∀ j < 57, lp m 0 (tap1 C h) f j = lp m 0 (tap1 C h) g j := by
        intro m
        induction m with
        | zero => intro _; exact e
        | succ m ih =>
          intro hm
          rw [lp_snoc, lp_snoc, Nat.zero_add]
          have i1 := ih (by omega)
          unfold tap1
          rw [show lp m 0 (fun o f => if (frN C h).testBit o = true ∧ f (35 + o) = 1 then upd f (28 + o) (f (28 + o) + 1) else f) f = lp m 0 (tap1 C h) f from rfl, show lp m 0 (fun o f => if (frN C h).testBit o = true ∧ f (35 + o) = 1 then upd f (28 + o) (f (28 + o) + 1) else f) g = lp m 0 (tap1 C h) g from rfl, i1 (35 + m) (by omega), i1 (28 + m) (by omega)]
          split
          · exact upd57 i1 _ rfl
          · exact i1
      exact key (cH C) (Nat.le_refl _)
  · rw [oS6, oS6, e h (by omega)]
    split
    · exact e
    · exact upd57 e _ rfl
theorem yr57 {C : ACt} {f g : Nat → Int32} (hw : WFc C) (sd : Int32) (e : ∀ j < 57, f j = g j) : ∀ n, (yrS C n (sd, f)).1 = (yrS C n (sd, g)).1 ∧ ∀ j < 57, (yrS C n (sd, f)).2 j = (yrS C n (sd, g)).2 j
  | 0 => ⟨rfl, e⟩
  | n + 1 => by
    obtain ⟨i1, i2⟩ := yr57 hw sd e n
    rw [yrS_s, yrS_s]
    unfold ystp
    rw [i1]
    split
    · rename_i c0
      exact ⟨rfl, pass57 hw (op57 hw i2 (kq_ok _ (Nat.mod_lt _ (by omega))).2 (Nat.mod_lt _ c0))⟩
    · exact ⟨rfl, pass57 hw i2⟩
theorem sum57 {C : ACt} {f g : Nat → Int32} {o : Nat} (h7 : cH C ≤ 7) (ho : o ≤ 49) (e : ∀ j < 57, f j = g j) : sumS C o f = sumS C o g := by
  unfold sumS
  exact lp_ext _ _ _ _ _ (fun j a _ hj => by rw [e (o + j) (by omega)])
theorem stand57 {C : ACt} {f g : Nat → Int32} (h7 : cH C ≤ 7) (e : ∀ j < 57, f j = g j) : standS C f = standS C g := by
  unfold standS
  exact lp_ext _ _ _ _ _ (fun j a _ hj => by rw [e (35 + j) (by omega)])
theorem rank57 {C : ACt} {f g : Nat → Int32} (k : Int32) (h7 : cH C ≤ 7) (e : ∀ j < 57, f j = g j) : rankS C f k = rankS C g k := by
  have hc : ∀ h, h < cH C → cntS C f h = cntS C g h := by
    intro h hh
    unfold cntS
    exact lp_ext _ _ _ _ _ (fun j a _ hj => by rw [e (42 + j) (by omega), e (42 + h) (by omega)])
  unfold rankS
  exact lx_congr _ _ _ _ _ _ (fun j a _ hj => by rw [e (42 + j) (by omega), hc j (by omega)])
/-! gasps -/
theorem pass_gasp {C : ACt} (hw : WFc C) (f : Nat → Int32) {h : Nat} (hh : h < cH C) : passS C f (49 + h) = f (49 + h) ∨ passS C f (49 + h) = f (49 + h) + 1 := by
  have h7 := hw.1
  have g1 : ∀ k, k ≤ cK C → lp k 0 (coughS C) f (49 + h) = f (49 + h) := by
    intro k
    induction k with
    | zero => intro _; rfl
    | succ k ih =>
      intro hk
      have := (hw.2.2.1 k (by omega)).1
      rw [lp_snoc, Nat.zero_add, ← ih (by omega)]
      generalize lp k 0 (coughS C) f = x
      unfold coughS
      split
      · exact upd_ne _ _ (by omega)
      · rfl
  have g2 : ∀ k, k ≤ cH C → (h < k → lp k 0 (glassS C) (lp (cK C) 0 (coughS C) f) (49 + h) = f (49 + h) ∨ lp k 0 (glassS C) (lp (cK C) 0 (coughS C) f) (49 + h) = f (49 + h) + 1) ∧ (k ≤ h → lp k 0 (glassS C) (lp (cK C) 0 (coughS C) f) (49 + h) = f (49 + h)) := by
    intro k
    induction k with
    | zero => intro _; exact ⟨fun e => absurd e (Nat.not_lt_zero _), fun _ => g1 (cK C) (Nat.le_refl _)⟩
    | succ k ih =>
      intro hk
      obtain ⟨i1, i2⟩ := ih (by omega)
      rw [lp_snoc, Nat.zero_add]
      generalize lp k 0 (glassS C) (lp (cK C) 0 (coughS C) f) = x at i1 i2
      by_cases c : k = h
      · subst c
        refine ⟨fun _ => ?_, fun e => by omega⟩
        have i2 := i2 (Nat.le_refl _)
        unfold glassS
        split
        · exact Or.inl i2
        · have e4 : ∀ y : Nat → Int32, gl4 k y (49 + k) = y (49 + k) := by
            intro y
            unfold gl4
            split
            · rfl
            · split
              · exact upd_ne _ _ (by omega)
              · rfl
          rw [e4]
          have e3 : ∀ y : Nat → Int32, gl3 k y (49 + k) = y (49 + k) + (if y (14 + k) = 0 then 1 else 0) := fun y => upd_at _ _ _
          have e2 : ∀ y : Nat → Int32, gl2 C k y (49 + k) = y (49 + k) := fun y => upd_ne _ _ (by omega)
          have e1 : gl1 C k x (49 + k) = x (49 + k) := upd_ne _ _ (by omega)
          rw [e3, e2, e1, i2]
          split
          · exact Or.inr rfl
          · exact Or.inl (Int32.add_zero _)
      · have := (glass_self (C := C) x (show h < 7 by omega) (show k < 7 by omega) c).1 7 (by omega)
        have this : glassS C k x (49 + h) = x (49 + h) := this
        rw [this]
        exact ⟨fun e => i1 (by omega), fun e => i2 (by omega)⟩
  have := (g2 (cH C) (Nat.le_refl _)).1 hh
  unfold passS hr1
  rw [tapz_eq, upd_ne _ _ (by omega)]
  show (if 28 ≤ 49 + h ∧ 49 + h < 28 + cH C then (0 : Int32) else _) = _ ∨ (if 28 ≤ 49 + h ∧ 49 + h < 28 + cH C then (0 : Int32) else _) = _
  rw [if_neg (by omega)]
  exact this
theorem op_gasp {C : ACt} {f : Nat → Int32} {k h o : Nat} {b : Int32} (hw : WFc C) (hk : k < 7) (hh : h < cH C) (ho : o < cH C) : (opS C k h b f).1 (49 + o) = f (49 + o) := by
  have h7 := hw.1
  rcases (by omega : k = 0 ∨ k = 1 ∨ k = 2 ∨ k = 3 ∨ k = 4 ∨ k = 5 ∨ k = 6) with ek | ek | ek | ek | ek | ek | ek <;> subst ek
  · rw [oS0]; split
    · exact upd_ne _ _ (by omega)
    · rfl
  · rw [oS1]; split
    · rfl
    · exact (upd_ne _ _ (by omega)).trans ((upd_ne _ _ (by omega)).trans ((upd_ne _ _ (by omega)).trans (upd_ne _ _ (by omega))))
  · rw [oS2]; split
    · rfl
    · exact upd_ne _ _ (by omega)
  · rw [oS3]; split
    · exact upd_ne _ _ (by omega)
    · rfl
  · rw [oS4]; split
    · exact upd_ne _ _ (by omega)
    · rfl
  · rw [oS5]; split
    · rfl
    · have key : ∀ m, m ≤ cH C → lp m 0 (tap1 C h) f (49 + o) = f (49 + o) := by
        intro m
        induction m with
        | zero => intro _; rfl
        | succ m ih =>
          intro hm
          rw [lp_snoc, Nat.zero_add, ← ih (by omega)]
          generalize lp m 0 (tap1 C h) f = x
          unfold tap1
          split
          · exact upd_ne _ _ (by omega)
          · rfl
      exact key (cH C) (Nat.le_refl _)
  · rw [oS6]; split
    · rfl
    · exact upd_ne _ _ (by omega)
theorem sum_step {f g : Nat → Int32} : ∀ (m : Nat), (∀ h < m, g h = f h ∨ g h = f h + 1) → ∃ d, d ≤ m ∧ lp m 0 (fun h a => a + g h) 0 = lp m 0 (fun h a => a + f h) 0 + nI d
  | 0, _ => ⟨0, Nat.le_refl _, rfl⟩
  | m + 1, H => by
    obtain ⟨d, d1, d2⟩ := sum_step m (fun h hh => H h (by omega))
    rw [lp_snoc, lp_snoc, Nat.zero_add, d2]
    rcases H m (by omega) with e | e
    · refine ⟨d, by omega, ?_⟩
      rw [e]
      ac_rfl
    · refine ⟨d + 1, by omega, ?_⟩
      rw [e, ← nI_1 d]
      ac_rfl
theorem yr_gasp {C : ACt} (hw : WFc C) (sd : Int32) (f : Nat → Int32) : ∀ n, ∃ d, d ≤ 7 * n ∧ sumS C 49 (yrS C n (sd, f)).2 = sumS C 49 f + nI d
  | 0 => ⟨0, Nat.le_refl _, by
    show sumS C 49 f = sumS C 49 f + 0
    rw [Int32.add_zero]⟩
  | n + 1 => by
    have h7 := hw.1
    obtain ⟨d, d1, d2⟩ := yr_gasp hw sd f n
    rw [yrS_s]
    generalize yrS C n (sd, f) = y at d2
    have H : ∀ h < cH C, (ystp C y).2 (49 + h) = y.2 (49 + h) ∨ (ystp C y).2 (49 + h) = y.2 (49 + h) + 1 := by
      intro h hh
      unfold ystp
      split
      · rename_i c0
        have := pass_gasp hw (opS C (kq (pkN (drS (drS y.1)) % 5)) (pkN (drS y.1) % cH C) 0 y.2).1 hh
        rw [op_gasp hw (kq_ok _ (Nat.mod_lt _ (by omega))).2 (Nat.mod_lt _ c0) hh] at this
        exact this
      · exact pass_gasp hw y.2 hh
    obtain ⟨e, e1, e2⟩ := sum_step (f := fun h => y.2 (49 + h)) (g := fun h => (ystp C y).2 (49 + h)) (cH C) H
    refine ⟨d + e, by omega, ?_⟩
    have e2 : sumS C 49 (ystp C y).2 = sumS C 49 y.2 + nI e := e2
    rw [e2, d2, ← nI_add]
    ac_rfl
