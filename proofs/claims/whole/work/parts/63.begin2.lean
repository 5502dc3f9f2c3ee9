/-! a court begins: the usual law, the first dawn, the model's sets -/
def pLw (l : Nat) (a : LA) : Bool := (Nat.beq a.1 301 || (Nat.beq a.1 302 || Nat.beq a.1 10304)) && Nat.beq a.2 l
theorem pLw_at {t : Nat} (l : Nat) (h : (Nat.beq t 301 || (Nat.beq t 302 || Nat.beq t 10304)) = true) : pLw l (t, l) = true := by
  show ((Nat.beq t 301 || (Nat.beq t 302 || Nat.beq t 10304)) && Nat.beq l l) = true
  rw [h, Nat.beq_refl]
  rfl
theorem add_ok {u : MEM} {l n : Nat} (k v : Int32) (h : rS u (10304, l) = nI n) (hn : n < 150) : ∃ u1, f_X3_add 3000 l k v u = some ((), u1) ∧ rS u1 (10304, l) = nI (n + 1) ∧ fA u1 (301, l) = upd (fA u (301, l)) n k ∧ fA u1 (302, l) = upd (fA u (302, l)) n v ∧ Fr (pLw l) u u1 := by
  have n1 : ¬ ((302, l) : LA) = (301, l) := by intro e; injection e with e1 e2; omega
  have n2 : ¬ ((301, l) : LA) = (302, l) := by intro e; injection e with e1 e2; omega
  refine ⟨sS (tA (tA u (301, l) (upd (fA u (301, l)) n k)) (302, l) (upd (fA u (302, l)) n v)) (10304, l) (nI (n + 1)), ?_, ?_, ?_, ?_, Fr.S (a := (10304, l)) (Fr.A (a := (302, l)) (Fr.A (a := (301, l)) (Fr.rf _ _) _ (pLw_at l rfl)) _ (pLw_at l rfl)) _ (pLw_at l rfl)⟩
  · rw [E_X3_add, h, if_pos (by rw [nltL _ _ (by omega) (by decide)]; exact hn), bIn _ _ (by omega), decide_eq_true hn, ck_tr, sAn _ _ _ _ (by omega), lt_eq, rS_tA, h, bIn _ _ (by omega), decide_eq_true hn, ck_tr, sAn _ _ _ _ (by omega), lt_eq, rS_tA, rS_tA, h, naddL, lt_eq, fA_tA, if_neg n1]
  · rw [rS_sS, if_pos rfl]
  · rw [fA_sS, fA_tA, if_neg n2, fA_tA, if_pos rfl]
  · rw [fA_sS, fA_tA, if_pos rfl]
theorem beUsual_C (u : MEM) (l : Nat) : ∃ u1, f_X3_beUsual 3000 l u = some ((), u1) ∧ LawC u1 l usual ∧ Fr (pLw l) u u1 := by
  obtain ⟨u1, a1, a2, a3, a4, a5⟩ := add_ok (u := sS u (10304, l) 0) (l := l) (n := 0) 1 0 (by rw [rS_sS, if_pos rfl]; rfl) (by omega)
  obtain ⟨u2, b1, b2, b3, b4, b5⟩ := add_ok (n := 1) 0 2 a2 (by omega)
  obtain ⟨u3, c1, c2, c3, c4, c5⟩ := add_ok (n := 2) 42 0 b2 (by omega)
  obtain ⟨u4, d1, d2, d3, d4, d5⟩ := add_ok (n := 3) 1 1 c2 (by omega)
  obtain ⟨u5, e1, e2, e3, e4, e5⟩ := add_ok (n := 4) 43 0 d2 (by omega)
  obtain ⟨u6, f1, f2, f3, f4, f5⟩ := add_ok (n := 5) 1 2 e2 (by omega)
  obtain ⟨u7, g1, g2, g3, g4, g5⟩ := add_ok (n := 6) 45 0 f2 (by omega)
  refine ⟨u7, ?_, ⟨g2, ?_⟩, ((((((Fr.S (a := (10304, l)) (Fr.rf _ _) _ (pLw_at l rfl)).tr a5).tr b5).tr c5).tr d5).tr e5 |>.tr f5).tr g5⟩
  · rw [E_X3_beUsual, lt_eq, a1, bnd_some, b1, bnd_some, c1, bnd_some, d1, bnd_some, e1, bnd_some, f1, bnd_some, g1, bnd_some]
  · intro i hi
    have hi : i < 7 := hi
    rw [g3, g4, f3, f4, e3, e4, d3, d4, c3, c4, b3, b4, a3, a4]
    have : i = 0 ∨ i = 1 ∨ i = 2 ∨ i = 3 ∨ i = 4 ∨ i = 5 ∨ i = 6 := by omega
    rcases this with rfl | rfl | rfl | rfl | rfl | rfl | rfl
    · exact ⟨rfl, rfl⟩
    · exact ⟨rfl, rfl⟩
    · exact ⟨rfl, rfl⟩
    · exact ⟨rfl, rfl⟩
    · exact ⟨rfl, rfl⟩
    · exact ⟨rfl, rfl⟩
    · exact ⟨rfl, rfl⟩
def begV (w : MEM) (c H j : Nat) (u : MEM) : Prop := fA u (401, 9) j = fA w (101, c) j ∧ fA u (402, 9) j = fA w (102, c) j ∧ fA u (403, 9) j = 0 ∧ fA u (404, 9) j = 99 ∧ fA u (405, 9) j = 0 ∧ fA u (406, 9) j = 0 ∧ fA u (407, 9) j = (if j < H then 1 else 0) ∧ fA u (408, 9) j = -1 ∧ fA u (409, 9) j = 0
theorem begin4_C {w : MEM} {c H : Nat} (h : rS w (10107, c) = nI H) (hH : H ≤ 7) : ∃ u, f_X4_begin 3000 9 c w = some ((), u) ∧ Fr (pMor 9) w u ∧ rS u (10409, 9) = 0 ∧ ∀ j < 7, begV w c H j u := by
  obtain ⟨u, n1, e1, e2, e3, e4⟩ := for_rel (F := fun n i (u : MEM) => f_X4_begin_7 3000 n 9 c i u) (N := 7)
    (fun k u => Fr (pMor 9) w u ∧ rS u (10409, 9) = 0 ∧ ∀ j < k, begV w c H j u)
    (fun n k u hk p => by
      obtain ⟨p1, p2, p3⟩ := p
      have q1 : fA u (101, c) = fA w (101, c) := p1.1 _ rfl
      have q2 : fA u (102, c) = fA w (102, c) := p1.1 _ rfl
      have q3 : rS u (10107, c) = nI H := (p1.2.1 _ rfl).trans h
      refine ⟨tA (tA (tA (tA (tA (tA (tA (tA (tA u (401, 9) (upd (fA u (401, 9)) k (fA w (101, c) k))) (402, 9) (upd (fA u (402, 9)) k (fA w (102, c) k))) (403, 9) (upd (fA u (403, 9)) k 0)) (404, 9) (upd (fA u (404, 9)) k 99)) (405, 9) (upd (fA u (405, 9)) k 0)) (406, 9) (upd (fA u (406, 9)) k 0)) (407, 9) (upd (fA u (407, 9)) k (if k < H then 1 else 0))) (408, 9) (upd (fA u (408, 9)) k (-1))) (409, 9) (upd (fA u (409, 9)) k 0), ?_, ?_, p2, ?_⟩
      · show f_X4_begin_7 3000 (n + 1) 9 c (nI k) u = _
        rw [E_X4_begin_7, if_pos (by rw [nltL _ _ (by omega) (by decide)]; exact hk)]
        by_cases c1 : k < H
        · simp (disch := omega) only [nlt, bIn, hk, decide_true, ck_tr, lt_eq, rAn, sAn, rS_tA, fA_tA, q1, q2, q3, Prod.mk.injEq, Nat.reduceEqDiff, false_and, and_true, if_true, if_false, c1, naddL]
        · simp (disch := omega) only [nlt, bIn, hk, decide_true, ck_tr, lt_eq, rAn, sAn, rS_tA, fA_tA, q1, q2, q3, Prod.mk.injEq, Nat.reduceEqDiff, false_and, and_true, if_true, if_false, c1, naddL]
      · exact Fr.A (a := (409, 9)) (Fr.A (a := (408, 9)) (Fr.A (a := (407, 9)) (Fr.A (a := (406, 9)) (Fr.A (a := (405, 9)) (Fr.A (a := (404, 9)) (Fr.A (a := (403, 9)) (Fr.A (a := (402, 9)) (Fr.A (a := (401, 9)) p1 _ rfl) _ rfl) _ rfl) _ rfl) _ rfl) _ rfl) _ rfl) _ rfl) _ rfl
      · intro j hj
        unfold begV
        simp only [fA_tA, Prod.mk.injEq, Nat.reduceEqDiff, false_and, and_true, if_true, if_false, upd_eq]
        by_cases cj : j = k
        · rw [cj]
          simp only [if_true, and_self]
        · simp only [cj, if_false]
          exact p3 j (by omega))
    7 3000 0 (sS w (10409, 9) 0) (by omega) (by omega) ⟨Fr.S (a := (10409, 9)) (Fr.rf _ _) _ rfl, by rw [rS_sS, if_pos rfl], fun j hj => by omega⟩
  have e1 : f_X4_begin_7 3000 3000 9 c 0 (sS w (10409, 9) 0) = f_X4_begin_7 3000 (n1 + 1) 9 c (nI 7) u := e1
  refine ⟨u, ?_, e2, e3, e4⟩
  rw [E_X4_begin, lt_eq, e1, E_X4_begin_7, if_neg (by decide)]
def gK (H : Nat) (F : Nat → Int32) (k x : Nat) : Int32 := if x < k then (if x < H then F x else 0) else if 14 ≤ x ∧ x < 14 + k then 99 else if 35 ≤ x ∧ x < 35 + k then (if x - 35 < H then 1 else 0) else if 42 ≤ x ∧ x < 42 + k then -1 else 0
theorem gK_s (H : Nat) (F : Nat → Int32) {k : Nat} (hk : k < 7) (g : Nat → Int32) (hg : ∀ x < 57, g x = gK H F k x) : ∀ x < 57, upd (upd (upd (upd g k (if k < H then F k else 0)) (14 + k) 99) (35 + k) (if k < H then 1 else 0)) (42 + k) (-1) x = gK H F (k + 1) x := by
  intro x hx
  rw [upd_eq, upd_eq, upd_eq, upd_eq, hg x hx]
  unfold gK
  by_cases d1 : x = 42 + k
  · rw [if_pos d1, if_neg (by omega), if_neg (by omega), if_neg (by omega), if_pos (by omega)]
  rw [if_neg d1]
  by_cases d2 : x = 35 + k
  · rw [if_pos d2, if_neg (show ¬ x < k + 1 by omega), if_neg (show ¬ (14 ≤ x ∧ x < 14 + (k + 1)) by omega), if_pos (show 35 ≤ x ∧ x < 35 + (k + 1) by omega), show x - 35 = k by omega]
  rw [if_neg d2]
  by_cases d3 : x = 14 + k
  · rw [if_pos d3, if_neg (show ¬ x < k + 1 by omega), if_pos (show (14 ≤ x ∧ x < 14 + (k + 1)) by omega)]
  rw [if_neg d3]
  by_cases d4 : x = k
  · rw [if_pos d4, if_pos (show x < k + 1 by omega), d4]
  rw [if_neg d4]
  by_cases d5 : x < k
  · rw [if_pos d5, if_pos (show x < k + 1 by omega)]
  rw [if_neg d5, if_neg (show ¬ x < k + 1 by omega)]
  by_cases d6 : 14 ≤ x ∧ x < 14 + k
  · rw [if_pos d6, if_pos (by omega)]
  rw [if_neg d6, if_neg (show ¬ (14 ≤ x ∧ x < 14 + (k + 1)) by omega)]
  by_cases d7 : 35 ≤ x ∧ x < 35 + k
  · rw [if_pos d7, if_pos (show 35 ≤ x ∧ x < 35 + (k + 1) by omega)]
  rw [if_neg d7, if_neg (show ¬ (35 ≤ x ∧ x < 35 + (k + 1)) by omega)]
  by_cases d8 : 42 ≤ x ∧ x < 42 + k
  · rw [if_pos d8, if_pos (by omega)]
  · rw [if_neg d8, if_neg (by omega)]
theorem sets157 {w : MEM} {H : Nat} {F : Nat → Int32} (h : rS w (11022, 842) = nI H) (hH : H ≤ 7) (hF : ∀ j < H, fA w (1008, 842) j = F j) (h0 : ∀ x < 57, fA w (1019, 842) x = 0) : ∃ v, f_X10_sets_157 3000 3000 842 (0 : Int32) w = some ((), v) ∧ Fr p1019 w v ∧ ∀ x < 57, fA v (1019, 842) x = gK H F 7 x := by
  obtain ⟨v, n1, e1, e2, e3⟩ := for_rel (F := fun n i (u : MEM) => f_X10_sets_157 3000 n 842 i u) (N := 7)
    (fun k u => Fr p1019 w u ∧ ∀ x < 57, fA u (1019, 842) x = gK H F k x)
    (fun n k u hk p => by
      obtain ⟨p1, p2⟩ := p
      have q1 : fA u (1008, 842) = fA w (1008, 842) := p1.1 _ rfl
      have q3 : rS u (11022, 842) = nI H := (p1.2.1 _ rfl).trans h
      refine ⟨tA u (1019, 842) (upd (upd (upd (upd (fA u (1019, 842)) k (if k < H then F k else 0)) (14 + k) 99) (35 + k) (if k < H then 1 else 0)) (42 + k) (-1)), ?_, Fr.A (a := (1019, 842)) p1 _ rfl, ?_⟩
      · show f_X10_sets_157 3000 (n + 1) 842 (nI k) u = f_X10_sets_157 3000 n 842 (nI (k + 1)) _
        have k0 : (0 : Int32) + nI k = nI k := by rw [show (0 : Int32) + nI k = nI (0 + k) from nI_add 0 k, Nat.zero_add]
        have z1 : k < aN (1019, 842).1 := by show k < 57; omega
        have z2 : 14 + k < 57 := by omega
        have z3 : 35 + k < 57 := by omega
        have z4 : 42 + k < 57 := by omega
        have y1 : (14 : Int32) + nI k = nI (14 + k) := nI_add 14 k
        have y2 : (35 : Int32) + nI k = nI (35 + k) := nI_add 35 k
        have y3 : (42 : Int32) + nI k = nI (42 + k) := nI_add 42 k
        rw [E_X10_sets_157, if_pos (by rw [nltL _ _ (by omega) (by decide)]; exact hk), E_X10_sets_188, E_X10_sets_188, k0, y1, y2, y3, q3]
        by_cases c1 : k < H
        · have e5 := hF k c1
          simp (disch := omega) only [nlt, bIn, hk, z1, z2, z3, z4, decide_true, ck_tr, lt_eq, rAn, sAn, rS_tA, fA_tA, tA_tA, q1, q3, if_true, c1, naddL, e5]
        · simp (disch := omega) only [nlt, bIn, z1, z2, z3, z4, decide_true, ck_tr, lt_eq, rAn, sAn, rS_tA, fA_tA, tA_tA, q3, if_true, if_false, c1, naddL]
      · rw [fA_tA, if_pos rfl]
        exact gK_s H F hk _ p2)
    7 3000 0 w (by omega) (by omega) ⟨Fr.rf _ _, fun x hx => by
      rw [h0 x hx]
      unfold gK
      rw [if_neg (by omega), if_neg (by omega), if_neg (by omega), if_neg (by omega)]⟩
  have e1 : f_X10_sets_157 3000 3000 842 0 w = f_X10_sets_157 3000 (n1 + 1) 842 (nI 7) v := e1
  refine ⟨v, ?_, e2, e3⟩
  rw [e1, E_X10_sets_157, if_neg (by decide)]
theorem sets136 (w : MEM) : ∃ v, f_X10_sets_136 3000 3000 842 (0 : Int32) w = f_X10_sets_157 3000 3000 842 (0 : Int32) v ∧ Fr p1019 w v ∧ ∀ x < 57, fA v (1019, 842) x = 0 := by
  obtain ⟨v, n1, e1, e2, e3⟩ := for_rel (F := fun n i (u : MEM) => f_X10_sets_136 3000 n 842 i u) (N := 57)
    (fun k u => Fr p1019 w u ∧ ∀ x < k, fA u (1019, 842) x = 0)
    (fun n k u hk p => by
      obtain ⟨p1, p2⟩ := p
      refine ⟨tA u (1019, 842) (upd (fA u (1019, 842)) k 0), ?_, Fr.A (a := (1019, 842)) p1 _ rfl, ?_⟩
      · show f_X10_sets_136 3000 (n + 1) 842 (nI k) u = f_X10_sets_136 3000 n 842 (nI (k + 1)) _
        rw [E_X10_sets_136, if_pos (by rw [nltL _ _ (by omega) (by decide)]; exact hk), bIn _ _ (by omega), decide_eq_true hk, ck_tr, sAn _ _ _ _ (by omega), lt_eq, naddL]
      · intro x hx
        rw [fA_tA, if_pos rfl, upd_eq]
        by_cases c : x = k
        · rw [if_pos c]
        · rw [if_neg c]; exact p2 x (by omega))
    57 3000 0 w (by omega) (by omega) ⟨Fr.rf _ _, fun x hx => by omega⟩
  have e1 : f_X10_sets_136 3000 3000 842 0 w = f_X10_sets_136 3000 (n1 + 1) 842 (nI 57) v := e1
  refine ⟨v, ?_, e2, e3⟩
  rw [e1, E_X10_sets_136, if_neg (by decide)]
def p1023 (a : LA) : Bool := Nat.beq a.1 1023 && Nat.beq a.2 842
theorem sets115 (w : MEM) : ∃ v, f_X10_sets_115 3000 3000 842 (0 : Int32) w = f_X10_sets_136 3000 3000 842 (0 : Int32) v ∧ Fr p1023 w v ∧ ∀ x < 13, fA v (1023, 842) x = -1 := by
  obtain ⟨v, n1, e1, e2, e3⟩ := for_rel (F := fun n i (u : MEM) => f_X10_sets_115 3000 n 842 i u) (N := 13)
    (fun k u => Fr p1023 w u ∧ ∀ x < k, fA u (1023, 842) x = -1)
    (fun n k u hk p => by
      obtain ⟨p1, p2⟩ := p
      refine ⟨tA u (1023, 842) (upd (fA u (1023, 842)) k (-1)), ?_, Fr.A (a := (1023, 842)) p1 _ rfl, ?_⟩
      · show f_X10_sets_115 3000 (n + 1) 842 (nI k) u = f_X10_sets_115 3000 n 842 (nI (k + 1)) _
        rw [E_X10_sets_115, if_neg (by rw [nLlt _ _ (by omega) (by decide)]; show ¬ 12 < k; omega), bIn _ _ (by omega), decide_eq_true hk, ck_tr, sAn _ _ _ _ (by omega), lt_eq, naddL]
      · intro x hx
        rw [fA_tA, if_pos rfl, upd_eq]
        by_cases c : x = k
        · rw [if_pos c]
        · rw [if_neg c]; exact p2 x (by omega))
    13 3000 0 w (by omega) (by omega) ⟨Fr.rf _ _, fun x hx => by omega⟩
  have e1 : f_X10_sets_115 3000 3000 842 0 w = f_X10_sets_115 3000 (n1 + 1) 842 (nI 13) v := e1
  refine ⟨v, ?_, e2, e3⟩
  rw [e1, E_X10_sets_115, if_pos (by decide)]
def seT (t : Nat) : Bool := match t with
  | 11022 => true
  | 11023 => true
  | 11024 => true
  | 11025 => true
  | 1007 => true
  | 1008 => true
  | 1009 => true
  | 1010 => true
  | 11032 => true
  | 11047 => true
  | 11037 => true
  | 11054 => true
  | 11038 => true
  | 1019 => true
  | 1023 => true
  | _ => false
def pSe (a : LA) : Bool := seT a.1 && Nat.beq a.2 842
theorem p1019_pSe (a : LA) (h : p1019 a = true) : pSe a = true := by
  obtain ⟨t, i⟩ := a
  have e1 : t = 1019 := Nat.eq_of_beq_eq_true (and_t (a := Nat.beq t 1019) h).1
  have e2 : i = 842 := Nat.eq_of_beq_eq_true (and_t (a := Nat.beq t 1019) h).2
  subst e1; subst e2; rfl
theorem p1023_pSe (a : LA) (h : p1023 a = true) : pSe a = true := by
  obtain ⟨t, i⟩ := a
  have e1 : t = 1023 := Nat.eq_of_beq_eq_true (and_t (a := Nat.beq t 1023) h).1
  have e2 : i = 842 := Nat.eq_of_beq_eq_true (and_t (a := Nat.beq t 1023) h).2
  subst e1; subst e2; rfl
theorem sets_M {v : MEM} {C : ACt} {F : Nat → Int32} (hM : CM v C F) (hW : WFx C F) : ∃ v1, f_X10_sets 3000 842 v = some ((), v1) ∧ Fr pSe v v1 ∧ MOD v1 C ∧ (∀ x < 57, fA v1 (1019, 842) x = gK (cH C) F 7 x) ∧ (∀ x < 13, fA v1 (1023, 842) x = -1) ∧ rS v1 (11047, 842) = 0 ∧ rS v1 (11037, 842) = 0 ∧ rS v1 (11054, 842) = 0 ∧ rS v1 (11038, 842) = 0 := by
  obtain ⟨m1, m2, m3, m4, m5, m6, m7⟩ := hM
  have h7 := hW.1.1
  have h6 := hW.1.2.1
  have h12 := hW.1.2.2.2.1
  generalize hu0 : sS (sS (sS (sS v (11022, 842) (nI (cH C))) (11023, 842) (nI (cT C))) (11024, 842) (nI (cK C))) (11025, 842) (cSun C) = u0
  have k1 := copies_ok (u := u0) (a := (1003, 842)) (b := (1007, 842)) (N := 7) (by decide) (by decide) (by decide) (by decide)
  generalize hu1 : tA u0 (1007, 842) (fun j => if j < 7 then fA u0 (1003, 842) j else fA u0 (1007, 842) j) = u1 at k1
  have k2 := copies_ok (u := u1) (a := (1004, 842)) (b := (1008, 842)) (N := 7) (by decide) (by decide) (by decide) (by decide)
  generalize hu2 : tA u1 (1008, 842) (fun j => if j < 7 then fA u1 (1004, 842) j else fA u1 (1008, 842) j) = u2 at k2
  have k3 := copies_ok (u := u2) (a := (1005, 842)) (b := (1009, 842)) (N := 24) (by decide) (by decide) (by decide) (by decide)
  generalize hu3 : tA u2 (1009, 842) (fun j => if j < 24 then fA u2 (1005, 842) j else fA u2 (1009, 842) j) = u3 at k3
  have k4 := copies_ok (u := u3) (a := (1006, 842)) (b := (1010, 842)) (N := 12) (by decide) (by decide) (by decide) (by decide)
  generalize hu4 : tA u3 (1010, 842) (fun j => if j < 12 then fA u3 (1006, 842) j else fA u3 (1010, 842) j) = u4 at k4
  generalize hu5 : sS (sS (sS (sS (sS u4 (11032, 842) 0) (11047, 842) 0) (11037, 842) 0) (11054, 842) 0) (11038, 842) 0 = u5
  obtain ⟨u6, p1, p2, p3⟩ := sets115 u5
  obtain ⟨u7, q1, q2, q3⟩ := sets136 u6
  have sA7 : ∀ t : LA, p1023 t = false → p1019 t = false → fA u7 t = fA u5 t := fun t h1 h2 => (q2.1 _ h2).trans (p2.1 _ h1)
  have sS7 : ∀ t : LA, p1023 t = false → p1019 t = false → rS u7 t = rS u5 t := fun t h1 h2 => (q2.2.1 _ h2).trans (p2.2.1 _ h1)
  have c5 : fA u5 (1007, 842) = (fun j => if j < 7 then fA v (1003, 842) j else fA v (1007, 842) j) ∧ fA u5 (1008, 842) = (fun j => if j < 7 then fA v (1004, 842) j else fA v (1008, 842) j) ∧ fA u5 (1009, 842) = (fun j => if j < 24 then fA v (1005, 842) j else fA v (1009, 842) j) ∧ fA u5 (1010, 842) = (fun j => if j < 12 then fA v (1006, 842) j else fA v (1010, 842) j) := by
    rw [← hu5, ← hu4, ← hu3, ← hu2, ← hu1, ← hu0]
    exact ⟨rfl, rfl, rfl, rfl⟩
  have s5 : rS u5 (11022, 842) = nI (cH C) ∧ rS u5 (11023, 842) = nI (cT C) ∧ rS u5 (11024, 842) = nI (cK C) ∧ rS u5 (11025, 842) = cSun C ∧ rS u5 (11032, 842) = 0 ∧ rS u5 (11047, 842) = 0 ∧ rS u5 (11037, 842) = 0 ∧ rS u5 (11054, 842) = 0 ∧ rS u5 (11038, 842) = 0 := by
    rw [← hu5, ← hu4, ← hu3, ← hu2, ← hu1, ← hu0]
    exact ⟨rfl, rfl, rfl, rfl, rfl, rfl, rfl, rfl, rfl⟩
  obtain ⟨c51, c52, c53, c54⟩ := c5
  obtain ⟨s1, s2, s3, s4, s5, s6, s7, s8, s9⟩ := s5
  obtain ⟨v1, r1, r2, r3⟩ := sets157 (w := u7) (H := cH C) (F := F) ((sS7 _ rfl rfl).trans s1) h7 (fun j hj => by
    rw [sA7 _ rfl rfl, c52]
    show (if j < 7 then fA v (1004, 842) j else fA v (1008, 842) j) = F j
    rw [if_pos (by omega)]
    exact (m5 j hj).2) q3
  have sA1 : ∀ t : LA, p1023 t = false → p1019 t = false → fA v1 t = fA u5 t := fun t h1 h2 => (r2.1 _ h2).trans (sA7 t h1 h2)
  have sS1 : ∀ t : LA, p1023 t = false → p1019 t = false → rS v1 t = rS u5 t := fun t h1 h2 => (r2.2.1 _ h2).trans (sS7 t h1 h2)
  have f05 : Fr pSe v u5 := by
    rw [← hu5, ← hu4, ← hu3, ← hu2, ← hu1, ← hu0]
    refine Fr.S (a := (11038, 842)) (Fr.S (a := (11054, 842)) (Fr.S (a := (11037, 842)) (Fr.S (a := (11047, 842)) (Fr.S (a := (11032, 842)) ?_ _ rfl) _ rfl) _ rfl) _ rfl) _ rfl
    refine Fr.A (a := (1010, 842)) (Fr.A (a := (1009, 842)) (Fr.A (a := (1008, 842)) (Fr.A (a := (1007, 842)) ?_ _ rfl) _ rfl) _ rfl) _ rfl
    exact Fr.S (a := (11025, 842)) (Fr.S (a := (11024, 842)) (Fr.S (a := (11023, 842)) (Fr.S (a := (11022, 842)) (Fr.rf _ _) _ rfl) _ rfl) _ rfl) _ rfl
  refine ⟨v1, ?_, ((f05.tr (p2.mono p1023_pSe)).tr (q2.mono p1019_pSe)).tr (r2.mono p1019_pSe), ?_, r3, ?_, (sS1 _ rfl rfl).trans s6, (sS1 _ rfl rfl).trans s7, (sS1 _ rfl rfl).trans s8, (sS1 _ rfl rfl).trans s9⟩
  · have k1 : f_X10_copies 3000 842 (1003, 842) (1007, 842) (7 : Int32) u0 = some ((), u1) := k1
    have k2 : f_X10_copies 3000 842 (1004, 842) (1008, 842) (7 : Int32) u1 = some ((), u2) := k2
    have k3 : f_X10_copies 3000 842 (1005, 842) (1009, 842) (24 : Int32) u2 = some ((), u3) := k3
    have k4 : f_X10_copies 3000 842 (1006, 842) (1010, 842) (12 : Int32) u3 = some ((), u4) := k4
    have y2 : rS (sS v (11022, 842) (nI (cH C))) (11019, 842) = nI (cT C) := m2
    have y3 : rS (sS (sS v (11022, 842) (nI (cH C))) (11023, 842) (nI (cT C))) (11020, 842) = nI (cK C) := m3
    have y4 : rS (sS (sS (sS v (11022, 842) (nI (cH C))) (11023, 842) (nI (cT C))) (11024, 842) (nI (cK C))) (11021, 842) = cSun C := m4
    rw [E_X10_sets, m1, lt_eq, y2, lt_eq, y3, lt_eq, y4, lt_eq, hu0, k1, bnd_some, k2, bnd_some, k3, bnd_some, k4, bnd_some, lt_eq, lt_eq, lt_eq, lt_eq, lt_eq, hu5, p1, q1, r1]
  · refine ⟨(sS1 _ rfl rfl).trans s1, ?_, (sS1 _ rfl rfl).trans s3, ?_, (sS1 _ rfl rfl).trans s4, (sS1 _ rfl rfl).trans s2, ?_, Or.inl ⟨(sS1 _ rfl rfl).trans s5, hW.2.1⟩⟩
    · intro j hj
      rw [sA1 _ rfl rfl, c51]
      show (if j < 7 then fA v (1003, 842) j else fA v (1007, 842) j) = _
      rw [if_pos (by omega)]
      exact (m5 j hj).1
    · intro k hk
      rw [sA1 _ rfl rfl, c54]
      show (if 2 * k < 12 then fA v (1006, 842) (2 * k) else fA v (1010, 842) (2 * k)) = _ ∧ (if 2 * k + 1 < 12 then fA v (1006, 842) (2 * k + 1) else fA v (1010, 842) (2 * k + 1)) = _
      rw [if_pos (by omega), if_pos (by omega)]
      exact m6 k hk
    · intro e he
      rw [sA1 _ rfl rfl, c53]
      show (if 2 * e < 24 then fA v (1005, 842) (2 * e) else fA v (1009, 842) (2 * e)) = _ ∧ (if 2 * e + 1 < 24 then fA v (1005, 842) (2 * e + 1) else fA v (1009, 842) (2 * e + 1)) = _
      rw [if_pos (by omega), if_pos (by omega)]
      exact m7 e he
  · intro x hx
    rw [r2.1 (1023, 842) rfl, q2.1 (1023, 842) rfl]
    exact p3 x hx
