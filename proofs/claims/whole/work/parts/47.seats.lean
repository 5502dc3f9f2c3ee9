/-! rows of seats -/
def mfB (C : ACt) (S last h : Nat) : Bool := !(S.testBit h) && (Nat.beq last 7 || !((frN C last).testBit h))
def wN (C : ACt) : Nat → Nat → Nat → Nat
  | 0, _, _ => 1
  | f + 1, S, last => if S = 2 ^ cH C - 1 then 1 else lp (cH C) 0 (fun h a => if mfB C S last h = true then a + wN C f (S ||| 2 ^ h) h else a) 0
def W7 (C : ACt) (S last : Nat) : Nat := wN C 7 S last
theorem pc_add : ∀ S < 128, ∀ h < 7, S.testBit h = false → pc (S ||| 2 ^ h) = pc S + 1 := by decide +kernel
theorem pc_all : ∀ H ≤ 7, ∀ S < 2 ^ H, pc S = H → S = 2 ^ H - 1 := by decide +kernel
theorem pc_all' : ∀ H ≤ 7, pc (2 ^ H - 1) = H := by decide +kernel
theorem mf_not {C : ACt} {S last h : Nat} (h1 : mfB C S last h = true) : S.testBit h = false := by
  have := (and_t h1).1
  cases e : S.testBit h
  · rfl
  · rw [e] at this; cases this
theorem wN_fuel {C : ACt} (hw : WFc C) : ∀ (f g S last : Nat), S < 2 ^ cH C → cH C ≤ f + pc S → cH C ≤ g + pc S → wN C f S last = wN C g S last
  | 0, 0, _, _, _, _, _ => rfl
  | 0, g + 1, S, last, hS, hf, hg => by
    have h7 := hw.1
    have : S = 2 ^ cH C - 1 := pc_all _ h7 S hS (by have := pc_H _ h7 S hS; omega)
    show 1 = (if S = 2 ^ cH C - 1 then 1 else _)
    rw [if_pos this]
  | f + 1, 0, S, last, hS, hf, hg => by
    have h7 := hw.1
    have : S = 2 ^ cH C - 1 := pc_all _ h7 S hS (by have := pc_H _ h7 S hS; omega)
    show (if S = 2 ^ cH C - 1 then 1 else _) = 1
    rw [if_pos this]
  | f + 1, g + 1, S, last, hS, hf, hg => by
    have h7 := hw.1
    have h128 := p7 h7
    show (if S = 2 ^ cH C - 1 then 1 else _) = (if S = 2 ^ cH C - 1 then 1 else _)
    split
    · rfl
    · refine lp_ext _ _ _ _ _ (fun h a _ hh => ?_)
      by_cases c : mfB C S last h = true
      · have hn := mf_not c
        have hp := pc_add S (by omega) h (by omega) hn
        rw [if_pos c, if_pos c, wN_fuel hw f g (S ||| 2 ^ h) h (or_H hS (pj (by omega))) (by omega) (by omega)]
      · rw [if_neg c, if_neg c]
theorem W7_eq {C : ACt} (hw : WFc C) {S last : Nat} (hS : S < 2 ^ cH C) : W7 C S last = if S = 2 ^ cH C - 1 then 1 else lp (cH C) 0 (fun h a => if mfB C S last h = true then a + W7 C (S ||| 2 ^ h) h else a) 0 := by
  have h7 := hw.1
  have h128 := p7 h7
  show (if S = 2 ^ cH C - 1 then 1 else _) = _
  split
  · rfl
  · refine lp_ext _ _ _ _ _ (fun h a _ hh => ?_)
    by_cases c : mfB C S last h = true
    · have hn := mf_not c
      have hp := pc_add S (by omega) h (by omega) hn
      rw [if_pos c, if_pos c]
      unfold W7
      rw [wN_fuel hw 6 7 (S ||| 2 ^ h) h (or_H hS (pj (by omega))) (by omega) (by omega)]
    · rw [if_neg c, if_neg c]
theorem p7pos : ∀ f, 1 ≤ 7 ^ f
  | 0 => Nat.le_refl _
  | f + 1 => by
    rw [Nat.pow_succ]
    have := p7pos f
    omega
theorem wN_le {C : ACt} (hw : WFc C) : ∀ (f S last : Nat), wN C f S last ≤ 7 ^ f
  | 0, _, _ => Nat.le_refl _
  | f + 1, S, last => by
    have h7 := hw.1
    have hp : 1 ≤ 7 ^ (f + 1) := p7pos _
    show (if S = 2 ^ cH C - 1 then 1 else _) ≤ _
    split
    · exact hp
    · have key : ∀ m, lp m 0 (fun h a => if mfB C S last h = true then a + wN C f (S ||| 2 ^ h) h else a) 0 ≤ m * 7 ^ f := by
        intro m
        induction m with
        | zero => exact Nat.zero_le _
        | succ m ih =>
          rw [lp_snoc, Nat.zero_add, Nat.succ_mul]
          split
          · have := wN_le hw f (S ||| 2 ^ m) m
            omega
          · exact Nat.le_trans ih (Nat.le_add_right _ _)
      refine Nat.le_trans (key (cH C)) ?_
      rw [Nat.pow_succ, Nat.mul_comm]
      exact Nat.mul_le_mul_left _ h7
theorem W7_le {C : ACt} (hw : WFc C) (S last : Nat) : W7 C S last ≤ 823543 := wN_le hw 7 S last
/-! the class -/
theorem mayFollow_C {w : MEM} {C : ACt} {c l S last h : Nat} (hw : WFc C) (hc : CLS w c l C) (hS : S < 128) (hl : last ≤ 7) (hh : h < 7) : f_X6_mayFollow 3000 (nI S) (nI last) (nI h) c w = some (if mfB C S last h = true then 1 else 0, w) := by
  rw [E_X6_mayFollow]
  unfold mfB
  simp (disch := omega) only [bit_zero, neqL]
  by_cases c1 : S.testBit h = false
  · rw [if_pos c1, c1]
    by_cases c2 : last = 7
    · rw [if_pos c2, c2]
      rfl
    · have hf := (frS_n hw last).2
      rw [if_neg c2, E_X1_areTwo, beq_ne c2]
      simp (disch := omega) only [bIn, rAn, decide_true, ck_tr, (show last < 7 by omega), hc.2.2.2.2.2.2.1 last (by omega), (frS_n hw last).1, bit_zero, (frS_n hw last).2]
      cases c3 : (frN C last).testBit h
      · rw [if_pos rfl, bnd_some, if_pos rfl]; rfl
      · rw [if_neg (by decide), bnd_some, if_neg (by decide)]; rfl
  · rw [if_neg c1]
    have c1 : S.testBit h = true := by simpa using c1
    rw [c1]
    rfl
def flC (C : ACt) (u : MEM) (S : Nat) : Prop := ∀ last < 8, fA u (601, 201) (S * 8 + last) = nI (W7 C S last)
theorem ix8 (S h : Nat) : nI S * (8 : Int32) + nI h = nI (S * 8 + h) := by
  rw [show (8 : Int32) = nI 8 from rfl, nI_mul, nI_add]
def p601 (a : LA) : Bool := Nat.beq a.1 601
theorem p601_scC (a : LA) (h : p601 a = true) (h2 : a.2 ≠ 842) : scC a = true := by
  obtain ⟨t, i⟩ := a
  have := Nat.eq_of_beq_eq_true h
  have : t = 601 := this
  subst this
  show (true && !(Nat.beq i 842)) = true
  rw [beq_ne h2]
  rfl
theorem waysBehind_C {u : MEM} {C : ACt} {c l S last : Nat} (hw : WFc C) (hc : CLS u c l C) (hS : S < 2 ^ cH C) (hne : S ≠ 2 ^ cH C - 1) (hl : last ≤ 7) (hf : ∀ T, S < T → T < 2 ^ cH C → flC C u T) : f_X6_waysBehind 3000 201 (nI S) (nI last) c u = some (nI (W7 C S last), u) := by
  have h7 := hw.1
  have h128 := p7 h7
  rw [E_X6_waysBehind, W7_eq hw hS, if_neg hne]
  exact (for_lp (F := fun n x (a : Nat) => f_X6_waysBehind_6 3000 n 201 (nI S) (nI last) c (nI a) x u) (N := cH C) (fin := fun a => some (nI a, u)) (step := fun h a => if mfB C S last h = true then a + W7 C (S ||| 2 ^ h) h else a) (fun _ _ => True)
    (fun n h a hh _ => by
      refine ⟨?_, trivial⟩
      show f_X6_waysBehind_6 3000 (n + 1) 201 (nI S) (nI last) c (nI a) (nI h) u = _
      rw [E_X6_waysBehind_6, hc.1, if_pos (by rw [nlt _ _ (by omega) (by omega)]; exact hh), mayFollow_C hw hc (by omega) hl (by omega), bnd_some, naddL]
      by_cases c1 : mfB C S last h = true
      · have hn := mf_not c1
        have hT : S ||| 2 ^ h < 2 ^ cH C := or_H hS (pj hh)
        have hgt : S < S ||| 2 ^ h := by
          have h1 : S ≤ S ||| 2 ^ h := Nat.left_le_or
          have h2 := pc_add S (by omega) h (by omega) hn
          have h3 : S ≠ S ||| 2 ^ h := fun e => by rw [← e] at h2; omega
          omega
        have hx : (S ||| 2 ^ h) * 8 + h < 1024 := by omega
        rw [if_pos c1, if_pos c1, if_neg (by decide), one_n (by omega), nI_or, ix8, bIn _ _ (by omega), decide_eq_true hx, ck_tr, rAn _ _ _ (by omega), hf _ hgt hT h (by omega), nI_add, lt_eq]
      · rw [if_neg c1, if_neg c1, if_pos rfl])
    (fun n a _ => by
      show f_X6_waysBehind_6 3000 (n + 1) 201 (nI S) (nI last) c (nI a) (nI (cH C)) u = _
      rw [E_X6_waysBehind_6, hc.1, if_neg (by rw [nlt _ _ (by omega) (by omega)]; omega)])
    (cH C) 3000 0 0 (by omega) (by omega) trivial).1
theorem find_C {w : MEM} {C : ACt} {c l : Nat} (hw : WFc C) (hc : CLS w c l C) : ∃ u, f_X6_find 3000 201 c w = some ((), u) ∧ Fr (fun a => p601 a && Nat.beq a.2 201) w u ∧ ∀ S < 2 ^ cH C, flC C u S := by
  have h7 := hw.1
  have h128 := p7 h7
  have h1p := Nat.two_pow_pos (cH C)
  have okq : okC (fun a => p601 a && Nat.beq a.2 201) c l := ⟨rfl, rfl, rfl, rfl, rfl, rfl, rfl, rfl, rfl, rfl, rfl, rfl, rfl⟩
  have key : ∀ k n u, k ≤ 2 ^ cH C → k < n → Fr (fun a => p601 a && Nat.beq a.2 201) w u → (∀ T, k ≤ T → T < 2 ^ cH C → flC C u T) → ∃ u1, f_X6_find_7 3000 n 201 c (nI (2 ^ cH C - 1)) (nI k + (-1)) u = some ((), u1) ∧ Fr (fun a => p601 a && Nat.beq a.2 201) w u1 ∧ ∀ S < 2 ^ cH C, flC C u1 S := by
    intro k
    induction k with
    | zero =>
      intro n u hk hn pf pv
      obtain ⟨n, rfl⟩ : ∃ n', n = n' + 1 := ⟨n - 1, by omega⟩
      refine ⟨u, ?_, pf, fun S hS => pv S (Nat.zero_le _) hS⟩
      rw [E_X6_find_7, if_pos (by decide)]
    | succ S ih =>
      intro n u hk hn pf pv
      obtain ⟨n, rfl⟩ : ∃ n', n = n' + 1 := ⟨n - 1, by omega⟩
      rw [naddm1 _ (by omega), Nat.add_sub_cancel, E_X6_find_7, if_neg (nI_pos (by omega))]
      obtain ⟨v, n2, e1, e2, e3, e4⟩ := for_rel (F := fun m x (v : MEM) => f_X6_find_14 3000 (fun l0 l1 l2 l3 w => f_X6_find_7 3000 n l0 l1 l2 l3 w) m 201 c (nI (2 ^ cH C - 1)) (nI S) x v) (N := 8) (fun q v => Fr (fun a => p601 a && Nat.beq a.2 201) w v ∧ (∀ T, S < T → T < 2 ^ cH C → flC C v T) ∧ ∀ last < q, fA v (601, 201) (S * 8 + last) = nI (W7 C S last))
        (fun m q v hq p => by
          obtain ⟨p1, p2, p3⟩ := p
          have hcv := hc.fr p1 okq
          have hx : S * 8 + q < 1024 := by omega
          refine ⟨tA v (601, 201) (upd (fA v (601, 201)) (S * 8 + q) (nI (W7 C S q))), ?_, Fr.A (a := (601, 201)) p1 _ rfl, fun T hT1 hT2 last hlast => ?_, fun last hlast => ?_⟩
          · show f_X6_find_14 3000 _ (m + 1) 201 c (nI (2 ^ cH C - 1)) (nI S) (nI q) v = _
            rw [E_X6_find_14, if_neg (by rw [nLlt _ _ (by omega) (by decide)]; omega), ix8, bIn _ _ (by omega), decide_eq_true hx, ck_tr, naddL]
            by_cases c1 : S = 2 ^ cH C - 1
            · rw [if_pos (by rw [c1])]
              have e9 : W7 C S q = 1 := by rw [W7_eq hw (by omega), if_pos c1]
              rw [lt_eq, sAn _ _ _ _ (by omega), e9]
              rfl
            · rw [if_neg (by rw [neqI _ _ (by omega) (by omega)]; exact c1), waysBehind_C hw hcv (by omega) c1 (by omega) p2, bnd_some, ck_tr, lt_eq, sAn _ _ _ _ (by omega)]
          · rw [fA_tA, if_pos rfl, upd_ne _ _ (by omega)]
            exact p2 T hT1 hT2 last hlast
          · rw [fA_tA, if_pos rfl, upd_eq]
            by_cases c1 : last = q
            · rw [if_pos (by omega), c1]
            · rw [if_neg (by omega)]
              exact p3 last (by omega))
        8 3000 0 u (by omega) (by omega) ⟨pf, fun T h1 h2 => pv T (by omega) h2, fun last h => absurd h (Nat.not_lt_zero _)⟩
      have e1 : f_X6_find_14 3000 (fun l0 l1 l2 l3 w => f_X6_find_7 3000 n l0 l1 l2 l3 w) 3000 201 c (nI (2 ^ cH C - 1)) (nI S) 0 u = f_X6_find_14 3000 (fun l0 l1 l2 l3 w => f_X6_find_7 3000 n l0 l1 l2 l3 w) (n2 + 1) 201 c (nI (2 ^ cH C - 1)) (nI S) (nI 8) v := e1
      rw [e1, E_X6_find_14, if_pos (by decide)]
      refine ih n v (by omega) (by omega) e2 (fun T h1 h2 => ?_)
      by_cases c1 : T = S
      · subst c1; exact e4
      · exact e3 T (by omega) h2
  obtain ⟨u, k1, k2, k3⟩ := key (2 ^ cH C) 3000 w (Nat.le_refl _) (by omega) (Fr.rf _ _) (fun T h1 h2 => by omega)
  refine ⟨u, ?_, k2, k3⟩
  rw [E_X6_find, all_C hw hc, bnd_some]
  rw [naddm1 _ (by omega)] at k1
  exact k1
/-! the model -/
theorem ix_1 : ∀ last < 8, ∀ S < 128, (nI last <<< ((7 : Int32) &&& 31)) ||| nI S = nI (last * 128 + S) := by decide +kernel
theorem ix_2 : ∀ h < 7, ∀ S < 128, ((nI h <<< ((7 : Int32) &&& 31)) ||| nI S) ||| ((1 : Int32) <<< (nI h &&& 31)) = nI (h * 128 + (S ||| 2 ^ h)) := by decide +kernel
theorem ix_3 : ∀ h < 8, (nI h <<< ((7 : Int32) &&& 31)) = nI (h * 128) := by decide +kernel
def lst (H last : Nat) : Nat := if last = H then 7 else last
theorem mayFollow_M {w : MEM} {C : ACt} {S last h : Nat} (hw : WFc C) (hm : MOD w C) (hS : S < 128) (hl : last ≤ cH C) (hh : h < cH C) : f_X10_mayFollow 3000 842 (nI S) (nI last) (nI h) w = some (if mfB C S (lst (cH C) last) h = true then 1 else 0, w) := by
  have h7 := hw.1
  rw [E_X10_mayFollow, hm.1]
  unfold mfB lst
  have hf := (frS_n hw last).2
  rw [twosOf_M hw hm (by omega) (by omega), bnd_some, (frS_n hw last).1]
  simp (disch := omega) only [bit_one0, neqI]
  by_cases c1 : S.testBit h = false
  · rw [if_pos c1, c1]
    by_cases c2 : last = cH C
    · rw [if_pos c2, if_pos c2]
      rfl
    · rw [if_neg c2, if_neg c2, beq_ne (show last ≠ 7 by omega)]
      cases c3 : (frN C last).testBit h
      · rw [if_pos rfl]; rfl
      · rw [if_neg (by decide)]; rfl
  · rw [if_neg c1]
    have c1 : S.testBit h = true := by simpa using c1
    rw [c1]
    rfl
def flM (C : ACt) (u : MEM) (S : Nat) : Prop := ∀ last, last ≤ cH C → fA u (1024, 842) (last * 128 + S) = nI (W7 C S (lst (cH C) last))
def p1024 (a : LA) : Bool := Nat.beq a.1 1024
theorem p1024_scr (a : LA) (h : p1024 a = true) : scr a = true := by
  obtain ⟨t, i⟩ := a
  have := Nat.eq_of_beq_eq_true h
  have : t = 1024 := this
  subst this
  rfl
theorem ok1024 : okM p1024 := ⟨rfl, rfl, rfl, rfl, rfl, rfl, rfl, rfl, rfl, rfl⟩
theorem laySeats_M {w : MEM} {C : ACt} (hw : WFc C) (hm : MOD w C) : ∃ u, f_X10_laySeats 3000 842 w = some ((), u) ∧ Fr p1024 w u ∧ ∀ S < 2 ^ cH C, flM C u S := by
  have h7 := hw.1
  have h128 := p7 h7
  have h1p := Nat.two_pow_pos (cH C)
  have key : ∀ k n u, k ≤ 2 ^ cH C → k < n → Fr p1024 w u → (∀ T, k ≤ T → T < 2 ^ cH C → flM C u T) → ∃ u1, f_X10_laySeats_5 3000 n 842 (nI k + (-1)) u = some ((), u1) ∧ Fr p1024 w u1 ∧ ∀ S < 2 ^ cH C, flM C u1 S := by
    intro k
    induction k with
    | zero =>
      intro n u hk hn pf pv
      obtain ⟨n, rfl⟩ : ∃ n', n = n' + 1 := ⟨n - 1, by omega⟩
      refine ⟨u, ?_, pf, fun S hS => pv S (Nat.zero_le _) hS⟩
      rw [E_X10_laySeats_5, if_pos (by decide)]
    | succ S ih =>
      intro n u hk hn pf pv
      obtain ⟨n, rfl⟩ : ∃ n', n = n' + 1 := ⟨n - 1, by omega⟩
      rw [naddm1 _ (by omega), Nat.add_sub_cancel, E_X10_laySeats_5, if_neg (nI_pos (by omega))]
      obtain ⟨v, n2, e1, e2, e3, e4⟩ := for_rel (F := fun m x (v : MEM) => f_X10_laySeats_11 3000 (fun l0 l1 w => f_X10_laySeats_5 3000 n l0 l1 w) m 842 (nI S) x v) (N := cH C + 1) (fun q v => Fr p1024 w v ∧ (∀ T, S < T → T < 2 ^ cH C → flM C v T) ∧ ∀ last < q, fA v (1024, 842) (last * 128 + S) = nI (W7 C S (lst (cH C) last)))
        (fun m q v hq p => by
          obtain ⟨p1, p2, p3⟩ := p
          have hmv := hm.fr p1 ok1024
          have hx : q * 128 + S < 1024 := by omega
          have inner : ∀ a0, f_X10_laySeats_36 3000 (fun l0 l1 w => f_X10_laySeats_5 3000 n l0 l1 w) (fun l0 l1 l2 w => f_X10_laySeats_11 3000 (fun l0 l1 w => f_X10_laySeats_5 3000 n l0 l1 w) m l0 l1 l2 w) 3000 842 (nI S) (nI q) (nI a0) 0 v = f_X10_laySeats_11 3000 (fun l0 l1 w => f_X10_laySeats_5 3000 n l0 l1 w) m 842 (nI S) (nI (q + 1)) (tA v (1024, 842) (upd (fA v (1024, 842)) (q * 128 + S) (nI (lp (cH C) 0 (fun h a => if mfB C S (lst (cH C) q) h = true then a + W7 C (S ||| 2 ^ h) h else a) a0)))) := by
            intro a0
            exact for_lp0 (F := fun r x (a : Nat) => f_X10_laySeats_36 3000 (fun l0 l1 w => f_X10_laySeats_5 3000 n l0 l1 w) (fun l0 l1 l2 w => f_X10_laySeats_11 3000 (fun l0 l1 w => f_X10_laySeats_5 3000 n l0 l1 w) m l0 l1 l2 w) r 842 (nI S) (nI q) (nI a) x v) (N := cH C) (fin := fun a => f_X10_laySeats_11 3000 (fun l0 l1 w => f_X10_laySeats_5 3000 n l0 l1 w) m 842 (nI S) (nI (q + 1)) (tA v (1024, 842) (upd (fA v (1024, 842)) (q * 128 + S) (nI a)))) (step := fun h a => if mfB C S (lst (cH C) q) h = true then a + W7 C (S ||| 2 ^ h) h else a)
              (fun r h a hh => by
                show f_X10_laySeats_36 3000 _ _ (r + 1) 842 (nI S) (nI q) (nI a) (nI h) v = _
                rw [E_X10_laySeats_36, hmv.1, if_pos (by rw [nlt _ _ (by omega) (by omega)]; exact hh), mayFollow_M hw hmv (by omega) (by omega) hh, bnd_some, naddL]
                by_cases c1 : mfB C S (lst (cH C) q) h = true
                · have hn := mf_not c1
                  have hT : S ||| 2 ^ h < 2 ^ cH C := or_H (by omega) (pj hh)
                  have hgt : S < S ||| 2 ^ h := by
                    have h1 : S ≤ S ||| 2 ^ h := Nat.left_le_or
                    have h2 := pc_add S (by omega) h (by omega) hn
                    have h3 : S ≠ S ||| 2 ^ h := fun e => by rw [← e] at h2; omega
                    omega
                  have hx2 : h * 128 + (S ||| 2 ^ h) < 1024 := by omega
                  have hl : lst (cH C) h = h := if_neg (by omega)
                  have hv := p2 _ hgt hT h (by omega)
                  rw [hl] at hv
                  rw [if_pos c1, if_pos c1, if_neg (by decide), ix_2 h (by omega) S (by omega), bIn _ _ (by omega), decide_eq_true hx2, ck_tr, rAn _ _ _ (by omega), hv, nI_add, lt_eq]
                · rw [if_neg c1, if_neg c1, if_pos rfl])
              (fun r a => by
                show f_X10_laySeats_36 3000 _ _ (r + 1) 842 (nI S) (nI q) (nI a) (nI (cH C)) v = _
                rw [E_X10_laySeats_36, hmv.1, if_neg (by rw [nlt _ _ (by omega) (by omega)]; omega), ix_1 q (by omega) S (by omega), bIn _ _ (by omega), decide_eq_true hx, ck_tr, lt_eq, sAn _ _ _ _ (by omega), naddL]) (n := 3000) (by omega) a0
          refine ⟨tA v (1024, 842) (upd (fA v (1024, 842)) (q * 128 + S) (nI (W7 C S (lst (cH C) q)))), ?_, Fr.A (a := (1024, 842)) p1 _ rfl, fun T hT1 hT2 last hlast => ?_, fun last hlast => ?_⟩
          · show f_X10_laySeats_11 3000 _ (m + 1) 842 (nI S) (nI q) v = _
            rw [E_X10_laySeats_11, hmv.1, if_neg (by rw [nlt _ _ (by omega) (by omega)]; omega), all_M hw hmv, bnd_some]
            by_cases c1 : S = 2 ^ cH C - 1
            · have i1 := inner 1
              have z : ∀ k, k ≤ cH C → lp k 0 (fun h a => if mfB C S (lst (cH C) q) h = true then a + W7 C (S ||| 2 ^ h) h else a) 1 = 1 := by
                intro k hk
                refine lp_id _ _ _ _ (fun j _ hj => if_neg (fun e => ?_))
                have := mf_not e
                rw [c1, Nat.testBit_two_pow_sub_one, decide_eq_true (show j < cH C by omega)] at this
                cases this
              rw [z _ (Nat.le_refl _)] at i1
              rw [if_pos (by rw [c1]), W7_eq hw (by omega), if_pos c1]
              exact i1
            · have i1 := inner 0
              rw [if_neg (by rw [neqI _ _ (by omega) (by omega)]; exact c1), W7_eq hw (by omega), if_neg c1]
              exact i1
          · rw [fA_tA, if_pos rfl, upd_ne _ _ (by omega)]
            exact p2 T hT1 hT2 last hlast
          · rw [fA_tA, if_pos rfl, upd_eq]
            by_cases c1 : last = q
            · rw [if_pos (by omega), c1]
            · rw [if_neg (by omega)]
              exact p3 last (by omega))
        (cH C + 1) 3000 0 u (by omega) (by omega) ⟨pf, fun T h1 h2 => pv T (by omega) h2, fun last h => absurd h (Nat.not_lt_zero _)⟩
      have e1 : f_X10_laySeats_11 3000 (fun l0 l1 w => f_X10_laySeats_5 3000 n l0 l1 w) 3000 842 (nI S) 0 u = f_X10_laySeats_11 3000 (fun l0 l1 w => f_X10_laySeats_5 3000 n l0 l1 w) (n2 + 1) 842 (nI S) (nI (cH C + 1)) v := e1
      rw [e1, E_X10_laySeats_11, (hm.fr e2 ok1024).1, if_pos (by rw [nlt _ _ (by omega) (by omega)]; omega)]
      refine ih n v (by omega) (by omega) e2 (fun T h1 h2 => ?_)
      by_cases c1 : T = S
      · subst c1; exact fun last hl => e4 last (by omega)
      · exact e3 T (by omega) h2
  obtain ⟨u, k1, k2, k3⟩ := key (2 ^ cH C) 3000 w (Nat.le_refl _) (by omega) (Fr.rf _ _) (fun T h1 h2 => by omega)
  refine ⟨u, ?_, k2, k3⟩
  rw [E_X10_laySeats, all_M hw hm, bnd_some]
  rw [naddm1 _ (by omega)] at k1
  exact k1
theorem p601q_scC (a : LA) (h : (p601 a && Nat.beq a.2 201) = true) : scC a = true := by
  obtain ⟨h1, h2⟩ := and_t h
  have := Nat.eq_of_beq_eq_true h2
  exact p601_scC a h1 (by omega)
theorem S_seats {w : MEM} (hI : INV w) : SIMn (f_X9_seats 3000 0) (f_X10_seats 3000 842) w := by
  have h := hI
  obtain ⟨C, c, l, b, hr, hc, hk⟩ := h
  have hw := hc.1
  have h7 := hw.1
  have h1p := Nat.two_pow_pos (cH C)
  obtain ⟨w1, e1, e2, e3⟩ := find_C hw hc.2.1
  have f1 : Fr scr w w1 := (e2.mono p601q_scC).mono scC_scr
  have hm := (hc.fr f1.m0.K).2.2.1
  obtain ⟨w2, g1, g2, g3⟩ := laySeats_M hw hm
  refine ⟨nI (W7 C 0 7), w1, w2, ?_, ?_, hI.fr (f1.m0.tr (g2.mono p1024_scr))⟩
  · have := e3 0 h1p 7 (by omega)
    rw [Nat.zero_mul, Nat.zero_add] at this
    rw [E_X9_seats, hr.1, e1, bnd_some, E_X6_inAll]
    simp (disch := omega) only [bIL, rAL, decide_true, ck_tr, (show 7 < 1024 by omega), this, bnd_some]
  · have := g3 0 h1p (cH C) (Nat.le_refl _)
    rw [Nat.add_zero] at this
    have hl : lst (cH C) (cH C) = 7 := if_pos rfl
    rw [hl] at this
    rw [E_X10_seats, lt_eq, m0_eq, g1, bnd_some, (g2.2.1 _ rfl).trans hm.1, ix_3 _ (by omega)]
    simp (disch := omega) only [bIn, rAn, decide_true, ck_tr, (show cH C * 128 < 1024 by omega), this]
/-! the first row -/
def nxS (C : ACt) (S last : Nat) : Nat := lx (cH C) 0 (fun h (_ : Unit) => if mfB C S last h = true ∧ 0 < W7 C (S ||| 2 ^ h) h then .inl h else .inr ()) (fun _ => 7) ()
theorem nx_or {C : ACt} (S last : Nat) : (nxS C S last = 7 ∧ ∀ h < cH C, ¬ (mfB C S last h = true ∧ 0 < W7 C (S ||| 2 ^ h) h)) ∨ (nxS C S last < cH C ∧ (mfB C S last (nxS C S last) = true ∧ 0 < W7 C (S ||| 2 ^ nxS C S last) (nxS C S last)) ∧ ∀ h < nxS C S last, ¬ (mfB C S last h = true ∧ 0 < W7 C (S ||| 2 ^ h) h)) := by
  by_cases c : ∃ h, h < cH C ∧ (mfB C S last h = true ∧ 0 < W7 C (S ||| 2 ^ h) h)
  · right
    obtain ⟨h, h1, h2⟩ := c
    have : ∀ h, h < cH C → (mfB C S last h = true ∧ 0 < W7 C (S ||| 2 ^ h) h) → ∃ r, r < cH C ∧ (mfB C S last r = true ∧ 0 < W7 C (S ||| 2 ^ r) r) ∧ ∀ j, j < r → ¬ (mfB C S last j = true ∧ 0 < W7 C (S ||| 2 ^ j) j) := by
      intro h
      induction h using Nat.strongRecOn with
      | ind h ih =>
        intro hh hb
        by_cases cc : ∃ j, j < h ∧ (mfB C S last j = true ∧ 0 < W7 C (S ||| 2 ^ j) j)
        · obtain ⟨j, h1, h2⟩ := cc
          exact ih j h1 (by omega) h2
        · exact ⟨h, hh, hb, fun j hj h3 => cc ⟨j, hj, h3⟩⟩
    obtain ⟨r, r1, r2, r3⟩ := this h h1 h2
    have e : nxS C S last = r := lx_find _ _ (r := r) (v := r) (if_pos r2) (cH C) 0 (fun j _ hj => if_neg (r3 j hj)) (by omega) (by omega)
    rw [e]
    exact ⟨r1, r2, r3⟩
  · left
    have hn : ∀ h < cH C, ¬ (mfB C S last h = true ∧ 0 < W7 C (S ||| 2 ^ h) h) := fun h h1 h2 => c ⟨h, h1, h2⟩
    exact ⟨lx_none _ _ (cH C) 0 (fun j _ hj => if_neg (hn j (by omega))), hn⟩
theorem nx_pos {C : ACt} (hw : WFc C) {S last : Nat} (hS : S < 2 ^ cH C) (hp : pc S < cH C) : 0 < W7 C S last ↔ nxS C S last < cH C := by
  have h7 := hw.1
  have hne : S ≠ 2 ^ cH C - 1 := fun e => by rw [e, pc_all' _ h7] at hp; omega
  rw [W7_eq hw hS, if_neg hne]
  rcases nx_or (C := C) S last with ⟨h1, h2⟩ | ⟨h1, h2, h3⟩
  · have : lp (cH C) 0 (fun h a => if mfB C S last h = true then a + W7 C (S ||| 2 ^ h) h else a) 0 = 0 := by
      refine lp_id _ _ _ _ (fun j _ hj => ?_)
      split
      · rename_i c
        have := h2 j (by omega)
        have : ¬ 0 < W7 C (S ||| 2 ^ j) j := fun e => this ⟨c, e⟩
        omega
      · rfl
    rw [this, h1]
    constructor
    · intro e; omega
    · intro e; omega
  · constructor
    · intro _; exact h1
    · intro _
      have : ∀ m, nxS C S last < m → m ≤ cH C → 0 < lp m 0 (fun h a => if mfB C S last h = true then a + W7 C (S ||| 2 ^ h) h else a) 0 := by
        intro m
        induction m with
        | zero => intro e; omega
        | succ m ih =>
          intro e1 e2
          rw [lp_snoc, Nat.zero_add]
          by_cases c : m = nxS C S last
          · rw [c, if_pos h2.1]
            have := h2.2
            omega
          · have := ih (by omega) (by omega)
            split <;> omega
      exact this (cH C) h1 (Nat.le_refl _)
theorem firstBehind_C {u : MEM} {C : ACt} {c l S last : Nat} (hw : WFc C) (hc : CLS u c l C) (hS : S < 2 ^ cH C) (hl : last ≤ 7) (hf : ∀ T < 2 ^ cH C, flC C u T) : f_X6_firstBehind 3000 201 (nI S) (nI last) c u = some (nI (nxS C S last), u) := by
  have h7 := hw.1
  have h128 := p7 h7
  rw [E_X6_firstBehind]
  have := for_lx (F := fun n x (_ : Unit) => f_X6_firstBehind_3 3000 n 201 (nI S) (nI last) c x u) (N := cH C) (step := fun h (_ : Unit) => if mfB C S last h = true ∧ 0 < W7 C (S ||| 2 ^ h) h then .inl (some (nI h, u)) else .inr ()) (fin := fun _ => some (7, u)) (fun _ _ => True)
    (fun n h a hh _ => by
      refine ⟨?_, fun _ _ => trivial⟩
      show f_X6_firstBehind_3 3000 (n + 1) 201 (nI S) (nI last) c (nI h) u = _
      have hT : S ||| 2 ^ h < 2 ^ cH C := or_H hS (pj hh)
      have hx : (S ||| 2 ^ h) * 8 + h < 1024 := by omega
      have hv := W7_le hw (S ||| 2 ^ h) h
      rw [E_X6_firstBehind_3, hc.1, if_pos (by rw [nlt _ _ (by omega) (by omega)]; exact hh), mayFollow_C hw hc (by omega) hl (by omega), bnd_some, naddL, one_n (by omega), nI_or, ix8, bIn _ _ (by omega), decide_eq_true hx, ck_tr, rAn _ _ _ (by omega), hf _ hT h (by omega)]
      simp (disch := omega) only [nLlt]
      by_cases c1 : mfB C S last h = true
      · rw [if_pos c1, if_neg (by decide)]
        by_cases c2 : 0 < W7 C (S ||| 2 ^ h) h
        · rw [if_pos c2, if_pos ⟨c1, c2⟩]
        · rw [if_neg c2, if_neg (fun e => c2 e.2)]
      · rw [if_neg c1, if_pos rfl, if_neg (fun e => c1 e.1)])
    (fun n a _ => by
      show f_X6_firstBehind_3 3000 (n + 1) 201 (nI S) (nI last) c (nI (cH C)) u = _
      rw [E_X6_firstBehind_3, hc.1, if_neg (by rw [nlt _ _ (by omega) (by omega)]; omega)])
    (cH C) 3000 0 () (by omega) (by omega) trivial
  have this : f_X6_firstBehind_3 3000 3000 201 (nI S) (nI last) c 0 u = _ := this
  rw [this]
  unfold nxS
  have gen : ∀ m q, lx m q (fun h (_ : Unit) => if mfB C S last h = true ∧ 0 < W7 C (S ||| 2 ^ h) h then (.inl (some (nI h, u)) : Option (Int32 × MEM) ⊕ Unit) else .inr ()) (fun _ => some (7, u)) () = some (nI (lx m q (fun h (_ : Unit) => if mfB C S last h = true ∧ 0 < W7 C (S ||| 2 ^ h) h then .inl h else .inr ()) (fun _ => 7) ()), u) := by
    intro m
    induction m with
    | zero => intro q; rfl
    | succ m ih =>
      intro q
      rw [lx_s, lx_s]
      by_cases c : mfB C S last q = true ∧ 0 < W7 C (S ||| 2 ^ q) q
      · rw [if_pos c, if_pos c]
      · rw [if_neg c, if_neg c]
        exact ih _
  exact gen _ _
def rowS (C : ACt) : Nat → Nat → Nat → Int32
  | 0, _, last => nI last
  | m + 1, S, last => if nxS C S last = 7 then -1 else rowS C m (S ||| 2 ^ nxS C S last) (nxS C S last)
theorem S_seat (a : Int32) {w : MEM} (hI : INV w) : SIM KI (f_X9_seat 3000 0 a) (f_X10_seat 3000 842 a) w := by
  by_cases c0 : a < 0
  · refine SIM_W hI 1 ?_ ?_ rfl
    · rw [E_X9_seat, if_pos c0, E_X9_need, if_pos rfl]; rfl
    · rw [E_X10_seat, lt_eq, m0_eq, if_pos c0, E_X10_seat_15, may_W 3000 (by decide) (rS_m0 _), bnd_some, if_pos rfl]
  have h := hI
  obtain ⟨C, c, l, b, hr, hc, hk⟩ := h
  have hw := hc.1
  have h7 := hw.1
  have h128 := p7 h7
  have h1p := Nat.two_pow_pos (cH C)
  obtain ⟨j, hj, rfl⟩ := nI_of c0
  obtain ⟨w1, e1, e2, e3⟩ := find_C hw hc.2.1
  have f1 : Fr scr w w1 := (e2.mono p601q_scC).mono scC_scr
  have hc1 := (hc.fr f1.K).2.1
  have hm := (hc.fr f1.m0.K).2.2.1
  obtain ⟨w2, g1, g2, g3⟩ := laySeats_M hw hm
  have hm2 := hm.fr g2 ok1024
  have t2 : rS w2 (11000, 842) = 0 := (g2.2.1 _ rfl).trans (rS_m0 _)
  have f2 : Fr scr w1 w2 := (m0_fr w1).tr (g2.mono p1024_scr)
  have hX : f_X9_seat 3000 0 (nI j) w = bnd (f_X6_firstOn 3000 201 (nI j) c w1) fun (x16 : Int32) (w15 : MEM) => some (.inl x16, w15) := by
    rw [E_X9_seat, if_neg c0, E_X9_need, if_neg (by decide), bndT_inl, hr.1, e1, bnd_some, (hr.fr f1).1]
  have hM : f_X10_seat 3000 842 (nI j) w1 = _ := (E_X10_seat _ _ _ _).trans (by rw [lt_eq, m0_eq, if_neg c0, E_X10_seat_15, may_1 3000 _ _ (rS_m0 _), bnd_some, if_neg (by decide), g1, bnd_some, hm2.1])
  by_cases c1 : j < cH C
  rotate_left
  · refine SIM_ok (v := -1) hI ?_ f1 ?_ f2 t2
    · rw [hX, E_X6_firstOn, hc1.1, if_neg (by rw [nlt _ _ (by omega) (by omega)]; exact c1), bnd_some]
    · rw [hM, if_neg (by rw [nlt _ _ (by omega) (by omega)]; exact c1)]
  rw [if_pos (by rw [nlt _ _ (by omega) (by omega)]; exact c1)] at hM
  have hv0 := g3 0 h1p (cH C) (Nat.le_refl _)
  rw [Nat.add_zero, show lst (cH C) (cH C) = 7 from if_pos rfl] at hv0
  have hle := W7_le hw 0 7
  have kC : ∀ m k q S last, k + m = j + 1 → m < q → S < 2 ^ cH C → last ≤ 7 → f_X6_firstOn_19 3000 q 201 (nI j) c (nI S) (nI last) (nI k) w1 = some (rowS C m S last, w1) := by
    intro m
    induction m with
    | zero =>
      intro k q S last hk hq hS hl
      obtain ⟨q, rfl⟩ : ∃ n', q = n' + 1 := ⟨q - 1, by omega⟩
      rw [E_X6_firstOn_19, if_pos (by rw [nlt _ _ (by omega) (by omega)]; omega)]
      rfl
    | succ m ih =>
      intro k q S last hk hq hS hl
      obtain ⟨q, rfl⟩ : ∃ n', q = n' + 1 := ⟨q - 1, by omega⟩
      rw [E_X6_firstOn_19, if_neg (by rw [nlt _ _ (by omega) (by omega)]; omega), firstBehind_C hw hc1 hS hl e3, bnd_some]
      show _ = some (if nxS C S last = 7 then -1 else rowS C m (S ||| 2 ^ nxS C S last) (nxS C S last), w1)
      rcases nx_or (C := C) S last with ⟨x1, x2⟩ | ⟨x1, x2, x3⟩
      · rw [if_pos (by rw [x1]; rfl), if_pos x1]
      · rw [if_neg (by rw [neqL _ _ (by omega) (by decide)]; omega), if_neg (by omega), lt_eq, one_n (by omega), nI_or, naddL]
        exact ih (k + 1) q _ _ (by omega) (by omega) (or_H hS (pj x1)) (by omega)
  have kC := kC (j + 1) 0 3000 0 7 (by omega) (by omega) h1p (by omega)
  have hX2 : f_X9_seat 3000 0 (nI j) w = some (.inl (rowS C (j + 1) 0 7), w1) := by
    rw [hX, E_X6_firstOn, hc1.1, if_pos (by rw [nlt _ _ (by omega) (by omega)]; exact c1)]
    have kC : f_X6_firstOn_19 3000 3000 201 (nI j) c 0 7 0 w1 = some (rowS C (j + 1) 0 7, w1) := kC
    rw [kC, bnd_some]
  refine SIM_ok hI hX2 f1 ?_ f2 t2
  rw [hM, ix_3 _ (by omega), bIn _ _ (by omega), decide_eq_true (show cH C * 128 < 1024 by omega), ck_tr, rAn _ _ _ (by omega), hv0]
  have np := nx_pos hw (S := 0) (last := 7) h1p (by show 0 < cH C; omega)
  by_cases c2 : W7 C 0 7 = 0
  · rw [if_pos (by rw [c2]; rfl)]
    have : nxS C 0 7 = 7 := by
      rcases nx_or (C := C) 0 7 with ⟨x1, x2⟩ | ⟨x1, x2, x3⟩
      · exact x1
      · have := np.mpr x1
        omega
    show _ = some (if nxS C 0 7 = 7 then -1 else rowS C j (0 ||| 2 ^ nxS C 0 7) (nxS C 0 7), w2)
    rw [if_pos this]
  · rw [if_neg (nI_ne0 (by omega) (by omega)), lt_eq]
    have kM : ∀ m k q S last, k + m = j + 1 → m < q → S < 2 ^ cH C → last ≤ cH C → pc S = k → 0 < W7 C S (lst (cH C) last) → (m = 0 → last < cH C) → f_X10_seat_64 3000 q 842 (nI j) (nI S) (nI last) (nI k) w2 = some (rowS C m S (lst (cH C) last), w2) := by
      intro m
      induction m with
      | zero =>
        intro k q S last hk hq hS hl hp hv hz
        obtain ⟨q, rfl⟩ : ∃ n', q = n' + 1 := ⟨q - 1, by omega⟩
        rw [E_X10_seat_64, if_pos (by rw [nlt _ _ (by omega) (by omega)]; omega)]
        have : lst (cH C) last = last := if_neg (by have := hz rfl; omega)
        rw [this]
        rfl
      | succ m ih =>
        intro k q S last hk hq hS hl hp hv hz
        obtain ⟨q, rfl⟩ : ∃ n', q = n' + 1 := ⟨q - 1, by omega⟩
        have hnx := (nx_pos hw (S := S) (last := lst (cH C) last) hS (by omega)).mp hv
        rcases nx_or (C := C) S (lst (cH C) last) with ⟨x1, x2⟩ | ⟨x1, x2, x3⟩
        · omega
        rw [E_X10_seat_64, if_neg (by rw [nlt _ _ (by omega) (by omega)]; omega)]
        show _ = some (if nxS C S (lst (cH C) last) = 7 then -1 else rowS C m (S ||| 2 ^ nxS C S (lst (cH C) last)) (nxS C S (lst (cH C) last)), w2)
        rw [if_neg (by omega)]
        have hcond : ∀ h, h < cH C → ∀ r, f_X10_seat_73 3000 (fun l0 l1 l2 l3 l4 w => f_X10_seat_64 3000 q l0 l1 l2 l3 l4 w) (r + 1) 842 (nI j) (nI S) (nI last) (nI k) (nI h) w2 = if mfB C S (lst (cH C) last) h = true ∧ 0 < W7 C (S ||| 2 ^ h) h then f_X10_seat_64 3000 q 842 (nI j) (nI (S ||| 2 ^ h)) (nI h) (nI (k + 1)) w2 else f_X10_seat_73 3000 (fun l0 l1 l2 l3 l4 w => f_X10_seat_64 3000 q l0 l1 l2 l3 l4 w) r 842 (nI j) (nI S) (nI last) (nI k) (nI (h + 1)) w2 := by
          intro h hh r
          have hT : S ||| 2 ^ h < 2 ^ cH C := or_H hS (pj hh)
          have hx2 : h * 128 + (S ||| 2 ^ h) < 1024 := by omega
          have hl2 : lst (cH C) h = h := if_neg (by omega)
          have hv2 := g3 _ hT h (by omega)
          rw [hl2] at hv2
          have hle2 := W7_le hw (S ||| 2 ^ h) h
          rw [E_X10_seat_73, mayFollow_M hw hm2 (by omega) hl hh, bnd_some, ix_2 h (by omega) S (by omega), bIn _ _ (by omega), decide_eq_true hx2, ck_tr, rAn _ _ _ (by omega), hv2, one_n (by omega), nI_or, lt_eq, naddL, naddL]
          simp (disch := omega) only [neqL]
          by_cases c1 : mfB C S (lst (cH C) last) h = true
          · rw [if_pos c1, if_neg (by decide)]
            by_cases c2 : W7 C (S ||| 2 ^ h) h = 0
            · rw [if_pos c2, if_neg (fun e => by have := e.2; omega)]
            · rw [if_neg c2, if_pos ⟨c1, by omega⟩]
          · rw [if_neg c1, if_pos rfl, if_neg (fun e => c1 e.1)]
        generalize hN : nxS C S (lst (cH C) last) = N at hnx x1 x2 x3
        obtain ⟨y, n3, y1, y2⟩ := for_rel (F := fun r h (_ : Unit) => f_X10_seat_73 3000 (fun l0 l1 l2 l3 l4 w => f_X10_seat_64 3000 q l0 l1 l2 l3 l4 w) r 842 (nI j) (nI S) (nI last) (nI k) h w2) (N := N) (fun _ _ => True)
          (fun r h _ hh _ => ⟨(), by
            show f_X10_seat_73 3000 (fun l0 l1 l2 l3 l4 w => f_X10_seat_64 3000 q l0 l1 l2 l3 l4 w) (r + 1) 842 (nI j) (nI S) (nI last) (nI k) (nI h) w2 = f_X10_seat_73 3000 (fun l0 l1 l2 l3 l4 w => f_X10_seat_64 3000 q l0 l1 l2 l3 l4 w) r 842 (nI j) (nI S) (nI last) (nI k) (nI (h + 1)) w2
            rw [hcond h (by omega) r, if_neg (x3 h hh)], trivial⟩)
          N 3000 0 () (by omega) (by omega) trivial
        have y1 : f_X10_seat_73 3000 (fun l0 l1 l2 l3 l4 w => f_X10_seat_64 3000 q l0 l1 l2 l3 l4 w) 3000 842 (nI j) (nI S) (nI last) (nI k) 0 w2 = f_X10_seat_73 3000 (fun l0 l1 l2 l3 l4 w => f_X10_seat_64 3000 q l0 l1 l2 l3 l4 w) (n3 + 1) 842 (nI j) (nI S) (nI last) (nI k) (nI N) w2 := y1
        have hlN : lst (cH C) N = N := if_neg (by omega)
        have := ih (k + 1) q (S ||| 2 ^ N) N (by omega) (by omega) (or_H hS (pj x1)) (by omega) (by rw [pc_add S (by omega) N (by omega) (mf_not x2.1), hp]) (by rw [hlN]; exact x2.2) (fun _ => x1)
        rw [y1, hcond N x1 n3, if_pos x2, this, hlN]
    have hl7 : lst (cH C) (cH C) = 7 := if_pos rfl
    have kM := kM (j + 1) 0 3000 0 (cH C) (by omega) (by omega) h1p (Nat.le_refl _) rfl (by rw [hl7]; omega) (fun e => by omega)
    rw [hl7] at kM
    exact kM
