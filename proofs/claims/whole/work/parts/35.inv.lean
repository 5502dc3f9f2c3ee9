/-! the invariant of class and model -/
def scrT (t : Nat) : Bool := match t with
  | 303 => true
  | 304 => true
  | 601 => true
  | 502 => true
  | 503 => true
  | 10502 => true
  | 10503 => true
  | 701 => true
  | 702 => true
  | 703 => true
  | 704 => true
  | 10704 => true
  | 10705 => true
  | 10706 => true
  | 10707 => true
  | 10802 => true
  | 10803 => true
  | 10804 => true
  | 10805 => true
  | 11000 => true
  | 11003 => true
  | 11004 => true
  | 11005 => true
  | 11006 => true
  | 11007 => true
  | 1003 => true
  | 1004 => true
  | 1005 => true
  | 1006 => true
  | 11018 => true
  | 11019 => true
  | 11020 => true
  | 11021 => true
  | 1011 => true
  | 1012 => true
  | 1015 => true
  | 1016 => true
  | 11031 => true
  | 1017 => true
  | 1018 => true
  | 11036 => true
  | 11039 => true
  | 11040 => true
  | 11041 => true
  | 1020 => true
  | 1022 => true
  | 1024 => true
  | 1025 => true
  | 1026 => true
  | 1027 => true
  | 11052 => true
  | _ => false
def morT (t : Nat) : Bool := match t with
  | 401 => true
  | 402 => true
  | 403 => true
  | 404 => true
  | 405 => true
  | 406 => true
  | 407 => true
  | 408 => true
  | 409 => true
  | 10409 => true
  | _ => false
def cntT (t : Nat) : Bool := match t with
  | 10916 => true
  | 10917 => true
  | 1001 => true
  | _ => false
def scr (a : LA) : Bool := scrT a.1 || (morT a.1 && (Nat.beq a.2 181 || Nat.beq a.2 191))
def scrK (a : LA) : Bool := scr a || cntT a.1
theorem scr_scrK (a : LA) (h : scr a = true) : scrK a = true := by
  unfold scrK
  rw [h, Bool.true_or]
theorem beq_ne {i j : Nat} (h : i ≠ j) : Nat.beq i j = false := by
  cases e : Nat.beq i j
  · rfl
  · exact absurd (Nat.eq_of_beq_eq_true e) h
theorem scrK_mo {i : Nat} (h : i < 180 ∨ 200 < i) (t : Nat) (ht : t < 9) : scrK (401 + t, i) = false := by
  have e1 : Nat.beq i 181 = false := beq_ne (by omega)
  have e2 : Nat.beq i 191 = false := beq_ne (by omega)
  have key : ∀ t < 9, scrT (401 + t) = false ∧ cntT (401 + t) = false := by decide
  show ((scrT (401 + t) || (morT (401 + t) && (Nat.beq i 181 || Nat.beq i 191))) || cntT (401 + t)) = false
  rw [e1, e2, (key t ht).1, (key t ht).2]
  simp
theorem scrK_mS {i : Nat} (h : i < 180 ∨ 200 < i) : scrK (10409, i) = false := by
  have e1 : Nat.beq i 181 = false := beq_ne (by omega)
  have e2 : Nat.beq i 191 = false := beq_ne (by omega)
  show ((scrT 10409 || (morT 10409 && (Nat.beq i 181 || Nat.beq i 191))) || cntT 10409) = false
  rw [e1, e2]
  rfl
theorem or_t {a b : Bool} (h : (a || b) = true) : a = true ∨ b = true := by
  cases a
  · exact Or.inr h
  · exact Or.inl rfl
theorem and_t {a b : Bool} (h : (a && b) = true) : a = true ∧ b = true := by
  cases a
  · cases h
  · exact ⟨rfl, h⟩
theorem pSM_scr (a : LA) (h : pSM a = true) : scr a = true := by
  obtain ⟨t, i⟩ := a
  have h1 := (and_t (a := (Nat.beq t 1015 || (Nat.beq t 1016 || Nat.beq t 1020))) h).1
  rcases or_t h1 with e | e
  · have := Nat.eq_of_beq_eq_true e; subst this; rfl
  · rcases or_t e with e | e
    · have := Nat.eq_of_beq_eq_true e; subst this; rfl
    · have := Nat.eq_of_beq_eq_true e; subst this; rfl
theorem pLM_scr (a : LA) (h : pLM a = true) : scr a = true := pSM_scr a (pLM_pSM a h)
theorem pLC_scr (l : Nat) (a : LA) (h : pLC l a = true) : scr a = true := by
  obtain ⟨t, i⟩ := a
  have h1 := (and_t (a := (Nat.beq t 303 || Nat.beq t 304)) h).1
  rcases or_t h1 with e | e
  · have := Nat.eq_of_beq_eq_true e; subst this; rfl
  · have := Nat.eq_of_beq_eq_true e; subst this; rfl
theorem pMo_scr {i : Nat} (hi : i = 181 ∨ i = 191) (a : LA) (h : pMo i a = true) : scr a = true := by
  obtain ⟨t, j⟩ := a
  obtain ⟨h1, h2⟩ := and_t (a := ((Nat.ble 402 t && Nat.ble t 409) || Nat.beq t 10409)) h
  have e2 : j = i := Nat.eq_of_beq_eq_true h2
  subst e2
  have hm : morT t = true := by
    rcases or_t h1 with e | e
    · obtain ⟨e3, e4⟩ := and_t e
      have e3 := Nat.le_of_ble_eq_true e3
      have e4 := Nat.le_of_ble_eq_true e4
      rcases (by omega : t = 402 ∨ t = 403 ∨ t = 404 ∨ t = 405 ∨ t = 406 ∨ t = 407 ∨ t = 408 ∨ t = 409) with e | e | e | e | e | e | e | e <;> subst e <;> rfl
    · have := Nat.eq_of_beq_eq_true e; subst this; rfl
  show (scrT t || (morT t && (Nat.beq j 181 || Nat.beq j 191))) = true
  rw [hm]
  rcases hi with e | e <;> subst e <;> simp
theorem pMC_scr {i l : Nat} (hi : i = 181 ∨ i = 191) (a : LA) (h : pMC i l a = true) : scr a = true := by
  rcases or_t (a := pMo i a) (b := pLC l a) h with e | e
  · exact pMo_scr hi a e
  · exact pLC_scr l a e
def MORN (w : MEM) (i : Nat) (C : ACt) (f : Nat → Int32) : Prop := Rm w i C f ∧ ∃ t, t ≤ 900 ∧ Bd C t f
def HIST (w : MEM) (i : Nat) (C : ACt) (H : Nat → Int32) : Prop := ∃ m, m ≤ 16 ∧ H 969 = nI m ∧ rS w (10202, i) = nI m ∧ MORN w (i + 1) C H ∧ ∀ k < m, MORN w (i + 12 + 10 * k) C (fun j => H (57 + 57 * k + j))
def nowH (w : MEM) : Nat → Int32 := fun j => if j < 57 then fA w (1019, 842) j else if j < 969 then fA w (1021, 842) (j - 57) else rS w (11037, 842)
def IMGS (w : MEM) (C : ACt) : Prop := ∃ n, n ≤ 3 ∧ rS w (10914, 0) = nI n ∧ rS w (11054, 842) = nI n ∧ ∀ q < n, HIST w (326 + 172 * q) C (fun j => fA w (1028, 842) (970 * q + j))
def TAPE (w : MEM) : Prop := ∃ n, n ≤ 600 ∧ rS w (10801, 1) = nI n ∧ rS w (11002, 842) = nI n ∧ ∀ k < n, ∃ m, m < 256 ∧ fA w (801, 1) k = sb_b m ∧ fA w (1002, 842) k = nI m
def BOK (w : MEM) (b : Nat) : Prop := ∃ n, n ≤ 6 ∧ rS w (10001, b) = nI n ∧ rS w (11047, 842) = nI n ∧ ∀ j < 13, fA w (1, b) j = fA w (1023, 842) j ∧ (fA w (1, b) j = -1 ∨ ∃ v, v ≤ 99 ∧ fA w (1, b) j = nI v)
def INVc (C : ACt) (c l b : Nat) (w : MEM) : Prop := WFc C ∧ CLS w c l C ∧ MOD w C ∧ HIST w 8 C (nowH w) ∧ IMGS w C ∧ TAPE w ∧ rS w (10806, 1) = rS w (11008, 842) ∧ rS w (10915, 0) = rS w (11038, 842) ∧ BOK w b
def CNT (w : MEM) : Prop := rS w (10916, 0) = fA w (1001, 842) 0 ∧ rS w (10917, 0) = fA w (1001, 842) 1
def REF (w : MEM) (c l b : Nat) : Prop := rT w (10908, 0) = c ∧ rT w (10910, 0) = l ∧ rT w (10912, 0) = b ∧ ((c = 296 ∧ rT w (10909, 0) = 304) ∨ (c = 304 ∧ rT w (10909, 0) = 296)) ∧ ((l = 312 ∧ rT w (10911, 0) = 317) ∨ (l = 317 ∧ rT w (10911, 0) = 312)) ∧ ((b = 322 ∧ rT w (10913, 0) = 324) ∨ (b = 324 ∧ rT w (10913, 0) = 322))
def INV (w : MEM) : Prop := ∃ C c l b, REF w c l b ∧ INVc C c l b w ∧ CNT w
theorem MORN.fr {w w1 : MEM} {i : Nat} {C : ACt} {f : Nat → Int32} (h : MORN w i C f) (g : Fr scrK w w1) (hi : i < 180 ∨ 200 < i) : MORN w1 i C f :=
  ⟨h.1.fr g (scrK_mo hi) (scrK_mS hi), h.2⟩
theorem HIST.fr {w w1 : MEM} {i : Nat} {C : ACt} {H : Nat → Int32} (h : HIST w i C H) (g : Fr scrK w w1) (hi : i = 8 ∨ 200 < i) : HIST w1 i C H := by
  obtain ⟨m, h1, h2, h3, h4, h5⟩ := h
  refine ⟨m, h1, h2, ?_, h4.fr g (by omega), fun k hk => (h5 k hk).fr g (by omega)⟩
  rw [g.2.1 (10202, i) rfl]
  exact h3
theorem nowH_fr {w w1 : MEM} (g : Fr scrK w w1) : nowH w1 = nowH w := by
  unfold nowH
  rw [g.1 (1019, 842) rfl, g.1 (1021, 842) rfl, g.2.1 (11037, 842) rfl]
theorem INVc.fr {C : ACt} {c l b : Nat} {w w1 : MEM} (h : INVc C c l b w) (g : Fr scrK w w1) : INVc C c l b w1 := by
  obtain ⟨h1, h2, h3, h4, h5, h6, h7, h8, h9⟩ := h
  refine ⟨h1, h2.fr g ⟨rfl, rfl, rfl, rfl, rfl, rfl, rfl, rfl, rfl, rfl, rfl, rfl, rfl⟩, h3.fr g ⟨rfl, rfl, rfl, rfl, rfl, rfl, rfl, rfl, rfl, rfl⟩, ?_, ?_, ?_, ?_, ?_, ?_⟩
  · rw [nowH_fr g]
    exact h4.fr g (Or.inl rfl)
  · obtain ⟨n, a1, a2, a3, a4⟩ := h5
    refine ⟨n, a1, ?_, ?_, fun q hq => ?_⟩
    · rw [g.2.1 (10914, 0) rfl]; exact a2
    · rw [g.2.1 (11054, 842) rfl]; exact a3
    · rw [g.1 (1028, 842) rfl]
      exact (a4 q hq).fr g (by omega)
  · obtain ⟨n, a1, a2, a3, a4⟩ := h6
    refine ⟨n, a1, ?_, ?_, fun k hk => ?_⟩
    · rw [g.2.1 (10801, 1) rfl]; exact a2
    · rw [g.2.1 (11002, 842) rfl]; exact a3
    · rw [g.1 (801, 1) rfl, g.1 (1002, 842) rfl]; exact a4 k hk
  · rw [g.2.1 (10806, 1) rfl, g.2.1 (11008, 842) rfl]; exact h7
  · rw [g.2.1 (10915, 0) rfl, g.2.1 (11038, 842) rfl]; exact h8
  · obtain ⟨n, a1, a2, a3, a4⟩ := h9
    refine ⟨n, a1, ?_, ?_, fun k hk => ?_⟩
    · rw [g.2.1 (10001, b) rfl]; exact a2
    · rw [g.2.1 (11047, 842) rfl]; exact a3
    · rw [g.1 (1, b) rfl, g.1 (1023, 842) rfl]; exact a4 k hk
theorem REF.fr {w w1 : MEM} {c l b : Nat} {P : LA → Bool} (h : REF w c l b) (g : Fr P w w1) : REF w1 c l b := by
  unfold REF
  rw [g.2.2.1, g.2.2.1, g.2.2.1, g.2.2.1, g.2.2.1, g.2.2.1]
  exact h
theorem INV.frK {w w1 : MEM} (h : INV w) (g : Fr scrK w w1) (k : CNT w1) : INV w1 := by
  obtain ⟨C, c, l, b, h1, h2, h3⟩ := h
  exact ⟨C, c, l, b, h1.fr g, h2.fr g, k⟩
theorem Fr.K {w w1 : MEM} (g : Fr scr w w1) : Fr scrK w w1 := g.mono scr_scrK
theorem INV.fr {w w1 : MEM} (h : INV w) (g : Fr scr w w1) : INV w1 := by
  refine h.frK g.K ?_
  obtain ⟨C, c, l, b, h1, h2, h3⟩ := h
  unfold CNT
  rw [g.2.1 (10916, 0) rfl, g.2.1 (10917, 0) rfl, g.1 (1001, 842) rfl]
  exact h3
theorem INVc.now {C : ACt} {c l b : Nat} {w : MEM} (h : INVc C c l b w) : MORN w 9 C (fA w (1019, 842)) := by
  have h7 := h.1.1
  obtain ⟨m, h1, h2, h3, ⟨h4, t, ht, hb⟩, h5⟩ := h.2.2.2.1
  have e : ∀ j < 57, nowH w j = fA w (1019, 842) j := fun j hj => if_pos hj
  exact ⟨Rm_ext h7 h4 e, t, ht, Bd_ext h7 hb e⟩
/-! refusals -/
def bM (w : MEM) : MEM := sS w (10916, 0) (rS w (10916, 0) + 1)
def bW (w : MEM) : MEM := sS w (10917, 0) (rS w (10917, 0) + 1)
def m0 (w : MEM) : MEM := sS w (11000, 842) 0
def mR (u : MEM) (code : Int32) (k : Nat) : MEM := tA (sS u (11000, 842) code) (1001, 842) (upd (fA u (1001, 842)) k (fA u (1001, 842) k + 1))
theorem rS_m0 (w : MEM) : rS (m0 w) (11000, 842) = 0 := by
  unfold m0
  rw [rS_sS, if_pos rfl]
theorem rS_mR (u : MEM) (c : Int32) (k : Nat) : rS (mR u c k) (11000, 842) = c := by
  unfold mR
  rw [rS_tA, rS_sS, if_pos rfl]
theorem m0_fr (w : MEM) : Fr scr w (m0 w) := by
  unfold m0
  exact Fr.S (a := (11000, 842)) (Fr.rf _ _) _ rfl
theorem INV_M {w : MEM} (h : INV w) (code : Int32) : INV (mR (m0 (bM w)) code 0) := by
  have h3 := h
  obtain ⟨C, c, l, b, _, _, h1, h2⟩ := h3
  refine h.frK ?_ ?_
  · unfold mR m0 bM
    refine Fr.A (a := (1001, 842)) ?_ _ rfl
    refine Fr.S (a := (11000, 842)) ?_ _ rfl
    refine Fr.S (a := (11000, 842)) ?_ _ rfl
    exact Fr.S (a := (10916, 0)) (Fr.rf _ _) _ rfl
  · unfold CNT mR m0 bM
    simp only [rS_tA, rS_sS, fA_tA, fA_sS, upd_eq, Prod.mk.injEq, Nat.reduceEqDiff, false_and, and_false, and_true, if_true, if_false]
    exact ⟨by rw [h1], h2⟩
theorem INV_W {w : MEM} (h : INV w) (code : Int32) : INV (mR (m0 (bW w)) code 1) := by
  have h3 := h
  obtain ⟨C, c, l, b, _, _, h1, h2⟩ := h3
  refine h.frK ?_ ?_
  · unfold mR m0 bW
    refine Fr.A (a := (1001, 842)) ?_ _ rfl
    refine Fr.S (a := (11000, 842)) ?_ _ rfl
    refine Fr.S (a := (11000, 842)) ?_ _ rfl
    exact Fr.S (a := (10917, 0)) (Fr.rf _ _) _ rfl
  · unfold CNT mR m0 bW
    simp only [rS_tA, rS_sS, fA_tA, fA_sS, upd_eq, Prod.mk.injEq, Nat.reduceEqDiff, false_and, and_false, and_true, if_true, if_false]
    exact ⟨h1, by rw [h2]⟩
theorem lt_tr {a b c : Int32} (h : a < b) (g : b ≤ c) : a < c := by
  rw [Int32.lt_iff_toInt_lt] at h ⊢
  rw [Int32.le_iff_toInt_le] at g
  omega
theorem wit (fu : Nat) (a : Int32) {lo hi : Int32} (n m : Nat) (el : lo = nI n) (eh : hi = nI m) (hn : n < 2 ^ 31) (hm : m < 2 ^ 31) : ((∀ w, f_X9_needWithin fu 0 a lo hi w = some (.inr 0, bW w)) ∧ ∀ w, f_X10_within fu a lo hi w = some (0, w)) ∨ ∃ j, n ≤ j ∧ j ≤ m ∧ a = nI j ∧ (∀ w, f_X9_needWithin fu 0 a lo hi w = some (.inl (), w)) ∧ ∀ w, f_X10_within fu a lo hi w = some (1, w) := by
  subst el
  subst eh
  by_cases c1 : a < nI n
  · left
    refine ⟨fun w => ?_, fun w => ?_⟩
    · rw [E_X9_needWithin, if_pos c1, E_X9_need, if_pos rfl]; rfl
    · rw [E_X10_within, if_pos c1]
  · by_cases c2 : nI m < a
    · left
      refine ⟨fun w => ?_, fun w => ?_⟩
      · rw [E_X9_needWithin, if_neg c1, if_pos c2, E_X9_need, if_pos rfl]; rfl
      · rw [E_X10_within, if_neg c1, if_pos c2]
    · right
      have c0 : ¬ a < 0 := fun c => c1 (lt_tr c (nI_pos' hn))
      obtain ⟨j, hj, rfl⟩ := nI_of c0
      have d1 := c1
      have d2 := c2
      rw [nlt _ _ hj hn] at d1
      rw [nlt _ _ hm hj] at d2
      refine ⟨j, by omega, by omega, rfl, fun w => ?_, fun w => ?_⟩
      · rw [E_X9_needWithin, if_neg c1, if_neg c2, E_X9_need, if_neg (by decide)]; rfl
      · rw [E_X10_within, if_neg c1, if_neg c2]
theorem witB (fu : Nat) (a : Int32) {N : Int32} (n : Nat) (eN : N = nI n) (hn : n < 2 ^ 31) : ((∀ w, f_X9_needBelow fu 0 a N w = some (.inr 1, bM w)) ∧ ∀ w, f_X10_within fu a 0 (N - 1) w = some (0, w)) ∨ ∃ j, j < n ∧ a = nI j ∧ (∀ w, f_X9_needBelow fu 0 a N w = some (.inl (), w)) ∧ ∀ w, f_X10_within fu a 0 (N - 1) w = some (1, w) := by
  subst eN
  by_cases c1 : a < 0
  · left
    refine ⟨fun w => ?_, fun w => ?_⟩
    · rw [E_X9_needBelow, if_pos c1]; rfl
    · rw [E_X10_within, if_pos c1]
  · obtain ⟨j, hj, rfl⟩ := nI_of c1
    by_cases c2 : nI j < nI n
    · right
      have d2 := c2
      rw [nlt _ _ hj hn] at d2
      refine ⟨j, d2, rfl, fun w => ?_, fun w => ?_⟩
      · rw [E_X9_needBelow, if_neg c1, if_pos c2]
      · rw [E_X10_within, if_neg c1, show nI n - (1 : Int32) = nI (n - 1) from nI_sub n 1 (by omega), if_neg (by rw [nlt _ _ (by omega) hj]; omega)]
    · left
      have d2 := c2
      rw [nlt _ _ hj hn] at d2
      refine ⟨fun w => ?_, fun w => ?_⟩
      · rw [E_X9_needBelow, if_neg c1, if_neg c2]; rfl
      · rw [E_X10_within, if_neg c1, if_pos]
        by_cases c : n = 0
        · subst c
          exact lt_tr (b := 0) (by decide) (nI_pos' hj)
        · rw [show nI n - (1 : Int32) = nI (n - 1) from nI_sub n 1 (by omega), nlt _ _ (by omega) hj]
          omega
theorem may_1 (fu : Nat) (code kind : Int32) {w : MEM} (h : rS w (11000, 842) = 0) : f_X10_may fu 842 1 code kind w = some (1, w) := by
  rw [E_X10_may, if_neg (by decide), if_pos h]
theorem may_0 (fu : Nat) {code kind : Int32} (k : Nat) (hk : k < 2) (ek : kind = nI k) (hc : ¬ code = 0) {w : MEM} (h : rS w (11000, 842) = 0) : f_X10_may fu 842 0 code kind w = some (0, mR w code k) := by
  subst ek
  rw [E_X10_may, if_pos rfl, if_pos h]
  simp (disch := omega) only [bIn, decide_true, ck_tr, hk, lt_eq, sAn, rAn, rS_tA, rS_sS, fA_sS, if_true]
  rw [if_neg hc]
  rfl
theorem may_W (fu : Nat) {code : Int32} (hc : ¬ code = 0) {w : MEM} (h : rS w (11000, 842) = 0) : f_X10_may fu 842 0 code 1 w = some (0, mR w code 1) := may_0 fu 1 (by omega) rfl hc h
theorem may_M (fu : Nat) {code : Int32} (hc : ¬ code = 0) {w : MEM} (h : rS w (11000, 842) = 0) : f_X10_may fu 842 0 code 0 w = some (0, mR w code 0) := may_0 fu 0 (by omega) rfl hc h
theorem witH {fu : Nat} (a : Int32) {C : ACt} {c : Nat} {w : MEM} (hw : WFc C) (hr : rT w (10908, 0) = c) (hc : rS w (10107, c) = nI (cH C)) : (f_X9_needHeir fu 0 a w = some (.inr 1, bM w) ∧ ∀ u (code : Int32), ¬ code = 0 → rS u (11022, 842) = nI (cH C) → rS u (11000, 842) = 0 → f_X10_isHeir fu 842 a code u = some (0, mR u code 0)) ∨ ∃ j, j < cH C ∧ a = nI j ∧ f_X9_needHeir fu 0 a w = some (.inl (), w) ∧ ∀ u (code : Int32), rS u (11022, 842) = nI (cH C) → rS u (11000, 842) = 0 → f_X10_isHeir fu 842 a code u = some (1, u) := by
  have h7 := hw.1
  rcases witB fu a (cH C) rfl (by omega) with ⟨e1, e2⟩ | ⟨j, hj, rfl, e1, e2⟩
  · left
    refine ⟨?_, fun u code h0 h1 h2 => ?_⟩
    · rw [E_X9_needHeir, hr, hc, e1]; rfl
    · rw [E_X10_isHeir, h1, e2, bnd_some, may_M fu h0 h2, bnd_some, b01_0, ck_tr]
  · right
    refine ⟨j, hj, rfl, ?_, fun u code h1 h2 => ?_⟩
    · rw [E_X9_needHeir, hr, hc, e1]; rfl
    · rw [E_X10_isHeir, h1, e2, bnd_some, may_1 fu _ _ h2, bnd_some, b01_1, ck_tr]
/-! what a call owes -/
def okO (K : Nat → Option Int32) (o : Int32 ⊕ Nat) (r t : Int32) : Prop := match o with
  | .inl v => t = 0 ∧ v = r
  | .inr e => K e = some t
def KI : Nat → Option Int32 := fun e => if e = 0 then some 1 else none
def KN : Nat → Option Int32 := fun e => if e = 0 then none else some 1
def KB : Nat → Option Int32 := fun e => if e = 0 then some 2 else some 1
def SIM (K : Nat → Option Int32) (x : MEM → Option ((Int32 ⊕ Nat) × MEM)) (m : MEM → Option (Int32 × MEM)) (w : MEM) : Prop := ∃ o w1 r w2, x w = some (o, w1) ∧ m w1 = some (r, w2) ∧ INV w2 ∧ okO K o r (rS w2 (11000, 842))
def SIMn (x : MEM → Option (Int32 × MEM)) (m : MEM → Option (Int32 × MEM)) (w : MEM) : Prop := ∃ v w1 w2, x w = some (v, w1) ∧ m w1 = some (v, w2) ∧ INV w2
theorem SIM_W {K : Nat → Option Int32} {x : MEM → Option ((Int32 ⊕ Nat) × MEM)} {m : MEM → Option (Int32 × MEM)} {w : MEM} (hI : INV w) (code : Int32) (hx : x w = some (.inr 0, bW w)) (hm : m (bW w) = some (0, mR (m0 (bW w)) code 1)) (hK : K 0 = some code) : SIM K x m w :=
  ⟨_, _, _, _, hx, hm, INV_W hI code, by rw [rS_mR]; exact hK⟩
theorem SIM_M {K : Nat → Option Int32} {x : MEM → Option ((Int32 ⊕ Nat) × MEM)} {m : MEM → Option (Int32 × MEM)} {w : MEM} (hI : INV w) (code : Int32) (hx : x w = some (.inr 1, bM w)) (hm : m (bM w) = some (0, mR (m0 (bM w)) code 0)) (hK : K 1 = some code) : SIM K x m w :=
  ⟨_, _, _, _, hx, hm, INV_M hI code, by rw [rS_mR]; exact hK⟩
theorem SIM_ok {K : Nat → Option Int32} {x : MEM → Option ((Int32 ⊕ Nat) × MEM)} {m : MEM → Option (Int32 × MEM)} {w w1 w2 : MEM} {v : Int32} (hI : INV w) (hx : x w = some (.inl v, w1)) (f1 : Fr scr w w1) (hm : m w1 = some (v, w2)) (f2 : Fr scr w1 w2) (h0 : rS w2 (11000, 842) = 0) : SIM K x m w :=
  ⟨_, _, _, _, hx, hm, hI.fr (f1.tr f2), h0, rfl⟩
theorem Fr.m0 {w w1 : MEM} (g : Fr scr w w1) : Fr scr w (m0 w1) := g.tr (m0_fr w1)
theorem thr_fr {P : LA → Bool} {w w1 : MEM} (g : Fr P w w1) (hp : P (11000, 842) = false) (h : rS w (11000, 842) = 0) : rS w1 (11000, 842) = 0 := (g.2.1 _ hp).trans h
