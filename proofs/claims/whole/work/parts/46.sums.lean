/-! numbers: lots -/
def bin (n m : Nat) : Nat := lp m 0 (fun i a => a * (n - i) / (i + 1)) 1
theorem bin_s (n m : Nat) : bin n (m + 1) = bin n m * (n - m) / (m + 1) := by
  unfold bin
  rw [lp_snoc, Nat.zero_add]
theorem bin_b : ∀ n < 21, ∀ k < 21, bin n k ≤ 184756 ∧ (n < k → bin n k = 0) := by decide +kernel
def wyn (n m k : Nat) : Nat := lp k 1 (fun i a => a * (n - m + i) / i) 1
theorem wyn_s (n m k : Nat) : wyn n m (k + 1) = wyn n m k * (n - m + (1 + k)) / (1 + k) := by
  unfold wyn
  rw [lp_snoc]
theorem wyn_b : ∀ n < 21, ∀ m < n + 1, wyn n m m = bin n m ∧ ∀ k < m + 1, wyn n m k ≤ 184756 := by decide +kernel
theorem choices_ok {n m : Nat} (hn : n ≤ 20) (hm : m ≤ 20) (w : MEM) : f_X9_choices 3000 (nI n) (nI m) w = some (nI (bin n m), w) := by
  rw [E_X9_choices]
  obtain ⟨a, n1, e1, e2⟩ := for_rel (F := fun q i (a : Nat) => f_X9_choices_4 3000 q (nI n) (nI m) (nI a) i w) (N := m) (fun k a => a = bin n k)
    (fun q k a hk p => by
      subst p
      refine ⟨bin n (k + 1), ?_, rfl⟩
      show f_X9_choices_4 3000 (q + 1) (nI n) (nI m) (nI (bin n k)) (nI k) w = f_X9_choices_4 3000 q (nI n) (nI m) (nI (bin n (k + 1))) (nI (k + 1)) w
      obtain ⟨b1, b2⟩ := bin_b n (by omega) k (by omega)
      rw [E_X9_choices_4, if_pos (by rw [nlt _ _ (by omega) (by omega)]; exact hk), naddL, if_neg (nI_ne0 (by omega) (by omega)), lt_eq, bin_s]
      by_cases c : k ≤ n
      · have hl : bin n k * (n - k) ≤ 184756 * 20 := Nat.mul_le_mul b1 (by omega)
        rw [nI_sub _ _ c, nI_mul, pk_div (by omega) (by omega) (by omega)]
      · rw [b2 (by omega), show nI 0 = (0 : Int32) from rfl, Int32.zero_mul, Nat.zero_mul, Nat.zero_div, show (0 : Int32) / nI (k + 1) = nI (0 / (k + 1)) from pk_div (a := 0) (by omega) (by omega) (by omega), Nat.zero_div])
    m 3000 0 1 (by omega) (by omega) rfl
  have e1 : f_X9_choices_4 3000 3000 (nI n) (nI m) 1 0 w = f_X9_choices_4 3000 (n1 + 1) (nI n) (nI m) (nI a) (nI m) w := e1
  rw [e1, E_X9_choices_4, if_neg (by rw [nlt _ _ (by omega) (by omega)]; omega), e2]
theorem lN_ne0 {k : Nat} (h0 : 0 < k) (hk : k < 2 ^ 31) : ¬ lN k = 0 := by
  intro e
  have : k = 0 := (lN_eq (a := k) (b := 0) hk (by omega)).mp e
  omega
theorem ways_ok {n m : Nat} (hn : n ≤ 20) (hm : m ≤ 20) (w : MEM) : f_X10_ways 3000 (nI n) (nI m) w = some (lN (bin n m), w) := by
  rw [E_X10_ways]
  by_cases c : n < m
  · rw [if_pos (by rw [nlt _ _ (by omega) (by omega)]; exact c), (bin_b n (by omega) m (by omega)).2 c]
    rfl
  · rw [if_neg (by rw [nlt _ _ (by omega) (by omega)]; exact c)]
    obtain ⟨b1, b2⟩ := wyn_b n (by omega) m (by omega)
    obtain ⟨a, n1, e1, e2⟩ := for_rel (F := fun q i (a : Nat) => f_X10_ways_12 3000 q (nI n) (nI m) (lN a) i w) (N := m + 1) (fun k a => 1 ≤ k ∧ a = wyn n m (k - 1))
      (fun q k a hk p => by
        obtain ⟨p1, p2⟩ := p
        obtain ⟨k, rfl⟩ : ∃ k', k = k' + 1 := ⟨k - 1, by omega⟩
        have p2 : a = wyn n m k := p2
        subst p2
        refine ⟨wyn n m (k + 1), ?_, by omega, rfl⟩
        show f_X10_ways_12 3000 (q + 1) (nI n) (nI m) (lN (wyn n m k)) (nI (k + 1)) w = f_X10_ways_12 3000 q (nI n) (nI m) (lN (wyn n m (k + 1))) (nI (k + 1 + 1)) w
        have b3 := b2 k (by omega)
        have hl : wyn n m k * (n - m + (1 + k)) ≤ 184756 * 40 := Nat.mul_le_mul b3 (by omega)
        rw [E_X10_ways_12, if_neg (by rw [nlt _ _ (by omega) (by omega)]; omega), nI_l (by omega), if_neg (lN_ne0 (by omega) (by omega)), lt_eq, nI_sub _ _ (by omega), nI_add, nI_l (by omega), lN_mul, wyn_s, show k + 1 = 1 + k by omega, pk_lDiv (by omega) (by omega) (by omega), naddL])
      m 3000 1 1 (by omega) (by omega) ⟨by omega, rfl⟩
    have e1 : f_X10_ways_12 3000 3000 (nI n) (nI m) 1 1 w = f_X10_ways_12 3000 (n1 + 1) (nI n) (nI m) (lN a) (nI (m + 1)) w := e1
    have e2 : a = wyn n m m := e2.2
    rw [e1, E_X10_ways_12, if_pos (by rw [nlt _ _ (by omega) (by omega)]; omega), e2, b1]
def glN : Nat → Nat → Nat → Nat
  | 0, h, _ => h
  | f + 1, h, l => if l = 0 then h else glN f l (h % l)
def tN : Nat → Nat → Nat → Bool
  | 0, _, l => l == 0
  | f + 1, h, l => if l = 0 then true else tN f l (h % l)
def lotOk (a b : Nat) : Bool := tN 60 a b && (tN 60 b a && (glN 60 a b == glN 60 b a && (Nat.blt 0 (glN 60 a b) && (Nat.ble a b && Nat.blt 0 b))))
theorem lot_ok : ∀ n < 21, ∀ k < n + 1, ∀ m < n + 1, lotOk (bin n m - bin (n - k) m) (bin n m) = true := by decide +kernel
theorem sub_le : ∀ n < 21, ∀ k < n + 1, ∀ m < n + 1, bin (n - k) m ≤ bin n m := by decide +kernel
theorem div_C (w : MEM) : ∀ f n h l t, tN f h l = true → f < n → t + f ≤ 100 → h < 2 ^ 31 → l < 2 ^ 31 → f_X9_commonDivisor_15 3000 n (nI h) (nI l) (nI t) w = some (nI (glN f h l), w) := by
  intro f
  induction f with
  | zero =>
    intro n h l t ht hn h1 h2 h3
    obtain ⟨n, rfl⟩ : ∃ n', n = n' + 1 := ⟨n - 1, by omega⟩
    have hl : l = 0 := by simpa [tN] using ht
    subst hl
    rw [E_X9_commonDivisor_15]
    split
    · rw [if_neg (by decide)]; rfl
    · rfl
  | succ f ih =>
    intro n h l t ht hn h1 h2 h3
    obtain ⟨n, rfl⟩ : ∃ n', n = n' + 1 := ⟨n - 1, by omega⟩
    rw [E_X9_commonDivisor_15, if_pos (by rw [nltL _ _ (by omega) (by decide)]; omega)]
    unfold tN at ht
    unfold glN
    by_cases c : l = 0
    · subst c
      rw [if_neg (by decide), if_pos rfl]
    · rw [if_neg c] at ht
      rw [if_pos (by rw [nLlt _ _ (by omega) (by decide)]; omega), if_neg (nI_ne0 (by omega) (by omega)), lt_eq, nI_mod (by omega) (by omega) (by omega), naddL, if_neg c]
      have := Nat.mod_lt h (show 0 < l by omega)
      exact ih n l (h % l) (t + 1) ht (by omega) (by omega) (by omega) (by omega)
theorem least_M (a b : Nat) (part : Int32) (w : MEM) : ∀ f n h l, tN f h l = true → f < n → h < 2 ^ 31 → l < 2 ^ 31 → 0 < glN f h l → glN f h l < 2 ^ 31 → a < 2 ^ 31 → b < 2 ^ 31 → f_X10_least_6 3000 n (lN a) (lN b) part (lN h) (lN l) w = some (if part = 0 then lN (a / glN f h l) else lN (b / glN f h l), w) := by
  have fin : ∀ n h, 0 < h → h < 2 ^ 31 → a < 2 ^ 31 → b < 2 ^ 31 → f_X10_least_6 3000 (n + 1) (lN a) (lN b) part (lN h) (lN 0) w = some (if part = 0 then lN (a / h) else lN (b / h), w) := by
    intro n h h0 h1 ha hb
    rw [E_X10_least_6, if_pos (show lg_cmp (lN 0) (0 : Int64) = 0 from (lg_cmp_eq _ _).mpr rfl), pk_lDiv (by omega) h0 (by omega), pk_lDiv (by omega) h0 (by omega)]
    simp only [lN_ne0 h0 h1, if_false]
    split <;> rfl
  intro f
  induction f with
  | zero =>
    intro n h l ht hn h2 h3 h4 h5 ha hb
    obtain ⟨n, rfl⟩ : ∃ n', n = n' + 1 := ⟨n - 1, by omega⟩
    have hl : l = 0 := by simpa [tN] using ht
    subst hl
    exact fin n h h4 h5 ha hb
  | succ f ih =>
    intro n h l ht hn h2 h3 h4 h5 ha hb
    obtain ⟨n, rfl⟩ : ∃ n', n = n' + 1 := ⟨n - 1, by omega⟩
    unfold tN at ht
    unfold glN at h4 h5 ⊢
    by_cases c : l = 0
    · subst c
      rw [if_pos rfl] at h4 h5 ⊢
      exact fin n h h4 h5 ha hb
    · rw [if_neg c] at ht h4 h5 ⊢
      have hz : ¬ lg_cmp (lN l) (0 : Int64) = 0 := fun e => lN_ne0 (by omega) (by omega) ((lg_cmp_eq _ _).mp e)
      rw [E_X10_least_6, if_neg hz, if_neg (lN_ne0 (by omega) (by omega)), lt_eq, pk_lRem (by omega) (by omega) (by omega)]
      have := Nat.mod_lt h (show 0 < l by omega)
      exact ih n l (h % l) ht (by omega) (by omega) (by omega) h4 h5 ha hb
theorem S_lots (a a2 a3 a4 : Int32) {w : MEM} (hI : INV w) : SIM KI (f_X9_lots 3000 0 a a2 a3 a4) (f_X10_lots 3000 842 a a2 a3 a4) w := by
  rcases wit 3000 a (lo := 1) (hi := 20) 1 20 rfl rfl (by omega) (by omega) with ⟨e1, e2⟩ | ⟨n, n1, n2, rfl, e1, e2⟩
  · refine SIM_W hI 1 ?_ ?_ rfl
    · rw [E_X9_lots, e1]; rfl
    · rw [E_X10_lots, lt_eq, m0_eq, e2, bnd_some, if_pos rfl, may_W 3000 (by decide) (rS_m0 _), bnd_some, if_pos rfl]
  rcases wit 3000 a2 (lo := 0) (hi := nI n) 0 n rfl rfl (by omega) (by omega) with ⟨e3, e4⟩ | ⟨k, k1, k2, rfl, e3, e4⟩
  · refine SIM_W hI 1 ?_ ?_ rfl
    · rw [E_X9_lots, e1, bndT_inl, e3]; rfl
    · rw [E_X10_lots, lt_eq, m0_eq, e2, bnd_some, if_neg (by decide), e4, bnd_some, if_pos rfl, may_W 3000 (by decide) (rS_m0 _), bnd_some, if_pos rfl]
  rcases wit 3000 a3 (lo := 0) (hi := nI n) 0 n rfl rfl (by omega) (by omega) with ⟨e5, e6⟩ | ⟨m, m1, m2, rfl, e5, e6⟩
  · refine SIM_W hI 1 ?_ ?_ rfl
    · rw [E_X9_lots, e1, bndT_inl, e3, bndT_inl, e5]; rfl
    · rw [E_X10_lots, lt_eq, m0_eq, e2, bnd_some, if_neg (by decide), e4, bnd_some, if_neg (by decide), e6, bnd_some, if_pos rfl, may_W 3000 (by decide) (rS_m0 _), bnd_some, if_pos rfl]
  rcases wit 3000 a4 (lo := 0) (hi := 1) 0 1 rfl rfl (by omega) (by omega) with ⟨e7, e8⟩ | ⟨j, j1, j2, rfl, e7, e8⟩
  · refine SIM_W hI 1 ?_ ?_ rfl
    · rw [E_X9_lots, e1, bndT_inl, e3, bndT_inl, e5, bndT_inl, e7]; rfl
    · rw [E_X10_lots, lt_eq, m0_eq, e2, bnd_some, if_neg (by decide), e4, bnd_some, if_neg (by decide), e6, bnd_some, if_neg (by decide), e8, bnd_some, if_pos rfl, may_W 3000 (by decide) (rS_m0 _), bnd_some, if_pos rfl]
  have b1 := (bin_b n (by omega) m (by omega)).1
  have hs := sub_le n (by omega) k (by omega) m (by omega)
  have hok := lot_ok n (by omega) k (by omega) m (by omega)
  generalize hA : bin n m - bin (n - k) m = A at hok
  generalize hB : bin n m = B at hA hok b1 hs
  unfold lotOk at hok
  obtain ⟨q1, hok⟩ := and_t hok
  obtain ⟨q2, hok⟩ := and_t hok
  obtain ⟨q3, hok⟩ := and_t hok
  obtain ⟨q4, hok⟩ := and_t hok
  obtain ⟨q5, q6⟩ := and_t hok
  have q3 : glN 60 A B = glN 60 B A := by simpa using q3
  have q4 : 0 < glN 60 A B := by simpa [Nat.blt_eq] using q4
  have q5 : A ≤ B := Nat.le_of_ble_eq_true q5
  have glb : ∀ f h l, h ≤ 184756 → l ≤ 184756 → glN f h l ≤ 184756 := by
    intro f
    induction f with
    | zero => intro h l h1 _; exact h1
    | succ f ih =>
      intro h l h1 h2
      unfold glN
      split
      · exact h1
      · have := Nat.mod_le h l
        exact ih l (h % l) h2 (by omega)
  have g9 := glb 60 A B (by omega) (by omega)
  refine SIM_q hI (m0_fr w) (rS_m0 _) ⟨if j = 0 then nI (A / glN 60 A B) else nI (B / glN 60 A B), ?_, ?_⟩
  · have hmax : f_J9_max_7cf53 3000 (nI A) (nI B) w = some (nI B, w) := by
      rw [E_J9_max_7cf53]
      by_cases c : A < B
      · rw [if_pos (by rw [nlt _ _ (by omega) (by omega)]; exact c)]
      · rw [if_neg (by rw [nlt _ _ (by omega) (by omega)]; exact c), show A = B by omega]
    have hmin : f_J9_min_7cf53 3000 (nI A) (nI B) w = some (nI A, w) := by
      rw [E_J9_min_7cf53, if_neg (by rw [nlt _ _ (by omega) (by omega)]; omega)]
    have hdv := div_C w 60 3000 B A 0 q2 (by omega) (by omega) (by omega) (by omega)
    have hdv : f_X9_commonDivisor_15 3000 3000 (nI B) (nI A) 0 w = some (nI (glN 60 B A), w) := hdv
    rw [E_X9_lots, e1, bndT_inl, e3, bndT_inl, e5, bndT_inl, e7, bndT_inl, choices_ok (by omega) (by omega), bnd_some, nI_sub _ _ k2, choices_ok (by omega) (by omega), bnd_some, lt_eq, hB, nI_sub _ _ hs, hA, E_X9_commonDivisor, hmax, bnd_some, hmin, bnd_some, hdv, bnd_some, ← q3, if_pos (by rw [nLlt _ _ (by omega) (by decide)]; exact q4), pk_div (by omega) q4 (by omega), pk_div (by omega) q4 (by omega)]
    have hz : ¬ nI (glN 60 A B) = 0 := nI_ne0 q4 (by omega)
    simp only [hz, if_false]
    simp (disch := omega) only [neqL]
    split <;> rfl
  · have hl := least_M A B (nI j) (m0 w) 60 3000 A B q1 (by omega) (by omega) (by omega) q4 (by omega) (by omega) (by omega)
    rw [E_X10_lots, lt_eq, m0_eq, e2, bnd_some, if_neg (by decide), e4, bnd_some, if_neg (by decide), e6, bnd_some, if_neg (by decide), e8, bnd_some, if_neg (by decide), may_1 3000 _ _ (rS_m0 _), bnd_some, if_neg (by decide), ways_ok (by omega) (by omega), bnd_some, nI_sub _ _ k2, ways_ok (by omega) (by omega), bnd_some, hB, lN_sub hs, hA, E_X10_least, hl, bnd_some]
    simp (disch := omega) only [neqL]
    by_cases c : j = 0
    · rw [if_pos c, if_pos c, lN_i]
    · rw [if_neg c, if_neg c, lN_i]
/-! regents -/
def rgS (a b v x : Int32) : Int32 := if a = b then (if a = 0 then 0 else v) else (if a = 0 then x else -1)
theorem rg_C (a b v x : Int32) (w : MEM) : f_X9_regentHas 3000 a b v x w = some (rgS a b v x, w) := by
  rw [E_X9_regentHas]
  unfold rgS
  split
  · split <;> rfl
  · split <;> rfl
theorem rg_M (a b v x : Int32) (w : MEM) : f_X10_hasBy 3000 a b v x w = some (rgS a b v x, w) := by
  rw [E_X10_hasBy]
  unfold rgS
  split
  · split <;> rfl
  · split <;> rfl
def rgT (v x : Int32) (i j : Nat) (s : Int32 × Int32) : Int32 × Int32 := if rgS (nI i) (nI j) v x < rgS (1 - nI i) (nI j) v x then s else if rgS (nI j) (nI i) v x < rgS (1 - nI j) (nI i) v x then s else (s.1 + 1, if s.2 = -1 then 10 * nI i + nI j else s.2)
def rgF (v x : Int32) (q : Nat) (s : Int32 × Int32) : Int32 := if q = 0 then s.1 else if q = 1 then s.2 else if s.2 = -1 then 0 else rgS (s.2 / 10) (s.2 - s.2 / 10 * 10) v x + rgS (s.2 - s.2 / 10 * 10) (s.2 / 10) v x
theorem rg_eq (v x : Int32) (s : Int32 × Int32) : lp 4 0 (fun k s => rgT v x (k / 2) (k % 2) s) s = lp 2 0 (fun i s => lp 2 0 (rgT v x i) s) s := by
  simp only [lp_s, lp_0]
theorem S_regents (a a2 a3 : Int32) {w : MEM} (hI : INV w) : SIM KI (f_X9_regents 3000 0 a a2 a3) (f_X10_regents 3000 842 a a2 a3) w := by
  rcases wit 3000 a (lo := 0) (hi := 99) 0 99 rfl rfl (by omega) (by omega) with ⟨e1, e2⟩ | ⟨v, v1, v2, ev, e1, e2⟩
  · refine SIM_W hI 1 ?_ ?_ rfl
    · rw [E_X9_regents, e1]; rfl
    · rw [E_X10_regents, lt_eq, m0_eq, e2, bnd_some, if_pos rfl, may_W 3000 (by decide) (rS_m0 _), bnd_some, if_pos rfl]
  rcases wit 3000 a2 (lo := 0) (hi := 99) 0 99 rfl rfl (by omega) (by omega) with ⟨e3, e4⟩ | ⟨x, x1, x2, ex, e3, e4⟩
  · refine SIM_W hI 1 ?_ ?_ rfl
    · rw [E_X9_regents, e1, bndT_inl, e3]; rfl
    · rw [E_X10_regents, lt_eq, m0_eq, e2, bnd_some, if_neg (by decide), e4, bnd_some, if_pos rfl, may_W 3000 (by decide) (rS_m0 _), bnd_some, if_pos rfl]
  rcases wit 3000 a3 (lo := 0) (hi := 2) 0 2 rfl rfl (by omega) (by omega) with ⟨e5, e6⟩ | ⟨q, q1, q2, rfl, e5, e6⟩
  · refine SIM_W hI 1 ?_ ?_ rfl
    · rw [E_X9_regents, e1, bndT_inl, e3, bndT_inl, e5]; rfl
    · rw [E_X10_regents, lt_eq, m0_eq, e2, bnd_some, if_neg (by decide), e4, bnd_some, if_neg (by decide), e6, bnd_some, if_pos rfl, may_W 3000 (by decide) (rS_m0 _), bnd_some, if_pos rfl]
  refine SIM_q hI (m0_fr w) (rS_m0 _) ⟨rgF a a2 q (lp 2 0 (fun i s => lp 2 0 (rgT a a2 i) s) (0, -1)), ?_, ?_⟩
  · rw [E_X9_regents, e1, bndT_inl, e3, bndT_inl, e5, bndT_inl]
    exact for_lp0 (F := fun n i (s : Int32 × Int32) => f_X9_regents_32 3000 n a a2 (nI q) s.1 s.2 i w) (N := 2) (fin := fun s => some (.inl (rgF a a2 q s), w)) (step := fun i s => lp 2 0 (rgT a a2 i) s)
      (fun n i s hi => by
        show f_X9_regents_32 3000 (n + 1) a a2 (nI q) s.1 s.2 (nI i) w = _
        rw [E_X9_regents_32, if_neg (by rw [nLlt _ _ (by omega) (by decide)]; omega)]
        exact for_lp0 (F := fun m j (s : Int32 × Int32) => f_X9_regents_41 3000 (fun l1 l2 l3 l4 l5 l6 w => f_X9_regents_32 3000 n l1 l2 l3 l4 l5 l6 w) m a a2 (nI q) s.1 s.2 (nI i) j w) (N := 2) (fin := fun s => f_X9_regents_32 3000 n a a2 (nI q) s.1 s.2 (nI (i + 1)) w) (step := rgT a a2 i)
          (fun m j s hj => by
            show f_X9_regents_41 3000 _ (m + 1) a a2 (nI q) s.1 s.2 (nI i) (nI j) w = _
            rw [E_X9_regents_41, if_neg (by rw [nLlt _ _ (by omega) (by decide)]; omega), E_X9_rests, rg_C, bnd_some, rg_C, bnd_some, rg_C, bnd_some, rg_C, bnd_some, naddL]
            unfold rgT
            by_cases c1 : rgS (nI i) (nI j) a a2 < rgS (1 - nI i) (nI j) a a2
            · rw [if_pos c1, if_pos c1, bnd_some, if_pos rfl]
            · rw [if_neg c1, if_neg c1]
              by_cases c2 : rgS (nI j) (nI i) a a2 < rgS (1 - nI j) (nI i) a a2
              · rw [if_pos c2, if_pos c2, bnd_some, if_pos rfl]
              · rw [if_neg c2, if_neg c2, bnd_some, if_neg (by decide)]
                split <;> rfl)
          (fun m s => by
            show f_X9_regents_41 3000 _ (m + 1) a a2 (nI q) s.1 s.2 (nI i) (nI 2) w = _
            rw [E_X9_regents_41, if_pos (by decide), naddL]) (n := 3000) (by omega) s)
      (fun n s => by
        show f_X9_regents_32 3000 (n + 1) a a2 (nI q) s.1 s.2 (nI 2) w = _
        have ht : ¬ ((10 : Int32) = 0) := by decide
        rw [E_X9_regents_32, if_pos (c := (1 : Int32) < nI 2) (by decide)]
        simp only [if_neg ht, E_X9_bothHave, rg_C, bnd_some]
        unfold rgF
        simp (disch := omega) only [neqL]
        split
        · rfl
        · split
          · rfl
          · split <;> rfl) (n := 3000) (by omega) (0, -1)
  · rw [E_X10_regents, lt_eq, m0_eq, e2, bnd_some, if_neg (by decide), e4, bnd_some, if_neg (by decide), e6, bnd_some, if_neg (by decide), may_1 3000 _ _ (rS_m0 _), bnd_some, if_neg (by decide)]
    have := for_lp0 (F := fun n i (s : Int32 × Int32) => f_X10_regents_59 3000 n a a2 (nI q) s.1 s.2 i (m0 w)) (N := 4) (fin := fun s => some (rgF a a2 q s, m0 w)) (step := fun k s => rgT a a2 (k / 2) (k % 2) s)
      (fun n k s hk => by
        show f_X10_regents_59 3000 (n + 1) a a2 (nI q) s.1 s.2 (nI k) (m0 w) = _
        have d1 : nI k / (2 : Int32) = nI (k / 2) := pk_div (d := 2) (by omega) (by omega) (by omega)
        rw [E_X10_regents_59, if_pos (by rw [nltL _ _ (by omega) (by decide)]; omega), if_neg (by decide), lt_eq, if_neg (by decide), lt_eq, nI_modL (by omega) (by decide) (by decide), d1, rg_M, bnd_some, rg_M, bnd_some, rg_M, bnd_some, rg_M, bnd_some, naddL]
        have em : (k % (OfNat.ofNat 2 : Nat)) = k % 2 := rfl
        rw [em]
        unfold rgT
        by_cases c1 : rgS (nI (k / 2)) (nI (k % 2)) a a2 < rgS (1 - nI (k / 2)) (nI (k % 2)) a a2
        · rw [if_pos c1, if_pos c1]
        · rw [if_neg c1, if_neg c1]
          by_cases c2 : rgS (nI (k % 2)) (nI (k / 2)) a a2 < rgS (1 - nI (k % 2)) (nI (k / 2)) a a2
          · rw [if_pos c2, if_pos c2]
          · rw [if_neg c2, if_neg c2]
            split <;> rfl)
      (fun n s => by
        show f_X10_regents_59 3000 (n + 1) a a2 (nI q) s.1 s.2 (nI 4) (m0 w) = _
        have ht : ¬ ((10 : Int32) = 0) := by decide
        rw [E_X10_regents_59, if_neg (c := nI 4 < 4) (by decide)]
        simp only [if_neg ht, rg_M, bnd_some]
        unfold rgF
        simp (disch := omega) only [neqL]
        split
        · rfl
        · split
          · rfl
          · split <;> rfl) (n := 3000) (by omega) (0, -1)
    rw [rg_eq] at this
    exact this
/-! moss -/
theorem mask_ok (x : Int32) {H : Nat} (hH : H ≤ 7) : (x &&& (nI (2 ^ H - 1) ^^^ (-1 : Int32)) = 0) ↔ ∃ j, j < 2 ^ H ∧ x = nI j := by
  have h128 := p7 hH
  constructor
  · intro e
    have hb : x.toBitVec.toNat < 2 ^ H := by
      rcases Nat.lt_or_ge x.toBitVec.toNat (2 ^ H) with c | c
      · exact c
      · exfalso
        obtain ⟨i, h1, h2⟩ := Nat.exists_ge_and_testBit_of_ge_two_pow c
        have e2 : (x &&& (nI (2 ^ H - 1) ^^^ (-1 : Int32))).toBitVec.getLsbD i = (0 : Int32).toBitVec.getLsbD i := by rw [e]
        have hi : i < 32 := by
          rcases Nat.lt_or_ge i 32 with c2 | c2
          · exact c2
          · rw [Nat.testBit_lt_two_pow (Nat.lt_of_lt_of_le x.toBitVec.isLt (Nat.pow_le_pow_right (by omega) c2))] at h2
            cases h2
        have e3 : (nI (2 ^ H - 1) ^^^ (-1 : Int32)).toBitVec.getLsbD i = true := by
          have : ∀ H ≤ 7, ∀ i < 32, H ≤ i → (nI (2 ^ H - 1) ^^^ (-1 : Int32)).toBitVec.getLsbD i = true := by decide +kernel
          exact this H hH i hi h1
        have e4 : ∀ i < 32, (0 : Int32).toBitVec.getLsbD i = false := by decide
        rw [Int32.toBitVec_and, BitVec.getLsbD_and, e3, e4 i hi, Bool.and_true] at e2
        have e5 : x.toBitVec.getLsbD i = x.toBitVec.toNat.testBit i := rfl
        rw [e5, h2] at e2
        cases e2
    refine ⟨x.toBitVec.toNat, hb, ?_⟩
    apply Int32.toBitVec_inj.mp
    apply BitVec.eq_of_toNat_eq
    exact (Nat.mod_eq_of_lt (by omega)).symm
  · rintro ⟨j, hj, rfl⟩
    have : ∀ H ≤ 7, ∀ j < 2 ^ H, nI j &&& (nI (2 ^ H - 1) ^^^ (-1 : Int32)) = 0 := by decide +kernel
    exact this H hH j hj
def mbS (H S bd : Nat) (br : Nat → Nat) : Nat := lp H 0 (fun h a => a + (if S.testBit h = true then (if br h < bd then br h else bd) else 0)) 0
theorem mbS_le (H S bd : Nat) (br : Nat → Nat) : mbS H S bd br ≤ H * bd := by
  unfold mbS
  induction H with
  | zero => exact Nat.zero_le _
  | succ H ih =>
    rw [lp_snoc, Nat.zero_add, Nat.succ_mul]
    split
    · split <;> omega
    · omega
theorem mossBy_C {w : MEM} {C : ACt} {c l S bd : Nat} {br : Nat → Nat} (hw : WFc C) (hc : CLS w c l C) (hS : S < 128) (hbd : bd ≤ 9) (hbr : ∀ j < cH C, 1 ≤ br j ∧ br j ≤ 9 ∧ cBr C j = nI (br j)) : f_X1_mossBy 3000 c (nI S) (nI bd) w = some (nI (mbS (cH C) S bd br), w) := by
  have h7 := hw.1
  rw [E_X1_mossBy]
  exact for_lp0 (F := fun n x (a : Nat) => f_X1_mossBy_5 3000 n c (nI S) (nI bd) (nI a) x w) (N := cH C) (fin := fun a => some (nI a, w)) (step := fun h a => a + (if S.testBit h = true then (if br h < bd then br h else bd) else 0))
    (fun n k a hk => by
      obtain ⟨b1, b2, b3⟩ := hbr k hk
      show f_X1_mossBy_5 3000 (n + 1) c (nI S) (nI bd) (nI a) (nI k) w = _
      have hmin : f_J9_min_7cf53 3000 (nI (br k)) (nI bd) w = some (nI (if br k < bd then br k else bd), w) := by
        rw [E_J9_min_7cf53]
        by_cases c1 : br k < bd
        · rw [if_neg (by rw [nlt _ _ (by omega) (by omega)]; omega), if_pos c1]
        · rw [if_neg c1]
          by_cases c2 : bd < br k
          · rw [if_pos (by rw [nlt _ _ (by omega) (by omega)]; omega)]
          · rw [if_neg (by rw [nlt _ _ (by omega) (by omega)]; omega), show br k = bd by omega]
      rw [E_X1_mossBy_5, hc.1]
      simp (disch := omega) only [nlt, hk, if_true, bit_zero, bIn, rAn, decide_true, ck_tr, (show k < 7 by omega), hc.2.2.2.2.2.2.2.1 k hk, b3, hmin, bnd_some, lt_eq, nI_add, naddL]
      cases c1 : S.testBit k
      · rfl
      · rfl)
    (fun n a => by
      show f_X1_mossBy_5 3000 (n + 1) c (nI S) (nI bd) (nI a) (nI (cH C)) w = _
      rw [E_X1_mossBy_5, hc.1, if_neg (by rw [nlt _ _ (by omega) (by omega)]; omega)]) (by omega) 0
theorem mossBy_M {w : MEM} {C : ACt} {S bd : Nat} {br : Nat → Nat} (hw : WFc C) (hm : MOD w C) (hS : S < 128) (hbd : bd ≤ 9) (hbr : ∀ j < cH C, 1 ≤ br j ∧ br j ≤ 9 ∧ cBr C j = nI (br j)) : f_X10_mossBy 3000 842 (nI S) (nI bd) w = some (nI (mbS (cH C) S bd br), w) := by
  have h7 := hw.1
  rw [E_X10_mossBy]
  exact for_lp0 (F := fun n x (a : Nat) => f_X10_mossBy_5 3000 n 842 (nI S) (nI bd) (nI a) x w) (N := cH C) (fin := fun a => some (nI a, w)) (step := fun h a => a + (if S.testBit h = true then (if br h < bd then br h else bd) else 0))
    (fun n k a hk => by
      obtain ⟨b1, b2, b3⟩ := hbr k hk
      show f_X10_mossBy_5 3000 (n + 1) 842 (nI S) (nI bd) (nI a) (nI k) w = _
      have hbit : (nI S >>> (nI k &&& 31)) &&& 1 = (if S.testBit k = true then (1 : Int32) else 0) := by
        have z1 := bit_one (m := S) (j := k) (by omega) (by omega)
        have z0 := bit_one0 (m := S) (j := k) (by omega) (by omega)
        cases c : S.testBit k
        · rw [c] at z0
          rw [if_neg (by decide)]
          exact z0.mpr rfl
        · rw [c] at z1
          rw [if_pos rfl]
          exact z1.mpr rfl
      rw [E_X10_mossBy_5, hm.1, hbit]
      simp (disch := omega) only [nlt, hk, if_true, bIn, rAn, decide_true, ck_tr, (show k < 7 by omega), hm.2.1 k hk, b3, lt_eq, naddL]
      by_cases c1 : br k < bd
      · rw [if_pos c1, if_pos c1]
        cases c2 : S.testBit k
        · rw [if_neg (by decide), Int32.zero_mul, Int32.add_zero]
          rfl
        · rw [if_pos rfl, if_pos rfl, Int32.one_mul, nI_add]
      · rw [if_neg c1, if_neg c1]
        cases c2 : S.testBit k
        · rw [if_neg (by decide), Int32.zero_mul, Int32.add_zero]
          rfl
        · rw [if_pos rfl, if_pos rfl, Int32.one_mul, nI_add])
    (fun n a => by
      show f_X10_mossBy_5 3000 (n + 1) 842 (nI S) (nI bd) (nI a) (nI (cH C)) w = _
      rw [E_X10_mossBy_5, hm.1, if_neg (by rw [nlt _ _ (by omega) (by omega)]; omega)]) (by omega) 0
def bdS (H S n : Nat) (br : Nat → Nat) : Nat → Nat
  | 0 => 0
  | k + 1 => if n < mbS H S (k + 1) br then bdS H S n br k else k + 1
theorem bdS_le (H S n : Nat) (br : Nat → Nat) : ∀ k, bdS H S n br k ≤ k
  | 0 => Nat.le_refl _
  | k + 1 => by
    unfold bdS
    split
    · exact Nat.le_succ_of_le (bdS_le H S n br k)
    · exact Nat.le_refl _
theorem S_moss (a a2 a3 : Int32) {w : MEM} (hI : INV w) : SIM KB (f_X9_moss 3000 0 a a2 a3) (f_X10_moss 3000 842 a a2 a3) w := by
  have h := hI
  obtain ⟨C, c, l, b, hr, hc, hk⟩ := h
  have hw := hc.1
  have h7 := hw.1
  have h128 := p7 h7
  have h1p := Nat.two_pow_pos (cH C)
  have hM1 := hc.2.2.1.1
  rcases witH (fu := 3000) a hw hr.1 hc.2.1.1 with ⟨e1, e2⟩ | ⟨h, hh, rfl, e1, e2⟩
  · refine SIM_M hI 1 ?_ ?_ rfl
    · rw [E_X9_moss, e1]; rfl
    · rw [E_X10_moss, lt_eq, m0_eq, e2 _ _ (by decide) ((bM_h w).trans hM1) (rS_m0 _), bnd_some, if_pos rfl]
  have hmk := mask_ok a2 h7
  by_cases cm : a2 &&& (nI (2 ^ cH C - 1) ^^^ (-1 : Int32)) = 0
  rotate_left
  · refine SIM_W hI 2 ?_ ?_ rfl
    · rw [E_X9_moss, e1, bndT_inl, hr.1, all_C hw hc.2.1, bnd_some, if_neg cm, E_X9_need, if_pos rfl]; rfl
    · rw [E_X10_moss, lt_eq, m0_eq, e2 _ _ ((bW_h w).trans hM1) (rS_m0 _), bnd_some, if_neg (by decide)]
      by_cases c0 : a2 < 0
      · rw [if_pos c0, may_W 3000 (by decide) (rS_m0 _), bnd_some, if_pos rfl]
      · obtain ⟨j, hj, rfl⟩ := nI_of c0
        rw [if_neg c0, (bW_h w).trans hM1, shl_n _ h7, if_neg (by rw [nlt _ _ (by omega) (by omega)]; intro c; exact cm (hmk.mpr ⟨j, c, rfl⟩)), may_W 3000 (by decide) (rS_m0 _), bnd_some, if_pos rfl]
  obtain ⟨S, hS, rfl⟩ := hmk.mp cm
  have mpre : ∀ u, rS u (11022, 842) = nI (cH C) → ((¬ nI S < 0) ∧ nI S < ((1 : Int32) <<< ((rS u (11022, 842)) &&& 31))) := by
    intro u hu
    refine ⟨nI_pos (by omega), ?_⟩
    rw [hu, shl_n _ h7, nlt _ _ (by omega) (by omega)]
    exact hS
  rcases wit 3000 a3 (lo := 0) (hi := 99) 0 99 rfl rfl (by omega) (by omega) with ⟨e3, e4⟩ | ⟨n, n1, n2, rfl, e3, e4⟩
  · refine SIM_W hI 2 ?_ ?_ rfl
    · rw [E_X9_moss, e1, bndT_inl, hr.1, all_C hw hc.2.1, bnd_some, if_pos cm, E_X9_need, if_neg (by decide), bndT_inl, e3]; rfl
    · obtain ⟨p1, p2⟩ := mpre (m0 (bW w)) ((bW_h w).trans hM1)
      rw [E_X10_moss, lt_eq, m0_eq, e2 _ _ ((bW_h w).trans hM1) (rS_m0 _), bnd_some, if_neg (by decide), if_neg p1, if_pos p2, e4, bnd_some, if_pos rfl, may_W 3000 (by decide) (rS_m0 _), bnd_some, if_pos rfl]
  have hm := (hc.fr (m0_fr w).K).2.2.1
  obtain ⟨br, hbr⟩ : ∃ br : Nat → Nat, ∀ j < cH C, 1 ≤ br j ∧ br j ≤ 9 ∧ cBr C j = nI (br j) := by
    refine ⟨fun j => (cBr C j).toNatClampNeg, fun j hj => ?_⟩
    obtain ⟨x, x1, x2, x3⟩ := hw.2.2.2.2.2.2.1 j hj
    show 1 ≤ (cBr C j).toNatClampNeg ∧ (cBr C j).toNatClampNeg ≤ 9 ∧ cBr C j = nI (cBr C j).toNatClampNeg
    rw [x3, nI_clamp (by omega)]
    exact ⟨x1, x2, rfl⟩
  obtain ⟨b1, b2, b3⟩ := hbr h hh
  have mb9 : ∀ k, k ≤ 9 → mbS (cH C) S k br ≤ 63 := by
    intro k hk
    have := mbS_le (cH C) S k br
    have : cH C * k ≤ 7 * 9 := Nat.mul_le_mul h7 hk
    omega
  have hmin : ∀ k, k ≤ 9 → f_J9_min_7cf53 3000 (nI (br h)) (nI k) w = some (nI (if br h < k then br h else k), w) := by
    intro k hk
    rw [E_J9_min_7cf53]
    by_cases c1 : br h < k
    · rw [if_neg (by rw [nlt _ _ (by omega) (by omega)]; omega), if_pos c1]
    · rw [if_neg c1]
      by_cases c2 : k < br h
      · rw [if_pos (by rw [nlt _ _ (by omega) (by omega)]; omega)]
      · rw [if_neg (by rw [nlt _ _ (by omega) (by omega)]; omega), show br h = k by omega]
  have kC : ∀ k q, k ≤ 9 → k < q → f_X9_moss_54 3000 q 0 (nI h) (nI S) (nI n) (nI k) (nI k) w = some (.inl (nI (if br h < bdS (cH C) S n br k then br h else bdS (cH C) S n br k)), w) := by
    intro k
    induction k with
    | zero =>
      intro q hk hq
      obtain ⟨q, rfl⟩ : ∃ n', q = n' + 1 := ⟨q - 1, by omega⟩
      rw [E_X9_moss_54, if_neg (by decide), hr.1]
      simp (disch := omega) only [bIn, rAn, decide_true, ck_tr, (show h < 7 by omega), hc.2.1.2.2.2.2.2.2.2.1 h hh, b3, hmin 0 (by omega), bnd_some]
      rfl
    | succ k ih =>
      intro q hk hq
      obtain ⟨q, rfl⟩ : ∃ n', q = n' + 1 := ⟨q - 1, by omega⟩
      have := mb9 (k + 1) hk
      rw [E_X9_moss_54, if_pos (by rw [nLlt _ _ (by omega) (by decide)]; omega), hr.1, mossBy_C hw hc.2.1 (by omega) hk hbr, bnd_some]
      unfold bdS
      by_cases c1 : n < mbS (cH C) S (k + 1) br
      · rw [if_pos (by rw [nlt _ _ (by omega) (by omega)]; exact c1), if_pos c1, lt_eq, show nI (k + 1) - (1 : Int32) = nI k from nI_sub (k + 1) 1 (by omega), naddm1 _ (by omega), Nat.add_sub_cancel]
        exact ih q (by omega) (by omega)
      · rw [if_neg (by rw [nlt _ _ (by omega) (by omega)]; exact c1), if_neg c1, hr.1]
        simp (disch := omega) only [bIn, rAn, decide_true, ck_tr, (show h < 7 by omega), hc.2.1.2.2.2.2.2.2.2.1 h hh, b3, hmin (k + 1) hk, bnd_some]
  have kM : ∀ k q, k ≤ 9 → k < q → f_X10_moss_58 3000 q 842 (nI h) (nI S) (nI n) (nI k) (m0 w) = some (if S.testBit h = true then nI (if br h < bdS (cH C) S n br k then br h else bdS (cH C) S n br k) else 0, m0 w) := by
    have fin : ∀ k q, k ≤ 9 → ¬ n < mbS (cH C) S k br → f_X10_moss_58 3000 (q + 1) 842 (nI h) (nI S) (nI n) (nI k) (m0 w) = some (if S.testBit h = true then nI (if br h < k then br h else k) else 0, m0 w) := by
      intro k q hk hn
      have := mb9 k hk
      rw [E_X10_moss_58, mossBy_M hw hm (by omega) hk hbr, bnd_some, if_neg (by rw [nlt _ _ (by omega) (by omega)]; exact hn)]
      simp (disch := omega) only [bit_one0, bIn, rAn, decide_true, ck_tr, (show h < 7 by omega), hm.2.1 h hh, b3, nlt]
      cases c2 : S.testBit h
      · rfl
      · rw [if_neg (by decide), if_pos rfl]
        split <;> rfl
    intro k
    induction k with
    | zero =>
      intro q hk hq
      obtain ⟨q, rfl⟩ : ∃ n', q = n' + 1 := ⟨q - 1, by omega⟩
      refine fin 0 q (by omega) ?_
      have := mbS_le (cH C) S 0 br
      omega
    | succ k ih =>
      intro q hk hq
      obtain ⟨q, rfl⟩ : ∃ n', q = n' + 1 := ⟨q - 1, by omega⟩
      have := mb9 (k + 1) hk
      by_cases c1 : n < mbS (cH C) S (k + 1) br
      · unfold bdS
        rw [if_pos c1, E_X10_moss_58, mossBy_M hw hm (by omega) hk hbr, bnd_some, if_pos (by rw [nlt _ _ (by omega) (by omega)]; exact c1), naddm1 _ (by omega), Nat.add_sub_cancel]
        exact ih q (by omega) (by omega)
      · have e := fin (k + 1) q hk c1
        unfold bdS
        rw [if_neg c1]
        exact e
  have kC := kC 9 3000 (by omega) (by omega)
  have kM := kM 9 3000 (by omega) (by omega)
  generalize bdS (cH C) S n br 9 = B at kC kM
  refine SIM_q hI (m0_fr w) (rS_m0 _) ⟨if S.testBit h = true then nI (if br h < B then br h else B) else 0, ?_, ?_⟩
  · have kC : f_X9_moss_54 3000 3000 0 (nI h) (nI S) (nI n) 9 9 w = _ := kC
    rw [E_X9_moss, e1, bndT_inl, hr.1, all_C hw hc.2.1, bnd_some, if_pos cm, E_X9_need, if_neg (by decide), bndT_inl, e3, bndT_inl, kC]
    simp (disch := omega) only [bit_zero]
    cases c2 : S.testBit h
    · rfl
    · rfl
  · obtain ⟨p1, p2⟩ := mpre (m0 w) ((m0_h w).trans hM1)
    rw [E_X10_moss, lt_eq, m0_eq, e2 _ _ ((m0_h w).trans hM1) (rS_m0 _), bnd_some, if_neg (by decide), if_neg p1, if_pos p2, e4, bnd_some, if_neg (by decide), may_1 3000 _ _ (rS_m0 _), bnd_some, if_neg (by decide)]
    exact kM
/-! backward -/
def bkS : Nat → Nat → Int32 → Int32
  | 0, _, a => a
  | f + 1, x, a => if x = 0 then a else bkS f (x / 10) (a * 10 + nI (x % 10))
theorem S_backward (a : Int32) {w : MEM} (hI : INV w) : SIM KI (f_X9_backward 3000 0 a) (f_X10_backward 3000 842 a) w := by
  rcases wit 3000 a (lo := 0) (hi := 99999999) 0 99999999 rfl rfl (by omega) (by omega) with ⟨e1, e2⟩ | ⟨n, h1, h2, rfl, e1, e2⟩
  · refine SIM_W hI 1 ?_ ?_ rfl
    · rw [E_X9_backward, e1]; rfl
    · rw [E_X10_backward, lt_eq, m0_eq, e2, bnd_some, may_W 3000 (by decide) (rS_m0 _), bnd_some, if_pos rfl]
  have kC : ∀ f q x (y : Int32), f ≤ 8 → f < q → x < 10 ^ f → f_X9_backward_16 3000 q y (nI x) (nI (8 - f)) w = some (.inl (bkS f x y), w) := by
    intro f
    induction f with
    | zero =>
      intro q x y hf hq hx
      obtain ⟨q, rfl⟩ : ∃ n', q = n' + 1 := ⟨q - 1, by omega⟩
      rw [E_X9_backward_16, if_neg (by decide)]
      rfl
    | succ f ih =>
      intro q x y hf hq hx
      obtain ⟨q, rfl⟩ : ∃ n', q = n' + 1 := ⟨q - 1, by omega⟩
      have hp : 10 ^ (f + 1) ≤ 10 ^ 8 := Nat.pow_le_pow_right (by omega) hf
      have hd : nI x / (10 : Int32) = nI (x / 10) := pk_div (d := 10) (by omega) (by omega) (by omega)
      rw [E_X9_backward_16, if_pos (by rw [nltL _ _ (by omega) (by decide)]; omega)]
      unfold bkS
      by_cases c : x = 0
      · rw [if_pos c, c, if_neg (by decide)]
      · rw [if_neg c, if_pos (by rw [nLlt _ _ (by omega) (by decide)]; omega), if_neg (by decide), lt_eq, if_neg (by decide), lt_eq, nI_modL (by omega) (by decide) (by decide), hd, naddL, show 8 - (f + 1) + (OfNat.ofNat 1 : Nat) = 8 - f by show 8 - (f + 1) + 1 = 8 - f; omega]
        refine ih q (x / 10) _ (by omega) (by omega) ?_
        rw [Nat.pow_succ] at hx
        omega
  have kM : ∀ f q x (y : Int32), f ≤ 8 → f < q → x < 10 ^ f → f_X10_backward_28 3000 q y (nI x) (m0 w) = some (bkS f x y, m0 w) := by
    intro f
    induction f with
    | zero =>
      intro q x y hf hq hx
      obtain ⟨q, rfl⟩ : ∃ n', q = n' + 1 := ⟨q - 1, by omega⟩
      have : x = 0 := by omega
      subst this
      rw [E_X10_backward_28, if_neg (by decide)]
      rfl
    | succ f ih =>
      intro q x y hf hq hx
      obtain ⟨q, rfl⟩ : ∃ n', q = n' + 1 := ⟨q - 1, by omega⟩
      have hp : 10 ^ (f + 1) ≤ 10 ^ 8 := Nat.pow_le_pow_right (by omega) hf
      have hd : nI x / (10 : Int32) = nI (x / 10) := pk_div (d := 10) (by omega) (by omega) (by omega)
      rw [E_X10_backward_28]
      unfold bkS
      by_cases c : x = 0
      · rw [if_pos c, c, if_neg (by decide)]
      · rw [if_neg c, if_pos (by rw [nLlt _ _ (by omega) (by decide)]; omega), if_neg (by decide), lt_eq, if_neg (by decide), lt_eq, nI_modL (by omega) (by decide) (by decide), hd, Int32.mul_comm]
        refine ih q (x / 10) _ (by omega) (by omega) ?_
        rw [Nat.pow_succ] at hx
        omega
  refine SIM_q hI (m0_fr w) (rS_m0 _) ⟨bkS 8 n 0, ?_, ?_⟩
  · rw [E_X9_backward, e1, bndT_inl]
    exact kC 8 3000 n 0 (by omega) (by omega) (by omega)
  · rw [E_X10_backward, lt_eq, m0_eq, e2, bnd_some, may_1 3000 _ _ (rS_m0 _), bnd_some, if_neg (by decide)]
    exact kM 8 3000 n 0 (by omega) (by omega) (by omega)
