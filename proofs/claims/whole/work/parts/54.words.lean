/-! the model's numbers; words -/
def mvN (T : Nat → Nat) (q : Nat) : Nat → Nat
  | 0 => 0
  | k + 1 => if 9999 < mvN T q k then 10000 else 10 * mvN T q k + (T (q + k) - 48)
theorem mv_ok (T : Nat → Nat) (q : Nat) : ∀ k, (∀ j < k, T (q + j) ≤ 57) → (dv T q k ≤ 9999 → mvN T q k = dv T q k) ∧ (9999 < dv T q k → 9999 < mvN T q k) ∧ mvN T q k ≤ 99999
  | 0, _ => ⟨fun _ => rfl, fun h => by
    have h : 9999 < 0 := h
    omega, by
    show 0 ≤ 99999
    omega⟩
  | k + 1, H => by
    obtain ⟨i1, i2, i3⟩ := mv_ok T q k (fun j hj => H j (by omega))
    have := H k (by omega)
    rw [dv_s]
    unfold mvN
    by_cases c : 9999 < mvN T q k
    · rw [if_pos c]
      have : 9999 < dv T q k := by
        rcases Nat.lt_or_ge 9999 (dv T q k) with h | h
        · exact h
        · have := i1 h; omega
      exact ⟨fun h => by omega, fun _ => by omega, by omega⟩
    · rw [if_neg c]
      have h0 : dv T q k ≤ 9999 := by
        rcases Nat.lt_or_ge 9999 (dv T q k) with h | h
        · exact absurd (i2 h) c
        · exact h
      have := i1 h0
      exact ⟨fun h => by omega, fun h => by omega, by omega⟩
theorem M_digit {t : Nat} (ht : t < 256) (w : MEM) (dec : Decidable (48 ≤ t ∧ t ≤ 57)) : f_X10_isDigit 3000 (nI t) w = some (if 48 ≤ t ∧ t ≤ 57 then 1 else 0, w) := by
  rw [E_X10_isDigit]
  by_cases c1 : t < 48
  · rw [if_pos (by rw [nltL _ _ (by omega) (by decide)]; exact c1), if_neg (by omega)]
  · rw [if_neg (by rw [nltL _ _ (by omega) (by decide)]; exact c1)]
    by_cases c2 : 57 < t
    · rw [if_pos (by rw [nLlt _ _ (by omega) (by decide)]; exact c2), if_neg (by omega)]
    · rw [if_neg (by rw [nLlt _ _ (by omega) (by decide)]; exact c2), if_pos (by omega)]
theorem M_num {w : MEM} {T : Nat → Nat} {N p q r lo n : Nat} {hi : Int32} (h : TXM w T N p) (s : SK T N p q) (d : RD T N q r) (hlo : lo ≤ 1) (eh : hi = nI n - 1) (hn : n ≤ 1000) : (q < r ∧ lo ≤ dv T q (r - q) ∧ dv T q (r - q) < n ∧ ∃ w1, f_X10_readNumber 3000 842 (nI lo) hi w = some (nI (dv T q (r - q)), w1) ∧ TXM w1 T N r ∧ Fr pTm w w1) ∨ (q < r ∧ ¬ (lo ≤ dv T q (r - q) ∧ dv T q (r - q) < n) ∧ ∃ w1, f_X10_readNumber 3000 842 (nI lo) hi w = some (0, w1) ∧ TFM w1 2 q ∧ Fr pTm w w1) ∨ (q = r ∧ ∃ w1, f_X10_readNumber 3000 842 (nI lo) hi w = some (0, w1) ∧ TFM w1 1 q ∧ Fr pTm w w1) := by
  obtain ⟨w1, k1, k2, k4⟩ := M_here h s
  have hN := h.1
  have hq := s.2.1
  obtain ⟨d1, d2, d3, d4⟩ := d
  rw [E_X10_readNumber, M_fine h.2.2.2.2.1, bnd_some, if_neg (by decide), k1, bnd_some, lt_eq, k2.2.2.2.1]
  have ht : q < N → T q < 256 := fun c => (h.2.2.2.2.2 q c).1
  have hd0 : f_X10_isDigit 3000 (hr T N q) w1 = some (if q < r then 1 else 0, w1) := by
    unfold hr
    by_cases c : q < N
    · rw [if_pos c, M_digit (ht c) w1 inferInstance]
      by_cases c2 : q < r
      · rw [if_pos c2, if_pos (d3 q (Nat.le_refl _) c2)]
      · have : q = r := by omega
        subst this
        rw [if_neg c2, if_neg (d4 c)]
    · rw [if_neg c, if_neg (by omega)]
      rfl
  rw [hd0, bnd_some]
  by_cases c0 : q = r
  · right; right
    obtain ⟨w2, y1, y2, y3⟩ := M_wrong 1 (q := q) (by omega) k2
    refine ⟨c0, w2, ?_, y2, k4.tr y3⟩
    have y1 : f_X10_wrong 3000 842 1 (nI q) w1 = some ((), w2) := y1
    rw [if_neg (c := q < r) (by omega), if_pos rfl, k2.2.2.2.1, y1, bnd_some]
  · have hlt : q < r := by omega
    rw [if_pos hlt, if_neg (by decide)]
    have key : ∀ m k n1 u, q + k + m = r → m < n1 → TXM u T N (q + k) → Fr pTm w u → ∃ u1, f_X10_readNumber_41 3000 n1 842 (nI lo) hi (nI q) (nI (mvN T q k)) u = (if nI (mvN T q (r - q)) < nI lo then (bnd (f_X10_wrong 3000 842 (2 : Int32) (nI q) u1) fun (u8 : Unit) (w7 : MEM) => some ((0 : Int32), w7)) else (if hi < nI (mvN T q (r - q)) then (bnd (f_X10_wrong 3000 842 (2 : Int32) (nI q) u1) fun (u10 : Unit) (w9 : MEM) => some ((0 : Int32), w9)) else (some (nI (mvN T q (r - q)), u1)))) ∧ TXM u1 T N r ∧ Fr pTm w u1 := by
      intro m
      induction m with
      | zero =>
        intro k n1 u hk hn1 h1 h3
        obtain ⟨n1, rfl⟩ : ∃ n', n1 = n' + 1 := ⟨n1 - 1, by omega⟩
        have ek : k = r - q := by omega
        have er : q + k = r := by omega
        rw [er] at h1
        refine ⟨u, ?_, h1, h3⟩
        rw [E_X10_readNumber_41, h1.2.2.1, h1.2.2.2.1, ek]
        by_cases d5 : r < N
        · have ht := (h1.2.2.2.2.2 r d5).1
          rw [if_pos (by rw [nlt _ _ (by omega) (by omega)]; exact d5), bIn _ _ (by omega), decide_eq_true (show r < 600 by omega), ck_tr, rAn _ _ _ (by omega), (h1.2.2.2.2.2 r d5).2, M_digit ht u inferInstance, bnd_some, if_neg (d4 d5), if_pos rfl]
        · rw [if_neg (by rw [nlt _ _ (by omega) (by omega)]; exact d5)]
      | succ m ih =>
        intro k n1 u hk hn1 h1 h3
        obtain ⟨n1, rfl⟩ : ∃ n', n1 = n' + 1 := ⟨n1 - 1, by omega⟩
        have hlt2 : q + k < N := by omega
        have hd2 := d3 (q + k) (by omega) (by omega)
        have hmv := (mv_ok T q k (fun j hj => (d3 (q + j) (by omega) (by omega)).2)).2.2
        have g1 := h1.at (q := q + k + 1) (by omega)
        obtain ⟨u1, i1, i2, i4⟩ := ih (k + 1) n1 (sS u (11004, 842) (nI (q + k + 1))) (by omega) (by omega) g1 (h3.tr (Fr.S (a := (11004, 842)) (Fr.rf _ _) _ rfl))
        refine ⟨u1, ?_, i2, i4⟩
        have es : mvN T q (k + 1) = if 9999 < mvN T q k then 10000 else 10 * mvN T q k + (T (q + k) - 48) := rfl
        rw [es] at i1
        rw [E_X10_readNumber_41, h1.2.2.1, h1.2.2.2.1, if_pos (by rw [nlt _ _ (by omega) (by omega)]; exact hlt2), bIn _ _ (by omega), decide_eq_true (show q + k < 600 by omega), ck_tr, rAn _ _ _ (by omega), (h1.2.2.2.2.2 _ hlt2).2, M_digit (by omega) u inferInstance, bnd_some, if_pos hd2, if_neg (by decide), h1.2.2.2.1, naddL]
        by_cases c : 9999 < mvN T q k
        · rw [if_pos c] at i1
          rw [if_pos (by rw [nLlt _ _ (by omega) (by decide)]; exact c), lt_eq]
          exact i1
        · rw [if_neg c] at i1
          have e10 : (10 : Int32) * nI (mvN T q k) + nI (T (q + k)) - (48 : Int32) = nI (10 * mvN T q k + (T (q + k) - 48)) := by
            rw [show (10 : Int32) = nI 10 from rfl, nI_mul, nI_add, show (48 : Int32) = nI 48 from rfl, nI_sub _ _ (by omega), show 10 * mvN T q k + T (q + k) - 48 = 10 * mvN T q k + (T (q + k) - 48) by omega]
          rw [if_neg (by rw [nLlt _ _ (by omega) (by decide)]; exact c), bIn _ _ (by omega), decide_eq_true (show q + k < 600 by omega), ck_tr, rAn _ _ _ (by omega), (h1.2.2.2.2.2 _ hlt2).2, e10, lt_eq, lt_eq]
          exact i1
    obtain ⟨u1, i1, i2, i4⟩ := key (r - q) 0 3000 w1 (by omega) (by omega) k2 k4
    have i1 : f_X10_readNumber_41 3000 3000 842 (nI lo) hi (nI q) 0 w1 = _ := i1
    rw [i1]
    obtain ⟨m1, m2, m3⟩ := mv_ok T q (r - q) (fun j hj => (d3 (q + j) (by omega) (by omega)).2)
    obtain ⟨w2, y1, y2, y3⟩ := M_wrong 2 (q := q) (by omega) i2
    have y1 : f_X10_wrong 3000 842 2 (nI q) u1 = some ((), w2) := y1
    rw [y1, bnd_some]
    simp (disch := omega) only [nlt, hi_lt eh hn]
    by_cases c1 : lo ≤ dv T q (r - q) ∧ dv T q (r - q) < n
    · left
      have em := m1 (by omega)
      refine ⟨hlt, c1.1, c1.2, u1, ?_, i2, i4⟩
      rw [em, if_neg (by omega), if_neg (by omega)]
    · right; left
      refine ⟨hlt, c1, w2, ?_, y2, i4.tr y3⟩
      by_cases c3 : dv T q (r - q) ≤ 9999
      · rw [m1 c3]
        by_cases c2 : dv T q (r - q) < lo
        · rw [if_pos c2]
        · rw [if_neg c2, if_pos (by omega)]
      · have := m2 (by omega)
        rw [if_neg (by omega), if_pos (by omega)]
theorem M_numF {w : MEM} {k q : Nat} (x y : Int32) (h : TFM w k q) : f_X10_readNumber 3000 842 x y w = some (0, w) := by
  rw [E_X10_readNumber, M_fineF h, bnd_some, if_pos rfl]
/-! letters -/
def LTR (T : Nat → Nat) (N q n : Nat) : Prop := q + n ≤ N ∧ (∀ j, j < n → 97 ≤ T (q + j) ∧ T (q + j) ≤ 122) ∧ (q + n < N → ¬ (97 ≤ T (q + n) ∧ T (q + n) ≤ 122))
theorem rl_ex (T : Nat → Nat) (N : Nat) : ∀ f p, p ≤ N → N - p ≤ f → ∃ n, LTR T N p n
  | 0, p, h1, h2 => ⟨0, h1, fun j h3 => absurd h3 (Nat.not_lt_zero _), fun h => by omega⟩
  | f + 1, p, h1, h2 => by
    by_cases c : p < N ∧ (97 ≤ T p ∧ T p ≤ 122)
    · obtain ⟨n, q1, q2, q3⟩ := rl_ex T N f (p + 1) (by omega) (by omega)
      refine ⟨n + 1, by omega, fun j hj => ?_, fun h => ?_⟩
      · by_cases e : j = 0
        · rw [e]; exact c.2
        · have := q2 (j - 1) (by omega)
          rwa [show p + 1 + (j - 1) = p + j by omega] at this
      · have := q3 (by omega)
        rwa [show p + 1 + n = p + (n + 1) by omega] at this
    · exact ⟨0, h1, fun j h3 => absurd h3 (Nat.not_lt_zero _), fun h e => c ⟨h, e⟩⟩
def cdN (a : Nat → Nat) (n : Nat) : Nat := lp n 0 (fun k v => v * 32 + (a k - 96)) 0
theorem cdN_s (a : Nat → Nat) (n : Nat) : cdN a (n + 1) = cdN a n * 32 + (a n - 96) := by
  unfold cdN
  rw [lp_snoc, Nat.zero_add]
theorem cdN_lt (a : Nat → Nat) : ∀ n, (∀ k < n, 97 ≤ a k ∧ a k ≤ 122) → cdN a n < 32 ^ n
  | 0, _ => by
    show 0 < 1
    omega
  | n + 1, H => by
    have := cdN_lt a n (fun k hk => H k (by omega))
    have := H n (by omega)
    rw [cdN_s, Nat.pow_succ]
    omega
theorem cdN_inj (a b : Nat → Nat) : ∀ n m, (∀ k < n, 97 ≤ a k ∧ a k ≤ 122) → (∀ k < m, 97 ≤ b k ∧ b k ≤ 122) → cdN a n = cdN b m → n = m ∧ ∀ k < n, a k = b k
  | 0, 0, _, _, _ => ⟨rfl, fun k hk => absurd hk (Nat.not_lt_zero _)⟩
  | n + 1, 0, Ha, _, e => by
    have := Ha n (by omega)
    rw [cdN_s] at e
    have e : cdN a n * 32 + (a n - 96) = 0 := e
    omega
  | 0, m + 1, _, Hb, e => by
    have := Hb m (by omega)
    rw [cdN_s] at e
    have e : 0 = cdN b m * 32 + (b m - 96) := e
    omega
  | n + 1, m + 1, Ha, Hb, e => by
    have h1 := Ha n (by omega)
    have h2 := Hb m (by omega)
    rw [cdN_s, cdN_s] at e
    have e1 : cdN a n = cdN b m := by omega
    have e2 : a n = b m := by omega
    obtain ⟨i1, i2⟩ := cdN_inj a b n m (fun k hk => Ha k (by omega)) (fun k hk => Hb k (by omega)) e1
    subst i1
    refine ⟨rfl, fun k hk => ?_⟩
    by_cases c : k = n
    · rw [c]; exact e2
    · exact i2 k (by omega)
def wN_ (l : Nat) : Nat → Nat := fun k => ((sByt.getD l []).getD k 0).toNatClampNeg
def wL (l : Nat) : Nat := sLen.getD l 0
def wC (l : Nat) : Nat := cdN (wN_ l) (wL l)
theorem wN_ok : ∀ l < 21, 0 < wL l ∧ wL l ≤ 6 ∧ ∀ k < wL l, (97 ≤ wN_ l k ∧ wN_ l k ≤ 122) ∧ (sByt.getD l []).getD k 0 = nI (wN_ l k) := by decide +kernel
/-- the code of the letters at q -/
def wcT (T : Nat → Nat) (q n : Nat) : Nat := if n ≤ 6 then cdN (fun k => T (q + k)) n else 0
theorem wc_iff {T : Nat → Nat} {N q n l : Nat} (hl : l < 21) (h : LTR T N q n) : wcT T q n = wC l ↔ n = wL l ∧ ∀ k < wL l, T (q + k) = wN_ l k := by
  obtain ⟨w1, w2, w3⟩ := wN_ok l hl
  unfold wcT
  by_cases c : n ≤ 6
  · rw [if_pos c]
    constructor
    · intro e
      obtain ⟨i1, i2⟩ := cdN_inj _ _ n (wL l) h.2.1 (fun k hk => (w3 k hk).1) e
      exact ⟨i1, fun k hk => i2 k (by omega)⟩
    · rintro ⟨e1, e2⟩
      subst e1
      unfold wC cdN
      refine lp_ext _ _ _ _ _ (fun k v _ hk => ?_)
      show v * 32 + (T (q + k) - 96) = v * 32 + (wN_ l k - 96)
      rw [e2 k (by omega)]
  · rw [if_neg c]
    constructor
    · intro e
      exfalso
      have : wC l ≠ 0 := by
        unfold wC
        obtain ⟨m, hm⟩ : ∃ m, wL l = m + 1 := ⟨wL l - 1, by omega⟩
        have := (w3 m (by omega)).1
        rw [hm, cdN_s]
        omega
      omega
    · rintro ⟨e1, _⟩
      omega
theorem sb_eqw : ∀ t < 256, ∀ a < 123, (sb_b t = nI a) ↔ t = a := by decide +kernel
theorem sb_let : ∀ t < 256, (¬ (sb_b t < 97) ∧ ¬ (122 < sb_b t)) ↔ (97 ≤ t ∧ t ≤ 122) := by decide +kernel
theorem J_char {l k : Nat} (hl : l < 21) (hk : k < wL l) (w : MEM) : f_J0_charAt_5068e 3000 l (nI k) w = some (nI (wN_ l k), w) := by
  obtain ⟨w1, w2, w3⟩ := wN_ok l hl
  have hk2 : k < sLen.getD l 0 := hk
  unfold f_J0_charAt_5068e
  rw [bIn _ _ (by omega), decide_eq_true hk2, ck_tr, nI_clamp (by omega), (w3 k hk).2]
theorem C_word {w : MEM} {T : Nat → Nat} {N p q n l : Nat} (hl : l < 21) (h : TXC w T N p) (s : SK T N p q) (hn : LTR T N q n) : (wcT T q n = wC l ∧ ∃ w1, f_X8_takeWord 3000 1 l w = some (1, w1) ∧ TXC w1 T N (q + n) ∧ rS w1 (10804, 1) = nI q ∧ Fr pTx w w1) ∨ (wcT T q n ≠ wC l ∧ ∃ w1, f_X8_takeWord 3000 1 l w = some (0, w1) ∧ TXC w1 T N q ∧ rS w1 (10804, 1) = nI q ∧ Fr pTx w w1) := by
  obtain ⟨w1, k1, k2, k3, k4⟩ := C_peek h s
  obtain ⟨v1, v2, v3⟩ := wN_ok l hl
  have hN := h.1
  have hq := s.2.1
  have hiff := wc_iff hl hn
  have hlen : f_J0_length_8abf5 3000 l w1 = some (nI (wL l), w1) := rfl
  rw [E_X8_takeWord, k1, bnd_some, hlen, bnd_some, k2.2.2.1, k2.2.2.2.1, nI_sub _ _ hq]
  by_cases c0 : N - q < wL l
  · right
    refine ⟨fun e => ?_, w1, ?_, k2, k3, k4⟩
    · have := (hiff.mp e).1
      have := hn.1
      omega
    · rw [if_pos (by rw [nlt _ _ (by omega) (by omega)]; exact c0)]
  · rw [if_neg (by rw [nlt _ _ (by omega) (by omega)]; exact c0)]
    have key : ∀ m k n1, k + m = wL l → m < n1 → (∀ j < k, T (q + j) = wN_ l j) → (((∀ j < wL l, T (q + j) = wN_ l j) ∧ f_X8_takeWord_27 3000 n1 1 l (nI (wL l)) (nI k) w1 = f_X8_takeWord_27 3000 (n1 - m) 1 l (nI (wL l)) (nI (wL l)) w1) ∨ ((¬ ∀ j < wL l, T (q + j) = wN_ l j) ∧ f_X8_takeWord_27 3000 n1 1 l (nI (wL l)) (nI k) w1 = some (0, w1))) := by
      intro m
      induction m with
      | zero =>
        intro k n1 hk hn1 H
        left
        have hk : k = wL l := by omega
        subst hk
        exact ⟨H, rfl⟩
      | succ m ih =>
        intro k n1 hk hn1 H
        obtain ⟨n1, rfl⟩ : ∃ n', n1 = n' + 1 := ⟨n1 - 1, by omega⟩
        have hlt : q + k < N := by omega
        have ht := (h.2.2.2.2.2 _ hlt).1
        have hw := (v3 k (by omega)).1
        have es : f_X8_takeWord_27 3000 (n1 + 1) 1 l (nI (wL l)) (nI k) w1 = if T (q + k) = wN_ l k then f_X8_takeWord_27 3000 n1 1 l (nI (wL l)) (nI (k + 1)) w1 else some (0, w1) := by
          rw [E_X8_takeWord_27, if_pos (by rw [nlt _ _ (by omega) (by omega)]; omega), k2.2.2.2.1, nI_add, bIn _ _ (by omega), decide_eq_true (show q + k < 600 by omega), ck_tr, J_char hl (by omega), bnd_some, rAn _ _ _ (by omega), (k2.2.2.2.2.2 _ hlt).2, naddL]
          by_cases c1 : T (q + k) = wN_ l k
          · rw [if_pos ((sb_eqw _ ht _ (by omega)).mpr c1), if_pos c1]
          · rw [if_neg (fun e => c1 ((sb_eqw _ ht _ (by omega)).mp e)), if_neg c1]
        by_cases c1 : T (q + k) = wN_ l k
        · rw [if_pos c1] at es
          rw [es, show n1 + 1 - (m + 1) = n1 - m by omega]
          refine ih (k + 1) n1 (by omega) (by omega) (fun j hj => ?_)
          by_cases e : j = k
          · rw [e]; exact c1
          · exact H j (by omega)
        · rw [if_neg c1] at es
          right
          exact ⟨fun H2 => c1 (H2 k (by omega)), es⟩
    rcases key (wL l) 0 3000 (by omega) (by omega) (fun j hj => absurd hj (Nat.not_lt_zero _)) with ⟨H, e⟩ | ⟨H, e⟩
    · have e : f_X8_takeWord_27 3000 3000 1 l (nI (wL l)) 0 w1 = f_X8_takeWord_27 3000 (3000 - wL l) 1 l (nI (wL l)) (nI (wL l)) w1 := e
      obtain ⟨n1, hn1⟩ : ∃ n', 3000 - wL l = n' + 1 := ⟨3000 - wL l - 1, by omega⟩
      rw [hn1] at e
      have hge : wL l ≤ n := by
        rcases Nat.lt_or_ge n (wL l) with c | c
        · exfalso
          have h1 := H n c
          have h2 := (v3 n c).1
          exact hn.2.2 (by omega) (by rw [h1]; exact h2)
        · exact c
      rw [e, E_X8_takeWord_27, if_neg (by rw [nlt _ _ (by omega) (by omega)]; omega), k2.2.2.2.1, nI_add, lt_eq, k2.2.2.1]
      have g1 := k2.at (q := q + wL l) (by omega)
      have gS : rS (sS w1 (10803, 1) (nI (q + wL l))) (10804, 1) = nI q := by
        rw [rS_sS, if_neg (by decide)]; exact k3
      have gF : Fr pTx w (sS w1 (10803, 1) (nI (q + wL l))) := k4.tr (Fr.S (a := (10803, 1)) (Fr.rf _ _) _ rfl)
      by_cases c1 : n = wL l
      · left
        subst c1
        refine ⟨hiff.mpr ⟨rfl, H⟩, sS w1 (10803, 1) (nI (q + wL l)), ?_, g1, gS, gF⟩
        by_cases c2 : q + wL l < N
        · have ht := (h.2.2.2.2.2 _ c2).1
          have hnl : ¬ (97 ≤ T (q + wL l) ∧ T (q + wL l) ≤ 122) := hn.2.2 c2
          rw [if_pos (by rw [nlt _ _ (by omega) (by omega)]; exact c2), bIn _ _ (by omega), decide_eq_true (show q + wL l < 600 by omega), ck_tr, ck_tr, rAn _ _ _ (by omega), (k2.2.2.2.2.2 _ c2).2, lt_eq]
          by_cases c3 : sb_b (T (q + wL l)) < 97
          · rw [if_pos c3]
          · rw [if_neg c3, if_pos]
            by_cases c4 : 122 < sb_b (T (q + wL l))
            · exact c4
            · exact absurd ((sb_let _ ht).mp ⟨c3, c4⟩) hnl
        · rw [if_neg (by rw [nlt _ _ (by omega) (by omega)]; exact c2), lt_eq]
      · right
        have c2 : q + wL l < N := by have := hn.1; omega
        have ht := (h.2.2.2.2.2 _ c2).1
        have hl2 := (sb_let _ ht).mpr (hn.2.1 (wL l) (by omega))
        refine ⟨fun e => c1 (hiff.mp e).1, w1, ?_, k2, k3, k4⟩
        rw [if_pos (by rw [nlt _ _ (by omega) (by omega)]; exact c2), bIn _ _ (by omega), decide_eq_true (show q + wL l < 600 by omega), ck_tr, ck_tr, rAn _ _ _ (by omega), (k2.2.2.2.2.2 _ c2).2, if_neg hl2.1, if_neg hl2.2]
    · right
      have e : f_X8_takeWord_27 3000 3000 1 l (nI (wL l)) 0 w1 = some (0, w1) := e
      exact ⟨fun e2 => H (hiff.mp e2).2, w1, e, k2, k3, k4⟩
theorem M_of {l : Nat} (hl : l < 21) (w : MEM) : f_X10_of 3000 l w = some (nI (wC l), w) := by
  obtain ⟨v1, v2, v3⟩ := wN_ok l hl
  have hlen : f_J0_length_8abf5 3000 l w = some (nI (wL l), w) := rfl
  rw [E_X10_of]
  have hx : ∀ l < 21, lp (wL l) 0 (fun k (v : Int32) => (v <<< ((5 : Int32) &&& 31)) ||| (nI (wN_ l k) - 96)) 0 = nI (wC l) := by decide +kernel
  rw [← hx l hl]
  exact for_lp0 (F := fun n x (v : Int32) => f_X10_of_4 3000 n l v x w) (N := wL l) (fin := fun v => some (v, w))
    (fun n k v hk => by
      show f_X10_of_4 3000 (n + 1) l v (nI k) w = _
      rw [E_X10_of_4, hlen, bnd_some, if_pos (by rw [nlt _ _ (by omega) (by omega)]; exact hk), J_char hl hk, bnd_some, lt_eq, naddL])
    (fun n v => by
      show f_X10_of_4 3000 (n + 1) l v (nI (wL l)) w = _
      rw [E_X10_of_4, hlen, bnd_some, if_neg (by rw [nlt _ _ (by omega) (by omega)]; omega)]) (by omega) 0
theorem M_small {t : Nat} (ht : t < 256) (w : MEM) : f_X10_isSmall 3000 (nI t) w = some (if 97 ≤ t ∧ t ≤ 122 then 1 else 0, w) := by
  rw [E_X10_isSmall]
  by_cases c1 : t < 97
  · rw [if_pos (by rw [nltL _ _ (by omega) (by decide)]; exact c1), if_neg (by omega)]
  · rw [if_neg (by rw [nltL _ _ (by omega) (by decide)]; exact c1)]
    by_cases c2 : 122 < t
    · rw [if_pos (by rw [nLlt _ _ (by omega) (by decide)]; exact c2), if_neg (by omega)]
    · rw [if_neg (by rw [nLlt _ _ (by omega) (by decide)]; exact c2), if_pos (by omega)]
theorem shl5 {v d : Nat} (hv : v < 2 ^ 25) (hd : d < 32) : (nI v <<< ((5 : Int32) &&& 31)) ||| nI d = nI (v * 32 + d) := by
  rw [pk_shlN (n := v) _ 5 rfl (by omega), nI_or]
  congr 1
  rw [Nat.mul_comm]
  exact (Nat.two_pow_add_eq_or_of_lt (i := 5) hd v).symm
theorem M_word {w : MEM} {T : Nat → Nat} {N p q n : Nat} (h : TXM w T N p) (s : SK T N p q) (hn : LTR T N q n) : ∃ w1, f_X10_word 3000 842 w = some (nI (wcT T q n), w1) ∧ TXM w1 T N q ∧ Fr pTm w w1 := by
  obtain ⟨w1, k1, k2, k4⟩ := M_here h s
  have hN := h.1
  have hq := s.2.1
  have hn1 := hn.1
  refine ⟨w1, ?_, k2, k4⟩
  rw [E_X10_word, k1, bnd_some, lt_eq, k2.2.2.2.1]
  obtain ⟨⟨v, c⟩, n1, e1, e2, e3⟩ := for_rel (F := fun m x (s : Nat × Nat) => f_X10_word_14 3000 m 842 (nI s.1) (nI s.2) (nI q + x) w1) (N := n) (fun k s => s.2 = k ∧ s.1 = wcT T q k)
    (fun m k s hk p => by
      obtain ⟨v, c⟩ := s
      obtain ⟨p1, p2⟩ := p
      have p1 : c = k := p1
      have p2 : v = wcT T q k := p2
      subst p1
      subst p2
      have hlt : q + c < N := by omega
      have ht := (h.2.2.2.2.2 _ hlt).1
      have hlet := hn.2.1 c hk
      refine ⟨(wcT T q (c + 1), c + 1), ?_, rfl, rfl⟩
      show f_X10_word_14 3000 (m + 1) 842 (nI (wcT T q c)) (nI c) (nI q + nI c) w1 = f_X10_word_14 3000 m 842 (nI (wcT T q (c + 1))) (nI (c + 1)) (nI q + nI (c + 1)) w1
      rw [nI_add, nI_add, E_X10_word_14, k2.2.2.1, if_pos (by rw [nlt _ _ (by omega) (by omega)]; exact hlt), bIn _ _ (by omega), decide_eq_true (show q + c < 600 by omega), ck_tr, rAn _ _ _ (by omega), (k2.2.2.2.2.2 _ hlt).2, M_small ht, bnd_some, if_pos hlet, if_neg (by decide), naddL, naddL]
      by_cases c6 : c < 6
      · have hb := cdN_lt (fun k => T (q + k)) c (fun k hk => hn.2.1 k (by omega))
        have hp : (32 : Nat) ^ c ≤ 32 ^ 5 := Nat.pow_le_pow_right (by omega) (by omega)
        have e : wcT T q c = cdN (fun k => T (q + k)) c := if_pos (by omega)
        have e2 : wcT T q (c + 1) = cdN (fun k => T (q + k)) c * 32 + (T (q + c) - 96) := by
          unfold wcT
          rw [if_pos (by omega), cdN_s]
        rw [if_pos (by rw [nltL _ _ (by omega) (by decide)]; exact c6), ck_tr, rAn _ _ _ (by omega), (k2.2.2.2.2.2 _ hlt).2, show nI (T (q + c)) - (96 : Int32) = nI (T (q + c) - 96) from nI_sub _ 96 (by omega), e, shl5 (by omega) (by omega), lt_eq, e2]
        rfl
      · have e2 : wcT T q (c + 1) = 0 := if_neg (by omega)
        rw [if_neg (by rw [nltL _ _ (by omega) (by decide)]; exact c6), e2]
        rfl)
    n 3000 0 (0, 0) (by omega) (by omega) ⟨rfl, rfl⟩
  have e2 : c = n := e2
  have e3 : v = wcT T q n := e3
  subst e2
  subst e3
  have e1 : f_X10_word_14 3000 3000 842 0 0 (nI q + 0) w1 = f_X10_word_14 3000 (n1 + 1) 842 (nI (wcT T q c)) (nI c) (nI q + nI c) w1 := e1
  rw [Int32.add_zero] at e1
  rw [e1, nI_add, E_X10_word_14, k2.2.2.1]
  have fin : (if (6 : Int32) < nI c then some ((0 : Int32), w1) else some (nI (wcT T q c), w1)) = some (nI (wcT T q c), w1) := by
    by_cases c6 : 6 < c
    · have e2 : wcT T q c = 0 := if_neg (by omega)
      rw [if_pos (by rw [nLlt _ _ (by omega) (by decide)]; exact c6), e2]
      rfl
    · rw [if_neg (by rw [nLlt _ _ (by omega) (by decide)]; exact c6)]
  by_cases c2 : q + c < N
  · have ht := (h.2.2.2.2.2 _ c2).1
    rw [if_pos (by rw [nlt _ _ (by omega) (by omega)]; exact c2), bIn _ _ (by omega), decide_eq_true (show q + c < 600 by omega), ck_tr, rAn _ _ _ (by omega), (k2.2.2.2.2.2 _ c2).2, M_small ht, bnd_some, if_neg (hn.2.2 c2), if_pos rfl]
    exact fin
  · rw [if_neg (by rw [nlt _ _ (by omega) (by omega)]; exact c2)]
    exact fin
theorem M_pass {w : MEM} {T : Nat → Nat} {N q n : Nat} (h : TXM w T N q) (hn : LTR T N q n) : ∃ w1, f_X10_pass 3000 842 w = some ((), w1) ∧ TXM w1 T N (q + n) ∧ Fr pTm w w1 := by
  have hN := h.1
  have hn1 := hn.1
  have key : ∀ m k n1 u, k + m = n → m < n1 → TXM u T N (q + k) → Fr pTm w u → ∃ u1, f_X10_pass_0 3000 n1 842 u = some ((), u1) ∧ TXM u1 T N (q + n) ∧ Fr pTm w u1 := by
    intro m
    induction m with
    | zero =>
      intro k n1 u hk hn1 h1 h3
      obtain ⟨n1, rfl⟩ : ∃ n', n1 = n' + 1 := ⟨n1 - 1, by omega⟩
      have ek : k = n := by omega
      subst ek
      refine ⟨u, ?_, h1, h3⟩
      rw [E_X10_pass_0, h1.2.2.1, h1.2.2.2.1]
      by_cases c : q + k < N
      · have ht := (h.2.2.2.2.2 _ c).1
        rw [if_pos (by rw [nlt _ _ (by omega) (by omega)]; exact c), bIn _ _ (by omega), decide_eq_true (show q + k < 600 by omega), ck_tr, rAn _ _ _ (by omega), (h1.2.2.2.2.2 _ c).2, M_small ht, bnd_some, if_neg (hn.2.2 c), if_pos rfl]
      · rw [if_neg (by rw [nlt _ _ (by omega) (by omega)]; exact c)]
    | succ m ih =>
      intro k n1 u hk hn1 h1 h3
      obtain ⟨n1, rfl⟩ : ∃ n', n1 = n' + 1 := ⟨n1 - 1, by omega⟩
      have c : q + k < N := by omega
      have ht := (h.2.2.2.2.2 _ c).1
      have g1 := h1.at (q := q + (k + 1)) (by omega)
      obtain ⟨u1, i1, i2, i3⟩ := ih (k + 1) n1 _ (by omega) (by omega) g1 (h3.tr (Fr.S (a := (11004, 842)) (Fr.rf _ _) _ rfl))
      refine ⟨u1, ?_, i2, i3⟩
      rw [E_X10_pass_0, h1.2.2.1, h1.2.2.2.1, if_pos (by rw [nlt _ _ (by omega) (by omega)]; exact c), bIn _ _ (by omega), decide_eq_true (show q + k < 600 by omega), ck_tr, rAn _ _ _ (by omega), (h1.2.2.2.2.2 _ c).2, M_small ht, bnd_some, if_pos (hn.2.1 k (by omega)), if_neg (by decide), h1.2.2.2.1, lt_eq, naddL]
      exact i1
  exact key n 0 3000 w (by omega) (by omega) h (Fr.rf _ _)
