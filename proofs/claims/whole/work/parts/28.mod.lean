/-! floorMod; the class's hour -/
theorem xor_neg (x y : Int32) : (x ^^^ y < 0) ↔ ¬ ((x < 0) ↔ (y < 0)) := by
  have e : ∀ z : Int32, (z < 0) ↔ z.toBitVec.msb = true := by
    intro z
    rw [Int32.lt_iff_toInt_lt, BitVec.msb_eq_toInt]
    simp
  rw [e, e, e, Int32.toBitVec_xor, BitVec.msb_xor]
  cases x.toBitVec.msb <;> cases y.toBitVec.msb <;> simp
theorem neg_toInt {t : Nat} (ht : t < 2 ^ 31) : (-nI t).toInt = -(t : Int) := by
  rw [Int32.toInt_neg, nI_toInt ht]
  exact Int.bmod_eq_of_le_mul_two (by omega) (by omega)
theorem neg_div {t q : Nat} (ht : t < 2 ^ 30) (hq0 : 0 < q) (hq : q < 2 ^ 30) : -nI t / nI q = -nI (t / q) := by
  apply Int32.toInt_inj.mp
  have h1 := Nat.div_le_self t q
  rw [Int32.toInt_div, neg_toInt (by omega), nI_toInt (by omega), neg_toInt (by omega)]
  rw [Int.neg_tdiv, Int.tdiv_eq_ediv_of_nonneg (Int.natCast_nonneg t)]
  have e : ((t : Int) / (q : Int)) = ((t / q : Nat) : Int) := by omega
  rw [e]
  generalize t / q = d at h1 ⊢
  exact Int.bmod_eq_of_le_mul_two (by omega) (by omega)
theorem neg_mod {t q : Nat} (ht : t < 2 ^ 30) (hq0 : 0 < q) (hq : q < 2 ^ 30) : -nI t - -nI t / nI q * nI q = -nI (t % q) := by
  have h2 := nI_mod (a := t) (b := q) (by omega) hq0 (by omega)
  have h1 := Nat.div_le_self t q
  rw [neg_div ht hq0 hq, ← h2, Int32.neg_mul]
  have hd : nI t / nI q = nI (t / q) := by
    apply Int32.toInt_inj.mp
    rw [Int32.toInt_div, nI_toInt (by omega), nI_toInt (by omega), nI_toInt (by omega), Int.tdiv_eq_ediv_of_nonneg (Int.natCast_nonneg t)]
    have e : ((t : Int) / (q : Int)) = ((t / q : Nat) : Int) := by omega
    rw [e]
    clear h2
    generalize t / q = d at h1 ⊢
    exact Int.bmod_eq_of_le_mul_two (by omega) (by omega)
  rw [hd]
  generalize nI (t / q) * nI q = z
  rw [Int32.sub_eq_add_neg, Int32.sub_eq_add_neg, Int32.neg_add, Int32.sub_eq_add_neg]
theorem neg_lt {t : Nat} (ht : t < 2 ^ 30) : (-nI t < 0) ↔ 0 < t := by
  rw [Int32.lt_iff_toInt_lt, neg_toInt (by omega)]
  have : (0 : Int32).toInt = 0 := by decide
  omega
theorem floorMod_ok {fu t q : Nat} {w : MEM} (ht : t < 2 ^ 30) (hq0 : 0 < q) (hq : q < 2 ^ 30) : f_J9_floorMod_7cf53 fu (-nI t) (nI q) w = some (nI ((q - t % q) % q), w) := by
  have hm := Nat.mod_lt t hq0
  rw [E_J9_floorMod_7cf53, if_neg (nI_ne0 hq0 (by omega)), lt_eq, neg_mod ht hq0 hq]
  have hx : (-nI t ^^^ nI q < 0) ↔ 0 < t := by
    rw [xor_neg, neg_lt ht]
    have : ¬ nI q < 0 := nI_pos (by omega)
    simp [this]
    omega
  have h0 : (-nI (t % q) = 0) ↔ t % q = 0 := by
    rw [← Int32.toInt_inj, neg_toInt (by omega)]
    have : (0 : Int32).toInt = 0 := by decide
    omega
  by_cases c : 0 < t
  · rw [if_pos (hx.mpr c)]
    by_cases c2 : t % q = 0
    · rw [if_pos (h0.mpr c2), c2, Nat.sub_zero, Nat.mod_self]
      rfl
    · rw [if_neg (fun e => c2 (h0.mp e)), Nat.mod_eq_of_lt (show q - t % q < q by omega), ← nI_sub _ _ (by omega : t % q ≤ q), Int32.sub_eq_add_neg, Int32.add_comm]
  · rw [if_neg (fun e => c (hx.mp e))]
    have : t = 0 := by omega
    subst this
    rw [Nat.zero_mod, Nat.sub_zero, Nat.mod_self]
    rfl
theorem nextCough_ok {fu k t q c : Nat} {w : MEM} (hk : k < 6) (ht : t < 2 ^ 30) (hq0 : 0 < q) (hq : q < 2 ^ 30) (h : fA w (107, c) k = nI q) : f_X1_nextCough fu c (nI k) (nI t) w = some (nI ((q - t % q) % q), w) := by
  rw [E_X1_nextCough]
  simp (disch := omega) only [bIn, rAn, decide_true, ck_tr, hk, lt_eq, h, nLlt, hq0, if_true, floorMod_ok ht hq0 hq, bnd_some]
theorem cough0 {t q : Nat} (hq0 : 0 < q) : (q - t % q) % q = 0 ↔ t % q = 0 := by
  have hm := Nat.mod_lt t hq0
  by_cases c : t % q = 0
  · rw [c, Nat.sub_zero, Nat.mod_self]
  · rw [Nat.mod_eq_of_lt (show q - t % q < q by omega)]
    omega
