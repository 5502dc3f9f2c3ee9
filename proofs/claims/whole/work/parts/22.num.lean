/-! numerals, counted loops, frames -/
theorem nI_lit (n : Nat) : (OfNat.ofNat n : Int32) = nI n := rfl
theorem nlt (a b : Nat) (ha : a < 2 ^ 31) (hb : b < 2 ^ 31) : (nI a < nI b) = (a < b) := propext (nI_ltI ha hb)
theorem nltL (a n : Nat) (ha : a < 2 ^ 31) (hb : (OfNat.ofNat n : Nat) < 2 ^ 31) : (nI a < (no_index (OfNat.ofNat n) : Int32)) = (a < (OfNat.ofNat n : Nat)) := propext (nI_ltI ha hb)
theorem nLlt (a n : Nat) (ha : a < 2 ^ 31) (hb : (OfNat.ofNat n : Nat) < 2 ^ 31) : ((no_index (OfNat.ofNat n) : Int32) < nI a) = ((OfNat.ofNat n : Nat) < a) := propext (nI_ltI hb ha)
theorem neqI (a b : Nat) (ha : a < 2 ^ 31) (hb : b < 2 ^ 31) : (nI a = nI b) = (a = b) := propext (nI_eq ha hb)
theorem neqL (a n : Nat) (ha : a < 2 ^ 31) (hb : (OfNat.ofNat n : Nat) < 2 ^ 31) : (nI a = (no_index (OfNat.ofNat n) : Int32)) = (a = (OfNat.ofNat n : Nat)) := propext (nI_eq ha hb)
theorem naddL (a n : Nat) : nI a + (no_index (OfNat.ofNat n) : Int32) = nI (a + (OfNat.ofNat n : Nat)) := nI_add a n
theorem nLadd (a n : Nat) : (no_index (OfNat.ofNat n) : Int32) + nI a = nI ((OfNat.ofNat n : Nat) + a) := nI_add n a
theorem nI_mul (a b : Nat) : nI a * nI b = nI (a * b) := (Int32.ofNat_mul a b).symm
theorem nLmul (a n : Nat) : (no_index (OfNat.ofNat n) : Int32) * nI a = nI ((OfNat.ofNat n : Nat) * a) := nI_mul n a
theorem nmulL (a n : Nat) : nI a * (no_index (OfNat.ofNat n) : Int32) = nI (a * (OfNat.ofNat n : Nat)) := nI_mul a n
theorem nI_sub (a b : Nat) (h : b ≤ a) : nI a - nI b = nI (a - b) := by
  have e : nI a = nI (a - b) + nI b := by rw [nI_add, Nat.sub_add_cancel h]
  rw [e]
  apply Int32.toBitVec_inj.mp
  simp [Int32.toBitVec_sub, Int32.toBitVec_add]
theorem nsubL (a n : Nat) (h : (OfNat.ofNat n : Nat) ≤ a) : nI a - (no_index (OfNat.ofNat n) : Int32) = nI (a - (OfNat.ofNat n : Nat)) := nI_sub a n h
theorem naddm1 (a : Nat) (h : 1 ≤ a) : nI a + (-1 : Int32) = nI (a - 1) := by
  rw [← nI_sub a 1 h, Int32.sub_eq_add_neg, show -nI 1 = (-1 : Int32) from by decide]
theorem bIn (a n : Nat) (ha : a < 2 ^ 31) : bI (nI a) n = decide (a < n) := by
  by_cases h : a < n
  · rw [bI_nI h ha, decide_eq_true h]
  · rw [decide_eq_false h]
    unfold bI
    rw [nI_clamp ha]
    have : Nat.blt a n = false := by
      cases e : Nat.blt a n
      · rfl
      · exact absurd (by simpa [Nat.blt_eq] using e) h
    rw [this, Bool.and_false]
theorem bIL (a n : Nat) (ha : (OfNat.ofNat a : Nat) < 2 ^ 31) : bI (no_index (OfNat.ofNat a) : Int32) n = decide ((OfNat.ofNat a : Nat) < n) := bIn a n ha
theorem rAn (w : MEM) (x : LA) (a : Nat) (ha : a < 2 ^ 31) : rA w x (nI a) = fA w x a := by
  unfold rA
  rw [nI_clamp ha]
theorem rAL (w : MEM) (x : LA) (a : Nat) (ha : (OfNat.ofNat a : Nat) < 2 ^ 31) : rA w x (no_index (OfNat.ofNat a) : Int32) = fA w x (OfNat.ofNat a) := rAn w x a ha
theorem sAn (w : MEM) (x : LA) (a : Nat) (v : Int32) (ha : a < 2 ^ 31) : sA w x (nI a) v = tA w x (upd (fA w x) a v) := by
  unfold sA
  rw [nI_clamp ha]
theorem sAL (w : MEM) (x : LA) (a : Nat) (v : Int32) (ha : (OfNat.ofNat a : Nat) < 2 ^ 31) : sA w x (no_index (OfNat.ofNat a) : Int32) v = tA w x (upd (fA w x) (OfNat.ofNat a) v) := sAn w x a v ha
theorem ck_tr {α : Type} (k : Option α) : ck true k = k := rfl
theorem ck_dt {α : Type} {p : Prop} [Decidable p] (k : Option α) (h : p) : ck (decide p) k = k := by rw [decide_eq_true h]; rfl
theorem b01_0 : b01 0 = true := rfl
theorem b01_1 : b01 1 = true := rfl
theorem upd_self (f : Nat → Int32) (k : Nat) : upd f k (f k) = f := by
  funext j
  unfold upd
  split
  · rename_i e; rw [e]
  · rfl
theorem upd_at (f : Nat → Int32) (k : Nat) (v : Int32) : upd f k v k = v := if_pos rfl
theorem upd_ne (f : Nat → Int32) {k j : Nat} (v : Int32) (h : j ≠ k) : upd f k v j = f j := if_neg h
theorem upd_eq (f : Nat → Int32) (k j : Nat) (v : Int32) : upd f k v j = if j = k then v else f j := rfl
theorem upd_upd (f : Nat → Int32) (k : Nat) (u v : Int32) : upd (upd f k u) k v = upd f k v := by
  funext j
  unfold upd
  split <;> rfl
theorem tA_tA (w : MEM) (a : LA) (f g : Nat → Int32) : tA (tA w a f) a g = tA w a g := by
  refine Prod.ext rfl (Prod.ext (funext fun b => ?_) rfl)
  show (if b = a then g else if b = a then f else w.2.1 b) = (if b = a then g else w.2.1 b)
  by_cases e : b = a
  · rw [if_pos e, if_pos e]
  · rw [if_neg e, if_neg e, if_neg e]
theorem tA_self (w : MEM) (a : LA) : tA w a (fA w a) = w := by
  unfold tA fA
  have : (fun b => if b = a then w.2.1 a else w.2.1 b) = w.2.1 := by
    funext b
    split
    · rename_i e; rw [e]
    · rfl
  rw [this]
/-- m rounds from k on -/
def lp {α : Type} : Nat → Nat → (Nat → α → α) → α → α
  | 0, _, _, a => a
  | m + 1, k, f, a => lp m (k + 1) f (f k a)
theorem lp_0 {α : Type} (k : Nat) (f : Nat → α → α) (a : α) : lp 0 k f a = a := rfl
theorem lp_s {α : Type} (m k : Nat) (f : Nat → α → α) (a : α) : lp (m + 1) k f a = lp m (k + 1) f (f k a) := rfl
theorem lp_snoc {α : Type} (f : Nat → α → α) : ∀ (m k : Nat) (a : α), lp (m + 1) k f a = f (k + m) (lp m k f a)
  | 0, k, a => rfl
  | m + 1, k, a => by
    rw [lp_s, lp_snoc f m (k + 1) (f k a), lp_s, show k + 1 + m = k + (m + 1) from by omega]
theorem lp_add {α : Type} (f : Nat → α → α) : ∀ (m q k : Nat) (a : α), lp (m + q) k f a = lp q (k + m) f (lp m k f a)
  | 0, q, k, a => by rw [Nat.zero_add]; rfl
  | m + 1, q, k, a => by
    rw [show m + 1 + q = (m + q) + 1 from by omega, lp_s, lp_add f m q (k + 1) (f k a), show k + 1 + m = k + (m + 1) from by omega]
    rfl
theorem lp_id {α : Type} (f : Nat → α → α) (a : α) : ∀ (m k : Nat), (∀ j, k ≤ j → j < k + m → f j a = a) → lp m k f a = a
  | 0, _, _ => rfl
  | m + 1, k, h => by
    rw [lp_s, h k (Nat.le_refl k) (by omega)]
    exact lp_id f a m (k + 1) (fun j h1 h2 => h j (by omega) (by omega))
theorem lp_congr {α : Type} (f g : Nat → α → α) (P : Nat → α → Prop) : ∀ (m k : Nat) (a : α), P k a → (∀ j b, k ≤ j → j < k + m → P j b → f j b = g j b ∧ P (j + 1) (g j b)) → lp m k f a = lp m k g a
  | 0, _, _, _, _ => rfl
  | m + 1, k, a, p, h => by
    rw [lp_s, lp_s]
    have h0 := h k a (Nat.le_refl k) (by omega) p
    rw [h0.1]
    exact lp_congr f g P m (k + 1) _ h0.2 (fun j b h1 h2 hp => h j b (by omega) (by omega) hp)
theorem lp_ext {α : Type} (f g : Nat → α → α) (m k : Nat) (a : α) (h : ∀ j b, k ≤ j → j < k + m → f j b = g j b) : lp m k f a = lp m k g a :=
  lp_congr f g (fun _ _ => True) m k a trivial (fun j b h1 h2 _ => ⟨h j b h1 h2, trivial⟩)
theorem lp_inv {α : Type} (f : Nat → α → α) (P : Nat → α → Prop) : ∀ (m k : Nat) (a : α), P k a → (∀ j b, k ≤ j → j < k + m → P j b → P (j + 1) (f j b)) → P (k + m) (lp m k f a)
  | 0, k, a, p, _ => p
  | m + 1, k, a, p, h => by
    have := lp_inv f P m (k + 1) (f k a) (h k a (Nat.le_refl k) (by omega) p) (fun j b h1 h2 hp => h j b (by omega) (by omega) hp)
    rw [show k + (m + 1) = k + 1 + m from by omega]
    exact this
/-- a counted loop of a method -/
theorem for_lp {α β : Type} {F : Nat → Int32 → α → β} {N : Nat} {step : Nat → α → α} {fin : α → β} (P : Nat → α → Prop) (hs : ∀ n k a, k < N → P k a → F (n + 1) (nI k) a = F n (nI (k + 1)) (step k a) ∧ P (k + 1) (step k a)) (hf : ∀ n a, P N a → F (n + 1) (nI N) a = fin a) : ∀ (m n k : Nat) (a : α), k + m = N → m < n → P k a → F n (nI k) a = fin (lp m k step a) ∧ P N (lp m k step a)
  | 0, n, k, a, hk, hn, p => by
    obtain ⟨n, rfl⟩ : ∃ n', n = n' + 1 := ⟨n - 1, by omega⟩
    have hk : k = N := by omega
    subst hk
    exact ⟨hf n a p, p⟩
  | m + 1, n, k, a, hk, hn, p => by
    obtain ⟨n, rfl⟩ : ∃ n', n = n' + 1 := ⟨n - 1, by omega⟩
    obtain ⟨h1, h2⟩ := hs n k a (by omega) p
    rw [h1, lp_s]
    exact for_lp P hs hf m n (k + 1) (step k a) (by omega) (by omega) h2
theorem for_lp0 {α β : Type} {F : Nat → Int32 → α → β} {N : Nat} {step : Nat → α → α} {fin : α → β} (hs : ∀ n k a, k < N → F (n + 1) (nI k) a = F n (nI (k + 1)) (step k a)) (hf : ∀ n a, F (n + 1) (nI N) a = fin a) {n : Nat} (hn : N < n) (a : α) : F n (nI 0) a = fin (lp N 0 step a) :=
  (for_lp (P := fun _ _ => True) (fun n k a h _ => ⟨hs n k a h, trivial⟩) (fun n a _ => hf n a) N n 0 a (by omega) hn trivial).1
/-- a counted loop with ways out -/
def lx {α β : Type} : Nat → Nat → (Nat → α → β ⊕ α) → (α → β) → α → β
  | 0, _, _, fin, a => fin a
  | m + 1, k, f, fin, a => match f k a with
    | .inl r => r
    | .inr b => lx m (k + 1) f fin b
theorem lx_0 {α β : Type} (k : Nat) (f : Nat → α → β ⊕ α) (fin : α → β) (a : α) : lx 0 k f fin a = fin a := rfl
theorem lx_s {α β : Type} (m k : Nat) (f : Nat → α → β ⊕ α) (fin : α → β) (a : α) : lx (m + 1) k f fin a = (match f k a with
    | .inl r => r
    | .inr b => lx m (k + 1) f fin b) := rfl
theorem lx_congr {α β : Type} (f g : Nat → α → β ⊕ α) (fin : α → β) : ∀ (m k : Nat) (a : α), (∀ j b, k ≤ j → j < k + m → f j b = g j b) → lx m k f fin a = lx m k g fin a
  | 0, _, _, _ => rfl
  | m + 1, k, a, h => by
    rw [lx_s, lx_s, h k a (Nat.le_refl k) (by omega)]
    cases g k a with
    | inl r => rfl
    | inr b => exact lx_congr f g fin m (k + 1) b (fun j c h1 h2 => h j c (by omega) (by omega))
theorem lx_skip {α β : Type} (f : Nat → α → β ⊕ α) (fin : α → β) : ∀ (m q k : Nat) (a : α), (∀ j b, k + m ≤ j → j < k + m + q → f j b = .inr b) → lx (m + q) k f fin a = lx m k f fin a
  | 0, q, k, a, h => by
    induction q generalizing k a with
    | zero => rfl
    | succ q ih =>
      show lx (0 + q + 1) k f fin a = _
      rw [lx_s, h k a (by omega) (by omega)]
      exact ih (k + 1) a (fun j b h1 h2 => h j b (by omega) (by omega))
  | m + 1, q, k, a, h => by
    rw [show m + 1 + q = (m + q) + 1 from by omega, lx_s, lx_s]
    cases f k a with
    | inl r => rfl
    | inr b => exact lx_skip f fin m q (k + 1) b (fun j c h1 h2 => h j c (by omega) (by omega))
theorem for_lx {α β : Type} {F : Nat → Int32 → α → β} {N : Nat} {step : Nat → α → β ⊕ α} {fin : α → β} (P : Nat → α → Prop) (hs : ∀ n k a, k < N → P k a → (F (n + 1) (nI k) a = match step k a with
    | .inl r => r
    | .inr b => F n (nI (k + 1)) b) ∧ ∀ b, step k a = .inr b → P (k + 1) b) (hf : ∀ n a, P N a → F (n + 1) (nI N) a = fin a) : ∀ (m n k : Nat) (a : α), k + m = N → m < n → P k a → F n (nI k) a = lx m k step fin a
  | 0, n, k, a, hk, hn, p => by
    obtain ⟨n, rfl⟩ : ∃ n', n = n' + 1 := ⟨n - 1, by omega⟩
    have hk : k = N := by omega
    subst hk
    exact hf n a p
  | m + 1, n, k, a, hk, hn, p => by
    obtain ⟨n, rfl⟩ : ∃ n', n = n' + 1 := ⟨n - 1, by omega⟩
    obtain ⟨h1, h2⟩ := hs n k a (by omega) p
    rw [h1, lx_s]
    cases e : step k a with
    | inl r => rfl
    | inr b => exact for_lx P hs hf m n (k + 1) b (by omega) (by omega) (h2 b e)
/-- what may change lies in P -/
def Fr (P : LA → Bool) (w w1 : MEM) : Prop := (∀ a, P a = false → fA w1 a = fA w a) ∧ (∀ a, P a = false → rS w1 a = rS w a) ∧ (∀ a, rT w1 a = rT w a) ∧ fL w1 = fL w
theorem Fr.rf (P : LA → Bool) (w : MEM) : Fr P w w := ⟨fun _ _ => rfl, fun _ _ => rfl, fun _ => rfl, rfl⟩
theorem Fr.tr {P : LA → Bool} {w w1 w2 : MEM} (h : Fr P w w1) (g : Fr P w1 w2) : Fr P w w2 := ⟨fun a p => (g.1 a p).trans (h.1 a p), fun a p => (g.2.1 a p).trans (h.2.1 a p), fun a => (g.2.2.1 a).trans (h.2.2.1 a), g.2.2.2.trans h.2.2.2⟩
theorem Fr.mono {P Q : LA → Bool} {w w1 : MEM} (h : Fr P w w1) (hq : ∀ a, P a = true → Q a = true) : Fr Q w w1 := by
  have g : ∀ a, Q a = false → P a = false := fun a q => by
    cases e : P a
    · rfl
    · rw [hq a e] at q; cases q
  exact ⟨fun a q => h.1 a (g a q), fun a q => h.2.1 a (g a q), h.2.2.1, h.2.2.2⟩
theorem Fr.A {P : LA → Bool} {w w1 : MEM} (h : Fr P w w1) {a : LA} (f : Nat → Int32) (p : P a = true) : Fr P w (tA w1 a f) := by
  refine h.tr ⟨fun b q => ?_, fun b q => rfl, fun b => rfl, rfl⟩
  rw [fA_tA, if_neg]
  intro e
  rw [e, p] at q
  cases q
theorem Fr.S {P : LA → Bool} {w w1 : MEM} (h : Fr P w w1) {a : LA} (x : Int32) (p : P a = true) : Fr P w (sS w1 a x) := by
  refine h.tr ⟨fun b q => rfl, fun b q => ?_, fun b => rfl, rfl⟩
  rw [rS_sS, if_neg]
  intro e
  rw [e, p] at q
  cases q
theorem nI_mod {a b : Nat} (ha : a < 2 ^ 31) (hb0 : 0 < b) (hb : b < 2 ^ 31) : nI a - nI a / nI b * nI b = nI (a % b) := by
  have hd : nI a / nI b = nI (a / b) := by
    apply Int32.toInt_inj.mp
    rw [Int32.toInt_div, nI_toInt ha, nI_toInt hb, nI_toInt (Nat.lt_of_le_of_lt (Nat.div_le_self a b) ha)]
    have : ((a : Int)).tdiv (b : Int) = ((a / b : Nat) : Int) := by
      rw [Int.tdiv_eq_ediv_of_nonneg (Int.natCast_nonneg a)]
      rfl
    rw [this]
    have h2 : ((a / b : Nat) : Int) < 2 ^ 31 := by
      have := Nat.div_le_self a b
      omega
    have h3 : (0 : Int) ≤ ((a / b : Nat) : Int) := Int.natCast_nonneg _
    exact Int.bmod_eq_of_le_mul_two (by omega) (by omega)
  rw [hd, nI_mul, nI_sub _ _ (Nat.div_mul_le_self a b)]
  congr 1
  have := Nat.div_add_mod a b
  rw [Nat.mul_comm] at this
  omega
theorem nI_modL {a n : Nat} (ha : a < 2 ^ 31) (hb0 : 0 < (OfNat.ofNat n : Nat)) (hb : (OfNat.ofNat n : Nat) < 2 ^ 31) : nI a - nI a / (no_index (OfNat.ofNat n) : Int32) * (no_index (OfNat.ofNat n) : Int32) = nI (a % (OfNat.ofNat n : Nat)) := nI_mod ha hb0 hb
