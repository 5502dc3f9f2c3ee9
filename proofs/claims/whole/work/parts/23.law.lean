/-! a law's value, in the class and in the model -/
theorem for_rel {α β : Type} {F : Nat → Int32 → α → β} {N : Nat} (P : Nat → α → Prop) (hs : ∀ n k a, k < N → P k a → ∃ b, F (n + 1) (nI k) a = F n (nI (k + 1)) b ∧ P (k + 1) b) : ∀ (m n k : Nat) (a : α), k + m = N → m < n → P k a → ∃ b n1, F n (nI k) a = F (n1 + 1) (nI N) b ∧ P N b
  | 0, n, k, a, hk, hn, p => by
    obtain ⟨n, rfl⟩ : ∃ n', n = n' + 1 := ⟨n - 1, by omega⟩
    have hk : k = N := by omega
    subst hk
    exact ⟨a, n, rfl, p⟩
  | m + 1, n, k, a, hk, hn, p => by
    obtain ⟨n, rfl⟩ : ∃ n', n = n' + 1 := ⟨n - 1, by omega⟩
    obtain ⟨b, h1, h2⟩ := hs n k a (by omega) p
    obtain ⟨c, n1, h3, h4⟩ := for_rel P hs m n (k + 1) b (by omega) (by omega) h2
    exact ⟨c, n1, h1.trans h3, h4⟩
abbrev ALw : Type := Nat × ((Nat → Int32) × (Nat → Int32))
def bothS (c a b : Int32) : Int32 := if c = 2 then a + b else if c = 3 then a - b else if c = 4 then a * b else if c = 5 then (if b = 0 then 0 else a / b) else if c = 8 then (if b = 0 then 0 else a - a / b * b) else if c = 6 then (if a < b then a else b) else (if a < b then b else a)
def evS (L : ALw) (g : Nat → Int32) (i : Nat) (s : Nat × (Nat → Int32)) : Nat × (Nat → Int32) := if L.2.1 i = 0 then (s.1 + 1, upd s.2 s.1 (L.2.2 i)) else if L.2.1 i = 1 then (s.1 + 1, upd s.2 s.1 (g (L.2.2 i).toNatClampNeg)) else (s.1 - 1, upd s.2 (s.1 - 2) (bothS (L.2.1 i) (s.2 (s.1 - 2)) (s.2 (s.1 - 1))))
def evK (L : ALw) (g : Nat → Int32) (k : Nat) : Nat × (Nat → Int32) := lp k 0 (evS L g) (0, fun _ => 0)
theorem evK_s (L : ALw) (g : Nat → Int32) (k : Nat) : evK L g (k + 1) = evS L g k (evK L g k) := by
  unfold evK
  rw [lp_snoc, Nat.zero_add]
def clp (v : Int32) : Int32 := if v < 0 then 0 else if 40 < v then 40 else v
def clv (L : ALw) (g : Nat → Int32) : Int32 := clp ((evK L g L.1).2 0)
def WFl (L : ALw) : Prop := L.1 ≤ 150 ∧ ∃ dp : Nat → Nat, dp 0 = 0 ∧ dp L.1 = 1 ∧ ∀ i < L.1, ((L.2.1 i = 0 ∨ (L.2.1 i = 1 ∧ ∃ j < 9, L.2.2 i = nI j)) ∧ dp (i + 1) = dp i + 1) ∨ ((∃ c, 2 ≤ c ∧ c ≤ 8 ∧ L.2.1 i = nI c) ∧ 2 ≤ dp i ∧ dp (i + 1) + 1 = dp i)
theorem dp_le {L : ALw} {dp : Nat → Nat} (h0 : dp 0 = 0) (h : ∀ i < L.1, ((L.2.1 i = 0 ∨ (L.2.1 i = 1 ∧ ∃ j < 9, L.2.2 i = nI j)) ∧ dp (i + 1) = dp i + 1) ∨ ((∃ c, 2 ≤ c ∧ c ≤ 8 ∧ L.2.1 i = nI c) ∧ 2 ≤ dp i ∧ dp (i + 1) + 1 = dp i)) : ∀ i, i ≤ L.1 → dp i ≤ i
  | 0, _ => by omega
  | i + 1, hi => by
    have := dp_le h0 h i (by omega)
    rcases h i (by omega) with ⟨_, e⟩ | ⟨_, _, e⟩ <;> omega
theorem evK_top {L : ALw} {g : Nat → Int32} {dp : Nat → Nat} (h0 : dp 0 = 0) (h : ∀ i < L.1, ((L.2.1 i = 0 ∨ (L.2.1 i = 1 ∧ ∃ j < 9, L.2.2 i = nI j)) ∧ dp (i + 1) = dp i + 1) ∨ ((∃ c, 2 ≤ c ∧ c ≤ 8 ∧ L.2.1 i = nI c) ∧ 2 ≤ dp i ∧ dp (i + 1) + 1 = dp i)) : ∀ i, i ≤ L.1 → (evK L g i).1 = dp i
  | 0, _ => by rw [h0]; rfl
  | i + 1, hi => by
    have ih := evK_top (g := g) h0 h i (by omega)
    rw [evK_s]
    unfold evS
    rcases h i (by omega) with ⟨e1 | ⟨e1, _⟩, e⟩ | ⟨⟨c, c1, c2, ec⟩, h2, e⟩
    · rw [if_pos e1, e, ← ih]
    · rw [if_neg (by rw [e1]; decide), if_pos e1, e, ← ih]
    · rw [if_neg (by rw [ec]; intro e9; have := (nI_eq (a := c) (b := 0) (by omega) (by omega)).mp e9; omega), if_neg (by rw [ec]; intro e9; have := (nI_eq (a := c) (b := 1) (by omega) (by omega)).mp e9; omega)]
      show (evK L g i).1 - 1 = _
      rw [ih]; omega
def kmap (c : Int32) : Int32 := if c = 0 then 0 else if c = 1 then 1 else if c = 2 then 43 else if c = 3 then 45 else if c = 4 then 42 else if c = 5 then 47 else if c = 6 then 2 else if c = 7 then 3 else 37
/-- the class's law holds a program; the model's does -/
def LawC (w : MEM) (l : Nat) (L : ALw) : Prop := rS w (10304, l) = nI L.1 ∧ ∀ i < L.1, fA w (301, l) i = kmap (L.2.1 i) ∧ fA w (302, l) i = L.2.2 i
def usual : ALw := (7, ((fun i => match i with
  | 0 => 1
  | 1 => 0
  | 2 => 4
  | 3 => 1
  | 4 => 2
  | 5 => 1
  | _ => 3), (fun i => match i with
  | 0 => 0
  | 1 => 2
  | 2 => 0
  | 3 => 1
  | 4 => 0
  | 5 => 2
  | _ => 0)))
def LawM (w : MEM) (L : ALw) : Prop := (rS w (11032, 842) = 0 ∧ L = usual) ∨ (0 < L.1 ∧ rS w (11032, 842) = nI L.1 ∧ ∀ i < L.1, fA w (1013, 842) i = L.2.1 i ∧ fA w (1014, 842) i = L.2.2 i)
theorem i8 {c : Nat} (h1 : 2 ≤ c) (h2 : c ≤ 8) : c = 2 ∨ c = 3 ∨ c = 4 ∨ c = 5 ∨ c = 6 ∨ c = 7 ∨ c = 8 := by omega
theorem joined_ok (fu c : Nat) (h1 : 2 ≤ c) (h2 : c ≤ 8) (a b : Int32) (w : MEM) : f_X3_joined fu (kmap (nI c)) a b w = some (bothS (nI c) a b, w) := by
  have hlt : (if b < a then some (a, w) else some (b, w)) = some ((if a < b then b else a), w) := by
    by_cases c1 : a < b
    · rw [if_pos c1, if_neg (fun c2 => absurd (Int32.lt_iff_toInt_lt.mp c1) (by have := Int32.lt_iff_toInt_lt.mp c2; omega))]
    · rw [if_neg c1]
      by_cases c2 : b < a
      · rw [if_pos c2]
      · rw [if_neg c2]
        have : a = b := by
          apply Int32.toInt_inj.mp
          rw [Int32.lt_iff_toInt_lt] at c1 c2
          omega
        rw [this]
  rcases i8 h1 h2 with e | e | e | e | e | e | e <;> subst e
  · rw [E_X3_joined]; rfl
  · rw [E_X3_joined]; rfl
  · rw [E_X3_joined]; rfl
  · rw [E_X3_joined, show kmap (nI 5) = 47 from rfl, show bothS (nI 5) a b = (if b = 0 then 0 else a / b) from rfl]
    by_cases hb : b = 0
    · simp [hb]
    · simp [hb]
  · rw [E_X3_joined, show kmap (nI 6) = 2 from rfl, show bothS (nI 6) a b = (if a < b then a else b) from rfl, if_pos rfl]
    split <;> rfl
  · rw [E_X3_joined, show kmap (nI 7) = 3 from rfl, show bothS (nI 7) a b = (if a < b then b else a) from rfl, ← hlt]
    rfl
  · rw [E_X3_joined, show kmap (nI 8) = 37 from rfl, show bothS (nI 8) a b = (if b = 0 then 0 else a - a / b * b) from rfl]
    by_cases hb : b = 0
    · simp [hb]
    · simp [hb]
theorem both_ok (fu c : Nat) (h1 : 2 ≤ c) (h2 : c ≤ 8) (a b : Int32) (w : MEM) : f_X10_both fu (nI c) a b w = some (bothS (nI c) a b, w) := by
  rcases i8 h1 h2 with e | e | e | e | e | e | e <;> subst e
  · rw [E_X10_both]; rfl
  · rw [E_X10_both]; rfl
  · rw [E_X10_both]; rfl
  · rw [E_X10_both, show nI 5 = 5 from rfl, show bothS 5 a b = (if b = 0 then 0 else a / b) from rfl]
    by_cases hb : b = 0
    · simp [hb]
    · simp [hb]
  · rw [E_X10_both, show nI 6 = 6 from rfl, show bothS 6 a b = (if a < b then a else b) from rfl]
    by_cases hb : a < b
    · simp [hb]
    · simp [hb]
  · rw [E_X10_both, show nI 7 = 7 from rfl, show bothS 7 a b = (if a < b then b else a) from rfl]
    by_cases hb : a < b
    · simp [hb]
    · simp [hb]
  · rw [E_X10_both, show nI 8 = 8 from rfl, show bothS 8 a b = (if b = 0 then 0 else a - a / b * b) from rfl]
    by_cases hb : b = 0
    · simp [hb]
    · simp [hb]
def pStC (l : Nat) : LA → Bool := fun a => Nat.beq a.1 303 && Nat.beq a.2 l
def pStM : LA → Bool := fun a => Nat.beq a.1 1015 && Nat.beq a.2 842
theorem clp_C (fu : Nat) (v : Int32) (w : MEM) : (bnd (f_J9_min_7cf53 fu (40 : Int32) v w) fun (x6 : Int32) (w5 : MEM) => bnd (f_J9_max_7cf53 fu (0 : Int32) x6 w5) fun (x8 : Int32) (w7 : MEM) => some (x8, w7)) = some (clp v, w) := by
  rw [E_J9_min_7cf53]
  unfold clp
  by_cases h : v < 40
  · rw [if_pos h, bnd_some, E_J9_max_7cf53]
    have h9 : ¬ (40 : Int32) < v := fun c => absurd (Int32.lt_iff_toInt_lt.mp h) (by have := Int32.lt_iff_toInt_lt.mp c; omega)
    by_cases h2 : (0 : Int32) < v
    · rw [if_pos h2, bnd_some, if_neg (fun c => absurd (Int32.lt_iff_toInt_lt.mp h2) (by have := Int32.lt_iff_toInt_lt.mp c; omega)), if_neg h9]
    · rw [if_neg h2, bnd_some]
      by_cases h3 : v < 0
      · rw [if_pos h3]
      · rw [if_neg h3, if_neg h9]
        have : v = 0 := by
          apply Int32.toInt_inj.mp
          rw [Int32.lt_iff_toInt_lt] at h2 h3
          omega
        rw [this]
  · rw [if_neg h, bnd_some, E_J9_max_7cf53, if_pos (by decide), bnd_some]
    rw [Int32.lt_iff_toInt_lt] at h
    have e40 : (40 : Int32).toInt = 40 := by decide
    have e0 : (0 : Int32).toInt = 0 := by decide
    rw [if_neg (by rw [Int32.lt_iff_toInt_lt]; omega)]
    by_cases h3 : (40 : Int32) < v
    · rw [if_pos h3]
    · rw [if_neg h3]
      have : v = 40 := by
        apply Int32.toInt_inj.mp
        rw [Int32.lt_iff_toInt_lt] at h3
        omega
      rw [this]
