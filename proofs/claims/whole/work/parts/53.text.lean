/-! texts: places and words -/
def SK (T : Nat → Nat) (N p q : Nat) : Prop := p ≤ q ∧ q ≤ N ∧ (∀ j, p ≤ j → j < q → T j = 32) ∧ (q < N → T q ≠ 32)
theorem sk_ex (T : Nat → Nat) (N : Nat) : ∀ f p, p ≤ N → N - p ≤ f → ∃ q, SK T N p q
  | 0, p, h1, h2 => ⟨p, Nat.le_refl _, h1, fun j h3 h4 => by omega, fun h => by omega⟩
  | f + 1, p, h1, h2 => by
    by_cases c : p < N ∧ T p = 32
    · obtain ⟨q, q1, q2, q3, q4⟩ := sk_ex T N f (p + 1) (by omega) (by omega)
      refine ⟨q, by omega, q2, fun j h3 h4 => ?_, q4⟩
      by_cases e : j = p
      · rw [e]; exact c.2
      · exact q3 j (by omega) h4
    · exact ⟨p, Nat.le_refl _, h1, fun j h3 h4 => by omega, fun h e => c ⟨h, e⟩⟩
theorem SK.idem {T : Nat → Nat} {N p q : Nat} (h : SK T N p q) : SK T N q q := ⟨Nat.le_refl _, h.2.1, fun j h1 h2 => by omega, h.2.2.2⟩
def pTx (a : LA) : Bool := (Nat.beq a.1 10803 || (Nat.beq a.1 10804 || (Nat.beq a.1 10805 || Nat.beq a.1 10806))) && Nat.beq a.2 1
def pTm (a : LA) : Bool := (Nat.beq a.1 11004 || (Nat.beq a.1 11005 || Nat.beq a.1 11006)) && Nat.beq a.2 842
def TXC (w : MEM) (T : Nat → Nat) (N p : Nat) : Prop := N ≤ 600 ∧ p ≤ N ∧ rS w (10802, 1) = nI N ∧ rS w (10803, 1) = nI p ∧ rS w (10806, 1) = -1 ∧ ∀ k < N, T k < 256 ∧ fA w (801, 1) k = sb_b (T k)
def TXM (w : MEM) (T : Nat → Nat) (N p : Nat) : Prop := N ≤ 600 ∧ p ≤ N ∧ rS w (11003, 842) = nI N ∧ rS w (11004, 842) = nI p ∧ rS w (11005, 842) = -1 ∧ ∀ k < N, T k < 256 ∧ fA w (1002, 842) k = nI (T k)
def TFC (w : MEM) (k q : Nat) : Prop := rS w (10805, 1) = nI k ∧ rS w (10806, 1) = nI q
def TPM (w : MEM) : Prop := ∃ (T : Nat → Nat) (N p : Nat), N ≤ 600 ∧ p ≤ N ∧ rS w (11003, 842) = nI N ∧ rS w (11004, 842) = nI p ∧ ∀ k < N, T k < 256 ∧ fA w (1002, 842) k = nI (T k)
theorem TXM.p {w : MEM} {T : Nat → Nat} {N p : Nat} (h : TXM w T N p) : TPM w := ⟨T, N, p, h.1, h.2.1, h.2.2.1, h.2.2.2.1, h.2.2.2.2.2⟩
def TFM (w : MEM) (k q : Nat) : Prop := (q ≤ 600 ∧ TPM w) ∧ rS w (11006, 842) = nI k ∧ rS w (11005, 842) = nI q
theorem TXC.at {w : MEM} {T : Nat → Nat} {N p q : Nat} (h : TXC w T N p) (hq : q ≤ N) : TXC (sS w (10803, 1) (nI q)) T N q := by
  obtain ⟨h1, h2, h3, h4, h5, h6⟩ := h
  refine ⟨h1, hq, ?_, ?_, ?_, h6⟩
  · rw [rS_sS, if_neg (by decide)]; exact h3
  · rw [rS_sS, if_pos rfl]
  · rw [rS_sS, if_neg (by decide)]; exact h5
theorem TXC.st {w : MEM} {T : Nat → Nat} {N p : Nat} (h : TXC w T N p) (x : Int32) : TXC (sS w (10804, 1) x) T N p := by
  obtain ⟨h1, h2, h3, h4, h5, h6⟩ := h
  refine ⟨h1, h2, ?_, ?_, ?_, h6⟩
  · rw [rS_sS, if_neg (by decide)]; exact h3
  · rw [rS_sS, if_neg (by decide)]; exact h4
  · rw [rS_sS, if_neg (by decide)]; exact h5
theorem TXM.at {w : MEM} {T : Nat → Nat} {N p q : Nat} (h : TXM w T N p) (hq : q ≤ N) : TXM (sS w (11004, 842) (nI q)) T N q := by
  obtain ⟨h1, h2, h3, h4, h5, h6⟩ := h
  refine ⟨h1, hq, ?_, ?_, ?_, h6⟩
  · rw [rS_sS, if_neg (by decide)]; exact h3
  · rw [rS_sS, if_pos rfl]
  · rw [rS_sS, if_neg (by decide)]; exact h5
theorem TXC.fr {w w1 : MEM} {T : Nat → Nat} {N p : Nat} {P : LA → Bool} (h : TXC w T N p) (g : Fr P w w1) (p1 : P (10802, 1) = false) (p2 : P (10803, 1) = false) (p3 : P (10806, 1) = false) (p4 : P (801, 1) = false) : TXC w1 T N p := by
  unfold TXC
  rw [g.2.1 _ p1, g.2.1 _ p2, g.2.1 _ p3, g.1 _ p4]
  exact h
theorem TXM.fr {w w1 : MEM} {T : Nat → Nat} {N p : Nat} {P : LA → Bool} (h : TXM w T N p) (g : Fr P w w1) (p1 : P (11003, 842) = false) (p2 : P (11004, 842) = false) (p3 : P (11005, 842) = false) (p4 : P (1002, 842) = false) : TXM w1 T N p := by
  unfold TXM
  rw [g.2.1 _ p1, g.2.1 _ p2, g.2.1 _ p3, g.1 _ p4]
  exact h
theorem TFM.fr {w w1 : MEM} {k q : Nat} {P : LA → Bool} (h : TFM w k q) (g : Fr P w w1) (p1 : P (11005, 842) = false) (p2 : P (11006, 842) = false) (p3 : P (11003, 842) = false) (p4 : P (11004, 842) = false) (p5 : P (1002, 842) = false) : TFM w1 k q := by
  unfold TFM TPM
  rw [g.2.1 _ p1, g.2.1 _ p2, g.2.1 _ p3, g.2.1 _ p4, g.1 _ p5]
  exact h
def pk (T : Nat → Nat) (N q : Nat) : Int32 := if q < N then nI (T q) else -1
theorem sb_sp : ∀ t < 256, (sb_b t = 32) ↔ t = 32 := by decide +kernel
theorem C_peek {w : MEM} {T : Nat → Nat} {N p q : Nat} (h : TXC w T N p) (s : SK T N p q) : ∃ w1, f_X8_peek 3000 1 w = some (pk T N q, w1) ∧ TXC w1 T N q ∧ rS w1 (10804, 1) = nI q ∧ Fr pTx w w1 := by
  have key : ∀ m n p w, p + m = q → m < n → TXC w T N p → SK T N p q → ∃ w1, f_X8_peek_0 3000 n 1 w = some (pk T N q, w1) ∧ TXC w1 T N q ∧ rS w1 (10804, 1) = nI q ∧ Fr pTx w w1 := by
    intro m
    induction m with
    | zero =>
      intro n p w hp hn h s
      obtain ⟨n, rfl⟩ : ∃ n', n = n' + 1 := ⟨n - 1, by omega⟩
      have hp : p = q := by omega
      subst hp
      obtain ⟨h1, h2, h3, h4, h5, h6⟩ := h
      have hh : TXC w T N p := ⟨h1, h2, h3, h4, h5, h6⟩
      have g1 := hh.st (nI p)
      refine ⟨sS w (10804, 1) (nI p), ?_, g1, by rw [rS_sS, if_pos rfl], Fr.S (a := (10804, 1)) (Fr.rf _ _) _ rfl⟩
      rw [E_X8_peek_0, h3, h4]
      unfold pk
      by_cases c : p < N
      · have ht := (h6 p c).1
        rw [if_pos (by rw [nlt _ _ (by omega) (by omega)]; exact c), bIn _ _ (by omega), decide_eq_true (show p < 600 by omega), ck_tr, rAn _ _ _ (by omega), (h6 p c).2, if_neg (fun e => s.2.2.2 c ((sb_sp _ ht).mp e)), lt_eq, g1.2.2.1, g1.2.2.2.1, if_pos (by rw [nlt _ _ (by omega) (by omega)]; exact c), bIn _ _ (by omega), decide_eq_true (show p < 600 by omega), ck_tr, rAn _ _ _ (by omega), (g1.2.2.2.2.2 p c).2, (sb_byte _ ht).1, if_pos c]
      · rw [if_neg (by rw [nlt _ _ (by omega) (by omega)]; exact c), lt_eq, g1.2.2.1, g1.2.2.2.1, if_neg (by rw [nlt _ _ (by omega) (by omega)]; exact c), if_neg c]
    | succ m ih =>
      intro n p w hp hn h s
      obtain ⟨n, rfl⟩ : ∃ n', n = n' + 1 := ⟨n - 1, by omega⟩
      have hlt : p < N := by have := s.2.1; omega
      have ht := (h.2.2.2.2.2 p hlt).1
      have e32 := s.2.2.1 p (Nat.le_refl _) (by omega)
      have hN := h.1
      have g1 := h.at (q := p + 1) (by omega)
      obtain ⟨w1, k1, k2, k3, k4⟩ := ih n (p + 1) _ (by omega) (by omega) g1 ⟨by omega, s.2.1, fun j h1 h2 => s.2.2.1 j (by omega) h2, s.2.2.2⟩
      refine ⟨w1, ?_, k2, k3, (Fr.S (a := (10803, 1)) (Fr.rf _ _) _ rfl).tr k4⟩
      rw [E_X8_peek_0, h.2.2.1, h.2.2.2.1, if_pos (by rw [nlt _ _ (by omega) (by omega)]; exact hlt), bIn _ _ (by omega), decide_eq_true (show p < 600 by omega), ck_tr, rAn _ _ _ (by omega), (h.2.2.2.2.2 p hlt).2, if_pos ((sb_sp _ ht).mpr e32), lt_eq, naddL]
      exact k1
  have hN := h.1
  have h1 := s.1
  have h2 := s.2.1
  exact key (q - p) 3000 p w (by omega) (by omega) h s
def hr (T : Nat → Nat) (N q : Nat) : Int32 := if q < N then nI (T q) else 0
theorem M_here {w : MEM} {T : Nat → Nat} {N p q : Nat} (h : TXM w T N p) (s : SK T N p q) : ∃ w1, f_X10_here 3000 842 w = some (hr T N q, w1) ∧ TXM w1 T N q ∧ Fr pTm w w1 := by
  have key : ∀ m n p w, p + m = q → m < n → TXM w T N p → SK T N p q → ∃ w1, f_X10_here_0 3000 n 842 w = some (hr T N q, w1) ∧ TXM w1 T N q ∧ Fr pTm w w1 := by
    intro m
    induction m with
    | zero =>
      intro n p w hp hn h s
      obtain ⟨n, rfl⟩ : ∃ n', n = n' + 1 := ⟨n - 1, by omega⟩
      have hp : p = q := by omega
      subst hp
      refine ⟨w, ?_, h, Fr.rf _ _⟩
      obtain ⟨h1, h2, h3, h4, h5, h6⟩ := h
      rw [E_X10_here_0, h3, h4]
      unfold hr
      by_cases c : p < N
      · have ht := (h6 p c).1
        rw [if_pos (by rw [nlt _ _ (by omega) (by omega)]; exact c), bIn _ _ (by omega), decide_eq_true (show p < 600 by omega), ck_tr, rAn _ _ _ (by omega), (h6 p c).2, if_neg (by rw [neqL _ _ (by omega) (by decide)]; exact s.2.2.2 c), if_pos (by rw [nlt _ _ (by omega) (by omega)]; exact c), ck_tr, if_pos c]
      · rw [if_neg (by rw [nlt _ _ (by omega) (by omega)]; exact c), if_neg (by rw [nlt _ _ (by omega) (by omega)]; exact c), if_neg c]
    | succ m ih =>
      intro n p w hp hn h s
      obtain ⟨n, rfl⟩ : ∃ n', n = n' + 1 := ⟨n - 1, by omega⟩
      have hlt : p < N := by have := s.2.1; omega
      have ht := (h.2.2.2.2.2 p hlt).1
      have e32 := s.2.2.1 p (Nat.le_refl _) (by omega)
      have hN := h.1
      have g1 := h.at (q := p + 1) (by omega)
      obtain ⟨w1, k1, k2, k4⟩ := ih n (p + 1) _ (by omega) (by omega) g1 ⟨by omega, s.2.1, fun j h1 h2 => s.2.2.1 j (by omega) h2, s.2.2.2⟩
      refine ⟨w1, ?_, k2, (Fr.S (a := (11004, 842)) (Fr.rf _ _) _ rfl).tr k4⟩
      rw [E_X10_here_0, h.2.2.1, h.2.2.2.1, if_pos (by rw [nlt _ _ (by omega) (by omega)]; exact hlt), bIn _ _ (by omega), decide_eq_true (show p < 600 by omega), ck_tr, rAn _ _ _ (by omega), (h.2.2.2.2.2 p hlt).2, if_pos (by rw [e32]; rfl), lt_eq, naddL]
      exact k1
  have hN := h.1
  have h1 := s.1
  have h2 := s.2.1
  exact key (q - p) 3000 p w (by omega) (by omega) h s
theorem C_refuse {w : MEM} {q : Nat} (k : Nat) (h : rS w (10804, 1) = nI q) : ∃ w1, f_X8_refuse 3000 1 (nI k) w = some (0, w1) ∧ TFC w1 k q ∧ Fr pTx w w1 := by
  refine ⟨sS (sS w (10805, 1) (nI k)) (10806, 1) (nI q), ?_, ⟨?_, ?_⟩, Fr.S (a := (10806, 1)) (Fr.S (a := (10805, 1)) (Fr.rf _ _) _ rfl) _ rfl⟩
  · have hne : ¬ (((10804, 1) : LA) = (10805, 1)) := by decide
    rw [E_X8_refuse, lt_eq, rS_sS, if_neg hne, h, lt_eq]
  · rw [rS_sS, if_neg (by decide), rS_sS, if_pos rfl]
  · rw [rS_sS, if_pos rfl]
theorem M_wrong {w : MEM} {q : Nat} {T : Nat → Nat} {N p : Nat} (k : Nat) (hq : q ≤ 600) (h : TXM w T N p) : ∃ w1, f_X10_wrong 3000 842 (nI k) (nI q) w = some ((), w1) ∧ TFM w1 k q ∧ Fr pTm w w1 := by
  refine ⟨sS (sS w (11005, 842) (nI q)) (11006, 842) (nI k), ?_, ⟨⟨hq, h.p⟩, ?_, ?_⟩, Fr.S (a := (11006, 842)) (Fr.S (a := (11005, 842)) (Fr.rf _ _) _ rfl) _ rfl⟩
  · rw [E_X10_wrong, if_pos h.2.2.2.2.1, lt_eq, lt_eq]
  · rw [rS_sS, if_pos rfl]
  · rw [rS_sS, if_neg (by decide), rS_sS, if_pos rfl]
theorem ne_m1 {q : Nat} (hq : q ≤ 100000) : ¬ nI q = -1 := by
  intro e
  have : ¬ nI q < 0 := nI_pos (by omega)
  rw [e] at this
  exact this (by decide)
theorem M_wrongF {w : MEM} {k q : Nat} (x y : Int32) (h : TFM w k q) : f_X10_wrong 3000 842 x y w = some ((), w) := by
  have := h.1.1
  rw [E_X10_wrong, h.2.2, if_neg (ne_m1 (by omega))]
theorem M_fine {w : MEM} (h : rS w (11005, 842) = -1) : f_X10_fine 3000 842 w = some (1, w) := by
  rw [E_X10_fine, if_pos h]
theorem M_fineF {w : MEM} {k q : Nat} (h : TFM w k q) : f_X10_fine 3000 842 w = some (0, w) := by
  have := h.1.1
  rw [E_X10_fine, h.2.2, if_neg (ne_m1 (by omega))]
theorem C_sign {w : MEM} {T : Nat → Nat} {N p q c : Nat} (h : TXC w T N p) (s : SK T N p q) (hc : c < 128) : (q < N ∧ T q = c ∧ ∃ w1, f_X8_needSign 3000 1 (nI c) w = some (1, w1) ∧ TXC w1 T N (q + 1) ∧ Fr pTx w w1) ∨ (¬ (q < N ∧ T q = c) ∧ ∃ w1, f_X8_needSign 3000 1 (nI c) w = some (0, w1) ∧ TFC w1 1 q ∧ Fr pTx w w1) := by
  obtain ⟨w1, k1, k2, k3, k4⟩ := C_peek h s
  have hN := h.1
  rw [E_X8_needSign, k1, bnd_some]
  unfold pk
  by_cases d : q < N
  · have ht := (h.2.2.2.2.2 q d).1
    by_cases e : T q = c
    · left
      refine ⟨d, e, sS w1 (10803, 1) (nI (q + 1)), ?_, k2.at (by omega), k4.tr (Fr.S (a := (10803, 1)) (Fr.rf _ _) _ rfl)⟩
      rw [if_pos d, e, if_pos rfl, lt_eq, k2.2.2.2.1, naddL]
    · right
      obtain ⟨w2, y1, y2, y3⟩ := C_refuse 1 k3
      refine ⟨fun x => e x.2, w2, ?_, y2, k4.tr y3⟩
      have y1 : f_X8_refuse 3000 1 1 w1 = some (0, w2) := y1
      rw [if_pos d, if_neg (by rw [neqI _ _ (by omega) (by omega)]; exact e), y1, bnd_some, b01_0, ck_tr]
  · right
    obtain ⟨w2, y1, y2, y3⟩ := C_refuse 1 k3
    refine ⟨fun x => d x.1, w2, ?_, y2, k4.tr y3⟩
    have y1 : f_X8_refuse 3000 1 1 w1 = some (0, w2) := y1
    rw [if_neg d, if_neg (fun e => ne_m1 (q := c) (by omega) e.symm), y1, bnd_some, b01_0, ck_tr]
theorem C_take {w : MEM} {T : Nat → Nat} {N p q c : Nat} (h : TXC w T N p) (s : SK T N p q) (hc : c < 128) : (q < N ∧ T q = c ∧ ∃ w1, f_X8_takeSign 3000 1 (nI c) w = some (1, w1) ∧ TXC w1 T N (q + 1) ∧ rS w1 (10804, 1) = nI q ∧ Fr pTx w w1) ∨ (¬ (q < N ∧ T q = c) ∧ ∃ w1, f_X8_takeSign 3000 1 (nI c) w = some (0, w1) ∧ TXC w1 T N q ∧ rS w1 (10804, 1) = nI q ∧ Fr pTx w w1) := by
  obtain ⟨w1, k1, k2, k3, k4⟩ := C_peek h s
  have hN := h.1
  rw [E_X8_takeSign, k1, bnd_some]
  unfold pk
  by_cases d : q < N
  · have ht := (h.2.2.2.2.2 q d).1
    by_cases e : T q = c
    · left
      refine ⟨d, e, sS w1 (10803, 1) (nI (q + 1)), ?_, k2.at (by omega), ?_, k4.tr (Fr.S (a := (10803, 1)) (Fr.rf _ _) _ rfl)⟩
      · rw [if_pos d, e, if_pos rfl, lt_eq, k2.2.2.2.1, naddL]
      · rw [rS_sS, if_neg (by decide)]; exact k3
    · right
      refine ⟨fun x => e x.2, w1, ?_, k2, k3, k4⟩
      rw [if_pos d, if_neg (by rw [neqI _ _ (by omega) (by omega)]; exact e)]
  · right
    refine ⟨fun x => d x.1, w1, ?_, k2, k3, k4⟩
    rw [if_neg d, if_neg (fun e => ne_m1 (q := c) (by omega) e.symm)]
theorem C_end {w : MEM} {T : Nat → Nat} {N p q : Nat} (h : TXC w T N p) (s : SK T N p q) : (q = N ∧ ∃ w1, f_X8_needEnd 3000 1 w = some (1, w1) ∧ TXC w1 T N q ∧ Fr pTx w w1) ∨ (q < N ∧ ∃ w1, f_X8_needEnd 3000 1 w = some (0, w1) ∧ TFC w1 1 q ∧ Fr pTx w w1) := by
  obtain ⟨w1, k1, k2, k3, k4⟩ := C_peek h s
  have hN := h.1
  rw [E_X8_needEnd, k1, bnd_some]
  unfold pk
  by_cases d : q < N
  · have ht := (h.2.2.2.2.2 q d).1
    right
    obtain ⟨w2, y1, y2, y3⟩ := C_refuse 1 k3
    refine ⟨d, w2, ?_, y2, k4.tr y3⟩
    have y1 : f_X8_refuse 3000 1 1 w1 = some (0, w2) := y1
    rw [if_pos d, if_neg (ne_m1 (by omega)), y1, bnd_some, if_pos rfl]
  · left
    refine ⟨by have := s.2.1; omega, w1, ?_, k2, k4⟩
    rw [if_neg d, if_pos rfl]
theorem M_sign {w : MEM} {T : Nat → Nat} {N p q c : Nat} (h : TXM w T N p) (s : SK T N p q) (hc : c < 128) (h0 : 0 < c) : (q < N ∧ T q = c ∧ ∃ w1, f_X10_sign 3000 842 (nI c) w = some ((), w1) ∧ TXM w1 T N (q + 1) ∧ Fr pTm w w1) ∨ (¬ (q < N ∧ T q = c) ∧ ∃ w1, f_X10_sign 3000 842 (nI c) w = some ((), w1) ∧ TFM w1 1 q ∧ Fr pTm w w1) := by
  obtain ⟨w1, k1, k2, k4⟩ := M_here h s
  have hN := h.1
  have hq := s.2.1
  rw [E_X10_sign, M_fine h.2.2.2.2.1, bnd_some, if_neg (by decide), k1, bnd_some]
  unfold hr
  by_cases d : q < N ∧ T q = c
  · left
    refine ⟨d.1, d.2, sS w1 (11004, 842) (nI (q + 1)), ?_, k2.at (by omega), k4.tr (Fr.S (a := (11004, 842)) (Fr.rf _ _) _ rfl)⟩
    rw [if_pos d.1, d.2, if_pos rfl, M_fine k2.2.2.2.2.1, bnd_some, if_neg (by decide), lt_eq, k2.2.2.2.1, naddL]
  · right
    obtain ⟨w2, y1, y2, y3⟩ := M_wrong 1 (q := q) (by omega) k2
    refine ⟨d, w2, ?_, y2, k4.tr y3⟩
    have y1 : f_X10_wrong 3000 842 1 (nI q) w1 = some ((), w2) := y1
    have hne : ¬ (if q < N then nI (T q) else 0) = nI c := by
      by_cases d1 : q < N
      · have ht := (h.2.2.2.2.2 q d1).1
        rw [if_pos d1, neqI _ _ (by omega) (by omega)]
        exact fun e => d ⟨d1, e⟩
      · rw [if_neg d1]
        intro e
        exact nI_ne0 h0 (by omega) e.symm
    rw [if_neg hne, k2.2.2.2.1, y1, bnd_some, M_fineF y2, bnd_some, if_pos rfl]
theorem M_signF {w : MEM} {k q : Nat} (x : Int32) (h : TFM w k q) : f_X10_sign 3000 842 x w = some ((), w) := by
  rw [E_X10_sign, M_fineF h, bnd_some, if_pos rfl, M_fineF h, bnd_some, if_pos rfl]
theorem M_more {w : MEM} {T : Nat → Nat} {N p q : Nat} (h : TXM w T N p) (s : SK T N p q) : ∃ w1, f_X10_isMore 3000 842 w = some (if q < N then 1 else 0, w1) ∧ TXM w1 T N q ∧ Fr pTm w w1 := by
  obtain ⟨w1, k1, k2, k4⟩ := M_here h s
  have hN := h.1
  have hq := s.2.1
  refine ⟨w1, ?_, k2, k4⟩
  rw [E_X10_isMore, k1, bnd_some, k2.2.2.1, k2.2.2.2.1]
  simp (disch := omega) only [nlt]
  split <;> rfl
/-! numbers -/
def dg (t : Nat) : Prop := 48 ≤ t ∧ t ≤ 57
def RD (T : Nat → Nat) (N q r : Nat) : Prop := q ≤ r ∧ r ≤ N ∧ (∀ j, q ≤ j → j < r → 48 ≤ T j ∧ T j ≤ 57) ∧ (r < N → ¬ (48 ≤ T r ∧ T r ≤ 57))
theorem rd_ex (T : Nat → Nat) (N : Nat) : ∀ f p, p ≤ N → N - p ≤ f → ∃ q, RD T N p q
  | 0, p, h1, h2 => ⟨p, Nat.le_refl _, h1, fun j h3 h4 => by omega, fun h => by omega⟩
  | f + 1, p, h1, h2 => by
    by_cases c : p < N ∧ (48 ≤ T p ∧ T p ≤ 57)
    · obtain ⟨q, q1, q2, q3, q4⟩ := rd_ex T N f (p + 1) (by omega) (by omega)
      refine ⟨q, by omega, q2, fun j h3 h4 => ?_, q4⟩
      by_cases e : j = p
      · rw [e]; exact c.2
      · exact q3 j (by omega) h4
    · exact ⟨p, Nat.le_refl _, h1, fun j h3 h4 => by omega, fun h e => c ⟨h, e⟩⟩
def dv (T : Nat → Nat) (q n : Nat) : Nat := lp n 0 (fun k v => v * 10 + (T (q + k) - 48)) 0
theorem dv_s (T : Nat → Nat) (q n : Nat) : dv T q (n + 1) = dv T q n * 10 + (T (q + n) - 48) := by
  unfold dv
  rw [lp_snoc, Nat.zero_add]
def mn (a : Nat) : Nat := if a < 10000 then a else 10000
theorem sb_lo : ∀ t < 256, (sb_b t < 48) ↔ (t < 48 ∨ 128 ≤ t) := by decide +kernel
theorem sb_hi : ∀ t < 256, (57 < sb_b t) ↔ (57 < t ∧ t < 128) := by decide +kernel
theorem sb_pos : ∀ t < 128, sb_b t = nI t := by decide +kernel
theorem min10 (v : Nat) (hv : v < 2 ^ 31) (w : MEM) : f_J9_min_7cf53 3000 (nI v) (10000 : Int32) w = some (nI (mn v), w) := by
  rw [E_J9_min_7cf53]
  unfold mn
  by_cases c : v < 10000
  · rw [if_neg (by rw [nLlt _ _ (by omega) (by decide)]; omega), if_pos c]
  · rw [if_neg c]
    by_cases c2 : 10000 < v
    · rw [if_pos (by rw [nLlt _ _ (by omega) (by decide)]; exact c2)]
      rfl
    · rw [if_neg (by rw [nLlt _ _ (by omega) (by decide)]; exact c2), show v = 10000 by omega]
theorem hi_lt {hi : Int32} {n v : Nat} (eh : hi = nI n - 1) (hn : n ≤ 1000) (hv : v ≤ 100000) : (hi < nI v) = (n ≤ v) := by
  subst eh
  by_cases c : n = 0
  · subst c
    have : (nI 0 - 1 : Int32) = -1 := by decide
    rw [this]
    apply propext
    constructor
    · intro _; omega
    · intro _
      exact lt_tr (b := 0) (by decide) (nI_pos' (by omega))
  · rw [show nI n - (1 : Int32) = nI (n - 1) from nI_sub n 1 (by omega), nlt _ _ (by omega) (by omega)]
    apply propext
    omega
theorem C_num {w : MEM} {T : Nat → Nat} {N p q r lo n : Nat} {hi : Int32} (h : TXC w T N p) (s : SK T N p q) (d : RD T N q r) (hlo : lo ≤ 1) (eh : hi = nI n - 1) (hn : n ≤ 1000) : (q < r ∧ lo ≤ dv T q (r - q) ∧ dv T q (r - q) < n ∧ ∃ w1, f_X8_number 3000 1 (nI lo) hi w = some (nI (dv T q (r - q)), w1) ∧ TXC w1 T N r ∧ Fr pTx w w1 ∧ rS w1 (10804, 1) = nI q) ∨ (q < r ∧ ¬ (lo ≤ dv T q (r - q) ∧ dv T q (r - q) < n) ∧ ∃ w1, f_X8_number 3000 1 (nI lo) hi w = some (-1, w1) ∧ TFC w1 2 q ∧ Fr pTx w w1) ∨ (q = r ∧ ∃ w1, f_X8_number 3000 1 (nI lo) hi w = some (-1, w1) ∧ TFC w1 1 q ∧ Fr pTx w w1) := by
  obtain ⟨w1, k1, k2, k3, k4⟩ := C_peek h s
  have hN := h.1
  have hq := s.2.1
  obtain ⟨d1, d2, d3, d4⟩ := d
  rw [E_X8_number, k1, bnd_some]
  by_cases c0 : q = r
  · right; right
    obtain ⟨w2, y1, y2, y3⟩ := C_refuse 1 k3
    refine ⟨c0, w2, ?_, y2, k4.tr y3⟩
    have y1 : f_X8_refuse 3000 1 1 w1 = some (0, w2) := y1
    unfold pk
    by_cases d5 : q < N
    · have ht := (h.2.2.2.2.2 q d5).1
      have hnd := d4 (by omega)
      rw [← c0] at hnd
      rw [if_pos d5]
      by_cases c1 : T q < 48
      · rw [if_pos (by rw [nltL _ _ (by omega) (by decide)]; exact c1), y1, bnd_some]
      · rw [if_neg (by rw [nltL _ _ (by omega) (by decide)]; exact c1), if_pos (by rw [nLlt _ _ (by omega) (by decide)]; show 57 < T q; omega), y1, bnd_some]
    · rw [if_neg d5, if_pos (by decide), y1, bnd_some]
  · have hlt : q < r := by omega
    have hd := d3 q (Nat.le_refl _) hlt
    unfold pk
    rw [if_pos (show q < N by omega), if_neg (by rw [nltL _ _ (by omega) (by decide)]; show ¬ T q < 48; omega), if_neg (by rw [nLlt _ _ (by omega) (by decide)]; show ¬ 57 < T q; omega)]
    have key : ∀ m k n1 u, q + k + m = r → m < n1 → TXC u T N (q + k) → rS u (10804, 1) = nI q → Fr pTx w u → ∃ u1, f_X8_number_28 3000 n1 1 (nI lo) hi (nI (mn (dv T q k))) u = (if nI (mn (dv T q (r - q))) < nI lo then (bnd (f_X8_refuse 3000 1 (2 : Int32) u1) fun (x6 : Int32) (w5 : MEM) => some ((-1 : Int32), w5)) else (if hi < nI (mn (dv T q (r - q))) then (bnd (f_X8_refuse 3000 1 (2 : Int32) u1) fun (x8 : Int32) (w7 : MEM) => some ((-1 : Int32), w7)) else (some (nI (mn (dv T q (r - q))), u1)))) ∧ TXC u1 T N r ∧ rS u1 (10804, 1) = nI q ∧ Fr pTx w u1 := by
      intro m
      induction m with
      | zero =>
        intro k n1 u hk hn1 h1 h2 h3
        obtain ⟨n1, rfl⟩ : ∃ n', n1 = n' + 1 := ⟨n1 - 1, by omega⟩
        have ek : k = r - q := by omega
        have er : q + k = r := by omega
        rw [er] at h1
        refine ⟨u, ?_, h1, h2, h3⟩
        rw [E_X8_number_28, h1.2.2.1, h1.2.2.2.1, ek]
        by_cases d5 : r < N
        · have ht := (h1.2.2.2.2.2 r d5).1
          have hnd := d4 d5
          rw [if_pos (by rw [nlt _ _ (by omega) (by omega)]; exact d5), bIn _ _ (by omega), decide_eq_true (show r < 600 by omega), ck_tr, ck_tr, rAn _ _ _ (by omega), (h1.2.2.2.2.2 r d5).2]
          by_cases c1 : T r < 48 ∨ 128 ≤ T r
          · rw [if_pos ((sb_lo _ ht).mpr c1)]
          · rw [if_neg (fun e => c1 ((sb_lo _ ht).mp e)), if_pos ((sb_hi _ ht).mpr (by omega))]
        · rw [if_neg (by rw [nlt _ _ (by omega) (by omega)]; exact d5)]
      | succ m ih =>
        intro k n1 u hk hn1 h1 h2 h3
        obtain ⟨n1, rfl⟩ : ∃ n', n1 = n' + 1 := ⟨n1 - 1, by omega⟩
        have hlt2 : q + k < N := by omega
        have hd2 := d3 (q + k) (by omega) (by omega)
        have hmn : mn (dv T q k) ≤ 10000 := by unfold mn; split <;> omega
        have e10 : nI (mn (dv T q k)) * (10 : Int32) + nI (T (q + k)) - (48 : Int32) = nI (mn (dv T q k) * 10 + (T (q + k) - 48)) := by
          rw [show (10 : Int32) = nI 10 from rfl, nI_mul, nI_add, show (48 : Int32) = nI 48 from rfl, nI_sub _ _ (by omega), show mn (dv T q k) * 10 + T (q + k) - 48 = mn (dv T q k) * 10 + (T (q + k) - 48) by omega]
        have emn : mn (mn (dv T q k) * 10 + (T (q + k) - 48)) = mn (dv T q (k + 1)) := by
          rw [dv_s]
          unfold mn
          by_cases c1 : dv T q k < 10000
          · rw [if_pos c1]
          · rw [if_neg c1, if_neg (by omega), if_neg (by omega)]
        have g1 := h1.at (q := q + k + 1) (by omega)
        obtain ⟨u1, i1, i2, i3, i4⟩ := ih (k + 1) n1 (sS u (10803, 1) (nI (q + k + 1))) (by omega) (by omega) g1 (by rw [rS_sS, if_neg (by decide)]; exact h2) (h3.tr (Fr.S (a := (10803, 1)) (Fr.rf _ _) _ rfl))
        refine ⟨u1, ?_, i2, i3, i4⟩
        rw [E_X8_number_28, h1.2.2.1, h1.2.2.2.1, if_pos (by rw [nlt _ _ (by omega) (by omega)]; exact hlt2), bIn _ _ (by omega), decide_eq_true (show q + k < 600 by omega), ck_tr, ck_tr, ck_tr, rAn _ _ _ (by omega), (h1.2.2.2.2.2 _ hlt2).2, sb_pos _ (by omega), if_neg (by rw [nltL _ _ (by omega) (by decide)]; show ¬ T (q + k) < 48; omega), if_neg (by rw [nLlt _ _ (by omega) (by decide)]; show ¬ 57 < T (q + k); omega), e10, min10 _ (by omega), bnd_some, emn, lt_eq, h1.2.2.2.1, naddL]
        exact i1
    obtain ⟨u1, i1, i2, i3, i4⟩ := key (r - q) 0 3000 w1 (by omega) (by omega) k2 k3 k4
    have i1 : f_X8_number_28 3000 3000 1 (nI lo) hi 0 w1 = _ := i1
    rw [i1]
    have hmn : mn (dv T q (r - q)) ≤ 10000 := by unfold mn; split <;> omega
    obtain ⟨w2, y1, y2, y3⟩ := C_refuse 2 i3
    have y1 : f_X8_refuse 3000 1 2 u1 = some (0, w2) := y1
    rw [y1, bnd_some]
    simp (disch := omega) only [nlt, hi_lt eh hn]
    by_cases c1 : lo ≤ dv T q (r - q) ∧ dv T q (r - q) < n
    · left
      have em : mn (dv T q (r - q)) = dv T q (r - q) := by unfold mn; rw [if_pos (by omega)]
      refine ⟨hlt, c1.1, c1.2, u1, ?_, i2, i4, i3⟩
      rw [em, if_neg (by omega), if_neg (by omega)]
    · right; left
      refine ⟨hlt, c1, w2, ?_, y2, i4.tr y3⟩
      by_cases c2 : mn (dv T q (r - q)) < lo
      · rw [if_pos c2]
      · rw [if_neg c2, if_pos]
        unfold mn at c2 ⊢
        split at c2
        · rename_i c3
          rw [if_pos c3]
          omega
        · rename_i c3
          rw [if_neg c3]
          omega
