/-! work: the kinds of steps, as words -/
def kwd (m : Nat) : Nat := match m with
  | 0 => 13
  | 1 => 14
  | 2 => 15
  | 3 => 16
  | 4 => 9
  | 5 => 17
  | 6 => 18
  | 7 => 12
  | 8 => 19
  | _ => 20
def kcl (m : Nat) : Nat := match m with
  | 0 => 1
  | 1 => 3
  | 2 => 4
  | 3 => 5
  | 4 => 2
  | 5 => 0
  | 6 => 6
  | 7 => 7
  | 8 => 8
  | _ => 9
theorem kwd_lt : ∀ m < 10, kwd m < 21 := by decide
theorem kcl_kmC : ∀ m < 9, kcl m = kmC m := by decide
theorem kwd_inj : ∀ j < 10, ∀ k < 10, wC (kwd j) = wC (kwd k) → j = k := by decide +kernel
theorem all10 {Q : Nat → Prop} (h0 : Q 0) (h1 : Q 1) (h2 : Q 2) (h3 : Q 3) (h4 : Q 4) (h5 : Q 5) (h6 : Q 6) (h7 : Q 7) (h8 : Q 8) (h9 : Q 9) (t : Nat) (ht : t < 10) : Q t := by
  have : t = 0 ∨ t = 1 ∨ t = 2 ∨ t = 3 ∨ t = 4 ∨ t = 5 ∨ t = 6 ∨ t = 7 ∨ t = 8 ∨ t = 9 := by omega
  rcases this with e | e | e | e | e | e | e | e | e | e <;> subst e <;> assumption
theorem kwd_len : ∀ m < 10, 2 ≤ wL (kwd m) := by decide +kernel
theorem C_kind {T : Nat → Nat} {N q n : Nat} {u : MEM} (hT : TXC u T N q) (s : SK T N q q) (hn : LTR T N q n) : (∃ m u1, m < 10 ∧ wcT T q n = wC (kwd m) ∧ f_X7_kindAhead 3000 1 u = some (nI (kcl m), u1) ∧ TXC u1 T N (q + n) ∧ rS u1 (10804, 1) = nI q ∧ Fr pTx u u1) ∨ ((∀ m < 10, wcT T q n ≠ wC (kwd m)) ∧ ∃ u1, f_X7_kindAhead 3000 1 u = some (-1, u1) ∧ TXC u1 T N q ∧ rS u1 (10804, 1) = nI q ∧ Fr pTx u u1) := by
  rw [E_X7_kindAhead]
  rcases C_word (l := 13) (by omega) hT s hn with ⟨e0, u0, a0, b0, c0, d0⟩ | ⟨e0, u0, a0, b0, c0, d0⟩
  · exact Or.inl ⟨0, u0, by omega, e0, by rw [a0, bnd_some, if_neg (by decide)]; first | done | rfl, b0, c0, d0⟩
  rw [a0, bnd_some, if_pos rfl]
  rcases C_word (l := 14) (by omega) b0 s hn with ⟨e1, u1, a1, b1, c1, d1⟩ | ⟨e1, u1, a1, b1, c1, d1⟩
  · exact Or.inl ⟨1, u1, by omega, e1, by rw [a1, bnd_some, if_neg (by decide)]; first | done | rfl, b1, c1, (d0).tr d1⟩
  rw [a1, bnd_some, if_pos rfl]
  rcases C_word (l := 15) (by omega) b1 s hn with ⟨e2, u2, a2, b2, c2, d2⟩ | ⟨e2, u2, a2, b2, c2, d2⟩
  · exact Or.inl ⟨2, u2, by omega, e2, by rw [a2, bnd_some, if_neg (by decide)]; first | done | rfl, b2, c2, ((d0).tr d1).tr d2⟩
  rw [a2, bnd_some, if_pos rfl]
  rcases C_word (l := 16) (by omega) b2 s hn with ⟨e3, u3, a3, b3, c3, d3⟩ | ⟨e3, u3, a3, b3, c3, d3⟩
  · exact Or.inl ⟨3, u3, by omega, e3, by rw [a3, bnd_some, if_neg (by decide)]; first | done | rfl, b3, c3, (((d0).tr d1).tr d2).tr d3⟩
  rw [a3, bnd_some, if_pos rfl]
  rcases C_word (l := 9) (by omega) b3 s hn with ⟨e4, u4, a4, b4, c4, d4⟩ | ⟨e4, u4, a4, b4, c4, d4⟩
  · exact Or.inl ⟨4, u4, by omega, e4, by rw [a4, bnd_some, if_neg (by decide)]; first | done | rfl, b4, c4, ((((d0).tr d1).tr d2).tr d3).tr d4⟩
  rw [a4, bnd_some, if_pos rfl]
  rcases C_word (l := 17) (by omega) b4 s hn with ⟨e5, u5, a5, b5, c5, d5⟩ | ⟨e5, u5, a5, b5, c5, d5⟩
  · exact Or.inl ⟨5, u5, by omega, e5, by rw [a5, bnd_some, if_neg (by decide)]; first | done | rfl, b5, c5, (((((d0).tr d1).tr d2).tr d3).tr d4).tr d5⟩
  rw [a5, bnd_some, if_pos rfl]
  rcases C_word (l := 18) (by omega) b5 s hn with ⟨e6, u6, a6, b6, c6, d6⟩ | ⟨e6, u6, a6, b6, c6, d6⟩
  · exact Or.inl ⟨6, u6, by omega, e6, by rw [a6, bnd_some, if_neg (by decide)]; first | done | rfl, b6, c6, ((((((d0).tr d1).tr d2).tr d3).tr d4).tr d5).tr d6⟩
  rw [a6, bnd_some, if_pos rfl]
  rcases C_word (l := 12) (by omega) b6 s hn with ⟨e7, u7, a7, b7, c7, d7⟩ | ⟨e7, u7, a7, b7, c7, d7⟩
  · exact Or.inl ⟨7, u7, by omega, e7, by rw [a7, bnd_some, if_neg (by decide)]; first | done | rfl, b7, c7, (((((((d0).tr d1).tr d2).tr d3).tr d4).tr d5).tr d6).tr d7⟩
  rw [a7, bnd_some, if_pos rfl]
  rcases C_word (l := 19) (by omega) b7 s hn with ⟨e8, u8, a8, b8, c8, d8⟩ | ⟨e8, u8, a8, b8, c8, d8⟩
  · exact Or.inl ⟨8, u8, by omega, e8, by rw [a8, bnd_some, if_neg (by decide)]; first | done | rfl, b8, c8, ((((((((d0).tr d1).tr d2).tr d3).tr d4).tr d5).tr d6).tr d7).tr d8⟩
  rw [a8, bnd_some, if_pos rfl]
  rcases C_word (l := 20) (by omega) b8 s hn with ⟨e9, u9, a9, b9, c9, d9⟩ | ⟨e9, u9, a9, b9, c9, d9⟩
  · exact Or.inl ⟨9, u9, by omega, e9, by rw [a9, bnd_some, if_neg (by decide)]; first | done | rfl, b9, c9, (((((((((d0).tr d1).tr d2).tr d3).tr d4).tr d5).tr d6).tr d7).tr d8).tr d9⟩
  rw [a9, bnd_some, if_pos rfl]
  exact Or.inr ⟨all10 e0 e1 e2 e3 e4 e5 e6 e7 e8 e9, u9, rfl, b9, c9, (((((((((d0).tr d1).tr d2).tr d3).tr d4).tr d5).tr d6).tr d7).tr d8).tr d9⟩
theorem M_kind {x : Nat} (hx : x < 2 ^ 31) (v : MEM) : (∃ m, m < 10 ∧ x = wC (kwd m) ∧ f_X10_stepOf 3000 (nI x) v = some (nI m, v)) ∨ ((∀ m < 10, x ≠ wC (kwd m)) ∧ f_X10_stepOf 3000 (nI x) v = some (-1, v)) := by
  rw [E_X10_stepOf]
  rw [M_of (by omega), bnd_some]
  by_cases e0 : x = wC 13
  · exact Or.inl ⟨0, by omega, e0, by rw [if_pos (by rw [e0])]; first | done | rfl⟩
  rw [if_neg (by rw [neqI _ _ hx (wC_lt 13 (by omega))]; exact e0)]
  rw [M_of (by omega), bnd_some]
  by_cases e1 : x = wC 14
  · exact Or.inl ⟨1, by omega, e1, by rw [if_pos (by rw [e1])]; first | done | rfl⟩
  rw [if_neg (by rw [neqI _ _ hx (wC_lt 14 (by omega))]; exact e1)]
  rw [M_of (by omega), bnd_some]
  by_cases e2 : x = wC 15
  · exact Or.inl ⟨2, by omega, e2, by rw [if_pos (by rw [e2])]; first | done | rfl⟩
  rw [if_neg (by rw [neqI _ _ hx (wC_lt 15 (by omega))]; exact e2)]
  rw [M_of (by omega), bnd_some]
  by_cases e3 : x = wC 16
  · exact Or.inl ⟨3, by omega, e3, by rw [if_pos (by rw [e3])]; first | done | rfl⟩
  rw [if_neg (by rw [neqI _ _ hx (wC_lt 16 (by omega))]; exact e3)]
  rw [M_of (by omega), bnd_some]
  by_cases e4 : x = wC 9
  · exact Or.inl ⟨4, by omega, e4, by rw [if_pos (by rw [e4])]; first | done | rfl⟩
  rw [if_neg (by rw [neqI _ _ hx (wC_lt 9 (by omega))]; exact e4)]
  rw [M_of (by omega), bnd_some]
  by_cases e5 : x = wC 17
  · exact Or.inl ⟨5, by omega, e5, by rw [if_pos (by rw [e5])]; first | done | rfl⟩
  rw [if_neg (by rw [neqI _ _ hx (wC_lt 17 (by omega))]; exact e5)]
  rw [M_of (by omega), bnd_some]
  by_cases e6 : x = wC 18
  · exact Or.inl ⟨6, by omega, e6, by rw [if_pos (by rw [e6])]; first | done | rfl⟩
  rw [if_neg (by rw [neqI _ _ hx (wC_lt 18 (by omega))]; exact e6)]
  rw [M_of (by omega), bnd_some]
  by_cases e7 : x = wC 12
  · exact Or.inl ⟨7, by omega, e7, by rw [if_pos (by rw [e7])]; first | done | rfl⟩
  rw [if_neg (by rw [neqI _ _ hx (wC_lt 12 (by omega))]; exact e7)]
  rw [M_of (by omega), bnd_some]
  by_cases e8 : x = wC 19
  · exact Or.inl ⟨8, by omega, e8, by rw [if_pos (by rw [e8])]; first | done | rfl⟩
  rw [if_neg (by rw [neqI _ _ hx (wC_lt 19 (by omega))]; exact e8)]
  rw [M_of (by omega), bnd_some]
  by_cases e9 : x = wC 20
  · exact Or.inl ⟨9, by omega, e9, by rw [if_pos (by rw [e9])]; first | done | rfl⟩
  rw [if_neg (by rw [neqI _ _ hx (wC_lt 20 (by omega))]; exact e9)]
  exact Or.inr ⟨all10 e0 e1 e2 e3 e4 e5 e6 e7 e8 e9, rfl⟩
