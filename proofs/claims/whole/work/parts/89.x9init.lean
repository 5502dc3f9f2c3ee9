/-! the constructor of FernHeirs -/
def RF (h : PH) (V : Nat → PV) : Prop := ∀ j < 18, h (10900 + j, 0) = pF (V j)
def vs (V : Nat → PV) (k : Nat) (c : PV) : Nat → PV := fun j => if j = k then c else V j
theorem RF.st {h : PH} {V : Nat → PV} (g : RF h V) (k : Nat) (c : PV) : RF (up h (10900 + k, 0) (pF c)) (vs V k c) := by
  intro j hj
  unfold vs
  by_cases e : j = k
  · rw [if_pos e, e, up_eq]
  · rw [if_neg e, up_ne _ _ (fun q => e (by
      have := (Prod.mk.inj q).1
      omega))]
    exact g j hj
theorem RF.fi {h h' : PH} {V : Nat → PV} {lo hi : Nat} (g : RF h V) (f : FI lo hi h h') (h0 : 0 < lo) : RF h' V := fun j hj => (f.atF (by omega) (Or.inl h0)).trans (g j hj)
theorem fi_r0 (h : PH) (k : Nat) (c : PV) : FI 0 1 h (up h (10900 + k, 0) (pF c)) := (FI.rf _ _ _).up (nspF (by omega)) (Nat.zero_le _) (by rw [psF (by omega)]; omega)
theorem szr {h : PH} {k n : Nat} {g0 : PA} {c : PV} (e : h SZ = pA 99 n g0) : up h (10900 + k, 0) (pF c) SZ = pA 99 n g0 := by
  rw [up_ne _ _ (neSF (by omega)).symm]
  exact e
theorem sF_r {h : PH} {V : Nat → PV} {k : Nat} {c : PV} {K : PH → Prop} (R : RF h V) (hk : k < 18) (kk : ∀ u, RF u (vs V k c) → FI 0 1 h u → (∀ n g0, h SZ = pA 99 n g0 → u SZ = pA 99 n g0) → K u) : sF h (10900 + k, 0) c K := ⟨⟨_, R k hk⟩, kk _ (R.st k c) (fi_r0 h k c) (fun _ _ e => szr e)⟩
def E9 (c i : Nat) : Bool := (Nat.beq c 4 && Nat.beq i 9) || ((Nat.beq c 2 && Nat.beq i 8) || ((Nat.beq c 1 && Nat.beq i 296) || (Nat.beq c 3 && Nat.beq i 312)))
theorem E9_i {c i : Nat} (h : E9 c i = true) : (c = 4 ∧ i = 9) ∨ ((c = 2 ∧ i = 8) ∨ ((c = 1 ∧ i = 296) ∨ (c = 3 ∧ i = 312))) := by
  have f : ∀ a b x y : Nat, (Nat.beq a x && Nat.beq b y) = true → a = x ∧ b = y := fun a b x y q => ⟨Nat.eq_of_beq_eq_true (and_t q).1, Nat.eq_of_beq_eq_true (and_t q).2⟩
  rcases or_t h with e | e
  · exact Or.inl (f _ _ _ _ e)
  rcases or_t e with e | e
  · exact Or.inr (Or.inl (f _ _ _ _ e))
  rcases or_t e with e | e
  · exact Or.inr (Or.inr (Or.inl (f _ _ _ _ e)))
  · exact Or.inr (Or.inr (Or.inr (f _ _ _ _ e)))
theorem WP.out {hL h : PH} {w : MEM} (g : WP (E9, hL) h w) {t i : Nat} (h1 : i ≠ 8) (h2 : i ≠ 9) (h3 : i ≠ 296) (h4 : i ≠ 312) : h (t, i) = hL (t, i) := by
  refine g.2.2.2 (t, i) (fun q => ?_)
  have key : ∀ c, E9 c i = true → False := fun c e => by
    have := E9_i e
    omega
  rcases q with ⟨_, q⟩ | ⟨_, q⟩
  · exact key _ q
  · exact key _ q
def w9 : MEM := sS m00 (10110, 296) 12
/-- all that the constructor makes, but what 'begin' and 'beUsual' write -/
def made (h : PH) : Prop := ob_X8 h 1 ∧ (ob_X7 h 3 ∧ (ob_X2 h 8 ∧ (h (901, 179) = pA 5 3 (.inr (.inr (fun j => if j < 3 then some (200, 326 + 172 * j) else none))) ∧ (ob_X4 h 181 ∧ (ob_X4 h 191 ∧ (ob_X6 h 201 ∧ (ob_X5 h 203 ∧ (ob_X1 h 296 ∧ (ob_X1 h 304 ∧ (ob_X3 h 312 ∧ (ob_X3 h 317 ∧ (ob_X0 h 322 ∧ (ob_X0 h 324 ∧ (ob_X2 h 326 ∧ (ob_X2 h 498 ∧ ob_X2 h 670)))))))))))))))
def V9 : Nat → PV := vs (vs (vs (vs (vs (vs (vs (vs (vs (vs (vs (vs (vs (vs (dvT tyX9) 0 (vR (800, 1))) 1 (vR (700, 3))) 2 (vR (200, 8))) 3 (vR (901, 179))) 4 (vR (400, 181))) 5 (vR (400, 191))) 6 (vR (600, 201))) 7 (vR (500, 203))) 8 (vR (100, 296))) 9 (vR (100, 304))) 10 (vR (300, 312))) 11 (vR (300, 317))) 12 (vR (0, 322))) 13 (vR (0, 324))
def beg (w : MEM) : Prop := (∀ j < 7, begV w9 296 0 j w) ∧ rS w (10409, 9) = 0 ∧ rS w (10202, 8) = 0 ∧ LawC w 312 usual ∧ (rS w (10107, 296) = 0 ∧ rS w (10108, 296) = 0 ∧ rS w (10109, 296) = 0 ∧ rS w (10110, 296) = 12) ∧ fA w (103, 296) = fun _ => 0
theorem x9_end {h hL : PH} {g0 : PA} (hz : hL SZ = pA 99 842 g0) (R : RF hL V9) (m : made hL) (f : FI 0 842 h hL) : gO hL (10902, 0) 200 fun o1 => gO hL (10908, 0) 100 fun o2 => isO hL 10200 o1 ∧ cl 3 0 0 M_X2_begin [vR (200, o1), vR (100, o2)] hL (kV fun h3 rc4 rs5 => gO h3 (10910, 0) 300 fun o6 => isO h3 10300 o6 ∧ cl 3 rc4 rs5 M_X3_beUsual [vR (300, o6)] h3 (kV fun h7 rc8 rs9 => (Sum.inl none : PO) = .inl none ∧ (∃ hL w, WP (E9, hL) h7 w ∧ (beg w ∧ (made hL ∧ (RF hL V9 ∧ (hL SZ = pA 99 842 g0 ∧ FI 0 842 h hL)))))) (fun E h7 rc8 rs9 => (Sum.inr E : PO) = .inl none ∧ (∃ hL w, WP (E9, hL) h7 w ∧ (beg w ∧ (made hL ∧ (RF hL V9 ∧ (hL SZ = pA 99 842 g0 ∧ FI 0 842 h hL))))))) (fun E h3 rc4 rs5 => (Sum.inr E : PO) = .inl none ∧ (∃ hL w, WP (E9, hL) h3 w ∧ (beg w ∧ (made hL ∧ (RF hL V9 ∧ (hL SZ = pA 99 842 g0 ∧ FI 0 842 h hL)))))) := by
  obtain ⟨m8, m7, m2, mi, m181, m191, m6, m5, m1, m1b, m3, m3b, m0, m0b, i1, i2, i3⟩ := m
  have wp : WP (E9, hL) hL w9 := by
    refine ⟨fun t i ht hv => ?_, fun t i ht hv => ?_, fun t i ht hv => ?_, fun b _ => rfl⟩
    · have ht := kl1 ht
      rcases E9_i hv with ⟨e, rfl⟩ | ⟨e, rfl⟩ | ⟨e, rfl⟩ | ⟨e, rfl⟩
      · have : t = 10409 := by omega
        subst this
        exact m2.2.2.1.2.1
      · have : t = 10202 := by omega
        subst this
        exact m2.1.2.2
      · have : t = 10107 ∨ t = 10108 ∨ t = 10109 ∨ t = 10110 := by omega
        rcases this with e | e | e | e
        · subst e; exact m1.2.1
        · subst e; exact m1.2.2.1
        · subst e; exact m1.2.2.2.1
        · subst e; exact m1.2.2.2.2.1
      · have : t = 10304 := by omega
        subst this
        exact m3.2.1
    · have ht := kl2 ht
      rcases E9_i hv with ⟨e, rfl⟩ | ⟨e, rfl⟩ | ⟨e, rfl⟩ | ⟨e, rfl⟩
      · have : t = 10400 ∨ t = 10401 ∨ t = 10402 ∨ t = 10403 ∨ t = 10404 ∨ t = 10405 ∨ t = 10406 ∨ t = 10407 ∨ t = 10408 := by omega
        have q := m2.2.2.1.1
        rcases this with e | e | e | e | e | e | e | e | e
        · subst e; exact q.1.2
        · subst e; exact q.2.1.2
        · subst e; exact q.2.2.1.2
        · subst e; exact q.2.2.2.1.2
        · subst e; exact q.2.2.2.2.1.2
        · subst e; exact q.2.2.2.2.2.1.2
        · subst e; exact q.2.2.2.2.2.2.1.2
        · subst e; exact q.2.2.2.2.2.2.2.1.2
        · subst e; exact q.2.2.2.2.2.2.2.2.1.2
      · have : t = 10200 ∨ t = 10201 := by omega
        rcases this with e | e
        · subst e; exact m2.1.1
        · subst e; exact m2.1.2.1
      · have : t = 10100 ∨ t = 10101 ∨ t = 10102 ∨ t = 10103 ∨ t = 10104 ∨ t = 10105 ∨ t = 10106 := by omega
        have q := m1.1
        rcases this with e | e | e | e | e | e | e
        · subst e; exact q.1.2
        · subst e; exact q.2.1.2
        · subst e; exact q.2.2.1.2
        · subst e; exact q.2.2.2.1.2
        · subst e; exact q.2.2.2.2.1.2
        · subst e; exact q.2.2.2.2.2.1.2
        · subst e; exact q.2.2.2.2.2.2.1.2
      · have : t = 10300 ∨ t = 10301 ∨ t = 10302 ∨ t = 10303 := by omega
        have q := m3.1
        rcases this with e | e | e | e
        · subst e; exact q.1.2
        · subst e; exact q.2.1.2
        · subst e; exact q.2.2.1.2
        · subst e; exact q.2.2.2.1.2
    · have ht := kl4 ht
      rcases E9_i hv with ⟨e, rfl⟩ | ⟨e, rfl⟩ | ⟨e, rfl⟩ | ⟨e, rfl⟩
      · have : t = 401 ∨ t = 402 ∨ t = 403 ∨ t = 404 ∨ t = 405 ∨ t = 406 ∨ t = 407 ∨ t = 408 ∨ t = 409 := by omega
        have q := m2.2.2.1.1
        rcases this with e | e | e | e | e | e | e | e | e
        · subst e; exact q.1.1
        · subst e; exact q.2.1.1
        · subst e; exact q.2.2.1.1
        · subst e; exact q.2.2.2.1.1
        · subst e; exact q.2.2.2.2.1.1
        · subst e; exact q.2.2.2.2.2.1.1
        · subst e; exact q.2.2.2.2.2.2.1.1
        · subst e; exact q.2.2.2.2.2.2.2.1.1
        · subst e; exact q.2.2.2.2.2.2.2.2.1.1
      · omega
      · have : t = 101 ∨ t = 102 ∨ t = 103 ∨ t = 104 ∨ t = 105 ∨ t = 106 ∨ t = 107 := by omega
        have q := m1.1
        rcases this with e | e | e | e | e | e | e
        · subst e; exact q.1.1
        · subst e; exact q.2.1.1
        · subst e; exact q.2.2.1.1
        · subst e; exact q.2.2.2.1.1
        · subst e; exact q.2.2.2.2.1.1
        · subst e; exact q.2.2.2.2.2.1.1
        · subst e; exact q.2.2.2.2.2.2.1.1
      · have : t = 301 ∨ t = 302 ∨ t = 303 ∨ t = 304 := by omega
        have q := m3.1
        rcases this with e | e | e | e
        · subst e; exact q.1.1
        · subst e; exact q.2.1.1
        · subst e; exact q.2.2.1.1
        · subst e; exact q.2.2.2.1.1
  have m : made hL := ⟨m8, m7, m2, mi, m181, m191, m6, m5, m1, m1b, m3, m3b, m0, m0b, i1, i2, i3⟩
  obtain ⟨u, b1, b2, b3, b4⟩ := begin4_C (w := w9) (c := 296) (H := 0) rfl (by omega)
  have hB : f_X2_begin 3000 8 296 w9 = some ((), sS u (10202, 8) 0) := by
    rw [E_X2_begin]
    show bnd (f_X4_begin 3000 9 296 w9) _ = _
    rw [b1, bnd_some, lt_eq]
  refine gO_of (i := 8) (R 2 (by decide)) ?_
  refine gO_of (i := 296) (R 8 (by decide)) ?_
  refine ⟨⟨_, m2.1.1⟩, ?_⟩
  refine cl_Vp (D := 1) (by decide) (cp_X2_begin (fu := 3000) wp rfl rfl rfl hB) (fun h3 wp3 => ?_)
  obtain ⟨u1, d1, d2, d3⟩ := beUsual_C (sS u (10202, 8) 0) 312
  refine gO_of (i := 312) ((wp3.out (by decide) (by decide) (by decide) (by decide)).trans (R 10 (by decide))) ?_
  refine ⟨⟨_, wp3.2.1 10300 312 rfl rfl⟩, ?_⟩
  refine cl_Vp (D := 1) (by decide) (cp_X3_beUsual (fu := 3000) wp3 rfl d1) (fun h7 wp7 => ?_)
  refine ⟨rfl, hL, u1, wp7, ⟨fun j hj => ?_, ?_, ?_, d2, ⟨?_, ?_, ?_, ?_⟩, ?_⟩, m, R, hz, f⟩
  · have := b4 j hj
    unfold begV at this ⊢
    rw [d3.1 (401, 9) rfl, d3.1 (402, 9) rfl, d3.1 (403, 9) rfl, d3.1 (404, 9) rfl, d3.1 (405, 9) rfl, d3.1 (406, 9) rfl, d3.1 (407, 9) rfl, d3.1 (408, 9) rfl, d3.1 (409, 9) rfl]
    exact this
  · rw [d3.2.1 _ rfl]
    exact b3
  · rw [d3.2.1 _ rfl]
    rfl
  · rw [d3.2.1 _ rfl]
    exact b2.2.1 (10107, 296) rfl
  · rw [d3.2.1 _ rfl]
    exact b2.2.1 (10108, 296) rfl
  · rw [d3.2.1 _ rfl]
    exact b2.2.1 (10109, 296) rfl
  · rw [d3.2.1 _ rfl]
    exact b2.2.1 (10110, 296) rfl
  · rw [d3.1 _ rfl]
    exact b2.1 (103, 296) rfl
theorem i_X9 {h : PH} {g0 : PA} (hz : h SZ = pA 99 1 g0) (hf : ∀ j < 18, h (10000 + 100 * 9 + j, 0) = pF (dvT tyX9 j)) : CT 3 M_X9_init [vR (900, 0)] h 841 9887 (fun r h' => r = .inl none ∧ (∃ hL w, WP (E9, hL) h' w ∧ (beg w ∧ (made hL ∧ (RF hL V9 ∧ (hL SZ = pA 99 842 g0 ∧ FI 0 842 h hL)))))) := by
  have b1 : 841 = (1 + (1 + (1 + (4 + (1 + (171 + (1 + (1 + (9 + (1 + (9 + (1 + (1 + (1 + (92 + (1 + (7 + (1 + (7 + (1 + (4 + (1 + (4 + (1 + (1 + (1 + (1 + (1 + (171 + (1 + (171 + (1 + (171 + 0))))))))))))))))))))))))))))))))) := by decide
  have b2 : 9887 = (7 + (600 + (8 + (600 + (3 + (1257 + (3 + (10 + (63 + (10 + (63 + (1 + (1024 + (4 + (1360 + (11 + (57 + (11 + (57 + (5 + (459 + (5 + (459 + (2 + (13 + (2 + (13 + (3 + (1257 + (3 + (1257 + (3 + (1257 + 0))))))))))))))))))))))))))))))))) := by decide
  rw [b1, b2]
  clear b1 b2
  refine CT_of mk_X9_init (Nat.le_of_ble_eq_true rfl) rfl (r_X9_init_0 ⟨by decide, ?_⟩)
  have R0 : RF h (dvT tyX9) := hf
  refine n_X8 (by decide) hz (fun a0 za0 o0 f0 => ?_)
  have ra0 : RF a0 _ := R0.fi f0 (by decide)
  refine sF_r (k := 0) ra0 (by decide) (fun u0 ru0 gg0 zz0 => ?_)
  have zu0 := zz0 _ _ za0
  refine n_X7 (by decide) zu0 (fun a1 za1 o1 f1 => ?_)
  have ra1 : RF a1 _ := ru0.fi f1 (by decide)
  refine sF_r (k := 1) ra1 (by decide) (fun u1 ru1 gg1 zz1 => ?_)
  have zu1 := zz1 _ _ za1
  refine n_X2 (by decide) zu1 (fun a2 za2 o2 f2 => ?_)
  have ra2 : RF a2 _ := ru1.fi f2 (by decide)
  refine sF_r (k := 2) ra2 (by decide) (fun u2 ru2 gg2 zz2 => ?_)
  have zu2 := zz2 _ _ za2
  refine ⟨(901, 179), 3, 180, g0, _, _, rfl, by omega, zu2, by decide, by decide, rfl, rfl, rfl, ?_⟩
  generalize ha3 : up (up u2 (901, 179) (pA 5 3 (.inr (.inr (fun _ => none))))) SZ (pA 99 (180 + 1) g0) = a3
  have f3 : FI 180 181 u2 a3 := fun b h1 h2 => by
    rw [← ha3, up_ne _ _ h1]
    exact (FI.rf 180 181 u2).up (a := (901, 179)) (nspA (by decide)) (by decide) (by decide) b h1 h2
  have za3 : a3 SZ = pA 99 181 g0 := by rw [← ha3, up_eq]
  have o3 : a3 (901, 179) = pA 5 3 (.inr (.inr (fun _ => none))) := by rw [← ha3, up_ne _ _ (by decide), up_eq]
  have ra3 : RF a3 _ := ru2.fi f3 (by decide)
  refine sF_r (k := 3) ra3 (by decide) (fun u3 ru3 gg3 zz3 => ?_)
  have zu3 := zz3 _ _ za3
  refine n_X4 (by decide) zu3 (fun a4 za4 o4 f4 => ?_)
  have ra4 : RF a4 _ := ru3.fi f4 (by decide)
  refine sF_r (k := 4) ra4 (by decide) (fun u4 ru4 gg4 zz4 => ?_)
  have zu4 := zz4 _ _ za4
  refine n_X4 (by decide) zu4 (fun a5 za5 o5 f5 => ?_)
  have ra5 : RF a5 _ := ru4.fi f5 (by decide)
  refine sF_r (k := 5) ra5 (by decide) (fun u5 ru5 gg5 zz5 => ?_)
  have zu5 := zz5 _ _ za5
  refine n_X6 (by decide) zu5 (fun a6 za6 o6 f6 => ?_)
  have ra6 : RF a6 _ := ru5.fi f6 (by decide)
  refine sF_r (k := 6) ra6 (by decide) (fun u6 ru6 gg6 zz6 => ?_)
  have zu6 := zz6 _ _ za6
  refine n_X5 (by decide) zu6 (fun a7 za7 o7 f7 => ?_)
  have ra7 : RF a7 _ := ru6.fi f7 (by decide)
  refine sF_r (k := 7) ra7 (by decide) (fun u7 ru7 gg7 zz7 => ?_)
  have zu7 := zz7 _ _ za7
  refine n_X1 (by decide) zu7 (fun a8 za8 o8 f8 => ?_)
  have ra8 : RF a8 _ := ru7.fi f8 (by decide)
  refine sF_r (k := 8) ra8 (by decide) (fun u8 ru8 gg8 zz8 => ?_)
  have zu8 := zz8 _ _ za8
  refine n_X1 (by decide) zu8 (fun a9 za9 o9 f9 => ?_)
  have ra9 : RF a9 _ := ru8.fi f9 (by decide)
  refine sF_r (k := 9) ra9 (by decide) (fun u9 ru9 gg9 zz9 => ?_)
  have zu9 := zz9 _ _ za9
  refine n_X3 (by decide) zu9 (fun a10 za10 o10 f10 => ?_)
  have ra10 : RF a10 _ := ru9.fi f10 (by decide)
  refine sF_r (k := 10) ra10 (by decide) (fun u10 ru10 gg10 zz10 => ?_)
  have zu10 := zz10 _ _ za10
  refine n_X3 (by decide) zu10 (fun a11 za11 o11 f11 => ?_)
  have ra11 : RF a11 _ := ru10.fi f11 (by decide)
  refine sF_r (k := 11) ra11 (by decide) (fun u11 ru11 gg11 zz11 => ?_)
  have zu11 := zz11 _ _ za11
  refine n_X0 (by decide) zu11 (fun a12 za12 o12 f12 => ?_)
  have ra12 : RF a12 _ := ru11.fi f12 (by decide)
  refine sF_r (k := 12) ra12 (by decide) (fun u12 ru12 gg12 zz12 => ?_)
  have zu12 := zz12 _ _ za12
  refine n_X0 (by decide) zu12 (fun a13 za13 o13 f13 => ?_)
  have ra13 : RF a13 _ := ru12.fi f13 (by decide)
  refine sF_r (k := 13) ra13 (by decide) (fun u13 ru13 gg13 zz13 => ?_)
  have zu13 := zz13 _ _ za13
  refine r_X9_init_157 ⟨fun c => ?_, fun c => absurd c (by decide)⟩
  refine gA_of (b := (901, 179)) (ru13 3 (by decide)) ?_
  refine n_X2 (by decide) zu13 (fun a14 za14 o14 f14 => ?_)
  have ra14 : RF a14 _ := ru13.fi f14 (by decide)
  have row0 : u13 (901, 179) = pA 5 3 (.inr (.inr (fun _ => none))) := (gg13.atA (by decide) (by decide)).trans ((f13.atA (by decide) (by decide)).trans ((gg12.atA (by decide) (by decide)).trans ((f12.atA (by decide) (by decide)).trans ((gg11.atA (by decide) (by decide)).trans ((f11.atA (by decide) (by decide)).trans ((gg10.atA (by decide) (by decide)).trans ((f10.atA (by decide) (by decide)).trans ((gg9.atA (by decide) (by decide)).trans ((f9.atA (by decide) (by decide)).trans ((gg8.atA (by decide) (by decide)).trans ((f8.atA (by decide) (by decide)).trans ((gg7.atA (by decide) (by decide)).trans ((f7.atA (by decide) (by decide)).trans ((gg6.atA (by decide) (by decide)).trans ((f6.atA (by decide) (by decide)).trans ((gg5.atA (by decide) (by decide)).trans ((f5.atA (by decide) (by decide)).trans ((gg4.atA (by decide) (by decide)).trans ((f4.atA (by decide) (by decide)).trans ((gg3.atA (by decide) (by decide)).trans (o3)))))))))))))))))))))
  have rw0 := (f14.atA (t := 901) (id := 179) (by decide) (by decide)).trans row0
  refine ⟨3, _, rw0, bI_in (by decide), ⟨_, o14.1.1⟩, ?_⟩
  generalize hu14 : up a14 (901, 179) _ = u14
  have gg14 : FI 180 181 a14 u14 := by
    rw [← hu14]
    exact (FI.rf 180 181 a14).up (a := (901, 179)) (nspA (by decide)) (by decide) (by decide)
  have zu14 : u14 SZ = pA 99 498 g0 := by
    rw [← hu14, up_ne _ _ (by decide)]
    exact za14
  have ru14 : RF u14 _ := ra14.fi gg14 (by decide)
  have row1 := (congrFun hu14 (901, 179)).symm.trans (up_eq _ _ _)
  refine r_X9_init_157 ⟨fun c => ?_, fun c => absurd c (by decide)⟩
  refine gA_of (b := (901, 179)) (ru14 3 (by decide)) ?_
  refine n_X2 (by decide) zu14 (fun a15 za15 o15 f15 => ?_)
  have ra15 : RF a15 _ := ru14.fi f15 (by decide)
  have rw1 := (f15.atA (t := 901) (id := 179) (by decide) (by decide)).trans row1
  refine ⟨3, _, rw1, bI_in (by decide), ⟨_, o15.1.1⟩, ?_⟩
  generalize hu15 : up a15 (901, 179) _ = u15
  have gg15 : FI 180 181 a15 u15 := by
    rw [← hu15]
    exact (FI.rf 180 181 a15).up (a := (901, 179)) (nspA (by decide)) (by decide) (by decide)
  have zu15 : u15 SZ = pA 99 670 g0 := by
    rw [← hu15, up_ne _ _ (by decide)]
    exact za15
  have ru15 : RF u15 _ := ra15.fi gg15 (by decide)
  have row2 := (congrFun hu15 (901, 179)).symm.trans (up_eq _ _ _)
  refine r_X9_init_157 ⟨fun c => ?_, fun c => absurd c (by decide)⟩
  refine gA_of (b := (901, 179)) (ru15 3 (by decide)) ?_
  refine n_X2 (by decide) zu15 (fun a16 za16 o16 f16 => ?_)
  have ra16 : RF a16 _ := ru15.fi f16 (by decide)
  have rw2 := (f16.atA (t := 901) (id := 179) (by decide) (by decide)).trans row2
  refine ⟨3, _, rw2, bI_in (by decide), ⟨_, o16.1.1⟩, ?_⟩
  generalize hu16 : up a16 (901, 179) _ = u16
  have gg16 : FI 180 181 a16 u16 := by
    rw [← hu16]
    exact (FI.rf 180 181 a16).up (a := (901, 179)) (nspA (by decide)) (by decide) (by decide)
  have zu16 : u16 SZ = pA 99 842 g0 := by
    rw [← hu16, up_ne _ _ (by decide)]
    exact za16
  have ru16 : RF u16 _ := ra16.fi gg16 (by decide)
  have row3 := (congrFun hu16 (901, 179)).symm.trans (up_eq _ _ _)
  refine r_X9_init_157 ⟨fun c => absurd c (by decide), fun c => ?_⟩
  have c0 : ob_X8 u16 1 := (((((((((((((((((((((((((((((((((o0).FI gg0 (by decide)).FI f1 (by decide)).FI gg1 (by decide)).FI f2 (by decide)).FI gg2 (by decide)).FI f3 (by decide)).FI gg3 (by decide)).FI f4 (by decide)).FI gg4 (by decide)).FI f5 (by decide)).FI gg5 (by decide)).FI f6 (by decide)).FI gg6 (by decide)).FI f7 (by decide)).FI gg7 (by decide)).FI f8 (by decide)).FI gg8 (by decide)).FI f9 (by decide)).FI gg9 (by decide)).FI f10 (by decide)).FI gg10 (by decide)).FI f11 (by decide)).FI gg11 (by decide)).FI f12 (by decide)).FI gg12 (by decide)).FI f13 (by decide)).FI gg13 (by decide)).FI f14 (by decide)).FI gg14 (by decide)).FI f15 (by decide)).FI gg15 (by decide)).FI f16 (by decide)).FI gg16 (by decide)
  have c1 : ob_X7 u16 3 := (((((((((((((((((((((((((((((((o1).FI gg1 (by decide)).FI f2 (by decide)).FI gg2 (by decide)).FI f3 (by decide)).FI gg3 (by decide)).FI f4 (by decide)).FI gg4 (by decide)).FI f5 (by decide)).FI gg5 (by decide)).FI f6 (by decide)).FI gg6 (by decide)).FI f7 (by decide)).FI gg7 (by decide)).FI f8 (by decide)).FI gg8 (by decide)).FI f9 (by decide)).FI gg9 (by decide)).FI f10 (by decide)).FI gg10 (by decide)).FI f11 (by decide)).FI gg11 (by decide)).FI f12 (by decide)).FI gg12 (by decide)).FI f13 (by decide)).FI gg13 (by decide)).FI f14 (by decide)).FI gg14 (by decide)).FI f15 (by decide)).FI gg15 (by decide)).FI f16 (by decide)).FI gg16 (by decide)
  have c2 : ob_X2 u16 8 := (((((((((((((((((((((((((((((o2).FI gg2 (by decide)).FI f3 (by decide)).FI gg3 (by decide)).FI f4 (by decide)).FI gg4 (by decide)).FI f5 (by decide)).FI gg5 (by decide)).FI f6 (by decide)).FI gg6 (by decide)).FI f7 (by decide)).FI gg7 (by decide)).FI f8 (by decide)).FI gg8 (by decide)).FI f9 (by decide)).FI gg9 (by decide)).FI f10 (by decide)).FI gg10 (by decide)).FI f11 (by decide)).FI gg11 (by decide)).FI f12 (by decide)).FI gg12 (by decide)).FI f13 (by decide)).FI gg13 (by decide)).FI f14 (by decide)).FI gg14 (by decide)).FI f15 (by decide)).FI gg15 (by decide)).FI f16 (by decide)).FI gg16 (by decide)
  have c4 : ob_X4 u16 181 := (((((((((((((((((((((((((o4).FI gg4 (by decide)).FI f5 (by decide)).FI gg5 (by decide)).FI f6 (by decide)).FI gg6 (by decide)).FI f7 (by decide)).FI gg7 (by decide)).FI f8 (by decide)).FI gg8 (by decide)).FI f9 (by decide)).FI gg9 (by decide)).FI f10 (by decide)).FI gg10 (by decide)).FI f11 (by decide)).FI gg11 (by decide)).FI f12 (by decide)).FI gg12 (by decide)).FI f13 (by decide)).FI gg13 (by decide)).FI f14 (by decide)).FI gg14 (by decide)).FI f15 (by decide)).FI gg15 (by decide)).FI f16 (by decide)).FI gg16 (by decide)
  have c5 : ob_X4 u16 191 := (((((((((((((((((((((((o5).FI gg5 (by decide)).FI f6 (by decide)).FI gg6 (by decide)).FI f7 (by decide)).FI gg7 (by decide)).FI f8 (by decide)).FI gg8 (by decide)).FI f9 (by decide)).FI gg9 (by decide)).FI f10 (by decide)).FI gg10 (by decide)).FI f11 (by decide)).FI gg11 (by decide)).FI f12 (by decide)).FI gg12 (by decide)).FI f13 (by decide)).FI gg13 (by decide)).FI f14 (by decide)).FI gg14 (by decide)).FI f15 (by decide)).FI gg15 (by decide)).FI f16 (by decide)).FI gg16 (by decide)
  have c6 : ob_X6 u16 201 := (((((((((((((((((((((o6).FI gg6 (by decide)).FI f7 (by decide)).FI gg7 (by decide)).FI f8 (by decide)).FI gg8 (by decide)).FI f9 (by decide)).FI gg9 (by decide)).FI f10 (by decide)).FI gg10 (by decide)).FI f11 (by decide)).FI gg11 (by decide)).FI f12 (by decide)).FI gg12 (by decide)).FI f13 (by decide)).FI gg13 (by decide)).FI f14 (by decide)).FI gg14 (by decide)).FI f15 (by decide)).FI gg15 (by decide)).FI f16 (by decide)).FI gg16 (by decide)
  have c7 : ob_X5 u16 203 := (((((((((((((((((((o7).FI gg7 (by decide)).FI f8 (by decide)).FI gg8 (by decide)).FI f9 (by decide)).FI gg9 (by decide)).FI f10 (by decide)).FI gg10 (by decide)).FI f11 (by decide)).FI gg11 (by decide)).FI f12 (by decide)).FI gg12 (by decide)).FI f13 (by decide)).FI gg13 (by decide)).FI f14 (by decide)).FI gg14 (by decide)).FI f15 (by decide)).FI gg15 (by decide)).FI f16 (by decide)).FI gg16 (by decide)
  have c8 : ob_X1 u16 296 := (((((((((((((((((o8).FI gg8 (by decide)).FI f9 (by decide)).FI gg9 (by decide)).FI f10 (by decide)).FI gg10 (by decide)).FI f11 (by decide)).FI gg11 (by decide)).FI f12 (by decide)).FI gg12 (by decide)).FI f13 (by decide)).FI gg13 (by decide)).FI f14 (by decide)).FI gg14 (by decide)).FI f15 (by decide)).FI gg15 (by decide)).FI f16 (by decide)).FI gg16 (by decide)
  have c9 : ob_X1 u16 304 := (((((((((((((((o9).FI gg9 (by decide)).FI f10 (by decide)).FI gg10 (by decide)).FI f11 (by decide)).FI gg11 (by decide)).FI f12 (by decide)).FI gg12 (by decide)).FI f13 (by decide)).FI gg13 (by decide)).FI f14 (by decide)).FI gg14 (by decide)).FI f15 (by decide)).FI gg15 (by decide)).FI f16 (by decide)).FI gg16 (by decide)
  have c10 : ob_X3 u16 312 := (((((((((((((o10).FI gg10 (by decide)).FI f11 (by decide)).FI gg11 (by decide)).FI f12 (by decide)).FI gg12 (by decide)).FI f13 (by decide)).FI gg13 (by decide)).FI f14 (by decide)).FI gg14 (by decide)).FI f15 (by decide)).FI gg15 (by decide)).FI f16 (by decide)).FI gg16 (by decide)
  have c11 : ob_X3 u16 317 := (((((((((((o11).FI gg11 (by decide)).FI f12 (by decide)).FI gg12 (by decide)).FI f13 (by decide)).FI gg13 (by decide)).FI f14 (by decide)).FI gg14 (by decide)).FI f15 (by decide)).FI gg15 (by decide)).FI f16 (by decide)).FI gg16 (by decide)
  have c12 : ob_X0 u16 322 := (((((((((o12).FI gg12 (by decide)).FI f13 (by decide)).FI gg13 (by decide)).FI f14 (by decide)).FI gg14 (by decide)).FI f15 (by decide)).FI gg15 (by decide)).FI f16 (by decide)).FI gg16 (by decide)
  have c13 : ob_X0 u16 324 := (((((((o13).FI gg13 (by decide)).FI f14 (by decide)).FI gg14 (by decide)).FI f15 (by decide)).FI gg15 (by decide)).FI f16 (by decide)).FI gg16 (by decide)
  have c14 : ob_X2 u16 326 := (((((o14).FI gg14 (by decide)).FI f15 (by decide)).FI gg15 (by decide)).FI f16 (by decide)).FI gg16 (by decide)
  have c15 : ob_X2 u16 498 := (((o15).FI gg15 (by decide)).FI f16 (by decide)).FI gg16 (by decide)
  have c16 : ob_X2 u16 670 := (o16).FI gg16 (by decide)
  have rowE : u16 (901, 179) = pA 5 3 (.inr (.inr (fun j => if j < 3 then some (200, 326 + 172 * j) else none))) := by
    rw [row3]
    congr 5
    funext j
    unfold va_up
    show (if j = 2 then some ((200, 670) : LA) else if j = 1 then some (200, 498) else if j = 0 then some (200, 326) else none) = _
    by_cases e0 : j = 0
    · subst e0; rfl
    by_cases e1 : j = 1
    · subst e1; rfl
    by_cases e2 : j = 2
    · subst e2; rfl
    rw [if_neg e2, if_neg e1, if_neg e0, if_neg (by omega)]
  have hm : made u16 := ⟨c0, c1, c2, rowE, c4, c5, c6, c7, c8, c9, c10, c11, c12, c13, c14, c15, c16⟩
  have fA : FI 0 842 h u16 := ((((((((((((((((((((((((((((((((((FI.rf 0 842 h).tr (f0.w (by decide) (by decide))).tr (gg0.w (by decide) (by decide))).tr (f1.w (by decide) (by decide))).tr (gg1.w (by decide) (by decide))).tr (f2.w (by decide) (by decide))).tr (gg2.w (by decide) (by decide))).tr (f3.w (by decide) (by decide))).tr (gg3.w (by decide) (by decide))).tr (f4.w (by decide) (by decide))).tr (gg4.w (by decide) (by decide))).tr (f5.w (by decide) (by decide))).tr (gg5.w (by decide) (by decide))).tr (f6.w (by decide) (by decide))).tr (gg6.w (by decide) (by decide))).tr (f7.w (by decide) (by decide))).tr (gg7.w (by decide) (by decide))).tr (f8.w (by decide) (by decide))).tr (gg8.w (by decide) (by decide))).tr (f9.w (by decide) (by decide))).tr (gg9.w (by decide) (by decide))).tr (f10.w (by decide) (by decide))).tr (gg10.w (by decide) (by decide))).tr (f11.w (by decide) (by decide))).tr (gg11.w (by decide) (by decide))).tr (f12.w (by decide) (by decide))).tr (gg12.w (by decide) (by decide))).tr (f13.w (by decide) (by decide))).tr (gg13.w (by decide) (by decide))).tr (f14.w (by decide) (by decide))).tr (gg14.w (by decide) (by decide))).tr (f15.w (by decide) (by decide))).tr (gg15.w (by decide) (by decide))).tr (f16.w (by decide) (by decide))).tr (gg16.w (by decide) (by decide))
  exact x9_end zu16 ru16 hm fA
