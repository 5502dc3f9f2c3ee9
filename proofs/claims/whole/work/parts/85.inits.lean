/-! constructors without calls -/
theorem fl_of {B N n : Nat} {h : PH} {dv : Nat → PV} {l : List SP} (hf : ∀ j < N, h (B + j, n) = pF (dv j)) (hc : l.all (fun s => Nat.ble B s.1 && Nat.blt s.1 (B + N)) = true) : ∀ s ∈ l, ∃ v, h (s.1, n) = pF v := by
  intro s hs
  have h1 := List.all_eq_true.mp hc s hs
  simp only [Bool.and_eq_true, Nat.ble_eq, Nat.blt_eq] at h1
  have := hf (s.1 - B) (by omega)
  rw [show B + (s.1 - B) = s.1 by omega] at this
  exact ⟨_, this⟩
theorem up_F {h : PH} {t u id : Nat} {c : Option PC} {v : Option PC} (e : h (t, id) = v) (hn : t ≠ u) : up h (u, id) c (t, id) = v := by
  rw [up_ne]
  · exact e
  · intro q
    exact hn (Prod.mk.inj q).1
def l_X3i : List SP := [(10300, (301, (0, 150))), (10301, (302, (0, 150))), (10302, (303, (0, 150))), (10303, (304, (0, 9)))]
def v_X30 : List (Nat × Int32) := [(10304, 0)]
def v_X3i : List (Nat × Int32) := [(10304, 0)]
def ob_X3 (h : PH) (n : Nat) : Prop := obS h n l_X3i ∧ inS h n v_X3i
theorem i_X3 {h : PH} {n : Nat} {g0 : PA} (hz : h SZ = pA 99 (n + 1) g0) (hf : ∀ j < 5, h (10000 + 100 * 3 + j, n) = pF (dvT tyX3 j)) : CT 1 M_X3_init [vR (300, n)] h 4 459 (fun r h' => r = .inl none ∧ (h' SZ = pA 99 (n + 5) g0 ∧ (ob_X3 h' n ∧ FI n (n + 5) h h'))) := by
  refine CT_of mk_X3_init (Nat.le_of_ble_eq_true rfl) rfl (r_X3_init_0 ⟨Nat.le_refl 1, ?_⟩)
  have i0 : inS h n v_X30 := ⟨hf 4 (by decide), trivial⟩
  have key := nwL_ok n g0 l_X3i 1 (n + 1) h 0 0 (fun h' _ _ => (Sum.inl none : PO) = .inl none ∧ (h' SZ = pA 99 (n + 5) g0 ∧ (ob_X3 h' n ∧ FI n (n + 5) h h'))) (by decide) rfl (Nat.le_refl 1) hz (fl_of (B := 10000 + 100 * 3) (N := 5) hf (by decide)) (fun h' z1 z2 z3 => ?_)
  · exact key
  · have i1 : inS h' n v_X30 := i0.ofL (l := l_X3i) (by decide) (by decide) (by decide) z3
    have f1 : FI n (n + 5) h h' := (FI_ofL (l := l_X3i) (by decide) z3).w (Nat.le_refl _) (by show n + 1 + 4 ≤ _; omega)
    have z1 : h' SZ = pA 99 (n + 1 + 4) g0 := z1
    rw [show n + 1 + 4 = n + 5 by omega] at z1
    exact ⟨rfl, z1, ⟨z2, i1⟩, f1⟩
theorem n_X3 {d n rc rs : Nat} {h : PH} {g0 : PA} {K : Nat → PH → Nat → Nat → Prop} {XX : Nat → String → PH → Nat → Nat → Prop} (hd : 2 ≤ d) (hz : h SZ = pA 99 n g0) (k : ∀ h', h' SZ = pA 99 (n + 5) g0 → ob_X3 h' n → FI n (n + 5) h h' → K n h' rc rs) : nwO h 3 5 (1 + (4 + rc)) (5 + (459 + rs)) (dvT tyX3) fun o h2 rc3 rs4 => cl d rc3 rs4 M_X3_init [vR (300, o)] h2 (kV fun h5 rc6 rs7 => K o h5 rc6 rs7) (XX o) :=
  nwO_ok hz (fun h1 z1 f1 g1 => cl_i hd (i_X3 z1 f1) (fun h' q => k h' q.1 q.2.1 ((g1.w (Nat.le_refl _) (by omega)).tr q.2.2)))
theorem ob_X3.FI {h h' : PH} {n lo hi : Nat} (g : ob_X3 h n) (f : FI lo hi h h') (hx : n + 4 < lo ∨ hi ≤ n) : ob_X3 h' n := ⟨g.1.FI (by decide) f (by show n + 4 < lo ∨ hi ≤ n; exact hx), g.2.FI (by decide) f (by omega)⟩
def l_X4i : List SP := [(10400, (401, (0, 7))), (10401, (402, (0, 7))), (10402, (403, (0, 7))), (10403, (404, (0, 7))), (10404, (405, (0, 7))), (10405, (406, (0, 7))), (10406, (407, (0, 7))), (10407, (408, (0, 7))), (10408, (409, (0, 7)))]
def v_X40 : List (Nat × Int32) := [(10409, 0)]
def v_X4i : List (Nat × Int32) := [(10409, 0)]
def ob_X4 (h : PH) (n : Nat) : Prop := obS h n l_X4i ∧ inS h n v_X4i
theorem i_X4 {h : PH} {n : Nat} {g0 : PA} (hz : h SZ = pA 99 (n + 1) g0) (hf : ∀ j < 10, h (10000 + 100 * 4 + j, n) = pF (dvT tyX4 j)) : CT 1 M_X4_init [vR (400, n)] h 9 63 (fun r h' => r = .inl none ∧ (h' SZ = pA 99 (n + 10) g0 ∧ (ob_X4 h' n ∧ FI n (n + 10) h h'))) := by
  refine CT_of mk_X4_init (Nat.le_of_ble_eq_true rfl) rfl (r_X4_init_0 ⟨Nat.le_refl 1, ?_⟩)
  have i0 : inS h n v_X40 := ⟨hf 9 (by decide), trivial⟩
  have key := nwL_ok n g0 l_X4i 1 (n + 1) h 0 0 (fun h' _ _ => (Sum.inl none : PO) = .inl none ∧ (h' SZ = pA 99 (n + 10) g0 ∧ (ob_X4 h' n ∧ FI n (n + 10) h h'))) (by decide) rfl (Nat.le_refl 1) hz (fl_of (B := 10000 + 100 * 4) (N := 10) hf (by decide)) (fun h' z1 z2 z3 => ?_)
  · exact key
  · have i1 : inS h' n v_X40 := i0.ofL (l := l_X4i) (by decide) (by decide) (by decide) z3
    have f1 : FI n (n + 10) h h' := (FI_ofL (l := l_X4i) (by decide) z3).w (Nat.le_refl _) (by show n + 1 + 9 ≤ _; omega)
    have z1 : h' SZ = pA 99 (n + 1 + 9) g0 := z1
    rw [show n + 1 + 9 = n + 10 by omega] at z1
    exact ⟨rfl, z1, ⟨z2, i1⟩, f1⟩
theorem n_X4 {d n rc rs : Nat} {h : PH} {g0 : PA} {K : Nat → PH → Nat → Nat → Prop} {XX : Nat → String → PH → Nat → Nat → Prop} (hd : 2 ≤ d) (hz : h SZ = pA 99 n g0) (k : ∀ h', h' SZ = pA 99 (n + 10) g0 → ob_X4 h' n → FI n (n + 10) h h' → K n h' rc rs) : nwO h 4 10 (1 + (9 + rc)) (10 + (63 + rs)) (dvT tyX4) fun o h2 rc3 rs4 => cl d rc3 rs4 M_X4_init [vR (400, o)] h2 (kV fun h5 rc6 rs7 => K o h5 rc6 rs7) (XX o) :=
  nwO_ok hz (fun h1 z1 f1 g1 => cl_i hd (i_X4 z1 f1) (fun h' q => k h' q.1 q.2.1 ((g1.w (Nat.le_refl _) (by omega)).tr q.2.2)))
theorem ob_X4.FI {h h' : PH} {n lo hi : Nat} (g : ob_X4 h n) (f : FI lo hi h h') (hx : n + 9 < lo ∨ hi ≤ n) : ob_X4 h' n := ⟨g.1.FI (by decide) f (by show n + 9 < lo ∨ hi ≤ n; exact hx), g.2.FI (by decide) f (by omega)⟩
def l_X6i : List SP := [(10600, (601, (0, 1024)))]
def v_X60 : List (Nat × Int32) := []
def v_X6i : List (Nat × Int32) := []
def ob_X6 (h : PH) (n : Nat) : Prop := obS h n l_X6i ∧ inS h n v_X6i
theorem i_X6 {h : PH} {n : Nat} {g0 : PA} (hz : h SZ = pA 99 (n + 1) g0) (hf : ∀ j < 1, h (10000 + 100 * 6 + j, n) = pF (dvT tyX6 j)) : CT 1 M_X6_init [vR (600, n)] h 1 1024 (fun r h' => r = .inl none ∧ (h' SZ = pA 99 (n + 2) g0 ∧ (ob_X6 h' n ∧ FI n (n + 2) h h'))) := by
  refine CT_of mk_X6_init (Nat.le_of_ble_eq_true rfl) rfl (r_X6_init_0 ⟨Nat.le_refl 1, ?_⟩)
  have i0 : inS h n v_X60 := trivial
  have key := nwL_ok n g0 l_X6i 1 (n + 1) h 0 0 (fun h' _ _ => (Sum.inl none : PO) = .inl none ∧ (h' SZ = pA 99 (n + 2) g0 ∧ (ob_X6 h' n ∧ FI n (n + 2) h h'))) (by decide) rfl (Nat.le_refl 1) hz (fl_of (B := 10000 + 100 * 6) (N := 1) hf (by decide)) (fun h' z1 z2 z3 => ?_)
  · exact key
  · have i1 : inS h' n v_X60 := i0.ofL (l := l_X6i) (by decide) (by decide) (by decide) z3
    have f1 : FI n (n + 2) h h' := (FI_ofL (l := l_X6i) (by decide) z3).w (Nat.le_refl _) (by show n + 1 + 1 ≤ _; omega)
    have z1 : h' SZ = pA 99 (n + 1 + 1) g0 := z1
    rw [show n + 1 + 1 = n + 2 by omega] at z1
    exact ⟨rfl, z1, ⟨z2, i1⟩, f1⟩
theorem n_X6 {d n rc rs : Nat} {h : PH} {g0 : PA} {K : Nat → PH → Nat → Nat → Prop} {XX : Nat → String → PH → Nat → Nat → Prop} (hd : 2 ≤ d) (hz : h SZ = pA 99 n g0) (k : ∀ h', h' SZ = pA 99 (n + 2) g0 → ob_X6 h' n → FI n (n + 2) h h' → K n h' rc rs) : nwO h 6 1 (1 + (1 + rc)) (1 + (1024 + rs)) (dvT tyX6) fun o h2 rc3 rs4 => cl d rc3 rs4 M_X6_init [vR (600, o)] h2 (kV fun h5 rc6 rs7 => K o h5 rc6 rs7) (XX o) :=
  nwO_ok hz (fun h1 z1 f1 g1 => cl_i hd (i_X6 z1 f1) (fun h' q => k h' q.1 q.2.1 ((g1.w (Nat.le_refl _) (by omega)).tr q.2.2)))
theorem ob_X6.FI {h h' : PH} {n lo hi : Nat} (g : ob_X6 h n) (f : FI lo hi h h') (hx : n + 1 < lo ∨ hi ≤ n) : ob_X6 h' n := ⟨g.1.FI (by decide) f (by show n + 1 < lo ∨ hi ≤ n; exact hx), g.2.FI (by decide) f (by omega)⟩
def l_X7i : List SP := [(10700, (701, (0, 150))), (10701, (702, (0, 150))), (10702, (703, (0, 150))), (10703, (704, (0, 150)))]
def v_X70 : List (Nat × Int32) := [(10704, 0), (10705, 0), (10706, 0), (10707, 0)]
def v_X7i : List (Nat × Int32) := [(10704, 0), (10705, 0), (10706, 0), (10707, 0)]
def ob_X7 (h : PH) (n : Nat) : Prop := obS h n l_X7i ∧ inS h n v_X7i
theorem i_X7 {h : PH} {n : Nat} {g0 : PA} (hz : h SZ = pA 99 (n + 1) g0) (hf : ∀ j < 8, h (10000 + 100 * 7 + j, n) = pF (dvT tyX7 j)) : CT 1 M_X7_init [vR (700, n)] h 4 600 (fun r h' => r = .inl none ∧ (h' SZ = pA 99 (n + 5) g0 ∧ (ob_X7 h' n ∧ FI n (n + 5) h h'))) := by
  refine CT_of mk_X7_init (Nat.le_of_ble_eq_true rfl) rfl (r_X7_init_0 ⟨Nat.le_refl 1, ?_⟩)
  have i0 : inS h n v_X70 := ⟨hf 4 (by decide), hf 5 (by decide), hf 6 (by decide), hf 7 (by decide), trivial⟩
  have key := nwL_ok n g0 l_X7i 1 (n + 1) h 0 0 (fun h' _ _ => (Sum.inl none : PO) = .inl none ∧ (h' SZ = pA 99 (n + 5) g0 ∧ (ob_X7 h' n ∧ FI n (n + 5) h h'))) (by decide) rfl (Nat.le_refl 1) hz (fl_of (B := 10000 + 100 * 7) (N := 8) hf (by decide)) (fun h' z1 z2 z3 => ?_)
  · exact key
  · have i1 : inS h' n v_X70 := i0.ofL (l := l_X7i) (by decide) (by decide) (by decide) z3
    have f1 : FI n (n + 5) h h' := (FI_ofL (l := l_X7i) (by decide) z3).w (Nat.le_refl _) (by show n + 1 + 4 ≤ _; omega)
    have z1 : h' SZ = pA 99 (n + 1 + 4) g0 := z1
    rw [show n + 1 + 4 = n + 5 by omega] at z1
    exact ⟨rfl, z1, ⟨z2, i1⟩, f1⟩
theorem n_X7 {d n rc rs : Nat} {h : PH} {g0 : PA} {K : Nat → PH → Nat → Nat → Prop} {XX : Nat → String → PH → Nat → Nat → Prop} (hd : 2 ≤ d) (hz : h SZ = pA 99 n g0) (k : ∀ h', h' SZ = pA 99 (n + 5) g0 → ob_X7 h' n → FI n (n + 5) h h' → K n h' rc rs) : nwO h 7 8 (1 + (4 + rc)) (8 + (600 + rs)) (dvT tyX7) fun o h2 rc3 rs4 => cl d rc3 rs4 M_X7_init [vR (700, o)] h2 (kV fun h5 rc6 rs7 => K o h5 rc6 rs7) (XX o) :=
  nwO_ok hz (fun h1 z1 f1 g1 => cl_i hd (i_X7 z1 f1) (fun h' q => k h' q.1 q.2.1 ((g1.w (Nat.le_refl _) (by omega)).tr q.2.2)))
theorem ob_X7.FI {h h' : PH} {n lo hi : Nat} (g : ob_X7 h n) (f : FI lo hi h h') (hx : n + 4 < lo ∨ hi ≤ n) : ob_X7 h' n := ⟨g.1.FI (by decide) f (by show n + 4 < lo ∨ hi ≤ n; exact hx), g.2.FI (by decide) f (by omega)⟩
def l_X8i : List SP := [(10800, (801, (1, 600)))]
def v_X80 : List (Nat × Int32) := [(10801, 0), (10802, 0), (10803, 0), (10804, 0), (10805, 0), (10806, 0)]
def v_X8i : List (Nat × Int32) := [(10801, 0), (10802, 0), (10803, 0), (10804, 0), (10805, 0), (10806, -1)]
def ob_X8 (h : PH) (n : Nat) : Prop := obS h n l_X8i ∧ inS h n v_X8i
theorem i_X8 {h : PH} {n : Nat} {g0 : PA} (hz : h SZ = pA 99 (n + 1) g0) (hf : ∀ j < 7, h (10000 + 100 * 8 + j, n) = pF (dvT tyX8 j)) : CT 1 M_X8_init [vR (800, n)] h 1 600 (fun r h' => r = .inl none ∧ (h' SZ = pA 99 (n + 2) g0 ∧ (ob_X8 h' n ∧ FI n (n + 2) h h'))) := by
  refine CT_of mk_X8_init (Nat.le_of_ble_eq_true rfl) rfl (r_X8_init_0 ⟨Nat.le_refl 1, ?_⟩)
  have i0 : inS h n v_X80 := ⟨hf 1 (by decide), hf 2 (by decide), hf 3 (by decide), hf 4 (by decide), hf 5 (by decide), hf 6 (by decide), trivial⟩
  have key := nwL_ok n g0 l_X8i 1 (n + 1) h 0 0 (fun h' _ _ => sF h' (10806, n) (vI (-1 : Int32)) fun h6 => (Sum.inl none : PO) = .inl none ∧ (h6 SZ = pA 99 (n + 2) g0 ∧ (ob_X8 h6 n ∧ FI n (n + 2) h h6))) (by decide) rfl (Nat.le_refl 1) hz (fl_of (B := 10000 + 100 * 8) (N := 7) hf (by decide)) (fun h' z1 z2 z3 => ?_)
  · exact key
  · have i1 : inS h' n v_X80 := i0.ofL (l := l_X8i) (by decide) (by decide) (by decide) z3
    have f1 : FI n (n + 2) h h' := (FI_ofL (l := l_X8i) (by decide) z3).w (Nat.le_refl _) (by show n + 1 + 1 ≤ _; omega)
    have z1 : h' SZ = pA 99 (n + 1 + 1) g0 := z1
    rw [show n + 1 + 1 = n + 2 by omega] at z1
    refine ⟨⟨_, i1.2.2.2.2.2.1⟩, rfl, ?_, ⟨z2.upF (by decide) (by decide) (by decide), up_F i1.1 (by decide), up_F i1.2.1 (by decide), up_F i1.2.2.1 (by decide), up_F i1.2.2.2.1 (by decide), up_F i1.2.2.2.2.1 (by decide), up_eq _ _ _, trivial⟩, f1.up (nspF (by decide)) (by rw [psF (by decide)]; omega) (by rw [psF (by decide)]; omega)⟩
    rw [up_ne _ _ (neSF (by decide)).symm]
    exact z1
theorem n_X8 {d n rc rs : Nat} {h : PH} {g0 : PA} {K : Nat → PH → Nat → Nat → Prop} {XX : Nat → String → PH → Nat → Nat → Prop} (hd : 2 ≤ d) (hz : h SZ = pA 99 n g0) (k : ∀ h', h' SZ = pA 99 (n + 2) g0 → ob_X8 h' n → FI n (n + 2) h h' → K n h' rc rs) : nwO h 8 7 (1 + (1 + rc)) (7 + (600 + rs)) (dvT tyX8) fun o h2 rc3 rs4 => cl d rc3 rs4 M_X8_init [vR (800, o)] h2 (kV fun h5 rc6 rs7 => K o h5 rc6 rs7) (XX o) :=
  nwO_ok hz (fun h1 z1 f1 g1 => cl_i hd (i_X8 z1 f1) (fun h' q => k h' q.1 q.2.1 ((g1.w (Nat.le_refl _) (by omega)).tr q.2.2)))
theorem ob_X8.FI {h h' : PH} {n lo hi : Nat} (g : ob_X8 h n) (f : FI lo hi h h') (hx : n + 1 < lo ∨ hi ≤ n) : ob_X8 h' n := ⟨g.1.FI (by decide) f (by show n + 1 < lo ∨ hi ≤ n; exact hx), g.2.FI (by decide) f (by omega)⟩
def l_X1i : List SP := [(10100, (101, (0, 7))), (10101, (102, (0, 7))), (10102, (103, (0, 7))), (10103, (104, (0, 12))), (10104, (105, (0, 12))), (10105, (106, (0, 6))), (10106, (107, (0, 6)))]
def v_X10 : List (Nat × Int32) := [(10107, 0), (10108, 0), (10109, 0), (10110, 0)]
def v_X1i : List (Nat × Int32) := [(10107, 0), (10108, 0), (10109, 0), (10110, 12)]
def ob_X1 (h : PH) (n : Nat) : Prop := obS h n l_X1i ∧ inS h n v_X1i
theorem i_X1 {h : PH} {n : Nat} {g0 : PA} (hz : h SZ = pA 99 (n + 1) g0) (hf : ∀ j < 11, h (10000 + 100 * 1 + j, n) = pF (dvT tyX1 j)) : CT 1 M_X1_init [vR (100, n)] h 7 57 (fun r h' => r = .inl none ∧ (h' SZ = pA 99 (n + 8) g0 ∧ (ob_X1 h' n ∧ FI n (n + 8) h h'))) := by
  refine CT_of mk_X1_init (Nat.le_of_ble_eq_true rfl) rfl (r_X1_init_0 ⟨Nat.le_refl 1, ?_⟩)
  have i0 : inS h n v_X10 := ⟨hf 7 (by decide), hf 8 (by decide), hf 9 (by decide), hf 10 (by decide), trivial⟩
  have key := nwL_ok n g0 l_X1i 1 (n + 1) h 0 0 (fun h' _ _ => sF h' (10110, n) (vI (12 : Int32)) fun h6 => (Sum.inl none : PO) = .inl none ∧ (h6 SZ = pA 99 (n + 8) g0 ∧ (ob_X1 h6 n ∧ FI n (n + 8) h h6))) (by decide) rfl (Nat.le_refl 1) hz (fl_of (B := 10000 + 100 * 1) (N := 11) hf (by decide)) (fun h' z1 z2 z3 => ?_)
  · exact key
  · have i1 : inS h' n v_X10 := i0.ofL (l := l_X1i) (by decide) (by decide) (by decide) z3
    have f1 : FI n (n + 8) h h' := (FI_ofL (l := l_X1i) (by decide) z3).w (Nat.le_refl _) (by show n + 1 + 7 ≤ _; omega)
    have z1 : h' SZ = pA 99 (n + 1 + 7) g0 := z1
    rw [show n + 1 + 7 = n + 8 by omega] at z1
    refine ⟨⟨_, i1.2.2.2.1⟩, rfl, ?_, ⟨z2.upF (by decide) (by decide) (by decide), up_F i1.1 (by decide), up_F i1.2.1 (by decide), up_F i1.2.2.1 (by decide), up_eq _ _ _, trivial⟩, f1.up (nspF (by decide)) (by rw [psF (by decide)]; omega) (by rw [psF (by decide)]; omega)⟩
    rw [up_ne _ _ (neSF (by decide)).symm]
    exact z1
theorem n_X1 {d n rc rs : Nat} {h : PH} {g0 : PA} {K : Nat → PH → Nat → Nat → Prop} {XX : Nat → String → PH → Nat → Nat → Prop} (hd : 2 ≤ d) (hz : h SZ = pA 99 n g0) (k : ∀ h', h' SZ = pA 99 (n + 8) g0 → ob_X1 h' n → FI n (n + 8) h h' → K n h' rc rs) : nwO h 1 11 (1 + (7 + rc)) (11 + (57 + rs)) (dvT tyX1) fun o h2 rc3 rs4 => cl d rc3 rs4 M_X1_init [vR (100, o)] h2 (kV fun h5 rc6 rs7 => K o h5 rc6 rs7) (XX o) :=
  nwO_ok hz (fun h1 z1 f1 g1 => cl_i hd (i_X1 z1 f1) (fun h' q => k h' q.1 q.2.1 ((g1.w (Nat.le_refl _) (by omega)).tr q.2.2)))
theorem ob_X1.FI {h h' : PH} {n lo hi : Nat} (g : ob_X1 h n) (f : FI lo hi h h') (hx : n + 7 < lo ∨ hi ≤ n) : ob_X1 h' n := ⟨g.1.FI (by decide) f (by show n + 7 < lo ∨ hi ≤ n; exact hx), g.2.FI (by decide) f (by omega)⟩
