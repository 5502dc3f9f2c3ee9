/-! one glass at a time: whom to wipe -/
def colE (h : Nat) (f g : Nat → Int32) : Prop := (∀ t < 8, f (7 * t + h) = g (7 * t + h)) ∧ f 56 = g 56
theorem colE.rf (h : Nat) (f : Nat → Int32) : colE h f f := ⟨fun _ _ => rfl, rfl⟩
theorem colE.up {h k : Nat} {f g : Nat → Int32} (e : colE h f g) (h7 : h < 7) (k7 : k < 7) {t : Nat} (ht : t < 8) {x y : Int32} (hxy : k = h → x = y) : colE h (upd f (7 * t + k) x) (upd g (7 * t + k) y) := by
  refine ⟨fun t1 ht1 => ?_, ?_⟩
  · rw [upd_eq, upd_eq]
    by_cases c : 7 * t1 + h = 7 * t + k
    · rw [if_pos c, if_pos c]
      exact hxy (by omega)
    · rw [if_neg c, if_neg c]
      exact e.1 t1 ht1
  · rw [upd_ne _ _ (by omega), upd_ne _ _ (by omega)]
    exact e.2
theorem colE.ul {h k : Nat} {f g : Nat → Int32} (e : colE h f g) (h7 : h < 7) (k7 : k < 7) {t : Nat} (ht : t < 8) {x : Int32} (hk : k ≠ h) : colE h (upd f (7 * t + k) x) g := by
  refine ⟨fun t1 ht1 => ?_, ?_⟩
  · rw [upd_ne _ _ (by omega)]
    exact e.1 t1 ht1
  · rw [upd_ne _ _ (by omega)]
    exact e.2
theorem colE.sy {h : Nat} {f g : Nat → Int32} (e : colE h f g) : colE h g f := ⟨fun t ht => (e.1 t ht).symm, e.2.symm⟩
theorem colE.tr {h : Nat} {f g k : Nat → Int32} (e : colE h f g) (e2 : colE h g k) : colE h f k := ⟨fun t ht => (e.1 t ht).trans (e2.1 t ht), e.2.trans e2.2⟩
theorem cough_self {C : ACt} {h k : Nat} (f : Nat → Int32) (h7 : h < 7) (k7 : cKh C k < 7) (hk : cKh C k ≠ h) : colE h (coughS C k f) f := by
  unfold coughS
  split
  · exact (colE.rf h f).ul (t := 4) h7 k7 (by omega) hk
  · exact colE.rf h f
theorem cough_col {C : ACt} {h k : Nat} {f g : Nat → Int32} (e : colE h f g) (h7 : h < 7) (k7 : cKh C k < 7) : colE h (coughS C k f) (coughS C k g) := by
  by_cases c : cKh C k = h
  · have e5 : f (35 + cKh C k) = g (35 + cKh C k) := by rw [c]; exact e.1 5 (by omega)
    have e4 : f (28 + cKh C k) = g (28 + cKh C k) := by rw [c]; exact e.1 4 (by omega)
    unfold coughS
    rw [e.2, e5, e4]
    split
    · exact e.up (t := 4) h7 k7 (by omega) (fun _ => rfl)
    · exact e
  · exact ((cough_self f h7 k7 c).tr e).tr (cough_self g h7 k7 c).sy
theorem glass_self {C : ACt} {h k : Nat} (f : Nat → Int32) (h7 : h < 7) (k7 : k < 7) (hk : k ≠ h) : colE h (glassS C k f) f := by
  unfold glassS
  split
  · exact colE.rf h f
  · have g1 : colE h (gl1 C k f) f := (colE.rf h f).ul (t := 1) h7 k7 (by omega) hk
    have g2 : colE h (gl2 C k (gl1 C k f)) f := g1.ul (t := 2) h7 k7 (by omega) hk
    have g3 : colE h (gl3 k (gl2 C k (gl1 C k f))) f := g2.ul (t := 7) h7 k7 (by omega) hk
    unfold gl4
    split
    · exact g3
    · split
      · exact g3.ul (t := 6) h7 k7 (by omega) hk
      · exact g3
theorem cloud_col {C : ACt} {h : Nat} {f g : Nat → Int32} (e : colE h f g) : cloudS C f h = cloudS C g h := by
  have e0 : f h = g h := by
    have := e.1 0 (by omega)
    rwa [Nat.mul_zero, Nat.zero_add] at this
  have e1 : f (7 + h) = g (7 + h) := e.1 1 (by omega)
  have e2 : f (14 + h) = g (14 + h) := e.1 2 (by omega)
  have e3 : f (21 + h) = g (21 + h) := e.1 3 (by omega)
  have e4 : f (28 + h) = g (28 + h) := e.1 4 (by omega)
  have e5 : f (35 + h) = g (35 + h) := e.1 5 (by omega)
  unfold cloudS
  rw [e0, e1, e2, e3, e4, e5, e.2]
theorem glass_col {C : ACt} {h k : Nat} {f g : Nat → Int32} (e : colE h f g) (h7 : h < 7) (k7 : k < 7) : colE h (glassS C k f) (glassS C k g) := by
  by_cases c : k = h
  · subst c
    have e5 : f (35 + k) = g (35 + k) := e.1 5 (by omega)
    unfold glassS
    rw [e5]
    split
    · exact e
    · have e1 : f (7 + k) = g (7 + k) := e.1 1 (by omega)
      have g1 : colE k (gl1 C k f) (gl1 C k g) := e.up (t := 1) h7 k7 (by omega) (fun _ => by rw [e1, cloud_col e])
      have g1a : gl1 C k f (14 + k) = gl1 C k g (14 + k) := g1.1 2 (by omega)
      have g1b : gl1 C k f k = gl1 C k g k := by
        have := g1.1 0 (by omega)
        rwa [Nat.mul_zero, Nat.zero_add] at this
      have g2 : colE k (gl2 C k (gl1 C k f)) (gl2 C k (gl1 C k g)) := g1.up (t := 2) h7 k7 (by omega) (fun _ => by rw [g1a, g1b])
      have g2a : gl2 C k (gl1 C k f) (14 + k) = gl2 C k (gl1 C k g) (14 + k) := g2.1 2 (by omega)
      have g2b : gl2 C k (gl1 C k f) (49 + k) = gl2 C k (gl1 C k g) (49 + k) := g2.1 7 (by omega)
      have g3 : colE k (gl3 k (gl2 C k (gl1 C k f))) (gl3 k (gl2 C k (gl1 C k g))) := g2.up (t := 7) h7 k7 (by omega) (fun _ => by rw [g2a, g2b])
      have g3a : gl3 k (gl2 C k (gl1 C k f)) (7 + k) = gl3 k (gl2 C k (gl1 C k g)) (7 + k) := g3.1 1 (by omega)
      have g3b : gl3 k (gl2 C k (gl1 C k f)) (42 + k) = gl3 k (gl2 C k (gl1 C k g)) (42 + k) := g3.1 6 (by omega)
      unfold gl4
      rw [g3a, g3b]
      split
      · exact g3
      · split
        · exact g3.up (t := 6) h7 k7 (by omega) (fun _ => g3.2)
        · exact g3
  · exact ((glass_self f h7 k7 c).tr e).tr (glass_self g h7 k7 c).sy
theorem lp_col {h : Nat} {s : Nat → (Nat → Int32) → (Nat → Int32)} : ∀ (m k : Nat) (f g : Nat → Int32), (∀ j f g, k ≤ j → j < k + m → colE h f g → colE h (s j f) (s j g)) → colE h f g → colE h (lp m k s f) (lp m k s g)
  | 0, k, f, g, _, e => e
  | m + 1, k, f, g, H, e => by
    rw [lp_s, lp_s]
    exact lp_col m (k + 1) _ _ (fun j f g h1 h2 => H j f g (by omega) (by omega)) (H k f g (Nat.le_refl _) (by omega) e)
theorem pass_col {C : ACt} {h : Nat} {f g : Nat → Int32} (hw : WFc C) (e : colE h f g) (h7 : h < 7) : colE h (passS C f) (passS C g) := by
  have H7 := hw.1
  unfold passS
  have e1 : colE h (lp (cK C) 0 (coughS C) f) (lp (cK C) 0 (coughS C) g) := lp_col _ _ _ _ (fun j f g _ hj e => cough_col e h7 (by have := (hw.2.2.1 j (by omega)).1; omega)) e
  have e2 := lp_col (h := h) (s := glassS C) (cH C) 0 _ _ (fun j f g _ hj e => glass_col e h7 (by omega)) e1
  have e3 := lp_col (h := h) (s := tapz) (cH C) 0 _ _ (fun j f g _ hj e => e.up (t := 4) (x := 0) (y := 0) h7 (k := j) (by omega) (by omega) (fun _ => rfl)) e2
  generalize lp (cH C) 0 tapz (lp (cH C) 0 (glassS C) (lp (cK C) 0 (coughS C) f)) = F at e3
  generalize lp (cH C) 0 tapz (lp (cH C) 0 (glassS C) (lp (cK C) 0 (coughS C) g)) = G at e3
  unfold hr1
  refine ⟨fun t ht => ?_, ?_⟩
  · rw [upd_ne _ _ (by omega), upd_ne _ _ (by omega)]
    exact e3.1 t ht
  · rw [upd_at, upd_at, e3.2]
theorem hrs_col {C : ACt} {h : Nat} {f g : Nat → Int32} (hw : WFc C) (e : colE h f g) (h7 : h < 7) : ∀ n, colE h (hrs C n f) (hrs C n g)
  | 0 => e
  | n + 1 => by
    rw [hrs_s, hrs_s]
    exact pass_col hw (hrs_col hw e h7 n) h7
/-- a glass that is off clouds not -/
def offE (h : Nat) (f : Nat → Int32) : Prop := f (35 + h) = 0 ∧ f (42 + h) = -1
theorem off_pass {C : ACt} {h : Nat} {f : Nat → Int32} (hw : WFc C) (e : offE h f) (h7 : h < 7) : offE h (passS C f) := by
  have H7 := hw.1
  have o1 : ∀ k, k ≤ cK C → offE h (lp k 0 (coughS C) f) := by
    intro k
    induction k with
    | zero => intro _; exact e
    | succ k ih =>
      intro hk
      rw [lp_snoc, Nat.zero_add]
      have := ih (by omega)
      have g := (hw.2.2.1 k (by omega)).1
      unfold coughS
      split
      · exact ⟨(upd_ne _ _ (by omega)).trans this.1, (upd_ne _ _ (by omega)).trans this.2⟩
      · exact this
  have o2 : ∀ k, k ≤ cH C → offE h (lp k 0 (glassS C) (lp (cK C) 0 (coughS C) f)) := by
    intro k
    induction k with
    | zero => intro _; exact o1 (cK C) (Nat.le_refl _)
    | succ k ih =>
      intro hk
      rw [lp_snoc, Nat.zero_add]
      have := ih (by omega)
      by_cases c : k = h
      · subst c
        generalize lp k 0 (glassS C) (lp (cK C) 0 (coughS C) f) = g at this ⊢
        unfold glassS
        rw [if_pos this.1]
        exact this
      · have g := glass_self (C := C) (lp k 0 (glassS C) (lp (cK C) 0 (coughS C) f)) h7 (by omega) c
        exact ⟨(g.1 5 (by omega)).trans this.1, (g.1 6 (by omega)).trans this.2⟩
  have := o2 (cH C) (Nat.le_refl _)
  unfold passS hr1
  rw [tapz_eq]
  refine ⟨?_, ?_⟩
  · rw [upd_ne _ _ (by omega)]
    exact (if_neg (by omega)).trans this.1
  · rw [upd_ne _ _ (by omega)]
    exact (if_neg (by omega)).trans this.2
theorem off_hrs {C : ACt} {h : Nat} {f : Nat → Int32} (hw : WFc C) (e : offE h f) (h7 : h < 7) : ∀ n, offE h (hrs C n f)
  | 0 => e
  | n + 1 => by
    rw [hrs_s]
    exact off_pass hw (off_hrs hw e h7 n) h7
/-! elder -/
abbrev ahd (x : Int32) (o : Nat) (y : Int32) (h : Nat) : Prop := x ≠ -1 ∧ (x < y ∨ (x = y ∧ o < h))
theorem cnt_0 {C : ACt} {f : Nat → Int32} {h : Nat} (h7 : cH C ≤ 7) : cntS C f h = 0 ↔ ∀ o, o < cH C → ¬ ahd (f (42 + o)) o (f (42 + h)) h := by
  unfold cntS
  have key : ∀ m, m ≤ cH C → ∃ n, n ≤ m ∧ lp m 0 (fun o a => if f (42 + o) = -1 then a else if f (42 + o) < f (42 + h) then a + 1 else if f (42 + o) = f (42 + h) then (if o < h then a + 1 else a) else a) 0 = nI n ∧ (n = 0 ↔ ∀ o, o < m → ¬ ahd (f (42 + o)) o (f (42 + h)) h) := by
    intro m
    induction m with
    | zero => intro _; exact ⟨0, Nat.le_refl _, rfl, ⟨fun _ o ho => absurd ho (Nat.not_lt_zero _), fun _ => rfl⟩⟩
    | succ m ih =>
      intro hm
      obtain ⟨n, n1, n2, n3⟩ := ih (by omega)
      rw [lp_snoc, Nat.zero_add, n2]
      have hb : (if f (42 + m) = -1 then nI n else if f (42 + m) < f (42 + h) then nI n + 1 else if f (42 + m) = f (42 + h) then (if m < h then nI n + 1 else nI n) else nI n) = if ahd (f (42 + m)) m (f (42 + h)) h then nI n + 1 else nI n := by
        unfold ahd
        by_cases c1 : f (42 + m) = -1
        · rw [if_pos c1, if_neg (fun e => e.1 c1)]
        · rw [if_neg c1]
          by_cases c2 : f (42 + m) < f (42 + h)
          · rw [if_pos c2, if_pos ⟨c1, Or.inl c2⟩]
          · rw [if_neg c2]
            by_cases c3 : f (42 + m) = f (42 + h)
            · rw [if_pos c3]
              by_cases c4 : m < h
              · rw [if_pos c4, if_pos ⟨c1, Or.inr ⟨c3, c4⟩⟩]
              · rw [if_neg c4, if_neg (fun e => e.2.elim c2 (fun e => c4 e.2))]
            · rw [if_neg c3, if_neg (fun e => e.2.elim c2 (fun e => c3 e.1))]
      have hs : (∀ o, o < m + 1 → ¬ ahd (f (42 + o)) o (f (42 + h)) h) ↔ (∀ o, o < m → ¬ ahd (f (42 + o)) o (f (42 + h)) h) ∧ ¬ ahd (f (42 + m)) m (f (42 + h)) h :=
        ⟨fun H => ⟨fun o ho => H o (by omega), H m (by omega)⟩, fun H o ho => by
          by_cases e : o = m
          · subst e; exact H.2
          · exact H.1 o (by omega)⟩
      rw [hb]
      by_cases c : ahd (f (42 + m)) m (f (42 + h)) h
      · rw [if_pos c, nI_1]
        exact ⟨n + 1, by omega, rfl, ⟨fun e => by omega, fun H => absurd c (H m (by omega))⟩⟩
      · rw [if_neg c]
        exact ⟨n, by omega, rfl, by rw [hs, n3]; exact ⟨fun H => ⟨H, c⟩, fun H => H.1⟩⟩
  obtain ⟨n, n1, n2, n3⟩ := key (cH C) (Nat.le_refl _)
  rw [n2, ← n3]
  exact (neqI n 0 (by omega) (by omega)).to_iff
theorem rank_0 {C : ACt} {f : Nat → Int32} {h : Nat} (h7 : cH C ≤ 7) (hh : h < cH C) : rankS C f 0 = nI h ↔ f (42 + h) ≠ -1 ∧ ∀ o, o < cH C → ¬ ahd (f (42 + o)) o (f (42 + h)) h := by
  have lt_ir : ∀ x : Int32, ¬ x < x := fun x e => by rw [Int32.lt_iff_toInt_lt] at e; omega
  constructor
  · intro e
    unfold rankS at e
    have key : ∀ m k, k + m = cH C → lx m k (fun h (_ : Unit) => if f (42 + h) = -1 then (.inr () : Int32 ⊕ Unit) else if cntS C f h = 0 then .inl (nI h) else .inr ()) (fun _ => (-1 : Int32)) () = nI h → f (42 + h) ≠ -1 ∧ cntS C f h = 0 := by
      intro m
      induction m with
      | zero =>
        intro k hk e
        have e : (-1 : Int32) = nI h := e
        have : ¬ nI h < 0 := nI_pos (by omega)
        rw [← e] at this
        exact absurd (by decide) this
      | succ m ih =>
        intro k hk e
        rw [lx_s] at e
        by_cases c1 : f (42 + k) = -1
        · rw [if_pos c1] at e
          exact ih (k + 1) (by omega) e
        · rw [if_neg c1] at e
          by_cases c2 : cntS C f k = 0
          · rw [if_pos c2] at e
            have e : nI k = nI h := e
            rw [neqI _ _ (by omega) (by omega)] at e
            subst e
            exact ⟨c1, c2⟩
          · rw [if_neg c2] at e
            exact ih (k + 1) (by omega) e
    obtain ⟨h1, h2⟩ := key (cH C) 0 (by omega) e
    exact ⟨h1, (cnt_0 h7).mp h2⟩
  · rintro ⟨h1, h2⟩
    unfold rankS
    refine lx_find _ _ (r := h) (v := nI h) ?_ (cH C) 0 (fun j _ hj => ?_) (by omega) (by omega)
    · rw [if_neg h1, if_pos ((cnt_0 h7).mpr h2)]
    · by_cases c1 : f (42 + j) = -1
      · rw [if_pos c1]
      · rw [if_neg c1, if_neg]
        intro c2
        have g1 := (cnt_0 h7).mp c2 h hh
        have g2 := h2 j (by omega)
        unfold ahd at g1 g2
        by_cases c3 : f (42 + j) < f (42 + h)
        · exact g2 ⟨c1, Or.inl c3⟩
        · by_cases c4 : f (42 + j) = f (42 + h)
          · exact g2 ⟨c1, Or.inr ⟨c4, hj⟩⟩
          · refine g1 ⟨h1, Or.inl ?_⟩
            rw [Int32.lt_iff_toInt_lt] at c3 ⊢
            have : (f (42 + j)).toInt ≠ (f (42 + h)).toInt := fun e => c4 (Int32.toInt_inj.mp e)
            omega
/-- the mornings that are tried -/
def dwS (C : ACt) (f : Nat → Int32) : Nat → Int32 := lp (cH C) 0 dwn f
def wpS (C : ACt) (S : Nat) (f : Nat → Int32) : Nat → Int32 := lp (cH C) 0 (fun o f => upd f (7 + o) (f (7 + o) * (1 - (if S.testBit o = true then 1 else 0)))) f
theorem wpS_at {C : ACt} (S : Nat) (f : Nat → Int32) (h7 : cH C ≤ 7) (i : Nat) : wpS C S f i = if 7 ≤ i ∧ i < 7 + cH C ∧ S.testBit (i - 7) = true then 0 else f i := by
  have key : ∀ m, m ≤ cH C → ∀ i, lp m 0 (fun o f => upd f (7 + o) (f (7 + o) * (1 - (if S.testBit o = true then 1 else 0)))) f i = if 7 ≤ i ∧ i < 7 + m ∧ S.testBit (i - 7) = true then 0 else f i := by
    intro m
    induction m with
    | zero => intro _ i; rw [if_neg (by omega)]; rfl
    | succ m ih =>
      intro hm i
      rw [lp_snoc, Nat.zero_add, upd_eq, ih (by omega), ih (by omega)]
      by_cases c : i = 7 + m
      · subst c
        rw [if_pos rfl, if_neg (by omega), show 7 + m - 7 = m by omega]
        by_cases c2 : S.testBit m = true
        · rw [if_pos c2, if_pos ⟨by omega, by omega, c2⟩, show (1 : Int32) - 1 = 0 by decide, Int32.mul_zero]
        · rw [if_neg c2, if_neg (fun e => c2 e.2.2), show (1 : Int32) - 0 = 1 by decide, Int32.mul_one]
      · rw [if_neg c]
        by_cases c2 : 7 ≤ i ∧ i < 7 + m ∧ S.testBit (i - 7) = true
        · rw [if_pos c2, if_pos ⟨c2.1, by omega, c2.2.2⟩]
        · rw [if_neg c2, if_neg (fun e => c2 ⟨e.1, by omega, e.2.2⟩)]
  exact key (cH C) (Nat.le_refl _) i
def afE (C : ACt) (S : Nat) (f : Nat → Int32) : Nat → Int32 := hrs C 24 (dwS C (wpS C S f))
theorem af_at {C : ACt} (hw : WFc C) (S : Nat) (f : Nat → Int32) {o : Nat} (ho : o < cH C) : afE C S f (42 + o) = if S.testBit o = true then afE C 127 f (42 + o) else afE C 0 f (42 + o) := by
  have h7 := hw.1
  have key : ∀ S1, S.testBit o = S1.testBit o → afE C S f (42 + o) = afE C S1 f (42 + o) := by
    intro S1 e
    have : colE o (dwS C (wpS C S f)) (dwS C (wpS C S1 f)) := by
      unfold dwS
      rw [dwn_eq, dwn_eq]
      refine ⟨fun t ht => ?_, ?_⟩
      · show (if 42 ≤ 7 * t + o ∧ 7 * t + o < 42 + cH C then (-1 : Int32) else _) = (if 42 ≤ 7 * t + o ∧ 7 * t + o < 42 + cH C then (-1 : Int32) else _)
        rw [wpS_at S f h7, wpS_at S1 f h7]
        by_cases c : t = 1
        · subst c
          rw [show 7 * 1 + o - 7 = o by omega, e]
        · rw [if_neg (c := 7 ≤ 7 * t + o ∧ 7 * t + o < 7 + cH C ∧ S.testBit (7 * t + o - 7) = true) (by omega), if_neg (c := 7 ≤ 7 * t + o ∧ 7 * t + o < 7 + cH C ∧ S1.testBit (7 * t + o - 7) = true) (by omega)]
      · show (if 42 ≤ 56 ∧ 56 < 42 + cH C then (-1 : Int32) else _) = (if 42 ≤ 56 ∧ 56 < 42 + cH C then (-1 : Int32) else _)
        rw [wpS_at S f h7, wpS_at S1 f h7, if_neg (c := 7 ≤ 56 ∧ 56 < 7 + cH C ∧ S.testBit (56 - 7) = true) (by omega), if_neg (c := 7 ≤ 56 ∧ 56 < 7 + cH C ∧ S1.testBit (56 - 7) = true) (by omega)]
    exact (hrs_col hw this (by omega) 24).1 6 (by omega)
  have t7 : ∀ a < 7, (127 : Nat).testBit a = true := by decide
  by_cases c : S.testBit o = true
  · rw [if_pos c]
    exact key 127 (by rw [c, t7 o (by omega)])
  · rw [if_neg c]
    exact key 0 (by rw [Nat.zero_testBit]; simpa using c)
theorem wpS_0 {C : ACt} (f : Nat → Int32) (h7 : cH C ≤ 7) : wpS C 0 f = f := by
  funext i
  rw [wpS_at 0 f h7, if_neg]
  rintro ⟨_, _, h⟩
  rw [Nat.zero_testBit] at h
  cases h
/-- the bits of glasses that stand -/
def stN (C : ACt) (f : Nat → Int32) : Nat := lp (cH C) 0 (fun h a => if f (35 + h) = 1 then a ||| 2 ^ h else a) 0
theorem stN_ok {C : ACt} {t : Nat} {f : Nat → Int32} (h7 : cH C ≤ 7) (hb : Bd C t f) : standS C f = nI (stN C f) ∧ stN C f < 2 ^ cH C ∧ ∀ j, (stN C f).testBit j = true ↔ j < cH C ∧ f (35 + j) = 1 := by
  have key : ∀ m, m ≤ cH C → lp m 0 (fun h a => a ||| (f (35 + h) <<< (nI h &&& 31))) 0 = nI (lp m 0 (fun h a => if f (35 + h) = 1 then a ||| 2 ^ h else a) 0) ∧ lp m 0 (fun h a => if f (35 + h) = 1 then a ||| 2 ^ h else a) 0 < 2 ^ cH C ∧ ∀ j, (lp m 0 (fun h a => if f (35 + h) = 1 then a ||| 2 ^ h else a) 0).testBit j = true ↔ j < m ∧ f (35 + j) = 1 := by
    intro m
    induction m with
    | zero =>
      intro _
      refine ⟨rfl, Nat.two_pow_pos _, fun j => ?_⟩
      show (0 : Nat).testBit j = true ↔ _
      rw [Nat.zero_testBit]
      constructor
      · intro h; cases h
      · intro h; exact absurd h.1 (Nat.not_lt_zero _)
    | succ m ih =>
      intro hm
      obtain ⟨i1, i2, i3⟩ := ih (by omega)
      rw [lp_snoc, lp_snoc, Nat.zero_add, i1]
      generalize lp m 0 (fun h a => if f (35 + h) = 1 then a ||| 2 ^ h else a) 0 = x at i2 i3
      rcases (hb.1 m (by omega)).2.2 with e | e
      · have z : ∀ j < 7, ((0 : Int32) <<< (nI j &&& 31)) = 0 := by decide
        rw [e, z m (by omega), Int32.or_zero, if_neg (by decide)]
        refine ⟨rfl, i2, fun j => ?_⟩
        rw [i3]
        constructor
        · exact fun h => ⟨by omega, h.2⟩
        · rintro ⟨h1, h2⟩
          by_cases c : j = m
          · subst c; rw [e] at h2; exact absurd h2 (by decide)
          · exact ⟨by omega, h2⟩
      · rw [e, one_n (by omega), nI_or, if_pos rfl]
        refine ⟨rfl, or_H i2 (pj (by omega)), fun j => ?_⟩
        rw [Nat.testBit_or, Nat.testBit_two_pow]
        constructor
        · intro h
          rcases or_t h with h | h
          · have := (i3 j).mp h
            exact ⟨by omega, this.2⟩
          · have : m = j := of_decide_eq_true h
            subst this
            exact ⟨by omega, e⟩
        · rintro ⟨h1, h2⟩
          by_cases c : m = j
          · rw [decide_eq_true c, Bool.or_true]
          · rw [(i3 j).mpr ⟨by omega, h2⟩]; rfl
  exact key (cH C) (Nat.le_refl _)
theorem Bd_wp {C : ACt} {t S : Nat} {f : Nat → Int32} (h7 : cH C ≤ 7) (hb : Bd C t f) : Bd C t (wpS C S f) := by
  refine ⟨fun j hj => ?_, ?_⟩
  · rw [wpS_at S f h7, wpS_at S f h7, wpS_at S f h7, if_neg (c := 7 ≤ 14 + j ∧ _) (by omega), if_neg (c := 7 ≤ 35 + j ∧ _) (by omega)]
    obtain ⟨h1, h2⟩ := hb.1 j hj
    refine ⟨?_, h2⟩
    split
    · exact ⟨0, by omega, rfl⟩
    · exact h1
  · rw [wpS_at S f h7, if_neg (by omega)]
    exact hb.2
theorem Bd_dw {C : ACt} {t : Nat} {f : Nat → Int32} (h7 : cH C ≤ 7) (hb : Bd C t f) : Bd C t (dwS C f) := by
  unfold dwS
  rw [dwn_eq]
  refine ⟨fun j hj => ?_, ?_⟩
  · simp only
    rw [if_neg (by omega), if_neg (by omega), if_neg (by omega)]
    exact hb.1 j hj
  · show (if 42 ≤ 56 ∧ 56 < 42 + cH C then (-1 : Int32) else f 56) = nI t
    rw [if_neg (by omega)]
    exact hb.2
theorem isAhead_ok2 (fu : Nat) (a b : Int32) (h o : Nat) (ho : o < 2000) (hh : h < 2000) (w : MEM) : f_X9_isAhead fu a (nI o) b (nI h) w = some (if ahd a o b h then 1 else 0, w) := by
  rw [isAhead_ok fu a b h o ho hh]
  unfold ahd
  by_cases c1 : a = -1
  · rw [if_pos c1, if_neg (fun e => e.1 c1)]
  · rw [if_neg c1]
    by_cases c2 : a < b
    · rw [if_pos c2, if_pos ⟨c1, Or.inl c2⟩]
    · rw [if_neg c2]
      by_cases c3 : a = b
      · rw [if_pos c3]
        by_cases c4 : o < h
        · rw [if_pos c4, if_pos ⟨c1, Or.inr ⟨c3, c4⟩⟩]
        · rw [if_neg c4, if_neg (fun e => e.2.elim c2 (fun e => c4 e.2))]
      · rw [if_neg c3, if_neg (fun e => e.2.elim c2 (fun e => c3 e.1))]
