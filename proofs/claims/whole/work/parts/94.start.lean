/-! the first memory -/
def SH (h : PH) (c i : Nat) : Prop := (∀ t, kl t = 1 → (t - 10000) / 100 = c → ∃ x, h (t, i) = pF (vI x)) ∧ (∀ t, kl t = 2 → (t - 10000) / 100 = c → h (t, i) = pF (vR (fR t i))) ∧ (∀ t, kl t = 4 → t ≠ 502 → t ≠ 503 → t / 100 = c → ∃ f, h (t, i) = pA (aK t) (aN t) (.inl f))
theorem SH.ofW {Y : EX} {h : PH} {w : MEM} {c i : Nat} (g : WP Y h w) (e : Y.1 c i = true) : SH h c i := ⟨fun t ht hc => ⟨_, g.1 t i ht (by rw [hc]; exact e)⟩, fun t ht hc => g.2.1 t i ht (by rw [hc]; exact e), fun t ht _ _ hc => ⟨_, g.2.2.1 t i ht (by rw [hc]; exact e)⟩⟩
theorem SH.eq {h h' : PH} {c i : Nat} (h10 : c ≠ 10) (g : SH h c i) (e : ∀ t, (10000 ≤ t ∨ (t < 1200 ∧ t % 100 ≤ 9)) → h' (t, i) = h (t, i)) : SH h' c i := by
  refine ⟨fun t ht hc => ?_, fun t ht hc => ?_, fun t ht h2 h3 hc => ?_⟩
  · have q := kl1 ht
    rw [e t (Or.inl (by omega))]
    exact g.1 t ht hc
  · have q := kl2 ht
    rw [e t (Or.inl (by omega))]
    exact g.2.1 t ht hc
  · have q := kl4 ht
    rw [e t (Or.inr (by omega))]
    exact g.2.2 t ht h2 h3 hc
theorem SH_X1 {h : PH} {i : Nat} (g : ob_X1 h i) : SH h 1 i := by
  refine ⟨fun t ht hc => ?_, fun t ht hc => ?_, fun t ht _ _ hc => ?_⟩
  · have q := kl1 ht
    have : t = 10107 ∨ t = 10108 ∨ t = 10109 ∨ t = 10110 := by omega
    rcases this with e | e | e | e
    · subst e; exact ⟨_, g.2.1⟩
    · subst e; exact ⟨_, g.2.2.1⟩
    · subst e; exact ⟨_, g.2.2.2.1⟩
    · subst e; exact ⟨_, g.2.2.2.2.1⟩
  · have q := kl2 ht
    have : t = 10100 ∨ t = 10101 ∨ t = 10102 ∨ t = 10103 ∨ t = 10104 ∨ t = 10105 ∨ t = 10106 := by omega
    rcases this with e | e | e | e | e | e | e
    · subst e; exact g.1.1.2
    · subst e; exact g.1.2.1.2
    · subst e; exact g.1.2.2.1.2
    · subst e; exact g.1.2.2.2.1.2
    · subst e; exact g.1.2.2.2.2.1.2
    · subst e; exact g.1.2.2.2.2.2.1.2
    · subst e; exact g.1.2.2.2.2.2.2.1.2
  · have q := kl4 ht
    have : t = 101 ∨ t = 102 ∨ t = 103 ∨ t = 104 ∨ t = 105 ∨ t = 106 ∨ t = 107 := by omega
    rcases this with e | e | e | e | e | e | e
    · subst e; exact ⟨_, g.1.1.1⟩
    · subst e; exact ⟨_, g.1.2.1.1⟩
    · subst e; exact ⟨_, g.1.2.2.1.1⟩
    · subst e; exact ⟨_, g.1.2.2.2.1.1⟩
    · subst e; exact ⟨_, g.1.2.2.2.2.1.1⟩
    · subst e; exact ⟨_, g.1.2.2.2.2.2.1.1⟩
    · subst e; exact ⟨_, g.1.2.2.2.2.2.2.1.1⟩
theorem SH_X3 {h : PH} {i : Nat} (g : ob_X3 h i) : SH h 3 i := by
  refine ⟨fun t ht hc => ?_, fun t ht hc => ?_, fun t ht _ _ hc => ?_⟩
  · have q := kl1 ht
    have : t = 10304 := by omega
    subst this
    exact ⟨_, g.2.1⟩
  · have q := kl2 ht
    have : t = 10300 ∨ t = 10301 ∨ t = 10302 ∨ t = 10303 := by omega
    rcases this with e | e | e | e
    · subst e; exact g.1.1.2
    · subst e; exact g.1.2.1.2
    · subst e; exact g.1.2.2.1.2
    · subst e; exact g.1.2.2.2.1.2
  · have q := kl4 ht
    have : t = 301 ∨ t = 302 ∨ t = 303 ∨ t = 304 := by omega
    rcases this with e | e | e | e
    · subst e; exact ⟨_, g.1.1.1⟩
    · subst e; exact ⟨_, g.1.2.1.1⟩
    · subst e; exact ⟨_, g.1.2.2.1.1⟩
    · subst e; exact ⟨_, g.1.2.2.2.1.1⟩
theorem SH_X4 {h : PH} {i : Nat} (g : ob_X4 h i) : SH h 4 i := by
  refine ⟨fun t ht hc => ?_, fun t ht hc => ?_, fun t ht _ _ hc => ?_⟩
  · have q := kl1 ht
    have : t = 10409 := by omega
    subst this
    exact ⟨_, g.2.1⟩
  · have q := kl2 ht
    have : t = 10400 ∨ t = 10401 ∨ t = 10402 ∨ t = 10403 ∨ t = 10404 ∨ t = 10405 ∨ t = 10406 ∨ t = 10407 ∨ t = 10408 := by omega
    rcases this with e | e | e | e | e | e | e | e | e
    · subst e; exact g.1.1.2
    · subst e; exact g.1.2.1.2
    · subst e; exact g.1.2.2.1.2
    · subst e; exact g.1.2.2.2.1.2
    · subst e; exact g.1.2.2.2.2.1.2
    · subst e; exact g.1.2.2.2.2.2.1.2
    · subst e; exact g.1.2.2.2.2.2.2.1.2
    · subst e; exact g.1.2.2.2.2.2.2.2.1.2
    · subst e; exact g.1.2.2.2.2.2.2.2.2.1.2
  · have q := kl4 ht
    have : t = 401 ∨ t = 402 ∨ t = 403 ∨ t = 404 ∨ t = 405 ∨ t = 406 ∨ t = 407 ∨ t = 408 ∨ t = 409 := by omega
    rcases this with e | e | e | e | e | e | e | e | e
    · subst e; exact ⟨_, g.1.1.1⟩
    · subst e; exact ⟨_, g.1.2.1.1⟩
    · subst e; exact ⟨_, g.1.2.2.1.1⟩
    · subst e; exact ⟨_, g.1.2.2.2.1.1⟩
    · subst e; exact ⟨_, g.1.2.2.2.2.1.1⟩
    · subst e; exact ⟨_, g.1.2.2.2.2.2.1.1⟩
    · subst e; exact ⟨_, g.1.2.2.2.2.2.2.1.1⟩
    · subst e; exact ⟨_, g.1.2.2.2.2.2.2.2.1.1⟩
    · subst e; exact ⟨_, g.1.2.2.2.2.2.2.2.2.1.1⟩
theorem SH_X6 {h : PH} {i : Nat} (g : ob_X6 h i) : SH h 6 i := by
  refine ⟨fun t ht hc => ?_, fun t ht hc => ?_, fun t ht _ _ hc => ?_⟩
  · have q := kl1 ht
    omega
  · have q := kl2 ht
    have : t = 10600 := by omega
    subst this
    exact g.1.1.2
  · have q := kl4 ht
    have : t = 601 := by omega
    subst this
    exact ⟨_, g.1.1.1⟩
theorem SH_X7 {h : PH} {i : Nat} (g : ob_X7 h i) : SH h 7 i := by
  refine ⟨fun t ht hc => ?_, fun t ht hc => ?_, fun t ht _ _ hc => ?_⟩
  · have q := kl1 ht
    have : t = 10704 ∨ t = 10705 ∨ t = 10706 ∨ t = 10707 := by omega
    rcases this with e | e | e | e
    · subst e; exact ⟨_, g.2.1⟩
    · subst e; exact ⟨_, g.2.2.1⟩
    · subst e; exact ⟨_, g.2.2.2.1⟩
    · subst e; exact ⟨_, g.2.2.2.2.1⟩
  · have q := kl2 ht
    have : t = 10700 ∨ t = 10701 ∨ t = 10702 ∨ t = 10703 := by omega
    rcases this with e | e | e | e
    · subst e; exact g.1.1.2
    · subst e; exact g.1.2.1.2
    · subst e; exact g.1.2.2.1.2
    · subst e; exact g.1.2.2.2.1.2
  · have q := kl4 ht
    have : t = 701 ∨ t = 702 ∨ t = 703 ∨ t = 704 := by omega
    rcases this with e | e | e | e
    · subst e; exact ⟨_, g.1.1.1⟩
    · subst e; exact ⟨_, g.1.2.1.1⟩
    · subst e; exact ⟨_, g.1.2.2.1.1⟩
    · subst e; exact ⟨_, g.1.2.2.2.1.1⟩
theorem SH_X8 {h : PH} {i : Nat} (g : ob_X8 h i) : SH h 8 i := by
  refine ⟨fun t ht hc => ?_, fun t ht hc => ?_, fun t ht _ _ hc => ?_⟩
  · have q := kl1 ht
    have : t = 10801 ∨ t = 10802 ∨ t = 10803 ∨ t = 10804 ∨ t = 10805 ∨ t = 10806 := by omega
    rcases this with e | e | e | e | e | e
    · subst e; exact ⟨_, g.2.1⟩
    · subst e; exact ⟨_, g.2.2.1⟩
    · subst e; exact ⟨_, g.2.2.2.1⟩
    · subst e; exact ⟨_, g.2.2.2.2.1⟩
    · subst e; exact ⟨_, g.2.2.2.2.2.1⟩
    · subst e; exact ⟨_, g.2.2.2.2.2.2.1⟩
  · have q := kl2 ht
    have : t = 10800 := by omega
    subst this
    exact g.1.1.2
  · have q := kl4 ht
    have : t = 801 := by omega
    subst this
    exact ⟨_, g.1.1.1⟩
theorem SH_X0 {h : PH} {i : Nat} (g : ob_X0 h i) : SH h 0 i := by
  refine ⟨fun t ht hc => ?_, fun t ht hc => ?_, fun t ht _ _ hc => ?_⟩
  · have q := kl1 ht
    have : t = 10001 := by omega
    subst this
    exact ⟨_, g.2.2⟩
  · have q := kl2 ht
    have : t = 10000 := by omega
    subst this
    exact g.2.1
  · have q := kl4 ht
    have : t = 1 := by omega
    subst this
    exact ⟨_, g.1⟩
theorem SH_X2 {h : PH} {i : Nat} (g : ob_X2 h i) : SH h 2 i := by
  refine ⟨fun t ht hc => ?_, fun t ht hc => ?_, fun t ht _ _ hc => ?_⟩
  · have q := kl1 ht
    have : t = 10202 := by omega
    subst this
    exact ⟨_, g.1.2.2⟩
  · have q := kl2 ht
    have : t = 10200 ∨ t = 10201 := by omega
    rcases this with e | e
    · subst e; exact g.1.1
    · subst e; exact g.1.2.1
  · have q := kl4 ht
    omega
theorem SH_X5 {h : PH} (g : ob_X5 h 203) : SH h 5 203 := by
  refine ⟨fun t ht hc => ?_, fun t ht hc => ?_, fun t ht _ _ hc => ?_⟩
  · have q := kl1 ht
    have : t = 10502 ∨ t = 10503 := by omega
    rcases this with e | e
    · subst e; exact ⟨_, g.2.2.2.2.2.1⟩
    · subst e; exact ⟨_, g.2.2.2.2.2.2⟩
  · have q := kl2 ht
    have : t = 10500 ∨ t = 10501 := by omega
    rcases this with e | e
    · subst e; exact g.2.2.2.1
    · subst e; exact g.2.2.2.2.1
  · have q := kl4 ht
    omega
theorem SH_X9 {h : PH} (g : RF h V9) : SH h 9 0 := by
  refine ⟨fun t ht hc => ?_, fun t ht hc => ?_, fun t ht _ _ hc => ?_⟩
  · have q := kl1 ht
    have : t = 10914 ∨ t = 10915 ∨ t = 10916 ∨ t = 10917 := by omega
    rcases this with e | e | e | e
    · subst e; exact ⟨0, g 14 (by decide)⟩
    · subst e; exact ⟨0, g 15 (by decide)⟩
    · subst e; exact ⟨0, g 16 (by decide)⟩
    · subst e; exact ⟨0, g 17 (by decide)⟩
  · have q := kl2 ht
    have : t = 10900 ∨ t = 10901 ∨ t = 10902 ∨ t = 10903 ∨ t = 10904 ∨ t = 10905 ∨ t = 10906 ∨ t = 10907 := by omega
    rcases this with e | e | e | e | e | e | e | e
    · subst e; exact g 0 (by decide)
    · subst e; exact g 1 (by decide)
    · subst e; exact g 2 (by decide)
    · subst e; exact g 3 (by decide)
    · subst e; exact g 4 (by decide)
    · subst e; exact g 5 (by decide)
    · subst e; exact g 6 (by decide)
    · subst e; exact g 7 (by decide)
  · have q := kl4 ht
    omega
/-- every object that there is -/
theorem vo_all {h : PH} (m : made h) (r : RF h V9) {c i : Nat} (hc : c ≠ 10) (h1 : ¬ (c = 4 ∧ i = 9)) (h2 : ¬ (c = 2 ∧ i = 8)) (h3 : ¬ (c = 1 ∧ i = 296)) (h4 : ¬ (c = 3 ∧ i = 312)) (hv : vo c i = true) : SH h c i := by
  obtain ⟨m8, m7, m2, mi, m181, m191, m6, m5, m1, m1b, m3, m3b, m0, m0b, i1, i2, i3⟩ := m
  unfold vo at hv
  split at hv
  · have e : i = 0 := by simpa using hv
    subst e
    exact SH_X9 r
  · have e : i = 1 := by simpa using hv
    subst e
    exact SH_X8 m8
  · have e : i = 3 := by simpa using hv
    subst e
    exact SH_X7 m7
  · simp only [Bool.or_eq_true, beq_iff_eq] at hv
    rcases hv with e | e | e | e
    · exact absurd ⟨rfl, e⟩ h2
    · subst e; exact SH_X2 i1
    · subst e; exact SH_X2 i2
    · subst e; exact SH_X2 i3
  · simp only [Bool.or_eq_true, Bool.and_eq_true, beq_iff_eq, Nat.ble_eq] at hv
    rcases hv with e | e | e | e | e | e | e | e | e | e
    · exact absurd ⟨rfl, e⟩ h1
    · subst e; exact SH_X4 m181
    · subst e; exact SH_X4 m191
    · have q := m2.2.2.2 ((i - 20) / 10) (by omega)
      rw [show 8 + 12 + 10 * ((i - 20) / 10) = i by omega] at q
      exact SH_X4 q
    · subst e; exact SH_X4 i1.2.2.1
    · subst e; exact SH_X4 i2.2.2.1
    · subst e; exact SH_X4 i3.2.2.1
    · have q := i1.2.2.2 ((i - 338) / 10) (by omega)
      rw [show 326 + 12 + 10 * ((i - 338) / 10) = i by omega] at q
      exact SH_X4 q
    · have q := i2.2.2.2 ((i - 510) / 10) (by omega)
      rw [show 498 + 12 + 10 * ((i - 510) / 10) = i by omega] at q
      exact SH_X4 q
    · have q := i3.2.2.2 ((i - 682) / 10) (by omega)
      rw [show 670 + 12 + 10 * ((i - 682) / 10) = i by omega] at q
      exact SH_X4 q
  · have e : i = 201 := by simpa using hv
    subst e
    exact SH_X6 m6
  · have e : i = 203 := by simpa using hv
    subst e
    exact SH_X5 m5
  · simp only [Bool.or_eq_true, beq_iff_eq] at hv
    rcases hv with e | e
    · exact absurd ⟨rfl, e⟩ h3
    · subst e; exact SH_X1 m1b
  · simp only [Bool.or_eq_true, beq_iff_eq] at hv
    rcases hv with e | e
    · exact absurd ⟨rfl, e⟩ h4
    · subst e; exact SH_X3 m3b
  · simp only [Bool.or_eq_true, beq_iff_eq] at hv
    rcases hv with e | e
    · subst e; exact SH_X0 m0
    · subst e; exact SH_X0 m0b
  · exact absurd rfl hc
  · cases hv
theorem vo_le {c i : Nat} (hv : vo c i = true) (hc : c ≠ 10) : i ≤ 832 ∧ ((i = 8 → c = 2) ∧ ((i = 9 → c = 4) ∧ ((i = 296 → c = 1) ∧ (i = 312 → c = 3)))) := by
  unfold vo at hv
  split at hv <;> first | exact absurd rfl hc | cases hv; done | (simp only [Bool.or_eq_true, Bool.and_eq_true, beq_iff_eq, Nat.ble_eq] at hv; omega)
/-- heaps that say the same -/
def eqH (h h2 : PH) : Prop := ∀ a, h2 a = h a ∨ ((∃ kd n f f2, kd < 90 ∧ h a = pQ kd n f ∧ h2 a = pQ kd n f2 ∧ ∀ j < n, f2 j = f j) ∨ (a = SZ ∧ h2 a = none))
theorem arrV_ext {cA : ClassId} {n : Nat} {F F' : Nat → Value} (h : ∀ j < n, F j = F' j) : arrV cA n F = arrV cA n F' := by
  unfold arrV
  congr 1
  apply Array.ext
  · simp
  · intro i h1 h2
    simp only [Array.getElem_ofFn]
    exact h i (by simpa using h1)
theorem Rep_eqH {G : GA} {D : va_G} {h h2 : PH} {s : State} {H : Heap} (e : eqH h h2) (r : Rep G D h s H) : Rep G D h2 s H := by
  obtain ⟨r1, r2, r3, r4, r5, r6, r7⟩ := r
  have fF : ∀ a v, h2 a = pF v → h a = pF v := fun a v q => by
    rcases e a with z | ⟨kd, n, f, f2, z1, z2, z3, z4⟩ | ⟨z1, z2⟩
    · rw [← z]; exact q
    · rw [z3] at q; cases q
    · rw [z2] at q; cases q
  have gF : ∀ a v, a ≠ SZ → h a = pF v → h2 a = pF v := fun a v hs q => by
    rcases e a with z | ⟨kd, n, f, f2, z1, z2, z3, z4⟩ | ⟨z1, z2⟩
    · rw [z]; exact q
    · rw [z2] at q; cases q
    · exact absurd z1 hs
  refine ⟨r1, r2, fun ci k id v hk hv => ?_, fun a kd n g hk ha => ?_, fun a n g ha => ?_, fun a n g ha => ?_, fun a b ha hb => ?_⟩
  · obtain ⟨q, q1, q2, V, q3, q4⟩ := r3 ci k id v hk (fF _ _ hv)
    exact ⟨q, q1, q2, V, fun j hj => gF _ _ (neSF (by omega)) (q3 j hj), q4⟩
  · rcases e a with z | ⟨kd', n', f, f2, z1, z2, z3, z4⟩ | ⟨z1, z2⟩
    · exact r4 a kd n g hk (by rw [← z]; exact ha)
    · rw [z3] at ha
      cases ha
      obtain ⟨y1, y2, cA, y3, y4, y5⟩ := r4 a kd n _ hk z2
      refine ⟨y1, y2, cA, y3, y4, ?_⟩
      rw [y5]
      congr 1
      refine arrV_ext (fun j hj => ?_)
      show emb G (vQ (f j)) = emb G (vQ (f2 j))
      rw [z4 j hj]
    · rw [z2] at ha; cases ha
  · rcases e a with z | ⟨kd', n', f, f2, z1, z2, z3, z4⟩ | ⟨z1, z2⟩
    · exact r5 a n g (by rw [← z]; exact ha)
    · rw [z3] at ha
      cases ha
      omega
    · rw [z2] at ha; cases ha
  · rcases e a with z | ⟨kd', n', f, f2, z1, z2, z3, z4⟩ | ⟨z1, z2⟩
    · exact r6 a n g (by rw [← z]; exact ha)
    · rw [z3] at ha
      cases ha
      omega
    · rw [z2] at ha; cases ha
  · have ee : ∀ a, ent h2 a → ent h a := by
      rintro a (⟨ci, k, v, g1, g2, g3⟩ | ⟨kd, n, g, g1, g2⟩)
      · exact Or.inl ⟨ci, k, v, g1, g2, fF _ _ g3⟩
      · rcases e a with z | ⟨kd', n', f, f2, z1, z2, z3, z4⟩ | ⟨z1, z2⟩
        · exact Or.inr ⟨kd, n, g, g1, by rw [← z]; exact g2⟩
        · exact Or.inr ⟨kd', n', _, z1, z2⟩
        · rw [z2] at g2; cases g2
    exact r7 a b (ee a ha) (ee b hb)
theorem P_eqH {d : Nat} {Y : MR} {Q : PO → PH → Prop} {rc rs pc : Nat} {ls st : List PV} {h h2 : PH} (e : eqH h h2) (k : PW d Y Q rc rs pc ls st h2) : PW d Y Q rc rs pc ls st h := by
  intro G D l p e1 R s m args below meth c mc ms C H locs cells slots lsr S
  exact k G D l p e1 R s m args below meth c mc ms C H locs cells slots lsr ⟨Rep_eqH e S.1, S.2⟩
theorem P_more {d : Nat} {Y : MR} {Q : PO → PH → Prop} {rc rs rc2 rs2 pc : Nat} {ls st : List PV} {h : PH} (h1 : rc ≤ rc2) (h2 : rs ≤ rs2) (k : PW d Y Q rc rs pc ls st h) : PW d Y Q rc2 rs2 pc ls st h := by
  intro G D l p e1 R s m args below meth c mc ms C H locs cells slots lsr S
  exact k G D l p e1 R s m args below meth c mc ms C H locs cells slots lsr ⟨S.1, S.2.1, S.2.2.1, by have := S.2.2.2.1; omega, by have := S.2.2.2.2; omega⟩
def mO (h : PH) : MEM := (fun a => match h a with
  | some (.inl (.inl x)) => x
  | _ => 0, (fun a => match h a with
  | some (.inr (_, (_, .inl f))) => f
  | _ => fun _ => 0, (fun a => match h a with
  | some (.inl (.inr (.inr (.inl (some b))))) => b.2
  | _ => 0, fun _ => 0)))
theorem mO_S {h : PH} {a : LA} {x : Int32} (e : h a = pF (vI x)) : rS (mO h) a = x := by
  show (match h a with
  | some (.inl (.inl x)) => x
  | _ => 0) = x
  rw [e]
theorem mO_A {h : PH} {a : LA} {kd n : Nat} {f : Nat → Int32} (e : h a = pA kd n (.inl f)) : fA (mO h) a = f := by
  show (match h a with
  | some (.inr (_, (_, .inl f))) => f
  | _ => fun _ => 0) = f
  rw [e]
theorem mO_T {h : PH} {a b : LA} (e : h a = pF (vR b)) : rT (mO h) a = b.2 := by
  show (match h a with
  | some (.inl (.inr (.inr (.inl (some b))))) => b.2
  | _ => 0) = b.2
  rw [e]
def rowW (b : LA) : Option PC := if b = (201, 18) then pQ 4 16 (fun j => some (400, 8 + 12 + 10 * j)) else if b = (201, 336) then pQ 4 16 (fun j => some (400, 326 + 12 + 10 * j)) else if b = (201, 508) then pQ 4 16 (fun j => some (400, 498 + 12 + 10 * j)) else if b = (201, 680) then pQ 4 16 (fun j => some (400, 670 + 12 + 10 * j)) else if b = (901, 179) then pQ 5 3 (fun j => some (200, 326 + 172 * j)) else if b = (501, 203) then pQ 6 90 (fun j => some (502, 203 + j)) else none
def hW (h : PH) : PH := fun b => if b = SZ then none else match rowW b with
  | some c => some c
  | none => h b
theorem rowW_n {b : LA} (h : b.1 ≠ 201 ∧ b.1 ≠ 901 ∧ b.1 ≠ 501) : rowW b = none := by
  unfold rowW
  rw [if_neg (fun e => h.1 (by rw [e])), if_neg (fun e => h.1 (by rw [e])), if_neg (fun e => h.1 (by rw [e])), if_neg (fun e => h.1 (by rw [e])), if_neg (fun e => h.2.1 (by rw [e])), if_neg (fun e => h.2.2 (by rw [e]))]
theorem hW_n {h : PH} {b : LA} (hs : b ≠ SZ) (hb : b.1 ≠ 201 ∧ b.1 ≠ 901 ∧ b.1 ≠ 501) : hW h b = h b := by
  unfold hW
  rw [if_neg hs, rowW_n hb]
