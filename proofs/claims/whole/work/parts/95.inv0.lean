/-! behind the constructors class and model agree -/
section
variable {hL h5 hB hM h12 h16 : PH} {w v : MEM} {g0 : PA} {L : Nat} {xs : Nat → Int32}
def IN0 (hL h5 hB hM h12 h16 : PH) (w v : MEM) (g0 : PA) (L : Nat) (xs : Nat → Int32) : Prop := WP (E9, hL) h5 w ∧ (beg w ∧ (made hL ∧ (RF hL V9 ∧ (FI 842 843 h5 hB ∧ (WP (y1 10 842 hM) h12 v ∧ (beg10 v ∧ (FI 842 871 hB hM ∧ (h16 = up (up h12 (1101, 870) (pL 1 (fun _ => 0))) SZ (pA 99 872 g0) ∧ (h5 (1201, 0) = pA 98 L (.inl xs) ∧ (∀ a n g, h16 a = pA 99 n g → a = SZ))))))))))
theorem ch16 (I : IN0 hL h5 hB hM h12 h16 w v g0 L xs) {t i : Nat} (ht : 10000 ≤ t ∨ t < 1200) (hi : i ≠ 842) (hp : psn (t, i) < 842) : h16 (t, i) = h5 (t, i) := by
  obtain ⟨g1, b9, m, r, f2, g2, b10, f3, e16, hs, n9⟩ := I
  have ns : ((t, i) : LA) ≠ SZ := by
    rcases ht with ht | ht
    · exact neSF ht
    · exact neSA ht
  rw [e16, up_ne _ _ ns, up_ne _ _ (fun e => by
    have e1 := (Prod.mk.inj e).1
    have e2 := (Prod.mk.inj e).2
    subst e1
    subst e2
    exact absurd hp (by decide)), (show h12 (t, i) = hM (t, i) from g2.2.2.2 (t, i) (fun q => by
    rcases q with ⟨_, q⟩ | ⟨_, q⟩
    · exact hi (y1_i q).2
    · exact hi (y1_i q).2)), f3 (t, i) ns (Or.inr (Or.inl hp)), f2 (t, i) ns (Or.inr (Or.inl hp))]
theorem ch10 (I : IN0 hL h5 hB hM h12 h16 w v g0 L xs) {t : Nat} (ht : 10000 ≤ t ∨ t < 1200) : h16 (t, 842) = h12 (t, 842) := by
  obtain ⟨g1, b9, m, r, f2, g2, b10, f3, e16, hs, n9⟩ := I
  have ns : ((t, 842) : LA) ≠ SZ := by
    rcases ht with ht | ht
    · exact neSF ht
    · exact neSA ht
  rw [e16, up_ne _ _ ns, up_ne _ _ (fun e => by
    have e2 := (Prod.mk.inj e).2
    omega)]
theorem all16 (I : IN0 hL h5 hB hM h12 h16 w v g0 L xs) {c i : Nat} (hv : vo c i = true) : SH h16 c i := by
  have J := I
  obtain ⟨g1, b9, m, r, f2, g2, b10, f3, e16, hs, n9⟩ := J
  by_cases h10 : c = 10
  · subst h10
    have e : i = 842 := by
      have hv : (i == 842) = true := hv
      simpa using hv
    subst e
    have q : SH h12 10 842 := SH.ofW g2 (y1_s 10 842 hM)
    refine ⟨fun t ht hc => ?_, fun t ht hc => ?_, fun t ht h2 h3 hc => ?_⟩
    · have k := kl1 ht
      rw [ch10 I (Or.inl (by omega))]
      exact q.1 t ht hc
    · have k := kl2 ht
      rw [ch10 I (Or.inl (by omega))]
      exact q.2.1 t ht hc
    · have k := kl4 ht
      rw [ch10 I (Or.inr (by omega))]
      exact q.2.2 t ht h2 h3 hc
  · obtain ⟨v1, v2, v3, v4, v5⟩ := vo_le hv h10
    have to16 : SH h5 c i → SH h16 c i := fun q => q.eq h10 (fun t ht => by
      rcases ht with ht | ht
      · exact ch16 I (Or.inl ht) (by omega) (by rw [psF ht]; omega)
      · exact ch16 I (Or.inr ht.1) (by omega) (by rw [psA ht.1]; omega))
    refine to16 ?_
    by_cases e1 : c = 4 ∧ i = 9
    · obtain ⟨rfl, rfl⟩ := e1
      exact SH.ofW g1 rfl
    by_cases e2 : c = 2 ∧ i = 8
    · obtain ⟨rfl, rfl⟩ := e2
      exact SH.ofW g1 rfl
    by_cases e3 : c = 1 ∧ i = 296
    · obtain ⟨rfl, rfl⟩ := e3
      exact SH.ofW g1 rfl
    by_cases e4 : c = 3 ∧ i = 312
    · obtain ⟨rfl, rfl⟩ := e4
      exact SH.ofW g1 rfl
    refine (vo_all m r h10 e1 e2 e3 e4 hv).eq h10 (fun t _ => ?_)
    exact g1.out (by omega) (by omega) (by omega) (by omega)
theorem root16 (I : IN0 hL h5 hB hM h12 h16 w v g0 L xs) {j : Nat} (hj : j < 18) : h16 (10900 + j, 0) = pF (V9 j) := by
  have J := I
  obtain ⟨g1, b9, m, r, f2, g2, b10, f3, e16, hs, n9⟩ := J
  rw [ch16 I (Or.inl (by omega)) (by omega) (by rw [psF (by omega)]; omega), g1.out (by omega) (by omega) (by omega) (by omega)]
  exact r j hj
theorem WH16 (I : IN0 hL h5 hB hM h12 h16 w v g0 L xs) : WH (L, (xs, fun _ => 0)) (hW h16) (mO h16) := by
  have J := I
  obtain ⟨g1, b9, m, r, f2, g2, b10, f3, e16, hs, n9⟩ := J
  refine ⟨fun t i ht hv => ?_, fun t i ht hv => ?_, fun t i ht hv => ?_, fun t i ht hv => ?_, fun i hv => ?_, rfl, rfl, ?_, ?_, fun a n g e => ?_⟩
  · have k := kl1 ht
    obtain ⟨x, hx⟩ := (all16 I hv).1 t ht rfl
    rw [hW_n (neSF (by omega)) ⟨by show t ≠ 201; omega, by show t ≠ 901; omega, by show t ≠ 501; omega⟩, hx, mO_S hx]
  · have k := kl2 ht
    rw [hW_n (neSF (by omega)) ⟨by show t ≠ 201; omega, by show t ≠ 901; omega, by show t ≠ 501; omega⟩]
    exact (all16 I hv).2.1 t ht rfl
  · have k := kl3 ht
    have e9 : (t - 10000) / 100 = 9 := by omega
    rw [e9] at hv
    have ei : i = 0 := by
      have hv : (i == 0) = true := hv
      simpa using hv
    subst ei
    rw [hW_n (neSF (by omega)) ⟨by show t ≠ 201; omega, by show t ≠ 901; omega, by show t ≠ 501; omega⟩]
    have key : ∀ j b, j < 18 → t = 10900 + j → V9 j = vR (100 * tT t, b) → vo (tT t) b = true → h16 (t, 0) = pF (vR (100 * tT t, rT (mO h16) (t, 0))) ∧ vo (tT t) (rT (mO h16) (t, 0)) = true := by
      intro j b hj hjt hV hb
      have q := root16 I hj
      rw [← hjt, hV] at q
      rw [mO_T q]
      exact ⟨q, hb⟩
    have : t = 10908 ∨ t = 10909 ∨ t = 10910 ∨ t = 10911 ∨ t = 10912 ∨ t = 10913 := by omega
    rcases this with e | e | e | e | e | e
    · subst e; exact key 8 296 (by decide) rfl rfl rfl
    · subst e; exact key 9 304 (by decide) rfl rfl rfl
    · subst e; exact key 10 312 (by decide) rfl rfl rfl
    · subst e; exact key 11 317 (by decide) rfl rfl rfl
    · subst e; exact key 12 322 (by decide) rfl rfl rfl
    · subst e; exact key 13 324 (by decide) rfl rfl rfl
  · have k := kl4 ht
    rw [hW_n (neSA (by omega)) ⟨by show t ≠ 201; omega, by show t ≠ 901; omega, by show t ≠ 501; omega⟩]
    by_cases e2 : t = 502
    · subst e2
      have hv : (Nat.ble 203 i && Nat.ble i 292) = true := hv
      simp only [Bool.and_eq_true, Nat.ble_eq] at hv
      have q := m.2.2.2.2.2.2.2.1.2.1 (i - 203) (by omega)
      rw [show 203 + (i - 203) = i by omega] at q
      have q2 : h16 (502, i) = pI 13 (fun _ => 0) := by
        rw [ch16 I (Or.inr (by decide)) (by omega) (by rw [psA (by decide)]; omega), g1.out (by omega) (by omega) (by omega) (by omega)]
        exact q
      rw [q2, mO_A q2]
      rfl
    by_cases e3 : t = 503
    · subst e3
      have hv : (i == 292) = true := hv
      have ei : i = 292 := by simpa using hv
      subst ei
      have q2 : h16 (503, 292) = pI 100 (fun _ => 0) := by
        rw [ch16 I (Or.inr (by decide)) (by omega) (by decide), g1.out (by omega) (by omega) (by omega) (by omega)]
        exact m.2.2.2.2.2.2.2.1.2.2.1
      rw [q2, mO_A q2]
      rfl
    have hv2 : vo (t / 100) i = true := by
      have : vA t i = vo (t / 100) i := by
        unfold vA
        split
        · exact absurd rfl e2
        · exact absurd rfl e3
        · rfl
      rw [← this]
      exact hv
    obtain ⟨f, hf⟩ := (all16 I hv2).2.2 t ht e2 e3 rfl
    rw [hf, mO_A hf]
  · rcases vo2 hv with e | e | e | e
    · subst e; rfl
    · subst e; rfl
    · subst e; rfl
    · subst e; rfl
  · rw [hW_n (by decide) ⟨by decide, by decide, by decide⟩, e16, up_ne _ _ (by decide), up_eq]
  · have ns : ((1201, 0) : LA) ≠ SZ := by decide
    rw [hW_n ns ⟨by decide, by decide, by decide⟩, e16, up_ne _ _ ns, up_ne _ _ (by decide), (show h12 (1201, 0) = hM (1201, 0) from g2.2.2.2 (1201, 0) (fun q => by
      rcases q with ⟨_, q⟩ | ⟨_, q⟩
      · exact absurd (y1_i q).2 (by decide)
      · exact absurd (y1_i q).2 (by decide))), f3 (1201, 0) ns (Or.inl ⟨by decide, by decide⟩), f2 (1201, 0) ns (Or.inl ⟨by decide, by decide⟩)]
    exact hs
  · unfold hW at e
    by_cases es : a = SZ
    · rw [if_pos es] at e
      cases e
    · rw [if_neg es] at e
      cases er : rowW a with
      | none =>
        rw [er] at e
        exact es (n9 a n g e)
      | some c =>
        rw [er] at e
        have e : some c = pA 99 n g := e
        rw [← er] at e
        unfold rowW at e
        repeat' split at e
        all_goals cases e
theorem eq16 (I : IN0 hL h5 hB hM h12 h16 w v g0 L xs) : eqH h16 (hW h16) := by
  have J := I
  obtain ⟨g1, b9, m, r, f2, g2, b10, f3, e16, hs, n9⟩ := J
  intro a
  by_cases es : a = SZ
  · refine Or.inr (Or.inr ⟨es, ?_⟩)
    unfold hW
    rw [if_pos es]
  by_cases e1 : a = (201, 18)
  · subst e1
    have hq := (ch16 I (Or.inr (by decide)) (by decide) (by decide)).trans ((g1.out (by decide) (by decide) (by decide) (by decide)).trans m.2.2.1.2.1)
    exact Or.inr (Or.inl ⟨4, 16, _, _, by decide, hq, rfl, fun j hj => (if_pos hj).symm⟩)
  by_cases e2 : a = (201, 336)
  · subst e2
    have hq := (ch16 I (Or.inr (by decide)) (by decide) (by decide)).trans ((g1.out (by decide) (by decide) (by decide) (by decide)).trans m.2.2.2.2.2.2.2.2.2.2.2.2.2.2.1.2.1)
    exact Or.inr (Or.inl ⟨4, 16, _, _, by decide, hq, rfl, fun j hj => (if_pos hj).symm⟩)
  by_cases e3 : a = (201, 508)
  · subst e3
    have hq := (ch16 I (Or.inr (by decide)) (by decide) (by decide)).trans ((g1.out (by decide) (by decide) (by decide) (by decide)).trans m.2.2.2.2.2.2.2.2.2.2.2.2.2.2.2.1.2.1)
    exact Or.inr (Or.inl ⟨4, 16, _, _, by decide, hq, rfl, fun j hj => (if_pos hj).symm⟩)
  by_cases e4 : a = (201, 680)
  · subst e4
    have hq := (ch16 I (Or.inr (by decide)) (by decide) (by decide)).trans ((g1.out (by decide) (by decide) (by decide) (by decide)).trans m.2.2.2.2.2.2.2.2.2.2.2.2.2.2.2.2.2.1)
    exact Or.inr (Or.inl ⟨4, 16, _, _, by decide, hq, rfl, fun j hj => (if_pos hj).symm⟩)
  by_cases e5 : a = (901, 179)
  · subst e5
    have hq := (ch16 I (Or.inr (by decide)) (by decide) (by decide)).trans ((g1.out (by decide) (by decide) (by decide) (by decide)).trans m.2.2.2.1)
    exact Or.inr (Or.inl ⟨5, 3, _, _, by decide, hq, rfl, fun j hj => (if_pos hj).symm⟩)
  by_cases e6 : a = (501, 203)
  · subst e6
    have hq := (ch16 I (Or.inr (by decide)) (by decide) (by decide)).trans ((g1.out (by decide) (by decide) (by decide) (by decide)).trans m.2.2.2.2.2.2.2.1.1)
    exact Or.inr (Or.inl ⟨6, 90, _, _, by decide, hq, rfl, fun j hj => (if_pos hj).symm⟩)
  refine Or.inl ?_
  unfold hW
  rw [if_neg es]
  have : rowW a = none := by
    unfold rowW
    rw [if_neg e1, if_neg e2, if_neg e3, if_neg e4, if_neg e5, if_neg e6]
  rw [this]
theorem INV16 (I : IN0 hL h5 hB hM h12 h16 w v g0 L xs) : INV (mO h16) := by
  have J := I
  obtain ⟨g1, b9, m, r, f2, g2, b10, f3, e16, hs, n9⟩ := J
  obtain ⟨c1, c2, c3, c4, ⟨c5, c6, c7, c8⟩, c9⟩ := b9
  obtain ⟨d1, d2, d3, d4, d5, d6, d7, d8, d9, d10⟩ := b10
  have S10 : ∀ t, kl t = 1 → (t - 10000) / 100 = 10 → rS (mO h16) (t, 842) = rS v (t, 842) := fun t ht hc => by
    have k := kl1 ht
    refine mO_S ((ch10 I (Or.inl (by omega))).trans (g2.1 t 842 ht (by rw [hc]; exact y1_s 10 842 hM)))
  have A10 : ∀ t, kl t = 4 → t / 100 = 10 → fA (mO h16) (t, 842) = fA v (t, 842) := fun t ht hc => by
    have k := kl4 ht
    exact mO_A ((ch10 I (Or.inr (by omega))).trans (g2.2.2.1 t 842 ht (by rw [hc]; exact y1_s 10 842 hM)))
  have S9 : ∀ t i, kl t = 1 → E9 ((t - 10000) / 100) i = true → rS (mO h16) (t, i) = rS w (t, i) := fun t i ht hc => by
    have k := kl1 ht
    have k2 := E9_i hc
    exact mO_S ((ch16 I (Or.inl (by omega)) (by omega) (by rw [psF (by omega)]; omega)).trans (g1.1 t i ht hc))
  have A9 : ∀ t i, kl t = 4 → t % 100 ≤ 9 → E9 (t / 100) i = true → fA (mO h16) (t, i) = fA w (t, i) := fun t i ht h9 hc => by
    have k := kl4 ht
    have k2 := E9_i hc
    exact mO_A ((ch16 I (Or.inr (by omega)) (by omega) (by rw [psA (by omega)]; omega)).trans (g1.2.2.1 t i ht hc))
  have S0 : ∀ t i x, 10000 ≤ t → i ≠ 8 → i ≠ 9 → i ≠ 296 → i ≠ 312 → i < 842 → hL (t, i) = pF (vI x) → rS (mO h16) (t, i) = x := fun t i x ht a1 a2 a3 a4 a5 e => mO_S ((ch16 I (Or.inl ht) (by omega) (by rw [psF ht]; exact a5)).trans ((g1.out a1 a2 a3 a4).trans e))
  have V0 : ∀ j, j < 18 → V9 j = vI 0 → rS (mO h16) (10900 + j, 0) = 0 := fun j hj e => mO_S ((root16 I hj).trans (by rw [e]))
  have RT : ∀ j b, j < 18 → V9 j = vR b → rT (mO h16) (10900 + j, 0) = b.2 := fun j b hj e => mO_T ((root16 I hj).trans (by rw [e]))
  have f56 : fA (mO h16) (1019, 842) 56 = 0 := by
    rw [A10 1019 rfl rfl, d2 56 (by decide)]
    rfl
  have e801 : rS (mO h16) (10801, 1) = 0 := S0 10801 1 0 (by decide) (by decide) (by decide) (by decide) (by decide) (by decide) m.1.2.1
  have e806 : rS (mO h16) (10806, 1) = -1 := S0 10806 1 (-1) (by decide) (by decide) (by decide) (by decide) (by decide) (by decide) m.1.2.2.2.2.2.2.1
  have e001 : rS (mO h16) (10001, 322) = 0 := S0 10001 322 0 (by decide) (by decide) (by decide) (by decide) (by decide) (by decide) m.2.2.2.2.2.2.2.2.2.2.2.2.1.2.2
  have e1 : fA (mO h16) (1, 322) = fun j => if j < 13 then (-1 : Int32) else 0 := mO_A ((ch16 I (Or.inr (by decide)) (by decide) (by decide)).trans ((g1.out (by decide) (by decide) (by decide) (by decide)).trans m.2.2.2.2.2.2.2.2.2.2.2.2.1.1))
  refine ⟨C0, 296, 312, 322, ⟨RT 8 _ (by decide) rfl, RT 10 _ (by decide) rfl, RT 12 _ (by decide) rfl, Or.inl ⟨rfl, RT 9 _ (by decide) rfl⟩, Or.inl ⟨rfl, RT 11 _ (by decide) rfl⟩, Or.inl ⟨rfl, RT 13 _ (by decide) rfl⟩⟩, ⟨C0_wf.1, ?_, ?_, ?_, ?_, tape0 e801 ((S10 11002 rfl rfl).trans d8), ?_, ?_, ?_⟩, ?_⟩
  · refine ⟨(S9 10107 296 rfl rfl).trans c5, (S9 10109 296 rfl rfl).trans c7, fun k hk => absurd hk (Nat.not_lt_zero _), (S9 10110 296 rfl rfl).trans c8, (S9 10108 296 rfl rfl).trans c6, fun k hk => absurd hk (Nat.not_lt_zero _), fun j hj => ?_, fun k hk => absurd hk (Nat.not_lt_zero _), (S9 10304 312 rfl rfl).trans c4.1, fun i hi => ?_⟩
    · rw [A9 103 296 rfl (by decide) rfl, c9]
      rfl
    · rw [A9 301 312 rfl (by decide) rfl, A9 302 312 rfl (by decide) rfl]
      exact c4.2 i hi
  · obtain ⟨m1, m2, m3, m4, m5, m6, m7, m8⟩ := d1
    refine ⟨(S10 11022 rfl rfl).trans m1, fun k hk => absurd hk (Nat.not_lt_zero _), (S10 11024 rfl rfl).trans m3, fun k hk => absurd hk (Nat.not_lt_zero _), (S10 11025 rfl rfl).trans m5, (S10 11023 rfl rfl).trans m6, fun k hk => absurd hk (Nat.not_lt_zero _), ?_⟩
    unfold LawM
    rw [S10 11032 rfl rfl, A10 1013 rfl rfl, A10 1014 rfl rfl]
    exact m8
  · refine ⟨0, by decide, (S10 11037 rfl rfl).trans d5, (S9 10202 8 rfl rfl).trans c3, ⟨⟨fun t _ j hj => absurd hj (Nat.not_lt_zero _), fun j _ hj => ?_, ?_, fun j hj => absurd hj (Nat.not_lt_zero _)⟩, 0, by decide, fun j hj => absurd hj (Nat.not_lt_zero _), f56⟩, fun k hk => absurd hk (Nat.not_lt_zero _)⟩
    · show fA (mO h16) (403, 9) j = 0 ∧ fA (mO h16) (407, 9) j = 0 ∧ fA (mO h16) (408, 9) j = -1 ∧ fA (mO h16) (409, 9) j = 0
      obtain ⟨b1, b2, b3, b4, b5, b6, b7, b8, b9⟩ := c1 j hj
      rw [A9 403 9 rfl (by decide) rfl, A9 407 9 rfl (by decide) rfl, A9 408 9 rfl (by decide) rfl, A9 409 9 rfl (by decide) rfl]
      exact ⟨b3, b7, b8, b9⟩
    · show rS (mO h16) (10409, 9) = fA (mO h16) (1019, 842) 56
      rw [S9 10409 9 rfl rfl, c2, f56]
  · exact ⟨0, by decide, V0 14 (by decide) rfl, (S10 11054 rfl rfl).trans d6, fun k hk => absurd hk (Nat.not_lt_zero _)⟩
  · rw [e806, S10 11008 rfl rfl, d9]
  · rw [V0 15 (by decide) rfl, S10 11038 rfl rfl, d7]
  · refine ⟨0, by decide, e001, (S10 11047 rfl rfl).trans d4, fun j hj => ?_⟩
    rw [e1, A10 1023 rfl rfl, d3 j hj]
    exact ⟨if_pos hj, Or.inl (if_pos hj)⟩
  · unfold CNT
    rw [V0 16 (by decide) rfl, V0 17 (by decide) rfl, A10 1001 rfl rfl, d10]
    exact ⟨rfl, rfl⟩
end
