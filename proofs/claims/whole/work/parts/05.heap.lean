theorem vwCl_100 : ∀ (ci : Nat) (q : vw_C), vwCl[ci]? = some q → q.2.2 ≤ 100 := by
  intro ci q h
  have h1 : ∀ q ∈ vwCl, q.2.2 ≤ 100 := by decide
  exact h1 q (List.mem_of_getElem? h)
theorem ra_of {G : GA} {a : LA} (h : a.1 < 1200) : ra G a = G.1 + off a := by
  unfold ra
  rw [if_neg (by omega), if_neg (by omega), if_neg (by omega), if_neg (by omega)]
theorem ra_obj {G : GA} {D : va_G} {h : PH} {H : Heap} (r : RepO G D h H) {ci k id : Nat} {v : PV} (hk : k < 100) (hv : h (10000 + 100 * ci + k, id) = pF v) : ra G (100 * ci, id) = G.1 + id := by
  obtain ⟨q, h1, -⟩ := r ci k id v hk hv
  have hc : ci < 11 := (List.getElem?_eq_some_iff.mp h1).1
  rw [ra_of (by show 100 * ci < 1200; omega)]
  show G.1 + (id + 100 * ci % 100) = _
  omega
theorem Rep.putO {G : GA} {D : va_G} {h : PH} {s : State} {H H1 : Heap} (r : Rep G D h s H) {ci k id : Nat} {v0 v : PV} {q : vw_C} {V : Nat → PV} (hk : k < 100) (hv0 : h (10000 + 100 * ci + k, id) = pF v0) (hq : vwCl[ci]? = some q) (hV : ∀ j, j < q.2.2 → h (10000 + 100 * ci + j, id) = pF (V j)) (hk2 : k < q.2.2)
    (hOB : t_OB (G.1 + id) (D.1 ci) q.2.2 (D.2 ci) H1 (fun j => emb G (if j = k then v else V j))) (e2 : H1.size = H.size) (e3 : ∀ x, x ≠ G.1 + id → H1[x]? = H[x]?) : Rep G D (up h (10000 + 100 * ci + k, id) (pF v)) s H1 := by
  obtain ⟨r1, r2, r3, r4, r5, r6, r7⟩ := r
  have hci : ci < 11 := (List.getElem?_eq_some_iff.mp hq).1
  have eO : ent h (100 * ci, id) := Or.inl ⟨ci, k, v0, hk, rfl, hv0⟩
  have hent : ∀ a, ent (up h (10000 + 100 * ci + k, id) (pF v)) a → ent h a := by
    rintro a (⟨ci', k', v', g1, g2, g3⟩ | ⟨kd, n, g, g1, g2⟩)
    · by_cases e : ((10000 + 100 * ci' + k', a.2) : LA) = (10000 + 100 * ci + k, id)
      · exact Or.inl ⟨ci', k', v0, g1, g2, by rw [e]; exact hv0⟩
      · rw [up_ne _ _ e] at g3
        exact Or.inl ⟨ci', k', v', g1, g2, g3⟩
    · by_cases e : a = (10000 + 100 * ci + k, id)
      · rw [e, up_eq] at g2
        cases g2
      · rw [up_ne _ _ e] at g2
        exact Or.inr ⟨kd, n, g, g1, g2⟩
  refine ⟨by rw [e2]; exact r1, r2, ?_, ?_, ?_, ?_, fun a b ha hb => r7 a b (hent a ha) (hent b hb)⟩
  · intro ci' k' id' v' hk' hv'
    by_cases e : ci' = ci ∧ id' = id
    · obtain ⟨rfl, rfl⟩ := e
      have hk9 : k' < q.2.2 := by
        by_cases e : k' = k
        · rw [e]; exact hk2
        · rw [up_ne _ _ (by intro e9; simp only [Prod.mk.injEq] at e9; omega)] at hv'
          obtain ⟨q', g1, g2, -⟩ := r3 ci' k' id' v' hk' hv'
          rw [hq] at g1
          cases g1
          exact g2
      refine ⟨q, hq, hk9, fun j => if j = k then v else V j, fun j hj => ?_, hOB⟩
      by_cases e : j = k
      · show _ = pF (if j = k then v else V j)
        rw [if_pos e, e, up_eq]
      · show _ = pF (if j = k then v else V j)
        rw [if_neg e, up_ne _ _ (by intro e9; simp only [Prod.mk.injEq] at e9; omega)]
        exact hV j hj
    · have hne : ∀ j, j < 100 → ((10000 + 100 * ci' + j, id') : LA) ≠ (10000 + 100 * ci + k, id) := by
        intro j hj e9
        simp only [Prod.mk.injEq] at e9
        exact e ⟨by omega, e9.2⟩
      rw [up_ne _ _ (hne k' hk')] at hv'
      obtain ⟨q', g1, g2, V', g3, g4⟩ := r3 ci' k' id' v' hk' hv'
      have hb := vwCl_100 ci' q' g1
      refine ⟨q', g1, g2, V', fun j hj => ?_, g4.kept (e3 _ ?_)⟩
      · rw [up_ne _ _ (hne j (by omega))]
        exact g3 j hj
      · intro e9
        have e8 : ((100 * ci', id') : LA) = (100 * ci, id) := r7 _ _ (Or.inl ⟨ci', k', v', hk', rfl, hv'⟩) eO (by show id' + 100 * ci' % 100 = id + 100 * ci % 100; omega)
        simp only [Prod.mk.injEq] at e8
        exact e ⟨by omega, e8.2⟩
  · intro a kd n g hkd ha
    have hne : a ≠ (10000 + 100 * ci + k, id) := by
      intro e
      rw [e, up_eq] at ha
      cases ha
    rw [up_ne _ _ hne] at ha
    obtain ⟨g1, g2, cA, g3, g4, g5⟩ := r4 a kd n g hkd ha
    refine ⟨g1, g2, cA, g3, g4, ?_⟩
    rw [e3 _ ?_]
    · exact g5
    · intro e9
      have e8 := r7 _ _ (Or.inr ⟨kd, n, g, hkd, ha⟩) eO (by show off a = id + 100 * ci % 100; omega)
      rw [e8] at g2
      exact g2 (by show 100 * ci % 100 = 0; omega)
  · intro a n g ha
    have hne : a ≠ (10000 + 100 * ci + k, id) := by
      intro e
      rw [e, up_eq] at ha
      cases ha
    rw [up_ne _ _ hne] at ha
    obtain ⟨g1, f, g2, scr, g3, g4⟩ := r5 a n g ha
    exact ⟨g1, f, g2, scr, by rw [e3 _ (by omega)]; exact g3, g4⟩
  · intro a n g ha
    have hne : a ≠ (10000 + 100 * ci + k, id) := by
      intro e
      rw [e, up_eq] at ha
      cases ha
    rw [up_ne _ _ hne] at ha
    rw [e2]
    exact r6 a n g ha
theorem Rep.putA {G : GA} {D : va_G} {h : PH} {s : State} {H H1 : Heap} (r : Rep G D h s H) {a : LA} {kd n : Nat} {g g9 : PA} {cA : ClassId} (hkd : kd < 90) (ha : h a = pA kd n g) (hT : ArrOfT s cA (tyK kd)) (hR : va_RA s cA (tyK kd))
    (e1 : H1[G.1 + off a]? = some (arrV cA n (embA G g9))) (e2 : H1.size = H.size) (e3 : ∀ x, x ≠ G.1 + off a → H1[x]? = H[x]?) : Rep G D (up h a (pA kd n g9)) s H1 := by
  obtain ⟨r1, r2, r3, r4, r5, r6, r7⟩ := r
  obtain ⟨a1, a2, -⟩ := r4 a kd n g hkd ha
  have eA : ent h a := Or.inr ⟨kd, n, g, hkd, ha⟩
  have hent : ∀ b, ent (up h a (pA kd n g9)) b → ent h b := by
    rintro b (⟨ci', k', v', g1, g2, g3⟩ | ⟨kd', n', g', g1, g2⟩)
    · by_cases e : ((10000 + 100 * ci' + k', b.2) : LA) = a
      · rw [e, up_eq] at g3
        cases g3
      · rw [up_ne _ _ e] at g3
        exact Or.inl ⟨ci', k', v', g1, g2, g3⟩
    · by_cases e : b = a
      · rw [e]; exact eA
      · rw [up_ne _ _ e] at g2
        exact Or.inr ⟨kd', n', g', g1, g2⟩
  refine ⟨by rw [e2]; exact r1, r2, ?_, ?_, ?_, ?_, fun a b ha hb => r7 a b (hent a ha) (hent b hb)⟩
  · intro ci k id v hk hv
    have hne : ∀ j, ((10000 + 100 * ci + j, id) : LA) ≠ a := by
      intro j e
      rw [← e] at a1
      have : 10000 + 100 * ci + j < 1200 := a1
      omega
    rw [up_ne _ _ (hne k)] at hv
    obtain ⟨q, g1, g2, V, g3, g4⟩ := r3 ci k id v hk hv
    refine ⟨q, g1, g2, V, fun j hj => ?_, g4.kept (e3 _ ?_)⟩
    · rw [up_ne _ _ (hne j)]
      exact g3 j hj
    · intro e9
      have e8 : ((100 * ci, id) : LA) = a := r7 _ _ (Or.inl ⟨ci, k, v, hk, rfl, hv⟩) eA (by show id + 100 * ci % 100 = off a; omega)
      rw [← e8] at a2
      exact a2 (by show 100 * ci % 100 = 0; omega)
  · intro b kd' n' g' hkd' hb
    by_cases e : b = a
    · subst e
      rw [up_eq] at hb
      cases hb
      exact ⟨a1, a2, cA, hT, hR, e1⟩
    · rw [up_ne _ _ e] at hb
      obtain ⟨g1, g2, cB, g3, g4, g5⟩ := r4 b kd' n' g' hkd' hb
      refine ⟨g1, g2, cB, g3, g4, ?_⟩
      rw [e3 _ (fun e9 => e (r7 _ _ (Or.inr ⟨kd', n', g', hkd', hb⟩) eA (by omega)))]
      exact g5
  · intro b n' g' hb
    have hne : b ≠ a := by
      intro e
      rw [e, up_eq] at hb
      cases hb
      omega
    rw [up_ne _ _ hne] at hb
    obtain ⟨g1, f, g2, scr, g3, g4⟩ := r5 b n' g' hb
    exact ⟨g1, f, g2, scr, by rw [e3 _ (by omega)]; exact g3, g4⟩
  · intro b n' g' hb
    have hne : b ≠ a := by
      intro e
      rw [e, up_eq] at hb
      cases hb
      omega
    rw [up_ne _ _ hne] at hb
    rw [e2]
    exact r6 b n' g' hb
theorem va_S.put1 {G : GA} {s : State} {H H1 : Heap} {locs : List Loc} {x sl : Nat} (hS : va_S (AB G) s.heap H locs) (e2 : H1.size = H.size) (e3 : ∀ y, y ≠ x → H1[y]? = H[y]?) (hx : G.1 ≤ x) : va_S (AB G) s.heap H1 (locs ++ [⟨x, sl⟩]) := by
  refine ⟨by rw [e2]; exact hS.1, fun y h1 h2 => ?_, fun l hl => ?_⟩
  · rw [e3 y (fun e => h2 (by rw [e]; exact hx))]
    exact hS.2.1 y h1 h2
  · rcases List.mem_append.mp hl with hl | hl
    · exact hS.2.2 l hl
    · rw [List.mem_singleton.mp hl]
      exact hx
theorem P_get {d : Nat} {Y : MR} {Q : PO → PH → Prop} {rc rs pc : Nat} {ls st : List PV} {h : PH} {ci k id idx : Nat} {q : vw_C} {v : PV} (hd : decode Y.2.1 pc = .ok (.getfield idx, 3)) (hc : vwCl[ci]? = some q) (hk : k < q.2.2) (hl : Cond.fieldLink Y.1.cls idx (q.2.1 k).1 (q.2.1 k).2.1 (q.2.1 k).2.2.1 ∈ TB) (hin : ∀ w ∈ u_ws q.1 q.2.1 q.2.2, w ∈ TB) (hv : h (10000 + 100 * ci + k, id) = pF v) (k9 : PW d Y Q rc rs (pc + 3) ls (v :: st) h) : PW d Y Q rc rs pc ls (vR (100 * ci, id) :: st) h := by
  intro G D l p e R s m args below meth c mc ms C H locs cells slots lsr S
  have hk1 : k < 100 := Nat.lt_of_lt_of_le hk (vwCl_100 ci q hc)
  have hra := ra_obj (G := G) (D := D) S.1.2.2.1 hk1 hv
  obtain ⟨q9, h1, h2, V, hV, cell, q1, q2, q3, q4⟩ := S.1.2.2.1 ci k id v hk1 hv
  rw [hc] at h1
  cases h1
  have hVk : V k = v := by
    have := (hV k hk).symm.trans hv
    cases this
    rfl
  obtain ⟨hSl, hfc, kC, hkC, hkind⟩ := C.2.2.2.2.2.2.2.1.1.1 ci _ hc
  obtain ⟨cf, kf, fi, f, hi, hsl⟩ := hSl k hk
  refine W.getf C.1 C.2.1 C.2.2.2.2.2.1 (C.2.2.2.2.2.2.1 _ hl) hi (u_facts hfc hkC (u_lays C.2.2.2.2.2.2.1 hin hk) hi).1 q1 (by rw [q3]; exact fun h => by cases h) (v := emb G v) ?_ rfl (rest := st.map (emb G)) (by show emb G (vR (100 * ci, id)) :: _ = _; rw [show emb G (vR (100 * ci, id)) = .ref (ra G (100 * ci, id)) from rfl, hra]) hd (k9 G D l p e R s m args below meth c mc ms C H locs cells slots lsr S)
  rw [hsl]
  exact (q4 k hk).trans (by show some (emb G (V k)) = _; rw [hVk])
theorem P_put {d : Nat} {Y : MR} {Q : PO → PH → Prop} {rc rs pc : Nat} {ls st : List PV} {h : PH} {ci k id idx : Nat} {q : vw_C} {v v0 : PV} {ty : FieldType} (hd : decode Y.2.1 pc = .ok (.putfield idx, 3)) (hc : vwCl[ci]? = some q) (hk : k < q.2.2) (hl : Cond.fieldLink Y.1.cls idx (q.2.1 k).1 (q.2.1 k).2.1 (q.2.1 k).2.2.1 ∈ TB) (hin : ∀ w ∈ u_ws q.1 q.2.1 q.2.2, w ∈ TB) (ty0 : Nat → FieldType) (hty : ∀ k, k < q.2.2 → parseFieldDescriptor (q.2.1 k).2.2.1 = some (ty0 k)) (hnm : ∀ a, a < q.2.2 → ∀ b, b < q.2.2 → a ≠ b → (q.2.1 a).2.1 ≠ (q.2.1 b).2.1) (hfin : (q.2.1 k).2.2.2 = false) (hdd : parseFieldDescriptor (q.2.1 k).2.2.1 = some ty) (hn : ∀ G, narrow ty (emb G v) = emb G v) (hfit : ∀ G, fits ty (emb G v) = true) (hv : h (10000 + 100 * ci + k, id) = pF v0) (k9 : PW d Y Q rc rs (pc + 3) ls st (up h (10000 + 100 * ci + k, id) (pF v))) : PW d Y Q rc rs pc ls (v :: vR (100 * ci, id) :: st) h := by
  intro G D l p e R s m args below meth c mc ms C H locs cells slots lsr S
  have hk1 : k < 100 := Nat.lt_of_lt_of_le hk (vwCl_100 ci q hc)
  have hra := ra_obj (G := G) (D := D) S.1.2.2.1 hk1 hv
  have hap := va_apart (own := q.1) C.2.2.2.2.2.2.1 hin ty0 hty hnm C.2.2.2.2.2.2.2.1.1 hc
  obtain ⟨q9, h1, h2, V, hV, cell, q1, q2, q3, q4⟩ := S.1.2.2.1 ci k id v0 hk1 hv
  rw [hc] at h1
  cases h1
  obtain ⟨hSl, hfc, kC, hkC, hkind⟩ := C.2.2.2.2.2.2.2.1.1.1 ci _ hc
  obtain ⟨cf, kf, fi, f, hi, hsl⟩ := hSl k hk
  have hlay := C.2.2.2.2.2.2.1 _ (hin _ (u_in_lay hk))
  unfold u_lay at hlay
  rw [if_neg (by rw [hfin]; decide)] at hlay
  have hst := (u_facts hfc hkC (u_lays C.2.2.2.2.2.2.1 hin hk) hi).1
  have h6 := u_store hfc hkC hkind hlay hi hdd (hn G) (hfit G)
  refine W.putK C.1 C.2.1 (f := f) ⟨C.2.2.2.2.2.1, (C.2.2.2.2.2.2.1 _ hl), ⟨_, _, _, hi⟩, hst⟩ (by rw [q2]; exact h6) q1 q3 (by rw [hsl]; exact k2_hasslot (q4 k hk)) rfl (rest := st.map (emb G)) (by show emb G v :: emb G (vR (100 * ci, id)) :: _ = _; rw [show emb G (vR (100 * ci, id)) = .ref (ra G (100 * ci, id)) from rfl, hra]) hd fun H1 e1 e2 e3 => ?_
  rw [hsl] at e1
  refine k9 G D l p e R s m args below meth c mc ms C H1 _ cells slots lsr ⟨S.1.putO hk1 hv hc hV hk ⟨_, e1, q2, q3, fun j hj => ?_⟩ e2 e3, S.2.1, S.2.2.1.put1 e2 e3 (Nat.le_add_right _ _), S.2.2.2⟩
  rw [t_set q4 hap hk (emb G v) j hj]
  unfold updV
  by_cases ej : j = k
  · show some (if j = k then emb G v else emb G (V j)) = some (emb G (if j = k then v else V j))
    rw [if_pos ej, if_pos ej]
  · show some (if j = k then emb G v else emb G (V j)) = some (emb G (if j = k then v else V j))
    rw [if_neg ej, if_neg ej]
theorem P_getN {d : Nat} {Y : MR} {Q : PO → PH → Prop} {rc rs pc : Nat} {ls st : List PV} {h : PH} {ci k id idx : Nat} {host : String} {q : vw_C} {v : PV} (hd : decode Y.2.1 pc = .ok (.getfield idx, 3)) (hc : vwCl[ci]? = some q) (hk : k < q.2.2) (hl : Cond.fieldLinkNest Y.1.cls idx (q.2.1 k).1 (q.2.1 k).2.1 (q.2.1 k).2.2.1 host ∈ NB) (hin : ∀ w ∈ u_ws q.1 q.2.1 q.2.2, w ∈ TB) (hv : h (10000 + 100 * ci + k, id) = pF v) (k9 : PW d Y Q rc rs (pc + 3) ls (v :: st) h) : PW d Y Q rc rs pc ls (vR (100 * ci, id) :: st) h := by
  intro G D l p e R s m args below meth c mc ms C H locs cells slots lsr S
  have hk1 : k < 100 := Nat.lt_of_lt_of_le hk (vwCl_100 ci q hc)
  have hra := ra_obj (G := G) (D := D) S.1.2.2.1 hk1 hv
  obtain ⟨q9, h1, h2, V, hV, cell, q1, q2, q3, q4⟩ := S.1.2.2.1 ci k id v hk1 hv
  rw [hc] at h1
  cases h1
  have hVk : V k = v := by
    have := (hV k hk).symm.trans hv
    cases this
    rfl
  obtain ⟨hSl, hfc, kC, hkC, hkind⟩ := C.2.2.2.2.2.2.2.1.1.1 ci _ hc
  obtain ⟨cf, kf, fi, f, hi, hsl⟩ := hSl k hk
  refine va_Wgetf C.1 C.2.1 C.2.2.2.2.2.1 (isN_use (List.mem_filter.mp hl).2 (C.2.2.2.2.2.2.2.1.2.2.2.2.2.2.2.1 _ hl)) hi (u_facts hfc hkC (u_lays C.2.2.2.2.2.2.1 hin hk) hi).1 q1 (by rw [q3]; exact fun h => by cases h) (v := emb G v) ?_ rfl (rest := st.map (emb G)) (by show emb G (vR (100 * ci, id)) :: _ = _; rw [show emb G (vR (100 * ci, id)) = .ref (ra G (100 * ci, id)) from rfl, hra]) hd (k9 G D l p e R s m args below meth c mc ms C H locs cells slots lsr S)
  rw [hsl]
  exact (q4 k hk).trans (by show some (emb G (V k)) = _; rw [hVk])
theorem P_putN {d : Nat} {Y : MR} {Q : PO → PH → Prop} {rc rs pc : Nat} {ls st : List PV} {h : PH} {ci k id idx : Nat} {host : String} {q : vw_C} {v v0 : PV} {ty : FieldType} (hd : decode Y.2.1 pc = .ok (.putfield idx, 3)) (hc : vwCl[ci]? = some q) (hk : k < q.2.2) (hl : Cond.fieldLinkNest Y.1.cls idx (q.2.1 k).1 (q.2.1 k).2.1 (q.2.1 k).2.2.1 host ∈ NB) (hin : ∀ w ∈ u_ws q.1 q.2.1 q.2.2, w ∈ TB) (ty0 : Nat → FieldType) (hty : ∀ k, k < q.2.2 → parseFieldDescriptor (q.2.1 k).2.2.1 = some (ty0 k)) (hnm : ∀ a, a < q.2.2 → ∀ b, b < q.2.2 → a ≠ b → (q.2.1 a).2.1 ≠ (q.2.1 b).2.1) (hfin : (q.2.1 k).2.2.2 = false) (hdd : parseFieldDescriptor (q.2.1 k).2.2.1 = some ty) (hn : ∀ G, narrow ty (emb G v) = emb G v) (hfit : ∀ G, fits ty (emb G v) = true) (hv : h (10000 + 100 * ci + k, id) = pF v0) (k9 : PW d Y Q rc rs (pc + 3) ls st (up h (10000 + 100 * ci + k, id) (pF v))) : PW d Y Q rc rs pc ls (v :: vR (100 * ci, id) :: st) h := by
  intro G D l p e R s m args below meth c mc ms C H locs cells slots lsr S
  have hk1 : k < 100 := Nat.lt_of_lt_of_le hk (vwCl_100 ci q hc)
  have hra := ra_obj (G := G) (D := D) S.1.2.2.1 hk1 hv
  have hap := va_apart (own := q.1) C.2.2.2.2.2.2.1 hin ty0 hty hnm C.2.2.2.2.2.2.2.1.1 hc
  obtain ⟨q9, h1, h2, V, hV, cell, q1, q2, q3, q4⟩ := S.1.2.2.1 ci k id v0 hk1 hv
  rw [hc] at h1
  cases h1
  obtain ⟨hSl, hfc, kC, hkC, hkind⟩ := C.2.2.2.2.2.2.2.1.1.1 ci _ hc
  obtain ⟨cf, kf, fi, f, hi, hsl⟩ := hSl k hk
  have hlay := C.2.2.2.2.2.2.1 _ (hin _ (u_in_lay hk))
  unfold u_lay at hlay
  rw [if_neg (by rw [hfin]; decide)] at hlay
  have hst := (u_facts hfc hkC (u_lays C.2.2.2.2.2.2.1 hin hk) hi).1
  have h6 := u_store hfc hkC hkind hlay hi hdd (hn G) (hfit G)
  refine va_WputK C.1 C.2.1 (f := f) C.2.2.2.2.2.1 (isN_use (List.mem_filter.mp hl).2 (C.2.2.2.2.2.2.2.1.2.2.2.2.2.2.2.1 _ hl)) hi hst (by rw [q2]; exact h6) q1 q3 (by rw [hsl]; exact k2_hasslot (q4 k hk)) rfl (rest := st.map (emb G)) (by show emb G v :: emb G (vR (100 * ci, id)) :: _ = _; rw [show emb G (vR (100 * ci, id)) = .ref (ra G (100 * ci, id)) from rfl, hra]) hd fun H1 e1 e2 e3 => ?_
  rw [hsl] at e1
  refine k9 G D l p e R s m args below meth c mc ms C H1 _ cells slots lsr ⟨S.1.putO hk1 hv hc hV hk ⟨_, e1, q2, q3, fun j hj => ?_⟩ e2 e3, S.2.1, S.2.2.1.put1 e2 e3 (Nat.le_add_right _ _), S.2.2.2⟩
  rw [t_set q4 hap hk (emb G v) j hj]
  unfold updV
  by_cases ej : j = k
  · show some (if j = k then emb G v else emb G (V j)) = some (emb G (if j = k then v else V j))
    rw [if_pos ej, if_pos ej]
  · show some (if j = k then emb G v else emb G (V j)) = some (emb G (if j = k then v else V j))
    rw [if_neg ej, if_neg ej]
theorem P_putF {d : Nat} {Y : MR} {Q : PO → PH → Prop} {rc rs pc : Nat} {ls st : List PV} {h : PH} {ci k id idx : Nat} {q : vw_C} {v v0 : PV} {ty : FieldType} (hd : decode Y.2.1 pc = .ok (.putfield idx, 3)) (hc : vwCl[ci]? = some q) (hk : k < q.2.2) (hl : Cond.fieldLink Y.1.cls idx (q.2.1 k).1 (q.2.1 k).2.1 (q.2.1 k).2.2.1 ∈ TB) (hin : ∀ w ∈ u_ws q.1 q.2.1 q.2.2, w ∈ TB) (ty0 : Nat → FieldType) (hty : ∀ k, k < q.2.2 → parseFieldDescriptor (q.2.1 k).2.2.1 = some (ty0 k)) (hnm : ∀ a, a < q.2.2 → ∀ b, b < q.2.2 → a ≠ b → (q.2.1 a).2.1 ≠ (q.2.1 b).2.1) (hfin : (q.2.1 k).2.2.2 = true) (hin2 : Y.1.name = "<init>") (hdecl : (q.2.1 k).1 = Y.1.cls) (hdd : parseFieldDescriptor (q.2.1 k).2.2.1 = some ty) (hn : ∀ G, narrow ty (emb G v) = emb G v) (hfit : ∀ G, fits ty (emb G v) = true) (hv : h (10000 + 100 * ci + k, id) = pF v0) (k9 : PW d Y Q rc rs (pc + 3) ls st (up h (10000 + 100 * ci + k, id) (pF v))) : PW d Y Q rc rs pc ls (v :: vR (100 * ci, id) :: st) h := by
  intro G D l p e R s m args below meth c mc ms C H locs cells slots lsr S
  have hk1 : k < 100 := Nat.lt_of_lt_of_le hk (vwCl_100 ci q hc)
  have hra := ra_obj (G := G) (D := D) S.1.2.2.1 hk1 hv
  have hap := va_apart (own := q.1) C.2.2.2.2.2.2.1 hin ty0 hty hnm C.2.2.2.2.2.2.2.1.1 hc
  obtain ⟨q9, h1, h2, V, hV, cell, q1, q2, q3, q4⟩ := S.1.2.2.1 ci k id v0 hk1 hv
  rw [hc] at h1
  cases h1
  obtain ⟨hSl, hfc, kC, hkC, hkind⟩ := C.2.2.2.2.2.2.2.1.1.1 ci _ hc
  obtain ⟨cf, kf, fi, f, hi, hsl⟩ := hSl k hk
  have hlay := C.2.2.2.2.2.2.1 _ (hin _ (u_in_lay hk))
  unfold u_lay at hlay
  rw [if_pos hfin] at hlay
  have hst := (u_facts hfc hkC (u_lays C.2.2.2.2.2.2.1 hin hk) hi).1
  have hcf : m.cls = cf := by
    obtain ⟨_, _, c9, _, _, _, -, -, hf9, -, -, -, hown2, -⟩ := Cond.laysFinal_spec hlay
    have e1 : c9 = cf := by have := hi.symm.trans hf9; simp at this; exact this.1.symm
    rw [hdecl] at hown2
    rw [← e1]
    exact Option.some.inj (C.2.2.2.2.2.1.symm.trans hown2)
  have h6 := u_fits hfc hkC hkind (Or.inr hlay) hi hdd (hn G) (hfit G)
  refine W.putFinK C.1 C.2.1 C.2.2.2.2.2.1 (C.2.2.2.2.2.2.1 _ hl) hi hst hcf (C.2.2.2.2.2.2.2.2.2.1.trans hin2) (by rw [q2]; exact h6) q1 q3 (by rw [hsl]; exact k2_hasslot (q4 k hk)) rfl (rest := st.map (emb G)) (by show emb G v :: emb G (vR (100 * ci, id)) :: _ = _; rw [show emb G (vR (100 * ci, id)) = .ref (ra G (100 * ci, id)) from rfl, hra]) hd fun H1 e1 e2 e3 => ?_
  rw [hsl] at e1
  refine k9 G D l p e R s m args below meth c mc ms C H1 _ cells slots lsr ⟨S.1.putO hk1 hv hc hV hk ⟨_, e1, q2, q3, fun j hj => ?_⟩ e2 e3, S.2.1, S.2.2.1.put1 e2 e3 (Nat.le_add_right _ _), S.2.2.2⟩
  rw [t_set q4 hap hk (emb G v) j hj]
  unfold updV
  by_cases ej : j = k
  · show some (if j = k then emb G v else emb G (V j)) = some (emb G (if j = k then v else V j))
    rw [if_pos ej, if_pos ej]
  · show some (if j = k then emb G v else emb G (V j)) = some (emb G (if j = k then v else V j))
    rw [if_neg ej, if_neg ej]
theorem P_iald {d : Nat} {Y : MR} {Q : PO → PH → Prop} {rc rs pc : Nat} {ls st : List PV} {h : PH} {a : LA} {n : Nat} {f : Nat → Int32} {i : Int32} (hd : decode Y.2.1 pc = .ok (.iaload, 1)) (hv : h a = pI n f) (hi : vp_in i n) (k9 : PW d Y Q rc rs (pc + 1) ls (vI (f i.toNatClampNeg) :: st) h) : PW d Y Q rc rs pc ls (vI i :: vR a :: st) h := by
  intro G D l p e R s m args below meth c mc ms C H locs cells slots lsr S
  obtain ⟨a1, a2, cA, hT, hR, hc⟩ := S.1.2.2.2.1 a 0 n _ (by decide) hv
  have hlt : i.toNatClampNeg < n := Nat.not_le.mp fun q => hi (Or.inr q)
  exact W.iald (v := emb G (vI (f i.toNatClampNeg))) C.1 C.2.1 hc (hT n _) (fun q => by cases q) (by show ¬ (i < 0 ∨ (arrV _ _ _).slots.size ≤ _); rw [arrV_size]; exact hi) (by show (arrV _ _ _).slots[_]? = _; rw [arrV_read _ _ hlt]; rfl) rfl (rest := st.map (emb G)) (by show emb G (vI i) :: emb G (vR a) :: _ = _; rw [show emb G (vR a) = .ref (ra G a) from rfl, ra_of a1]; rfl) hd (k9 G D l p e R s m args below meth c mc ms C H locs cells slots lsr S)
theorem P_bald {d : Nat} {Y : MR} {Q : PO → PH → Prop} {rc rs pc : Nat} {ls st : List PV} {h : PH} {a : LA} {n : Nat} {f : Nat → Int32} {i : Int32} (hd : decode Y.2.1 pc = .ok (.baload, 1)) (hv : h a = pB n f) (hi : vp_in i n) (k9 : PW d Y Q rc rs (pc + 1) ls (vI (f i.toNatClampNeg) :: st) h) : PW d Y Q rc rs pc ls (vI i :: vR a :: st) h := by
  intro G D l p e R s m args below meth c mc ms C H locs cells slots lsr S
  obtain ⟨a1, a2, cA, hT, hR, hc⟩ := S.1.2.2.2.1 a 1 n _ (by decide) hv
  have hlt : i.toNatClampNeg < n := Nat.not_le.mp fun q => hi (Or.inr q)
  exact W.bald (v := emb G (vI (f i.toNatClampNeg))) C.1 C.2.1 hc (hT n _) (fun q => by cases q) (by show ¬ (i < 0 ∨ (arrV _ _ _).slots.size ≤ _); rw [arrV_size]; exact hi) (by show (arrV _ _ _).slots[_]? = _; rw [arrV_read _ _ hlt]; rfl) rfl (rest := st.map (emb G)) (by show emb G (vI i) :: emb G (vR a) :: _ = _; rw [show emb G (vR a) = .ref (ra G a) from rfl, ra_of a1]; rfl) hd (k9 G D l p e R s m args below meth c mc ms C H locs cells slots lsr S)
theorem P_zald {d : Nat} {Y : MR} {Q : PO → PH → Prop} {rc rs pc : Nat} {ls st : List PV} {h : PH} {a : LA} {n : Nat} {f : Nat → Int32} {i : Int32} (hd : decode Y.2.1 pc = .ok (.baload, 1)) (hv : h a = pZ n f) (hi : vp_in i n) (k9 : PW d Y Q rc rs (pc + 1) ls (vI (f i.toNatClampNeg) :: st) h) : PW d Y Q rc rs pc ls (vI i :: vR a :: st) h := by
  intro G D l p e R s m args below meth c mc ms C H locs cells slots lsr S
  obtain ⟨a1, a2, cA, hT, hR, hc⟩ := S.1.2.2.2.1 a 2 n _ (by decide) hv
  have hlt : i.toNatClampNeg < n := Nat.not_le.mp fun q => hi (Or.inr q)
  exact W.zald (v := emb G (vI (f i.toNatClampNeg))) C.1 C.2.1 hc (hT n _) (fun q => by cases q) (by show ¬ (i < 0 ∨ (arrV _ _ _).slots.size ≤ _); rw [arrV_size]; exact hi) (by show (arrV _ _ _).slots[_]? = _; rw [arrV_read _ _ hlt]; rfl) rfl (rest := st.map (emb G)) (by show emb G (vI i) :: emb G (vR a) :: _ = _; rw [show emb G (vR a) = .ref (ra G a) from rfl, ra_of a1]; rfl) hd (k9 G D l p e R s m args below meth c mc ms C H locs cells slots lsr S)
theorem P_lald {d : Nat} {Y : MR} {Q : PO → PH → Prop} {rc rs pc : Nat} {ls st : List PV} {h : PH} {a : LA} {n : Nat} {f : Nat → Int64} {i : Int32} (hd : decode Y.2.1 pc = .ok (.laload, 1)) (hv : h a = pL n f) (hi : vp_in i n) (k9 : PW d Y Q rc rs (pc + 1) ls (vL (f i.toNatClampNeg) :: st) h) : PW d Y Q rc rs pc ls (vI i :: vR a :: st) h := by
  intro G D l p e R s m args below meth c mc ms C H locs cells slots lsr S
  obtain ⟨a1, a2, cA, hT, hR, hc⟩ := S.1.2.2.2.1 a 3 n _ (by decide) hv
  have hlt : i.toNatClampNeg < n := Nat.not_le.mp fun q => hi (Or.inr q)
  exact W.lald (v := emb G (vL (f i.toNatClampNeg))) C.1 C.2.1 hc (hT n _) (fun q => by cases q) (by show ¬ (i < 0 ∨ (arrV _ _ _).slots.size ≤ _); rw [arrV_size]; exact hi) (by show (arrV _ _ _).slots[_]? = _; rw [arrV_read _ _ hlt]; rfl) rfl (rest := st.map (emb G)) (by show emb G (vI i) :: emb G (vR a) :: _ = _; rw [show emb G (vR a) = .ref (ra G a) from rfl, ra_of a1]; rfl) hd (k9 G D l p e R s m args below meth c mc ms C H locs cells slots lsr S)
theorem P_aald {d : Nat} {Y : MR} {Q : PO → PH → Prop} {rc rs pc : Nat} {ls st : List PV} {h : PH} {a : LA} {kd n : Nat} {f : Nat → Option LA} {b : LA} {i : Int32} (hd : decode Y.2.1 pc = .ok (.aaload, 1)) (hkd : kd < 90) (hrk : refKind (tyK kd) = true) (hv : h a = pQ kd n f) (hi : vp_in i n) (hb : f i.toNatClampNeg = some b) (k9 : PW d Y Q rc rs (pc + 1) ls (vR b :: st) h) : PW d Y Q rc rs pc ls (vI i :: vR a :: st) h := by
  intro G D l p e R s m args below meth c mc ms C H locs cells slots lsr S
  obtain ⟨a1, a2, cA, hT, hR, hc⟩ := S.1.2.2.2.1 a kd n _ hkd hv
  have hlt : i.toNatClampNeg < n := Nat.not_le.mp fun q => hi (Or.inr q)
  exact W.aald (v := emb G (vR b)) (ty := tyK kd) C.1 C.2.1 hc (hT n _) hrk (fun q => by cases q) (by show ¬ (i < 0 ∨ (arrV _ _ _).slots.size ≤ _); rw [arrV_size]; exact hi) (by show (arrV _ _ _).slots[_]? = _; rw [arrV_read _ _ hlt]; show some (emb G (.inr (.inr (.inl (f i.toNatClampNeg))))) = _; rw [hb]) rfl (rest := st.map (emb G)) (by show emb G (vI i) :: emb G (vR a) :: _ = _; rw [show emb G (vR a) = .ref (ra G a) from rfl, ra_of a1]; rfl) hd (k9 G D l p e R s m args below meth c mc ms C H locs cells slots lsr S)
theorem P_iast {d : Nat} {Y : MR} {Q : PO → PH → Prop} {rc rs pc : Nat} {ls st : List PV} {h : PH} {a : LA} {n : Nat} {f : Nat → Int32} {i : Int32} {x : Int32} (hd : decode Y.2.1 pc = .ok (.iastore, 1)) (hv : h a = pI n f) (hi : vp_in i n) (k9 : PW d Y Q rc rs (pc + 1) ls st (up h a (pI n (upd f i.toNatClampNeg x)))) : PW d Y Q rc rs pc ls (vI x :: vI i :: vR a :: st) h := by
  intro G D l p e R s m args below meth c mc ms C H locs cells slots lsr S
  obtain ⟨a1, a2, cA, hT, hR, hc⟩ := S.1.2.2.2.1 a 0 n _ (by decide) hv
  refine W.iast C.1 C.2.1 hc (hT n _) (fun q => by cases q) (by show ¬ (i < 0 ∨ (arrV _ _ _).slots.size ≤ _); rw [arrV_size]; exact hi) rfl (rest := st.map (emb G)) (by show emb G (vI x) :: emb G (vI i) :: emb G (vR a) :: _ = _; rw [show emb G (vR a) = .ref (ra G a) from rfl, ra_of a1]; rfl) hd fun H1 e1 e2 e3 => ?_
  refine k9 G D l p e R s m args below meth c mc ms C H1 _ cells slots lsr ⟨S.1.putA (by decide) hv hT hR ?_ e2 e3, S.2.1, S.2.2.1.put1 e2 e3 (Nat.le_add_right _ _), S.2.2.2⟩
  rw [e1, arrV_store]
  congr 2
  funext j
  unfold updV embA upd
  by_cases ej : j = i.toNatClampNeg
  · simp [ej, vp_nar, narrow]
  · simp [ej]
theorem P_bast {d : Nat} {Y : MR} {Q : PO → PH → Prop} {rc rs pc : Nat} {ls st : List PV} {h : PH} {a : LA} {n : Nat} {f : Nat → Int32} {i : Int32} {x : Int32} (hd : decode Y.2.1 pc = .ok (.bastore, 1)) (hv : h a = pB n f) (hi : vp_in i n) (k9 : PW d Y Q rc rs (pc + 1) ls st (up h a (pB n (upd f i.toNatClampNeg (vp_nar .byte x))))) : PW d Y Q rc rs pc ls (vI x :: vI i :: vR a :: st) h := by
  intro G D l p e R s m args below meth c mc ms C H locs cells slots lsr S
  obtain ⟨a1, a2, cA, hT, hR, hc⟩ := S.1.2.2.2.1 a 1 n _ (by decide) hv
  refine W.bast C.1 C.2.1 hc (hT n _) (fun q => by cases q) (by show ¬ (i < 0 ∨ (arrV _ _ _).slots.size ≤ _); rw [arrV_size]; exact hi) rfl (rest := st.map (emb G)) (by show emb G (vI x) :: emb G (vI i) :: emb G (vR a) :: _ = _; rw [show emb G (vR a) = .ref (ra G a) from rfl, ra_of a1]; rfl) hd fun H1 e1 e2 e3 => ?_
  refine k9 G D l p e R s m args below meth c mc ms C H1 _ cells slots lsr ⟨S.1.putA (by decide) hv hT hR ?_ e2 e3, S.2.1, S.2.2.1.put1 e2 e3 (Nat.le_add_right _ _), S.2.2.2⟩
  rw [e1, arrV_store]
  congr 2
  funext j
  unfold updV embA upd
  by_cases ej : j = i.toNatClampNeg
  · simp [ej, vp_nar, narrow]
  · simp [ej]
theorem P_zast {d : Nat} {Y : MR} {Q : PO → PH → Prop} {rc rs pc : Nat} {ls st : List PV} {h : PH} {a : LA} {n : Nat} {f : Nat → Int32} {i : Int32} {x : Int32} (hd : decode Y.2.1 pc = .ok (.bastore, 1)) (hv : h a = pZ n f) (hi : vp_in i n) (k9 : PW d Y Q rc rs (pc + 1) ls st (up h a (pZ n (upd f i.toNatClampNeg (vp_nar .boolean x))))) : PW d Y Q rc rs pc ls (vI x :: vI i :: vR a :: st) h := by
  intro G D l p e R s m args below meth c mc ms C H locs cells slots lsr S
  obtain ⟨a1, a2, cA, hT, hR, hc⟩ := S.1.2.2.2.1 a 2 n _ (by decide) hv
  refine W.zast C.1 C.2.1 hc (hT n _) (fun q => by cases q) (by show ¬ (i < 0 ∨ (arrV _ _ _).slots.size ≤ _); rw [arrV_size]; exact hi) rfl (rest := st.map (emb G)) (by show emb G (vI x) :: emb G (vI i) :: emb G (vR a) :: _ = _; rw [show emb G (vR a) = .ref (ra G a) from rfl, ra_of a1]; rfl) hd fun H1 e1 e2 e3 => ?_
  refine k9 G D l p e R s m args below meth c mc ms C H1 _ cells slots lsr ⟨S.1.putA (by decide) hv hT hR ?_ e2 e3, S.2.1, S.2.2.1.put1 e2 e3 (Nat.le_add_right _ _), S.2.2.2⟩
  rw [e1, arrV_store]
  congr 2
  funext j
  unfold updV embA upd
  by_cases ej : j = i.toNatClampNeg
  · simp [ej, vp_nar, narrow]
  · simp [ej]
theorem P_last {d : Nat} {Y : MR} {Q : PO → PH → Prop} {rc rs pc : Nat} {ls st : List PV} {h : PH} {a : LA} {n : Nat} {f : Nat → Int64} {i : Int32} {x : Int64} (hd : decode Y.2.1 pc = .ok (.lastore, 1)) (hv : h a = pL n f) (hi : vp_in i n) (k9 : PW d Y Q rc rs (pc + 1) ls st (up h a (pL n (vp_updL f i.toNatClampNeg x)))) : PW d Y Q rc rs pc ls (vL x :: vI i :: vR a :: st) h := by
  intro G D l p e R s m args below meth c mc ms C H locs cells slots lsr S
  obtain ⟨a1, a2, cA, hT, hR, hc⟩ := S.1.2.2.2.1 a 3 n _ (by decide) hv
  refine W.last C.1 C.2.1 hc (hT n _) (fun q => by cases q) (by show ¬ (i < 0 ∨ (arrV _ _ _).slots.size ≤ _); rw [arrV_size]; exact hi) rfl (rest := st.map (emb G)) (by show emb G (vL x) :: emb G (vI i) :: emb G (vR a) :: _ = _; rw [show emb G (vR a) = .ref (ra G a) from rfl, ra_of a1]; rfl) hd fun H1 e1 e2 e3 => ?_
  refine k9 G D l p e R s m args below meth c mc ms C H1 _ cells slots lsr ⟨S.1.putA (by decide) hv hT hR ?_ e2 e3, S.2.1, S.2.2.1.put1 e2 e3 (Nat.le_add_right _ _), S.2.2.2⟩
  rw [e1, arrV_store]
  congr 2
  funext j
  unfold updV embA vp_updL
  by_cases ej : j = i.toNatClampNeg
  · simp [ej, vp_nar, narrow]
  · simp [ej]
theorem P_alen {d : Nat} {Y : MR} {Q : PO → PH → Prop} {rc rs pc : Nat} {ls st : List PV} {h : PH} {a : LA} {kd n : Nat} {g : PA} (hd : decode Y.2.1 pc = .ok (.arraylength, 1)) (hkd : kd < 90) (hv : h a = pA kd n g) (k9 : PW d Y Q rc rs (pc + 1) ls (vI (nI n) :: st) h) : PW d Y Q rc rs pc ls (vR a :: st) h := by
  intro G D l p e R s m args below meth c mc ms C H locs cells slots lsr S
  obtain ⟨a1, a2, cA, hT, hR, hc⟩ := S.1.2.2.2.1 a kd n _ hkd hv
  refine W.alen (n := nI n) C.1 C.2.1 hc (hT n _) ?_ rfl (rest := st.map (emb G)) (by show emb G (vR a) :: _ = _; rw [show emb G (vR a) = .ref (ra G a) from rfl, ra_of a1]) hd (k9 G D l p e R s m args below meth c mc ms C H locs cells slots lsr S)
  show (arrV _ _ _).slots.size.toInt32 = _
  rw [arrV_size]
  rfl
