def newO (h : PH) (ci N id : Nat) (dv : Nat → PV) : PH := fun b => if b.2 = id ∧ 10000 + 100 * ci ≤ b.1 ∧ b.1 < 10000 + 100 * ci + N then pF (dv (b.1 - (10000 + 100 * ci))) else h b
abbrev SZ : LA := (1299, 0)
theorem ent_lt {G : GA} {D : va_G} {h : PH} {s : State} {H : Heap} (r : Rep G D h s H) {a : LA} (ha : ent h a) : G.1 + off a < H.size := by
  obtain ⟨r1, r2, r3, r4, r5, r6, r7⟩ := r
  rcases ha with ⟨ci, k, v, h1, h2, h3⟩ | ⟨kd, n, g, h1, h2⟩
  · obtain ⟨q, -, -, V, -, cell, g4, -⟩ := r3 ci k a.2 v h1 h3
    have := (Array.getElem?_eq_some_iff.mp g4).1
    have e : off a = a.2 := by show a.2 + a.1 % 100 = a.2; omega
    omega
  · obtain ⟨-, -, cA, -, -, g5⟩ := r4 a kd n g h1 h2
    exact (Array.getElem?_eq_some_iff.mp g5).1
theorem Rep_newO {G : GA} {D : va_G} {h : PH} {s : State} {H H1 : Heap} (r : Rep G D h s H) {ci id : Nat} {q : vw_C} {dv : Nat → PV} {g0 : PA} (hN : h SZ = pA 99 id g0) (hq : vwCl[ci]? = some q) (hOB : t_OB (G.1 + id) (D.1 ci) q.2.2 (D.2 ci) H1 (fun j => emb G (dv j))) (z1 : H1.size = H.size + 1) (o1 : ∀ x : Nat, x < H.size → H1[x]? = H[x]?) : Rep G D (up (newO h ci q.2.2 id dv) SZ (pA 99 (id + 1) g0)) s H1 := by
  have hlt := fun a ha => ent_lt r (a := a) ha
  obtain ⟨r1, r2, r3, r4, r5, r6, r7⟩ := r
  have hsz : H.size = G.1 + id := (r6 _ _ _ hN).2
  have hci : ci < 11 := (List.getElem?_eq_some_iff.mp hq).1
  have hq1 := vwCl_100 ci q hq
  have F1 : ∀ b : LA, ¬ (b.2 = id ∧ 10000 + 100 * ci ≤ b.1 ∧ b.1 < 10000 + 100 * ci + q.2.2) → b ≠ SZ → up (newO h ci q.2.2 id dv) SZ (pA 99 (id + 1) g0) b = h b := by
    intro b hb hb2
    rw [up_ne _ _ hb2]
    exact if_neg hb
  have F2 : ∀ j, j < q.2.2 → up (newO h ci q.2.2 id dv) SZ (pA 99 (id + 1) g0) (10000 + 100 * ci + j, id) = pF (dv j) := by
    intro j hj
    rw [up_ne _ _ (by intro e; simp only [SZ, Prod.mk.injEq] at e; omega)]
    refine (if_pos ⟨rfl, by show 10000 + 100 * ci ≤ 10000 + 100 * ci + j; omega, by show 10000 + 100 * ci + j < _; omega⟩).trans ?_
    show pF (dv (10000 + 100 * ci + j - (10000 + 100 * ci))) = _
    rw [Nat.add_sub_cancel_left]
  have hkey : ∀ b : LA, 10000 ≤ b.1 → b ≠ SZ := by
    intro b hb e
    rw [e] at hb
    exact absurd hb (by decide)
  have hent : ∀ a, ent (up (newO h ci q.2.2 id dv) SZ (pA 99 (id + 1) g0)) a → ent h a ∨ a = (100 * ci, id) := by
    rintro a (⟨ci', k', v', g1, g2, g3⟩ | ⟨kd, n, g, g1, g2⟩)
    · by_cases e : a.2 = id ∧ 10000 + 100 * ci ≤ 10000 + 100 * ci' + k' ∧ 10000 + 100 * ci' + k' < 10000 + 100 * ci + q.2.2
      · right
        obtain ⟨a1, a2⟩ := a
        simp only at g2 e ⊢
        have : ci' = ci := by omega
        rw [g2, e.1, this]
      · rw [F1 _ e (hkey _ (by show 10000 ≤ 10000 + 100 * ci' + k'; omega))] at g3
        exact Or.inl (Or.inl ⟨ci', k', v', g1, g2, g3⟩)
    · by_cases e2 : a = SZ
      · rw [e2, up_eq] at g2
        cases g2
        omega
      · by_cases e : a.2 = id ∧ 10000 + 100 * ci ≤ a.1 ∧ a.1 < 10000 + 100 * ci + q.2.2
        · rw [up_ne _ _ e2] at g2
          have g4 : (newO h ci q.2.2 id dv) a = pF (dv (a.1 - (10000 + 100 * ci))) := if_pos e
          rw [g4] at g2
          cases g2
        · rw [F1 _ e e2] at g2
          exact Or.inl (Or.inr ⟨kd, n, g, g1, g2⟩)
  have off0 : off ((100 * ci, id) : LA) = id := by show id + 100 * ci % 100 = id; omega
  refine ⟨by omega, r2, ?_, ?_, ?_, ?_, ?_⟩
  · intro ci' k' id' v' hk' hv'
    by_cases e : ci' = ci ∧ id' = id
    · obtain ⟨rfl, rfl⟩ := e
      by_cases hj : k' < q.2.2
      · exact ⟨q, hq, hj, dv, F2, hOB⟩
      · exfalso
        rw [F1 _ (by intro e; exact hj (by have := e.2.2; simp only at this; omega)) (hkey _ (by show 10000 ≤ 10000 + 100 * ci' + k'; omega))] at hv'
        have := hlt (100 * ci', id') (Or.inl ⟨ci', k', v', hk', rfl, hv'⟩)
        rw [off0, hsz] at this
        omega
    · have hc : ∀ j, j < 100 → up (newO h ci q.2.2 id dv) SZ (pA 99 (id + 1) g0) (10000 + 100 * ci' + j, id') = h (10000 + 100 * ci' + j, id') := by
        intro j hj
        refine F1 _ ?_ (hkey _ (by show 10000 ≤ 10000 + 100 * ci' + j; omega))
        rintro ⟨e1, e2, e3⟩
        simp only at e1 e2 e3
        exact e ⟨by omega, e1⟩
      rw [hc k' hk'] at hv'
      obtain ⟨q', g1, g2, V, g3, g4⟩ := r3 ci' k' id' v' hk' hv'
      have hb := vwCl_100 ci' q' g1
      refine ⟨q', g1, g2, V, fun j hj => ?_, g4.kept (o1 _ ?_)⟩
      · rw [hc j (by omega)]
        exact g3 j hj
      · obtain ⟨cell, g5, -⟩ := g4
        exact (Array.getElem?_eq_some_iff.mp g5).1
  · intro a kd n g hkd ha
    have e2 : a ≠ SZ := by
      intro e
      rw [e, up_eq] at ha
      cases ha
      omega
    have e1 : ¬ (a.2 = id ∧ 10000 + 100 * ci ≤ a.1 ∧ a.1 < 10000 + 100 * ci + q.2.2) := by
      intro e
      rw [up_ne _ _ e2] at ha
      have g4 : (newO h ci q.2.2 id dv) a = pF (dv (a.1 - (10000 + 100 * ci))) := if_pos e
      rw [g4] at ha
      cases ha
    rw [F1 _ e1 e2] at ha
    obtain ⟨g1, g2, cA, g3, g4, g5⟩ := r4 a kd n g hkd ha
    exact ⟨g1, g2, cA, g3, g4, by rw [o1 _ (Array.getElem?_eq_some_iff.mp g5).1]; exact g5⟩
  · intro a n g ha
    have e2 : a ≠ SZ := by
      intro e
      rw [e, up_eq] at ha
      cases ha
    have e1 : ¬ (a.2 = id ∧ 10000 + 100 * ci ≤ a.1 ∧ a.1 < 10000 + 100 * ci + q.2.2) := by
      intro e
      rw [up_ne _ _ e2] at ha
      have g4 : (newO h ci q.2.2 id dv) a = pF (dv (a.1 - (10000 + 100 * ci))) := if_pos e
      rw [g4] at ha
      cases ha
    rw [F1 _ e1 e2] at ha
    obtain ⟨g1, f, g2, scr, g3, g4⟩ := r5 a n g ha
    exact ⟨g1, f, g2, scr, by rw [o1 _ (Array.getElem?_eq_some_iff.mp g3).1]; exact g3, g4⟩
  · intro a n g ha
    by_cases e2 : a = SZ
    · rw [e2, up_eq] at ha
      cases ha
      exact ⟨e2, by omega⟩
    · have e1 : ¬ (a.2 = id ∧ 10000 + 100 * ci ≤ a.1 ∧ a.1 < 10000 + 100 * ci + q.2.2) := by
        intro e
        rw [up_ne _ _ e2] at ha
        have g4 : (newO h ci q.2.2 id dv) a = pF (dv (a.1 - (10000 + 100 * ci))) := if_pos e
        rw [g4] at ha
        cases ha
      rw [F1 _ e1 e2] at ha
      exact absurd (r6 a n g ha).1 e2
  · intro a b ha hb he
    rcases hent a ha with ha1 | ha1 <;> rcases hent b hb with hb1 | hb1
    · exact r7 a b ha1 hb1 he
    · have := hlt a ha1
      rw [hb1, off0] at he
      omega
    · have := hlt b hb1
      rw [ha1, off0] at he
      omega
    · rw [ha1, hb1]
theorem Rep_newA {G : GA} {D : va_G} {h : PH} {s : State} {H H1 : Heap} (r : Rep G D h s H) {a0 : LA} {kd n n0 : Nat} {g g0 : PA} {cA : ClassId} (hN : h SZ = pA 99 n0 g0) (ht : a0.1 < 1200) (ht2 : a0.1 % 100 ≠ 0) (hoff : off a0 = n0) (hkd : kd < 90) (hT : ArrOfT s cA (tyK kd)) (hR : va_RA s cA (tyK kd)) (e1 : H1[H.size]? = some (arrV cA n (embA G g))) (z1 : H1.size = H.size + 1) (o1 : ∀ x : Nat, x < H.size → H1[x]? = H[x]?) : Rep G D (up (up h a0 (pA kd n g)) SZ (pA 99 (n0 + 1) g0)) s H1 := by
  have hlt := fun a ha => ent_lt r (a := a) ha
  obtain ⟨r1, r2, r3, r4, r5, r6, r7⟩ := r
  have hsz : H.size = G.1 + n0 := (r6 _ _ _ hN).2
  have hne0 : a0 ≠ SZ := by
    intro e
    rw [e] at ht
    exact absurd ht (by decide)
  have F1 : ∀ b : LA, b ≠ a0 → b ≠ SZ → up (up h a0 (pA kd n g)) SZ (pA 99 (n0 + 1) g0) b = h b := fun b hb hb2 => by rw [up_ne _ _ hb2, up_ne _ _ hb]
  have F2 : up (up h a0 (pA kd n g)) SZ (pA 99 (n0 + 1) g0) a0 = pA kd n g := by rw [up_ne _ _ hne0, up_eq]
  have hkey : ∀ b : LA, 10000 ≤ b.1 → b ≠ SZ ∧ b ≠ a0 := by
    intro b hb
    refine ⟨fun e => ?_, fun e => ?_⟩
    · rw [e] at hb
      exact absurd hb (by decide)
    · rw [e] at hb
      omega
  have hent : ∀ a, ent (up (up h a0 (pA kd n g)) SZ (pA 99 (n0 + 1) g0)) a → ent h a ∨ a = a0 := by
    rintro a (⟨ci', k', v', g1, g2, g3⟩ | ⟨kd', n', g', g1, g2⟩)
    · have := hkey (10000 + 100 * ci' + k', a.2) (by show 10000 ≤ 10000 + 100 * ci' + k'; omega)
      rw [F1 _ this.2 this.1] at g3
      exact Or.inl (Or.inl ⟨ci', k', v', g1, g2, g3⟩)
    · by_cases e2 : a = SZ
      · rw [e2, up_eq] at g2
        cases g2
        omega
      · by_cases e : a = a0
        · exact Or.inr e
        · rw [F1 _ e e2] at g2
          exact Or.inl (Or.inr ⟨kd', n', g', g1, g2⟩)
  refine ⟨by omega, r2, ?_, ?_, ?_, ?_, ?_⟩
  · intro ci k id v hk hv
    have hc : ∀ j, up (up h a0 (pA kd n g)) SZ (pA 99 (n0 + 1) g0) (10000 + 100 * ci + j, id) = h (10000 + 100 * ci + j, id) := by
      intro j
      have := hkey (10000 + 100 * ci + j, id) (by show 10000 ≤ 10000 + 100 * ci + j; omega)
      exact F1 _ this.2 this.1
    rw [hc k] at hv
    obtain ⟨q, g1, g2, V, g3, cell, g4, g5⟩ := r3 ci k id v hk hv
    exact ⟨q, g1, g2, V, fun j hj => by rw [hc j]; exact g3 j hj, cell, by rw [o1 _ (Array.getElem?_eq_some_iff.mp g4).1]; exact g4, g5⟩
  · intro a kd' n' g' hkd' ha
    by_cases e : a = a0
    · subst e
      rw [F2] at ha
      cases ha
      exact ⟨ht, ht2, cA, hT, hR, by rw [hoff, ← hsz]; exact e1⟩
    · have e2 : a ≠ SZ := by
        intro e
        rw [e, up_eq] at ha
        cases ha
        omega
      rw [F1 _ e e2] at ha
      obtain ⟨g1, g2, cB, g3, g4, g5⟩ := r4 a kd' n' g' hkd' ha
      exact ⟨g1, g2, cB, g3, g4, by rw [o1 _ (Array.getElem?_eq_some_iff.mp g5).1]; exact g5⟩
  · intro a n' g' ha
    have e2 : a ≠ SZ := by
      intro e
      rw [e, up_eq] at ha
      cases ha
    have e : a ≠ a0 := by
      intro e
      rw [e, F2] at ha
      cases ha
      omega
    rw [F1 _ e e2] at ha
    obtain ⟨g1, f, g2, scr, g3, g4⟩ := r5 a n' g' ha
    exact ⟨g1, f, g2, scr, by rw [o1 _ (Array.getElem?_eq_some_iff.mp g3).1]; exact g3, g4⟩
  · intro a n' g' ha
    by_cases e2 : a = SZ
    · rw [e2, up_eq] at ha
      cases ha
      exact ⟨e2, by omega⟩
    · have e : a ≠ a0 := by
        intro e
        rw [e, F2] at ha
        cases ha
        omega
      rw [F1 _ e e2] at ha
      exact absurd (r6 a n' g' ha).1 e2
  · intro a b ha hb he
    rcases hent a ha with ha1 | ha1 <;> rcases hent b hb with hb1 | hb1
    · exact r7 a b ha1 hb1 he
    · have := hlt a ha1
      rw [hb1, hoff] at he
      omega
    · have := hlt b hb1
      rw [ha1, hoff] at he
      omega
    · rw [ha1, hb1]
theorem P_new {d : Nat} {Y : MR} {Q : PO → PH → Prop} {rc rs pc : Nat} {ls st : List PV} {h : PH} {ci id idx : Nat} {q : vw_C} {dv : Nat → PV} {g0 : PA} {ty : Nat → FieldType} (hd : decode Y.2.1 pc = .ok (.new idx, 3)) (hc : vwCl[ci]? = some q) (hcl : Cond.classLink Y.1.cls idx q.1 ∈ TB) (hins : Cond.instantiable q.1 q.2.2 ∈ TB) (hini : Cond.initialized q.1 ∈ TB) (hin : ∀ w ∈ u_ws q.1 q.2.1 q.2.2, w ∈ TB) (hty : ∀ k, k < q.2.2 → parseFieldDescriptor (q.2.1 k).2.2.1 = some (ty k)) (hdv : ∀ (G : GA) (j : Nat), j < q.2.2 → defaultValue (ty j) = emb G (dv j)) (hN : h SZ = pA 99 id g0)
    (k : PW d Y Q rc rs (pc + 3) ls (vR (100 * ci, id) :: st) (up (newO h ci q.2.2 id dv) SZ (pA 99 (id + 1) g0))) : PW d Y Q (1 + rc) (q.2.2 + rs) pc ls st h := by
  intro G D l p e R s m args below meth c mc ms C H locs cells slots lsr S
  have hts := C.2.2.2.2.2.2.1
  obtain ⟨f1, f2, f3, f4⟩ := C.2.2.2.2.2.2.2.2.2.2.2
  have b1 := S.2.2.2.1
  have b2 := S.2.2.2.2
  have hKn := C.2.2.2.2.2.2.2.1.1.1 ci _ hc
  have hsz : H.size = G.1 + id := (S.1.2.2.2.2.2.1 _ _ _ hN).2
  have hci : ci < 11 := (List.getElem?_eq_some_iff.mp hc).1
  refine W.newcK C.1 C.2.1 C.2.2.2.2.2.1 (hts _ hcl) (hts _ hins) (hts _ hini) rfl hd (by omega) (by omega) hKn.2.1 rfl fun H1 kC hkC e1 z1 o1 => ?_
  have hR := Rep_newO S.1 (dv := dv) hN hc (by rw [← hsz]; exact (u_born ty hts hin hKn hkC e1 hty).to (fun j hj => hdv G j hj)) z1 o1
  have hra : ra G (100 * ci, id) = H.size := by
    rw [ra_of (by show 100 * ci < 1200; omega), hsz]
    show G.1 + (id + 100 * ci % 100) = _
    omega
  have := k G D l p e R s m args below meth c mc ms C H1 locs (cells + 1) (slots + q.2.2) lsr ⟨hR, S.2.1, ⟨Nat.le_trans S.2.2.1.1 (by omega), fun x h1 h2 => (o1 x (Nat.lt_of_lt_of_le h1 S.2.2.1.1)).trans (S.2.2.1.2.1 x h1 h2), S.2.2.1.2.2⟩, by omega, by omega⟩
  rw [show ((vR (100 * ci, id) :: st).map (emb G)) = .ref (ra G (100 * ci, id)) :: st.map (emb G) from rfl, hra] at this
  exact this
theorem P_newaI {d : Nat} {Y : MR} {Q : PO → PH → Prop} {rc rs pc : Nat} {ls st : List PV} {h : PH} {a0 : LA} {n n0 : Nat} {x : Int32} {g0 : PA} (hd : decode Y.2.1 pc = .ok (.newarray .int, 2)) (harr : Cond.arrayClass .int ∈ TB) (hx : x = nI n) (hn : n ≤ 10000) (hN : h SZ = pA 99 n0 g0) (ht : a0.1 < 1200) (ht2 : a0.1 % 100 ≠ 0) (hoff : off a0 = n0)
    (k : PW d Y Q rc rs (pc + 2) ls (vR a0 :: st) (up (up h a0 (pA 0 n (.inl (fun _ => 0)))) SZ (pA 99 (n0 + 1) g0))) : PW d Y Q (1 + rc) (n + rs) pc ls (vI x :: st) h := by
  intro G D l p e R s m args below meth c mc ms C H locs cells slots lsr S
  have hts := C.2.2.2.2.2.2.1
  obtain ⟨f1, f2, f3, f4⟩ := C.2.2.2.2.2.2.2.2.2.2.2
  have b1 := S.2.2.2.1
  have b2 := S.2.2.2.2
  have hsz : H.size = G.1 + n0 := (S.1.2.2.2.2.2.1 _ _ _ hN).2
  subst hx
  refine va_newaK (atype := .int) C.1 C.2.1 (hts _ harr) (g := F0 m pc lsr ((vI (nI n) :: st).map (emb G))) rfl hd (N := n) (rest := st.map (emb G)) rfl (nI_pos (by omega)) (nI_clamp (by omega)) (by show n * _ ≤ _; simp only [newarray.typeOf, componentBytes]; omega) (by omega) (by omega) rfl fun H1 cA e1 z1 o1 hAr hNm => ?_
  have hR := Rep_newA S.1 (a0 := a0) (kd := 0) (n := n) (g := .inl (fun _ => 0)) hN ht ht2 hoff (by decide) hAr hNm e1 z1 o1
  have hra : ra G a0 = H.size := by rw [ra_of ht, hoff, hsz]
  have := k G D l p e R s m args below meth c mc ms C H1 locs (cells + 1) (slots + n) lsr ⟨hR, S.2.1, ⟨Nat.le_trans S.2.2.1.1 (by omega), fun x h1 h2 => (o1 x (Nat.lt_of_lt_of_le h1 S.2.2.1.1)).trans (S.2.2.1.2.1 x h1 h2), S.2.2.1.2.2⟩, by omega, by omega⟩
  rw [show ((vR a0 :: st).map (emb G)) = .ref (ra G a0) :: st.map (emb G) from rfl, hra] at this
  exact this
theorem P_newaB {d : Nat} {Y : MR} {Q : PO → PH → Prop} {rc rs pc : Nat} {ls st : List PV} {h : PH} {a0 : LA} {n n0 : Nat} {x : Int32} {g0 : PA} (hd : decode Y.2.1 pc = .ok (.newarray .byte, 2)) (harr : Cond.arrayClass .byte ∈ TB) (hx : x = nI n) (hn : n ≤ 10000) (hN : h SZ = pA 99 n0 g0) (ht : a0.1 < 1200) (ht2 : a0.1 % 100 ≠ 0) (hoff : off a0 = n0)
    (k : PW d Y Q rc rs (pc + 2) ls (vR a0 :: st) (up (up h a0 (pA 1 n (.inl (fun _ => 0)))) SZ (pA 99 (n0 + 1) g0))) : PW d Y Q (1 + rc) (n + rs) pc ls (vI x :: st) h := by
  intro G D l p e R s m args below meth c mc ms C H locs cells slots lsr S
  have hts := C.2.2.2.2.2.2.1
  obtain ⟨f1, f2, f3, f4⟩ := C.2.2.2.2.2.2.2.2.2.2.2
  have b1 := S.2.2.2.1
  have b2 := S.2.2.2.2
  have hsz : H.size = G.1 + n0 := (S.1.2.2.2.2.2.1 _ _ _ hN).2
  subst hx
  refine va_newaK (atype := .byte) C.1 C.2.1 (hts _ harr) (g := F0 m pc lsr ((vI (nI n) :: st).map (emb G))) rfl hd (N := n) (rest := st.map (emb G)) rfl (nI_pos (by omega)) (nI_clamp (by omega)) (by show n * _ ≤ _; simp only [newarray.typeOf, componentBytes]; omega) (by omega) (by omega) rfl fun H1 cA e1 z1 o1 hAr hNm => ?_
  have hR := Rep_newA S.1 (a0 := a0) (kd := 1) (n := n) (g := .inl (fun _ => 0)) hN ht ht2 hoff (by decide) hAr hNm e1 z1 o1
  have hra : ra G a0 = H.size := by rw [ra_of ht, hoff, hsz]
  have := k G D l p e R s m args below meth c mc ms C H1 locs (cells + 1) (slots + n) lsr ⟨hR, S.2.1, ⟨Nat.le_trans S.2.2.1.1 (by omega), fun x h1 h2 => (o1 x (Nat.lt_of_lt_of_le h1 S.2.2.1.1)).trans (S.2.2.1.2.1 x h1 h2), S.2.2.1.2.2⟩, by omega, by omega⟩
  rw [show ((vR a0 :: st).map (emb G)) = .ref (ra G a0) :: st.map (emb G) from rfl, hra] at this
  exact this
theorem P_newaZ {d : Nat} {Y : MR} {Q : PO → PH → Prop} {rc rs pc : Nat} {ls st : List PV} {h : PH} {a0 : LA} {n n0 : Nat} {x : Int32} {g0 : PA} (hd : decode Y.2.1 pc = .ok (.newarray .boolean, 2)) (harr : Cond.arrayClass .boolean ∈ TB) (hx : x = nI n) (hn : n ≤ 10000) (hN : h SZ = pA 99 n0 g0) (ht : a0.1 < 1200) (ht2 : a0.1 % 100 ≠ 0) (hoff : off a0 = n0)
    (k : PW d Y Q rc rs (pc + 2) ls (vR a0 :: st) (up (up h a0 (pA 2 n (.inl (fun _ => 0)))) SZ (pA 99 (n0 + 1) g0))) : PW d Y Q (1 + rc) (n + rs) pc ls (vI x :: st) h := by
  intro G D l p e R s m args below meth c mc ms C H locs cells slots lsr S
  have hts := C.2.2.2.2.2.2.1
  obtain ⟨f1, f2, f3, f4⟩ := C.2.2.2.2.2.2.2.2.2.2.2
  have b1 := S.2.2.2.1
  have b2 := S.2.2.2.2
  have hsz : H.size = G.1 + n0 := (S.1.2.2.2.2.2.1 _ _ _ hN).2
  subst hx
  refine va_newaK (atype := .boolean) C.1 C.2.1 (hts _ harr) (g := F0 m pc lsr ((vI (nI n) :: st).map (emb G))) rfl hd (N := n) (rest := st.map (emb G)) rfl (nI_pos (by omega)) (nI_clamp (by omega)) (by show n * _ ≤ _; simp only [newarray.typeOf, componentBytes]; omega) (by omega) (by omega) rfl fun H1 cA e1 z1 o1 hAr hNm => ?_
  have hR := Rep_newA S.1 (a0 := a0) (kd := 2) (n := n) (g := .inl (fun _ => 0)) hN ht ht2 hoff (by decide) hAr hNm e1 z1 o1
  have hra : ra G a0 = H.size := by rw [ra_of ht, hoff, hsz]
  have := k G D l p e R s m args below meth c mc ms C H1 locs (cells + 1) (slots + n) lsr ⟨hR, S.2.1, ⟨Nat.le_trans S.2.2.1.1 (by omega), fun x h1 h2 => (o1 x (Nat.lt_of_lt_of_le h1 S.2.2.1.1)).trans (S.2.2.1.2.1 x h1 h2), S.2.2.1.2.2⟩, by omega, by omega⟩
  rw [show ((vR a0 :: st).map (emb G)) = .ref (ra G a0) :: st.map (emb G) from rfl, hra] at this
  exact this
theorem P_newaL {d : Nat} {Y : MR} {Q : PO → PH → Prop} {rc rs pc : Nat} {ls st : List PV} {h : PH} {a0 : LA} {n n0 : Nat} {x : Int32} {g0 : PA} (hd : decode Y.2.1 pc = .ok (.newarray .long, 2)) (harr : Cond.arrayClass .long ∈ TB) (hx : x = nI n) (hn : n ≤ 10000) (hN : h SZ = pA 99 n0 g0) (ht : a0.1 < 1200) (ht2 : a0.1 % 100 ≠ 0) (hoff : off a0 = n0)
    (k : PW d Y Q rc rs (pc + 2) ls (vR a0 :: st) (up (up h a0 (pA 3 n (.inr (.inl (fun _ => 0))))) SZ (pA 99 (n0 + 1) g0))) : PW d Y Q (1 + rc) (n + rs) pc ls (vI x :: st) h := by
  intro G D l p e R s m args below meth c mc ms C H locs cells slots lsr S
  have hts := C.2.2.2.2.2.2.1
  obtain ⟨f1, f2, f3, f4⟩ := C.2.2.2.2.2.2.2.2.2.2.2
  have b1 := S.2.2.2.1
  have b2 := S.2.2.2.2
  have hsz : H.size = G.1 + n0 := (S.1.2.2.2.2.2.1 _ _ _ hN).2
  subst hx
  refine va_newaK (atype := .long) C.1 C.2.1 (hts _ harr) (g := F0 m pc lsr ((vI (nI n) :: st).map (emb G))) rfl hd (N := n) (rest := st.map (emb G)) rfl (nI_pos (by omega)) (nI_clamp (by omega)) (by show n * _ ≤ _; simp only [newarray.typeOf, componentBytes]; omega) (by omega) (by omega) rfl fun H1 cA e1 z1 o1 hAr hNm => ?_
  have hR := Rep_newA S.1 (a0 := a0) (kd := 3) (n := n) (g := .inr (.inl (fun _ => 0))) hN ht ht2 hoff (by decide) hAr hNm e1 z1 o1
  have hra : ra G a0 = H.size := by rw [ra_of ht, hoff, hsz]
  have := k G D l p e R s m args below meth c mc ms C H1 locs (cells + 1) (slots + n) lsr ⟨hR, S.2.1, ⟨Nat.le_trans S.2.2.1.1 (by omega), fun x h1 h2 => (o1 x (Nat.lt_of_lt_of_le h1 S.2.2.1.1)).trans (S.2.2.1.2.1 x h1 h2), S.2.2.1.2.2⟩, by omega, by omega⟩
  rw [show ((vR a0 :: st).map (emb G)) = .ref (ra G a0) :: st.map (emb G) from rfl, hra] at this
  exact this
theorem P_anew {d : Nat} {Y : MR} {Q : PO → PH → Prop} {rc rs pc : Nat} {ls st : List PV} {h : PH} {a0 : LA} {kd n n0 idx : Nat} {x : Int32} {g0 : PA} {cn : String} (hd : decode Y.2.1 pc = .ok (.anewarray idx, 3)) (hkd : kd < 90) (hty : tyK kd = .object cn) (hcl : Cond.classLink Y.1.cls idx cn ∈ TB) (hov : Cond.arrayOver (.object cn) ∈ NB) (hx : x = nI n) (hn : n ≤ 10000) (hN : h SZ = pA 99 n0 g0) (ht : a0.1 < 1200) (ht2 : a0.1 % 100 ≠ 0) (hoff : off a0 = n0)
    (k : PW d Y Q rc rs (pc + 3) ls (vR a0 :: st) (up (up h a0 (pA kd n (.inr (.inr (fun _ => none))))) SZ (pA 99 (n0 + 1) g0))) : PW d Y Q (1 + rc) (n + rs) pc ls (vI x :: st) h := by
  intro G D l p e R s m args below meth c mc ms C H locs cells slots lsr S
  have hts := C.2.2.2.2.2.2.1
  obtain ⟨f1, f2, f3, f4⟩ := C.2.2.2.2.2.2.2.2.2.2.2
  have b1 := S.2.2.2.1
  have b2 := S.2.2.2.2
  have hsz : H.size = G.1 + n0 := (S.1.2.2.2.2.2.1 _ _ _ hN).2
  subst hx
  have hcn : (nI n).toNatClampNeg = n := nI_clamp (by omega)
  refine W.anew C.1 C.2.1 C.2.2.2.2.2.1 (hts _ hcl) (isN_use (List.mem_filter.mp hov).2 (C.2.2.2.2.2.2.2.1.2.2.2.2.2.2.2.1 _ hov)) (g := F0 m pc lsr ((vI (nI n) :: st).map (emb G))) rfl hd (rest := st.map (emb G)) rfl (nI_pos (by omega)) (by rw [hcn]; omega) (by omega) (by rw [hcn]; omega) fun cA kA comp g1 g2 g3 g4 => ?_
  rw [hcn]
  have hAr : ArrOfT s cA (tyK kd) := by rw [hty]; exact fun n z => ⟨fun k h => (by cases h), kA, g2, comp, g3⟩
  have hRA : va_RA s cA (tyK kd) := by rw [hty]; exact ⟨kA, comp, g2, g3, g4, g1⟩
  have e1 : (H.push ({ cls := cA, slots := Array.replicate n .null, vm := .none } : Cell))[H.size]? = some (arrV cA n (embA G (.inr (.inr (fun _ => none))))) := by
    rw [Array.getElem?_push_size, arrV_new]
    rfl
  have o1 : ∀ x : Nat, x < H.size → (H.push ({ cls := cA, slots := Array.replicate n .null, vm := .none } : Cell))[x]? = H[x]? := fun x hx => by rw [Array.getElem?_push, if_neg (Nat.ne_of_lt hx)]
  have z1 : (H.push ({ cls := cA, slots := Array.replicate n .null, vm := .none } : Cell)).size = H.size + 1 := by rw [Array.size_push]
  have hR := Rep_newA S.1 (a0 := a0) (kd := kd) (n := n) hN ht ht2 hoff hkd hAr hRA e1 z1 o1
  have hra : ra G a0 = H.size := by rw [ra_of ht, hoff, hsz]
  have := k G D l p e R s m args below meth c mc ms C _ locs (cells + 1) (slots + n) lsr ⟨hR, S.2.1, ⟨Nat.le_trans S.2.2.1.1 (by omega), fun x h1 h2 => (o1 x (Nat.lt_of_lt_of_le h1 S.2.2.1.1)).trans (S.2.2.1.2.1 x h1 h2), S.2.2.1.2.2⟩, by omega, by omega⟩
  rw [show ((vR a0 :: st).map (emb G)) = .ref (ra G a0) :: st.map (emb G) from rfl, hra] at this
  exact this
theorem P_aast {d : Nat} {Y : MR} {Q : PO → PH → Prop} {rc rs pc : Nat} {ls st : List PV} {h : PH} {a : LA} {kd n ci k0 id : Nat} {q : vw_C} {f : Nat → Option LA} {i : Int32} {v0 : PV} (hd : decode Y.2.1 pc = .ok (.aastore, 1)) (hkd : kd < 90) (hci : vwCl[ci]? = some q) (hty : tyK kd = .object q.1) (hv : h a = pQ kd n f) (hi : vp_in i n) (hk : k0 < 100) (ho : h (10000 + 100 * ci + k0, id) = pF v0) (k9 : PW d Y Q rc rs (pc + 1) ls st (up h a (pQ kd n (va_up f i.toNatClampNeg (some (100 * ci, id)))))) : PW d Y Q rc rs pc ls (vR (100 * ci, id) :: vI i :: vR a :: st) h := by
  intro G D l p e R s m args below meth c mc ms C H locs cells slots lsr S
  obtain ⟨a1, a2, cA, hT, hR, hc⟩ := S.1.2.2.2.1 a kd n _ hkd hv
  have hR0 := hR
  rw [hty] at hR
  obtain ⟨kA, comp, k1, k2, k3, -⟩ := hR
  have hlt : i.toNatClampNeg < n := Nat.not_le.mp fun q => hi (Or.inr q)
  have h0 : ¬ i < 0 := fun q => hi (Or.inl q)
  have hra := ra_obj (G := G) (D := D) S.1.2.2.1 hk ho
  obtain ⟨q9, g1, g2, V, g3, cellV, g4, g5, g6, -⟩ := S.1.2.2.1 ci k0 id v0 hk ho
  rw [hci] at g1
  cases g1
  have hcls := (C.2.2.2.2.2.2.2.1.1.1 ci q hci).2
  have hcomp : comp = D.1 ci := Option.some.inj (k3.symm.trans hcls.1)
  subst hcomp
  obtain ⟨kC, hkC, -⟩ := hcls.2
  refine W.aast (a := G.1 + off a) C.1 C.2.1 hc (fun q h => by cases h) (fun h => by cases h) k1 k2 rfl hkC ⟨h0, by show _ < (arrV _ _ _).slots.size; rw [arrV_size]; exact hlt⟩ g4 (fun q h => by rw [g6] at h; cases h) (by rw [g5]; exact hkC) (by rw [g5]; exact va_assign hcls) rfl (rest := st.map (emb G)) (by show emb G (vR (100 * ci, id)) :: emb G (vI i) :: emb G (vR a) :: _ = _; rw [show emb G (vR a) = .ref (ra G a) from rfl, ra_of a1, show emb G (vR (100 * ci, id)) = .ref (ra G (100 * ci, id)) from rfl, hra]; rfl) hd fun H1 e1 e2 e3 => ?_
  refine k9 G D l p e R s m args below meth c mc ms C H1 _ cells slots lsr ⟨S.1.putA hkd hv hT hR0 ?_ e2 e3, S.2.1, S.2.2.1.put1 e2 e3 (Nat.le_add_right _ _), S.2.2.2⟩
  rw [e1, arrV_store]
  congr 2
  funext j
  unfold updV embA va_up
  by_cases ej : j = i.toNatClampNeg
  · simp only [ej, if_true]
    show Value.ref (G.1 + id) = .ref (ra G (100 * ci, id))
    rw [hra]
  · simp [ej]
-- the script
theorem P_slen {d : Nat} {Y : MR} {Q : PO → PH → Prop} {rc rs pc : Nat} {ls st : List PV} {h : PH} {n : Nat} {g : PA} (hd : decode Y.2.1 pc = .ok (.arraylength, 1)) (hv : h (1201, 0) = pA 98 n g) (k9 : PW d Y Q rc rs (pc + 1) ls (vI (nI n) :: st) h) : PW d Y Q rc rs pc ls (vR (1201, 0) :: st) h := by
  intro G D l p e R s m args below meth c mc ms C H locs cells slots lsr S
  obtain ⟨-, f, rfl, scr, h1, h2, h3, h4, h5⟩ := S.1.2.2.2.2.1 _ n g hv
  refine W.alen (n := nI n) C.1 C.2.1 h1 h2 ?_ rfl (rest := st.map (emb G)) rfl hd (k9 G D l p e R s m args below meth c mc ms C H locs cells slots lsr S)
  rw [h4]
  rfl
theorem P_sld {d : Nat} {Y : MR} {Q : PO → PH → Prop} {rc rs pc : Nat} {ls st : List PV} {h : PH} {n : Nat} {f : Nat → Int32} {i : Int32} (hd : decode Y.2.1 pc = .ok (.iaload, 1)) (hv : h (1201, 0) = pA 98 n (.inl f)) (hi : vp_in i n) (k9 : PW d Y Q rc rs (pc + 1) ls (vI (f i.toNatClampNeg) :: st) h) : PW d Y Q rc rs pc ls (vI i :: vR (1201, 0) :: st) h := by
  intro G D l p e R s m args below meth c mc ms C H locs cells slots lsr S
  obtain ⟨-, f9, e9, scr, h1, h2, h3, h4, h5⟩ := S.1.2.2.2.2.1 _ n _ hv
  cases e9
  have hlt : i.toNatClampNeg < n := Nat.not_le.mp fun q => hi (Or.inr q)
  exact W.iald (v := emb G (vI (f i.toNatClampNeg))) C.1 C.2.1 h1 h2 h3 (by rw [h4]; exact hi) (h5 _ hlt) rfl (rest := st.map (emb G)) rfl hd (k9 G D l p e R s m args below meth c mc ms C H locs cells slots lsr S)
theorem P_ldcwS {d : Nat} {Y : MR} {Q : PO → PH → Prop} {rc rs pc : Nat} {ls st : List PV} {h : PH} {idx i : Nat} {tx : String} (hd : decode Y.2.1 pc = .ok (.ldc_w idx, 3)) (hl : (Y.1.cls, (idx, (tx, i))) ∈ sTab) (k : PW d Y Q rc rs (pc + 3) ls (vR (1200, i) :: st) h) : PW d Y Q rc rs pc ls st h := by
  intro G D l p e R s m args below meth c mc ms C H locs cells slots lsr S
  have hZ := C.2.2.2.2.2.2.2.1.2.2.1 _ hl
  intro T hT X
  obtain ⟨t, a1, b1⟩ := k G D l p e R s m args below meth c mc ms C H locs cells slots lsr S T hT X
  exact ⟨t, X.ldcStringW C.1 C.2.2.2.2.2.1 (text := tx) (a := G.2.1 i) hZ.1 hZ.2 (g := F0 m pc lsr (st.map (emb G))) rfl (by rw [C.2.1]; exact hd) t a1, b1⟩
-- strings
theorem P_getSv {d : Nat} {Y : MR} {Q : PO → PH → Prop} {rc rs pc : Nat} {ls st : List PV} {h : PH} {i idx : Nat} (hd : decode Y.2.1 pc = .ok (.getfield idx, 3)) (hi : i < 21) (hl : Cond.fieldLink Y.1.cls idx "java/lang/String" "value" "[B" ∈ TB) (k : PW d Y Q rc rs (pc + 3) ls (vR (1202, i) :: st) h) : PW d Y Q rc rs pc ls (vR (1200, i) :: st) h := by
  intro G D l p e R s m args below meth c mc ms C H locs cells slots lsr S
  exact vk_getf (v := .ref (G.2.2.1 i)) C.1 C.2.1 (C.2.2.2.2.2.2.2.1.2.1.1 i hi).2.2.1 S.2.2.1 C.2.2.2.2.2.1 (C.2.2.2.2.2.2.1 _ hl) (fun _ h9 => h9) hd (k G D l p e R s m args below meth c mc ms C H locs cells slots lsr S)
theorem P_getSc {d : Nat} {Y : MR} {Q : PO → PH → Prop} {rc rs pc : Nat} {ls st : List PV} {h : PH} {i idx : Nat} (hd : decode Y.2.1 pc = .ok (.getfield idx, 3)) (hi : i < 21) (hl : Cond.fieldLink Y.1.cls idx "java/lang/String" "coder" "B" ∈ TB) (k : PW d Y Q rc rs (pc + 3) ls (vI 0 :: st) h) : PW d Y Q rc rs pc ls (vR (1200, i) :: st) h := by
  intro G D l p e R s m args below meth c mc ms C H locs cells slots lsr S
  exact vk_getf (v := .int 0) C.1 C.2.1 (C.2.2.2.2.2.2.2.1.2.1.1 i hi).2.1 S.2.2.1 C.2.2.2.2.2.1 (C.2.2.2.2.2.2.1 _ hl) (fun _ h9 => h9) hd (k G D l p e R s m args below meth c mc ms C H locs cells slots lsr S)
theorem P_alenS {d : Nat} {Y : MR} {Q : PO → PH → Prop} {rc rs pc : Nat} {ls st : List PV} {h : PH} {i : Nat} (hd : decode Y.2.1 pc = .ok (.arraylength, 1)) (hi : i < 21) (k : PW d Y Q rc rs (pc + 1) ls (vI (nI (sLen.getD i 0)) :: st) h) : PW d Y Q rc rs pc ls (vR (1202, i) :: st) h := by
  intro G D l p e R s m args below meth c mc ms C H locs cells slots lsr S
  exact va_tlen (v := nI (sLen.getD i 0)) C.1 C.2.1 (C.2.2.2.2.2.2.2.1.2.1.1 i hi).2.2.2 S.2.2.1 rfl hd (k G D l p e R s m args below meth c mc ms C H locs cells slots lsr S)
theorem P_baldS {d : Nat} {Y : MR} {Q : PO → PH → Prop} {rc rs pc : Nat} {ls st : List PV} {h : PH} {i : Nat} {j : Int32} (hd : decode Y.2.1 pc = .ok (.baload, 1)) (hi : i < 21) (hj : vp_in j (sLen.getD i 0)) (k : PW d Y Q rc rs (pc + 1) ls (vI ((sByt.getD i []).getD j.toNatClampNeg 0) :: st) h) : PW d Y Q rc rs pc ls (vI j :: vR (1202, i) :: st) h := by
  intro G D l p e R s m args below meth c mc ms C H locs cells slots lsr S
  exact va_tb C.1 C.2.1 (C.2.2.2.2.2.2.2.1.2.1.1 i hi).2.2.2 S.2.2.1 hj rfl hd (k G D l p e R s m args below meth c mc ms C H locs cells slots lsr S)
theorem P_getsC {d : Nat} {Y : MR} {Q : PO → PH → Prop} {rc rs pc : Nat} {ls st : List PV} {h : PH} {idx : Nat} (hd : decode Y.2.1 pc = .ok (.getstatic idx, 3)) (hl : Cond.fieldLink Y.1.cls idx "java/lang/String" "COMPACT_STRINGS" "Z" ∈ TB) (k : PW d Y Q rc rs (pc + 3) ls (vI 1 :: st) h) : PW d Y Q rc rs pc ls st h := by
  intro G D l p e R s m args below meth c mc ms C H locs cells slots lsr S
  exact va_gets (v := .int 1) C.1 C.2.1 C.2.2.2.2.2.2.2.1.2.2.2.2.2.1 S.2.2.1 C.2.2.2.2.2.1 (C.2.2.2.2.2.2.1 _ hl) (fun _ h9 => h9) hd (k G D l p e R s m args below meth c mc ms C H locs cells slots lsr S)
theorem P_getsF {d : Nat} {Y : MR} {Q : PO → PH → Prop} {rc rs pc : Nat} {ls st : List PV} {h : PH} {idx : Nat} (hd : decode Y.2.1 pc = .ok (.getstatic idx, 3)) (hl : Cond.fieldLink Y.1.cls idx "jdk/internal/util/Preconditions" "SIOOBE_FORMATTER" "Ljava/util/function/BiFunction;" ∈ TB) (k0 : PW d Y Q rc rs (pc + 3) ls (vN :: st) h) (k : ∀ t, PW d Y Q rc rs (pc + 3) ls (vR (1203, t) :: st) h) : PW d Y Q rc rs pc ls st h := by
  intro G D l p e R s m args below meth c mc ms C H locs cells slots lsr S
  rcases C.2.2.2.2.2.2.2.1.2.2.2.2.2.2.1 with hz | ⟨t, hz⟩
  · exact va_gets (v := .null) C.1 C.2.1 hz S.2.2.1 C.2.2.2.2.2.1 (C.2.2.2.2.2.2.1 _ hl) (fun _ h9 => h9) hd (k0 G D l p e R s m args below meth c mc ms C H locs cells slots lsr S)
  · exact va_gets (v := .ref t) C.1 C.2.1 hz S.2.2.1 C.2.2.2.2.2.1 (C.2.2.2.2.2.2.1 _ hl) (fun _ h9 => h9) hd (k t G D l p e R s m args below meth c mc ms C H locs cells slots lsr S)
theorem P_callVS {d : Nat} {Y : MR} {Q : PO → PH → Prop} {rc rs pc : Nat} {ls st : List PV} {h : PH} {d2 idx n nc ns i : Nat} {y2 : MethodName} {cc2 : ByteArray} {mL2 : Nat} {rt2 : Option FieldType} {As st0 : List PV} {Qc : PO → PH → Prop} (hd : decode Y.2.1 pc = .ok (.invokevirtual idx, 3)) (hm : mOK (y2, (cc2, (mL2, (rt2, none)))) n) (hl : Cond.methodLink Y.1.cls idx y2 ∈ TB) (hin : Cond.instanceMethod y2 ∈ TB) (hse : Cond.selects y2.cls y2 y2 ∈ TB) (hini : Cond.initialized y2.cls ∈ TB) (hn : As.length = n) (hdp : d2 + 1 ≤ d) (hst : (st.map pcat).sum ≤ 8) (hqc : y2.cls = "java/lang/String") (hi : i < 21) (hsk : As.reverse ++ vR (1200, i) :: st = st0) (hc : CT d2 (y2, (cc2, (mL2, (rt2, none)))) (vR (1200, i) :: As) h nc ns Qc)
    (kk : ∀ v h1, Qc (.inl v) h1 → PW d Y Q rc rs (pc + 3) ls (v.toList ++ st) h1) (kx : ∀ E h1, Qc (.inr E) h1 → PX d Y Q rc rs pc ls h1 E) : PW d Y Q (nc + rc) (ns + rs) pc ls st0 h := by
  subst hsk
  intro G D l p e R s m args below meth c mc ms C H locs cells slots lsr S
  have hts := C.2.2.2.2.2.2.1
  obtain ⟨f1, f2, f3, f4⟩ := C.2.2.2.2.2.2.2.2.2.2.2
  have b1 := S.2.2.2.1
  have b2 := S.2.2.2.2
  have hm4 := hm.2.2.2
  dsimp only at hm4
  refine P_run (Qc := Qc) (a := (List.map (emb G) (vR (1200, i) :: As)).toArray) C S ?_ kk kx
  exact vx_runV (b := G.2.1 i) (As := As.map (emb G)) ⟨C.1, C.2.1, C.2.2.2.2.1, C.2.2.2.2.2.1, hts⟩ (hc G D l C.2.2.2.2.2.2.2.2.1) (cwV n hts (Ts := TB) (fun w hw => by
    unfold wsV at hw
    rcases List.mem_append.mp hw with hw | hw
    · have : w ∈ TB := by
        simp only [List.mem_cons, List.not_mem_nil, or_false] at hw
        rcases hw with e | e | e | e <;> rw [e] <;> assumption
      exact TB_good w this
    · exact WS_good hm w hw) rfl rfl rfl ⟨rfl, hm.2.2.1⟩ ⟨(by show d2 + 1 ≤ R.frames; omega), (by show 8 + (mL2 + 11) + 48 * d2 ≤ R.locals; omega)⟩) ⟨blind G D _ h, (by
    rw [hqc]
    exact vk_recv C.2.2.2.2.2.2.2.1.2.1 hi S.2.2.1), fun U hU hW => ⟨rfl, by rw [hU]; exact S.1.moved hW.alike, by rw [hU]; exact KS_at C.2.2.2.2.2.2.2.1 S.2.2.1 hW⟩⟩ rfl (by rw [List.length_map]; exact hn) (by show lsr.size = _; exact S.2.1.2.1) (rest := st.map (emb G)) (by show (As.reverse ++ vR (1200, i) :: st).map (emb G) = _; rw [List.map_append, List.map_cons, ← List.map_reverse]; rfl) (by rw [show (F0 m pc lsr ((As.reverse ++ vR (1200, i) :: st).map (emb G))).monitorRoom = 0 from rfl, pcat_sum]; omega) hd ⟨by omega, by omega⟩
-- arraycopy of whole numbers
theorem P_copy {d : Nat} {Y : MR} {Q : PO → PH → Prop} {rc rs pc : Nat} {ls st : List PV} {h : PH} {a b : LA} {n0 n1 idx : Nat} {f g : Nat → Int32} {sp dp n : Int32} (hd : decode Y.2.1 pc = .ok (.invokestatic idx, 3)) (hl : Cond.methodLink Y.1.cls idx arraycopyName ∈ TB) (hnat : Cond.native arraycopyName ∈ TB) (hsta : Cond.static arraycopyName ∈ TB) (hini : Cond.initialized "java/lang/System" ∈ TB) (ha : h a = pI n0 f) (hb : h b = pI n1 g) (h1 : ¬ sp < 0) (h2 : ¬ dp < 0) (h3 : ¬ n < 0) (h4 : sp.toNatClampNeg + n.toNatClampNeg ≤ n0) (h5 : dp.toNatClampNeg + n.toNatClampNeg ≤ n1) (hd1 : 3 ≤ d) (hst : (st.map pcat).sum ≤ 8)
    (k : PW d Y Q rc rs (pc + 3) ls st (up h b (pI n1 (va_cpy f g sp.toNatClampNeg dp.toNatClampNeg n.toNatClampNeg)))) : PW d Y Q rc rs pc ls (vI n :: vI dp :: vR b :: vI sp :: vR a :: st) h := by
  intro G D l p e R s m args below meth c mc ms C H locs cells slots lsr S
  have hts := C.2.2.2.2.2.2.1
  obtain ⟨f1, f2, f3, f4⟩ := C.2.2.2.2.2.2.2.2.2.2.2
  obtain ⟨a1, a2, cA, hT, hR, hc⟩ := S.1.2.2.2.1 a 0 n0 _ (by decide) ha
  obtain ⟨b1, b2, cB, hT2, hR2, hc2⟩ := S.1.2.2.2.1 b 0 n1 _ (by decide) hb
  have nn : ∀ z : Int32, ¬ z < 0 → z.toInt = (z.toNatClampNeg : Int) := by
    intro z hz
    have hz0 : (0 : Int) ≤ z.toInt := by
      have := Int32.not_lt.mp hz
      simpa using Int32.le_iff_toInt_le.mp this
    show z.toInt = ((z.toInt.toNat : Nat) : Int)
    omega
  intro T hT0 X
  obtain ⟨-, k0, hk0, cm0, hkk0⟩ := hT n0 (fun j => .int (f j))
  obtain ⟨-, k1, hk1, cm1, hkk1⟩ := hT2 n1 (fun j => .int (g j))
  obtain ⟨vm', X', step⟩ := X.arraycopy C.1 C.2.2.2.2.2.1 (hts _ hl) (hts _ hnat) (hts _ hsta) (hts _ hini) (src := G.1 + off a) (dst := G.1 + off b) (cs := arrV cA n0 (fun j => .int (f j))) (cd := arrV cB n1 (fun j => .int (g j))) (srcPos := sp) (destPos := dp) (n := n) (by rw [hT0]; exact hc) (by rw [hT0]; exact hc2)
    (fun _ h => by cases h) (fun _ h => by cases h) (fun h => by cases h) (fun h => by cases h) hk0 hk1 hkk0 hkk1 rfl h1 h2 h3
    (by rw [nn sp h1, nn n h3, arrV_size]; omega)
    (by rw [nn dp h2, nn n h3, arrV_size]; omega)
    (fun vm₁ _ i hi => by
      have e : (arrV cA n0 (fun j => .int (f j))).slots.getD (sp.toNatClampNeg + i) .null = .int (f (sp.toNatClampNeg + i)) := by
        rw [Array.getD_eq_getD_getElem?, arrV_read _ _ (by omega)]
        rfl
      refine ⟨?_, ?_⟩
      · rw [e]
        rfl
      · rw [e]
        exact trivial)
    (g := F0 m pc lsr ((vI n :: vI dp :: vR b :: vI sp :: vR a :: st).map (emb G))) rfl (by rw [C.2.2.2.2.1]; exact S.2.1.2.1) (rest := st.map (emb G)) (by show emb G (vI n) :: emb G (vI dp) :: emb G (vR b) :: emb G (vI sp) :: emb G (vR a) :: _ = _; rw [show emb G (vR a) = .ref (ra G a) from rfl, ra_of a1, show emb G (vR b) = .ref (ra G b) from rfl, ra_of b1]; rfl) (by rw [C.2.1]; exact hd) (by omega) (by rw [show (F0 m pc lsr ((vI n :: vI dp :: vR b :: vI sp :: vR a :: st).map (emb G))).monitorRoom = 0 from rfl, pcat_sum]; have e9 : nativeFrameWords "java/lang/System" "arraycopy" 5 ≤ 60 := (by decide); omega)
  have e1 : copied (arrV cA n0 (fun j => .int (f j))) (arrV cB n1 (fun j => .int (g j))) sp dp n = arrV cB n1 (fun j => .int (va_cpy f g sp.toNatClampNeg dp.toNatClampNeg n.toNatClampNeg j)) := va_copied (fun z => .int z) cA cB f g h4
  rw [e1] at X' step
  have hl2 : G.1 + off b < H.size := (Array.getElem?_eq_some_iff.mp hc2).1
  have hheap : ((T.setVm vm').setCell (G.1 + off b) (arrV cB n1 (fun j => .int (va_cpy f g sp.toNatClampNeg dp.toNatClampNeg n.toNatClampNeg j)))).heap = H.setIfInBounds (G.1 + off b) (arrV cB n1 (fun j => .int (va_cpy f g sp.toNatClampNeg dp.toNatClampNeg n.toNatClampNeg j))) := by rw [← hT0]; rfl
  have e3 : ∀ q : Nat, q ≠ G.1 + off b → (H.setIfInBounds (G.1 + off b) (arrV cB n1 (fun j => .int (va_cpy f g sp.toNatClampNeg dp.toNatClampNeg n.toNatClampNeg j))))[q]? = H[q]? := fun q hq => by simp [Array.getElem?_setIfInBounds, Ne.symm hq]
  have e2 : (H.setIfInBounds (G.1 + off b) (arrV cB n1 (fun j => .int (va_cpy f g sp.toNatClampNeg dp.toNatClampNeg n.toNatClampNeg j)))).size = H.size := by simp
  have e0 : (H.setIfInBounds (G.1 + off b) (arrV cB n1 (fun j => .int (va_cpy f g sp.toNatClampNeg dp.toNatClampNeg n.toNatClampNeg j))))[G.1 + off b]? = some (arrV cB n1 (embA G (.inl (va_cpy f g sp.toNatClampNeg dp.toNatClampNeg n.toNatClampNeg)))) := by
    simp [Array.getElem?_setIfInBounds, hl2]
    rfl
  obtain ⟨t, g1, g2⟩ := k G D l p e R s m args below meth c mc ms C _ (locs ++ ((arrV cA n0 (fun j => .int (f j))).stretch sp.toNatClampNeg n.toNatClampNeg).zipIdx.map fun q => ⟨G.1 + off b, dp.toNatClampNeg + q.2⟩) cells slots lsr ⟨S.1.putA (by decide) hb hT2 hR2 e0 e2 e3, S.2.1, ⟨by rw [e2]; exact S.2.2.1.1, fun q g1 g2 => by
      rw [e3 q (fun e => g2 (by rw [e]; exact Nat.le_add_right _ _))]
      exact S.2.2.1.2.1 q g1 g2, fun q hq => by
      rcases List.mem_append.mp hq with h | h
      · exact S.2.2.1.2.2 q h
      · obtain ⟨z, -, hz⟩ := List.mem_map.mp h
        rw [← hz]
        exact Nat.le_add_right _ _⟩, S.2.2.2⟩ _ hheap X'
  exact ⟨t, step t g1, g2⟩
