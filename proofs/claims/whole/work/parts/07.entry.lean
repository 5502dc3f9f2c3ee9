def entL (av : List PV) : List PV := av.flatMap (fun v => if pcat v = 2 then [v, vU] else [v])
theorem las_app (G : GA) (k i : Nat) : las G i (List.replicate k vU) = [] := by
  induction k generalizing i with
  | zero => rfl
  | succ k ih => exact ih (i + 1)
theorem las_ent (G : GA) : ∀ (av : List PV) (i k : Nat), ∀ q ∈ las G i (entL av ++ List.replicate k vU), q ∈ lv_args i (av.map (emb G)) := by
  intro av
  induction av with
  | nil =>
    intro i k q hq
    rw [show entL [] ++ List.replicate k vU = List.replicate k vU from rfl, las_app] at hq
    cases hq
  | cons v r ih =>
    intro i k q hq
    have e : entL (v :: r) = (if pcat v = 2 then [v, vU] else [v]) ++ entL r := rfl
    rw [e] at hq
    show q ∈ (i, emb G v) :: lv_args (if (emb G v).category = 2 then i + 2 else i + 1) (r.map (emb G))
    rw [pcat_ok]
    by_cases hc : pcat v = 2
    · rw [if_pos hc] at hq
      rw [if_pos hc]
      rcases v with x | x | x | x
      · cases hc
      · rcases List.mem_cons.mp hq with h1 | h1
        · rw [h1]; exact List.mem_cons_self
        · exact List.mem_cons_of_mem _ (ih _ _ q h1)
      · cases hc
      · cases hc
    · rw [if_neg hc] at hq
      rw [if_neg hc]
      rcases v with x | x | x | x
      · rcases List.mem_cons.mp hq with h1 | h1
        · rw [h1]; exact List.mem_cons_self
        · exact List.mem_cons_of_mem _ (ih _ _ q h1)
      · exact absurd rfl hc
      · rcases List.mem_cons.mp hq with h1 | h1
        · rw [h1]; exact List.mem_cons_self
        · exact List.mem_cons_of_mem _ (ih _ _ q h1)
      · exact List.mem_cons_of_mem _ (ih _ _ q hq)
theorem entL_len (G : GA) (av : List PV) : (lg_sl (av.map (emb G))).length = (entL av).length := by
  induction av with
  | nil => rfl
  | cons v r ih =>
    have e : entL (v :: r) = (if pcat v = 2 then [v, vU] else [v]) ++ entL r := rfl
    have e2 : lg_sl ((v :: r).map (emb G)) = (if (emb G v).category = 2 then [.val (emb G v), .second] else [.val (emb G v)]) ++ lg_sl (r.map (emb G)) := rfl
    rw [e, e2, List.length_append, List.length_append, ih, pcat_ok]
    by_cases hc : pcat v = 2
    · rw [if_pos hc, if_pos hc]; rfl
    · rw [if_neg hc, if_neg hc]; rfl
theorem LR_entry (G : GA) {av ls : List PV} {nL : Nat} (hl : (entL av).length ≤ nL) (hls : entL av ++ List.replicate (nL - (entL av).length) vU = ls) : LR G ((lg_sl (av.map (emb G)) ++ List.replicate (nL - (lg_sl (av.map (emb G))).length) Slot.unset).toArray) nL ls := by
  have h1 := lv_entry (av.map (emb G)) (n := nL) (by rw [entL_len]; exact hl)
  refine ⟨by rw [← hls, List.length_append, List.length_replicate]; omega, h1.1, h1.2.1, fun q hq => h1.2.2 q (las_ent G av 0 (nL - (entL av).length) q (by rw [hls]; exact hq))⟩
theorem ofWF {l : Launch} {y : MethodName} {ws ws' : List Cond} {rm : Room} {Pc : Array Value → State → Prop} {Qc : Array Value → State → Outcome → State → Prop} {XC : String → State → State → Prop} {mc ms : Nat} {free : Addr → Prop} {cc : ByteArray} {maxL : Nat} {ret : Option FieldType} (hy : plainFor y = true) (hw : ws = Cond.code y cc maxL ret :: ws')
    (body : ∀ p e s m args below meth c s₁, BodyLoose p l y (headSpec ws rm) cc maxL ret e s m args below meth c s₁ → c.maxLocals = maxL → (∀ x ∈ c.exceptionTable.toList, False) → Pc args s → W p l e (headSpec ws rm).room s m args below meth c s.heap [] 0 0 (vx_MQ below Qc XC args s mc ms free) (entryFrame m args maxL)) : vx_Met l y ws rm Pc Qc XC mc ms free := by
  refine MetFree.of_bodySF (code := cc) (maxLocals := maxL) (ret := ret) hy ?_ ?_
  · intro args s m h hn
    obtain ⟨meth, c, h1, h2, h3, h4, h5, h6, -, -⟩ := Cond.code_spec hn (atoms_spec (ws := ws) h _ (by rw [hw]; exact List.mem_cons_self))
    exact ⟨meth, c, h1, h2, h3, h4, h5, h6⟩
  · intro p e s m args below meth c s₁ B hml hP _
    have hh0 : s₁.heap = s.heap := by rw [B.state]; rfl
    have ht : ∀ x ∈ c.exceptionTable.toList, False := by
      obtain ⟨meth9, c9, h1, h2, -, -, -, -, h7, -⟩ := Cond.code_spec B.named (atoms_spec (ws := ws) B.pre _ (by rw [hw]; exact List.mem_cons_self))
      cases Option.some.inj (h1.symm.trans B.method)
      cases Option.some.inj (h2.symm.trans (Stand.of_body B).code)
      intro x hx
      rw [Array.isEmpty_iff.mp h7] at hx
      cases hx
    obtain ⟨t, a1, o, b1, b2, b3⟩ := body p e s m args below meth c s₁ B hml ht hP s₁ hh0 (Stand.of_body B)
    exact ⟨t, o, a1, b1, b2, b3⟩
theorem CT_of {d : Nat} {y : MethodName} {cc : ByteArray} {nL : Nat} {rt : Option FieldType} {n : Nat} (hm : mOK (y, (cc, (nL, (rt, none)))) n) {av ls : List PV} {h : PH} {nc ns : Nat} {Q : PO → PH → Prop} (hl : (entL av).length ≤ nL) (hls : entL av ++ List.replicate (nL - (entL av).length) vU = ls) (k : PW d (y, (cc, (nL, (rt, none)))) Q nc ns 0 ls [] h) : CT d (y, (cc, (nL, (rt, none)))) av h nc ns Q := by
  intro G D l hlt
  refine ofWF (cc := cc) (maxL := nL) (ret := rt) hm.2.1 rfl ?_
  intro p e s m args below meth c s₁ B hml hnone hv
  obtain ⟨rfl, hRp, hKS⟩ := hv
  have hts := atoms_spec (ws := WS (y, (cc, (nL, (rt, none))))) B.pre
  rw [lg_entry_eq]
  refine k G D l p e _ s m _ below meth c nc ns ⟨B.exec, B.bytes, B.returns, B.notSynchronized, hml, findClass_of_methodNamed B.named, fun w hw => hts w (List.mem_cons_of_mem _ hw), hKS, hlt, (name_of_methodNamed B.named B.method).1, ?_, Nat.le_refl d, Nat.le_refl (48 * d), Nat.le_refl nc, Nat.le_refl ns⟩ s.heap [] 0 0 _ ⟨hRp, LR_entry G hl hls, va_S.rf, by omega, by omega⟩
  exact List.eq_nil_iff_forall_not_mem.mpr (fun x hx => hnone x hx)
theorem CT_ofH {d : Nat} {y : MethodName} {cc : ByteArray} {nL : Nat} {rt : Option FieldType} {hh : List (Nat × Nat × Nat × Nat)} {n : Nat} (hpn : plainName y.cls = true) (hm : mOK (y, (cc, (nL, (rt, some hh)))) n) {av ls : List PV} {h : PH} {nc ns : Nat} {Q : PO → PH → Prop} (hl : (entL av).length ≤ nL) (hls : entL av ++ List.replicate (nL - (entL av).length) vU = ls) (k : PW d (y, (cc, (nL, (rt, some hh)))) Q nc ns 0 ls [] h) : CT d (y, (cc, (nL, (rt, some hh)))) av h nc ns Q := by
  intro G D l hlt
  refine vx_ofWH (cc := cc) (maxL := nL) (ret := rt) (hh := hh) hpn rfl ?_
  intro p e s m args below meth c s₁ B hml hv
  obtain ⟨rfl, hRp, hKS⟩ := hv
  have hts := atoms_spec (ws := WS (y, (cc, (nL, (rt, some hh))))) B.pre
  rw [lg_entry_eq]
  refine k G D l p e _ s m _ below meth c nc ns ⟨B.exec, B.bytes, B.returns, B.notSynchronized, hml, findClass_of_methodNamed B.named, fun w hw => hts w (List.mem_cons_of_mem _ hw), hKS, hlt, (name_of_methodNamed B.named B.method).1, ?_, Nat.le_refl d, Nat.le_refl (48 * d), Nat.le_refl nc, Nat.le_refl ns⟩ s.heap [] 0 0 _ ⟨hRp, LR_entry G hl hls, va_S.rf, by omega, by omega⟩
  exact vx_table (x := y) B (hts _ List.mem_cons_self)
theorem CT_mono {d : Nat} {Y : MR} {av : List PV} {h : PH} {nc ns : Nat} {Q Q2 : PO → PH → Prop} (hq : ∀ o h1, Q o h1 → Q2 o h1) (k : CT d Y av h nc ns Q) : CT d Y av h nc ns Q2 := by
  intro G D l hl
  refine MetFree.mono (k G D l hl) (fun _ _ h => h) (fun _ _ _ _ _ h => h) (fun a s o t _ h9 => ?_)
  rcases h9 with ⟨⟨⟨v, h', e1, e2, e3⟩, e4⟩, e5⟩ | ⟨q, e1, E, ce, L, ⟨⟨h', e2, e3⟩, e4⟩, e5⟩
  · exact Or.inl ⟨⟨⟨v, h', e1, hq _ _ e2, e3⟩, e4⟩, e5⟩
  · exact Or.inr ⟨q, e1, E, ce, L, ⟨⟨h', hq _ _ e2, e3⟩, e4⟩, e5⟩
-- catches (the law's): the handler's first step stores the exception
theorem PX_catch1 {d : Nat} {Y : MR} {Q : PO → PH → Prop} {rc rs pc : Nat} {ls ls2 : List PV} {h : PH} {E : String} {a0 b0 hp ct i ln : Nat} {suf : List (Nat × Nat × Nat × Nat)} {ig : Instr} (hh : Y.2.2.2.2 = some ((a0, b0, hp, ct) :: suf)) (hc : a0 ≤ pc ∧ pc < b0) (h0 : ct ≠ 0) (hl : Cond.classLink Y.1.cls ct E ∈ TB) (hca : Cond.castable E E ∈ NB) (hi : i < Y.2.2.1) (hb : i = 0 ∨ ∀ z, ls[i - 1]? ≠ some (vL z)) (hs : ls.set i vU = ls2)
    (hd : decode Y.2.1 hp = .ok (ig, ln)) (hig : (∃ j : Fin 4, (j : Nat) = i ∧ ig = .astore_n j ∧ ln = 1) ∨ (ig = .astore i ∧ ln = 2)) (k : PW d Y Q rc rs (hp + ln) ls2 [] h) : PX d Y Q rc rs pc ls h E := by
  intro G D l p e R s m args below meth c mc ms C H locs cells slots lsr rest q ce S h1 h2 h3
  have ht := C.2.2.2.2.2.2.2.2.2.2.1
  rw [hh] at ht
  refine vx_catch (name := E) C.2.2.2.2.2.1 [] { startPc := a0, endPc := b0, handlerPc := hp, catchType := ct } (suf.map (fun q : Nat × (Nat × (Nat × Nat)) => ({ startPc := q.1, endPc := q.2.1, handlerPc := q.2.2.1, catchType := q.2.2.2 } : ExceptionTableEntry))) ht (fun z hz => by cases hz) (by unfold covers; rw [decide_eq_true hc.1, decide_eq_true hc.2]; rfl) h0 (C.2.2.2.2.2.2.1 _ hl) (isN_use (List.mem_filter.mp hca).2 (C.2.2.2.2.2.2.2.1.2.2.2.2.2.2.2.1 _ hca)) h1 h2 h3 ?_
  have kk : ∀ ls9 : Array Slot, lv_has ls9 Y.2.2.1 ((i, Value.ref q) :: (las G 0 ls).filter (fun z => !(z.1 == i) && !(z.1 + 1 == i && z.2.category == 2))) → W p l e R s m args below meth c H locs cells slots (vx_MQ below (QR G D Q) (XR G D Q) args s mc ms (AB G)) (F0 m (hp + ln) ls9 []) := by
    intro ls9 h9
    refine k G D l p e R s m args below meth c mc ms C H locs cells slots ls9 ⟨S.1, ?_, S.2.2⟩
    have h8 : lv_has ls9 Y.2.2.1 ((i, emb G vN) :: (las G 0 ls).filter (fun z => !(z.1 == i) && !(z.1 + 1 == i && z.2.category == 2))) → LR G ls9 Y.2.2.1 (ls.set i vN) := S.2.1.store1 vN hi rfl hb ls9
    refine ⟨by rw [← hs, List.length_set]; exact S.2.1.1, h9.1, h9.2.1, fun z hz => ?_⟩
    obtain ⟨j, w, g1, g2, g3⟩ := (las_mem G _ 0 z).mp hz
    rw [← hs] at g1
    by_cases ej : i = j
    · subst ej
      rw [List.getElem?_set_self (by rw [S.2.1.1]; exact hi)] at g1
      cases g1
      exact absurd rfl g2
    · rw [List.getElem?_set_ne ej] at g1
      refine h9.2.2 z (List.mem_cons_of_mem _ (List.mem_filter.mpr ⟨(las_mem G ls 0 z).mpr ⟨j, w, g1, g2, g3⟩, ?_⟩))
      subst g3
      have e1 : ¬ j = i := fun q => ej q.symm
      simp only [Nat.zero_add]
      by_cases e2 : j + 1 = i
      · have : ¬ (emb G w).category = 2 := by
          rcases hb with hb | hb
          · omega
          · rcases w with x | x | x | x
            · simp [emb, Value.category]
            · exact absurd (by rw [← e2]; simpa using g1) (hb x)
            · cases x <;> simp [emb, Value.category]
            · exact absurd rfl g2
        simp [e1, e2, this]
      · simp [e1, e2]
  rcases hig with ⟨j, hj, rfl, rfl⟩ | ⟨rfl, rfl⟩
  · exact lv_astore_n C.1 C.2.1 hd hj S.2.1.2 hi rfl kk
  · exact lv_astore C.1 C.2.1 hd S.2.1.2 hi rfl kk
theorem PX_catch2 {d : Nat} {Y : MR} {Q : PO → PH → Prop} {rc rs pc : Nat} {ls ls2 : List PV} {h : PH}  {a1 b1 hp1 ct1 a0 b0 hp ct i ln : Nat} {suf : List (Nat × Nat × Nat × Nat)} {ig : Instr} (hh : Y.2.2.2.2 = some ((a1, b1, hp1, ct1) :: (a0, b0, hp, ct) :: suf)) (hc1 : ct1 ≠ 0) (hl1 : Cond.classLink Y.1.cls ct1 "java/util/NoSuchElementException" ∈ TB) (hc : a0 ≤ pc ∧ pc < b0) (h0 : ct ≠ 0) (hl : Cond.classLink Y.1.cls ct "java/lang/IllegalArgumentException" ∈ TB) (hca : Cond.castable "java/lang/IllegalArgumentException" "java/lang/IllegalArgumentException" ∈ NB) (hi : i < Y.2.2.1) (hb : i = 0 ∨ ∀ z, ls[i - 1]? ≠ some (vL z)) (hs : ls.set i vU = ls2)
    (hd : decode Y.2.1 hp = .ok (ig, ln)) (hig : (∃ j : Fin 4, (j : Nat) = i ∧ ig = .astore_n j ∧ ln = 1) ∨ (ig = .astore i ∧ ln = 2)) (k : PW d Y Q rc rs (hp + ln) ls2 [] h) : PX d Y Q rc rs pc ls h "java/lang/IllegalArgumentException" := by
  intro G D l p e R s m args below meth c mc ms C H locs cells slots lsr rest q ce S h1 h2 h3
  have ht := C.2.2.2.2.2.2.2.2.2.2.1
  rw [hh] at ht
  refine vx_catch (name := "java/lang/IllegalArgumentException") C.2.2.2.2.2.1 [{ startPc := a1, endPc := b1, handlerPc := hp1, catchType := ct1 }] { startPc := a0, endPc := b0, handlerPc := hp, catchType := ct } (suf.map (fun q : Nat × (Nat × (Nat × Nat)) => ({ startPc := q.1, endPc := q.2.1, handlerPc := q.2.2.1, catchType := q.2.2.2 } : ExceptionTableEntry))) ht (fun z hz => by rw [List.mem_singleton.mp hz]; exact Or.inr ⟨hc1, _, C.2.2.2.2.2.2.1 _ hl1, C.2.2.2.2.2.2.2.1.2.2.2.2.2.2.2.2⟩) (by unfold covers; rw [decide_eq_true hc.1, decide_eq_true hc.2]; rfl) h0 (C.2.2.2.2.2.2.1 _ hl) (isN_use (List.mem_filter.mp hca).2 (C.2.2.2.2.2.2.2.1.2.2.2.2.2.2.2.1 _ hca)) h1 h2 h3 ?_
  have kk : ∀ ls9 : Array Slot, lv_has ls9 Y.2.2.1 ((i, Value.ref q) :: (las G 0 ls).filter (fun z => !(z.1 == i) && !(z.1 + 1 == i && z.2.category == 2))) → W p l e R s m args below meth c H locs cells slots (vx_MQ below (QR G D Q) (XR G D Q) args s mc ms (AB G)) (F0 m (hp + ln) ls9 []) := by
    intro ls9 h9
    refine k G D l p e R s m args below meth c mc ms C H locs cells slots ls9 ⟨S.1, ?_, S.2.2⟩
    have h8 : lv_has ls9 Y.2.2.1 ((i, emb G vN) :: (las G 0 ls).filter (fun z => !(z.1 == i) && !(z.1 + 1 == i && z.2.category == 2))) → LR G ls9 Y.2.2.1 (ls.set i vN) := S.2.1.store1 vN hi rfl hb ls9
    refine ⟨by rw [← hs, List.length_set]; exact S.2.1.1, h9.1, h9.2.1, fun z hz => ?_⟩
    obtain ⟨j, w, g1, g2, g3⟩ := (las_mem G _ 0 z).mp hz
    rw [← hs] at g1
    by_cases ej : i = j
    · subst ej
      rw [List.getElem?_set_self (by rw [S.2.1.1]; exact hi)] at g1
      cases g1
      exact absurd rfl g2
    · rw [List.getElem?_set_ne ej] at g1
      refine h9.2.2 z (List.mem_cons_of_mem _ (List.mem_filter.mpr ⟨(las_mem G ls 0 z).mpr ⟨j, w, g1, g2, g3⟩, ?_⟩))
      subst g3
      have e1 : ¬ j = i := fun q => ej q.symm
      simp only [Nat.zero_add]
      by_cases e2 : j + 1 = i
      · have : ¬ (emb G w).category = 2 := by
          rcases hb with hb | hb
          · omega
          · rcases w with x | x | x | x
            · simp [emb, Value.category]
            · exact absurd (by rw [← e2]; simpa using g1) (hb x)
            · cases x <;> simp [emb, Value.category]
            · exact absurd rfl g2
        simp [e1, e2, this]
      · simp [e1, e2]
  rcases hig with ⟨j, hj, rfl, rfl⟩ | ⟨rfl, rfl⟩
  · exact lv_astore_n C.1 C.2.1 hd hj S.2.1.2 hi rfl kk
  · exact lv_astore C.1 C.2.1 hd S.2.1.2 hi rfl kk
theorem P_callSX {d : Nat} {Y : MR} {Q : PO → PH → Prop} {rc rs pc : Nat} {ls st : List PV} {h : PH} {d2 idx n nc ns : Nat} {y2 : MethodName} {cc2 : ByteArray} {mL2 : Nat} {rt2 : Option FieldType} {hh : List (Nat × Nat × Nat × Nat)} {As st0 : List PV} {Qc : PO → PH → Prop} (hd : decode Y.2.1 pc = .ok (.invokestatic idx, 3)) (hm : mOK (y2, (cc2, (mL2, (rt2, some hh)))) n) (hl : Cond.methodLink Y.1.cls idx y2 ∈ TB) (hsta : Cond.static y2 ∈ TB) (hini : Cond.initialized y2.cls ∈ TB) (hn : As.length = n) (hdp : d2 + 1 ≤ d) (hst : (st.map pcat).sum ≤ 8) (hsk : As.reverse ++ st = st0) (hc : CT d2 (y2, (cc2, (mL2, (rt2, some hh)))) As h nc ns Qc)
    (kk : ∀ v h1, Qc (.inl v) h1 → PW d Y Q rc rs (pc + 3) ls (v.toList ++ st) h1) (kx : ∀ E h1, Qc (.inr E) h1 → PX d Y Q rc rs pc ls h1 E) : PW d Y Q (nc + rc) (ns + rs) pc ls st0 h := by
  subst hsk
  intro G D l p e R s m args below meth c mc ms C H locs cells slots lsr S
  have hts := C.2.2.2.2.2.2.1
  obtain ⟨f1, f2, f3, f4⟩ := C.2.2.2.2.2.2.2.2.2.2.2
  have b1 := S.2.2.2.1
  have b2 := S.2.2.2.2
  have hm4 := hm.2.2.2
  dsimp only at hm4
  refine P_run (Qc := Qc) (a := (List.map (emb G) As).toArray) C S ?_ kk kx
  exact vx_runSX (As := As.map (emb G)) ⟨C.1, C.2.1, C.2.2.2.2.1, C.2.2.2.2.2.1, hts⟩ (hc G D l C.2.2.2.2.2.2.2.2.1) (vx_cwSW n hts (Ts := TB) (fun w hw => by
    unfold va_wsS at hw
    rcases List.mem_append.mp hw with hw | hw
    · have : w ∈ TB := by
        simp only [List.mem_cons, List.not_mem_nil, or_false] at hw
        rcases hw with e | e | e <;> rw [e] <;> assumption
      exact TB_good w this
    · exact WS_good hm w hw) rfl rfl rfl hm.2.2.1 ⟨(by show d2 + 1 ≤ R.frames; omega), (by show 8 + (mL2 + 11) + 48 * d2 ≤ R.locals; omega)⟩) ⟨blind G D _ h, fun U hU hW => ⟨rfl, by rw [hU]; exact S.1.moved hW.alike, by rw [hU]; exact KS_at C.2.2.2.2.2.2.2.1 S.2.2.1 hW⟩⟩ rfl (by rw [List.length_map]; exact hn) (by show lsr.size = _; exact S.2.1.2.1) (rest := st.map (emb G)) (by show (As.reverse ++ st).map (emb G) = _; rw [List.map_append, ← List.map_reverse]) (by rw [show (F0 m pc lsr ((As.reverse ++ st).map (emb G))).monitorRoom = 0 from rfl, pcat_sum]; omega) hd ⟨by omega, by omega⟩
theorem P_objInit {d : Nat} {Y : MR} {Q : PO → PH → Prop} {rc rs pc : Nat} {ls st : List PV} {h : PH} {idx : Nat} {o : LA} (hd : decode Y.2.1 pc = .ok (.invokespecial idx, 3)) (hl : Cond.methodLink Y.1.cls idx objectInit ∈ TB) (hin : Cond.instanceMethod objectInit ∈ TB) (hco : Cond.code objectInit ⟨#[0xb1]⟩ 1 none ∈ TB) (hd1 : 1 ≤ d) (hst : (st.map pcat).sum ≤ 8) (k : PW d Y Q rc rs (pc + 3) ls st h) : PW d Y Q rc rs pc ls (vR o :: st) h := by
  intro G D l p e R s m args below meth c mc ms C H locs cells slots lsr S
  have hts := C.2.2.2.2.2.2.1
  obtain ⟨f1, f2, f3, f4⟩ := C.2.2.2.2.2.2.2.2.2.2.2
  exact W.objInit C.1 C.2.1 C.2.2.2.2.2.1 (hts _ hl) (hts _ hin) (hts _ hco) rfl (by rw [C.2.2.2.2.1]; exact S.2.1.2.1) (a := ra G o) (rest := st.map (emb G)) rfl hd (by omega) (by rw [show (F0 m pc lsr ((vR o :: st).map (emb G))).monitorRoom = 0 from rfl, pcat_sum]; omega) (k G D l p e R s m args below meth c mc ms C H locs cells slots lsr S)
theorem Rep.grow {G : GA} {D : va_G} {h : PH} {s : State} {H H1 : Heap} (r : Rep G D h s H) (hN : ∀ a n g, h a ≠ pA 99 n g) (hz : H.size ≤ H1.size) (hk : ∀ q : Nat, q < H.size → H1[q]? = H[q]?) : Rep G D h s H1 := by
  obtain ⟨r1, r2, r3, r4, r5, r6, r7⟩ := r
  refine ⟨by omega, r2, ?_, ?_, ?_, fun a n g ha => absurd ha (hN a n g), r7⟩
  · intro ci k id v hk2 hv
    obtain ⟨q, g1, g2, V, g3, cell, g4, g5⟩ := r3 ci k id v hk2 hv
    exact ⟨q, g1, g2, V, g3, cell, by rw [hk _ (Array.getElem?_eq_some_iff.mp g4).1]; exact g4, g5⟩
  · intro a kd n g hkd ha
    obtain ⟨g1, g2, cA, g3, g4, g5⟩ := r4 a kd n g hkd ha
    exact ⟨g1, g2, cA, g3, g4, by rw [hk _ (Array.getElem?_eq_some_iff.mp g5).1]; exact g5⟩
  · intro a n g ha
    obtain ⟨g1, f, g2, scr, g3, g4⟩ := r5 a n g ha
    exact ⟨g1, f, g2, scr, by rw [hk _ (Array.getElem?_eq_some_iff.mp g3).1]; exact g3, g4⟩
theorem P_throw0 {d : Nat} {Y : MR} {Q : PO → PH → Prop} {rc rs pc : Nat} {ls : List PV} {h : PH} {ik ic : Nat} {E : String} (hh : Y.2.2.2.2 = none) (hcls : Bundle.fit E = true) (hk : Cond.classLink Y.1.cls ik E ∈ TB) (hini : Cond.initialized E ∈ TB) (hat : ∀ w ∈ vx_at0 Y.1.cls ic E ["java/lang/RuntimeException", "java/lang/Exception"], w ∈ TB ∨ w ∈ NB) (hgood : ∀ w ∈ Cond.classLink Y.1.cls ik E :: Cond.initialized E :: vx_at0 Y.1.cls ic E ["java/lang/RuntimeException", "java/lang/Exception"], vx_ot w = true)
    (d0 : decode Y.2.1 pc = .ok (.new ik, 3)) (d3 : decode Y.2.1 (pc + 3) = .ok (.dup, 1)) (d4 : decode Y.2.1 (pc + 4) = .ok (.invokespecial ic, 3)) (d7 : decode Y.2.1 (pc + 7) = .ok (.athrow, 1)) (hd : 6 ≤ d) (hrc : 1 ≤ rc) (hrs : 6 ≤ rs) (hN : ∀ a n g, h a ≠ pA 99 n g) (hq : Q (.inr E) h) : PW d Y Q rc rs pc ls [] h := by
  intro G D l p e R s m args below meth c mc ms C H locs cells slots lsr S
  have hts := C.2.2.2.2.2.2.1
  obtain ⟨f1, f2, f3, f4⟩ := C.2.2.2.2.2.2.2.2.2.2.2
  have b1 := S.2.2.2.1
  have b2 := S.2.2.2.2
  have ht : c.exceptionTable.toList = [] := by
    have := C.2.2.2.2.2.2.2.2.2.2.1
    rw [hh] at this
    exact this
  obtain ⟨k1, k2, k3, k4, k5, k6, k7, k8, k9⟩ := C.2.2.2.2.2.2.2.1
  refine vx_throw0 (ik := ik) (ic := ic) (cls := E) (names := ["java/lang/RuntimeException", "java/lang/Exception"]) C.1 C.2.1 C.2.2.2.2.2.2.2.2.1 C.2.2.2.2.2.1 hcls (by decide) (hts _ hk) (hts _ hini) (fun w hw => ?_) hgood k4 k5 S.2.2.1 (by rw [C.2.2.2.2.1]; exact S.2.1.2.1) d0 d3 d4 d7 (fun x hx => by rw [ht] at hx; cases hx) (by show 2 + 3 < R.frames; omega) (by show 0 + (13 * (2 + 1) + 42) ≤ R.locals; omega) (by omega) (by omega) C.2.2.2.1 (fun t e1 e2 e3 => ?_) S.2.2.1.2.2 (by omega) (by omega)
  · rcases hat w hw with h1 | h1
    · exact hts w h1
    · exact isN_use (List.mem_filter.mp h1).2 (k8 w h1)
  · refine ⟨⟨h, hq, (S.1.moved e1).grow hN e2 e3⟩, Nat.le_trans S.2.2.1.1 e2, fun q g1 g2 => ?_⟩
    rw [e3 q (Nat.lt_of_lt_of_le g1 S.2.2.1.1)]
    exact S.2.2.1.2.1 q g1 g2
