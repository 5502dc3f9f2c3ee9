/-! a virtual call over a stack of up to sixteen words -/
theorem runV16 {p : Program} {l : Launch} {e : Env} {R : Room} {s : State} {m : MethodId} {args : Array Value} {below : List Frame} {meth : Method} {c : Code} {H : Heap} {locs : List Loc} {cells slots : Nat} {y : MethodName} {bytes cc : ByteArray} {maxL nL mc ms n index : Nat} {ret : Option FieldType} {ws : List Cond} {rm : Room} {Pc : Array Value → State → Prop} {Qc : Array Value → State → Outcome → State → Prop} {XC : String → State → State → Prop} {free : Addr → Prop} {Ts : List Cond} {own C : String} {b : Addr} {As rest : List Value} {g : JFrame}
    (S : CallFix p m c cc nL s args Ts own) (hM : vx_Met l y ws rm Pc Qc XC mc ms free) (cw : CallW R s args own C index y bytes maxL ret ws rm mc ms n) (hlo16 : 16 + (maxL + 11) + rm.locals ≤ R.locals) (hp : PreV s H C b Pc As)
    (hg : g.method = m) (hn : As.length = n) (hsize : g.locals.size = nL) (hstack : g.stack = As.reverse ++ .ref b :: rest) (hW : 2 * g.monitorRoom + (rest.map fun v => v.category).sum ≤ 16) (hdg : decode cc g.pc = .ok (.invokevirtual index, 3)) (hf : cells + mc ≤ R.cells ∧ slots + ms ≤ R.slots) :
    vx_Run p l e R s m args below meth c H locs cells slots mc ms g rest (Qc (Value.ref b :: As).toArray) XC free := by
  obtain ⟨⟨hrc, hrs, hfr, hlo, hws, hcw, hcode, hini, hy, hlen, hl⟩, hin, hse⟩ := cw
  have hK : vx_Back l R p e below s args y 3 16 (PreOf R mc ms Pc) (PostOf Qc mc ms free) (vx_Post XC mc ms free) := vx_back (bytes := bytes) (maxL := maxL) (ret := ret) hM hp.1 hrc hrs hfr hlo16 hws hcw (fun a' U hW => word_at hW (Or.inl (by first | rfl | simp [Cond.onTables, Cond.keeps, Cond.steady])) hini)
  obtain ⟨hx, hb, hml, ho, -⟩ := S
  obtain ⟨-, ⟨cellB, hcB, hoB, hclB⟩, hPc⟩ := hp
  intro T hT X
  rcases vx_callV X hx (C := C) (bytes := bytes) (maxL := maxL) (ret := ret) ho hl hin hse hcode hy hK (by rw [hT]; exact hcB) hoB hclB hg (hsize.trans hml.symm) (argsL := As) (rest := rest) (fun sig h => hn.trans (hlen sig h)) hstack hW (by rw [hb]; exact hdg)
    (fun vm₁ hW₁ => ⟨hf.1, hf.2, hPc (T.setVm vm₁) hT hW₁⟩) with ⟨v, vm₁, ⟨U', l2, c2, s2⟩, hW₁, X', ⟨g', mk, t, L, e1, e2, hq, h1, hL, h2, h3⟩, st⟩ | ⟨q, vm₁, ⟨U', l2, c2, s2⟩, hW₁, X', ⟨g', mk, t, L, E, ce, e1, e2, hq, hce, hcv, hcl, h1, hL, h2, h3⟩, st⟩
  · dsimp only [Pt.U, Pt.locs, Pt.cells, Pt.slots] at X' e1 e2 h1 h2 h3 st
    subst h1; subst h2; subst h3
    exact Or.inl ⟨v, (T.setVm vm₁).calling g' mk (Value.ref b :: As).toArray, t, U', L, hT, X', hL, e1, e2, hq, st⟩
  · dsimp only [Pt.U, Pt.locs, Pt.cells, Pt.slots] at X' e1 e2 h1 h2 h3 st hcl
    subst h1; subst h2; subst h3
    exact Or.inr ⟨q, (T.setVm vm₁).calling g' mk (Value.ref b :: As).toArray, t, U', L, E, ce, hT, X', hL, e1, e2, hq, hce, hcv, vx_cls hW₁ hcl, st⟩
theorem P_callV16 {d : Nat} {Y : MR} {Q : PO → PH → Prop} {rc rs pc : Nat} {ls st : List PV} {h : PH} {d2 idx n nc ns : Nat} {y2 : MethodName} {cc2 : ByteArray} {mL2 : Nat} {rt2 : Option FieldType} {ci k id : Nat} {v0 : PV} {q : vw_C} {As st0 : List PV} {Qc : PO → PH → Prop} (hd : decode Y.2.1 pc = .ok (.invokevirtual idx, 3)) (hm : mOK (y2, (cc2, (mL2, (rt2, none)))) n) (hl : Cond.methodLink Y.1.cls idx y2 ∈ TB) (hin : Cond.instanceMethod y2 ∈ TB) (hse : Cond.selects y2.cls y2 y2 ∈ TB) (hini : Cond.initialized y2.cls ∈ TB) (hn : As.length = n) (hdp : d2 + 1 ≤ d) (hst : (st.map pcat).sum ≤ 16) (hmL : mL2 ≤ 21) (hci : vwCl[ci]? = some q) (hqc : q.1 = y2.cls) (hk : k < 100) (hrv : h (10000 + 100 * ci + k, id) = pF v0) (hsk : As.reverse ++ vR (100 * ci, id) :: st = st0) (hc : CT d2 (y2, (cc2, (mL2, (rt2, none)))) (vR (100 * ci, id) :: As) h nc ns Qc)
    (kk : ∀ v h1, Qc (.inl v) h1 → PW d Y Q rc rs (pc + 3) ls (v.toList ++ st) h1) (kx : ∀ E h1, Qc (.inr E) h1 → PX d Y Q rc rs pc ls h1 E) : PW d Y Q (nc + rc) (ns + rs) pc ls st0 h := by
  subst hsk
  intro G D l p e R s m args below meth c mc ms C H locs cells slots lsr S
  have hts := C.2.2.2.2.2.2.1
  obtain ⟨f1, f2, f3, f4⟩ := C.2.2.2.2.2.2.2.2.2.2.2
  have b1 := S.2.2.2.1
  have b2 := S.2.2.2.2
  have hm4 := hm.2.2.2
  dsimp only at hm4
  refine P_run (Qc := Qc) (a := (List.map (emb G) (vR (100 * ci, id) :: As)).toArray) C S ?_ kk kx
  exact runV16 (b := ra G (100 * ci, id)) (As := As.map (emb G)) ⟨C.1, C.2.1, C.2.2.2.2.1, C.2.2.2.2.2.1, hts⟩ (hc G D l C.2.2.2.2.2.2.2.2.1) (cwV n hts (Ts := TB) (fun w hw => by
    unfold wsV at hw
    rcases List.mem_append.mp hw with hw | hw
    · have : w ∈ TB := by
        simp only [List.mem_cons, List.not_mem_nil, or_false] at hw
        rcases hw with e | e | e | e <;> rw [e] <;> assumption
      exact TB_good w this
    · exact WS_good hm w hw) rfl rfl rfl ⟨rfl, hm.2.2.1⟩ ⟨(by show d2 + 1 ≤ R.frames; omega), (by show 8 + (mL2 + 11) + 48 * d2 ≤ R.locals; omega)⟩) (by show 16 + (mL2 + 11) + 48 * d2 ≤ R.locals; omega) ⟨blind G D _ h, (by
    have hra := ra_obj (G := G) (D := D) S.1.2.2.1 hk hrv
    obtain ⟨q9, g1, g2, V, g3, cell, g4, g5, g6, -⟩ := S.1.2.2.1 ci k id v0 hk hrv
    rw [hci] at g1
    cases g1
    refine ⟨cell, ?_, by rw [g6]; rfl, ?_⟩
    · rw [hra]; exact g4
    · rw [g5, ← hqc]; exact (C.2.2.2.2.2.2.2.1.1.1 ci _ hci).2.1), fun U hU hW => ⟨rfl, by rw [hU]; exact S.1.moved hW.alike, by rw [hU]; exact KS_at C.2.2.2.2.2.2.2.1 S.2.2.1 hW⟩⟩ rfl (by rw [List.length_map]; exact hn) (by show lsr.size = _; exact S.2.1.2.1) (rest := st.map (emb G)) (by show (As.reverse ++ vR (100 * ci, id) :: st).map (emb G) = _; rw [List.map_append, List.map_cons, ← List.map_reverse]; rfl) (by rw [show (F0 m pc lsr ((As.reverse ++ vR (100 * ci, id) :: st).map (emb G))).monitorRoom = 0 from rfl, pcat_sum]; omega) hd ⟨by omega, by omega⟩
