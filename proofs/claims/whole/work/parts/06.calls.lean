def pcat (v : PV) : Nat := match v with
  | .inr (.inl _) => 2
  | _ => 1
theorem pcat_ok (G : GA) (v : PV) : (emb G v).category = pcat v := by
  rcases v with x | x | x | x
  · rfl
  · rfl
  · cases x <;> rfl
  · rfl
theorem pcat_sum (G : GA) (st : List PV) : ((st.map (emb G)).map fun v => v.category).sum = (st.map pcat).sum := by
  rw [List.map_map]
  congr 1
  exact List.map_congr_left (fun v _ => pcat_ok G v)
-- returns
theorem P_ireturn {d : Nat} {Y : MR} {Q : PO → PH → Prop} {rc rs pc : Nat} {ls st : List PV} {h : PH} {x : Int32} {ty : FieldType} (hd : decode Y.2.1 pc = .ok (.ireturn, 1)) (hr : Y.2.2.2.1 = some ty) (hn : narrow ty (.int x) = .int x) (hq : Q (.inl (some (vI x))) h) : PW d Y Q rc rs pc ls [vI x] h := by
  intro G D l p e R s m args below meth c mc ms C H locs cells slots lsr S
  refine vx_ret (W.widen (k := mc) (n := ms) (by have := S.2.2.2.1; omega) (by have := S.2.2.2.2; omega) ?_)
  exact W.zret C.1 C.2.1 (C.2.2.1.trans hr) hn (fun t ht hW => ⟨⟨some (vI x), h, rfl, hq, by rw [ht]; exact S.1.moved hW.alike⟩, S.2.2.1.F ht⟩) S.2.2.1.2.2 hd C.2.2.2.1
theorem P_lreturn {d : Nat} {Y : MR} {Q : PO → PH → Prop} {rc rs pc : Nat} {ls st : List PV} {h : PH} {x : Int64} (hd : decode Y.2.1 pc = .ok (.lreturn, 1)) (hr : Y.2.2.2.1 = some .long) (hq : Q (.inl (some (vL x))) h) : PW d Y Q rc rs pc ls [vL x] h := by
  intro G D l p e R s m args below meth c mc ms C H locs cells slots lsr S
  refine vx_ret (W.widen (k := mc) (n := ms) (by have := S.2.2.2.1; omega) (by have := S.2.2.2.2; omega) ?_)
  exact W.lret C.1 C.2.1 (C.2.2.1.trans hr) (fun t ht hW => ⟨⟨some (vL x), h, rfl, hq, by rw [ht]; exact S.1.moved hW.alike⟩, S.2.2.1.F ht⟩) S.2.2.1.2.2 hd C.2.2.2.1
theorem P_return {d : Nat} {Y : MR} {Q : PO → PH → Prop} {rc rs pc : Nat} {ls st : List PV} {h : PH} (hd : decode Y.2.1 pc = .ok (.return_, 1)) (hr : Y.2.2.2.1 = none) (hq : Q (.inl none) h) : PW d Y Q rc rs pc ls [] h := by
  intro G D l p e R s m args below meth c mc ms C H locs cells slots lsr S
  refine vx_ret (W.widen (k := mc) (n := ms) (by have := S.2.2.2.1; omega) (by have := S.2.2.2.2; omega) ?_)
  exact W.vret C.1 C.2.1 (C.2.2.1.trans hr) (fun t ht hW => ⟨⟨none, h, rfl, hq, by rw [ht]; exact S.1.moved hW.alike⟩, S.2.2.1.F ht⟩) S.2.2.1.2.2 hd C.2.2.2.1
-- switches
theorem P_tableIn {d : Nat} {Y : MR} {Q : PO → PH → Prop} {rc rs pc : Nat} {ls st : List PV} {h : PH} {dflt lo hi : Int} {offs : Array Int} {len : Nat} {x : Int32} {off : Int} {tgt : Nat} (hd : decode Y.2.1 pc = .ok (.tableswitch dflt lo hi offs, len)) (h1 : ¬ x.toInt < lo) (h2 : ¬ hi < x.toInt) (ho : offs[(x.toInt - lo).toNat]? = some off) (ht : (pc : Int) + off = (tgt : Int)) (k : PW d Y Q rc rs tgt ls st h) : PW d Y Q rc rs pc ls (vI x :: st) h := by
  intro G D l p e R s m args below meth c mc ms C H locs cells slots lsr S
  exact lv_tableIn C.1 C.2.1 hd h1 h2 ho ht (k G D l p e R s m args below meth c mc ms C H locs cells slots lsr S)
theorem P_tableOut {d : Nat} {Y : MR} {Q : PO → PH → Prop} {rc rs pc : Nat} {ls st : List PV} {h : PH} {dflt lo hi : Int} {offs : Array Int} {len : Nat} {x : Int32} {tgt : Nat} (hd : decode Y.2.1 pc = .ok (.tableswitch dflt lo hi offs, len)) (h1 : x.toInt < lo ∨ hi < x.toInt) (ht : (pc : Int) + dflt = (tgt : Int)) (k : PW d Y Q rc rs tgt ls st h) : PW d Y Q rc rs pc ls (vI x :: st) h := by
  intro G D l p e R s m args below meth c mc ms C H locs cells slots lsr S
  exact lv_tableOut C.1 C.2.1 hd h1 ht (k G D l p e R s m args below meth c mc ms C H locs cells slots lsr S)
theorem P_lookup {d : Nat} {Y : MR} {Q : PO → PH → Prop} {rc rs pc : Nat} {ls st : List PV} {h : PH} {dflt : Int} {ps : Array (Int × Int)} {len : Nat} {x : Int32} {off : Int} {tgt : Nat} (hd : decode Y.2.1 pc = .ok (.lookupswitch dflt ps, len)) (hp : (ps.toList.zip (ps.toList.drop 1)).all (fun (a, next) => a.1 < next.1) = true) (ho : Op.lookupswitch.offset ps.toList dflt x.toInt = off) (ht : (pc : Int) + off = (tgt : Int)) (k : PW d Y Q rc rs tgt ls st h) : PW d Y Q rc rs pc ls (vI x :: st) h := by
  intro G D l p e R s m args below meth c mc ms C H locs cells slots lsr S
  exact lv_lookup C.1 C.2.1 hd hp ho ht (k G D l p e R s m args below meth c mc ms C H locs cells slots lsr S)
-- constants of the pool
theorem P_ldc {d : Nat} {Y : MR} {Q : PO → PH → Prop} {rc rs pc : Nat} {ls st : List PV} {h : PH} {idx : Nat} {v : Int32} (hd : decode Y.2.1 pc = .ok (.ldc idx, 2)) (hl : Cond.constant Y.1.cls idx v ∈ TB) (k : PW d Y Q rc rs (pc + 2) ls (vI v :: st) h) : PW d Y Q rc rs pc ls st h := by
  intro G D l p e R s m args below meth c mc ms C H locs cells slots lsr S
  exact lv_ldc C.1 C.2.1 C.2.2.2.2.2.1 (C.2.2.2.2.2.2.1 _ hl) hd (k G D l p e R s m args below meth c mc ms C H locs cells slots lsr S)
theorem P_ldcw {d : Nat} {Y : MR} {Q : PO → PH → Prop} {rc rs pc : Nat} {ls st : List PV} {h : PH} {idx : Nat} {v : Int32} (hd : decode Y.2.1 pc = .ok (.ldc_w idx, 3)) (hl : Cond.constant Y.1.cls idx v ∈ TB) (k : PW d Y Q rc rs (pc + 3) ls (vI v :: st) h) : PW d Y Q rc rs pc ls st h := by
  intro G D l p e R s m args below meth c mc ms C H locs cells slots lsr S
  exact lv_ldcw C.1 C.2.1 C.2.2.2.2.2.1 (C.2.2.2.2.2.2.1 _ hl) hd (k G D l p e R s m args below meth c mc ms C H locs cells slots lsr S)
theorem P_ldcS {d : Nat} {Y : MR} {Q : PO → PH → Prop} {rc rs pc : Nat} {ls st : List PV} {h : PH} {idx i : Nat} {tx : String} (hd : decode Y.2.1 pc = .ok (.ldc idx, 2)) (hl : (Y.1.cls, (idx, (tx, i))) ∈ sTab) (k : PW d Y Q rc rs (pc + 2) ls (vR (1200, i) :: st) h) : PW d Y Q rc rs pc ls st h := by
  intro G D l p e R s m args below meth c mc ms C H locs cells slots lsr S
  exact va_ldcS (q := G.2.1 i) (tx := tx) C.1 C.2.1 C.2.2.2.2.2.1 (C.2.2.2.2.2.2.2.1.2.2.1 _ hl) hd (k G D l p e R s m args below meth c mc ms C H locs cells slots lsr S)
-- an exception on its way in this method
def PX (d : Nat) (Y : MR) (Q : PO → PH → Prop) (rc rs : Nat) (pc : Nat) (ls : List PV) (h : PH) (E : String) : Prop :=
  ∀ (G : GA) (D : va_G) (l : Launch) (p : Program) (e : Env) (R : Room) (s : State) (m : MethodId) (args : Array Value) (below : List Frame) (meth : Method) (c : Code) (mc ms : Nat), CX d Y mc ms G D l p R s m args meth c →
    ∀ (H : Heap) (locs : List Loc) (cells slots : Nat) (lsr : Array Slot) (rest : List Value) (q : Addr) (ce : Cell), SX G D Y.2.2.1 ls h rc rs mc ms s H locs cells slots lsr → H[q]? = some ce → ce.vm = .none → s.vm.findClass E = some ce.cls →
      vx_W p l e R s m args below meth c H locs cells slots (vx_MQ below (QR G D Q) (XR G D Q) args s mc ms (AB G)) (F0 m pc lsr rest) q
theorem PX_out {d : Nat} {Y : MR} {Q : PO → PH → Prop} {rc rs pc : Nat} {ls : List PV} {h : PH} {E : String} (hh : Y.2.2.2.2 = none) (hq : Q (.inr E) h) : PX d Y Q rc rs pc ls h E := by
  intro G D l p e R s m args below meth c mc ms C H locs cells slots lsr rest q ce S h1 h2 h3
  have ht : c.exceptionTable.toList = [] := by
    have := C.2.2.2.2.2.2.2.2.2.2.1
    rw [hh] at this
    exact this
  refine vx_out (fun x hx => by rw [ht] at hx; cases hx) C.2.2.2.1 h1 h2 h3 (fun t e1 e2 => ⟨⟨h, hq, by rw [e1]; exact S.1.moved e2⟩, S.2.2.1.F e1⟩) S.2.2.1.2.2 (by have := S.2.2.2.1; omega) (by have := S.2.2.2.2; omega)
-- a contract
def CT (d : Nat) (Y : MR) (av : List PV) (h : PH) (nc ns : Nat) (Q : PO → PH → Prop) : Prop :=
  ∀ (G : GA) (D : va_G) (l : Launch), l.stackTraces = false → vx_Met l Y.1 (WS Y) { frames := d, cells := nc, slots := ns, locals := 48 * d } (fun a U => a = (av.map (emb G)).toArray ∧ Rep G D h U U.heap ∧ KS G D U U.heap) (QR G D Q) (XR G D Q) nc ns (AB G)
def mOK (Y : MR) (n : Nat) : Prop := WS0 Y ∈ TB ∧ plainFor Y.1 = true ∧ (Y.1.cls ≠ "java/lang/invoke/MethodHandle" ∧ Y.1.cls ≠ "java/lang/invoke/VarHandle" ∧ (parseMethodDescriptor Y.1.desc).map (fun d => d.parameters.length) = some n) ∧ Y.2.2.1 ≤ 29
theorem TB_good : ∀ w ∈ TB, w ∈ TB ∧ ((w.onTables && w.keeps) = true ∨ ∃ ty, w = .arrayClass ty) := fun w hw => ⟨hw, good_of_word (List.mem_filter.mp hw).2⟩
theorem WS_good {Y : MR} {n : Nat} (hm : mOK Y n) : GoodIn TB (WS Y) := fun w hw => by
  rcases List.mem_cons.mp hw with e | hw
  · rw [e]; exact TB_good _ hm.1
  · exact TB_good w hw
theorem blind (G : GA) (D : va_G) (av : List PV) (h : PH) : FrameBlind (fun a U => a = (av.map (emb G)).toArray ∧ Rep G D h U U.heap ∧ KS G D U U.heap) := by
  intro a U g mk q
  exact ⟨q.1, Rep.moved (U := U.calling g mk a) (Vm.Alike.refl U.vm) q.2.1, KS.moved (U := U.calling g mk a) (State.WarmedH.refl U) q.2.2⟩
theorem KS_at {G : GA} {D : va_G} {s U : State} {H : Heap} {locs : List Loc} (k : KS G D s s.heap) (hS : va_S (AB G) s.heap H locs) (hW : s.WarmedH U.vm) : KS G D U H := (k.kept hS.2.1).moved hW
theorem va_S.call {G : GA} {s st₀ t T' : State} {H : Heap} {locs L : List Loc} (hS : va_S (AB G) s.heap H locs) (h0 : st₀.heap = H) (e1 : T'.heap = t.heap) (hL : ∀ q ∈ L, AB G q.base) (hF : va_F (AB G) st₀ t) : va_S (AB G) s.heap T'.heap (locs ++ L) := (vx_keep h0 e1 hS (fun _ _ h => h) (fun _ h => h) hL hF).2.2
theorem P_run {d : Nat} {Y : MR} {Q : PO → PH → Prop} {rc rs pc : Nat} {ls st : List PV} {h : PH} {st0 : List Value} {nc ns : Nat} {Qc : PO → PH → Prop} {G : GA} {D : va_G} {l : Launch} {p : Program} {e : Env} {R : Room} {s : State} {m : MethodId} {args a : Array Value} {below : List Frame} {meth : Method} {c : Code} {mc ms : Nat} (C : CX d Y mc ms G D l p R s m args meth c) {H : Heap} {locs : List Loc} {cells slots : Nat} {lsr : Array Slot} (S : SX G D Y.2.2.1 ls h (nc + rc) (ns + rs) mc ms s H locs cells slots lsr)
    (hr : vx_Run p l e R s m args below meth c H locs cells slots nc ns (F0 m pc lsr st0) (st.map (emb G)) (QR G D Qc a) (XR G D Qc) (AB G))
    (kk : ∀ v h1, Qc (.inl v) h1 → PW d Y Q rc rs (pc + 3) ls (v.toList ++ st) h1) (kx : ∀ E h1, Qc (.inr E) h1 → PX d Y Q rc rs pc ls h1 E) :
    W p l e R s m args below meth c H locs cells slots (vx_MQ below (QR G D Q) (XR G D Q) args s mc ms (AB G)) (F0 m pc lsr st0) := by
  intro T hT X
  have b1 := S.2.2.2.1
  have b2 := S.2.2.2.2
  rcases hr T hT X with ⟨v, st₀, t, T', L, h0, X', hL, e1, e2, ⟨⟨v', h', hv, hQ, hRp⟩, hF⟩, st9⟩ | ⟨q, st₀, t, T', L, E, ce, h0, X', hL, e1, e2, ⟨⟨h', hQ, hRp⟩, hF⟩, hce, hcv, hcl, st9⟩
  · have ev : v = v'.map (emb G) := by cases hv; rfl
    subst ev
    have hal : t.vm.Alike s.vm := by rw [← e2]; exact X'.warmed.alike.symm
    obtain ⟨t2, a1, c1⟩ := kk v' h' hQ G D l p e R s m args below meth c mc ms C T'.heap (locs ++ L) (cells + nc) (slots + ns) lsr ⟨by rw [e1]; exact hRp.moved hal, S.2.1, S.2.2.1.call h0 e1 hL hF, by omega, by omega⟩ T' rfl X'
    refine ⟨t2, st9 t2 ?_, c1⟩
    cases v' <;> exact a1
  · have hal : t.vm.Alike s.vm := by rw [← e2]; exact X'.warmed.alike.symm
    obtain ⟨t2, a1, c1⟩ := kx E h' hQ G D l p e R s m args below meth c mc ms C T'.heap (locs ++ L) (cells + nc) (slots + ns) lsr (st.map (emb G)) q ce ⟨by rw [e1]; exact hRp.moved hal, S.2.1, S.2.2.1.call h0 e1 hL hF, by omega, by omega⟩ (by rw [e1]; exact hce) hcv hcl T' rfl X'
    exact ⟨t2, st9.trans a1, c1⟩
theorem P_callV {d : Nat} {Y : MR} {Q : PO → PH → Prop} {rc rs pc : Nat} {ls st : List PV} {h : PH} {d2 idx n nc ns : Nat} {y2 : MethodName} {cc2 : ByteArray} {mL2 : Nat} {rt2 : Option FieldType} {ci k id : Nat} {v0 : PV} {q : vw_C} {As st0 : List PV} {Qc : PO → PH → Prop} (hd : decode Y.2.1 pc = .ok (.invokevirtual idx, 3)) (hm : mOK (y2, (cc2, (mL2, (rt2, none)))) n) (hl : Cond.methodLink Y.1.cls idx y2 ∈ TB) (hin : Cond.instanceMethod y2 ∈ TB) (hse : Cond.selects y2.cls y2 y2 ∈ TB) (hini : Cond.initialized y2.cls ∈ TB) (hn : As.length = n) (hdp : d2 + 1 ≤ d) (hst : (st.map pcat).sum ≤ 8) (hci : vwCl[ci]? = some q) (hqc : q.1 = y2.cls) (hk : k < 100) (hrv : h (10000 + 100 * ci + k, id) = pF v0) (hsk : As.reverse ++ vR (100 * ci, id) :: st = st0) (hc : CT d2 (y2, (cc2, (mL2, (rt2, none)))) (vR (100 * ci, id) :: As) h nc ns Qc)
    (kk : ∀ v h1, Qc (.inl v) h1 → PW d Y Q rc rs (pc + 3) ls (v.toList ++ st) h1) (kx : ∀ E h1, Qc (.inr E) h1 → PX d Y Q rc rs pc ls h1 E) : PW d Y Q (nc + rc) (ns + rs) pc ls st0 h := by
  subst hsk
  intro G D l p e R s m args below meth c mc ms C H locs cells slots lsr S
  have hts := C.2.2.2.2.2.2.1
  obtain ⟨f1, f2, f3, f4⟩ := C.2.2.2.2.2.2.2.2.2.2.2
  have b1 := S.2.2.2.1
  have b2 := S.2.2.2.2
  have hm4 := hm.2.2.2
  dsimp only at hm4
  refine P_run (Qc := Qc) (a := (List.map (emb G) (vR (100 * ci, id) :: As)).toArray) C S ?_ kk kx
  exact vx_runV (b := ra G (100 * ci, id)) (As := As.map (emb G)) ⟨C.1, C.2.1, C.2.2.2.2.1, C.2.2.2.2.2.1, hts⟩ (hc G D l C.2.2.2.2.2.2.2.2.1) (cwV n hts (Ts := TB) (fun w hw => by
    unfold wsV at hw
    rcases List.mem_append.mp hw with hw | hw
    · have : w ∈ TB := by
        simp only [List.mem_cons, List.not_mem_nil, or_false] at hw
        rcases hw with e | e | e | e <;> rw [e] <;> assumption
      exact TB_good w this
    · exact WS_good hm w hw) rfl rfl rfl ⟨rfl, hm.2.2.1⟩ ⟨(by show d2 + 1 ≤ R.frames; omega), (by show 8 + (mL2 + 11) + 48 * d2 ≤ R.locals; omega)⟩) ⟨blind G D _ h, (by
    have hra := ra_obj (G := G) (D := D) S.1.2.2.1 hk hrv
    obtain ⟨q9, g1, g2, V, g3, cell, g4, g5, g6, -⟩ := S.1.2.2.1 ci k id v0 hk hrv
    rw [hci] at g1
    cases g1
    refine ⟨cell, ?_, by rw [g6]; rfl, ?_⟩
    · rw [hra]; exact g4
    · rw [g5, ← hqc]; exact (C.2.2.2.2.2.2.2.1.1.1 ci _ hci).2.1), fun U hU hW => ⟨rfl, by rw [hU]; exact S.1.moved hW.alike, by rw [hU]; exact KS_at C.2.2.2.2.2.2.2.1 S.2.2.1 hW⟩⟩ rfl (by rw [List.length_map]; exact hn) (by show lsr.size = _; exact S.2.1.2.1) (rest := st.map (emb G)) (by show (As.reverse ++ vR (100 * ci, id) :: st).map (emb G) = _; rw [List.map_append, List.map_cons, ← List.map_reverse]; rfl) (by rw [show (F0 m pc lsr ((As.reverse ++ vR (100 * ci, id) :: st).map (emb G))).monitorRoom = 0 from rfl, pcat_sum]; omega) hd ⟨by omega, by omega⟩
theorem P_callS {d : Nat} {Y : MR} {Q : PO → PH → Prop} {rc rs pc : Nat} {ls st : List PV} {h : PH} {d2 idx n nc ns : Nat} {y2 : MethodName} {cc2 : ByteArray} {mL2 : Nat} {rt2 : Option FieldType} {As st0 : List PV} {Qc : PO → PH → Prop} (hd : decode Y.2.1 pc = .ok (.invokestatic idx, 3)) (hm : mOK (y2, (cc2, (mL2, (rt2, none)))) n) (hl : Cond.methodLink Y.1.cls idx y2 ∈ TB) (hsta : Cond.static y2 ∈ TB) (hini : Cond.initialized y2.cls ∈ TB) (hn : As.length = n) (hdp : d2 + 1 ≤ d) (hst : (st.map pcat).sum ≤ 8) (hsk : As.reverse ++ st = st0) (hc : CT d2 (y2, (cc2, (mL2, (rt2, none)))) (As) h nc ns Qc)
    (kk : ∀ v h1, Qc (.inl v) h1 → PW d Y Q rc rs (pc + 3) ls (v.toList ++ st) h1) (kx : ∀ E h1, Qc (.inr E) h1 → PX d Y Q rc rs pc ls h1 E) : PW d Y Q (nc + rc) (ns + rs) pc ls st0 h := by
  subst hsk
  intro G D l p e R s m args below meth c mc ms C H locs cells slots lsr S
  have hts := C.2.2.2.2.2.2.1
  obtain ⟨f1, f2, f3, f4⟩ := C.2.2.2.2.2.2.2.2.2.2.2
  have b1 := S.2.2.2.1
  have b2 := S.2.2.2.2
  have hm4 := hm.2.2.2
  dsimp only at hm4
  refine P_run (Qc := Qc) (a := (List.map (emb G) (As)).toArray) C S ?_ kk kx
  exact vx_runS (As := As.map (emb G)) ⟨C.1, C.2.1, C.2.2.2.2.1, C.2.2.2.2.2.1, hts⟩ (hc G D l C.2.2.2.2.2.2.2.2.1) ⟨callB_of n hts (WS_good hm) rfl rfl rfl (hts _ hini) (hts _ hl) hm.2.2.1 ⟨(by show d2 + 1 ≤ R.frames; omega), (by show 8 + (mL2 + 11) + 48 * d2 ≤ R.locals; omega)⟩, hts _ hsta⟩ ⟨blind G D _ h, fun U hU hW => ⟨rfl, by rw [hU]; exact S.1.moved hW.alike, by rw [hU]; exact KS_at C.2.2.2.2.2.2.2.1 S.2.2.1 hW⟩⟩ rfl (by rw [List.length_map]; exact hn) (by show lsr.size = _; exact S.2.1.2.1) (rest := st.map (emb G)) (by show (As.reverse ++ st).map (emb G) = _; rw [List.map_append, ← List.map_reverse]) (by rw [show (F0 m pc lsr ((As.reverse ++ st).map (emb G))).monitorRoom = 0 from rfl, pcat_sum]; omega) hd ⟨by omega, by omega⟩
theorem P_callI {d : Nat} {Y : MR} {Q : PO → PH → Prop} {rc rs pc : Nat} {ls st : List PV} {h : PH} {d2 idx n nc ns : Nat} {y2 : MethodName} {cc2 : ByteArray} {mL2 : Nat} {o : LA} {As st0 : List PV} {Qc : PO → PH → Prop} (hd : decode Y.2.1 pc = .ok (.invokespecial idx, 3)) (hm : mOK (y2, (cc2, (mL2, (none, none)))) n) (hl : Cond.methodLink Y.1.cls idx y2 ∈ TB) (hin : Cond.instanceMethod y2 ∈ TB) (hy1 : y2.name = "<init>") (hini : Cond.initialized y2.cls ∈ TB) (hn : As.length = n) (hdp : d2 + 1 ≤ d) (hst : (st.map pcat).sum ≤ 8) (hsk : As.reverse ++ vR o :: st = st0) (hc : CT d2 (y2, (cc2, (mL2, (none, none)))) (vR o :: As) h nc ns Qc)
    (kk : ∀ v h1, Qc (.inl v) h1 → PW d Y Q rc rs (pc + 3) ls (v.toList ++ st) h1) (kx : ∀ E h1, Qc (.inr E) h1 → PX d Y Q rc rs pc ls h1 E) : PW d Y Q (nc + rc) (ns + rs) pc ls st0 h := by
  subst hsk
  intro G D l p e R s m args below meth c mc ms C H locs cells slots lsr S
  have hts := C.2.2.2.2.2.2.1
  obtain ⟨f1, f2, f3, f4⟩ := C.2.2.2.2.2.2.2.2.2.2.2
  have b1 := S.2.2.2.1
  have b2 := S.2.2.2.2
  have hm4 := hm.2.2.2
  dsimp only at hm4
  refine P_run (Qc := Qc) (a := (List.map (emb G) (vR o :: As)).toArray) C S ?_ kk kx
  exact vx_runI (b := ra G o) (As := As.map (emb G)) ⟨C.1, C.2.1, C.2.2.2.2.1, C.2.2.2.2.2.1, hts⟩ (hc G D l C.2.2.2.2.2.2.2.2.1) (cwI n hts (WS_good hm) rfl rfl rfl (hts _ hini) (hts _ hl) (hts _ hin) hy1 hm.2.2.1 ⟨(by show d2 + 1 ≤ R.frames; omega), (by show 8 + (mL2 + 11) + 48 * d2 ≤ R.locals; omega)⟩) ⟨blind G D _ h, fun U hU hW => ⟨rfl, by rw [hU]; exact S.1.moved hW.alike, by rw [hU]; exact KS_at C.2.2.2.2.2.2.2.1 S.2.2.1 hW⟩⟩ rfl (by rw [List.length_map]; exact hn) (by show lsr.size = _; exact S.2.1.2.1) (rest := st.map (emb G)) (by show (As.reverse ++ vR o :: st).map (emb G) = _; rw [List.map_append, List.map_cons, ← List.map_reverse]; rfl) (by rw [show (F0 m pc lsr ((As.reverse ++ vR o :: st).map (emb G))).monitorRoom = 0 from rfl, pcat_sum]; omega) hd ⟨by omega, by omega⟩
theorem P_callSN {d : Nat} {Y : MR} {Q : PO → PH → Prop} {rc rs pc : Nat} {ls st : List PV} {h : PH} {d2 idx n nc ns : Nat} {y2 : MethodName} {cc2 : ByteArray} {mL2 : Nat} {rt2 : Option FieldType} {host : String} {As st0 : List PV} {Qc : PO → PH → Prop} (hd : decode Y.2.1 pc = .ok (.invokestatic idx, 3)) (hm : mOK (y2, (cc2, (mL2, (rt2, none)))) n) (hl : Cond.methodLinkNest Y.1.cls idx y2 host ∈ NB) (hsta : Cond.static y2 ∈ TB) (hini : Cond.initialized y2.cls ∈ TB) (hn : As.length = n) (hdp : d2 + 1 ≤ d) (hst : (st.map pcat).sum ≤ 8) (hsk : As.reverse ++ st = st0) (hc : CT d2 (y2, (cc2, (mL2, (rt2, none)))) (As) h nc ns Qc)
    (kk : ∀ v h1, Qc (.inl v) h1 → PW d Y Q rc rs (pc + 3) ls (v.toList ++ st) h1) (kx : ∀ E h1, Qc (.inr E) h1 → PX d Y Q rc rs pc ls h1 E) : PW d Y Q (nc + rc) (ns + rs) pc ls st0 h := by
  subst hsk
  intro G D l p e R s m args below meth c mc ms C H locs cells slots lsr S
  have hts := C.2.2.2.2.2.2.1
  obtain ⟨f1, f2, f3, f4⟩ := C.2.2.2.2.2.2.2.2.2.2.2
  have b1 := S.2.2.2.1
  have b2 := S.2.2.2.2
  have hm4 := hm.2.2.2
  dsimp only at hm4
  refine P_run (Qc := Qc) (a := (List.map (emb G) (As)).toArray) C S ?_ kk kx
  exact vx_runSN (As := As.map (emb G)) ⟨C.1, C.2.1, C.2.2.2.2.1, C.2.2.2.2.2.1, hts⟩ (hc G D l C.2.2.2.2.2.2.2.2.1) ⟨va_cnB n hts (WS_good hm) rfl rfl rfl (C.2.2.2.2.2.2.2.1.2.2.2.2.2.2.2.1 _ hl) (hts _ hini) hm.2.2.1 ⟨(by show d2 + 1 ≤ R.frames; omega), (by show 8 + (mL2 + 11) + 48 * d2 ≤ R.locals; omega)⟩, hts _ hsta, trivial⟩ ⟨blind G D _ h, fun U hU hW => ⟨rfl, by rw [hU]; exact S.1.moved hW.alike, by rw [hU]; exact KS_at C.2.2.2.2.2.2.2.1 S.2.2.1 hW⟩⟩ rfl (by rw [List.length_map]; exact hn) (by show lsr.size = _; exact S.2.1.2.1) (rest := st.map (emb G)) (by show (As.reverse ++ st).map (emb G) = _; rw [List.map_append, ← List.map_reverse]) (by rw [show (F0 m pc lsr ((As.reverse ++ st).map (emb G))).monitorRoom = 0 from rfl, pcat_sum]; omega) hd ⟨by omega, by omega⟩
theorem P_callIN {d : Nat} {Y : MR} {Q : PO → PH → Prop} {rc rs pc : Nat} {ls st : List PV} {h : PH} {d2 idx n nc ns : Nat} {y2 : MethodName} {cc2 : ByteArray} {mL2 : Nat} {o : LA} {host : String} {As st0 : List PV} {Qc : PO → PH → Prop} (hd : decode Y.2.1 pc = .ok (.invokespecial idx, 3)) (hm : mOK (y2, (cc2, (mL2, (none, none)))) n) (hl : Cond.methodLinkNest Y.1.cls idx y2 host ∈ NB) (hin : Cond.instanceMethod y2 ∈ TB) (hy1 : y2.name = "<init>") (hini : Cond.initialized y2.cls ∈ TB) (hn : As.length = n) (hdp : d2 + 1 ≤ d) (hst : (st.map pcat).sum ≤ 8) (hsk : As.reverse ++ vR o :: st = st0) (hc : CT d2 (y2, (cc2, (mL2, (none, none)))) (vR o :: As) h nc ns Qc)
    (kk : ∀ v h1, Qc (.inl v) h1 → PW d Y Q rc rs (pc + 3) ls (v.toList ++ st) h1) (kx : ∀ E h1, Qc (.inr E) h1 → PX d Y Q rc rs pc ls h1 E) : PW d Y Q (nc + rc) (ns + rs) pc ls st0 h := by
  subst hsk
  intro G D l p e R s m args below meth c mc ms C H locs cells slots lsr S
  have hts := C.2.2.2.2.2.2.1
  obtain ⟨f1, f2, f3, f4⟩ := C.2.2.2.2.2.2.2.2.2.2.2
  have b1 := S.2.2.2.1
  have b2 := S.2.2.2.2
  have hm4 := hm.2.2.2
  dsimp only at hm4
  refine P_run (Qc := Qc) (a := (List.map (emb G) (vR o :: As)).toArray) C S ?_ kk kx
  exact vx_runIN (b := ra G o) (As := As.map (emb G)) ⟨C.1, C.2.1, C.2.2.2.2.1, C.2.2.2.2.2.1, hts⟩ (hc G D l C.2.2.2.2.2.2.2.2.1) ⟨va_cnB n hts (WS_good hm) rfl rfl rfl (C.2.2.2.2.2.2.2.1.2.2.2.2.2.2.2.1 _ hl) (hts _ hini) hm.2.2.1 ⟨(by show d2 + 1 ≤ R.frames; omega), (by show 8 + (mL2 + 11) + 48 * d2 ≤ R.locals; omega)⟩, hy1, hts _ hin⟩ ⟨blind G D _ h, fun U hU hW => ⟨rfl, by rw [hU]; exact S.1.moved hW.alike, by rw [hU]; exact KS_at C.2.2.2.2.2.2.2.1 S.2.2.1 hW⟩⟩ rfl (by rw [List.length_map]; exact hn) (by show lsr.size = _; exact S.2.1.2.1) (rest := st.map (emb G)) (by show (As.reverse ++ vR o :: st).map (emb G) = _; rw [List.map_append, List.map_cons, ← List.map_reverse]; rfl) (by rw [show (F0 m pc lsr ((As.reverse ++ vR o :: st).map (emb G))).monitorRoom = 0 from rfl, pcat_sum]; omega) hd ⟨by omega, by omega⟩
