/-! THE CLAIM OUT OF ONE WALK OF THE LAW'S BODY. Your part is whole_start (and what it stands on); all else here is the same for every law, but numbers. -/
def R_law : String := "FernHeirsLaw"
def lw_P (b : Addr) (xs : List Int32) (args : Array Value) (s : State) : Prop := args = #[.ref b] ∧ s.IntsAt b xs ∧ xs.length ≤ 5120 ∧ (Jvm.Cond.and given_1 narrow_1).before args s = true
def lw_Q (_ : Array Value) (s : State) (o : Outcome) (t : State) : Prop := o = .returned (some (.int 1)) ∧ Framed s o t [] 601024 7293034
def lw_Z (below : List Frame) (a : Array Value) (s : State) : State → Prop := fun t => ∃ o, t.status = .running ∧ Ended t below o ∧ lw_Q a s o t
/-- the law's own end, with 1 on the stack, nothing written that was there before, its room as the claim has it -/
theorem lw_ret {p : Program} {l : Launch} {e : Env} {s : State} {m : MethodId} {below : List Frame} {meth : Method} {c : Code} {b : Nat} (hx : p.tables.exec = Jvm.exec) (hb : c.code = code) (hr : meth.sig.returnType = ret) (hlocks : meth.locks = false) {pc : Nat} {H : Heap} {ls : Array Slot} (hdg : decode code pc = .ok (.ireturn, 1)) : W p l e room_1 s m #[Value.ref b] below meth c H [] 601024 7293034 (lw_Z below #[Value.ref b] s) (F0 m pc ls [.int 1]) := by
  intro T hT X
  obtain ⟨fs, hret, hrun, hended, hW, hframe⟩ := X.leave (v := some (.int 1)) (hlocks := hlocks) (fun h => by rw [hr] at h; cases h)
  have hmeth' : T.vm.method? m = some meth := X.method'
  refine ⟨T.setFrames fs, ?_, .returned (some (.int 1)), hrun, hended, rfl, ⟨_, rfl⟩, hW, hframe⟩
  jvm_step X.here [X.here.top, hx, hb, hdg, hmeth', hr, ret, narrow_b1]
  (try refine ⟨rfl, ?_⟩); (try refine ⟨rfl, ?_⟩)
  first | (intro acts; rw [hret _ acts rfl rfl rfl]) | rw [hret _ _ rfl rfl rfl]
  exact Steps.refl _
/-- what holds at the law's entry: the machine, the code, the tables' words (any of lw_tbl by 'hts w (by decide +kernel)'), the script of L ints xs at the cell b, what the Statement gives of the start (any of its parts by flat_of_before) -/
def lw_At (p : Program) (s : State) (m : MethodId) (meth : Method) (c : Code) (b L : Nat) (xs : Nat → Int32) : Prop :=
  p.tables.exec = Jvm.exec ∧ c.code = code ∧ meth.sig.returnType = ret ∧ c.maxLocals = 7 ∧ s.vm.findClass R_law = some m.cls ∧ (∀ w ∈ lw_tbl, w.before #[Value.ref b] s = true) ∧ va_X b L xs s s.heap ∧ b < s.heap.size ∧ meth.locks = false ∧ (Jvm.Cond.and given_1 narrow_1).before #[Value.ref b] s = true
/-- what the heap says may be used -/
theorem P_rep {d : Nat} {Y : MR} {Q : PO → PH → Prop} {rc rs pc : Nat} {ls st : List PV} {h : PH} {Φ : Prop} (hΦ : ∀ G D s H, Rep G D h s H → Φ) (k : Φ → PW d Y Q rc rs pc ls st h) : PW d Y Q rc rs pc ls st h := by
  intro G D l p e1 R s m args below meth c mc ms C H locs cells slots lsr S
  exact k (hΦ G D s H S.1) G D l p e1 R s m args below meth c mc ms C H locs cells slots lsr S
theorem body {L : Nat} {xs : Nat → Int32} {h0 : PH} {g0 : PA} (hL : L ≤ 5120) (hz : h0 SZ = pA 99 0 g0) (hs : h0 (1201, 0) = pA 98 L (.inl xs)) : PW 60 M_L_law_ QL (1 + (841 + (1 + (28 + (1 + bR 512))))) (18 + (9887 + (55 + (8107 + (1 + bS 512))))) 0 [vR (1201, 0), vU, vU, vU, vU, vU, vU] [] h0 := by
  refine r_L_law__0 ?_
  refine nwO_ok hz (fun hA zA fA gA => ?_)
  refine cl_i (D := 3) (by decide) (i_X9 zA fA) (fun h5 q => ?_)
  obtain ⟨hK, w, g1, b9, m, r, z, f⟩ := q
  have z5 : h5 SZ = pA 99 842 g0 := (g1.out (t := 1299) (i := 0) (by decide) (by decide) (by decide) (by decide)).trans z
  have s5 : h5 (1201, 0) = pA 98 L (.inl xs) := by
    rw [g1.out (t := 1201) (i := 0) (by decide) (by decide) (by decide) (by decide), f (1201, 0) (by decide) (Or.inl ⟨by decide, by decide⟩), gA (1201, 0) (by decide) (Or.inl ⟨by decide, by decide⟩)]
    exact hs
  refine nwO_ok z5 (fun hB zB fB gB => ?_)
  refine cl_i (D := 2) (by decide) (i_X10 zB fB) (fun h12 q => ?_)
  obtain ⟨hM, v, g2, b10, zM, f3⟩ := q
  have z12 : h12 SZ = pA 99 871 g0 := (g2.2.2.2 SZ (fun q => by
    rcases q with ⟨_, q⟩ | ⟨_, q⟩
    · exact absurd (y1_i q).2 (by decide)
    · exact absurd (y1_i q).2 (by decide))).trans zM
  refine ⟨(1101, 870), 1, 871, g0, bR 512, bS 512, rfl, by omega, z12, by decide, by decide, rfl, rfl, rfl, ?_⟩
  generalize e16 : up (up h12 (1101, 870) (pA 3 1 (.inr (.inl (fun _ => 0))))) SZ (pA 99 (871 + 1) g0) = h16
  refine P_rep (Φ := ∀ a n g, h16 a = pA 99 n g → a = SZ) (fun G D s H rp a n g ha => (rp.2.2.2.2.2.1 a n g ha).1) (fun n9 => ?_)
  have I : IN0 hK h5 hB hM h12 h16 w v g0 L xs := ⟨g1, b9, m, r, gB, g2, b10, f3, e16.symm, s5, n9⟩
  exact P_eqH (eq16 I) (loop23 hL 512 0 _ _ _ (by omega) (by omega) (WH16 I) (INV16 I))
def hS0 (L : Nat) (xs : Nat → Int32) : PH := fun a => if a = (1201, 0) then pA 98 L (.inl xs) else if a = SZ then pA 99 0 zA else none
theorem Rep0 {G : GA} {D : va_G} {s : State} {L : Nat} {xs : Nat → Int32} (h1 : G.1 = s.heap.size) (hb : G.2.2.2 < s.heap.size) (hX : va_X G.2.2.2 L xs s s.heap) : Rep G D (hS0 L xs) s s.heap := by
  have key : ∀ a c, hS0 L xs a = some c → (a = (1201, 0) ∧ c = .inr (98, (L, .inl xs))) ∨ (a = SZ ∧ c = .inr (99, (0, zA))) := by
    intro a c h
    unfold hS0 at h
    by_cases e1 : a = (1201, 0)
    · rw [if_pos e1] at h
      exact Or.inl ⟨e1, (Option.some.inj h).symm⟩
    · rw [if_neg e1] at h
      by_cases e2 : a = SZ
      · rw [if_pos e2] at h
        exact Or.inr ⟨e2, (Option.some.inj h).symm⟩
      · rw [if_neg e2] at h
        cases h
  refine ⟨by omega, by omega, fun ci k id v hk hv => ?_, fun a kd n g hk ha => ?_, fun a n g ha => ?_, fun a n g ha => ?_, fun a b ha hb => ?_⟩
  · rcases key _ _ hv with ⟨_, e⟩ | ⟨_, e⟩ <;> cases e
  · rcases key _ _ ha with ⟨_, e⟩ | ⟨_, e⟩
    · injection e with e
      have := (Prod.mk.inj e).1
      omega
    · injection e with e
      have := (Prod.mk.inj e).1
      omega
  · rcases key _ _ ha with ⟨e0, e⟩ | ⟨_, e⟩
    · injection e with e
      obtain ⟨_, e⟩ := Prod.mk.inj e
      obtain ⟨e1, e2⟩ := Prod.mk.inj e
      subst e1
      exact ⟨e0, xs, e2, hX⟩
    · injection e with e
      have := (Prod.mk.inj e).1
      omega
  · rcases key _ _ ha with ⟨_, e⟩ | ⟨e0, e⟩
    · injection e with e
      have := (Prod.mk.inj e).1
      omega
    · injection e with e
      obtain ⟨_, e⟩ := Prod.mk.inj e
      obtain ⟨e1, e2⟩ := Prod.mk.inj e
      subst e1
      exact ⟨e0, by omega⟩
  · rcases ha with ⟨ci, k, v, x1, x2, x3⟩ | ⟨kd, n, g, x1, x2⟩
    · rcases key _ _ x3 with ⟨_, e⟩ | ⟨_, e⟩ <;> cases e
    · rcases key _ _ x2 with ⟨_, e⟩ | ⟨_, e⟩
      · injection e with e
        have := (Prod.mk.inj e).1
        omega
      · injection e with e
        have := (Prod.mk.inj e).1
        omega
theorem sbn_nil {s t : State} {Lc : List Loc} {k n : Nat} (h : s.sameButNew t Lc k n) (hf : ∀ q ∈ Lc, s.heap.size ≤ q.base) : s.sameButNew t [] k n := by
  obtain ⟨h1, h2, h3, h4, h5, h6⟩ := h
  refine ⟨h1, h2, h3, h4, h5, fun a c hc => ?_⟩
  obtain ⟨c', e1, e2, e3, e4⟩ := h6 a c hc
  refine ⟨c', e1, e2, e3, fun i _ => e4 i (fun hm => ?_)⟩
  have g1 := hf _ hm
  have g2 := (Array.getElem?_eq_some_iff.mp hc).1
  have g1 : s.heap.size ≤ a := g1
  omega
theorem bR_eq : ∀ r, bR r = 9 * r
  | 0 => rfl
  | r + 1 => by
    show 9 + bR r = _
    rw [bR_eq r]
    omega
theorem bS_eq : ∀ r, bS r = 54 * r
  | 0 => rfl
  | r + 1 => by
    show 54 + bS r = _
    rw [bS_eq r]
    omega
theorem whole_start {p : Program} {e : Env} {s : State} {m : MethodId} {below : List Frame} {meth : Method} {c : Code} (l : Launch) (hflags : l.flags = flags0) {b L : Nat} {xs : Nat → Int32} (hL : L ≤ 5120) (C0 : lw_At p s m meth c b L xs) (hnm : meth.name = x.name) (hex : c.exceptionTable.toList = []) : W p l e room_1 s m #[Value.ref b] below meth c s.heap [] 0 0 (lw_Z below #[Value.ref b] s) (entryFrame m ([Value.ref b] : List Value).toArray 7) := by
  obtain ⟨hx, hb, hr, hml, hown, hts, hX, hbl, hlocks, hgv⟩ := C0
  have hF : ∀ w ∈ FC, w.before #[Value.ref b] s = true := flat_of_before _ hgv
  obtain ⟨G, D, hG1, hG2, hKS⟩ := KS_of (b := b) hF hts
  have htr : l.stackTraces = false := by
    unfold Launch.stackTraces
    rw [hflags]
    decide +kernel
  have C1 : CX 60 M_L_law_ 601024 7293034 G D l p room_1 s m #[Value.ref b] meth c := ⟨hx, hb, hr, hlocks, hml, hown, fun w hw => hts w (List.mem_filter.mp hw).1, hKS, htr, hnm, hex, Nat.le_of_ble_eq_true rfl, Nat.le_of_ble_eq_true rfl, Nat.le_of_ble_eq_true rfl, Nat.le_of_ble_eq_true rfl⟩
  have R0 : Rep G D (hS0 L xs) s s.heap := Rep0 hG1 (by rw [hG2]; exact hbl) (by rw [hG2]; exact hX)
  have hB := body (L := L) (xs := xs) (h0 := hS0 L xs) (g0 := zA) hL rfl rfl
  have hA : ([Value.ref b] : List Value) = List.map (emb G) [vR (1201, 0)] := by
    show [Value.ref b] = [Value.ref (ra G (1201, 0))]
    rw [show ra G (1201, 0) = b from hG2]
  have hbud1 : 0 + (1 + (841 + (1 + (28 + (1 + bR 512))))) ≤ 601024 := by
    rw [bR_eq]
    omega
  have hbud2 : 0 + (18 + (9887 + (55 + (8107 + (1 + bS 512))))) ≤ 7293034 := by
    rw [bS_eq]
    omega
  have hLR := LR_entry (av := [vR (1201, 0)]) (ls := [vR (1201, 0), vU, vU, vU, vU, vU, vU]) (nL := 7) G (Nat.le_of_ble_eq_true rfl) rfl
  rw [← hA] at hLR
  have key := hB G D l p e room_1 s m #[Value.ref b] below meth c 601024 7293034 C1 s.heap [] 0 0 _ ⟨R0, hLR, va_S.rf, hbud1, hbud2⟩
  rw [lg_entry_eq]
  intro T hT X
  obtain ⟨t, st, o, h1, h2, h3⟩ := key T hT X
  refine ⟨t, st, o, h1, h2, ?_⟩
  rcases h3 with ⟨⟨⟨v, h', e1, e2, e3⟩, e4⟩, Lc, e5, e6⟩ | ⟨q, e1, E, ce, Lc, ⟨⟨h', e2, e3⟩, e4⟩, e5⟩
  · have e2 : (Sum.inl v : PO) = .inl (some (vI 1)) := e2
    injection e2 with e2
    subst e2
    obtain ⟨f1, f2, f3⟩ := e5
    exact ⟨e1, f1, f2, sbn_nil f3 (fun q hq => by
      have := e6 q hq
      have this : G.1 ≤ q.base := this
      omega)⟩
  · have e2 : (Sum.inr E : PO) = .inl (some (vI 1)) := e2
    cases e2
-- ===== YOUR PART ENDS =====
set_option maxHeartbeats 4000000 in
theorem lw_walk (l : Launch) (hflags : l.flags = flags0) (b : Addr) (xs : List Int32) : MetFree l x (headSpec (Jvm.Cond.code x code maxLocals ret :: tables_1) room_1) (lw_P b xs) (fun _ _ _ _ _ => True) lw_Q := by
  refine MetFree.of_bodyS (code := code) (maxLocals := maxLocals) (ret := ret) (by decide) ?_ ?_
  · intro args s m h hn
    obtain ⟨meth, c, h1, h2, h3, h4, h5, h6, -, -⟩ := Cond.code_spec hn (atoms_spec (ws := Jvm.Cond.code x code maxLocals ret :: tables_1) h _ List.mem_cons_self)
    exact ⟨meth, c, h1, h2, h3, h4, h5, h6⟩
  · intro p e s m args below meth c s₁ B hml0 hP _
    obtain ⟨rfl, hx, hbd, hgv⟩ := hP
    obtain ⟨scr, harrAt, hlist, hof, hsmall⟩ := hx
    obtain ⟨hcb, hkn, -, -⟩ := State.arrayAt?_spec harrAt
    have hown : s.vm.findClass R_law = some m.cls := findClass_of_methodNamed B.named
    have hts0 : ∀ c ∈ (Jvm.Cond.code x code maxLocals ret :: tables_1), c.before #[Value.ref b] s = true := atoms_spec (ws := Jvm.Cond.code x code maxLocals ret :: tables_1) B.pre
    have hts : ∀ w ∈ lw_tbl, w.before #[Value.ref b] s = true := k2_hts_sels lw_privs (fun w hw => hts0 w (List.mem_cons_of_mem _ hw)) lw_privs_ok
    have hml : c.maxLocals = 7 := B.maxLocals_eq (hts0 _ List.mem_cons_self)
    have X₀ : Stand p l e room_1 s m #[Value.ref b] below meth c s₁ [] 0 0 := Stand.of_body B
    have hh0 : s₁.heap = s.heap := by rw [B.state]; rfl
    have hsz : scr.slots.size = xs.length := by rw [← Array.length_toList, hlist, List.length_map]
    have hval : ∀ j : Nat, j < xs.length → scr.slots[j]? = some (.int (xs.getD j 0)) := fun j hj => by
      rw [← Array.getElem?_toList, hlist]
      simp [hj]
    have hbl : b < s.heap.size := (Array.getElem?_eq_some_iff.mp hcb).1
    have hX : va_X b xs.length (fun j => xs.getD j 0) s s.heap := ⟨scr, hcb, hof, hkn, hsz, hval⟩
    have K : W p l e room_1 s m #[Value.ref b] below meth c s₁.heap [] 0 0 (lw_Z below #[Value.ref b] s) (entryFrame m ([Value.ref b] : List Value).toArray 7) := by
      rw [hh0]
      refine whole_start l hflags hbd ⟨B.exec, B.bytes, B.returns, hml, hown, hts, hX, hbl, B.notSynchronized, hgv⟩ (name_of_methodNamed B.named B.method).1 ?_
      obtain ⟨meth9, c9, h1, h2, -, -, -, -, h7, -⟩ := Cond.code_spec B.named (hts0 _ List.mem_cons_self)
      cases Option.some.inj (h1.symm.trans B.method)
      cases Option.some.inj (h2.symm.trans X₀.code)
      rw [Array.isEmpty_iff.mp h7]
    obtain ⟨t, a1, o, b1, b2, b3⟩ := K s₁ rfl X₀
    exact ⟨t, o, a1, b1, b2, b3⟩
theorem lw_pre_spec {args : Array Value} {s : State} (h : (Jvm.Cond.and given_1 narrow_1).before args s = true) (hr : rest_1_c.before args s = true) : ∃ (b : Addr) (xs : List Int32), lw_P b xs args s := by
  have hs := flat_of_before _ h
  have hq := flat_of_before _ hr
  have hc : (Cond.count 1).before args s = true := hs _ (by decide +kernel)
  have harr : (Cond.arrayOf (.arg 0) .int).before args s = true := hs _ (by decide +kernel)
  have hle : (Cond.le (.length (.arg 0)) (.int 5120)).before args s = true := hs _ (by decide +kernel)
  have hlen : (Cond.isInt (.length (.arg 0))).before args s = true := hq _ (by decide +kernel)
  have hall : (Cond.all (.arg 0) (.isInt (.elem (.arg 0) (.index 0)))).before args s = true := hq _ (by decide +kernel)
  obtain ⟨b, xs, hb, hx⟩ := State.ints_of_pre rfl harr hlen hall
  have hsm : xs.length < 2 ^ 31 := hx.choose_spec.2.2.2
  have hev : (Term.length (.arg 0)).eval args s none [] s = some (.int xs.length.toInt32) := hx.length_eval hb
  have hv := Cond.le_ints hev (show (Term.int 5120).eval args s none [] s = some (.int 5120) from rfl)
  have hd : xs.length.toInt32 ≤ 5120 := by
    simpa [Cond.before, Cond.holds, hv] using hle
  have hN : xs.length ≤ 5120 := (Int32.ofNat_le_ofNat hsm (by decide)).mp (show Int32.ofNat xs.length ≤ Int32.ofNat 5120 from hd)
  exact ⟨b, xs, Cond.one_arg hc (show args[0]? = some (.ref b) from hb), hx, hN, h⟩
theorem lw_comes (l : Launch) (hflags : l.flags = flags0) : Comes l x (Jvm.Cond.code x code maxLocals ret :: tables_1) room_1 (fun tb e args s => Calls_1 tb e args s ∧ rest_1 tb e args s ∧ Pre_1 tb e args s)
    (fun _ _ args s o t => lw_Q args s o t) := by
  intro p e ha hc hk s m args below hf hfit hheap happ hpre
  obtain ⟨b, xs, hP⟩ := lw_pre_spec hpre.2.2 hpre.2.1
  obtain ⟨k, o, h1, h2, h3, hQ⟩ := lw_walk l hflags b xs p e ha hc hk s m args below hf ((Spec.applies_iff_loose hf).mp happ).1 hP trivial
  exact ⟨k, o, h1, h2, h3, hQ⟩
theorem lw_frame {s t : State} {o : Outcome} {args : Array Value} (h : Framed s o t [] 601024 7293034) :
    Framed s o t (fieldLocs frame_1_writes args s ++ arrayLocs frame_1_arrays args s ++ staticLocs frame_1_statics s) 601024 7293034 := h
theorem lw_limb (L : Cond) (hL : ∀ (args : Array Value) (s t : State), L.after args s (.returned (some (.int 1))) t = true) :
    ArmFor flags0 classFile x code maxLocals ret World_1 tables_1 room_1 Calls_1 rest_1 Pre_1
      (fun tb e a s o t => postC L tb e a s o t ∧ Framed s o t (fieldLocs frame_1_writes a s ++ arrayLocs frame_1_arrays a s ++ staticLocs frame_1_statics s) 601024 7293034) := by
  intro l hflags _ _ p e ha hc hk s m args below hf hfit hheap happ hpre
  obtain ⟨k, o, h1, h2, h3, rfl, hF⟩ := lw_comes l hflags p e ha hc hk s m args below hf hfit hheap happ hpre
  exact ⟨k, _, h1, h2, h3, hL args s _, lw_frame hF⟩
theorem i_vc : Claimed_1_1 ∧ Claimed_1_2 := ⟨lw_limb limb_1_1 (fun args s t => by simp [limb_1_1, Cond.after, Cond.holds, Cond.value]), lw_limb limb_1_2 (fun args s t => Cond.after_iff.mpr (by
  first | (rw [show limb_1_2 = Cond.eq .result (.int 1) from rfl, Cond.eq_ints (x := 1) (y := 1) rfl rfl]; simp; done) | (simp [limb_1_2, Cond.value, Term.eval]; done)))⟩
