/-! strings: the constants, by number -/
def sLen : List Nat := [4, 5, 6, 3, 5, 4, 6, 5, 4, 3, 6, 4, 4, 4, 4, 5, 5, 3, 4, 4, 5]
def sByt : List (List Int32) := [[104, 101, 105, 114], [104, 101, 97, 114, 115], [107, 101, 101, 112, 101, 114], [115, 117, 110], [108, 101, 97, 115, 116], [109, 111, 115, 116], [98, 114, 101, 97, 116, 104], [102, 101, 114, 110, 115], [116, 97, 112, 115], [97, 105, 114], [99, 114, 97, 99, 107, 115], [109, 105, 115, 116], [104, 111, 117, 114], [119, 105, 112, 101], [108, 105, 102, 116], [108, 111, 119, 101, 114], [99, 114, 97, 99, 107], [116, 97, 112], [102, 101, 114, 110], [100, 97, 119, 110], [97, 103, 97, 105, 110]]
def sTab : List (String × (Nat × (String × Nat))) := [("FernHeirs$Court", 66, "heir", 0), ("FernHeirs$Court", 80, "hears", 1), ("FernHeirs$Court", 85, "keeper", 2), ("FernHeirs$Court", 90, "sun", 3), ("FernHeirs$Law", 63, "least", 4), ("FernHeirs$Law", 69, "most", 5), ("FernHeirs$Law", 83, "breath", 6), ("FernHeirs$Law", 85, "ferns", 7), ("FernHeirs$Law", 87, "taps", 8), ("FernHeirs$Law", 89, "air", 9), ("FernHeirs$Law", 91, "cracks", 10), ("FernHeirs$Law", 93, "mist", 11), ("FernHeirs$Law", 95, "hour", 12), ("FernHeirs$Law", 97, "sun", 3), ("FernHeirs$Law", 99, "heir", 0), ("FernHeirs$Steps", 65, "wipe", 13), ("FernHeirs$Steps", 71, "lift", 14), ("FernHeirs$Steps", 73, "lower", 15), ("FernHeirs$Steps", 75, "crack", 16), ("FernHeirs$Steps", 77, "air", 9), ("FernHeirs$Steps", 79, "tap", 17), ("FernHeirs$Steps", 81, "fern", 18), ("FernHeirs$Steps", 83, "hour", 12), ("FernHeirs$Steps", 85, "dawn", 19), ("FernHeirs$Steps", 87, "again", 20), ("FernHeirsModel", 204, "heir", 0), ("FernHeirsModel", 210, "hears", 1), ("FernHeirsModel", 212, "keeper", 2), ("FernHeirsModel", 213, "sun", 3), ("FernHeirsModel", 281, "least", 4), ("FernHeirsModel", 286, "most", 5), ("FernHeirsModel", 269, "breath", 6), ("FernHeirsModel", 270, "ferns", 7), ("FernHeirsModel", 271, "taps", 8), ("FernHeirsModel", 273, "air", 9), ("FernHeirsModel", 275, "cracks", 10), ("FernHeirsModel", 277, "mist", 11), ("FernHeirsModel", 279, "hour", 12), ("FernHeirsModel", 301, "wipe", 13), ("FernHeirsModel", 303, "lift", 14), ("FernHeirsModel", 305, "lower", 15), ("FernHeirsModel", 307, "crack", 16), ("FernHeirsModel", 309, "tap", 17), ("FernHeirsModel", 311, "fern", 18), ("FernHeirsModel", 313, "dawn", 19), ("FernHeirsModel", 315, "again", 20)]
/-- words that aren't handed on by the tables alone -/
def isN (w : Cond) : Bool := match w with
  | .fieldLinkNest .. => true
  | .methodLinkNest .. => true
  | .declares _ => true
  | .castable .. => true
  | .arrayOver _ => true
  | _ => false
def NB : List Cond := lw_tbl.filter isN
theorem nb {w : Cond} (i : Nat) (h : lw_tbl[i]? = some w) (g : isN w = true) : w ∈ NB := List.mem_filter.mpr ⟨List.mem_of_getElem? h, g⟩
theorem isN_use {w : Cond} (h : isN w = true) {A : Array Value} {s : State} (hZ : va_Nw w s) : w.before A s = true := by
  unfold isN at h
  split at h
  · exact va_Nw.use rfl hZ
  · exact va_Nw.use rfl hZ
  · exact va_Nw.use rfl hZ
  · exact va_Nw.use rfl hZ
  · exact hZ
  · cases h
theorem isN_of {w : Cond} (h : isN w = true) {A : Array Value} {s : State} (hZ : w.before A s = true) : va_Nw w s := by
  unfold isN at h
  split at h
  · exact va_Nw.of rfl hZ
  · exact va_Nw.of rfl hZ
  · exact va_Nw.of rfl hZ
  · exact va_Nw.of rfl hZ
  · exact hZ
  · cases h
theorem isN_warm {w : Cond} (h : isN w = true) {s U : State} (hW : s.WarmedH U.vm) (hZ : va_Nw w s) : va_Nw w U := by
  unfold isN at h
  split at h
  · exact va_Nw.warmF hW hZ
  · exact va_Nw.warmM hW hZ
  · exact va_Nw.warmD hW hZ
  · exact va_Nw.warmC hW hZ
  · exact ((Cond.arrayOver_setVmC (args := #[]) hW.alike _).trans hZ : (Cond.arrayOver _).before #[] (s.setVm U.vm) = true)
  · cases h
/-- what is known of a state's tables, of the constants and of the JDK's statics -/
def KS (G : GA) (D : va_G) (s : State) (H : Heap) : Prop := va_K D vwCl [] s ∧ vk_S 21 sLen sByt G.2.1 G.2.2.1 (AB G) s H ∧ (∀ q ∈ sTab, vk_R q.1 q.2.1 q.2.2.1 (G.2.1 q.2.2.2) s) ∧ vx_Zq Bundle.tN "UNASSIGNED_STACK" Bundle.steD (AB G) s H ∧ vx_Zq Bundle.tN "SUPPRESSED_SENTINEL" Bundle.listD (AB G) s H ∧ va_Z "java/lang/String" "COMPACT_STRINGS" "Z" (.int 1) (AB G) s H ∧ va_Zq "jdk/internal/util/Preconditions" "SIOOBE_FORMATTER" "Ljava/util/function/BiFunction;" (AB G) s H ∧ (∀ w ∈ NB, va_Nw w s) ∧ va_Nc "java/lang/IllegalArgumentException" "java/util/NoSuchElementException" s
theorem KS.moved {G : GA} {D : va_G} {u U : State} {H : Heap} (hW : u.WarmedH U.vm) (k : KS G D u H) : KS G D U H := by
  obtain ⟨k1, k2, k3, k4, k5, k6, k7, k8, k9⟩ := k
  have hv := hW.alike
  exact ⟨va_K.moved hv k1, vk_S.moved hv k2, fun q hq => vk_R.warm hW (k3 q hq), vx_Zq.moved hv k4, vx_Zq.moved hv k5, va_Z.moved hv k6, va_Zq.moved hv k7, fun w hw => isN_warm (List.mem_filter.mp hw).2 hW (k8 w hw), va_Nc.moved hv k9⟩
theorem KS.kept {G : GA} {D : va_G} {U : State} {H H1 : Heap} (k : KS G D U H) (hq : ∀ a : Nat, a < H.size → ¬ AB G a → H1[a]? = H[a]?) : KS G D U H1 := by
  obtain ⟨k1, k2, k3, k4, k5, k6, k7, k8, k9⟩ := k
  exact ⟨k1, vk_S.kept k2 hq, k3, vx_Zq.kept k4 hq, vx_Zq.kept k5 hq, va_Z.kept k6 hq, va_Zq.kept k7 hq, k8, k9⟩
/-- the locals -/
def las (G : GA) : Nat → List PV → List (Nat × Value)
  | _, [] => []
  | i, (.inr (.inr (.inr _))) :: r => las G (i + 1) r
  | i, (.inl x) :: r => (i, emb G (.inl x)) :: las G (i + 1) r
  | i, (.inr (.inl x)) :: r => (i, emb G (.inr (.inl x))) :: las G (i + 1) r
  | i, (.inr (.inr (.inl x))) :: r => (i, emb G (.inr (.inr (.inl x)))) :: las G (i + 1) r
theorem las_mem (G : GA) : ∀ (ls : List PV) (i : Nat) (q : Nat × Value), q ∈ las G i ls ↔ ∃ (j : Nat) (v : PV), ls[j]? = some v ∧ v ≠ vU ∧ q = (i + j, emb G v) := by
  intro ls
  induction ls with
  | nil => intro i q; simp [las]
  | cons a r ih =>
    intro i q
    have key : (∃ (j : Nat) (v : PV), (a :: r)[j]? = some v ∧ v ≠ vU ∧ q = (i + j, emb G v)) ↔ ((a ≠ vU ∧ q = (i, emb G a)) ∨ ∃ (j : Nat) (v : PV), r[j]? = some v ∧ v ≠ vU ∧ q = (i + 1 + j, emb G v)) := by
      constructor
      · rintro ⟨j, v, h1, h2, h3⟩
        cases j with
        | zero => simp at h1; subst h1; exact Or.inl ⟨h2, by simpa using h3⟩
        | succ j => exact Or.inr ⟨j, v, by simpa using h1, h2, by rw [h3]; congr 1; omega⟩
      · rintro (⟨h1, h2⟩ | ⟨j, v, h1, h2, h3⟩)
        · exact ⟨0, a, rfl, h1, by simpa using h2⟩
        · exact ⟨j + 1, v, by simpa using h1, h2, by rw [h3]; congr 1; omega⟩
    rw [key]
    rcases a with x | x | x | x
    · simp [las, ih]
    · simp [las, ih]
    · simp [las, ih]
    · simp [las, ih]
def LR (G : GA) (lsr : Array Slot) (nL : Nat) (ls : List PV) : Prop := ls.length = nL ∧ lv_has lsr nL (las G 0 ls)
theorem LR.at {G : GA} {lsr : Array Slot} {nL : Nat} {ls : List PV} (h : LR G lsr nL ls) {i : Nat} {v : PV} (hi : ls[i]? = some v) (hv : v ≠ vU) : lsr[i]? = some (.val (emb G v)) := h.2.2.2 (i, emb G v) ((las_mem G ls 0 _).mpr ⟨i, v, hi, hv, by simp⟩)
/-- a store of one place: a long just below is gone -/
theorem LR.store1 {G : GA} {lsr : Array Slot} {nL : Nat} {ls : List PV} (h : LR G lsr nL ls) {i : Nat} (v : PV) (hi : i < nL) (hc : (emb G v).category = 1) (hb : i = 0 ∨ ∀ x, ls[i - 1]? ≠ some (vL x)) : ∀ ls' : Array Slot, lv_has ls' nL ((i, emb G v) :: (las G 0 ls).filter (fun q => !(q.1 == i) && !(q.1 + 1 == i && q.2.category == 2))) → LR G ls' nL (ls.set i v) := by
  intro ls' h'
  refine ⟨by rw [List.length_set]; exact h.1, h'.1, h'.2.1, fun q hq => ?_⟩
  obtain ⟨j, w, h1, h2, h3⟩ := (las_mem G _ 0 q).mp hq
  refine h'.2.2 q ?_
  simp only [Nat.zero_add] at h3
  by_cases e : i = j
  · subst e
    rw [List.getElem?_set_self (by rw [h.1]; exact hi)] at h1
    cases h1
    rw [h3]
    exact List.mem_cons_self
  · rw [List.getElem?_set_ne e] at h1
    refine List.mem_cons_of_mem _ (List.mem_filter.mpr ⟨(las_mem G ls 0 q).mpr ⟨j, w, h1, h2, by simpa using h3⟩, ?_⟩)
    subst h3
    have e1 : ¬ j = i := fun q => e q.symm
    by_cases e2 : j + 1 = i
    · have : ¬ (emb G w).category = 2 := by
        rcases hb with hb | hb
        · omega
        · rcases w with x | x | x | x
          · simp [emb, Value.category]
          · exact absurd (by rw [← e2]; simpa using h1) (hb x)
          · cases x <;> simp [emb, Value.category]
          · exact absurd rfl h2
      simp [e1, e2, this]
    · simp [e1, e2]
theorem LR.store2 {G : GA} {lsr : Array Slot} {nL : Nat} {ls : List PV} (h : LR G lsr nL ls) {i : Nat} (v : PV) (hi : i + 1 < nL) (hb : i = 0 ∨ ∀ x, ls[i - 1]? ≠ some (vL x)) : ∀ ls' : Array Slot, lv_has ls' nL ((i, emb G v) :: (las G 0 ls).filter (fun q => !(q.1 == i) && (!(q.1 == i + 1) && !(q.1 + 1 == i && q.2.category == 2)))) → LR G ls' nL ((ls.set i v).set (i + 1) vU) := by
  intro ls' h'
  refine ⟨by rw [List.length_set, List.length_set]; exact h.1, h'.1, h'.2.1, fun q hq => ?_⟩
  obtain ⟨j, w, h1, h2, h3⟩ := (las_mem G _ 0 q).mp hq
  refine h'.2.2 q ?_
  simp only [Nat.zero_add] at h3
  by_cases e0 : i + 1 = j
  · subst e0
    rw [List.getElem?_set_self (by rw [List.length_set, h.1]; exact hi)] at h1
    cases h1
    exact absurd rfl h2
  rw [List.getElem?_set_ne e0] at h1
  by_cases e : i = j
  · subst e
    rw [List.getElem?_set_self (by rw [h.1]; omega)] at h1
    cases h1
    rw [h3]
    exact List.mem_cons_self
  · rw [List.getElem?_set_ne e] at h1
    refine List.mem_cons_of_mem _ (List.mem_filter.mpr ⟨(las_mem G ls 0 q).mpr ⟨j, w, h1, h2, by simpa using h3⟩, ?_⟩)
    subst h3
    have e1 : ¬ j = i := fun q => e q.symm
    have e3 : ¬ j = i + 1 := fun q => e0 q.symm
    by_cases e2 : j + 1 = i
    · have : ¬ (emb G w).category = 2 := by
        rcases hb with hb | hb
        · omega
        · rcases w with x | x | x | x
          · simp [emb, Value.category]
          · exact absurd (by rw [← e2]; simpa using h1) (hb x)
          · cases x <;> simp [emb, Value.category]
          · exact absurd rfl h2
      simp [e1, e2, e3, this]
    · simp [e1, e2, e3]

/-- where a walk stands: the method, its room, its tables -/
def CX (d : Nat) (Y : MR) (mc ms : Nat) (G : GA) (D : va_G) (l : Launch) (p : Program) (R : Room) (s : State) (m : MethodId) (args : Array Value) (meth : Method) (c : Code) : Prop :=
  p.tables.exec = Jvm.exec ∧ c.code = Y.2.1 ∧ meth.sig.returnType = Y.2.2.2.1 ∧ meth.locks = false ∧ c.maxLocals = Y.2.2.1 ∧ s.vm.findClass Y.1.cls = some m.cls ∧ (∀ w ∈ TB, w.before args s = true) ∧ KS G D s s.heap ∧ l.stackTraces = false ∧ meth.name = Y.1.name ∧ (match Y.2.2.2.2 with
    | none => c.exceptionTable.toList = []
    | some hh => c.exceptionTable.toList = hh.map (fun q => { startPc := q.1, endPc := q.2.1, handlerPc := q.2.2.1, catchType := q.2.2.2 })) ∧ d ≤ R.frames ∧ 48 * d ≤ R.locals ∧ mc ≤ R.cells ∧ ms ≤ R.slots
def SX (G : GA) (D : va_G) (nL : Nat) (ls : List PV) (h : PH) (rc rs mc ms : Nat) (s : State) (H : Heap) (locs : List Loc) (cells slots : Nat) (lsr : Array Slot) : Prop :=
  Rep G D h s H ∧ LR G lsr nL ls ∧ va_S (AB G) s.heap H locs ∧ cells + rc ≤ mc ∧ slots + rs ≤ ms
def PW (d : Nat) (Y : MR) (Q : PO → PH → Prop) (rc rs : Nat) (pc : Nat) (ls st : List PV) (h : PH) : Prop :=
  ∀ (G : GA) (D : va_G) (l : Launch) (p : Program) (e : Env) (R : Room) (s : State) (m : MethodId) (args : Array Value) (below : List Frame) (meth : Method) (c : Code) (mc ms : Nat), CX d Y mc ms G D l p R s m args meth c →
    ∀ (H : Heap) (locs : List Loc) (cells slots : Nat) (lsr : Array Slot), SX G D Y.2.2.1 ls h rc rs mc ms s H locs cells slots lsr →
      W p l e R s m args below meth c H locs cells slots (vx_MQ below (QR G D Q) (XR G D Q) args s mc ms (AB G)) (F0 m pc lsr (st.map (emb G)))

theorem P_iadd {d : Nat} {Y : MR} {Q : PO → PH → Prop} {rc rs pc : Nat} {ls st : List PV} {h : PH} {x y : Int32} (hd : decode Y.2.1 pc = .ok (.iadd, 1)) (k : PW d Y Q rc rs (pc + 1) ls (vI (x + y) :: st) h) : PW d Y Q rc rs pc ls (vI y :: vI x :: st) h := by
  intro G D l p e R s m args below meth c mc ms C H locs cells slots lsr S
  exact lv_iadd C.1 C.2.1 hd (k G D l p e R s m args below meth c mc ms C H locs cells slots lsr S)
theorem P_isub {d : Nat} {Y : MR} {Q : PO → PH → Prop} {rc rs pc : Nat} {ls st : List PV} {h : PH} {x y : Int32} (hd : decode Y.2.1 pc = .ok (.isub, 1)) (k : PW d Y Q rc rs (pc + 1) ls (vI (x - y) :: st) h) : PW d Y Q rc rs pc ls (vI y :: vI x :: st) h := by
  intro G D l p e R s m args below meth c mc ms C H locs cells slots lsr S
  exact lv_isub C.1 C.2.1 hd (k G D l p e R s m args below meth c mc ms C H locs cells slots lsr S)
theorem P_imul {d : Nat} {Y : MR} {Q : PO → PH → Prop} {rc rs pc : Nat} {ls st : List PV} {h : PH} {x y : Int32} (hd : decode Y.2.1 pc = .ok (.imul, 1)) (k : PW d Y Q rc rs (pc + 1) ls (vI (x * y) :: st) h) : PW d Y Q rc rs pc ls (vI y :: vI x :: st) h := by
  intro G D l p e R s m args below meth c mc ms C H locs cells slots lsr S
  exact lv_imul C.1 C.2.1 hd (k G D l p e R s m args below meth c mc ms C H locs cells slots lsr S)
theorem P_iand {d : Nat} {Y : MR} {Q : PO → PH → Prop} {rc rs pc : Nat} {ls st : List PV} {h : PH} {x y : Int32} (hd : decode Y.2.1 pc = .ok (.iand, 1)) (k : PW d Y Q rc rs (pc + 1) ls (vI (x &&& y) :: st) h) : PW d Y Q rc rs pc ls (vI y :: vI x :: st) h := by
  intro G D l p e R s m args below meth c mc ms C H locs cells slots lsr S
  exact lv_iand C.1 C.2.1 hd (k G D l p e R s m args below meth c mc ms C H locs cells slots lsr S)
theorem P_ior {d : Nat} {Y : MR} {Q : PO → PH → Prop} {rc rs pc : Nat} {ls st : List PV} {h : PH} {x y : Int32} (hd : decode Y.2.1 pc = .ok (.ior, 1)) (k : PW d Y Q rc rs (pc + 1) ls (vI (x ||| y) :: st) h) : PW d Y Q rc rs pc ls (vI y :: vI x :: st) h := by
  intro G D l p e R s m args below meth c mc ms C H locs cells slots lsr S
  exact lv_ior C.1 C.2.1 hd (k G D l p e R s m args below meth c mc ms C H locs cells slots lsr S)
theorem P_ixor {d : Nat} {Y : MR} {Q : PO → PH → Prop} {rc rs pc : Nat} {ls st : List PV} {h : PH} {x y : Int32} (hd : decode Y.2.1 pc = .ok (.ixor, 1)) (k : PW d Y Q rc rs (pc + 1) ls (vI (x ^^^ y) :: st) h) : PW d Y Q rc rs pc ls (vI y :: vI x :: st) h := by
  intro G D l p e R s m args below meth c mc ms C H locs cells slots lsr S
  exact lv_ixor C.1 C.2.1 hd (k G D l p e R s m args below meth c mc ms C H locs cells slots lsr S)
theorem P_ishl {d : Nat} {Y : MR} {Q : PO → PH → Prop} {rc rs pc : Nat} {ls st : List PV} {h : PH} {x y : Int32} (hd : decode Y.2.1 pc = .ok (.ishl, 1)) (k : PW d Y Q rc rs (pc + 1) ls (vI (x <<< (y &&& 31)) :: st) h) : PW d Y Q rc rs pc ls (vI y :: vI x :: st) h := by
  intro G D l p e R s m args below meth c mc ms C H locs cells slots lsr S
  exact lv_ishl C.1 C.2.1 hd (k G D l p e R s m args below meth c mc ms C H locs cells slots lsr S)
theorem P_ishr {d : Nat} {Y : MR} {Q : PO → PH → Prop} {rc rs pc : Nat} {ls st : List PV} {h : PH} {x y : Int32} (hd : decode Y.2.1 pc = .ok (.ishr, 1)) (k : PW d Y Q rc rs (pc + 1) ls (vI (x >>> (y &&& 31)) :: st) h) : PW d Y Q rc rs pc ls (vI y :: vI x :: st) h := by
  intro G D l p e R s m args below meth c mc ms C H locs cells slots lsr S
  exact lv_ishr C.1 C.2.1 hd (k G D l p e R s m args below meth c mc ms C H locs cells slots lsr S)
theorem P_iushr {d : Nat} {Y : MR} {Q : PO → PH → Prop} {rc rs pc : Nat} {ls st : List PV} {h : PH} {x y : Int32} (hd : decode Y.2.1 pc = .ok (.iushr, 1)) (k : PW d Y Q rc rs (pc + 1) ls (vI ((x.toUInt32 >>> (y.toUInt32 &&& Int32.toUInt32 31)).toInt32) :: st) h) : PW d Y Q rc rs pc ls (vI y :: vI x :: st) h := by
  intro G D l p e R s m args below meth c mc ms C H locs cells slots lsr S
  exact lv_iushr C.1 C.2.1 hd rfl (k G D l p e R s m args below meth c mc ms C H locs cells slots lsr S)
theorem P_idiv {d : Nat} {Y : MR} {Q : PO → PH → Prop} {rc rs pc : Nat} {ls st : List PV} {h : PH} {x y : Int32} (hd : decode Y.2.1 pc = .ok (.idiv, 1)) (hne : ¬ y = 0) (k : PW d Y Q rc rs (pc + 1) ls (vI (x / y) :: st) h) : PW d Y Q rc rs pc ls (vI y :: vI x :: st) h := by
  intro G D l p e R s m args below meth c mc ms C H locs cells slots lsr S
  exact lv_idiv C.1 C.2.1 hd hne (k G D l p e R s m args below meth c mc ms C H locs cells slots lsr S)
theorem P_irem {d : Nat} {Y : MR} {Q : PO → PH → Prop} {rc rs pc : Nat} {ls st : List PV} {h : PH} {x y : Int32} (hd : decode Y.2.1 pc = .ok (.irem, 1)) (hne : ¬ y = 0) (k : PW d Y Q rc rs (pc + 1) ls (vI (x - x / y * y) :: st) h) : PW d Y Q rc rs pc ls (vI y :: vI x :: st) h := by
  intro G D l p e R s m args below meth c mc ms C H locs cells slots lsr S
  exact lv_irem C.1 C.2.1 hd hne (k G D l p e R s m args below meth c mc ms C H locs cells slots lsr S)
theorem P_ineg {d : Nat} {Y : MR} {Q : PO → PH → Prop} {rc rs pc : Nat} {ls st : List PV} {h : PH} {x : Int32} (hd : decode Y.2.1 pc = .ok (.ineg, 1)) (k : PW d Y Q rc rs (pc + 1) ls (vI (-x) :: st) h) : PW d Y Q rc rs pc ls (vI x :: st) h := by
  intro G D l p e R s m args below meth c mc ms C H locs cells slots lsr S
  exact lv_ineg C.1 C.2.1 hd (k G D l p e R s m args below meth c mc ms C H locs cells slots lsr S)
theorem P_ladd {d : Nat} {Y : MR} {Q : PO → PH → Prop} {rc rs pc : Nat} {ls st : List PV} {h : PH} {z z2 : Int64} (hd : decode Y.2.1 pc = .ok (.ladd, 1)) (k : PW d Y Q rc rs (pc + 1) ls (vL (z + z2) :: st) h) : PW d Y Q rc rs pc ls (vL z2 :: vL z :: st) h := by
  intro G D l p e R s m args below meth c mc ms C H locs cells slots lsr S
  exact lv_ladd C.1 C.2.1 hd (k G D l p e R s m args below meth c mc ms C H locs cells slots lsr S)
theorem P_lsub {d : Nat} {Y : MR} {Q : PO → PH → Prop} {rc rs pc : Nat} {ls st : List PV} {h : PH} {z z2 : Int64} (hd : decode Y.2.1 pc = .ok (.lsub, 1)) (k : PW d Y Q rc rs (pc + 1) ls (vL (z - z2) :: st) h) : PW d Y Q rc rs pc ls (vL z2 :: vL z :: st) h := by
  intro G D l p e R s m args below meth c mc ms C H locs cells slots lsr S
  exact lv_lsub C.1 C.2.1 hd (k G D l p e R s m args below meth c mc ms C H locs cells slots lsr S)
theorem P_lmul {d : Nat} {Y : MR} {Q : PO → PH → Prop} {rc rs pc : Nat} {ls st : List PV} {h : PH} {z z2 : Int64} (hd : decode Y.2.1 pc = .ok (.lmul, 1)) (k : PW d Y Q rc rs (pc + 1) ls (vL (z * z2) :: st) h) : PW d Y Q rc rs pc ls (vL z2 :: vL z :: st) h := by
  intro G D l p e R s m args below meth c mc ms C H locs cells slots lsr S
  exact lv_lmul C.1 C.2.1 hd (k G D l p e R s m args below meth c mc ms C H locs cells slots lsr S)
theorem P_ldiv {d : Nat} {Y : MR} {Q : PO → PH → Prop} {rc rs pc : Nat} {ls st : List PV} {h : PH} {z z2 : Int64} (hd : decode Y.2.1 pc = .ok (.ldiv, 1)) (hne : ¬ z2 = 0) (k : PW d Y Q rc rs (pc + 1) ls (vL (z / z2) :: st) h) : PW d Y Q rc rs pc ls (vL z2 :: vL z :: st) h := by
  intro G D l p e R s m args below meth c mc ms C H locs cells slots lsr S
  exact lv_ldiv C.1 C.2.1 hd hne (k G D l p e R s m args below meth c mc ms C H locs cells slots lsr S)
theorem P_lrem {d : Nat} {Y : MR} {Q : PO → PH → Prop} {rc rs pc : Nat} {ls st : List PV} {h : PH} {z z2 : Int64} (hd : decode Y.2.1 pc = .ok (.lrem, 1)) (hne : ¬ z2 = 0) (k : PW d Y Q rc rs (pc + 1) ls (vL (z - z / z2 * z2) :: st) h) : PW d Y Q rc rs pc ls (vL z2 :: vL z :: st) h := by
  intro G D l p e R s m args below meth c mc ms C H locs cells slots lsr S
  exact lv_lrem C.1 C.2.1 hd hne (k G D l p e R s m args below meth c mc ms C H locs cells slots lsr S)
theorem P_lcmp {d : Nat} {Y : MR} {Q : PO → PH → Prop} {rc rs pc : Nat} {ls st : List PV} {h : PH} {z z2 : Int64} (hd : decode Y.2.1 pc = .ok (.lcmp, 1)) (k : PW d Y Q rc rs (pc + 1) ls (vI (lg_cmp z z2) :: st) h) : PW d Y Q rc rs pc ls (vL z2 :: vL z :: st) h := by
  intro G D l p e R s m args below meth c mc ms C H locs cells slots lsr S
  exact W.lcmp C.1 C.2.1 hd (k G D l p e R s m args below meth c mc ms C H locs cells slots lsr S)
theorem P_i2l {d : Nat} {Y : MR} {Q : PO → PH → Prop} {rc rs pc : Nat} {ls st : List PV} {h : PH} {x : Int32} (hd : decode Y.2.1 pc = .ok (.i2l, 1)) (k : PW d Y Q rc rs (pc + 1) ls (vL x.toInt64 :: st) h) : PW d Y Q rc rs pc ls (vI x :: st) h := by
  intro G D l p e R s m args below meth c mc ms C H locs cells slots lsr S
  exact lv_i2l C.1 C.2.1 hd rfl (k G D l p e R s m args below meth c mc ms C H locs cells slots lsr S)
theorem P_l2i {d : Nat} {Y : MR} {Q : PO → PH → Prop} {rc rs pc : Nat} {ls st : List PV} {h : PH} {z : Int64} (hd : decode Y.2.1 pc = .ok (.l2i, 1)) (k : PW d Y Q rc rs (pc + 1) ls (vI z.toInt32 :: st) h) : PW d Y Q rc rs pc ls (vL z :: st) h := by
  intro G D l p e R s m args below meth c mc ms C H locs cells slots lsr S
  exact lv_l2i C.1 C.2.1 hd rfl (k G D l p e R s m args below meth c mc ms C H locs cells slots lsr S)
theorem P_i2b {d : Nat} {Y : MR} {Q : PO → PH → Prop} {rc rs pc : Nat} {ls st : List PV} {h : PH} {x : Int32} (hd : decode Y.2.1 pc = .ok (.i2b, 1)) (k : PW d Y Q rc rs (pc + 1) ls (vI x.toInt8.toInt32 :: st) h) : PW d Y Q rc rs pc ls (vI x :: st) h := by
  intro G D l p e R s m args below meth c mc ms C H locs cells slots lsr S
  exact lv_i2b C.1 C.2.1 hd rfl (k G D l p e R s m args below meth c mc ms C H locs cells slots lsr S)
theorem P_i2c {d : Nat} {Y : MR} {Q : PO → PH → Prop} {rc rs pc : Nat} {ls st : List PV} {h : PH} {x : Int32} (hd : decode Y.2.1 pc = .ok (.i2c, 1)) (k : PW d Y Q rc rs (pc + 1) ls (vI (x.toUInt32 % 65536).toInt32 :: st) h) : PW d Y Q rc rs pc ls (vI x :: st) h := by
  intro G D l p e R s m args below meth c mc ms C H locs cells slots lsr S
  exact lv_i2c C.1 C.2.1 hd rfl (k G D l p e R s m args below meth c mc ms C H locs cells slots lsr S)
theorem P_iconst {d : Nat} {Y : MR} {Q : PO → PH → Prop} {rc rs pc : Nat} {ls st : List PV} {h : PH} {n : Int} {v : Int32} (hd : decode Y.2.1 pc = .ok (.iconst n, 1)) (hv : Int32.ofInt n = v) (k : PW d Y Q rc rs (pc + 1) ls (vI v :: st) h) : PW d Y Q rc rs pc ls (st) h := by
  intro G D l p e R s m args below meth c mc ms C H locs cells slots lsr S
  exact lv_iconst C.1 C.2.1 hd hv (k G D l p e R s m args below meth c mc ms C H locs cells slots lsr S)
theorem P_bipush {d : Nat} {Y : MR} {Q : PO → PH → Prop} {rc rs pc : Nat} {ls st : List PV} {h : PH} {n : Int} {v : Int32} (hd : decode Y.2.1 pc = .ok (.bipush n, 2)) (hv : (Int8.ofInt n).toInt32 = v) (k : PW d Y Q rc rs (pc + 2) ls (vI v :: st) h) : PW d Y Q rc rs pc ls (st) h := by
  intro G D l p e R s m args below meth c mc ms C H locs cells slots lsr S
  exact lv_bipush C.1 C.2.1 hd hv (k G D l p e R s m args below meth c mc ms C H locs cells slots lsr S)
theorem P_sipush {d : Nat} {Y : MR} {Q : PO → PH → Prop} {rc rs pc : Nat} {ls st : List PV} {h : PH} {n : Int} {v : Int32} (hd : decode Y.2.1 pc = .ok (.sipush n, 3)) (hv : (Int16.ofInt n).toInt32 = v) (k : PW d Y Q rc rs (pc + 3) ls (vI v :: st) h) : PW d Y Q rc rs pc ls (st) h := by
  intro G D l p e R s m args below meth c mc ms C H locs cells slots lsr S
  exact lv_sipush C.1 C.2.1 hd hv (k G D l p e R s m args below meth c mc ms C H locs cells slots lsr S)
theorem P_lconst {d : Nat} {Y : MR} {Q : PO → PH → Prop} {rc rs pc : Nat} {ls st : List PV} {h : PH} {n : Fin 2} {v : Int64} (hd : decode Y.2.1 pc = .ok (.lconst n, 1)) (hv : Int64.ofInt n = v) (k : PW d Y Q rc rs (pc + 1) ls (vL v :: st) h) : PW d Y Q rc rs pc ls (st) h := by
  intro G D l p e R s m args below meth c mc ms C H locs cells slots lsr S
  exact lv_lconst C.1 C.2.1 hd hv (k G D l p e R s m args below meth c mc ms C H locs cells slots lsr S)
theorem P_iload {d : Nat} {Y : MR} {Q : PO → PH → Prop} {rc rs pc : Nat} {ls st : List PV} {h : PH} {i : Nat} {x : Int32} (hd : decode Y.2.1 pc = .ok (.iload i, 2)) (hv : ls[i]? = some (vI x)) (k : PW d Y Q rc rs (pc + 2) ls (vI x :: st) h) : PW d Y Q rc rs pc ls st h := by
  intro G D l p e R s m args below meth c mc ms C H locs cells slots lsr S
  exact lv_iload C.1 C.2.1 hd (S.2.1.at hv (by intro q; cases q)) (k G D l p e R s m args below meth c mc ms C H locs cells slots lsr S)
theorem P_lload {d : Nat} {Y : MR} {Q : PO → PH → Prop} {rc rs pc : Nat} {ls st : List PV} {h : PH} {i : Nat} {x : Int64} (hd : decode Y.2.1 pc = .ok (.lload i, 2)) (hv : ls[i]? = some (vL x)) (k : PW d Y Q rc rs (pc + 2) ls (vL x :: st) h) : PW d Y Q rc rs pc ls st h := by
  intro G D l p e R s m args below meth c mc ms C H locs cells slots lsr S
  exact lv_lload C.1 C.2.1 hd (S.2.1.at hv (by intro q; cases q)) (k G D l p e R s m args below meth c mc ms C H locs cells slots lsr S)
theorem P_aload {d : Nat} {Y : MR} {Q : PO → PH → Prop} {rc rs pc : Nat} {ls st : List PV} {h : PH} {i : Nat} {x : LA} (hd : decode Y.2.1 pc = .ok (.aload i, 2)) (hv : ls[i]? = some (vR x)) (k : PW d Y Q rc rs (pc + 2) ls (vR x :: st) h) : PW d Y Q rc rs pc ls st h := by
  intro G D l p e R s m args below meth c mc ms C H locs cells slots lsr S
  exact lv_aload C.1 C.2.1 hd (S.2.1.at hv (by intro q; cases q)) (k G D l p e R s m args below meth c mc ms C H locs cells slots lsr S)
theorem P_iload_n {d : Nat} {Y : MR} {Q : PO → PH → Prop} {rc rs pc : Nat} {ls st : List PV} {h : PH} {j : Fin 4} {x : Int32} (hd : decode Y.2.1 pc = .ok (.iload_n j, 1)) (hv : ls[(j : Nat)]? = some (vI x)) (k : PW d Y Q rc rs (pc + 1) ls (vI x :: st) h) : PW d Y Q rc rs pc ls st h := by
  intro G D l p e R s m args below meth c mc ms C H locs cells slots lsr S
  exact lv_iload_n C.1 C.2.1 hd rfl (S.2.1.at hv (by intro q; cases q)) (k G D l p e R s m args below meth c mc ms C H locs cells slots lsr S)
theorem P_lload_n {d : Nat} {Y : MR} {Q : PO → PH → Prop} {rc rs pc : Nat} {ls st : List PV} {h : PH} {j : Fin 4} {x : Int64} (hd : decode Y.2.1 pc = .ok (.lload_n j, 1)) (hv : ls[(j : Nat)]? = some (vL x)) (k : PW d Y Q rc rs (pc + 1) ls (vL x :: st) h) : PW d Y Q rc rs pc ls st h := by
  intro G D l p e R s m args below meth c mc ms C H locs cells slots lsr S
  exact lv_lload_n C.1 C.2.1 hd rfl (S.2.1.at hv (by intro q; cases q)) (k G D l p e R s m args below meth c mc ms C H locs cells slots lsr S)
theorem P_aload_n {d : Nat} {Y : MR} {Q : PO → PH → Prop} {rc rs pc : Nat} {ls st : List PV} {h : PH} {j : Fin 4} {x : LA} (hd : decode Y.2.1 pc = .ok (.aload_n j, 1)) (hv : ls[(j : Nat)]? = some (vR x)) (k : PW d Y Q rc rs (pc + 1) ls (vR x :: st) h) : PW d Y Q rc rs pc ls st h := by
  intro G D l p e R s m args below meth c mc ms C H locs cells slots lsr S
  exact lv_aload_n C.1 C.2.1 hd rfl (S.2.1.at hv (by intro q; cases q)) (k G D l p e R s m args below meth c mc ms C H locs cells slots lsr S)
theorem P_istore {d : Nat} {Y : MR} {Q : PO → PH → Prop} {rc rs pc : Nat} {ls st : List PV} {h : PH} {i : Nat} {x : Int32} {ls2 : List PV} (hd : decode Y.2.1 pc = .ok (.istore i, 2)) (hi : i < Y.2.2.1) (hb : i = 0 ∨ ∀ z, ls[i - 1]? ≠ some (vL z)) (hs : ls.set i (vI x) = ls2) (k : PW d Y Q rc rs (pc + 2) ls2 st h) : PW d Y Q rc rs pc ls (vI x :: st) h := by
  intro G D l p e R s m args below meth c mc ms C H locs cells slots lsr S
  refine lv_istore C.1 C.2.1 hd S.2.1.2 hi rfl (fun ls9 h9 => ?_)
  exact k G D l p e R s m args below meth c mc ms C H locs cells slots ls9 ⟨S.1, hs ▸ S.2.1.store1 (vI x) hi rfl hb ls9 h9, S.2.2⟩
theorem P_istore_n {d : Nat} {Y : MR} {Q : PO → PH → Prop} {rc rs pc : Nat} {ls st : List PV} {h : PH} {j : Fin 4} {x : Int32} {ls2 : List PV} (hd : decode Y.2.1 pc = .ok (.istore_n j, 1)) (hi : (j : Nat) < Y.2.2.1) (hb : (j : Nat) = 0 ∨ ∀ z, ls[(j : Nat) - 1]? ≠ some (vL z)) (hs : ls.set (j : Nat) (vI x) = ls2) (k : PW d Y Q rc rs (pc + 1) ls2 st h) : PW d Y Q rc rs pc ls (vI x :: st) h := by
  intro G D l p e R s m args below meth c mc ms C H locs cells slots lsr S
  refine lv_istore_n C.1 C.2.1 hd rfl S.2.1.2 hi rfl (fun ls9 h9 => ?_)
  exact k G D l p e R s m args below meth c mc ms C H locs cells slots ls9 ⟨S.1, hs ▸ S.2.1.store1 (vI x) hi rfl hb ls9 h9, S.2.2⟩
theorem P_astore {d : Nat} {Y : MR} {Q : PO → PH → Prop} {rc rs pc : Nat} {ls st : List PV} {h : PH} {i : Nat} {x : LA} {ls2 : List PV} (hd : decode Y.2.1 pc = .ok (.astore i, 2)) (hi : i < Y.2.2.1) (hb : i = 0 ∨ ∀ z, ls[i - 1]? ≠ some (vL z)) (hs : ls.set i (vR x) = ls2) (k : PW d Y Q rc rs (pc + 2) ls2 st h) : PW d Y Q rc rs pc ls (vR x :: st) h := by
  intro G D l p e R s m args below meth c mc ms C H locs cells slots lsr S
  refine lv_astore C.1 C.2.1 hd S.2.1.2 hi rfl (fun ls9 h9 => ?_)
  exact k G D l p e R s m args below meth c mc ms C H locs cells slots ls9 ⟨S.1, hs ▸ S.2.1.store1 (vR x) hi rfl hb ls9 h9, S.2.2⟩
theorem P_astore_n {d : Nat} {Y : MR} {Q : PO → PH → Prop} {rc rs pc : Nat} {ls st : List PV} {h : PH} {j : Fin 4} {x : LA} {ls2 : List PV} (hd : decode Y.2.1 pc = .ok (.astore_n j, 1)) (hi : (j : Nat) < Y.2.2.1) (hb : (j : Nat) = 0 ∨ ∀ z, ls[(j : Nat) - 1]? ≠ some (vL z)) (hs : ls.set (j : Nat) (vR x) = ls2) (k : PW d Y Q rc rs (pc + 1) ls2 st h) : PW d Y Q rc rs pc ls (vR x :: st) h := by
  intro G D l p e R s m args below meth c mc ms C H locs cells slots lsr S
  refine lv_astore_n C.1 C.2.1 hd rfl S.2.1.2 hi rfl (fun ls9 h9 => ?_)
  exact k G D l p e R s m args below meth c mc ms C H locs cells slots ls9 ⟨S.1, hs ▸ S.2.1.store1 (vR x) hi rfl hb ls9 h9, S.2.2⟩
theorem P_lstore {d : Nat} {Y : MR} {Q : PO → PH → Prop} {rc rs pc : Nat} {ls st : List PV} {h : PH} {i : Nat} {x : Int64} {ls2 : List PV} (hd : decode Y.2.1 pc = .ok (.lstore i, 2)) (hi : i + 1 < Y.2.2.1) (hb : i = 0 ∨ ∀ z, ls[i - 1]? ≠ some (vL z)) (hs : (ls.set i (vL x)).set (i + 1) vU = ls2) (k : PW d Y Q rc rs (pc + 2) ls2 st h) : PW d Y Q rc rs pc ls (vL x :: st) h := by
  intro G D l p e R s m args below meth c mc ms C H locs cells slots lsr S
  refine lv_lstore C.1 C.2.1 hd S.2.1.2 hi rfl (fun ls9 h9 => ?_)
  exact k G D l p e R s m args below meth c mc ms C H locs cells slots ls9 ⟨S.1, hs ▸ S.2.1.store2 (vL x) hi hb ls9 h9, S.2.2⟩
theorem P_lstore_n {d : Nat} {Y : MR} {Q : PO → PH → Prop} {rc rs pc : Nat} {ls st : List PV} {h : PH} {j : Fin 4} {x : Int64} {ls2 : List PV} (hd : decode Y.2.1 pc = .ok (.lstore_n j, 1)) (hi : (j : Nat) + 1 < Y.2.2.1) (hb : (j : Nat) = 0 ∨ ∀ z, ls[(j : Nat) - 1]? ≠ some (vL z)) (hs : (ls.set (j : Nat) (vL x)).set ((j : Nat) + 1) vU = ls2) (k : PW d Y Q rc rs (pc + 1) ls2 st h) : PW d Y Q rc rs pc ls (vL x :: st) h := by
  intro G D l p e R s m args below meth c mc ms C H locs cells slots lsr S
  refine lv_lstore_n C.1 C.2.1 hd rfl S.2.1.2 hi rfl (fun ls9 h9 => ?_)
  exact k G D l p e R s m args below meth c mc ms C H locs cells slots ls9 ⟨S.1, hs ▸ S.2.1.store2 (vL x) hi hb ls9 h9, S.2.2⟩
theorem P_iinc {d : Nat} {Y : MR} {Q : PO → PH → Prop} {rc rs pc : Nat} {ls st : List PV} {h : PH} {i : Nat} {n : Int} {x v : Int32} {ls2 : List PV} (hd : decode Y.2.1 pc = .ok (.iinc i n, 3)) (hi : i < Y.2.2.1) (hv : ls[i]? = some (vI x)) (hn : x + Int32.ofInt n = v) (hb : i = 0 ∨ ∀ z, ls[i - 1]? ≠ some (vL z)) (hs : ls.set i (vI v) = ls2) (k : PW d Y Q rc rs (pc + 3) ls2 st h) : PW d Y Q rc rs pc ls st h := by
  intro G D l p e R s m args below meth c mc ms C H locs cells slots lsr S
  have hm : (i, Value.int x) ∈ las G 0 ls := (las_mem G ls 0 _).mpr ⟨i, vI x, hv, (by intro q; cases q), by simp [emb]⟩
  obtain ⟨k9, hk9⟩ := List.mem_iff_getElem?.mp hm
  refine lv_iinc (k := k9) C.1 C.2.1 hd S.2.1.2 hk9 hn hi rfl (fun ls9 h9 => ?_)
  exact k G D l p e R s m args below meth c mc ms C H locs cells slots ls9 ⟨S.1, hs ▸ S.2.1.store1 (vI v) hi rfl hb ls9 h9, S.2.2⟩
theorem P_dup {d : Nat} {Y : MR} {Q : PO → PH → Prop} {rc rs pc : Nat} {ls st : List PV} {h : PH} {v : PV} (hd : decode Y.2.1 pc = .ok (.dup, 1)) (hv : ∀ G, (emb G v).category = 1) (k : PW d Y Q rc rs (pc + 1) ls (v :: v :: st) h) : PW d Y Q rc rs pc ls (v :: st) h := by
  intro G D l p e R s m args below meth c mc ms C H locs cells slots lsr S
  exact lv_dup C.1 C.2.1 hd (hv G) (k G D l p e R s m args below meth c mc ms C H locs cells slots lsr S)
theorem P_pop {d : Nat} {Y : MR} {Q : PO → PH → Prop} {rc rs pc : Nat} {ls st : List PV} {h : PH} {v : PV} (hd : decode Y.2.1 pc = .ok (.pop, 1)) (hv : ∀ G, (emb G v).category = 1) (k : PW d Y Q rc rs (pc + 1) ls (st) h) : PW d Y Q rc rs pc ls (v :: st) h := by
  intro G D l p e R s m args below meth c mc ms C H locs cells slots lsr S
  exact lv_pop C.1 C.2.1 hd (hv G) (k G D l p e R s m args below meth c mc ms C H locs cells slots lsr S)
theorem P_dup2 {d : Nat} {Y : MR} {Q : PO → PH → Prop} {rc rs pc : Nat} {ls st : List PV} {h : PH} {v u : PV} (hd : decode Y.2.1 pc = .ok (.dup2, 1)) (hv : ∀ G, (emb G v).category = 1) (hu : ∀ G, (emb G u).category = 1) (k : PW d Y Q rc rs (pc + 1) ls (v :: u :: v :: u :: st) h) : PW d Y Q rc rs pc ls (v :: u :: st) h := by
  intro G D l p e R s m args below meth c mc ms C H locs cells slots lsr S
  exact lv_dup2_11 C.1 C.2.1 hd (hv G) (hu G) (k G D l p e R s m args below meth c mc ms C H locs cells slots lsr S)
theorem P_if_eq {d : Nat} {Y : MR} {Q : PO → PH → Prop} {rc rs pc : Nat} {ls st : List PV} {h : PH} {x : Int32} {off : Int} {tgt : Nat} (hd : decode Y.2.1 pc = .ok (.ifCond .eq off, 3)) (ht : (pc : Int) + off = (tgt : Int)) (kt : x = 0 → PW d Y Q rc rs tgt ls st h) (kf : ¬ x = 0 → PW d Y Q rc rs (pc + 3) ls st h) : PW d Y Q rc rs pc ls (vI x :: st) h := by
  intro G D l p e R s m args below meth c mc ms C H locs cells slots lsr S
  exact lv_if_eq C.1 C.2.1 hd ht (fun q => kt q G D l p e R s m args below meth c mc ms C H locs cells slots lsr S) (fun q => kf q G D l p e R s m args below meth c mc ms C H locs cells slots lsr S)
theorem P_icmp_eq {d : Nat} {Y : MR} {Q : PO → PH → Prop} {rc rs pc : Nat} {ls st : List PV} {h : PH} {x y : Int32} {off : Int} {tgt : Nat} (hd : decode Y.2.1 pc = .ok (.if_icmp .eq off, 3)) (ht : (pc : Int) + off = (tgt : Int)) (kt : x = y → PW d Y Q rc rs tgt ls st h) (kf : ¬ x = y → PW d Y Q rc rs (pc + 3) ls st h) : PW d Y Q rc rs pc ls (vI y :: vI x :: st) h := by
  intro G D l p e R s m args below meth c mc ms C H locs cells slots lsr S
  exact lv_icmp_eq C.1 C.2.1 hd ht (fun q => kt q G D l p e R s m args below meth c mc ms C H locs cells slots lsr S) (fun q => kf q G D l p e R s m args below meth c mc ms C H locs cells slots lsr S)
theorem P_if_ne {d : Nat} {Y : MR} {Q : PO → PH → Prop} {rc rs pc : Nat} {ls st : List PV} {h : PH} {x : Int32} {off : Int} {tgt : Nat} (hd : decode Y.2.1 pc = .ok (.ifCond .ne off, 3)) (ht : (pc : Int) + off = (tgt : Int)) (kt : ¬ x = 0 → PW d Y Q rc rs tgt ls st h) (kf : x = 0 → PW d Y Q rc rs (pc + 3) ls st h) : PW d Y Q rc rs pc ls (vI x :: st) h := by
  intro G D l p e R s m args below meth c mc ms C H locs cells slots lsr S
  exact lv_if_ne C.1 C.2.1 hd ht (fun q => kt q G D l p e R s m args below meth c mc ms C H locs cells slots lsr S) (fun q => kf q G D l p e R s m args below meth c mc ms C H locs cells slots lsr S)
theorem P_icmp_ne {d : Nat} {Y : MR} {Q : PO → PH → Prop} {rc rs pc : Nat} {ls st : List PV} {h : PH} {x y : Int32} {off : Int} {tgt : Nat} (hd : decode Y.2.1 pc = .ok (.if_icmp .ne off, 3)) (ht : (pc : Int) + off = (tgt : Int)) (kt : ¬ x = y → PW d Y Q rc rs tgt ls st h) (kf : x = y → PW d Y Q rc rs (pc + 3) ls st h) : PW d Y Q rc rs pc ls (vI y :: vI x :: st) h := by
  intro G D l p e R s m args below meth c mc ms C H locs cells slots lsr S
  exact lv_icmp_ne C.1 C.2.1 hd ht (fun q => kt q G D l p e R s m args below meth c mc ms C H locs cells slots lsr S) (fun q => kf q G D l p e R s m args below meth c mc ms C H locs cells slots lsr S)
theorem P_if_lt {d : Nat} {Y : MR} {Q : PO → PH → Prop} {rc rs pc : Nat} {ls st : List PV} {h : PH} {x : Int32} {off : Int} {tgt : Nat} (hd : decode Y.2.1 pc = .ok (.ifCond .lt off, 3)) (ht : (pc : Int) + off = (tgt : Int)) (kt : x < 0 → PW d Y Q rc rs tgt ls st h) (kf : ¬ x < 0 → PW d Y Q rc rs (pc + 3) ls st h) : PW d Y Q rc rs pc ls (vI x :: st) h := by
  intro G D l p e R s m args below meth c mc ms C H locs cells slots lsr S
  exact lv_if_lt C.1 C.2.1 hd ht (fun q => kt q G D l p e R s m args below meth c mc ms C H locs cells slots lsr S) (fun q => kf q G D l p e R s m args below meth c mc ms C H locs cells slots lsr S)
theorem P_icmp_lt {d : Nat} {Y : MR} {Q : PO → PH → Prop} {rc rs pc : Nat} {ls st : List PV} {h : PH} {x y : Int32} {off : Int} {tgt : Nat} (hd : decode Y.2.1 pc = .ok (.if_icmp .lt off, 3)) (ht : (pc : Int) + off = (tgt : Int)) (kt : x < y → PW d Y Q rc rs tgt ls st h) (kf : ¬ x < y → PW d Y Q rc rs (pc + 3) ls st h) : PW d Y Q rc rs pc ls (vI y :: vI x :: st) h := by
  intro G D l p e R s m args below meth c mc ms C H locs cells slots lsr S
  exact lv_icmp_lt C.1 C.2.1 hd ht (fun q => kt q G D l p e R s m args below meth c mc ms C H locs cells slots lsr S) (fun q => kf q G D l p e R s m args below meth c mc ms C H locs cells slots lsr S)
theorem P_if_ge {d : Nat} {Y : MR} {Q : PO → PH → Prop} {rc rs pc : Nat} {ls st : List PV} {h : PH} {x : Int32} {off : Int} {tgt : Nat} (hd : decode Y.2.1 pc = .ok (.ifCond .ge off, 3)) (ht : (pc : Int) + off = (tgt : Int)) (kt : 0 ≤ x → PW d Y Q rc rs tgt ls st h) (kf : ¬ 0 ≤ x → PW d Y Q rc rs (pc + 3) ls st h) : PW d Y Q rc rs pc ls (vI x :: st) h := by
  intro G D l p e R s m args below meth c mc ms C H locs cells slots lsr S
  exact lv_if_ge C.1 C.2.1 hd ht (fun q => kt q G D l p e R s m args below meth c mc ms C H locs cells slots lsr S) (fun q => kf q G D l p e R s m args below meth c mc ms C H locs cells slots lsr S)
theorem P_icmp_ge {d : Nat} {Y : MR} {Q : PO → PH → Prop} {rc rs pc : Nat} {ls st : List PV} {h : PH} {x y : Int32} {off : Int} {tgt : Nat} (hd : decode Y.2.1 pc = .ok (.if_icmp .ge off, 3)) (ht : (pc : Int) + off = (tgt : Int)) (kt : y ≤ x → PW d Y Q rc rs tgt ls st h) (kf : ¬ y ≤ x → PW d Y Q rc rs (pc + 3) ls st h) : PW d Y Q rc rs pc ls (vI y :: vI x :: st) h := by
  intro G D l p e R s m args below meth c mc ms C H locs cells slots lsr S
  exact lv_icmp_ge C.1 C.2.1 hd ht (fun q => kt q G D l p e R s m args below meth c mc ms C H locs cells slots lsr S) (fun q => kf q G D l p e R s m args below meth c mc ms C H locs cells slots lsr S)
theorem P_if_gt {d : Nat} {Y : MR} {Q : PO → PH → Prop} {rc rs pc : Nat} {ls st : List PV} {h : PH} {x : Int32} {off : Int} {tgt : Nat} (hd : decode Y.2.1 pc = .ok (.ifCond .gt off, 3)) (ht : (pc : Int) + off = (tgt : Int)) (kt : 0 < x → PW d Y Q rc rs tgt ls st h) (kf : ¬ 0 < x → PW d Y Q rc rs (pc + 3) ls st h) : PW d Y Q rc rs pc ls (vI x :: st) h := by
  intro G D l p e R s m args below meth c mc ms C H locs cells slots lsr S
  exact lv_if_gt C.1 C.2.1 hd ht (fun q => kt q G D l p e R s m args below meth c mc ms C H locs cells slots lsr S) (fun q => kf q G D l p e R s m args below meth c mc ms C H locs cells slots lsr S)
theorem P_icmp_gt {d : Nat} {Y : MR} {Q : PO → PH → Prop} {rc rs pc : Nat} {ls st : List PV} {h : PH} {x y : Int32} {off : Int} {tgt : Nat} (hd : decode Y.2.1 pc = .ok (.if_icmp .gt off, 3)) (ht : (pc : Int) + off = (tgt : Int)) (kt : y < x → PW d Y Q rc rs tgt ls st h) (kf : ¬ y < x → PW d Y Q rc rs (pc + 3) ls st h) : PW d Y Q rc rs pc ls (vI y :: vI x :: st) h := by
  intro G D l p e R s m args below meth c mc ms C H locs cells slots lsr S
  exact lv_icmp_gt C.1 C.2.1 hd ht (fun q => kt q G D l p e R s m args below meth c mc ms C H locs cells slots lsr S) (fun q => kf q G D l p e R s m args below meth c mc ms C H locs cells slots lsr S)
theorem P_if_le {d : Nat} {Y : MR} {Q : PO → PH → Prop} {rc rs pc : Nat} {ls st : List PV} {h : PH} {x : Int32} {off : Int} {tgt : Nat} (hd : decode Y.2.1 pc = .ok (.ifCond .le off, 3)) (ht : (pc : Int) + off = (tgt : Int)) (kt : x ≤ 0 → PW d Y Q rc rs tgt ls st h) (kf : ¬ x ≤ 0 → PW d Y Q rc rs (pc + 3) ls st h) : PW d Y Q rc rs pc ls (vI x :: st) h := by
  intro G D l p e R s m args below meth c mc ms C H locs cells slots lsr S
  exact lv_if_le C.1 C.2.1 hd ht (fun q => kt q G D l p e R s m args below meth c mc ms C H locs cells slots lsr S) (fun q => kf q G D l p e R s m args below meth c mc ms C H locs cells slots lsr S)
theorem P_icmp_le {d : Nat} {Y : MR} {Q : PO → PH → Prop} {rc rs pc : Nat} {ls st : List PV} {h : PH} {x y : Int32} {off : Int} {tgt : Nat} (hd : decode Y.2.1 pc = .ok (.if_icmp .le off, 3)) (ht : (pc : Int) + off = (tgt : Int)) (kt : x ≤ y → PW d Y Q rc rs tgt ls st h) (kf : ¬ x ≤ y → PW d Y Q rc rs (pc + 3) ls st h) : PW d Y Q rc rs pc ls (vI y :: vI x :: st) h := by
  intro G D l p e R s m args below meth c mc ms C H locs cells slots lsr S
  exact lv_icmp_le C.1 C.2.1 hd ht (fun q => kt q G D l p e R s m args below meth c mc ms C H locs cells slots lsr S) (fun q => kf q G D l p e R s m args below meth c mc ms C H locs cells slots lsr S)
theorem P_goto {d : Nat} {Y : MR} {Q : PO → PH → Prop} {rc rs pc : Nat} {ls st : List PV} {h : PH} {off : Int} {tgt : Nat} (hd : decode Y.2.1 pc = .ok (.goto off, 3)) (ht : (pc : Int) + off = (tgt : Int)) (k : PW d Y Q rc rs tgt ls st h) : PW d Y Q rc rs pc ls st h := by
  intro G D l p e R s m args below meth c mc ms C H locs cells slots lsr S
  exact lv_goto C.1 C.2.1 hd ht (k G D l p e R s m args below meth c mc ms C H locs cells slots lsr S)
