/-! THE PURE MACHINE: logical addresses, values, heaps; the judgement PW over them; a method's contract CT -/
abbrev LA : Type := Nat × Nat
abbrev PV : Type := Int32 ⊕ (Int64 ⊕ (Option LA ⊕ Unit))
abbrev vI (x : Int32) : PV := .inl x
abbrev vL (x : Int64) : PV := .inr (.inl x)
abbrev vQ (r : Option LA) : PV := .inr (.inr (.inl r))
abbrev vR (a : LA) : PV := .inr (.inr (.inl (some a)))
abbrev vN : PV := .inr (.inr (.inl none))
abbrev vU : PV := .inr (.inr (.inr ()))
abbrev PA : Type := (Nat → Int32) ⊕ ((Nat → Int64) ⊕ (Nat → Option LA))
abbrev PC : Type := PV ⊕ (Nat × (Nat × PA))
abbrev PH : Type := LA → Option PC
abbrev pF (v : PV) : Option PC := some (.inl v)
abbrev pA (kd n : Nat) (g : PA) : Option PC := some (.inr (kd, (n, g)))
abbrev pI (n : Nat) (f : Nat → Int32) : Option PC := some (.inr (0, (n, .inl f)))
abbrev pB (n : Nat) (f : Nat → Int32) : Option PC := some (.inr (1, (n, .inl f)))
abbrev pZ (n : Nat) (f : Nat → Int32) : Option PC := some (.inr (2, (n, .inl f)))
abbrev pL (n : Nat) (f : Nat → Int64) : Option PC := some (.inr (3, (n, .inr (.inl f))))
abbrev pQ (kd n : Nat) (f : Nat → Option LA) : Option PC := some (.inr (kd, (n, .inr (.inr f))))
def up (h : PH) (a : LA) (c : Option PC) : PH := fun b => if b = a then c else h b
theorem up_eq (h : PH) (a : LA) (c : Option PC) : up h a c a = c := if_pos rfl
theorem up_ne (h : PH) {a b : LA} (c : Option PC) (hb : b ≠ a) : up h a c b = h b := if_neg hb
def tyK (kd : Nat) : FieldType := match kd with
  | 0 => .int
  | 1 => .byte
  | 2 => .boolean
  | 3 => .long
  | 4 => .object "FernHeirs$Morning"
  | 5 => .object "FernHeirs$History"
  | _ => .array .int
abbrev GA : Type := Nat × ((Nat → Nat) × ((Nat → Nat) × Nat))
def ra (G : GA) (a : LA) : Nat := if a.1 = 1200 then G.2.1 a.2 else if a.1 = 1202 then G.2.2.1 a.2 else if a.1 = 1201 then G.2.2.2 else if a.1 = 1203 then a.2 else G.1 + (a.2 + a.1 % 100)
def emb (G : GA) (v : PV) : Value := match v with
  | .inl x => .int x
  | .inr (.inl x) => .long x
  | .inr (.inr (.inl (some a))) => .ref (ra G a)
  | .inr (.inr (.inl none)) => .null
  | .inr (.inr (.inr _)) => .null
def embA (G : GA) (g : PA) (j : Nat) : Value := match g with
  | .inl f => .int (f j)
  | .inr (.inl f) => .long (f j)
  | .inr (.inr f) => emb G (.inr (.inr (.inl (f j))))
abbrev AB (G : GA) : Nat → Prop := fun q => G.1 ≤ q
/-- an object or array is there -/
def ent (h : PH) (a : LA) : Prop := (∃ (ci k : Nat) (v : PV), k < 100 ∧ a.1 = 100 * ci ∧ h (10000 + 100 * ci + k, a.2) = pF v) ∨ (∃ (kd n : Nat) (g : PA), kd < 90 ∧ h a = pA kd n g)
abbrev off (a : LA) : Nat := a.2 + a.1 % 100
def RepO (G : GA) (D : va_G) (h : PH) (H : Heap) : Prop := ∀ (ci k id : Nat) (v : PV), k < 100 → h (10000 + 100 * ci + k, id) = pF v → ∃ q : vw_C, vwCl[ci]? = some q ∧ k < q.2.2 ∧ ∃ V : Nat → PV, (∀ j, j < q.2.2 → h (10000 + 100 * ci + j, id) = pF (V j)) ∧ t_OB (G.1 + id) (D.1 ci) q.2.2 (D.2 ci) H (fun j => emb G (V j))
def RepA (G : GA) (h : PH) (s : State) (H : Heap) : Prop := ∀ (a : LA) (kd n : Nat) (g : PA), kd < 90 → h a = pA kd n g → a.1 < 1200 ∧ a.1 % 100 ≠ 0 ∧ ∃ cA : ClassId, ArrOfT s cA (tyK kd) ∧ va_RA s cA (tyK kd) ∧ H[G.1 + off a]? = some (arrV cA n (embA G g))
def RepX (G : GA) (h : PH) (s : State) (H : Heap) : Prop := ∀ (a : LA) (n : Nat) (g : PA), h a = pA 98 n g → a = (1201, 0) ∧ ∃ f, g = .inl f ∧ va_X G.2.2.2 n f s H
def RepN (G : GA) (h : PH) (H : Heap) : Prop := ∀ (a : LA) (n : Nat) (g : PA), h a = pA 99 n g → a = (1299, 0) ∧ H.size = G.1 + n
def RepD (h : PH) : Prop := ∀ a b : LA, ent h a → ent h b → off a = off b → a = b
def Rep (G : GA) (D : va_G) (h : PH) (s : State) (H : Heap) : Prop := G.1 ≤ H.size ∧ G.2.2.2 < G.1 ∧ RepO G D h H ∧ RepA G h s H ∧ RepX G h s H ∧ RepN G h H ∧ RepD h
theorem Rep.moved {G : GA} {D : va_G} {h : PH} {u U : State} {H : Heap} (hvm : u.vm.Alike U.vm) (r : Rep G D h u H) : Rep G D h U H := by
  obtain ⟨r1, r2, r3, r4, r5, r6, r7⟩ := r
  refine ⟨r1, r2, r3, fun a kd n g hk ha => ?_, fun a n g ha => ?_, r6, r7⟩
  · obtain ⟨h1, h2, cA, h3, h4, h5⟩ := r4 a kd n g hk ha
    exact ⟨h1, h2, cA, arrOfT_moved hvm h3, va_RA.moved hvm h4, h5⟩
  · obtain ⟨h1, f, h2, h3⟩ := r5 a n g ha
    exact ⟨h1, f, h2, va_X.moved hvm h3⟩
/-- a word of the tables -/
def TB : List Cond := lw_tbl.filter goodWord
theorem tb {w : Cond} (i : Nat) (h : lw_tbl[i]? = some w) (g : goodWord w = true) : w ∈ TB := List.mem_filter.mpr ⟨List.mem_of_getElem? h, g⟩
/-- a method: its name, code, locals, answer's type, table of handlers -/
abbrev MR : Type := MethodName × (ByteArray × (Nat × (Option FieldType × Option (List (Nat × Nat × Nat × Nat)))))
abbrev WS0 (Y : MR) : Cond := match Y.2.2.2.2 with
  | none => Cond.code Y.1 Y.2.1 Y.2.2.1 Y.2.2.2.1
  | some hh => Cond.codeWith Y.1 Y.2.1 Y.2.2.1 Y.2.2.2.1 hh
abbrev WS (Y : MR) : List Cond := WS0 Y :: TB
abbrev PO : Type := Option PV ⊕ String
def QR (G : GA) (D : va_G) (Q : PO → PH → Prop) : Array Value → State → Outcome → State → Prop := fun _ st o t => (∃ (v : Option PV) (h' : PH), o = .returned (v.map (emb G)) ∧ Q (.inl v) h' ∧ Rep G D h' t t.heap) ∧ va_F (AB G) st t
def XR (G : GA) (D : va_G) (Q : PO → PH → Prop) : String → State → State → Prop := fun E st t => (∃ h' : PH, Q (.inr E) h' ∧ Rep G D h' t t.heap) ∧ va_F (AB G) st t
