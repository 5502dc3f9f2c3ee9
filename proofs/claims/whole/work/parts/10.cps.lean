/-! what a stretch of a method asks of the heap, and goes on with -/
def gI (h : PH) (a : LA) (K : Int32 → Prop) : Prop := ∃ x, h a = pF (vI x) ∧ K x
def gO (h : PH) (a : LA) (t : Nat) (K : Nat → Prop) : Prop := ∃ i, h a = pF (vR (t, i)) ∧ K i
def gA (h : PH) (a : LA) (K : LA → Prop) : Prop := ∃ b, h a = pF (vR b) ∧ K b
def sF (h : PH) (a : LA) (v : PV) (K : PH → Prop) : Prop := (∃ v0, h a = pF v0) ∧ K (up h a (pF v))
def xI (h : PH) (a : LA) (i : Int32) (K : Int32 → Prop) : Prop := ∃ n f, h a = pI n f ∧ vp_in i n ∧ K (f i.toNatClampNeg)
def xB (h : PH) (a : LA) (i : Int32) (K : Int32 → Prop) : Prop := ∃ n f, h a = pB n f ∧ vp_in i n ∧ K (f i.toNatClampNeg)
def xZ (h : PH) (a : LA) (i : Int32) (K : Int32 → Prop) : Prop := ∃ n f, h a = pZ n f ∧ vp_in i n ∧ K (f i.toNatClampNeg)
def xL (h : PH) (a : LA) (i : Int32) (K : Int64 → Prop) : Prop := ∃ n f, h a = pL n f ∧ vp_in i n ∧ K (f i.toNatClampNeg)
def xO (h : PH) (a : LA) (i : Int32) (kd t : Nat) (K : Nat → Prop) : Prop := ∃ n f b, h a = pQ kd n f ∧ vp_in i n ∧ f i.toNatClampNeg = some (t, b) ∧ K b
def xA (h : PH) (a : LA) (i : Int32) (kd : Nat) (K : LA → Prop) : Prop := ∃ n f b, h a = pQ kd n f ∧ vp_in i n ∧ f i.toNatClampNeg = some b ∧ K b
def yI (h : PH) (a : LA) (i x : Int32) (K : PH → Prop) : Prop := ∃ n f, h a = pI n f ∧ vp_in i n ∧ K (up h a (pI n (upd f i.toNatClampNeg x)))
def yB (h : PH) (a : LA) (i x : Int32) (K : PH → Prop) : Prop := ∃ n f, h a = pB n f ∧ vp_in i n ∧ K (up h a (pB n (upd f i.toNatClampNeg (vp_nar .byte x))))
def yZ (h : PH) (a : LA) (i x : Int32) (K : PH → Prop) : Prop := ∃ n f, h a = pZ n f ∧ vp_in i n ∧ K (up h a (pZ n (upd f i.toNatClampNeg (vp_nar .boolean x))))
def yL (h : PH) (a : LA) (i : Int32) (x : Int64) (K : PH → Prop) : Prop := ∃ n f, h a = pL n f ∧ vp_in i n ∧ K (up h a (pL n (vp_updL f i.toNatClampNeg x)))
def yO (h : PH) (a : LA) (i : Int32) (kd t0 t b : Nat) (K : PH → Prop) : Prop := ∃ n f, h a = pQ kd n f ∧ vp_in i n ∧ (∃ v0, h (t0, b) = pF v0) ∧ K (up h a (pQ kd n (va_up f i.toNatClampNeg (some (t, b)))))
def lnA (h : PH) (a : LA) (K : Int32 → Prop) : Prop := ∃ kd n g, kd < 90 ∧ h a = pA kd n g ∧ K (nI n)
def br (c A B : Prop) : Prop := (c → A) ∧ (¬ c → B)
def nz (y : Int32) (K : Prop) : Prop := ¬ y = 0 ∧ K
def nzL (y : Int64) (K : Prop) : Prop := ¬ y = 0 ∧ K
def isO (h : PH) (t0 b : Nat) : Prop := ∃ v0, h (t0, b) = pF v0
/-- a call: its contract, what follows; budgets go on -/
def cl (d rc rs : Nat) (Y : MR) (av : List PV) (h : PH) (K : Option PV → PH → Nat → Nat → Prop) (X : String → PH → Nat → Nat → Prop) : Prop := ∃ d2 nc ns rc2 rs2 Qc, d2 + 1 ≤ d ∧ rc = nc + rc2 ∧ rs = ns + rs2 ∧ CT d2 Y av h nc ns Qc ∧ (∀ v h1, Qc (.inl v) h1 → K v h1 rc2 rs2) ∧ (∀ E h1, Qc (.inr E) h1 → X E h1 rc2 rs2)
abbrev kI (K : Int32 → PH → Nat → Nat → Prop) : Option PV → PH → Nat → Nat → Prop := fun v h rc rs => ∃ x, v = some (vI x) ∧ K x h rc rs
abbrev kL (K : Int64 → PH → Nat → Nat → Prop) : Option PV → PH → Nat → Nat → Prop := fun v h rc rs => ∃ x, v = some (vL x) ∧ K x h rc rs
abbrev kV (K : PH → Nat → Nat → Prop) : Option PV → PH → Nat → Nat → Prop := fun v h rc rs => v = none ∧ K h rc rs
def nwO (h : PH) (ci N rc rs : Nat) (dv : Nat → PV) (K : Nat → PH → Nat → Nat → Prop) : Prop := ∃ id g0 rc2 rs2, rc = 1 + rc2 ∧ rs = N + rs2 ∧ h SZ = pA 99 id g0 ∧ K id (up (newO h ci N id dv) SZ (pA 99 (id + 1) g0)) rc2 rs2
def nwA (h : PH) (kd : Nat) (x : Int32) (z : PA) (rc rs : Nat) (K : LA → PH → Nat → Nat → Prop) : Prop := ∃ a0 n n0 g0 rc2 rs2, x = nI n ∧ n ≤ 10000 ∧ h SZ = pA 99 n0 g0 ∧ a0.1 < 1200 ∧ a0.1 % 100 ≠ 0 ∧ off a0 = n0 ∧ rc = 1 + rc2 ∧ rs = n + rs2 ∧ K a0 (up (up h a0 (pA kd n z)) SZ (pA 99 (n0 + 1) g0)) rc2 rs2
def cpy (d : Nat) (h : PH) (a : LA) (sp : Int32) (b : LA) (dp n : Int32) (K : PH → Prop) : Prop := ∃ n0 n1 f g, h a = pI n0 f ∧ h b = pI n1 g ∧ ¬ sp < 0 ∧ ¬ dp < 0 ∧ ¬ n < 0 ∧ sp.toNatClampNeg + n.toNatClampNeg ≤ n0 ∧ dp.toNatClampNeg + n.toNatClampNeg ≤ n1 ∧ 3 ≤ d ∧ K (up h b (pI n1 (va_cpy f g sp.toNatClampNeg dp.toNatClampNeg n.toNatClampNeg)))
def thr (d rc rs : Nat) (h : PH) (K : Prop) : Prop := 6 ≤ d ∧ 1 ≤ rc ∧ 6 ≤ rs ∧ (∀ a n g, h a ≠ pA 99 n g) ∧ K
def dvT (ty : Nat → FieldType) (j : Nat) : PV := match ty j with
  | .int => vI 0
  | _ => vN
/-- the switch's default -/
theorem sw_out {x : Int32} {lo : Int} (n : Nat) (h : ∀ j, j < n → x.toInt ≠ lo + (j : Int)) : x.toInt < lo ∨ lo + (n : Int) ≤ x.toInt := by
  rcases Int.lt_or_le x.toInt lo with h1 | h1
  · exact Or.inl h1
  · right
    rcases Int.lt_or_le x.toInt (lo + n) with h2 | h2
    · exact absurd (by omega) (h (x.toInt - lo).toNat (by omega))
    · exact h2
def scL (h : PH) (K : Int32 → Prop) : Prop := ∃ n g, h (1201, 0) = pA 98 n g ∧ K (nI n)
def scI (h : PH) (i : Int32) (K : Int32 → Prop) : Prop := ∃ n f, h (1201, 0) = pA 98 n (.inl f) ∧ vp_in i n ∧ K (f i.toNatClampNeg)
def nrw (ty : FieldType) (x : Int32) (K : Prop) : Prop := narrow ty (.int x) = .int x ∧ K
theorem lko {ps : List (Int × Int)} {d x : Int} (h : ∀ p ∈ ps, p.1 ≠ x) : lookupswitch.offset ps d x = d := by
  induction ps with
  | nil => rfl
  | cons p r ih =>
    obtain ⟨a, o⟩ := p
    rw [lookupswitch.offset, if_neg (h (a, o) List.mem_cons_self)]
    exact ih (fun q hq => h q (List.mem_cons_of_mem _ hq))
def lsub : List PV → List PV → Prop
  | [], [] => True
  | a :: r, b :: t => (a = vU ∨ a = b) ∧ lsub r t
  | _, _ => False
theorem lsub_at : ∀ (l2 l : List PV), lsub l2 l → l2.length = l.length ∧ ∀ (i : Nat) (v : PV), l2[i]? = some v → v = vU ∨ l[i]? = some v
  | [], [], _ => ⟨rfl, fun i v h => by simp at h⟩
  | a :: r, b :: t, h => by
    obtain ⟨h1, h2⟩ := lsub_at r t h.2
    refine ⟨by simp [h1], fun i v hi => ?_⟩
    cases i with
    | zero =>
      simp at hi
      subst hi
      rcases h.1 with e | e
      · exact Or.inl e
      · right; simp [e]
    | succ i => simpa using h2 i v (by simpa using hi)
  | [], _ :: _, h => h.elim
  | _ :: _, [], h => h.elim
theorem P_drop {d : Nat} {Y : MR} {Q : PO → PH → Prop} {rc rs pc : Nat} {ls ls2 st : List PV} {h : PH} (hs : lsub ls2 ls) (k : PW d Y Q rc rs pc ls2 st h) : PW d Y Q rc rs pc ls st h := by
  intro G D l p e R s m args below meth c mc ms C H locs cells slots lsr S
  obtain ⟨h1, h2⟩ := lsub_at ls2 ls hs
  refine k G D l p e R s m args below meth c mc ms C H locs cells slots lsr ⟨S.1, ⟨h1.trans S.2.1.1, S.2.1.2.1, S.2.1.2.2.1, fun q hq => ?_⟩, S.2.2⟩
  obtain ⟨j, v, g1, g2, g3⟩ := (las_mem G _ 0 q).mp hq
  rcases h2 j v g1 with e | e
  · exact absurd e g2
  · exact S.2.1.2.2.2 q ((las_mem G _ 0 q).mpr ⟨j, v, e, g2, g3⟩)
theorem T0 (ic : Nat) (E : String) (h : ((vx_at0 "FernHeirs" ic E ["java/lang/RuntimeException", "java/lang/Exception"]).all (fun w => decide (w ∈ lw_tbl) && (goodWord w || isN w))) = true) : ∀ w ∈ vx_at0 "FernHeirs" ic E ["java/lang/RuntimeException", "java/lang/Exception"], w ∈ TB ∨ w ∈ NB := by
  intro w hw
  have h1 := List.all_eq_true.mp h w hw
  simp only [Bool.and_eq_true, Bool.or_eq_true, decide_eq_true_eq] at h1
  rcases h1.2 with h2 | h2
  · exact Or.inl (List.mem_filter.mpr ⟨h1.1, h2⟩)
  · exact Or.inr (List.mem_filter.mpr ⟨h1.1, h2⟩)
theorem T1 (l : List Cond) (h : l.all vx_ot = true) : ∀ w ∈ l, vx_ot w = true := fun w hw => List.all_eq_true.mp h w hw
theorem tx418_1 : Cond.classLink "FernHeirs" 418 "java/lang/IllegalArgumentException" ∈ TB := tb 584 (by decide +kernel) (by decide +kernel)
theorem tx418_2 : Cond.initialized "java/lang/IllegalArgumentException" ∈ TB := tb 111 (by decide +kernel) (by decide +kernel)
theorem tx418_3 : ∀ w ∈ vx_at0 "FernHeirs" 420 "java/lang/IllegalArgumentException" ["java/lang/RuntimeException", "java/lang/Exception"], w ∈ TB ∨ w ∈ NB := T0 _ _ (by decide +kernel)
theorem tx418_4 : ∀ w ∈ Cond.classLink "FernHeirs" 418 "java/lang/IllegalArgumentException" :: Cond.initialized "java/lang/IllegalArgumentException" :: vx_at0 "FernHeirs" 420 "java/lang/IllegalArgumentException" ["java/lang/RuntimeException", "java/lang/Exception"], vx_ot w = true := T1 _ (by decide +kernel)
theorem T_X9_418 {d : Nat} {y : MethodName} {cc : ByteArray} {nL : Nat} {rt : Option FieldType} {Q : PO → PH → Prop} {rc rs pc : Nat} {ls : List PV} {h : PH} (d0 : decode cc pc = .ok (.new 418, 3)) (d3 : decode cc (pc + 3) = .ok (.dup, 1)) (d4 : decode cc (pc + 4) = .ok (.invokespecial 420, 3)) (d7 : decode cc (pc + 7) = .ok (.athrow, 1)) (k : thr d rc rs h (Q (.inr "java/lang/IllegalArgumentException") h)) (hy : y.cls = "FernHeirs" := by rfl) : PW d (y, (cc, (nL, (rt, none)))) Q rc rs pc ls [] h := by
  obtain ⟨n, de, dsc⟩ := y
  cases hy
  exact P_throw0 (ik := 418) (ic := 420) rfl (by decide) tx418_1 tx418_2 tx418_3 tx418_4 d0 d3 d4 d7 k.1 k.2.1 k.2.2.1 k.2.2.2.1 k.2.2.2.2
theorem tx421_1 : Cond.classLink "FernHeirs" 421 "java/util/NoSuchElementException" ∈ TB := tb 1007 (by decide +kernel) (by decide +kernel)
theorem tx421_2 : Cond.initialized "java/util/NoSuchElementException" ∈ TB := tb 117 (by decide +kernel) (by decide +kernel)
theorem tx421_3 : ∀ w ∈ vx_at0 "FernHeirs" 423 "java/util/NoSuchElementException" ["java/lang/RuntimeException", "java/lang/Exception"], w ∈ TB ∨ w ∈ NB := T0 _ _ (by decide +kernel)
theorem tx421_4 : ∀ w ∈ Cond.classLink "FernHeirs" 421 "java/util/NoSuchElementException" :: Cond.initialized "java/util/NoSuchElementException" :: vx_at0 "FernHeirs" 423 "java/util/NoSuchElementException" ["java/lang/RuntimeException", "java/lang/Exception"], vx_ot w = true := T1 _ (by decide +kernel)
theorem T_X9_421 {d : Nat} {y : MethodName} {cc : ByteArray} {nL : Nat} {rt : Option FieldType} {Q : PO → PH → Prop} {rc rs pc : Nat} {ls : List PV} {h : PH} (d0 : decode cc pc = .ok (.new 421, 3)) (d3 : decode cc (pc + 3) = .ok (.dup, 1)) (d4 : decode cc (pc + 4) = .ok (.invokespecial 423, 3)) (d7 : decode cc (pc + 7) = .ok (.athrow, 1)) (k : thr d rc rs h (Q (.inr "java/util/NoSuchElementException") h)) (hy : y.cls = "FernHeirs" := by rfl) : PW d (y, (cc, (nL, (rt, none)))) Q rc rs pc ls [] h := by
  obtain ⟨n, de, dsc⟩ := y
  cases hy
  exact P_throw0 (ik := 421) (ic := 423) rfl (by decide) tx421_1 tx421_2 tx421_3 tx421_4 d0 d3 d4 d7 k.1 k.2.1 k.2.2.1 k.2.2.2.1 k.2.2.2.2
theorem R_ireturn {d : Nat} {Y : MR} {Q : PO → PH → Prop} {rc rs pc : Nat} {ls : List PV} {h : PH} {x : Int32} {ty : FieldType} (hd : decode Y.2.1 pc = .ok (.ireturn, 1)) (hr : Y.2.2.2.1 = some ty) (hn : narrow ty (.int x) = .int x) (hq : Q (.inl (some (vI x))) h) : PW d Y Q rc rs pc ls [vI x] h := P_ireturn (st := []) hd hr hn hq
theorem R_lreturn {d : Nat} {Y : MR} {Q : PO → PH → Prop} {rc rs pc : Nat} {ls : List PV} {h : PH} {x : Int64} (hd : decode Y.2.1 pc = .ok (.lreturn, 1)) (hr : Y.2.2.2.1 = some .long) (hq : Q (.inl (some (vL x))) h) : PW d Y Q rc rs pc ls [vL x] h := P_lreturn (st := []) hd hr hq
theorem R_return {d : Nat} {Y : MR} {Q : PO → PH → Prop} {rc rs pc : Nat} {ls : List PV} {h : PH} (hd : decode Y.2.1 pc = .ok (.return_, 1)) (hr : Y.2.2.2.1 = none) (hq : Q (.inl none) h) : PW d Y Q rc rs pc ls [] h := P_return (st := []) hd hr hq
theorem ti_ne {x v : Int32} (h : ¬ x = v) : x.toInt ≠ v.toInt := fun e => h (Int32.toInt_inj.mp e)
theorem dvG {ty : Nat → FieldType} {N : Nat} (hty : ∀ j, j < N → (match ty j with | .int => true | .object _ => true | .array _ => true | _ => false) = true) (G : GA) (j : Nat) (hj : j < N) : defaultValue (ty j) = emb G (dvT ty j) := by
  have h := hty j hj
  unfold dvT
  cases e : ty j <;> rw [e] at h <;> first | rfl | cases h
theorem dv0 : ∀ (G : GA) (j : Nat), j < 2 → defaultValue (tyX0 j) = emb G (dvT tyX0 j) := dvG (by decide)
theorem dv1 : ∀ (G : GA) (j : Nat), j < 11 → defaultValue (tyX1 j) = emb G (dvT tyX1 j) := dvG (by decide)
theorem dv2 : ∀ (G : GA) (j : Nat), j < 3 → defaultValue (tyX2 j) = emb G (dvT tyX2 j) := dvG (by decide)
theorem dv3 : ∀ (G : GA) (j : Nat), j < 5 → defaultValue (tyX3 j) = emb G (dvT tyX3 j) := dvG (by decide)
theorem dv4 : ∀ (G : GA) (j : Nat), j < 10 → defaultValue (tyX4 j) = emb G (dvT tyX4 j) := dvG (by decide)
theorem dv5 : ∀ (G : GA) (j : Nat), j < 4 → defaultValue (tyX5 j) = emb G (dvT tyX5 j) := dvG (by decide)
theorem dv6 : ∀ (G : GA) (j : Nat), j < 1 → defaultValue (tyX6 j) = emb G (dvT tyX6 j) := dvG (by decide)
theorem dv7 : ∀ (G : GA) (j : Nat), j < 8 → defaultValue (tyX7 j) = emb G (dvT tyX7 j) := dvG (by decide)
theorem dv8 : ∀ (G : GA) (j : Nat), j < 7 → defaultValue (tyX8 j) = emb G (dvT tyX8 j) := dvG (by decide)
theorem dv9 : ∀ (G : GA) (j : Nat), j < 18 → defaultValue (tyX9 j) = emb G (dvT tyX9 j) := dvG (by decide)
theorem dv10 : ∀ (G : GA) (j : Nat), j < 55 → defaultValue (tyX10 j) = emb G (dvT tyX10 j) := dvG (by decide)
