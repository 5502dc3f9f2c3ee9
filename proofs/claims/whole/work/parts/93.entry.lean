/-! the law's entry: what the tables, the constants and the statics hold there -/
def FC : List Cond := flatC (Jvm.Cond.and given_1 narrow_1)
def tmL : List (String × Nat) := [("FernHeirs$Court", 66), ("FernHeirs$Court", 80), ("FernHeirs$Court", 85), ("FernHeirs$Court", 90), ("FernHeirs$Law", 63), ("FernHeirs$Law", 69), ("FernHeirs$Law", 83), ("FernHeirs$Law", 85), ("FernHeirs$Law", 87), ("FernHeirs$Law", 89), ("FernHeirs$Law", 91), ("FernHeirs$Law", 93), ("FernHeirs$Law", 95), ("FernHeirs$Steps", 65), ("FernHeirs$Steps", 71), ("FernHeirs$Steps", 73), ("FernHeirs$Steps", 75), ("FernHeirs$Steps", 79), ("FernHeirs$Steps", 81), ("FernHeirs$Steps", 85), ("FernHeirs$Steps", 87)]
def tmS (i : Nat) : Term := .string (tmL.getD i ("", 0)).1 (tmL.getD i ("", 0)).2
def sPos : List Nat := [664, 731, 737, 742, 784, 786, 794, 795, 796, 797, 798, 799, 800, 801, 802, 832, 834, 835, 836, 837, 838, 839, 840, 841, 842, 1552, 1558, 1559, 1560, 1624, 1629, 1634, 1635, 1636, 1637, 1638, 1639, 1640, 1652, 1653, 1654, 1655, 1656, 1657, 1658, 1659]
theorem chk1 : ((List.range 21).all fun i => decide (Cond.exactly (tmS i) "java/lang/String" ∈ FC) && (decide (Cond.eq (.field (tmS i) "java/lang/String" "coder" "B") (.int 0) ∈ FC) && (decide (Cond.arrayOf (.field (tmS i) "java/lang/String" "value" "[B") .byte ∈ FC) && (decide (Cond.eq (.length (.field (tmS i) "java/lang/String" "value" "[B")) (.int (Int32.ofNat (sLen.getD i 0))) ∈ FC) && (List.range (sLen.getD i 0)).all fun j => decide (Cond.eq (.elem (.field (tmS i) "java/lang/String" "value" "[B") (.int (Int32.ofNat j))) (.int ((sByt.getD i []).getD j 0)) ∈ FC))))) = true := by decide +kernel
theorem chk2 : (sTab.zip sPos).all (fun z => decide (lw_tbl[z.2]? = some (Cond.stringRef z.1.1 z.1.2.1 z.1.2.2.1)) && (decide (tmS z.1.2.2.2 = .string z.1.1 z.1.2.1) || decide (Cond.eq (tmS z.1.2.2.2) (.string z.1.1 z.1.2.1) ∈ FC))) = true := by decide +kernel
theorem chk3 : (List.range 21).all (fun i => (List.range 21).all (fun j => decide (i = j) || (decide (sLen.getD i 0 ≠ sLen.getD j 0) || (List.range (sLen.getD i 0)).any (fun k => decide ((sByt.getD i []).getD k 0 ≠ (sByt.getD j []).getD k 0))))) = true := by decide +kernel
theorem chk4 : sTab.length = sPos.length ∧ sTab.all (fun q => decide (q.2.2.2 < 21)) = true ∧ (List.range 21).all (fun i => decide (sLen.getD i 0 < 10)) = true := by decide +kernel
theorem OF_one {o n d : String} {v v' : Value} {t : Nat} {A : Nat → Prop} {U : State} {H : Heap} (h : va_OF o n d v t A U H) (g : va_OF o n d v' t A U H) : v = v' := by
  obtain ⟨cf, k, i, f, cell, h1, h2, h3, h4, h5, h6⟩ := h
  obtain ⟨cf', k', i', f', cell', g1, g2, g3, g4, g5, g6⟩ := g
  rw [h1] at g1
  cases g1
  rw [h3] at g3
  cases g3
  rw [h5] at g5
  cases g5
  rfl
theorem T_one {ty : FieldType} {t n n' : Nat} {f f' : Nat → Value} {A : Nat → Prop} {U : State} {H : Heap} (hn : n < 1000) (hn' : n' < 1000) (h : va_T ty t n f A U H) (g : va_T ty t n' f' A U H) : n = n' ∧ ∀ j < n, f j = f' j := by
  obtain ⟨cell, h1, h2, h3, h4, h5, h6, h7⟩ := h
  obtain ⟨cell', g1, g2, g3, g4, g5, g6, g7⟩ := g
  rw [h1] at g1
  cases g1
  have e : nI n = nI n' := h5.symm.trans g5
  have e : n = n' := by
    have := congrArg Int32.toNatClampNeg e
    rwa [nI_clamp (by omega), nI_clamp (by omega)] at this
  subst e
  refine ⟨rfl, fun j hj => ?_⟩
  have a := h6 j hj
  rw [g6 j hj] at a
  exact (Option.some.inj a).symm
theorem S_of {args : Array Value} {s : State} {A : Nat → Prop} (hF : ∀ w ∈ FC, w.before args s = true) (hA : ∀ a : Nat, a < s.heap.size → ¬ A a) : ∃ adK adV : Nat → Nat, vk_S 21 sLen sByt adK adV A s s.heap ∧ ∀ i : Nat, i < 21 → (tmS i).eval args s none [] s = some (.ref (adK i)) := by
  have hl : ∀ i < 21, sLen.getD i 0 < 10 := fun i hi => of_decide_eq_true (List.all_eq_true.mp chk4.2.2 i (List.mem_range.mpr hi))
  have hc : ∀ i < 21, Cond.exactly (tmS i) "java/lang/String" ∈ FC ∧ Cond.eq (.field (tmS i) "java/lang/String" "coder" "B") (.int 0) ∈ FC ∧ Cond.arrayOf (.field (tmS i) "java/lang/String" "value" "[B") .byte ∈ FC ∧ Cond.eq (.length (.field (tmS i) "java/lang/String" "value" "[B")) (.int (Int32.ofNat (sLen.getD i 0))) ∈ FC ∧ ∀ j < sLen.getD i 0, Cond.eq (.elem (.field (tmS i) "java/lang/String" "value" "[B") (.int (Int32.ofNat j))) (.int ((sByt.getD i []).getD j 0)) ∈ FC := by
    intro i hi
    have h := List.all_eq_true.mp chk1 i (List.mem_range.mpr hi)
    simp only [Bool.and_eq_true, decide_eq_true_eq] at h
    obtain ⟨h1, h2, h3, h4, h5⟩ := h
    exact ⟨h1, h2, h3, h4, fun j hj => of_decide_eq_true (List.all_eq_true.mp h5 j (List.mem_range.mpr hj))⟩
  have h0 : ∀ i : Nat, ∃ q : Nat × Nat, i < 21 → (tmS i).eval args s none [] s = some (.ref q.1) ∧ va_O "java/lang/String" q.1 A s s.heap ∧ va_OF "java/lang/String" "coder" "B" (.int 0) q.1 A s s.heap ∧ va_OF "java/lang/String" "value" "[B" (.ref q.2) q.1 A s s.heap ∧ va_T .byte q.2 (sLen.getD i 0) (fun j => .int ((sByt.getD i []).getD j 0)) A s s.heap := by
    intro i
    by_cases hi : i < 21
    · obtain ⟨c1, c2, c3, c4, c5⟩ := hc i hi
      obtain ⟨a, c, cA, kA, q1, q2, q3, q4, q5, q6, -⟩ := Cond.exactly_spec (args := args) (first := s) (o := none) (s := s) (idx := []) (t := tmS i) (cls := "java/lang/String") (hF _ c1)
      obtain ⟨t, ht, hT⟩ := va_Tof (f := fun j => .int ((sByt.getD i []).getD j 0)) (A := A) (Nat.lt_trans (hl i hi) (by decide)) (hF _ c3) (va_eqt (hF _ c4)) (fun j hj => va_eqt (hF _ (c5 j hj))) hA
      exact ⟨(a, t), fun _ => ⟨q1, ⟨cA, q3, q5, by rw [q6]; exact q2, hA a (Array.getElem?_eq_some_iff.mp q3).1⟩, vk_OFof q1 (va_eqt (hF _ c2)) hA, vk_OFof q1 ht hA, hT⟩⟩
    · exact ⟨(0, 0), fun h => absurd h hi⟩
  obtain ⟨ad, had⟩ := Classical.axiomOfChoice h0
  refine ⟨fun i => (ad i).1, fun i => (ad i).2, ⟨fun i hi => (had i hi).2, fun i j hi hj e => ?_⟩, fun i hi => (had i hi).1⟩
  by_cases hij : i = j
  · exact hij
  · exfalso
    have e : (ad i).1 = (ad j).1 := e
    have v1 := (had i hi).2.2.2.1
    have v2 := (had j hj).2.2.2.1
    rw [e] at v1
    have e2 := OF_one v1 v2
    have e2 : (ad i).2 = (ad j).2 := by
      injection e2
    have t1 := (had i hi).2.2.2.2
    have t2 := (had j hj).2.2.2.2
    rw [e2] at t1
    obtain ⟨n1, n2⟩ := T_one (Nat.lt_trans (hl i hi) (by decide)) (Nat.lt_trans (hl j hj) (by decide)) t1 t2
    have h := List.all_eq_true.mp (List.all_eq_true.mp chk3 i (List.mem_range.mpr hi)) j (List.mem_range.mpr hj)
    simp only [Bool.or_eq_true, decide_eq_true_eq, List.any_eq_true] at h
    rcases h with h | h | ⟨k, hk, h⟩
    · exact hij h
    · exact h n1
    · have n3 := n2 k (List.mem_range.mp hk)
      have n3 : Value.int ((sByt.getD i []).getD k 0) = Value.int ((sByt.getD j []).getD k 0) := n3
      injection n3 with n3
      exact h n3
theorem eq_ref {args : Array Value} {s : State} {t u : Term} {a : Nat} (h : (Cond.eq t u).before args s = true) (ht : t.eval args s none [] s = some (.ref a)) : u.eval args s none [] s = some (.ref a) := by
  cases hv : u.eval args s none [] s with
  | none => simp [Cond.before, Cond.holds, Cond.value, ht, hv] at h
  | some w =>
    simp only [Cond.before, Cond.holds, Cond.value, ht, hv] at h
    cases w <;> simp_all
theorem R_of {args : Array Value} {s : State} {adK : Nat → Nat} (hF : ∀ w ∈ FC, w.before args s = true) (hts : ∀ w ∈ lw_tbl, w.before args s = true) (h : ∀ i : Nat, i < 21 → (tmS i).eval args s none [] s = some (.ref (adK i))) : ∀ q ∈ sTab, vk_R q.1 q.2.1 q.2.2.1 (adK q.2.2.2) s := by
  intro q hq
  obtain ⟨k, hk, e⟩ := List.getElem_of_mem hq
  have hk2 : k < sPos.length := by rw [← chk4.1]; exact hk
  have hz : (q, sPos[k]) ∈ sTab.zip sPos := by
    rw [← e]
    have hzl : k < (sTab.zip sPos).length := by
      rw [List.length_zip, ← chk4.1, Nat.min_self]
      exact hk
    have hm := List.getElem_mem hzl
    rw [List.getElem_zip] at hm
    exact hm
  have h1 := List.all_eq_true.mp chk2 _ hz
  simp only [Bool.and_eq_true, Bool.or_eq_true, decide_eq_true_eq] at h1
  have h21 : q.2.2.2 < 21 := of_decide_eq_true (List.all_eq_true.mp chk4.2.1 q hq)
  have hr := h _ h21
  refine vk_R.of (A := args) (hts _ (List.mem_of_getElem? h1.1)) ?_
  rcases h1.2 with e | e
  · rw [← e]
    exact hr
  · exact eq_ref (hF _ e) hr
theorem chk5 : Cond.isRef (.static Bundle.tN "UNASSIGNED_STACK" Bundle.steD) ∈ FC ∧ Cond.isRef (.static Bundle.tN "SUPPRESSED_SENTINEL" Bundle.listD) ∈ FC ∧ Cond.eq (.static "java/lang/String" "COMPACT_STRINGS" "Z") (.int 1) ∈ FC ∧ Cond.isRef (.static "jdk/internal/util/Preconditions" "SIOOBE_FORMATTER" "Ljava/util/function/BiFunction;") ∈ FC ∧ Cond.not (.castable "java/lang/IllegalArgumentException" "java/util/NoSuchElementException") ∈ FC := by decide +kernel
theorem lwt {w : Cond} (i : Nat) (h : lw_tbl[i]? = some w) : w ∈ lw_tbl := List.mem_of_getElem? h
theorem KS_of {args : Array Value} {s : State} {b : Nat} (hF : ∀ w ∈ FC, w.before args s = true) (hts : ∀ w ∈ lw_tbl, w.before args s = true) : ∃ (G : GA) (D : va_G), G.1 = s.heap.size ∧ G.2.2.2 = b ∧ KS G D s s.heap := by
  have hT : ∀ w ∈ TB, w.before args s = true := fun w hw => hts w (List.mem_filter.mp hw).1
  have hA : ∀ a : Nat, a < s.heap.size → ¬ (fun q : Nat => s.heap.size ≤ q) a := fun a h => Nat.not_le.mpr h
  obtain ⟨adK, adV, hS, hE⟩ := S_of (A := fun q : Nat => s.heap.size ≤ q) hF hA
  obtain ⟨c0, i0, k0⟩ := u_known hT inT0 (hT _ ins_X0)
  obtain ⟨c1, i1, k1⟩ := u_known hT inT1 (hT _ ins_X1)
  obtain ⟨c2, i2, k2⟩ := u_known hT inT2 (hT _ ins_X2)
  obtain ⟨c3, i3, k3⟩ := u_known hT inT3 (hT _ ins_X3)
  obtain ⟨c4, i4, k4⟩ := u_known hT inT4 (hT _ ins_X4)
  obtain ⟨c5, i5, k5⟩ := u_known hT inT5 (hT _ ins_X5)
  obtain ⟨c6, i6, k6⟩ := u_known hT inT6 (hT _ ins_X6)
  obtain ⟨c7, i7, k7⟩ := u_known hT inT7 (hT _ ins_X7)
  obtain ⟨c8, i8, k8⟩ := u_known hT inT8 (hT _ ins_X8)
  obtain ⟨c9, i9, k9⟩ := u_known hT inT9 (hT _ ins_X9)
  obtain ⟨c10, i10, k10⟩ := u_known hT inT10 (hT _ ins_X10)
  refine ⟨(s.heap.size, (adK, (adV, b))), (fun k => match k with | 0 => c0 | 1 => c1 | 2 => c2 | 3 => c3 | 4 => c4 | 5 => c5 | 6 => c6 | 7 => c7 | 8 => c8 | 9 => c9 | _ => c10, fun k => match k with | 0 => i0 | 1 => i1 | 2 => i2 | 3 => i3 | 4 => i4 | 5 => i5 | 6 => i6 | 7 => i7 | 8 => i8 | 9 => i9 | _ => i10), rfl, rfl, ⟨?_, fun k q h => by simp at h⟩, hS, R_of hF hts hE, ?_, ?_, ?_, ?_, ?_, ?_⟩
  · intro k q hq
    match k, hq with
    | 0, hq => cases hq; exact k0
    | 1, hq => cases hq; exact k1
    | 2, hq => cases hq; exact k2
    | 3, hq => cases hq; exact k3
    | 4, hq => cases hq; exact k4
    | 5, hq => cases hq; exact k5
    | 6, hq => cases hq; exact k6
    | 7, hq => cases hq; exact k7
    | 8, hq => cases hq; exact k8
    | 9, hq => cases hq; exact k9
    | 10, hq => cases hq; exact k10
    | k + 11, hq => simp [vwCl] at hq
  · exact vx_Zqof (hts _ (lwt 611 (by decide +kernel))) (hts _ (lwt 108 (by decide +kernel))) (hF _ chk5.1) hA
  · exact vx_Zqof (hts _ (lwt 613 (by decide +kernel))) (hts _ (lwt 108 (by decide +kernel))) (hF _ chk5.2.1) hA
  · exact va_Zof (hts _ (lwt 679 (by decide +kernel))) (hts _ (lwt 112 (by decide +kernel))) (va_eqt (hF _ chk5.2.2.1)) hA
  · exact va_Zqof (hts _ (lwt 695 (by decide +kernel))) (hts _ (lwt 114 (by decide +kernel))) (hF _ chk5.2.2.2.1) hA
  · exact fun w hw => isN_of (List.mem_filter.mp hw).2 (hts w (List.mem_filter.mp hw).1)
  · exact va_Nc.of (hF _ chk5.2.2.2.2)
