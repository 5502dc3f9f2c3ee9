/-! what is seen of a morning -/
theorem Rm_ext {w : MEM} {i : Nat} {C : ACt} {f g : Nat → Int32} (h7 : cH C ≤ 7) (h : Rm w i C f) (e : ∀ j < 57, f j = g j) : Rm w i C g := by
  obtain ⟨r1, r2, r3, r4⟩ := h
  exact ⟨fun t ht j hj => (r1 t ht j hj).trans (e _ (by omega)), r2, r3.trans (e _ (by omega)), r4⟩
theorem Bd_ext {C : ACt} {t : Nat} {f g : Nat → Int32} (h7 : cH C ≤ 7) (h : Bd C t f) (e : ∀ j < 57, f j = g j) : Bd C t g := by
  refine ⟨fun j hj => ?_, by rw [← e 56 (by omega)]; exact h.2⟩
  rw [← e (7 + j) (by omega), ← e (14 + j) (by omega), ← e (35 + j) (by omega)]
  exact h.1 j hj
theorem copies_M {fu : Nat} {w : MEM} {a b : LA} {n : Nat} (hab : a ≠ b) (ha : n ≤ aN a.1) (hb : n ≤ aN b.1) (hn : n < 2000) (hfu : 3000 ≤ fu) : f_X10_copies fu 842 a b (nI n) w = some ((), tA w b (fun j => if j < n then fA w a j else fA w b j)) := by
  rw [E_X10_copies]
  obtain ⟨u, n1, e1, e2⟩ := for_rel (F := fun m i (u : MEM) => f_X10_copies_3 fu m a b (nI n) i u) (N := n)
    (fun k u => u = tA w b (fun j => if j < k then fA w a j else fA w b j))
    (fun m k u hk p => by
      subst p
      refine ⟨_, ?_, rfl⟩
      show f_X10_copies_3 fu (m + 1) a b (nI n) (nI k) _ = _
      rw [E_X10_copies_3]
      simp (disch := omega) only [nlt, hk, if_true, bIn, decide_true, ck_tr, (show k < aN a.1 by omega), (show k < aN b.1 by omega), lt_eq, sAn, rAn, fA_tA, tA_tA, naddL, hab, if_false]
      have e : upd (fun j => if j < k then fA w a j else fA w b j) k (fA w a k) = (fun j => if j < k + 1 then fA w a j else fA w b j) := by
        funext j
        rw [upd_eq]
        by_cases c : j = k
        · rw [if_pos c, if_pos (by omega), c]
        · rw [if_neg c]
          by_cases c2 : j < k
          · rw [if_pos c2, if_pos (by omega)]
          · rw [if_neg c2, if_neg (by omega)]
      rw [e])
    n fu 0 w (by omega) (by omega) (by
      have e : (fun j => if j < 0 then fA w a j else fA w b j) = fA w b := funext fun j => if_neg (by omega)
      show w = tA w b (fun j => if j < 0 then fA w a j else fA w b j)
      rw [e, tA_self])
  have e1 : f_X10_copies_3 fu fu a b (nI n) 0 w = f_X10_copies_3 fu (n1 + 1) a b (nI n) (nI n) u := e1
  rw [e1, E_X10_copies_3, if_neg (by rw [nlt _ _ (by omega) (by omega)]; omega), e2]
def takeF (w : MEM) : Nat → Int32 := fun j => if j < 57 then fA w (1019, 842) j else fA w (1020, 842) j
theorem take_M {fu : Nat} (w : MEM) (hfu : 3000 ≤ fu) : f_X10_take fu 842 w = some ((), tA w (1020, 842) (takeF w)) := by
  rw [E_X10_take, show (57 : Int32) = nI 57 from rfl, copies_M (by decide) (by decide) (by decide) (by omega) hfu, bnd_some]
  rfl
theorem takeF_now (w : MEM) : ∀ j < 57, fA w (1019, 842) j = takeF w j := fun j hj => (if_pos hj).symm
def standS (C : ACt) (f : Nat → Int32) : Int32 := lp (cH C) 0 (fun h a => a ||| (f (35 + h) <<< (nI h &&& 31))) 0
def cloudedS (C : ACt) (f : Nat → Int32) : Int32 := lp (cH C) 0 (fun h a => if f (42 + h) = -1 then a ||| 0 else a ||| (1 <<< (nI h &&& 31))) 0
def sumS (C : ACt) (o : Nat) (f : Nat → Int32) : Int32 := lp (cH C) 0 (fun h a => a + f (o + h)) 0
def cntS (C : ACt) (f : Nat → Int32) (h : Nat) : Int32 := lp (cH C) 0 (fun o a => if f (42 + o) = -1 then a else if f (42 + o) < f (42 + h) then a + 1 else if f (42 + o) = f (42 + h) then (if o < h then a + 1 else a) else a) 0
def rankS (C : ACt) (f : Nat → Int32) (k : Int32) : Int32 := lx (cH C) 0 (fun h (_ : Unit) => if f (42 + h) = -1 then .inr () else if cntS C f h = k then .inl (nI h) else .inr ()) (fun _ => -1) ()
theorem standing_M {w : MEM} {C : ACt} {fu : Nat} (hw : WFc C) (hm : MOD w C) (hfu : 200 ≤ fu) : f_X10_standing fu 842 w = some (standS C (fA w (1020, 842)), w) := by
  have h7 := hw.1
  rw [E_X10_standing]
  exact (for_lp0 (F := fun n i a => f_X10_standing_4 fu n 842 a i w) (N := cH C) (fin := fun a => some (a, w))
    (fun n k a hk => by
      show f_X10_standing_4 fu (n + 1) 842 a (nI k) w = _
      rw [E_X10_standing_4, hm.1]
      simp (disch := omega) only [nlt, hk, if_true, nLadd, bIn, rAn, decide_true, ck_tr, (show 35 + k < 57 by omega), lt_eq, naddL])
    (fun n a => by
      show f_X10_standing_4 fu (n + 1) 842 a (nI (cH C)) w = _
      rw [E_X10_standing_4, hm.1, if_neg (by rw [nlt _ _ (by omega) (by omega)]; omega)]) (by omega) 0)
theorem clouded_M {w : MEM} {C : ACt} {fu : Nat} (hw : WFc C) (hm : MOD w C) (hfu : 200 ≤ fu) : f_X10_clouded fu 842 w = some (cloudedS C (fA w (1020, 842)), w) := by
  have h7 := hw.1
  rw [E_X10_clouded]
  exact (for_lp0 (F := fun n i a => f_X10_clouded_4 fu n 842 a i w) (N := cH C) (fin := fun a => some (a, w))
    (fun n k a hk => by
      show f_X10_clouded_4 fu (n + 1) 842 a (nI k) w = _
      rw [E_X10_clouded_4, hm.1]
      simp (disch := omega) only [nlt, hk, if_true, nLadd, bIn, rAn, decide_true, ck_tr, (show 42 + k < 57 by omega), lt_eq, naddL]
      split <;> rfl)
    (fun n a => by
      show f_X10_clouded_4 fu (n + 1) 842 a (nI (cH C)) w = _
      rw [E_X10_clouded_4, hm.1, if_neg (by rw [nlt _ _ (by omega) (by omega)]; omega)]) (by omega) 0)
theorem sumOf_M {w : MEM} {C : ACt} {fu o : Nat} (hw : WFc C) (hm : MOD w C) (hfu : 200 ≤ fu) (ho : o ≤ 49) : f_X10_sumOf fu 842 (nI o) w = some (sumS C o (fA w (1020, 842)), w) := by
  have h7 := hw.1
  rw [E_X10_sumOf]
  exact (for_lp0 (F := fun n i a => f_X10_sumOf_4 fu n 842 (nI o) a i w) (N := cH C) (fin := fun a => some (a, w))
    (fun n k a hk => by
      show f_X10_sumOf_4 fu (n + 1) 842 (nI o) a (nI k) w = _
      rw [E_X10_sumOf_4, hm.1]
      simp (disch := omega) only [nlt, hk, if_true, nI_add, bIn, rAn, decide_true, ck_tr, (show o + k < 57 by omega), lt_eq, naddL])
    (fun n a => by
      show f_X10_sumOf_4 fu (n + 1) 842 (nI o) a (nI (cH C)) w = _
      rw [E_X10_sumOf_4, hm.1, if_neg (by rw [nlt _ _ (by omega) (by omega)]; omega)]) (by omega) 0)
theorem ranked_M {w : MEM} {C : ACt} {fu : Nat} (k : Int32) (hw : WFc C) (hm : MOD w C) (hfu : 200 ≤ fu) : f_X10_ranked fu 842 k w = some (rankS C (fA w (1020, 842)) k, w) := by
  have h7 := hw.1
  rw [E_X10_ranked]
  have := for_lx (F := fun n i (_ : Unit) => f_X10_ranked_2 fu n 842 k i w) (N := cH C) (step := fun h (_ : Unit) => if fA w (1020, 842) (42 + h) = -1 then .inr () else if cntS C (fA w (1020, 842)) h = k then .inl (some (nI h, w)) else .inr ()) (fin := fun _ => some (-1, w)) (P := fun _ _ => True)
    (fun n h a hk _ => by
      refine ⟨?_, fun _ _ => trivial⟩
      show f_X10_ranked_2 fu (n + 1) 842 k (nI h) w = _
      rw [E_X10_ranked_2, hm.1]
      simp (disch := omega) only [nlt, hk, if_true, nLadd, bIn, rAn, decide_true, ck_tr, (show 42 + h < 57 by omega), naddL]
      by_cases c : fA w (1020, 842) (42 + h) = -1
      · rw [if_pos c, if_pos c]
      · rw [if_neg c, if_neg c]
        have e := for_lp0 (F := fun m i a => f_X10_ranked_31 fu (fun l0 l1 l2 w => f_X10_ranked_2 fu n l0 l1 l2 w) m 842 k (nI h) a i w) (N := cH C) (step := fun o a => if fA w (1020, 842) (42 + o) = -1 then a else if fA w (1020, 842) (42 + o) < fA w (1020, 842) (42 + h) then a + 1 else if fA w (1020, 842) (42 + o) = fA w (1020, 842) (42 + h) then (if o < h then a + 1 else a) else a) (fin := fun a => if a = k then some (nI h, w) else f_X10_ranked_2 fu n 842 k (nI (h + 1)) w)
          (fun m o a ho => by
            show f_X10_ranked_31 fu _ (m + 1) 842 k (nI h) a (nI o) w = _
            rw [E_X10_ranked_31, hm.1]
            simp (disch := omega) only [nlt, ho, if_true, nLadd, bIn, rAn, decide_true, ck_tr, (show 42 + h < 57 by omega), (show 42 + o < 57 by omega), naddL, lt_eq, Int32.add_zero]
            by_cases c1 : fA w (1020, 842) (42 + o) = -1
            · simp only [c1, if_true]
            · simp only [c1, if_false]
              by_cases c2 : fA w (1020, 842) (42 + o) < fA w (1020, 842) (42 + h)
              · simp only [c2, if_true]
              · simp only [c2, if_false]
                by_cases c3 : fA w (1020, 842) (42 + o) = fA w (1020, 842) (42 + h)
                · simp only [c3, if_true]
                  by_cases c4 : o < h
                  · simp only [c4, if_true]
                  · simp only [c4, if_false]
                · simp only [c3, if_false])
          (fun m a => by
            show f_X10_ranked_31 fu _ (m + 1) 842 k (nI h) a (nI (cH C)) w = _
            rw [E_X10_ranked_31, hm.1, if_neg (by rw [nlt _ _ (by omega) (by omega)]; omega), naddL]) (n := fu) (by omega) 0
        have e : f_X10_ranked_31 fu (fun l0 l1 l2 w => f_X10_ranked_2 fu n l0 l1 l2 w) fu 842 k (nI h) 0 0 w = if cntS C (fA w (1020, 842)) h = k then some (nI h, w) else f_X10_ranked_2 fu n 842 k (nI (h + 1)) w := e
        rw [e]
        split <;> rfl)
    (fun n a _ => by
      show f_X10_ranked_2 fu (n + 1) 842 k (nI (cH C)) w = _
      rw [E_X10_ranked_2, hm.1, if_neg (by rw [nlt _ _ (by omega) (by omega)]; omega)])
    (cH C) fu 0 () (by omega) (by omega) trivial
  have this : f_X10_ranked_2 fu fu 842 k 0 w = _ := this
  rw [this]
  unfold rankS
  generalize fA w (1020, 842) = f
  have gen : ∀ m q, lx m q (fun h (_ : Unit) => if f (42 + h) = -1 then (.inr () : Option (Int32 × MEM) ⊕ Unit) else if cntS C f h = k then .inl (some (nI h, w)) else .inr ()) (fun _ => some (-1, w)) () = some (lx m q (fun h (_ : Unit) => if f (42 + h) = -1 then .inr () else if cntS C f h = k then .inl (nI h) else .inr ()) (fun _ => (-1 : Int32)) (), w) := by
    intro m
    induction m with
    | zero => intro q; rfl
    | succ m ih =>
      intro q
      rw [lx_s, lx_s]
      by_cases c : f (42 + q) = -1
      · rw [if_pos c, if_pos c]
        exact ih _
      · rw [if_neg c, if_neg c]
        by_cases c2 : cntS C f q = k
        · rw [if_pos c2, if_pos c2]
        · rw [if_neg c2, if_neg c2]
          exact ih _
  exact gen _ _
