theorem lp_7 {α : Type} {f : Nat → α → α} {H : Nat} (h7 : H ≤ 7) (a : α) (h : ∀ j b, H ≤ j → j < 7 → f j b = b) : lp 7 0 f a = lp H 0 f a := by
  have e : lp 7 0 f a = lp (H + (7 - H)) 0 f a := by rw [show H + (7 - H) = 7 by omega]
  rw [e, lp_add]
  exact lp_id f _ _ _ (fun j h1 h2 => h j _ (by omega) (by omega))
theorem standing_C {w : MEM} {C : ACt} {f : Nat → Int32} {fu i : Nat} (hw : WFc C) (hr : Rm w i C f) (hfu : 200 ≤ fu) : f_X4_standing fu i w = some (standS C f, w) := by
  have h7 := hw.1
  rw [E_X4_standing]
  have e := for_lp0 (F := fun n x a => f_X4_standing_4 fu n i a x w) (N := 7) (step := fun h a => a ||| (fA w (407, i) h <<< (nI h &&& 31))) (fin := fun a => some (a, w))
    (fun n k a hk => by
      show f_X4_standing_4 fu (n + 1) i a (nI k) w = _
      rw [E_X4_standing_4]
      simp (disch := omega) only [nltL, hk, if_true, bIn, rAn, decide_true, ck_tr, lt_eq, naddL])
    (fun n a => by
      show f_X4_standing_4 fu (n + 1) i a (nI 7) w = _
      rw [E_X4_standing_4, if_neg (by decide)]) (n := fu) (by omega) 0
  have e : f_X4_standing_4 fu fu i 0 0 w = _ := e
  rw [e, lp_7 h7 _ (fun j b h1 h2 => ?_)]
  · unfold standS
    rw [lp_ext _ (fun h a => a ||| (f (35 + h) <<< (nI h &&& 31))) _ _ _ (fun j b _ hj => ?_)]
    have := hr.1 5 (by omega) j (by omega)
    rw [show fA w (407, i) j = f (35 + j) from this]
  · rw [(hr.2.1 j h1 h2).2.1]
    have : ∀ j < 7, ((0 : Int32) <<< (nI j &&& 31)) = 0 := by decide
    rw [this j h2, Int32.or_zero]
theorem clouded_C {w : MEM} {C : ACt} {f : Nat → Int32} {fu i : Nat} (hw : WFc C) (hr : Rm w i C f) (hfu : 200 ≤ fu) : f_X4_cloudedHeirs fu i w = some (cloudedS C f, w) := by
  have h7 := hw.1
  rw [E_X4_cloudedHeirs]
  have e := for_lp0 (F := fun n x a => f_X4_cloudedHeirs_4 fu n i a x w) (N := 7) (step := fun h a => if fA w (408, i) h = -1 then a ||| 0 else a ||| (1 <<< (nI h &&& 31))) (fin := fun a => some (a, w))
    (fun n k a hk => by
      show f_X4_cloudedHeirs_4 fu (n + 1) i a (nI k) w = _
      rw [E_X4_cloudedHeirs_4]
      simp (disch := omega) only [nltL, hk, if_true, bIn, rAn, decide_true, ck_tr, lt_eq, naddL]
      split <;> rfl)
    (fun n a => by
      show f_X4_cloudedHeirs_4 fu (n + 1) i a (nI 7) w = _
      rw [E_X4_cloudedHeirs_4, if_neg (by decide)]) (n := fu) (by omega) 0
  have e : f_X4_cloudedHeirs_4 fu fu i 0 0 w = _ := e
  rw [e, lp_7 h7 _ (fun j b h1 h2 => ?_)]
  · unfold cloudedS
    rw [lp_ext _ (fun h (a : Int32) => if f (42 + h) = -1 then a ||| 0 else a ||| (1 <<< (nI h &&& 31))) _ _ _ (fun j b _ hj => ?_)]
    have := hr.1 6 (by omega) j (by omega)
    rw [show fA w (408, i) j = f (42 + j) from this]
  · rw [(hr.2.1 j h1 h2).2.2.1, if_pos rfl, Int32.or_zero]
theorem sum_C {w : MEM} {fu H : Nat} {a : LA} {g : Nat → Int32} (h7 : H ≤ 7) (ha : aN a.1 = 7) (h1 : ∀ j < H, fA w a j = g j) (h2 : ∀ j, H ≤ j → j < 7 → fA w a j = 0) (hfu : 200 ≤ fu) : f_X9_sum fu a w = some (lp H 0 (fun h b => b + g h) 0, w) := by
  rw [E_X9_sum, lt_eq, ha]
  have e := for_lp0 (F := fun n x b => f_X9_sum_10 fu n b a (nI 7) x w) (N := 7) (step := fun h b => b + fA w a h) (fin := fun b => some (b, w))
    (fun n k b hk => by
      show f_X9_sum_10 fu (n + 1) b a (nI 7) (nI k) w = _
      rw [E_X9_sum_10, ha]
      simp (disch := omega) only [nlt, hk, if_true, bIn, rAn, decide_true, ck_tr, lt_eq, naddL])
    (fun n b => by
      show f_X9_sum_10 fu (n + 1) b a (nI 7) (nI 7) w = _
      rw [E_X9_sum_10, if_neg (by decide)]) (n := fu) (by omega) 0
  have e : f_X9_sum_10 fu fu 0 a (nI 7) 0 w = _ := e
  rw [e, lp_7 h7 _ (fun j b h3 h4 => by rw [h2 j h3 h4, Int32.add_zero])]
  rw [lp_ext _ (fun h b => b + g h) _ _ _ (fun j b _ hj => by rw [h1 j (by omega)])]
theorem sumMist_C {w : MEM} {C : ACt} {f : Nat → Int32} {fu i : Nat} (hw : WFc C) (hr : Rm w i C f) (hfu : 200 ≤ fu) : f_X9_sum fu (403, i) w = some (sumS C 7 f, w) :=
  sum_C hw.1 rfl (fun j hj => hr.1 1 (by omega) j hj) (fun j h1 h2 => (hr.2.1 j h1 h2).1) hfu
theorem sumGasp_C {w : MEM} {C : ACt} {f : Nat → Int32} {fu i : Nat} (hw : WFc C) (hr : Rm w i C f) (hfu : 200 ≤ fu) : f_X9_sum fu (409, i) w = some (sumS C 49 f, w) :=
  sum_C hw.1 rfl (fun j hj => hr.1 7 (by omega) j hj) (fun j h1 h2 => (hr.2.1 j h1 h2).2.2.2) hfu
theorem isAhead_ok (fu : Nat) (a b : Int32) (h o : Nat) (ho : o < 2000) (hh : h < 2000) (w : MEM) : f_X9_isAhead fu a (nI o) b (nI h) w = some (if a = -1 then 0 else if a < b then 1 else if a = b then (if o < h then 1 else 0) else 0, w) := by
  rw [E_X9_isAhead]
  simp (disch := omega) only [nlt]
  split
  · rfl
  · split
    · rfl
    · split
      · split <;> rfl
      · rfl
theorem elder_C {w : MEM} {C : ACt} {f : Nat → Int32} {fu i h : Nat} (hw : WFc C) (hr : Rm w i C f) (hh : h < cH C) (hfu : 200 ≤ fu) : f_X4_elderThan fu i (nI h) w = some (cntS C f h, w) := by
  have h7 := hw.1
  rw [E_X4_elderThan]
  have sh : fA w (408, i) h = f (42 + h) := hr.1 6 (by omega) h hh
  have e := for_lp0 (F := fun n x a => f_X4_elderThan_4 fu n i (nI h) a x w) (N := 7) (step := fun o a => if fA w (408, i) o = -1 then a else if fA w (408, i) o < f (42 + h) then a + 1 else if fA w (408, i) o = f (42 + h) then (if o < h then a + 1 else a) else a) (fin := fun a => some (a, w))
    (fun n k a hk => by
      show f_X4_elderThan_4 fu (n + 1) i (nI h) a (nI k) w = _
      rw [E_X4_elderThan_4]
      simp (disch := omega) only [nltL, hk, if_true, bIn, rAn, decide_true, ck_tr, naddL, (show h < 7 by omega), sh, isAhead_ok, bnd_some]
      by_cases c1 : fA w (408, i) k = -1
      · simp only [c1, if_true]
      · simp only [c1, if_false]
        by_cases c2 : fA w (408, i) k < f (42 + h)
        · simp only [c2, if_true]
          rw [if_neg (by decide)]
        · simp only [c2, if_false]
          by_cases c3 : fA w (408, i) k = f (42 + h)
          · simp only [c3, if_true]
            by_cases c4 : k < h
            · simp only [c4, if_true]
              rw [if_neg (by decide)]
            · simp only [c4, if_false, if_true]
          · simp only [c3, if_false, if_true])
    (fun n a => by
      show f_X4_elderThan_4 fu (n + 1) i (nI h) a (nI 7) w = _
      rw [E_X4_elderThan_4, if_neg (by decide)]) (n := fu) (by omega) 0
  have e : f_X4_elderThan_4 fu fu i (nI h) 0 0 w = _ := e
  rw [e, lp_7 h7 _ (fun j b h1 h2 => by rw [(hr.2.1 j h1 h2).2.2.1, if_pos rfl])]
  unfold cntS
  rw [lp_ext _ (fun o a => if f (42 + o) = -1 then a else if f (42 + o) < f (42 + h) then a + 1 else if f (42 + o) = f (42 + h) then (if o < h then a + 1 else a) else a) _ _ _ (fun j b _ hj => ?_)]
  have := hr.1 6 (by omega) j (by omega)
  rw [show fA w (408, i) j = f (42 + j) from this]
theorem ranked_C {w : MEM} {C : ACt} {f : Nat → Int32} {fu i : Nat} (k : Int32) (hw : WFc C) (hr : Rm w i C f) (hfu : 200 ≤ fu) : f_X4_ranked fu i k w = some (rankS C f k, w) := by
  have h7 := hw.1
  rw [E_X4_ranked]
  have this := for_lx (F := fun n x (_ : Unit) => f_X4_ranked_2 fu n i k x w) (N := 7) (step := fun h (_ : Unit) => if fA w (408, i) h = -1 then .inr () else if cntS C f h = k then .inl (some (nI h, w)) else .inr ()) (fin := fun _ => some (-1, w)) (P := fun _ _ => True)
    (fun n h a hk _ => by
      refine ⟨?_, fun _ _ => trivial⟩
      show f_X4_ranked_2 fu (n + 1) i k (nI h) w = _
      rw [E_X4_ranked_2]
      simp (disch := omega) only [nltL, hk, if_true, bIn, rAn, decide_true, ck_tr, naddL]
      by_cases c : fA w (408, i) h = -1
      · rw [if_pos c, if_pos c]
      · rw [if_neg c, if_neg c]
        by_cases hH : h < cH C
        · rw [elder_C hw hr hH hfu, bnd_some]
          split <;> rfl
        · exact absurd (hr.2.1 h (by omega) hk).2.2.1 c)
    (fun n a _ => by
      show f_X4_ranked_2 fu (n + 1) i k (nI 7) w = _
      rw [E_X4_ranked_2, if_neg (by decide)])
    7 fu 0 () (by omega) (by omega) trivial
  have this : f_X4_ranked_2 fu fu i k 0 w = _ := this
  rw [this, show 7 = cH C + (7 - cH C) by omega, lx_skip _ _ _ _ _ _ (fun j b h1 h2 => by rw [(hr.2.1 j (by omega) (by omega)).2.2.1, if_pos rfl])]
  unfold rankS
  rw [lx_congr _ (fun h (_ : Unit) => if f (42 + h) = -1 then (.inr () : Option (Int32 × MEM) ⊕ Unit) else if cntS C f h = k then .inl (some (nI h, w)) else .inr ()) _ _ _ _ (fun j b _ hj => by rw [show fA w (408, i) j = f (42 + j) from hr.1 6 (by omega) j (by omega)])]
  have gen : ∀ m q, lx m q (fun h (_ : Unit) => if f (42 + h) = -1 then (.inr () : Option (Int32 × MEM) ⊕ Unit) else if cntS C f h = k then .inl (some (nI h, w)) else .inr ()) (fun _ => some (-1, w)) () = some (lx m q (fun h (_ : Unit) => if f (42 + h) = -1 then .inr () else if cntS C f h = k then .inl (nI h) else .inr ()) (fun _ => (-1 : Int32)) (), w) := by
    intro m
    induction m with
    | zero => intro q; rfl
    | succ m ih =>
      intro q
      rw [lx_s, lx_s]
      by_cases c : f (42 + q) = -1
      · rw [if_pos c, if_pos c]
        exact ih _
      · rw [if_neg c, if_neg c]
        by_cases c2 : cntS C f q = k
        · rw [if_pos c2, if_pos c2]
        · rw [if_neg c2, if_neg c2]
          exact ih _
  exact gen _ _
