/-! a word's length and letters -/
variable {X : SCR}
theorem nar_char (x : Int32) : narrow .char (.int x) = .int (vp_nar .char x) := rfl
theorem str_facts : ∀ l0 < 21, ∀ k < sLen.getD l0 0, (((((sByt.getD l0 []).getD k 0) &&& (255 : Int32)).toUInt32 % 65536).toInt32) = (sByt.getD l0 []).getD k 0 ∧ vp_nar .char ((sByt.getD l0 []).getD k 0) = (sByt.getD l0 []).getD k 0 := by decide +kernel
theorem len_lt : ∀ l0 < 21, sLen.getD l0 0 < 7 := by decide
theorem len_shr : ∀ n < 7, (nI n) >>> ((0 : Int32) &&& 31) = nI n := by decide +kernel
def f_J0_length_8abf5 (_ : Nat) (l0 : Nat) (w : MEM) : Option (Int32 × MEM) := some (nI (sLen.getD l0 0), w)
def f_J0_charAt_5068e (_ : Nat) (l0 : Nat) (l1 : Int32) (w : MEM) : Option (Int32 × MEM) := ck (bI l1 (sLen.getD l0 0)) (some ((sByt.getD l0 []).getD l1.toNatClampNeg 0, w))
theorem c_J0_coder {h : PH} {w : MEM} (wh : WH X h w) {a0 : Nat} (h0 : a0 < 21) : CT 0 M_J0_coder_7d493 [vR (1200, a0)] h 0 0 (QP X (.inl (some (vI 0))) w) :=
  CT_of mk_J0_coder_7d493 (Nat.le_of_ble_eq_true rfl) rfl (r_J0_coder_7d493_0 h0 ⟨fun e => absurd e (by decide), fun _ => ⟨rfl, wh⟩⟩)
theorem c_J0_isLatin1 {h : PH} {w : MEM} (wh : WH X h w) {a0 : Nat} (h0 : a0 < 21) : CT 0 M_J0_isLatin1_aae02 [vR (1200, a0)] h 0 0 (QP X (.inl (some (vI 1))) w) :=
  CT_of mk_J0_isLatin1_aae02 (Nat.le_of_ble_eq_true rfl) rfl (r_J0_isLatin1_aae02_0 h0 ⟨fun e => absurd e (by decide), fun _ => ⟨fun _ => ⟨rfl, wh⟩, fun e => absurd rfl e⟩⟩)
theorem c_J0_length_8abf5 {fu : Nat} {o : Int32} {w1 : MEM} {a0 : Nat} {w : MEM} {h : PH} (wh : WH X h w) (h0 : a0 < 21) (hF : f_J0_length_8abf5 fu a0 w = some (o, w1)) : CT 2 M_J0_length_8abf5 [vR (1200, a0)] h 0 0 (QP X (.inl (some (vI o))) w1) := by
  obtain ⟨rfl, rfl⟩ := some_of hF
  refine CT_of mk_J0_length_8abf5 (Nat.le_of_ble_eq_true rfl) rfl (r_J0_length_8abf5_0 h0 (cl_I (D := 0) (by decide) (c_J0_coder wh h0) (fun h1 wh => ?_)))
  rw [len_shr _ (len_lt a0 h0)]
  exact ⟨rfl, wh⟩
theorem dJ3_checkIndex_0 : decode cJ3_checkIndex_8e157 0 = .ok (.iload_n 0, 1) := by decide +kernel
theorem dJ3_checkIndex_1 : decode cJ3_checkIndex_8e157 1 = .ok (.ifCond .lt 8, 3) := by decide +kernel
theorem dJ3_checkIndex_4 : decode cJ3_checkIndex_8e157 4 = .ok (.iload_n 0, 1) := by decide +kernel
theorem dJ3_checkIndex_5 : decode cJ3_checkIndex_8e157 5 = .ok (.iload_n 1, 1) := by decide +kernel
theorem dJ3_checkIndex_6 : decode cJ3_checkIndex_8e157 6 = .ok (.if_icmp .lt 10, 3) := by decide +kernel
theorem dJ3_checkIndex_16 : decode cJ3_checkIndex_8e157 16 = .ok (.iload_n 0, 1) := by decide +kernel
theorem dJ3_checkIndex_17 : decode cJ3_checkIndex_8e157 17 = .ok (.ireturn, 1) := by decide +kernel
theorem c_J3_checkIndex {h : PH} {w : MEM} (wh : WH X h w) {i n : Int32} {v : Option LA} (h0 : ¬ i < 0) (h1 : i < n) : CT 0 M_J3_checkIndex_8e157 [vI i, vI n, vQ v] h 0 0 (QP X (.inl (some (vI i))) w) := by
  refine CT_of mk_J3_checkIndex_8e157 (Nat.le_of_ble_eq_true rfl) rfl ?_
  refine P_iload_n (pc := 0) dJ3_checkIndex_0 rfl ?_
  refine P_if_lt (tgt := 9) (pc := 1) dJ3_checkIndex_1 (by decide) (fun c => absurd c h0) (fun c => ?_)
  refine P_iload_n (pc := 4) dJ3_checkIndex_4 rfl ?_
  refine P_iload_n (pc := 5) dJ3_checkIndex_5 rfl ?_
  refine P_icmp_lt (tgt := 16) (pc := 6) dJ3_checkIndex_6 (by decide) (fun c => ?_) (fun c => absurd h1 c)
  refine P_iload_n (pc := 16) dJ3_checkIndex_16 rfl ?_
  exact R_ireturn (pc := 17) dJ3_checkIndex_17 rfl rfl ⟨rfl, wh⟩
theorem dJ0_checkIndex_0 : decode cJ0_checkIndex_df160 0 = .ok (.iload_n 0, 1) := by decide +kernel
theorem dJ0_checkIndex_1 : decode cJ0_checkIndex_df160 1 = .ok (.iload_n 1, 1) := by decide +kernel
theorem dJ0_checkIndex_2 : decode cJ0_checkIndex_df160 2 = .ok (.getstatic 1053, 3) := by decide +kernel
theorem dJ0_checkIndex_5 : decode cJ0_checkIndex_df160 5 = .ok (.invokestatic 1059, 3) := by decide +kernel
theorem dJ0_checkIndex_8 : decode cJ0_checkIndex_df160 8 = .ok (.pop, 1) := by decide +kernel
theorem dJ0_checkIndex_9 : decode cJ0_checkIndex_df160 9 = .ok (.return_, 1) := by decide +kernel
theorem c_J0_checkIndex {h : PH} {w : MEM} (wh : WH X h w) {i n : Int32} (h0 : ¬ i < 0) (h1 : i < n) : CT 1 M_J0_checkIndex_df160 [vI i, vI n] h 0 0 (QP X (.inl none) w) := by
  refine CT_of mk_J0_checkIndex_df160 (Nat.le_of_ble_eq_true rfl) rfl ?_
  refine P_iload_n (pc := 0) dJ0_checkIndex_0 rfl ?_
  refine P_iload_n (pc := 1) dJ0_checkIndex_1 rfl ?_
  have e : ∀ v : Option LA, PW 1 M_J0_checkIndex_df160 (QP X (.inl none) w) 0 0 5 [vI i, vI n] [vQ v, vI n, vI i] h := by
    intro v
    refine P_callS (rc := 0) (rs := 0) (nc := 0) (ns := 0) (As := [vI i, vI n, vQ v]) (st := []) (pc := 5) dJ0_checkIndex_5 mk_J3_checkIndex_8e157 l_J0_1059 st_J3_checkIndex_8e157 ini_J3 rfl (Nat.le_refl 1) (Nat.le_of_ble_eq_true rfl) rfl (c_J3_checkIndex wh h0 h1) (fun v9 h9 q9 => ?_) (fun E h9 q9 => by cases q9.1)
    obtain ⟨e1, wh9⟩ := q9
    injection e1 with e1
    subst e1
    refine P_pop (pc := 8) dJ0_checkIndex_8 (fun _ => rfl) ?_
    exact R_return (pc := 9) dJ0_checkIndex_9 rfl ⟨rfl, wh9⟩
  exact P_getsF (pc := 2) dJ0_checkIndex_2 l_J0_1053 (e none) (fun t => e (some (1203, t)))
theorem bI_n {i : Int32} {n : Nat} (hn : n < 7) (h : bI i n = true) : ¬ i < 0 ∧ i < nI n := by
  unfold bI at h
  simp only [Bool.and_eq_true, Bool.not_eq_true', decide_eq_false_iff_not, Nat.blt_eq] at h
  refine ⟨h.1, ?_⟩
  have h1 := h.1
  rw [Int32.lt_iff_toInt_lt] at h1 ⊢
  rw [nI_toInt (by omega)]
  have h2 := h.2
  rw [Int32.toNatClampNeg] at h2
  have h0 : (0 : Int32).toInt = 0 := by decide
  omega
theorem c_J1_charAt {h : PH} {w : MEM} (wh : WH X h w) {a0 : Nat} {i : Int32} (h0 : a0 < 21) (hb : bI i (sLen.getD a0 0) = true) : CT 2 M_J1_charAt_3b067 [vR (1202, a0), vI i] h 0 0 (QP X (.inl (some (vI ((sByt.getD a0 []).getD i.toNatClampNeg 0)))) w) := by
  have g := bI_n (len_lt a0 h0) hb
  have f := str_facts a0 h0 _ (bI_lt hb)
  refine CT_of mk_J1_charAt_3b067 (Nat.le_of_ble_eq_true rfl) rfl (r_J1_charAt_3b067_0 h0 (cl_V (D := 1) (Nat.le_refl 2) (c_J0_checkIndex wh g.1 g.2) (fun h1 wh => ⟨bI_in hb, ?_⟩)))
  rw [f.1]
  exact ⟨by rw [nar_char, f.2], rfl, wh⟩
theorem c_J0_charAt_5068e {fu : Nat} {o : Int32} {w1 : MEM} {a0 : Nat} {a1 : Int32} {w : MEM} {h : PH} (wh : WH X h w) (h0 : a0 < 21) (hF : f_J0_charAt_5068e fu a0 a1 w = some (o, w1)) : CT 5 M_J0_charAt_5068e [vR (1200, a0), vI a1] h 0 0 (QP X (.inl (some (vI o))) w1) := by
  obtain ⟨c, hF⟩ := ck_of hF
  obtain ⟨rfl, rfl⟩ := some_of hF
  have f := str_facts a0 h0 _ (bI_lt c)
  refine CT_of mk_J0_charAt_5068e (Nat.le_of_ble_eq_true rfl) rfl (r_J0_charAt_5068e_0 h0 (cl_I (D := 0) (by decide) (c_J0_isLatin1 wh h0) (fun h1 wh => ⟨fun e => absurd e (by decide), fun _ => ?_⟩)))
  refine cl_I (D := 2) (by decide) (c_J1_charAt wh h0 c) (fun h1 wh => ⟨by rw [nar_char, f.2], rfl, wh⟩)
-- the arrays
theorem oA_1 {i : Nat} (hv : vo 0 i = true) : oA (1, i) 0 := ⟨rfl, (by simpa [vA] using hv), rfl⟩
theorem oA_101 {i : Nat} (hv : vo 1 i = true) : oA (101, i) 0 := ⟨rfl, (by simpa [vA] using hv), rfl⟩
theorem oA_102 {i : Nat} (hv : vo 1 i = true) : oA (102, i) 0 := ⟨rfl, (by simpa [vA] using hv), rfl⟩
theorem oA_103 {i : Nat} (hv : vo 1 i = true) : oA (103, i) 0 := ⟨rfl, (by simpa [vA] using hv), rfl⟩
theorem oA_104 {i : Nat} (hv : vo 1 i = true) : oA (104, i) 0 := ⟨rfl, (by simpa [vA] using hv), rfl⟩
theorem oA_105 {i : Nat} (hv : vo 1 i = true) : oA (105, i) 0 := ⟨rfl, (by simpa [vA] using hv), rfl⟩
theorem oA_106 {i : Nat} (hv : vo 1 i = true) : oA (106, i) 0 := ⟨rfl, (by simpa [vA] using hv), rfl⟩
theorem oA_107 {i : Nat} (hv : vo 1 i = true) : oA (107, i) 0 := ⟨rfl, (by simpa [vA] using hv), rfl⟩
theorem oA_301 {i : Nat} (hv : vo 3 i = true) : oA (301, i) 0 := ⟨rfl, (by simpa [vA] using hv), rfl⟩
theorem oA_302 {i : Nat} (hv : vo 3 i = true) : oA (302, i) 0 := ⟨rfl, (by simpa [vA] using hv), rfl⟩
theorem oA_303 {i : Nat} (hv : vo 3 i = true) : oA (303, i) 0 := ⟨rfl, (by simpa [vA] using hv), rfl⟩
theorem oA_304 {i : Nat} (hv : vo 3 i = true) : oA (304, i) 0 := ⟨rfl, (by simpa [vA] using hv), rfl⟩
theorem oA_401 {i : Nat} (hv : vo 4 i = true) : oA (401, i) 0 := ⟨rfl, (by simpa [vA] using hv), rfl⟩
theorem oA_402 {i : Nat} (hv : vo 4 i = true) : oA (402, i) 0 := ⟨rfl, (by simpa [vA] using hv), rfl⟩
theorem oA_403 {i : Nat} (hv : vo 4 i = true) : oA (403, i) 0 := ⟨rfl, (by simpa [vA] using hv), rfl⟩
theorem oA_404 {i : Nat} (hv : vo 4 i = true) : oA (404, i) 0 := ⟨rfl, (by simpa [vA] using hv), rfl⟩
theorem oA_405 {i : Nat} (hv : vo 4 i = true) : oA (405, i) 0 := ⟨rfl, (by simpa [vA] using hv), rfl⟩
theorem oA_406 {i : Nat} (hv : vo 4 i = true) : oA (406, i) 0 := ⟨rfl, (by simpa [vA] using hv), rfl⟩
theorem oA_407 {i : Nat} (hv : vo 4 i = true) : oA (407, i) 0 := ⟨rfl, (by simpa [vA] using hv), rfl⟩
theorem oA_408 {i : Nat} (hv : vo 4 i = true) : oA (408, i) 0 := ⟨rfl, (by simpa [vA] using hv), rfl⟩
theorem oA_409 {i : Nat} (hv : vo 4 i = true) : oA (409, i) 0 := ⟨rfl, (by simpa [vA] using hv), rfl⟩
theorem oA_601 {i : Nat} (hv : vo 6 i = true) : oA (601, i) 0 := ⟨rfl, (by simpa [vA] using hv), rfl⟩
theorem oA_701 {i : Nat} (hv : vo 7 i = true) : oA (701, i) 0 := ⟨rfl, (by simpa [vA] using hv), rfl⟩
theorem oA_702 {i : Nat} (hv : vo 7 i = true) : oA (702, i) 0 := ⟨rfl, (by simpa [vA] using hv), rfl⟩
theorem oA_703 {i : Nat} (hv : vo 7 i = true) : oA (703, i) 0 := ⟨rfl, (by simpa [vA] using hv), rfl⟩
theorem oA_704 {i : Nat} (hv : vo 7 i = true) : oA (704, i) 0 := ⟨rfl, (by simpa [vA] using hv), rfl⟩
theorem oA_801 {i : Nat} (hv : vo 8 i = true) : oA (801, i) 1 := ⟨rfl, (by simpa [vA] using hv), rfl⟩
theorem oA_1001 {i : Nat} (hv : vo 10 i = true) : oA (1001, i) 0 := ⟨rfl, (by simpa [vA] using hv), rfl⟩
theorem oA_1002 {i : Nat} (hv : vo 10 i = true) : oA (1002, i) 0 := ⟨rfl, (by simpa [vA] using hv), rfl⟩
theorem oA_1003 {i : Nat} (hv : vo 10 i = true) : oA (1003, i) 0 := ⟨rfl, (by simpa [vA] using hv), rfl⟩
theorem oA_1004 {i : Nat} (hv : vo 10 i = true) : oA (1004, i) 0 := ⟨rfl, (by simpa [vA] using hv), rfl⟩
theorem oA_1005 {i : Nat} (hv : vo 10 i = true) : oA (1005, i) 0 := ⟨rfl, (by simpa [vA] using hv), rfl⟩
theorem oA_1006 {i : Nat} (hv : vo 10 i = true) : oA (1006, i) 0 := ⟨rfl, (by simpa [vA] using hv), rfl⟩
theorem oA_1007 {i : Nat} (hv : vo 10 i = true) : oA (1007, i) 0 := ⟨rfl, (by simpa [vA] using hv), rfl⟩
theorem oA_1008 {i : Nat} (hv : vo 10 i = true) : oA (1008, i) 0 := ⟨rfl, (by simpa [vA] using hv), rfl⟩
theorem oA_1009 {i : Nat} (hv : vo 10 i = true) : oA (1009, i) 0 := ⟨rfl, (by simpa [vA] using hv), rfl⟩
theorem oA_1010 {i : Nat} (hv : vo 10 i = true) : oA (1010, i) 0 := ⟨rfl, (by simpa [vA] using hv), rfl⟩
theorem oA_1011 {i : Nat} (hv : vo 10 i = true) : oA (1011, i) 0 := ⟨rfl, (by simpa [vA] using hv), rfl⟩
theorem oA_1012 {i : Nat} (hv : vo 10 i = true) : oA (1012, i) 0 := ⟨rfl, (by simpa [vA] using hv), rfl⟩
theorem oA_1013 {i : Nat} (hv : vo 10 i = true) : oA (1013, i) 0 := ⟨rfl, (by simpa [vA] using hv), rfl⟩
theorem oA_1014 {i : Nat} (hv : vo 10 i = true) : oA (1014, i) 0 := ⟨rfl, (by simpa [vA] using hv), rfl⟩
theorem oA_1015 {i : Nat} (hv : vo 10 i = true) : oA (1015, i) 0 := ⟨rfl, (by simpa [vA] using hv), rfl⟩
theorem oA_1016 {i : Nat} (hv : vo 10 i = true) : oA (1016, i) 0 := ⟨rfl, (by simpa [vA] using hv), rfl⟩
theorem oA_1017 {i : Nat} (hv : vo 10 i = true) : oA (1017, i) 0 := ⟨rfl, (by simpa [vA] using hv), rfl⟩
theorem oA_1018 {i : Nat} (hv : vo 10 i = true) : oA (1018, i) 0 := ⟨rfl, (by simpa [vA] using hv), rfl⟩
theorem oA_1019 {i : Nat} (hv : vo 10 i = true) : oA (1019, i) 0 := ⟨rfl, (by simpa [vA] using hv), rfl⟩
theorem oA_1020 {i : Nat} (hv : vo 10 i = true) : oA (1020, i) 0 := ⟨rfl, (by simpa [vA] using hv), rfl⟩
theorem oA_1021 {i : Nat} (hv : vo 10 i = true) : oA (1021, i) 0 := ⟨rfl, (by simpa [vA] using hv), rfl⟩
theorem oA_1022 {i : Nat} (hv : vo 10 i = true) : oA (1022, i) 0 := ⟨rfl, (by simpa [vA] using hv), rfl⟩
theorem oA_1023 {i : Nat} (hv : vo 10 i = true) : oA (1023, i) 0 := ⟨rfl, (by simpa [vA] using hv), rfl⟩
theorem oA_1024 {i : Nat} (hv : vo 10 i = true) : oA (1024, i) 0 := ⟨rfl, (by simpa [vA] using hv), rfl⟩
theorem oA_1025 {i : Nat} (hv : vo 10 i = true) : oA (1025, i) 0 := ⟨rfl, (by simpa [vA] using hv), rfl⟩
theorem oA_1026 {i : Nat} (hv : vo 10 i = true) : oA (1026, i) 2 := ⟨rfl, (by simpa [vA] using hv), rfl⟩
theorem oA_1027 {i : Nat} (hv : vo 10 i = true) : oA (1027, i) 0 := ⟨rfl, (by simpa [vA] using hv), rfl⟩
theorem oA_1028 {i : Nat} (hv : vo 10 i = true) : oA (1028, i) 0 := ⟨rfl, (by simpa [vA] using hv), rfl⟩
theorem oA_503 {i : Nat} (hv : vA 503 i = true) : oA (503, i) 0 := ⟨rfl, hv, rfl⟩
