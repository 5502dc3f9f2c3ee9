-- X4_init <init>()V
theorem dX4_init_0 : decode cX4_init 0 = .ok (.aload_n 0, 1) := by decide +kernel
theorem dX4_init_1 : decode cX4_init 1 = .ok (.invokespecial 3, 3) := by decide +kernel
theorem dX4_init_4 : decode cX4_init 4 = .ok (.aload_n 0, 1) := by decide +kernel
theorem dX4_init_5 : decode cX4_init 5 = .ok (.bipush 7, 2) := by decide +kernel
theorem dX4_init_7 : decode cX4_init 7 = .ok (.newarray .int, 2) := by decide +kernel
theorem dX4_init_9 : decode cX4_init 9 = .ok (.putfield 9, 3) := by decide +kernel
theorem dX4_init_12 : decode cX4_init 12 = .ok (.aload_n 0, 1) := by decide +kernel
theorem dX4_init_13 : decode cX4_init 13 = .ok (.bipush 7, 2) := by decide +kernel
theorem dX4_init_15 : decode cX4_init 15 = .ok (.newarray .int, 2) := by decide +kernel
theorem dX4_init_17 : decode cX4_init 17 = .ok (.putfield 15, 3) := by decide +kernel
theorem dX4_init_20 : decode cX4_init 20 = .ok (.aload_n 0, 1) := by decide +kernel
theorem dX4_init_21 : decode cX4_init 21 = .ok (.bipush 7, 2) := by decide +kernel
theorem dX4_init_23 : decode cX4_init 23 = .ok (.newarray .int, 2) := by decide +kernel
theorem dX4_init_25 : decode cX4_init 25 = .ok (.putfield 18, 3) := by decide +kernel
theorem dX4_init_28 : decode cX4_init 28 = .ok (.aload_n 0, 1) := by decide +kernel
theorem dX4_init_29 : decode cX4_init 29 = .ok (.bipush 7, 2) := by decide +kernel
theorem dX4_init_31 : decode cX4_init 31 = .ok (.newarray .int, 2) := by decide +kernel
theorem dX4_init_33 : decode cX4_init 33 = .ok (.putfield 21, 3) := by decide +kernel
theorem dX4_init_36 : decode cX4_init 36 = .ok (.aload_n 0, 1) := by decide +kernel
theorem dX4_init_37 : decode cX4_init 37 = .ok (.bipush 7, 2) := by decide +kernel
theorem dX4_init_39 : decode cX4_init 39 = .ok (.newarray .int, 2) := by decide +kernel
theorem dX4_init_41 : decode cX4_init 41 = .ok (.putfield 24, 3) := by decide +kernel
theorem dX4_init_44 : decode cX4_init 44 = .ok (.aload_n 0, 1) := by decide +kernel
theorem dX4_init_45 : decode cX4_init 45 = .ok (.bipush 7, 2) := by decide +kernel
theorem dX4_init_47 : decode cX4_init 47 = .ok (.newarray .int, 2) := by decide +kernel
theorem dX4_init_49 : decode cX4_init 49 = .ok (.putfield 27, 3) := by decide +kernel
theorem dX4_init_52 : decode cX4_init 52 = .ok (.aload_n 0, 1) := by decide +kernel
theorem dX4_init_53 : decode cX4_init 53 = .ok (.bipush 7, 2) := by decide +kernel
theorem dX4_init_55 : decode cX4_init 55 = .ok (.newarray .int, 2) := by decide +kernel
theorem dX4_init_57 : decode cX4_init 57 = .ok (.putfield 30, 3) := by decide +kernel
theorem dX4_init_60 : decode cX4_init 60 = .ok (.aload_n 0, 1) := by decide +kernel
theorem dX4_init_61 : decode cX4_init 61 = .ok (.bipush 7, 2) := by decide +kernel
theorem dX4_init_63 : decode cX4_init 63 = .ok (.newarray .int, 2) := by decide +kernel
theorem dX4_init_65 : decode cX4_init 65 = .ok (.putfield 33, 3) := by decide +kernel
theorem dX4_init_68 : decode cX4_init 68 = .ok (.aload_n 0, 1) := by decide +kernel
theorem dX4_init_69 : decode cX4_init 69 = .ok (.bipush 7, 2) := by decide +kernel
theorem dX4_init_71 : decode cX4_init 71 = .ok (.newarray .int, 2) := by decide +kernel
theorem dX4_init_73 : decode cX4_init 73 = .ok (.putfield 36, 3) := by decide +kernel
theorem dX4_init_76 : decode cX4_init 76 = .ok (.return_, 1) := by decide +kernel
theorem r_X4_init_0 {d rc rs : Nat} {Q : PO → PH → Prop} {h : PH} {l0 : Nat}
    (k : 1 ≤ d ∧ nwA h 0 (7 : Int32) (.inl (fun _ => 0)) rc rs fun a1 h2 rc3 rs4 => sF h2 (10400, l0) (vR a1) fun h5 => nwA h5 0 (7 : Int32) (.inl (fun _ => 0)) rc3 rs4 fun a6 h7 rc8 rs9 => sF h7 (10401, l0) (vR a6) fun h10 => nwA h10 0 (7 : Int32) (.inl (fun _ => 0)) rc8 rs9 fun a11 h12 rc13 rs14 => sF h12 (10402, l0) (vR a11) fun h15 => nwA h15 0 (7 : Int32) (.inl (fun _ => 0)) rc13 rs14 fun a16 h17 rc18 rs19 => sF h17 (10403, l0) (vR a16) fun h20 => nwA h20 0 (7 : Int32) (.inl (fun _ => 0)) rc18 rs19 fun a21 h22 rc23 rs24 => sF h22 (10404, l0) (vR a21) fun h25 => nwA h25 0 (7 : Int32) (.inl (fun _ => 0)) rc23 rs24 fun a26 h27 rc28 rs29 => sF h27 (10405, l0) (vR a26) fun h30 => nwA h30 0 (7 : Int32) (.inl (fun _ => 0)) rc28 rs29 fun a31 h32 rc33 rs34 => sF h32 (10406, l0) (vR a31) fun h35 => nwA h35 0 (7 : Int32) (.inl (fun _ => 0)) rc33 rs34 fun a36 h37 rc38 rs39 => sF h37 (10407, l0) (vR a36) fun h40 => nwA h40 0 (7 : Int32) (.inl (fun _ => 0)) rc38 rs39 fun a41 h42 rc43 rs44 => sF h42 (10408, l0) (vR a41) fun h45 => Q (.inl none) h45) :
    PW d M_X4_init Q rc rs 0 [vR (400, l0)] [] h := by
  refine P_aload_n (pc := 0) dX4_init_0 rfl ?_
  refine P_objInit (pc := 1) dX4_init_1 l_X4_3 oi_in oi_co k.1 (Nat.le_of_ble_eq_true rfl) ?_
  replace k := k.2
  refine P_aload_n (pc := 4) dX4_init_4 rfl ?_
  refine P_bipush (v := (7 : Int32)) (pc := 5) dX4_init_5 (by decide) ?_
  obtain ⟨a1, n9, m9, g9, rc3, rs4, b1, b2, b3, b4, b5, b6, rfl, rfl, k⟩ := k
  refine P_newaI (pc := 7) dX4_init_7 ac_int b1 b2 b3 b4 b5 b6 ?_
  obtain ⟨⟨v9, e9⟩, k⟩ := k
  refine S4_0 (pc := 9) dX4_init_9 l_X4_9 rfl rfl e9 ?_
  clear e9
  refine P_aload_n (pc := 12) dX4_init_12 rfl ?_
  refine P_bipush (v := (7 : Int32)) (pc := 13) dX4_init_13 (by decide) ?_
  obtain ⟨a6, n9, m9, g9, rc8, rs9, b1, b2, b3, b4, b5, b6, rfl, rfl, k⟩ := k
  refine P_newaI (pc := 15) dX4_init_15 ac_int b1 b2 b3 b4 b5 b6 ?_
  obtain ⟨⟨v9, e9⟩, k⟩ := k
  refine S4_1 (pc := 17) dX4_init_17 l_X4_15 rfl rfl e9 ?_
  clear e9
  refine P_aload_n (pc := 20) dX4_init_20 rfl ?_
  refine P_bipush (v := (7 : Int32)) (pc := 21) dX4_init_21 (by decide) ?_
  obtain ⟨a11, n9, m9, g9, rc13, rs14, b1, b2, b3, b4, b5, b6, rfl, rfl, k⟩ := k
  refine P_newaI (pc := 23) dX4_init_23 ac_int b1 b2 b3 b4 b5 b6 ?_
  obtain ⟨⟨v9, e9⟩, k⟩ := k
  refine S4_2 (pc := 25) dX4_init_25 l_X4_18 rfl rfl e9 ?_
  clear e9
  refine P_aload_n (pc := 28) dX4_init_28 rfl ?_
  refine P_bipush (v := (7 : Int32)) (pc := 29) dX4_init_29 (by decide) ?_
  obtain ⟨a16, n9, m9, g9, rc18, rs19, b1, b2, b3, b4, b5, b6, rfl, rfl, k⟩ := k
  refine P_newaI (pc := 31) dX4_init_31 ac_int b1 b2 b3 b4 b5 b6 ?_
  obtain ⟨⟨v9, e9⟩, k⟩ := k
  refine S4_3 (pc := 33) dX4_init_33 l_X4_21 rfl rfl e9 ?_
  clear e9
  refine P_aload_n (pc := 36) dX4_init_36 rfl ?_
  refine P_bipush (v := (7 : Int32)) (pc := 37) dX4_init_37 (by decide) ?_
  obtain ⟨a21, n9, m9, g9, rc23, rs24, b1, b2, b3, b4, b5, b6, rfl, rfl, k⟩ := k
  refine P_newaI (pc := 39) dX4_init_39 ac_int b1 b2 b3 b4 b5 b6 ?_
  obtain ⟨⟨v9, e9⟩, k⟩ := k
  refine S4_4 (pc := 41) dX4_init_41 l_X4_24 rfl rfl e9 ?_
  clear e9
  refine P_aload_n (pc := 44) dX4_init_44 rfl ?_
  refine P_bipush (v := (7 : Int32)) (pc := 45) dX4_init_45 (by decide) ?_
  obtain ⟨a26, n9, m9, g9, rc28, rs29, b1, b2, b3, b4, b5, b6, rfl, rfl, k⟩ := k
  refine P_newaI (pc := 47) dX4_init_47 ac_int b1 b2 b3 b4 b5 b6 ?_
  obtain ⟨⟨v9, e9⟩, k⟩ := k
  refine S4_5 (pc := 49) dX4_init_49 l_X4_27 rfl rfl e9 ?_
  clear e9
  refine P_aload_n (pc := 52) dX4_init_52 rfl ?_
  refine P_bipush (v := (7 : Int32)) (pc := 53) dX4_init_53 (by decide) ?_
  obtain ⟨a31, n9, m9, g9, rc33, rs34, b1, b2, b3, b4, b5, b6, rfl, rfl, k⟩ := k
  refine P_newaI (pc := 55) dX4_init_55 ac_int b1 b2 b3 b4 b5 b6 ?_
  obtain ⟨⟨v9, e9⟩, k⟩ := k
  refine S4_6 (pc := 57) dX4_init_57 l_X4_30 rfl rfl e9 ?_
  clear e9
  refine P_aload_n (pc := 60) dX4_init_60 rfl ?_
  refine P_bipush (v := (7 : Int32)) (pc := 61) dX4_init_61 (by decide) ?_
  obtain ⟨a36, n9, m9, g9, rc38, rs39, b1, b2, b3, b4, b5, b6, rfl, rfl, k⟩ := k
  refine P_newaI (pc := 63) dX4_init_63 ac_int b1 b2 b3 b4 b5 b6 ?_
  obtain ⟨⟨v9, e9⟩, k⟩ := k
  refine S4_7 (pc := 65) dX4_init_65 l_X4_33 rfl rfl e9 ?_
  clear e9
  refine P_aload_n (pc := 68) dX4_init_68 rfl ?_
  refine P_bipush (v := (7 : Int32)) (pc := 69) dX4_init_69 (by decide) ?_
  obtain ⟨a41, n9, m9, g9, rc43, rs44, b1, b2, b3, b4, b5, b6, rfl, rfl, k⟩ := k
  refine P_newaI (pc := 71) dX4_init_71 ac_int b1 b2 b3 b4 b5 b6 ?_
  obtain ⟨⟨v9, e9⟩, k⟩ := k
  refine S4_8 (pc := 73) dX4_init_73 l_X4_36 rfl rfl e9 ?_
  clear e9
  exact R_return (pc := 76) dX4_init_76 rfl k
-- X4_begin begin(LFernHeirs$Court;)V
theorem dX4_begin_0 : decode cX4_begin 0 = .ok (.aload_n 0, 1) := by decide +kernel
theorem dX4_begin_1 : decode cX4_begin 1 = .ok (.iconst 0, 1) := by decide +kernel
theorem dX4_begin_2 : decode cX4_begin 2 = .ok (.putfield 39, 3) := by decide +kernel
theorem dX4_begin_5 : decode cX4_begin 5 = .ok (.iconst 0, 1) := by decide +kernel
theorem dX4_begin_6 : decode cX4_begin 6 = .ok (.istore_n 2, 1) := by decide +kernel
theorem dX4_begin_7 : decode cX4_begin 7 = .ok (.iload_n 2, 1) := by decide +kernel
theorem dX4_begin_8 : decode cX4_begin 8 = .ok (.bipush 7, 2) := by decide +kernel
theorem dX4_begin_10 : decode cX4_begin 10 = .ok (.if_icmp .ge 95, 3) := by decide +kernel
theorem dX4_begin_13 : decode cX4_begin 13 = .ok (.aload_n 0, 1) := by decide +kernel
theorem dX4_begin_14 : decode cX4_begin 14 = .ok (.getfield 9, 3) := by decide +kernel
theorem dX4_begin_17 : decode cX4_begin 17 = .ok (.iload_n 2, 1) := by decide +kernel
theorem dX4_begin_18 : decode cX4_begin 18 = .ok (.aload_n 1, 1) := by decide +kernel
theorem dX4_begin_19 : decode cX4_begin 19 = .ok (.getfield 43, 3) := by decide +kernel
theorem dX4_begin_22 : decode cX4_begin 22 = .ok (.iload_n 2, 1) := by decide +kernel
theorem dX4_begin_23 : decode cX4_begin 23 = .ok (.iaload, 1) := by decide +kernel
theorem dX4_begin_24 : decode cX4_begin 24 = .ok (.iastore, 1) := by decide +kernel
theorem dX4_begin_25 : decode cX4_begin 25 = .ok (.aload_n 0, 1) := by decide +kernel
theorem dX4_begin_26 : decode cX4_begin 26 = .ok (.getfield 15, 3) := by decide +kernel
theorem dX4_begin_29 : decode cX4_begin 29 = .ok (.iload_n 2, 1) := by decide +kernel
theorem dX4_begin_30 : decode cX4_begin 30 = .ok (.aload_n 1, 1) := by decide +kernel
theorem dX4_begin_31 : decode cX4_begin 31 = .ok (.getfield 46, 3) := by decide +kernel
theorem dX4_begin_34 : decode cX4_begin 34 = .ok (.iload_n 2, 1) := by decide +kernel
theorem dX4_begin_35 : decode cX4_begin 35 = .ok (.iaload, 1) := by decide +kernel
theorem dX4_begin_36 : decode cX4_begin 36 = .ok (.iastore, 1) := by decide +kernel
theorem dX4_begin_37 : decode cX4_begin 37 = .ok (.aload_n 0, 1) := by decide +kernel
theorem dX4_begin_38 : decode cX4_begin 38 = .ok (.getfield 18, 3) := by decide +kernel
theorem dX4_begin_41 : decode cX4_begin 41 = .ok (.iload_n 2, 1) := by decide +kernel
theorem dX4_begin_42 : decode cX4_begin 42 = .ok (.iconst 0, 1) := by decide +kernel
theorem dX4_begin_43 : decode cX4_begin 43 = .ok (.iastore, 1) := by decide +kernel
theorem dX4_begin_44 : decode cX4_begin 44 = .ok (.aload_n 0, 1) := by decide +kernel
theorem dX4_begin_45 : decode cX4_begin 45 = .ok (.getfield 21, 3) := by decide +kernel
theorem dX4_begin_48 : decode cX4_begin 48 = .ok (.iload_n 2, 1) := by decide +kernel
theorem dX4_begin_49 : decode cX4_begin 49 = .ok (.bipush 99, 2) := by decide +kernel
theorem dX4_begin_51 : decode cX4_begin 51 = .ok (.iastore, 1) := by decide +kernel
theorem dX4_begin_52 : decode cX4_begin 52 = .ok (.aload_n 0, 1) := by decide +kernel
theorem dX4_begin_53 : decode cX4_begin 53 = .ok (.getfield 24, 3) := by decide +kernel
theorem dX4_begin_56 : decode cX4_begin 56 = .ok (.iload_n 2, 1) := by decide +kernel
theorem dX4_begin_57 : decode cX4_begin 57 = .ok (.iconst 0, 1) := by decide +kernel
theorem dX4_begin_58 : decode cX4_begin 58 = .ok (.iastore, 1) := by decide +kernel
theorem dX4_begin_59 : decode cX4_begin 59 = .ok (.aload_n 0, 1) := by decide +kernel
theorem dX4_begin_60 : decode cX4_begin 60 = .ok (.getfield 27, 3) := by decide +kernel
theorem dX4_begin_63 : decode cX4_begin 63 = .ok (.iload_n 2, 1) := by decide +kernel
theorem dX4_begin_64 : decode cX4_begin 64 = .ok (.iconst 0, 1) := by decide +kernel
theorem dX4_begin_65 : decode cX4_begin 65 = .ok (.iastore, 1) := by decide +kernel
theorem dX4_begin_66 : decode cX4_begin 66 = .ok (.aload_n 0, 1) := by decide +kernel
theorem dX4_begin_67 : decode cX4_begin 67 = .ok (.getfield 30, 3) := by decide +kernel
theorem dX4_begin_70 : decode cX4_begin 70 = .ok (.iload_n 2, 1) := by decide +kernel
theorem dX4_begin_71 : decode cX4_begin 71 = .ok (.iload_n 2, 1) := by decide +kernel
theorem dX4_begin_72 : decode cX4_begin 72 = .ok (.aload_n 1, 1) := by decide +kernel
theorem dX4_begin_73 : decode cX4_begin 73 = .ok (.getfield 47, 3) := by decide +kernel
theorem dX4_begin_76 : decode cX4_begin 76 = .ok (.if_icmp .ge 7, 3) := by decide +kernel
theorem dX4_begin_79 : decode cX4_begin 79 = .ok (.iconst 1, 1) := by decide +kernel
theorem dX4_begin_80 : decode cX4_begin 80 = .ok (.goto 4, 3) := by decide +kernel
theorem dX4_begin_83 : decode cX4_begin 83 = .ok (.iconst 0, 1) := by decide +kernel
theorem dX4_begin_84 : decode cX4_begin 84 = .ok (.iastore, 1) := by decide +kernel
theorem dX4_begin_85 : decode cX4_begin 85 = .ok (.aload_n 0, 1) := by decide +kernel
theorem dX4_begin_86 : decode cX4_begin 86 = .ok (.getfield 33, 3) := by decide +kernel
theorem dX4_begin_89 : decode cX4_begin 89 = .ok (.iload_n 2, 1) := by decide +kernel
theorem dX4_begin_90 : decode cX4_begin 90 = .ok (.iconst (-1), 1) := by decide +kernel
theorem dX4_begin_91 : decode cX4_begin 91 = .ok (.iastore, 1) := by decide +kernel
theorem dX4_begin_92 : decode cX4_begin 92 = .ok (.aload_n 0, 1) := by decide +kernel
theorem dX4_begin_93 : decode cX4_begin 93 = .ok (.getfield 36, 3) := by decide +kernel
theorem dX4_begin_96 : decode cX4_begin 96 = .ok (.iload_n 2, 1) := by decide +kernel
theorem dX4_begin_97 : decode cX4_begin 97 = .ok (.iconst 0, 1) := by decide +kernel
theorem dX4_begin_98 : decode cX4_begin 98 = .ok (.iastore, 1) := by decide +kernel
theorem dX4_begin_99 : decode cX4_begin 99 = .ok (.iinc 2 1, 3) := by decide +kernel
theorem dX4_begin_102 : decode cX4_begin 102 = .ok (.goto (-95), 3) := by decide +kernel
theorem dX4_begin_105 : decode cX4_begin 105 = .ok (.return_, 1) := by decide +kernel
theorem r_X4_begin_0 {d rc rs : Nat} {Q : PO → PH → Prop} {h : PH} {l0 : Nat} {l1 : Nat}
    (k : sF h (10409, l0) (vI (0 : Int32)) fun h1 => PW d M_X4_begin Q rc rs 7 [vR (400, l0), vR (100, l1), vI (0 : Int32)] [] h1) :
    PW d M_X4_begin Q rc rs 0 [vR (400, l0), vR (100, l1), vU] [] h := by
  refine P_aload_n (pc := 0) dX4_begin_0 rfl ?_
  refine P_iconst (v := (0 : Int32)) (pc := 1) dX4_begin_1 (by decide) ?_
  obtain ⟨⟨v9, e9⟩, k⟩ := k
  refine S4_9 (pc := 2) dX4_begin_2 l_X4_39 e9 ?_
  clear e9
  refine P_iconst (v := (0 : Int32)) (pc := 5) dX4_begin_5 (by decide) ?_
  refine P_istore_n (pc := 6) dX4_begin_6 (by decide) (Or.inr (by intro z e9; cases e9)) rfl ?_
  exact k
theorem r_X4_begin_7 {d rc rs : Nat} {Q : PO → PH → Prop} {h : PH} {l0 : Nat} {l1 : Nat} {l2 : Int32}
    (k : br (l2 < (7 : Int32)) (gA h (10400, l0) fun a1 => gA h (10100, l1) fun a2 => xI h a2 l2 fun x3 => yI h a1 l2 x3 fun h4 => gA h4 (10401, l0) fun a5 => gA h4 (10101, l1) fun a6 => xI h4 a6 l2 fun x7 => yI h4 a5 l2 x7 fun h8 => gA h8 (10402, l0) fun a9 => yI h8 a9 l2 (0 : Int32) fun h10 => gA h10 (10403, l0) fun a11 => yI h10 a11 l2 (99 : Int32) fun h12 => gA h12 (10404, l0) fun a13 => yI h12 a13 l2 (0 : Int32) fun h14 => gA h14 (10405, l0) fun a15 => yI h14 a15 l2 (0 : Int32) fun h16 => gA h16 (10406, l0) fun a17 => gI h16 (10107, l1) fun x18 => br (l2 < x18) (yI h16 a17 l2 (1 : Int32) fun h24 => gA h24 (10407, l0) fun a25 => yI h24 a25 l2 (-1 : Int32) fun h26 => gA h26 (10408, l0) fun a27 => yI h26 a27 l2 (0 : Int32) fun h28 => PW d M_X4_begin Q rc rs 7 [vR (400, l0), vR (100, l1), vI (l2 + (1 : Int32))] [] h28) (yI h16 a17 l2 (0 : Int32) fun h19 => gA h19 (10407, l0) fun a20 => yI h19 a20 l2 (-1 : Int32) fun h21 => gA h21 (10408, l0) fun a22 => yI h21 a22 l2 (0 : Int32) fun h23 => PW d M_X4_begin Q rc rs 7 [vR (400, l0), vR (100, l1), vI (l2 + (1 : Int32))] [] h23)) (Q (.inl none) h)) :
    PW d M_X4_begin Q rc rs 7 [vR (400, l0), vR (100, l1), vI l2] [] h := by
  refine P_iload_n (pc := 7) dX4_begin_7 rfl ?_
  refine P_bipush (v := (7 : Int32)) (pc := 8) dX4_begin_8 (by decide) ?_
  refine P_icmp_ge (tgt := 105) (pc := 10) dX4_begin_10 (by decide) (fun c => ?_) (fun c => ?_)
  · have k := k.2 (Int32.not_lt.mpr c)
    exact R_return (pc := 105) dX4_begin_105 rfl k
  · have k := k.1 (Int32.not_le.mp c)
    refine P_aload_n (pc := 13) dX4_begin_13 rfl ?_
    obtain ⟨a1, e9, k⟩ := k
    refine G4_0 (pc := 14) dX4_begin_14 l_X4_9 e9 ?_
    clear e9
    refine P_iload_n (pc := 17) dX4_begin_17 rfl ?_
    refine P_aload_n (pc := 18) dX4_begin_18 rfl ?_
    obtain ⟨a2, e9, k⟩ := k
    refine GN1_0 (pc := 19) dX4_begin_19 n_X4_43 e9 ?_
    clear e9
    refine P_iload_n (pc := 22) dX4_begin_22 rfl ?_
    obtain ⟨n9, f9, e9, i9, k⟩ := k
    refine P_iald (pc := 23) dX4_begin_23 e9 i9 ?_
    clear e9
    generalize f9 (Int32.toNatClampNeg l2) = x3 at k ⊢
    obtain ⟨n9, f9, e9, i9, k⟩ := k
    refine P_iast (pc := 24) dX4_begin_24 e9 i9 ?_
    clear e9
    refine P_aload_n (pc := 25) dX4_begin_25 rfl ?_
    obtain ⟨a5, e9, k⟩ := k
    refine G4_1 (pc := 26) dX4_begin_26 l_X4_15 e9 ?_
    clear e9
    refine P_iload_n (pc := 29) dX4_begin_29 rfl ?_
    refine P_aload_n (pc := 30) dX4_begin_30 rfl ?_
    obtain ⟨a6, e9, k⟩ := k
    refine GN1_1 (pc := 31) dX4_begin_31 n_X4_46 e9 ?_
    clear e9
    refine P_iload_n (pc := 34) dX4_begin_34 rfl ?_
    obtain ⟨n9, f9, e9, i9, k⟩ := k
    refine P_iald (pc := 35) dX4_begin_35 e9 i9 ?_
    clear e9
    generalize f9 (Int32.toNatClampNeg l2) = x7 at k ⊢
    obtain ⟨n9, f9, e9, i9, k⟩ := k
    refine P_iast (pc := 36) dX4_begin_36 e9 i9 ?_
    clear e9
    refine P_aload_n (pc := 37) dX4_begin_37 rfl ?_
    obtain ⟨a9, e9, k⟩ := k
    refine G4_2 (pc := 38) dX4_begin_38 l_X4_18 e9 ?_
    clear e9
    refine P_iload_n (pc := 41) dX4_begin_41 rfl ?_
    refine P_iconst (v := (0 : Int32)) (pc := 42) dX4_begin_42 (by decide) ?_
    obtain ⟨n9, f9, e9, i9, k⟩ := k
    refine P_iast (pc := 43) dX4_begin_43 e9 i9 ?_
    clear e9
    refine P_aload_n (pc := 44) dX4_begin_44 rfl ?_
    obtain ⟨a11, e9, k⟩ := k
    refine G4_3 (pc := 45) dX4_begin_45 l_X4_21 e9 ?_
    clear e9
    refine P_iload_n (pc := 48) dX4_begin_48 rfl ?_
    refine P_bipush (v := (99 : Int32)) (pc := 49) dX4_begin_49 (by decide) ?_
    obtain ⟨n9, f9, e9, i9, k⟩ := k
    refine P_iast (pc := 51) dX4_begin_51 e9 i9 ?_
    clear e9
    refine P_aload_n (pc := 52) dX4_begin_52 rfl ?_
    obtain ⟨a13, e9, k⟩ := k
    refine G4_4 (pc := 53) dX4_begin_53 l_X4_24 e9 ?_
    clear e9
    refine P_iload_n (pc := 56) dX4_begin_56 rfl ?_
    refine P_iconst (v := (0 : Int32)) (pc := 57) dX4_begin_57 (by decide) ?_
    obtain ⟨n9, f9, e9, i9, k⟩ := k
    refine P_iast (pc := 58) dX4_begin_58 e9 i9 ?_
    clear e9
    refine P_aload_n (pc := 59) dX4_begin_59 rfl ?_
    obtain ⟨a15, e9, k⟩ := k
    refine G4_5 (pc := 60) dX4_begin_60 l_X4_27 e9 ?_
    clear e9
    refine P_iload_n (pc := 63) dX4_begin_63 rfl ?_
    refine P_iconst (v := (0 : Int32)) (pc := 64) dX4_begin_64 (by decide) ?_
    obtain ⟨n9, f9, e9, i9, k⟩ := k
    refine P_iast (pc := 65) dX4_begin_65 e9 i9 ?_
    clear e9
    refine P_aload_n (pc := 66) dX4_begin_66 rfl ?_
    obtain ⟨a17, e9, k⟩ := k
    refine G4_6 (pc := 67) dX4_begin_67 l_X4_30 e9 ?_
    clear e9
    refine P_iload_n (pc := 70) dX4_begin_70 rfl ?_
    refine P_iload_n (pc := 71) dX4_begin_71 rfl ?_
    refine P_aload_n (pc := 72) dX4_begin_72 rfl ?_
    obtain ⟨x18, e9, k⟩ := k
    refine GN1_7 (pc := 73) dX4_begin_73 n_X4_47 e9 ?_
    clear e9
    refine P_icmp_ge (tgt := 83) (pc := 76) dX4_begin_76 (by decide) (fun c => ?_) (fun c => ?_)
    · have k := k.2 (Int32.not_lt.mpr c)
      refine P_iconst (v := (0 : Int32)) (pc := 83) dX4_begin_83 (by decide) ?_
      obtain ⟨n9, f9, e9, i9, k⟩ := k
      refine P_iast (pc := 84) dX4_begin_84 e9 i9 ?_
      clear e9
      refine P_aload_n (pc := 85) dX4_begin_85 rfl ?_
      obtain ⟨a20, e9, k⟩ := k
      refine G4_7 (pc := 86) dX4_begin_86 l_X4_33 e9 ?_
      clear e9
      refine P_iload_n (pc := 89) dX4_begin_89 rfl ?_
      refine P_iconst (v := (-1 : Int32)) (pc := 90) dX4_begin_90 (by decide) ?_
      obtain ⟨n9, f9, e9, i9, k⟩ := k
      refine P_iast (pc := 91) dX4_begin_91 e9 i9 ?_
      clear e9
      refine P_aload_n (pc := 92) dX4_begin_92 rfl ?_
      obtain ⟨a22, e9, k⟩ := k
      refine G4_8 (pc := 93) dX4_begin_93 l_X4_36 e9 ?_
      clear e9
      refine P_iload_n (pc := 96) dX4_begin_96 rfl ?_
      refine P_iconst (v := (0 : Int32)) (pc := 97) dX4_begin_97 (by decide) ?_
      obtain ⟨n9, f9, e9, i9, k⟩ := k
      refine P_iast (pc := 98) dX4_begin_98 e9 i9 ?_
      clear e9
      refine P_iinc (v := l2 + (1 : Int32)) (pc := 99) dX4_begin_99 (by decide) rfl rfl (Or.inr (by intro z e9; cases e9)) rfl ?_
      refine P_goto (tgt := 7) (pc := 102) dX4_begin_102 (by decide) ?_
      exact k
    · have k := k.1 (Int32.not_le.mp c)
      refine P_iconst (v := (1 : Int32)) (pc := 79) dX4_begin_79 (by decide) ?_
      refine P_goto (tgt := 84) (pc := 80) dX4_begin_80 (by decide) ?_
      obtain ⟨n9, f9, e9, i9, k⟩ := k
      refine P_iast (pc := 84) dX4_begin_84 e9 i9 ?_
      clear e9
      refine P_aload_n (pc := 85) dX4_begin_85 rfl ?_
      obtain ⟨a25, e9, k⟩ := k
      refine G4_7 (pc := 86) dX4_begin_86 l_X4_33 e9 ?_
      clear e9
      refine P_iload_n (pc := 89) dX4_begin_89 rfl ?_
      refine P_iconst (v := (-1 : Int32)) (pc := 90) dX4_begin_90 (by decide) ?_
      obtain ⟨n9, f9, e9, i9, k⟩ := k
      refine P_iast (pc := 91) dX4_begin_91 e9 i9 ?_
      clear e9
      refine P_aload_n (pc := 92) dX4_begin_92 rfl ?_
      obtain ⟨a27, e9, k⟩ := k
      refine G4_8 (pc := 93) dX4_begin_93 l_X4_36 e9 ?_
      clear e9
      refine P_iload_n (pc := 96) dX4_begin_96 rfl ?_
      refine P_iconst (v := (0 : Int32)) (pc := 97) dX4_begin_97 (by decide) ?_
      obtain ⟨n9, f9, e9, i9, k⟩ := k
      refine P_iast (pc := 98) dX4_begin_98 e9 i9 ?_
      clear e9
      refine P_iinc (v := l2 + (1 : Int32)) (pc := 99) dX4_begin_99 (by decide) rfl rfl (Or.inr (by intro z e9; cases e9)) rfl ?_
      refine P_goto (tgt := 7) (pc := 102) dX4_begin_102 (by decide) ?_
      exact k
-- X4_copy copy(LFernHeirs$Morning;)V
theorem dX4_copy_0 : decode cX4_copy 0 = .ok (.aload_n 0, 1) := by decide +kernel
theorem dX4_copy_1 : decode cX4_copy 1 = .ok (.aload_n 1, 1) := by decide +kernel
theorem dX4_copy_2 : decode cX4_copy 2 = .ok (.getfield 39, 3) := by decide +kernel
theorem dX4_copy_5 : decode cX4_copy 5 = .ok (.putfield 39, 3) := by decide +kernel
theorem dX4_copy_8 : decode cX4_copy 8 = .ok (.aload_n 1, 1) := by decide +kernel
theorem dX4_copy_9 : decode cX4_copy 9 = .ok (.getfield 9, 3) := by decide +kernel
theorem dX4_copy_12 : decode cX4_copy 12 = .ok (.iconst 0, 1) := by decide +kernel
theorem dX4_copy_13 : decode cX4_copy 13 = .ok (.aload_n 0, 1) := by decide +kernel
theorem dX4_copy_14 : decode cX4_copy 14 = .ok (.getfield 9, 3) := by decide +kernel
theorem dX4_copy_17 : decode cX4_copy 17 = .ok (.iconst 0, 1) := by decide +kernel
theorem dX4_copy_18 : decode cX4_copy 18 = .ok (.bipush 7, 2) := by decide +kernel
theorem dX4_copy_20 : decode cX4_copy 20 = .ok (.invokestatic 50, 3) := by decide +kernel
theorem dX4_copy_23 : decode cX4_copy 23 = .ok (.aload_n 1, 1) := by decide +kernel
theorem dX4_copy_24 : decode cX4_copy 24 = .ok (.getfield 15, 3) := by decide +kernel
theorem dX4_copy_27 : decode cX4_copy 27 = .ok (.iconst 0, 1) := by decide +kernel
theorem dX4_copy_28 : decode cX4_copy 28 = .ok (.aload_n 0, 1) := by decide +kernel
theorem dX4_copy_29 : decode cX4_copy 29 = .ok (.getfield 15, 3) := by decide +kernel
theorem dX4_copy_32 : decode cX4_copy 32 = .ok (.iconst 0, 1) := by decide +kernel
theorem dX4_copy_33 : decode cX4_copy 33 = .ok (.bipush 7, 2) := by decide +kernel
theorem dX4_copy_35 : decode cX4_copy 35 = .ok (.invokestatic 50, 3) := by decide +kernel
theorem dX4_copy_38 : decode cX4_copy 38 = .ok (.aload_n 1, 1) := by decide +kernel
theorem dX4_copy_39 : decode cX4_copy 39 = .ok (.getfield 18, 3) := by decide +kernel
theorem dX4_copy_42 : decode cX4_copy 42 = .ok (.iconst 0, 1) := by decide +kernel
theorem dX4_copy_43 : decode cX4_copy 43 = .ok (.aload_n 0, 1) := by decide +kernel
theorem dX4_copy_44 : decode cX4_copy 44 = .ok (.getfield 18, 3) := by decide +kernel
theorem dX4_copy_47 : decode cX4_copy 47 = .ok (.iconst 0, 1) := by decide +kernel
theorem dX4_copy_48 : decode cX4_copy 48 = .ok (.bipush 7, 2) := by decide +kernel
theorem dX4_copy_50 : decode cX4_copy 50 = .ok (.invokestatic 50, 3) := by decide +kernel
theorem dX4_copy_53 : decode cX4_copy 53 = .ok (.aload_n 1, 1) := by decide +kernel
theorem dX4_copy_54 : decode cX4_copy 54 = .ok (.getfield 21, 3) := by decide +kernel
theorem dX4_copy_57 : decode cX4_copy 57 = .ok (.iconst 0, 1) := by decide +kernel
theorem dX4_copy_58 : decode cX4_copy 58 = .ok (.aload_n 0, 1) := by decide +kernel
theorem dX4_copy_59 : decode cX4_copy 59 = .ok (.getfield 21, 3) := by decide +kernel
theorem dX4_copy_62 : decode cX4_copy 62 = .ok (.iconst 0, 1) := by decide +kernel
theorem dX4_copy_63 : decode cX4_copy 63 = .ok (.bipush 7, 2) := by decide +kernel
theorem dX4_copy_65 : decode cX4_copy 65 = .ok (.invokestatic 50, 3) := by decide +kernel
theorem dX4_copy_68 : decode cX4_copy 68 = .ok (.aload_n 1, 1) := by decide +kernel
theorem dX4_copy_69 : decode cX4_copy 69 = .ok (.getfield 24, 3) := by decide +kernel
theorem dX4_copy_72 : decode cX4_copy 72 = .ok (.iconst 0, 1) := by decide +kernel
theorem dX4_copy_73 : decode cX4_copy 73 = .ok (.aload_n 0, 1) := by decide +kernel
theorem dX4_copy_74 : decode cX4_copy 74 = .ok (.getfield 24, 3) := by decide +kernel
theorem dX4_copy_77 : decode cX4_copy 77 = .ok (.iconst 0, 1) := by decide +kernel
theorem dX4_copy_78 : decode cX4_copy 78 = .ok (.bipush 7, 2) := by decide +kernel
theorem dX4_copy_80 : decode cX4_copy 80 = .ok (.invokestatic 50, 3) := by decide +kernel
theorem dX4_copy_83 : decode cX4_copy 83 = .ok (.aload_n 1, 1) := by decide +kernel
theorem dX4_copy_84 : decode cX4_copy 84 = .ok (.getfield 27, 3) := by decide +kernel
theorem dX4_copy_87 : decode cX4_copy 87 = .ok (.iconst 0, 1) := by decide +kernel
theorem dX4_copy_88 : decode cX4_copy 88 = .ok (.aload_n 0, 1) := by decide +kernel
theorem dX4_copy_89 : decode cX4_copy 89 = .ok (.getfield 27, 3) := by decide +kernel
theorem dX4_copy_92 : decode cX4_copy 92 = .ok (.iconst 0, 1) := by decide +kernel
theorem dX4_copy_93 : decode cX4_copy 93 = .ok (.bipush 7, 2) := by decide +kernel
theorem dX4_copy_95 : decode cX4_copy 95 = .ok (.invokestatic 50, 3) := by decide +kernel
theorem dX4_copy_98 : decode cX4_copy 98 = .ok (.aload_n 1, 1) := by decide +kernel
theorem dX4_copy_99 : decode cX4_copy 99 = .ok (.getfield 30, 3) := by decide +kernel
theorem dX4_copy_102 : decode cX4_copy 102 = .ok (.iconst 0, 1) := by decide +kernel
theorem dX4_copy_103 : decode cX4_copy 103 = .ok (.aload_n 0, 1) := by decide +kernel
theorem dX4_copy_104 : decode cX4_copy 104 = .ok (.getfield 30, 3) := by decide +kernel
theorem dX4_copy_107 : decode cX4_copy 107 = .ok (.iconst 0, 1) := by decide +kernel
theorem dX4_copy_108 : decode cX4_copy 108 = .ok (.bipush 7, 2) := by decide +kernel
theorem dX4_copy_110 : decode cX4_copy 110 = .ok (.invokestatic 50, 3) := by decide +kernel
theorem dX4_copy_113 : decode cX4_copy 113 = .ok (.aload_n 1, 1) := by decide +kernel
theorem dX4_copy_114 : decode cX4_copy 114 = .ok (.getfield 33, 3) := by decide +kernel
theorem dX4_copy_117 : decode cX4_copy 117 = .ok (.iconst 0, 1) := by decide +kernel
theorem dX4_copy_118 : decode cX4_copy 118 = .ok (.aload_n 0, 1) := by decide +kernel
theorem dX4_copy_119 : decode cX4_copy 119 = .ok (.getfield 33, 3) := by decide +kernel
theorem dX4_copy_122 : decode cX4_copy 122 = .ok (.iconst 0, 1) := by decide +kernel
theorem dX4_copy_123 : decode cX4_copy 123 = .ok (.bipush 7, 2) := by decide +kernel
theorem dX4_copy_125 : decode cX4_copy 125 = .ok (.invokestatic 50, 3) := by decide +kernel
theorem dX4_copy_128 : decode cX4_copy 128 = .ok (.aload_n 1, 1) := by decide +kernel
theorem dX4_copy_129 : decode cX4_copy 129 = .ok (.getfield 36, 3) := by decide +kernel
theorem dX4_copy_132 : decode cX4_copy 132 = .ok (.iconst 0, 1) := by decide +kernel
theorem dX4_copy_133 : decode cX4_copy 133 = .ok (.aload_n 0, 1) := by decide +kernel
theorem dX4_copy_134 : decode cX4_copy 134 = .ok (.getfield 36, 3) := by decide +kernel
theorem dX4_copy_137 : decode cX4_copy 137 = .ok (.iconst 0, 1) := by decide +kernel
theorem dX4_copy_138 : decode cX4_copy 138 = .ok (.bipush 7, 2) := by decide +kernel
theorem dX4_copy_140 : decode cX4_copy 140 = .ok (.invokestatic 50, 3) := by decide +kernel
theorem dX4_copy_143 : decode cX4_copy 143 = .ok (.return_, 1) := by decide +kernel
theorem r_X4_copy_0 {d rc rs : Nat} {Q : PO → PH → Prop} {h : PH} {l0 : Nat} {l1 : Nat}
    (k : gI h (10409, l1) fun x1 => sF h (10409, l0) (vI x1) fun h2 => gA h2 (10400, l1) fun a3 => gA h2 (10400, l0) fun a4 => cpy d h2 a3 (0 : Int32) a4 (0 : Int32) (7 : Int32) fun h5 => gA h5 (10401, l1) fun a6 => gA h5 (10401, l0) fun a7 => cpy d h5 a6 (0 : Int32) a7 (0 : Int32) (7 : Int32) fun h8 => gA h8 (10402, l1) fun a9 => gA h8 (10402, l0) fun a10 => cpy d h8 a9 (0 : Int32) a10 (0 : Int32) (7 : Int32) fun h11 => gA h11 (10403, l1) fun a12 => gA h11 (10403, l0) fun a13 => cpy d h11 a12 (0 : Int32) a13 (0 : Int32) (7 : Int32) fun h14 => gA h14 (10404, l1) fun a15 => gA h14 (10404, l0) fun a16 => cpy d h14 a15 (0 : Int32) a16 (0 : Int32) (7 : Int32) fun h17 => gA h17 (10405, l1) fun a18 => gA h17 (10405, l0) fun a19 => cpy d h17 a18 (0 : Int32) a19 (0 : Int32) (7 : Int32) fun h20 => gA h20 (10406, l1) fun a21 => gA h20 (10406, l0) fun a22 => cpy d h20 a21 (0 : Int32) a22 (0 : Int32) (7 : Int32) fun h23 => gA h23 (10407, l1) fun a24 => gA h23 (10407, l0) fun a25 => cpy d h23 a24 (0 : Int32) a25 (0 : Int32) (7 : Int32) fun h26 => gA h26 (10408, l1) fun a27 => gA h26 (10408, l0) fun a28 => cpy d h26 a27 (0 : Int32) a28 (0 : Int32) (7 : Int32) fun h29 => Q (.inl none) h29) :
    PW d M_X4_copy Q rc rs 0 [vR (400, l0), vR (400, l1)] [] h := by
  refine P_aload_n (pc := 0) dX4_copy_0 rfl ?_
  refine P_aload_n (pc := 1) dX4_copy_1 rfl ?_
  obtain ⟨x1, e9, k⟩ := k
  refine G4_9 (pc := 2) dX4_copy_2 l_X4_39 e9 ?_
  clear e9
  obtain ⟨⟨v9, e9⟩, k⟩ := k
  refine S4_9 (pc := 5) dX4_copy_5 l_X4_39 e9 ?_
  clear e9
  refine P_aload_n (pc := 8) dX4_copy_8 rfl ?_
  obtain ⟨a3, e9, k⟩ := k
  refine G4_0 (pc := 9) dX4_copy_9 l_X4_9 e9 ?_
  clear e9
  refine P_iconst (v := (0 : Int32)) (pc := 12) dX4_copy_12 (by decide) ?_
  refine P_aload_n (pc := 13) dX4_copy_13 rfl ?_
  obtain ⟨a4, e9, k⟩ := k
  refine G4_0 (pc := 14) dX4_copy_14 l_X4_9 e9 ?_
  clear e9
  refine P_iconst (v := (0 : Int32)) (pc := 17) dX4_copy_17 (by decide) ?_
  refine P_bipush (v := (7 : Int32)) (pc := 18) dX4_copy_18 (by decide) ?_
  obtain ⟨m9, n9, f9, g9, b1, b2, b3, b4, b5, b6, b7, b8, k⟩ := k
  refine P_copy (pc := 20) dX4_copy_20 l_X4_50 sy_nat sy_sta sy_ini b1 b2 b3 b4 b5 b6 b7 b8 (Nat.le_of_ble_eq_true rfl) ?_
  refine P_aload_n (pc := 23) dX4_copy_23 rfl ?_
  obtain ⟨a6, e9, k⟩ := k
  refine G4_1 (pc := 24) dX4_copy_24 l_X4_15 e9 ?_
  clear e9
  refine P_iconst (v := (0 : Int32)) (pc := 27) dX4_copy_27 (by decide) ?_
  refine P_aload_n (pc := 28) dX4_copy_28 rfl ?_
  obtain ⟨a7, e9, k⟩ := k
  refine G4_1 (pc := 29) dX4_copy_29 l_X4_15 e9 ?_
  clear e9
  refine P_iconst (v := (0 : Int32)) (pc := 32) dX4_copy_32 (by decide) ?_
  refine P_bipush (v := (7 : Int32)) (pc := 33) dX4_copy_33 (by decide) ?_
  obtain ⟨m9, n9, f9, g9, b1, b2, b3, b4, b5, b6, b7, b8, k⟩ := k
  refine P_copy (pc := 35) dX4_copy_35 l_X4_50 sy_nat sy_sta sy_ini b1 b2 b3 b4 b5 b6 b7 b8 (Nat.le_of_ble_eq_true rfl) ?_
  refine P_aload_n (pc := 38) dX4_copy_38 rfl ?_
  obtain ⟨a9, e9, k⟩ := k
  refine G4_2 (pc := 39) dX4_copy_39 l_X4_18 e9 ?_
  clear e9
  refine P_iconst (v := (0 : Int32)) (pc := 42) dX4_copy_42 (by decide) ?_
  refine P_aload_n (pc := 43) dX4_copy_43 rfl ?_
  obtain ⟨a10, e9, k⟩ := k
  refine G4_2 (pc := 44) dX4_copy_44 l_X4_18 e9 ?_
  clear e9
  refine P_iconst (v := (0 : Int32)) (pc := 47) dX4_copy_47 (by decide) ?_
  refine P_bipush (v := (7 : Int32)) (pc := 48) dX4_copy_48 (by decide) ?_
  obtain ⟨m9, n9, f9, g9, b1, b2, b3, b4, b5, b6, b7, b8, k⟩ := k
  refine P_copy (pc := 50) dX4_copy_50 l_X4_50 sy_nat sy_sta sy_ini b1 b2 b3 b4 b5 b6 b7 b8 (Nat.le_of_ble_eq_true rfl) ?_
  refine P_aload_n (pc := 53) dX4_copy_53 rfl ?_
  obtain ⟨a12, e9, k⟩ := k
  refine G4_3 (pc := 54) dX4_copy_54 l_X4_21 e9 ?_
  clear e9
  refine P_iconst (v := (0 : Int32)) (pc := 57) dX4_copy_57 (by decide) ?_
  refine P_aload_n (pc := 58) dX4_copy_58 rfl ?_
  obtain ⟨a13, e9, k⟩ := k
  refine G4_3 (pc := 59) dX4_copy_59 l_X4_21 e9 ?_
  clear e9
  refine P_iconst (v := (0 : Int32)) (pc := 62) dX4_copy_62 (by decide) ?_
  refine P_bipush (v := (7 : Int32)) (pc := 63) dX4_copy_63 (by decide) ?_
  obtain ⟨m9, n9, f9, g9, b1, b2, b3, b4, b5, b6, b7, b8, k⟩ := k
  refine P_copy (pc := 65) dX4_copy_65 l_X4_50 sy_nat sy_sta sy_ini b1 b2 b3 b4 b5 b6 b7 b8 (Nat.le_of_ble_eq_true rfl) ?_
  refine P_aload_n (pc := 68) dX4_copy_68 rfl ?_
  obtain ⟨a15, e9, k⟩ := k
  refine G4_4 (pc := 69) dX4_copy_69 l_X4_24 e9 ?_
  clear e9
  refine P_iconst (v := (0 : Int32)) (pc := 72) dX4_copy_72 (by decide) ?_
  refine P_aload_n (pc := 73) dX4_copy_73 rfl ?_
  obtain ⟨a16, e9, k⟩ := k
  refine G4_4 (pc := 74) dX4_copy_74 l_X4_24 e9 ?_
  clear e9
  refine P_iconst (v := (0 : Int32)) (pc := 77) dX4_copy_77 (by decide) ?_
  refine P_bipush (v := (7 : Int32)) (pc := 78) dX4_copy_78 (by decide) ?_
  obtain ⟨m9, n9, f9, g9, b1, b2, b3, b4, b5, b6, b7, b8, k⟩ := k
  refine P_copy (pc := 80) dX4_copy_80 l_X4_50 sy_nat sy_sta sy_ini b1 b2 b3 b4 b5 b6 b7 b8 (Nat.le_of_ble_eq_true rfl) ?_
  refine P_aload_n (pc := 83) dX4_copy_83 rfl ?_
  obtain ⟨a18, e9, k⟩ := k
  refine G4_5 (pc := 84) dX4_copy_84 l_X4_27 e9 ?_
  clear e9
  refine P_iconst (v := (0 : Int32)) (pc := 87) dX4_copy_87 (by decide) ?_
  refine P_aload_n (pc := 88) dX4_copy_88 rfl ?_
  obtain ⟨a19, e9, k⟩ := k
  refine G4_5 (pc := 89) dX4_copy_89 l_X4_27 e9 ?_
  clear e9
  refine P_iconst (v := (0 : Int32)) (pc := 92) dX4_copy_92 (by decide) ?_
  refine P_bipush (v := (7 : Int32)) (pc := 93) dX4_copy_93 (by decide) ?_
  obtain ⟨m9, n9, f9, g9, b1, b2, b3, b4, b5, b6, b7, b8, k⟩ := k
  refine P_copy (pc := 95) dX4_copy_95 l_X4_50 sy_nat sy_sta sy_ini b1 b2 b3 b4 b5 b6 b7 b8 (Nat.le_of_ble_eq_true rfl) ?_
  refine P_aload_n (pc := 98) dX4_copy_98 rfl ?_
  obtain ⟨a21, e9, k⟩ := k
  refine G4_6 (pc := 99) dX4_copy_99 l_X4_30 e9 ?_
  clear e9
  refine P_iconst (v := (0 : Int32)) (pc := 102) dX4_copy_102 (by decide) ?_
  refine P_aload_n (pc := 103) dX4_copy_103 rfl ?_
  obtain ⟨a22, e9, k⟩ := k
  refine G4_6 (pc := 104) dX4_copy_104 l_X4_30 e9 ?_
  clear e9
  refine P_iconst (v := (0 : Int32)) (pc := 107) dX4_copy_107 (by decide) ?_
  refine P_bipush (v := (7 : Int32)) (pc := 108) dX4_copy_108 (by decide) ?_
  obtain ⟨m9, n9, f9, g9, b1, b2, b3, b4, b5, b6, b7, b8, k⟩ := k
  refine P_copy (pc := 110) dX4_copy_110 l_X4_50 sy_nat sy_sta sy_ini b1 b2 b3 b4 b5 b6 b7 b8 (Nat.le_of_ble_eq_true rfl) ?_
  refine P_aload_n (pc := 113) dX4_copy_113 rfl ?_
  obtain ⟨a24, e9, k⟩ := k
  refine G4_7 (pc := 114) dX4_copy_114 l_X4_33 e9 ?_
  clear e9
  refine P_iconst (v := (0 : Int32)) (pc := 117) dX4_copy_117 (by decide) ?_
  refine P_aload_n (pc := 118) dX4_copy_118 rfl ?_
  obtain ⟨a25, e9, k⟩ := k
  refine G4_7 (pc := 119) dX4_copy_119 l_X4_33 e9 ?_
  clear e9
  refine P_iconst (v := (0 : Int32)) (pc := 122) dX4_copy_122 (by decide) ?_
  refine P_bipush (v := (7 : Int32)) (pc := 123) dX4_copy_123 (by decide) ?_
  obtain ⟨m9, n9, f9, g9, b1, b2, b3, b4, b5, b6, b7, b8, k⟩ := k
  refine P_copy (pc := 125) dX4_copy_125 l_X4_50 sy_nat sy_sta sy_ini b1 b2 b3 b4 b5 b6 b7 b8 (Nat.le_of_ble_eq_true rfl) ?_
  refine P_aload_n (pc := 128) dX4_copy_128 rfl ?_
  obtain ⟨a27, e9, k⟩ := k
  refine G4_8 (pc := 129) dX4_copy_129 l_X4_36 e9 ?_
  clear e9
  refine P_iconst (v := (0 : Int32)) (pc := 132) dX4_copy_132 (by decide) ?_
  refine P_aload_n (pc := 133) dX4_copy_133 rfl ?_
  obtain ⟨a28, e9, k⟩ := k
  refine G4_8 (pc := 134) dX4_copy_134 l_X4_36 e9 ?_
  clear e9
  refine P_iconst (v := (0 : Int32)) (pc := 137) dX4_copy_137 (by decide) ?_
  refine P_bipush (v := (7 : Int32)) (pc := 138) dX4_copy_138 (by decide) ?_
  obtain ⟨m9, n9, f9, g9, b1, b2, b3, b4, b5, b6, b7, b8, k⟩ := k
  refine P_copy (pc := 140) dX4_copy_140 l_X4_50 sy_nat sy_sta sy_ini b1 b2 b3 b4 b5 b6 b7 b8 (Nat.le_of_ble_eq_true rfl) ?_
  exact R_return (pc := 143) dX4_copy_143 rfl k
-- X4_beAlone beAlone(IIII)V
theorem dX4_beAlone_0 : decode cX4_beAlone 0 = .ok (.aload_n 0, 1) := by decide +kernel
theorem dX4_beAlone_1 : decode cX4_beAlone 1 = .ok (.iload_n 1, 1) := by decide +kernel
theorem dX4_beAlone_2 : decode cX4_beAlone 2 = .ok (.putfield 39, 3) := by decide +kernel
theorem dX4_beAlone_5 : decode cX4_beAlone 5 = .ok (.aload_n 0, 1) := by decide +kernel
theorem dX4_beAlone_6 : decode cX4_beAlone 6 = .ok (.getfield 30, 3) := by decide +kernel
theorem dX4_beAlone_9 : decode cX4_beAlone 9 = .ok (.iconst 0, 1) := by decide +kernel
theorem dX4_beAlone_10 : decode cX4_beAlone 10 = .ok (.invokestatic 56, 3) := by decide +kernel
theorem dX4_beAlone_13 : decode cX4_beAlone 13 = .ok (.aload_n 0, 1) := by decide +kernel
theorem dX4_beAlone_14 : decode cX4_beAlone 14 = .ok (.getfield 30, 3) := by decide +kernel
theorem dX4_beAlone_17 : decode cX4_beAlone 17 = .ok (.iload_n 2, 1) := by decide +kernel
theorem dX4_beAlone_18 : decode cX4_beAlone 18 = .ok (.iconst 1, 1) := by decide +kernel
theorem dX4_beAlone_19 : decode cX4_beAlone 19 = .ok (.iastore, 1) := by decide +kernel
theorem dX4_beAlone_20 : decode cX4_beAlone 20 = .ok (.aload_n 0, 1) := by decide +kernel
theorem dX4_beAlone_21 : decode cX4_beAlone 21 = .ok (.getfield 9, 3) := by decide +kernel
theorem dX4_beAlone_24 : decode cX4_beAlone 24 = .ok (.iload_n 2, 1) := by decide +kernel
theorem dX4_beAlone_25 : decode cX4_beAlone 25 = .ok (.iload_n 3, 1) := by decide +kernel
theorem dX4_beAlone_26 : decode cX4_beAlone 26 = .ok (.iastore, 1) := by decide +kernel
theorem dX4_beAlone_27 : decode cX4_beAlone 27 = .ok (.aload_n 0, 1) := by decide +kernel
theorem dX4_beAlone_28 : decode cX4_beAlone 28 = .ok (.getfield 15, 3) := by decide +kernel
theorem dX4_beAlone_31 : decode cX4_beAlone 31 = .ok (.iload_n 2, 1) := by decide +kernel
theorem dX4_beAlone_32 : decode cX4_beAlone 32 = .ok (.iload 4, 2) := by decide +kernel
theorem dX4_beAlone_34 : decode cX4_beAlone 34 = .ok (.iastore, 1) := by decide +kernel
theorem dX4_beAlone_35 : decode cX4_beAlone 35 = .ok (.aload_n 0, 1) := by decide +kernel
theorem dX4_beAlone_36 : decode cX4_beAlone 36 = .ok (.getfield 18, 3) := by decide +kernel
theorem dX4_beAlone_39 : decode cX4_beAlone 39 = .ok (.iload_n 2, 1) := by decide +kernel
theorem dX4_beAlone_40 : decode cX4_beAlone 40 = .ok (.iconst 0, 1) := by decide +kernel
theorem dX4_beAlone_41 : decode cX4_beAlone 41 = .ok (.iastore, 1) := by decide +kernel
theorem dX4_beAlone_42 : decode cX4_beAlone 42 = .ok (.aload_n 0, 1) := by decide +kernel
theorem dX4_beAlone_43 : decode cX4_beAlone 43 = .ok (.getfield 21, 3) := by decide +kernel
theorem dX4_beAlone_46 : decode cX4_beAlone 46 = .ok (.iload_n 2, 1) := by decide +kernel
theorem dX4_beAlone_47 : decode cX4_beAlone 47 = .ok (.bipush 99, 2) := by decide +kernel
theorem dX4_beAlone_49 : decode cX4_beAlone 49 = .ok (.iastore, 1) := by decide +kernel
theorem dX4_beAlone_50 : decode cX4_beAlone 50 = .ok (.aload_n 0, 1) := by decide +kernel
theorem dX4_beAlone_51 : decode cX4_beAlone 51 = .ok (.getfield 24, 3) := by decide +kernel
theorem dX4_beAlone_54 : decode cX4_beAlone 54 = .ok (.iload_n 2, 1) := by decide +kernel
theorem dX4_beAlone_55 : decode cX4_beAlone 55 = .ok (.iconst 0, 1) := by decide +kernel
theorem dX4_beAlone_56 : decode cX4_beAlone 56 = .ok (.iastore, 1) := by decide +kernel
theorem dX4_beAlone_57 : decode cX4_beAlone 57 = .ok (.aload_n 0, 1) := by decide +kernel
theorem dX4_beAlone_58 : decode cX4_beAlone 58 = .ok (.getfield 27, 3) := by decide +kernel
theorem dX4_beAlone_61 : decode cX4_beAlone 61 = .ok (.iload_n 2, 1) := by decide +kernel
theorem dX4_beAlone_62 : decode cX4_beAlone 62 = .ok (.iconst 0, 1) := by decide +kernel
theorem dX4_beAlone_63 : decode cX4_beAlone 63 = .ok (.iastore, 1) := by decide +kernel
theorem dX4_beAlone_64 : decode cX4_beAlone 64 = .ok (.return_, 1) := by decide +kernel
theorem r_X4_beAlone_0 {d rc rs : Nat} {Q : PO → PH → Prop} {h : PH} {l0 : Nat} {l1 : Int32} {l2 : Int32} {l3 : Int32} {l4 : Int32}
    (k : sF h (10409, l0) (vI l1) fun h1 => gA h1 (10406, l0) fun a2 => cl d rc rs M_J7_fill_53178 [vR a2, vI (0 : Int32)] h1 (kV fun h3 rc4 rs5 => gA h3 (10406, l0) fun a6 => yI h3 a6 l2 (1 : Int32) fun h7 => gA h7 (10400, l0) fun a8 => yI h7 a8 l2 l3 fun h9 => gA h9 (10401, l0) fun a10 => yI h9 a10 l2 l4 fun h11 => gA h11 (10402, l0) fun a12 => yI h11 a12 l2 (0 : Int32) fun h13 => gA h13 (10403, l0) fun a14 => yI h13 a14 l2 (99 : Int32) fun h15 => gA h15 (10404, l0) fun a16 => yI h15 a16 l2 (0 : Int32) fun h17 => gA h17 (10405, l0) fun a18 => yI h17 a18 l2 (0 : Int32) fun h19 => Q (.inl none) h19) (fun E h3 rc4 rs5 => Q (.inr E) h3)) :
    PW d M_X4_beAlone Q rc rs 0 [vR (400, l0), vI l1, vI l2, vI l3, vI l4] [] h := by
  refine P_aload_n (pc := 0) dX4_beAlone_0 rfl ?_
  refine P_iload_n (pc := 1) dX4_beAlone_1 rfl ?_
  obtain ⟨⟨v9, e9⟩, k⟩ := k
  refine S4_9 (pc := 2) dX4_beAlone_2 l_X4_39 e9 ?_
  clear e9
  refine P_aload_n (pc := 5) dX4_beAlone_5 rfl ?_
  obtain ⟨a2, e9, k⟩ := k
  refine G4_6 (pc := 6) dX4_beAlone_6 l_X4_30 e9 ?_
  clear e9
  refine P_iconst (v := (0 : Int32)) (pc := 9) dX4_beAlone_9 (by decide) ?_
  obtain ⟨d2, nc, ns, rc4, rs5, Qc, g1, rfl, rfl, g2, kk, kx⟩ := k
  refine P_callS (As := [vR a2, vI (0 : Int32)]) (st := []) (pc := 10) dX4_beAlone_10 mk_J7_fill_53178 l_X4_56 st_J7_fill_53178 ini_J7 rfl g1 (Nat.le_of_ble_eq_true rfl) rfl g2 (fun v9 h9 q9 => ?_) (fun E h9 q9 => PX_out rfl (kx E h9 q9))
  obtain ⟨rfl, k⟩ := kk v9 h9 q9
  clear kk kx g1 g2 q9
  refine P_aload_n (pc := 13) dX4_beAlone_13 rfl ?_
  obtain ⟨a6, e9, k⟩ := k
  refine G4_6 (pc := 14) dX4_beAlone_14 l_X4_30 e9 ?_
  clear e9
  refine P_iload_n (pc := 17) dX4_beAlone_17 rfl ?_
  refine P_iconst (v := (1 : Int32)) (pc := 18) dX4_beAlone_18 (by decide) ?_
  obtain ⟨n9, f9, e9, i9, k⟩ := k
  refine P_iast (pc := 19) dX4_beAlone_19 e9 i9 ?_
  clear e9
  refine P_aload_n (pc := 20) dX4_beAlone_20 rfl ?_
  obtain ⟨a8, e9, k⟩ := k
  refine G4_0 (pc := 21) dX4_beAlone_21 l_X4_9 e9 ?_
  clear e9
  refine P_iload_n (pc := 24) dX4_beAlone_24 rfl ?_
  refine P_iload_n (pc := 25) dX4_beAlone_25 rfl ?_
  obtain ⟨n9, f9, e9, i9, k⟩ := k
  refine P_iast (pc := 26) dX4_beAlone_26 e9 i9 ?_
  clear e9
  refine P_aload_n (pc := 27) dX4_beAlone_27 rfl ?_
  obtain ⟨a10, e9, k⟩ := k
  refine G4_1 (pc := 28) dX4_beAlone_28 l_X4_15 e9 ?_
  clear e9
  refine P_iload_n (pc := 31) dX4_beAlone_31 rfl ?_
  refine P_iload (pc := 32) dX4_beAlone_32 rfl ?_
  obtain ⟨n9, f9, e9, i9, k⟩ := k
  refine P_iast (pc := 34) dX4_beAlone_34 e9 i9 ?_
  clear e9
  refine P_aload_n (pc := 35) dX4_beAlone_35 rfl ?_
  obtain ⟨a12, e9, k⟩ := k
  refine G4_2 (pc := 36) dX4_beAlone_36 l_X4_18 e9 ?_
  clear e9
  refine P_iload_n (pc := 39) dX4_beAlone_39 rfl ?_
  refine P_iconst (v := (0 : Int32)) (pc := 40) dX4_beAlone_40 (by decide) ?_
  obtain ⟨n9, f9, e9, i9, k⟩ := k
  refine P_iast (pc := 41) dX4_beAlone_41 e9 i9 ?_
  clear e9
  refine P_aload_n (pc := 42) dX4_beAlone_42 rfl ?_
  obtain ⟨a14, e9, k⟩ := k
  refine G4_3 (pc := 43) dX4_beAlone_43 l_X4_21 e9 ?_
  clear e9
  refine P_iload_n (pc := 46) dX4_beAlone_46 rfl ?_
  refine P_bipush (v := (99 : Int32)) (pc := 47) dX4_beAlone_47 (by decide) ?_
  obtain ⟨n9, f9, e9, i9, k⟩ := k
  refine P_iast (pc := 49) dX4_beAlone_49 e9 i9 ?_
  clear e9
  refine P_aload_n (pc := 50) dX4_beAlone_50 rfl ?_
  obtain ⟨a16, e9, k⟩ := k
  refine G4_4 (pc := 51) dX4_beAlone_51 l_X4_24 e9 ?_
  clear e9
  refine P_iload_n (pc := 54) dX4_beAlone_54 rfl ?_
  refine P_iconst (v := (0 : Int32)) (pc := 55) dX4_beAlone_55 (by decide) ?_
  obtain ⟨n9, f9, e9, i9, k⟩ := k
  refine P_iast (pc := 56) dX4_beAlone_56 e9 i9 ?_
  clear e9
  refine P_aload_n (pc := 57) dX4_beAlone_57 rfl ?_
  obtain ⟨a18, e9, k⟩ := k
  refine G4_5 (pc := 58) dX4_beAlone_58 l_X4_27 e9 ?_
  clear e9
  refine P_iload_n (pc := 61) dX4_beAlone_61 rfl ?_
  refine P_iconst (v := (0 : Int32)) (pc := 62) dX4_beAlone_62 (by decide) ?_
  obtain ⟨n9, f9, e9, i9, k⟩ := k
  refine P_iast (pc := 63) dX4_beAlone_63 e9 i9 ?_
  clear e9
  exact R_return (pc := 64) dX4_beAlone_64 rfl k
-- X4_standing standing()I
theorem dX4_standing_0 : decode cX4_standing 0 = .ok (.iconst 0, 1) := by decide +kernel
theorem dX4_standing_1 : decode cX4_standing 1 = .ok (.istore_n 1, 1) := by decide +kernel
theorem dX4_standing_2 : decode cX4_standing 2 = .ok (.iconst 0, 1) := by decide +kernel
theorem dX4_standing_3 : decode cX4_standing 3 = .ok (.istore_n 2, 1) := by decide +kernel
theorem dX4_standing_4 : decode cX4_standing 4 = .ok (.iload_n 2, 1) := by decide +kernel
theorem dX4_standing_5 : decode cX4_standing 5 = .ok (.bipush 7, 2) := by decide +kernel
theorem dX4_standing_7 : decode cX4_standing 7 = .ok (.if_icmp .ge 20, 3) := by decide +kernel
theorem dX4_standing_10 : decode cX4_standing 10 = .ok (.iload_n 1, 1) := by decide +kernel
theorem dX4_standing_11 : decode cX4_standing 11 = .ok (.aload_n 0, 1) := by decide +kernel
theorem dX4_standing_12 : decode cX4_standing 12 = .ok (.getfield 30, 3) := by decide +kernel
theorem dX4_standing_15 : decode cX4_standing 15 = .ok (.iload_n 2, 1) := by decide +kernel
theorem dX4_standing_16 : decode cX4_standing 16 = .ok (.iaload, 1) := by decide +kernel
theorem dX4_standing_17 : decode cX4_standing 17 = .ok (.iload_n 2, 1) := by decide +kernel
theorem dX4_standing_18 : decode cX4_standing 18 = .ok (.ishl, 1) := by decide +kernel
theorem dX4_standing_19 : decode cX4_standing 19 = .ok (.ior, 1) := by decide +kernel
theorem dX4_standing_20 : decode cX4_standing 20 = .ok (.istore_n 1, 1) := by decide +kernel
theorem dX4_standing_21 : decode cX4_standing 21 = .ok (.iinc 2 1, 3) := by decide +kernel
theorem dX4_standing_24 : decode cX4_standing 24 = .ok (.goto (-20), 3) := by decide +kernel
theorem dX4_standing_27 : decode cX4_standing 27 = .ok (.iload_n 1, 1) := by decide +kernel
theorem dX4_standing_28 : decode cX4_standing 28 = .ok (.ireturn, 1) := by decide +kernel
theorem r_X4_standing_0 {d rc rs : Nat} {Q : PO → PH → Prop} {h : PH} {l0 : Nat}
    (k : PW d M_X4_standing Q rc rs 4 [vR (400, l0), vI (0 : Int32), vI (0 : Int32)] [] h) :
    PW d M_X4_standing Q rc rs 0 [vR (400, l0), vU, vU] [] h := by
  refine P_iconst (v := (0 : Int32)) (pc := 0) dX4_standing_0 (by decide) ?_
  refine P_istore_n (pc := 1) dX4_standing_1 (by decide) (Or.inr (by intro z e9; cases e9)) rfl ?_
  refine P_iconst (v := (0 : Int32)) (pc := 2) dX4_standing_2 (by decide) ?_
  refine P_istore_n (pc := 3) dX4_standing_3 (by decide) (Or.inr (by intro z e9; cases e9)) rfl ?_
  exact k
theorem r_X4_standing_4 {d rc rs : Nat} {Q : PO → PH → Prop} {h : PH} {l0 : Nat} {l1 : Int32} {l2 : Int32}
    (k : br (l2 < (7 : Int32)) (gA h (10406, l0) fun a1 => xI h a1 l2 fun x2 => PW d M_X4_standing Q rc rs 4 [vR (400, l0), vI (l1 ||| (x2 <<< (l2 &&& 31))), vI (l2 + (1 : Int32))] [] h) (Q (.inl (some (vI l1))) h)) :
    PW d M_X4_standing Q rc rs 4 [vR (400, l0), vI l1, vI l2] [] h := by
  refine P_iload_n (pc := 4) dX4_standing_4 rfl ?_
  refine P_bipush (v := (7 : Int32)) (pc := 5) dX4_standing_5 (by decide) ?_
  refine P_icmp_ge (tgt := 27) (pc := 7) dX4_standing_7 (by decide) (fun c => ?_) (fun c => ?_)
  · have k := k.2 (Int32.not_lt.mpr c)
    refine P_iload_n (pc := 27) dX4_standing_27 rfl ?_
    exact R_ireturn (pc := 28) dX4_standing_28 rfl rfl k
  · have k := k.1 (Int32.not_le.mp c)
    refine P_iload_n (pc := 10) dX4_standing_10 rfl ?_
    refine P_aload_n (pc := 11) dX4_standing_11 rfl ?_
    obtain ⟨a1, e9, k⟩ := k
    refine G4_6 (pc := 12) dX4_standing_12 l_X4_30 e9 ?_
    clear e9
    refine P_iload_n (pc := 15) dX4_standing_15 rfl ?_
    obtain ⟨n9, f9, e9, i9, k⟩ := k
    refine P_iald (pc := 16) dX4_standing_16 e9 i9 ?_
    clear e9
    generalize f9 (Int32.toNatClampNeg l2) = x2 at k ⊢
    refine P_iload_n (pc := 17) dX4_standing_17 rfl ?_
    refine P_ishl (pc := 18) dX4_standing_18 ?_
    refine P_ior (pc := 19) dX4_standing_19 ?_
    refine P_istore_n (pc := 20) dX4_standing_20 (by decide) (Or.inr (by intro z e9; cases e9)) rfl ?_
    refine P_iinc (v := l2 + (1 : Int32)) (pc := 21) dX4_standing_21 (by decide) rfl rfl (Or.inr (by intro z e9; cases e9)) rfl ?_
    refine P_goto (tgt := 4) (pc := 24) dX4_standing_24 (by decide) ?_
    exact k
-- X4_cloudedHeirs cloudedHeirs()I
theorem dX4_cloudedHeirs_0 : decode cX4_cloudedHeirs 0 = .ok (.iconst 0, 1) := by decide +kernel
theorem dX4_cloudedHeirs_1 : decode cX4_cloudedHeirs 1 = .ok (.istore_n 1, 1) := by decide +kernel
theorem dX4_cloudedHeirs_2 : decode cX4_cloudedHeirs 2 = .ok (.iconst 0, 1) := by decide +kernel
theorem dX4_cloudedHeirs_3 : decode cX4_cloudedHeirs 3 = .ok (.istore_n 2, 1) := by decide +kernel
theorem dX4_cloudedHeirs_4 : decode cX4_cloudedHeirs 4 = .ok (.iload_n 2, 1) := by decide +kernel
theorem dX4_cloudedHeirs_5 : decode cX4_cloudedHeirs 5 = .ok (.bipush 7, 2) := by decide +kernel
theorem dX4_cloudedHeirs_7 : decode cX4_cloudedHeirs 7 = .ok (.if_icmp .ge 29, 3) := by decide +kernel
theorem dX4_cloudedHeirs_10 : decode cX4_cloudedHeirs 10 = .ok (.iload_n 1, 1) := by decide +kernel
theorem dX4_cloudedHeirs_11 : decode cX4_cloudedHeirs 11 = .ok (.aload_n 0, 1) := by decide +kernel
theorem dX4_cloudedHeirs_12 : decode cX4_cloudedHeirs 12 = .ok (.getfield 33, 3) := by decide +kernel
theorem dX4_cloudedHeirs_15 : decode cX4_cloudedHeirs 15 = .ok (.iload_n 2, 1) := by decide +kernel
theorem dX4_cloudedHeirs_16 : decode cX4_cloudedHeirs 16 = .ok (.iaload, 1) := by decide +kernel
theorem dX4_cloudedHeirs_17 : decode cX4_cloudedHeirs 17 = .ok (.iconst (-1), 1) := by decide +kernel
theorem dX4_cloudedHeirs_18 : decode cX4_cloudedHeirs 18 = .ok (.if_icmp .ne 7, 3) := by decide +kernel
theorem dX4_cloudedHeirs_21 : decode cX4_cloudedHeirs 21 = .ok (.iconst 0, 1) := by decide +kernel
theorem dX4_cloudedHeirs_22 : decode cX4_cloudedHeirs 22 = .ok (.goto 6, 3) := by decide +kernel
theorem dX4_cloudedHeirs_25 : decode cX4_cloudedHeirs 25 = .ok (.iconst 1, 1) := by decide +kernel
theorem dX4_cloudedHeirs_26 : decode cX4_cloudedHeirs 26 = .ok (.iload_n 2, 1) := by decide +kernel
theorem dX4_cloudedHeirs_27 : decode cX4_cloudedHeirs 27 = .ok (.ishl, 1) := by decide +kernel
theorem dX4_cloudedHeirs_28 : decode cX4_cloudedHeirs 28 = .ok (.ior, 1) := by decide +kernel
theorem dX4_cloudedHeirs_29 : decode cX4_cloudedHeirs 29 = .ok (.istore_n 1, 1) := by decide +kernel
theorem dX4_cloudedHeirs_30 : decode cX4_cloudedHeirs 30 = .ok (.iinc 2 1, 3) := by decide +kernel
theorem dX4_cloudedHeirs_33 : decode cX4_cloudedHeirs 33 = .ok (.goto (-29), 3) := by decide +kernel
theorem dX4_cloudedHeirs_36 : decode cX4_cloudedHeirs 36 = .ok (.iload_n 1, 1) := by decide +kernel
theorem dX4_cloudedHeirs_37 : decode cX4_cloudedHeirs 37 = .ok (.ireturn, 1) := by decide +kernel
theorem r_X4_cloudedHeirs_0 {d rc rs : Nat} {Q : PO → PH → Prop} {h : PH} {l0 : Nat}
    (k : PW d M_X4_cloudedHeirs Q rc rs 4 [vR (400, l0), vI (0 : Int32), vI (0 : Int32)] [] h) :
    PW d M_X4_cloudedHeirs Q rc rs 0 [vR (400, l0), vU, vU] [] h := by
  refine P_iconst (v := (0 : Int32)) (pc := 0) dX4_cloudedHeirs_0 (by decide) ?_
  refine P_istore_n (pc := 1) dX4_cloudedHeirs_1 (by decide) (Or.inr (by intro z e9; cases e9)) rfl ?_
  refine P_iconst (v := (0 : Int32)) (pc := 2) dX4_cloudedHeirs_2 (by decide) ?_
  refine P_istore_n (pc := 3) dX4_cloudedHeirs_3 (by decide) (Or.inr (by intro z e9; cases e9)) rfl ?_
  exact k
theorem r_X4_cloudedHeirs_4 {d rc rs : Nat} {Q : PO → PH → Prop} {h : PH} {l0 : Nat} {l1 : Int32} {l2 : Int32}
    (k : br (l2 < (7 : Int32)) (gA h (10407, l0) fun a1 => xI h a1 l2 fun x2 => br (x2 = (-1 : Int32)) (PW d M_X4_cloudedHeirs Q rc rs 4 [vR (400, l0), vI (l1 ||| (0 : Int32)), vI (l2 + (1 : Int32))] [] h) (PW d M_X4_cloudedHeirs Q rc rs 4 [vR (400, l0), vI (l1 ||| ((1 : Int32) <<< (l2 &&& 31))), vI (l2 + (1 : Int32))] [] h)) (Q (.inl (some (vI l1))) h)) :
    PW d M_X4_cloudedHeirs Q rc rs 4 [vR (400, l0), vI l1, vI l2] [] h := by
  refine P_iload_n (pc := 4) dX4_cloudedHeirs_4 rfl ?_
  refine P_bipush (v := (7 : Int32)) (pc := 5) dX4_cloudedHeirs_5 (by decide) ?_
  refine P_icmp_ge (tgt := 36) (pc := 7) dX4_cloudedHeirs_7 (by decide) (fun c => ?_) (fun c => ?_)
  · have k := k.2 (Int32.not_lt.mpr c)
    refine P_iload_n (pc := 36) dX4_cloudedHeirs_36 rfl ?_
    exact R_ireturn (pc := 37) dX4_cloudedHeirs_37 rfl rfl k
  · have k := k.1 (Int32.not_le.mp c)
    refine P_iload_n (pc := 10) dX4_cloudedHeirs_10 rfl ?_
    refine P_aload_n (pc := 11) dX4_cloudedHeirs_11 rfl ?_
    obtain ⟨a1, e9, k⟩ := k
    refine G4_7 (pc := 12) dX4_cloudedHeirs_12 l_X4_33 e9 ?_
    clear e9
    refine P_iload_n (pc := 15) dX4_cloudedHeirs_15 rfl ?_
    obtain ⟨n9, f9, e9, i9, k⟩ := k
    refine P_iald (pc := 16) dX4_cloudedHeirs_16 e9 i9 ?_
    clear e9
    generalize f9 (Int32.toNatClampNeg l2) = x2 at k ⊢
    refine P_iconst (v := (-1 : Int32)) (pc := 17) dX4_cloudedHeirs_17 (by decide) ?_
    refine P_icmp_ne (tgt := 25) (pc := 18) dX4_cloudedHeirs_18 (by decide) (fun c => ?_) (fun c => ?_)
    · have k := k.2 c
      refine P_iconst (v := (1 : Int32)) (pc := 25) dX4_cloudedHeirs_25 (by decide) ?_
      refine P_iload_n (pc := 26) dX4_cloudedHeirs_26 rfl ?_
      refine P_ishl (pc := 27) dX4_cloudedHeirs_27 ?_
      refine P_ior (pc := 28) dX4_cloudedHeirs_28 ?_
      refine P_istore_n (pc := 29) dX4_cloudedHeirs_29 (by decide) (Or.inr (by intro z e9; cases e9)) rfl ?_
      refine P_iinc (v := l2 + (1 : Int32)) (pc := 30) dX4_cloudedHeirs_30 (by decide) rfl rfl (Or.inr (by intro z e9; cases e9)) rfl ?_
      refine P_goto (tgt := 4) (pc := 33) dX4_cloudedHeirs_33 (by decide) ?_
      exact k
    · have k := k.1 c
      refine P_iconst (v := (0 : Int32)) (pc := 21) dX4_cloudedHeirs_21 (by decide) ?_
      refine P_goto (tgt := 28) (pc := 22) dX4_cloudedHeirs_22 (by decide) ?_
      refine P_ior (pc := 28) dX4_cloudedHeirs_28 ?_
      refine P_istore_n (pc := 29) dX4_cloudedHeirs_29 (by decide) (Or.inr (by intro z e9; cases e9)) rfl ?_
      refine P_iinc (v := l2 + (1 : Int32)) (pc := 30) dX4_cloudedHeirs_30 (by decide) rfl rfl (Or.inr (by intro z e9; cases e9)) rfl ?_
      refine P_goto (tgt := 4) (pc := 33) dX4_cloudedHeirs_33 (by decide) ?_
      exact k
-- X4_ranked ranked(I)I
theorem dX4_ranked_0 : decode cX4_ranked 0 = .ok (.iconst 0, 1) := by decide +kernel
theorem dX4_ranked_1 : decode cX4_ranked 1 = .ok (.istore_n 2, 1) := by decide +kernel
theorem dX4_ranked_2 : decode cX4_ranked 2 = .ok (.iload_n 2, 1) := by decide +kernel
theorem dX4_ranked_3 : decode cX4_ranked 3 = .ok (.bipush 7, 2) := by decide +kernel
theorem dX4_ranked_5 : decode cX4_ranked 5 = .ok (.if_icmp .ge 30, 3) := by decide +kernel
theorem dX4_ranked_8 : decode cX4_ranked 8 = .ok (.aload_n 0, 1) := by decide +kernel
theorem dX4_ranked_9 : decode cX4_ranked 9 = .ok (.getfield 33, 3) := by decide +kernel
theorem dX4_ranked_12 : decode cX4_ranked 12 = .ok (.iload_n 2, 1) := by decide +kernel
theorem dX4_ranked_13 : decode cX4_ranked 13 = .ok (.iaload, 1) := by decide +kernel
theorem dX4_ranked_14 : decode cX4_ranked 14 = .ok (.iconst (-1), 1) := by decide +kernel
theorem dX4_ranked_15 : decode cX4_ranked 15 = .ok (.if_icmp .eq 14, 3) := by decide +kernel
theorem dX4_ranked_18 : decode cX4_ranked 18 = .ok (.aload_n 0, 1) := by decide +kernel
theorem dX4_ranked_19 : decode cX4_ranked 19 = .ok (.iload_n 2, 1) := by decide +kernel
theorem dX4_ranked_20 : decode cX4_ranked 20 = .ok (.invokevirtual 62, 3) := by decide +kernel
theorem dX4_ranked_23 : decode cX4_ranked 23 = .ok (.iload_n 1, 1) := by decide +kernel
theorem dX4_ranked_24 : decode cX4_ranked 24 = .ok (.if_icmp .ne 5, 3) := by decide +kernel
theorem dX4_ranked_27 : decode cX4_ranked 27 = .ok (.iload_n 2, 1) := by decide +kernel
theorem dX4_ranked_28 : decode cX4_ranked 28 = .ok (.ireturn, 1) := by decide +kernel
theorem dX4_ranked_29 : decode cX4_ranked 29 = .ok (.iinc 2 1, 3) := by decide +kernel
theorem dX4_ranked_32 : decode cX4_ranked 32 = .ok (.goto (-30), 3) := by decide +kernel
theorem dX4_ranked_35 : decode cX4_ranked 35 = .ok (.iconst (-1), 1) := by decide +kernel
theorem dX4_ranked_36 : decode cX4_ranked 36 = .ok (.ireturn, 1) := by decide +kernel
theorem r_X4_ranked_0 {d rc rs : Nat} {Q : PO → PH → Prop} {h : PH} {l0 : Nat} {l1 : Int32}
    (k : PW d M_X4_ranked Q rc rs 2 [vR (400, l0), vI l1, vI (0 : Int32)] [] h) :
    PW d M_X4_ranked Q rc rs 0 [vR (400, l0), vI l1, vU] [] h := by
  refine P_iconst (v := (0 : Int32)) (pc := 0) dX4_ranked_0 (by decide) ?_
  refine P_istore_n (pc := 1) dX4_ranked_1 (by decide) (Or.inr (by intro z e9; cases e9)) rfl ?_
  exact k
theorem r_X4_ranked_2 {d rc rs : Nat} {Q : PO → PH → Prop} {h : PH} {l0 : Nat} {l1 : Int32} {l2 : Int32}
    (k : br (l2 < (7 : Int32)) (gA h (10407, l0) fun a1 => xI h a1 l2 fun x2 => br (x2 = (-1 : Int32)) (PW d M_X4_ranked Q rc rs 2 [vR (400, l0), vI l1, vI (l2 + (1 : Int32))] [] h) (isO h 10400 l0 ∧ cl d rc rs M_X4_elderThan [vR (400, l0), vI l2] h (kI fun x6 h3 rc4 rs5 => br (x6 = l1) (Q (.inl (some (vI l2))) h3) (PW d M_X4_ranked Q rc4 rs5 2 [vR (400, l0), vI l1, vI (l2 + (1 : Int32))] [] h3)) (fun E h3 rc4 rs5 => Q (.inr E) h3))) (Q (.inl (some (vI (-1 : Int32)))) h)) :
    PW d M_X4_ranked Q rc rs 2 [vR (400, l0), vI l1, vI l2] [] h := by
  refine P_iload_n (pc := 2) dX4_ranked_2 rfl ?_
  refine P_bipush (v := (7 : Int32)) (pc := 3) dX4_ranked_3 (by decide) ?_
  refine P_icmp_ge (tgt := 35) (pc := 5) dX4_ranked_5 (by decide) (fun c => ?_) (fun c => ?_)
  · have k := k.2 (Int32.not_lt.mpr c)
    refine P_iconst (v := (-1 : Int32)) (pc := 35) dX4_ranked_35 (by decide) ?_
    exact R_ireturn (pc := 36) dX4_ranked_36 rfl rfl k
  · have k := k.1 (Int32.not_le.mp c)
    refine P_aload_n (pc := 8) dX4_ranked_8 rfl ?_
    obtain ⟨a1, e9, k⟩ := k
    refine G4_7 (pc := 9) dX4_ranked_9 l_X4_33 e9 ?_
    clear e9
    refine P_iload_n (pc := 12) dX4_ranked_12 rfl ?_
    obtain ⟨n9, f9, e9, i9, k⟩ := k
    refine P_iald (pc := 13) dX4_ranked_13 e9 i9 ?_
    clear e9
    generalize f9 (Int32.toNatClampNeg l2) = x2 at k ⊢
    refine P_iconst (v := (-1 : Int32)) (pc := 14) dX4_ranked_14 (by decide) ?_
    refine P_icmp_eq (tgt := 29) (pc := 15) dX4_ranked_15 (by decide) (fun c => ?_) (fun c => ?_)
    · have k := k.1 c
      refine P_iinc (v := l2 + (1 : Int32)) (pc := 29) dX4_ranked_29 (by decide) rfl rfl (Or.inr (by intro z e9; cases e9)) rfl ?_
      refine P_goto (tgt := 2) (pc := 32) dX4_ranked_32 (by decide) ?_
      exact k
    · have k := k.2 c
      refine P_aload_n (pc := 18) dX4_ranked_18 rfl ?_
      refine P_iload_n (pc := 19) dX4_ranked_19 rfl ?_
      obtain ⟨⟨w9, e9⟩, d2, nc, ns, rc4, rs5, Qc, g1, rfl, rfl, g2, kk, kx⟩ := k
      refine P_callV (ci := 4) (k := 0) (id := l0) (q := (RX4, TX4, 10)) (As := [vI l2]) (st := []) (pc := 20) dX4_ranked_20 mk_X4_elderThan l_X4_62 im_X4_elderThan se_X4_elderThan ini_X4 rfl g1 (Nat.le_of_ble_eq_true rfl) rfl rfl (by decide) e9 rfl g2 (fun v9 h9 q9 => ?_) (fun E h9 q9 => PX_out rfl (kx E h9 q9))
      obtain ⟨x6, rfl, k⟩ := kk v9 h9 q9
      clear kk kx g1 g2 q9
      refine P_iload_n (pc := 23) dX4_ranked_23 rfl ?_
      refine P_icmp_ne (tgt := 29) (pc := 24) dX4_ranked_24 (by decide) (fun c => ?_) (fun c => ?_)
      · have k := k.2 c
        refine P_iinc (v := l2 + (1 : Int32)) (pc := 29) dX4_ranked_29 (by decide) rfl rfl (Or.inr (by intro z e9; cases e9)) rfl ?_
        refine P_goto (tgt := 2) (pc := 32) dX4_ranked_32 (by decide) ?_
        exact k
      · have k := k.1 c
        refine P_iload_n (pc := 27) dX4_ranked_27 rfl ?_
        exact R_ireturn (pc := 28) dX4_ranked_28 rfl rfl k
-- X4_elderThan elderThan(I)I
theorem dX4_elderThan_0 : decode cX4_elderThan 0 = .ok (.iconst 0, 1) := by decide +kernel
theorem dX4_elderThan_1 : decode cX4_elderThan 1 = .ok (.istore_n 2, 1) := by decide +kernel
theorem dX4_elderThan_2 : decode cX4_elderThan 2 = .ok (.iconst 0, 1) := by decide +kernel
theorem dX4_elderThan_3 : decode cX4_elderThan 3 = .ok (.istore_n 3, 1) := by decide +kernel
theorem dX4_elderThan_4 : decode cX4_elderThan 4 = .ok (.iload_n 3, 1) := by decide +kernel
theorem dX4_elderThan_5 : decode cX4_elderThan 5 = .ok (.bipush 7, 2) := by decide +kernel
theorem dX4_elderThan_7 : decode cX4_elderThan 7 = .ok (.if_icmp .ge 32, 3) := by decide +kernel
theorem dX4_elderThan_10 : decode cX4_elderThan 10 = .ok (.aload_n 0, 1) := by decide +kernel
theorem dX4_elderThan_11 : decode cX4_elderThan 11 = .ok (.getfield 33, 3) := by decide +kernel
theorem dX4_elderThan_14 : decode cX4_elderThan 14 = .ok (.iload_n 3, 1) := by decide +kernel
theorem dX4_elderThan_15 : decode cX4_elderThan 15 = .ok (.iaload, 1) := by decide +kernel
theorem dX4_elderThan_16 : decode cX4_elderThan 16 = .ok (.iload_n 3, 1) := by decide +kernel
theorem dX4_elderThan_17 : decode cX4_elderThan 17 = .ok (.aload_n 0, 1) := by decide +kernel
theorem dX4_elderThan_18 : decode cX4_elderThan 18 = .ok (.getfield 33, 3) := by decide +kernel
theorem dX4_elderThan_21 : decode cX4_elderThan 21 = .ok (.iload_n 1, 1) := by decide +kernel
theorem dX4_elderThan_22 : decode cX4_elderThan 22 = .ok (.iaload, 1) := by decide +kernel
theorem dX4_elderThan_23 : decode cX4_elderThan 23 = .ok (.iload_n 1, 1) := by decide +kernel
theorem dX4_elderThan_24 : decode cX4_elderThan 24 = .ok (.invokestatic 66, 3) := by decide +kernel
theorem dX4_elderThan_27 : decode cX4_elderThan 27 = .ok (.ifCond .eq 6, 3) := by decide +kernel
theorem dX4_elderThan_30 : decode cX4_elderThan 30 = .ok (.iinc 2 1, 3) := by decide +kernel
theorem dX4_elderThan_33 : decode cX4_elderThan 33 = .ok (.iinc 3 1, 3) := by decide +kernel
theorem dX4_elderThan_36 : decode cX4_elderThan 36 = .ok (.goto (-32), 3) := by decide +kernel
theorem dX4_elderThan_39 : decode cX4_elderThan 39 = .ok (.iload_n 2, 1) := by decide +kernel
theorem dX4_elderThan_40 : decode cX4_elderThan 40 = .ok (.ireturn, 1) := by decide +kernel
theorem r_X4_elderThan_0 {d rc rs : Nat} {Q : PO → PH → Prop} {h : PH} {l0 : Nat} {l1 : Int32}
    (k : PW d M_X4_elderThan Q rc rs 4 [vR (400, l0), vI l1, vI (0 : Int32), vI (0 : Int32)] [] h) :
    PW d M_X4_elderThan Q rc rs 0 [vR (400, l0), vI l1, vU, vU] [] h := by
  refine P_iconst (v := (0 : Int32)) (pc := 0) dX4_elderThan_0 (by decide) ?_
  refine P_istore_n (pc := 1) dX4_elderThan_1 (by decide) (Or.inr (by intro z e9; cases e9)) rfl ?_
  refine P_iconst (v := (0 : Int32)) (pc := 2) dX4_elderThan_2 (by decide) ?_
  refine P_istore_n (pc := 3) dX4_elderThan_3 (by decide) (Or.inr (by intro z e9; cases e9)) rfl ?_
  exact k
theorem r_X4_elderThan_4 {d rc rs : Nat} {Q : PO → PH → Prop} {h : PH} {l0 : Nat} {l1 : Int32} {l2 : Int32} {l3 : Int32}
    (k : br (l3 < (7 : Int32)) (gA h (10407, l0) fun a1 => xI h a1 l3 fun x2 => gA h (10407, l0) fun a3 => xI h a3 l1 fun x4 => cl d rc rs M_X9_isAhead [vI x2, vI l3, vI x4, vI l1] h (kI fun x8 h5 rc6 rs7 => br (x8 = 0) (PW d M_X4_elderThan Q rc6 rs7 4 [vR (400, l0), vI l1, vI l2, vI (l3 + (1 : Int32))] [] h5) (PW d M_X4_elderThan Q rc6 rs7 4 [vR (400, l0), vI l1, vI (l2 + (1 : Int32)), vI (l3 + (1 : Int32))] [] h5)) (fun E h5 rc6 rs7 => Q (.inr E) h5)) (Q (.inl (some (vI l2))) h)) :
    PW d M_X4_elderThan Q rc rs 4 [vR (400, l0), vI l1, vI l2, vI l3] [] h := by
  refine P_iload_n (pc := 4) dX4_elderThan_4 rfl ?_
  refine P_bipush (v := (7 : Int32)) (pc := 5) dX4_elderThan_5 (by decide) ?_
  refine P_icmp_ge (tgt := 39) (pc := 7) dX4_elderThan_7 (by decide) (fun c => ?_) (fun c => ?_)
  · have k := k.2 (Int32.not_lt.mpr c)
    refine P_iload_n (pc := 39) dX4_elderThan_39 rfl ?_
    exact R_ireturn (pc := 40) dX4_elderThan_40 rfl rfl k
  · have k := k.1 (Int32.not_le.mp c)
    refine P_aload_n (pc := 10) dX4_elderThan_10 rfl ?_
    obtain ⟨a1, e9, k⟩ := k
    refine G4_7 (pc := 11) dX4_elderThan_11 l_X4_33 e9 ?_
    clear e9
    refine P_iload_n (pc := 14) dX4_elderThan_14 rfl ?_
    obtain ⟨n9, f9, e9, i9, k⟩ := k
    refine P_iald (pc := 15) dX4_elderThan_15 e9 i9 ?_
    clear e9
    generalize f9 (Int32.toNatClampNeg l3) = x2 at k ⊢
    refine P_iload_n (pc := 16) dX4_elderThan_16 rfl ?_
    refine P_aload_n (pc := 17) dX4_elderThan_17 rfl ?_
    obtain ⟨a3, e9, k⟩ := k
    refine G4_7 (pc := 18) dX4_elderThan_18 l_X4_33 e9 ?_
    clear e9
    refine P_iload_n (pc := 21) dX4_elderThan_21 rfl ?_
    obtain ⟨n9, f9, e9, i9, k⟩ := k
    refine P_iald (pc := 22) dX4_elderThan_22 e9 i9 ?_
    clear e9
    generalize f9 (Int32.toNatClampNeg l1) = x4 at k ⊢
    refine P_iload_n (pc := 23) dX4_elderThan_23 rfl ?_
    obtain ⟨d2, nc, ns, rc6, rs7, Qc, g1, rfl, rfl, g2, kk, kx⟩ := k
    refine P_callSN (As := [vI x2, vI l3, vI x4, vI l1]) (st := []) (pc := 24) dX4_elderThan_24 mk_X9_isAhead n_X4_66 st_X9_isAhead ini_X9 rfl g1 (Nat.le_of_ble_eq_true rfl) rfl g2 (fun v9 h9 q9 => ?_) (fun E h9 q9 => PX_out rfl (kx E h9 q9))
    obtain ⟨x8, rfl, k⟩ := kk v9 h9 q9
    clear kk kx g1 g2 q9
    refine P_if_eq (tgt := 33) (pc := 27) dX4_elderThan_27 (by decide) (fun c => ?_) (fun c => ?_)
    · have k := k.1 c
      refine P_iinc (v := l3 + (1 : Int32)) (pc := 33) dX4_elderThan_33 (by decide) rfl rfl (Or.inr (by intro z e9; cases e9)) rfl ?_
      refine P_goto (tgt := 4) (pc := 36) dX4_elderThan_36 (by decide) ?_
      exact k
    · have k := k.2 c
      refine P_iinc (v := l2 + (1 : Int32)) (pc := 30) dX4_elderThan_30 (by decide) rfl rfl (Or.inr (by intro z e9; cases e9)) rfl ?_
      refine P_iinc (v := l3 + (1 : Int32)) (pc := 33) dX4_elderThan_33 (by decide) rfl rfl (Or.inr (by intro z e9; cases e9)) rfl ?_
      refine P_goto (tgt := 4) (pc := 36) dX4_elderThan_36 (by decide) ?_
      exact k
-- X4_tryStep tryStep(IIILFernHeirs$Court;LFernHeirs$Law;)Z
theorem dX4_tryStep_0 : decode cX4_tryStep 0 = .ok (.iload_n 1, 1) := by decide +kernel
theorem dX4_tryStep_1 : decode cX4_tryStep 1 = .ok (.tableswitch 125 0 7 #[47, 60, 66, 72, 78, 84, 90, 97], 47) := by decide +kernel
theorem dX4_tryStep_48 : decode cX4_tryStep 48 = .ok (.aload_n 0, 1) := by decide +kernel
theorem dX4_tryStep_49 : decode cX4_tryStep 49 = .ok (.iload_n 2, 1) := by decide +kernel
theorem dX4_tryStep_50 : decode cX4_tryStep 50 = .ok (.aload 4, 2) := by decide +kernel
theorem dX4_tryStep_52 : decode cX4_tryStep 52 = .ok (.getfield 70, 3) := by decide +kernel
theorem dX4_tryStep_55 : decode cX4_tryStep 55 = .ok (.iload_n 2, 1) := by decide +kernel
theorem dX4_tryStep_56 : decode cX4_tryStep 56 = .ok (.iaload, 1) := by decide +kernel
theorem dX4_tryStep_57 : decode cX4_tryStep 57 = .ok (.invokevirtual 73, 3) := by decide +kernel
theorem dX4_tryStep_60 : decode cX4_tryStep 60 = .ok (.ireturn, 1) := by decide +kernel
theorem dX4_tryStep_61 : decode cX4_tryStep 61 = .ok (.aload_n 0, 1) := by decide +kernel
theorem dX4_tryStep_62 : decode cX4_tryStep 62 = .ok (.iload_n 2, 1) := by decide +kernel
theorem dX4_tryStep_63 : decode cX4_tryStep 63 = .ok (.invokevirtual 77, 3) := by decide +kernel
theorem dX4_tryStep_66 : decode cX4_tryStep 66 = .ok (.ireturn, 1) := by decide +kernel
theorem dX4_tryStep_67 : decode cX4_tryStep 67 = .ok (.aload_n 0, 1) := by decide +kernel
theorem dX4_tryStep_68 : decode cX4_tryStep 68 = .ok (.iload_n 2, 1) := by decide +kernel
theorem dX4_tryStep_69 : decode cX4_tryStep 69 = .ok (.invokevirtual 81, 3) := by decide +kernel
theorem dX4_tryStep_72 : decode cX4_tryStep 72 = .ok (.ireturn, 1) := by decide +kernel
theorem dX4_tryStep_73 : decode cX4_tryStep 73 = .ok (.aload_n 0, 1) := by decide +kernel
theorem dX4_tryStep_74 : decode cX4_tryStep 74 = .ok (.iload_n 2, 1) := by decide +kernel
theorem dX4_tryStep_75 : decode cX4_tryStep 75 = .ok (.invokevirtual 84, 3) := by decide +kernel
theorem dX4_tryStep_78 : decode cX4_tryStep 78 = .ok (.ireturn, 1) := by decide +kernel
theorem dX4_tryStep_79 : decode cX4_tryStep 79 = .ok (.aload_n 0, 1) := by decide +kernel
theorem dX4_tryStep_80 : decode cX4_tryStep 80 = .ok (.iload_n 2, 1) := by decide +kernel
theorem dX4_tryStep_81 : decode cX4_tryStep 81 = .ok (.invokevirtual 87, 3) := by decide +kernel
theorem dX4_tryStep_84 : decode cX4_tryStep 84 = .ok (.ireturn, 1) := by decide +kernel
theorem dX4_tryStep_85 : decode cX4_tryStep 85 = .ok (.aload_n 0, 1) := by decide +kernel
theorem dX4_tryStep_86 : decode cX4_tryStep 86 = .ok (.iload_n 2, 1) := by decide +kernel
theorem dX4_tryStep_87 : decode cX4_tryStep 87 = .ok (.invokevirtual 90, 3) := by decide +kernel
theorem dX4_tryStep_90 : decode cX4_tryStep 90 = .ok (.ireturn, 1) := by decide +kernel
theorem dX4_tryStep_91 : decode cX4_tryStep 91 = .ok (.aload_n 0, 1) := by decide +kernel
theorem dX4_tryStep_92 : decode cX4_tryStep 92 = .ok (.iload_n 2, 1) := by decide +kernel
theorem dX4_tryStep_93 : decode cX4_tryStep 93 = .ok (.iload_n 3, 1) := by decide +kernel
theorem dX4_tryStep_94 : decode cX4_tryStep 94 = .ok (.invokevirtual 93, 3) := by decide +kernel
theorem dX4_tryStep_97 : decode cX4_tryStep 97 = .ok (.ireturn, 1) := by decide +kernel
theorem dX4_tryStep_98 : decode cX4_tryStep 98 = .ok (.aload_n 0, 1) := by decide +kernel
theorem dX4_tryStep_99 : decode cX4_tryStep 99 = .ok (.getfield 39, 3) := by decide +kernel
theorem dX4_tryStep_102 : decode cX4_tryStep 102 = .ok (.sipush 900, 3) := by decide +kernel
theorem dX4_tryStep_105 : decode cX4_tryStep 105 = .ok (.if_icmp .ge 19, 3) := by decide +kernel
theorem dX4_tryStep_108 : decode cX4_tryStep 108 = .ok (.aload_n 0, 1) := by decide +kernel
theorem dX4_tryStep_109 : decode cX4_tryStep 109 = .ok (.aload 4, 2) := by decide +kernel
theorem dX4_tryStep_111 : decode cX4_tryStep 111 = .ok (.aload 5, 2) := by decide +kernel
theorem dX4_tryStep_113 : decode cX4_tryStep 113 = .ok (.iconst 1, 1) := by decide +kernel
theorem dX4_tryStep_114 : decode cX4_tryStep 114 = .ok (.invokevirtual 96, 3) := by decide +kernel
theorem dX4_tryStep_117 : decode cX4_tryStep 117 = .ok (.ifCond .eq 7, 3) := by decide +kernel
theorem dX4_tryStep_120 : decode cX4_tryStep 120 = .ok (.iconst 1, 1) := by decide +kernel
theorem dX4_tryStep_121 : decode cX4_tryStep 121 = .ok (.goto 4, 3) := by decide +kernel
theorem dX4_tryStep_124 : decode cX4_tryStep 124 = .ok (.iconst 0, 1) := by decide +kernel
theorem dX4_tryStep_125 : decode cX4_tryStep 125 = .ok (.ireturn, 1) := by decide +kernel
theorem dX4_tryStep_126 : decode cX4_tryStep 126 = .ok (.iload_n 1, 1) := by decide +kernel
theorem dX4_tryStep_127 : decode cX4_tryStep 127 = .ok (.bipush 8, 2) := by decide +kernel
theorem dX4_tryStep_129 : decode cX4_tryStep 129 = .ok (.if_icmp .ne 14, 3) := by decide +kernel
theorem dX4_tryStep_132 : decode cX4_tryStep 132 = .ok (.aload_n 0, 1) := by decide +kernel
theorem dX4_tryStep_133 : decode cX4_tryStep 133 = .ok (.invokevirtual 100, 3) := by decide +kernel
theorem dX4_tryStep_136 : decode cX4_tryStep 136 = .ok (.ifCond .eq 7, 3) := by decide +kernel
theorem dX4_tryStep_139 : decode cX4_tryStep 139 = .ok (.iconst 1, 1) := by decide +kernel
theorem dX4_tryStep_140 : decode cX4_tryStep 140 = .ok (.goto 4, 3) := by decide +kernel
theorem dX4_tryStep_143 : decode cX4_tryStep 143 = .ok (.iconst 0, 1) := by decide +kernel
theorem dX4_tryStep_144 : decode cX4_tryStep 144 = .ok (.ireturn, 1) := by decide +kernel
theorem r_X4_tryStep_0 {d rc rs : Nat} {Q : PO → PH → Prop} {h : PH} {l0 : Nat} {l1 : Int32} {l2 : Int32} {l3 : Int32} {l4 : Nat} {l5 : Nat}
    (k : (l1 = (0 : Int32) → gA h (10102, l4) fun a1 => xI h a1 l2 fun x2 => isO h 10400 l0 ∧ cl d rc rs M_X4_passTap [vR (400, l0), vI l2, vI x2] h (kI fun x6 h3 rc4 rs5 => nrw .boolean x6 (Q (.inl (some (vI x6))) h3)) (fun E h3 rc4 rs5 => Q (.inr E) h3)) ∧ (l1 = (1 : Int32) → isO h 10400 l0 ∧ cl d rc rs M_X4_wipeGlass [vR (400, l0), vI l2] h (kI fun x10 h7 rc8 rs9 => nrw .boolean x10 (Q (.inl (some (vI x10))) h7)) (fun E h7 rc8 rs9 => Q (.inr E) h7)) ∧ (l1 = (2 : Int32) → isO h 10400 l0 ∧ cl d rc rs M_X4_changeAir [vR (400, l0), vI l2] h (kI fun x14 h11 rc12 rs13 => nrw .boolean x14 (Q (.inl (some (vI x14))) h11)) (fun E h11 rc12 rs13 => Q (.inr E) h11)) ∧ (l1 = (3 : Int32) → isO h 10400 l0 ∧ cl d rc rs M_X4_liftGlass [vR (400, l0), vI l2] h (kI fun x18 h15 rc16 rs17 => nrw .boolean x18 (Q (.inl (some (vI x18))) h15)) (fun E h15 rc16 rs17 => Q (.inr E) h15)) ∧ (l1 = (4 : Int32) → isO h 10400 l0 ∧ cl d rc rs M_X4_lowerGlass [vR (400, l0), vI l2] h (kI fun x22 h19 rc20 rs21 => nrw .boolean x22 (Q (.inl (some (vI x22))) h19)) (fun E h19 rc20 rs21 => Q (.inr E) h19)) ∧ (l1 = (5 : Int32) → isO h 10400 l0 ∧ cl d rc rs M_X4_crackGlass [vR (400, l0), vI l2] h (kI fun x26 h23 rc24 rs25 => nrw .boolean x26 (Q (.inl (some (vI x26))) h23)) (fun E h23 rc24 rs25 => Q (.inr E) h23)) ∧ (l1 = (6 : Int32) → isO h 10400 l0 ∧ cl d rc rs M_X4_setFerns [vR (400, l0), vI l2, vI l3] h (kI fun x30 h27 rc28 rs29 => nrw .boolean x30 (Q (.inl (some (vI x30))) h27)) (fun E h27 rc28 rs29 => Q (.inr E) h27)) ∧ (l1 = (7 : Int32) → gI h (10409, l0) fun x31 => br (x31 < (900 : Int32)) (isO h 10400 l0 ∧ cl d rc rs M_X4_passHour [vR (400, l0), vR (100, l4), vR (300, l5), vI (1 : Int32)] h (kI fun x35 h32 rc33 rs34 => br (x35 = 0) (Q (.inl (some (vI (0 : Int32)))) h32) (Q (.inl (some (vI (1 : Int32)))) h32)) (fun E h32 rc33 rs34 => Q (.inr E) h32)) (Q (.inl (some (vI (0 : Int32)))) h)) ∧ (¬ l1 = (0 : Int32) ∧ ¬ l1 = (1 : Int32) ∧ ¬ l1 = (2 : Int32) ∧ ¬ l1 = (3 : Int32) ∧ ¬ l1 = (4 : Int32) ∧ ¬ l1 = (5 : Int32) ∧ ¬ l1 = (6 : Int32) ∧ ¬ l1 = (7 : Int32) → br (l1 = (8 : Int32)) (isO h 10400 l0 ∧ cl d rc rs M_X4_beginDawn [vR (400, l0)] h (kI fun x39 h36 rc37 rs38 => br (x39 = 0) (Q (.inl (some (vI (0 : Int32)))) h36) (Q (.inl (some (vI (1 : Int32)))) h36)) (fun E h36 rc37 rs38 => Q (.inr E) h36)) (Q (.inl (some (vI (0 : Int32)))) h))) :
    PW d M_X4_tryStep Q rc rs 0 [vR (400, l0), vI l1, vI l2, vI l3, vR (100, l4), vR (300, l5)] [] h := by
  refine P_iload_n (pc := 0) dX4_tryStep_0 rfl ?_
  by_cases c0 : l1 = (0 : Int32)
  · replace k := k.1 c0
    refine P_tableIn (pc := 1) (tgt := 48) dX4_tryStep_1 (by rw [c0]; decide) (by rw [c0]; decide) (by rw [c0] <;> rfl) (by decide) ?_
    refine P_aload_n (pc := 48) dX4_tryStep_48 rfl ?_
    refine P_iload_n (pc := 49) dX4_tryStep_49 rfl ?_
    refine P_aload (pc := 50) dX4_tryStep_50 rfl ?_
    obtain ⟨a1, e9, k⟩ := k
    refine GN1_2 (pc := 52) dX4_tryStep_52 n_X4_70 e9 ?_
    clear e9
    refine P_iload_n (pc := 55) dX4_tryStep_55 rfl ?_
    obtain ⟨n9, f9, e9, i9, k⟩ := k
    refine P_iald (pc := 56) dX4_tryStep_56 e9 i9 ?_
    clear e9
    generalize f9 (Int32.toNatClampNeg l2) = x2 at k ⊢
    obtain ⟨⟨w9, e9⟩, d2, nc, ns, rc4, rs5, Qc, g1, rfl, rfl, g2, kk, kx⟩ := k
    refine P_callV (ci := 4) (k := 0) (id := l0) (q := (RX4, TX4, 10)) (As := [vI l2, vI x2]) (st := []) (pc := 57) dX4_tryStep_57 mk_X4_passTap l_X4_73 im_X4_passTap se_X4_passTap ini_X4 rfl g1 (Nat.le_of_ble_eq_true rfl) rfl rfl (by decide) e9 rfl g2 (fun v9 h9 q9 => ?_) (fun E h9 q9 => PX_out rfl (kx E h9 q9))
    obtain ⟨x6, rfl, k⟩ := kk v9 h9 q9
    clear kk kx g1 g2 q9
    exact R_ireturn (pc := 60) dX4_tryStep_60 rfl k.1 k.2
  replace k := k.2
  by_cases c1 : l1 = (1 : Int32)
  · replace k := k.1 c1
    refine P_tableIn (pc := 1) (tgt := 61) dX4_tryStep_1 (by rw [c1]; decide) (by rw [c1]; decide) (by rw [c1] <;> rfl) (by decide) ?_
    refine P_aload_n (pc := 61) dX4_tryStep_61 rfl ?_
    refine P_iload_n (pc := 62) dX4_tryStep_62 rfl ?_
    obtain ⟨⟨w9, e9⟩, d2, nc, ns, rc8, rs9, Qc, g1, rfl, rfl, g2, kk, kx⟩ := k
    refine P_callV (ci := 4) (k := 0) (id := l0) (q := (RX4, TX4, 10)) (As := [vI l2]) (st := []) (pc := 63) dX4_tryStep_63 mk_X4_wipeGlass l_X4_77 im_X4_wipeGlass se_X4_wipeGlass ini_X4 rfl g1 (Nat.le_of_ble_eq_true rfl) rfl rfl (by decide) e9 rfl g2 (fun v9 h9 q9 => ?_) (fun E h9 q9 => PX_out rfl (kx E h9 q9))
    obtain ⟨x10, rfl, k⟩ := kk v9 h9 q9
    clear kk kx g1 g2 q9
    exact R_ireturn (pc := 66) dX4_tryStep_66 rfl k.1 k.2
  replace k := k.2
  by_cases c2 : l1 = (2 : Int32)
  · replace k := k.1 c2
    refine P_tableIn (pc := 1) (tgt := 67) dX4_tryStep_1 (by rw [c2]; decide) (by rw [c2]; decide) (by rw [c2] <;> rfl) (by decide) ?_
    refine P_aload_n (pc := 67) dX4_tryStep_67 rfl ?_
    refine P_iload_n (pc := 68) dX4_tryStep_68 rfl ?_
    obtain ⟨⟨w9, e9⟩, d2, nc, ns, rc12, rs13, Qc, g1, rfl, rfl, g2, kk, kx⟩ := k
    refine P_callV (ci := 4) (k := 0) (id := l0) (q := (RX4, TX4, 10)) (As := [vI l2]) (st := []) (pc := 69) dX4_tryStep_69 mk_X4_changeAir l_X4_81 im_X4_changeAir se_X4_changeAir ini_X4 rfl g1 (Nat.le_of_ble_eq_true rfl) rfl rfl (by decide) e9 rfl g2 (fun v9 h9 q9 => ?_) (fun E h9 q9 => PX_out rfl (kx E h9 q9))
    obtain ⟨x14, rfl, k⟩ := kk v9 h9 q9
    clear kk kx g1 g2 q9
    exact R_ireturn (pc := 72) dX4_tryStep_72 rfl k.1 k.2
  replace k := k.2
  by_cases c3 : l1 = (3 : Int32)
  · replace k := k.1 c3
    refine P_tableIn (pc := 1) (tgt := 73) dX4_tryStep_1 (by rw [c3]; decide) (by rw [c3]; decide) (by rw [c3] <;> rfl) (by decide) ?_
    refine P_aload_n (pc := 73) dX4_tryStep_73 rfl ?_
    refine P_iload_n (pc := 74) dX4_tryStep_74 rfl ?_
    obtain ⟨⟨w9, e9⟩, d2, nc, ns, rc16, rs17, Qc, g1, rfl, rfl, g2, kk, kx⟩ := k
    refine P_callV (ci := 4) (k := 0) (id := l0) (q := (RX4, TX4, 10)) (As := [vI l2]) (st := []) (pc := 75) dX4_tryStep_75 mk_X4_liftGlass l_X4_84 im_X4_liftGlass se_X4_liftGlass ini_X4 rfl g1 (Nat.le_of_ble_eq_true rfl) rfl rfl (by decide) e9 rfl g2 (fun v9 h9 q9 => ?_) (fun E h9 q9 => PX_out rfl (kx E h9 q9))
    obtain ⟨x18, rfl, k⟩ := kk v9 h9 q9
    clear kk kx g1 g2 q9
    exact R_ireturn (pc := 78) dX4_tryStep_78 rfl k.1 k.2
  replace k := k.2
  by_cases c4 : l1 = (4 : Int32)
  · replace k := k.1 c4
    refine P_tableIn (pc := 1) (tgt := 79) dX4_tryStep_1 (by rw [c4]; decide) (by rw [c4]; decide) (by rw [c4] <;> rfl) (by decide) ?_
    refine P_aload_n (pc := 79) dX4_tryStep_79 rfl ?_
    refine P_iload_n (pc := 80) dX4_tryStep_80 rfl ?_
    obtain ⟨⟨w9, e9⟩, d2, nc, ns, rc20, rs21, Qc, g1, rfl, rfl, g2, kk, kx⟩ := k
    refine P_callV (ci := 4) (k := 0) (id := l0) (q := (RX4, TX4, 10)) (As := [vI l2]) (st := []) (pc := 81) dX4_tryStep_81 mk_X4_lowerGlass l_X4_87 im_X4_lowerGlass se_X4_lowerGlass ini_X4 rfl g1 (Nat.le_of_ble_eq_true rfl) rfl rfl (by decide) e9 rfl g2 (fun v9 h9 q9 => ?_) (fun E h9 q9 => PX_out rfl (kx E h9 q9))
    obtain ⟨x22, rfl, k⟩ := kk v9 h9 q9
    clear kk kx g1 g2 q9
    exact R_ireturn (pc := 84) dX4_tryStep_84 rfl k.1 k.2
  replace k := k.2
  by_cases c5 : l1 = (5 : Int32)
  · replace k := k.1 c5
    refine P_tableIn (pc := 1) (tgt := 85) dX4_tryStep_1 (by rw [c5]; decide) (by rw [c5]; decide) (by rw [c5] <;> rfl) (by decide) ?_
    refine P_aload_n (pc := 85) dX4_tryStep_85 rfl ?_
    refine P_iload_n (pc := 86) dX4_tryStep_86 rfl ?_
    obtain ⟨⟨w9, e9⟩, d2, nc, ns, rc24, rs25, Qc, g1, rfl, rfl, g2, kk, kx⟩ := k
    refine P_callV (ci := 4) (k := 0) (id := l0) (q := (RX4, TX4, 10)) (As := [vI l2]) (st := []) (pc := 87) dX4_tryStep_87 mk_X4_crackGlass l_X4_90 im_X4_crackGlass se_X4_crackGlass ini_X4 rfl g1 (Nat.le_of_ble_eq_true rfl) rfl rfl (by decide) e9 rfl g2 (fun v9 h9 q9 => ?_) (fun E h9 q9 => PX_out rfl (kx E h9 q9))
    obtain ⟨x26, rfl, k⟩ := kk v9 h9 q9
    clear kk kx g1 g2 q9
    exact R_ireturn (pc := 90) dX4_tryStep_90 rfl k.1 k.2
  replace k := k.2
  by_cases c6 : l1 = (6 : Int32)
  · replace k := k.1 c6
    refine P_tableIn (pc := 1) (tgt := 91) dX4_tryStep_1 (by rw [c6]; decide) (by rw [c6]; decide) (by rw [c6] <;> rfl) (by decide) ?_
    refine P_aload_n (pc := 91) dX4_tryStep_91 rfl ?_
    refine P_iload_n (pc := 92) dX4_tryStep_92 rfl ?_
    refine P_iload_n (pc := 93) dX4_tryStep_93 rfl ?_
    obtain ⟨⟨w9, e9⟩, d2, nc, ns, rc28, rs29, Qc, g1, rfl, rfl, g2, kk, kx⟩ := k
    refine P_callV (ci := 4) (k := 0) (id := l0) (q := (RX4, TX4, 10)) (As := [vI l2, vI l3]) (st := []) (pc := 94) dX4_tryStep_94 mk_X4_setFerns l_X4_93 im_X4_setFerns se_X4_setFerns ini_X4 rfl g1 (Nat.le_of_ble_eq_true rfl) rfl rfl (by decide) e9 rfl g2 (fun v9 h9 q9 => ?_) (fun E h9 q9 => PX_out rfl (kx E h9 q9))
    obtain ⟨x30, rfl, k⟩ := kk v9 h9 q9
    clear kk kx g1 g2 q9
    exact R_ireturn (pc := 97) dX4_tryStep_97 rfl k.1 k.2
  replace k := k.2
  by_cases c7 : l1 = (7 : Int32)
  · replace k := k.1 c7
    refine P_tableIn (pc := 1) (tgt := 98) dX4_tryStep_1 (by rw [c7]; decide) (by rw [c7]; decide) (by rw [c7] <;> rfl) (by decide) ?_
    refine P_aload_n (pc := 98) dX4_tryStep_98 rfl ?_
    obtain ⟨x31, e9, k⟩ := k
    refine G4_9 (pc := 99) dX4_tryStep_99 l_X4_39 e9 ?_
    clear e9
    refine P_sipush (v := (900 : Int32)) (pc := 102) dX4_tryStep_102 (by decide) ?_
    refine P_icmp_ge (tgt := 124) (pc := 105) dX4_tryStep_105 (by decide) (fun c => ?_) (fun c => ?_)
    · have k := k.2 (Int32.not_lt.mpr c)
      refine P_iconst (v := (0 : Int32)) (pc := 124) dX4_tryStep_124 (by decide) ?_
      exact R_ireturn (pc := 125) dX4_tryStep_125 rfl rfl k
    · have k := k.1 (Int32.not_le.mp c)
      refine P_aload_n (pc := 108) dX4_tryStep_108 rfl ?_
      refine P_aload (pc := 109) dX4_tryStep_109 rfl ?_
      refine P_aload (pc := 111) dX4_tryStep_111 rfl ?_
      refine P_iconst (v := (1 : Int32)) (pc := 113) dX4_tryStep_113 (by decide) ?_
      obtain ⟨⟨w9, e9⟩, d2, nc, ns, rc33, rs34, Qc, g1, rfl, rfl, g2, kk, kx⟩ := k
      refine P_callV (ci := 4) (k := 0) (id := l0) (q := (RX4, TX4, 10)) (As := [vR (100, l4), vR (300, l5), vI (1 : Int32)]) (st := []) (pc := 114) dX4_tryStep_114 mk_X4_passHour l_X4_96 im_X4_passHour se_X4_passHour ini_X4 rfl g1 (Nat.le_of_ble_eq_true rfl) rfl rfl (by decide) e9 rfl g2 (fun v9 h9 q9 => ?_) (fun E h9 q9 => PX_out rfl (kx E h9 q9))
      obtain ⟨x35, rfl, k⟩ := kk v9 h9 q9
      clear kk kx g1 g2 q9
      refine P_if_eq (tgt := 124) (pc := 117) dX4_tryStep_117 (by decide) (fun c => ?_) (fun c => ?_)
      · have k := k.1 c
        refine P_iconst (v := (0 : Int32)) (pc := 124) dX4_tryStep_124 (by decide) ?_
        exact R_ireturn (pc := 125) dX4_tryStep_125 rfl rfl k
      · have k := k.2 c
        refine P_iconst (v := (1 : Int32)) (pc := 120) dX4_tryStep_120 (by decide) ?_
        refine P_goto (tgt := 125) (pc := 121) dX4_tryStep_121 (by decide) ?_
        exact R_ireturn (pc := 125) dX4_tryStep_125 rfl rfl k
  replace k := k.2
  replace k := k ⟨c0, c1, c2, c3, c4, c5, c6, c7⟩
  refine P_tableOut (pc := 1) (tgt := 126) dX4_tryStep_1 ?_ (by decide) ?_
  · have q9 := sw_out (x := l1) (lo := 0) 8 (fun j hj => by
        match j, hj with
        | 0, _ => exact ti_ne c0
        | 1, _ => exact ti_ne c1
        | 2, _ => exact ti_ne c2
        | 3, _ => exact ti_ne c3
        | 4, _ => exact ti_ne c4
        | 5, _ => exact ti_ne c5
        | 6, _ => exact ti_ne c6
        | 7, _ => exact ti_ne c7
        | n + 8, hj => exact absurd hj (by omega))
    omega
  refine P_iload_n (pc := 126) dX4_tryStep_126 rfl ?_
  refine P_bipush (v := (8 : Int32)) (pc := 127) dX4_tryStep_127 (by decide) ?_
  refine P_icmp_ne (tgt := 143) (pc := 129) dX4_tryStep_129 (by decide) (fun c => ?_) (fun c => ?_)
  · have k := k.2 c
    refine P_iconst (v := (0 : Int32)) (pc := 143) dX4_tryStep_143 (by decide) ?_
    exact R_ireturn (pc := 144) dX4_tryStep_144 rfl rfl k
  · have k := k.1 c
    refine P_aload_n (pc := 132) dX4_tryStep_132 rfl ?_
    obtain ⟨⟨w9, e9⟩, d2, nc, ns, rc37, rs38, Qc, g1, rfl, rfl, g2, kk, kx⟩ := k
    refine P_callV (ci := 4) (k := 0) (id := l0) (q := (RX4, TX4, 10)) (As := []) (st := []) (pc := 133) dX4_tryStep_133 mk_X4_beginDawn l_X4_100 im_X4_beginDawn se_X4_beginDawn ini_X4 rfl g1 (Nat.le_of_ble_eq_true rfl) rfl rfl (by decide) e9 rfl g2 (fun v9 h9 q9 => ?_) (fun E h9 q9 => PX_out rfl (kx E h9 q9))
    obtain ⟨x39, rfl, k⟩ := kk v9 h9 q9
    clear kk kx g1 g2 q9
    refine P_if_eq (tgt := 143) (pc := 136) dX4_tryStep_136 (by decide) (fun c => ?_) (fun c => ?_)
    · have k := k.1 c
      refine P_iconst (v := (0 : Int32)) (pc := 143) dX4_tryStep_143 (by decide) ?_
      exact R_ireturn (pc := 144) dX4_tryStep_144 rfl rfl k
    · have k := k.2 c
      refine P_iconst (v := (1 : Int32)) (pc := 139) dX4_tryStep_139 (by decide) ?_
      refine P_goto (tgt := 144) (pc := 140) dX4_tryStep_140 (by decide) ?_
      exact R_ireturn (pc := 144) dX4_tryStep_144 rfl rfl k
-- X4_passTap passTap(II)Z
theorem dX4_passTap_0 : decode cX4_passTap 0 = .ok (.iconst 0, 1) := by decide +kernel
theorem dX4_passTap_1 : decode cX4_passTap 1 = .ok (.istore_n 3, 1) := by decide +kernel
theorem dX4_passTap_2 : decode cX4_passTap 2 = .ok (.iload_n 3, 1) := by decide +kernel
theorem dX4_passTap_3 : decode cX4_passTap 3 = .ok (.bipush 7, 2) := by decide +kernel
theorem dX4_passTap_5 : decode cX4_passTap 5 = .ok (.if_icmp .ge 47, 3) := by decide +kernel
theorem dX4_passTap_8 : decode cX4_passTap 8 = .ok (.aload_n 0, 1) := by decide +kernel
theorem dX4_passTap_9 : decode cX4_passTap 9 = .ok (.getfield 30, 3) := by decide +kernel
theorem dX4_passTap_12 : decode cX4_passTap 12 = .ok (.iload_n 1, 1) := by decide +kernel
theorem dX4_passTap_13 : decode cX4_passTap 13 = .ok (.iaload, 1) := by decide +kernel
theorem dX4_passTap_14 : decode cX4_passTap 14 = .ok (.iconst 1, 1) := by decide +kernel
theorem dX4_passTap_15 : decode cX4_passTap 15 = .ok (.if_icmp .ne 31, 3) := by decide +kernel
theorem dX4_passTap_18 : decode cX4_passTap 18 = .ok (.aload_n 0, 1) := by decide +kernel
theorem dX4_passTap_19 : decode cX4_passTap 19 = .ok (.getfield 30, 3) := by decide +kernel
theorem dX4_passTap_22 : decode cX4_passTap 22 = .ok (.iload_n 3, 1) := by decide +kernel
theorem dX4_passTap_23 : decode cX4_passTap 23 = .ok (.iaload, 1) := by decide +kernel
theorem dX4_passTap_24 : decode cX4_passTap 24 = .ok (.iconst 1, 1) := by decide +kernel
theorem dX4_passTap_25 : decode cX4_passTap 25 = .ok (.if_icmp .ne 21, 3) := by decide +kernel
theorem dX4_passTap_28 : decode cX4_passTap 28 = .ok (.iload_n 2, 1) := by decide +kernel
theorem dX4_passTap_29 : decode cX4_passTap 29 = .ok (.iconst 1, 1) := by decide +kernel
theorem dX4_passTap_30 : decode cX4_passTap 30 = .ok (.iload_n 3, 1) := by decide +kernel
theorem dX4_passTap_31 : decode cX4_passTap 31 = .ok (.ishl, 1) := by decide +kernel
theorem dX4_passTap_32 : decode cX4_passTap 32 = .ok (.iand, 1) := by decide +kernel
theorem dX4_passTap_33 : decode cX4_passTap 33 = .ok (.ifCond .eq 13, 3) := by decide +kernel
theorem dX4_passTap_36 : decode cX4_passTap 36 = .ok (.aload_n 0, 1) := by decide +kernel
theorem dX4_passTap_37 : decode cX4_passTap 37 = .ok (.getfield 27, 3) := by decide +kernel
theorem dX4_passTap_40 : decode cX4_passTap 40 = .ok (.iload_n 3, 1) := by decide +kernel
theorem dX4_passTap_41 : decode cX4_passTap 41 = .ok (.dup2, 1) := by decide +kernel
theorem dX4_passTap_42 : decode cX4_passTap 42 = .ok (.iaload, 1) := by decide +kernel
theorem dX4_passTap_43 : decode cX4_passTap 43 = .ok (.iconst 1, 1) := by decide +kernel
theorem dX4_passTap_44 : decode cX4_passTap 44 = .ok (.iadd, 1) := by decide +kernel
theorem dX4_passTap_45 : decode cX4_passTap 45 = .ok (.iastore, 1) := by decide +kernel
theorem dX4_passTap_46 : decode cX4_passTap 46 = .ok (.iinc 3 1, 3) := by decide +kernel
theorem dX4_passTap_49 : decode cX4_passTap 49 = .ok (.goto (-47), 3) := by decide +kernel
theorem dX4_passTap_52 : decode cX4_passTap 52 = .ok (.aload_n 0, 1) := by decide +kernel
theorem dX4_passTap_53 : decode cX4_passTap 53 = .ok (.getfield 30, 3) := by decide +kernel
theorem dX4_passTap_56 : decode cX4_passTap 56 = .ok (.iload_n 1, 1) := by decide +kernel
theorem dX4_passTap_57 : decode cX4_passTap 57 = .ok (.iaload, 1) := by decide +kernel
theorem dX4_passTap_58 : decode cX4_passTap 58 = .ok (.iconst 1, 1) := by decide +kernel
theorem dX4_passTap_59 : decode cX4_passTap 59 = .ok (.if_icmp .ne 7, 3) := by decide +kernel
theorem dX4_passTap_62 : decode cX4_passTap 62 = .ok (.iconst 1, 1) := by decide +kernel
theorem dX4_passTap_63 : decode cX4_passTap 63 = .ok (.goto 4, 3) := by decide +kernel
theorem dX4_passTap_66 : decode cX4_passTap 66 = .ok (.iconst 0, 1) := by decide +kernel
theorem dX4_passTap_67 : decode cX4_passTap 67 = .ok (.ireturn, 1) := by decide +kernel
theorem r_X4_passTap_0 {d rc rs : Nat} {Q : PO → PH → Prop} {h : PH} {l0 : Nat} {l1 : Int32} {l2 : Int32}
    (k : PW d M_X4_passTap Q rc rs 2 [vR (400, l0), vI l1, vI l2, vI (0 : Int32)] [] h) :
    PW d M_X4_passTap Q rc rs 0 [vR (400, l0), vI l1, vI l2, vU] [] h := by
  refine P_iconst (v := (0 : Int32)) (pc := 0) dX4_passTap_0 (by decide) ?_
  refine P_istore_n (pc := 1) dX4_passTap_1 (by decide) (Or.inr (by intro z e9; cases e9)) rfl ?_
  exact k
theorem r_X4_passTap_2 {d rc rs : Nat} {Q : PO → PH → Prop} {h : PH} {l0 : Nat} {l1 : Int32} {l2 : Int32} {l3 : Int32}
    (k : br (l3 < (7 : Int32)) (gA h (10406, l0) fun a3 => xI h a3 l1 fun x4 => br (x4 = (1 : Int32)) (gA h (10406, l0) fun a5 => xI h a5 l3 fun x6 => br (x6 = (1 : Int32)) (br ((l2 &&& ((1 : Int32) <<< (l3 &&& 31))) = 0) (PW d M_X4_passTap Q rc rs 2 [vR (400, l0), vI l1, vI l2, vI (l3 + (1 : Int32))] [] h) (gA h (10405, l0) fun a7 => xI h a7 l3 fun x8 => yI h a7 l3 (x8 + (1 : Int32)) fun h9 => PW d M_X4_passTap Q rc rs 2 [vR (400, l0), vI l1, vI l2, vI (l3 + (1 : Int32))] [] h9)) (PW d M_X4_passTap Q rc rs 2 [vR (400, l0), vI l1, vI l2, vI (l3 + (1 : Int32))] [] h)) (PW d M_X4_passTap Q rc rs 2 [vR (400, l0), vI l1, vI l2, vI (l3 + (1 : Int32))] [] h)) (gA h (10406, l0) fun a1 => xI h a1 l1 fun x2 => br (x2 = (1 : Int32)) (Q (.inl (some (vI (1 : Int32)))) h) (Q (.inl (some (vI (0 : Int32)))) h))) :
    PW d M_X4_passTap Q rc rs 2 [vR (400, l0), vI l1, vI l2, vI l3] [] h := by
  refine P_iload_n (pc := 2) dX4_passTap_2 rfl ?_
  refine P_bipush (v := (7 : Int32)) (pc := 3) dX4_passTap_3 (by decide) ?_
  refine P_icmp_ge (tgt := 52) (pc := 5) dX4_passTap_5 (by decide) (fun c => ?_) (fun c => ?_)
  · have k := k.2 (Int32.not_lt.mpr c)
    refine P_aload_n (pc := 52) dX4_passTap_52 rfl ?_
    obtain ⟨a1, e9, k⟩ := k
    refine G4_6 (pc := 53) dX4_passTap_53 l_X4_30 e9 ?_
    clear e9
    refine P_iload_n (pc := 56) dX4_passTap_56 rfl ?_
    obtain ⟨n9, f9, e9, i9, k⟩ := k
    refine P_iald (pc := 57) dX4_passTap_57 e9 i9 ?_
    clear e9
    generalize f9 (Int32.toNatClampNeg l1) = x2 at k ⊢
    refine P_iconst (v := (1 : Int32)) (pc := 58) dX4_passTap_58 (by decide) ?_
    refine P_icmp_ne (tgt := 66) (pc := 59) dX4_passTap_59 (by decide) (fun c => ?_) (fun c => ?_)
    · have k := k.2 c
      refine P_iconst (v := (0 : Int32)) (pc := 66) dX4_passTap_66 (by decide) ?_
      exact R_ireturn (pc := 67) dX4_passTap_67 rfl rfl k
    · have k := k.1 c
      refine P_iconst (v := (1 : Int32)) (pc := 62) dX4_passTap_62 (by decide) ?_
      refine P_goto (tgt := 67) (pc := 63) dX4_passTap_63 (by decide) ?_
      exact R_ireturn (pc := 67) dX4_passTap_67 rfl rfl k
  · have k := k.1 (Int32.not_le.mp c)
    refine P_aload_n (pc := 8) dX4_passTap_8 rfl ?_
    obtain ⟨a3, e9, k⟩ := k
    refine G4_6 (pc := 9) dX4_passTap_9 l_X4_30 e9 ?_
    clear e9
    refine P_iload_n (pc := 12) dX4_passTap_12 rfl ?_
    obtain ⟨n9, f9, e9, i9, k⟩ := k
    refine P_iald (pc := 13) dX4_passTap_13 e9 i9 ?_
    clear e9
    generalize f9 (Int32.toNatClampNeg l1) = x4 at k ⊢
    refine P_iconst (v := (1 : Int32)) (pc := 14) dX4_passTap_14 (by decide) ?_
    refine P_icmp_ne (tgt := 46) (pc := 15) dX4_passTap_15 (by decide) (fun c => ?_) (fun c => ?_)
    · have k := k.2 c
      refine P_iinc (v := l3 + (1 : Int32)) (pc := 46) dX4_passTap_46 (by decide) rfl rfl (Or.inr (by intro z e9; cases e9)) rfl ?_
      refine P_goto (tgt := 2) (pc := 49) dX4_passTap_49 (by decide) ?_
      exact k
    · have k := k.1 c
      refine P_aload_n (pc := 18) dX4_passTap_18 rfl ?_
      obtain ⟨a5, e9, k⟩ := k
      refine G4_6 (pc := 19) dX4_passTap_19 l_X4_30 e9 ?_
      clear e9
      refine P_iload_n (pc := 22) dX4_passTap_22 rfl ?_
      obtain ⟨n9, f9, e9, i9, k⟩ := k
      refine P_iald (pc := 23) dX4_passTap_23 e9 i9 ?_
      clear e9
      generalize f9 (Int32.toNatClampNeg l3) = x6 at k ⊢
      refine P_iconst (v := (1 : Int32)) (pc := 24) dX4_passTap_24 (by decide) ?_
      refine P_icmp_ne (tgt := 46) (pc := 25) dX4_passTap_25 (by decide) (fun c => ?_) (fun c => ?_)
      · have k := k.2 c
        refine P_iinc (v := l3 + (1 : Int32)) (pc := 46) dX4_passTap_46 (by decide) rfl rfl (Or.inr (by intro z e9; cases e9)) rfl ?_
        refine P_goto (tgt := 2) (pc := 49) dX4_passTap_49 (by decide) ?_
        exact k
      · have k := k.1 c
        refine P_iload_n (pc := 28) dX4_passTap_28 rfl ?_
        refine P_iconst (v := (1 : Int32)) (pc := 29) dX4_passTap_29 (by decide) ?_
        refine P_iload_n (pc := 30) dX4_passTap_30 rfl ?_
        refine P_ishl (pc := 31) dX4_passTap_31 ?_
        refine P_iand (pc := 32) dX4_passTap_32 ?_
        refine P_if_eq (tgt := 46) (pc := 33) dX4_passTap_33 (by decide) (fun c => ?_) (fun c => ?_)
        · have k := k.1 c
          refine P_iinc (v := l3 + (1 : Int32)) (pc := 46) dX4_passTap_46 (by decide) rfl rfl (Or.inr (by intro z e9; cases e9)) rfl ?_
          refine P_goto (tgt := 2) (pc := 49) dX4_passTap_49 (by decide) ?_
          exact k
        · have k := k.2 c
          refine P_aload_n (pc := 36) dX4_passTap_36 rfl ?_
          obtain ⟨a7, e9, k⟩ := k
          refine G4_5 (pc := 37) dX4_passTap_37 l_X4_27 e9 ?_
          clear e9
          refine P_iload_n (pc := 40) dX4_passTap_40 rfl ?_
          refine P_dup2 (pc := 41) dX4_passTap_41 (fun _ => rfl) (fun _ => rfl) ?_
          obtain ⟨n9, f9, e9, i9, k⟩ := k
          refine P_iald (pc := 42) dX4_passTap_42 e9 i9 ?_
          clear e9
          generalize f9 (Int32.toNatClampNeg l3) = x8 at k ⊢
          refine P_iconst (v := (1 : Int32)) (pc := 43) dX4_passTap_43 (by decide) ?_
          refine P_iadd (pc := 44) dX4_passTap_44 ?_
          obtain ⟨n9, f9, e9, i9, k⟩ := k
          refine P_iast (pc := 45) dX4_passTap_45 e9 i9 ?_
          clear e9
          refine P_iinc (v := l3 + (1 : Int32)) (pc := 46) dX4_passTap_46 (by decide) rfl rfl (Or.inr (by intro z e9; cases e9)) rfl ?_
          refine P_goto (tgt := 2) (pc := 49) dX4_passTap_49 (by decide) ?_
          exact k
-- X4_wipeGlass wipeGlass(I)Z
theorem dX4_wipeGlass_0 : decode cX4_wipeGlass 0 = .ok (.aload_n 0, 1) := by decide +kernel
theorem dX4_wipeGlass_1 : decode cX4_wipeGlass 1 = .ok (.getfield 18, 3) := by decide +kernel
theorem dX4_wipeGlass_4 : decode cX4_wipeGlass 4 = .ok (.iload_n 1, 1) := by decide +kernel
theorem dX4_wipeGlass_5 : decode cX4_wipeGlass 5 = .ok (.iaload, 1) := by decide +kernel
theorem dX4_wipeGlass_6 : decode cX4_wipeGlass 6 = .ok (.ifCond .le 7, 3) := by decide +kernel
theorem dX4_wipeGlass_9 : decode cX4_wipeGlass 9 = .ok (.iconst 1, 1) := by decide +kernel
theorem dX4_wipeGlass_10 : decode cX4_wipeGlass 10 = .ok (.goto 4, 3) := by decide +kernel
theorem dX4_wipeGlass_13 : decode cX4_wipeGlass 13 = .ok (.iconst 0, 1) := by decide +kernel
theorem dX4_wipeGlass_14 : decode cX4_wipeGlass 14 = .ok (.istore_n 2, 1) := by decide +kernel
theorem dX4_wipeGlass_15 : decode cX4_wipeGlass 15 = .ok (.aload_n 0, 1) := by decide +kernel
theorem dX4_wipeGlass_16 : decode cX4_wipeGlass 16 = .ok (.getfield 18, 3) := by decide +kernel
theorem dX4_wipeGlass_19 : decode cX4_wipeGlass 19 = .ok (.iload_n 1, 1) := by decide +kernel
theorem dX4_wipeGlass_20 : decode cX4_wipeGlass 20 = .ok (.iconst 0, 1) := by decide +kernel
theorem dX4_wipeGlass_21 : decode cX4_wipeGlass 21 = .ok (.iastore, 1) := by decide +kernel
theorem dX4_wipeGlass_22 : decode cX4_wipeGlass 22 = .ok (.iload_n 2, 1) := by decide +kernel
theorem dX4_wipeGlass_23 : decode cX4_wipeGlass 23 = .ok (.ireturn, 1) := by decide +kernel
theorem r_X4_wipeGlass_0 {d rc rs : Nat} {Q : PO → PH → Prop} {h : PH} {l0 : Nat} {l1 : Int32}
    (k : gA h (10402, l0) fun a1 => xI h a1 l1 fun x2 => br (0 < x2) (gA h (10402, l0) fun a5 => yI h a5 l1 (0 : Int32) fun h6 => Q (.inl (some (vI (1 : Int32)))) h6) (gA h (10402, l0) fun a3 => yI h a3 l1 (0 : Int32) fun h4 => Q (.inl (some (vI (0 : Int32)))) h4)) :
    PW d M_X4_wipeGlass Q rc rs 0 [vR (400, l0), vI l1, vU] [] h := by
  refine P_aload_n (pc := 0) dX4_wipeGlass_0 rfl ?_
  obtain ⟨a1, e9, k⟩ := k
  refine G4_2 (pc := 1) dX4_wipeGlass_1 l_X4_18 e9 ?_
  clear e9
  refine P_iload_n (pc := 4) dX4_wipeGlass_4 rfl ?_
  obtain ⟨n9, f9, e9, i9, k⟩ := k
  refine P_iald (pc := 5) dX4_wipeGlass_5 e9 i9 ?_
  clear e9
  generalize f9 (Int32.toNatClampNeg l1) = x2 at k ⊢
  refine P_if_le (tgt := 13) (pc := 6) dX4_wipeGlass_6 (by decide) (fun c => ?_) (fun c => ?_)
  · have k := k.2 (Int32.not_lt.mpr c)
    refine P_iconst (v := (0 : Int32)) (pc := 13) dX4_wipeGlass_13 (by decide) ?_
    refine P_istore_n (pc := 14) dX4_wipeGlass_14 (by decide) (Or.inr (by intro z e9; cases e9)) rfl ?_
    refine P_aload_n (pc := 15) dX4_wipeGlass_15 rfl ?_
    obtain ⟨a3, e9, k⟩ := k
    refine G4_2 (pc := 16) dX4_wipeGlass_16 l_X4_18 e9 ?_
    clear e9
    refine P_iload_n (pc := 19) dX4_wipeGlass_19 rfl ?_
    refine P_iconst (v := (0 : Int32)) (pc := 20) dX4_wipeGlass_20 (by decide) ?_
    obtain ⟨n9, f9, e9, i9, k⟩ := k
    refine P_iast (pc := 21) dX4_wipeGlass_21 e9 i9 ?_
    clear e9
    refine P_iload_n (pc := 22) dX4_wipeGlass_22 rfl ?_
    exact R_ireturn (pc := 23) dX4_wipeGlass_23 rfl rfl k
  · have k := k.1 (Int32.not_le.mp c)
    refine P_iconst (v := (1 : Int32)) (pc := 9) dX4_wipeGlass_9 (by decide) ?_
    refine P_goto (tgt := 14) (pc := 10) dX4_wipeGlass_10 (by decide) ?_
    refine P_istore_n (pc := 14) dX4_wipeGlass_14 (by decide) (Or.inr (by intro z e9; cases e9)) rfl ?_
    refine P_aload_n (pc := 15) dX4_wipeGlass_15 rfl ?_
    obtain ⟨a5, e9, k⟩ := k
    refine G4_2 (pc := 16) dX4_wipeGlass_16 l_X4_18 e9 ?_
    clear e9
    refine P_iload_n (pc := 19) dX4_wipeGlass_19 rfl ?_
    refine P_iconst (v := (0 : Int32)) (pc := 20) dX4_wipeGlass_20 (by decide) ?_
    obtain ⟨n9, f9, e9, i9, k⟩ := k
    refine P_iast (pc := 21) dX4_wipeGlass_21 e9 i9 ?_
    clear e9
    refine P_iload_n (pc := 22) dX4_wipeGlass_22 rfl ?_
    exact R_ireturn (pc := 23) dX4_wipeGlass_23 rfl rfl k
-- X4_changeAir changeAir(I)Z
theorem dX4_changeAir_0 : decode cX4_changeAir 0 = .ok (.aload_n 0, 1) := by decide +kernel
theorem dX4_changeAir_1 : decode cX4_changeAir 1 = .ok (.getfield 30, 3) := by decide +kernel
theorem dX4_changeAir_4 : decode cX4_changeAir 4 = .ok (.iload_n 1, 1) := by decide +kernel
theorem dX4_changeAir_5 : decode cX4_changeAir 5 = .ok (.iaload, 1) := by decide +kernel
theorem dX4_changeAir_6 : decode cX4_changeAir 6 = .ok (.iconst 1, 1) := by decide +kernel
theorem dX4_changeAir_7 : decode cX4_changeAir 7 = .ok (.if_icmp .ne 18, 3) := by decide +kernel
theorem dX4_changeAir_10 : decode cX4_changeAir 10 = .ok (.aload_n 0, 1) := by decide +kernel
theorem dX4_changeAir_11 : decode cX4_changeAir 11 = .ok (.getfield 21, 3) := by decide +kernel
theorem dX4_changeAir_14 : decode cX4_changeAir 14 = .ok (.iload_n 1, 1) := by decide +kernel
theorem dX4_changeAir_15 : decode cX4_changeAir 15 = .ok (.iaload, 1) := by decide +kernel
theorem dX4_changeAir_16 : decode cX4_changeAir 16 = .ok (.bipush 99, 2) := by decide +kernel
theorem dX4_changeAir_18 : decode cX4_changeAir 18 = .ok (.if_icmp .ge 7, 3) := by decide +kernel
theorem dX4_changeAir_21 : decode cX4_changeAir 21 = .ok (.iconst 1, 1) := by decide +kernel
theorem dX4_changeAir_22 : decode cX4_changeAir 22 = .ok (.goto 4, 3) := by decide +kernel
theorem dX4_changeAir_25 : decode cX4_changeAir 25 = .ok (.iconst 0, 1) := by decide +kernel
theorem dX4_changeAir_26 : decode cX4_changeAir 26 = .ok (.istore_n 2, 1) := by decide +kernel
theorem dX4_changeAir_27 : decode cX4_changeAir 27 = .ok (.aload_n 0, 1) := by decide +kernel
theorem dX4_changeAir_28 : decode cX4_changeAir 28 = .ok (.getfield 21, 3) := by decide +kernel
theorem dX4_changeAir_31 : decode cX4_changeAir 31 = .ok (.iload_n 1, 1) := by decide +kernel
theorem dX4_changeAir_32 : decode cX4_changeAir 32 = .ok (.iload_n 2, 1) := by decide +kernel
theorem dX4_changeAir_33 : decode cX4_changeAir 33 = .ok (.ifCond .eq 20, 3) := by decide +kernel
theorem dX4_changeAir_36 : decode cX4_changeAir 36 = .ok (.bipush 99, 2) := by decide +kernel
theorem dX4_changeAir_38 : decode cX4_changeAir 38 = .ok (.aload_n 0, 1) := by decide +kernel
theorem dX4_changeAir_39 : decode cX4_changeAir 39 = .ok (.getfield 21, 3) := by decide +kernel
theorem dX4_changeAir_42 : decode cX4_changeAir 42 = .ok (.iload_n 1, 1) := by decide +kernel
theorem dX4_changeAir_43 : decode cX4_changeAir 43 = .ok (.iaload, 1) := by decide +kernel
theorem dX4_changeAir_44 : decode cX4_changeAir 44 = .ok (.bipush 40, 2) := by decide +kernel
theorem dX4_changeAir_46 : decode cX4_changeAir 46 = .ok (.iadd, 1) := by decide +kernel
theorem dX4_changeAir_47 : decode cX4_changeAir 47 = .ok (.invokestatic 104, 3) := by decide +kernel
theorem dX4_changeAir_50 : decode cX4_changeAir 50 = .ok (.goto 9, 3) := by decide +kernel
theorem dX4_changeAir_53 : decode cX4_changeAir 53 = .ok (.aload_n 0, 1) := by decide +kernel
theorem dX4_changeAir_54 : decode cX4_changeAir 54 = .ok (.getfield 21, 3) := by decide +kernel
theorem dX4_changeAir_57 : decode cX4_changeAir 57 = .ok (.iload_n 1, 1) := by decide +kernel
theorem dX4_changeAir_58 : decode cX4_changeAir 58 = .ok (.iaload, 1) := by decide +kernel
theorem dX4_changeAir_59 : decode cX4_changeAir 59 = .ok (.iastore, 1) := by decide +kernel
theorem dX4_changeAir_60 : decode cX4_changeAir 60 = .ok (.iload_n 2, 1) := by decide +kernel
theorem dX4_changeAir_61 : decode cX4_changeAir 61 = .ok (.ireturn, 1) := by decide +kernel
theorem r_X4_changeAir_0 {d rc rs : Nat} {Q : PO → PH → Prop} {h : PH} {l0 : Nat} {l1 : Int32}
    (k : gA h (10406, l0) fun a1 => xI h a1 l1 fun x2 => br (x2 = (1 : Int32)) (gA h (10403, l0) fun a14 => xI h a14 l1 fun x15 => br (x15 < (99 : Int32)) (gA h (10403, l0) fun a27 => br ((1 : Int32) = 0) (gA h (10403, l0) fun a28 => xI h a28 l1 fun x29 => yI h a27 l1 x29 fun h30 => Q (.inl (some (vI (1 : Int32)))) h30) (gA h (10403, l0) fun a31 => xI h a31 l1 fun x32 => cl d rc rs M_J9_min_7cf53 [vI (99 : Int32), vI (x32 + (40 : Int32))] h (kI fun x36 h33 rc34 rs35 => yI h33 a27 l1 x36 fun h37 => Q (.inl (some (vI (1 : Int32)))) h37) (fun E h33 rc34 rs35 => Q (.inr E) h33))) (gA h (10403, l0) fun a16 => br ((0 : Int32) = 0) (gA h (10403, l0) fun a17 => xI h a17 l1 fun x18 => yI h a16 l1 x18 fun h19 => Q (.inl (some (vI (0 : Int32)))) h19) (gA h (10403, l0) fun a20 => xI h a20 l1 fun x21 => cl d rc rs M_J9_min_7cf53 [vI (99 : Int32), vI (x21 + (40 : Int32))] h (kI fun x25 h22 rc23 rs24 => yI h22 a16 l1 x25 fun h26 => Q (.inl (some (vI (0 : Int32)))) h26) (fun E h22 rc23 rs24 => Q (.inr E) h22)))) (gA h (10403, l0) fun a3 => br ((0 : Int32) = 0) (gA h (10403, l0) fun a4 => xI h a4 l1 fun x5 => yI h a3 l1 x5 fun h6 => Q (.inl (some (vI (0 : Int32)))) h6) (gA h (10403, l0) fun a7 => xI h a7 l1 fun x8 => cl d rc rs M_J9_min_7cf53 [vI (99 : Int32), vI (x8 + (40 : Int32))] h (kI fun x12 h9 rc10 rs11 => yI h9 a3 l1 x12 fun h13 => Q (.inl (some (vI (0 : Int32)))) h13) (fun E h9 rc10 rs11 => Q (.inr E) h9)))) :
    PW d M_X4_changeAir Q rc rs 0 [vR (400, l0), vI l1, vU] [] h := by
  refine P_aload_n (pc := 0) dX4_changeAir_0 rfl ?_
  obtain ⟨a1, e9, k⟩ := k
  refine G4_6 (pc := 1) dX4_changeAir_1 l_X4_30 e9 ?_
  clear e9
  refine P_iload_n (pc := 4) dX4_changeAir_4 rfl ?_
  obtain ⟨n9, f9, e9, i9, k⟩ := k
  refine P_iald (pc := 5) dX4_changeAir_5 e9 i9 ?_
  clear e9
  generalize f9 (Int32.toNatClampNeg l1) = x2 at k ⊢
  refine P_iconst (v := (1 : Int32)) (pc := 6) dX4_changeAir_6 (by decide) ?_
  refine P_icmp_ne (tgt := 25) (pc := 7) dX4_changeAir_7 (by decide) (fun c => ?_) (fun c => ?_)
  · have k := k.2 c
    refine P_iconst (v := (0 : Int32)) (pc := 25) dX4_changeAir_25 (by decide) ?_
    refine P_istore_n (pc := 26) dX4_changeAir_26 (by decide) (Or.inr (by intro z e9; cases e9)) rfl ?_
    refine P_aload_n (pc := 27) dX4_changeAir_27 rfl ?_
    obtain ⟨a3, e9, k⟩ := k
    refine G4_3 (pc := 28) dX4_changeAir_28 l_X4_21 e9 ?_
    clear e9
    refine P_iload_n (pc := 31) dX4_changeAir_31 rfl ?_
    refine P_iload_n (pc := 32) dX4_changeAir_32 rfl ?_
    refine P_if_eq (tgt := 53) (pc := 33) dX4_changeAir_33 (by decide) (fun c => ?_) (fun c => ?_)
    · have k := k.1 c
      refine P_aload_n (pc := 53) dX4_changeAir_53 rfl ?_
      obtain ⟨a4, e9, k⟩ := k
      refine G4_3 (pc := 54) dX4_changeAir_54 l_X4_21 e9 ?_
      clear e9
      refine P_iload_n (pc := 57) dX4_changeAir_57 rfl ?_
      obtain ⟨n9, f9, e9, i9, k⟩ := k
      refine P_iald (pc := 58) dX4_changeAir_58 e9 i9 ?_
      clear e9
      generalize f9 (Int32.toNatClampNeg l1) = x5 at k ⊢
      obtain ⟨n9, f9, e9, i9, k⟩ := k
      refine P_iast (pc := 59) dX4_changeAir_59 e9 i9 ?_
      clear e9
      refine P_iload_n (pc := 60) dX4_changeAir_60 rfl ?_
      exact R_ireturn (pc := 61) dX4_changeAir_61 rfl rfl k
    · have k := k.2 c
      refine P_bipush (v := (99 : Int32)) (pc := 36) dX4_changeAir_36 (by decide) ?_
      refine P_aload_n (pc := 38) dX4_changeAir_38 rfl ?_
      obtain ⟨a7, e9, k⟩ := k
      refine G4_3 (pc := 39) dX4_changeAir_39 l_X4_21 e9 ?_
      clear e9
      refine P_iload_n (pc := 42) dX4_changeAir_42 rfl ?_
      obtain ⟨n9, f9, e9, i9, k⟩ := k
      refine P_iald (pc := 43) dX4_changeAir_43 e9 i9 ?_
      clear e9
      generalize f9 (Int32.toNatClampNeg l1) = x8 at k ⊢
      refine P_bipush (v := (40 : Int32)) (pc := 44) dX4_changeAir_44 (by decide) ?_
      refine P_iadd (pc := 46) dX4_changeAir_46 ?_
      obtain ⟨d2, nc, ns, rc10, rs11, Qc, g1, rfl, rfl, g2, kk, kx⟩ := k
      refine P_callS (As := [vI (99 : Int32), vI (x8 + (40 : Int32))]) (st := [vI l1, vR a3]) (pc := 47) dX4_changeAir_47 mk_J9_min_7cf53 l_X4_104 st_J9_min_7cf53 ini_J9 rfl g1 (Nat.le_of_ble_eq_true rfl) rfl g2 (fun v9 h9 q9 => ?_) (fun E h9 q9 => PX_out rfl (kx E h9 q9))
      obtain ⟨x12, rfl, k⟩ := kk v9 h9 q9
      clear kk kx g1 g2 q9
      refine P_goto (tgt := 59) (pc := 50) dX4_changeAir_50 (by decide) ?_
      obtain ⟨n9, f9, e9, i9, k⟩ := k
      refine P_iast (pc := 59) dX4_changeAir_59 e9 i9 ?_
      clear e9
      refine P_iload_n (pc := 60) dX4_changeAir_60 rfl ?_
      exact R_ireturn (pc := 61) dX4_changeAir_61 rfl rfl k
  · have k := k.1 c
    refine P_aload_n (pc := 10) dX4_changeAir_10 rfl ?_
    obtain ⟨a14, e9, k⟩ := k
    refine G4_3 (pc := 11) dX4_changeAir_11 l_X4_21 e9 ?_
    clear e9
    refine P_iload_n (pc := 14) dX4_changeAir_14 rfl ?_
    obtain ⟨n9, f9, e9, i9, k⟩ := k
    refine P_iald (pc := 15) dX4_changeAir_15 e9 i9 ?_
    clear e9
    generalize f9 (Int32.toNatClampNeg l1) = x15 at k ⊢
    refine P_bipush (v := (99 : Int32)) (pc := 16) dX4_changeAir_16 (by decide) ?_
    refine P_icmp_ge (tgt := 25) (pc := 18) dX4_changeAir_18 (by decide) (fun c => ?_) (fun c => ?_)
    · have k := k.2 (Int32.not_lt.mpr c)
      refine P_iconst (v := (0 : Int32)) (pc := 25) dX4_changeAir_25 (by decide) ?_
      refine P_istore_n (pc := 26) dX4_changeAir_26 (by decide) (Or.inr (by intro z e9; cases e9)) rfl ?_
      refine P_aload_n (pc := 27) dX4_changeAir_27 rfl ?_
      obtain ⟨a16, e9, k⟩ := k
      refine G4_3 (pc := 28) dX4_changeAir_28 l_X4_21 e9 ?_
      clear e9
      refine P_iload_n (pc := 31) dX4_changeAir_31 rfl ?_
      refine P_iload_n (pc := 32) dX4_changeAir_32 rfl ?_
      refine P_if_eq (tgt := 53) (pc := 33) dX4_changeAir_33 (by decide) (fun c => ?_) (fun c => ?_)
      · have k := k.1 c
        refine P_aload_n (pc := 53) dX4_changeAir_53 rfl ?_
        obtain ⟨a17, e9, k⟩ := k
        refine G4_3 (pc := 54) dX4_changeAir_54 l_X4_21 e9 ?_
        clear e9
        refine P_iload_n (pc := 57) dX4_changeAir_57 rfl ?_
        obtain ⟨n9, f9, e9, i9, k⟩ := k
        refine P_iald (pc := 58) dX4_changeAir_58 e9 i9 ?_
        clear e9
        generalize f9 (Int32.toNatClampNeg l1) = x18 at k ⊢
        obtain ⟨n9, f9, e9, i9, k⟩ := k
        refine P_iast (pc := 59) dX4_changeAir_59 e9 i9 ?_
        clear e9
        refine P_iload_n (pc := 60) dX4_changeAir_60 rfl ?_
        exact R_ireturn (pc := 61) dX4_changeAir_61 rfl rfl k
      · have k := k.2 c
        refine P_bipush (v := (99 : Int32)) (pc := 36) dX4_changeAir_36 (by decide) ?_
        refine P_aload_n (pc := 38) dX4_changeAir_38 rfl ?_
        obtain ⟨a20, e9, k⟩ := k
        refine G4_3 (pc := 39) dX4_changeAir_39 l_X4_21 e9 ?_
        clear e9
        refine P_iload_n (pc := 42) dX4_changeAir_42 rfl ?_
        obtain ⟨n9, f9, e9, i9, k⟩ := k
        refine P_iald (pc := 43) dX4_changeAir_43 e9 i9 ?_
        clear e9
        generalize f9 (Int32.toNatClampNeg l1) = x21 at k ⊢
        refine P_bipush (v := (40 : Int32)) (pc := 44) dX4_changeAir_44 (by decide) ?_
        refine P_iadd (pc := 46) dX4_changeAir_46 ?_
        obtain ⟨d2, nc, ns, rc23, rs24, Qc, g1, rfl, rfl, g2, kk, kx⟩ := k
        refine P_callS (As := [vI (99 : Int32), vI (x21 + (40 : Int32))]) (st := [vI l1, vR a16]) (pc := 47) dX4_changeAir_47 mk_J9_min_7cf53 l_X4_104 st_J9_min_7cf53 ini_J9 rfl g1 (Nat.le_of_ble_eq_true rfl) rfl g2 (fun v9 h9 q9 => ?_) (fun E h9 q9 => PX_out rfl (kx E h9 q9))
        obtain ⟨x25, rfl, k⟩ := kk v9 h9 q9
        clear kk kx g1 g2 q9
        refine P_goto (tgt := 59) (pc := 50) dX4_changeAir_50 (by decide) ?_
        obtain ⟨n9, f9, e9, i9, k⟩ := k
        refine P_iast (pc := 59) dX4_changeAir_59 e9 i9 ?_
        clear e9
        refine P_iload_n (pc := 60) dX4_changeAir_60 rfl ?_
        exact R_ireturn (pc := 61) dX4_changeAir_61 rfl rfl k
    · have k := k.1 (Int32.not_le.mp c)
      refine P_iconst (v := (1 : Int32)) (pc := 21) dX4_changeAir_21 (by decide) ?_
      refine P_goto (tgt := 26) (pc := 22) dX4_changeAir_22 (by decide) ?_
      refine P_istore_n (pc := 26) dX4_changeAir_26 (by decide) (Or.inr (by intro z e9; cases e9)) rfl ?_
      refine P_aload_n (pc := 27) dX4_changeAir_27 rfl ?_
      obtain ⟨a27, e9, k⟩ := k
      refine G4_3 (pc := 28) dX4_changeAir_28 l_X4_21 e9 ?_
      clear e9
      refine P_iload_n (pc := 31) dX4_changeAir_31 rfl ?_
      refine P_iload_n (pc := 32) dX4_changeAir_32 rfl ?_
      refine P_if_eq (tgt := 53) (pc := 33) dX4_changeAir_33 (by decide) (fun c => ?_) (fun c => ?_)
      · have k := k.1 c
        refine P_aload_n (pc := 53) dX4_changeAir_53 rfl ?_
        obtain ⟨a28, e9, k⟩ := k
        refine G4_3 (pc := 54) dX4_changeAir_54 l_X4_21 e9 ?_
        clear e9
        refine P_iload_n (pc := 57) dX4_changeAir_57 rfl ?_
        obtain ⟨n9, f9, e9, i9, k⟩ := k
        refine P_iald (pc := 58) dX4_changeAir_58 e9 i9 ?_
        clear e9
        generalize f9 (Int32.toNatClampNeg l1) = x29 at k ⊢
        obtain ⟨n9, f9, e9, i9, k⟩ := k
        refine P_iast (pc := 59) dX4_changeAir_59 e9 i9 ?_
        clear e9
        refine P_iload_n (pc := 60) dX4_changeAir_60 rfl ?_
        exact R_ireturn (pc := 61) dX4_changeAir_61 rfl rfl k
      · have k := k.2 c
        refine P_bipush (v := (99 : Int32)) (pc := 36) dX4_changeAir_36 (by decide) ?_
        refine P_aload_n (pc := 38) dX4_changeAir_38 rfl ?_
        obtain ⟨a31, e9, k⟩ := k
        refine G4_3 (pc := 39) dX4_changeAir_39 l_X4_21 e9 ?_
        clear e9
        refine P_iload_n (pc := 42) dX4_changeAir_42 rfl ?_
        obtain ⟨n9, f9, e9, i9, k⟩ := k
        refine P_iald (pc := 43) dX4_changeAir_43 e9 i9 ?_
        clear e9
        generalize f9 (Int32.toNatClampNeg l1) = x32 at k ⊢
        refine P_bipush (v := (40 : Int32)) (pc := 44) dX4_changeAir_44 (by decide) ?_
        refine P_iadd (pc := 46) dX4_changeAir_46 ?_
        obtain ⟨d2, nc, ns, rc34, rs35, Qc, g1, rfl, rfl, g2, kk, kx⟩ := k
        refine P_callS (As := [vI (99 : Int32), vI (x32 + (40 : Int32))]) (st := [vI l1, vR a27]) (pc := 47) dX4_changeAir_47 mk_J9_min_7cf53 l_X4_104 st_J9_min_7cf53 ini_J9 rfl g1 (Nat.le_of_ble_eq_true rfl) rfl g2 (fun v9 h9 q9 => ?_) (fun E h9 q9 => PX_out rfl (kx E h9 q9))
        obtain ⟨x36, rfl, k⟩ := kk v9 h9 q9
        clear kk kx g1 g2 q9
        refine P_goto (tgt := 59) (pc := 50) dX4_changeAir_50 (by decide) ?_
        obtain ⟨n9, f9, e9, i9, k⟩ := k
        refine P_iast (pc := 59) dX4_changeAir_59 e9 i9 ?_
        clear e9
        refine P_iload_n (pc := 60) dX4_changeAir_60 rfl ?_
        exact R_ireturn (pc := 61) dX4_changeAir_61 rfl rfl k
-- X4_liftGlass liftGlass(I)Z
theorem dX4_liftGlass_0 : decode cX4_liftGlass 0 = .ok (.aload_n 0, 1) := by decide +kernel
theorem dX4_liftGlass_1 : decode cX4_liftGlass 1 = .ok (.getfield 30, 3) := by decide +kernel
theorem dX4_liftGlass_4 : decode cX4_liftGlass 4 = .ok (.iload_n 1, 1) := by decide +kernel
theorem dX4_liftGlass_5 : decode cX4_liftGlass 5 = .ok (.iaload, 1) := by decide +kernel
theorem dX4_liftGlass_6 : decode cX4_liftGlass 6 = .ok (.ifCond .ne 5, 3) := by decide +kernel
theorem dX4_liftGlass_9 : decode cX4_liftGlass 9 = .ok (.iconst 0, 1) := by decide +kernel
theorem dX4_liftGlass_10 : decode cX4_liftGlass 10 = .ok (.ireturn, 1) := by decide +kernel
theorem dX4_liftGlass_11 : decode cX4_liftGlass 11 = .ok (.aload_n 0, 1) := by decide +kernel
theorem dX4_liftGlass_12 : decode cX4_liftGlass 12 = .ok (.getfield 30, 3) := by decide +kernel
theorem dX4_liftGlass_15 : decode cX4_liftGlass 15 = .ok (.iload_n 1, 1) := by decide +kernel
theorem dX4_liftGlass_16 : decode cX4_liftGlass 16 = .ok (.iconst 0, 1) := by decide +kernel
theorem dX4_liftGlass_17 : decode cX4_liftGlass 17 = .ok (.iastore, 1) := by decide +kernel
theorem dX4_liftGlass_18 : decode cX4_liftGlass 18 = .ok (.aload_n 0, 1) := by decide +kernel
theorem dX4_liftGlass_19 : decode cX4_liftGlass 19 = .ok (.getfield 18, 3) := by decide +kernel
theorem dX4_liftGlass_22 : decode cX4_liftGlass 22 = .ok (.iload_n 1, 1) := by decide +kernel
theorem dX4_liftGlass_23 : decode cX4_liftGlass 23 = .ok (.iconst 0, 1) := by decide +kernel
theorem dX4_liftGlass_24 : decode cX4_liftGlass 24 = .ok (.iastore, 1) := by decide +kernel
theorem dX4_liftGlass_25 : decode cX4_liftGlass 25 = .ok (.aload_n 0, 1) := by decide +kernel
theorem dX4_liftGlass_26 : decode cX4_liftGlass 26 = .ok (.getfield 21, 3) := by decide +kernel
theorem dX4_liftGlass_29 : decode cX4_liftGlass 29 = .ok (.iload_n 1, 1) := by decide +kernel
theorem dX4_liftGlass_30 : decode cX4_liftGlass 30 = .ok (.bipush 99, 2) := by decide +kernel
theorem dX4_liftGlass_32 : decode cX4_liftGlass 32 = .ok (.iastore, 1) := by decide +kernel
theorem dX4_liftGlass_33 : decode cX4_liftGlass 33 = .ok (.aload_n 0, 1) := by decide +kernel
theorem dX4_liftGlass_34 : decode cX4_liftGlass 34 = .ok (.getfield 27, 3) := by decide +kernel
theorem dX4_liftGlass_37 : decode cX4_liftGlass 37 = .ok (.iload_n 1, 1) := by decide +kernel
theorem dX4_liftGlass_38 : decode cX4_liftGlass 38 = .ok (.iconst 0, 1) := by decide +kernel
theorem dX4_liftGlass_39 : decode cX4_liftGlass 39 = .ok (.iastore, 1) := by decide +kernel
theorem dX4_liftGlass_40 : decode cX4_liftGlass 40 = .ok (.iconst 1, 1) := by decide +kernel
theorem dX4_liftGlass_41 : decode cX4_liftGlass 41 = .ok (.ireturn, 1) := by decide +kernel
theorem r_X4_liftGlass_0 {d rc rs : Nat} {Q : PO → PH → Prop} {h : PH} {l0 : Nat} {l1 : Int32}
    (k : gA h (10406, l0) fun a1 => xI h a1 l1 fun x2 => br (x2 = 0) (Q (.inl (some (vI (0 : Int32)))) h) (gA h (10406, l0) fun a3 => yI h a3 l1 (0 : Int32) fun h4 => gA h4 (10402, l0) fun a5 => yI h4 a5 l1 (0 : Int32) fun h6 => gA h6 (10403, l0) fun a7 => yI h6 a7 l1 (99 : Int32) fun h8 => gA h8 (10405, l0) fun a9 => yI h8 a9 l1 (0 : Int32) fun h10 => Q (.inl (some (vI (1 : Int32)))) h10)) :
    PW d M_X4_liftGlass Q rc rs 0 [vR (400, l0), vI l1] [] h := by
  refine P_aload_n (pc := 0) dX4_liftGlass_0 rfl ?_
  obtain ⟨a1, e9, k⟩ := k
  refine G4_6 (pc := 1) dX4_liftGlass_1 l_X4_30 e9 ?_
  clear e9
  refine P_iload_n (pc := 4) dX4_liftGlass_4 rfl ?_
  obtain ⟨n9, f9, e9, i9, k⟩ := k
  refine P_iald (pc := 5) dX4_liftGlass_5 e9 i9 ?_
  clear e9
  generalize f9 (Int32.toNatClampNeg l1) = x2 at k ⊢
  refine P_if_ne (tgt := 11) (pc := 6) dX4_liftGlass_6 (by decide) (fun c => ?_) (fun c => ?_)
  · have k := k.2 c
    refine P_aload_n (pc := 11) dX4_liftGlass_11 rfl ?_
    obtain ⟨a3, e9, k⟩ := k
    refine G4_6 (pc := 12) dX4_liftGlass_12 l_X4_30 e9 ?_
    clear e9
    refine P_iload_n (pc := 15) dX4_liftGlass_15 rfl ?_
    refine P_iconst (v := (0 : Int32)) (pc := 16) dX4_liftGlass_16 (by decide) ?_
    obtain ⟨n9, f9, e9, i9, k⟩ := k
    refine P_iast (pc := 17) dX4_liftGlass_17 e9 i9 ?_
    clear e9
    refine P_aload_n (pc := 18) dX4_liftGlass_18 rfl ?_
    obtain ⟨a5, e9, k⟩ := k
    refine G4_2 (pc := 19) dX4_liftGlass_19 l_X4_18 e9 ?_
    clear e9
    refine P_iload_n (pc := 22) dX4_liftGlass_22 rfl ?_
    refine P_iconst (v := (0 : Int32)) (pc := 23) dX4_liftGlass_23 (by decide) ?_
    obtain ⟨n9, f9, e9, i9, k⟩ := k
    refine P_iast (pc := 24) dX4_liftGlass_24 e9 i9 ?_
    clear e9
    refine P_aload_n (pc := 25) dX4_liftGlass_25 rfl ?_
    obtain ⟨a7, e9, k⟩ := k
    refine G4_3 (pc := 26) dX4_liftGlass_26 l_X4_21 e9 ?_
    clear e9
    refine P_iload_n (pc := 29) dX4_liftGlass_29 rfl ?_
    refine P_bipush (v := (99 : Int32)) (pc := 30) dX4_liftGlass_30 (by decide) ?_
    obtain ⟨n9, f9, e9, i9, k⟩ := k
    refine P_iast (pc := 32) dX4_liftGlass_32 e9 i9 ?_
    clear e9
    refine P_aload_n (pc := 33) dX4_liftGlass_33 rfl ?_
    obtain ⟨a9, e9, k⟩ := k
    refine G4_5 (pc := 34) dX4_liftGlass_34 l_X4_27 e9 ?_
    clear e9
    refine P_iload_n (pc := 37) dX4_liftGlass_37 rfl ?_
    refine P_iconst (v := (0 : Int32)) (pc := 38) dX4_liftGlass_38 (by decide) ?_
    obtain ⟨n9, f9, e9, i9, k⟩ := k
    refine P_iast (pc := 39) dX4_liftGlass_39 e9 i9 ?_
    clear e9
    refine P_iconst (v := (1 : Int32)) (pc := 40) dX4_liftGlass_40 (by decide) ?_
    exact R_ireturn (pc := 41) dX4_liftGlass_41 rfl rfl k
  · have k := k.1 c
    refine P_iconst (v := (0 : Int32)) (pc := 9) dX4_liftGlass_9 (by decide) ?_
    exact R_ireturn (pc := 10) dX4_liftGlass_10 rfl rfl k
-- X4_lowerGlass lowerGlass(I)Z
theorem dX4_lowerGlass_0 : decode cX4_lowerGlass 0 = .ok (.aload_n 0, 1) := by decide +kernel
theorem dX4_lowerGlass_1 : decode cX4_lowerGlass 1 = .ok (.getfield 30, 3) := by decide +kernel
theorem dX4_lowerGlass_4 : decode cX4_lowerGlass 4 = .ok (.iload_n 1, 1) := by decide +kernel
theorem dX4_lowerGlass_5 : decode cX4_lowerGlass 5 = .ok (.iaload, 1) := by decide +kernel
theorem dX4_lowerGlass_6 : decode cX4_lowerGlass 6 = .ok (.ifCond .ne 7, 3) := by decide +kernel
theorem dX4_lowerGlass_9 : decode cX4_lowerGlass 9 = .ok (.iconst 1, 1) := by decide +kernel
theorem dX4_lowerGlass_10 : decode cX4_lowerGlass 10 = .ok (.goto 4, 3) := by decide +kernel
theorem dX4_lowerGlass_13 : decode cX4_lowerGlass 13 = .ok (.iconst 0, 1) := by decide +kernel
theorem dX4_lowerGlass_14 : decode cX4_lowerGlass 14 = .ok (.istore_n 2, 1) := by decide +kernel
theorem dX4_lowerGlass_15 : decode cX4_lowerGlass 15 = .ok (.aload_n 0, 1) := by decide +kernel
theorem dX4_lowerGlass_16 : decode cX4_lowerGlass 16 = .ok (.getfield 30, 3) := by decide +kernel
theorem dX4_lowerGlass_19 : decode cX4_lowerGlass 19 = .ok (.iload_n 1, 1) := by decide +kernel
theorem dX4_lowerGlass_20 : decode cX4_lowerGlass 20 = .ok (.iconst 1, 1) := by decide +kernel
theorem dX4_lowerGlass_21 : decode cX4_lowerGlass 21 = .ok (.iastore, 1) := by decide +kernel
theorem dX4_lowerGlass_22 : decode cX4_lowerGlass 22 = .ok (.iload_n 2, 1) := by decide +kernel
theorem dX4_lowerGlass_23 : decode cX4_lowerGlass 23 = .ok (.ireturn, 1) := by decide +kernel
theorem r_X4_lowerGlass_0 {d rc rs : Nat} {Q : PO → PH → Prop} {h : PH} {l0 : Nat} {l1 : Int32}
    (k : gA h (10406, l0) fun a1 => xI h a1 l1 fun x2 => br (x2 = 0) (gA h (10406, l0) fun a5 => yI h a5 l1 (1 : Int32) fun h6 => Q (.inl (some (vI (1 : Int32)))) h6) (gA h (10406, l0) fun a3 => yI h a3 l1 (1 : Int32) fun h4 => Q (.inl (some (vI (0 : Int32)))) h4)) :
    PW d M_X4_lowerGlass Q rc rs 0 [vR (400, l0), vI l1, vU] [] h := by
  refine P_aload_n (pc := 0) dX4_lowerGlass_0 rfl ?_
  obtain ⟨a1, e9, k⟩ := k
  refine G4_6 (pc := 1) dX4_lowerGlass_1 l_X4_30 e9 ?_
  clear e9
  refine P_iload_n (pc := 4) dX4_lowerGlass_4 rfl ?_
  obtain ⟨n9, f9, e9, i9, k⟩ := k
  refine P_iald (pc := 5) dX4_lowerGlass_5 e9 i9 ?_
  clear e9
  generalize f9 (Int32.toNatClampNeg l1) = x2 at k ⊢
  refine P_if_ne (tgt := 13) (pc := 6) dX4_lowerGlass_6 (by decide) (fun c => ?_) (fun c => ?_)
  · have k := k.2 c
    refine P_iconst (v := (0 : Int32)) (pc := 13) dX4_lowerGlass_13 (by decide) ?_
    refine P_istore_n (pc := 14) dX4_lowerGlass_14 (by decide) (Or.inr (by intro z e9; cases e9)) rfl ?_
    refine P_aload_n (pc := 15) dX4_lowerGlass_15 rfl ?_
    obtain ⟨a3, e9, k⟩ := k
    refine G4_6 (pc := 16) dX4_lowerGlass_16 l_X4_30 e9 ?_
    clear e9
    refine P_iload_n (pc := 19) dX4_lowerGlass_19 rfl ?_
    refine P_iconst (v := (1 : Int32)) (pc := 20) dX4_lowerGlass_20 (by decide) ?_
    obtain ⟨n9, f9, e9, i9, k⟩ := k
    refine P_iast (pc := 21) dX4_lowerGlass_21 e9 i9 ?_
    clear e9
    refine P_iload_n (pc := 22) dX4_lowerGlass_22 rfl ?_
    exact R_ireturn (pc := 23) dX4_lowerGlass_23 rfl rfl k
  · have k := k.1 c
    refine P_iconst (v := (1 : Int32)) (pc := 9) dX4_lowerGlass_9 (by decide) ?_
    refine P_goto (tgt := 14) (pc := 10) dX4_lowerGlass_10 (by decide) ?_
    refine P_istore_n (pc := 14) dX4_lowerGlass_14 (by decide) (Or.inr (by intro z e9; cases e9)) rfl ?_
    refine P_aload_n (pc := 15) dX4_lowerGlass_15 rfl ?_
    obtain ⟨a5, e9, k⟩ := k
    refine G4_6 (pc := 16) dX4_lowerGlass_16 l_X4_30 e9 ?_
    clear e9
    refine P_iload_n (pc := 19) dX4_lowerGlass_19 rfl ?_
    refine P_iconst (v := (1 : Int32)) (pc := 20) dX4_lowerGlass_20 (by decide) ?_
    obtain ⟨n9, f9, e9, i9, k⟩ := k
    refine P_iast (pc := 21) dX4_lowerGlass_21 e9 i9 ?_
    clear e9
    refine P_iload_n (pc := 22) dX4_lowerGlass_22 rfl ?_
    exact R_ireturn (pc := 23) dX4_lowerGlass_23 rfl rfl k
-- X4_crackGlass crackGlass(I)Z
theorem dX4_crackGlass_0 : decode cX4_crackGlass 0 = .ok (.aload_n 0, 1) := by decide +kernel
theorem dX4_crackGlass_1 : decode cX4_crackGlass 1 = .ok (.getfield 30, 3) := by decide +kernel
theorem dX4_crackGlass_4 : decode cX4_crackGlass 4 = .ok (.iload_n 1, 1) := by decide +kernel
theorem dX4_crackGlass_5 : decode cX4_crackGlass 5 = .ok (.iaload, 1) := by decide +kernel
theorem dX4_crackGlass_6 : decode cX4_crackGlass 6 = .ok (.iconst 1, 1) := by decide +kernel
theorem dX4_crackGlass_7 : decode cX4_crackGlass 7 = .ok (.if_icmp .ne 17, 3) := by decide +kernel
theorem dX4_crackGlass_10 : decode cX4_crackGlass 10 = .ok (.aload_n 0, 1) := by decide +kernel
theorem dX4_crackGlass_11 : decode cX4_crackGlass 11 = .ok (.getfield 24, 3) := by decide +kernel
theorem dX4_crackGlass_14 : decode cX4_crackGlass 14 = .ok (.iload_n 1, 1) := by decide +kernel
theorem dX4_crackGlass_15 : decode cX4_crackGlass 15 = .ok (.iaload, 1) := by decide +kernel
theorem dX4_crackGlass_16 : decode cX4_crackGlass 16 = .ok (.iconst 3, 1) := by decide +kernel
theorem dX4_crackGlass_17 : decode cX4_crackGlass 17 = .ok (.if_icmp .ge 7, 3) := by decide +kernel
theorem dX4_crackGlass_20 : decode cX4_crackGlass 20 = .ok (.iconst 1, 1) := by decide +kernel
theorem dX4_crackGlass_21 : decode cX4_crackGlass 21 = .ok (.goto 4, 3) := by decide +kernel
theorem dX4_crackGlass_24 : decode cX4_crackGlass 24 = .ok (.iconst 0, 1) := by decide +kernel
theorem dX4_crackGlass_25 : decode cX4_crackGlass 25 = .ok (.istore_n 2, 1) := by decide +kernel
theorem dX4_crackGlass_26 : decode cX4_crackGlass 26 = .ok (.aload_n 0, 1) := by decide +kernel
theorem dX4_crackGlass_27 : decode cX4_crackGlass 27 = .ok (.getfield 24, 3) := by decide +kernel
theorem dX4_crackGlass_30 : decode cX4_crackGlass 30 = .ok (.iload_n 1, 1) := by decide +kernel
theorem dX4_crackGlass_31 : decode cX4_crackGlass 31 = .ok (.dup2, 1) := by decide +kernel
theorem dX4_crackGlass_32 : decode cX4_crackGlass 32 = .ok (.iaload, 1) := by decide +kernel
theorem dX4_crackGlass_33 : decode cX4_crackGlass 33 = .ok (.iload_n 2, 1) := by decide +kernel
theorem dX4_crackGlass_34 : decode cX4_crackGlass 34 = .ok (.ifCond .eq 7, 3) := by decide +kernel
theorem dX4_crackGlass_37 : decode cX4_crackGlass 37 = .ok (.iconst 1, 1) := by decide +kernel
theorem dX4_crackGlass_38 : decode cX4_crackGlass 38 = .ok (.goto 4, 3) := by decide +kernel
theorem dX4_crackGlass_41 : decode cX4_crackGlass 41 = .ok (.iconst 0, 1) := by decide +kernel
theorem dX4_crackGlass_42 : decode cX4_crackGlass 42 = .ok (.iadd, 1) := by decide +kernel
theorem dX4_crackGlass_43 : decode cX4_crackGlass 43 = .ok (.iastore, 1) := by decide +kernel
theorem dX4_crackGlass_44 : decode cX4_crackGlass 44 = .ok (.iload_n 2, 1) := by decide +kernel
theorem dX4_crackGlass_45 : decode cX4_crackGlass 45 = .ok (.ireturn, 1) := by decide +kernel
theorem r_X4_crackGlass_0 {d rc rs : Nat} {Q : PO → PH → Prop} {h : PH} {l0 : Nat} {l1 : Int32}
    (k : gA h (10406, l0) fun a1 => xI h a1 l1 fun x2 => br (x2 = (1 : Int32)) (gA h (10404, l0) fun a7 => xI h a7 l1 fun x8 => br (x8 < (3 : Int32)) (gA h (10404, l0) fun a13 => xI h a13 l1 fun x14 => br ((1 : Int32) = 0) (yI h a13 l1 (x14 + (0 : Int32)) fun h15 => Q (.inl (some (vI (1 : Int32)))) h15) (yI h a13 l1 (x14 + (1 : Int32)) fun h16 => Q (.inl (some (vI (1 : Int32)))) h16)) (gA h (10404, l0) fun a9 => xI h a9 l1 fun x10 => br ((0 : Int32) = 0) (yI h a9 l1 (x10 + (0 : Int32)) fun h11 => Q (.inl (some (vI (0 : Int32)))) h11) (yI h a9 l1 (x10 + (1 : Int32)) fun h12 => Q (.inl (some (vI (0 : Int32)))) h12))) (gA h (10404, l0) fun a3 => xI h a3 l1 fun x4 => br ((0 : Int32) = 0) (yI h a3 l1 (x4 + (0 : Int32)) fun h5 => Q (.inl (some (vI (0 : Int32)))) h5) (yI h a3 l1 (x4 + (1 : Int32)) fun h6 => Q (.inl (some (vI (0 : Int32)))) h6))) :
    PW d M_X4_crackGlass Q rc rs 0 [vR (400, l0), vI l1, vU] [] h := by
  refine P_aload_n (pc := 0) dX4_crackGlass_0 rfl ?_
  obtain ⟨a1, e9, k⟩ := k
  refine G4_6 (pc := 1) dX4_crackGlass_1 l_X4_30 e9 ?_
  clear e9
  refine P_iload_n (pc := 4) dX4_crackGlass_4 rfl ?_
  obtain ⟨n9, f9, e9, i9, k⟩ := k
  refine P_iald (pc := 5) dX4_crackGlass_5 e9 i9 ?_
  clear e9
  generalize f9 (Int32.toNatClampNeg l1) = x2 at k ⊢
  refine P_iconst (v := (1 : Int32)) (pc := 6) dX4_crackGlass_6 (by decide) ?_
  refine P_icmp_ne (tgt := 24) (pc := 7) dX4_crackGlass_7 (by decide) (fun c => ?_) (fun c => ?_)
  · have k := k.2 c
    refine P_iconst (v := (0 : Int32)) (pc := 24) dX4_crackGlass_24 (by decide) ?_
    refine P_istore_n (pc := 25) dX4_crackGlass_25 (by decide) (Or.inr (by intro z e9; cases e9)) rfl ?_
    refine P_aload_n (pc := 26) dX4_crackGlass_26 rfl ?_
    obtain ⟨a3, e9, k⟩ := k
    refine G4_4 (pc := 27) dX4_crackGlass_27 l_X4_24 e9 ?_
    clear e9
    refine P_iload_n (pc := 30) dX4_crackGlass_30 rfl ?_
    refine P_dup2 (pc := 31) dX4_crackGlass_31 (fun _ => rfl) (fun _ => rfl) ?_
    obtain ⟨n9, f9, e9, i9, k⟩ := k
    refine P_iald (pc := 32) dX4_crackGlass_32 e9 i9 ?_
    clear e9
    generalize f9 (Int32.toNatClampNeg l1) = x4 at k ⊢
    refine P_iload_n (pc := 33) dX4_crackGlass_33 rfl ?_
    refine P_if_eq (tgt := 41) (pc := 34) dX4_crackGlass_34 (by decide) (fun c => ?_) (fun c => ?_)
    · have k := k.1 c
      refine P_iconst (v := (0 : Int32)) (pc := 41) dX4_crackGlass_41 (by decide) ?_
      refine P_iadd (pc := 42) dX4_crackGlass_42 ?_
      obtain ⟨n9, f9, e9, i9, k⟩ := k
      refine P_iast (pc := 43) dX4_crackGlass_43 e9 i9 ?_
      clear e9
      refine P_iload_n (pc := 44) dX4_crackGlass_44 rfl ?_
      exact R_ireturn (pc := 45) dX4_crackGlass_45 rfl rfl k
    · have k := k.2 c
      refine P_iconst (v := (1 : Int32)) (pc := 37) dX4_crackGlass_37 (by decide) ?_
      refine P_goto (tgt := 42) (pc := 38) dX4_crackGlass_38 (by decide) ?_
      refine P_iadd (pc := 42) dX4_crackGlass_42 ?_
      obtain ⟨n9, f9, e9, i9, k⟩ := k
      refine P_iast (pc := 43) dX4_crackGlass_43 e9 i9 ?_
      clear e9
      refine P_iload_n (pc := 44) dX4_crackGlass_44 rfl ?_
      exact R_ireturn (pc := 45) dX4_crackGlass_45 rfl rfl k
  · have k := k.1 c
    refine P_aload_n (pc := 10) dX4_crackGlass_10 rfl ?_
    obtain ⟨a7, e9, k⟩ := k
    refine G4_4 (pc := 11) dX4_crackGlass_11 l_X4_24 e9 ?_
    clear e9
    refine P_iload_n (pc := 14) dX4_crackGlass_14 rfl ?_
    obtain ⟨n9, f9, e9, i9, k⟩ := k
    refine P_iald (pc := 15) dX4_crackGlass_15 e9 i9 ?_
    clear e9
    generalize f9 (Int32.toNatClampNeg l1) = x8 at k ⊢
    refine P_iconst (v := (3 : Int32)) (pc := 16) dX4_crackGlass_16 (by decide) ?_
    refine P_icmp_ge (tgt := 24) (pc := 17) dX4_crackGlass_17 (by decide) (fun c => ?_) (fun c => ?_)
    · have k := k.2 (Int32.not_lt.mpr c)
      refine P_iconst (v := (0 : Int32)) (pc := 24) dX4_crackGlass_24 (by decide) ?_
      refine P_istore_n (pc := 25) dX4_crackGlass_25 (by decide) (Or.inr (by intro z e9; cases e9)) rfl ?_
      refine P_aload_n (pc := 26) dX4_crackGlass_26 rfl ?_
      obtain ⟨a9, e9, k⟩ := k
      refine G4_4 (pc := 27) dX4_crackGlass_27 l_X4_24 e9 ?_
      clear e9
      refine P_iload_n (pc := 30) dX4_crackGlass_30 rfl ?_
      refine P_dup2 (pc := 31) dX4_crackGlass_31 (fun _ => rfl) (fun _ => rfl) ?_
      obtain ⟨n9, f9, e9, i9, k⟩ := k
      refine P_iald (pc := 32) dX4_crackGlass_32 e9 i9 ?_
      clear e9
      generalize f9 (Int32.toNatClampNeg l1) = x10 at k ⊢
      refine P_iload_n (pc := 33) dX4_crackGlass_33 rfl ?_
      refine P_if_eq (tgt := 41) (pc := 34) dX4_crackGlass_34 (by decide) (fun c => ?_) (fun c => ?_)
      · have k := k.1 c
        refine P_iconst (v := (0 : Int32)) (pc := 41) dX4_crackGlass_41 (by decide) ?_
        refine P_iadd (pc := 42) dX4_crackGlass_42 ?_
        obtain ⟨n9, f9, e9, i9, k⟩ := k
        refine P_iast (pc := 43) dX4_crackGlass_43 e9 i9 ?_
        clear e9
        refine P_iload_n (pc := 44) dX4_crackGlass_44 rfl ?_
        exact R_ireturn (pc := 45) dX4_crackGlass_45 rfl rfl k
      · have k := k.2 c
        refine P_iconst (v := (1 : Int32)) (pc := 37) dX4_crackGlass_37 (by decide) ?_
        refine P_goto (tgt := 42) (pc := 38) dX4_crackGlass_38 (by decide) ?_
        refine P_iadd (pc := 42) dX4_crackGlass_42 ?_
        obtain ⟨n9, f9, e9, i9, k⟩ := k
        refine P_iast (pc := 43) dX4_crackGlass_43 e9 i9 ?_
        clear e9
        refine P_iload_n (pc := 44) dX4_crackGlass_44 rfl ?_
        exact R_ireturn (pc := 45) dX4_crackGlass_45 rfl rfl k
    · have k := k.1 (Int32.not_le.mp c)
      refine P_iconst (v := (1 : Int32)) (pc := 20) dX4_crackGlass_20 (by decide) ?_
      refine P_goto (tgt := 25) (pc := 21) dX4_crackGlass_21 (by decide) ?_
      refine P_istore_n (pc := 25) dX4_crackGlass_25 (by decide) (Or.inr (by intro z e9; cases e9)) rfl ?_
      refine P_aload_n (pc := 26) dX4_crackGlass_26 rfl ?_
      obtain ⟨a13, e9, k⟩ := k
      refine G4_4 (pc := 27) dX4_crackGlass_27 l_X4_24 e9 ?_
      clear e9
      refine P_iload_n (pc := 30) dX4_crackGlass_30 rfl ?_
      refine P_dup2 (pc := 31) dX4_crackGlass_31 (fun _ => rfl) (fun _ => rfl) ?_
      obtain ⟨n9, f9, e9, i9, k⟩ := k
      refine P_iald (pc := 32) dX4_crackGlass_32 e9 i9 ?_
      clear e9
      generalize f9 (Int32.toNatClampNeg l1) = x14 at k ⊢
      refine P_iload_n (pc := 33) dX4_crackGlass_33 rfl ?_
      refine P_if_eq (tgt := 41) (pc := 34) dX4_crackGlass_34 (by decide) (fun c => ?_) (fun c => ?_)
      · have k := k.1 c
        refine P_iconst (v := (0 : Int32)) (pc := 41) dX4_crackGlass_41 (by decide) ?_
        refine P_iadd (pc := 42) dX4_crackGlass_42 ?_
        obtain ⟨n9, f9, e9, i9, k⟩ := k
        refine P_iast (pc := 43) dX4_crackGlass_43 e9 i9 ?_
        clear e9
        refine P_iload_n (pc := 44) dX4_crackGlass_44 rfl ?_
        exact R_ireturn (pc := 45) dX4_crackGlass_45 rfl rfl k
      · have k := k.2 c
        refine P_iconst (v := (1 : Int32)) (pc := 37) dX4_crackGlass_37 (by decide) ?_
        refine P_goto (tgt := 42) (pc := 38) dX4_crackGlass_38 (by decide) ?_
        refine P_iadd (pc := 42) dX4_crackGlass_42 ?_
        obtain ⟨n9, f9, e9, i9, k⟩ := k
        refine P_iast (pc := 43) dX4_crackGlass_43 e9 i9 ?_
        clear e9
        refine P_iload_n (pc := 44) dX4_crackGlass_44 rfl ?_
        exact R_ireturn (pc := 45) dX4_crackGlass_45 rfl rfl k
-- X4_setFerns setFerns(II)Z
theorem dX4_setFerns_0 : decode cX4_setFerns 0 = .ok (.aload_n 0, 1) := by decide +kernel
theorem dX4_setFerns_1 : decode cX4_setFerns 1 = .ok (.getfield 15, 3) := by decide +kernel
theorem dX4_setFerns_4 : decode cX4_setFerns 4 = .ok (.iload_n 1, 1) := by decide +kernel
theorem dX4_setFerns_5 : decode cX4_setFerns 5 = .ok (.iaload, 1) := by decide +kernel
theorem dX4_setFerns_6 : decode cX4_setFerns 6 = .ok (.iload_n 2, 1) := by decide +kernel
theorem dX4_setFerns_7 : decode cX4_setFerns 7 = .ok (.if_icmp .eq 7, 3) := by decide +kernel
theorem dX4_setFerns_10 : decode cX4_setFerns 10 = .ok (.iconst 1, 1) := by decide +kernel
theorem dX4_setFerns_11 : decode cX4_setFerns 11 = .ok (.goto 4, 3) := by decide +kernel
theorem dX4_setFerns_14 : decode cX4_setFerns 14 = .ok (.iconst 0, 1) := by decide +kernel
theorem dX4_setFerns_15 : decode cX4_setFerns 15 = .ok (.istore_n 3, 1) := by decide +kernel
theorem dX4_setFerns_16 : decode cX4_setFerns 16 = .ok (.aload_n 0, 1) := by decide +kernel
theorem dX4_setFerns_17 : decode cX4_setFerns 17 = .ok (.getfield 15, 3) := by decide +kernel
theorem dX4_setFerns_20 : decode cX4_setFerns 20 = .ok (.iload_n 1, 1) := by decide +kernel
theorem dX4_setFerns_21 : decode cX4_setFerns 21 = .ok (.iload_n 2, 1) := by decide +kernel
theorem dX4_setFerns_22 : decode cX4_setFerns 22 = .ok (.iastore, 1) := by decide +kernel
theorem dX4_setFerns_23 : decode cX4_setFerns 23 = .ok (.iload_n 3, 1) := by decide +kernel
theorem dX4_setFerns_24 : decode cX4_setFerns 24 = .ok (.ireturn, 1) := by decide +kernel
theorem r_X4_setFerns_0 {d rc rs : Nat} {Q : PO → PH → Prop} {h : PH} {l0 : Nat} {l1 : Int32} {l2 : Int32}
    (k : gA h (10401, l0) fun a1 => xI h a1 l1 fun x2 => br (x2 = l2) (gA h (10401, l0) fun a3 => yI h a3 l1 l2 fun h4 => Q (.inl (some (vI (0 : Int32)))) h4) (gA h (10401, l0) fun a5 => yI h a5 l1 l2 fun h6 => Q (.inl (some (vI (1 : Int32)))) h6)) :
    PW d M_X4_setFerns Q rc rs 0 [vR (400, l0), vI l1, vI l2, vU] [] h := by
  refine P_aload_n (pc := 0) dX4_setFerns_0 rfl ?_
  obtain ⟨a1, e9, k⟩ := k
  refine G4_1 (pc := 1) dX4_setFerns_1 l_X4_15 e9 ?_
  clear e9
  refine P_iload_n (pc := 4) dX4_setFerns_4 rfl ?_
  obtain ⟨n9, f9, e9, i9, k⟩ := k
  refine P_iald (pc := 5) dX4_setFerns_5 e9 i9 ?_
  clear e9
  generalize f9 (Int32.toNatClampNeg l1) = x2 at k ⊢
  refine P_iload_n (pc := 6) dX4_setFerns_6 rfl ?_
  refine P_icmp_eq (tgt := 14) (pc := 7) dX4_setFerns_7 (by decide) (fun c => ?_) (fun c => ?_)
  · have k := k.1 c
    refine P_iconst (v := (0 : Int32)) (pc := 14) dX4_setFerns_14 (by decide) ?_
    refine P_istore_n (pc := 15) dX4_setFerns_15 (by decide) (Or.inr (by intro z e9; cases e9)) rfl ?_
    refine P_aload_n (pc := 16) dX4_setFerns_16 rfl ?_
    obtain ⟨a3, e9, k⟩ := k
    refine G4_1 (pc := 17) dX4_setFerns_17 l_X4_15 e9 ?_
    clear e9
    refine P_iload_n (pc := 20) dX4_setFerns_20 rfl ?_
    refine P_iload_n (pc := 21) dX4_setFerns_21 rfl ?_
    obtain ⟨n9, f9, e9, i9, k⟩ := k
    refine P_iast (pc := 22) dX4_setFerns_22 e9 i9 ?_
    clear e9
    refine P_iload_n (pc := 23) dX4_setFerns_23 rfl ?_
    exact R_ireturn (pc := 24) dX4_setFerns_24 rfl rfl k
  · have k := k.2 c
    refine P_iconst (v := (1 : Int32)) (pc := 10) dX4_setFerns_10 (by decide) ?_
    refine P_goto (tgt := 15) (pc := 11) dX4_setFerns_11 (by decide) ?_
    refine P_istore_n (pc := 15) dX4_setFerns_15 (by decide) (Or.inr (by intro z e9; cases e9)) rfl ?_
    refine P_aload_n (pc := 16) dX4_setFerns_16 rfl ?_
    obtain ⟨a5, e9, k⟩ := k
    refine G4_1 (pc := 17) dX4_setFerns_17 l_X4_15 e9 ?_
    clear e9
    refine P_iload_n (pc := 20) dX4_setFerns_20 rfl ?_
    refine P_iload_n (pc := 21) dX4_setFerns_21 rfl ?_
    obtain ⟨n9, f9, e9, i9, k⟩ := k
    refine P_iast (pc := 22) dX4_setFerns_22 e9 i9 ?_
    clear e9
    refine P_iload_n (pc := 23) dX4_setFerns_23 rfl ?_
    exact R_ireturn (pc := 24) dX4_setFerns_24 rfl rfl k
-- X4_beginDawn beginDawn()Z
theorem dX4_beginDawn_0 : decode cX4_beginDawn 0 = .ok (.aload_n 0, 1) := by decide +kernel
theorem dX4_beginDawn_1 : decode cX4_beginDawn 1 = .ok (.getfield 33, 3) := by decide +kernel
theorem dX4_beginDawn_4 : decode cX4_beginDawn 4 = .ok (.iconst (-1), 1) := by decide +kernel
theorem dX4_beginDawn_5 : decode cX4_beginDawn 5 = .ok (.invokestatic 56, 3) := by decide +kernel
theorem dX4_beginDawn_8 : decode cX4_beginDawn 8 = .ok (.iconst 1, 1) := by decide +kernel
theorem dX4_beginDawn_9 : decode cX4_beginDawn 9 = .ok (.ireturn, 1) := by decide +kernel
theorem r_X4_beginDawn_0 {d rc rs : Nat} {Q : PO → PH → Prop} {h : PH} {l0 : Nat}
    (k : gA h (10407, l0) fun a1 => cl d rc rs M_J7_fill_53178 [vR a1, vI (-1 : Int32)] h (kV fun h2 rc3 rs4 => Q (.inl (some (vI (1 : Int32)))) h2) (fun E h2 rc3 rs4 => Q (.inr E) h2)) :
    PW d M_X4_beginDawn Q rc rs 0 [vR (400, l0)] [] h := by
  refine P_aload_n (pc := 0) dX4_beginDawn_0 rfl ?_
  obtain ⟨a1, e9, k⟩ := k
  refine G4_7 (pc := 1) dX4_beginDawn_1 l_X4_33 e9 ?_
  clear e9
  refine P_iconst (v := (-1 : Int32)) (pc := 4) dX4_beginDawn_4 (by decide) ?_
  obtain ⟨d2, nc, ns, rc3, rs4, Qc, g1, rfl, rfl, g2, kk, kx⟩ := k
  refine P_callS (As := [vR a1, vI (-1 : Int32)]) (st := []) (pc := 5) dX4_beginDawn_5 mk_J7_fill_53178 l_X4_56 st_J7_fill_53178 ini_J7 rfl g1 (Nat.le_of_ble_eq_true rfl) rfl g2 (fun v9 h9 q9 => ?_) (fun E h9 q9 => PX_out rfl (kx E h9 q9))
  obtain ⟨rfl, k⟩ := kk v9 h9 q9
  clear kk kx g1 g2 q9
  refine P_iconst (v := (1 : Int32)) (pc := 8) dX4_beginDawn_8 (by decide) ?_
  exact R_ireturn (pc := 9) dX4_beginDawn_9 rfl rfl k
-- X4_passHours passHours(ILFernHeirs$Court;LFernHeirs$Law;)V
theorem dX4_passHours_0 : decode cX4_passHours 0 = .ok (.iconst 0, 1) := by decide +kernel
theorem dX4_passHours_1 : decode cX4_passHours 1 = .ok (.istore 4, 2) := by decide +kernel
theorem dX4_passHours_3 : decode cX4_passHours 3 = .ok (.iload 4, 2) := by decide +kernel
theorem dX4_passHours_5 : decode cX4_passHours 5 = .ok (.iload_n 1, 1) := by decide +kernel
theorem dX4_passHours_6 : decode cX4_passHours 6 = .ok (.if_icmp .ge 17, 3) := by decide +kernel
theorem dX4_passHours_9 : decode cX4_passHours 9 = .ok (.aload_n 0, 1) := by decide +kernel
theorem dX4_passHours_10 : decode cX4_passHours 10 = .ok (.aload_n 2, 1) := by decide +kernel
theorem dX4_passHours_11 : decode cX4_passHours 11 = .ok (.aload_n 3, 1) := by decide +kernel
theorem dX4_passHours_12 : decode cX4_passHours 12 = .ok (.iconst 1, 1) := by decide +kernel
theorem dX4_passHours_13 : decode cX4_passHours 13 = .ok (.invokevirtual 96, 3) := by decide +kernel
theorem dX4_passHours_16 : decode cX4_passHours 16 = .ok (.pop, 1) := by decide +kernel
theorem dX4_passHours_17 : decode cX4_passHours 17 = .ok (.iinc 4 1, 3) := by decide +kernel
theorem dX4_passHours_20 : decode cX4_passHours 20 = .ok (.goto (-17), 3) := by decide +kernel
theorem dX4_passHours_23 : decode cX4_passHours 23 = .ok (.return_, 1) := by decide +kernel
theorem r_X4_passHours_0 {d rc rs : Nat} {Q : PO → PH → Prop} {h : PH} {l0 : Nat} {l1 : Int32} {l2 : Nat} {l3 : Nat}
    (k : PW d M_X4_passHours Q rc rs 3 [vR (400, l0), vI l1, vR (100, l2), vR (300, l3), vI (0 : Int32)] [] h) :
    PW d M_X4_passHours Q rc rs 0 [vR (400, l0), vI l1, vR (100, l2), vR (300, l3), vU] [] h := by
  refine P_iconst (v := (0 : Int32)) (pc := 0) dX4_passHours_0 (by decide) ?_
  refine P_istore (pc := 1) dX4_passHours_1 (by decide) (Or.inr (by intro z e9; cases e9)) rfl ?_
  exact k
theorem r_X4_passHours_3 {d rc rs : Nat} {Q : PO → PH → Prop} {h : PH} {l0 : Nat} {l1 : Int32} {l2 : Nat} {l3 : Nat} {l4 : Int32}
    (k : br (l4 < l1) (isO h 10400 l0 ∧ cl d rc rs M_X4_passHour [vR (400, l0), vR (100, l2), vR (300, l3), vI (1 : Int32)] h (kI fun x4 h1 rc2 rs3 => PW d M_X4_passHours Q rc2 rs3 3 [vR (400, l0), vI l1, vR (100, l2), vR (300, l3), vI (l4 + (1 : Int32))] [] h1) (fun E h1 rc2 rs3 => Q (.inr E) h1)) (Q (.inl none) h)) :
    PW d M_X4_passHours Q rc rs 3 [vR (400, l0), vI l1, vR (100, l2), vR (300, l3), vI l4] [] h := by
  refine P_iload (pc := 3) dX4_passHours_3 rfl ?_
  refine P_iload_n (pc := 5) dX4_passHours_5 rfl ?_
  refine P_icmp_ge (tgt := 23) (pc := 6) dX4_passHours_6 (by decide) (fun c => ?_) (fun c => ?_)
  · have k := k.2 (Int32.not_lt.mpr c)
    exact R_return (pc := 23) dX4_passHours_23 rfl k
  · have k := k.1 (Int32.not_le.mp c)
    refine P_aload_n (pc := 9) dX4_passHours_9 rfl ?_
    refine P_aload_n (pc := 10) dX4_passHours_10 rfl ?_
    refine P_aload_n (pc := 11) dX4_passHours_11 rfl ?_
    refine P_iconst (v := (1 : Int32)) (pc := 12) dX4_passHours_12 (by decide) ?_
    obtain ⟨⟨w9, e9⟩, d2, nc, ns, rc2, rs3, Qc, g1, rfl, rfl, g2, kk, kx⟩ := k
    refine P_callV (ci := 4) (k := 0) (id := l0) (q := (RX4, TX4, 10)) (As := [vR (100, l2), vR (300, l3), vI (1 : Int32)]) (st := []) (pc := 13) dX4_passHours_13 mk_X4_passHour l_X4_96 im_X4_passHour se_X4_passHour ini_X4 rfl g1 (Nat.le_of_ble_eq_true rfl) rfl rfl (by decide) e9 rfl g2 (fun v9 h9 q9 => ?_) (fun E h9 q9 => PX_out rfl (kx E h9 q9))
    obtain ⟨x4, rfl, k⟩ := kk v9 h9 q9
    clear kk kx g1 g2 q9
    refine P_pop (pc := 16) dX4_passHours_16 (fun _ => rfl) ?_
    refine P_iinc (v := l4 + (1 : Int32)) (pc := 17) dX4_passHours_17 (by decide) rfl rfl (Or.inr (by intro z e9; cases e9)) rfl ?_
    refine P_goto (tgt := 3) (pc := 20) dX4_passHours_20 (by decide) ?_
    exact k
-- X4_passHour passHour(LFernHeirs$Court;LFernHeirs$Law;Z)Z
theorem dX4_passHour_0 : decode cX4_passHour 0 = .ok (.iconst 0, 1) := by decide +kernel
theorem dX4_passHour_1 : decode cX4_passHour 1 = .ok (.istore 4, 2) := by decide +kernel
theorem dX4_passHour_3 : decode cX4_passHour 3 = .ok (.iload_n 3, 1) := by decide +kernel
theorem dX4_passHour_4 : decode cX4_passHour 4 = .ok (.ifCond .eq 62, 3) := by decide +kernel
theorem dX4_passHour_7 : decode cX4_passHour 7 = .ok (.iload 4, 2) := by decide +kernel
theorem dX4_passHour_9 : decode cX4_passHour 9 = .ok (.aload_n 1, 1) := by decide +kernel
theorem dX4_passHour_10 : decode cX4_passHour 10 = .ok (.getfield 110, 3) := by decide +kernel
theorem dX4_passHour_13 : decode cX4_passHour 13 = .ok (.if_icmp .ge 53, 3) := by decide +kernel
theorem dX4_passHour_16 : decode cX4_passHour 16 = .ok (.aload_n 1, 1) := by decide +kernel
theorem dX4_passHour_17 : decode cX4_passHour 17 = .ok (.getfield 113, 3) := by decide +kernel
theorem dX4_passHour_20 : decode cX4_passHour 20 = .ok (.iload 4, 2) := by decide +kernel
theorem dX4_passHour_22 : decode cX4_passHour 22 = .ok (.iaload, 1) := by decide +kernel
theorem dX4_passHour_23 : decode cX4_passHour 23 = .ok (.istore 5, 2) := by decide +kernel
theorem dX4_passHour_25 : decode cX4_passHour 25 = .ok (.aload_n 0, 1) := by decide +kernel
theorem dX4_passHour_26 : decode cX4_passHour 26 = .ok (.getfield 30, 3) := by decide +kernel
theorem dX4_passHour_29 : decode cX4_passHour 29 = .ok (.iload 5, 2) := by decide +kernel
theorem dX4_passHour_31 : decode cX4_passHour 31 = .ok (.iaload, 1) := by decide +kernel
theorem dX4_passHour_32 : decode cX4_passHour 32 = .ok (.iconst 1, 1) := by decide +kernel
theorem dX4_passHour_33 : decode cX4_passHour 33 = .ok (.if_icmp .ne 27, 3) := by decide +kernel
theorem dX4_passHour_36 : decode cX4_passHour 36 = .ok (.aload_n 1, 1) := by decide +kernel
theorem dX4_passHour_37 : decode cX4_passHour 37 = .ok (.iload 4, 2) := by decide +kernel
theorem dX4_passHour_39 : decode cX4_passHour 39 = .ok (.aload_n 0, 1) := by decide +kernel
theorem dX4_passHour_40 : decode cX4_passHour 40 = .ok (.getfield 39, 3) := by decide +kernel
theorem dX4_passHour_43 : decode cX4_passHour 43 = .ok (.invokevirtual 116, 3) := by decide +kernel
theorem dX4_passHour_46 : decode cX4_passHour 46 = .ok (.ifCond .ne 14, 3) := by decide +kernel
theorem dX4_passHour_49 : decode cX4_passHour 49 = .ok (.aload_n 0, 1) := by decide +kernel
theorem dX4_passHour_50 : decode cX4_passHour 50 = .ok (.getfield 27, 3) := by decide +kernel
theorem dX4_passHour_53 : decode cX4_passHour 53 = .ok (.iload 5, 2) := by decide +kernel
theorem dX4_passHour_55 : decode cX4_passHour 55 = .ok (.dup2, 1) := by decide +kernel
theorem dX4_passHour_56 : decode cX4_passHour 56 = .ok (.iaload, 1) := by decide +kernel
theorem dX4_passHour_57 : decode cX4_passHour 57 = .ok (.iconst 1, 1) := by decide +kernel
theorem dX4_passHour_58 : decode cX4_passHour 58 = .ok (.iadd, 1) := by decide +kernel
theorem dX4_passHour_59 : decode cX4_passHour 59 = .ok (.iastore, 1) := by decide +kernel
theorem dX4_passHour_60 : decode cX4_passHour 60 = .ok (.iinc 4 1, 3) := by decide +kernel
theorem dX4_passHour_63 : decode cX4_passHour 63 = .ok (.goto (-60), 3) := by decide +kernel
theorem dX4_passHour_66 : decode cX4_passHour 66 = .ok (.iconst 0, 1) := by decide +kernel
theorem dX4_passHour_67 : decode cX4_passHour 67 = .ok (.istore 4, 2) := by decide +kernel
theorem dX4_passHour_69 : decode cX4_passHour 69 = .ok (.iload 4, 2) := by decide +kernel
theorem dX4_passHour_71 : decode cX4_passHour 71 = .ok (.bipush 7, 2) := by decide +kernel
theorem dX4_passHour_73 : decode cX4_passHour 73 = .ok (.if_icmp .ge 159, 3) := by decide +kernel
theorem dX4_passHour_76 : decode cX4_passHour 76 = .ok (.aload_n 0, 1) := by decide +kernel
theorem dX4_passHour_77 : decode cX4_passHour 77 = .ok (.getfield 30, 3) := by decide +kernel
theorem dX4_passHour_80 : decode cX4_passHour 80 = .ok (.iload 4, 2) := by decide +kernel
theorem dX4_passHour_82 : decode cX4_passHour 82 = .ok (.iaload, 1) := by decide +kernel
theorem dX4_passHour_83 : decode cX4_passHour 83 = .ok (.iconst 1, 1) := by decide +kernel
theorem dX4_passHour_84 : decode cX4_passHour 84 = .ok (.if_icmp .ne 142, 3) := by decide +kernel
theorem dX4_passHour_87 : decode cX4_passHour 87 = .ok (.aload_n 0, 1) := by decide +kernel
theorem dX4_passHour_88 : decode cX4_passHour 88 = .ok (.getfield 18, 3) := by decide +kernel
theorem dX4_passHour_91 : decode cX4_passHour 91 = .ok (.iload 4, 2) := by decide +kernel
theorem dX4_passHour_93 : decode cX4_passHour 93 = .ok (.bipush 99, 2) := by decide +kernel
theorem dX4_passHour_95 : decode cX4_passHour 95 = .ok (.aload_n 0, 1) := by decide +kernel
theorem dX4_passHour_96 : decode cX4_passHour 96 = .ok (.getfield 18, 3) := by decide +kernel
theorem dX4_passHour_99 : decode cX4_passHour 99 = .ok (.iload 4, 2) := by decide +kernel
theorem dX4_passHour_101 : decode cX4_passHour 101 = .ok (.iaload, 1) := by decide +kernel
theorem dX4_passHour_102 : decode cX4_passHour 102 = .ok (.aload_n 0, 1) := by decide +kernel
theorem dX4_passHour_103 : decode cX4_passHour 103 = .ok (.iload 4, 2) := by decide +kernel
theorem dX4_passHour_105 : decode cX4_passHour 105 = .ok (.aload_n 1, 1) := by decide +kernel
theorem dX4_passHour_106 : decode cX4_passHour 106 = .ok (.getfield 119, 3) := by decide +kernel
theorem dX4_passHour_109 : decode cX4_passHour 109 = .ok (.aload_n 2, 1) := by decide +kernel
theorem dX4_passHour_110 : decode cX4_passHour 110 = .ok (.invokevirtual 122, 3) := by decide +kernel
theorem dX4_passHour_113 : decode cX4_passHour 113 = .ok (.iadd, 1) := by decide +kernel
theorem dX4_passHour_114 : decode cX4_passHour 114 = .ok (.invokestatic 104, 3) := by decide +kernel
theorem dX4_passHour_117 : decode cX4_passHour 117 = .ok (.iastore, 1) := by decide +kernel
theorem dX4_passHour_118 : decode cX4_passHour 118 = .ok (.aload_n 0, 1) := by decide +kernel
theorem dX4_passHour_119 : decode cX4_passHour 119 = .ok (.getfield 21, 3) := by decide +kernel
theorem dX4_passHour_122 : decode cX4_passHour 122 = .ok (.iload 4, 2) := by decide +kernel
theorem dX4_passHour_124 : decode cX4_passHour 124 = .ok (.iconst 0, 1) := by decide +kernel
theorem dX4_passHour_125 : decode cX4_passHour 125 = .ok (.bipush 99, 2) := by decide +kernel
theorem dX4_passHour_127 : decode cX4_passHour 127 = .ok (.aload_n 0, 1) := by decide +kernel
theorem dX4_passHour_128 : decode cX4_passHour 128 = .ok (.getfield 21, 3) := by decide +kernel
theorem dX4_passHour_131 : decode cX4_passHour 131 = .ok (.iload 4, 2) := by decide +kernel
theorem dX4_passHour_133 : decode cX4_passHour 133 = .ok (.iaload, 1) := by decide +kernel
theorem dX4_passHour_134 : decode cX4_passHour 134 = .ok (.aload_n 0, 1) := by decide +kernel
theorem dX4_passHour_135 : decode cX4_passHour 135 = .ok (.getfield 9, 3) := by decide +kernel
theorem dX4_passHour_138 : decode cX4_passHour 138 = .ok (.iload 4, 2) := by decide +kernel
theorem dX4_passHour_140 : decode cX4_passHour 140 = .ok (.iaload, 1) := by decide +kernel
theorem dX4_passHour_141 : decode cX4_passHour 141 = .ok (.isub, 1) := by decide +kernel
theorem dX4_passHour_142 : decode cX4_passHour 142 = .ok (.aload_n 0, 1) := by decide +kernel
theorem dX4_passHour_143 : decode cX4_passHour 143 = .ok (.getfield 15, 3) := by decide +kernel
theorem dX4_passHour_146 : decode cX4_passHour 146 = .ok (.iload 4, 2) := by decide +kernel
theorem dX4_passHour_148 : decode cX4_passHour 148 = .ok (.iaload, 1) := by decide +kernel
theorem dX4_passHour_149 : decode cX4_passHour 149 = .ok (.iadd, 1) := by decide +kernel
theorem dX4_passHour_150 : decode cX4_passHour 150 = .ok (.invokestatic 104, 3) := by decide +kernel
theorem dX4_passHour_153 : decode cX4_passHour 153 = .ok (.invokestatic 126, 3) := by decide +kernel
theorem dX4_passHour_156 : decode cX4_passHour 156 = .ok (.iastore, 1) := by decide +kernel
theorem dX4_passHour_157 : decode cX4_passHour 157 = .ok (.aload_n 0, 1) := by decide +kernel
theorem dX4_passHour_158 : decode cX4_passHour 158 = .ok (.getfield 36, 3) := by decide +kernel
theorem dX4_passHour_161 : decode cX4_passHour 161 = .ok (.iload 4, 2) := by decide +kernel
theorem dX4_passHour_163 : decode cX4_passHour 163 = .ok (.dup2, 1) := by decide +kernel
theorem dX4_passHour_164 : decode cX4_passHour 164 = .ok (.iaload, 1) := by decide +kernel
theorem dX4_passHour_165 : decode cX4_passHour 165 = .ok (.aload_n 0, 1) := by decide +kernel
theorem dX4_passHour_166 : decode cX4_passHour 166 = .ok (.getfield 21, 3) := by decide +kernel
theorem dX4_passHour_169 : decode cX4_passHour 169 = .ok (.iload 4, 2) := by decide +kernel
theorem dX4_passHour_171 : decode cX4_passHour 171 = .ok (.iaload, 1) := by decide +kernel
theorem dX4_passHour_172 : decode cX4_passHour 172 = .ok (.ifCond .ne 7, 3) := by decide +kernel
theorem dX4_passHour_175 : decode cX4_passHour 175 = .ok (.iconst 1, 1) := by decide +kernel
theorem dX4_passHour_176 : decode cX4_passHour 176 = .ok (.goto 4, 3) := by decide +kernel
theorem dX4_passHour_179 : decode cX4_passHour 179 = .ok (.iconst 0, 1) := by decide +kernel
theorem dX4_passHour_180 : decode cX4_passHour 180 = .ok (.iadd, 1) := by decide +kernel
theorem dX4_passHour_181 : decode cX4_passHour 181 = .ok (.iastore, 1) := by decide +kernel
theorem dX4_passHour_182 : decode cX4_passHour 182 = .ok (.aload_n 0, 1) := by decide +kernel
theorem dX4_passHour_183 : decode cX4_passHour 183 = .ok (.getfield 33, 3) := by decide +kernel
theorem dX4_passHour_186 : decode cX4_passHour 186 = .ok (.iload 4, 2) := by decide +kernel
theorem dX4_passHour_188 : decode cX4_passHour 188 = .ok (.aload_n 0, 1) := by decide +kernel
theorem dX4_passHour_189 : decode cX4_passHour 189 = .ok (.getfield 18, 3) := by decide +kernel
theorem dX4_passHour_192 : decode cX4_passHour 192 = .ok (.iload 4, 2) := by decide +kernel
theorem dX4_passHour_194 : decode cX4_passHour 194 = .ok (.iaload, 1) := by decide +kernel
theorem dX4_passHour_195 : decode cX4_passHour 195 = .ok (.bipush 50, 2) := by decide +kernel
theorem dX4_passHour_197 : decode cX4_passHour 197 = .ok (.if_icmp .lt 21, 3) := by decide +kernel
theorem dX4_passHour_200 : decode cX4_passHour 200 = .ok (.aload_n 0, 1) := by decide +kernel
theorem dX4_passHour_201 : decode cX4_passHour 201 = .ok (.getfield 33, 3) := by decide +kernel
theorem dX4_passHour_204 : decode cX4_passHour 204 = .ok (.iload 4, 2) := by decide +kernel
theorem dX4_passHour_206 : decode cX4_passHour 206 = .ok (.iaload, 1) := by decide +kernel
theorem dX4_passHour_207 : decode cX4_passHour 207 = .ok (.iconst (-1), 1) := by decide +kernel
theorem dX4_passHour_208 : decode cX4_passHour 208 = .ok (.if_icmp .ne 10, 3) := by decide +kernel
theorem dX4_passHour_211 : decode cX4_passHour 211 = .ok (.aload_n 0, 1) := by decide +kernel
theorem dX4_passHour_212 : decode cX4_passHour 212 = .ok (.getfield 39, 3) := by decide +kernel
theorem dX4_passHour_215 : decode cX4_passHour 215 = .ok (.goto 10, 3) := by decide +kernel
theorem dX4_passHour_218 : decode cX4_passHour 218 = .ok (.aload_n 0, 1) := by decide +kernel
theorem dX4_passHour_219 : decode cX4_passHour 219 = .ok (.getfield 33, 3) := by decide +kernel
theorem dX4_passHour_222 : decode cX4_passHour 222 = .ok (.iload 4, 2) := by decide +kernel
theorem dX4_passHour_224 : decode cX4_passHour 224 = .ok (.iaload, 1) := by decide +kernel
theorem dX4_passHour_225 : decode cX4_passHour 225 = .ok (.iastore, 1) := by decide +kernel
theorem dX4_passHour_226 : decode cX4_passHour 226 = .ok (.iinc 4 1, 3) := by decide +kernel
theorem dX4_passHour_229 : decode cX4_passHour 229 = .ok (.goto (-160), 3) := by decide +kernel
theorem dX4_passHour_232 : decode cX4_passHour 232 = .ok (.aload_n 0, 1) := by decide +kernel
theorem dX4_passHour_233 : decode cX4_passHour 233 = .ok (.getfield 27, 3) := by decide +kernel
theorem dX4_passHour_236 : decode cX4_passHour 236 = .ok (.iconst 0, 1) := by decide +kernel
theorem dX4_passHour_237 : decode cX4_passHour 237 = .ok (.invokestatic 56, 3) := by decide +kernel
theorem dX4_passHour_240 : decode cX4_passHour 240 = .ok (.aload_n 0, 1) := by decide +kernel
theorem dX4_passHour_241 : decode cX4_passHour 241 = .ok (.dup, 1) := by decide +kernel
theorem dX4_passHour_242 : decode cX4_passHour 242 = .ok (.getfield 39, 3) := by decide +kernel
theorem dX4_passHour_245 : decode cX4_passHour 245 = .ok (.iconst 1, 1) := by decide +kernel
theorem dX4_passHour_246 : decode cX4_passHour 246 = .ok (.iadd, 1) := by decide +kernel
theorem dX4_passHour_247 : decode cX4_passHour 247 = .ok (.putfield 39, 3) := by decide +kernel
theorem dX4_passHour_250 : decode cX4_passHour 250 = .ok (.iconst 1, 1) := by decide +kernel
theorem dX4_passHour_251 : decode cX4_passHour 251 = .ok (.ireturn, 1) := by decide +kernel
theorem r_X4_passHour_0 {d rc rs : Nat} {Q : PO → PH → Prop} {h : PH} {l0 : Nat} {l1 : Nat} {l2 : Nat} {l3 : Int32}
    (k : PW d M_X4_passHour Q rc rs 3 [vR (400, l0), vR (100, l1), vR (300, l2), vI l3, vI (0 : Int32), vU] [] h) :
    PW d M_X4_passHour Q rc rs 0 [vR (400, l0), vR (100, l1), vR (300, l2), vI l3, vU, vU] [] h := by
  refine P_iconst (v := (0 : Int32)) (pc := 0) dX4_passHour_0 (by decide) ?_
  refine P_istore (pc := 1) dX4_passHour_1 (by decide) (Or.inr (by intro z e9; cases e9)) rfl ?_
  exact k
theorem r_X4_passHour_3 {d rc rs : Nat} {Q : PO → PH → Prop} {h : PH} {l0 : Nat} {l1 : Nat} {l2 : Nat} {l3 : Int32} {l4 : Int32}
    (k : br (l3 = 0) (PW d M_X4_passHour Q rc rs 69 [vR (400, l0), vR (100, l1), vR (300, l2), vU, vI (0 : Int32), vU] [] h) (gI h (10109, l1) fun x1 => br (l4 < x1) (gA h (10105, l1) fun a2 => xI h a2 l4 fun x3 => gA h (10406, l0) fun a4 => xI h a4 x3 fun x5 => br (x5 = (1 : Int32)) (gI h (10409, l0) fun x6 => isO h 10100 l1 ∧ cl d rc rs M_X1_nextCough [vR (100, l1), vI l4, vI x6] h (kI fun x10 h7 rc8 rs9 => br (x10 = 0) (gA h7 (10405, l0) fun a11 => xI h7 a11 x3 fun x12 => yI h7 a11 x3 (x12 + (1 : Int32)) fun h13 => PW d M_X4_passHour Q rc8 rs9 3 [vR (400, l0), vR (100, l1), vR (300, l2), vI l3, vI (l4 + (1 : Int32)), vU] [] h13) (PW d M_X4_passHour Q rc8 rs9 3 [vR (400, l0), vR (100, l1), vR (300, l2), vI l3, vI (l4 + (1 : Int32)), vU] [] h7)) (fun E h7 rc8 rs9 => Q (.inr E) h7)) (PW d M_X4_passHour Q rc rs 3 [vR (400, l0), vR (100, l1), vR (300, l2), vI l3, vI (l4 + (1 : Int32)), vU] [] h)) (PW d M_X4_passHour Q rc rs 69 [vR (400, l0), vR (100, l1), vR (300, l2), vU, vI (0 : Int32), vU] [] h))) :
    PW d M_X4_passHour Q rc rs 3 [vR (400, l0), vR (100, l1), vR (300, l2), vI l3, vI l4, vU] [] h := by
  refine P_iload_n (pc := 3) dX4_passHour_3 rfl ?_
  refine P_if_eq (tgt := 66) (pc := 4) dX4_passHour_4 (by decide) (fun c => ?_) (fun c => ?_)
  · have k := k.1 c
    refine P_iconst (v := (0 : Int32)) (pc := 66) dX4_passHour_66 (by decide) ?_
    refine P_istore (pc := 67) dX4_passHour_67 (by decide) (Or.inr (by intro z e9; cases e9)) rfl ?_
    exact P_drop (ls2 := [vR (400, l0), vR (100, l1), vR (300, l2), vU, vI (0 : Int32), vU]) (ls := [vR (400, l0), vR (100, l1), vR (300, l2), vI l3, vI (0 : Int32), vU]) ⟨Or.inr rfl, ⟨Or.inr rfl, ⟨Or.inr rfl, ⟨Or.inl rfl, ⟨Or.inr rfl, ⟨Or.inr rfl, trivial⟩⟩⟩⟩⟩⟩ k
  · have k := k.2 c
    refine P_iload (pc := 7) dX4_passHour_7 rfl ?_
    refine P_aload_n (pc := 9) dX4_passHour_9 rfl ?_
    obtain ⟨x1, e9, k⟩ := k
    refine GN1_9 (pc := 10) dX4_passHour_10 n_X4_110 e9 ?_
    clear e9
    refine P_icmp_ge (tgt := 66) (pc := 13) dX4_passHour_13 (by decide) (fun c => ?_) (fun c => ?_)
    · have k := k.2 (Int32.not_lt.mpr c)
      refine P_iconst (v := (0 : Int32)) (pc := 66) dX4_passHour_66 (by decide) ?_
      refine P_istore (pc := 67) dX4_passHour_67 (by decide) (Or.inr (by intro z e9; cases e9)) rfl ?_
      exact P_drop (ls2 := [vR (400, l0), vR (100, l1), vR (300, l2), vU, vI (0 : Int32), vU]) (ls := [vR (400, l0), vR (100, l1), vR (300, l2), vI l3, vI (0 : Int32), vU]) ⟨Or.inr rfl, ⟨Or.inr rfl, ⟨Or.inr rfl, ⟨Or.inl rfl, ⟨Or.inr rfl, ⟨Or.inr rfl, trivial⟩⟩⟩⟩⟩⟩ k
    · have k := k.1 (Int32.not_le.mp c)
      refine P_aload_n (pc := 16) dX4_passHour_16 rfl ?_
      obtain ⟨a2, e9, k⟩ := k
      refine GN1_5 (pc := 17) dX4_passHour_17 n_X4_113 e9 ?_
      clear e9
      refine P_iload (pc := 20) dX4_passHour_20 rfl ?_
      obtain ⟨n9, f9, e9, i9, k⟩ := k
      refine P_iald (pc := 22) dX4_passHour_22 e9 i9 ?_
      clear e9
      generalize f9 (Int32.toNatClampNeg l4) = x3 at k ⊢
      refine P_istore (pc := 23) dX4_passHour_23 (by decide) (Or.inr (by intro z e9; cases e9)) rfl ?_
      refine P_aload_n (pc := 25) dX4_passHour_25 rfl ?_
      obtain ⟨a4, e9, k⟩ := k
      refine G4_6 (pc := 26) dX4_passHour_26 l_X4_30 e9 ?_
      clear e9
      refine P_iload (pc := 29) dX4_passHour_29 rfl ?_
      obtain ⟨n9, f9, e9, i9, k⟩ := k
      refine P_iald (pc := 31) dX4_passHour_31 e9 i9 ?_
      clear e9
      generalize f9 (Int32.toNatClampNeg x3) = x5 at k ⊢
      refine P_iconst (v := (1 : Int32)) (pc := 32) dX4_passHour_32 (by decide) ?_
      refine P_icmp_ne (tgt := 60) (pc := 33) dX4_passHour_33 (by decide) (fun c => ?_) (fun c => ?_)
      · have k := k.2 c
        refine P_iinc (v := l4 + (1 : Int32)) (pc := 60) dX4_passHour_60 (by decide) rfl rfl (Or.inr (by intro z e9; cases e9)) rfl ?_
        refine P_goto (tgt := 3) (pc := 63) dX4_passHour_63 (by decide) ?_
        exact P_drop (ls2 := [vR (400, l0), vR (100, l1), vR (300, l2), vI l3, vI (l4 + (1 : Int32)), vU]) (ls := [vR (400, l0), vR (100, l1), vR (300, l2), vI l3, vI (l4 + (1 : Int32)), vI x3]) ⟨Or.inr rfl, ⟨Or.inr rfl, ⟨Or.inr rfl, ⟨Or.inr rfl, ⟨Or.inr rfl, ⟨Or.inl rfl, trivial⟩⟩⟩⟩⟩⟩ k
      · have k := k.1 c
        refine P_aload_n (pc := 36) dX4_passHour_36 rfl ?_
        refine P_iload (pc := 37) dX4_passHour_37 rfl ?_
        refine P_aload_n (pc := 39) dX4_passHour_39 rfl ?_
        obtain ⟨x6, e9, k⟩ := k
        refine G4_9 (pc := 40) dX4_passHour_40 l_X4_39 e9 ?_
        clear e9
        obtain ⟨⟨w9, e9⟩, d2, nc, ns, rc8, rs9, Qc, g1, rfl, rfl, g2, kk, kx⟩ := k
        refine P_callV (ci := 1) (k := 0) (id := l1) (q := (RX1, TX1, 11)) (As := [vI l4, vI x6]) (st := []) (pc := 43) dX4_passHour_43 mk_X1_nextCough l_X4_116 im_X1_nextCough se_X1_nextCough ini_X1 rfl g1 (Nat.le_of_ble_eq_true rfl) rfl rfl (by decide) e9 rfl g2 (fun v9 h9 q9 => ?_) (fun E h9 q9 => PX_out rfl (kx E h9 q9))
        obtain ⟨x10, rfl, k⟩ := kk v9 h9 q9
        clear kk kx g1 g2 q9
        refine P_if_ne (tgt := 60) (pc := 46) dX4_passHour_46 (by decide) (fun c => ?_) (fun c => ?_)
        · have k := k.2 c
          refine P_iinc (v := l4 + (1 : Int32)) (pc := 60) dX4_passHour_60 (by decide) rfl rfl (Or.inr (by intro z e9; cases e9)) rfl ?_
          refine P_goto (tgt := 3) (pc := 63) dX4_passHour_63 (by decide) ?_
          exact P_drop (ls2 := [vR (400, l0), vR (100, l1), vR (300, l2), vI l3, vI (l4 + (1 : Int32)), vU]) (ls := [vR (400, l0), vR (100, l1), vR (300, l2), vI l3, vI (l4 + (1 : Int32)), vI x3]) ⟨Or.inr rfl, ⟨Or.inr rfl, ⟨Or.inr rfl, ⟨Or.inr rfl, ⟨Or.inr rfl, ⟨Or.inl rfl, trivial⟩⟩⟩⟩⟩⟩ k
        · have k := k.1 c
          refine P_aload_n (pc := 49) dX4_passHour_49 rfl ?_
          obtain ⟨a11, e9, k⟩ := k
          refine G4_5 (pc := 50) dX4_passHour_50 l_X4_27 e9 ?_
          clear e9
          refine P_iload (pc := 53) dX4_passHour_53 rfl ?_
          refine P_dup2 (pc := 55) dX4_passHour_55 (fun _ => rfl) (fun _ => rfl) ?_
          obtain ⟨n9, f9, e9, i9, k⟩ := k
          refine P_iald (pc := 56) dX4_passHour_56 e9 i9 ?_
          clear e9
          generalize f9 (Int32.toNatClampNeg x3) = x12 at k ⊢
          refine P_iconst (v := (1 : Int32)) (pc := 57) dX4_passHour_57 (by decide) ?_
          refine P_iadd (pc := 58) dX4_passHour_58 ?_
          obtain ⟨n9, f9, e9, i9, k⟩ := k
          refine P_iast (pc := 59) dX4_passHour_59 e9 i9 ?_
          clear e9
          refine P_iinc (v := l4 + (1 : Int32)) (pc := 60) dX4_passHour_60 (by decide) rfl rfl (Or.inr (by intro z e9; cases e9)) rfl ?_
          refine P_goto (tgt := 3) (pc := 63) dX4_passHour_63 (by decide) ?_
          exact P_drop (ls2 := [vR (400, l0), vR (100, l1), vR (300, l2), vI l3, vI (l4 + (1 : Int32)), vU]) (ls := [vR (400, l0), vR (100, l1), vR (300, l2), vI l3, vI (l4 + (1 : Int32)), vI x3]) ⟨Or.inr rfl, ⟨Or.inr rfl, ⟨Or.inr rfl, ⟨Or.inr rfl, ⟨Or.inr rfl, ⟨Or.inl rfl, trivial⟩⟩⟩⟩⟩⟩ k
theorem r_X4_passHour_69 {d rc rs : Nat} {Q : PO → PH → Prop} {h : PH} {l0 : Nat} {l1 : Nat} {l2 : Nat} {l4 : Int32}
    (k : br (l4 < (7 : Int32)) (gA h (10406, l0) fun a7 => xI h a7 l4 fun x8 => br (x8 = (1 : Int32)) (gA h (10402, l0) fun a9 => gA h (10402, l0) fun a10 => xI h a10 l4 fun x11 => gI h (10110, l1) fun x12 => isO h 10400 l0 ∧ cl d rc rs M_X4_comesOn [vR (400, l0), vI l4, vI x12, vR (300, l2)] h (kI fun x16 h13 rc14 rs15 => cl d rc14 rs15 M_J9_min_7cf53 [vI (99 : Int32), vI (x11 + x16)] h13 (kI fun x20 h17 rc18 rs19 => yI h17 a9 l4 x20 fun h21 => gA h21 (10403, l0) fun a22 => gA h21 (10403, l0) fun a23 => xI h21 a23 l4 fun x24 => gA h21 (10400, l0) fun a25 => xI h21 a25 l4 fun x26 => gA h21 (10401, l0) fun a27 => xI h21 a27 l4 fun x28 => cl d rc18 rs19 M_J9_min_7cf53 [vI (99 : Int32), vI ((x24 - x26) + x28)] h21 (kI fun x32 h29 rc30 rs31 => cl d rc30 rs31 M_J9_max_7cf53 [vI (0 : Int32), vI x32] h29 (kI fun x36 h33 rc34 rs35 => yI h33 a22 l4 x36 fun h37 => gA h37 (10408, l0) fun a38 => xI h37 a38 l4 fun x39 => gA h37 (10403, l0) fun a40 => xI h37 a40 l4 fun x41 => br (x41 = 0) (PW d M_X4_passHour Q rc34 rs35 180 [vR (400, l0), vR (100, l1), vR (300, l2), vU, vI l4, vU] [vI (1 : Int32), vI x39, vI l4, vR a38] h37) (PW d M_X4_passHour Q rc34 rs35 180 [vR (400, l0), vR (100, l1), vR (300, l2), vU, vI l4, vU] [vI (0 : Int32), vI x39, vI l4, vR a38] h37)) (fun E h33 rc34 rs35 => Q (.inr E) h33)) (fun E h29 rc30 rs31 => Q (.inr E) h29)) (fun E h17 rc18 rs19 => Q (.inr E) h17)) (fun E h13 rc14 rs15 => Q (.inr E) h13)) (PW d M_X4_passHour Q rc rs 69 [vR (400, l0), vR (100, l1), vR (300, l2), vU, vI (l4 + (1 : Int32)), vU] [] h)) (gA h (10405, l0) fun a1 => cl d rc rs M_J7_fill_53178 [vR a1, vI (0 : Int32)] h (kV fun h2 rc3 rs4 => gI h2 (10409, l0) fun x5 => sF h2 (10409, l0) (vI (x5 + (1 : Int32))) fun h6 => Q (.inl (some (vI (1 : Int32)))) h6) (fun E h2 rc3 rs4 => Q (.inr E) h2))) :
    PW d M_X4_passHour Q rc rs 69 [vR (400, l0), vR (100, l1), vR (300, l2), vU, vI l4, vU] [] h := by
  refine P_iload (pc := 69) dX4_passHour_69 rfl ?_
  refine P_bipush (v := (7 : Int32)) (pc := 71) dX4_passHour_71 (by decide) ?_
  refine P_icmp_ge (tgt := 232) (pc := 73) dX4_passHour_73 (by decide) (fun c => ?_) (fun c => ?_)
  · have k := k.2 (Int32.not_lt.mpr c)
    refine P_aload_n (pc := 232) dX4_passHour_232 rfl ?_
    obtain ⟨a1, e9, k⟩ := k
    refine G4_5 (pc := 233) dX4_passHour_233 l_X4_27 e9 ?_
    clear e9
    refine P_iconst (v := (0 : Int32)) (pc := 236) dX4_passHour_236 (by decide) ?_
    obtain ⟨d2, nc, ns, rc3, rs4, Qc, g1, rfl, rfl, g2, kk, kx⟩ := k
    refine P_callS (As := [vR a1, vI (0 : Int32)]) (st := []) (pc := 237) dX4_passHour_237 mk_J7_fill_53178 l_X4_56 st_J7_fill_53178 ini_J7 rfl g1 (Nat.le_of_ble_eq_true rfl) rfl g2 (fun v9 h9 q9 => ?_) (fun E h9 q9 => PX_out rfl (kx E h9 q9))
    obtain ⟨rfl, k⟩ := kk v9 h9 q9
    clear kk kx g1 g2 q9
    refine P_aload_n (pc := 240) dX4_passHour_240 rfl ?_
    refine P_dup (pc := 241) dX4_passHour_241 (fun _ => rfl) ?_
    obtain ⟨x5, e9, k⟩ := k
    refine G4_9 (pc := 242) dX4_passHour_242 l_X4_39 e9 ?_
    clear e9
    refine P_iconst (v := (1 : Int32)) (pc := 245) dX4_passHour_245 (by decide) ?_
    refine P_iadd (pc := 246) dX4_passHour_246 ?_
    obtain ⟨⟨v9, e9⟩, k⟩ := k
    refine S4_9 (pc := 247) dX4_passHour_247 l_X4_39 e9 ?_
    clear e9
    refine P_iconst (v := (1 : Int32)) (pc := 250) dX4_passHour_250 (by decide) ?_
    exact R_ireturn (pc := 251) dX4_passHour_251 rfl rfl k
  · have k := k.1 (Int32.not_le.mp c)
    refine P_aload_n (pc := 76) dX4_passHour_76 rfl ?_
    obtain ⟨a7, e9, k⟩ := k
    refine G4_6 (pc := 77) dX4_passHour_77 l_X4_30 e9 ?_
    clear e9
    refine P_iload (pc := 80) dX4_passHour_80 rfl ?_
    obtain ⟨n9, f9, e9, i9, k⟩ := k
    refine P_iald (pc := 82) dX4_passHour_82 e9 i9 ?_
    clear e9
    generalize f9 (Int32.toNatClampNeg l4) = x8 at k ⊢
    refine P_iconst (v := (1 : Int32)) (pc := 83) dX4_passHour_83 (by decide) ?_
    refine P_icmp_ne (tgt := 226) (pc := 84) dX4_passHour_84 (by decide) (fun c => ?_) (fun c => ?_)
    · have k := k.2 c
      refine P_iinc (v := l4 + (1 : Int32)) (pc := 226) dX4_passHour_226 (by decide) rfl rfl (Or.inr (by intro z e9; cases e9)) rfl ?_
      refine P_goto (tgt := 69) (pc := 229) dX4_passHour_229 (by decide) ?_
      exact k
    · have k := k.1 c
      refine P_aload_n (pc := 87) dX4_passHour_87 rfl ?_
      obtain ⟨a9, e9, k⟩ := k
      refine G4_2 (pc := 88) dX4_passHour_88 l_X4_18 e9 ?_
      clear e9
      refine P_iload (pc := 91) dX4_passHour_91 rfl ?_
      refine P_bipush (v := (99 : Int32)) (pc := 93) dX4_passHour_93 (by decide) ?_
      refine P_aload_n (pc := 95) dX4_passHour_95 rfl ?_
      obtain ⟨a10, e9, k⟩ := k
      refine G4_2 (pc := 96) dX4_passHour_96 l_X4_18 e9 ?_
      clear e9
      refine P_iload (pc := 99) dX4_passHour_99 rfl ?_
      obtain ⟨n9, f9, e9, i9, k⟩ := k
      refine P_iald (pc := 101) dX4_passHour_101 e9 i9 ?_
      clear e9
      generalize f9 (Int32.toNatClampNeg l4) = x11 at k ⊢
      refine P_aload_n (pc := 102) dX4_passHour_102 rfl ?_
      refine P_iload (pc := 103) dX4_passHour_103 rfl ?_
      refine P_aload_n (pc := 105) dX4_passHour_105 rfl ?_
      obtain ⟨x12, e9, k⟩ := k
      refine GN1_10 (pc := 106) dX4_passHour_106 n_X4_119 e9 ?_
      clear e9
      refine P_aload_n (pc := 109) dX4_passHour_109 rfl ?_
      obtain ⟨⟨w9, e9⟩, d2, nc, ns, rc14, rs15, Qc, g1, rfl, rfl, g2, kk, kx⟩ := k
      refine P_callV (ci := 4) (k := 0) (id := l0) (q := (RX4, TX4, 10)) (As := [vI l4, vI x12, vR (300, l2)]) (st := [vI x11, vI (99 : Int32), vI l4, vR a9]) (pc := 110) dX4_passHour_110 mk_X4_comesOn l_X4_122 im_X4_comesOn se_X4_comesOn ini_X4 rfl g1 (Nat.le_of_ble_eq_true rfl) rfl rfl (by decide) e9 rfl g2 (fun v9 h9 q9 => ?_) (fun E h9 q9 => PX_out rfl (kx E h9 q9))
      obtain ⟨x16, rfl, k⟩ := kk v9 h9 q9
      clear kk kx g1 g2 q9
      refine P_iadd (pc := 113) dX4_passHour_113 ?_
      obtain ⟨d2, nc, ns, rc18, rs19, Qc, g1, rfl, rfl, g2, kk, kx⟩ := k
      refine P_callS (As := [vI (99 : Int32), vI (x11 + x16)]) (st := [vI l4, vR a9]) (pc := 114) dX4_passHour_114 mk_J9_min_7cf53 l_X4_104 st_J9_min_7cf53 ini_J9 rfl g1 (Nat.le_of_ble_eq_true rfl) rfl g2 (fun v9 h9 q9 => ?_) (fun E h9 q9 => PX_out rfl (kx E h9 q9))
      obtain ⟨x20, rfl, k⟩ := kk v9 h9 q9
      clear kk kx g1 g2 q9
      obtain ⟨n9, f9, e9, i9, k⟩ := k
      refine P_iast (pc := 117) dX4_passHour_117 e9 i9 ?_
      clear e9
      refine P_aload_n (pc := 118) dX4_passHour_118 rfl ?_
      obtain ⟨a22, e9, k⟩ := k
      refine G4_3 (pc := 119) dX4_passHour_119 l_X4_21 e9 ?_
      clear e9
      refine P_iload (pc := 122) dX4_passHour_122 rfl ?_
      refine P_iconst (v := (0 : Int32)) (pc := 124) dX4_passHour_124 (by decide) ?_
      refine P_bipush (v := (99 : Int32)) (pc := 125) dX4_passHour_125 (by decide) ?_
      refine P_aload_n (pc := 127) dX4_passHour_127 rfl ?_
      obtain ⟨a23, e9, k⟩ := k
      refine G4_3 (pc := 128) dX4_passHour_128 l_X4_21 e9 ?_
      clear e9
      refine P_iload (pc := 131) dX4_passHour_131 rfl ?_
      obtain ⟨n9, f9, e9, i9, k⟩ := k
      refine P_iald (pc := 133) dX4_passHour_133 e9 i9 ?_
      clear e9
      generalize f9 (Int32.toNatClampNeg l4) = x24 at k ⊢
      refine P_aload_n (pc := 134) dX4_passHour_134 rfl ?_
      obtain ⟨a25, e9, k⟩ := k
      refine G4_0 (pc := 135) dX4_passHour_135 l_X4_9 e9 ?_
      clear e9
      refine P_iload (pc := 138) dX4_passHour_138 rfl ?_
      obtain ⟨n9, f9, e9, i9, k⟩ := k
      refine P_iald (pc := 140) dX4_passHour_140 e9 i9 ?_
      clear e9
      generalize f9 (Int32.toNatClampNeg l4) = x26 at k ⊢
      refine P_isub (pc := 141) dX4_passHour_141 ?_
      refine P_aload_n (pc := 142) dX4_passHour_142 rfl ?_
      obtain ⟨a27, e9, k⟩ := k
      refine G4_1 (pc := 143) dX4_passHour_143 l_X4_15 e9 ?_
      clear e9
      refine P_iload (pc := 146) dX4_passHour_146 rfl ?_
      obtain ⟨n9, f9, e9, i9, k⟩ := k
      refine P_iald (pc := 148) dX4_passHour_148 e9 i9 ?_
      clear e9
      generalize f9 (Int32.toNatClampNeg l4) = x28 at k ⊢
      refine P_iadd (pc := 149) dX4_passHour_149 ?_
      obtain ⟨d2, nc, ns, rc30, rs31, Qc, g1, rfl, rfl, g2, kk, kx⟩ := k
      refine P_callS (As := [vI (99 : Int32), vI ((x24 - x26) + x28)]) (st := [vI (0 : Int32), vI l4, vR a22]) (pc := 150) dX4_passHour_150 mk_J9_min_7cf53 l_X4_104 st_J9_min_7cf53 ini_J9 rfl g1 (Nat.le_of_ble_eq_true rfl) rfl g2 (fun v9 h9 q9 => ?_) (fun E h9 q9 => PX_out rfl (kx E h9 q9))
      obtain ⟨x32, rfl, k⟩ := kk v9 h9 q9
      clear kk kx g1 g2 q9
      obtain ⟨d2, nc, ns, rc34, rs35, Qc, g1, rfl, rfl, g2, kk, kx⟩ := k
      refine P_callS (As := [vI (0 : Int32), vI x32]) (st := [vI l4, vR a22]) (pc := 153) dX4_passHour_153 mk_J9_max_7cf53 l_X4_126 st_J9_max_7cf53 ini_J9 rfl g1 (Nat.le_of_ble_eq_true rfl) rfl g2 (fun v9 h9 q9 => ?_) (fun E h9 q9 => PX_out rfl (kx E h9 q9))
      obtain ⟨x36, rfl, k⟩ := kk v9 h9 q9
      clear kk kx g1 g2 q9
      obtain ⟨n9, f9, e9, i9, k⟩ := k
      refine P_iast (pc := 156) dX4_passHour_156 e9 i9 ?_
      clear e9
      refine P_aload_n (pc := 157) dX4_passHour_157 rfl ?_
      obtain ⟨a38, e9, k⟩ := k
      refine G4_8 (pc := 158) dX4_passHour_158 l_X4_36 e9 ?_
      clear e9
      refine P_iload (pc := 161) dX4_passHour_161 rfl ?_
      refine P_dup2 (pc := 163) dX4_passHour_163 (fun _ => rfl) (fun _ => rfl) ?_
      obtain ⟨n9, f9, e9, i9, k⟩ := k
      refine P_iald (pc := 164) dX4_passHour_164 e9 i9 ?_
      clear e9
      generalize f9 (Int32.toNatClampNeg l4) = x39 at k ⊢
      refine P_aload_n (pc := 165) dX4_passHour_165 rfl ?_
      obtain ⟨a40, e9, k⟩ := k
      refine G4_3 (pc := 166) dX4_passHour_166 l_X4_21 e9 ?_
      clear e9
      refine P_iload (pc := 169) dX4_passHour_169 rfl ?_
      obtain ⟨n9, f9, e9, i9, k⟩ := k
      refine P_iald (pc := 171) dX4_passHour_171 e9 i9 ?_
      clear e9
      generalize f9 (Int32.toNatClampNeg l4) = x41 at k ⊢
      refine P_if_ne (tgt := 179) (pc := 172) dX4_passHour_172 (by decide) (fun c => ?_) (fun c => ?_)
      · have k := k.2 c
        refine P_iconst (v := (0 : Int32)) (pc := 179) dX4_passHour_179 (by decide) ?_
        exact k
      · have k := k.1 c
        refine P_iconst (v := (1 : Int32)) (pc := 175) dX4_passHour_175 (by decide) ?_
        refine P_goto (tgt := 180) (pc := 176) dX4_passHour_176 (by decide) ?_
        exact k
theorem r_X4_passHour_180 {d rc rs : Nat} {Q : PO → PH → Prop} {h : PH} {l0 : Nat} {l1 : Nat} {l2 : Nat} {l4 : Int32} {s0 : LA} {s1 : Int32} {s2 : Int32} {s3 : Int32}
    (k : yI h s0 s1 (s2 + s3) fun h1 => gA h1 (10407, l0) fun a2 => gA h1 (10402, l0) fun a3 => xI h1 a3 l4 fun x4 => br (x4 < (50 : Int32)) (gA h1 (10407, l0) fun a5 => xI h1 a5 l4 fun x6 => yI h1 a2 l4 x6 fun h7 => PW d M_X4_passHour Q rc rs 69 [vR (400, l0), vR (100, l1), vR (300, l2), vU, vI (l4 + (1 : Int32)), vU] [] h7) (gA h1 (10407, l0) fun a8 => xI h1 a8 l4 fun x9 => br (x9 = (-1 : Int32)) (gI h1 (10409, l0) fun x13 => yI h1 a2 l4 x13 fun h14 => PW d M_X4_passHour Q rc rs 69 [vR (400, l0), vR (100, l1), vR (300, l2), vU, vI (l4 + (1 : Int32)), vU] [] h14) (gA h1 (10407, l0) fun a10 => xI h1 a10 l4 fun x11 => yI h1 a2 l4 x11 fun h12 => PW d M_X4_passHour Q rc rs 69 [vR (400, l0), vR (100, l1), vR (300, l2), vU, vI (l4 + (1 : Int32)), vU] [] h12))) :
    PW d M_X4_passHour Q rc rs 180 [vR (400, l0), vR (100, l1), vR (300, l2), vU, vI l4, vU] [vI s3, vI s2, vI s1, vR s0] h := by
  refine P_iadd (pc := 180) dX4_passHour_180 ?_
  obtain ⟨n9, f9, e9, i9, k⟩ := k
  refine P_iast (pc := 181) dX4_passHour_181 e9 i9 ?_
  clear e9
  refine P_aload_n (pc := 182) dX4_passHour_182 rfl ?_
  obtain ⟨a2, e9, k⟩ := k
  refine G4_7 (pc := 183) dX4_passHour_183 l_X4_33 e9 ?_
  clear e9
  refine P_iload (pc := 186) dX4_passHour_186 rfl ?_
  refine P_aload_n (pc := 188) dX4_passHour_188 rfl ?_
  obtain ⟨a3, e9, k⟩ := k
  refine G4_2 (pc := 189) dX4_passHour_189 l_X4_18 e9 ?_
  clear e9
  refine P_iload (pc := 192) dX4_passHour_192 rfl ?_
  obtain ⟨n9, f9, e9, i9, k⟩ := k
  refine P_iald (pc := 194) dX4_passHour_194 e9 i9 ?_
  clear e9
  generalize f9 (Int32.toNatClampNeg l4) = x4 at k ⊢
  refine P_bipush (v := (50 : Int32)) (pc := 195) dX4_passHour_195 (by decide) ?_
  refine P_icmp_lt (tgt := 218) (pc := 197) dX4_passHour_197 (by decide) (fun c => ?_) (fun c => ?_)
  · have k := k.1 c
    refine P_aload_n (pc := 218) dX4_passHour_218 rfl ?_
    obtain ⟨a5, e9, k⟩ := k
    refine G4_7 (pc := 219) dX4_passHour_219 l_X4_33 e9 ?_
    clear e9
    refine P_iload (pc := 222) dX4_passHour_222 rfl ?_
    obtain ⟨n9, f9, e9, i9, k⟩ := k
    refine P_iald (pc := 224) dX4_passHour_224 e9 i9 ?_
    clear e9
    generalize f9 (Int32.toNatClampNeg l4) = x6 at k ⊢
    obtain ⟨n9, f9, e9, i9, k⟩ := k
    refine P_iast (pc := 225) dX4_passHour_225 e9 i9 ?_
    clear e9
    refine P_iinc (v := l4 + (1 : Int32)) (pc := 226) dX4_passHour_226 (by decide) rfl rfl (Or.inr (by intro z e9; cases e9)) rfl ?_
    refine P_goto (tgt := 69) (pc := 229) dX4_passHour_229 (by decide) ?_
    exact k
  · have k := k.2 c
    refine P_aload_n (pc := 200) dX4_passHour_200 rfl ?_
    obtain ⟨a8, e9, k⟩ := k
    refine G4_7 (pc := 201) dX4_passHour_201 l_X4_33 e9 ?_
    clear e9
    refine P_iload (pc := 204) dX4_passHour_204 rfl ?_
    obtain ⟨n9, f9, e9, i9, k⟩ := k
    refine P_iald (pc := 206) dX4_passHour_206 e9 i9 ?_
    clear e9
    generalize f9 (Int32.toNatClampNeg l4) = x9 at k ⊢
    refine P_iconst (v := (-1 : Int32)) (pc := 207) dX4_passHour_207 (by decide) ?_
    refine P_icmp_ne (tgt := 218) (pc := 208) dX4_passHour_208 (by decide) (fun c => ?_) (fun c => ?_)
    · have k := k.2 c
      refine P_aload_n (pc := 218) dX4_passHour_218 rfl ?_
      obtain ⟨a10, e9, k⟩ := k
      refine G4_7 (pc := 219) dX4_passHour_219 l_X4_33 e9 ?_
      clear e9
      refine P_iload (pc := 222) dX4_passHour_222 rfl ?_
      obtain ⟨n9, f9, e9, i9, k⟩ := k
      refine P_iald (pc := 224) dX4_passHour_224 e9 i9 ?_
      clear e9
      generalize f9 (Int32.toNatClampNeg l4) = x11 at k ⊢
      obtain ⟨n9, f9, e9, i9, k⟩ := k
      refine P_iast (pc := 225) dX4_passHour_225 e9 i9 ?_
      clear e9
      refine P_iinc (v := l4 + (1 : Int32)) (pc := 226) dX4_passHour_226 (by decide) rfl rfl (Or.inr (by intro z e9; cases e9)) rfl ?_
      refine P_goto (tgt := 69) (pc := 229) dX4_passHour_229 (by decide) ?_
      exact k
    · have k := k.1 c
      refine P_aload_n (pc := 211) dX4_passHour_211 rfl ?_
      obtain ⟨x13, e9, k⟩ := k
      refine G4_9 (pc := 212) dX4_passHour_212 l_X4_39 e9 ?_
      clear e9
      refine P_goto (tgt := 225) (pc := 215) dX4_passHour_215 (by decide) ?_
      obtain ⟨n9, f9, e9, i9, k⟩ := k
      refine P_iast (pc := 225) dX4_passHour_225 e9 i9 ?_
      clear e9
      refine P_iinc (v := l4 + (1 : Int32)) (pc := 226) dX4_passHour_226 (by decide) rfl rfl (Or.inr (by intro z e9; cases e9)) rfl ?_
      refine P_goto (tgt := 69) (pc := 229) dX4_passHour_229 (by decide) ?_
      exact k
-- X4_comesOn comesOn(IILFernHeirs$Law;)I
theorem dX4_comesOn_0 : decode cX4_comesOn 0 = .ok (.aload_n 0, 1) := by decide +kernel
theorem dX4_comesOn_1 : decode cX4_comesOn 1 = .ok (.getfield 30, 3) := by decide +kernel
theorem dX4_comesOn_4 : decode cX4_comesOn 4 = .ok (.iload_n 1, 1) := by decide +kernel
theorem dX4_comesOn_5 : decode cX4_comesOn 5 = .ok (.iaload, 1) := by decide +kernel
theorem dX4_comesOn_6 : decode cX4_comesOn 6 = .ok (.ifCond .ne 5, 3) := by decide +kernel
theorem dX4_comesOn_9 : decode cX4_comesOn 9 = .ok (.iconst 0, 1) := by decide +kernel
theorem dX4_comesOn_10 : decode cX4_comesOn 10 = .ok (.ireturn, 1) := by decide +kernel
theorem dX4_comesOn_11 : decode cX4_comesOn 11 = .ok (.aload_n 0, 1) := by decide +kernel
theorem dX4_comesOn_12 : decode cX4_comesOn 12 = .ok (.getfield 39, 3) := by decide +kernel
theorem dX4_comesOn_15 : decode cX4_comesOn 15 = .ok (.bipush 24, 2) := by decide +kernel
theorem dX4_comesOn_17 : decode cX4_comesOn 17 = .ok (.irem, 1) := by decide +kernel
theorem dX4_comesOn_18 : decode cX4_comesOn 18 = .ok (.istore 4, 2) := by decide +kernel
theorem dX4_comesOn_20 : decode cX4_comesOn 20 = .ok (.aload_n 3, 1) := by decide +kernel
theorem dX4_comesOn_21 : decode cX4_comesOn 21 = .ok (.aload_n 0, 1) := by decide +kernel
theorem dX4_comesOn_22 : decode cX4_comesOn 22 = .ok (.getfield 9, 3) := by decide +kernel
theorem dX4_comesOn_25 : decode cX4_comesOn 25 = .ok (.iload_n 1, 1) := by decide +kernel
theorem dX4_comesOn_26 : decode cX4_comesOn 26 = .ok (.iaload, 1) := by decide +kernel
theorem dX4_comesOn_27 : decode cX4_comesOn 27 = .ok (.aload_n 0, 1) := by decide +kernel
theorem dX4_comesOn_28 : decode cX4_comesOn 28 = .ok (.getfield 15, 3) := by decide +kernel
theorem dX4_comesOn_31 : decode cX4_comesOn 31 = .ok (.iload_n 1, 1) := by decide +kernel
theorem dX4_comesOn_32 : decode cX4_comesOn 32 = .ok (.iaload, 1) := by decide +kernel
theorem dX4_comesOn_33 : decode cX4_comesOn 33 = .ok (.iload_n 1, 1) := by decide +kernel
theorem dX4_comesOn_34 : decode cX4_comesOn 34 = .ok (.invokevirtual 129, 3) := by decide +kernel
theorem dX4_comesOn_37 : decode cX4_comesOn 37 = .ok (.aload_n 3, 1) := by decide +kernel
theorem dX4_comesOn_38 : decode cX4_comesOn 38 = .ok (.aload_n 0, 1) := by decide +kernel
theorem dX4_comesOn_39 : decode cX4_comesOn 39 = .ok (.getfield 27, 3) := by decide +kernel
theorem dX4_comesOn_42 : decode cX4_comesOn 42 = .ok (.iload_n 1, 1) := by decide +kernel
theorem dX4_comesOn_43 : decode cX4_comesOn 43 = .ok (.iaload, 1) := by decide +kernel
theorem dX4_comesOn_44 : decode cX4_comesOn 44 = .ok (.aload_n 0, 1) := by decide +kernel
theorem dX4_comesOn_45 : decode cX4_comesOn 45 = .ok (.getfield 21, 3) := by decide +kernel
theorem dX4_comesOn_48 : decode cX4_comesOn 48 = .ok (.iload_n 1, 1) := by decide +kernel
theorem dX4_comesOn_49 : decode cX4_comesOn 49 = .ok (.iaload, 1) := by decide +kernel
theorem dX4_comesOn_50 : decode cX4_comesOn 50 = .ok (.aload_n 0, 1) := by decide +kernel
theorem dX4_comesOn_51 : decode cX4_comesOn 51 = .ok (.getfield 24, 3) := by decide +kernel
theorem dX4_comesOn_54 : decode cX4_comesOn 54 = .ok (.iload_n 1, 1) := by decide +kernel
theorem dX4_comesOn_55 : decode cX4_comesOn 55 = .ok (.iaload, 1) := by decide +kernel
theorem dX4_comesOn_56 : decode cX4_comesOn 56 = .ok (.aload_n 0, 1) := by decide +kernel
theorem dX4_comesOn_57 : decode cX4_comesOn 57 = .ok (.getfield 18, 3) := by decide +kernel
theorem dX4_comesOn_60 : decode cX4_comesOn 60 = .ok (.iload_n 1, 1) := by decide +kernel
theorem dX4_comesOn_61 : decode cX4_comesOn 61 = .ok (.iaload, 1) := by decide +kernel
theorem dX4_comesOn_62 : decode cX4_comesOn 62 = .ok (.invokevirtual 135, 3) := by decide +kernel
theorem dX4_comesOn_65 : decode cX4_comesOn 65 = .ok (.aload_n 3, 1) := by decide +kernel
theorem dX4_comesOn_66 : decode cX4_comesOn 66 = .ok (.iload 4, 2) := by decide +kernel
theorem dX4_comesOn_68 : decode cX4_comesOn 68 = .ok (.iload 4, 2) := by decide +kernel
theorem dX4_comesOn_70 : decode cX4_comesOn 70 = .ok (.iload_n 2, 1) := by decide +kernel
theorem dX4_comesOn_71 : decode cX4_comesOn 71 = .ok (.if_icmp .ne 7, 3) := by decide +kernel
theorem dX4_comesOn_74 : decode cX4_comesOn 74 = .ok (.iconst 1, 1) := by decide +kernel
theorem dX4_comesOn_75 : decode cX4_comesOn 75 = .ok (.goto 4, 3) := by decide +kernel
theorem dX4_comesOn_78 : decode cX4_comesOn 78 = .ok (.iconst 0, 1) := by decide +kernel
theorem dX4_comesOn_79 : decode cX4_comesOn 79 = .ok (.invokevirtual 139, 3) := by decide +kernel
theorem dX4_comesOn_82 : decode cX4_comesOn 82 = .ok (.aload_n 3, 1) := by decide +kernel
theorem dX4_comesOn_83 : decode cX4_comesOn 83 = .ok (.invokevirtual 143, 3) := by decide +kernel
theorem dX4_comesOn_86 : decode cX4_comesOn 86 = .ok (.ireturn, 1) := by decide +kernel
theorem r_X4_comesOn_0 {d rc rs : Nat} {Q : PO → PH → Prop} {h : PH} {l0 : Nat} {l1 : Int32} {l2 : Int32} {l3 : Nat}
    (k : gA h (10406, l0) fun a1 => xI h a1 l1 fun x2 => br (x2 = 0) (Q (.inl (some (vI (0 : Int32)))) h) (gI h (10409, l0) fun x3 => nz (24 : Int32) (gA h (10400, l0) fun a4 => xI h a4 l1 fun x5 => gA h (10401, l0) fun a6 => xI h a6 l1 fun x7 => isO h 10300 l3 ∧ cl d rc rs M_X3_setHeir [vR (300, l3), vI x5, vI x7, vI l1] h (kV fun h8 rc9 rs10 => gA h8 (10405, l0) fun a11 => xI h8 a11 l1 fun x12 => gA h8 (10403, l0) fun a13 => xI h8 a13 l1 fun x14 => gA h8 (10404, l0) fun a15 => xI h8 a15 l1 fun x16 => gA h8 (10402, l0) fun a17 => xI h8 a17 l1 fun x18 => isO h8 10300 l3 ∧ cl d rc9 rs10 M_X3_setGlass [vR (300, l3), vI x12, vI x14, vI x16, vI x18] h8 (kV fun h19 rc20 rs21 => br ((x3 - x3 / (24 : Int32) * (24 : Int32)) = l2) (isO h19 10300 l3 ∧ cl d rc20 rs21 M_X3_setHour [vR (300, l3), vI (x3 - x3 / (24 : Int32) * (24 : Int32)), vI (1 : Int32)] h19 (kV fun h29 rc30 rs31 => isO h29 10300 l3 ∧ cl d rc30 rs31 M_X3_comes [vR (300, l3)] h29 (kI fun x35 h32 rc33 rs34 => Q (.inl (some (vI x35))) h32) (fun E h32 rc33 rs34 => Q (.inr E) h32)) (fun E h29 rc30 rs31 => Q (.inr E) h29)) (isO h19 10300 l3 ∧ cl d rc20 rs21 M_X3_setHour [vR (300, l3), vI (x3 - x3 / (24 : Int32) * (24 : Int32)), vI (0 : Int32)] h19 (kV fun h22 rc23 rs24 => isO h22 10300 l3 ∧ cl d rc23 rs24 M_X3_comes [vR (300, l3)] h22 (kI fun x28 h25 rc26 rs27 => Q (.inl (some (vI x28))) h25) (fun E h25 rc26 rs27 => Q (.inr E) h25)) (fun E h22 rc23 rs24 => Q (.inr E) h22))) (fun E h19 rc20 rs21 => Q (.inr E) h19)) (fun E h8 rc9 rs10 => Q (.inr E) h8)))) :
    PW d M_X4_comesOn Q rc rs 0 [vR (400, l0), vI l1, vI l2, vR (300, l3), vU] [] h := by
  refine P_aload_n (pc := 0) dX4_comesOn_0 rfl ?_
  obtain ⟨a1, e9, k⟩ := k
  refine G4_6 (pc := 1) dX4_comesOn_1 l_X4_30 e9 ?_
  clear e9
  refine P_iload_n (pc := 4) dX4_comesOn_4 rfl ?_
  obtain ⟨n9, f9, e9, i9, k⟩ := k
  refine P_iald (pc := 5) dX4_comesOn_5 e9 i9 ?_
  clear e9
  generalize f9 (Int32.toNatClampNeg l1) = x2 at k ⊢
  refine P_if_ne (tgt := 11) (pc := 6) dX4_comesOn_6 (by decide) (fun c => ?_) (fun c => ?_)
  · have k := k.2 c
    refine P_aload_n (pc := 11) dX4_comesOn_11 rfl ?_
    obtain ⟨x3, e9, k⟩ := k
    refine G4_9 (pc := 12) dX4_comesOn_12 l_X4_39 e9 ?_
    clear e9
    refine P_bipush (v := (24 : Int32)) (pc := 15) dX4_comesOn_15 (by decide) ?_
    refine P_irem (pc := 17) dX4_comesOn_17 k.1 ?_
    replace k := k.2
    refine P_istore (pc := 18) dX4_comesOn_18 (by decide) (Or.inr (by intro z e9; cases e9)) rfl ?_
    refine P_aload_n (pc := 20) dX4_comesOn_20 rfl ?_
    refine P_aload_n (pc := 21) dX4_comesOn_21 rfl ?_
    obtain ⟨a4, e9, k⟩ := k
    refine G4_0 (pc := 22) dX4_comesOn_22 l_X4_9 e9 ?_
    clear e9
    refine P_iload_n (pc := 25) dX4_comesOn_25 rfl ?_
    obtain ⟨n9, f9, e9, i9, k⟩ := k
    refine P_iald (pc := 26) dX4_comesOn_26 e9 i9 ?_
    clear e9
    generalize f9 (Int32.toNatClampNeg l1) = x5 at k ⊢
    refine P_aload_n (pc := 27) dX4_comesOn_27 rfl ?_
    obtain ⟨a6, e9, k⟩ := k
    refine G4_1 (pc := 28) dX4_comesOn_28 l_X4_15 e9 ?_
    clear e9
    refine P_iload_n (pc := 31) dX4_comesOn_31 rfl ?_
    obtain ⟨n9, f9, e9, i9, k⟩ := k
    refine P_iald (pc := 32) dX4_comesOn_32 e9 i9 ?_
    clear e9
    generalize f9 (Int32.toNatClampNeg l1) = x7 at k ⊢
    refine P_iload_n (pc := 33) dX4_comesOn_33 rfl ?_
    obtain ⟨⟨w9, e9⟩, d2, nc, ns, rc9, rs10, Qc, g1, rfl, rfl, g2, kk, kx⟩ := k
    refine P_callV (ci := 3) (k := 0) (id := l3) (q := (RX3, TX3, 5)) (As := [vI x5, vI x7, vI l1]) (st := []) (pc := 34) dX4_comesOn_34 mk_X3_setHeir l_X4_129 im_X3_setHeir se_X3_setHeir ini_X3 rfl g1 (Nat.le_of_ble_eq_true rfl) rfl rfl (by decide) e9 rfl g2 (fun v9 h9 q9 => ?_) (fun E h9 q9 => PX_out rfl (kx E h9 q9))
    obtain ⟨rfl, k⟩ := kk v9 h9 q9
    clear kk kx g1 g2 q9
    refine P_aload_n (pc := 37) dX4_comesOn_37 rfl ?_
    refine P_aload_n (pc := 38) dX4_comesOn_38 rfl ?_
    obtain ⟨a11, e9, k⟩ := k
    refine G4_5 (pc := 39) dX4_comesOn_39 l_X4_27 e9 ?_
    clear e9
    refine P_iload_n (pc := 42) dX4_comesOn_42 rfl ?_
    obtain ⟨n9, f9, e9, i9, k⟩ := k
    refine P_iald (pc := 43) dX4_comesOn_43 e9 i9 ?_
    clear e9
    generalize f9 (Int32.toNatClampNeg l1) = x12 at k ⊢
    refine P_aload_n (pc := 44) dX4_comesOn_44 rfl ?_
    obtain ⟨a13, e9, k⟩ := k
    refine G4_3 (pc := 45) dX4_comesOn_45 l_X4_21 e9 ?_
    clear e9
    refine P_iload_n (pc := 48) dX4_comesOn_48 rfl ?_
    obtain ⟨n9, f9, e9, i9, k⟩ := k
    refine P_iald (pc := 49) dX4_comesOn_49 e9 i9 ?_
    clear e9
    generalize f9 (Int32.toNatClampNeg l1) = x14 at k ⊢
    refine P_aload_n (pc := 50) dX4_comesOn_50 rfl ?_
    obtain ⟨a15, e9, k⟩ := k
    refine G4_4 (pc := 51) dX4_comesOn_51 l_X4_24 e9 ?_
    clear e9
    refine P_iload_n (pc := 54) dX4_comesOn_54 rfl ?_
    obtain ⟨n9, f9, e9, i9, k⟩ := k
    refine P_iald (pc := 55) dX4_comesOn_55 e9 i9 ?_
    clear e9
    generalize f9 (Int32.toNatClampNeg l1) = x16 at k ⊢
    refine P_aload_n (pc := 56) dX4_comesOn_56 rfl ?_
    obtain ⟨a17, e9, k⟩ := k
    refine G4_2 (pc := 57) dX4_comesOn_57 l_X4_18 e9 ?_
    clear e9
    refine P_iload_n (pc := 60) dX4_comesOn_60 rfl ?_
    obtain ⟨n9, f9, e9, i9, k⟩ := k
    refine P_iald (pc := 61) dX4_comesOn_61 e9 i9 ?_
    clear e9
    generalize f9 (Int32.toNatClampNeg l1) = x18 at k ⊢
    obtain ⟨⟨w9, e9⟩, d2, nc, ns, rc20, rs21, Qc, g1, rfl, rfl, g2, kk, kx⟩ := k
    refine P_callV (ci := 3) (k := 0) (id := l3) (q := (RX3, TX3, 5)) (As := [vI x12, vI x14, vI x16, vI x18]) (st := []) (pc := 62) dX4_comesOn_62 mk_X3_setGlass l_X4_135 im_X3_setGlass se_X3_setGlass ini_X3 rfl g1 (Nat.le_of_ble_eq_true rfl) rfl rfl (by decide) e9 rfl g2 (fun v9 h9 q9 => ?_) (fun E h9 q9 => PX_out rfl (kx E h9 q9))
    obtain ⟨rfl, k⟩ := kk v9 h9 q9
    clear kk kx g1 g2 q9
    refine P_aload_n (pc := 65) dX4_comesOn_65 rfl ?_
    refine P_iload (pc := 66) dX4_comesOn_66 rfl ?_
    refine P_iload (pc := 68) dX4_comesOn_68 rfl ?_
    refine P_iload_n (pc := 70) dX4_comesOn_70 rfl ?_
    refine P_icmp_ne (tgt := 78) (pc := 71) dX4_comesOn_71 (by decide) (fun c => ?_) (fun c => ?_)
    · have k := k.2 c
      refine P_iconst (v := (0 : Int32)) (pc := 78) dX4_comesOn_78 (by decide) ?_
      obtain ⟨⟨w9, e9⟩, d2, nc, ns, rc23, rs24, Qc, g1, rfl, rfl, g2, kk, kx⟩ := k
      refine P_callV (ci := 3) (k := 0) (id := l3) (q := (RX3, TX3, 5)) (As := [vI (x3 - x3 / (24 : Int32) * (24 : Int32)), vI (0 : Int32)]) (st := []) (pc := 79) dX4_comesOn_79 mk_X3_setHour l_X4_139 im_X3_setHour se_X3_setHour ini_X3 rfl g1 (Nat.le_of_ble_eq_true rfl) rfl rfl (by decide) e9 rfl g2 (fun v9 h9 q9 => ?_) (fun E h9 q9 => PX_out rfl (kx E h9 q9))
      obtain ⟨rfl, k⟩ := kk v9 h9 q9
      clear kk kx g1 g2 q9
      refine P_aload_n (pc := 82) dX4_comesOn_82 rfl ?_
      obtain ⟨⟨w9, e9⟩, d2, nc, ns, rc26, rs27, Qc, g1, rfl, rfl, g2, kk, kx⟩ := k
      refine P_callV (ci := 3) (k := 0) (id := l3) (q := (RX3, TX3, 5)) (As := []) (st := []) (pc := 83) dX4_comesOn_83 mk_X3_comes l_X4_143 im_X3_comes se_X3_comes ini_X3 rfl g1 (Nat.le_of_ble_eq_true rfl) rfl rfl (by decide) e9 rfl g2 (fun v9 h9 q9 => ?_) (fun E h9 q9 => PX_out rfl (kx E h9 q9))
      obtain ⟨x28, rfl, k⟩ := kk v9 h9 q9
      clear kk kx g1 g2 q9
      exact R_ireturn (pc := 86) dX4_comesOn_86 rfl rfl k
    · have k := k.1 c
      refine P_iconst (v := (1 : Int32)) (pc := 74) dX4_comesOn_74 (by decide) ?_
      refine P_goto (tgt := 79) (pc := 75) dX4_comesOn_75 (by decide) ?_
      obtain ⟨⟨w9, e9⟩, d2, nc, ns, rc30, rs31, Qc, g1, rfl, rfl, g2, kk, kx⟩ := k
      refine P_callV (ci := 3) (k := 0) (id := l3) (q := (RX3, TX3, 5)) (As := [vI (x3 - x3 / (24 : Int32) * (24 : Int32)), vI (1 : Int32)]) (st := []) (pc := 79) dX4_comesOn_79 mk_X3_setHour l_X4_139 im_X3_setHour se_X3_setHour ini_X3 rfl g1 (Nat.le_of_ble_eq_true rfl) rfl rfl (by decide) e9 rfl g2 (fun v9 h9 q9 => ?_) (fun E h9 q9 => PX_out rfl (kx E h9 q9))
      obtain ⟨rfl, k⟩ := kk v9 h9 q9
      clear kk kx g1 g2 q9
      refine P_aload_n (pc := 82) dX4_comesOn_82 rfl ?_
      obtain ⟨⟨w9, e9⟩, d2, nc, ns, rc33, rs34, Qc, g1, rfl, rfl, g2, kk, kx⟩ := k
      refine P_callV (ci := 3) (k := 0) (id := l3) (q := (RX3, TX3, 5)) (As := []) (st := []) (pc := 83) dX4_comesOn_83 mk_X3_comes l_X4_143 im_X3_comes se_X3_comes ini_X3 rfl g1 (Nat.le_of_ble_eq_true rfl) rfl rfl (by decide) e9 rfl g2 (fun v9 h9 q9 => ?_) (fun E h9 q9 => PX_out rfl (kx E h9 q9))
      obtain ⟨x35, rfl, k⟩ := kk v9 h9 q9
      clear kk kx g1 g2 q9
      exact R_ireturn (pc := 86) dX4_comesOn_86 rfl rfl k
  · have k := k.1 c
    refine P_iconst (v := (0 : Int32)) (pc := 9) dX4_comesOn_9 (by decide) ?_
    exact R_ireturn (pc := 10) dX4_comesOn_10 rfl rfl k
-- X5_init <init>()V
theorem dX5_init_0 : decode cX5_init 0 = .ok (.aload_n 0, 1) := by decide +kernel
theorem dX5_init_1 : decode cX5_init 1 = .ok (.invokespecial 3, 3) := by decide +kernel
theorem dX5_init_4 : decode cX5_init 4 = .ok (.aload_n 0, 1) := by decide +kernel
theorem dX5_init_5 : decode cX5_init 5 = .ok (.bipush 90, 2) := by decide +kernel
theorem dX5_init_7 : decode cX5_init 7 = .ok (.bipush 13, 2) := by decide +kernel
theorem dX5_init_9 : decode cX5_init 9 = .ok (.multianewarray 9 2, 4) := by decide +kernel
theorem dX5_init_13 : decode cX5_init 13 = .ok (.putfield 11, 3) := by decide +kernel
theorem dX5_init_16 : decode cX5_init 16 = .ok (.aload_n 0, 1) := by decide +kernel
theorem dX5_init_17 : decode cX5_init 17 = .ok (.bipush 100, 2) := by decide +kernel
theorem dX5_init_19 : decode cX5_init 19 = .ok (.newarray .int, 2) := by decide +kernel
theorem dX5_init_21 : decode cX5_init 21 = .ok (.putfield 16, 3) := by decide +kernel
theorem dX5_init_24 : decode cX5_init 24 = .ok (.return_, 1) := by decide +kernel
theorem r_X5_init_0 {d rc rs : Nat} {Q : PO → PH → Prop} {h : PH} {l0 : Nat}
    (k : 1 ≤ d ∧ nwM h (13 : Int32) (90 : Int32) rc rs fun a1 h2 rc3 rs4 => sF h2 (10500, l0) (vR a1) fun h5 => nwA h5 0 (100 : Int32) (.inl (fun _ => 0)) rc3 rs4 fun a6 h7 rc8 rs9 => sF h7 (10501, l0) (vR a6) fun h10 => Q (.inl none) h10) :
    PW d M_X5_init Q rc rs 0 [vR (500, l0)] [] h := by
  refine P_aload_n (pc := 0) dX5_init_0 rfl ?_
  refine P_objInit (pc := 1) dX5_init_1 l_X5_3 oi_in oi_co k.1 (Nat.le_of_ble_eq_true rfl) ?_
  replace k := k.2
  refine P_aload_n (pc := 4) dX5_init_4 rfl ?_
  refine P_bipush (v := (90 : Int32)) (pc := 5) dX5_init_5 (by decide) ?_
  refine P_bipush (v := (13 : Int32)) (pc := 7) dX5_init_7 (by decide) ?_
  obtain ⟨a1, t9, i9, n9, m9, k9, g9, rc3, rs4, b1, b2, b3, b4, b5, b6, b7, b8, b9, b10, b11, rfl, rfl, k⟩ := k
  refine P_mna (pc := 9) dX5_init_9 l_X5_9 ao_ints ac_int b1 b2 b3 b4 b5 b6 b7 b8 b9 b10 b11 ?_
  obtain ⟨⟨v9, e9⟩, k⟩ := k
  refine S5_0 (pc := 13) dX5_init_13 l_X5_11 rfl rfl e9 ?_
  clear e9
  refine P_aload_n (pc := 16) dX5_init_16 rfl ?_
  refine P_bipush (v := (100 : Int32)) (pc := 17) dX5_init_17 (by decide) ?_
  obtain ⟨a6, n9, m9, g9, rc8, rs9, b1, b2, b3, b4, b5, b6, rfl, rfl, k⟩ := k
  refine P_newaI (pc := 19) dX5_init_19 ac_int b1 b2 b3 b4 b5 b6 ?_
  obtain ⟨⟨v9, e9⟩, k⟩ := k
  refine S5_1 (pc := 21) dX5_init_21 l_X5_16 rfl rfl e9 ?_
  clear e9
  exact R_return (pc := 24) dX5_init_24 rfl k
-- X5_clear clear()V
theorem dX5_clear_0 : decode cX5_clear 0 = .ok (.aload_n 0, 1) := by decide +kernel
theorem dX5_clear_1 : decode cX5_clear 1 = .ok (.iconst 0, 1) := by decide +kernel
theorem dX5_clear_2 : decode cX5_clear 2 = .ok (.putfield 20, 3) := by decide +kernel
theorem dX5_clear_5 : decode cX5_clear 5 = .ok (.aload_n 0, 1) := by decide +kernel
theorem dX5_clear_6 : decode cX5_clear 6 = .ok (.iconst (-1), 1) := by decide +kernel
theorem dX5_clear_7 : decode cX5_clear 7 = .ok (.putfield 24, 3) := by decide +kernel
theorem dX5_clear_10 : decode cX5_clear 10 = .ok (.return_, 1) := by decide +kernel
theorem r_X5_clear_0 {d rc rs : Nat} {Q : PO → PH → Prop} {h : PH} {l0 : Nat}
    (k : sF h (10502, l0) (vI (0 : Int32)) fun h1 => sF h1 (10503, l0) (vI (-1 : Int32)) fun h2 => Q (.inl none) h2) :
    PW d M_X5_clear Q rc rs 0 [vR (500, l0)] [] h := by
  refine P_aload_n (pc := 0) dX5_clear_0 rfl ?_
  refine P_iconst (v := (0 : Int32)) (pc := 1) dX5_clear_1 (by decide) ?_
  obtain ⟨⟨v9, e9⟩, k⟩ := k
  refine S5_2 (pc := 2) dX5_clear_2 l_X5_20 e9 ?_
  clear e9
  refine P_aload_n (pc := 5) dX5_clear_5 rfl ?_
  refine P_iconst (v := (-1 : Int32)) (pc := 6) dX5_clear_6 (by decide) ?_
  obtain ⟨⟨v9, e9⟩, k⟩ := k
  refine S5_3 (pc := 7) dX5_clear_7 l_X5_24 e9 ?_
  clear e9
  exact R_return (pc := 10) dX5_clear_10 rfl k
-- X5_note note(II)V
theorem dX5_note_0 : decode cX5_note 0 = .ok (.aload_n 0, 1) := by decide +kernel
theorem dX5_note_1 : decode cX5_note 1 = .ok (.getfield 20, 3) := by decide +kernel
theorem dX5_note_4 : decode cX5_note 4 = .ok (.bipush 90, 2) := by decide +kernel
theorem dX5_note_6 : decode cX5_note 6 = .ok (.if_icmp .ge 15, 3) := by decide +kernel
theorem dX5_note_9 : decode cX5_note 9 = .ok (.aload_n 0, 1) := by decide +kernel
theorem dX5_note_10 : decode cX5_note 10 = .ok (.getfield 11, 3) := by decide +kernel
theorem dX5_note_13 : decode cX5_note 13 = .ok (.aload_n 0, 1) := by decide +kernel
theorem dX5_note_14 : decode cX5_note 14 = .ok (.getfield 20, 3) := by decide +kernel
theorem dX5_note_17 : decode cX5_note 17 = .ok (.aaload, 1) := by decide +kernel
theorem dX5_note_18 : decode cX5_note 18 = .ok (.iload_n 1, 1) := by decide +kernel
theorem dX5_note_19 : decode cX5_note 19 = .ok (.iload_n 2, 1) := by decide +kernel
theorem dX5_note_20 : decode cX5_note 20 = .ok (.iastore, 1) := by decide +kernel
theorem dX5_note_21 : decode cX5_note 21 = .ok (.return_, 1) := by decide +kernel
theorem r_X5_note_0 {d rc rs : Nat} {Q : PO → PH → Prop} {h : PH} {l0 : Nat} {l1 : Int32} {l2 : Int32}
    (k : gI h (10502, l0) fun x1 => br (x1 < (90 : Int32)) (gA h (10500, l0) fun a2 => gI h (10502, l0) fun x3 => xA h a2 x3 6 fun a4 => yI h a4 l1 l2 fun h5 => Q (.inl none) h5) (Q (.inl none) h)) :
    PW d M_X5_note Q rc rs 0 [vR (500, l0), vI l1, vI l2] [] h := by
  refine P_aload_n (pc := 0) dX5_note_0 rfl ?_
  obtain ⟨x1, e9, k⟩ := k
  refine G5_2 (pc := 1) dX5_note_1 l_X5_20 e9 ?_
  clear e9
  refine P_bipush (v := (90 : Int32)) (pc := 4) dX5_note_4 (by decide) ?_
  refine P_icmp_ge (tgt := 21) (pc := 6) dX5_note_6 (by decide) (fun c => ?_) (fun c => ?_)
  · have k := k.2 (Int32.not_lt.mpr c)
    exact R_return (pc := 21) dX5_note_21 rfl k
  · have k := k.1 (Int32.not_le.mp c)
    refine P_aload_n (pc := 9) dX5_note_9 rfl ?_
    obtain ⟨a2, e9, k⟩ := k
    refine G5_0 (pc := 10) dX5_note_10 l_X5_11 e9 ?_
    clear e9
    refine P_aload_n (pc := 13) dX5_note_13 rfl ?_
    obtain ⟨x3, e9, k⟩ := k
    refine G5_2 (pc := 14) dX5_note_14 l_X5_20 e9 ?_
    clear e9
    obtain ⟨n9, f9, a4, e9, i9, b9, k⟩ := k
    refine P_aald (kd := 6) (pc := 17) dX5_note_17 (by decide) rfl e9 i9 b9 ?_
    refine P_iload_n (pc := 18) dX5_note_18 rfl ?_
    refine P_iload_n (pc := 19) dX5_note_19 rfl ?_
    obtain ⟨n9, f9, e9, i9, k⟩ := k
    refine P_iast (pc := 20) dX5_note_20 e9 i9 ?_
    clear e9
    exact R_return (pc := 21) dX5_note_21 rfl k
-- X5_keepIfRight keepIfRight(LFernHeirs$Book;I)V
theorem dX5_keepIfRight_0 : decode cX5_keepIfRight 0 = .ok (.aload_n 0, 1) := by decide +kernel
theorem dX5_keepIfRight_1 : decode cX5_keepIfRight 1 = .ok (.getfield 20, 3) := by decide +kernel
theorem dX5_keepIfRight_4 : decode cX5_keepIfRight 4 = .ok (.bipush 90, 2) := by decide +kernel
theorem dX5_keepIfRight_6 : decode cX5_keepIfRight 6 = .ok (.if_icmp .lt 4, 3) := by decide +kernel
theorem dX5_keepIfRight_9 : decode cX5_keepIfRight 9 = .ok (.return_, 1) := by decide +kernel
theorem dX5_keepIfRight_10 : decode cX5_keepIfRight 10 = .ok (.iconst 1, 1) := by decide +kernel
theorem dX5_keepIfRight_11 : decode cX5_keepIfRight 11 = .ok (.istore_n 3, 1) := by decide +kernel
theorem dX5_keepIfRight_12 : decode cX5_keepIfRight 12 = .ok (.iload_n 3, 1) := by decide +kernel
theorem dX5_keepIfRight_13 : decode cX5_keepIfRight 13 = .ok (.bipush 12, 2) := by decide +kernel
theorem dX5_keepIfRight_15 : decode cX5_keepIfRight 15 = .ok (.if_icmp .gt 40, 3) := by decide +kernel
theorem dX5_keepIfRight_18 : decode cX5_keepIfRight 18 = .ok (.aload_n 1, 1) := by decide +kernel
theorem dX5_keepIfRight_19 : decode cX5_keepIfRight 19 = .ok (.getfield 27, 3) := by decide +kernel
theorem dX5_keepIfRight_22 : decode cX5_keepIfRight 22 = .ok (.iload_n 3, 1) := by decide +kernel
theorem dX5_keepIfRight_23 : decode cX5_keepIfRight 23 = .ok (.iaload, 1) := by decide +kernel
theorem dX5_keepIfRight_24 : decode cX5_keepIfRight 24 = .ok (.iconst (-1), 1) := by decide +kernel
theorem dX5_keepIfRight_25 : decode cX5_keepIfRight 25 = .ok (.if_icmp .eq 24, 3) := by decide +kernel
theorem dX5_keepIfRight_28 : decode cX5_keepIfRight 28 = .ok (.aload_n 1, 1) := by decide +kernel
theorem dX5_keepIfRight_29 : decode cX5_keepIfRight 29 = .ok (.getfield 27, 3) := by decide +kernel
theorem dX5_keepIfRight_32 : decode cX5_keepIfRight 32 = .ok (.iload_n 3, 1) := by decide +kernel
theorem dX5_keepIfRight_33 : decode cX5_keepIfRight 33 = .ok (.iaload, 1) := by decide +kernel
theorem dX5_keepIfRight_34 : decode cX5_keepIfRight 34 = .ok (.aload_n 0, 1) := by decide +kernel
theorem dX5_keepIfRight_35 : decode cX5_keepIfRight 35 = .ok (.getfield 11, 3) := by decide +kernel
theorem dX5_keepIfRight_38 : decode cX5_keepIfRight 38 = .ok (.aload_n 0, 1) := by decide +kernel
theorem dX5_keepIfRight_39 : decode cX5_keepIfRight 39 = .ok (.getfield 20, 3) := by decide +kernel
theorem dX5_keepIfRight_42 : decode cX5_keepIfRight 42 = .ok (.aaload, 1) := by decide +kernel
theorem dX5_keepIfRight_43 : decode cX5_keepIfRight 43 = .ok (.iload_n 3, 1) := by decide +kernel
theorem dX5_keepIfRight_44 : decode cX5_keepIfRight 44 = .ok (.iaload, 1) := by decide +kernel
theorem dX5_keepIfRight_45 : decode cX5_keepIfRight 45 = .ok (.if_icmp .eq 4, 3) := by decide +kernel
theorem dX5_keepIfRight_48 : decode cX5_keepIfRight 48 = .ok (.return_, 1) := by decide +kernel
theorem dX5_keepIfRight_49 : decode cX5_keepIfRight 49 = .ok (.iinc 3 1, 3) := by decide +kernel
theorem dX5_keepIfRight_52 : decode cX5_keepIfRight 52 = .ok (.goto (-40), 3) := by decide +kernel
theorem dX5_keepIfRight_55 : decode cX5_keepIfRight 55 = .ok (.aload_n 0, 1) := by decide +kernel
theorem dX5_keepIfRight_56 : decode cX5_keepIfRight 56 = .ok (.dup, 1) := by decide +kernel
theorem dX5_keepIfRight_57 : decode cX5_keepIfRight 57 = .ok (.getfield 20, 3) := by decide +kernel
theorem dX5_keepIfRight_60 : decode cX5_keepIfRight 60 = .ok (.iconst 1, 1) := by decide +kernel
theorem dX5_keepIfRight_61 : decode cX5_keepIfRight 61 = .ok (.iadd, 1) := by decide +kernel
theorem dX5_keepIfRight_62 : decode cX5_keepIfRight 62 = .ok (.putfield 20, 3) := by decide +kernel
theorem dX5_keepIfRight_65 : decode cX5_keepIfRight 65 = .ok (.aload_n 0, 1) := by decide +kernel
theorem dX5_keepIfRight_66 : decode cX5_keepIfRight 66 = .ok (.aload_n 0, 1) := by decide +kernel
theorem dX5_keepIfRight_67 : decode cX5_keepIfRight 67 = .ok (.getfield 24, 3) := by decide +kernel
theorem dX5_keepIfRight_70 : decode cX5_keepIfRight 70 = .ok (.iconst (-1), 1) := by decide +kernel
theorem dX5_keepIfRight_71 : decode cX5_keepIfRight 71 = .ok (.if_icmp .ne 7, 3) := by decide +kernel
theorem dX5_keepIfRight_74 : decode cX5_keepIfRight 74 = .ok (.iload_n 2, 1) := by decide +kernel
theorem dX5_keepIfRight_75 : decode cX5_keepIfRight 75 = .ok (.goto 7, 3) := by decide +kernel
theorem dX5_keepIfRight_78 : decode cX5_keepIfRight 78 = .ok (.aload_n 0, 1) := by decide +kernel
theorem dX5_keepIfRight_79 : decode cX5_keepIfRight 79 = .ok (.getfield 24, 3) := by decide +kernel
theorem dX5_keepIfRight_82 : decode cX5_keepIfRight 82 = .ok (.putfield 24, 3) := by decide +kernel
theorem dX5_keepIfRight_85 : decode cX5_keepIfRight 85 = .ok (.return_, 1) := by decide +kernel
theorem r_X5_keepIfRight_0 {d rc rs : Nat} {Q : PO → PH → Prop} {h : PH} {l0 : Nat} {l1 : Nat} {l2 : Int32}
    (k : gI h (10502, l0) fun x1 => br (x1 < (90 : Int32)) (PW d M_X5_keepIfRight Q rc rs 12 [vR (500, l0), vR (0, l1), vI l2, vI (1 : Int32)] [] h) (Q (.inl none) h)) :
    PW d M_X5_keepIfRight Q rc rs 0 [vR (500, l0), vR (0, l1), vI l2, vU] [] h := by
  refine P_aload_n (pc := 0) dX5_keepIfRight_0 rfl ?_
  obtain ⟨x1, e9, k⟩ := k
  refine G5_2 (pc := 1) dX5_keepIfRight_1 l_X5_20 e9 ?_
  clear e9
  refine P_bipush (v := (90 : Int32)) (pc := 4) dX5_keepIfRight_4 (by decide) ?_
  refine P_icmp_lt (tgt := 10) (pc := 6) dX5_keepIfRight_6 (by decide) (fun c => ?_) (fun c => ?_)
  · have k := k.1 c
    refine P_iconst (v := (1 : Int32)) (pc := 10) dX5_keepIfRight_10 (by decide) ?_
    refine P_istore_n (pc := 11) dX5_keepIfRight_11 (by decide) (Or.inr (by intro z e9; cases e9)) rfl ?_
    exact k
  · have k := k.2 c
    exact R_return (pc := 9) dX5_keepIfRight_9 rfl k
theorem r_X5_keepIfRight_12 {d rc rs : Nat} {Q : PO → PH → Prop} {h : PH} {l0 : Nat} {l1 : Nat} {l2 : Int32} {l3 : Int32}
    (k : br ((12 : Int32) < l3) (gI h (10502, l0) fun x1 => sF h (10502, l0) (vI (x1 + (1 : Int32))) fun h2 => gI h2 (10503, l0) fun x3 => br (x3 = (-1 : Int32)) (sF h2 (10503, l0) (vI l2) fun h6 => Q (.inl none) h6) (gI h2 (10503, l0) fun x4 => sF h2 (10503, l0) (vI x4) fun h5 => Q (.inl none) h5)) (gA h (10000, l1) fun a7 => xI h a7 l3 fun x8 => br (x8 = (-1 : Int32)) (PW d M_X5_keepIfRight Q rc rs 12 [vR (500, l0), vR (0, l1), vI l2, vI (l3 + (1 : Int32))] [] h) (gA h (10000, l1) fun a9 => xI h a9 l3 fun x10 => gA h (10500, l0) fun a11 => gI h (10502, l0) fun x12 => xA h a11 x12 6 fun a13 => xI h a13 l3 fun x14 => br (x10 = x14) (PW d M_X5_keepIfRight Q rc rs 12 [vR (500, l0), vR (0, l1), vI l2, vI (l3 + (1 : Int32))] [] h) (Q (.inl none) h)))) :
    PW d M_X5_keepIfRight Q rc rs 12 [vR (500, l0), vR (0, l1), vI l2, vI l3] [] h := by
  refine P_iload_n (pc := 12) dX5_keepIfRight_12 rfl ?_
  refine P_bipush (v := (12 : Int32)) (pc := 13) dX5_keepIfRight_13 (by decide) ?_
  refine P_icmp_gt (tgt := 55) (pc := 15) dX5_keepIfRight_15 (by decide) (fun c => ?_) (fun c => ?_)
  · have k := k.1 c
    refine P_aload_n (pc := 55) dX5_keepIfRight_55 rfl ?_
    refine P_dup (pc := 56) dX5_keepIfRight_56 (fun _ => rfl) ?_
    obtain ⟨x1, e9, k⟩ := k
    refine G5_2 (pc := 57) dX5_keepIfRight_57 l_X5_20 e9 ?_
    clear e9
    refine P_iconst (v := (1 : Int32)) (pc := 60) dX5_keepIfRight_60 (by decide) ?_
    refine P_iadd (pc := 61) dX5_keepIfRight_61 ?_
    obtain ⟨⟨v9, e9⟩, k⟩ := k
    refine S5_2 (pc := 62) dX5_keepIfRight_62 l_X5_20 e9 ?_
    clear e9
    refine P_aload_n (pc := 65) dX5_keepIfRight_65 rfl ?_
    refine P_aload_n (pc := 66) dX5_keepIfRight_66 rfl ?_
    obtain ⟨x3, e9, k⟩ := k
    refine G5_3 (pc := 67) dX5_keepIfRight_67 l_X5_24 e9 ?_
    clear e9
    refine P_iconst (v := (-1 : Int32)) (pc := 70) dX5_keepIfRight_70 (by decide) ?_
    refine P_icmp_ne (tgt := 78) (pc := 71) dX5_keepIfRight_71 (by decide) (fun c => ?_) (fun c => ?_)
    · have k := k.2 c
      refine P_aload_n (pc := 78) dX5_keepIfRight_78 rfl ?_
      obtain ⟨x4, e9, k⟩ := k
      refine G5_3 (pc := 79) dX5_keepIfRight_79 l_X5_24 e9 ?_
      clear e9
      obtain ⟨⟨v9, e9⟩, k⟩ := k
      refine S5_3 (pc := 82) dX5_keepIfRight_82 l_X5_24 e9 ?_
      clear e9
      exact R_return (pc := 85) dX5_keepIfRight_85 rfl k
    · have k := k.1 c
      refine P_iload_n (pc := 74) dX5_keepIfRight_74 rfl ?_
      refine P_goto (tgt := 82) (pc := 75) dX5_keepIfRight_75 (by decide) ?_
      obtain ⟨⟨v9, e9⟩, k⟩ := k
      refine S5_3 (pc := 82) dX5_keepIfRight_82 l_X5_24 e9 ?_
      clear e9
      exact R_return (pc := 85) dX5_keepIfRight_85 rfl k
  · have k := k.2 c
    refine P_aload_n (pc := 18) dX5_keepIfRight_18 rfl ?_
    obtain ⟨a7, e9, k⟩ := k
    refine GN0_0 (pc := 19) dX5_keepIfRight_19 n_X5_27 e9 ?_
    clear e9
    refine P_iload_n (pc := 22) dX5_keepIfRight_22 rfl ?_
    obtain ⟨n9, f9, e9, i9, k⟩ := k
    refine P_iald (pc := 23) dX5_keepIfRight_23 e9 i9 ?_
    clear e9
    generalize f9 (Int32.toNatClampNeg l3) = x8 at k ⊢
    refine P_iconst (v := (-1 : Int32)) (pc := 24) dX5_keepIfRight_24 (by decide) ?_
    refine P_icmp_eq (tgt := 49) (pc := 25) dX5_keepIfRight_25 (by decide) (fun c => ?_) (fun c => ?_)
    · have k := k.1 c
      refine P_iinc (v := l3 + (1 : Int32)) (pc := 49) dX5_keepIfRight_49 (by decide) rfl rfl (Or.inr (by intro z e9; cases e9)) rfl ?_
      refine P_goto (tgt := 12) (pc := 52) dX5_keepIfRight_52 (by decide) ?_
      exact k
    · have k := k.2 c
      refine P_aload_n (pc := 28) dX5_keepIfRight_28 rfl ?_
      obtain ⟨a9, e9, k⟩ := k
      refine GN0_0 (pc := 29) dX5_keepIfRight_29 n_X5_27 e9 ?_
      clear e9
      refine P_iload_n (pc := 32) dX5_keepIfRight_32 rfl ?_
      obtain ⟨n9, f9, e9, i9, k⟩ := k
      refine P_iald (pc := 33) dX5_keepIfRight_33 e9 i9 ?_
      clear e9
      generalize f9 (Int32.toNatClampNeg l3) = x10 at k ⊢
      refine P_aload_n (pc := 34) dX5_keepIfRight_34 rfl ?_
      obtain ⟨a11, e9, k⟩ := k
      refine G5_0 (pc := 35) dX5_keepIfRight_35 l_X5_11 e9 ?_
      clear e9
      refine P_aload_n (pc := 38) dX5_keepIfRight_38 rfl ?_
      obtain ⟨x12, e9, k⟩ := k
      refine G5_2 (pc := 39) dX5_keepIfRight_39 l_X5_20 e9 ?_
      clear e9
      obtain ⟨n9, f9, a13, e9, i9, b9, k⟩ := k
      refine P_aald (kd := 6) (pc := 42) dX5_keepIfRight_42 (by decide) rfl e9 i9 b9 ?_
      refine P_iload_n (pc := 43) dX5_keepIfRight_43 rfl ?_
      obtain ⟨n9, f9, e9, i9, k⟩ := k
      refine P_iald (pc := 44) dX5_keepIfRight_44 e9 i9 ?_
      clear e9
      generalize f9 (Int32.toNatClampNeg l3) = x14 at k ⊢
      refine P_icmp_eq (tgt := 49) (pc := 45) dX5_keepIfRight_45 (by decide) (fun c => ?_) (fun c => ?_)
      · have k := k.1 c
        refine P_iinc (v := l3 + (1 : Int32)) (pc := 49) dX5_keepIfRight_49 (by decide) rfl rfl (Or.inr (by intro z e9; cases e9)) rfl ?_
        refine P_goto (tgt := 12) (pc := 52) dX5_keepIfRight_52 (by decide) ?_
        exact k
      · have k := k.2 c
        exact R_return (pc := 48) dX5_keepIfRight_48 rfl k
-- X5_mostAlike mostAlike(I)I
theorem dX5_mostAlike_0 : decode cX5_mostAlike 0 = .ok (.aload_n 0, 1) := by decide +kernel
theorem dX5_mostAlike_1 : decode cX5_mostAlike 1 = .ok (.getfield 16, 3) := by decide +kernel
theorem dX5_mostAlike_4 : decode cX5_mostAlike 4 = .ok (.iconst 0, 1) := by decide +kernel
theorem dX5_mostAlike_5 : decode cX5_mostAlike 5 = .ok (.invokestatic 32, 3) := by decide +kernel
theorem dX5_mostAlike_8 : decode cX5_mostAlike 8 = .ok (.iconst 0, 1) := by decide +kernel
theorem dX5_mostAlike_9 : decode cX5_mostAlike 9 = .ok (.istore_n 2, 1) := by decide +kernel
theorem dX5_mostAlike_10 : decode cX5_mostAlike 10 = .ok (.iload_n 2, 1) := by decide +kernel
theorem dX5_mostAlike_11 : decode cX5_mostAlike 11 = .ok (.aload_n 0, 1) := by decide +kernel
theorem dX5_mostAlike_12 : decode cX5_mostAlike 12 = .ok (.getfield 20, 3) := by decide +kernel
theorem dX5_mostAlike_15 : decode cX5_mostAlike 15 = .ok (.if_icmp .ge 26, 3) := by decide +kernel
theorem dX5_mostAlike_18 : decode cX5_mostAlike 18 = .ok (.aload_n 0, 1) := by decide +kernel
theorem dX5_mostAlike_19 : decode cX5_mostAlike 19 = .ok (.getfield 16, 3) := by decide +kernel
theorem dX5_mostAlike_22 : decode cX5_mostAlike 22 = .ok (.aload_n 0, 1) := by decide +kernel
theorem dX5_mostAlike_23 : decode cX5_mostAlike 23 = .ok (.getfield 11, 3) := by decide +kernel
theorem dX5_mostAlike_26 : decode cX5_mostAlike 26 = .ok (.iload_n 2, 1) := by decide +kernel
theorem dX5_mostAlike_27 : decode cX5_mostAlike 27 = .ok (.aaload, 1) := by decide +kernel
theorem dX5_mostAlike_28 : decode cX5_mostAlike 28 = .ok (.iload_n 1, 1) := by decide +kernel
theorem dX5_mostAlike_29 : decode cX5_mostAlike 29 = .ok (.iaload, 1) := by decide +kernel
theorem dX5_mostAlike_30 : decode cX5_mostAlike 30 = .ok (.dup2, 1) := by decide +kernel
theorem dX5_mostAlike_31 : decode cX5_mostAlike 31 = .ok (.iaload, 1) := by decide +kernel
theorem dX5_mostAlike_32 : decode cX5_mostAlike 32 = .ok (.iconst 1, 1) := by decide +kernel
theorem dX5_mostAlike_33 : decode cX5_mostAlike 33 = .ok (.iadd, 1) := by decide +kernel
theorem dX5_mostAlike_34 : decode cX5_mostAlike 34 = .ok (.iastore, 1) := by decide +kernel
theorem dX5_mostAlike_35 : decode cX5_mostAlike 35 = .ok (.iinc 2 1, 3) := by decide +kernel
theorem dX5_mostAlike_38 : decode cX5_mostAlike 38 = .ok (.goto (-28), 3) := by decide +kernel
theorem dX5_mostAlike_41 : decode cX5_mostAlike 41 = .ok (.aload_n 0, 1) := by decide +kernel
theorem dX5_mostAlike_42 : decode cX5_mostAlike 42 = .ok (.getfield 16, 3) := by decide +kernel
theorem dX5_mostAlike_45 : decode cX5_mostAlike 45 = .ok (.aload_n 0, 1) := by decide +kernel
theorem dX5_mostAlike_46 : decode cX5_mostAlike 46 = .ok (.getfield 16, 3) := by decide +kernel
theorem dX5_mostAlike_49 : decode cX5_mostAlike 49 = .ok (.invokestatic 38, 3) := by decide +kernel
theorem dX5_mostAlike_52 : decode cX5_mostAlike 52 = .ok (.iaload, 1) := by decide +kernel
theorem dX5_mostAlike_53 : decode cX5_mostAlike 53 = .ok (.ireturn, 1) := by decide +kernel
theorem r_X5_mostAlike_0 {d rc rs : Nat} {Q : PO → PH → Prop} {h : PH} {l0 : Nat} {l1 : Int32}
    (k : gA h (10501, l0) fun a1 => cl d rc rs M_J7_fill_53178 [vR a1, vI (0 : Int32)] h (kV fun h2 rc3 rs4 => PW d M_X5_mostAlike Q rc3 rs4 10 [vR (500, l0), vI l1, vI (0 : Int32)] [] h2) (fun E h2 rc3 rs4 => Q (.inr E) h2)) :
    PW d M_X5_mostAlike Q rc rs 0 [vR (500, l0), vI l1, vU] [] h := by
  refine P_aload_n (pc := 0) dX5_mostAlike_0 rfl ?_
  obtain ⟨a1, e9, k⟩ := k
  refine G5_1 (pc := 1) dX5_mostAlike_1 l_X5_16 e9 ?_
  clear e9
  refine P_iconst (v := (0 : Int32)) (pc := 4) dX5_mostAlike_4 (by decide) ?_
  obtain ⟨d2, nc, ns, rc3, rs4, Qc, g1, rfl, rfl, g2, kk, kx⟩ := k
  refine P_callS (As := [vR a1, vI (0 : Int32)]) (st := []) (pc := 5) dX5_mostAlike_5 mk_J7_fill_53178 l_X5_32 st_J7_fill_53178 ini_J7 rfl g1 (Nat.le_of_ble_eq_true rfl) rfl g2 (fun v9 h9 q9 => ?_) (fun E h9 q9 => PX_out rfl (kx E h9 q9))
  obtain ⟨rfl, k⟩ := kk v9 h9 q9
  clear kk kx g1 g2 q9
  refine P_iconst (v := (0 : Int32)) (pc := 8) dX5_mostAlike_8 (by decide) ?_
  refine P_istore_n (pc := 9) dX5_mostAlike_9 (by decide) (Or.inr (by intro z e9; cases e9)) rfl ?_
  exact k
theorem r_X5_mostAlike_10 {d rc rs : Nat} {Q : PO → PH → Prop} {h : PH} {l0 : Nat} {l1 : Int32} {l2 : Int32}
    (k : gI h (10502, l0) fun x1 => br (l2 < x1) (gA h (10501, l0) fun a9 => gA h (10500, l0) fun a10 => xA h a10 l2 6 fun a11 => xI h a11 l1 fun x12 => xI h a9 x12 fun x13 => yI h a9 x12 (x13 + (1 : Int32)) fun h14 => PW d M_X5_mostAlike Q rc rs 10 [vR (500, l0), vI l1, vI (l2 + (1 : Int32))] [] h14) (gA h (10501, l0) fun a2 => gA h (10501, l0) fun a3 => cl d rc rs M_X9_mostOf [vR a3] h (kI fun x7 h4 rc5 rs6 => xI h4 a2 x7 fun x8 => Q (.inl (some (vI x8))) h4) (fun E h4 rc5 rs6 => Q (.inr E) h4))) :
    PW d M_X5_mostAlike Q rc rs 10 [vR (500, l0), vI l1, vI l2] [] h := by
  refine P_iload_n (pc := 10) dX5_mostAlike_10 rfl ?_
  refine P_aload_n (pc := 11) dX5_mostAlike_11 rfl ?_
  obtain ⟨x1, e9, k⟩ := k
  refine G5_2 (pc := 12) dX5_mostAlike_12 l_X5_20 e9 ?_
  clear e9
  refine P_icmp_ge (tgt := 41) (pc := 15) dX5_mostAlike_15 (by decide) (fun c => ?_) (fun c => ?_)
  · have k := k.2 (Int32.not_lt.mpr c)
    refine P_aload_n (pc := 41) dX5_mostAlike_41 rfl ?_
    obtain ⟨a2, e9, k⟩ := k
    refine G5_1 (pc := 42) dX5_mostAlike_42 l_X5_16 e9 ?_
    clear e9
    refine P_aload_n (pc := 45) dX5_mostAlike_45 rfl ?_
    obtain ⟨a3, e9, k⟩ := k
    refine G5_1 (pc := 46) dX5_mostAlike_46 l_X5_16 e9 ?_
    clear e9
    obtain ⟨d2, nc, ns, rc5, rs6, Qc, g1, rfl, rfl, g2, kk, kx⟩ := k
    refine P_callSN (As := [vR a3]) (st := [vR a2]) (pc := 49) dX5_mostAlike_49 mk_X9_mostOf n_X5_38 st_X9_mostOf ini_X9 rfl g1 (Nat.le_of_ble_eq_true rfl) rfl g2 (fun v9 h9 q9 => ?_) (fun E h9 q9 => PX_out rfl (kx E h9 q9))
    obtain ⟨x7, rfl, k⟩ := kk v9 h9 q9
    clear kk kx g1 g2 q9
    obtain ⟨n9, f9, e9, i9, k⟩ := k
    refine P_iald (pc := 52) dX5_mostAlike_52 e9 i9 ?_
    clear e9
    generalize f9 (Int32.toNatClampNeg x7) = x8 at k ⊢
    exact R_ireturn (pc := 53) dX5_mostAlike_53 rfl rfl k
  · have k := k.1 (Int32.not_le.mp c)
    refine P_aload_n (pc := 18) dX5_mostAlike_18 rfl ?_
    obtain ⟨a9, e9, k⟩ := k
    refine G5_1 (pc := 19) dX5_mostAlike_19 l_X5_16 e9 ?_
    clear e9
    refine P_aload_n (pc := 22) dX5_mostAlike_22 rfl ?_
    obtain ⟨a10, e9, k⟩ := k
    refine G5_0 (pc := 23) dX5_mostAlike_23 l_X5_11 e9 ?_
    clear e9
    refine P_iload_n (pc := 26) dX5_mostAlike_26 rfl ?_
    obtain ⟨n9, f9, a11, e9, i9, b9, k⟩ := k
    refine P_aald (kd := 6) (pc := 27) dX5_mostAlike_27 (by decide) rfl e9 i9 b9 ?_
    refine P_iload_n (pc := 28) dX5_mostAlike_28 rfl ?_
    obtain ⟨n9, f9, e9, i9, k⟩ := k
    refine P_iald (pc := 29) dX5_mostAlike_29 e9 i9 ?_
    clear e9
    generalize f9 (Int32.toNatClampNeg l1) = x12 at k ⊢
    refine P_dup2 (pc := 30) dX5_mostAlike_30 (fun _ => rfl) (fun _ => rfl) ?_
    obtain ⟨n9, f9, e9, i9, k⟩ := k
    refine P_iald (pc := 31) dX5_mostAlike_31 e9 i9 ?_
    clear e9
    generalize f9 (Int32.toNatClampNeg x12) = x13 at k ⊢
    refine P_iconst (v := (1 : Int32)) (pc := 32) dX5_mostAlike_32 (by decide) ?_
    refine P_iadd (pc := 33) dX5_mostAlike_33 ?_
    obtain ⟨n9, f9, e9, i9, k⟩ := k
    refine P_iast (pc := 34) dX5_mostAlike_34 e9 i9 ?_
    clear e9
    refine P_iinc (v := l2 + (1 : Int32)) (pc := 35) dX5_mostAlike_35 (by decide) rfl rfl (Or.inr (by intro z e9; cases e9)) rfl ?_
    refine P_goto (tgt := 10) (pc := 38) dX5_mostAlike_38 (by decide) ?_
    exact k
-- X6_init <init>()V
theorem dX6_init_0 : decode cX6_init 0 = .ok (.aload_n 0, 1) := by decide +kernel
theorem dX6_init_1 : decode cX6_init 1 = .ok (.invokespecial 3, 3) := by decide +kernel
theorem dX6_init_4 : decode cX6_init 4 = .ok (.aload_n 0, 1) := by decide +kernel
theorem dX6_init_5 : decode cX6_init 5 = .ok (.sipush 1024, 3) := by decide +kernel
theorem dX6_init_8 : decode cX6_init 8 = .ok (.newarray .int, 2) := by decide +kernel
theorem dX6_init_10 : decode cX6_init 10 = .ok (.putfield 11, 3) := by decide +kernel
theorem dX6_init_13 : decode cX6_init 13 = .ok (.return_, 1) := by decide +kernel
theorem r_X6_init_0 {d rc rs : Nat} {Q : PO → PH → Prop} {h : PH} {l0 : Nat}
    (k : 1 ≤ d ∧ nwA h 0 (1024 : Int32) (.inl (fun _ => 0)) rc rs fun a1 h2 rc3 rs4 => sF h2 (10600, l0) (vR a1) fun h5 => Q (.inl none) h5) :
    PW d M_X6_init Q rc rs 0 [vR (600, l0)] [] h := by
  refine P_aload_n (pc := 0) dX6_init_0 rfl ?_
  refine P_objInit (pc := 1) dX6_init_1 l_X6_3 oi_in oi_co k.1 (Nat.le_of_ble_eq_true rfl) ?_
  replace k := k.2
  refine P_aload_n (pc := 4) dX6_init_4 rfl ?_
  refine P_sipush (v := (1024 : Int32)) (pc := 5) dX6_init_5 (by decide) ?_
  obtain ⟨a1, n9, m9, g9, rc3, rs4, b1, b2, b3, b4, b5, b6, rfl, rfl, k⟩ := k
  refine P_newaI (pc := 8) dX6_init_8 ac_int b1 b2 b3 b4 b5 b6 ?_
  obtain ⟨⟨v9, e9⟩, k⟩ := k
  refine S6_0 (pc := 10) dX6_init_10 l_X6_11 rfl rfl e9 ?_
  clear e9
  exact R_return (pc := 13) dX6_init_13 rfl k
-- X6_find find(LFernHeirs$Court;)V
theorem dX6_find_0 : decode cX6_find 0 = .ok (.aload_n 1, 1) := by decide +kernel
theorem dX6_find_1 : decode cX6_find 1 = .ok (.invokevirtual 15, 3) := by decide +kernel
theorem dX6_find_4 : decode cX6_find 4 = .ok (.istore_n 2, 1) := by decide +kernel
theorem dX6_find_5 : decode cX6_find 5 = .ok (.iload_n 2, 1) := by decide +kernel
theorem dX6_find_6 : decode cX6_find 6 = .ok (.istore_n 3, 1) := by decide +kernel
theorem dX6_find_7 : decode cX6_find 7 = .ok (.iload_n 3, 1) := by decide +kernel
theorem dX6_find_8 : decode cX6_find 8 = .ok (.ifCond .lt 54, 3) := by decide +kernel
theorem dX6_find_11 : decode cX6_find 11 = .ok (.iconst 0, 1) := by decide +kernel
theorem dX6_find_12 : decode cX6_find 12 = .ok (.istore 4, 2) := by decide +kernel
theorem dX6_find_14 : decode cX6_find 14 = .ok (.iload 4, 2) := by decide +kernel
theorem dX6_find_16 : decode cX6_find 16 = .ok (.bipush 7, 2) := by decide +kernel
theorem dX6_find_18 : decode cX6_find 18 = .ok (.if_icmp .gt 38, 3) := by decide +kernel
theorem dX6_find_21 : decode cX6_find 21 = .ok (.aload_n 0, 1) := by decide +kernel
theorem dX6_find_22 : decode cX6_find 22 = .ok (.getfield 11, 3) := by decide +kernel
theorem dX6_find_25 : decode cX6_find 25 = .ok (.iload_n 3, 1) := by decide +kernel
theorem dX6_find_26 : decode cX6_find 26 = .ok (.bipush 8, 2) := by decide +kernel
theorem dX6_find_28 : decode cX6_find 28 = .ok (.imul, 1) := by decide +kernel
theorem dX6_find_29 : decode cX6_find 29 = .ok (.iload 4, 2) := by decide +kernel
theorem dX6_find_31 : decode cX6_find 31 = .ok (.iadd, 1) := by decide +kernel
theorem dX6_find_32 : decode cX6_find 32 = .ok (.iload_n 3, 1) := by decide +kernel
theorem dX6_find_33 : decode cX6_find 33 = .ok (.iload_n 2, 1) := by decide +kernel
theorem dX6_find_34 : decode cX6_find 34 = .ok (.if_icmp .ne 7, 3) := by decide +kernel
theorem dX6_find_37 : decode cX6_find 37 = .ok (.iconst 1, 1) := by decide +kernel
theorem dX6_find_38 : decode cX6_find 38 = .ok (.goto 11, 3) := by decide +kernel
theorem dX6_find_41 : decode cX6_find 41 = .ok (.aload_n 0, 1) := by decide +kernel
theorem dX6_find_42 : decode cX6_find 42 = .ok (.iload_n 3, 1) := by decide +kernel
theorem dX6_find_43 : decode cX6_find 43 = .ok (.iload 4, 2) := by decide +kernel
theorem dX6_find_45 : decode cX6_find 45 = .ok (.aload_n 1, 1) := by decide +kernel
theorem dX6_find_46 : decode cX6_find 46 = .ok (.invokevirtual 21, 3) := by decide +kernel
theorem dX6_find_49 : decode cX6_find 49 = .ok (.iastore, 1) := by decide +kernel
theorem dX6_find_50 : decode cX6_find 50 = .ok (.iinc 4 1, 3) := by decide +kernel
theorem dX6_find_53 : decode cX6_find 53 = .ok (.goto (-39), 3) := by decide +kernel
theorem dX6_find_56 : decode cX6_find 56 = .ok (.iinc 3 (-1), 3) := by decide +kernel
theorem dX6_find_59 : decode cX6_find 59 = .ok (.goto (-52), 3) := by decide +kernel
theorem dX6_find_62 : decode cX6_find 62 = .ok (.return_, 1) := by decide +kernel
theorem r_X6_find_0 {d rc rs : Nat} {Q : PO → PH → Prop} {h : PH} {l0 : Nat} {l1 : Nat}
    (k : isO h 10100 l1 ∧ cl d rc rs M_X1_all [vR (100, l1)] h (kI fun x4 h1 rc2 rs3 => PW d M_X6_find Q rc2 rs3 7 [vR (600, l0), vR (100, l1), vI x4, vI x4, vU] [] h1) (fun E h1 rc2 rs3 => Q (.inr E) h1)) :
    PW d M_X6_find Q rc rs 0 [vR (600, l0), vR (100, l1), vU, vU, vU] [] h := by
  refine P_aload_n (pc := 0) dX6_find_0 rfl ?_
  obtain ⟨⟨w9, e9⟩, d2, nc, ns, rc2, rs3, Qc, g1, rfl, rfl, g2, kk, kx⟩ := k
  refine P_callV (ci := 1) (k := 0) (id := l1) (q := (RX1, TX1, 11)) (As := []) (st := []) (pc := 1) dX6_find_1 mk_X1_all l_X6_15 im_X1_all se_X1_all ini_X1 rfl g1 (Nat.le_of_ble_eq_true rfl) rfl rfl (by decide) e9 rfl g2 (fun v9 h9 q9 => ?_) (fun E h9 q9 => PX_out rfl (kx E h9 q9))
  obtain ⟨x4, rfl, k⟩ := kk v9 h9 q9
  clear kk kx g1 g2 q9
  refine P_istore_n (pc := 4) dX6_find_4 (by decide) (Or.inr (by intro z e9; cases e9)) rfl ?_
  refine P_iload_n (pc := 5) dX6_find_5 rfl ?_
  refine P_istore_n (pc := 6) dX6_find_6 (by decide) (Or.inr (by intro z e9; cases e9)) rfl ?_
  exact k
theorem r_X6_find_7 {d rc rs : Nat} {Q : PO → PH → Prop} {h : PH} {l0 : Nat} {l1 : Nat} {l2 : Int32} {l3 : Int32}
    (k : br (l3 < 0) (Q (.inl none) h) (PW d M_X6_find Q rc rs 14 [vR (600, l0), vR (100, l1), vI l2, vI l3, vI (0 : Int32)] [] h)) :
    PW d M_X6_find Q rc rs 7 [vR (600, l0), vR (100, l1), vI l2, vI l3, vU] [] h := by
  refine P_iload_n (pc := 7) dX6_find_7 rfl ?_
  refine P_if_lt (tgt := 62) (pc := 8) dX6_find_8 (by decide) (fun c => ?_) (fun c => ?_)
  · have k := k.1 c
    exact R_return (pc := 62) dX6_find_62 rfl k
  · have k := k.2 c
    refine P_iconst (v := (0 : Int32)) (pc := 11) dX6_find_11 (by decide) ?_
    refine P_istore (pc := 12) dX6_find_12 (by decide) (Or.inr (by intro z e9; cases e9)) rfl ?_
    exact k
theorem r_X6_find_14 {d rc rs : Nat} {Q : PO → PH → Prop} {h : PH} {l0 : Nat} {l1 : Nat} {l2 : Int32} {l3 : Int32} {l4 : Int32}
    (k : br ((7 : Int32) < l4) (PW d M_X6_find Q rc rs 7 [vR (600, l0), vR (100, l1), vI l2, vI (l3 + (-1 : Int32)), vU] [] h) (gA h (10600, l0) fun a1 => br (l3 = l2) (yI h a1 ((l3 * (8 : Int32)) + l4) (1 : Int32) fun h7 => PW d M_X6_find Q rc rs 14 [vR (600, l0), vR (100, l1), vI l2, vI l3, vI (l4 + (1 : Int32))] [] h7) (isO h 10600 l0 ∧ cl d rc rs M_X6_waysBehind [vR (600, l0), vI l3, vI l4, vR (100, l1)] h (kI fun x5 h2 rc3 rs4 => yI h2 a1 ((l3 * (8 : Int32)) + l4) x5 fun h6 => PW d M_X6_find Q rc3 rs4 14 [vR (600, l0), vR (100, l1), vI l2, vI l3, vI (l4 + (1 : Int32))] [] h6) (fun E h2 rc3 rs4 => Q (.inr E) h2)))) :
    PW d M_X6_find Q rc rs 14 [vR (600, l0), vR (100, l1), vI l2, vI l3, vI l4] [] h := by
  refine P_iload (pc := 14) dX6_find_14 rfl ?_
  refine P_bipush (v := (7 : Int32)) (pc := 16) dX6_find_16 (by decide) ?_
  refine P_icmp_gt (tgt := 56) (pc := 18) dX6_find_18 (by decide) (fun c => ?_) (fun c => ?_)
  · have k := k.1 c
    refine P_iinc (v := l3 + (-1 : Int32)) (pc := 56) dX6_find_56 (by decide) rfl rfl (Or.inr (by intro z e9; cases e9)) rfl ?_
    refine P_goto (tgt := 7) (pc := 59) dX6_find_59 (by decide) ?_
    exact P_drop (ls2 := [vR (600, l0), vR (100, l1), vI l2, vI (l3 + (-1 : Int32)), vU]) (ls := [vR (600, l0), vR (100, l1), vI l2, vI (l3 + (-1 : Int32)), vI l4]) ⟨Or.inr rfl, ⟨Or.inr rfl, ⟨Or.inr rfl, ⟨Or.inr rfl, ⟨Or.inl rfl, trivial⟩⟩⟩⟩⟩ k
  · have k := k.2 c
    refine P_aload_n (pc := 21) dX6_find_21 rfl ?_
    obtain ⟨a1, e9, k⟩ := k
    refine G6_0 (pc := 22) dX6_find_22 l_X6_11 e9 ?_
    clear e9
    refine P_iload_n (pc := 25) dX6_find_25 rfl ?_
    refine P_bipush (v := (8 : Int32)) (pc := 26) dX6_find_26 (by decide) ?_
    refine P_imul (pc := 28) dX6_find_28 ?_
    refine P_iload (pc := 29) dX6_find_29 rfl ?_
    refine P_iadd (pc := 31) dX6_find_31 ?_
    refine P_iload_n (pc := 32) dX6_find_32 rfl ?_
    refine P_iload_n (pc := 33) dX6_find_33 rfl ?_
    refine P_icmp_ne (tgt := 41) (pc := 34) dX6_find_34 (by decide) (fun c => ?_) (fun c => ?_)
    · have k := k.2 c
      refine P_aload_n (pc := 41) dX6_find_41 rfl ?_
      refine P_iload_n (pc := 42) dX6_find_42 rfl ?_
      refine P_iload (pc := 43) dX6_find_43 rfl ?_
      refine P_aload_n (pc := 45) dX6_find_45 rfl ?_
      obtain ⟨⟨w9, e9⟩, d2, nc, ns, rc3, rs4, Qc, g1, rfl, rfl, g2, kk, kx⟩ := k
      refine P_callV (ci := 6) (k := 0) (id := l0) (q := (RX6, TX6, 1)) (As := [vI l3, vI l4, vR (100, l1)]) (st := [vI ((l3 * (8 : Int32)) + l4), vR a1]) (pc := 46) dX6_find_46 mk_X6_waysBehind l_X6_21 im_X6_waysBehind se_X6_waysBehind ini_X6 rfl g1 (Nat.le_of_ble_eq_true rfl) rfl rfl (by decide) e9 rfl g2 (fun v9 h9 q9 => ?_) (fun E h9 q9 => PX_out rfl (kx E h9 q9))
      obtain ⟨x5, rfl, k⟩ := kk v9 h9 q9
      clear kk kx g1 g2 q9
      obtain ⟨n9, f9, e9, i9, k⟩ := k
      refine P_iast (pc := 49) dX6_find_49 e9 i9 ?_
      clear e9
      refine P_iinc (v := l4 + (1 : Int32)) (pc := 50) dX6_find_50 (by decide) rfl rfl (Or.inr (by intro z e9; cases e9)) rfl ?_
      refine P_goto (tgt := 14) (pc := 53) dX6_find_53 (by decide) ?_
      exact k
    · have k := k.1 c
      refine P_iconst (v := (1 : Int32)) (pc := 37) dX6_find_37 (by decide) ?_
      refine P_goto (tgt := 49) (pc := 38) dX6_find_38 (by decide) ?_
      obtain ⟨n9, f9, e9, i9, k⟩ := k
      refine P_iast (pc := 49) dX6_find_49 e9 i9 ?_
      clear e9
      refine P_iinc (v := l4 + (1 : Int32)) (pc := 50) dX6_find_50 (by decide) rfl rfl (Or.inr (by intro z e9; cases e9)) rfl ?_
      refine P_goto (tgt := 14) (pc := 53) dX6_find_53 (by decide) ?_
      exact k
-- X6_waysBehind waysBehind(IILFernHeirs$Court;)I
theorem dX6_waysBehind_0 : decode cX6_waysBehind 0 = .ok (.iconst 0, 1) := by decide +kernel
theorem dX6_waysBehind_1 : decode cX6_waysBehind 1 = .ok (.istore 4, 2) := by decide +kernel
theorem dX6_waysBehind_3 : decode cX6_waysBehind 3 = .ok (.iconst 0, 1) := by decide +kernel
theorem dX6_waysBehind_4 : decode cX6_waysBehind 4 = .ok (.istore 5, 2) := by decide +kernel
theorem dX6_waysBehind_6 : decode cX6_waysBehind 6 = .ok (.iload 5, 2) := by decide +kernel
theorem dX6_waysBehind_8 : decode cX6_waysBehind 8 = .ok (.aload_n 3, 1) := by decide +kernel
theorem dX6_waysBehind_9 : decode cX6_waysBehind 9 = .ok (.getfield 25, 3) := by decide +kernel
theorem dX6_waysBehind_12 : decode cX6_waysBehind 12 = .ok (.if_icmp .ge 42, 3) := by decide +kernel
theorem dX6_waysBehind_15 : decode cX6_waysBehind 15 = .ok (.iload_n 1, 1) := by decide +kernel
theorem dX6_waysBehind_16 : decode cX6_waysBehind 16 = .ok (.iload_n 2, 1) := by decide +kernel
theorem dX6_waysBehind_17 : decode cX6_waysBehind 17 = .ok (.iload 5, 2) := by decide +kernel
theorem dX6_waysBehind_19 : decode cX6_waysBehind 19 = .ok (.aload_n 3, 1) := by decide +kernel
theorem dX6_waysBehind_20 : decode cX6_waysBehind 20 = .ok (.invokestatic 29, 3) := by decide +kernel
theorem dX6_waysBehind_23 : decode cX6_waysBehind 23 = .ok (.ifCond .eq 25, 3) := by decide +kernel
theorem dX6_waysBehind_26 : decode cX6_waysBehind 26 = .ok (.iload 4, 2) := by decide +kernel
theorem dX6_waysBehind_28 : decode cX6_waysBehind 28 = .ok (.aload_n 0, 1) := by decide +kernel
theorem dX6_waysBehind_29 : decode cX6_waysBehind 29 = .ok (.getfield 11, 3) := by decide +kernel
theorem dX6_waysBehind_32 : decode cX6_waysBehind 32 = .ok (.iload_n 1, 1) := by decide +kernel
theorem dX6_waysBehind_33 : decode cX6_waysBehind 33 = .ok (.iconst 1, 1) := by decide +kernel
theorem dX6_waysBehind_34 : decode cX6_waysBehind 34 = .ok (.iload 5, 2) := by decide +kernel
theorem dX6_waysBehind_36 : decode cX6_waysBehind 36 = .ok (.ishl, 1) := by decide +kernel
theorem dX6_waysBehind_37 : decode cX6_waysBehind 37 = .ok (.ior, 1) := by decide +kernel
theorem dX6_waysBehind_38 : decode cX6_waysBehind 38 = .ok (.bipush 8, 2) := by decide +kernel
theorem dX6_waysBehind_40 : decode cX6_waysBehind 40 = .ok (.imul, 1) := by decide +kernel
theorem dX6_waysBehind_41 : decode cX6_waysBehind 41 = .ok (.iload 5, 2) := by decide +kernel
theorem dX6_waysBehind_43 : decode cX6_waysBehind 43 = .ok (.iadd, 1) := by decide +kernel
theorem dX6_waysBehind_44 : decode cX6_waysBehind 44 = .ok (.iaload, 1) := by decide +kernel
theorem dX6_waysBehind_45 : decode cX6_waysBehind 45 = .ok (.iadd, 1) := by decide +kernel
theorem dX6_waysBehind_46 : decode cX6_waysBehind 46 = .ok (.istore 4, 2) := by decide +kernel
theorem dX6_waysBehind_48 : decode cX6_waysBehind 48 = .ok (.iinc 5 1, 3) := by decide +kernel
theorem dX6_waysBehind_51 : decode cX6_waysBehind 51 = .ok (.goto (-45), 3) := by decide +kernel
theorem dX6_waysBehind_54 : decode cX6_waysBehind 54 = .ok (.iload 4, 2) := by decide +kernel
theorem dX6_waysBehind_56 : decode cX6_waysBehind 56 = .ok (.ireturn, 1) := by decide +kernel
theorem r_X6_waysBehind_0 {d rc rs : Nat} {Q : PO → PH → Prop} {h : PH} {l0 : Nat} {l1 : Int32} {l2 : Int32} {l3 : Nat}
    (k : PW d M_X6_waysBehind Q rc rs 6 [vR (600, l0), vI l1, vI l2, vR (100, l3), vI (0 : Int32), vI (0 : Int32)] [] h) :
    PW d M_X6_waysBehind Q rc rs 0 [vR (600, l0), vI l1, vI l2, vR (100, l3), vU, vU] [] h := by
  refine P_iconst (v := (0 : Int32)) (pc := 0) dX6_waysBehind_0 (by decide) ?_
  refine P_istore (pc := 1) dX6_waysBehind_1 (by decide) (Or.inr (by intro z e9; cases e9)) rfl ?_
  refine P_iconst (v := (0 : Int32)) (pc := 3) dX6_waysBehind_3 (by decide) ?_
  refine P_istore (pc := 4) dX6_waysBehind_4 (by decide) (Or.inr (by intro z e9; cases e9)) rfl ?_
  exact k
theorem r_X6_waysBehind_6 {d rc rs : Nat} {Q : PO → PH → Prop} {h : PH} {l0 : Nat} {l1 : Int32} {l2 : Int32} {l3 : Nat} {l4 : Int32} {l5 : Int32}
    (k : gI h (10107, l3) fun x1 => br (l5 < x1) (cl d rc rs M_X6_mayFollow [vI l1, vI l2, vI l5, vR (100, l3)] h (kI fun x5 h2 rc3 rs4 => br (x5 = 0) (PW d M_X6_waysBehind Q rc3 rs4 6 [vR (600, l0), vI l1, vI l2, vR (100, l3), vI l4, vI (l5 + (1 : Int32))] [] h2) (gA h2 (10600, l0) fun a6 => xI h2 a6 (((l1 ||| ((1 : Int32) <<< (l5 &&& 31))) * (8 : Int32)) + l5) fun x7 => PW d M_X6_waysBehind Q rc3 rs4 6 [vR (600, l0), vI l1, vI l2, vR (100, l3), vI (l4 + x7), vI (l5 + (1 : Int32))] [] h2)) (fun E h2 rc3 rs4 => Q (.inr E) h2)) (Q (.inl (some (vI l4))) h)) :
    PW d M_X6_waysBehind Q rc rs 6 [vR (600, l0), vI l1, vI l2, vR (100, l3), vI l4, vI l5] [] h := by
  refine P_iload (pc := 6) dX6_waysBehind_6 rfl ?_
  refine P_aload_n (pc := 8) dX6_waysBehind_8 rfl ?_
  obtain ⟨x1, e9, k⟩ := k
  refine GN1_7 (pc := 9) dX6_waysBehind_9 n_X6_25 e9 ?_
  clear e9
  refine P_icmp_ge (tgt := 54) (pc := 12) dX6_waysBehind_12 (by decide) (fun c => ?_) (fun c => ?_)
  · have k := k.2 (Int32.not_lt.mpr c)
    refine P_iload (pc := 54) dX6_waysBehind_54 rfl ?_
    exact R_ireturn (pc := 56) dX6_waysBehind_56 rfl rfl k
  · have k := k.1 (Int32.not_le.mp c)
    refine P_iload_n (pc := 15) dX6_waysBehind_15 rfl ?_
    refine P_iload_n (pc := 16) dX6_waysBehind_16 rfl ?_
    refine P_iload (pc := 17) dX6_waysBehind_17 rfl ?_
    refine P_aload_n (pc := 19) dX6_waysBehind_19 rfl ?_
    obtain ⟨d2, nc, ns, rc3, rs4, Qc, g1, rfl, rfl, g2, kk, kx⟩ := k
    refine P_callS (As := [vI l1, vI l2, vI l5, vR (100, l3)]) (st := []) (pc := 20) dX6_waysBehind_20 mk_X6_mayFollow l_X6_29 st_X6_mayFollow ini_X6 rfl g1 (Nat.le_of_ble_eq_true rfl) rfl g2 (fun v9 h9 q9 => ?_) (fun E h9 q9 => PX_out rfl (kx E h9 q9))
    obtain ⟨x5, rfl, k⟩ := kk v9 h9 q9
    clear kk kx g1 g2 q9
    refine P_if_eq (tgt := 48) (pc := 23) dX6_waysBehind_23 (by decide) (fun c => ?_) (fun c => ?_)
    · have k := k.1 c
      refine P_iinc (v := l5 + (1 : Int32)) (pc := 48) dX6_waysBehind_48 (by decide) rfl rfl (Or.inr (by intro z e9; cases e9)) rfl ?_
      refine P_goto (tgt := 6) (pc := 51) dX6_waysBehind_51 (by decide) ?_
      exact k
    · have k := k.2 c
      refine P_iload (pc := 26) dX6_waysBehind_26 rfl ?_
      refine P_aload_n (pc := 28) dX6_waysBehind_28 rfl ?_
      obtain ⟨a6, e9, k⟩ := k
      refine G6_0 (pc := 29) dX6_waysBehind_29 l_X6_11 e9 ?_
      clear e9
      refine P_iload_n (pc := 32) dX6_waysBehind_32 rfl ?_
      refine P_iconst (v := (1 : Int32)) (pc := 33) dX6_waysBehind_33 (by decide) ?_
      refine P_iload (pc := 34) dX6_waysBehind_34 rfl ?_
      refine P_ishl (pc := 36) dX6_waysBehind_36 ?_
      refine P_ior (pc := 37) dX6_waysBehind_37 ?_
      refine P_bipush (v := (8 : Int32)) (pc := 38) dX6_waysBehind_38 (by decide) ?_
      refine P_imul (pc := 40) dX6_waysBehind_40 ?_
      refine P_iload (pc := 41) dX6_waysBehind_41 rfl ?_
      refine P_iadd (pc := 43) dX6_waysBehind_43 ?_
      obtain ⟨n9, f9, e9, i9, k⟩ := k
      refine P_iald (pc := 44) dX6_waysBehind_44 e9 i9 ?_
      clear e9
      generalize f9 (Int32.toNatClampNeg (((l1 ||| ((1 : Int32) <<< (l5 &&& 31))) * (8 : Int32)) + l5)) = x7 at k ⊢
      refine P_iadd (pc := 45) dX6_waysBehind_45 ?_
      refine P_istore (pc := 46) dX6_waysBehind_46 (by decide) (Or.inr (by intro z e9; cases e9)) rfl ?_
      refine P_iinc (v := l5 + (1 : Int32)) (pc := 48) dX6_waysBehind_48 (by decide) rfl rfl (Or.inr (by intro z e9; cases e9)) rfl ?_
      refine P_goto (tgt := 6) (pc := 51) dX6_waysBehind_51 (by decide) ?_
      exact k
-- X6_mayFollow mayFollow(IIILFernHeirs$Court;)Z
theorem dX6_mayFollow_0 : decode cX6_mayFollow 0 = .ok (.iload_n 0, 1) := by decide +kernel
theorem dX6_mayFollow_1 : decode cX6_mayFollow 1 = .ok (.iconst 1, 1) := by decide +kernel
theorem dX6_mayFollow_2 : decode cX6_mayFollow 2 = .ok (.iload_n 2, 1) := by decide +kernel
theorem dX6_mayFollow_3 : decode cX6_mayFollow 3 = .ok (.ishl, 1) := by decide +kernel
theorem dX6_mayFollow_4 : decode cX6_mayFollow 4 = .ok (.iand, 1) := by decide +kernel
theorem dX6_mayFollow_5 : decode cX6_mayFollow 5 = .ok (.ifCond .ne 22, 3) := by decide +kernel
theorem dX6_mayFollow_8 : decode cX6_mayFollow 8 = .ok (.iload_n 1, 1) := by decide +kernel
theorem dX6_mayFollow_9 : decode cX6_mayFollow 9 = .ok (.bipush 7, 2) := by decide +kernel
theorem dX6_mayFollow_11 : decode cX6_mayFollow 11 = .ok (.if_icmp .eq 12, 3) := by decide +kernel
theorem dX6_mayFollow_14 : decode cX6_mayFollow 14 = .ok (.aload_n 3, 1) := by decide +kernel
theorem dX6_mayFollow_15 : decode cX6_mayFollow 15 = .ok (.iload_n 1, 1) := by decide +kernel
theorem dX6_mayFollow_16 : decode cX6_mayFollow 16 = .ok (.iload_n 2, 1) := by decide +kernel
theorem dX6_mayFollow_17 : decode cX6_mayFollow 17 = .ok (.invokevirtual 33, 3) := by decide +kernel
theorem dX6_mayFollow_20 : decode cX6_mayFollow 20 = .ok (.ifCond .ne 7, 3) := by decide +kernel
theorem dX6_mayFollow_23 : decode cX6_mayFollow 23 = .ok (.iconst 1, 1) := by decide +kernel
theorem dX6_mayFollow_24 : decode cX6_mayFollow 24 = .ok (.goto 4, 3) := by decide +kernel
theorem dX6_mayFollow_27 : decode cX6_mayFollow 27 = .ok (.iconst 0, 1) := by decide +kernel
theorem dX6_mayFollow_28 : decode cX6_mayFollow 28 = .ok (.ireturn, 1) := by decide +kernel
theorem r_X6_mayFollow_0 {d rc rs : Nat} {Q : PO → PH → Prop} {h : PH} {l0 : Int32} {l1 : Int32} {l2 : Int32} {l3 : Nat}
    (k : br ((l0 &&& ((1 : Int32) <<< (l2 &&& 31))) = 0) (br (l1 = (7 : Int32)) (Q (.inl (some (vI (1 : Int32)))) h) (isO h 10100 l3 ∧ cl d rc rs M_X1_areTwo [vR (100, l3), vI l1, vI l2] h (kI fun x4 h1 rc2 rs3 => br (x4 = 0) (Q (.inl (some (vI (1 : Int32)))) h1) (Q (.inl (some (vI (0 : Int32)))) h1)) (fun E h1 rc2 rs3 => Q (.inr E) h1))) (Q (.inl (some (vI (0 : Int32)))) h)) :
    PW d M_X6_mayFollow Q rc rs 0 [vI l0, vI l1, vI l2, vR (100, l3)] [] h := by
  refine P_iload_n (pc := 0) dX6_mayFollow_0 rfl ?_
  refine P_iconst (v := (1 : Int32)) (pc := 1) dX6_mayFollow_1 (by decide) ?_
  refine P_iload_n (pc := 2) dX6_mayFollow_2 rfl ?_
  refine P_ishl (pc := 3) dX6_mayFollow_3 ?_
  refine P_iand (pc := 4) dX6_mayFollow_4 ?_
  refine P_if_ne (tgt := 27) (pc := 5) dX6_mayFollow_5 (by decide) (fun c => ?_) (fun c => ?_)
  · have k := k.2 c
    refine P_iconst (v := (0 : Int32)) (pc := 27) dX6_mayFollow_27 (by decide) ?_
    exact R_ireturn (pc := 28) dX6_mayFollow_28 rfl rfl k
  · have k := k.1 c
    refine P_iload_n (pc := 8) dX6_mayFollow_8 rfl ?_
    refine P_bipush (v := (7 : Int32)) (pc := 9) dX6_mayFollow_9 (by decide) ?_
    refine P_icmp_eq (tgt := 23) (pc := 11) dX6_mayFollow_11 (by decide) (fun c => ?_) (fun c => ?_)
    · have k := k.1 c
      refine P_iconst (v := (1 : Int32)) (pc := 23) dX6_mayFollow_23 (by decide) ?_
      refine P_goto (tgt := 28) (pc := 24) dX6_mayFollow_24 (by decide) ?_
      exact R_ireturn (pc := 28) dX6_mayFollow_28 rfl rfl k
    · have k := k.2 c
      refine P_aload_n (pc := 14) dX6_mayFollow_14 rfl ?_
      refine P_iload_n (pc := 15) dX6_mayFollow_15 rfl ?_
      refine P_iload_n (pc := 16) dX6_mayFollow_16 rfl ?_
      obtain ⟨⟨w9, e9⟩, d2, nc, ns, rc2, rs3, Qc, g1, rfl, rfl, g2, kk, kx⟩ := k
      refine P_callV (ci := 1) (k := 0) (id := l3) (q := (RX1, TX1, 11)) (As := [vI l1, vI l2]) (st := []) (pc := 17) dX6_mayFollow_17 mk_X1_areTwo l_X6_33 im_X1_areTwo se_X1_areTwo ini_X1 rfl g1 (Nat.le_of_ble_eq_true rfl) rfl rfl (by decide) e9 rfl g2 (fun v9 h9 q9 => ?_) (fun E h9 q9 => PX_out rfl (kx E h9 q9))
      obtain ⟨x4, rfl, k⟩ := kk v9 h9 q9
      clear kk kx g1 g2 q9
      refine P_if_ne (tgt := 27) (pc := 20) dX6_mayFollow_20 (by decide) (fun c => ?_) (fun c => ?_)
      · have k := k.2 c
        refine P_iconst (v := (0 : Int32)) (pc := 27) dX6_mayFollow_27 (by decide) ?_
        exact R_ireturn (pc := 28) dX6_mayFollow_28 rfl rfl k
      · have k := k.1 c
        refine P_iconst (v := (1 : Int32)) (pc := 23) dX6_mayFollow_23 (by decide) ?_
        refine P_goto (tgt := 28) (pc := 24) dX6_mayFollow_24 (by decide) ?_
        exact R_ireturn (pc := 28) dX6_mayFollow_28 rfl rfl k
-- X6_inAll inAll()I
theorem dX6_inAll_0 : decode cX6_inAll 0 = .ok (.aload_n 0, 1) := by decide +kernel
theorem dX6_inAll_1 : decode cX6_inAll 1 = .ok (.getfield 11, 3) := by decide +kernel
theorem dX6_inAll_4 : decode cX6_inAll 4 = .ok (.bipush 7, 2) := by decide +kernel
theorem dX6_inAll_6 : decode cX6_inAll 6 = .ok (.iaload, 1) := by decide +kernel
theorem dX6_inAll_7 : decode cX6_inAll 7 = .ok (.ireturn, 1) := by decide +kernel
theorem r_X6_inAll_0 {d rc rs : Nat} {Q : PO → PH → Prop} {h : PH} {l0 : Nat}
    (k : gA h (10600, l0) fun a1 => xI h a1 (7 : Int32) fun x2 => Q (.inl (some (vI x2))) h) :
    PW d M_X6_inAll Q rc rs 0 [vR (600, l0)] [] h := by
  refine P_aload_n (pc := 0) dX6_inAll_0 rfl ?_
  obtain ⟨a1, e9, k⟩ := k
  refine G6_0 (pc := 1) dX6_inAll_1 l_X6_11 e9 ?_
  clear e9
  refine P_bipush (v := (7 : Int32)) (pc := 4) dX6_inAll_4 (by decide) ?_
  obtain ⟨n9, f9, e9, i9, k⟩ := k
  refine P_iald (pc := 6) dX6_inAll_6 e9 i9 ?_
  clear e9
  generalize f9 (Int32.toNatClampNeg (7 : Int32)) = x2 at k ⊢
  exact R_ireturn (pc := 7) dX6_inAll_7 rfl rfl k
-- X6_firstOn firstOn(ILFernHeirs$Court;)I
theorem dX6_firstOn_0 : decode cX6_firstOn 0 = .ok (.iload_n 1, 1) := by decide +kernel
theorem dX6_firstOn_1 : decode cX6_firstOn 1 = .ok (.aload_n 2, 1) := by decide +kernel
theorem dX6_firstOn_2 : decode cX6_firstOn 2 = .ok (.getfield 25, 3) := by decide +kernel
theorem dX6_firstOn_5 : decode cX6_firstOn 5 = .ok (.if_icmp .lt 5, 3) := by decide +kernel
theorem dX6_firstOn_8 : decode cX6_firstOn 8 = .ok (.iconst (-1), 1) := by decide +kernel
theorem dX6_firstOn_9 : decode cX6_firstOn 9 = .ok (.ireturn, 1) := by decide +kernel
theorem dX6_firstOn_10 : decode cX6_firstOn 10 = .ok (.iconst 0, 1) := by decide +kernel
theorem dX6_firstOn_11 : decode cX6_firstOn 11 = .ok (.istore_n 3, 1) := by decide +kernel
theorem dX6_firstOn_12 : decode cX6_firstOn 12 = .ok (.bipush 7, 2) := by decide +kernel
theorem dX6_firstOn_14 : decode cX6_firstOn 14 = .ok (.istore 4, 2) := by decide +kernel
theorem dX6_firstOn_16 : decode cX6_firstOn 16 = .ok (.iconst 0, 1) := by decide +kernel
theorem dX6_firstOn_17 : decode cX6_firstOn 17 = .ok (.istore 5, 2) := by decide +kernel
theorem dX6_firstOn_19 : decode cX6_firstOn 19 = .ok (.iload 5, 2) := by decide +kernel
theorem dX6_firstOn_21 : decode cX6_firstOn 21 = .ok (.iload_n 1, 1) := by decide +kernel
theorem dX6_firstOn_22 : decode cX6_firstOn 22 = .ok (.if_icmp .gt 35, 3) := by decide +kernel
theorem dX6_firstOn_25 : decode cX6_firstOn 25 = .ok (.aload_n 0, 1) := by decide +kernel
theorem dX6_firstOn_26 : decode cX6_firstOn 26 = .ok (.iload_n 3, 1) := by decide +kernel
theorem dX6_firstOn_27 : decode cX6_firstOn 27 = .ok (.iload 4, 2) := by decide +kernel
theorem dX6_firstOn_29 : decode cX6_firstOn 29 = .ok (.aload_n 2, 1) := by decide +kernel
theorem dX6_firstOn_30 : decode cX6_firstOn 30 = .ok (.invokevirtual 37, 3) := by decide +kernel
theorem dX6_firstOn_33 : decode cX6_firstOn 33 = .ok (.istore 4, 2) := by decide +kernel
theorem dX6_firstOn_35 : decode cX6_firstOn 35 = .ok (.iload 4, 2) := by decide +kernel
theorem dX6_firstOn_37 : decode cX6_firstOn 37 = .ok (.bipush 7, 2) := by decide +kernel
theorem dX6_firstOn_39 : decode cX6_firstOn 39 = .ok (.if_icmp .ne 5, 3) := by decide +kernel
theorem dX6_firstOn_42 : decode cX6_firstOn 42 = .ok (.iconst (-1), 1) := by decide +kernel
theorem dX6_firstOn_43 : decode cX6_firstOn 43 = .ok (.ireturn, 1) := by decide +kernel
theorem dX6_firstOn_44 : decode cX6_firstOn 44 = .ok (.iload_n 3, 1) := by decide +kernel
theorem dX6_firstOn_45 : decode cX6_firstOn 45 = .ok (.iconst 1, 1) := by decide +kernel
theorem dX6_firstOn_46 : decode cX6_firstOn 46 = .ok (.iload 4, 2) := by decide +kernel
theorem dX6_firstOn_48 : decode cX6_firstOn 48 = .ok (.ishl, 1) := by decide +kernel
theorem dX6_firstOn_49 : decode cX6_firstOn 49 = .ok (.ior, 1) := by decide +kernel
theorem dX6_firstOn_50 : decode cX6_firstOn 50 = .ok (.istore_n 3, 1) := by decide +kernel
theorem dX6_firstOn_51 : decode cX6_firstOn 51 = .ok (.iinc 5 1, 3) := by decide +kernel
theorem dX6_firstOn_54 : decode cX6_firstOn 54 = .ok (.goto (-35), 3) := by decide +kernel
theorem dX6_firstOn_57 : decode cX6_firstOn 57 = .ok (.iload 4, 2) := by decide +kernel
theorem dX6_firstOn_59 : decode cX6_firstOn 59 = .ok (.ireturn, 1) := by decide +kernel
theorem r_X6_firstOn_0 {d rc rs : Nat} {Q : PO → PH → Prop} {h : PH} {l0 : Nat} {l1 : Int32} {l2 : Nat}
    (k : gI h (10107, l2) fun x1 => br (l1 < x1) (PW d M_X6_firstOn Q rc rs 19 [vR (600, l0), vI l1, vR (100, l2), vI (0 : Int32), vI (7 : Int32), vI (0 : Int32)] [] h) (Q (.inl (some (vI (-1 : Int32)))) h)) :
    PW d M_X6_firstOn Q rc rs 0 [vR (600, l0), vI l1, vR (100, l2), vU, vU, vU] [] h := by
  refine P_iload_n (pc := 0) dX6_firstOn_0 rfl ?_
  refine P_aload_n (pc := 1) dX6_firstOn_1 rfl ?_
  obtain ⟨x1, e9, k⟩ := k
  refine GN1_7 (pc := 2) dX6_firstOn_2 n_X6_25 e9 ?_
  clear e9
  refine P_icmp_lt (tgt := 10) (pc := 5) dX6_firstOn_5 (by decide) (fun c => ?_) (fun c => ?_)
  · have k := k.1 c
    refine P_iconst (v := (0 : Int32)) (pc := 10) dX6_firstOn_10 (by decide) ?_
    refine P_istore_n (pc := 11) dX6_firstOn_11 (by decide) (Or.inr (by intro z e9; cases e9)) rfl ?_
    refine P_bipush (v := (7 : Int32)) (pc := 12) dX6_firstOn_12 (by decide) ?_
    refine P_istore (pc := 14) dX6_firstOn_14 (by decide) (Or.inr (by intro z e9; cases e9)) rfl ?_
    refine P_iconst (v := (0 : Int32)) (pc := 16) dX6_firstOn_16 (by decide) ?_
    refine P_istore (pc := 17) dX6_firstOn_17 (by decide) (Or.inr (by intro z e9; cases e9)) rfl ?_
    exact k
  · have k := k.2 c
    refine P_iconst (v := (-1 : Int32)) (pc := 8) dX6_firstOn_8 (by decide) ?_
    exact R_ireturn (pc := 9) dX6_firstOn_9 rfl rfl k
theorem r_X6_firstOn_19 {d rc rs : Nat} {Q : PO → PH → Prop} {h : PH} {l0 : Nat} {l1 : Int32} {l2 : Nat} {l3 : Int32} {l4 : Int32} {l5 : Int32}
    (k : br (l1 < l5) (Q (.inl (some (vI l4))) h) (isO h 10600 l0 ∧ cl d rc rs M_X6_firstBehind [vR (600, l0), vI l3, vI l4, vR (100, l2)] h (kI fun x4 h1 rc2 rs3 => br (x4 = (7 : Int32)) (Q (.inl (some (vI (-1 : Int32)))) h1) (PW d M_X6_firstOn Q rc2 rs3 19 [vR (600, l0), vI l1, vR (100, l2), vI (l3 ||| ((1 : Int32) <<< (x4 &&& 31))), vI x4, vI (l5 + (1 : Int32))] [] h1)) (fun E h1 rc2 rs3 => Q (.inr E) h1))) :
    PW d M_X6_firstOn Q rc rs 19 [vR (600, l0), vI l1, vR (100, l2), vI l3, vI l4, vI l5] [] h := by
  refine P_iload (pc := 19) dX6_firstOn_19 rfl ?_
  refine P_iload_n (pc := 21) dX6_firstOn_21 rfl ?_
  refine P_icmp_gt (tgt := 57) (pc := 22) dX6_firstOn_22 (by decide) (fun c => ?_) (fun c => ?_)
  · have k := k.1 c
    refine P_iload (pc := 57) dX6_firstOn_57 rfl ?_
    exact R_ireturn (pc := 59) dX6_firstOn_59 rfl rfl k
  · have k := k.2 c
    refine P_aload_n (pc := 25) dX6_firstOn_25 rfl ?_
    refine P_iload_n (pc := 26) dX6_firstOn_26 rfl ?_
    refine P_iload (pc := 27) dX6_firstOn_27 rfl ?_
    refine P_aload_n (pc := 29) dX6_firstOn_29 rfl ?_
    obtain ⟨⟨w9, e9⟩, d2, nc, ns, rc2, rs3, Qc, g1, rfl, rfl, g2, kk, kx⟩ := k
    refine P_callV (ci := 6) (k := 0) (id := l0) (q := (RX6, TX6, 1)) (As := [vI l3, vI l4, vR (100, l2)]) (st := []) (pc := 30) dX6_firstOn_30 mk_X6_firstBehind l_X6_37 im_X6_firstBehind se_X6_firstBehind ini_X6 rfl g1 (Nat.le_of_ble_eq_true rfl) rfl rfl (by decide) e9 rfl g2 (fun v9 h9 q9 => ?_) (fun E h9 q9 => PX_out rfl (kx E h9 q9))
    obtain ⟨x4, rfl, k⟩ := kk v9 h9 q9
    clear kk kx g1 g2 q9
    refine P_istore (pc := 33) dX6_firstOn_33 (by decide) (Or.inr (by intro z e9; cases e9)) rfl ?_
    refine P_iload (pc := 35) dX6_firstOn_35 rfl ?_
    refine P_bipush (v := (7 : Int32)) (pc := 37) dX6_firstOn_37 (by decide) ?_
    refine P_icmp_ne (tgt := 44) (pc := 39) dX6_firstOn_39 (by decide) (fun c => ?_) (fun c => ?_)
    · have k := k.2 c
      refine P_iload_n (pc := 44) dX6_firstOn_44 rfl ?_
      refine P_iconst (v := (1 : Int32)) (pc := 45) dX6_firstOn_45 (by decide) ?_
      refine P_iload (pc := 46) dX6_firstOn_46 rfl ?_
      refine P_ishl (pc := 48) dX6_firstOn_48 ?_
      refine P_ior (pc := 49) dX6_firstOn_49 ?_
      refine P_istore_n (pc := 50) dX6_firstOn_50 (by decide) (Or.inr (by intro z e9; cases e9)) rfl ?_
      refine P_iinc (v := l5 + (1 : Int32)) (pc := 51) dX6_firstOn_51 (by decide) rfl rfl (Or.inr (by intro z e9; cases e9)) rfl ?_
      refine P_goto (tgt := 19) (pc := 54) dX6_firstOn_54 (by decide) ?_
      exact k
    · have k := k.1 c
      refine P_iconst (v := (-1 : Int32)) (pc := 42) dX6_firstOn_42 (by decide) ?_
      exact R_ireturn (pc := 43) dX6_firstOn_43 rfl rfl k
-- X6_firstBehind firstBehind(IILFernHeirs$Court;)I
theorem dX6_firstBehind_0 : decode cX6_firstBehind 0 = .ok (.iconst 0, 1) := by decide +kernel
theorem dX6_firstBehind_1 : decode cX6_firstBehind 1 = .ok (.istore 4, 2) := by decide +kernel
theorem dX6_firstBehind_3 : decode cX6_firstBehind 3 = .ok (.iload 4, 2) := by decide +kernel
theorem dX6_firstBehind_5 : decode cX6_firstBehind 5 = .ok (.aload_n 3, 1) := by decide +kernel
theorem dX6_firstBehind_6 : decode cX6_firstBehind 6 = .ok (.getfield 25, 3) := by decide +kernel
theorem dX6_firstBehind_9 : decode cX6_firstBehind 9 = .ok (.if_icmp .ge 43, 3) := by decide +kernel
theorem dX6_firstBehind_12 : decode cX6_firstBehind 12 = .ok (.iload_n 1, 1) := by decide +kernel
theorem dX6_firstBehind_13 : decode cX6_firstBehind 13 = .ok (.iload_n 2, 1) := by decide +kernel
theorem dX6_firstBehind_14 : decode cX6_firstBehind 14 = .ok (.iload 4, 2) := by decide +kernel
theorem dX6_firstBehind_16 : decode cX6_firstBehind 16 = .ok (.aload_n 3, 1) := by decide +kernel
theorem dX6_firstBehind_17 : decode cX6_firstBehind 17 = .ok (.invokestatic 29, 3) := by decide +kernel
theorem dX6_firstBehind_20 : decode cX6_firstBehind 20 = .ok (.ifCond .eq 26, 3) := by decide +kernel
theorem dX6_firstBehind_23 : decode cX6_firstBehind 23 = .ok (.aload_n 0, 1) := by decide +kernel
theorem dX6_firstBehind_24 : decode cX6_firstBehind 24 = .ok (.getfield 11, 3) := by decide +kernel
theorem dX6_firstBehind_27 : decode cX6_firstBehind 27 = .ok (.iload_n 1, 1) := by decide +kernel
theorem dX6_firstBehind_28 : decode cX6_firstBehind 28 = .ok (.iconst 1, 1) := by decide +kernel
theorem dX6_firstBehind_29 : decode cX6_firstBehind 29 = .ok (.iload 4, 2) := by decide +kernel
theorem dX6_firstBehind_31 : decode cX6_firstBehind 31 = .ok (.ishl, 1) := by decide +kernel
theorem dX6_firstBehind_32 : decode cX6_firstBehind 32 = .ok (.ior, 1) := by decide +kernel
theorem dX6_firstBehind_33 : decode cX6_firstBehind 33 = .ok (.bipush 8, 2) := by decide +kernel
theorem dX6_firstBehind_35 : decode cX6_firstBehind 35 = .ok (.imul, 1) := by decide +kernel
theorem dX6_firstBehind_36 : decode cX6_firstBehind 36 = .ok (.iload 4, 2) := by decide +kernel
theorem dX6_firstBehind_38 : decode cX6_firstBehind 38 = .ok (.iadd, 1) := by decide +kernel
theorem dX6_firstBehind_39 : decode cX6_firstBehind 39 = .ok (.iaload, 1) := by decide +kernel
theorem dX6_firstBehind_40 : decode cX6_firstBehind 40 = .ok (.ifCond .le 6, 3) := by decide +kernel
theorem dX6_firstBehind_43 : decode cX6_firstBehind 43 = .ok (.iload 4, 2) := by decide +kernel
theorem dX6_firstBehind_45 : decode cX6_firstBehind 45 = .ok (.ireturn, 1) := by decide +kernel
theorem dX6_firstBehind_46 : decode cX6_firstBehind 46 = .ok (.iinc 4 1, 3) := by decide +kernel
theorem dX6_firstBehind_49 : decode cX6_firstBehind 49 = .ok (.goto (-46), 3) := by decide +kernel
theorem dX6_firstBehind_52 : decode cX6_firstBehind 52 = .ok (.bipush 7, 2) := by decide +kernel
theorem dX6_firstBehind_54 : decode cX6_firstBehind 54 = .ok (.ireturn, 1) := by decide +kernel
theorem r_X6_firstBehind_0 {d rc rs : Nat} {Q : PO → PH → Prop} {h : PH} {l0 : Nat} {l1 : Int32} {l2 : Int32} {l3 : Nat}
    (k : PW d M_X6_firstBehind Q rc rs 3 [vR (600, l0), vI l1, vI l2, vR (100, l3), vI (0 : Int32)] [] h) :
    PW d M_X6_firstBehind Q rc rs 0 [vR (600, l0), vI l1, vI l2, vR (100, l3), vU] [] h := by
  refine P_iconst (v := (0 : Int32)) (pc := 0) dX6_firstBehind_0 (by decide) ?_
  refine P_istore (pc := 1) dX6_firstBehind_1 (by decide) (Or.inr (by intro z e9; cases e9)) rfl ?_
  exact k
theorem r_X6_firstBehind_3 {d rc rs : Nat} {Q : PO → PH → Prop} {h : PH} {l0 : Nat} {l1 : Int32} {l2 : Int32} {l3 : Nat} {l4 : Int32}
    (k : gI h (10107, l3) fun x1 => br (l4 < x1) (cl d rc rs M_X6_mayFollow [vI l1, vI l2, vI l4, vR (100, l3)] h (kI fun x5 h2 rc3 rs4 => br (x5 = 0) (PW d M_X6_firstBehind Q rc3 rs4 3 [vR (600, l0), vI l1, vI l2, vR (100, l3), vI (l4 + (1 : Int32))] [] h2) (gA h2 (10600, l0) fun a6 => xI h2 a6 (((l1 ||| ((1 : Int32) <<< (l4 &&& 31))) * (8 : Int32)) + l4) fun x7 => br (0 < x7) (Q (.inl (some (vI l4))) h2) (PW d M_X6_firstBehind Q rc3 rs4 3 [vR (600, l0), vI l1, vI l2, vR (100, l3), vI (l4 + (1 : Int32))] [] h2))) (fun E h2 rc3 rs4 => Q (.inr E) h2)) (Q (.inl (some (vI (7 : Int32)))) h)) :
    PW d M_X6_firstBehind Q rc rs 3 [vR (600, l0), vI l1, vI l2, vR (100, l3), vI l4] [] h := by
  refine P_iload (pc := 3) dX6_firstBehind_3 rfl ?_
  refine P_aload_n (pc := 5) dX6_firstBehind_5 rfl ?_
  obtain ⟨x1, e9, k⟩ := k
  refine GN1_7 (pc := 6) dX6_firstBehind_6 n_X6_25 e9 ?_
  clear e9
  refine P_icmp_ge (tgt := 52) (pc := 9) dX6_firstBehind_9 (by decide) (fun c => ?_) (fun c => ?_)
  · have k := k.2 (Int32.not_lt.mpr c)
    refine P_bipush (v := (7 : Int32)) (pc := 52) dX6_firstBehind_52 (by decide) ?_
    exact R_ireturn (pc := 54) dX6_firstBehind_54 rfl rfl k
  · have k := k.1 (Int32.not_le.mp c)
    refine P_iload_n (pc := 12) dX6_firstBehind_12 rfl ?_
    refine P_iload_n (pc := 13) dX6_firstBehind_13 rfl ?_
    refine P_iload (pc := 14) dX6_firstBehind_14 rfl ?_
    refine P_aload_n (pc := 16) dX6_firstBehind_16 rfl ?_
    obtain ⟨d2, nc, ns, rc3, rs4, Qc, g1, rfl, rfl, g2, kk, kx⟩ := k
    refine P_callS (As := [vI l1, vI l2, vI l4, vR (100, l3)]) (st := []) (pc := 17) dX6_firstBehind_17 mk_X6_mayFollow l_X6_29 st_X6_mayFollow ini_X6 rfl g1 (Nat.le_of_ble_eq_true rfl) rfl g2 (fun v9 h9 q9 => ?_) (fun E h9 q9 => PX_out rfl (kx E h9 q9))
    obtain ⟨x5, rfl, k⟩ := kk v9 h9 q9
    clear kk kx g1 g2 q9
    refine P_if_eq (tgt := 46) (pc := 20) dX6_firstBehind_20 (by decide) (fun c => ?_) (fun c => ?_)
    · have k := k.1 c
      refine P_iinc (v := l4 + (1 : Int32)) (pc := 46) dX6_firstBehind_46 (by decide) rfl rfl (Or.inr (by intro z e9; cases e9)) rfl ?_
      refine P_goto (tgt := 3) (pc := 49) dX6_firstBehind_49 (by decide) ?_
      exact k
    · have k := k.2 c
      refine P_aload_n (pc := 23) dX6_firstBehind_23 rfl ?_
      obtain ⟨a6, e9, k⟩ := k
      refine G6_0 (pc := 24) dX6_firstBehind_24 l_X6_11 e9 ?_
      clear e9
      refine P_iload_n (pc := 27) dX6_firstBehind_27 rfl ?_
      refine P_iconst (v := (1 : Int32)) (pc := 28) dX6_firstBehind_28 (by decide) ?_
      refine P_iload (pc := 29) dX6_firstBehind_29 rfl ?_
      refine P_ishl (pc := 31) dX6_firstBehind_31 ?_
      refine P_ior (pc := 32) dX6_firstBehind_32 ?_
      refine P_bipush (v := (8 : Int32)) (pc := 33) dX6_firstBehind_33 (by decide) ?_
      refine P_imul (pc := 35) dX6_firstBehind_35 ?_
      refine P_iload (pc := 36) dX6_firstBehind_36 rfl ?_
      refine P_iadd (pc := 38) dX6_firstBehind_38 ?_
      obtain ⟨n9, f9, e9, i9, k⟩ := k
      refine P_iald (pc := 39) dX6_firstBehind_39 e9 i9 ?_
      clear e9
      generalize f9 (Int32.toNatClampNeg (((l1 ||| ((1 : Int32) <<< (l4 &&& 31))) * (8 : Int32)) + l4)) = x7 at k ⊢
      refine P_if_le (tgt := 46) (pc := 40) dX6_firstBehind_40 (by decide) (fun c => ?_) (fun c => ?_)
      · have k := k.2 (Int32.not_lt.mpr c)
        refine P_iinc (v := l4 + (1 : Int32)) (pc := 46) dX6_firstBehind_46 (by decide) rfl rfl (Or.inr (by intro z e9; cases e9)) rfl ?_
        refine P_goto (tgt := 3) (pc := 49) dX6_firstBehind_49 (by decide) ?_
        exact k
      · have k := k.1 (Int32.not_le.mp c)
        refine P_iload (pc := 43) dX6_firstBehind_43 rfl ?_
        exact R_ireturn (pc := 45) dX6_firstBehind_45 rfl rfl k
-- X7_init <init>()V
theorem dX7_init_0 : decode cX7_init 0 = .ok (.aload_n 0, 1) := by decide +kernel
theorem dX7_init_1 : decode cX7_init 1 = .ok (.invokespecial 3, 3) := by decide +kernel
theorem dX7_init_4 : decode cX7_init 4 = .ok (.aload_n 0, 1) := by decide +kernel
theorem dX7_init_5 : decode cX7_init 5 = .ok (.sipush 150, 3) := by decide +kernel
theorem dX7_init_8 : decode cX7_init 8 = .ok (.newarray .int, 2) := by decide +kernel
theorem dX7_init_10 : decode cX7_init 10 = .ok (.putfield 9, 3) := by decide +kernel
theorem dX7_init_13 : decode cX7_init 13 = .ok (.aload_n 0, 1) := by decide +kernel
theorem dX7_init_14 : decode cX7_init 14 = .ok (.sipush 150, 3) := by decide +kernel
theorem dX7_init_17 : decode cX7_init 17 = .ok (.newarray .int, 2) := by decide +kernel
theorem dX7_init_19 : decode cX7_init 19 = .ok (.putfield 15, 3) := by decide +kernel
theorem dX7_init_22 : decode cX7_init 22 = .ok (.aload_n 0, 1) := by decide +kernel
theorem dX7_init_23 : decode cX7_init 23 = .ok (.sipush 150, 3) := by decide +kernel
theorem dX7_init_26 : decode cX7_init 26 = .ok (.newarray .int, 2) := by decide +kernel
theorem dX7_init_28 : decode cX7_init 28 = .ok (.putfield 18, 3) := by decide +kernel
theorem dX7_init_31 : decode cX7_init 31 = .ok (.aload_n 0, 1) := by decide +kernel
theorem dX7_init_32 : decode cX7_init 32 = .ok (.sipush 150, 3) := by decide +kernel
theorem dX7_init_35 : decode cX7_init 35 = .ok (.newarray .int, 2) := by decide +kernel
theorem dX7_init_37 : decode cX7_init 37 = .ok (.putfield 21, 3) := by decide +kernel
theorem dX7_init_40 : decode cX7_init 40 = .ok (.return_, 1) := by decide +kernel
theorem r_X7_init_0 {d rc rs : Nat} {Q : PO → PH → Prop} {h : PH} {l0 : Nat}
    (k : 1 ≤ d ∧ nwA h 0 (150 : Int32) (.inl (fun _ => 0)) rc rs fun a1 h2 rc3 rs4 => sF h2 (10700, l0) (vR a1) fun h5 => nwA h5 0 (150 : Int32) (.inl (fun _ => 0)) rc3 rs4 fun a6 h7 rc8 rs9 => sF h7 (10701, l0) (vR a6) fun h10 => nwA h10 0 (150 : Int32) (.inl (fun _ => 0)) rc8 rs9 fun a11 h12 rc13 rs14 => sF h12 (10702, l0) (vR a11) fun h15 => nwA h15 0 (150 : Int32) (.inl (fun _ => 0)) rc13 rs14 fun a16 h17 rc18 rs19 => sF h17 (10703, l0) (vR a16) fun h20 => Q (.inl none) h20) :
    PW d M_X7_init Q rc rs 0 [vR (700, l0)] [] h := by
  refine P_aload_n (pc := 0) dX7_init_0 rfl ?_
  refine P_objInit (pc := 1) dX7_init_1 l_X7_3 oi_in oi_co k.1 (Nat.le_of_ble_eq_true rfl) ?_
  replace k := k.2
  refine P_aload_n (pc := 4) dX7_init_4 rfl ?_
  refine P_sipush (v := (150 : Int32)) (pc := 5) dX7_init_5 (by decide) ?_
  obtain ⟨a1, n9, m9, g9, rc3, rs4, b1, b2, b3, b4, b5, b6, rfl, rfl, k⟩ := k
  refine P_newaI (pc := 8) dX7_init_8 ac_int b1 b2 b3 b4 b5 b6 ?_
  obtain ⟨⟨v9, e9⟩, k⟩ := k
  refine S7_0 (pc := 10) dX7_init_10 l_X7_9 rfl rfl e9 ?_
  clear e9
  refine P_aload_n (pc := 13) dX7_init_13 rfl ?_
  refine P_sipush (v := (150 : Int32)) (pc := 14) dX7_init_14 (by decide) ?_
  obtain ⟨a6, n9, m9, g9, rc8, rs9, b1, b2, b3, b4, b5, b6, rfl, rfl, k⟩ := k
  refine P_newaI (pc := 17) dX7_init_17 ac_int b1 b2 b3 b4 b5 b6 ?_
  obtain ⟨⟨v9, e9⟩, k⟩ := k
  refine S7_1 (pc := 19) dX7_init_19 l_X7_15 rfl rfl e9 ?_
  clear e9
  refine P_aload_n (pc := 22) dX7_init_22 rfl ?_
  refine P_sipush (v := (150 : Int32)) (pc := 23) dX7_init_23 (by decide) ?_
  obtain ⟨a11, n9, m9, g9, rc13, rs14, b1, b2, b3, b4, b5, b6, rfl, rfl, k⟩ := k
  refine P_newaI (pc := 26) dX7_init_26 ac_int b1 b2 b3 b4 b5 b6 ?_
  obtain ⟨⟨v9, e9⟩, k⟩ := k
  refine S7_2 (pc := 28) dX7_init_28 l_X7_18 rfl rfl e9 ?_
  clear e9
  refine P_aload_n (pc := 31) dX7_init_31 rfl ?_
  refine P_sipush (v := (150 : Int32)) (pc := 32) dX7_init_32 (by decide) ?_
  obtain ⟨a16, n9, m9, g9, rc18, rs19, b1, b2, b3, b4, b5, b6, rfl, rfl, k⟩ := k
  refine P_newaI (pc := 35) dX7_init_35 ac_int b1 b2 b3 b4 b5 b6 ?_
  obtain ⟨⟨v9, e9⟩, k⟩ := k
  refine S7_3 (pc := 37) dX7_init_37 l_X7_21 rfl rfl e9 ?_
  clear e9
  exact R_return (pc := 40) dX7_init_40 rfl k
-- X7_read read(LFernHeirs$Text;I)Z
theorem dX7_read_0 : decode cX7_read 0 = .ok (.aload_n 0, 1) := by decide +kernel
theorem dX7_read_1 : decode cX7_read 1 = .ok (.iconst 0, 1) := by decide +kernel
theorem dX7_read_2 : decode cX7_read 2 = .ok (.putfield 24, 3) := by decide +kernel
theorem dX7_read_5 : decode cX7_read 5 = .ok (.aload_n 0, 1) := by decide +kernel
theorem dX7_read_6 : decode cX7_read 6 = .ok (.aload_n 1, 1) := by decide +kernel
theorem dX7_read_7 : decode cX7_read 7 = .ok (.iload_n 2, 1) := by decide +kernel
theorem dX7_read_8 : decode cX7_read 8 = .ok (.iconst 0, 1) := by decide +kernel
theorem dX7_read_9 : decode cX7_read 9 = .ok (.invokevirtual 28, 3) := by decide +kernel
theorem dX7_read_12 : decode cX7_read 12 = .ok (.ifCond .eq 14, 3) := by decide +kernel
theorem dX7_read_15 : decode cX7_read 15 = .ok (.aload_n 1, 1) := by decide +kernel
theorem dX7_read_16 : decode cX7_read 16 = .ok (.invokevirtual 32, 3) := by decide +kernel
theorem dX7_read_19 : decode cX7_read 19 = .ok (.ifCond .eq 7, 3) := by decide +kernel
theorem dX7_read_22 : decode cX7_read 22 = .ok (.iconst 1, 1) := by decide +kernel
theorem dX7_read_23 : decode cX7_read 23 = .ok (.goto 4, 3) := by decide +kernel
theorem dX7_read_26 : decode cX7_read 26 = .ok (.iconst 0, 1) := by decide +kernel
theorem dX7_read_27 : decode cX7_read 27 = .ok (.ireturn, 1) := by decide +kernel
theorem r_X7_read_0 {d rc rs : Nat} {Q : PO → PH → Prop} {h : PH} {l0 : Nat} {l1 : Nat} {l2 : Int32}
    (k : sF h (10704, l0) (vI (0 : Int32)) fun h1 => isO h1 10700 l0 ∧ cl d rc rs M_X7_readRow [vR (700, l0), vR (800, l1), vI l2, vI (0 : Int32)] h1 (kI fun x5 h2 rc3 rs4 => br (x5 = 0) (Q (.inl (some (vI (0 : Int32)))) h2) (isO h2 10800 l1 ∧ cl d rc3 rs4 M_X8_needEnd [vR (800, l1)] h2 (kI fun x9 h6 rc7 rs8 => br (x9 = 0) (Q (.inl (some (vI (0 : Int32)))) h6) (Q (.inl (some (vI (1 : Int32)))) h6)) (fun E h6 rc7 rs8 => Q (.inr E) h6))) (fun E h2 rc3 rs4 => Q (.inr E) h2)) :
    PW d M_X7_read Q rc rs 0 [vR (700, l0), vR (800, l1), vI l2] [] h := by
  refine P_aload_n (pc := 0) dX7_read_0 rfl ?_
  refine P_iconst (v := (0 : Int32)) (pc := 1) dX7_read_1 (by decide) ?_
  obtain ⟨⟨v9, e9⟩, k⟩ := k
  refine S7_4 (pc := 2) dX7_read_2 l_X7_24 e9 ?_
  clear e9
  refine P_aload_n (pc := 5) dX7_read_5 rfl ?_
  refine P_aload_n (pc := 6) dX7_read_6 rfl ?_
  refine P_iload_n (pc := 7) dX7_read_7 rfl ?_
  refine P_iconst (v := (0 : Int32)) (pc := 8) dX7_read_8 (by decide) ?_
  obtain ⟨⟨w9, e9⟩, d2, nc, ns, rc3, rs4, Qc, g1, rfl, rfl, g2, kk, kx⟩ := k
  refine P_callV (ci := 7) (k := 0) (id := l0) (q := (RX7, TX7, 8)) (As := [vR (800, l1), vI l2, vI (0 : Int32)]) (st := []) (pc := 9) dX7_read_9 mk_X7_readRow l_X7_28 im_X7_readRow se_X7_readRow ini_X7 rfl g1 (Nat.le_of_ble_eq_true rfl) rfl rfl (by decide) e9 rfl g2 (fun v9 h9 q9 => ?_) (fun E h9 q9 => PX_out rfl (kx E h9 q9))
  obtain ⟨x5, rfl, k⟩ := kk v9 h9 q9
  clear kk kx g1 g2 q9
  refine P_if_eq (tgt := 26) (pc := 12) dX7_read_12 (by decide) (fun c => ?_) (fun c => ?_)
  · have k := k.1 c
    refine P_iconst (v := (0 : Int32)) (pc := 26) dX7_read_26 (by decide) ?_
    exact R_ireturn (pc := 27) dX7_read_27 rfl rfl k
  · have k := k.2 c
    refine P_aload_n (pc := 15) dX7_read_15 rfl ?_
    obtain ⟨⟨w9, e9⟩, d2, nc, ns, rc7, rs8, Qc, g1, rfl, rfl, g2, kk, kx⟩ := k
    refine P_callV (ci := 8) (k := 0) (id := l1) (q := (RX8, TX8, 7)) (As := []) (st := []) (pc := 16) dX7_read_16 mk_X8_needEnd l_X7_32 im_X8_needEnd se_X8_needEnd ini_X8 rfl g1 (Nat.le_of_ble_eq_true rfl) rfl rfl (by decide) e9 rfl g2 (fun v9 h9 q9 => ?_) (fun E h9 q9 => PX_out rfl (kx E h9 q9))
    obtain ⟨x9, rfl, k⟩ := kk v9 h9 q9
    clear kk kx g1 g2 q9
    refine P_if_eq (tgt := 26) (pc := 19) dX7_read_19 (by decide) (fun c => ?_) (fun c => ?_)
    · have k := k.1 c
      refine P_iconst (v := (0 : Int32)) (pc := 26) dX7_read_26 (by decide) ?_
      exact R_ireturn (pc := 27) dX7_read_27 rfl rfl k
    · have k := k.2 c
      refine P_iconst (v := (1 : Int32)) (pc := 22) dX7_read_22 (by decide) ?_
      refine P_goto (tgt := 27) (pc := 23) dX7_read_23 (by decide) ?_
      exact R_ireturn (pc := 27) dX7_read_27 rfl rfl k
-- X7_readRow readRow(LFernHeirs$Text;II)Z
theorem dX7_readRow_0 : decode cX7_readRow 0 = .ok (.iconst 0, 1) := by decide +kernel
theorem dX7_readRow_1 : decode cX7_readRow 1 = .ok (.istore 4, 2) := by decide +kernel
theorem dX7_readRow_3 : decode cX7_readRow 3 = .ok (.iload 4, 2) := by decide +kernel
theorem dX7_readRow_5 : decode cX7_readRow 5 = .ok (.sipush 150, 3) := by decide +kernel
theorem dX7_readRow_8 : decode cX7_readRow 8 = .ok (.if_icmp .ge 51, 3) := by decide +kernel
theorem dX7_readRow_11 : decode cX7_readRow 11 = .ok (.aload_n 1, 1) := by decide +kernel
theorem dX7_readRow_12 : decode cX7_readRow 12 = .ok (.invokevirtual 38, 3) := by decide +kernel
theorem dX7_readRow_15 : decode cX7_readRow 15 = .ok (.istore 5, 2) := by decide +kernel
theorem dX7_readRow_17 : decode cX7_readRow 17 = .ok (.iload 5, 2) := by decide +kernel
theorem dX7_readRow_19 : decode cX7_readRow 19 = .ok (.iconst (-1), 1) := by decide +kernel
theorem dX7_readRow_20 : decode cX7_readRow 20 = .ok (.if_icmp .eq 10, 3) := by decide +kernel
theorem dX7_readRow_23 : decode cX7_readRow 23 = .ok (.iload 5, 2) := by decide +kernel
theorem dX7_readRow_25 : decode cX7_readRow 25 = .ok (.bipush 93, 2) := by decide +kernel
theorem dX7_readRow_27 : decode cX7_readRow 27 = .ok (.if_icmp .ne 5, 3) := by decide +kernel
theorem dX7_readRow_30 : decode cX7_readRow 30 = .ok (.iconst 1, 1) := by decide +kernel
theorem dX7_readRow_31 : decode cX7_readRow 31 = .ok (.ireturn, 1) := by decide +kernel
theorem dX7_readRow_32 : decode cX7_readRow 32 = .ok (.aload_n 0, 1) := by decide +kernel
theorem dX7_readRow_33 : decode cX7_readRow 33 = .ok (.aload_n 1, 1) := by decide +kernel
theorem dX7_readRow_34 : decode cX7_readRow 34 = .ok (.iload_n 2, 1) := by decide +kernel
theorem dX7_readRow_35 : decode cX7_readRow 35 = .ok (.iload_n 3, 1) := by decide +kernel
theorem dX7_readRow_36 : decode cX7_readRow 36 = .ok (.invokevirtual 42, 3) := by decide +kernel
theorem dX7_readRow_39 : decode cX7_readRow 39 = .ok (.ifCond .eq 12, 3) := by decide +kernel
theorem dX7_readRow_42 : decode cX7_readRow 42 = .ok (.aload_n 1, 1) := by decide +kernel
theorem dX7_readRow_43 : decode cX7_readRow 43 = .ok (.bipush 59, 2) := by decide +kernel
theorem dX7_readRow_45 : decode cX7_readRow 45 = .ok (.invokevirtual 45, 3) := by decide +kernel
theorem dX7_readRow_48 : decode cX7_readRow 48 = .ok (.ifCond .ne 5, 3) := by decide +kernel
theorem dX7_readRow_51 : decode cX7_readRow 51 = .ok (.iconst 0, 1) := by decide +kernel
theorem dX7_readRow_52 : decode cX7_readRow 52 = .ok (.ireturn, 1) := by decide +kernel
theorem dX7_readRow_53 : decode cX7_readRow 53 = .ok (.iinc 4 1, 3) := by decide +kernel
theorem dX7_readRow_56 : decode cX7_readRow 56 = .ok (.goto (-53), 3) := by decide +kernel
theorem dX7_readRow_59 : decode cX7_readRow 59 = .ok (.iconst 1, 1) := by decide +kernel
theorem dX7_readRow_60 : decode cX7_readRow 60 = .ok (.ireturn, 1) := by decide +kernel
theorem r_X7_readRow_0 {d rc rs : Nat} {Q : PO → PH → Prop} {h : PH} {l0 : Nat} {l1 : Nat} {l2 : Int32} {l3 : Int32}
    (k : PW d M_X7_readRow Q rc rs 3 [vR (700, l0), vR (800, l1), vI l2, vI l3, vI (0 : Int32), vU] [] h) :
    PW d M_X7_readRow Q rc rs 0 [vR (700, l0), vR (800, l1), vI l2, vI l3, vU, vU] [] h := by
  refine P_iconst (v := (0 : Int32)) (pc := 0) dX7_readRow_0 (by decide) ?_
  refine P_istore (pc := 1) dX7_readRow_1 (by decide) (Or.inr (by intro z e9; cases e9)) rfl ?_
  exact k
theorem r_X7_readRow_3 {d rc rs : Nat} {Q : PO → PH → Prop} {h : PH} {l0 : Nat} {l1 : Nat} {l2 : Int32} {l3 : Int32} {l4 : Int32}
    (k : br (l4 < (150 : Int32)) (isO h 10800 l1 ∧ cl d rc rs M_X8_peek [vR (800, l1)] h (kI fun x4 h1 rc2 rs3 => br (x4 = (-1 : Int32)) (Q (.inl (some (vI (1 : Int32)))) h1) (br (x4 = (93 : Int32)) (Q (.inl (some (vI (1 : Int32)))) h1) (isO h1 10700 l0 ∧ cl d rc2 rs3 M_X7_readStep [vR (700, l0), vR (800, l1), vI l2, vI l3] h1 (kI fun x8 h5 rc6 rs7 => br (x8 = 0) (Q (.inl (some (vI (0 : Int32)))) h5) (isO h5 10800 l1 ∧ cl d rc6 rs7 M_X8_needSign [vR (800, l1), vI (59 : Int32)] h5 (kI fun x12 h9 rc10 rs11 => br (x12 = 0) (Q (.inl (some (vI (0 : Int32)))) h9) (PW d M_X7_readRow Q rc10 rs11 3 [vR (700, l0), vR (800, l1), vI l2, vI l3, vI (l4 + (1 : Int32)), vU] [] h9)) (fun E h9 rc10 rs11 => Q (.inr E) h9))) (fun E h5 rc6 rs7 => Q (.inr E) h5)))) (fun E h1 rc2 rs3 => Q (.inr E) h1)) (Q (.inl (some (vI (1 : Int32)))) h)) :
    PW d M_X7_readRow Q rc rs 3 [vR (700, l0), vR (800, l1), vI l2, vI l3, vI l4, vU] [] h := by
  refine P_iload (pc := 3) dX7_readRow_3 rfl ?_
  refine P_sipush (v := (150 : Int32)) (pc := 5) dX7_readRow_5 (by decide) ?_
  refine P_icmp_ge (tgt := 59) (pc := 8) dX7_readRow_8 (by decide) (fun c => ?_) (fun c => ?_)
  · have k := k.2 (Int32.not_lt.mpr c)
    refine P_iconst (v := (1 : Int32)) (pc := 59) dX7_readRow_59 (by decide) ?_
    exact R_ireturn (pc := 60) dX7_readRow_60 rfl rfl k
  · have k := k.1 (Int32.not_le.mp c)
    refine P_aload_n (pc := 11) dX7_readRow_11 rfl ?_
    obtain ⟨⟨w9, e9⟩, d2, nc, ns, rc2, rs3, Qc, g1, rfl, rfl, g2, kk, kx⟩ := k
    refine P_callV (ci := 8) (k := 0) (id := l1) (q := (RX8, TX8, 7)) (As := []) (st := []) (pc := 12) dX7_readRow_12 mk_X8_peek l_X7_38 im_X8_peek se_X8_peek ini_X8 rfl g1 (Nat.le_of_ble_eq_true rfl) rfl rfl (by decide) e9 rfl g2 (fun v9 h9 q9 => ?_) (fun E h9 q9 => PX_out rfl (kx E h9 q9))
    obtain ⟨x4, rfl, k⟩ := kk v9 h9 q9
    clear kk kx g1 g2 q9
    refine P_istore (pc := 15) dX7_readRow_15 (by decide) (Or.inr (by intro z e9; cases e9)) rfl ?_
    refine P_iload (pc := 17) dX7_readRow_17 rfl ?_
    refine P_iconst (v := (-1 : Int32)) (pc := 19) dX7_readRow_19 (by decide) ?_
    refine P_icmp_eq (tgt := 30) (pc := 20) dX7_readRow_20 (by decide) (fun c => ?_) (fun c => ?_)
    · have k := k.1 c
      refine P_iconst (v := (1 : Int32)) (pc := 30) dX7_readRow_30 (by decide) ?_
      exact R_ireturn (pc := 31) dX7_readRow_31 rfl rfl k
    · have k := k.2 c
      refine P_iload (pc := 23) dX7_readRow_23 rfl ?_
      refine P_bipush (v := (93 : Int32)) (pc := 25) dX7_readRow_25 (by decide) ?_
      refine P_icmp_ne (tgt := 32) (pc := 27) dX7_readRow_27 (by decide) (fun c => ?_) (fun c => ?_)
      · have k := k.2 c
        refine P_aload_n (pc := 32) dX7_readRow_32 rfl ?_
        refine P_aload_n (pc := 33) dX7_readRow_33 rfl ?_
        refine P_iload_n (pc := 34) dX7_readRow_34 rfl ?_
        refine P_iload_n (pc := 35) dX7_readRow_35 rfl ?_
        obtain ⟨⟨w9, e9⟩, d2, nc, ns, rc6, rs7, Qc, g1, rfl, rfl, g2, kk, kx⟩ := k
        refine P_callV (ci := 7) (k := 0) (id := l0) (q := (RX7, TX7, 8)) (As := [vR (800, l1), vI l2, vI l3]) (st := []) (pc := 36) dX7_readRow_36 mk_X7_readStep l_X7_42 im_X7_readStep se_X7_readStep ini_X7 rfl g1 (Nat.le_of_ble_eq_true rfl) rfl rfl (by decide) e9 rfl g2 (fun v9 h9 q9 => ?_) (fun E h9 q9 => PX_out rfl (kx E h9 q9))
        obtain ⟨x8, rfl, k⟩ := kk v9 h9 q9
        clear kk kx g1 g2 q9
        refine P_if_eq (tgt := 51) (pc := 39) dX7_readRow_39 (by decide) (fun c => ?_) (fun c => ?_)
        · have k := k.1 c
          refine P_iconst (v := (0 : Int32)) (pc := 51) dX7_readRow_51 (by decide) ?_
          exact R_ireturn (pc := 52) dX7_readRow_52 rfl rfl k
        · have k := k.2 c
          refine P_aload_n (pc := 42) dX7_readRow_42 rfl ?_
          refine P_bipush (v := (59 : Int32)) (pc := 43) dX7_readRow_43 (by decide) ?_
          obtain ⟨⟨w9, e9⟩, d2, nc, ns, rc10, rs11, Qc, g1, rfl, rfl, g2, kk, kx⟩ := k
          refine P_callV (ci := 8) (k := 0) (id := l1) (q := (RX8, TX8, 7)) (As := [vI (59 : Int32)]) (st := []) (pc := 45) dX7_readRow_45 mk_X8_needSign l_X7_45 im_X8_needSign se_X8_needSign ini_X8 rfl g1 (Nat.le_of_ble_eq_true rfl) rfl rfl (by decide) e9 rfl g2 (fun v9 h9 q9 => ?_) (fun E h9 q9 => PX_out rfl (kx E h9 q9))
          obtain ⟨x12, rfl, k⟩ := kk v9 h9 q9
          clear kk kx g1 g2 q9
          refine P_if_ne (tgt := 53) (pc := 48) dX7_readRow_48 (by decide) (fun c => ?_) (fun c => ?_)
          · have k := k.2 c
            refine P_iinc (v := l4 + (1 : Int32)) (pc := 53) dX7_readRow_53 (by decide) rfl rfl (Or.inr (by intro z e9; cases e9)) rfl ?_
            refine P_goto (tgt := 3) (pc := 56) dX7_readRow_56 (by decide) ?_
            exact P_drop (ls2 := [vR (700, l0), vR (800, l1), vI l2, vI l3, vI (l4 + (1 : Int32)), vU]) (ls := [vR (700, l0), vR (800, l1), vI l2, vI l3, vI (l4 + (1 : Int32)), vI x4]) ⟨Or.inr rfl, ⟨Or.inr rfl, ⟨Or.inr rfl, ⟨Or.inr rfl, ⟨Or.inr rfl, ⟨Or.inl rfl, trivial⟩⟩⟩⟩⟩⟩ k
          · have k := k.1 c
            refine P_iconst (v := (0 : Int32)) (pc := 51) dX7_readRow_51 (by decide) ?_
            exact R_ireturn (pc := 52) dX7_readRow_52 rfl rfl k
      · have k := k.1 c
        refine P_iconst (v := (1 : Int32)) (pc := 30) dX7_readRow_30 (by decide) ?_
        exact R_ireturn (pc := 31) dX7_readRow_31 rfl rfl k
-- X7_readStep readStep(LFernHeirs$Text;II)Z
theorem dX7_readStep_0 : decode cX7_readStep 0 = .ok (.aload_n 1, 1) := by decide +kernel
theorem dX7_readStep_1 : decode cX7_readStep 1 = .ok (.invokestatic 49, 3) := by decide +kernel
theorem dX7_readStep_4 : decode cX7_readStep 4 = .ok (.istore 4, 2) := by decide +kernel
theorem dX7_readStep_6 : decode cX7_readStep 6 = .ok (.iload 4, 2) := by decide +kernel
theorem dX7_readStep_8 : decode cX7_readStep 8 = .ok (.iconst (-1), 1) := by decide +kernel
theorem dX7_readStep_9 : decode cX7_readStep 9 = .ok (.if_icmp .ne 9, 3) := by decide +kernel
theorem dX7_readStep_12 : decode cX7_readStep 12 = .ok (.aload_n 1, 1) := by decide +kernel
theorem dX7_readStep_13 : decode cX7_readStep 13 = .ok (.iconst 1, 1) := by decide +kernel
theorem dX7_readStep_14 : decode cX7_readStep 14 = .ok (.invokevirtual 53, 3) := by decide +kernel
theorem dX7_readStep_17 : decode cX7_readStep 17 = .ok (.ireturn, 1) := by decide +kernel
theorem dX7_readStep_18 : decode cX7_readStep 18 = .ok (.iload 4, 2) := by decide +kernel
theorem dX7_readStep_20 : decode cX7_readStep 20 = .ok (.bipush 9, 2) := by decide +kernel
theorem dX7_readStep_22 : decode cX7_readStep 22 = .ok (.if_icmp .ne 9, 3) := by decide +kernel
theorem dX7_readStep_25 : decode cX7_readStep 25 = .ok (.iload_n 3, 1) := by decide +kernel
theorem dX7_readStep_26 : decode cX7_readStep 26 = .ok (.bipush 6, 2) := by decide +kernel
theorem dX7_readStep_28 : decode cX7_readStep 28 = .ok (.if_icmp .ge 13, 3) := by decide +kernel
theorem dX7_readStep_31 : decode cX7_readStep 31 = .ok (.aload_n 0, 1) := by decide +kernel
theorem dX7_readStep_32 : decode cX7_readStep 32 = .ok (.getfield 24, 3) := by decide +kernel
theorem dX7_readStep_35 : decode cX7_readStep 35 = .ok (.sipush 150, 3) := by decide +kernel
theorem dX7_readStep_38 : decode cX7_readStep 38 = .ok (.if_icmp .lt 9, 3) := by decide +kernel
theorem dX7_readStep_41 : decode cX7_readStep 41 = .ok (.aload_n 1, 1) := by decide +kernel
theorem dX7_readStep_42 : decode cX7_readStep 42 = .ok (.iconst 3, 1) := by decide +kernel
theorem dX7_readStep_43 : decode cX7_readStep 43 = .ok (.invokevirtual 53, 3) := by decide +kernel
theorem dX7_readStep_46 : decode cX7_readStep 46 = .ok (.ireturn, 1) := by decide +kernel
theorem dX7_readStep_47 : decode cX7_readStep 47 = .ok (.aload_n 0, 1) := by decide +kernel
theorem dX7_readStep_48 : decode cX7_readStep 48 = .ok (.getfield 24, 3) := by decide +kernel
theorem dX7_readStep_51 : decode cX7_readStep 51 = .ok (.istore 5, 2) := by decide +kernel
theorem dX7_readStep_53 : decode cX7_readStep 53 = .ok (.aload_n 0, 1) := by decide +kernel
theorem dX7_readStep_54 : decode cX7_readStep 54 = .ok (.dup, 1) := by decide +kernel
theorem dX7_readStep_55 : decode cX7_readStep 55 = .ok (.getfield 24, 3) := by decide +kernel
theorem dX7_readStep_58 : decode cX7_readStep 58 = .ok (.iconst 1, 1) := by decide +kernel
theorem dX7_readStep_59 : decode cX7_readStep 59 = .ok (.iadd, 1) := by decide +kernel
theorem dX7_readStep_60 : decode cX7_readStep 60 = .ok (.putfield 24, 3) := by decide +kernel
theorem dX7_readStep_63 : decode cX7_readStep 63 = .ok (.aload_n 0, 1) := by decide +kernel
theorem dX7_readStep_64 : decode cX7_readStep 64 = .ok (.getfield 9, 3) := by decide +kernel
theorem dX7_readStep_67 : decode cX7_readStep 67 = .ok (.iload 5, 2) := by decide +kernel
theorem dX7_readStep_69 : decode cX7_readStep 69 = .ok (.iload 4, 2) := by decide +kernel
theorem dX7_readStep_71 : decode cX7_readStep 71 = .ok (.iastore, 1) := by decide +kernel
theorem dX7_readStep_72 : decode cX7_readStep 72 = .ok (.aload_n 0, 1) := by decide +kernel
theorem dX7_readStep_73 : decode cX7_readStep 73 = .ok (.getfield 15, 3) := by decide +kernel
theorem dX7_readStep_76 : decode cX7_readStep 76 = .ok (.iload 5, 2) := by decide +kernel
theorem dX7_readStep_78 : decode cX7_readStep 78 = .ok (.iconst 0, 1) := by decide +kernel
theorem dX7_readStep_79 : decode cX7_readStep 79 = .ok (.iastore, 1) := by decide +kernel
theorem dX7_readStep_80 : decode cX7_readStep 80 = .ok (.aload_n 0, 1) := by decide +kernel
theorem dX7_readStep_81 : decode cX7_readStep 81 = .ok (.getfield 18, 3) := by decide +kernel
theorem dX7_readStep_84 : decode cX7_readStep 84 = .ok (.iload 5, 2) := by decide +kernel
theorem dX7_readStep_86 : decode cX7_readStep 86 = .ok (.iconst 0, 1) := by decide +kernel
theorem dX7_readStep_87 : decode cX7_readStep 87 = .ok (.iastore, 1) := by decide +kernel
theorem dX7_readStep_88 : decode cX7_readStep 88 = .ok (.aload_n 0, 1) := by decide +kernel
theorem dX7_readStep_89 : decode cX7_readStep 89 = .ok (.getfield 21, 3) := by decide +kernel
theorem dX7_readStep_92 : decode cX7_readStep 92 = .ok (.iload 5, 2) := by decide +kernel
theorem dX7_readStep_94 : decode cX7_readStep 94 = .ok (.aload_n 0, 1) := by decide +kernel
theorem dX7_readStep_95 : decode cX7_readStep 95 = .ok (.getfield 24, 3) := by decide +kernel
theorem dX7_readStep_98 : decode cX7_readStep 98 = .ok (.iastore, 1) := by decide +kernel
theorem dX7_readStep_99 : decode cX7_readStep 99 = .ok (.iload 4, 2) := by decide +kernel
theorem dX7_readStep_101 : decode cX7_readStep 101 = .ok (.bipush 7, 2) := by decide +kernel
theorem dX7_readStep_103 : decode cX7_readStep 103 = .ok (.if_icmp .eq 10, 3) := by decide +kernel
theorem dX7_readStep_106 : decode cX7_readStep 106 = .ok (.iload 4, 2) := by decide +kernel
theorem dX7_readStep_108 : decode cX7_readStep 108 = .ok (.bipush 8, 2) := by decide +kernel
theorem dX7_readStep_110 : decode cX7_readStep 110 = .ok (.if_icmp .ne 5, 3) := by decide +kernel
theorem dX7_readStep_113 : decode cX7_readStep 113 = .ok (.iconst 1, 1) := by decide +kernel
theorem dX7_readStep_114 : decode cX7_readStep 114 = .ok (.ireturn, 1) := by decide +kernel
theorem dX7_readStep_115 : decode cX7_readStep 115 = .ok (.iload 4, 2) := by decide +kernel
theorem dX7_readStep_117 : decode cX7_readStep 117 = .ok (.bipush 9, 2) := by decide +kernel
theorem dX7_readStep_119 : decode cX7_readStep 119 = .ok (.if_icmp .ne 15, 3) := by decide +kernel
theorem dX7_readStep_122 : decode cX7_readStep 122 = .ok (.aload_n 0, 1) := by decide +kernel
theorem dX7_readStep_123 : decode cX7_readStep 123 = .ok (.aload_n 1, 1) := by decide +kernel
theorem dX7_readStep_124 : decode cX7_readStep 124 = .ok (.iload_n 2, 1) := by decide +kernel
theorem dX7_readStep_125 : decode cX7_readStep 125 = .ok (.iload_n 3, 1) := by decide +kernel
theorem dX7_readStep_126 : decode cX7_readStep 126 = .ok (.iconst 1, 1) := by decide +kernel
theorem dX7_readStep_127 : decode cX7_readStep 127 = .ok (.iadd, 1) := by decide +kernel
theorem dX7_readStep_128 : decode cX7_readStep 128 = .ok (.iload 5, 2) := by decide +kernel
theorem dX7_readStep_130 : decode cX7_readStep 130 = .ok (.invokevirtual 57, 3) := by decide +kernel
theorem dX7_readStep_133 : decode cX7_readStep 133 = .ok (.ireturn, 1) := by decide +kernel
theorem dX7_readStep_134 : decode cX7_readStep 134 = .ok (.aload_n 0, 1) := by decide +kernel
theorem dX7_readStep_135 : decode cX7_readStep 135 = .ok (.getfield 15, 3) := by decide +kernel
theorem dX7_readStep_138 : decode cX7_readStep 138 = .ok (.iload 5, 2) := by decide +kernel
theorem dX7_readStep_140 : decode cX7_readStep 140 = .ok (.aload_n 1, 1) := by decide +kernel
theorem dX7_readStep_141 : decode cX7_readStep 141 = .ok (.iconst 0, 1) := by decide +kernel
theorem dX7_readStep_142 : decode cX7_readStep 142 = .ok (.iload_n 2, 1) := by decide +kernel
theorem dX7_readStep_143 : decode cX7_readStep 143 = .ok (.iconst 1, 1) := by decide +kernel
theorem dX7_readStep_144 : decode cX7_readStep 144 = .ok (.isub, 1) := by decide +kernel
theorem dX7_readStep_145 : decode cX7_readStep 145 = .ok (.invokevirtual 61, 3) := by decide +kernel
theorem dX7_readStep_148 : decode cX7_readStep 148 = .ok (.iastore, 1) := by decide +kernel
theorem dX7_readStep_149 : decode cX7_readStep 149 = .ok (.iload 4, 2) := by decide +kernel
theorem dX7_readStep_151 : decode cX7_readStep 151 = .ok (.bipush 6, 2) := by decide +kernel
theorem dX7_readStep_153 : decode cX7_readStep 153 = .ok (.if_icmp .ne 45, 3) := by decide +kernel
theorem dX7_readStep_156 : decode cX7_readStep 156 = .ok (.aload_n 0, 1) := by decide +kernel
theorem dX7_readStep_157 : decode cX7_readStep 157 = .ok (.getfield 15, 3) := by decide +kernel
theorem dX7_readStep_160 : decode cX7_readStep 160 = .ok (.iload 5, 2) := by decide +kernel
theorem dX7_readStep_162 : decode cX7_readStep 162 = .ok (.iaload, 1) := by decide +kernel
theorem dX7_readStep_163 : decode cX7_readStep 163 = .ok (.iconst (-1), 1) := by decide +kernel
theorem dX7_readStep_164 : decode cX7_readStep 164 = .ok (.if_icmp .eq 34, 3) := by decide +kernel
theorem dX7_readStep_167 : decode cX7_readStep 167 = .ok (.aload_n 0, 1) := by decide +kernel
theorem dX7_readStep_168 : decode cX7_readStep 168 = .ok (.getfield 18, 3) := by decide +kernel
theorem dX7_readStep_171 : decode cX7_readStep 171 = .ok (.iload 5, 2) := by decide +kernel
theorem dX7_readStep_173 : decode cX7_readStep 173 = .ok (.aload_n 1, 1) := by decide +kernel
theorem dX7_readStep_174 : decode cX7_readStep 174 = .ok (.iconst 0, 1) := by decide +kernel
theorem dX7_readStep_175 : decode cX7_readStep 175 = .ok (.bipush 9, 2) := by decide +kernel
theorem dX7_readStep_177 : decode cX7_readStep 177 = .ok (.invokevirtual 61, 3) := by decide +kernel
theorem dX7_readStep_180 : decode cX7_readStep 180 = .ok (.iastore, 1) := by decide +kernel
theorem dX7_readStep_181 : decode cX7_readStep 181 = .ok (.aload_n 0, 1) := by decide +kernel
theorem dX7_readStep_182 : decode cX7_readStep 182 = .ok (.getfield 18, 3) := by decide +kernel
theorem dX7_readStep_185 : decode cX7_readStep 185 = .ok (.iload 5, 2) := by decide +kernel
theorem dX7_readStep_187 : decode cX7_readStep 187 = .ok (.iaload, 1) := by decide +kernel
theorem dX7_readStep_188 : decode cX7_readStep 188 = .ok (.iconst (-1), 1) := by decide +kernel
theorem dX7_readStep_189 : decode cX7_readStep 189 = .ok (.if_icmp .eq 7, 3) := by decide +kernel
theorem dX7_readStep_192 : decode cX7_readStep 192 = .ok (.iconst 1, 1) := by decide +kernel
theorem dX7_readStep_193 : decode cX7_readStep 193 = .ok (.goto 4, 3) := by decide +kernel
theorem dX7_readStep_196 : decode cX7_readStep 196 = .ok (.iconst 0, 1) := by decide +kernel
theorem dX7_readStep_197 : decode cX7_readStep 197 = .ok (.ireturn, 1) := by decide +kernel
theorem dX7_readStep_198 : decode cX7_readStep 198 = .ok (.aload_n 0, 1) := by decide +kernel
theorem dX7_readStep_199 : decode cX7_readStep 199 = .ok (.getfield 15, 3) := by decide +kernel
theorem dX7_readStep_202 : decode cX7_readStep 202 = .ok (.iload 5, 2) := by decide +kernel
theorem dX7_readStep_204 : decode cX7_readStep 204 = .ok (.iaload, 1) := by decide +kernel
theorem dX7_readStep_205 : decode cX7_readStep 205 = .ok (.iconst (-1), 1) := by decide +kernel
theorem dX7_readStep_206 : decode cX7_readStep 206 = .ok (.if_icmp .eq 7, 3) := by decide +kernel
theorem dX7_readStep_209 : decode cX7_readStep 209 = .ok (.iconst 1, 1) := by decide +kernel
theorem dX7_readStep_210 : decode cX7_readStep 210 = .ok (.goto 4, 3) := by decide +kernel
theorem dX7_readStep_213 : decode cX7_readStep 213 = .ok (.iconst 0, 1) := by decide +kernel
theorem dX7_readStep_214 : decode cX7_readStep 214 = .ok (.ireturn, 1) := by decide +kernel
theorem r_X7_readStep_0 {d rc rs : Nat} {Q : PO → PH → Prop} {h : PH} {l0 : Nat} {l1 : Nat} {l2 : Int32} {l3 : Int32}
    (k : cl d rc rs M_X7_kindAhead [vR (800, l1)] h (kI fun x4 h1 rc2 rs3 => br (x4 = (-1 : Int32)) (isO h1 10800 l1 ∧ cl d rc2 rs3 M_X8_refuse [vR (800, l1), vI (1 : Int32)] h1 (kI fun x12 h9 rc10 rs11 => nrw .boolean x12 (Q (.inl (some (vI x12))) h9)) (fun E h9 rc10 rs11 => Q (.inr E) h9)) (br (x4 = (9 : Int32)) (br (l3 < (6 : Int32)) (PW d M_X7_readStep Q rc2 rs3 31 [vR (700, l0), vR (800, l1), vI l2, vI l3, vI x4, vU] [] h1) (isO h1 10800 l1 ∧ cl d rc2 rs3 M_X8_refuse [vR (800, l1), vI (3 : Int32)] h1 (kI fun x8 h5 rc6 rs7 => nrw .boolean x8 (Q (.inl (some (vI x8))) h5)) (fun E h5 rc6 rs7 => Q (.inr E) h5))) (PW d M_X7_readStep Q rc2 rs3 31 [vR (700, l0), vR (800, l1), vI l2, vI l3, vI x4, vU] [] h1))) (fun E h1 rc2 rs3 => Q (.inr E) h1)) :
    PW d M_X7_readStep Q rc rs 0 [vR (700, l0), vR (800, l1), vI l2, vI l3, vU, vU] [] h := by
  refine P_aload_n (pc := 0) dX7_readStep_0 rfl ?_
  obtain ⟨d2, nc, ns, rc2, rs3, Qc, g1, rfl, rfl, g2, kk, kx⟩ := k
  refine P_callS (As := [vR (800, l1)]) (st := []) (pc := 1) dX7_readStep_1 mk_X7_kindAhead l_X7_49 st_X7_kindAhead ini_X7 rfl g1 (Nat.le_of_ble_eq_true rfl) rfl g2 (fun v9 h9 q9 => ?_) (fun E h9 q9 => PX_out rfl (kx E h9 q9))
  obtain ⟨x4, rfl, k⟩ := kk v9 h9 q9
  clear kk kx g1 g2 q9
  refine P_istore (pc := 4) dX7_readStep_4 (by decide) (Or.inr (by intro z e9; cases e9)) rfl ?_
  refine P_iload (pc := 6) dX7_readStep_6 rfl ?_
  refine P_iconst (v := (-1 : Int32)) (pc := 8) dX7_readStep_8 (by decide) ?_
  refine P_icmp_ne (tgt := 18) (pc := 9) dX7_readStep_9 (by decide) (fun c => ?_) (fun c => ?_)
  · have k := k.2 c
    refine P_iload (pc := 18) dX7_readStep_18 rfl ?_
    refine P_bipush (v := (9 : Int32)) (pc := 20) dX7_readStep_20 (by decide) ?_
    refine P_icmp_ne (tgt := 31) (pc := 22) dX7_readStep_22 (by decide) (fun c => ?_) (fun c => ?_)
    · have k := k.2 c
      exact k
    · have k := k.1 c
      refine P_iload_n (pc := 25) dX7_readStep_25 rfl ?_
      refine P_bipush (v := (6 : Int32)) (pc := 26) dX7_readStep_26 (by decide) ?_
      refine P_icmp_ge (tgt := 41) (pc := 28) dX7_readStep_28 (by decide) (fun c => ?_) (fun c => ?_)
      · have k := k.2 (Int32.not_lt.mpr c)
        refine P_aload_n (pc := 41) dX7_readStep_41 rfl ?_
        refine P_iconst (v := (3 : Int32)) (pc := 42) dX7_readStep_42 (by decide) ?_
        obtain ⟨⟨w9, e9⟩, d2, nc, ns, rc6, rs7, Qc, g1, rfl, rfl, g2, kk, kx⟩ := k
        refine P_callV (ci := 8) (k := 0) (id := l1) (q := (RX8, TX8, 7)) (As := [vI (3 : Int32)]) (st := []) (pc := 43) dX7_readStep_43 mk_X8_refuse l_X7_53 im_X8_refuse se_X8_refuse ini_X8 rfl g1 (Nat.le_of_ble_eq_true rfl) rfl rfl (by decide) e9 rfl g2 (fun v9 h9 q9 => ?_) (fun E h9 q9 => PX_out rfl (kx E h9 q9))
        obtain ⟨x8, rfl, k⟩ := kk v9 h9 q9
        clear kk kx g1 g2 q9
        exact R_ireturn (pc := 46) dX7_readStep_46 rfl k.1 k.2
      · have k := k.1 (Int32.not_le.mp c)
        exact k
  · have k := k.1 c
    refine P_aload_n (pc := 12) dX7_readStep_12 rfl ?_
    refine P_iconst (v := (1 : Int32)) (pc := 13) dX7_readStep_13 (by decide) ?_
    obtain ⟨⟨w9, e9⟩, d2, nc, ns, rc10, rs11, Qc, g1, rfl, rfl, g2, kk, kx⟩ := k
    refine P_callV (ci := 8) (k := 0) (id := l1) (q := (RX8, TX8, 7)) (As := [vI (1 : Int32)]) (st := []) (pc := 14) dX7_readStep_14 mk_X8_refuse l_X7_53 im_X8_refuse se_X8_refuse ini_X8 rfl g1 (Nat.le_of_ble_eq_true rfl) rfl rfl (by decide) e9 rfl g2 (fun v9 h9 q9 => ?_) (fun E h9 q9 => PX_out rfl (kx E h9 q9))
    obtain ⟨x12, rfl, k⟩ := kk v9 h9 q9
    clear kk kx g1 g2 q9
    exact R_ireturn (pc := 17) dX7_readStep_17 rfl k.1 k.2
theorem r_X7_readStep_31 {d rc rs : Nat} {Q : PO → PH → Prop} {h : PH} {l0 : Nat} {l1 : Nat} {l2 : Int32} {l3 : Int32} {l4 : Int32}
    (k : gI h (10704, l0) fun x1 => br (x1 < (150 : Int32)) (gI h (10704, l0) fun x2 => gI h (10704, l0) fun x3 => sF h (10704, l0) (vI (x3 + (1 : Int32))) fun h4 => gA h4 (10700, l0) fun a5 => yI h4 a5 x2 l4 fun h6 => gA h6 (10701, l0) fun a7 => yI h6 a7 x2 (0 : Int32) fun h8 => gA h8 (10702, l0) fun a9 => yI h8 a9 x2 (0 : Int32) fun h10 => gA h10 (10703, l0) fun a11 => gI h10 (10704, l0) fun x12 => yI h10 a11 x2 x12 fun h13 => br (l4 = (7 : Int32)) (Q (.inl (some (vI (1 : Int32)))) h13) (br (l4 = (8 : Int32)) (Q (.inl (some (vI (1 : Int32)))) h13) (br (l4 = (9 : Int32)) (isO h13 10700 l0 ∧ cl d rc rs M_X7_readAgain [vR (700, l0), vR (800, l1), vI l2, vI (l3 + (1 : Int32)), vI x2] h13 (kI fun x37 h34 rc35 rs36 => nrw .boolean x37 (Q (.inl (some (vI x37))) h34)) (fun E h34 rc35 rs36 => Q (.inr E) h34)) (gA h13 (10701, l0) fun a14 => isO h13 10800 l1 ∧ cl d rc rs M_X8_number [vR (800, l1), vI (0 : Int32), vI (l2 - (1 : Int32))] h13 (kI fun x18 h15 rc16 rs17 => yI h15 a14 x2 x18 fun h19 => br (l4 = (6 : Int32)) (gA h19 (10701, l0) fun a22 => xI h19 a22 x2 fun x23 => br (x23 = (-1 : Int32)) (gA h19 (10701, l0) fun a24 => xI h19 a24 x2 fun x25 => br (x25 = (-1 : Int32)) (Q (.inl (some (vI (0 : Int32)))) h19) (Q (.inl (some (vI (1 : Int32)))) h19)) (gA h19 (10702, l0) fun a26 => isO h19 10800 l1 ∧ cl d rc16 rs17 M_X8_number [vR (800, l1), vI (0 : Int32), vI (9 : Int32)] h19 (kI fun x30 h27 rc28 rs29 => yI h27 a26 x2 x30 fun h31 => gA h31 (10702, l0) fun a32 => xI h31 a32 x2 fun x33 => br (x33 = (-1 : Int32)) (Q (.inl (some (vI (0 : Int32)))) h31) (Q (.inl (some (vI (1 : Int32)))) h31)) (fun E h27 rc28 rs29 => Q (.inr E) h27))) (gA h19 (10701, l0) fun a20 => xI h19 a20 x2 fun x21 => br (x21 = (-1 : Int32)) (Q (.inl (some (vI (0 : Int32)))) h19) (Q (.inl (some (vI (1 : Int32)))) h19))) (fun E h15 rc16 rs17 => Q (.inr E) h15))))) (isO h 10800 l1 ∧ cl d rc rs M_X8_refuse [vR (800, l1), vI (3 : Int32)] h (kI fun x41 h38 rc39 rs40 => nrw .boolean x41 (Q (.inl (some (vI x41))) h38)) (fun E h38 rc39 rs40 => Q (.inr E) h38))) :
    PW d M_X7_readStep Q rc rs 31 [vR (700, l0), vR (800, l1), vI l2, vI l3, vI l4, vU] [] h := by
  refine P_aload_n (pc := 31) dX7_readStep_31 rfl ?_
  obtain ⟨x1, e9, k⟩ := k
  refine G7_4 (pc := 32) dX7_readStep_32 l_X7_24 e9 ?_
  clear e9
  refine P_sipush (v := (150 : Int32)) (pc := 35) dX7_readStep_35 (by decide) ?_
  refine P_icmp_lt (tgt := 47) (pc := 38) dX7_readStep_38 (by decide) (fun c => ?_) (fun c => ?_)
  · have k := k.1 c
    refine P_aload_n (pc := 47) dX7_readStep_47 rfl ?_
    obtain ⟨x2, e9, k⟩ := k
    refine G7_4 (pc := 48) dX7_readStep_48 l_X7_24 e9 ?_
    clear e9
    refine P_istore (pc := 51) dX7_readStep_51 (by decide) (Or.inr (by intro z e9; cases e9)) rfl ?_
    refine P_aload_n (pc := 53) dX7_readStep_53 rfl ?_
    refine P_dup (pc := 54) dX7_readStep_54 (fun _ => rfl) ?_
    obtain ⟨x3, e9, k⟩ := k
    refine G7_4 (pc := 55) dX7_readStep_55 l_X7_24 e9 ?_
    clear e9
    refine P_iconst (v := (1 : Int32)) (pc := 58) dX7_readStep_58 (by decide) ?_
    refine P_iadd (pc := 59) dX7_readStep_59 ?_
    obtain ⟨⟨v9, e9⟩, k⟩ := k
    refine S7_4 (pc := 60) dX7_readStep_60 l_X7_24 e9 ?_
    clear e9
    refine P_aload_n (pc := 63) dX7_readStep_63 rfl ?_
    obtain ⟨a5, e9, k⟩ := k
    refine G7_0 (pc := 64) dX7_readStep_64 l_X7_9 e9 ?_
    clear e9
    refine P_iload (pc := 67) dX7_readStep_67 rfl ?_
    refine P_iload (pc := 69) dX7_readStep_69 rfl ?_
    obtain ⟨n9, f9, e9, i9, k⟩ := k
    refine P_iast (pc := 71) dX7_readStep_71 e9 i9 ?_
    clear e9
    refine P_aload_n (pc := 72) dX7_readStep_72 rfl ?_
    obtain ⟨a7, e9, k⟩ := k
    refine G7_1 (pc := 73) dX7_readStep_73 l_X7_15 e9 ?_
    clear e9
    refine P_iload (pc := 76) dX7_readStep_76 rfl ?_
    refine P_iconst (v := (0 : Int32)) (pc := 78) dX7_readStep_78 (by decide) ?_
    obtain ⟨n9, f9, e9, i9, k⟩ := k
    refine P_iast (pc := 79) dX7_readStep_79 e9 i9 ?_
    clear e9
    refine P_aload_n (pc := 80) dX7_readStep_80 rfl ?_
    obtain ⟨a9, e9, k⟩ := k
    refine G7_2 (pc := 81) dX7_readStep_81 l_X7_18 e9 ?_
    clear e9
    refine P_iload (pc := 84) dX7_readStep_84 rfl ?_
    refine P_iconst (v := (0 : Int32)) (pc := 86) dX7_readStep_86 (by decide) ?_
    obtain ⟨n9, f9, e9, i9, k⟩ := k
    refine P_iast (pc := 87) dX7_readStep_87 e9 i9 ?_
    clear e9
    refine P_aload_n (pc := 88) dX7_readStep_88 rfl ?_
    obtain ⟨a11, e9, k⟩ := k
    refine G7_3 (pc := 89) dX7_readStep_89 l_X7_21 e9 ?_
    clear e9
    refine P_iload (pc := 92) dX7_readStep_92 rfl ?_
    refine P_aload_n (pc := 94) dX7_readStep_94 rfl ?_
    obtain ⟨x12, e9, k⟩ := k
    refine G7_4 (pc := 95) dX7_readStep_95 l_X7_24 e9 ?_
    clear e9
    obtain ⟨n9, f9, e9, i9, k⟩ := k
    refine P_iast (pc := 98) dX7_readStep_98 e9 i9 ?_
    clear e9
    refine P_iload (pc := 99) dX7_readStep_99 rfl ?_
    refine P_bipush (v := (7 : Int32)) (pc := 101) dX7_readStep_101 (by decide) ?_
    refine P_icmp_eq (tgt := 113) (pc := 103) dX7_readStep_103 (by decide) (fun c => ?_) (fun c => ?_)
    · have k := k.1 c
      refine P_iconst (v := (1 : Int32)) (pc := 113) dX7_readStep_113 (by decide) ?_
      exact R_ireturn (pc := 114) dX7_readStep_114 rfl rfl k
    · have k := k.2 c
      refine P_iload (pc := 106) dX7_readStep_106 rfl ?_
      refine P_bipush (v := (8 : Int32)) (pc := 108) dX7_readStep_108 (by decide) ?_
      refine P_icmp_ne (tgt := 115) (pc := 110) dX7_readStep_110 (by decide) (fun c => ?_) (fun c => ?_)
      · have k := k.2 c
        refine P_iload (pc := 115) dX7_readStep_115 rfl ?_
        refine P_bipush (v := (9 : Int32)) (pc := 117) dX7_readStep_117 (by decide) ?_
        refine P_icmp_ne (tgt := 134) (pc := 119) dX7_readStep_119 (by decide) (fun c => ?_) (fun c => ?_)
        · have k := k.2 c
          refine P_aload_n (pc := 134) dX7_readStep_134 rfl ?_
          obtain ⟨a14, e9, k⟩ := k
          refine G7_1 (pc := 135) dX7_readStep_135 l_X7_15 e9 ?_
          clear e9
          refine P_iload (pc := 138) dX7_readStep_138 rfl ?_
          refine P_aload_n (pc := 140) dX7_readStep_140 rfl ?_
          refine P_iconst (v := (0 : Int32)) (pc := 141) dX7_readStep_141 (by decide) ?_
          refine P_iload_n (pc := 142) dX7_readStep_142 rfl ?_
          refine P_iconst (v := (1 : Int32)) (pc := 143) dX7_readStep_143 (by decide) ?_
          refine P_isub (pc := 144) dX7_readStep_144 ?_
          obtain ⟨⟨w9, e9⟩, d2, nc, ns, rc16, rs17, Qc, g1, rfl, rfl, g2, kk, kx⟩ := k
          refine P_callV (ci := 8) (k := 0) (id := l1) (q := (RX8, TX8, 7)) (As := [vI (0 : Int32), vI (l2 - (1 : Int32))]) (st := [vI x2, vR a14]) (pc := 145) dX7_readStep_145 mk_X8_number l_X7_61 im_X8_number se_X8_number ini_X8 rfl g1 (Nat.le_of_ble_eq_true rfl) rfl rfl (by decide) e9 rfl g2 (fun v9 h9 q9 => ?_) (fun E h9 q9 => PX_out rfl (kx E h9 q9))
          obtain ⟨x18, rfl, k⟩ := kk v9 h9 q9
          clear kk kx g1 g2 q9
          obtain ⟨n9, f9, e9, i9, k⟩ := k
          refine P_iast (pc := 148) dX7_readStep_148 e9 i9 ?_
          clear e9
          refine P_iload (pc := 149) dX7_readStep_149 rfl ?_
          refine P_bipush (v := (6 : Int32)) (pc := 151) dX7_readStep_151 (by decide) ?_
          refine P_icmp_ne (tgt := 198) (pc := 153) dX7_readStep_153 (by decide) (fun c => ?_) (fun c => ?_)
          · have k := k.2 c
            refine P_aload_n (pc := 198) dX7_readStep_198 rfl ?_
            obtain ⟨a20, e9, k⟩ := k
            refine G7_1 (pc := 199) dX7_readStep_199 l_X7_15 e9 ?_
            clear e9
            refine P_iload (pc := 202) dX7_readStep_202 rfl ?_
            obtain ⟨n9, f9, e9, i9, k⟩ := k
            refine P_iald (pc := 204) dX7_readStep_204 e9 i9 ?_
            clear e9
            generalize f9 (Int32.toNatClampNeg x2) = x21 at k ⊢
            refine P_iconst (v := (-1 : Int32)) (pc := 205) dX7_readStep_205 (by decide) ?_
            refine P_icmp_eq (tgt := 213) (pc := 206) dX7_readStep_206 (by decide) (fun c => ?_) (fun c => ?_)
            · have k := k.1 c
              refine P_iconst (v := (0 : Int32)) (pc := 213) dX7_readStep_213 (by decide) ?_
              exact R_ireturn (pc := 214) dX7_readStep_214 rfl rfl k
            · have k := k.2 c
              refine P_iconst (v := (1 : Int32)) (pc := 209) dX7_readStep_209 (by decide) ?_
              refine P_goto (tgt := 214) (pc := 210) dX7_readStep_210 (by decide) ?_
              exact R_ireturn (pc := 214) dX7_readStep_214 rfl rfl k
          · have k := k.1 c
            refine P_aload_n (pc := 156) dX7_readStep_156 rfl ?_
            obtain ⟨a22, e9, k⟩ := k
            refine G7_1 (pc := 157) dX7_readStep_157 l_X7_15 e9 ?_
            clear e9
            refine P_iload (pc := 160) dX7_readStep_160 rfl ?_
            obtain ⟨n9, f9, e9, i9, k⟩ := k
            refine P_iald (pc := 162) dX7_readStep_162 e9 i9 ?_
            clear e9
            generalize f9 (Int32.toNatClampNeg x2) = x23 at k ⊢
            refine P_iconst (v := (-1 : Int32)) (pc := 163) dX7_readStep_163 (by decide) ?_
            refine P_icmp_eq (tgt := 198) (pc := 164) dX7_readStep_164 (by decide) (fun c => ?_) (fun c => ?_)
            · have k := k.1 c
              refine P_aload_n (pc := 198) dX7_readStep_198 rfl ?_
              obtain ⟨a24, e9, k⟩ := k
              refine G7_1 (pc := 199) dX7_readStep_199 l_X7_15 e9 ?_
              clear e9
              refine P_iload (pc := 202) dX7_readStep_202 rfl ?_
              obtain ⟨n9, f9, e9, i9, k⟩ := k
              refine P_iald (pc := 204) dX7_readStep_204 e9 i9 ?_
              clear e9
              generalize f9 (Int32.toNatClampNeg x2) = x25 at k ⊢
              refine P_iconst (v := (-1 : Int32)) (pc := 205) dX7_readStep_205 (by decide) ?_
              refine P_icmp_eq (tgt := 213) (pc := 206) dX7_readStep_206 (by decide) (fun c => ?_) (fun c => ?_)
              · have k := k.1 c
                refine P_iconst (v := (0 : Int32)) (pc := 213) dX7_readStep_213 (by decide) ?_
                exact R_ireturn (pc := 214) dX7_readStep_214 rfl rfl k
              · have k := k.2 c
                refine P_iconst (v := (1 : Int32)) (pc := 209) dX7_readStep_209 (by decide) ?_
                refine P_goto (tgt := 214) (pc := 210) dX7_readStep_210 (by decide) ?_
                exact R_ireturn (pc := 214) dX7_readStep_214 rfl rfl k
            · have k := k.2 c
              refine P_aload_n (pc := 167) dX7_readStep_167 rfl ?_
              obtain ⟨a26, e9, k⟩ := k
              refine G7_2 (pc := 168) dX7_readStep_168 l_X7_18 e9 ?_
              clear e9
              refine P_iload (pc := 171) dX7_readStep_171 rfl ?_
              refine P_aload_n (pc := 173) dX7_readStep_173 rfl ?_
              refine P_iconst (v := (0 : Int32)) (pc := 174) dX7_readStep_174 (by decide) ?_
              refine P_bipush (v := (9 : Int32)) (pc := 175) dX7_readStep_175 (by decide) ?_
              obtain ⟨⟨w9, e9⟩, d2, nc, ns, rc28, rs29, Qc, g1, rfl, rfl, g2, kk, kx⟩ := k
              refine P_callV (ci := 8) (k := 0) (id := l1) (q := (RX8, TX8, 7)) (As := [vI (0 : Int32), vI (9 : Int32)]) (st := [vI x2, vR a26]) (pc := 177) dX7_readStep_177 mk_X8_number l_X7_61 im_X8_number se_X8_number ini_X8 rfl g1 (Nat.le_of_ble_eq_true rfl) rfl rfl (by decide) e9 rfl g2 (fun v9 h9 q9 => ?_) (fun E h9 q9 => PX_out rfl (kx E h9 q9))
              obtain ⟨x30, rfl, k⟩ := kk v9 h9 q9
              clear kk kx g1 g2 q9
              obtain ⟨n9, f9, e9, i9, k⟩ := k
              refine P_iast (pc := 180) dX7_readStep_180 e9 i9 ?_
              clear e9
              refine P_aload_n (pc := 181) dX7_readStep_181 rfl ?_
              obtain ⟨a32, e9, k⟩ := k
              refine G7_2 (pc := 182) dX7_readStep_182 l_X7_18 e9 ?_
              clear e9
              refine P_iload (pc := 185) dX7_readStep_185 rfl ?_
              obtain ⟨n9, f9, e9, i9, k⟩ := k
              refine P_iald (pc := 187) dX7_readStep_187 e9 i9 ?_
              clear e9
              generalize f9 (Int32.toNatClampNeg x2) = x33 at k ⊢
              refine P_iconst (v := (-1 : Int32)) (pc := 188) dX7_readStep_188 (by decide) ?_
              refine P_icmp_eq (tgt := 196) (pc := 189) dX7_readStep_189 (by decide) (fun c => ?_) (fun c => ?_)
              · have k := k.1 c
                refine P_iconst (v := (0 : Int32)) (pc := 196) dX7_readStep_196 (by decide) ?_
                exact R_ireturn (pc := 197) dX7_readStep_197 rfl rfl k
              · have k := k.2 c
                refine P_iconst (v := (1 : Int32)) (pc := 192) dX7_readStep_192 (by decide) ?_
                refine P_goto (tgt := 197) (pc := 193) dX7_readStep_193 (by decide) ?_
                exact R_ireturn (pc := 197) dX7_readStep_197 rfl rfl k
        · have k := k.1 c
          refine P_aload_n (pc := 122) dX7_readStep_122 rfl ?_
          refine P_aload_n (pc := 123) dX7_readStep_123 rfl ?_
          refine P_iload_n (pc := 124) dX7_readStep_124 rfl ?_
          refine P_iload_n (pc := 125) dX7_readStep_125 rfl ?_
          refine P_iconst (v := (1 : Int32)) (pc := 126) dX7_readStep_126 (by decide) ?_
          refine P_iadd (pc := 127) dX7_readStep_127 ?_
          refine P_iload (pc := 128) dX7_readStep_128 rfl ?_
          obtain ⟨⟨w9, e9⟩, d2, nc, ns, rc35, rs36, Qc, g1, rfl, rfl, g2, kk, kx⟩ := k
          refine P_callV (ci := 7) (k := 0) (id := l0) (q := (RX7, TX7, 8)) (As := [vR (800, l1), vI l2, vI (l3 + (1 : Int32)), vI x2]) (st := []) (pc := 130) dX7_readStep_130 mk_X7_readAgain l_X7_57 im_X7_readAgain se_X7_readAgain ini_X7 rfl g1 (Nat.le_of_ble_eq_true rfl) rfl rfl (by decide) e9 rfl g2 (fun v9 h9 q9 => ?_) (fun E h9 q9 => PX_out rfl (kx E h9 q9))
          obtain ⟨x37, rfl, k⟩ := kk v9 h9 q9
          clear kk kx g1 g2 q9
          exact R_ireturn (pc := 133) dX7_readStep_133 rfl k.1 k.2
      · have k := k.1 c
        refine P_iconst (v := (1 : Int32)) (pc := 113) dX7_readStep_113 (by decide) ?_
        exact R_ireturn (pc := 114) dX7_readStep_114 rfl rfl k
  · have k := k.2 c
    refine P_aload_n (pc := 41) dX7_readStep_41 rfl ?_
    refine P_iconst (v := (3 : Int32)) (pc := 42) dX7_readStep_42 (by decide) ?_
    obtain ⟨⟨w9, e9⟩, d2, nc, ns, rc39, rs40, Qc, g1, rfl, rfl, g2, kk, kx⟩ := k
    refine P_callV (ci := 8) (k := 0) (id := l1) (q := (RX8, TX8, 7)) (As := [vI (3 : Int32)]) (st := []) (pc := 43) dX7_readStep_43 mk_X8_refuse l_X7_53 im_X8_refuse se_X8_refuse ini_X8 rfl g1 (Nat.le_of_ble_eq_true rfl) rfl rfl (by decide) e9 rfl g2 (fun v9 h9 q9 => ?_) (fun E h9 q9 => PX_out rfl (kx E h9 q9))
    obtain ⟨x41, rfl, k⟩ := kk v9 h9 q9
    clear kk kx g1 g2 q9
    exact R_ireturn (pc := 46) dX7_readStep_46 rfl k.1 k.2
-- X7_readAgain readAgain(LFernHeirs$Text;III)Z
theorem dX7_readAgain_0 : decode cX7_readAgain 0 = .ok (.aload_n 0, 1) := by decide +kernel
theorem dX7_readAgain_1 : decode cX7_readAgain 1 = .ok (.getfield 18, 3) := by decide +kernel
theorem dX7_readAgain_4 : decode cX7_readAgain 4 = .ok (.iload 4, 2) := by decide +kernel
theorem dX7_readAgain_6 : decode cX7_readAgain 6 = .ok (.aload_n 1, 1) := by decide +kernel
theorem dX7_readAgain_7 : decode cX7_readAgain 7 = .ok (.iconst 0, 1) := by decide +kernel
theorem dX7_readAgain_8 : decode cX7_readAgain 8 = .ok (.bipush 30, 2) := by decide +kernel
theorem dX7_readAgain_10 : decode cX7_readAgain 10 = .ok (.invokevirtual 61, 3) := by decide +kernel
theorem dX7_readAgain_13 : decode cX7_readAgain 13 = .ok (.iastore, 1) := by decide +kernel
theorem dX7_readAgain_14 : decode cX7_readAgain 14 = .ok (.aload_n 0, 1) := by decide +kernel
theorem dX7_readAgain_15 : decode cX7_readAgain 15 = .ok (.getfield 18, 3) := by decide +kernel
theorem dX7_readAgain_18 : decode cX7_readAgain 18 = .ok (.iload 4, 2) := by decide +kernel
theorem dX7_readAgain_20 : decode cX7_readAgain 20 = .ok (.iaload, 1) := by decide +kernel
theorem dX7_readAgain_21 : decode cX7_readAgain 21 = .ok (.iconst (-1), 1) := by decide +kernel
theorem dX7_readAgain_22 : decode cX7_readAgain 22 = .ok (.if_icmp .eq 35, 3) := by decide +kernel
theorem dX7_readAgain_25 : decode cX7_readAgain 25 = .ok (.aload_n 1, 1) := by decide +kernel
theorem dX7_readAgain_26 : decode cX7_readAgain 26 = .ok (.bipush 91, 2) := by decide +kernel
theorem dX7_readAgain_28 : decode cX7_readAgain 28 = .ok (.invokevirtual 45, 3) := by decide +kernel
theorem dX7_readAgain_31 : decode cX7_readAgain 31 = .ok (.ifCond .eq 26, 3) := by decide +kernel
theorem dX7_readAgain_34 : decode cX7_readAgain 34 = .ok (.aload_n 0, 1) := by decide +kernel
theorem dX7_readAgain_35 : decode cX7_readAgain 35 = .ok (.aload_n 1, 1) := by decide +kernel
theorem dX7_readAgain_36 : decode cX7_readAgain 36 = .ok (.iload_n 2, 1) := by decide +kernel
theorem dX7_readAgain_37 : decode cX7_readAgain 37 = .ok (.iload_n 3, 1) := by decide +kernel
theorem dX7_readAgain_38 : decode cX7_readAgain 38 = .ok (.invokevirtual 28, 3) := by decide +kernel
theorem dX7_readAgain_41 : decode cX7_readAgain 41 = .ok (.ifCond .eq 16, 3) := by decide +kernel
theorem dX7_readAgain_44 : decode cX7_readAgain 44 = .ok (.aload_n 1, 1) := by decide +kernel
theorem dX7_readAgain_45 : decode cX7_readAgain 45 = .ok (.bipush 93, 2) := by decide +kernel
theorem dX7_readAgain_47 : decode cX7_readAgain 47 = .ok (.invokevirtual 45, 3) := by decide +kernel
theorem dX7_readAgain_50 : decode cX7_readAgain 50 = .ok (.ifCond .eq 7, 3) := by decide +kernel
theorem dX7_readAgain_53 : decode cX7_readAgain 53 = .ok (.iconst 1, 1) := by decide +kernel
theorem dX7_readAgain_54 : decode cX7_readAgain 54 = .ok (.goto 4, 3) := by decide +kernel
theorem dX7_readAgain_57 : decode cX7_readAgain 57 = .ok (.iconst 0, 1) := by decide +kernel
theorem dX7_readAgain_58 : decode cX7_readAgain 58 = .ok (.istore 5, 2) := by decide +kernel
theorem dX7_readAgain_60 : decode cX7_readAgain 60 = .ok (.aload_n 0, 1) := by decide +kernel
theorem dX7_readAgain_61 : decode cX7_readAgain 61 = .ok (.getfield 21, 3) := by decide +kernel
theorem dX7_readAgain_64 : decode cX7_readAgain 64 = .ok (.iload 4, 2) := by decide +kernel
theorem dX7_readAgain_66 : decode cX7_readAgain 66 = .ok (.aload_n 0, 1) := by decide +kernel
theorem dX7_readAgain_67 : decode cX7_readAgain 67 = .ok (.getfield 24, 3) := by decide +kernel
theorem dX7_readAgain_70 : decode cX7_readAgain 70 = .ok (.iastore, 1) := by decide +kernel
theorem dX7_readAgain_71 : decode cX7_readAgain 71 = .ok (.iload 5, 2) := by decide +kernel
theorem dX7_readAgain_73 : decode cX7_readAgain 73 = .ok (.ireturn, 1) := by decide +kernel
theorem r_X7_readAgain_0 {d rc rs : Nat} {Q : PO → PH → Prop} {h : PH} {l0 : Nat} {l1 : Nat} {l2 : Int32} {l3 : Int32} {l4 : Int32}
    (k : gA h (10702, l0) fun a1 => isO h 10800 l1 ∧ cl d rc rs M_X8_number [vR (800, l1), vI (0 : Int32), vI (30 : Int32)] h (kI fun x5 h2 rc3 rs4 => yI h2 a1 l4 x5 fun h6 => gA h6 (10702, l0) fun a7 => xI h6 a7 l4 fun x8 => br (x8 = (-1 : Int32)) (gA h6 (10703, l0) fun a9 => gI h6 (10704, l0) fun x10 => yI h6 a9 l4 x10 fun h11 => Q (.inl (some (vI (0 : Int32)))) h11) (isO h6 10800 l1 ∧ cl d rc3 rs4 M_X8_needSign [vR (800, l1), vI (91 : Int32)] h6 (kI fun x15 h12 rc13 rs14 => br (x15 = 0) (gA h12 (10703, l0) fun a16 => gI h12 (10704, l0) fun x17 => yI h12 a16 l4 x17 fun h18 => Q (.inl (some (vI (0 : Int32)))) h18) (isO h12 10700 l0 ∧ cl d rc13 rs14 M_X7_readRow [vR (700, l0), vR (800, l1), vI l2, vI l3] h12 (kI fun x22 h19 rc20 rs21 => br (x22 = 0) (gA h19 (10703, l0) fun a23 => gI h19 (10704, l0) fun x24 => yI h19 a23 l4 x24 fun h25 => Q (.inl (some (vI (0 : Int32)))) h25) (isO h19 10800 l1 ∧ cl d rc20 rs21 M_X8_needSign [vR (800, l1), vI (93 : Int32)] h19 (kI fun x29 h26 rc27 rs28 => br (x29 = 0) (gA h26 (10703, l0) fun a30 => gI h26 (10704, l0) fun x31 => yI h26 a30 l4 x31 fun h32 => Q (.inl (some (vI (0 : Int32)))) h32) (gA h26 (10703, l0) fun a33 => gI h26 (10704, l0) fun x34 => yI h26 a33 l4 x34 fun h35 => Q (.inl (some (vI (1 : Int32)))) h35)) (fun E h26 rc27 rs28 => Q (.inr E) h26))) (fun E h19 rc20 rs21 => Q (.inr E) h19))) (fun E h12 rc13 rs14 => Q (.inr E) h12))) (fun E h2 rc3 rs4 => Q (.inr E) h2)) :
    PW d M_X7_readAgain Q rc rs 0 [vR (700, l0), vR (800, l1), vI l2, vI l3, vI l4, vU] [] h := by
  refine P_aload_n (pc := 0) dX7_readAgain_0 rfl ?_
  obtain ⟨a1, e9, k⟩ := k
  refine G7_2 (pc := 1) dX7_readAgain_1 l_X7_18 e9 ?_
  clear e9
  refine P_iload (pc := 4) dX7_readAgain_4 rfl ?_
  refine P_aload_n (pc := 6) dX7_readAgain_6 rfl ?_
  refine P_iconst (v := (0 : Int32)) (pc := 7) dX7_readAgain_7 (by decide) ?_
  refine P_bipush (v := (30 : Int32)) (pc := 8) dX7_readAgain_8 (by decide) ?_
  obtain ⟨⟨w9, e9⟩, d2, nc, ns, rc3, rs4, Qc, g1, rfl, rfl, g2, kk, kx⟩ := k
  refine P_callV (ci := 8) (k := 0) (id := l1) (q := (RX8, TX8, 7)) (As := [vI (0 : Int32), vI (30 : Int32)]) (st := [vI l4, vR a1]) (pc := 10) dX7_readAgain_10 mk_X8_number l_X7_61 im_X8_number se_X8_number ini_X8 rfl g1 (Nat.le_of_ble_eq_true rfl) rfl rfl (by decide) e9 rfl g2 (fun v9 h9 q9 => ?_) (fun E h9 q9 => PX_out rfl (kx E h9 q9))
  obtain ⟨x5, rfl, k⟩ := kk v9 h9 q9
  clear kk kx g1 g2 q9
  obtain ⟨n9, f9, e9, i9, k⟩ := k
  refine P_iast (pc := 13) dX7_readAgain_13 e9 i9 ?_
  clear e9
  refine P_aload_n (pc := 14) dX7_readAgain_14 rfl ?_
  obtain ⟨a7, e9, k⟩ := k
  refine G7_2 (pc := 15) dX7_readAgain_15 l_X7_18 e9 ?_
  clear e9
  refine P_iload (pc := 18) dX7_readAgain_18 rfl ?_
  obtain ⟨n9, f9, e9, i9, k⟩ := k
  refine P_iald (pc := 20) dX7_readAgain_20 e9 i9 ?_
  clear e9
  generalize f9 (Int32.toNatClampNeg l4) = x8 at k ⊢
  refine P_iconst (v := (-1 : Int32)) (pc := 21) dX7_readAgain_21 (by decide) ?_
  refine P_icmp_eq (tgt := 57) (pc := 22) dX7_readAgain_22 (by decide) (fun c => ?_) (fun c => ?_)
  · have k := k.1 c
    refine P_iconst (v := (0 : Int32)) (pc := 57) dX7_readAgain_57 (by decide) ?_
    refine P_istore (pc := 58) dX7_readAgain_58 (by decide) (Or.inr (by intro z e9; cases e9)) rfl ?_
    refine P_aload_n (pc := 60) dX7_readAgain_60 rfl ?_
    obtain ⟨a9, e9, k⟩ := k
    refine G7_3 (pc := 61) dX7_readAgain_61 l_X7_21 e9 ?_
    clear e9
    refine P_iload (pc := 64) dX7_readAgain_64 rfl ?_
    refine P_aload_n (pc := 66) dX7_readAgain_66 rfl ?_
    obtain ⟨x10, e9, k⟩ := k
    refine G7_4 (pc := 67) dX7_readAgain_67 l_X7_24 e9 ?_
    clear e9
    obtain ⟨n9, f9, e9, i9, k⟩ := k
    refine P_iast (pc := 70) dX7_readAgain_70 e9 i9 ?_
    clear e9
    refine P_iload (pc := 71) dX7_readAgain_71 rfl ?_
    exact R_ireturn (pc := 73) dX7_readAgain_73 rfl rfl k
  · have k := k.2 c
    refine P_aload_n (pc := 25) dX7_readAgain_25 rfl ?_
    refine P_bipush (v := (91 : Int32)) (pc := 26) dX7_readAgain_26 (by decide) ?_
    obtain ⟨⟨w9, e9⟩, d2, nc, ns, rc13, rs14, Qc, g1, rfl, rfl, g2, kk, kx⟩ := k
    refine P_callV (ci := 8) (k := 0) (id := l1) (q := (RX8, TX8, 7)) (As := [vI (91 : Int32)]) (st := []) (pc := 28) dX7_readAgain_28 mk_X8_needSign l_X7_45 im_X8_needSign se_X8_needSign ini_X8 rfl g1 (Nat.le_of_ble_eq_true rfl) rfl rfl (by decide) e9 rfl g2 (fun v9 h9 q9 => ?_) (fun E h9 q9 => PX_out rfl (kx E h9 q9))
    obtain ⟨x15, rfl, k⟩ := kk v9 h9 q9
    clear kk kx g1 g2 q9
    refine P_if_eq (tgt := 57) (pc := 31) dX7_readAgain_31 (by decide) (fun c => ?_) (fun c => ?_)
    · have k := k.1 c
      refine P_iconst (v := (0 : Int32)) (pc := 57) dX7_readAgain_57 (by decide) ?_
      refine P_istore (pc := 58) dX7_readAgain_58 (by decide) (Or.inr (by intro z e9; cases e9)) rfl ?_
      refine P_aload_n (pc := 60) dX7_readAgain_60 rfl ?_
      obtain ⟨a16, e9, k⟩ := k
      refine G7_3 (pc := 61) dX7_readAgain_61 l_X7_21 e9 ?_
      clear e9
      refine P_iload (pc := 64) dX7_readAgain_64 rfl ?_
      refine P_aload_n (pc := 66) dX7_readAgain_66 rfl ?_
      obtain ⟨x17, e9, k⟩ := k
      refine G7_4 (pc := 67) dX7_readAgain_67 l_X7_24 e9 ?_
      clear e9
      obtain ⟨n9, f9, e9, i9, k⟩ := k
      refine P_iast (pc := 70) dX7_readAgain_70 e9 i9 ?_
      clear e9
      refine P_iload (pc := 71) dX7_readAgain_71 rfl ?_
      exact R_ireturn (pc := 73) dX7_readAgain_73 rfl rfl k
    · have k := k.2 c
      refine P_aload_n (pc := 34) dX7_readAgain_34 rfl ?_
      refine P_aload_n (pc := 35) dX7_readAgain_35 rfl ?_
      refine P_iload_n (pc := 36) dX7_readAgain_36 rfl ?_
      refine P_iload_n (pc := 37) dX7_readAgain_37 rfl ?_
      obtain ⟨⟨w9, e9⟩, d2, nc, ns, rc20, rs21, Qc, g1, rfl, rfl, g2, kk, kx⟩ := k
      refine P_callV (ci := 7) (k := 0) (id := l0) (q := (RX7, TX7, 8)) (As := [vR (800, l1), vI l2, vI l3]) (st := []) (pc := 38) dX7_readAgain_38 mk_X7_readRow l_X7_28 im_X7_readRow se_X7_readRow ini_X7 rfl g1 (Nat.le_of_ble_eq_true rfl) rfl rfl (by decide) e9 rfl g2 (fun v9 h9 q9 => ?_) (fun E h9 q9 => PX_out rfl (kx E h9 q9))
      obtain ⟨x22, rfl, k⟩ := kk v9 h9 q9
      clear kk kx g1 g2 q9
      refine P_if_eq (tgt := 57) (pc := 41) dX7_readAgain_41 (by decide) (fun c => ?_) (fun c => ?_)
      · have k := k.1 c
        refine P_iconst (v := (0 : Int32)) (pc := 57) dX7_readAgain_57 (by decide) ?_
        refine P_istore (pc := 58) dX7_readAgain_58 (by decide) (Or.inr (by intro z e9; cases e9)) rfl ?_
        refine P_aload_n (pc := 60) dX7_readAgain_60 rfl ?_
        obtain ⟨a23, e9, k⟩ := k
        refine G7_3 (pc := 61) dX7_readAgain_61 l_X7_21 e9 ?_
        clear e9
        refine P_iload (pc := 64) dX7_readAgain_64 rfl ?_
        refine P_aload_n (pc := 66) dX7_readAgain_66 rfl ?_
        obtain ⟨x24, e9, k⟩ := k
        refine G7_4 (pc := 67) dX7_readAgain_67 l_X7_24 e9 ?_
        clear e9
        obtain ⟨n9, f9, e9, i9, k⟩ := k
        refine P_iast (pc := 70) dX7_readAgain_70 e9 i9 ?_
        clear e9
        refine P_iload (pc := 71) dX7_readAgain_71 rfl ?_
        exact R_ireturn (pc := 73) dX7_readAgain_73 rfl rfl k
      · have k := k.2 c
        refine P_aload_n (pc := 44) dX7_readAgain_44 rfl ?_
        refine P_bipush (v := (93 : Int32)) (pc := 45) dX7_readAgain_45 (by decide) ?_
        obtain ⟨⟨w9, e9⟩, d2, nc, ns, rc27, rs28, Qc, g1, rfl, rfl, g2, kk, kx⟩ := k
        refine P_callV (ci := 8) (k := 0) (id := l1) (q := (RX8, TX8, 7)) (As := [vI (93 : Int32)]) (st := []) (pc := 47) dX7_readAgain_47 mk_X8_needSign l_X7_45 im_X8_needSign se_X8_needSign ini_X8 rfl g1 (Nat.le_of_ble_eq_true rfl) rfl rfl (by decide) e9 rfl g2 (fun v9 h9 q9 => ?_) (fun E h9 q9 => PX_out rfl (kx E h9 q9))
        obtain ⟨x29, rfl, k⟩ := kk v9 h9 q9
        clear kk kx g1 g2 q9
        refine P_if_eq (tgt := 57) (pc := 50) dX7_readAgain_50 (by decide) (fun c => ?_) (fun c => ?_)
        · have k := k.1 c
          refine P_iconst (v := (0 : Int32)) (pc := 57) dX7_readAgain_57 (by decide) ?_
          refine P_istore (pc := 58) dX7_readAgain_58 (by decide) (Or.inr (by intro z e9; cases e9)) rfl ?_
          refine P_aload_n (pc := 60) dX7_readAgain_60 rfl ?_
          obtain ⟨a30, e9, k⟩ := k
          refine G7_3 (pc := 61) dX7_readAgain_61 l_X7_21 e9 ?_
          clear e9
          refine P_iload (pc := 64) dX7_readAgain_64 rfl ?_
          refine P_aload_n (pc := 66) dX7_readAgain_66 rfl ?_
          obtain ⟨x31, e9, k⟩ := k
          refine G7_4 (pc := 67) dX7_readAgain_67 l_X7_24 e9 ?_
          clear e9
          obtain ⟨n9, f9, e9, i9, k⟩ := k
          refine P_iast (pc := 70) dX7_readAgain_70 e9 i9 ?_
          clear e9
          refine P_iload (pc := 71) dX7_readAgain_71 rfl ?_
          exact R_ireturn (pc := 73) dX7_readAgain_73 rfl rfl k
        · have k := k.2 c
          refine P_iconst (v := (1 : Int32)) (pc := 53) dX7_readAgain_53 (by decide) ?_
          refine P_goto (tgt := 58) (pc := 54) dX7_readAgain_54 (by decide) ?_
          refine P_istore (pc := 58) dX7_readAgain_58 (by decide) (Or.inr (by intro z e9; cases e9)) rfl ?_
          refine P_aload_n (pc := 60) dX7_readAgain_60 rfl ?_
          obtain ⟨a33, e9, k⟩ := k
          refine G7_3 (pc := 61) dX7_readAgain_61 l_X7_21 e9 ?_
          clear e9
          refine P_iload (pc := 64) dX7_readAgain_64 rfl ?_
          refine P_aload_n (pc := 66) dX7_readAgain_66 rfl ?_
          obtain ⟨x34, e9, k⟩ := k
          refine G7_4 (pc := 67) dX7_readAgain_67 l_X7_24 e9 ?_
          clear e9
          obtain ⟨n9, f9, e9, i9, k⟩ := k
          refine P_iast (pc := 70) dX7_readAgain_70 e9 i9 ?_
          clear e9
          refine P_iload (pc := 71) dX7_readAgain_71 rfl ?_
          exact R_ireturn (pc := 73) dX7_readAgain_73 rfl rfl k
-- X7_kindAhead kindAhead(LFernHeirs$Text;)I
theorem dX7_kindAhead_0 : decode cX7_kindAhead 0 = .ok (.aload_n 0, 1) := by decide +kernel
theorem dX7_kindAhead_1 : decode cX7_kindAhead 1 = .ok (.ldc 65, 2) := by decide +kernel
theorem dX7_kindAhead_3 : decode cX7_kindAhead 3 = .ok (.invokevirtual 67, 3) := by decide +kernel
theorem dX7_kindAhead_6 : decode cX7_kindAhead 6 = .ok (.ifCond .eq 7, 3) := by decide +kernel
theorem dX7_kindAhead_9 : decode cX7_kindAhead 9 = .ok (.iconst 1, 1) := by decide +kernel
theorem dX7_kindAhead_10 : decode cX7_kindAhead 10 = .ok (.goto 125, 3) := by decide +kernel
theorem dX7_kindAhead_13 : decode cX7_kindAhead 13 = .ok (.aload_n 0, 1) := by decide +kernel
theorem dX7_kindAhead_14 : decode cX7_kindAhead 14 = .ok (.ldc 71, 2) := by decide +kernel
theorem dX7_kindAhead_16 : decode cX7_kindAhead 16 = .ok (.invokevirtual 67, 3) := by decide +kernel
theorem dX7_kindAhead_19 : decode cX7_kindAhead 19 = .ok (.ifCond .eq 7, 3) := by decide +kernel
theorem dX7_kindAhead_22 : decode cX7_kindAhead 22 = .ok (.iconst 3, 1) := by decide +kernel
theorem dX7_kindAhead_23 : decode cX7_kindAhead 23 = .ok (.goto 112, 3) := by decide +kernel
theorem dX7_kindAhead_26 : decode cX7_kindAhead 26 = .ok (.aload_n 0, 1) := by decide +kernel
theorem dX7_kindAhead_27 : decode cX7_kindAhead 27 = .ok (.ldc 73, 2) := by decide +kernel
theorem dX7_kindAhead_29 : decode cX7_kindAhead 29 = .ok (.invokevirtual 67, 3) := by decide +kernel
theorem dX7_kindAhead_32 : decode cX7_kindAhead 32 = .ok (.ifCond .eq 7, 3) := by decide +kernel
theorem dX7_kindAhead_35 : decode cX7_kindAhead 35 = .ok (.iconst 4, 1) := by decide +kernel
theorem dX7_kindAhead_36 : decode cX7_kindAhead 36 = .ok (.goto 99, 3) := by decide +kernel
theorem dX7_kindAhead_39 : decode cX7_kindAhead 39 = .ok (.aload_n 0, 1) := by decide +kernel
theorem dX7_kindAhead_40 : decode cX7_kindAhead 40 = .ok (.ldc 75, 2) := by decide +kernel
theorem dX7_kindAhead_42 : decode cX7_kindAhead 42 = .ok (.invokevirtual 67, 3) := by decide +kernel
theorem dX7_kindAhead_45 : decode cX7_kindAhead 45 = .ok (.ifCond .eq 7, 3) := by decide +kernel
theorem dX7_kindAhead_48 : decode cX7_kindAhead 48 = .ok (.iconst 5, 1) := by decide +kernel
theorem dX7_kindAhead_49 : decode cX7_kindAhead 49 = .ok (.goto 86, 3) := by decide +kernel
theorem dX7_kindAhead_52 : decode cX7_kindAhead 52 = .ok (.aload_n 0, 1) := by decide +kernel
theorem dX7_kindAhead_53 : decode cX7_kindAhead 53 = .ok (.ldc 77, 2) := by decide +kernel
theorem dX7_kindAhead_55 : decode cX7_kindAhead 55 = .ok (.invokevirtual 67, 3) := by decide +kernel
theorem dX7_kindAhead_58 : decode cX7_kindAhead 58 = .ok (.ifCond .eq 7, 3) := by decide +kernel
theorem dX7_kindAhead_61 : decode cX7_kindAhead 61 = .ok (.iconst 2, 1) := by decide +kernel
theorem dX7_kindAhead_62 : decode cX7_kindAhead 62 = .ok (.goto 73, 3) := by decide +kernel
theorem dX7_kindAhead_65 : decode cX7_kindAhead 65 = .ok (.aload_n 0, 1) := by decide +kernel
theorem dX7_kindAhead_66 : decode cX7_kindAhead 66 = .ok (.ldc 79, 2) := by decide +kernel
theorem dX7_kindAhead_68 : decode cX7_kindAhead 68 = .ok (.invokevirtual 67, 3) := by decide +kernel
theorem dX7_kindAhead_71 : decode cX7_kindAhead 71 = .ok (.ifCond .eq 7, 3) := by decide +kernel
theorem dX7_kindAhead_74 : decode cX7_kindAhead 74 = .ok (.iconst 0, 1) := by decide +kernel
theorem dX7_kindAhead_75 : decode cX7_kindAhead 75 = .ok (.goto 60, 3) := by decide +kernel
theorem dX7_kindAhead_78 : decode cX7_kindAhead 78 = .ok (.aload_n 0, 1) := by decide +kernel
theorem dX7_kindAhead_79 : decode cX7_kindAhead 79 = .ok (.ldc 81, 2) := by decide +kernel
theorem dX7_kindAhead_81 : decode cX7_kindAhead 81 = .ok (.invokevirtual 67, 3) := by decide +kernel
theorem dX7_kindAhead_84 : decode cX7_kindAhead 84 = .ok (.ifCond .eq 8, 3) := by decide +kernel
theorem dX7_kindAhead_87 : decode cX7_kindAhead 87 = .ok (.bipush 6, 2) := by decide +kernel
theorem dX7_kindAhead_89 : decode cX7_kindAhead 89 = .ok (.goto 46, 3) := by decide +kernel
theorem dX7_kindAhead_92 : decode cX7_kindAhead 92 = .ok (.aload_n 0, 1) := by decide +kernel
theorem dX7_kindAhead_93 : decode cX7_kindAhead 93 = .ok (.ldc 83, 2) := by decide +kernel
theorem dX7_kindAhead_95 : decode cX7_kindAhead 95 = .ok (.invokevirtual 67, 3) := by decide +kernel
theorem dX7_kindAhead_98 : decode cX7_kindAhead 98 = .ok (.ifCond .eq 8, 3) := by decide +kernel
theorem dX7_kindAhead_101 : decode cX7_kindAhead 101 = .ok (.bipush 7, 2) := by decide +kernel
theorem dX7_kindAhead_103 : decode cX7_kindAhead 103 = .ok (.goto 32, 3) := by decide +kernel
theorem dX7_kindAhead_106 : decode cX7_kindAhead 106 = .ok (.aload_n 0, 1) := by decide +kernel
theorem dX7_kindAhead_107 : decode cX7_kindAhead 107 = .ok (.ldc 85, 2) := by decide +kernel
theorem dX7_kindAhead_109 : decode cX7_kindAhead 109 = .ok (.invokevirtual 67, 3) := by decide +kernel
theorem dX7_kindAhead_112 : decode cX7_kindAhead 112 = .ok (.ifCond .eq 8, 3) := by decide +kernel
theorem dX7_kindAhead_115 : decode cX7_kindAhead 115 = .ok (.bipush 8, 2) := by decide +kernel
theorem dX7_kindAhead_117 : decode cX7_kindAhead 117 = .ok (.goto 18, 3) := by decide +kernel
theorem dX7_kindAhead_120 : decode cX7_kindAhead 120 = .ok (.aload_n 0, 1) := by decide +kernel
theorem dX7_kindAhead_121 : decode cX7_kindAhead 121 = .ok (.ldc 87, 2) := by decide +kernel
theorem dX7_kindAhead_123 : decode cX7_kindAhead 123 = .ok (.invokevirtual 67, 3) := by decide +kernel
theorem dX7_kindAhead_126 : decode cX7_kindAhead 126 = .ok (.ifCond .eq 8, 3) := by decide +kernel
theorem dX7_kindAhead_129 : decode cX7_kindAhead 129 = .ok (.bipush 9, 2) := by decide +kernel
theorem dX7_kindAhead_131 : decode cX7_kindAhead 131 = .ok (.goto 4, 3) := by decide +kernel
theorem dX7_kindAhead_134 : decode cX7_kindAhead 134 = .ok (.iconst (-1), 1) := by decide +kernel
theorem dX7_kindAhead_135 : decode cX7_kindAhead 135 = .ok (.ireturn, 1) := by decide +kernel
theorem r_X7_kindAhead_0 {d rc rs : Nat} {Q : PO → PH → Prop} {h : PH} {l0 : Nat}
    (k : isO h 10800 l0 ∧ cl d rc rs M_X8_takeWord [vR (800, l0), vR (1200, 13)] h (kI fun x4 h1 rc2 rs3 => br (x4 = 0) (isO h1 10800 l0 ∧ cl d rc2 rs3 M_X8_takeWord [vR (800, l0), vR (1200, 14)] h1 (kI fun x8 h5 rc6 rs7 => br (x8 = 0) (isO h5 10800 l0 ∧ cl d rc6 rs7 M_X8_takeWord [vR (800, l0), vR (1200, 15)] h5 (kI fun x12 h9 rc10 rs11 => br (x12 = 0) (isO h9 10800 l0 ∧ cl d rc10 rs11 M_X8_takeWord [vR (800, l0), vR (1200, 16)] h9 (kI fun x16 h13 rc14 rs15 => br (x16 = 0) (isO h13 10800 l0 ∧ cl d rc14 rs15 M_X8_takeWord [vR (800, l0), vR (1200, 9)] h13 (kI fun x20 h17 rc18 rs19 => br (x20 = 0) (isO h17 10800 l0 ∧ cl d rc18 rs19 M_X8_takeWord [vR (800, l0), vR (1200, 17)] h17 (kI fun x24 h21 rc22 rs23 => br (x24 = 0) (isO h21 10800 l0 ∧ cl d rc22 rs23 M_X8_takeWord [vR (800, l0), vR (1200, 18)] h21 (kI fun x28 h25 rc26 rs27 => br (x28 = 0) (isO h25 10800 l0 ∧ cl d rc26 rs27 M_X8_takeWord [vR (800, l0), vR (1200, 12)] h25 (kI fun x32 h29 rc30 rs31 => br (x32 = 0) (isO h29 10800 l0 ∧ cl d rc30 rs31 M_X8_takeWord [vR (800, l0), vR (1200, 19)] h29 (kI fun x36 h33 rc34 rs35 => br (x36 = 0) (isO h33 10800 l0 ∧ cl d rc34 rs35 M_X8_takeWord [vR (800, l0), vR (1200, 20)] h33 (kI fun x40 h37 rc38 rs39 => br (x40 = 0) (Q (.inl (some (vI (-1 : Int32)))) h37) (Q (.inl (some (vI (9 : Int32)))) h37)) (fun E h37 rc38 rs39 => Q (.inr E) h37)) (Q (.inl (some (vI (8 : Int32)))) h33)) (fun E h33 rc34 rs35 => Q (.inr E) h33)) (Q (.inl (some (vI (7 : Int32)))) h29)) (fun E h29 rc30 rs31 => Q (.inr E) h29)) (Q (.inl (some (vI (6 : Int32)))) h25)) (fun E h25 rc26 rs27 => Q (.inr E) h25)) (Q (.inl (some (vI (0 : Int32)))) h21)) (fun E h21 rc22 rs23 => Q (.inr E) h21)) (Q (.inl (some (vI (2 : Int32)))) h17)) (fun E h17 rc18 rs19 => Q (.inr E) h17)) (Q (.inl (some (vI (5 : Int32)))) h13)) (fun E h13 rc14 rs15 => Q (.inr E) h13)) (Q (.inl (some (vI (4 : Int32)))) h9)) (fun E h9 rc10 rs11 => Q (.inr E) h9)) (Q (.inl (some (vI (3 : Int32)))) h5)) (fun E h5 rc6 rs7 => Q (.inr E) h5)) (Q (.inl (some (vI (1 : Int32)))) h1)) (fun E h1 rc2 rs3 => Q (.inr E) h1)) :
    PW d M_X7_kindAhead Q rc rs 0 [vR (800, l0)] [] h := by
  refine P_aload_n (pc := 0) dX7_kindAhead_0 rfl ?_
  refine P_ldcS (i := 13) (tx := "wipe") (pc := 1) dX7_kindAhead_1 (by decide +kernel) ?_
  obtain ⟨⟨w9, e9⟩, d2, nc, ns, rc2, rs3, Qc, g1, rfl, rfl, g2, kk, kx⟩ := k
  refine P_callV (ci := 8) (k := 0) (id := l0) (q := (RX8, TX8, 7)) (As := [vR (1200, 13)]) (st := []) (pc := 3) dX7_kindAhead_3 mk_X8_takeWord l_X7_67 im_X8_takeWord se_X8_takeWord ini_X8 rfl g1 (Nat.le_of_ble_eq_true rfl) rfl rfl (by decide) e9 rfl g2 (fun v9 h9 q9 => ?_) (fun E h9 q9 => PX_out rfl (kx E h9 q9))
  obtain ⟨x4, rfl, k⟩ := kk v9 h9 q9
  clear kk kx g1 g2 q9
  refine P_if_eq (tgt := 13) (pc := 6) dX7_kindAhead_6 (by decide) (fun c => ?_) (fun c => ?_)
  · have k := k.1 c
    refine P_aload_n (pc := 13) dX7_kindAhead_13 rfl ?_
    refine P_ldcS (i := 14) (tx := "lift") (pc := 14) dX7_kindAhead_14 (by decide +kernel) ?_
    obtain ⟨⟨w9, e9⟩, d2, nc, ns, rc6, rs7, Qc, g1, rfl, rfl, g2, kk, kx⟩ := k
    refine P_callV (ci := 8) (k := 0) (id := l0) (q := (RX8, TX8, 7)) (As := [vR (1200, 14)]) (st := []) (pc := 16) dX7_kindAhead_16 mk_X8_takeWord l_X7_67 im_X8_takeWord se_X8_takeWord ini_X8 rfl g1 (Nat.le_of_ble_eq_true rfl) rfl rfl (by decide) e9 rfl g2 (fun v9 h9 q9 => ?_) (fun E h9 q9 => PX_out rfl (kx E h9 q9))
    obtain ⟨x8, rfl, k⟩ := kk v9 h9 q9
    clear kk kx g1 g2 q9
    refine P_if_eq (tgt := 26) (pc := 19) dX7_kindAhead_19 (by decide) (fun c => ?_) (fun c => ?_)
    · have k := k.1 c
      refine P_aload_n (pc := 26) dX7_kindAhead_26 rfl ?_
      refine P_ldcS (i := 15) (tx := "lower") (pc := 27) dX7_kindAhead_27 (by decide +kernel) ?_
      obtain ⟨⟨w9, e9⟩, d2, nc, ns, rc10, rs11, Qc, g1, rfl, rfl, g2, kk, kx⟩ := k
      refine P_callV (ci := 8) (k := 0) (id := l0) (q := (RX8, TX8, 7)) (As := [vR (1200, 15)]) (st := []) (pc := 29) dX7_kindAhead_29 mk_X8_takeWord l_X7_67 im_X8_takeWord se_X8_takeWord ini_X8 rfl g1 (Nat.le_of_ble_eq_true rfl) rfl rfl (by decide) e9 rfl g2 (fun v9 h9 q9 => ?_) (fun E h9 q9 => PX_out rfl (kx E h9 q9))
      obtain ⟨x12, rfl, k⟩ := kk v9 h9 q9
      clear kk kx g1 g2 q9
      refine P_if_eq (tgt := 39) (pc := 32) dX7_kindAhead_32 (by decide) (fun c => ?_) (fun c => ?_)
      · have k := k.1 c
        refine P_aload_n (pc := 39) dX7_kindAhead_39 rfl ?_
        refine P_ldcS (i := 16) (tx := "crack") (pc := 40) dX7_kindAhead_40 (by decide +kernel) ?_
        obtain ⟨⟨w9, e9⟩, d2, nc, ns, rc14, rs15, Qc, g1, rfl, rfl, g2, kk, kx⟩ := k
        refine P_callV (ci := 8) (k := 0) (id := l0) (q := (RX8, TX8, 7)) (As := [vR (1200, 16)]) (st := []) (pc := 42) dX7_kindAhead_42 mk_X8_takeWord l_X7_67 im_X8_takeWord se_X8_takeWord ini_X8 rfl g1 (Nat.le_of_ble_eq_true rfl) rfl rfl (by decide) e9 rfl g2 (fun v9 h9 q9 => ?_) (fun E h9 q9 => PX_out rfl (kx E h9 q9))
        obtain ⟨x16, rfl, k⟩ := kk v9 h9 q9
        clear kk kx g1 g2 q9
        refine P_if_eq (tgt := 52) (pc := 45) dX7_kindAhead_45 (by decide) (fun c => ?_) (fun c => ?_)
        · have k := k.1 c
          refine P_aload_n (pc := 52) dX7_kindAhead_52 rfl ?_
          refine P_ldcS (i := 9) (tx := "air") (pc := 53) dX7_kindAhead_53 (by decide +kernel) ?_
          obtain ⟨⟨w9, e9⟩, d2, nc, ns, rc18, rs19, Qc, g1, rfl, rfl, g2, kk, kx⟩ := k
          refine P_callV (ci := 8) (k := 0) (id := l0) (q := (RX8, TX8, 7)) (As := [vR (1200, 9)]) (st := []) (pc := 55) dX7_kindAhead_55 mk_X8_takeWord l_X7_67 im_X8_takeWord se_X8_takeWord ini_X8 rfl g1 (Nat.le_of_ble_eq_true rfl) rfl rfl (by decide) e9 rfl g2 (fun v9 h9 q9 => ?_) (fun E h9 q9 => PX_out rfl (kx E h9 q9))
          obtain ⟨x20, rfl, k⟩ := kk v9 h9 q9
          clear kk kx g1 g2 q9
          refine P_if_eq (tgt := 65) (pc := 58) dX7_kindAhead_58 (by decide) (fun c => ?_) (fun c => ?_)
          · have k := k.1 c
            refine P_aload_n (pc := 65) dX7_kindAhead_65 rfl ?_
            refine P_ldcS (i := 17) (tx := "tap") (pc := 66) dX7_kindAhead_66 (by decide +kernel) ?_
            obtain ⟨⟨w9, e9⟩, d2, nc, ns, rc22, rs23, Qc, g1, rfl, rfl, g2, kk, kx⟩ := k
            refine P_callV (ci := 8) (k := 0) (id := l0) (q := (RX8, TX8, 7)) (As := [vR (1200, 17)]) (st := []) (pc := 68) dX7_kindAhead_68 mk_X8_takeWord l_X7_67 im_X8_takeWord se_X8_takeWord ini_X8 rfl g1 (Nat.le_of_ble_eq_true rfl) rfl rfl (by decide) e9 rfl g2 (fun v9 h9 q9 => ?_) (fun E h9 q9 => PX_out rfl (kx E h9 q9))
            obtain ⟨x24, rfl, k⟩ := kk v9 h9 q9
            clear kk kx g1 g2 q9
            refine P_if_eq (tgt := 78) (pc := 71) dX7_kindAhead_71 (by decide) (fun c => ?_) (fun c => ?_)
            · have k := k.1 c
              refine P_aload_n (pc := 78) dX7_kindAhead_78 rfl ?_
              refine P_ldcS (i := 18) (tx := "fern") (pc := 79) dX7_kindAhead_79 (by decide +kernel) ?_
              obtain ⟨⟨w9, e9⟩, d2, nc, ns, rc26, rs27, Qc, g1, rfl, rfl, g2, kk, kx⟩ := k
              refine P_callV (ci := 8) (k := 0) (id := l0) (q := (RX8, TX8, 7)) (As := [vR (1200, 18)]) (st := []) (pc := 81) dX7_kindAhead_81 mk_X8_takeWord l_X7_67 im_X8_takeWord se_X8_takeWord ini_X8 rfl g1 (Nat.le_of_ble_eq_true rfl) rfl rfl (by decide) e9 rfl g2 (fun v9 h9 q9 => ?_) (fun E h9 q9 => PX_out rfl (kx E h9 q9))
              obtain ⟨x28, rfl, k⟩ := kk v9 h9 q9
              clear kk kx g1 g2 q9
              refine P_if_eq (tgt := 92) (pc := 84) dX7_kindAhead_84 (by decide) (fun c => ?_) (fun c => ?_)
              · have k := k.1 c
                refine P_aload_n (pc := 92) dX7_kindAhead_92 rfl ?_
                refine P_ldcS (i := 12) (tx := "hour") (pc := 93) dX7_kindAhead_93 (by decide +kernel) ?_
                obtain ⟨⟨w9, e9⟩, d2, nc, ns, rc30, rs31, Qc, g1, rfl, rfl, g2, kk, kx⟩ := k
                refine P_callV (ci := 8) (k := 0) (id := l0) (q := (RX8, TX8, 7)) (As := [vR (1200, 12)]) (st := []) (pc := 95) dX7_kindAhead_95 mk_X8_takeWord l_X7_67 im_X8_takeWord se_X8_takeWord ini_X8 rfl g1 (Nat.le_of_ble_eq_true rfl) rfl rfl (by decide) e9 rfl g2 (fun v9 h9 q9 => ?_) (fun E h9 q9 => PX_out rfl (kx E h9 q9))
                obtain ⟨x32, rfl, k⟩ := kk v9 h9 q9
                clear kk kx g1 g2 q9
                refine P_if_eq (tgt := 106) (pc := 98) dX7_kindAhead_98 (by decide) (fun c => ?_) (fun c => ?_)
                · have k := k.1 c
                  refine P_aload_n (pc := 106) dX7_kindAhead_106 rfl ?_
                  refine P_ldcS (i := 19) (tx := "dawn") (pc := 107) dX7_kindAhead_107 (by decide +kernel) ?_
                  obtain ⟨⟨w9, e9⟩, d2, nc, ns, rc34, rs35, Qc, g1, rfl, rfl, g2, kk, kx⟩ := k
                  refine P_callV (ci := 8) (k := 0) (id := l0) (q := (RX8, TX8, 7)) (As := [vR (1200, 19)]) (st := []) (pc := 109) dX7_kindAhead_109 mk_X8_takeWord l_X7_67 im_X8_takeWord se_X8_takeWord ini_X8 rfl g1 (Nat.le_of_ble_eq_true rfl) rfl rfl (by decide) e9 rfl g2 (fun v9 h9 q9 => ?_) (fun E h9 q9 => PX_out rfl (kx E h9 q9))
                  obtain ⟨x36, rfl, k⟩ := kk v9 h9 q9
                  clear kk kx g1 g2 q9
                  refine P_if_eq (tgt := 120) (pc := 112) dX7_kindAhead_112 (by decide) (fun c => ?_) (fun c => ?_)
                  · have k := k.1 c
                    refine P_aload_n (pc := 120) dX7_kindAhead_120 rfl ?_
                    refine P_ldcS (i := 20) (tx := "again") (pc := 121) dX7_kindAhead_121 (by decide +kernel) ?_
                    obtain ⟨⟨w9, e9⟩, d2, nc, ns, rc38, rs39, Qc, g1, rfl, rfl, g2, kk, kx⟩ := k
                    refine P_callV (ci := 8) (k := 0) (id := l0) (q := (RX8, TX8, 7)) (As := [vR (1200, 20)]) (st := []) (pc := 123) dX7_kindAhead_123 mk_X8_takeWord l_X7_67 im_X8_takeWord se_X8_takeWord ini_X8 rfl g1 (Nat.le_of_ble_eq_true rfl) rfl rfl (by decide) e9 rfl g2 (fun v9 h9 q9 => ?_) (fun E h9 q9 => PX_out rfl (kx E h9 q9))
                    obtain ⟨x40, rfl, k⟩ := kk v9 h9 q9
                    clear kk kx g1 g2 q9
                    refine P_if_eq (tgt := 134) (pc := 126) dX7_kindAhead_126 (by decide) (fun c => ?_) (fun c => ?_)
                    · have k := k.1 c
                      refine P_iconst (v := (-1 : Int32)) (pc := 134) dX7_kindAhead_134 (by decide) ?_
                      exact R_ireturn (pc := 135) dX7_kindAhead_135 rfl rfl k
                    · have k := k.2 c
                      refine P_bipush (v := (9 : Int32)) (pc := 129) dX7_kindAhead_129 (by decide) ?_
                      refine P_goto (tgt := 135) (pc := 131) dX7_kindAhead_131 (by decide) ?_
                      exact R_ireturn (pc := 135) dX7_kindAhead_135 rfl rfl k
                  · have k := k.2 c
                    refine P_bipush (v := (8 : Int32)) (pc := 115) dX7_kindAhead_115 (by decide) ?_
                    refine P_goto (tgt := 135) (pc := 117) dX7_kindAhead_117 (by decide) ?_
                    exact R_ireturn (pc := 135) dX7_kindAhead_135 rfl rfl k
                · have k := k.2 c
                  refine P_bipush (v := (7 : Int32)) (pc := 101) dX7_kindAhead_101 (by decide) ?_
                  refine P_goto (tgt := 135) (pc := 103) dX7_kindAhead_103 (by decide) ?_
                  exact R_ireturn (pc := 135) dX7_kindAhead_135 rfl rfl k
              · have k := k.2 c
                refine P_bipush (v := (6 : Int32)) (pc := 87) dX7_kindAhead_87 (by decide) ?_
                refine P_goto (tgt := 135) (pc := 89) dX7_kindAhead_89 (by decide) ?_
                exact R_ireturn (pc := 135) dX7_kindAhead_135 rfl rfl k
            · have k := k.2 c
              refine P_iconst (v := (0 : Int32)) (pc := 74) dX7_kindAhead_74 (by decide) ?_
              refine P_goto (tgt := 135) (pc := 75) dX7_kindAhead_75 (by decide) ?_
              exact R_ireturn (pc := 135) dX7_kindAhead_135 rfl rfl k
          · have k := k.2 c
            refine P_iconst (v := (2 : Int32)) (pc := 61) dX7_kindAhead_61 (by decide) ?_
            refine P_goto (tgt := 135) (pc := 62) dX7_kindAhead_62 (by decide) ?_
            exact R_ireturn (pc := 135) dX7_kindAhead_135 rfl rfl k
        · have k := k.2 c
          refine P_iconst (v := (5 : Int32)) (pc := 48) dX7_kindAhead_48 (by decide) ?_
          refine P_goto (tgt := 135) (pc := 49) dX7_kindAhead_49 (by decide) ?_
          exact R_ireturn (pc := 135) dX7_kindAhead_135 rfl rfl k
      · have k := k.2 c
        refine P_iconst (v := (4 : Int32)) (pc := 35) dX7_kindAhead_35 (by decide) ?_
        refine P_goto (tgt := 135) (pc := 36) dX7_kindAhead_36 (by decide) ?_
        exact R_ireturn (pc := 135) dX7_kindAhead_135 rfl rfl k
    · have k := k.2 c
      refine P_iconst (v := (3 : Int32)) (pc := 22) dX7_kindAhead_22 (by decide) ?_
      refine P_goto (tgt := 135) (pc := 23) dX7_kindAhead_23 (by decide) ?_
      exact R_ireturn (pc := 135) dX7_kindAhead_135 rfl rfl k
  · have k := k.2 c
    refine P_iconst (v := (1 : Int32)) (pc := 9) dX7_kindAhead_9 (by decide) ?_
    refine P_goto (tgt := 135) (pc := 10) dX7_kindAhead_10 (by decide) ?_
    exact R_ireturn (pc := 135) dX7_kindAhead_135 rfl rfl k
-- X7_run run(LFernHeirs$Morning;LFernHeirs$Court;LFernHeirs$Law;)V
theorem dX7_run_0 : decode cX7_run 0 = .ok (.aload_n 0, 1) := by decide +kernel
theorem dX7_run_1 : decode cX7_run 1 = .ok (.iconst 0, 1) := by decide +kernel
theorem dX7_run_2 : decode cX7_run 2 = .ok (.putfield 89, 3) := by decide +kernel
theorem dX7_run_5 : decode cX7_run 5 = .ok (.aload_n 0, 1) := by decide +kernel
theorem dX7_run_6 : decode cX7_run 6 = .ok (.iconst 0, 1) := by decide +kernel
theorem dX7_run_7 : decode cX7_run 7 = .ok (.putfield 92, 3) := by decide +kernel
theorem dX7_run_10 : decode cX7_run 10 = .ok (.aload_n 0, 1) := by decide +kernel
theorem dX7_run_11 : decode cX7_run 11 = .ok (.iconst 0, 1) := by decide +kernel
theorem dX7_run_12 : decode cX7_run 12 = .ok (.putfield 95, 3) := by decide +kernel
theorem dX7_run_15 : decode cX7_run 15 = .ok (.aload_n 0, 1) := by decide +kernel
theorem dX7_run_16 : decode cX7_run 16 = .ok (.iconst 0, 1) := by decide +kernel
theorem dX7_run_17 : decode cX7_run 17 = .ok (.aload_n 0, 1) := by decide +kernel
theorem dX7_run_18 : decode cX7_run 18 = .ok (.getfield 24, 3) := by decide +kernel
theorem dX7_run_21 : decode cX7_run 21 = .ok (.iconst 0, 1) := by decide +kernel
theorem dX7_run_22 : decode cX7_run 22 = .ok (.aload_n 1, 1) := by decide +kernel
theorem dX7_run_23 : decode cX7_run 23 = .ok (.aload_n 2, 1) := by decide +kernel
theorem dX7_run_24 : decode cX7_run 24 = .ok (.aload_n 3, 1) := by decide +kernel
theorem dX7_run_25 : decode cX7_run 25 = .ok (.invokevirtual 98, 3) := by decide +kernel
theorem dX7_run_28 : decode cX7_run 28 = .ok (.return_, 1) := by decide +kernel
theorem r_X7_run_0 {d rc rs : Nat} {Q : PO → PH → Prop} {h : PH} {l0 : Nat} {l1 : Nat} {l2 : Nat} {l3 : Nat}
    (k : sF h (10705, l0) (vI (0 : Int32)) fun h1 => sF h1 (10706, l0) (vI (0 : Int32)) fun h2 => sF h2 (10707, l0) (vI (0 : Int32)) fun h3 => gI h3 (10704, l0) fun x4 => isO h3 10700 l0 ∧ cl d rc rs M_X7_runRow [vR (700, l0), vI (0 : Int32), vI x4, vI (0 : Int32), vR (400, l1), vR (100, l2), vR (300, l3)] h3 (kV fun h5 rc6 rs7 => Q (.inl none) h5) (fun E h5 rc6 rs7 => Q (.inr E) h5)) :
    PW d M_X7_run Q rc rs 0 [vR (700, l0), vR (400, l1), vR (100, l2), vR (300, l3)] [] h := by
  refine P_aload_n (pc := 0) dX7_run_0 rfl ?_
  refine P_iconst (v := (0 : Int32)) (pc := 1) dX7_run_1 (by decide) ?_
  obtain ⟨⟨v9, e9⟩, k⟩ := k
  refine S7_5 (pc := 2) dX7_run_2 l_X7_89 e9 ?_
  clear e9
  refine P_aload_n (pc := 5) dX7_run_5 rfl ?_
  refine P_iconst (v := (0 : Int32)) (pc := 6) dX7_run_6 (by decide) ?_
  obtain ⟨⟨v9, e9⟩, k⟩ := k
  refine S7_6 (pc := 7) dX7_run_7 l_X7_92 e9 ?_
  clear e9
  refine P_aload_n (pc := 10) dX7_run_10 rfl ?_
  refine P_iconst (v := (0 : Int32)) (pc := 11) dX7_run_11 (by decide) ?_
  obtain ⟨⟨v9, e9⟩, k⟩ := k
  refine S7_7 (pc := 12) dX7_run_12 l_X7_95 e9 ?_
  clear e9
  refine P_aload_n (pc := 15) dX7_run_15 rfl ?_
  refine P_iconst (v := (0 : Int32)) (pc := 16) dX7_run_16 (by decide) ?_
  refine P_aload_n (pc := 17) dX7_run_17 rfl ?_
  obtain ⟨x4, e9, k⟩ := k
  refine G7_4 (pc := 18) dX7_run_18 l_X7_24 e9 ?_
  clear e9
  refine P_iconst (v := (0 : Int32)) (pc := 21) dX7_run_21 (by decide) ?_
  refine P_aload_n (pc := 22) dX7_run_22 rfl ?_
  refine P_aload_n (pc := 23) dX7_run_23 rfl ?_
  refine P_aload_n (pc := 24) dX7_run_24 rfl ?_
  obtain ⟨⟨w9, e9⟩, d2, nc, ns, rc6, rs7, Qc, g1, rfl, rfl, g2, kk, kx⟩ := k
  refine P_callV (ci := 7) (k := 0) (id := l0) (q := (RX7, TX7, 8)) (As := [vI (0 : Int32), vI x4, vI (0 : Int32), vR (400, l1), vR (100, l2), vR (300, l3)]) (st := []) (pc := 25) dX7_run_25 mk_X7_runRow l_X7_98 im_X7_runRow se_X7_runRow ini_X7 rfl g1 (Nat.le_of_ble_eq_true rfl) rfl rfl (by decide) e9 rfl g2 (fun v9 h9 q9 => ?_) (fun E h9 q9 => PX_out rfl (kx E h9 q9))
  obtain ⟨rfl, k⟩ := kk v9 h9 q9
  clear kk kx g1 g2 q9
  exact R_return (pc := 28) dX7_run_28 rfl k
-- X7_runRow runRow(IIILFernHeirs$Morning;LFernHeirs$Court;LFernHeirs$Law;)V
theorem dX7_runRow_0 : decode cX7_runRow 0 = .ok (.iload_n 1, 1) := by decide +kernel
theorem dX7_runRow_1 : decode cX7_runRow 1 = .ok (.istore 7, 2) := by decide +kernel
theorem dX7_runRow_3 : decode cX7_runRow 3 = .ok (.iconst 0, 1) := by decide +kernel
theorem dX7_runRow_4 : decode cX7_runRow 4 = .ok (.istore 8, 2) := by decide +kernel
theorem dX7_runRow_6 : decode cX7_runRow 6 = .ok (.iload 8, 2) := by decide +kernel
theorem dX7_runRow_8 : decode cX7_runRow 8 = .ok (.sipush 150, 3) := by decide +kernel
theorem dX7_runRow_11 : decode cX7_runRow 11 = .ok (.if_icmp .ge 156, 3) := by decide +kernel
theorem dX7_runRow_14 : decode cX7_runRow 14 = .ok (.iload 7, 2) := by decide +kernel
theorem dX7_runRow_16 : decode cX7_runRow 16 = .ok (.iload_n 2, 1) := by decide +kernel
theorem dX7_runRow_17 : decode cX7_runRow 17 = .ok (.if_icmp .ge 150, 3) := by decide +kernel
theorem dX7_runRow_20 : decode cX7_runRow 20 = .ok (.iload 7, 2) := by decide +kernel
theorem dX7_runRow_22 : decode cX7_runRow 22 = .ok (.aload_n 0, 1) := by decide +kernel
theorem dX7_runRow_23 : decode cX7_runRow 23 = .ok (.getfield 24, 3) := by decide +kernel
theorem dX7_runRow_26 : decode cX7_runRow 26 = .ok (.if_icmp .ge 141, 3) := by decide +kernel
theorem dX7_runRow_29 : decode cX7_runRow 29 = .ok (.aload_n 0, 1) := by decide +kernel
theorem dX7_runRow_30 : decode cX7_runRow 30 = .ok (.getfield 89, 3) := by decide +kernel
theorem dX7_runRow_33 : decode cX7_runRow 33 = .ok (.sipush 200, 3) := by decide +kernel
theorem dX7_runRow_36 : decode cX7_runRow 36 = .ok (.if_icmp .ge 131, 3) := by decide +kernel
theorem dX7_runRow_39 : decode cX7_runRow 39 = .ok (.aload_n 0, 1) := by decide +kernel
theorem dX7_runRow_40 : decode cX7_runRow 40 = .ok (.dup, 1) := by decide +kernel
theorem dX7_runRow_41 : decode cX7_runRow 41 = .ok (.getfield 89, 3) := by decide +kernel
theorem dX7_runRow_44 : decode cX7_runRow 44 = .ok (.iconst 1, 1) := by decide +kernel
theorem dX7_runRow_45 : decode cX7_runRow 45 = .ok (.iadd, 1) := by decide +kernel
theorem dX7_runRow_46 : decode cX7_runRow 46 = .ok (.putfield 89, 3) := by decide +kernel
theorem dX7_runRow_49 : decode cX7_runRow 49 = .ok (.aload_n 0, 1) := by decide +kernel
theorem dX7_runRow_50 : decode cX7_runRow 50 = .ok (.getfield 9, 3) := by decide +kernel
theorem dX7_runRow_53 : decode cX7_runRow 53 = .ok (.iload 7, 2) := by decide +kernel
theorem dX7_runRow_55 : decode cX7_runRow 55 = .ok (.iaload, 1) := by decide +kernel
theorem dX7_runRow_56 : decode cX7_runRow 56 = .ok (.bipush 9, 2) := by decide +kernel
theorem dX7_runRow_58 : decode cX7_runRow 58 = .ok (.if_icmp .ne 30, 3) := by decide +kernel
theorem dX7_runRow_61 : decode cX7_runRow 61 = .ok (.aload_n 0, 1) := by decide +kernel
theorem dX7_runRow_62 : decode cX7_runRow 62 = .ok (.iload 7, 2) := by decide +kernel
theorem dX7_runRow_64 : decode cX7_runRow 64 = .ok (.iload_n 3, 1) := by decide +kernel
theorem dX7_runRow_65 : decode cX7_runRow 65 = .ok (.iconst 1, 1) := by decide +kernel
theorem dX7_runRow_66 : decode cX7_runRow 66 = .ok (.iadd, 1) := by decide +kernel
theorem dX7_runRow_67 : decode cX7_runRow 67 = .ok (.aload 4, 2) := by decide +kernel
theorem dX7_runRow_69 : decode cX7_runRow 69 = .ok (.aload 5, 2) := by decide +kernel
theorem dX7_runRow_71 : decode cX7_runRow 71 = .ok (.aload 6, 2) := by decide +kernel
theorem dX7_runRow_73 : decode cX7_runRow 73 = .ok (.invokevirtual 102, 3) := by decide +kernel
theorem dX7_runRow_76 : decode cX7_runRow 76 = .ok (.aload_n 0, 1) := by decide +kernel
theorem dX7_runRow_77 : decode cX7_runRow 77 = .ok (.getfield 21, 3) := by decide +kernel
theorem dX7_runRow_80 : decode cX7_runRow 80 = .ok (.iload 7, 2) := by decide +kernel
theorem dX7_runRow_82 : decode cX7_runRow 82 = .ok (.iaload, 1) := by decide +kernel
theorem dX7_runRow_83 : decode cX7_runRow 83 = .ok (.istore 7, 2) := by decide +kernel
theorem dX7_runRow_85 : decode cX7_runRow 85 = .ok (.goto 76, 3) := by decide +kernel
theorem dX7_runRow_88 : decode cX7_runRow 88 = .ok (.aload 4, 2) := by decide +kernel
theorem dX7_runRow_90 : decode cX7_runRow 90 = .ok (.aload_n 0, 1) := by decide +kernel
theorem dX7_runRow_91 : decode cX7_runRow 91 = .ok (.getfield 9, 3) := by decide +kernel
theorem dX7_runRow_94 : decode cX7_runRow 94 = .ok (.iload 7, 2) := by decide +kernel
theorem dX7_runRow_96 : decode cX7_runRow 96 = .ok (.iaload, 1) := by decide +kernel
theorem dX7_runRow_97 : decode cX7_runRow 97 = .ok (.aload_n 0, 1) := by decide +kernel
theorem dX7_runRow_98 : decode cX7_runRow 98 = .ok (.getfield 15, 3) := by decide +kernel
theorem dX7_runRow_101 : decode cX7_runRow 101 = .ok (.iload 7, 2) := by decide +kernel
theorem dX7_runRow_103 : decode cX7_runRow 103 = .ok (.iaload, 1) := by decide +kernel
theorem dX7_runRow_104 : decode cX7_runRow 104 = .ok (.aload_n 0, 1) := by decide +kernel
theorem dX7_runRow_105 : decode cX7_runRow 105 = .ok (.getfield 18, 3) := by decide +kernel
theorem dX7_runRow_108 : decode cX7_runRow 108 = .ok (.iload 7, 2) := by decide +kernel
theorem dX7_runRow_110 : decode cX7_runRow 110 = .ok (.iaload, 1) := by decide +kernel
theorem dX7_runRow_111 : decode cX7_runRow 111 = .ok (.aload 5, 2) := by decide +kernel
theorem dX7_runRow_113 : decode cX7_runRow 113 = .ok (.aload 6, 2) := by decide +kernel
theorem dX7_runRow_115 : decode cX7_runRow 115 = .ok (.invokevirtual 106, 3) := by decide +kernel
theorem dX7_runRow_118 : decode cX7_runRow 118 = .ok (.istore 9, 2) := by decide +kernel
theorem dX7_runRow_120 : decode cX7_runRow 120 = .ok (.aload_n 0, 1) := by decide +kernel
theorem dX7_runRow_121 : decode cX7_runRow 121 = .ok (.dup, 1) := by decide +kernel
theorem dX7_runRow_122 : decode cX7_runRow 122 = .ok (.getfield 92, 3) := by decide +kernel
theorem dX7_runRow_125 : decode cX7_runRow 125 = .ok (.iload 9, 2) := by decide +kernel
theorem dX7_runRow_127 : decode cX7_runRow 127 = .ok (.ifCond .eq 7, 3) := by decide +kernel
theorem dX7_runRow_130 : decode cX7_runRow 130 = .ok (.iconst 1, 1) := by decide +kernel
theorem dX7_runRow_131 : decode cX7_runRow 131 = .ok (.goto 4, 3) := by decide +kernel
theorem dX7_runRow_134 : decode cX7_runRow 134 = .ok (.iconst 0, 1) := by decide +kernel
theorem dX7_runRow_135 : decode cX7_runRow 135 = .ok (.iadd, 1) := by decide +kernel
theorem dX7_runRow_136 : decode cX7_runRow 136 = .ok (.putfield 92, 3) := by decide +kernel
theorem dX7_runRow_139 : decode cX7_runRow 139 = .ok (.aload_n 0, 1) := by decide +kernel
theorem dX7_runRow_140 : decode cX7_runRow 140 = .ok (.dup, 1) := by decide +kernel
theorem dX7_runRow_141 : decode cX7_runRow 141 = .ok (.getfield 95, 3) := by decide +kernel
theorem dX7_runRow_144 : decode cX7_runRow 144 = .ok (.iload 9, 2) := by decide +kernel
theorem dX7_runRow_146 : decode cX7_runRow 146 = .ok (.ifCond .eq 7, 3) := by decide +kernel
theorem dX7_runRow_149 : decode cX7_runRow 149 = .ok (.iconst 0, 1) := by decide +kernel
theorem dX7_runRow_150 : decode cX7_runRow 150 = .ok (.goto 4, 3) := by decide +kernel
theorem dX7_runRow_153 : decode cX7_runRow 153 = .ok (.iconst 1, 1) := by decide +kernel
theorem dX7_runRow_154 : decode cX7_runRow 154 = .ok (.iadd, 1) := by decide +kernel
theorem dX7_runRow_155 : decode cX7_runRow 155 = .ok (.putfield 95, 3) := by decide +kernel
theorem dX7_runRow_158 : decode cX7_runRow 158 = .ok (.iinc 7 1, 3) := by decide +kernel
theorem dX7_runRow_161 : decode cX7_runRow 161 = .ok (.iinc 8 1, 3) := by decide +kernel
theorem dX7_runRow_164 : decode cX7_runRow 164 = .ok (.goto (-158), 3) := by decide +kernel
theorem dX7_runRow_167 : decode cX7_runRow 167 = .ok (.return_, 1) := by decide +kernel
theorem r_X7_runRow_0 {d rc rs : Nat} {Q : PO → PH → Prop} {h : PH} {l0 : Nat} {l1 : Int32} {l2 : Int32} {l3 : Int32} {l4 : Nat} {l5 : Nat} {l6 : Nat}
    (k : PW d M_X7_runRow Q rc rs 6 [vR (700, l0), vU, vI l2, vI l3, vR (400, l4), vR (100, l5), vR (300, l6), vI l1, vI (0 : Int32), vU] [] h) :
    PW d M_X7_runRow Q rc rs 0 [vR (700, l0), vI l1, vI l2, vI l3, vR (400, l4), vR (100, l5), vR (300, l6), vU, vU, vU] [] h := by
  refine P_iload_n (pc := 0) dX7_runRow_0 rfl ?_
  refine P_istore (pc := 1) dX7_runRow_1 (by decide) (Or.inr (by intro z e9; cases e9)) rfl ?_
  refine P_iconst (v := (0 : Int32)) (pc := 3) dX7_runRow_3 (by decide) ?_
  refine P_istore (pc := 4) dX7_runRow_4 (by decide) (Or.inr (by intro z e9; cases e9)) rfl ?_
  exact P_drop (ls2 := [vR (700, l0), vU, vI l2, vI l3, vR (400, l4), vR (100, l5), vR (300, l6), vI l1, vI (0 : Int32), vU]) (ls := [vR (700, l0), vI l1, vI l2, vI l3, vR (400, l4), vR (100, l5), vR (300, l6), vI l1, vI (0 : Int32), vU]) ⟨Or.inr rfl, ⟨Or.inl rfl, ⟨Or.inr rfl, ⟨Or.inr rfl, ⟨Or.inr rfl, ⟨Or.inr rfl, ⟨Or.inr rfl, ⟨Or.inr rfl, ⟨Or.inr rfl, ⟨Or.inr rfl, trivial⟩⟩⟩⟩⟩⟩⟩⟩⟩⟩ k
theorem r_X7_runRow_6 {d rc rs : Nat} {Q : PO → PH → Prop} {h : PH} {l0 : Nat} {l2 : Int32} {l3 : Int32} {l4 : Nat} {l5 : Nat} {l6 : Nat} {l7 : Int32} {l8 : Int32}
    (k : br (l8 < (150 : Int32)) (br (l7 < l2) (gI h (10704, l0) fun x1 => br (l7 < x1) (gI h (10705, l0) fun x2 => br (x2 < (200 : Int32)) (gI h (10705, l0) fun x3 => sF h (10705, l0) (vI (x3 + (1 : Int32))) fun h4 => gA h4 (10700, l0) fun a5 => xI h4 a5 l7 fun x6 => br (x6 = (9 : Int32)) (isO h4 10700 l0 ∧ cl d rc rs M_X7_runAgain [vR (700, l0), vI l7, vI (l3 + (1 : Int32)), vR (400, l4), vR (100, l5), vR (300, l6)] h4 (kV fun h26 rc27 rs28 => gA h26 (10703, l0) fun a29 => xI h26 a29 l7 fun x30 => PW d M_X7_runRow Q rc27 rs28 6 [vR (700, l0), vU, vI l2, vI l3, vR (400, l4), vR (100, l5), vR (300, l6), vI x30, vI (l8 + (1 : Int32)), vU] [] h26) (fun E h26 rc27 rs28 => Q (.inr E) h26)) (gA h4 (10700, l0) fun a7 => xI h4 a7 l7 fun x8 => gA h4 (10701, l0) fun a9 => xI h4 a9 l7 fun x10 => gA h4 (10702, l0) fun a11 => xI h4 a11 l7 fun x12 => isO h4 10400 l4 ∧ cl d rc rs M_X4_tryStep [vR (400, l4), vI x8, vI x10, vI x12, vR (100, l5), vR (300, l6)] h4 (kI fun x16 h13 rc14 rs15 => gI h13 (10706, l0) fun x17 => br (x16 = 0) (sF h13 (10706, l0) (vI (x17 + (0 : Int32))) fun h18 => gI h18 (10707, l0) fun x19 => br (x16 = 0) (sF h18 (10707, l0) (vI (x19 + (1 : Int32))) fun h20 => PW d M_X7_runRow Q rc14 rs15 6 [vR (700, l0), vU, vI l2, vI l3, vR (400, l4), vR (100, l5), vR (300, l6), vI (l7 + (1 : Int32)), vI (l8 + (1 : Int32)), vU] [] h20) (sF h18 (10707, l0) (vI (x19 + (0 : Int32))) fun h21 => PW d M_X7_runRow Q rc14 rs15 6 [vR (700, l0), vU, vI l2, vI l3, vR (400, l4), vR (100, l5), vR (300, l6), vI (l7 + (1 : Int32)), vI (l8 + (1 : Int32)), vU] [] h21)) (sF h13 (10706, l0) (vI (x17 + (1 : Int32))) fun h22 => gI h22 (10707, l0) fun x23 => br (x16 = 0) (sF h22 (10707, l0) (vI (x23 + (1 : Int32))) fun h24 => PW d M_X7_runRow Q rc14 rs15 6 [vR (700, l0), vU, vI l2, vI l3, vR (400, l4), vR (100, l5), vR (300, l6), vI (l7 + (1 : Int32)), vI (l8 + (1 : Int32)), vU] [] h24) (sF h22 (10707, l0) (vI (x23 + (0 : Int32))) fun h25 => PW d M_X7_runRow Q rc14 rs15 6 [vR (700, l0), vU, vI l2, vI l3, vR (400, l4), vR (100, l5), vR (300, l6), vI (l7 + (1 : Int32)), vI (l8 + (1 : Int32)), vU] [] h25))) (fun E h13 rc14 rs15 => Q (.inr E) h13))) (Q (.inl none) h)) (Q (.inl none) h)) (Q (.inl none) h)) (Q (.inl none) h)) :
    PW d M_X7_runRow Q rc rs 6 [vR (700, l0), vU, vI l2, vI l3, vR (400, l4), vR (100, l5), vR (300, l6), vI l7, vI l8, vU] [] h := by
  refine P_iload (pc := 6) dX7_runRow_6 rfl ?_
  refine P_sipush (v := (150 : Int32)) (pc := 8) dX7_runRow_8 (by decide) ?_
  refine P_icmp_ge (tgt := 167) (pc := 11) dX7_runRow_11 (by decide) (fun c => ?_) (fun c => ?_)
  · have k := k.2 (Int32.not_lt.mpr c)
    exact R_return (pc := 167) dX7_runRow_167 rfl k
  · have k := k.1 (Int32.not_le.mp c)
    refine P_iload (pc := 14) dX7_runRow_14 rfl ?_
    refine P_iload_n (pc := 16) dX7_runRow_16 rfl ?_
    refine P_icmp_ge (tgt := 167) (pc := 17) dX7_runRow_17 (by decide) (fun c => ?_) (fun c => ?_)
    · have k := k.2 (Int32.not_lt.mpr c)
      exact R_return (pc := 167) dX7_runRow_167 rfl k
    · have k := k.1 (Int32.not_le.mp c)
      refine P_iload (pc := 20) dX7_runRow_20 rfl ?_
      refine P_aload_n (pc := 22) dX7_runRow_22 rfl ?_
      obtain ⟨x1, e9, k⟩ := k
      refine G7_4 (pc := 23) dX7_runRow_23 l_X7_24 e9 ?_
      clear e9
      refine P_icmp_ge (tgt := 167) (pc := 26) dX7_runRow_26 (by decide) (fun c => ?_) (fun c => ?_)
      · have k := k.2 (Int32.not_lt.mpr c)
        exact R_return (pc := 167) dX7_runRow_167 rfl k
      · have k := k.1 (Int32.not_le.mp c)
        refine P_aload_n (pc := 29) dX7_runRow_29 rfl ?_
        obtain ⟨x2, e9, k⟩ := k
        refine G7_5 (pc := 30) dX7_runRow_30 l_X7_89 e9 ?_
        clear e9
        refine P_sipush (v := (200 : Int32)) (pc := 33) dX7_runRow_33 (by decide) ?_
        refine P_icmp_ge (tgt := 167) (pc := 36) dX7_runRow_36 (by decide) (fun c => ?_) (fun c => ?_)
        · have k := k.2 (Int32.not_lt.mpr c)
          exact R_return (pc := 167) dX7_runRow_167 rfl k
        · have k := k.1 (Int32.not_le.mp c)
          refine P_aload_n (pc := 39) dX7_runRow_39 rfl ?_
          refine P_dup (pc := 40) dX7_runRow_40 (fun _ => rfl) ?_
          obtain ⟨x3, e9, k⟩ := k
          refine G7_5 (pc := 41) dX7_runRow_41 l_X7_89 e9 ?_
          clear e9
          refine P_iconst (v := (1 : Int32)) (pc := 44) dX7_runRow_44 (by decide) ?_
          refine P_iadd (pc := 45) dX7_runRow_45 ?_
          obtain ⟨⟨v9, e9⟩, k⟩ := k
          refine S7_5 (pc := 46) dX7_runRow_46 l_X7_89 e9 ?_
          clear e9
          refine P_aload_n (pc := 49) dX7_runRow_49 rfl ?_
          obtain ⟨a5, e9, k⟩ := k
          refine G7_0 (pc := 50) dX7_runRow_50 l_X7_9 e9 ?_
          clear e9
          refine P_iload (pc := 53) dX7_runRow_53 rfl ?_
          obtain ⟨n9, f9, e9, i9, k⟩ := k
          refine P_iald (pc := 55) dX7_runRow_55 e9 i9 ?_
          clear e9
          generalize f9 (Int32.toNatClampNeg l7) = x6 at k ⊢
          refine P_bipush (v := (9 : Int32)) (pc := 56) dX7_runRow_56 (by decide) ?_
          refine P_icmp_ne (tgt := 88) (pc := 58) dX7_runRow_58 (by decide) (fun c => ?_) (fun c => ?_)
          · have k := k.2 c
            refine P_aload (pc := 88) dX7_runRow_88 rfl ?_
            refine P_aload_n (pc := 90) dX7_runRow_90 rfl ?_
            obtain ⟨a7, e9, k⟩ := k
            refine G7_0 (pc := 91) dX7_runRow_91 l_X7_9 e9 ?_
            clear e9
            refine P_iload (pc := 94) dX7_runRow_94 rfl ?_
            obtain ⟨n9, f9, e9, i9, k⟩ := k
            refine P_iald (pc := 96) dX7_runRow_96 e9 i9 ?_
            clear e9
            generalize f9 (Int32.toNatClampNeg l7) = x8 at k ⊢
            refine P_aload_n (pc := 97) dX7_runRow_97 rfl ?_
            obtain ⟨a9, e9, k⟩ := k
            refine G7_1 (pc := 98) dX7_runRow_98 l_X7_15 e9 ?_
            clear e9
            refine P_iload (pc := 101) dX7_runRow_101 rfl ?_
            obtain ⟨n9, f9, e9, i9, k⟩ := k
            refine P_iald (pc := 103) dX7_runRow_103 e9 i9 ?_
            clear e9
            generalize f9 (Int32.toNatClampNeg l7) = x10 at k ⊢
            refine P_aload_n (pc := 104) dX7_runRow_104 rfl ?_
            obtain ⟨a11, e9, k⟩ := k
            refine G7_2 (pc := 105) dX7_runRow_105 l_X7_18 e9 ?_
            clear e9
            refine P_iload (pc := 108) dX7_runRow_108 rfl ?_
            obtain ⟨n9, f9, e9, i9, k⟩ := k
            refine P_iald (pc := 110) dX7_runRow_110 e9 i9 ?_
            clear e9
            generalize f9 (Int32.toNatClampNeg l7) = x12 at k ⊢
            refine P_aload (pc := 111) dX7_runRow_111 rfl ?_
            refine P_aload (pc := 113) dX7_runRow_113 rfl ?_
            obtain ⟨⟨w9, e9⟩, d2, nc, ns, rc14, rs15, Qc, g1, rfl, rfl, g2, kk, kx⟩ := k
            refine P_callV (ci := 4) (k := 0) (id := l4) (q := (RX4, TX4, 10)) (As := [vI x8, vI x10, vI x12, vR (100, l5), vR (300, l6)]) (st := []) (pc := 115) dX7_runRow_115 mk_X4_tryStep l_X7_106 im_X4_tryStep se_X4_tryStep ini_X4 rfl g1 (Nat.le_of_ble_eq_true rfl) rfl rfl (by decide) e9 rfl g2 (fun v9 h9 q9 => ?_) (fun E h9 q9 => PX_out rfl (kx E h9 q9))
            obtain ⟨x16, rfl, k⟩ := kk v9 h9 q9
            clear kk kx g1 g2 q9
            refine P_istore (pc := 118) dX7_runRow_118 (by decide) (Or.inr (by intro z e9; cases e9)) rfl ?_
            refine P_aload_n (pc := 120) dX7_runRow_120 rfl ?_
            refine P_dup (pc := 121) dX7_runRow_121 (fun _ => rfl) ?_
            obtain ⟨x17, e9, k⟩ := k
            refine G7_6 (pc := 122) dX7_runRow_122 l_X7_92 e9 ?_
            clear e9
            refine P_iload (pc := 125) dX7_runRow_125 rfl ?_
            refine P_if_eq (tgt := 134) (pc := 127) dX7_runRow_127 (by decide) (fun c => ?_) (fun c => ?_)
            · have k := k.1 c
              refine P_iconst (v := (0 : Int32)) (pc := 134) dX7_runRow_134 (by decide) ?_
              refine P_iadd (pc := 135) dX7_runRow_135 ?_
              obtain ⟨⟨v9, e9⟩, k⟩ := k
              refine S7_6 (pc := 136) dX7_runRow_136 l_X7_92 e9 ?_
              clear e9
              refine P_aload_n (pc := 139) dX7_runRow_139 rfl ?_
              refine P_dup (pc := 140) dX7_runRow_140 (fun _ => rfl) ?_
              obtain ⟨x19, e9, k⟩ := k
              refine G7_7 (pc := 141) dX7_runRow_141 l_X7_95 e9 ?_
              clear e9
              refine P_iload (pc := 144) dX7_runRow_144 rfl ?_
              refine P_if_eq (tgt := 153) (pc := 146) dX7_runRow_146 (by decide) (fun c => ?_) (fun c => ?_)
              · have k := k.1 c
                refine P_iconst (v := (1 : Int32)) (pc := 153) dX7_runRow_153 (by decide) ?_
                refine P_iadd (pc := 154) dX7_runRow_154 ?_
                obtain ⟨⟨v9, e9⟩, k⟩ := k
                refine S7_7 (pc := 155) dX7_runRow_155 l_X7_95 e9 ?_
                clear e9
                refine P_iinc (v := l7 + (1 : Int32)) (pc := 158) dX7_runRow_158 (by decide) rfl rfl (Or.inr (by intro z e9; cases e9)) rfl ?_
                refine P_iinc (v := l8 + (1 : Int32)) (pc := 161) dX7_runRow_161 (by decide) rfl rfl (Or.inr (by intro z e9; cases e9)) rfl ?_
                refine P_goto (tgt := 6) (pc := 164) dX7_runRow_164 (by decide) ?_
                exact P_drop (ls2 := [vR (700, l0), vU, vI l2, vI l3, vR (400, l4), vR (100, l5), vR (300, l6), vI (l7 + (1 : Int32)), vI (l8 + (1 : Int32)), vU]) (ls := [vR (700, l0), vU, vI l2, vI l3, vR (400, l4), vR (100, l5), vR (300, l6), vI (l7 + (1 : Int32)), vI (l8 + (1 : Int32)), vI x16]) ⟨Or.inr rfl, ⟨Or.inr rfl, ⟨Or.inr rfl, ⟨Or.inr rfl, ⟨Or.inr rfl, ⟨Or.inr rfl, ⟨Or.inr rfl, ⟨Or.inr rfl, ⟨Or.inr rfl, ⟨Or.inl rfl, trivial⟩⟩⟩⟩⟩⟩⟩⟩⟩⟩ k
              · have k := k.2 c
                refine P_iconst (v := (0 : Int32)) (pc := 149) dX7_runRow_149 (by decide) ?_
                refine P_goto (tgt := 154) (pc := 150) dX7_runRow_150 (by decide) ?_
                refine P_iadd (pc := 154) dX7_runRow_154 ?_
                obtain ⟨⟨v9, e9⟩, k⟩ := k
                refine S7_7 (pc := 155) dX7_runRow_155 l_X7_95 e9 ?_
                clear e9
                refine P_iinc (v := l7 + (1 : Int32)) (pc := 158) dX7_runRow_158 (by decide) rfl rfl (Or.inr (by intro z e9; cases e9)) rfl ?_
                refine P_iinc (v := l8 + (1 : Int32)) (pc := 161) dX7_runRow_161 (by decide) rfl rfl (Or.inr (by intro z e9; cases e9)) rfl ?_
                refine P_goto (tgt := 6) (pc := 164) dX7_runRow_164 (by decide) ?_
                exact P_drop (ls2 := [vR (700, l0), vU, vI l2, vI l3, vR (400, l4), vR (100, l5), vR (300, l6), vI (l7 + (1 : Int32)), vI (l8 + (1 : Int32)), vU]) (ls := [vR (700, l0), vU, vI l2, vI l3, vR (400, l4), vR (100, l5), vR (300, l6), vI (l7 + (1 : Int32)), vI (l8 + (1 : Int32)), vI x16]) ⟨Or.inr rfl, ⟨Or.inr rfl, ⟨Or.inr rfl, ⟨Or.inr rfl, ⟨Or.inr rfl, ⟨Or.inr rfl, ⟨Or.inr rfl, ⟨Or.inr rfl, ⟨Or.inr rfl, ⟨Or.inl rfl, trivial⟩⟩⟩⟩⟩⟩⟩⟩⟩⟩ k
            · have k := k.2 c
              refine P_iconst (v := (1 : Int32)) (pc := 130) dX7_runRow_130 (by decide) ?_
              refine P_goto (tgt := 135) (pc := 131) dX7_runRow_131 (by decide) ?_
              refine P_iadd (pc := 135) dX7_runRow_135 ?_
              obtain ⟨⟨v9, e9⟩, k⟩ := k
              refine S7_6 (pc := 136) dX7_runRow_136 l_X7_92 e9 ?_
              clear e9
              refine P_aload_n (pc := 139) dX7_runRow_139 rfl ?_
              refine P_dup (pc := 140) dX7_runRow_140 (fun _ => rfl) ?_
              obtain ⟨x23, e9, k⟩ := k
              refine G7_7 (pc := 141) dX7_runRow_141 l_X7_95 e9 ?_
              clear e9
              refine P_iload (pc := 144) dX7_runRow_144 rfl ?_
              refine P_if_eq (tgt := 153) (pc := 146) dX7_runRow_146 (by decide) (fun c => ?_) (fun c => ?_)
              · have k := k.1 c
                refine P_iconst (v := (1 : Int32)) (pc := 153) dX7_runRow_153 (by decide) ?_
                refine P_iadd (pc := 154) dX7_runRow_154 ?_
                obtain ⟨⟨v9, e9⟩, k⟩ := k
                refine S7_7 (pc := 155) dX7_runRow_155 l_X7_95 e9 ?_
                clear e9
                refine P_iinc (v := l7 + (1 : Int32)) (pc := 158) dX7_runRow_158 (by decide) rfl rfl (Or.inr (by intro z e9; cases e9)) rfl ?_
                refine P_iinc (v := l8 + (1 : Int32)) (pc := 161) dX7_runRow_161 (by decide) rfl rfl (Or.inr (by intro z e9; cases e9)) rfl ?_
                refine P_goto (tgt := 6) (pc := 164) dX7_runRow_164 (by decide) ?_
                exact P_drop (ls2 := [vR (700, l0), vU, vI l2, vI l3, vR (400, l4), vR (100, l5), vR (300, l6), vI (l7 + (1 : Int32)), vI (l8 + (1 : Int32)), vU]) (ls := [vR (700, l0), vU, vI l2, vI l3, vR (400, l4), vR (100, l5), vR (300, l6), vI (l7 + (1 : Int32)), vI (l8 + (1 : Int32)), vI x16]) ⟨Or.inr rfl, ⟨Or.inr rfl, ⟨Or.inr rfl, ⟨Or.inr rfl, ⟨Or.inr rfl, ⟨Or.inr rfl, ⟨Or.inr rfl, ⟨Or.inr rfl, ⟨Or.inr rfl, ⟨Or.inl rfl, trivial⟩⟩⟩⟩⟩⟩⟩⟩⟩⟩ k
              · have k := k.2 c
                refine P_iconst (v := (0 : Int32)) (pc := 149) dX7_runRow_149 (by decide) ?_
                refine P_goto (tgt := 154) (pc := 150) dX7_runRow_150 (by decide) ?_
                refine P_iadd (pc := 154) dX7_runRow_154 ?_
                obtain ⟨⟨v9, e9⟩, k⟩ := k
                refine S7_7 (pc := 155) dX7_runRow_155 l_X7_95 e9 ?_
                clear e9
                refine P_iinc (v := l7 + (1 : Int32)) (pc := 158) dX7_runRow_158 (by decide) rfl rfl (Or.inr (by intro z e9; cases e9)) rfl ?_
                refine P_iinc (v := l8 + (1 : Int32)) (pc := 161) dX7_runRow_161 (by decide) rfl rfl (Or.inr (by intro z e9; cases e9)) rfl ?_
                refine P_goto (tgt := 6) (pc := 164) dX7_runRow_164 (by decide) ?_
                exact P_drop (ls2 := [vR (700, l0), vU, vI l2, vI l3, vR (400, l4), vR (100, l5), vR (300, l6), vI (l7 + (1 : Int32)), vI (l8 + (1 : Int32)), vU]) (ls := [vR (700, l0), vU, vI l2, vI l3, vR (400, l4), vR (100, l5), vR (300, l6), vI (l7 + (1 : Int32)), vI (l8 + (1 : Int32)), vI x16]) ⟨Or.inr rfl, ⟨Or.inr rfl, ⟨Or.inr rfl, ⟨Or.inr rfl, ⟨Or.inr rfl, ⟨Or.inr rfl, ⟨Or.inr rfl, ⟨Or.inr rfl, ⟨Or.inr rfl, ⟨Or.inl rfl, trivial⟩⟩⟩⟩⟩⟩⟩⟩⟩⟩ k
          · have k := k.1 c
            refine P_aload_n (pc := 61) dX7_runRow_61 rfl ?_
            refine P_iload (pc := 62) dX7_runRow_62 rfl ?_
            refine P_iload_n (pc := 64) dX7_runRow_64 rfl ?_
            refine P_iconst (v := (1 : Int32)) (pc := 65) dX7_runRow_65 (by decide) ?_
            refine P_iadd (pc := 66) dX7_runRow_66 ?_
            refine P_aload (pc := 67) dX7_runRow_67 rfl ?_
            refine P_aload (pc := 69) dX7_runRow_69 rfl ?_
            refine P_aload (pc := 71) dX7_runRow_71 rfl ?_
            obtain ⟨⟨w9, e9⟩, d2, nc, ns, rc27, rs28, Qc, g1, rfl, rfl, g2, kk, kx⟩ := k
            refine P_callV (ci := 7) (k := 0) (id := l0) (q := (RX7, TX7, 8)) (As := [vI l7, vI (l3 + (1 : Int32)), vR (400, l4), vR (100, l5), vR (300, l6)]) (st := []) (pc := 73) dX7_runRow_73 mk_X7_runAgain l_X7_102 im_X7_runAgain se_X7_runAgain ini_X7 rfl g1 (Nat.le_of_ble_eq_true rfl) rfl rfl (by decide) e9 rfl g2 (fun v9 h9 q9 => ?_) (fun E h9 q9 => PX_out rfl (kx E h9 q9))
            obtain ⟨rfl, k⟩ := kk v9 h9 q9
            clear kk kx g1 g2 q9
            refine P_aload_n (pc := 76) dX7_runRow_76 rfl ?_
            obtain ⟨a29, e9, k⟩ := k
            refine G7_3 (pc := 77) dX7_runRow_77 l_X7_21 e9 ?_
            clear e9
            refine P_iload (pc := 80) dX7_runRow_80 rfl ?_
            obtain ⟨n9, f9, e9, i9, k⟩ := k
            refine P_iald (pc := 82) dX7_runRow_82 e9 i9 ?_
            clear e9
            generalize f9 (Int32.toNatClampNeg l7) = x30 at k ⊢
            refine P_istore (pc := 83) dX7_runRow_83 (by decide) (Or.inr (by intro z e9; cases e9)) rfl ?_
            refine P_goto (tgt := 161) (pc := 85) dX7_runRow_85 (by decide) ?_
            refine P_iinc (v := l8 + (1 : Int32)) (pc := 161) dX7_runRow_161 (by decide) rfl rfl (Or.inr (by intro z e9; cases e9)) rfl ?_
            refine P_goto (tgt := 6) (pc := 164) dX7_runRow_164 (by decide) ?_
            exact k
-- X7_runAgain runAgain(IILFernHeirs$Morning;LFernHeirs$Court;LFernHeirs$Law;)V
theorem dX7_runAgain_0 : decode cX7_runAgain 0 = .ok (.iconst 0, 1) := by decide +kernel
theorem dX7_runAgain_1 : decode cX7_runAgain 1 = .ok (.istore 6, 2) := by decide +kernel
theorem dX7_runAgain_3 : decode cX7_runAgain 3 = .ok (.iload 6, 2) := by decide +kernel
theorem dX7_runAgain_5 : decode cX7_runAgain 5 = .ok (.aload_n 0, 1) := by decide +kernel
theorem dX7_runAgain_6 : decode cX7_runAgain 6 = .ok (.getfield 18, 3) := by decide +kernel
theorem dX7_runAgain_9 : decode cX7_runAgain 9 = .ok (.iload_n 1, 1) := by decide +kernel
theorem dX7_runAgain_10 : decode cX7_runAgain 10 = .ok (.iaload, 1) := by decide +kernel
theorem dX7_runAgain_11 : decode cX7_runAgain 11 = .ok (.if_icmp .ge 44, 3) := by decide +kernel
theorem dX7_runAgain_14 : decode cX7_runAgain 14 = .ok (.aload_n 0, 1) := by decide +kernel
theorem dX7_runAgain_15 : decode cX7_runAgain 15 = .ok (.getfield 89, 3) := by decide +kernel
theorem dX7_runAgain_18 : decode cX7_runAgain 18 = .ok (.sipush 200, 3) := by decide +kernel
theorem dX7_runAgain_21 : decode cX7_runAgain 21 = .ok (.if_icmp .ge 34, 3) := by decide +kernel
theorem dX7_runAgain_24 : decode cX7_runAgain 24 = .ok (.iload_n 2, 1) := by decide +kernel
theorem dX7_runAgain_25 : decode cX7_runAgain 25 = .ok (.bipush 6, 2) := by decide +kernel
theorem dX7_runAgain_27 : decode cX7_runAgain 27 = .ok (.if_icmp .gt 28, 3) := by decide +kernel
theorem dX7_runAgain_30 : decode cX7_runAgain 30 = .ok (.aload_n 0, 1) := by decide +kernel
theorem dX7_runAgain_31 : decode cX7_runAgain 31 = .ok (.iload_n 1, 1) := by decide +kernel
theorem dX7_runAgain_32 : decode cX7_runAgain 32 = .ok (.iconst 1, 1) := by decide +kernel
theorem dX7_runAgain_33 : decode cX7_runAgain 33 = .ok (.iadd, 1) := by decide +kernel
theorem dX7_runAgain_34 : decode cX7_runAgain 34 = .ok (.aload_n 0, 1) := by decide +kernel
theorem dX7_runAgain_35 : decode cX7_runAgain 35 = .ok (.getfield 21, 3) := by decide +kernel
theorem dX7_runAgain_38 : decode cX7_runAgain 38 = .ok (.iload_n 1, 1) := by decide +kernel
theorem dX7_runAgain_39 : decode cX7_runAgain 39 = .ok (.iaload, 1) := by decide +kernel
theorem dX7_runAgain_40 : decode cX7_runAgain 40 = .ok (.iload_n 2, 1) := by decide +kernel
theorem dX7_runAgain_41 : decode cX7_runAgain 41 = .ok (.aload_n 3, 1) := by decide +kernel
theorem dX7_runAgain_42 : decode cX7_runAgain 42 = .ok (.aload 4, 2) := by decide +kernel
theorem dX7_runAgain_44 : decode cX7_runAgain 44 = .ok (.aload 5, 2) := by decide +kernel
theorem dX7_runAgain_46 : decode cX7_runAgain 46 = .ok (.invokevirtual 98, 3) := by decide +kernel
theorem dX7_runAgain_49 : decode cX7_runAgain 49 = .ok (.iinc 6 1, 3) := by decide +kernel
theorem dX7_runAgain_52 : decode cX7_runAgain 52 = .ok (.goto (-49), 3) := by decide +kernel
theorem dX7_runAgain_55 : decode cX7_runAgain 55 = .ok (.return_, 1) := by decide +kernel
theorem r_X7_runAgain_0 {d rc rs : Nat} {Q : PO → PH → Prop} {h : PH} {l0 : Nat} {l1 : Int32} {l2 : Int32} {l3 : Nat} {l4 : Nat} {l5 : Nat}
    (k : PW d M_X7_runAgain Q rc rs 3 [vR (700, l0), vI l1, vI l2, vR (400, l3), vR (100, l4), vR (300, l5), vI (0 : Int32)] [] h) :
    PW d M_X7_runAgain Q rc rs 0 [vR (700, l0), vI l1, vI l2, vR (400, l3), vR (100, l4), vR (300, l5), vU] [] h := by
  refine P_iconst (v := (0 : Int32)) (pc := 0) dX7_runAgain_0 (by decide) ?_
  refine P_istore (pc := 1) dX7_runAgain_1 (by decide) (Or.inr (by intro z e9; cases e9)) rfl ?_
  exact k
theorem r_X7_runAgain_3 {d rc rs : Nat} {Q : PO → PH → Prop} {h : PH} {l0 : Nat} {l1 : Int32} {l2 : Int32} {l3 : Nat} {l4 : Nat} {l5 : Nat} {l6 : Int32}
    (k : gA h (10702, l0) fun a1 => xI h a1 l1 fun x2 => br (l6 < x2) (gI h (10705, l0) fun x3 => br (x3 < (200 : Int32)) (br ((6 : Int32) < l2) (Q (.inl none) h) (gA h (10703, l0) fun a4 => xI h a4 l1 fun x5 => isO h 10700 l0 ∧ cl d rc rs M_X7_runRow [vR (700, l0), vI (l1 + (1 : Int32)), vI x5, vI l2, vR (400, l3), vR (100, l4), vR (300, l5)] h (kV fun h6 rc7 rs8 => PW d M_X7_runAgain Q rc7 rs8 3 [vR (700, l0), vI l1, vI l2, vR (400, l3), vR (100, l4), vR (300, l5), vI (l6 + (1 : Int32))] [] h6) (fun E h6 rc7 rs8 => Q (.inr E) h6))) (Q (.inl none) h)) (Q (.inl none) h)) :
    PW d M_X7_runAgain Q rc rs 3 [vR (700, l0), vI l1, vI l2, vR (400, l3), vR (100, l4), vR (300, l5), vI l6] [] h := by
  refine P_iload (pc := 3) dX7_runAgain_3 rfl ?_
  refine P_aload_n (pc := 5) dX7_runAgain_5 rfl ?_
  obtain ⟨a1, e9, k⟩ := k
  refine G7_2 (pc := 6) dX7_runAgain_6 l_X7_18 e9 ?_
  clear e9
  refine P_iload_n (pc := 9) dX7_runAgain_9 rfl ?_
  obtain ⟨n9, f9, e9, i9, k⟩ := k
  refine P_iald (pc := 10) dX7_runAgain_10 e9 i9 ?_
  clear e9
  generalize f9 (Int32.toNatClampNeg l1) = x2 at k ⊢
  refine P_icmp_ge (tgt := 55) (pc := 11) dX7_runAgain_11 (by decide) (fun c => ?_) (fun c => ?_)
  · have k := k.2 (Int32.not_lt.mpr c)
    exact R_return (pc := 55) dX7_runAgain_55 rfl k
  · have k := k.1 (Int32.not_le.mp c)
    refine P_aload_n (pc := 14) dX7_runAgain_14 rfl ?_
    obtain ⟨x3, e9, k⟩ := k
    refine G7_5 (pc := 15) dX7_runAgain_15 l_X7_89 e9 ?_
    clear e9
    refine P_sipush (v := (200 : Int32)) (pc := 18) dX7_runAgain_18 (by decide) ?_
    refine P_icmp_ge (tgt := 55) (pc := 21) dX7_runAgain_21 (by decide) (fun c => ?_) (fun c => ?_)
    · have k := k.2 (Int32.not_lt.mpr c)
      exact R_return (pc := 55) dX7_runAgain_55 rfl k
    · have k := k.1 (Int32.not_le.mp c)
      refine P_iload_n (pc := 24) dX7_runAgain_24 rfl ?_
      refine P_bipush (v := (6 : Int32)) (pc := 25) dX7_runAgain_25 (by decide) ?_
      refine P_icmp_gt (tgt := 55) (pc := 27) dX7_runAgain_27 (by decide) (fun c => ?_) (fun c => ?_)
      · have k := k.1 c
        exact R_return (pc := 55) dX7_runAgain_55 rfl k
      · have k := k.2 c
        refine P_aload_n (pc := 30) dX7_runAgain_30 rfl ?_
        refine P_iload_n (pc := 31) dX7_runAgain_31 rfl ?_
        refine P_iconst (v := (1 : Int32)) (pc := 32) dX7_runAgain_32 (by decide) ?_
        refine P_iadd (pc := 33) dX7_runAgain_33 ?_
        refine P_aload_n (pc := 34) dX7_runAgain_34 rfl ?_
        obtain ⟨a4, e9, k⟩ := k
        refine G7_3 (pc := 35) dX7_runAgain_35 l_X7_21 e9 ?_
        clear e9
        refine P_iload_n (pc := 38) dX7_runAgain_38 rfl ?_
        obtain ⟨n9, f9, e9, i9, k⟩ := k
        refine P_iald (pc := 39) dX7_runAgain_39 e9 i9 ?_
        clear e9
        generalize f9 (Int32.toNatClampNeg l1) = x5 at k ⊢
        refine P_iload_n (pc := 40) dX7_runAgain_40 rfl ?_
        refine P_aload_n (pc := 41) dX7_runAgain_41 rfl ?_
        refine P_aload (pc := 42) dX7_runAgain_42 rfl ?_
        refine P_aload (pc := 44) dX7_runAgain_44 rfl ?_
        obtain ⟨⟨w9, e9⟩, d2, nc, ns, rc7, rs8, Qc, g1, rfl, rfl, g2, kk, kx⟩ := k
        refine P_callV (ci := 7) (k := 0) (id := l0) (q := (RX7, TX7, 8)) (As := [vI (l1 + (1 : Int32)), vI x5, vI l2, vR (400, l3), vR (100, l4), vR (300, l5)]) (st := []) (pc := 46) dX7_runAgain_46 mk_X7_runRow l_X7_98 im_X7_runRow se_X7_runRow ini_X7 rfl g1 (Nat.le_of_ble_eq_true rfl) rfl rfl (by decide) e9 rfl g2 (fun v9 h9 q9 => ?_) (fun E h9 q9 => PX_out rfl (kx E h9 q9))
        obtain ⟨rfl, k⟩ := kk v9 h9 q9
        clear kk kx g1 g2 q9
        refine P_iinc (v := l6 + (1 : Int32)) (pc := 49) dX7_runAgain_49 (by decide) rfl rfl (Or.inr (by intro z e9; cases e9)) rfl ?_
        refine P_goto (tgt := 3) (pc := 52) dX7_runAgain_52 (by decide) ?_
        exact k
-- X8_init <init>()V
theorem dX8_init_0 : decode cX8_init 0 = .ok (.aload_n 0, 1) := by decide +kernel
theorem dX8_init_1 : decode cX8_init 1 = .ok (.invokespecial 3, 3) := by decide +kernel
theorem dX8_init_4 : decode cX8_init 4 = .ok (.aload_n 0, 1) := by decide +kernel
theorem dX8_init_5 : decode cX8_init 5 = .ok (.sipush 600, 3) := by decide +kernel
theorem dX8_init_8 : decode cX8_init 8 = .ok (.newarray .byte, 2) := by decide +kernel
theorem dX8_init_10 : decode cX8_init 10 = .ok (.putfield 9, 3) := by decide +kernel
theorem dX8_init_13 : decode cX8_init 13 = .ok (.aload_n 0, 1) := by decide +kernel
theorem dX8_init_14 : decode cX8_init 14 = .ok (.iconst (-1), 1) := by decide +kernel
theorem dX8_init_15 : decode cX8_init 15 = .ok (.putfield 15, 3) := by decide +kernel
theorem dX8_init_18 : decode cX8_init 18 = .ok (.return_, 1) := by decide +kernel
theorem r_X8_init_0 {d rc rs : Nat} {Q : PO → PH → Prop} {h : PH} {l0 : Nat}
    (k : 1 ≤ d ∧ nwA h 1 (600 : Int32) (.inl (fun _ => 0)) rc rs fun a1 h2 rc3 rs4 => sF h2 (10800, l0) (vR a1) fun h5 => sF h5 (10806, l0) (vI (-1 : Int32)) fun h6 => Q (.inl none) h6) :
    PW d M_X8_init Q rc rs 0 [vR (800, l0)] [] h := by
  refine P_aload_n (pc := 0) dX8_init_0 rfl ?_
  refine P_objInit (pc := 1) dX8_init_1 l_X8_3 oi_in oi_co k.1 (Nat.le_of_ble_eq_true rfl) ?_
  replace k := k.2
  refine P_aload_n (pc := 4) dX8_init_4 rfl ?_
  refine P_sipush (v := (600 : Int32)) (pc := 5) dX8_init_5 (by decide) ?_
  obtain ⟨a1, n9, m9, g9, rc3, rs4, b1, b2, b3, b4, b5, b6, rfl, rfl, k⟩ := k
  refine P_newaB (pc := 8) dX8_init_8 ac_byte b1 b2 b3 b4 b5 b6 ?_
  obtain ⟨⟨v9, e9⟩, k⟩ := k
  refine S8_0 (pc := 10) dX8_init_10 l_X8_9 rfl rfl e9 ?_
  clear e9
  refine P_aload_n (pc := 13) dX8_init_13 rfl ?_
  refine P_iconst (v := (-1 : Int32)) (pc := 14) dX8_init_14 (by decide) ?_
  obtain ⟨⟨v9, e9⟩, k⟩ := k
  refine S8_6 (pc := 15) dX8_init_15 l_X8_15 e9 ?_
  clear e9
  exact R_return (pc := 18) dX8_init_18 rfl k
-- X8_append append(I)V
theorem dX8_append_0 : decode cX8_append 0 = .ok (.bipush 24, 2) := by decide +kernel
theorem dX8_append_2 : decode cX8_append 2 = .ok (.istore_n 2, 1) := by decide +kernel
theorem dX8_append_3 : decode cX8_append 3 = .ok (.iload_n 2, 1) := by decide +kernel
theorem dX8_append_4 : decode cX8_append 4 = .ok (.ifCond .lt 44, 3) := by decide +kernel
theorem dX8_append_7 : decode cX8_append 7 = .ok (.aload_n 0, 1) := by decide +kernel
theorem dX8_append_8 : decode cX8_append 8 = .ok (.getfield 19, 3) := by decide +kernel
theorem dX8_append_11 : decode cX8_append 11 = .ok (.aload_n 0, 1) := by decide +kernel
theorem dX8_append_12 : decode cX8_append 12 = .ok (.getfield 9, 3) := by decide +kernel
theorem dX8_append_15 : decode cX8_append 15 = .ok (.arraylength, 1) := by decide +kernel
theorem dX8_append_16 : decode cX8_append 16 = .ok (.if_icmp .ge 32, 3) := by decide +kernel
theorem dX8_append_19 : decode cX8_append 19 = .ok (.aload_n 0, 1) := by decide +kernel
theorem dX8_append_20 : decode cX8_append 20 = .ok (.getfield 9, 3) := by decide +kernel
theorem dX8_append_23 : decode cX8_append 23 = .ok (.aload_n 0, 1) := by decide +kernel
theorem dX8_append_24 : decode cX8_append 24 = .ok (.getfield 19, 3) := by decide +kernel
theorem dX8_append_27 : decode cX8_append 27 = .ok (.iload_n 1, 1) := by decide +kernel
theorem dX8_append_28 : decode cX8_append 28 = .ok (.iload_n 2, 1) := by decide +kernel
theorem dX8_append_29 : decode cX8_append 29 = .ok (.ishr, 1) := by decide +kernel
theorem dX8_append_30 : decode cX8_append 30 = .ok (.i2b, 1) := by decide +kernel
theorem dX8_append_31 : decode cX8_append 31 = .ok (.bastore, 1) := by decide +kernel
theorem dX8_append_32 : decode cX8_append 32 = .ok (.aload_n 0, 1) := by decide +kernel
theorem dX8_append_33 : decode cX8_append 33 = .ok (.dup, 1) := by decide +kernel
theorem dX8_append_34 : decode cX8_append 34 = .ok (.getfield 19, 3) := by decide +kernel
theorem dX8_append_37 : decode cX8_append 37 = .ok (.iconst 1, 1) := by decide +kernel
theorem dX8_append_38 : decode cX8_append 38 = .ok (.iadd, 1) := by decide +kernel
theorem dX8_append_39 : decode cX8_append 39 = .ok (.putfield 19, 3) := by decide +kernel
theorem dX8_append_42 : decode cX8_append 42 = .ok (.iinc 2 (-8), 3) := by decide +kernel
theorem dX8_append_45 : decode cX8_append 45 = .ok (.goto (-42), 3) := by decide +kernel
theorem dX8_append_48 : decode cX8_append 48 = .ok (.return_, 1) := by decide +kernel
theorem r_X8_append_0 {d rc rs : Nat} {Q : PO → PH → Prop} {h : PH} {l0 : Nat} {l1 : Int32}
    (k : PW d M_X8_append Q rc rs 3 [vR (800, l0), vI l1, vI (24 : Int32)] [] h) :
    PW d M_X8_append Q rc rs 0 [vR (800, l0), vI l1, vU] [] h := by
  refine P_bipush (v := (24 : Int32)) (pc := 0) dX8_append_0 (by decide) ?_
  refine P_istore_n (pc := 2) dX8_append_2 (by decide) (Or.inr (by intro z e9; cases e9)) rfl ?_
  exact k
theorem r_X8_append_3 {d rc rs : Nat} {Q : PO → PH → Prop} {h : PH} {l0 : Nat} {l1 : Int32} {l2 : Int32}
    (k : br (l2 < 0) (Q (.inl none) h) (gI h (10801, l0) fun x1 => gA h (10800, l0) fun a2 => lnA h a2 fun x3 => br (x1 < x3) (gA h (10800, l0) fun a4 => gI h (10801, l0) fun x5 => yB h a4 x5 ((l1 >>> (l2 &&& 31)).toInt8.toInt32) fun h6 => gI h6 (10801, l0) fun x7 => sF h6 (10801, l0) (vI (x7 + (1 : Int32))) fun h8 => PW d M_X8_append Q rc rs 3 [vR (800, l0), vI l1, vI (l2 + (-8 : Int32))] [] h8) (Q (.inl none) h))) :
    PW d M_X8_append Q rc rs 3 [vR (800, l0), vI l1, vI l2] [] h := by
  refine P_iload_n (pc := 3) dX8_append_3 rfl ?_
  refine P_if_lt (tgt := 48) (pc := 4) dX8_append_4 (by decide) (fun c => ?_) (fun c => ?_)
  · have k := k.1 c
    exact R_return (pc := 48) dX8_append_48 rfl k
  · have k := k.2 c
    refine P_aload_n (pc := 7) dX8_append_7 rfl ?_
    obtain ⟨x1, e9, k⟩ := k
    refine G8_1 (pc := 8) dX8_append_8 l_X8_19 e9 ?_
    clear e9
    refine P_aload_n (pc := 11) dX8_append_11 rfl ?_
    obtain ⟨a2, e9, k⟩ := k
    refine G8_0 (pc := 12) dX8_append_12 l_X8_9 e9 ?_
    clear e9
    obtain ⟨kd9, n9, g9, i9, e9, k⟩ := k
    refine P_alen (pc := 15) dX8_append_15 i9 e9 ?_
    clear e9
    generalize nI n9 = x3 at k ⊢
    refine P_icmp_ge (tgt := 48) (pc := 16) dX8_append_16 (by decide) (fun c => ?_) (fun c => ?_)
    · have k := k.2 (Int32.not_lt.mpr c)
      exact R_return (pc := 48) dX8_append_48 rfl k
    · have k := k.1 (Int32.not_le.mp c)
      refine P_aload_n (pc := 19) dX8_append_19 rfl ?_
      obtain ⟨a4, e9, k⟩ := k
      refine G8_0 (pc := 20) dX8_append_20 l_X8_9 e9 ?_
      clear e9
      refine P_aload_n (pc := 23) dX8_append_23 rfl ?_
      obtain ⟨x5, e9, k⟩ := k
      refine G8_1 (pc := 24) dX8_append_24 l_X8_19 e9 ?_
      clear e9
      refine P_iload_n (pc := 27) dX8_append_27 rfl ?_
      refine P_iload_n (pc := 28) dX8_append_28 rfl ?_
      refine P_ishr (pc := 29) dX8_append_29 ?_
      refine P_i2b (pc := 30) dX8_append_30 ?_
      obtain ⟨n9, f9, e9, i9, k⟩ := k
      refine P_bast (pc := 31) dX8_append_31 e9 i9 ?_
      clear e9
      refine P_aload_n (pc := 32) dX8_append_32 rfl ?_
      refine P_dup (pc := 33) dX8_append_33 (fun _ => rfl) ?_
      obtain ⟨x7, e9, k⟩ := k
      refine G8_1 (pc := 34) dX8_append_34 l_X8_19 e9 ?_
      clear e9
      refine P_iconst (v := (1 : Int32)) (pc := 37) dX8_append_37 (by decide) ?_
      refine P_iadd (pc := 38) dX8_append_38 ?_
      obtain ⟨⟨v9, e9⟩, k⟩ := k
      refine S8_1 (pc := 39) dX8_append_39 l_X8_19 e9 ?_
      clear e9
      refine P_iinc (v := l2 + (-8 : Int32)) (pc := 42) dX8_append_42 (by decide) rfl rfl (Or.inr (by intro z e9; cases e9)) rfl ?_
      refine P_goto (tgt := 3) (pc := 45) dX8_append_45 (by decide) ?_
      exact k
-- X8_begin begin(I)V
theorem dX8_begin_0 : decode cX8_begin 0 = .ok (.aload_n 0, 1) := by decide +kernel
theorem dX8_begin_1 : decode cX8_begin 1 = .ok (.iload_n 1, 1) := by decide +kernel
theorem dX8_begin_2 : decode cX8_begin 2 = .ok (.aload_n 0, 1) := by decide +kernel
theorem dX8_begin_3 : decode cX8_begin 3 = .ok (.getfield 9, 3) := by decide +kernel
theorem dX8_begin_6 : decode cX8_begin 6 = .ok (.arraylength, 1) := by decide +kernel
theorem dX8_begin_7 : decode cX8_begin 7 = .ok (.invokestatic 22, 3) := by decide +kernel
theorem dX8_begin_10 : decode cX8_begin 10 = .ok (.putfield 28, 3) := by decide +kernel
theorem dX8_begin_13 : decode cX8_begin 13 = .ok (.aload_n 0, 1) := by decide +kernel
theorem dX8_begin_14 : decode cX8_begin 14 = .ok (.iconst 0, 1) := by decide +kernel
theorem dX8_begin_15 : decode cX8_begin 15 = .ok (.putfield 19, 3) := by decide +kernel
theorem dX8_begin_18 : decode cX8_begin 18 = .ok (.aload_n 0, 1) := by decide +kernel
theorem dX8_begin_19 : decode cX8_begin 19 = .ok (.iconst 0, 1) := by decide +kernel
theorem dX8_begin_20 : decode cX8_begin 20 = .ok (.putfield 31, 3) := by decide +kernel
theorem dX8_begin_23 : decode cX8_begin 23 = .ok (.aload_n 0, 1) := by decide +kernel
theorem dX8_begin_24 : decode cX8_begin 24 = .ok (.iconst 0, 1) := by decide +kernel
theorem dX8_begin_25 : decode cX8_begin 25 = .ok (.putfield 34, 3) := by decide +kernel
theorem dX8_begin_28 : decode cX8_begin 28 = .ok (.aload_n 0, 1) := by decide +kernel
theorem dX8_begin_29 : decode cX8_begin 29 = .ok (.iconst 0, 1) := by decide +kernel
theorem dX8_begin_30 : decode cX8_begin 30 = .ok (.putfield 37, 3) := by decide +kernel
theorem dX8_begin_33 : decode cX8_begin 33 = .ok (.aload_n 0, 1) := by decide +kernel
theorem dX8_begin_34 : decode cX8_begin 34 = .ok (.iconst (-1), 1) := by decide +kernel
theorem dX8_begin_35 : decode cX8_begin 35 = .ok (.putfield 15, 3) := by decide +kernel
theorem dX8_begin_38 : decode cX8_begin 38 = .ok (.return_, 1) := by decide +kernel
theorem r_X8_begin_0 {d rc rs : Nat} {Q : PO → PH → Prop} {h : PH} {l0 : Nat} {l1 : Int32}
    (k : gA h (10800, l0) fun a1 => lnA h a1 fun x2 => cl d rc rs M_J9_min_7cf53 [vI l1, vI x2] h (kI fun x6 h3 rc4 rs5 => sF h3 (10802, l0) (vI x6) fun h7 => sF h7 (10801, l0) (vI (0 : Int32)) fun h8 => sF h8 (10803, l0) (vI (0 : Int32)) fun h9 => sF h9 (10804, l0) (vI (0 : Int32)) fun h10 => sF h10 (10805, l0) (vI (0 : Int32)) fun h11 => sF h11 (10806, l0) (vI (-1 : Int32)) fun h12 => Q (.inl none) h12) (fun E h3 rc4 rs5 => Q (.inr E) h3)) :
    PW d M_X8_begin Q rc rs 0 [vR (800, l0), vI l1] [] h := by
  refine P_aload_n (pc := 0) dX8_begin_0 rfl ?_
  refine P_iload_n (pc := 1) dX8_begin_1 rfl ?_
  refine P_aload_n (pc := 2) dX8_begin_2 rfl ?_
  obtain ⟨a1, e9, k⟩ := k
  refine G8_0 (pc := 3) dX8_begin_3 l_X8_9 e9 ?_
  clear e9
  obtain ⟨kd9, n9, g9, i9, e9, k⟩ := k
  refine P_alen (pc := 6) dX8_begin_6 i9 e9 ?_
  clear e9
  generalize nI n9 = x2 at k ⊢
  obtain ⟨d2, nc, ns, rc4, rs5, Qc, g1, rfl, rfl, g2, kk, kx⟩ := k
  refine P_callS (As := [vI l1, vI x2]) (st := [vR (800, l0)]) (pc := 7) dX8_begin_7 mk_J9_min_7cf53 l_X8_22 st_J9_min_7cf53 ini_J9 rfl g1 (Nat.le_of_ble_eq_true rfl) rfl g2 (fun v9 h9 q9 => ?_) (fun E h9 q9 => PX_out rfl (kx E h9 q9))
  obtain ⟨x6, rfl, k⟩ := kk v9 h9 q9
  clear kk kx g1 g2 q9
  obtain ⟨⟨v9, e9⟩, k⟩ := k
  refine S8_2 (pc := 10) dX8_begin_10 l_X8_28 e9 ?_
  clear e9
  refine P_aload_n (pc := 13) dX8_begin_13 rfl ?_
  refine P_iconst (v := (0 : Int32)) (pc := 14) dX8_begin_14 (by decide) ?_
  obtain ⟨⟨v9, e9⟩, k⟩ := k
  refine S8_1 (pc := 15) dX8_begin_15 l_X8_19 e9 ?_
  clear e9
  refine P_aload_n (pc := 18) dX8_begin_18 rfl ?_
  refine P_iconst (v := (0 : Int32)) (pc := 19) dX8_begin_19 (by decide) ?_
  obtain ⟨⟨v9, e9⟩, k⟩ := k
  refine S8_3 (pc := 20) dX8_begin_20 l_X8_31 e9 ?_
  clear e9
  refine P_aload_n (pc := 23) dX8_begin_23 rfl ?_
  refine P_iconst (v := (0 : Int32)) (pc := 24) dX8_begin_24 (by decide) ?_
  obtain ⟨⟨v9, e9⟩, k⟩ := k
  refine S8_4 (pc := 25) dX8_begin_25 l_X8_34 e9 ?_
  clear e9
  refine P_aload_n (pc := 28) dX8_begin_28 rfl ?_
  refine P_iconst (v := (0 : Int32)) (pc := 29) dX8_begin_29 (by decide) ?_
  obtain ⟨⟨v9, e9⟩, k⟩ := k
  refine S8_5 (pc := 30) dX8_begin_30 l_X8_37 e9 ?_
  clear e9
  refine P_aload_n (pc := 33) dX8_begin_33 rfl ?_
  refine P_iconst (v := (-1 : Int32)) (pc := 34) dX8_begin_34 (by decide) ?_
  obtain ⟨⟨v9, e9⟩, k⟩ := k
  refine S8_6 (pc := 35) dX8_begin_35 l_X8_15 e9 ?_
  clear e9
  exact R_return (pc := 38) dX8_begin_38 rfl k
-- X8_peek peek()I
theorem dX8_peek_0 : decode cX8_peek 0 = .ok (.aload_n 0, 1) := by decide +kernel
theorem dX8_peek_1 : decode cX8_peek 1 = .ok (.getfield 31, 3) := by decide +kernel
theorem dX8_peek_4 : decode cX8_peek 4 = .ok (.aload_n 0, 1) := by decide +kernel
theorem dX8_peek_5 : decode cX8_peek 5 = .ok (.getfield 28, 3) := by decide +kernel
theorem dX8_peek_8 : decode cX8_peek 8 = .ok (.if_icmp .ge 30, 3) := by decide +kernel
theorem dX8_peek_11 : decode cX8_peek 11 = .ok (.aload_n 0, 1) := by decide +kernel
theorem dX8_peek_12 : decode cX8_peek 12 = .ok (.getfield 9, 3) := by decide +kernel
theorem dX8_peek_15 : decode cX8_peek 15 = .ok (.aload_n 0, 1) := by decide +kernel
theorem dX8_peek_16 : decode cX8_peek 16 = .ok (.getfield 31, 3) := by decide +kernel
theorem dX8_peek_19 : decode cX8_peek 19 = .ok (.baload, 1) := by decide +kernel
theorem dX8_peek_20 : decode cX8_peek 20 = .ok (.bipush 32, 2) := by decide +kernel
theorem dX8_peek_22 : decode cX8_peek 22 = .ok (.if_icmp .ne 16, 3) := by decide +kernel
theorem dX8_peek_25 : decode cX8_peek 25 = .ok (.aload_n 0, 1) := by decide +kernel
theorem dX8_peek_26 : decode cX8_peek 26 = .ok (.dup, 1) := by decide +kernel
theorem dX8_peek_27 : decode cX8_peek 27 = .ok (.getfield 31, 3) := by decide +kernel
theorem dX8_peek_30 : decode cX8_peek 30 = .ok (.iconst 1, 1) := by decide +kernel
theorem dX8_peek_31 : decode cX8_peek 31 = .ok (.iadd, 1) := by decide +kernel
theorem dX8_peek_32 : decode cX8_peek 32 = .ok (.putfield 31, 3) := by decide +kernel
theorem dX8_peek_35 : decode cX8_peek 35 = .ok (.goto (-35), 3) := by decide +kernel
theorem dX8_peek_38 : decode cX8_peek 38 = .ok (.aload_n 0, 1) := by decide +kernel
theorem dX8_peek_39 : decode cX8_peek 39 = .ok (.aload_n 0, 1) := by decide +kernel
theorem dX8_peek_40 : decode cX8_peek 40 = .ok (.getfield 31, 3) := by decide +kernel
theorem dX8_peek_43 : decode cX8_peek 43 = .ok (.putfield 34, 3) := by decide +kernel
theorem dX8_peek_46 : decode cX8_peek 46 = .ok (.aload_n 0, 1) := by decide +kernel
theorem dX8_peek_47 : decode cX8_peek 47 = .ok (.getfield 31, 3) := by decide +kernel
theorem dX8_peek_50 : decode cX8_peek 50 = .ok (.aload_n 0, 1) := by decide +kernel
theorem dX8_peek_51 : decode cX8_peek 51 = .ok (.getfield 28, 3) := by decide +kernel
theorem dX8_peek_54 : decode cX8_peek 54 = .ok (.if_icmp .ge 19, 3) := by decide +kernel
theorem dX8_peek_57 : decode cX8_peek 57 = .ok (.aload_n 0, 1) := by decide +kernel
theorem dX8_peek_58 : decode cX8_peek 58 = .ok (.getfield 9, 3) := by decide +kernel
theorem dX8_peek_61 : decode cX8_peek 61 = .ok (.aload_n 0, 1) := by decide +kernel
theorem dX8_peek_62 : decode cX8_peek 62 = .ok (.getfield 31, 3) := by decide +kernel
theorem dX8_peek_65 : decode cX8_peek 65 = .ok (.baload, 1) := by decide +kernel
theorem dX8_peek_66 : decode cX8_peek 66 = .ok (.sipush 255, 3) := by decide +kernel
theorem dX8_peek_69 : decode cX8_peek 69 = .ok (.iand, 1) := by decide +kernel
theorem dX8_peek_70 : decode cX8_peek 70 = .ok (.goto 4, 3) := by decide +kernel
theorem dX8_peek_73 : decode cX8_peek 73 = .ok (.iconst (-1), 1) := by decide +kernel
theorem dX8_peek_74 : decode cX8_peek 74 = .ok (.ireturn, 1) := by decide +kernel
theorem r_X8_peek_0 {d rc rs : Nat} {Q : PO → PH → Prop} {h : PH} {l0 : Nat}
    (k : gI h (10803, l0) fun x1 => gI h (10802, l0) fun x2 => br (x1 < x2) (gA h (10800, l0) fun a10 => gI h (10803, l0) fun x11 => xB h a10 x11 fun x12 => br (x12 = (32 : Int32)) (gI h (10803, l0) fun x20 => sF h (10803, l0) (vI (x20 + (1 : Int32))) fun h21 => PW d M_X8_peek Q rc rs 0 [vR (800, l0)] [] h21) (gI h (10803, l0) fun x13 => sF h (10804, l0) (vI x13) fun h14 => gI h14 (10803, l0) fun x15 => gI h14 (10802, l0) fun x16 => br (x15 < x16) (gA h14 (10800, l0) fun a17 => gI h14 (10803, l0) fun x18 => xB h14 a17 x18 fun x19 => Q (.inl (some (vI (x19 &&& (255 : Int32))))) h14) (Q (.inl (some (vI (-1 : Int32)))) h14))) (gI h (10803, l0) fun x3 => sF h (10804, l0) (vI x3) fun h4 => gI h4 (10803, l0) fun x5 => gI h4 (10802, l0) fun x6 => br (x5 < x6) (gA h4 (10800, l0) fun a7 => gI h4 (10803, l0) fun x8 => xB h4 a7 x8 fun x9 => Q (.inl (some (vI (x9 &&& (255 : Int32))))) h4) (Q (.inl (some (vI (-1 : Int32)))) h4))) :
    PW d M_X8_peek Q rc rs 0 [vR (800, l0)] [] h := by
  refine P_aload_n (pc := 0) dX8_peek_0 rfl ?_
  obtain ⟨x1, e9, k⟩ := k
  refine G8_3 (pc := 1) dX8_peek_1 l_X8_31 e9 ?_
  clear e9
  refine P_aload_n (pc := 4) dX8_peek_4 rfl ?_
  obtain ⟨x2, e9, k⟩ := k
  refine G8_2 (pc := 5) dX8_peek_5 l_X8_28 e9 ?_
  clear e9
  refine P_icmp_ge (tgt := 38) (pc := 8) dX8_peek_8 (by decide) (fun c => ?_) (fun c => ?_)
  · have k := k.2 (Int32.not_lt.mpr c)
    refine P_aload_n (pc := 38) dX8_peek_38 rfl ?_
    refine P_aload_n (pc := 39) dX8_peek_39 rfl ?_
    obtain ⟨x3, e9, k⟩ := k
    refine G8_3 (pc := 40) dX8_peek_40 l_X8_31 e9 ?_
    clear e9
    obtain ⟨⟨v9, e9⟩, k⟩ := k
    refine S8_4 (pc := 43) dX8_peek_43 l_X8_34 e9 ?_
    clear e9
    refine P_aload_n (pc := 46) dX8_peek_46 rfl ?_
    obtain ⟨x5, e9, k⟩ := k
    refine G8_3 (pc := 47) dX8_peek_47 l_X8_31 e9 ?_
    clear e9
    refine P_aload_n (pc := 50) dX8_peek_50 rfl ?_
    obtain ⟨x6, e9, k⟩ := k
    refine G8_2 (pc := 51) dX8_peek_51 l_X8_28 e9 ?_
    clear e9
    refine P_icmp_ge (tgt := 73) (pc := 54) dX8_peek_54 (by decide) (fun c => ?_) (fun c => ?_)
    · have k := k.2 (Int32.not_lt.mpr c)
      refine P_iconst (v := (-1 : Int32)) (pc := 73) dX8_peek_73 (by decide) ?_
      exact R_ireturn (pc := 74) dX8_peek_74 rfl rfl k
    · have k := k.1 (Int32.not_le.mp c)
      refine P_aload_n (pc := 57) dX8_peek_57 rfl ?_
      obtain ⟨a7, e9, k⟩ := k
      refine G8_0 (pc := 58) dX8_peek_58 l_X8_9 e9 ?_
      clear e9
      refine P_aload_n (pc := 61) dX8_peek_61 rfl ?_
      obtain ⟨x8, e9, k⟩ := k
      refine G8_3 (pc := 62) dX8_peek_62 l_X8_31 e9 ?_
      clear e9
      obtain ⟨n9, f9, e9, i9, k⟩ := k
      refine P_bald (pc := 65) dX8_peek_65 e9 i9 ?_
      clear e9
      generalize f9 (Int32.toNatClampNeg x8) = x9 at k ⊢
      refine P_sipush (v := (255 : Int32)) (pc := 66) dX8_peek_66 (by decide) ?_
      refine P_iand (pc := 69) dX8_peek_69 ?_
      refine P_goto (tgt := 74) (pc := 70) dX8_peek_70 (by decide) ?_
      exact R_ireturn (pc := 74) dX8_peek_74 rfl rfl k
  · have k := k.1 (Int32.not_le.mp c)
    refine P_aload_n (pc := 11) dX8_peek_11 rfl ?_
    obtain ⟨a10, e9, k⟩ := k
    refine G8_0 (pc := 12) dX8_peek_12 l_X8_9 e9 ?_
    clear e9
    refine P_aload_n (pc := 15) dX8_peek_15 rfl ?_
    obtain ⟨x11, e9, k⟩ := k
    refine G8_3 (pc := 16) dX8_peek_16 l_X8_31 e9 ?_
    clear e9
    obtain ⟨n9, f9, e9, i9, k⟩ := k
    refine P_bald (pc := 19) dX8_peek_19 e9 i9 ?_
    clear e9
    generalize f9 (Int32.toNatClampNeg x11) = x12 at k ⊢
    refine P_bipush (v := (32 : Int32)) (pc := 20) dX8_peek_20 (by decide) ?_
    refine P_icmp_ne (tgt := 38) (pc := 22) dX8_peek_22 (by decide) (fun c => ?_) (fun c => ?_)
    · have k := k.2 c
      refine P_aload_n (pc := 38) dX8_peek_38 rfl ?_
      refine P_aload_n (pc := 39) dX8_peek_39 rfl ?_
      obtain ⟨x13, e9, k⟩ := k
      refine G8_3 (pc := 40) dX8_peek_40 l_X8_31 e9 ?_
      clear e9
      obtain ⟨⟨v9, e9⟩, k⟩ := k
      refine S8_4 (pc := 43) dX8_peek_43 l_X8_34 e9 ?_
      clear e9
      refine P_aload_n (pc := 46) dX8_peek_46 rfl ?_
      obtain ⟨x15, e9, k⟩ := k
      refine G8_3 (pc := 47) dX8_peek_47 l_X8_31 e9 ?_
      clear e9
      refine P_aload_n (pc := 50) dX8_peek_50 rfl ?_
      obtain ⟨x16, e9, k⟩ := k
      refine G8_2 (pc := 51) dX8_peek_51 l_X8_28 e9 ?_
      clear e9
      refine P_icmp_ge (tgt := 73) (pc := 54) dX8_peek_54 (by decide) (fun c => ?_) (fun c => ?_)
      · have k := k.2 (Int32.not_lt.mpr c)
        refine P_iconst (v := (-1 : Int32)) (pc := 73) dX8_peek_73 (by decide) ?_
        exact R_ireturn (pc := 74) dX8_peek_74 rfl rfl k
      · have k := k.1 (Int32.not_le.mp c)
        refine P_aload_n (pc := 57) dX8_peek_57 rfl ?_
        obtain ⟨a17, e9, k⟩ := k
        refine G8_0 (pc := 58) dX8_peek_58 l_X8_9 e9 ?_
        clear e9
        refine P_aload_n (pc := 61) dX8_peek_61 rfl ?_
        obtain ⟨x18, e9, k⟩ := k
        refine G8_3 (pc := 62) dX8_peek_62 l_X8_31 e9 ?_
        clear e9
        obtain ⟨n9, f9, e9, i9, k⟩ := k
        refine P_bald (pc := 65) dX8_peek_65 e9 i9 ?_
        clear e9
        generalize f9 (Int32.toNatClampNeg x18) = x19 at k ⊢
        refine P_sipush (v := (255 : Int32)) (pc := 66) dX8_peek_66 (by decide) ?_
        refine P_iand (pc := 69) dX8_peek_69 ?_
        refine P_goto (tgt := 74) (pc := 70) dX8_peek_70 (by decide) ?_
        exact R_ireturn (pc := 74) dX8_peek_74 rfl rfl k
    · have k := k.1 c
      refine P_aload_n (pc := 25) dX8_peek_25 rfl ?_
      refine P_dup (pc := 26) dX8_peek_26 (fun _ => rfl) ?_
      obtain ⟨x20, e9, k⟩ := k
      refine G8_3 (pc := 27) dX8_peek_27 l_X8_31 e9 ?_
      clear e9
      refine P_iconst (v := (1 : Int32)) (pc := 30) dX8_peek_30 (by decide) ?_
      refine P_iadd (pc := 31) dX8_peek_31 ?_
      obtain ⟨⟨v9, e9⟩, k⟩ := k
      refine S8_3 (pc := 32) dX8_peek_32 l_X8_31 e9 ?_
      clear e9
      refine P_goto (tgt := 0) (pc := 35) dX8_peek_35 (by decide) ?_
      exact k
-- X8_refuse refuse(I)Z
theorem dX8_refuse_0 : decode cX8_refuse 0 = .ok (.aload_n 0, 1) := by decide +kernel
theorem dX8_refuse_1 : decode cX8_refuse 1 = .ok (.iload_n 1, 1) := by decide +kernel
theorem dX8_refuse_2 : decode cX8_refuse 2 = .ok (.putfield 37, 3) := by decide +kernel
theorem dX8_refuse_5 : decode cX8_refuse 5 = .ok (.aload_n 0, 1) := by decide +kernel
theorem dX8_refuse_6 : decode cX8_refuse 6 = .ok (.aload_n 0, 1) := by decide +kernel
theorem dX8_refuse_7 : decode cX8_refuse 7 = .ok (.getfield 34, 3) := by decide +kernel
theorem dX8_refuse_10 : decode cX8_refuse 10 = .ok (.putfield 15, 3) := by decide +kernel
theorem dX8_refuse_13 : decode cX8_refuse 13 = .ok (.iconst 0, 1) := by decide +kernel
theorem dX8_refuse_14 : decode cX8_refuse 14 = .ok (.ireturn, 1) := by decide +kernel
theorem r_X8_refuse_0 {d rc rs : Nat} {Q : PO → PH → Prop} {h : PH} {l0 : Nat} {l1 : Int32}
    (k : sF h (10805, l0) (vI l1) fun h1 => gI h1 (10804, l0) fun x2 => sF h1 (10806, l0) (vI x2) fun h3 => Q (.inl (some (vI (0 : Int32)))) h3) :
    PW d M_X8_refuse Q rc rs 0 [vR (800, l0), vI l1] [] h := by
  refine P_aload_n (pc := 0) dX8_refuse_0 rfl ?_
  refine P_iload_n (pc := 1) dX8_refuse_1 rfl ?_
  obtain ⟨⟨v9, e9⟩, k⟩ := k
  refine S8_5 (pc := 2) dX8_refuse_2 l_X8_37 e9 ?_
  clear e9
  refine P_aload_n (pc := 5) dX8_refuse_5 rfl ?_
  refine P_aload_n (pc := 6) dX8_refuse_6 rfl ?_
  obtain ⟨x2, e9, k⟩ := k
  refine G8_4 (pc := 7) dX8_refuse_7 l_X8_34 e9 ?_
  clear e9
  obtain ⟨⟨v9, e9⟩, k⟩ := k
  refine S8_6 (pc := 10) dX8_refuse_10 l_X8_15 e9 ?_
  clear e9
  refine P_iconst (v := (0 : Int32)) (pc := 13) dX8_refuse_13 (by decide) ?_
  exact R_ireturn (pc := 14) dX8_refuse_14 rfl rfl k
-- X8_takeSign takeSign(C)Z
theorem dX8_takeSign_0 : decode cX8_takeSign 0 = .ok (.aload_n 0, 1) := by decide +kernel
theorem dX8_takeSign_1 : decode cX8_takeSign 1 = .ok (.invokevirtual 40, 3) := by decide +kernel
theorem dX8_takeSign_4 : decode cX8_takeSign 4 = .ok (.iload_n 1, 1) := by decide +kernel
theorem dX8_takeSign_5 : decode cX8_takeSign 5 = .ok (.if_icmp .eq 5, 3) := by decide +kernel
theorem dX8_takeSign_8 : decode cX8_takeSign 8 = .ok (.iconst 0, 1) := by decide +kernel
theorem dX8_takeSign_9 : decode cX8_takeSign 9 = .ok (.ireturn, 1) := by decide +kernel
theorem dX8_takeSign_10 : decode cX8_takeSign 10 = .ok (.aload_n 0, 1) := by decide +kernel
theorem dX8_takeSign_11 : decode cX8_takeSign 11 = .ok (.dup, 1) := by decide +kernel
theorem dX8_takeSign_12 : decode cX8_takeSign 12 = .ok (.getfield 31, 3) := by decide +kernel
theorem dX8_takeSign_15 : decode cX8_takeSign 15 = .ok (.iconst 1, 1) := by decide +kernel
theorem dX8_takeSign_16 : decode cX8_takeSign 16 = .ok (.iadd, 1) := by decide +kernel
theorem dX8_takeSign_17 : decode cX8_takeSign 17 = .ok (.putfield 31, 3) := by decide +kernel
theorem dX8_takeSign_20 : decode cX8_takeSign 20 = .ok (.iconst 1, 1) := by decide +kernel
theorem dX8_takeSign_21 : decode cX8_takeSign 21 = .ok (.ireturn, 1) := by decide +kernel
theorem r_X8_takeSign_0 {d rc rs : Nat} {Q : PO → PH → Prop} {h : PH} {l0 : Nat} {l1 : Int32}
    (k : isO h 10800 l0 ∧ cl d rc rs M_X8_peek [vR (800, l0)] h (kI fun x4 h1 rc2 rs3 => br (x4 = l1) (gI h1 (10803, l0) fun x5 => sF h1 (10803, l0) (vI (x5 + (1 : Int32))) fun h6 => Q (.inl (some (vI (1 : Int32)))) h6) (Q (.inl (some (vI (0 : Int32)))) h1)) (fun E h1 rc2 rs3 => Q (.inr E) h1)) :
    PW d M_X8_takeSign Q rc rs 0 [vR (800, l0), vI l1] [] h := by
  refine P_aload_n (pc := 0) dX8_takeSign_0 rfl ?_
  obtain ⟨⟨w9, e9⟩, d2, nc, ns, rc2, rs3, Qc, g1, rfl, rfl, g2, kk, kx⟩ := k
  refine P_callV (ci := 8) (k := 0) (id := l0) (q := (RX8, TX8, 7)) (As := []) (st := []) (pc := 1) dX8_takeSign_1 mk_X8_peek l_X8_40 im_X8_peek se_X8_peek ini_X8 rfl g1 (Nat.le_of_ble_eq_true rfl) rfl rfl (by decide) e9 rfl g2 (fun v9 h9 q9 => ?_) (fun E h9 q9 => PX_out rfl (kx E h9 q9))
  obtain ⟨x4, rfl, k⟩ := kk v9 h9 q9
  clear kk kx g1 g2 q9
  refine P_iload_n (pc := 4) dX8_takeSign_4 rfl ?_
  refine P_icmp_eq (tgt := 10) (pc := 5) dX8_takeSign_5 (by decide) (fun c => ?_) (fun c => ?_)
  · have k := k.1 c
    refine P_aload_n (pc := 10) dX8_takeSign_10 rfl ?_
    refine P_dup (pc := 11) dX8_takeSign_11 (fun _ => rfl) ?_
    obtain ⟨x5, e9, k⟩ := k
    refine G8_3 (pc := 12) dX8_takeSign_12 l_X8_31 e9 ?_
    clear e9
    refine P_iconst (v := (1 : Int32)) (pc := 15) dX8_takeSign_15 (by decide) ?_
    refine P_iadd (pc := 16) dX8_takeSign_16 ?_
    obtain ⟨⟨v9, e9⟩, k⟩ := k
    refine S8_3 (pc := 17) dX8_takeSign_17 l_X8_31 e9 ?_
    clear e9
    refine P_iconst (v := (1 : Int32)) (pc := 20) dX8_takeSign_20 (by decide) ?_
    exact R_ireturn (pc := 21) dX8_takeSign_21 rfl rfl k
  · have k := k.2 c
    refine P_iconst (v := (0 : Int32)) (pc := 8) dX8_takeSign_8 (by decide) ?_
    exact R_ireturn (pc := 9) dX8_takeSign_9 rfl rfl k
-- X8_needSign needSign(C)Z
theorem dX8_needSign_0 : decode cX8_needSign 0 = .ok (.aload_n 0, 1) := by decide +kernel
theorem dX8_needSign_1 : decode cX8_needSign 1 = .ok (.invokevirtual 40, 3) := by decide +kernel
theorem dX8_needSign_4 : decode cX8_needSign 4 = .ok (.iload_n 1, 1) := by decide +kernel
theorem dX8_needSign_5 : decode cX8_needSign 5 = .ok (.if_icmp .eq 9, 3) := by decide +kernel
theorem dX8_needSign_8 : decode cX8_needSign 8 = .ok (.aload_n 0, 1) := by decide +kernel
theorem dX8_needSign_9 : decode cX8_needSign 9 = .ok (.iconst 1, 1) := by decide +kernel
theorem dX8_needSign_10 : decode cX8_needSign 10 = .ok (.invokevirtual 44, 3) := by decide +kernel
theorem dX8_needSign_13 : decode cX8_needSign 13 = .ok (.ireturn, 1) := by decide +kernel
theorem dX8_needSign_14 : decode cX8_needSign 14 = .ok (.aload_n 0, 1) := by decide +kernel
theorem dX8_needSign_15 : decode cX8_needSign 15 = .ok (.dup, 1) := by decide +kernel
theorem dX8_needSign_16 : decode cX8_needSign 16 = .ok (.getfield 31, 3) := by decide +kernel
theorem dX8_needSign_19 : decode cX8_needSign 19 = .ok (.iconst 1, 1) := by decide +kernel
theorem dX8_needSign_20 : decode cX8_needSign 20 = .ok (.iadd, 1) := by decide +kernel
theorem dX8_needSign_21 : decode cX8_needSign 21 = .ok (.putfield 31, 3) := by decide +kernel
theorem dX8_needSign_24 : decode cX8_needSign 24 = .ok (.iconst 1, 1) := by decide +kernel
theorem dX8_needSign_25 : decode cX8_needSign 25 = .ok (.ireturn, 1) := by decide +kernel
theorem r_X8_needSign_0 {d rc rs : Nat} {Q : PO → PH → Prop} {h : PH} {l0 : Nat} {l1 : Int32}
    (k : isO h 10800 l0 ∧ cl d rc rs M_X8_peek [vR (800, l0)] h (kI fun x4 h1 rc2 rs3 => br (x4 = l1) (gI h1 (10803, l0) fun x5 => sF h1 (10803, l0) (vI (x5 + (1 : Int32))) fun h6 => Q (.inl (some (vI (1 : Int32)))) h6) (isO h1 10800 l0 ∧ cl d rc2 rs3 M_X8_refuse [vR (800, l0), vI (1 : Int32)] h1 (kI fun x10 h7 rc8 rs9 => nrw .boolean x10 (Q (.inl (some (vI x10))) h7)) (fun E h7 rc8 rs9 => Q (.inr E) h7))) (fun E h1 rc2 rs3 => Q (.inr E) h1)) :
    PW d M_X8_needSign Q rc rs 0 [vR (800, l0), vI l1] [] h := by
  refine P_aload_n (pc := 0) dX8_needSign_0 rfl ?_
  obtain ⟨⟨w9, e9⟩, d2, nc, ns, rc2, rs3, Qc, g1, rfl, rfl, g2, kk, kx⟩ := k
  refine P_callV (ci := 8) (k := 0) (id := l0) (q := (RX8, TX8, 7)) (As := []) (st := []) (pc := 1) dX8_needSign_1 mk_X8_peek l_X8_40 im_X8_peek se_X8_peek ini_X8 rfl g1 (Nat.le_of_ble_eq_true rfl) rfl rfl (by decide) e9 rfl g2 (fun v9 h9 q9 => ?_) (fun E h9 q9 => PX_out rfl (kx E h9 q9))
  obtain ⟨x4, rfl, k⟩ := kk v9 h9 q9
  clear kk kx g1 g2 q9
  refine P_iload_n (pc := 4) dX8_needSign_4 rfl ?_
  refine P_icmp_eq (tgt := 14) (pc := 5) dX8_needSign_5 (by decide) (fun c => ?_) (fun c => ?_)
  · have k := k.1 c
    refine P_aload_n (pc := 14) dX8_needSign_14 rfl ?_
    refine P_dup (pc := 15) dX8_needSign_15 (fun _ => rfl) ?_
    obtain ⟨x5, e9, k⟩ := k
    refine G8_3 (pc := 16) dX8_needSign_16 l_X8_31 e9 ?_
    clear e9
    refine P_iconst (v := (1 : Int32)) (pc := 19) dX8_needSign_19 (by decide) ?_
    refine P_iadd (pc := 20) dX8_needSign_20 ?_
    obtain ⟨⟨v9, e9⟩, k⟩ := k
    refine S8_3 (pc := 21) dX8_needSign_21 l_X8_31 e9 ?_
    clear e9
    refine P_iconst (v := (1 : Int32)) (pc := 24) dX8_needSign_24 (by decide) ?_
    exact R_ireturn (pc := 25) dX8_needSign_25 rfl rfl k
  · have k := k.2 c
    refine P_aload_n (pc := 8) dX8_needSign_8 rfl ?_
    refine P_iconst (v := (1 : Int32)) (pc := 9) dX8_needSign_9 (by decide) ?_
    obtain ⟨⟨w9, e9⟩, d2, nc, ns, rc8, rs9, Qc, g1, rfl, rfl, g2, kk, kx⟩ := k
    refine P_callV (ci := 8) (k := 0) (id := l0) (q := (RX8, TX8, 7)) (As := [vI (1 : Int32)]) (st := []) (pc := 10) dX8_needSign_10 mk_X8_refuse l_X8_44 im_X8_refuse se_X8_refuse ini_X8 rfl g1 (Nat.le_of_ble_eq_true rfl) rfl rfl (by decide) e9 rfl g2 (fun v9 h9 q9 => ?_) (fun E h9 q9 => PX_out rfl (kx E h9 q9))
    obtain ⟨x10, rfl, k⟩ := kk v9 h9 q9
    clear kk kx g1 g2 q9
    exact R_ireturn (pc := 13) dX8_needSign_13 rfl k.1 k.2
-- X8_needEnd needEnd()Z
theorem dX8_needEnd_0 : decode cX8_needEnd 0 = .ok (.aload_n 0, 1) := by decide +kernel
theorem dX8_needEnd_1 : decode cX8_needEnd 1 = .ok (.invokevirtual 40, 3) := by decide +kernel
theorem dX8_needEnd_4 : decode cX8_needEnd 4 = .ok (.iconst (-1), 1) := by decide +kernel
theorem dX8_needEnd_5 : decode cX8_needEnd 5 = .ok (.if_icmp .eq 11, 3) := by decide +kernel
theorem dX8_needEnd_8 : decode cX8_needEnd 8 = .ok (.aload_n 0, 1) := by decide +kernel
theorem dX8_needEnd_9 : decode cX8_needEnd 9 = .ok (.iconst 1, 1) := by decide +kernel
theorem dX8_needEnd_10 : decode cX8_needEnd 10 = .ok (.invokevirtual 44, 3) := by decide +kernel
theorem dX8_needEnd_13 : decode cX8_needEnd 13 = .ok (.ifCond .eq 7, 3) := by decide +kernel
theorem dX8_needEnd_16 : decode cX8_needEnd 16 = .ok (.iconst 1, 1) := by decide +kernel
theorem dX8_needEnd_17 : decode cX8_needEnd 17 = .ok (.goto 4, 3) := by decide +kernel
theorem dX8_needEnd_20 : decode cX8_needEnd 20 = .ok (.iconst 0, 1) := by decide +kernel
theorem dX8_needEnd_21 : decode cX8_needEnd 21 = .ok (.ireturn, 1) := by decide +kernel
theorem r_X8_needEnd_0 {d rc rs : Nat} {Q : PO → PH → Prop} {h : PH} {l0 : Nat}
    (k : isO h 10800 l0 ∧ cl d rc rs M_X8_peek [vR (800, l0)] h (kI fun x4 h1 rc2 rs3 => br (x4 = (-1 : Int32)) (Q (.inl (some (vI (1 : Int32)))) h1) (isO h1 10800 l0 ∧ cl d rc2 rs3 M_X8_refuse [vR (800, l0), vI (1 : Int32)] h1 (kI fun x8 h5 rc6 rs7 => br (x8 = 0) (Q (.inl (some (vI (0 : Int32)))) h5) (Q (.inl (some (vI (1 : Int32)))) h5)) (fun E h5 rc6 rs7 => Q (.inr E) h5))) (fun E h1 rc2 rs3 => Q (.inr E) h1)) :
    PW d M_X8_needEnd Q rc rs 0 [vR (800, l0)] [] h := by
  refine P_aload_n (pc := 0) dX8_needEnd_0 rfl ?_
  obtain ⟨⟨w9, e9⟩, d2, nc, ns, rc2, rs3, Qc, g1, rfl, rfl, g2, kk, kx⟩ := k
  refine P_callV (ci := 8) (k := 0) (id := l0) (q := (RX8, TX8, 7)) (As := []) (st := []) (pc := 1) dX8_needEnd_1 mk_X8_peek l_X8_40 im_X8_peek se_X8_peek ini_X8 rfl g1 (Nat.le_of_ble_eq_true rfl) rfl rfl (by decide) e9 rfl g2 (fun v9 h9 q9 => ?_) (fun E h9 q9 => PX_out rfl (kx E h9 q9))
  obtain ⟨x4, rfl, k⟩ := kk v9 h9 q9
  clear kk kx g1 g2 q9
  refine P_iconst (v := (-1 : Int32)) (pc := 4) dX8_needEnd_4 (by decide) ?_
  refine P_icmp_eq (tgt := 16) (pc := 5) dX8_needEnd_5 (by decide) (fun c => ?_) (fun c => ?_)
  · have k := k.1 c
    refine P_iconst (v := (1 : Int32)) (pc := 16) dX8_needEnd_16 (by decide) ?_
    refine P_goto (tgt := 21) (pc := 17) dX8_needEnd_17 (by decide) ?_
    exact R_ireturn (pc := 21) dX8_needEnd_21 rfl rfl k
  · have k := k.2 c
    refine P_aload_n (pc := 8) dX8_needEnd_8 rfl ?_
    refine P_iconst (v := (1 : Int32)) (pc := 9) dX8_needEnd_9 (by decide) ?_
    obtain ⟨⟨w9, e9⟩, d2, nc, ns, rc6, rs7, Qc, g1, rfl, rfl, g2, kk, kx⟩ := k
    refine P_callV (ci := 8) (k := 0) (id := l0) (q := (RX8, TX8, 7)) (As := [vI (1 : Int32)]) (st := []) (pc := 10) dX8_needEnd_10 mk_X8_refuse l_X8_44 im_X8_refuse se_X8_refuse ini_X8 rfl g1 (Nat.le_of_ble_eq_true rfl) rfl rfl (by decide) e9 rfl g2 (fun v9 h9 q9 => ?_) (fun E h9 q9 => PX_out rfl (kx E h9 q9))
    obtain ⟨x8, rfl, k⟩ := kk v9 h9 q9
    clear kk kx g1 g2 q9
    refine P_if_eq (tgt := 20) (pc := 13) dX8_needEnd_13 (by decide) (fun c => ?_) (fun c => ?_)
    · have k := k.1 c
      refine P_iconst (v := (0 : Int32)) (pc := 20) dX8_needEnd_20 (by decide) ?_
      exact R_ireturn (pc := 21) dX8_needEnd_21 rfl rfl k
    · have k := k.2 c
      refine P_iconst (v := (1 : Int32)) (pc := 16) dX8_needEnd_16 (by decide) ?_
      refine P_goto (tgt := 21) (pc := 17) dX8_needEnd_17 (by decide) ?_
      exact R_ireturn (pc := 21) dX8_needEnd_21 rfl rfl k
-- X8_takeWord takeWord(Ljava/lang/String;)Z
theorem dX8_takeWord_0 : decode cX8_takeWord 0 = .ok (.aload_n 0, 1) := by decide +kernel
theorem dX8_takeWord_1 : decode cX8_takeWord 1 = .ok (.invokevirtual 40, 3) := by decide +kernel
theorem dX8_takeWord_4 : decode cX8_takeWord 4 = .ok (.pop, 1) := by decide +kernel
theorem dX8_takeWord_5 : decode cX8_takeWord 5 = .ok (.aload_n 1, 1) := by decide +kernel
theorem dX8_takeWord_6 : decode cX8_takeWord 6 = .ok (.invokevirtual 48, 3) := by decide +kernel
theorem dX8_takeWord_9 : decode cX8_takeWord 9 = .ok (.istore_n 2, 1) := by decide +kernel
theorem dX8_takeWord_10 : decode cX8_takeWord 10 = .ok (.iload_n 2, 1) := by decide +kernel
theorem dX8_takeWord_11 : decode cX8_takeWord 11 = .ok (.aload_n 0, 1) := by decide +kernel
theorem dX8_takeWord_12 : decode cX8_takeWord 12 = .ok (.getfield 28, 3) := by decide +kernel
theorem dX8_takeWord_15 : decode cX8_takeWord 15 = .ok (.aload_n 0, 1) := by decide +kernel
theorem dX8_takeWord_16 : decode cX8_takeWord 16 = .ok (.getfield 31, 3) := by decide +kernel
theorem dX8_takeWord_19 : decode cX8_takeWord 19 = .ok (.isub, 1) := by decide +kernel
theorem dX8_takeWord_20 : decode cX8_takeWord 20 = .ok (.if_icmp .le 5, 3) := by decide +kernel
theorem dX8_takeWord_23 : decode cX8_takeWord 23 = .ok (.iconst 0, 1) := by decide +kernel
theorem dX8_takeWord_24 : decode cX8_takeWord 24 = .ok (.ireturn, 1) := by decide +kernel
theorem dX8_takeWord_25 : decode cX8_takeWord 25 = .ok (.iconst 0, 1) := by decide +kernel
theorem dX8_takeWord_26 : decode cX8_takeWord 26 = .ok (.istore_n 3, 1) := by decide +kernel
theorem dX8_takeWord_27 : decode cX8_takeWord 27 = .ok (.iload_n 3, 1) := by decide +kernel
theorem dX8_takeWord_28 : decode cX8_takeWord 28 = .ok (.iload_n 2, 1) := by decide +kernel
theorem dX8_takeWord_29 : decode cX8_takeWord 29 = .ok (.if_icmp .ge 30, 3) := by decide +kernel
theorem dX8_takeWord_32 : decode cX8_takeWord 32 = .ok (.aload_n 0, 1) := by decide +kernel
theorem dX8_takeWord_33 : decode cX8_takeWord 33 = .ok (.getfield 9, 3) := by decide +kernel
theorem dX8_takeWord_36 : decode cX8_takeWord 36 = .ok (.aload_n 0, 1) := by decide +kernel
theorem dX8_takeWord_37 : decode cX8_takeWord 37 = .ok (.getfield 31, 3) := by decide +kernel
theorem dX8_takeWord_40 : decode cX8_takeWord 40 = .ok (.iload_n 3, 1) := by decide +kernel
theorem dX8_takeWord_41 : decode cX8_takeWord 41 = .ok (.iadd, 1) := by decide +kernel
theorem dX8_takeWord_42 : decode cX8_takeWord 42 = .ok (.baload, 1) := by decide +kernel
theorem dX8_takeWord_43 : decode cX8_takeWord 43 = .ok (.aload_n 1, 1) := by decide +kernel
theorem dX8_takeWord_44 : decode cX8_takeWord 44 = .ok (.iload_n 3, 1) := by decide +kernel
theorem dX8_takeWord_45 : decode cX8_takeWord 45 = .ok (.invokevirtual 53, 3) := by decide +kernel
theorem dX8_takeWord_48 : decode cX8_takeWord 48 = .ok (.if_icmp .eq 5, 3) := by decide +kernel
theorem dX8_takeWord_51 : decode cX8_takeWord 51 = .ok (.iconst 0, 1) := by decide +kernel
theorem dX8_takeWord_52 : decode cX8_takeWord 52 = .ok (.ireturn, 1) := by decide +kernel
theorem dX8_takeWord_53 : decode cX8_takeWord 53 = .ok (.iinc 3 1, 3) := by decide +kernel
theorem dX8_takeWord_56 : decode cX8_takeWord 56 = .ok (.goto (-29), 3) := by decide +kernel
theorem dX8_takeWord_59 : decode cX8_takeWord 59 = .ok (.aload_n 0, 1) := by decide +kernel
theorem dX8_takeWord_60 : decode cX8_takeWord 60 = .ok (.getfield 31, 3) := by decide +kernel
theorem dX8_takeWord_63 : decode cX8_takeWord 63 = .ok (.iload_n 2, 1) := by decide +kernel
theorem dX8_takeWord_64 : decode cX8_takeWord 64 = .ok (.iadd, 1) := by decide +kernel
theorem dX8_takeWord_65 : decode cX8_takeWord 65 = .ok (.istore_n 3, 1) := by decide +kernel
theorem dX8_takeWord_66 : decode cX8_takeWord 66 = .ok (.iload_n 3, 1) := by decide +kernel
theorem dX8_takeWord_67 : decode cX8_takeWord 67 = .ok (.aload_n 0, 1) := by decide +kernel
theorem dX8_takeWord_68 : decode cX8_takeWord 68 = .ok (.getfield 28, 3) := by decide +kernel
theorem dX8_takeWord_71 : decode cX8_takeWord 71 = .ok (.if_icmp .ge 27, 3) := by decide +kernel
theorem dX8_takeWord_74 : decode cX8_takeWord 74 = .ok (.aload_n 0, 1) := by decide +kernel
theorem dX8_takeWord_75 : decode cX8_takeWord 75 = .ok (.getfield 9, 3) := by decide +kernel
theorem dX8_takeWord_78 : decode cX8_takeWord 78 = .ok (.iload_n 3, 1) := by decide +kernel
theorem dX8_takeWord_79 : decode cX8_takeWord 79 = .ok (.baload, 1) := by decide +kernel
theorem dX8_takeWord_80 : decode cX8_takeWord 80 = .ok (.bipush 97, 2) := by decide +kernel
theorem dX8_takeWord_82 : decode cX8_takeWord 82 = .ok (.if_icmp .lt 16, 3) := by decide +kernel
theorem dX8_takeWord_85 : decode cX8_takeWord 85 = .ok (.aload_n 0, 1) := by decide +kernel
theorem dX8_takeWord_86 : decode cX8_takeWord 86 = .ok (.getfield 9, 3) := by decide +kernel
theorem dX8_takeWord_89 : decode cX8_takeWord 89 = .ok (.iload_n 3, 1) := by decide +kernel
theorem dX8_takeWord_90 : decode cX8_takeWord 90 = .ok (.baload, 1) := by decide +kernel
theorem dX8_takeWord_91 : decode cX8_takeWord 91 = .ok (.bipush 122, 2) := by decide +kernel
theorem dX8_takeWord_93 : decode cX8_takeWord 93 = .ok (.if_icmp .gt 5, 3) := by decide +kernel
theorem dX8_takeWord_96 : decode cX8_takeWord 96 = .ok (.iconst 0, 1) := by decide +kernel
theorem dX8_takeWord_97 : decode cX8_takeWord 97 = .ok (.ireturn, 1) := by decide +kernel
theorem dX8_takeWord_98 : decode cX8_takeWord 98 = .ok (.aload_n 0, 1) := by decide +kernel
theorem dX8_takeWord_99 : decode cX8_takeWord 99 = .ok (.iload_n 3, 1) := by decide +kernel
theorem dX8_takeWord_100 : decode cX8_takeWord 100 = .ok (.putfield 31, 3) := by decide +kernel
theorem dX8_takeWord_103 : decode cX8_takeWord 103 = .ok (.iconst 1, 1) := by decide +kernel
theorem dX8_takeWord_104 : decode cX8_takeWord 104 = .ok (.ireturn, 1) := by decide +kernel
theorem r_X8_takeWord_0 {d rc rs : Nat} {Q : PO → PH → Prop} {h : PH} {l0 : Nat} {l1 : Nat} (hl1 : l1 < 21)
    (k : isO h 10800 l0 ∧ cl d rc rs M_X8_peek [vR (800, l0)] h (kI fun x4 h1 rc2 rs3 => cl d rc2 rs3 M_J0_length_8abf5 [vR (1200, l1)] h1 (kI fun x8 h5 rc6 rs7 => gI h5 (10802, l0) fun x9 => gI h5 (10803, l0) fun x10 => br ((x9 - x10) < x8) (Q (.inl (some (vI (0 : Int32)))) h5) (PW d M_X8_takeWord Q rc6 rs7 27 [vR (800, l0), vR (1200, l1), vI x8, vI (0 : Int32)] [] h5)) (fun E h5 rc6 rs7 => Q (.inr E) h5)) (fun E h1 rc2 rs3 => Q (.inr E) h1)) :
    PW d M_X8_takeWord Q rc rs 0 [vR (800, l0), vR (1200, l1), vU, vU] [] h := by
  refine P_aload_n (pc := 0) dX8_takeWord_0 rfl ?_
  obtain ⟨⟨w9, e9⟩, d2, nc, ns, rc2, rs3, Qc, g1, rfl, rfl, g2, kk, kx⟩ := k
  refine P_callV (ci := 8) (k := 0) (id := l0) (q := (RX8, TX8, 7)) (As := []) (st := []) (pc := 1) dX8_takeWord_1 mk_X8_peek l_X8_40 im_X8_peek se_X8_peek ini_X8 rfl g1 (Nat.le_of_ble_eq_true rfl) rfl rfl (by decide) e9 rfl g2 (fun v9 h9 q9 => ?_) (fun E h9 q9 => PX_out rfl (kx E h9 q9))
  obtain ⟨x4, rfl, k⟩ := kk v9 h9 q9
  clear kk kx g1 g2 q9
  refine P_pop (pc := 4) dX8_takeWord_4 (fun _ => rfl) ?_
  refine P_aload_n (pc := 5) dX8_takeWord_5 rfl ?_
  obtain ⟨d2, nc, ns, rc6, rs7, Qc, g1, rfl, rfl, g2, kk, kx⟩ := k
  refine P_callVS (i := l1) (As := []) (st := []) (pc := 6) dX8_takeWord_6 mk_J0_length_8abf5 l_X8_48 im_J0_length_8abf5 se_J0_length_8abf5 ini_J0 rfl g1 (Nat.le_of_ble_eq_true rfl) rfl (by assumption) rfl g2 (fun v9 h9 q9 => ?_) (fun E h9 q9 => PX_out rfl (kx E h9 q9))
  obtain ⟨x8, rfl, k⟩ := kk v9 h9 q9
  clear kk kx g1 g2 q9
  refine P_istore_n (pc := 9) dX8_takeWord_9 (by decide) (Or.inr (by intro z e9; cases e9)) rfl ?_
  refine P_iload_n (pc := 10) dX8_takeWord_10 rfl ?_
  refine P_aload_n (pc := 11) dX8_takeWord_11 rfl ?_
  obtain ⟨x9, e9, k⟩ := k
  refine G8_2 (pc := 12) dX8_takeWord_12 l_X8_28 e9 ?_
  clear e9
  refine P_aload_n (pc := 15) dX8_takeWord_15 rfl ?_
  obtain ⟨x10, e9, k⟩ := k
  refine G8_3 (pc := 16) dX8_takeWord_16 l_X8_31 e9 ?_
  clear e9
  refine P_isub (pc := 19) dX8_takeWord_19 ?_
  refine P_icmp_le (tgt := 25) (pc := 20) dX8_takeWord_20 (by decide) (fun c => ?_) (fun c => ?_)
  · have k := k.2 (Int32.not_lt.mpr c)
    refine P_iconst (v := (0 : Int32)) (pc := 25) dX8_takeWord_25 (by decide) ?_
    refine P_istore_n (pc := 26) dX8_takeWord_26 (by decide) (Or.inr (by intro z e9; cases e9)) rfl ?_
    exact k
  · have k := k.1 (Int32.not_le.mp c)
    refine P_iconst (v := (0 : Int32)) (pc := 23) dX8_takeWord_23 (by decide) ?_
    exact R_ireturn (pc := 24) dX8_takeWord_24 rfl rfl k
theorem r_X8_takeWord_27 {d rc rs : Nat} {Q : PO → PH → Prop} {h : PH} {l0 : Nat} {l1 : Nat} {l2 : Int32} {l3 : Int32} (hl1 : l1 < 21)
    (k : br (l3 < l2) (gA h (10800, l0) fun a10 => gI h (10803, l0) fun x11 => xB h a10 (x11 + l3) fun x12 => cl d rc rs M_J0_charAt_5068e [vR (1200, l1), vI l3] h (kI fun x16 h13 rc14 rs15 => br (x12 = x16) (PW d M_X8_takeWord Q rc14 rs15 27 [vR (800, l0), vR (1200, l1), vI l2, vI (l3 + (1 : Int32))] [] h13) (Q (.inl (some (vI (0 : Int32)))) h13)) (fun E h13 rc14 rs15 => Q (.inr E) h13)) (gI h (10803, l0) fun x1 => gI h (10802, l0) fun x2 => br ((x1 + l2) < x2) (gA h (10800, l0) fun a4 => xB h a4 (x1 + l2) fun x5 => br (x5 < (97 : Int32)) (sF h (10803, l0) (vI (x1 + l2)) fun h6 => Q (.inl (some (vI (1 : Int32)))) h6) (gA h (10800, l0) fun a7 => xB h a7 (x1 + l2) fun x8 => br ((122 : Int32) < x8) (sF h (10803, l0) (vI (x1 + l2)) fun h9 => Q (.inl (some (vI (1 : Int32)))) h9) (Q (.inl (some (vI (0 : Int32)))) h))) (sF h (10803, l0) (vI (x1 + l2)) fun h3 => Q (.inl (some (vI (1 : Int32)))) h3))) :
    PW d M_X8_takeWord Q rc rs 27 [vR (800, l0), vR (1200, l1), vI l2, vI l3] [] h := by
  refine P_iload_n (pc := 27) dX8_takeWord_27 rfl ?_
  refine P_iload_n (pc := 28) dX8_takeWord_28 rfl ?_
  refine P_icmp_ge (tgt := 59) (pc := 29) dX8_takeWord_29 (by decide) (fun c => ?_) (fun c => ?_)
  · have k := k.2 (Int32.not_lt.mpr c)
    refine P_aload_n (pc := 59) dX8_takeWord_59 rfl ?_
    obtain ⟨x1, e9, k⟩ := k
    refine G8_3 (pc := 60) dX8_takeWord_60 l_X8_31 e9 ?_
    clear e9
    refine P_iload_n (pc := 63) dX8_takeWord_63 rfl ?_
    refine P_iadd (pc := 64) dX8_takeWord_64 ?_
    refine P_istore_n (pc := 65) dX8_takeWord_65 (by decide) (Or.inr (by intro z e9; cases e9)) rfl ?_
    refine P_iload_n (pc := 66) dX8_takeWord_66 rfl ?_
    refine P_aload_n (pc := 67) dX8_takeWord_67 rfl ?_
    obtain ⟨x2, e9, k⟩ := k
    refine G8_2 (pc := 68) dX8_takeWord_68 l_X8_28 e9 ?_
    clear e9
    refine P_icmp_ge (tgt := 98) (pc := 71) dX8_takeWord_71 (by decide) (fun c => ?_) (fun c => ?_)
    · have k := k.2 (Int32.not_lt.mpr c)
      refine P_aload_n (pc := 98) dX8_takeWord_98 rfl ?_
      refine P_iload_n (pc := 99) dX8_takeWord_99 rfl ?_
      obtain ⟨⟨v9, e9⟩, k⟩ := k
      refine S8_3 (pc := 100) dX8_takeWord_100 l_X8_31 e9 ?_
      clear e9
      refine P_iconst (v := (1 : Int32)) (pc := 103) dX8_takeWord_103 (by decide) ?_
      exact R_ireturn (pc := 104) dX8_takeWord_104 rfl rfl k
    · have k := k.1 (Int32.not_le.mp c)
      refine P_aload_n (pc := 74) dX8_takeWord_74 rfl ?_
      obtain ⟨a4, e9, k⟩ := k
      refine G8_0 (pc := 75) dX8_takeWord_75 l_X8_9 e9 ?_
      clear e9
      refine P_iload_n (pc := 78) dX8_takeWord_78 rfl ?_
      obtain ⟨n9, f9, e9, i9, k⟩ := k
      refine P_bald (pc := 79) dX8_takeWord_79 e9 i9 ?_
      clear e9
      generalize f9 (Int32.toNatClampNeg (x1 + l2)) = x5 at k ⊢
      refine P_bipush (v := (97 : Int32)) (pc := 80) dX8_takeWord_80 (by decide) ?_
      refine P_icmp_lt (tgt := 98) (pc := 82) dX8_takeWord_82 (by decide) (fun c => ?_) (fun c => ?_)
      · have k := k.1 c
        refine P_aload_n (pc := 98) dX8_takeWord_98 rfl ?_
        refine P_iload_n (pc := 99) dX8_takeWord_99 rfl ?_
        obtain ⟨⟨v9, e9⟩, k⟩ := k
        refine S8_3 (pc := 100) dX8_takeWord_100 l_X8_31 e9 ?_
        clear e9
        refine P_iconst (v := (1 : Int32)) (pc := 103) dX8_takeWord_103 (by decide) ?_
        exact R_ireturn (pc := 104) dX8_takeWord_104 rfl rfl k
      · have k := k.2 c
        refine P_aload_n (pc := 85) dX8_takeWord_85 rfl ?_
        obtain ⟨a7, e9, k⟩ := k
        refine G8_0 (pc := 86) dX8_takeWord_86 l_X8_9 e9 ?_
        clear e9
        refine P_iload_n (pc := 89) dX8_takeWord_89 rfl ?_
        obtain ⟨n9, f9, e9, i9, k⟩ := k
        refine P_bald (pc := 90) dX8_takeWord_90 e9 i9 ?_
        clear e9
        generalize f9 (Int32.toNatClampNeg (x1 + l2)) = x8 at k ⊢
        refine P_bipush (v := (122 : Int32)) (pc := 91) dX8_takeWord_91 (by decide) ?_
        refine P_icmp_gt (tgt := 98) (pc := 93) dX8_takeWord_93 (by decide) (fun c => ?_) (fun c => ?_)
        · have k := k.1 c
          refine P_aload_n (pc := 98) dX8_takeWord_98 rfl ?_
          refine P_iload_n (pc := 99) dX8_takeWord_99 rfl ?_
          obtain ⟨⟨v9, e9⟩, k⟩ := k
          refine S8_3 (pc := 100) dX8_takeWord_100 l_X8_31 e9 ?_
          clear e9
          refine P_iconst (v := (1 : Int32)) (pc := 103) dX8_takeWord_103 (by decide) ?_
          exact R_ireturn (pc := 104) dX8_takeWord_104 rfl rfl k
        · have k := k.2 c
          refine P_iconst (v := (0 : Int32)) (pc := 96) dX8_takeWord_96 (by decide) ?_
          exact R_ireturn (pc := 97) dX8_takeWord_97 rfl rfl k
  · have k := k.1 (Int32.not_le.mp c)
    refine P_aload_n (pc := 32) dX8_takeWord_32 rfl ?_
    obtain ⟨a10, e9, k⟩ := k
    refine G8_0 (pc := 33) dX8_takeWord_33 l_X8_9 e9 ?_
    clear e9
    refine P_aload_n (pc := 36) dX8_takeWord_36 rfl ?_
    obtain ⟨x11, e9, k⟩ := k
    refine G8_3 (pc := 37) dX8_takeWord_37 l_X8_31 e9 ?_
    clear e9
    refine P_iload_n (pc := 40) dX8_takeWord_40 rfl ?_
    refine P_iadd (pc := 41) dX8_takeWord_41 ?_
    obtain ⟨n9, f9, e9, i9, k⟩ := k
    refine P_bald (pc := 42) dX8_takeWord_42 e9 i9 ?_
    clear e9
    generalize f9 (Int32.toNatClampNeg (x11 + l3)) = x12 at k ⊢
    refine P_aload_n (pc := 43) dX8_takeWord_43 rfl ?_
    refine P_iload_n (pc := 44) dX8_takeWord_44 rfl ?_
    obtain ⟨d2, nc, ns, rc14, rs15, Qc, g1, rfl, rfl, g2, kk, kx⟩ := k
    refine P_callVS (i := l1) (As := [vI l3]) (st := [vI x12]) (pc := 45) dX8_takeWord_45 mk_J0_charAt_5068e l_X8_53 im_J0_charAt_5068e se_J0_charAt_5068e ini_J0 rfl g1 (Nat.le_of_ble_eq_true rfl) rfl (by assumption) rfl g2 (fun v9 h9 q9 => ?_) (fun E h9 q9 => PX_out rfl (kx E h9 q9))
    obtain ⟨x16, rfl, k⟩ := kk v9 h9 q9
    clear kk kx g1 g2 q9
    refine P_icmp_eq (tgt := 53) (pc := 48) dX8_takeWord_48 (by decide) (fun c => ?_) (fun c => ?_)
    · have k := k.1 c
      refine P_iinc (v := l3 + (1 : Int32)) (pc := 53) dX8_takeWord_53 (by decide) rfl rfl (Or.inr (by intro z e9; cases e9)) rfl ?_
      refine P_goto (tgt := 27) (pc := 56) dX8_takeWord_56 (by decide) ?_
      exact k
    · have k := k.2 c
      refine P_iconst (v := (0 : Int32)) (pc := 51) dX8_takeWord_51 (by decide) ?_
      exact R_ireturn (pc := 52) dX8_takeWord_52 rfl rfl k
-- X8_number number(II)I
theorem dX8_number_0 : decode cX8_number 0 = .ok (.aload_n 0, 1) := by decide +kernel
theorem dX8_number_1 : decode cX8_number 1 = .ok (.invokevirtual 40, 3) := by decide +kernel
theorem dX8_number_4 : decode cX8_number 4 = .ok (.istore_n 3, 1) := by decide +kernel
theorem dX8_number_5 : decode cX8_number 5 = .ok (.iload_n 3, 1) := by decide +kernel
theorem dX8_number_6 : decode cX8_number 6 = .ok (.bipush 48, 2) := by decide +kernel
theorem dX8_number_8 : decode cX8_number 8 = .ok (.if_icmp .lt 9, 3) := by decide +kernel
theorem dX8_number_11 : decode cX8_number 11 = .ok (.iload_n 3, 1) := by decide +kernel
theorem dX8_number_12 : decode cX8_number 12 = .ok (.bipush 57, 2) := by decide +kernel
theorem dX8_number_14 : decode cX8_number 14 = .ok (.if_icmp .le 11, 3) := by decide +kernel
theorem dX8_number_17 : decode cX8_number 17 = .ok (.aload_n 0, 1) := by decide +kernel
theorem dX8_number_18 : decode cX8_number 18 = .ok (.iconst 1, 1) := by decide +kernel
theorem dX8_number_19 : decode cX8_number 19 = .ok (.invokevirtual 44, 3) := by decide +kernel
theorem dX8_number_22 : decode cX8_number 22 = .ok (.pop, 1) := by decide +kernel
theorem dX8_number_23 : decode cX8_number 23 = .ok (.iconst (-1), 1) := by decide +kernel
theorem dX8_number_24 : decode cX8_number 24 = .ok (.ireturn, 1) := by decide +kernel
theorem dX8_number_25 : decode cX8_number 25 = .ok (.iconst 0, 1) := by decide +kernel
theorem dX8_number_26 : decode cX8_number 26 = .ok (.istore 4, 2) := by decide +kernel
theorem dX8_number_28 : decode cX8_number 28 = .ok (.aload_n 0, 1) := by decide +kernel
theorem dX8_number_29 : decode cX8_number 29 = .ok (.getfield 31, 3) := by decide +kernel
theorem dX8_number_32 : decode cX8_number 32 = .ok (.aload_n 0, 1) := by decide +kernel
theorem dX8_number_33 : decode cX8_number 33 = .ok (.getfield 28, 3) := by decide +kernel
theorem dX8_number_36 : decode cX8_number 36 = .ok (.if_icmp .ge 70, 3) := by decide +kernel
theorem dX8_number_39 : decode cX8_number 39 = .ok (.aload_n 0, 1) := by decide +kernel
theorem dX8_number_40 : decode cX8_number 40 = .ok (.getfield 9, 3) := by decide +kernel
theorem dX8_number_43 : decode cX8_number 43 = .ok (.aload_n 0, 1) := by decide +kernel
theorem dX8_number_44 : decode cX8_number 44 = .ok (.getfield 31, 3) := by decide +kernel
theorem dX8_number_47 : decode cX8_number 47 = .ok (.baload, 1) := by decide +kernel
theorem dX8_number_48 : decode cX8_number 48 = .ok (.bipush 48, 2) := by decide +kernel
theorem dX8_number_50 : decode cX8_number 50 = .ok (.if_icmp .lt 56, 3) := by decide +kernel
theorem dX8_number_53 : decode cX8_number 53 = .ok (.aload_n 0, 1) := by decide +kernel
theorem dX8_number_54 : decode cX8_number 54 = .ok (.getfield 9, 3) := by decide +kernel
theorem dX8_number_57 : decode cX8_number 57 = .ok (.aload_n 0, 1) := by decide +kernel
theorem dX8_number_58 : decode cX8_number 58 = .ok (.getfield 31, 3) := by decide +kernel
theorem dX8_number_61 : decode cX8_number 61 = .ok (.baload, 1) := by decide +kernel
theorem dX8_number_62 : decode cX8_number 62 = .ok (.bipush 57, 2) := by decide +kernel
theorem dX8_number_64 : decode cX8_number 64 = .ok (.if_icmp .gt 42, 3) := by decide +kernel
theorem dX8_number_67 : decode cX8_number 67 = .ok (.iload 4, 2) := by decide +kernel
theorem dX8_number_69 : decode cX8_number 69 = .ok (.bipush 10, 2) := by decide +kernel
theorem dX8_number_71 : decode cX8_number 71 = .ok (.imul, 1) := by decide +kernel
theorem dX8_number_72 : decode cX8_number 72 = .ok (.aload_n 0, 1) := by decide +kernel
theorem dX8_number_73 : decode cX8_number 73 = .ok (.getfield 9, 3) := by decide +kernel
theorem dX8_number_76 : decode cX8_number 76 = .ok (.aload_n 0, 1) := by decide +kernel
theorem dX8_number_77 : decode cX8_number 77 = .ok (.getfield 31, 3) := by decide +kernel
theorem dX8_number_80 : decode cX8_number 80 = .ok (.baload, 1) := by decide +kernel
theorem dX8_number_81 : decode cX8_number 81 = .ok (.iadd, 1) := by decide +kernel
theorem dX8_number_82 : decode cX8_number 82 = .ok (.bipush 48, 2) := by decide +kernel
theorem dX8_number_84 : decode cX8_number 84 = .ok (.isub, 1) := by decide +kernel
theorem dX8_number_85 : decode cX8_number 85 = .ok (.sipush 10000, 3) := by decide +kernel
theorem dX8_number_88 : decode cX8_number 88 = .ok (.invokestatic 22, 3) := by decide +kernel
theorem dX8_number_91 : decode cX8_number 91 = .ok (.istore 4, 2) := by decide +kernel
theorem dX8_number_93 : decode cX8_number 93 = .ok (.aload_n 0, 1) := by decide +kernel
theorem dX8_number_94 : decode cX8_number 94 = .ok (.dup, 1) := by decide +kernel
theorem dX8_number_95 : decode cX8_number 95 = .ok (.getfield 31, 3) := by decide +kernel
theorem dX8_number_98 : decode cX8_number 98 = .ok (.iconst 1, 1) := by decide +kernel
theorem dX8_number_99 : decode cX8_number 99 = .ok (.iadd, 1) := by decide +kernel
theorem dX8_number_100 : decode cX8_number 100 = .ok (.putfield 31, 3) := by decide +kernel
theorem dX8_number_103 : decode cX8_number 103 = .ok (.goto (-75), 3) := by decide +kernel
theorem dX8_number_106 : decode cX8_number 106 = .ok (.iload 4, 2) := by decide +kernel
theorem dX8_number_108 : decode cX8_number 108 = .ok (.iload_n 1, 1) := by decide +kernel
theorem dX8_number_109 : decode cX8_number 109 = .ok (.if_icmp .lt 9, 3) := by decide +kernel
theorem dX8_number_112 : decode cX8_number 112 = .ok (.iload 4, 2) := by decide +kernel
theorem dX8_number_114 : decode cX8_number 114 = .ok (.iload_n 2, 1) := by decide +kernel
theorem dX8_number_115 : decode cX8_number 115 = .ok (.if_icmp .le 11, 3) := by decide +kernel
theorem dX8_number_118 : decode cX8_number 118 = .ok (.aload_n 0, 1) := by decide +kernel
theorem dX8_number_119 : decode cX8_number 119 = .ok (.iconst 2, 1) := by decide +kernel
theorem dX8_number_120 : decode cX8_number 120 = .ok (.invokevirtual 44, 3) := by decide +kernel
theorem dX8_number_123 : decode cX8_number 123 = .ok (.pop, 1) := by decide +kernel
theorem dX8_number_124 : decode cX8_number 124 = .ok (.iconst (-1), 1) := by decide +kernel
theorem dX8_number_125 : decode cX8_number 125 = .ok (.ireturn, 1) := by decide +kernel
theorem dX8_number_126 : decode cX8_number 126 = .ok (.iload 4, 2) := by decide +kernel
theorem dX8_number_128 : decode cX8_number 128 = .ok (.ireturn, 1) := by decide +kernel
theorem r_X8_number_0 {d rc rs : Nat} {Q : PO → PH → Prop} {h : PH} {l0 : Nat} {l1 : Int32} {l2 : Int32}
    (k : isO h 10800 l0 ∧ cl d rc rs M_X8_peek [vR (800, l0)] h (kI fun x4 h1 rc2 rs3 => br (x4 < (48 : Int32)) (isO h1 10800 l0 ∧ cl d rc2 rs3 M_X8_refuse [vR (800, l0), vI (1 : Int32)] h1 (kI fun x8 h5 rc6 rs7 => Q (.inl (some (vI (-1 : Int32)))) h5) (fun E h5 rc6 rs7 => Q (.inr E) h5)) (br ((57 : Int32) < x4) (isO h1 10800 l0 ∧ cl d rc2 rs3 M_X8_refuse [vR (800, l0), vI (1 : Int32)] h1 (kI fun x12 h9 rc10 rs11 => Q (.inl (some (vI (-1 : Int32)))) h9) (fun E h9 rc10 rs11 => Q (.inr E) h9)) (PW d M_X8_number Q rc2 rs3 28 [vR (800, l0), vI l1, vI l2, vU, vI (0 : Int32)] [] h1))) (fun E h1 rc2 rs3 => Q (.inr E) h1)) :
    PW d M_X8_number Q rc rs 0 [vR (800, l0), vI l1, vI l2, vU, vU] [] h := by
  refine P_aload_n (pc := 0) dX8_number_0 rfl ?_
  obtain ⟨⟨w9, e9⟩, d2, nc, ns, rc2, rs3, Qc, g1, rfl, rfl, g2, kk, kx⟩ := k
  refine P_callV (ci := 8) (k := 0) (id := l0) (q := (RX8, TX8, 7)) (As := []) (st := []) (pc := 1) dX8_number_1 mk_X8_peek l_X8_40 im_X8_peek se_X8_peek ini_X8 rfl g1 (Nat.le_of_ble_eq_true rfl) rfl rfl (by decide) e9 rfl g2 (fun v9 h9 q9 => ?_) (fun E h9 q9 => PX_out rfl (kx E h9 q9))
  obtain ⟨x4, rfl, k⟩ := kk v9 h9 q9
  clear kk kx g1 g2 q9
  refine P_istore_n (pc := 4) dX8_number_4 (by decide) (Or.inr (by intro z e9; cases e9)) rfl ?_
  refine P_iload_n (pc := 5) dX8_number_5 rfl ?_
  refine P_bipush (v := (48 : Int32)) (pc := 6) dX8_number_6 (by decide) ?_
  refine P_icmp_lt (tgt := 17) (pc := 8) dX8_number_8 (by decide) (fun c => ?_) (fun c => ?_)
  · have k := k.1 c
    refine P_aload_n (pc := 17) dX8_number_17 rfl ?_
    refine P_iconst (v := (1 : Int32)) (pc := 18) dX8_number_18 (by decide) ?_
    obtain ⟨⟨w9, e9⟩, d2, nc, ns, rc6, rs7, Qc, g1, rfl, rfl, g2, kk, kx⟩ := k
    refine P_callV (ci := 8) (k := 0) (id := l0) (q := (RX8, TX8, 7)) (As := [vI (1 : Int32)]) (st := []) (pc := 19) dX8_number_19 mk_X8_refuse l_X8_44 im_X8_refuse se_X8_refuse ini_X8 rfl g1 (Nat.le_of_ble_eq_true rfl) rfl rfl (by decide) e9 rfl g2 (fun v9 h9 q9 => ?_) (fun E h9 q9 => PX_out rfl (kx E h9 q9))
    obtain ⟨x8, rfl, k⟩ := kk v9 h9 q9
    clear kk kx g1 g2 q9
    refine P_pop (pc := 22) dX8_number_22 (fun _ => rfl) ?_
    refine P_iconst (v := (-1 : Int32)) (pc := 23) dX8_number_23 (by decide) ?_
    exact R_ireturn (pc := 24) dX8_number_24 rfl rfl k
  · have k := k.2 c
    refine P_iload_n (pc := 11) dX8_number_11 rfl ?_
    refine P_bipush (v := (57 : Int32)) (pc := 12) dX8_number_12 (by decide) ?_
    refine P_icmp_le (tgt := 25) (pc := 14) dX8_number_14 (by decide) (fun c => ?_) (fun c => ?_)
    · have k := k.2 (Int32.not_lt.mpr c)
      refine P_iconst (v := (0 : Int32)) (pc := 25) dX8_number_25 (by decide) ?_
      refine P_istore (pc := 26) dX8_number_26 (by decide) (Or.inr (by intro z e9; cases e9)) rfl ?_
      exact P_drop (ls2 := [vR (800, l0), vI l1, vI l2, vU, vI (0 : Int32)]) (ls := [vR (800, l0), vI l1, vI l2, vI x4, vI (0 : Int32)]) ⟨Or.inr rfl, ⟨Or.inr rfl, ⟨Or.inr rfl, ⟨Or.inl rfl, ⟨Or.inr rfl, trivial⟩⟩⟩⟩⟩ k
    · have k := k.1 (Int32.not_le.mp c)
      refine P_aload_n (pc := 17) dX8_number_17 rfl ?_
      refine P_iconst (v := (1 : Int32)) (pc := 18) dX8_number_18 (by decide) ?_
      obtain ⟨⟨w9, e9⟩, d2, nc, ns, rc10, rs11, Qc, g1, rfl, rfl, g2, kk, kx⟩ := k
      refine P_callV (ci := 8) (k := 0) (id := l0) (q := (RX8, TX8, 7)) (As := [vI (1 : Int32)]) (st := []) (pc := 19) dX8_number_19 mk_X8_refuse l_X8_44 im_X8_refuse se_X8_refuse ini_X8 rfl g1 (Nat.le_of_ble_eq_true rfl) rfl rfl (by decide) e9 rfl g2 (fun v9 h9 q9 => ?_) (fun E h9 q9 => PX_out rfl (kx E h9 q9))
      obtain ⟨x12, rfl, k⟩ := kk v9 h9 q9
      clear kk kx g1 g2 q9
      refine P_pop (pc := 22) dX8_number_22 (fun _ => rfl) ?_
      refine P_iconst (v := (-1 : Int32)) (pc := 23) dX8_number_23 (by decide) ?_
      exact R_ireturn (pc := 24) dX8_number_24 rfl rfl k
theorem r_X8_number_28 {d rc rs : Nat} {Q : PO → PH → Prop} {h : PH} {l0 : Nat} {l1 : Int32} {l2 : Int32} {l4 : Int32}
    (k : gI h (10803, l0) fun x1 => gI h (10802, l0) fun x2 => br (x1 < x2) (gA h (10800, l0) fun a11 => gI h (10803, l0) fun x12 => xB h a11 x12 fun x13 => br (x13 < (48 : Int32)) (br (l4 < l1) (isO h 10800 l0 ∧ cl d rc rs M_X8_refuse [vR (800, l0), vI (2 : Int32)] h (kI fun x17 h14 rc15 rs16 => Q (.inl (some (vI (-1 : Int32)))) h14) (fun E h14 rc15 rs16 => Q (.inr E) h14)) (br (l2 < l4) (isO h 10800 l0 ∧ cl d rc rs M_X8_refuse [vR (800, l0), vI (2 : Int32)] h (kI fun x21 h18 rc19 rs20 => Q (.inl (some (vI (-1 : Int32)))) h18) (fun E h18 rc19 rs20 => Q (.inr E) h18)) (Q (.inl (some (vI l4))) h))) (gA h (10800, l0) fun a22 => gI h (10803, l0) fun x23 => xB h a22 x23 fun x24 => br ((57 : Int32) < x24) (br (l4 < l1) (isO h 10800 l0 ∧ cl d rc rs M_X8_refuse [vR (800, l0), vI (2 : Int32)] h (kI fun x28 h25 rc26 rs27 => Q (.inl (some (vI (-1 : Int32)))) h25) (fun E h25 rc26 rs27 => Q (.inr E) h25)) (br (l2 < l4) (isO h 10800 l0 ∧ cl d rc rs M_X8_refuse [vR (800, l0), vI (2 : Int32)] h (kI fun x32 h29 rc30 rs31 => Q (.inl (some (vI (-1 : Int32)))) h29) (fun E h29 rc30 rs31 => Q (.inr E) h29)) (Q (.inl (some (vI l4))) h))) (gA h (10800, l0) fun a33 => gI h (10803, l0) fun x34 => xB h a33 x34 fun x35 => cl d rc rs M_J9_min_7cf53 [vI (((l4 * (10 : Int32)) + x35) - (48 : Int32)), vI (10000 : Int32)] h (kI fun x39 h36 rc37 rs38 => gI h36 (10803, l0) fun x40 => sF h36 (10803, l0) (vI (x40 + (1 : Int32))) fun h41 => PW d M_X8_number Q rc37 rs38 28 [vR (800, l0), vI l1, vI l2, vU, vI x39] [] h41) (fun E h36 rc37 rs38 => Q (.inr E) h36)))) (br (l4 < l1) (isO h 10800 l0 ∧ cl d rc rs M_X8_refuse [vR (800, l0), vI (2 : Int32)] h (kI fun x6 h3 rc4 rs5 => Q (.inl (some (vI (-1 : Int32)))) h3) (fun E h3 rc4 rs5 => Q (.inr E) h3)) (br (l2 < l4) (isO h 10800 l0 ∧ cl d rc rs M_X8_refuse [vR (800, l0), vI (2 : Int32)] h (kI fun x10 h7 rc8 rs9 => Q (.inl (some (vI (-1 : Int32)))) h7) (fun E h7 rc8 rs9 => Q (.inr E) h7)) (Q (.inl (some (vI l4))) h)))) :
    PW d M_X8_number Q rc rs 28 [vR (800, l0), vI l1, vI l2, vU, vI l4] [] h := by
  refine P_aload_n (pc := 28) dX8_number_28 rfl ?_
  obtain ⟨x1, e9, k⟩ := k
  refine G8_3 (pc := 29) dX8_number_29 l_X8_31 e9 ?_
  clear e9
  refine P_aload_n (pc := 32) dX8_number_32 rfl ?_
  obtain ⟨x2, e9, k⟩ := k
  refine G8_2 (pc := 33) dX8_number_33 l_X8_28 e9 ?_
  clear e9
  refine P_icmp_ge (tgt := 106) (pc := 36) dX8_number_36 (by decide) (fun c => ?_) (fun c => ?_)
  · have k := k.2 (Int32.not_lt.mpr c)
    refine P_iload (pc := 106) dX8_number_106 rfl ?_
    refine P_iload_n (pc := 108) dX8_number_108 rfl ?_
    refine P_icmp_lt (tgt := 118) (pc := 109) dX8_number_109 (by decide) (fun c => ?_) (fun c => ?_)
    · have k := k.1 c
      refine P_aload_n (pc := 118) dX8_number_118 rfl ?_
      refine P_iconst (v := (2 : Int32)) (pc := 119) dX8_number_119 (by decide) ?_
      obtain ⟨⟨w9, e9⟩, d2, nc, ns, rc4, rs5, Qc, g1, rfl, rfl, g2, kk, kx⟩ := k
      refine P_callV (ci := 8) (k := 0) (id := l0) (q := (RX8, TX8, 7)) (As := [vI (2 : Int32)]) (st := []) (pc := 120) dX8_number_120 mk_X8_refuse l_X8_44 im_X8_refuse se_X8_refuse ini_X8 rfl g1 (Nat.le_of_ble_eq_true rfl) rfl rfl (by decide) e9 rfl g2 (fun v9 h9 q9 => ?_) (fun E h9 q9 => PX_out rfl (kx E h9 q9))
      obtain ⟨x6, rfl, k⟩ := kk v9 h9 q9
      clear kk kx g1 g2 q9
      refine P_pop (pc := 123) dX8_number_123 (fun _ => rfl) ?_
      refine P_iconst (v := (-1 : Int32)) (pc := 124) dX8_number_124 (by decide) ?_
      exact R_ireturn (pc := 125) dX8_number_125 rfl rfl k
    · have k := k.2 c
      refine P_iload (pc := 112) dX8_number_112 rfl ?_
      refine P_iload_n (pc := 114) dX8_number_114 rfl ?_
      refine P_icmp_le (tgt := 126) (pc := 115) dX8_number_115 (by decide) (fun c => ?_) (fun c => ?_)
      · have k := k.2 (Int32.not_lt.mpr c)
        refine P_iload (pc := 126) dX8_number_126 rfl ?_
        exact R_ireturn (pc := 128) dX8_number_128 rfl rfl k
      · have k := k.1 (Int32.not_le.mp c)
        refine P_aload_n (pc := 118) dX8_number_118 rfl ?_
        refine P_iconst (v := (2 : Int32)) (pc := 119) dX8_number_119 (by decide) ?_
        obtain ⟨⟨w9, e9⟩, d2, nc, ns, rc8, rs9, Qc, g1, rfl, rfl, g2, kk, kx⟩ := k
        refine P_callV (ci := 8) (k := 0) (id := l0) (q := (RX8, TX8, 7)) (As := [vI (2 : Int32)]) (st := []) (pc := 120) dX8_number_120 mk_X8_refuse l_X8_44 im_X8_refuse se_X8_refuse ini_X8 rfl g1 (Nat.le_of_ble_eq_true rfl) rfl rfl (by decide) e9 rfl g2 (fun v9 h9 q9 => ?_) (fun E h9 q9 => PX_out rfl (kx E h9 q9))
        obtain ⟨x10, rfl, k⟩ := kk v9 h9 q9
        clear kk kx g1 g2 q9
        refine P_pop (pc := 123) dX8_number_123 (fun _ => rfl) ?_
        refine P_iconst (v := (-1 : Int32)) (pc := 124) dX8_number_124 (by decide) ?_
        exact R_ireturn (pc := 125) dX8_number_125 rfl rfl k
  · have k := k.1 (Int32.not_le.mp c)
    refine P_aload_n (pc := 39) dX8_number_39 rfl ?_
    obtain ⟨a11, e9, k⟩ := k
    refine G8_0 (pc := 40) dX8_number_40 l_X8_9 e9 ?_
    clear e9
    refine P_aload_n (pc := 43) dX8_number_43 rfl ?_
    obtain ⟨x12, e9, k⟩ := k
    refine G8_3 (pc := 44) dX8_number_44 l_X8_31 e9 ?_
    clear e9
    obtain ⟨n9, f9, e9, i9, k⟩ := k
    refine P_bald (pc := 47) dX8_number_47 e9 i9 ?_
    clear e9
    generalize f9 (Int32.toNatClampNeg x12) = x13 at k ⊢
    refine P_bipush (v := (48 : Int32)) (pc := 48) dX8_number_48 (by decide) ?_
    refine P_icmp_lt (tgt := 106) (pc := 50) dX8_number_50 (by decide) (fun c => ?_) (fun c => ?_)
    · have k := k.1 c
      refine P_iload (pc := 106) dX8_number_106 rfl ?_
      refine P_iload_n (pc := 108) dX8_number_108 rfl ?_
      refine P_icmp_lt (tgt := 118) (pc := 109) dX8_number_109 (by decide) (fun c => ?_) (fun c => ?_)
      · have k := k.1 c
        refine P_aload_n (pc := 118) dX8_number_118 rfl ?_
        refine P_iconst (v := (2 : Int32)) (pc := 119) dX8_number_119 (by decide) ?_
        obtain ⟨⟨w9, e9⟩, d2, nc, ns, rc15, rs16, Qc, g1, rfl, rfl, g2, kk, kx⟩ := k
        refine P_callV (ci := 8) (k := 0) (id := l0) (q := (RX8, TX8, 7)) (As := [vI (2 : Int32)]) (st := []) (pc := 120) dX8_number_120 mk_X8_refuse l_X8_44 im_X8_refuse se_X8_refuse ini_X8 rfl g1 (Nat.le_of_ble_eq_true rfl) rfl rfl (by decide) e9 rfl g2 (fun v9 h9 q9 => ?_) (fun E h9 q9 => PX_out rfl (kx E h9 q9))
        obtain ⟨x17, rfl, k⟩ := kk v9 h9 q9
        clear kk kx g1 g2 q9
        refine P_pop (pc := 123) dX8_number_123 (fun _ => rfl) ?_
        refine P_iconst (v := (-1 : Int32)) (pc := 124) dX8_number_124 (by decide) ?_
        exact R_ireturn (pc := 125) dX8_number_125 rfl rfl k
      · have k := k.2 c
        refine P_iload (pc := 112) dX8_number_112 rfl ?_
        refine P_iload_n (pc := 114) dX8_number_114 rfl ?_
        refine P_icmp_le (tgt := 126) (pc := 115) dX8_number_115 (by decide) (fun c => ?_) (fun c => ?_)
        · have k := k.2 (Int32.not_lt.mpr c)
          refine P_iload (pc := 126) dX8_number_126 rfl ?_
          exact R_ireturn (pc := 128) dX8_number_128 rfl rfl k
        · have k := k.1 (Int32.not_le.mp c)
          refine P_aload_n (pc := 118) dX8_number_118 rfl ?_
          refine P_iconst (v := (2 : Int32)) (pc := 119) dX8_number_119 (by decide) ?_
          obtain ⟨⟨w9, e9⟩, d2, nc, ns, rc19, rs20, Qc, g1, rfl, rfl, g2, kk, kx⟩ := k
          refine P_callV (ci := 8) (k := 0) (id := l0) (q := (RX8, TX8, 7)) (As := [vI (2 : Int32)]) (st := []) (pc := 120) dX8_number_120 mk_X8_refuse l_X8_44 im_X8_refuse se_X8_refuse ini_X8 rfl g1 (Nat.le_of_ble_eq_true rfl) rfl rfl (by decide) e9 rfl g2 (fun v9 h9 q9 => ?_) (fun E h9 q9 => PX_out rfl (kx E h9 q9))
          obtain ⟨x21, rfl, k⟩ := kk v9 h9 q9
          clear kk kx g1 g2 q9
          refine P_pop (pc := 123) dX8_number_123 (fun _ => rfl) ?_
          refine P_iconst (v := (-1 : Int32)) (pc := 124) dX8_number_124 (by decide) ?_
          exact R_ireturn (pc := 125) dX8_number_125 rfl rfl k
    · have k := k.2 c
      refine P_aload_n (pc := 53) dX8_number_53 rfl ?_
      obtain ⟨a22, e9, k⟩ := k
      refine G8_0 (pc := 54) dX8_number_54 l_X8_9 e9 ?_
      clear e9
      refine P_aload_n (pc := 57) dX8_number_57 rfl ?_
      obtain ⟨x23, e9, k⟩ := k
      refine G8_3 (pc := 58) dX8_number_58 l_X8_31 e9 ?_
      clear e9
      obtain ⟨n9, f9, e9, i9, k⟩ := k
      refine P_bald (pc := 61) dX8_number_61 e9 i9 ?_
      clear e9
      generalize f9 (Int32.toNatClampNeg x23) = x24 at k ⊢
      refine P_bipush (v := (57 : Int32)) (pc := 62) dX8_number_62 (by decide) ?_
      refine P_icmp_gt (tgt := 106) (pc := 64) dX8_number_64 (by decide) (fun c => ?_) (fun c => ?_)
      · have k := k.1 c
        refine P_iload (pc := 106) dX8_number_106 rfl ?_
        refine P_iload_n (pc := 108) dX8_number_108 rfl ?_
        refine P_icmp_lt (tgt := 118) (pc := 109) dX8_number_109 (by decide) (fun c => ?_) (fun c => ?_)
        · have k := k.1 c
          refine P_aload_n (pc := 118) dX8_number_118 rfl ?_
          refine P_iconst (v := (2 : Int32)) (pc := 119) dX8_number_119 (by decide) ?_
          obtain ⟨⟨w9, e9⟩, d2, nc, ns, rc26, rs27, Qc, g1, rfl, rfl, g2, kk, kx⟩ := k
          refine P_callV (ci := 8) (k := 0) (id := l0) (q := (RX8, TX8, 7)) (As := [vI (2 : Int32)]) (st := []) (pc := 120) dX8_number_120 mk_X8_refuse l_X8_44 im_X8_refuse se_X8_refuse ini_X8 rfl g1 (Nat.le_of_ble_eq_true rfl) rfl rfl (by decide) e9 rfl g2 (fun v9 h9 q9 => ?_) (fun E h9 q9 => PX_out rfl (kx E h9 q9))
          obtain ⟨x28, rfl, k⟩ := kk v9 h9 q9
          clear kk kx g1 g2 q9
          refine P_pop (pc := 123) dX8_number_123 (fun _ => rfl) ?_
          refine P_iconst (v := (-1 : Int32)) (pc := 124) dX8_number_124 (by decide) ?_
          exact R_ireturn (pc := 125) dX8_number_125 rfl rfl k
        · have k := k.2 c
          refine P_iload (pc := 112) dX8_number_112 rfl ?_
          refine P_iload_n (pc := 114) dX8_number_114 rfl ?_
          refine P_icmp_le (tgt := 126) (pc := 115) dX8_number_115 (by decide) (fun c => ?_) (fun c => ?_)
          · have k := k.2 (Int32.not_lt.mpr c)
            refine P_iload (pc := 126) dX8_number_126 rfl ?_
            exact R_ireturn (pc := 128) dX8_number_128 rfl rfl k
          · have k := k.1 (Int32.not_le.mp c)
            refine P_aload_n (pc := 118) dX8_number_118 rfl ?_
            refine P_iconst (v := (2 : Int32)) (pc := 119) dX8_number_119 (by decide) ?_
            obtain ⟨⟨w9, e9⟩, d2, nc, ns, rc30, rs31, Qc, g1, rfl, rfl, g2, kk, kx⟩ := k
            refine P_callV (ci := 8) (k := 0) (id := l0) (q := (RX8, TX8, 7)) (As := [vI (2 : Int32)]) (st := []) (pc := 120) dX8_number_120 mk_X8_refuse l_X8_44 im_X8_refuse se_X8_refuse ini_X8 rfl g1 (Nat.le_of_ble_eq_true rfl) rfl rfl (by decide) e9 rfl g2 (fun v9 h9 q9 => ?_) (fun E h9 q9 => PX_out rfl (kx E h9 q9))
            obtain ⟨x32, rfl, k⟩ := kk v9 h9 q9
            clear kk kx g1 g2 q9
            refine P_pop (pc := 123) dX8_number_123 (fun _ => rfl) ?_
            refine P_iconst (v := (-1 : Int32)) (pc := 124) dX8_number_124 (by decide) ?_
            exact R_ireturn (pc := 125) dX8_number_125 rfl rfl k
      · have k := k.2 c
        refine P_iload (pc := 67) dX8_number_67 rfl ?_
        refine P_bipush (v := (10 : Int32)) (pc := 69) dX8_number_69 (by decide) ?_
        refine P_imul (pc := 71) dX8_number_71 ?_
        refine P_aload_n (pc := 72) dX8_number_72 rfl ?_
        obtain ⟨a33, e9, k⟩ := k
        refine G8_0 (pc := 73) dX8_number_73 l_X8_9 e9 ?_
        clear e9
        refine P_aload_n (pc := 76) dX8_number_76 rfl ?_
        obtain ⟨x34, e9, k⟩ := k
        refine G8_3 (pc := 77) dX8_number_77 l_X8_31 e9 ?_
        clear e9
        obtain ⟨n9, f9, e9, i9, k⟩ := k
        refine P_bald (pc := 80) dX8_number_80 e9 i9 ?_
        clear e9
        generalize f9 (Int32.toNatClampNeg x34) = x35 at k ⊢
        refine P_iadd (pc := 81) dX8_number_81 ?_
        refine P_bipush (v := (48 : Int32)) (pc := 82) dX8_number_82 (by decide) ?_
        refine P_isub (pc := 84) dX8_number_84 ?_
        refine P_sipush (v := (10000 : Int32)) (pc := 85) dX8_number_85 (by decide) ?_
        obtain ⟨d2, nc, ns, rc37, rs38, Qc, g1, rfl, rfl, g2, kk, kx⟩ := k
        refine P_callS (As := [vI (((l4 * (10 : Int32)) + x35) - (48 : Int32)), vI (10000 : Int32)]) (st := []) (pc := 88) dX8_number_88 mk_J9_min_7cf53 l_X8_22 st_J9_min_7cf53 ini_J9 rfl g1 (Nat.le_of_ble_eq_true rfl) rfl g2 (fun v9 h9 q9 => ?_) (fun E h9 q9 => PX_out rfl (kx E h9 q9))
        obtain ⟨x39, rfl, k⟩ := kk v9 h9 q9
        clear kk kx g1 g2 q9
        refine P_istore (pc := 91) dX8_number_91 (by decide) (Or.inr (by intro z e9; cases e9)) rfl ?_
        refine P_aload_n (pc := 93) dX8_number_93 rfl ?_
        refine P_dup (pc := 94) dX8_number_94 (fun _ => rfl) ?_
        obtain ⟨x40, e9, k⟩ := k
        refine G8_3 (pc := 95) dX8_number_95 l_X8_31 e9 ?_
        clear e9
        refine P_iconst (v := (1 : Int32)) (pc := 98) dX8_number_98 (by decide) ?_
        refine P_iadd (pc := 99) dX8_number_99 ?_
        obtain ⟨⟨v9, e9⟩, k⟩ := k
        refine S8_3 (pc := 100) dX8_number_100 l_X8_31 e9 ?_
        clear e9
        refine P_goto (tgt := 28) (pc := 103) dX8_number_103 (by decide) ?_
        exact k
