-- X9_init <init>()V
theorem dX9_init_0 : decode cX9_init 0 = .ok (.aload_n 0, 1) := by decide +kernel
theorem dX9_init_1 : decode cX9_init 1 = .ok (.invokespecial 3, 3) := by decide +kernel
theorem dX9_init_4 : decode cX9_init 4 = .ok (.aload_n 0, 1) := by decide +kernel
theorem dX9_init_5 : decode cX9_init 5 = .ok (.new 9, 3) := by decide +kernel
theorem dX9_init_8 : decode cX9_init 8 = .ok (.dup, 1) := by decide +kernel
theorem dX9_init_9 : decode cX9_init 9 = .ok (.invokespecial 11, 3) := by decide +kernel
theorem dX9_init_12 : decode cX9_init 12 = .ok (.putfield 12, 3) := by decide +kernel
theorem dX9_init_15 : decode cX9_init 15 = .ok (.aload_n 0, 1) := by decide +kernel
theorem dX9_init_16 : decode cX9_init 16 = .ok (.new 16, 3) := by decide +kernel
theorem dX9_init_19 : decode cX9_init 19 = .ok (.dup, 1) := by decide +kernel
theorem dX9_init_20 : decode cX9_init 20 = .ok (.invokespecial 18, 3) := by decide +kernel
theorem dX9_init_23 : decode cX9_init 23 = .ok (.putfield 19, 3) := by decide +kernel
theorem dX9_init_26 : decode cX9_init 26 = .ok (.aload_n 0, 1) := by decide +kernel
theorem dX9_init_27 : decode cX9_init 27 = .ok (.new 23, 3) := by decide +kernel
theorem dX9_init_30 : decode cX9_init 30 = .ok (.dup, 1) := by decide +kernel
theorem dX9_init_31 : decode cX9_init 31 = .ok (.invokespecial 25, 3) := by decide +kernel
theorem dX9_init_34 : decode cX9_init 34 = .ok (.putfield 26, 3) := by decide +kernel
theorem dX9_init_37 : decode cX9_init 37 = .ok (.aload_n 0, 1) := by decide +kernel
theorem dX9_init_38 : decode cX9_init 38 = .ok (.iconst 3, 1) := by decide +kernel
theorem dX9_init_39 : decode cX9_init 39 = .ok (.anewarray 23, 3) := by decide +kernel
theorem dX9_init_42 : decode cX9_init 42 = .ok (.putfield 30, 3) := by decide +kernel
theorem dX9_init_45 : decode cX9_init 45 = .ok (.aload_n 0, 1) := by decide +kernel
theorem dX9_init_46 : decode cX9_init 46 = .ok (.new 34, 3) := by decide +kernel
theorem dX9_init_49 : decode cX9_init 49 = .ok (.dup, 1) := by decide +kernel
theorem dX9_init_50 : decode cX9_init 50 = .ok (.invokespecial 36, 3) := by decide +kernel
theorem dX9_init_53 : decode cX9_init 53 = .ok (.putfield 37, 3) := by decide +kernel
theorem dX9_init_56 : decode cX9_init 56 = .ok (.aload_n 0, 1) := by decide +kernel
theorem dX9_init_57 : decode cX9_init 57 = .ok (.new 34, 3) := by decide +kernel
theorem dX9_init_60 : decode cX9_init 60 = .ok (.dup, 1) := by decide +kernel
theorem dX9_init_61 : decode cX9_init 61 = .ok (.invokespecial 36, 3) := by decide +kernel
theorem dX9_init_64 : decode cX9_init 64 = .ok (.putfield 41, 3) := by decide +kernel
theorem dX9_init_67 : decode cX9_init 67 = .ok (.aload_n 0, 1) := by decide +kernel
theorem dX9_init_68 : decode cX9_init 68 = .ok (.new 44, 3) := by decide +kernel
theorem dX9_init_71 : decode cX9_init 71 = .ok (.dup, 1) := by decide +kernel
theorem dX9_init_72 : decode cX9_init 72 = .ok (.invokespecial 46, 3) := by decide +kernel
theorem dX9_init_75 : decode cX9_init 75 = .ok (.putfield 47, 3) := by decide +kernel
theorem dX9_init_78 : decode cX9_init 78 = .ok (.aload_n 0, 1) := by decide +kernel
theorem dX9_init_79 : decode cX9_init 79 = .ok (.new 51, 3) := by decide +kernel
theorem dX9_init_82 : decode cX9_init 82 = .ok (.dup, 1) := by decide +kernel
theorem dX9_init_83 : decode cX9_init 83 = .ok (.invokespecial 53, 3) := by decide +kernel
theorem dX9_init_86 : decode cX9_init 86 = .ok (.putfield 54, 3) := by decide +kernel
theorem dX9_init_89 : decode cX9_init 89 = .ok (.aload_n 0, 1) := by decide +kernel
theorem dX9_init_90 : decode cX9_init 90 = .ok (.new 58, 3) := by decide +kernel
theorem dX9_init_93 : decode cX9_init 93 = .ok (.dup, 1) := by decide +kernel
theorem dX9_init_94 : decode cX9_init 94 = .ok (.invokespecial 60, 3) := by decide +kernel
theorem dX9_init_97 : decode cX9_init 97 = .ok (.putfield 61, 3) := by decide +kernel
theorem dX9_init_100 : decode cX9_init 100 = .ok (.aload_n 0, 1) := by decide +kernel
theorem dX9_init_101 : decode cX9_init 101 = .ok (.new 58, 3) := by decide +kernel
theorem dX9_init_104 : decode cX9_init 104 = .ok (.dup, 1) := by decide +kernel
theorem dX9_init_105 : decode cX9_init 105 = .ok (.invokespecial 60, 3) := by decide +kernel
theorem dX9_init_108 : decode cX9_init 108 = .ok (.putfield 65, 3) := by decide +kernel
theorem dX9_init_111 : decode cX9_init 111 = .ok (.aload_n 0, 1) := by decide +kernel
theorem dX9_init_112 : decode cX9_init 112 = .ok (.new 68, 3) := by decide +kernel
theorem dX9_init_115 : decode cX9_init 115 = .ok (.dup, 1) := by decide +kernel
theorem dX9_init_116 : decode cX9_init 116 = .ok (.invokespecial 70, 3) := by decide +kernel
theorem dX9_init_119 : decode cX9_init 119 = .ok (.putfield 71, 3) := by decide +kernel
theorem dX9_init_122 : decode cX9_init 122 = .ok (.aload_n 0, 1) := by decide +kernel
theorem dX9_init_123 : decode cX9_init 123 = .ok (.new 68, 3) := by decide +kernel
theorem dX9_init_126 : decode cX9_init 126 = .ok (.dup, 1) := by decide +kernel
theorem dX9_init_127 : decode cX9_init 127 = .ok (.invokespecial 70, 3) := by decide +kernel
theorem dX9_init_130 : decode cX9_init 130 = .ok (.putfield 75, 3) := by decide +kernel
theorem dX9_init_133 : decode cX9_init 133 = .ok (.aload_n 0, 1) := by decide +kernel
theorem dX9_init_134 : decode cX9_init 134 = .ok (.new 78, 3) := by decide +kernel
theorem dX9_init_137 : decode cX9_init 137 = .ok (.dup, 1) := by decide +kernel
theorem dX9_init_138 : decode cX9_init 138 = .ok (.invokespecial 80, 3) := by decide +kernel
theorem dX9_init_141 : decode cX9_init 141 = .ok (.putfield 81, 3) := by decide +kernel
theorem dX9_init_144 : decode cX9_init 144 = .ok (.aload_n 0, 1) := by decide +kernel
theorem dX9_init_145 : decode cX9_init 145 = .ok (.new 78, 3) := by decide +kernel
theorem dX9_init_148 : decode cX9_init 148 = .ok (.dup, 1) := by decide +kernel
theorem dX9_init_149 : decode cX9_init 149 = .ok (.invokespecial 80, 3) := by decide +kernel
theorem dX9_init_152 : decode cX9_init 152 = .ok (.putfield 85, 3) := by decide +kernel
theorem dX9_init_155 : decode cX9_init 155 = .ok (.iconst 0, 1) := by decide +kernel
theorem dX9_init_156 : decode cX9_init 156 = .ok (.istore_n 1, 1) := by decide +kernel
theorem dX9_init_157 : decode cX9_init 157 = .ok (.iload_n 1, 1) := by decide +kernel
theorem dX9_init_158 : decode cX9_init 158 = .ok (.iconst 3, 1) := by decide +kernel
theorem dX9_init_159 : decode cX9_init 159 = .ok (.if_icmp .ge 22, 3) := by decide +kernel
theorem dX9_init_162 : decode cX9_init 162 = .ok (.aload_n 0, 1) := by decide +kernel
theorem dX9_init_163 : decode cX9_init 163 = .ok (.getfield 30, 3) := by decide +kernel
theorem dX9_init_166 : decode cX9_init 166 = .ok (.iload_n 1, 1) := by decide +kernel
theorem dX9_init_167 : decode cX9_init 167 = .ok (.new 23, 3) := by decide +kernel
theorem dX9_init_170 : decode cX9_init 170 = .ok (.dup, 1) := by decide +kernel
theorem dX9_init_171 : decode cX9_init 171 = .ok (.invokespecial 25, 3) := by decide +kernel
theorem dX9_init_174 : decode cX9_init 174 = .ok (.aastore, 1) := by decide +kernel
theorem dX9_init_175 : decode cX9_init 175 = .ok (.iinc 1 1, 3) := by decide +kernel
theorem dX9_init_178 : decode cX9_init 178 = .ok (.goto (-21), 3) := by decide +kernel
theorem dX9_init_181 : decode cX9_init 181 = .ok (.aload_n 0, 1) := by decide +kernel
theorem dX9_init_182 : decode cX9_init 182 = .ok (.getfield 26, 3) := by decide +kernel
theorem dX9_init_185 : decode cX9_init 185 = .ok (.aload_n 0, 1) := by decide +kernel
theorem dX9_init_186 : decode cX9_init 186 = .ok (.getfield 61, 3) := by decide +kernel
theorem dX9_init_189 : decode cX9_init 189 = .ok (.invokevirtual 88, 3) := by decide +kernel
theorem dX9_init_192 : decode cX9_init 192 = .ok (.aload_n 0, 1) := by decide +kernel
theorem dX9_init_193 : decode cX9_init 193 = .ok (.getfield 71, 3) := by decide +kernel
theorem dX9_init_196 : decode cX9_init 196 = .ok (.invokevirtual 92, 3) := by decide +kernel
theorem dX9_init_199 : decode cX9_init 199 = .ok (.return_, 1) := by decide +kernel
theorem r_X9_init_0 {d rc rs : Nat} {Q : PO → PH → Prop} {h : PH} {l0 : Nat}
    (k : 1 ≤ d ∧ nwO h 8 7 rc rs (dvT tyX8) fun o1 h2 rc3 rs4 => cl d rc3 rs4 M_X8_init [vR (800, o1)] h2 (kV fun h5 rc6 rs7 => sF h5 (10900, l0) (vR (800, o1)) fun h8 => nwO h8 7 8 rc6 rs7 (dvT tyX7) fun o9 h10 rc11 rs12 => cl d rc11 rs12 M_X7_init [vR (700, o9)] h10 (kV fun h13 rc14 rs15 => sF h13 (10901, l0) (vR (700, o9)) fun h16 => nwO h16 2 3 rc14 rs15 (dvT tyX2) fun o17 h18 rc19 rs20 => cl d rc19 rs20 M_X2_init [vR (200, o17)] h18 (kV fun h21 rc22 rs23 => sF h21 (10902, l0) (vR (200, o17)) fun h24 => nwA h24 5 (3 : Int32) (.inr (.inr (fun _ => none))) rc22 rs23 fun a25 h26 rc27 rs28 => sF h26 (10903, l0) (vR a25) fun h29 => nwO h29 4 10 rc27 rs28 (dvT tyX4) fun o30 h31 rc32 rs33 => cl d rc32 rs33 M_X4_init [vR (400, o30)] h31 (kV fun h34 rc35 rs36 => sF h34 (10904, l0) (vR (400, o30)) fun h37 => nwO h37 4 10 rc35 rs36 (dvT tyX4) fun o38 h39 rc40 rs41 => cl d rc40 rs41 M_X4_init [vR (400, o38)] h39 (kV fun h42 rc43 rs44 => sF h42 (10905, l0) (vR (400, o38)) fun h45 => nwO h45 6 1 rc43 rs44 (dvT tyX6) fun o46 h47 rc48 rs49 => cl d rc48 rs49 M_X6_init [vR (600, o46)] h47 (kV fun h50 rc51 rs52 => sF h50 (10906, l0) (vR (600, o46)) fun h53 => nwO h53 5 4 rc51 rs52 (dvT tyX5) fun o54 h55 rc56 rs57 => cl d rc56 rs57 M_X5_init [vR (500, o54)] h55 (kV fun h58 rc59 rs60 => sF h58 (10907, l0) (vR (500, o54)) fun h61 => nwO h61 1 11 rc59 rs60 (dvT tyX1) fun o62 h63 rc64 rs65 => cl d rc64 rs65 M_X1_init [vR (100, o62)] h63 (kV fun h66 rc67 rs68 => sF h66 (10908, l0) (vR (100, o62)) fun h69 => nwO h69 1 11 rc67 rs68 (dvT tyX1) fun o70 h71 rc72 rs73 => cl d rc72 rs73 M_X1_init [vR (100, o70)] h71 (kV fun h74 rc75 rs76 => sF h74 (10909, l0) (vR (100, o70)) fun h77 => nwO h77 3 5 rc75 rs76 (dvT tyX3) fun o78 h79 rc80 rs81 => cl d rc80 rs81 M_X3_init [vR (300, o78)] h79 (kV fun h82 rc83 rs84 => sF h82 (10910, l0) (vR (300, o78)) fun h85 => nwO h85 3 5 rc83 rs84 (dvT tyX3) fun o86 h87 rc88 rs89 => cl d rc88 rs89 M_X3_init [vR (300, o86)] h87 (kV fun h90 rc91 rs92 => sF h90 (10911, l0) (vR (300, o86)) fun h93 => nwO h93 0 2 rc91 rs92 (dvT tyX0) fun o94 h95 rc96 rs97 => cl d rc96 rs97 M_X0_init [vR (0, o94)] h95 (kV fun h98 rc99 rs100 => sF h98 (10912, l0) (vR (0, o94)) fun h101 => nwO h101 0 2 rc99 rs100 (dvT tyX0) fun o102 h103 rc104 rs105 => cl d rc104 rs105 M_X0_init [vR (0, o102)] h103 (kV fun h106 rc107 rs108 => sF h106 (10913, l0) (vR (0, o102)) fun h109 => PW d M_X9_init Q rc107 rs108 157 [vR (900, l0), vI (0 : Int32)] [] h109) (fun E h106 rc107 rs108 => Q (.inr E) h106)) (fun E h98 rc99 rs100 => Q (.inr E) h98)) (fun E h90 rc91 rs92 => Q (.inr E) h90)) (fun E h82 rc83 rs84 => Q (.inr E) h82)) (fun E h74 rc75 rs76 => Q (.inr E) h74)) (fun E h66 rc67 rs68 => Q (.inr E) h66)) (fun E h58 rc59 rs60 => Q (.inr E) h58)) (fun E h50 rc51 rs52 => Q (.inr E) h50)) (fun E h42 rc43 rs44 => Q (.inr E) h42)) (fun E h34 rc35 rs36 => Q (.inr E) h34)) (fun E h21 rc22 rs23 => Q (.inr E) h21)) (fun E h13 rc14 rs15 => Q (.inr E) h13)) (fun E h5 rc6 rs7 => Q (.inr E) h5)) :
    PW d M_X9_init Q rc rs 0 [vR (900, l0), vU] [] h := by
  refine P_aload_n (pc := 0) dX9_init_0 rfl ?_
  refine P_objInit (pc := 1) dX9_init_1 l_X9_3 oi_in oi_co k.1 (Nat.le_of_ble_eq_true rfl) ?_
  replace k := k.2
  refine P_aload_n (pc := 4) dX9_init_4 rfl ?_
  obtain ⟨o1, g9, rc3, rs4, rfl, rfl, b3, k⟩ := k
  refine P_new (ci := 8) (q := (RX8, TX8, 7)) (pc := 5) dX9_init_5 rfl l_X9_9 ins_X8 ini_X8 inT8 tyX8_ok dv8 b3 ?_
  refine P_dup (pc := 8) dX9_init_8 (fun _ => rfl) ?_
  obtain ⟨d2, nc, ns, rc6, rs7, Qc, g1, rfl, rfl, g2, kk, kx⟩ := k
  refine P_callIN (As := []) (st := [vR (800, o1), vR (900, l0)]) (pc := 9) dX9_init_9 mk_X8_init n_X9_11 im_X8_init rfl ini_X8 rfl g1 (Nat.le_of_ble_eq_true rfl) rfl g2 (fun v9 h9 q9 => ?_) (fun E h9 q9 => PX_out rfl (kx E h9 q9))
  obtain ⟨rfl, k⟩ := kk v9 h9 q9
  clear kk kx g1 g2 q9
  obtain ⟨⟨v9, e9⟩, k⟩ := k
  refine S9_0 (pc := 12) dX9_init_12 l_X9_12 rfl rfl e9 ?_
  clear e9
  refine P_aload_n (pc := 15) dX9_init_15 rfl ?_
  obtain ⟨o9, g9, rc11, rs12, rfl, rfl, b3, k⟩ := k
  refine P_new (ci := 7) (q := (RX7, TX7, 8)) (pc := 16) dX9_init_16 rfl l_X9_16 ins_X7 ini_X7 inT7 tyX7_ok dv7 b3 ?_
  refine P_dup (pc := 19) dX9_init_19 (fun _ => rfl) ?_
  obtain ⟨d2, nc, ns, rc14, rs15, Qc, g1, rfl, rfl, g2, kk, kx⟩ := k
  refine P_callIN (As := []) (st := [vR (700, o9), vR (900, l0)]) (pc := 20) dX9_init_20 mk_X7_init n_X9_18 im_X7_init rfl ini_X7 rfl g1 (Nat.le_of_ble_eq_true rfl) rfl g2 (fun v9 h9 q9 => ?_) (fun E h9 q9 => PX_out rfl (kx E h9 q9))
  obtain ⟨rfl, k⟩ := kk v9 h9 q9
  clear kk kx g1 g2 q9
  obtain ⟨⟨v9, e9⟩, k⟩ := k
  refine S9_1 (pc := 23) dX9_init_23 l_X9_19 rfl rfl e9 ?_
  clear e9
  refine P_aload_n (pc := 26) dX9_init_26 rfl ?_
  obtain ⟨o17, g9, rc19, rs20, rfl, rfl, b3, k⟩ := k
  refine P_new (ci := 2) (q := (RX2, TX2, 3)) (pc := 27) dX9_init_27 rfl l_X9_23 ins_X2 ini_X2 inT2 tyX2_ok dv2 b3 ?_
  refine P_dup (pc := 30) dX9_init_30 (fun _ => rfl) ?_
  obtain ⟨d2, nc, ns, rc22, rs23, Qc, g1, rfl, rfl, g2, kk, kx⟩ := k
  refine P_callI (As := []) (st := [vR (200, o17), vR (900, l0)]) (pc := 31) dX9_init_31 mk_X2_init l_X9_25 im_X2_init rfl ini_X2 rfl g1 (Nat.le_of_ble_eq_true rfl) rfl g2 (fun v9 h9 q9 => ?_) (fun E h9 q9 => PX_out rfl (kx E h9 q9))
  obtain ⟨rfl, k⟩ := kk v9 h9 q9
  clear kk kx g1 g2 q9
  obtain ⟨⟨v9, e9⟩, k⟩ := k
  refine S9_2 (pc := 34) dX9_init_34 l_X9_26 rfl rfl e9 ?_
  clear e9
  refine P_aload_n (pc := 37) dX9_init_37 rfl ?_
  refine P_iconst (v := (3 : Int32)) (pc := 38) dX9_init_38 (by decide) ?_
  obtain ⟨a25, n9, m9, g9, rc27, rs28, b1, b2, b3, b4, b5, b6, rfl, rfl, k⟩ := k
  refine P_anew (kd := 5) (cn := "FernHeirs$History") (pc := 39) dX9_init_39 (by decide) rfl l_X9_23 ao_History b1 b2 b3 b4 b5 b6 ?_
  obtain ⟨⟨v9, e9⟩, k⟩ := k
  refine S9_3 (pc := 42) dX9_init_42 l_X9_30 rfl rfl e9 ?_
  clear e9
  refine P_aload_n (pc := 45) dX9_init_45 rfl ?_
  obtain ⟨o30, g9, rc32, rs33, rfl, rfl, b3, k⟩ := k
  refine P_new (ci := 4) (q := (RX4, TX4, 10)) (pc := 46) dX9_init_46 rfl l_X9_34 ins_X4 ini_X4 inT4 tyX4_ok dv4 b3 ?_
  refine P_dup (pc := 49) dX9_init_49 (fun _ => rfl) ?_
  obtain ⟨d2, nc, ns, rc35, rs36, Qc, g1, rfl, rfl, g2, kk, kx⟩ := k
  refine P_callIN (As := []) (st := [vR (400, o30), vR (900, l0)]) (pc := 50) dX9_init_50 mk_X4_init n_X9_36 im_X4_init rfl ini_X4 rfl g1 (Nat.le_of_ble_eq_true rfl) rfl g2 (fun v9 h9 q9 => ?_) (fun E h9 q9 => PX_out rfl (kx E h9 q9))
  obtain ⟨rfl, k⟩ := kk v9 h9 q9
  clear kk kx g1 g2 q9
  obtain ⟨⟨v9, e9⟩, k⟩ := k
  refine S9_4 (pc := 53) dX9_init_53 l_X9_37 rfl rfl e9 ?_
  clear e9
  refine P_aload_n (pc := 56) dX9_init_56 rfl ?_
  obtain ⟨o38, g9, rc40, rs41, rfl, rfl, b3, k⟩ := k
  refine P_new (ci := 4) (q := (RX4, TX4, 10)) (pc := 57) dX9_init_57 rfl l_X9_34 ins_X4 ini_X4 inT4 tyX4_ok dv4 b3 ?_
  refine P_dup (pc := 60) dX9_init_60 (fun _ => rfl) ?_
  obtain ⟨d2, nc, ns, rc43, rs44, Qc, g1, rfl, rfl, g2, kk, kx⟩ := k
  refine P_callIN (As := []) (st := [vR (400, o38), vR (900, l0)]) (pc := 61) dX9_init_61 mk_X4_init n_X9_36 im_X4_init rfl ini_X4 rfl g1 (Nat.le_of_ble_eq_true rfl) rfl g2 (fun v9 h9 q9 => ?_) (fun E h9 q9 => PX_out rfl (kx E h9 q9))
  obtain ⟨rfl, k⟩ := kk v9 h9 q9
  clear kk kx g1 g2 q9
  obtain ⟨⟨v9, e9⟩, k⟩ := k
  refine S9_5 (pc := 64) dX9_init_64 l_X9_41 rfl rfl e9 ?_
  clear e9
  refine P_aload_n (pc := 67) dX9_init_67 rfl ?_
  obtain ⟨o46, g9, rc48, rs49, rfl, rfl, b3, k⟩ := k
  refine P_new (ci := 6) (q := (RX6, TX6, 1)) (pc := 68) dX9_init_68 rfl l_X9_44 ins_X6 ini_X6 inT6 tyX6_ok dv6 b3 ?_
  refine P_dup (pc := 71) dX9_init_71 (fun _ => rfl) ?_
  obtain ⟨d2, nc, ns, rc51, rs52, Qc, g1, rfl, rfl, g2, kk, kx⟩ := k
  refine P_callIN (As := []) (st := [vR (600, o46), vR (900, l0)]) (pc := 72) dX9_init_72 mk_X6_init n_X9_46 im_X6_init rfl ini_X6 rfl g1 (Nat.le_of_ble_eq_true rfl) rfl g2 (fun v9 h9 q9 => ?_) (fun E h9 q9 => PX_out rfl (kx E h9 q9))
  obtain ⟨rfl, k⟩ := kk v9 h9 q9
  clear kk kx g1 g2 q9
  obtain ⟨⟨v9, e9⟩, k⟩ := k
  refine S9_6 (pc := 75) dX9_init_75 l_X9_47 rfl rfl e9 ?_
  clear e9
  refine P_aload_n (pc := 78) dX9_init_78 rfl ?_
  obtain ⟨o54, g9, rc56, rs57, rfl, rfl, b3, k⟩ := k
  refine P_new (ci := 5) (q := (RX5, TX5, 4)) (pc := 79) dX9_init_79 rfl l_X9_51 ins_X5 ini_X5 inT5 tyX5_ok dv5 b3 ?_
  refine P_dup (pc := 82) dX9_init_82 (fun _ => rfl) ?_
  obtain ⟨d2, nc, ns, rc59, rs60, Qc, g1, rfl, rfl, g2, kk, kx⟩ := k
  refine P_callIN (As := []) (st := [vR (500, o54), vR (900, l0)]) (pc := 83) dX9_init_83 mk_X5_init n_X9_53 im_X5_init rfl ini_X5 rfl g1 (Nat.le_of_ble_eq_true rfl) rfl g2 (fun v9 h9 q9 => ?_) (fun E h9 q9 => PX_out rfl (kx E h9 q9))
  obtain ⟨rfl, k⟩ := kk v9 h9 q9
  clear kk kx g1 g2 q9
  obtain ⟨⟨v9, e9⟩, k⟩ := k
  refine S9_7 (pc := 86) dX9_init_86 l_X9_54 rfl rfl e9 ?_
  clear e9
  refine P_aload_n (pc := 89) dX9_init_89 rfl ?_
  obtain ⟨o62, g9, rc64, rs65, rfl, rfl, b3, k⟩ := k
  refine P_new (ci := 1) (q := (RX1, TX1, 11)) (pc := 90) dX9_init_90 rfl l_X9_58 ins_X1 ini_X1 inT1 tyX1_ok dv1 b3 ?_
  refine P_dup (pc := 93) dX9_init_93 (fun _ => rfl) ?_
  obtain ⟨d2, nc, ns, rc67, rs68, Qc, g1, rfl, rfl, g2, kk, kx⟩ := k
  refine P_callIN (As := []) (st := [vR (100, o62), vR (900, l0)]) (pc := 94) dX9_init_94 mk_X1_init n_X9_60 im_X1_init rfl ini_X1 rfl g1 (Nat.le_of_ble_eq_true rfl) rfl g2 (fun v9 h9 q9 => ?_) (fun E h9 q9 => PX_out rfl (kx E h9 q9))
  obtain ⟨rfl, k⟩ := kk v9 h9 q9
  clear kk kx g1 g2 q9
  obtain ⟨⟨v9, e9⟩, k⟩ := k
  refine S9_8 (pc := 97) dX9_init_97 l_X9_61 e9 ?_
  clear e9
  refine P_aload_n (pc := 100) dX9_init_100 rfl ?_
  obtain ⟨o70, g9, rc72, rs73, rfl, rfl, b3, k⟩ := k
  refine P_new (ci := 1) (q := (RX1, TX1, 11)) (pc := 101) dX9_init_101 rfl l_X9_58 ins_X1 ini_X1 inT1 tyX1_ok dv1 b3 ?_
  refine P_dup (pc := 104) dX9_init_104 (fun _ => rfl) ?_
  obtain ⟨d2, nc, ns, rc75, rs76, Qc, g1, rfl, rfl, g2, kk, kx⟩ := k
  refine P_callIN (As := []) (st := [vR (100, o70), vR (900, l0)]) (pc := 105) dX9_init_105 mk_X1_init n_X9_60 im_X1_init rfl ini_X1 rfl g1 (Nat.le_of_ble_eq_true rfl) rfl g2 (fun v9 h9 q9 => ?_) (fun E h9 q9 => PX_out rfl (kx E h9 q9))
  obtain ⟨rfl, k⟩ := kk v9 h9 q9
  clear kk kx g1 g2 q9
  obtain ⟨⟨v9, e9⟩, k⟩ := k
  refine S9_9 (pc := 108) dX9_init_108 l_X9_65 e9 ?_
  clear e9
  refine P_aload_n (pc := 111) dX9_init_111 rfl ?_
  obtain ⟨o78, g9, rc80, rs81, rfl, rfl, b3, k⟩ := k
  refine P_new (ci := 3) (q := (RX3, TX3, 5)) (pc := 112) dX9_init_112 rfl l_X9_68 ins_X3 ini_X3 inT3 tyX3_ok dv3 b3 ?_
  refine P_dup (pc := 115) dX9_init_115 (fun _ => rfl) ?_
  obtain ⟨d2, nc, ns, rc83, rs84, Qc, g1, rfl, rfl, g2, kk, kx⟩ := k
  refine P_callIN (As := []) (st := [vR (300, o78), vR (900, l0)]) (pc := 116) dX9_init_116 mk_X3_init n_X9_70 im_X3_init rfl ini_X3 rfl g1 (Nat.le_of_ble_eq_true rfl) rfl g2 (fun v9 h9 q9 => ?_) (fun E h9 q9 => PX_out rfl (kx E h9 q9))
  obtain ⟨rfl, k⟩ := kk v9 h9 q9
  clear kk kx g1 g2 q9
  obtain ⟨⟨v9, e9⟩, k⟩ := k
  refine S9_10 (pc := 119) dX9_init_119 l_X9_71 e9 ?_
  clear e9
  refine P_aload_n (pc := 122) dX9_init_122 rfl ?_
  obtain ⟨o86, g9, rc88, rs89, rfl, rfl, b3, k⟩ := k
  refine P_new (ci := 3) (q := (RX3, TX3, 5)) (pc := 123) dX9_init_123 rfl l_X9_68 ins_X3 ini_X3 inT3 tyX3_ok dv3 b3 ?_
  refine P_dup (pc := 126) dX9_init_126 (fun _ => rfl) ?_
  obtain ⟨d2, nc, ns, rc91, rs92, Qc, g1, rfl, rfl, g2, kk, kx⟩ := k
  refine P_callIN (As := []) (st := [vR (300, o86), vR (900, l0)]) (pc := 127) dX9_init_127 mk_X3_init n_X9_70 im_X3_init rfl ini_X3 rfl g1 (Nat.le_of_ble_eq_true rfl) rfl g2 (fun v9 h9 q9 => ?_) (fun E h9 q9 => PX_out rfl (kx E h9 q9))
  obtain ⟨rfl, k⟩ := kk v9 h9 q9
  clear kk kx g1 g2 q9
  obtain ⟨⟨v9, e9⟩, k⟩ := k
  refine S9_11 (pc := 130) dX9_init_130 l_X9_75 e9 ?_
  clear e9
  refine P_aload_n (pc := 133) dX9_init_133 rfl ?_
  obtain ⟨o94, g9, rc96, rs97, rfl, rfl, b3, k⟩ := k
  refine P_new (ci := 0) (q := (RX0, TX0, 2)) (pc := 134) dX9_init_134 rfl l_X9_78 ins_X0 ini_X0 inT0 tyX0_ok dv0 b3 ?_
  refine P_dup (pc := 137) dX9_init_137 (fun _ => rfl) ?_
  obtain ⟨d2, nc, ns, rc99, rs100, Qc, g1, rfl, rfl, g2, kk, kx⟩ := k
  refine P_callI (As := []) (st := [vR (0, o94), vR (900, l0)]) (pc := 138) dX9_init_138 mk_X0_init l_X9_80 im_X0_init rfl ini_X0 rfl g1 (Nat.le_of_ble_eq_true rfl) rfl g2 (fun v9 h9 q9 => ?_) (fun E h9 q9 => PX_out rfl (kx E h9 q9))
  obtain ⟨rfl, k⟩ := kk v9 h9 q9
  clear kk kx g1 g2 q9
  obtain ⟨⟨v9, e9⟩, k⟩ := k
  refine S9_12 (pc := 141) dX9_init_141 l_X9_81 e9 ?_
  clear e9
  refine P_aload_n (pc := 144) dX9_init_144 rfl ?_
  obtain ⟨o102, g9, rc104, rs105, rfl, rfl, b3, k⟩ := k
  refine P_new (ci := 0) (q := (RX0, TX0, 2)) (pc := 145) dX9_init_145 rfl l_X9_78 ins_X0 ini_X0 inT0 tyX0_ok dv0 b3 ?_
  refine P_dup (pc := 148) dX9_init_148 (fun _ => rfl) ?_
  obtain ⟨d2, nc, ns, rc107, rs108, Qc, g1, rfl, rfl, g2, kk, kx⟩ := k
  refine P_callI (As := []) (st := [vR (0, o102), vR (900, l0)]) (pc := 149) dX9_init_149 mk_X0_init l_X9_80 im_X0_init rfl ini_X0 rfl g1 (Nat.le_of_ble_eq_true rfl) rfl g2 (fun v9 h9 q9 => ?_) (fun E h9 q9 => PX_out rfl (kx E h9 q9))
  obtain ⟨rfl, k⟩ := kk v9 h9 q9
  clear kk kx g1 g2 q9
  obtain ⟨⟨v9, e9⟩, k⟩ := k
  refine S9_13 (pc := 152) dX9_init_152 l_X9_85 e9 ?_
  clear e9
  refine P_iconst (v := (0 : Int32)) (pc := 155) dX9_init_155 (by decide) ?_
  refine P_istore_n (pc := 156) dX9_init_156 (by decide) (Or.inr (by intro z e9; cases e9)) rfl ?_
  exact k
theorem r_X9_init_157 {d rc rs : Nat} {Q : PO → PH → Prop} {h : PH} {l0 : Nat} {l1 : Int32}
    (k : br (l1 < (3 : Int32)) (gA h (10903, l0) fun a10 => nwO h 2 3 rc rs (dvT tyX2) fun o11 h12 rc13 rs14 => cl d rc13 rs14 M_X2_init [vR (200, o11)] h12 (kV fun h15 rc16 rs17 => yO h15 a10 l1 5 10200 200 o11 fun h18 => PW d M_X9_init Q rc16 rs17 157 [vR (900, l0), vI (l1 + (1 : Int32))] [] h18) (fun E h15 rc16 rs17 => Q (.inr E) h15)) (gO h (10902, l0) 200 fun o1 => gO h (10908, l0) 100 fun o2 => isO h 10200 o1 ∧ cl d rc rs M_X2_begin [vR (200, o1), vR (100, o2)] h (kV fun h3 rc4 rs5 => gO h3 (10910, l0) 300 fun o6 => isO h3 10300 o6 ∧ cl d rc4 rs5 M_X3_beUsual [vR (300, o6)] h3 (kV fun h7 rc8 rs9 => Q (.inl none) h7) (fun E h7 rc8 rs9 => Q (.inr E) h7)) (fun E h3 rc4 rs5 => Q (.inr E) h3))) :
    PW d M_X9_init Q rc rs 157 [vR (900, l0), vI l1] [] h := by
  refine P_iload_n (pc := 157) dX9_init_157 rfl ?_
  refine P_iconst (v := (3 : Int32)) (pc := 158) dX9_init_158 (by decide) ?_
  refine P_icmp_ge (tgt := 181) (pc := 159) dX9_init_159 (by decide) (fun c => ?_) (fun c => ?_)
  · have k := k.2 (Int32.not_lt.mpr c)
    refine P_aload_n (pc := 181) dX9_init_181 rfl ?_
    obtain ⟨o1, e9, k⟩ := k
    refine G9_2 (pc := 182) dX9_init_182 l_X9_26 e9 ?_
    clear e9
    refine P_aload_n (pc := 185) dX9_init_185 rfl ?_
    obtain ⟨o2, e9, k⟩ := k
    refine G9_8 (pc := 186) dX9_init_186 l_X9_61 e9 ?_
    clear e9
    obtain ⟨⟨w9, e9⟩, d2, nc, ns, rc4, rs5, Qc, g1, rfl, rfl, g2, kk, kx⟩ := k
    refine P_callV (ci := 2) (k := 0) (id := o1) (q := (RX2, TX2, 3)) (As := [vR (100, o2)]) (st := []) (pc := 189) dX9_init_189 mk_X2_begin l_X9_88 im_X2_begin se_X2_begin ini_X2 rfl g1 (Nat.le_of_ble_eq_true rfl) rfl rfl (by decide) e9 rfl g2 (fun v9 h9 q9 => ?_) (fun E h9 q9 => PX_out rfl (kx E h9 q9))
    obtain ⟨rfl, k⟩ := kk v9 h9 q9
    clear kk kx g1 g2 q9
    refine P_aload_n (pc := 192) dX9_init_192 rfl ?_
    obtain ⟨o6, e9, k⟩ := k
    refine G9_10 (pc := 193) dX9_init_193 l_X9_71 e9 ?_
    clear e9
    obtain ⟨⟨w9, e9⟩, d2, nc, ns, rc8, rs9, Qc, g1, rfl, rfl, g2, kk, kx⟩ := k
    refine P_callV (ci := 3) (k := 0) (id := o6) (q := (RX3, TX3, 5)) (As := []) (st := []) (pc := 196) dX9_init_196 mk_X3_beUsual l_X9_92 im_X3_beUsual se_X3_beUsual ini_X3 rfl g1 (Nat.le_of_ble_eq_true rfl) rfl rfl (by decide) e9 rfl g2 (fun v9 h9 q9 => ?_) (fun E h9 q9 => PX_out rfl (kx E h9 q9))
    obtain ⟨rfl, k⟩ := kk v9 h9 q9
    clear kk kx g1 g2 q9
    exact R_return (pc := 199) dX9_init_199 rfl k
  · have k := k.1 (Int32.not_le.mp c)
    refine P_aload_n (pc := 162) dX9_init_162 rfl ?_
    obtain ⟨a10, e9, k⟩ := k
    refine G9_3 (pc := 163) dX9_init_163 l_X9_30 e9 ?_
    clear e9
    refine P_iload_n (pc := 166) dX9_init_166 rfl ?_
    obtain ⟨o11, g9, rc13, rs14, rfl, rfl, b3, k⟩ := k
    refine P_new (ci := 2) (q := (RX2, TX2, 3)) (pc := 167) dX9_init_167 rfl l_X9_23 ins_X2 ini_X2 inT2 tyX2_ok dv2 b3 ?_
    refine P_dup (pc := 170) dX9_init_170 (fun _ => rfl) ?_
    obtain ⟨d2, nc, ns, rc16, rs17, Qc, g1, rfl, rfl, g2, kk, kx⟩ := k
    refine P_callI (As := []) (st := [vR (200, o11), vI l1, vR a10]) (pc := 171) dX9_init_171 mk_X2_init l_X9_25 im_X2_init rfl ini_X2 rfl g1 (Nat.le_of_ble_eq_true rfl) rfl g2 (fun v9 h9 q9 => ?_) (fun E h9 q9 => PX_out rfl (kx E h9 q9))
    obtain ⟨rfl, k⟩ := kk v9 h9 q9
    clear kk kx g1 g2 q9
    obtain ⟨n9, f9, e9, i9, ⟨v9, b9⟩, k⟩ := k
    refine P_aast (kd := 5) (ci := 2) (k0 := 0) (q := (RX2, TX2, 3)) (pc := 174) dX9_init_174 (by decide) rfl rfl e9 i9 (by decide) b9 ?_
    clear e9
    refine P_iinc (v := l1 + (1 : Int32)) (pc := 175) dX9_init_175 (by decide) rfl rfl (Or.inr (by intro z e9; cases e9)) rfl ?_
    refine P_goto (tgt := 157) (pc := 178) dX9_init_178 (by decide) ?_
    exact k
-- X9_feed feed(IIIII)I
theorem dX9_feed_0 : decode cX9_feed 0 = .ok (.aload_n 0, 1) := by decide +kernel
theorem dX9_feed_1 : decode cX9_feed 1 = .ok (.getfield 12, 3) := by decide +kernel
theorem dX9_feed_4 : decode cX9_feed 4 = .ok (.getfield 95, 3) := by decide +kernel
theorem dX9_feed_7 : decode cX9_feed 7 = .ok (.bipush 20, 2) := by decide +kernel
theorem dX9_feed_9 : decode cX9_feed 9 = .ok (.iadd, 1) := by decide +kernel
theorem dX9_feed_10 : decode cX9_feed 10 = .ok (.sipush 600, 3) := by decide +kernel
theorem dX9_feed_13 : decode cX9_feed 13 = .ok (.if_icmp .le 5, 3) := by decide +kernel
theorem dX9_feed_16 : decode cX9_feed 16 = .ok (.iconst (-1), 1) := by decide +kernel
theorem dX9_feed_17 : decode cX9_feed 17 = .ok (.ireturn, 1) := by decide +kernel
theorem dX9_feed_18 : decode cX9_feed 18 = .ok (.aload_n 0, 1) := by decide +kernel
theorem dX9_feed_19 : decode cX9_feed 19 = .ok (.getfield 12, 3) := by decide +kernel
theorem dX9_feed_22 : decode cX9_feed 22 = .ok (.iload_n 1, 1) := by decide +kernel
theorem dX9_feed_23 : decode cX9_feed 23 = .ok (.invokevirtual 99, 3) := by decide +kernel
theorem dX9_feed_26 : decode cX9_feed 26 = .ok (.aload_n 0, 1) := by decide +kernel
theorem dX9_feed_27 : decode cX9_feed 27 = .ok (.getfield 12, 3) := by decide +kernel
theorem dX9_feed_30 : decode cX9_feed 30 = .ok (.iload_n 2, 1) := by decide +kernel
theorem dX9_feed_31 : decode cX9_feed 31 = .ok (.invokevirtual 99, 3) := by decide +kernel
theorem dX9_feed_34 : decode cX9_feed 34 = .ok (.aload_n 0, 1) := by decide +kernel
theorem dX9_feed_35 : decode cX9_feed 35 = .ok (.getfield 12, 3) := by decide +kernel
theorem dX9_feed_38 : decode cX9_feed 38 = .ok (.iload_n 3, 1) := by decide +kernel
theorem dX9_feed_39 : decode cX9_feed 39 = .ok (.invokevirtual 99, 3) := by decide +kernel
theorem dX9_feed_42 : decode cX9_feed 42 = .ok (.aload_n 0, 1) := by decide +kernel
theorem dX9_feed_43 : decode cX9_feed 43 = .ok (.getfield 12, 3) := by decide +kernel
theorem dX9_feed_46 : decode cX9_feed 46 = .ok (.iload 4, 2) := by decide +kernel
theorem dX9_feed_48 : decode cX9_feed 48 = .ok (.invokevirtual 99, 3) := by decide +kernel
theorem dX9_feed_51 : decode cX9_feed 51 = .ok (.aload_n 0, 1) := by decide +kernel
theorem dX9_feed_52 : decode cX9_feed 52 = .ok (.getfield 12, 3) := by decide +kernel
theorem dX9_feed_55 : decode cX9_feed 55 = .ok (.iload 5, 2) := by decide +kernel
theorem dX9_feed_57 : decode cX9_feed 57 = .ok (.invokevirtual 99, 3) := by decide +kernel
theorem dX9_feed_60 : decode cX9_feed 60 = .ok (.aload_n 0, 1) := by decide +kernel
theorem dX9_feed_61 : decode cX9_feed 61 = .ok (.getfield 12, 3) := by decide +kernel
theorem dX9_feed_64 : decode cX9_feed 64 = .ok (.getfield 95, 3) := by decide +kernel
theorem dX9_feed_67 : decode cX9_feed 67 = .ok (.ireturn, 1) := by decide +kernel
theorem r_X9_feed_0 {d rc rs : Nat} {Q : PO → PH → Prop} {h : PH} {l0 : Nat} {l1 : Int32} {l2 : Int32} {l3 : Int32} {l4 : Int32} {l5 : Int32}
    (k : gO h (10900, l0) 800 fun o1 => gI h (10801, o1) fun x2 => br ((600 : Int32) < (x2 + (20 : Int32))) (Q (.inl (some (vI (-1 : Int32)))) h) (gO h (10900, l0) 800 fun o3 => isO h 10800 o3 ∧ cl d rc rs M_X8_append [vR (800, o3), vI l1] h (kV fun h4 rc5 rs6 => gO h4 (10900, l0) 800 fun o7 => isO h4 10800 o7 ∧ cl d rc5 rs6 M_X8_append [vR (800, o7), vI l2] h4 (kV fun h8 rc9 rs10 => gO h8 (10900, l0) 800 fun o11 => isO h8 10800 o11 ∧ cl d rc9 rs10 M_X8_append [vR (800, o11), vI l3] h8 (kV fun h12 rc13 rs14 => gO h12 (10900, l0) 800 fun o15 => isO h12 10800 o15 ∧ cl d rc13 rs14 M_X8_append [vR (800, o15), vI l4] h12 (kV fun h16 rc17 rs18 => gO h16 (10900, l0) 800 fun o19 => isO h16 10800 o19 ∧ cl d rc17 rs18 M_X8_append [vR (800, o19), vI l5] h16 (kV fun h20 rc21 rs22 => gO h20 (10900, l0) 800 fun o23 => gI h20 (10801, o23) fun x24 => Q (.inl (some (vI x24))) h20) (fun E h20 rc21 rs22 => Q (.inr E) h20)) (fun E h16 rc17 rs18 => Q (.inr E) h16)) (fun E h12 rc13 rs14 => Q (.inr E) h12)) (fun E h8 rc9 rs10 => Q (.inr E) h8)) (fun E h4 rc5 rs6 => Q (.inr E) h4))) :
    PW d M_X9_feed Q rc rs 0 [vR (900, l0), vI l1, vI l2, vI l3, vI l4, vI l5] [] h := by
  refine P_aload_n (pc := 0) dX9_feed_0 rfl ?_
  obtain ⟨o1, e9, k⟩ := k
  refine G9_0 (pc := 1) dX9_feed_1 l_X9_12 e9 ?_
  clear e9
  obtain ⟨x2, e9, k⟩ := k
  refine GN8_1 (pc := 4) dX9_feed_4 n_X9_95 e9 ?_
  clear e9
  refine P_bipush (v := (20 : Int32)) (pc := 7) dX9_feed_7 (by decide) ?_
  refine P_iadd (pc := 9) dX9_feed_9 ?_
  refine P_sipush (v := (600 : Int32)) (pc := 10) dX9_feed_10 (by decide) ?_
  refine P_icmp_le (tgt := 18) (pc := 13) dX9_feed_13 (by decide) (fun c => ?_) (fun c => ?_)
  · have k := k.2 (Int32.not_lt.mpr c)
    refine P_aload_n (pc := 18) dX9_feed_18 rfl ?_
    obtain ⟨o3, e9, k⟩ := k
    refine G9_0 (pc := 19) dX9_feed_19 l_X9_12 e9 ?_
    clear e9
    refine P_iload_n (pc := 22) dX9_feed_22 rfl ?_
    obtain ⟨⟨w9, e9⟩, d2, nc, ns, rc5, rs6, Qc, g1, rfl, rfl, g2, kk, kx⟩ := k
    refine P_callV (ci := 8) (k := 0) (id := o3) (q := (RX8, TX8, 7)) (As := [vI l1]) (st := []) (pc := 23) dX9_feed_23 mk_X8_append l_X9_99 im_X8_append se_X8_append ini_X8 rfl g1 (Nat.le_of_ble_eq_true rfl) rfl rfl (by decide) e9 rfl g2 (fun v9 h9 q9 => ?_) (fun E h9 q9 => PX_out rfl (kx E h9 q9))
    obtain ⟨rfl, k⟩ := kk v9 h9 q9
    clear kk kx g1 g2 q9
    refine P_aload_n (pc := 26) dX9_feed_26 rfl ?_
    obtain ⟨o7, e9, k⟩ := k
    refine G9_0 (pc := 27) dX9_feed_27 l_X9_12 e9 ?_
    clear e9
    refine P_iload_n (pc := 30) dX9_feed_30 rfl ?_
    obtain ⟨⟨w9, e9⟩, d2, nc, ns, rc9, rs10, Qc, g1, rfl, rfl, g2, kk, kx⟩ := k
    refine P_callV (ci := 8) (k := 0) (id := o7) (q := (RX8, TX8, 7)) (As := [vI l2]) (st := []) (pc := 31) dX9_feed_31 mk_X8_append l_X9_99 im_X8_append se_X8_append ini_X8 rfl g1 (Nat.le_of_ble_eq_true rfl) rfl rfl (by decide) e9 rfl g2 (fun v9 h9 q9 => ?_) (fun E h9 q9 => PX_out rfl (kx E h9 q9))
    obtain ⟨rfl, k⟩ := kk v9 h9 q9
    clear kk kx g1 g2 q9
    refine P_aload_n (pc := 34) dX9_feed_34 rfl ?_
    obtain ⟨o11, e9, k⟩ := k
    refine G9_0 (pc := 35) dX9_feed_35 l_X9_12 e9 ?_
    clear e9
    refine P_iload_n (pc := 38) dX9_feed_38 rfl ?_
    obtain ⟨⟨w9, e9⟩, d2, nc, ns, rc13, rs14, Qc, g1, rfl, rfl, g2, kk, kx⟩ := k
    refine P_callV (ci := 8) (k := 0) (id := o11) (q := (RX8, TX8, 7)) (As := [vI l3]) (st := []) (pc := 39) dX9_feed_39 mk_X8_append l_X9_99 im_X8_append se_X8_append ini_X8 rfl g1 (Nat.le_of_ble_eq_true rfl) rfl rfl (by decide) e9 rfl g2 (fun v9 h9 q9 => ?_) (fun E h9 q9 => PX_out rfl (kx E h9 q9))
    obtain ⟨rfl, k⟩ := kk v9 h9 q9
    clear kk kx g1 g2 q9
    refine P_aload_n (pc := 42) dX9_feed_42 rfl ?_
    obtain ⟨o15, e9, k⟩ := k
    refine G9_0 (pc := 43) dX9_feed_43 l_X9_12 e9 ?_
    clear e9
    refine P_iload (pc := 46) dX9_feed_46 rfl ?_
    obtain ⟨⟨w9, e9⟩, d2, nc, ns, rc17, rs18, Qc, g1, rfl, rfl, g2, kk, kx⟩ := k
    refine P_callV (ci := 8) (k := 0) (id := o15) (q := (RX8, TX8, 7)) (As := [vI l4]) (st := []) (pc := 48) dX9_feed_48 mk_X8_append l_X9_99 im_X8_append se_X8_append ini_X8 rfl g1 (Nat.le_of_ble_eq_true rfl) rfl rfl (by decide) e9 rfl g2 (fun v9 h9 q9 => ?_) (fun E h9 q9 => PX_out rfl (kx E h9 q9))
    obtain ⟨rfl, k⟩ := kk v9 h9 q9
    clear kk kx g1 g2 q9
    refine P_aload_n (pc := 51) dX9_feed_51 rfl ?_
    obtain ⟨o19, e9, k⟩ := k
    refine G9_0 (pc := 52) dX9_feed_52 l_X9_12 e9 ?_
    clear e9
    refine P_iload (pc := 55) dX9_feed_55 rfl ?_
    obtain ⟨⟨w9, e9⟩, d2, nc, ns, rc21, rs22, Qc, g1, rfl, rfl, g2, kk, kx⟩ := k
    refine P_callV (ci := 8) (k := 0) (id := o19) (q := (RX8, TX8, 7)) (As := [vI l5]) (st := []) (pc := 57) dX9_feed_57 mk_X8_append l_X9_99 im_X8_append se_X8_append ini_X8 rfl g1 (Nat.le_of_ble_eq_true rfl) rfl rfl (by decide) e9 rfl g2 (fun v9 h9 q9 => ?_) (fun E h9 q9 => PX_out rfl (kx E h9 q9))
    obtain ⟨rfl, k⟩ := kk v9 h9 q9
    clear kk kx g1 g2 q9
    refine P_aload_n (pc := 60) dX9_feed_60 rfl ?_
    obtain ⟨o23, e9, k⟩ := k
    refine G9_0 (pc := 61) dX9_feed_61 l_X9_12 e9 ?_
    clear e9
    obtain ⟨x24, e9, k⟩ := k
    refine GN8_1 (pc := 64) dX9_feed_64 n_X9_95 e9 ?_
    clear e9
    exact R_ireturn (pc := 67) dX9_feed_67 rfl rfl k
  · have k := k.1 (Int32.not_le.mp c)
    refine P_iconst (v := (-1 : Int32)) (pc := 16) dX9_feed_16 (by decide) ?_
    exact R_ireturn (pc := 17) dX9_feed_17 rfl rfl k
-- X9_court court(I)I
theorem dX9_court_0 : decode cX9_court 0 = .ok (.aload_n 0, 1) := by decide +kernel
theorem dX9_court_1 : decode cX9_court 1 = .ok (.iload_n 1, 1) := by decide +kernel
theorem dX9_court_2 : decode cX9_court 2 = .ok (.sipush 600, 3) := by decide +kernel
theorem dX9_court_5 : decode cX9_court 5 = .ok (.invokevirtual 103, 3) := by decide +kernel
theorem dX9_court_8 : decode cX9_court 8 = .ok (.aload_n 0, 1) := by decide +kernel
theorem dX9_court_9 : decode cX9_court 9 = .ok (.getfield 65, 3) := by decide +kernel
theorem dX9_court_12 : decode cX9_court 12 = .ok (.aload_n 0, 1) := by decide +kernel
theorem dX9_court_13 : decode cX9_court 13 = .ok (.getfield 12, 3) := by decide +kernel
theorem dX9_court_16 : decode cX9_court 16 = .ok (.invokevirtual 107, 3) := by decide +kernel
theorem dX9_court_19 : decode cX9_court 19 = .ok (.ifCond .ne 14, 3) := by decide +kernel
theorem dX9_court_22 : decode cX9_court 22 = .ok (.aload_n 0, 1) := by decide +kernel
theorem dX9_court_23 : decode cX9_court 23 = .ok (.getfield 12, 3) := by decide +kernel
theorem dX9_court_26 : decode cX9_court 26 = .ok (.getfield 111, 3) := by decide +kernel
theorem dX9_court_29 : decode cX9_court 29 = .ok (.bipush 10, 2) := by decide +kernel
theorem dX9_court_31 : decode cX9_court 31 = .ok (.isub, 1) := by decide +kernel
theorem dX9_court_32 : decode cX9_court 32 = .ok (.ireturn, 1) := by decide +kernel
theorem dX9_court_33 : decode cX9_court 33 = .ok (.aload_n 0, 1) := by decide +kernel
theorem dX9_court_34 : decode cX9_court 34 = .ok (.getfield 65, 3) := by decide +kernel
theorem dX9_court_37 : decode cX9_court 37 = .ok (.astore_n 2, 1) := by decide +kernel
theorem dX9_court_38 : decode cX9_court 38 = .ok (.aload_n 0, 1) := by decide +kernel
theorem dX9_court_39 : decode cX9_court 39 = .ok (.aload_n 0, 1) := by decide +kernel
theorem dX9_court_40 : decode cX9_court 40 = .ok (.getfield 61, 3) := by decide +kernel
theorem dX9_court_43 : decode cX9_court 43 = .ok (.putfield 65, 3) := by decide +kernel
theorem dX9_court_46 : decode cX9_court 46 = .ok (.aload_n 0, 1) := by decide +kernel
theorem dX9_court_47 : decode cX9_court 47 = .ok (.aload_n 2, 1) := by decide +kernel
theorem dX9_court_48 : decode cX9_court 48 = .ok (.putfield 61, 3) := by decide +kernel
theorem dX9_court_51 : decode cX9_court 51 = .ok (.aload_n 0, 1) := by decide +kernel
theorem dX9_court_52 : decode cX9_court 52 = .ok (.getfield 71, 3) := by decide +kernel
theorem dX9_court_55 : decode cX9_court 55 = .ok (.invokevirtual 92, 3) := by decide +kernel
theorem dX9_court_58 : decode cX9_court 58 = .ok (.aload_n 0, 1) := by decide +kernel
theorem dX9_court_59 : decode cX9_court 59 = .ok (.getfield 81, 3) := by decide +kernel
theorem dX9_court_62 : decode cX9_court 62 = .ok (.invokevirtual 114, 3) := by decide +kernel
theorem dX9_court_65 : decode cX9_court 65 = .ok (.aload_n 0, 1) := by decide +kernel
theorem dX9_court_66 : decode cX9_court 66 = .ok (.getfield 26, 3) := by decide +kernel
theorem dX9_court_69 : decode cX9_court 69 = .ok (.aload_n 0, 1) := by decide +kernel
theorem dX9_court_70 : decode cX9_court 70 = .ok (.getfield 61, 3) := by decide +kernel
theorem dX9_court_73 : decode cX9_court 73 = .ok (.invokevirtual 88, 3) := by decide +kernel
theorem dX9_court_76 : decode cX9_court 76 = .ok (.aload_n 0, 1) := by decide +kernel
theorem dX9_court_77 : decode cX9_court 77 = .ok (.iconst 0, 1) := by decide +kernel
theorem dX9_court_78 : decode cX9_court 78 = .ok (.putfield 117, 3) := by decide +kernel
theorem dX9_court_81 : decode cX9_court 81 = .ok (.aload_n 0, 1) := by decide +kernel
theorem dX9_court_82 : decode cX9_court 82 = .ok (.iconst 0, 1) := by decide +kernel
theorem dX9_court_83 : decode cX9_court 83 = .ok (.putfield 120, 3) := by decide +kernel
theorem dX9_court_86 : decode cX9_court 86 = .ok (.aload_n 0, 1) := by decide +kernel
theorem dX9_court_87 : decode cX9_court 87 = .ok (.getfield 61, 3) := by decide +kernel
theorem dX9_court_90 : decode cX9_court 90 = .ok (.getfield 123, 3) := by decide +kernel
theorem dX9_court_93 : decode cX9_court 93 = .ok (.ireturn, 1) := by decide +kernel
theorem r_X9_court_0 {d rc rs : Nat} {Q : PO → PH → Prop} {h : PH} {l0 : Nat} {l1 : Int32}
    (k : isO h 10900 l0 ∧ cl d rc rs M_X9_beginText [vR (900, l0), vI l1, vI (600 : Int32)] h (kV fun h1 rc2 rs3 => gO h1 (10909, l0) 100 fun o4 => gO h1 (10900, l0) 800 fun o5 => isO h1 10100 o4 ∧ cl d rc2 rs3 M_X1_read [vR (100, o4), vR (800, o5)] h1 (kI fun x9 h6 rc7 rs8 => br (x9 = 0) (gO h6 (10900, l0) 800 fun o31 => gI h6 (10805, o31) fun x32 => Q (.inl (some (vI (x32 - (10 : Int32))))) h6) (gO h6 (10909, l0) 100 fun o10 => gO h6 (10908, l0) 100 fun o11 => sF h6 (10909, l0) (vR (100, o11)) fun h12 => sF h12 (10908, l0) (vR (100, o10)) fun h13 => gO h13 (10910, l0) 300 fun o14 => isO h13 10300 o14 ∧ cl d rc7 rs8 M_X3_beUsual [vR (300, o14)] h13 (kV fun h15 rc16 rs17 => gO h15 (10912, l0) 0 fun o18 => isO h15 10000 o18 ∧ cl d rc16 rs17 M_X0_clear [vR (0, o18)] h15 (kV fun h19 rc20 rs21 => gO h19 (10902, l0) 200 fun o22 => gO h19 (10908, l0) 100 fun o23 => isO h19 10200 o22 ∧ cl d rc20 rs21 M_X2_begin [vR (200, o22), vR (100, o23)] h19 (kV fun h24 rc25 rs26 => sF h24 (10914, l0) (vI (0 : Int32)) fun h27 => sF h27 (10915, l0) (vI (0 : Int32)) fun h28 => gO h28 (10908, l0) 100 fun o29 => gI h28 (10107, o29) fun x30 => Q (.inl (some (vI x30))) h28) (fun E h24 rc25 rs26 => Q (.inr E) h24)) (fun E h19 rc20 rs21 => Q (.inr E) h19)) (fun E h15 rc16 rs17 => Q (.inr E) h15))) (fun E h6 rc7 rs8 => Q (.inr E) h6)) (fun E h1 rc2 rs3 => Q (.inr E) h1)) :
    PW d M_X9_court Q rc rs 0 [vR (900, l0), vI l1, vU] [] h := by
  refine P_aload_n (pc := 0) dX9_court_0 rfl ?_
  refine P_iload_n (pc := 1) dX9_court_1 rfl ?_
  refine P_sipush (v := (600 : Int32)) (pc := 2) dX9_court_2 (by decide) ?_
  obtain ⟨⟨w9, e9⟩, d2, nc, ns, rc2, rs3, Qc, g1, rfl, rfl, g2, kk, kx⟩ := k
  refine P_callV (ci := 9) (k := 0) (id := l0) (q := (RX9, TX9, 18)) (As := [vI l1, vI (600 : Int32)]) (st := []) (pc := 5) dX9_court_5 mk_X9_beginText l_X9_103 im_X9_beginText se_X9_beginText ini_X9 rfl g1 (Nat.le_of_ble_eq_true rfl) rfl rfl (by decide) e9 rfl g2 (fun v9 h9 q9 => ?_) (fun E h9 q9 => PX_out rfl (kx E h9 q9))
  obtain ⟨rfl, k⟩ := kk v9 h9 q9
  clear kk kx g1 g2 q9
  refine P_aload_n (pc := 8) dX9_court_8 rfl ?_
  obtain ⟨o4, e9, k⟩ := k
  refine G9_9 (pc := 9) dX9_court_9 l_X9_65 e9 ?_
  clear e9
  refine P_aload_n (pc := 12) dX9_court_12 rfl ?_
  obtain ⟨o5, e9, k⟩ := k
  refine G9_0 (pc := 13) dX9_court_13 l_X9_12 e9 ?_
  clear e9
  obtain ⟨⟨w9, e9⟩, d2, nc, ns, rc7, rs8, Qc, g1, rfl, rfl, g2, kk, kx⟩ := k
  refine P_callV (ci := 1) (k := 0) (id := o4) (q := (RX1, TX1, 11)) (As := [vR (800, o5)]) (st := []) (pc := 16) dX9_court_16 mk_X1_read l_X9_107 im_X1_read se_X1_read ini_X1 rfl g1 (Nat.le_of_ble_eq_true rfl) rfl rfl (by decide) e9 rfl g2 (fun v9 h9 q9 => ?_) (fun E h9 q9 => PX_out rfl (kx E h9 q9))
  obtain ⟨x9, rfl, k⟩ := kk v9 h9 q9
  clear kk kx g1 g2 q9
  refine P_if_ne (tgt := 33) (pc := 19) dX9_court_19 (by decide) (fun c => ?_) (fun c => ?_)
  · have k := k.2 c
    refine P_aload_n (pc := 33) dX9_court_33 rfl ?_
    obtain ⟨o10, e9, k⟩ := k
    refine G9_9 (pc := 34) dX9_court_34 l_X9_65 e9 ?_
    clear e9
    refine P_astore_n (pc := 37) dX9_court_37 (by decide) (Or.inr (by intro z e9; cases e9)) rfl ?_
    refine P_aload_n (pc := 38) dX9_court_38 rfl ?_
    refine P_aload_n (pc := 39) dX9_court_39 rfl ?_
    obtain ⟨o11, e9, k⟩ := k
    refine G9_8 (pc := 40) dX9_court_40 l_X9_61 e9 ?_
    clear e9
    obtain ⟨⟨v9, e9⟩, k⟩ := k
    refine S9_9 (pc := 43) dX9_court_43 l_X9_65 e9 ?_
    clear e9
    refine P_aload_n (pc := 46) dX9_court_46 rfl ?_
    refine P_aload_n (pc := 47) dX9_court_47 rfl ?_
    obtain ⟨⟨v9, e9⟩, k⟩ := k
    refine S9_8 (pc := 48) dX9_court_48 l_X9_61 e9 ?_
    clear e9
    refine P_aload_n (pc := 51) dX9_court_51 rfl ?_
    obtain ⟨o14, e9, k⟩ := k
    refine G9_10 (pc := 52) dX9_court_52 l_X9_71 e9 ?_
    clear e9
    obtain ⟨⟨w9, e9⟩, d2, nc, ns, rc16, rs17, Qc, g1, rfl, rfl, g2, kk, kx⟩ := k
    refine P_callV (ci := 3) (k := 0) (id := o14) (q := (RX3, TX3, 5)) (As := []) (st := []) (pc := 55) dX9_court_55 mk_X3_beUsual l_X9_92 im_X3_beUsual se_X3_beUsual ini_X3 rfl g1 (Nat.le_of_ble_eq_true rfl) rfl rfl (by decide) e9 rfl g2 (fun v9 h9 q9 => ?_) (fun E h9 q9 => PX_out rfl (kx E h9 q9))
    obtain ⟨rfl, k⟩ := kk v9 h9 q9
    clear kk kx g1 g2 q9
    refine P_aload_n (pc := 58) dX9_court_58 rfl ?_
    obtain ⟨o18, e9, k⟩ := k
    refine G9_12 (pc := 59) dX9_court_59 l_X9_81 e9 ?_
    clear e9
    obtain ⟨⟨w9, e9⟩, d2, nc, ns, rc20, rs21, Qc, g1, rfl, rfl, g2, kk, kx⟩ := k
    refine P_callV (ci := 0) (k := 0) (id := o18) (q := (RX0, TX0, 2)) (As := []) (st := []) (pc := 62) dX9_court_62 mk_X0_clear l_X9_114 im_X0_clear se_X0_clear ini_X0 rfl g1 (Nat.le_of_ble_eq_true rfl) rfl rfl (by decide) e9 rfl g2 (fun v9 h9 q9 => ?_) (fun E h9 q9 => PX_out rfl (kx E h9 q9))
    obtain ⟨rfl, k⟩ := kk v9 h9 q9
    clear kk kx g1 g2 q9
    refine P_aload_n (pc := 65) dX9_court_65 rfl ?_
    obtain ⟨o22, e9, k⟩ := k
    refine G9_2 (pc := 66) dX9_court_66 l_X9_26 e9 ?_
    clear e9
    refine P_aload_n (pc := 69) dX9_court_69 rfl ?_
    obtain ⟨o23, e9, k⟩ := k
    refine G9_8 (pc := 70) dX9_court_70 l_X9_61 e9 ?_
    clear e9
    obtain ⟨⟨w9, e9⟩, d2, nc, ns, rc25, rs26, Qc, g1, rfl, rfl, g2, kk, kx⟩ := k
    refine P_callV (ci := 2) (k := 0) (id := o22) (q := (RX2, TX2, 3)) (As := [vR (100, o23)]) (st := []) (pc := 73) dX9_court_73 mk_X2_begin l_X9_88 im_X2_begin se_X2_begin ini_X2 rfl g1 (Nat.le_of_ble_eq_true rfl) rfl rfl (by decide) e9 rfl g2 (fun v9 h9 q9 => ?_) (fun E h9 q9 => PX_out rfl (kx E h9 q9))
    obtain ⟨rfl, k⟩ := kk v9 h9 q9
    clear kk kx g1 g2 q9
    refine P_aload_n (pc := 76) dX9_court_76 rfl ?_
    refine P_iconst (v := (0 : Int32)) (pc := 77) dX9_court_77 (by decide) ?_
    obtain ⟨⟨v9, e9⟩, k⟩ := k
    refine S9_14 (pc := 78) dX9_court_78 l_X9_117 e9 ?_
    clear e9
    refine P_aload_n (pc := 81) dX9_court_81 rfl ?_
    refine P_iconst (v := (0 : Int32)) (pc := 82) dX9_court_82 (by decide) ?_
    obtain ⟨⟨v9, e9⟩, k⟩ := k
    refine S9_15 (pc := 83) dX9_court_83 l_X9_120 e9 ?_
    clear e9
    refine P_aload_n (pc := 86) dX9_court_86 rfl ?_
    obtain ⟨o29, e9, k⟩ := k
    refine G9_8 (pc := 87) dX9_court_87 l_X9_61 e9 ?_
    clear e9
    obtain ⟨x30, e9, k⟩ := k
    refine GN1_7 (pc := 90) dX9_court_90 n_X9_123 e9 ?_
    clear e9
    exact R_ireturn (pc := 93) dX9_court_93 rfl rfl k
  · have k := k.1 c
    refine P_aload_n (pc := 22) dX9_court_22 rfl ?_
    obtain ⟨o31, e9, k⟩ := k
    refine G9_0 (pc := 23) dX9_court_23 l_X9_12 e9 ?_
    clear e9
    obtain ⟨x32, e9, k⟩ := k
    refine GN8_5 (pc := 26) dX9_court_26 n_X9_111 e9 ?_
    clear e9
    refine P_bipush (v := (10 : Int32)) (pc := 29) dX9_court_29 (by decide) ?_
    refine P_isub (pc := 31) dX9_court_31 ?_
    exact R_ireturn (pc := 32) dX9_court_32 rfl rfl k
-- X9_law law(I)I
theorem dX9_law_0 : decode cX9_law 0 = .ok (.aload_n 0, 1) := by decide +kernel
theorem dX9_law_1 : decode cX9_law 1 = .ok (.iload_n 1, 1) := by decide +kernel
theorem dX9_law_2 : decode cX9_law 2 = .ok (.sipush 150, 3) := by decide +kernel
theorem dX9_law_5 : decode cX9_law 5 = .ok (.invokevirtual 103, 3) := by decide +kernel
theorem dX9_law_8 : decode cX9_law 8 = .ok (.aload_n 0, 1) := by decide +kernel
theorem dX9_law_9 : decode cX9_law 9 = .ok (.getfield 75, 3) := by decide +kernel
theorem dX9_law_12 : decode cX9_law 12 = .ok (.aload_n 0, 1) := by decide +kernel
theorem dX9_law_13 : decode cX9_law 13 = .ok (.getfield 12, 3) := by decide +kernel
theorem dX9_law_16 : decode cX9_law 16 = .ok (.invokevirtual 126, 3) := by decide +kernel
theorem dX9_law_19 : decode cX9_law 19 = .ok (.ifCond .ne 14, 3) := by decide +kernel
theorem dX9_law_22 : decode cX9_law 22 = .ok (.aload_n 0, 1) := by decide +kernel
theorem dX9_law_23 : decode cX9_law 23 = .ok (.getfield 12, 3) := by decide +kernel
theorem dX9_law_26 : decode cX9_law 26 = .ok (.getfield 111, 3) := by decide +kernel
theorem dX9_law_29 : decode cX9_law 29 = .ok (.bipush 10, 2) := by decide +kernel
theorem dX9_law_31 : decode cX9_law 31 = .ok (.isub, 1) := by decide +kernel
theorem dX9_law_32 : decode cX9_law 32 = .ok (.ireturn, 1) := by decide +kernel
theorem dX9_law_33 : decode cX9_law 33 = .ok (.aload_n 0, 1) := by decide +kernel
theorem dX9_law_34 : decode cX9_law 34 = .ok (.getfield 75, 3) := by decide +kernel
theorem dX9_law_37 : decode cX9_law 37 = .ok (.astore_n 2, 1) := by decide +kernel
theorem dX9_law_38 : decode cX9_law 38 = .ok (.aload_n 0, 1) := by decide +kernel
theorem dX9_law_39 : decode cX9_law 39 = .ok (.aload_n 0, 1) := by decide +kernel
theorem dX9_law_40 : decode cX9_law 40 = .ok (.getfield 71, 3) := by decide +kernel
theorem dX9_law_43 : decode cX9_law 43 = .ok (.putfield 75, 3) := by decide +kernel
theorem dX9_law_46 : decode cX9_law 46 = .ok (.aload_n 0, 1) := by decide +kernel
theorem dX9_law_47 : decode cX9_law 47 = .ok (.aload_n 2, 1) := by decide +kernel
theorem dX9_law_48 : decode cX9_law 48 = .ok (.putfield 71, 3) := by decide +kernel
theorem dX9_law_51 : decode cX9_law 51 = .ok (.iconst 1, 1) := by decide +kernel
theorem dX9_law_52 : decode cX9_law 52 = .ok (.ireturn, 1) := by decide +kernel
theorem r_X9_law_0 {d rc rs : Nat} {Q : PO → PH → Prop} {h : PH} {l0 : Nat} {l1 : Int32}
    (k : isO h 10900 l0 ∧ cl d rc rs M_X9_beginText [vR (900, l0), vI l1, vI (150 : Int32)] h (kV fun h1 rc2 rs3 => gO h1 (10911, l0) 300 fun o4 => gO h1 (10900, l0) 800 fun o5 => isO h1 10300 o4 ∧ cl d rc2 rs3 M_X3_read [vR (300, o4), vR (800, o5)] h1 (kI fun x9 h6 rc7 rs8 => br (x9 = 0) (gO h6 (10900, l0) 800 fun o14 => gI h6 (10805, o14) fun x15 => Q (.inl (some (vI (x15 - (10 : Int32))))) h6) (gO h6 (10911, l0) 300 fun o10 => gO h6 (10910, l0) 300 fun o11 => sF h6 (10911, l0) (vR (300, o11)) fun h12 => sF h12 (10910, l0) (vR (300, o10)) fun h13 => Q (.inl (some (vI (1 : Int32)))) h13)) (fun E h6 rc7 rs8 => Q (.inr E) h6)) (fun E h1 rc2 rs3 => Q (.inr E) h1)) :
    PW d M_X9_law Q rc rs 0 [vR (900, l0), vI l1, vU] [] h := by
  refine P_aload_n (pc := 0) dX9_law_0 rfl ?_
  refine P_iload_n (pc := 1) dX9_law_1 rfl ?_
  refine P_sipush (v := (150 : Int32)) (pc := 2) dX9_law_2 (by decide) ?_
  obtain ⟨⟨w9, e9⟩, d2, nc, ns, rc2, rs3, Qc, g1, rfl, rfl, g2, kk, kx⟩ := k
  refine P_callV (ci := 9) (k := 0) (id := l0) (q := (RX9, TX9, 18)) (As := [vI l1, vI (150 : Int32)]) (st := []) (pc := 5) dX9_law_5 mk_X9_beginText l_X9_103 im_X9_beginText se_X9_beginText ini_X9 rfl g1 (Nat.le_of_ble_eq_true rfl) rfl rfl (by decide) e9 rfl g2 (fun v9 h9 q9 => ?_) (fun E h9 q9 => PX_out rfl (kx E h9 q9))
  obtain ⟨rfl, k⟩ := kk v9 h9 q9
  clear kk kx g1 g2 q9
  refine P_aload_n (pc := 8) dX9_law_8 rfl ?_
  obtain ⟨o4, e9, k⟩ := k
  refine G9_11 (pc := 9) dX9_law_9 l_X9_75 e9 ?_
  clear e9
  refine P_aload_n (pc := 12) dX9_law_12 rfl ?_
  obtain ⟨o5, e9, k⟩ := k
  refine G9_0 (pc := 13) dX9_law_13 l_X9_12 e9 ?_
  clear e9
  obtain ⟨⟨w9, e9⟩, d2, nc, ns, rc7, rs8, Qc, g1, rfl, rfl, g2, kk, kx⟩ := k
  refine P_callV (ci := 3) (k := 0) (id := o4) (q := (RX3, TX3, 5)) (As := [vR (800, o5)]) (st := []) (pc := 16) dX9_law_16 mk_X3_read l_X9_126 im_X3_read se_X3_read ini_X3 rfl g1 (Nat.le_of_ble_eq_true rfl) rfl rfl (by decide) e9 rfl g2 (fun v9 h9 q9 => ?_) (fun E h9 q9 => PX_out rfl (kx E h9 q9))
  obtain ⟨x9, rfl, k⟩ := kk v9 h9 q9
  clear kk kx g1 g2 q9
  refine P_if_ne (tgt := 33) (pc := 19) dX9_law_19 (by decide) (fun c => ?_) (fun c => ?_)
  · have k := k.2 c
    refine P_aload_n (pc := 33) dX9_law_33 rfl ?_
    obtain ⟨o10, e9, k⟩ := k
    refine G9_11 (pc := 34) dX9_law_34 l_X9_75 e9 ?_
    clear e9
    refine P_astore_n (pc := 37) dX9_law_37 (by decide) (Or.inr (by intro z e9; cases e9)) rfl ?_
    refine P_aload_n (pc := 38) dX9_law_38 rfl ?_
    refine P_aload_n (pc := 39) dX9_law_39 rfl ?_
    obtain ⟨o11, e9, k⟩ := k
    refine G9_10 (pc := 40) dX9_law_40 l_X9_71 e9 ?_
    clear e9
    obtain ⟨⟨v9, e9⟩, k⟩ := k
    refine S9_11 (pc := 43) dX9_law_43 l_X9_75 e9 ?_
    clear e9
    refine P_aload_n (pc := 46) dX9_law_46 rfl ?_
    refine P_aload_n (pc := 47) dX9_law_47 rfl ?_
    obtain ⟨⟨v9, e9⟩, k⟩ := k
    refine S9_10 (pc := 48) dX9_law_48 l_X9_71 e9 ?_
    clear e9
    refine P_iconst (v := (1 : Int32)) (pc := 51) dX9_law_51 (by decide) ?_
    exact R_ireturn (pc := 52) dX9_law_52 rfl rfl k
  · have k := k.1 c
    refine P_aload_n (pc := 22) dX9_law_22 rfl ?_
    obtain ⟨o14, e9, k⟩ := k
    refine G9_0 (pc := 23) dX9_law_23 l_X9_12 e9 ?_
    clear e9
    obtain ⟨x15, e9, k⟩ := k
    refine GN8_5 (pc := 26) dX9_law_26 n_X9_111 e9 ?_
    clear e9
    refine P_bipush (v := (10 : Int32)) (pc := 29) dX9_law_29 (by decide) ?_
    refine P_isub (pc := 31) dX9_law_31 ?_
    exact R_ireturn (pc := 32) dX9_law_32 rfl rfl k
-- X9_work work(I)I
theorem dX9_work_0 : decode cX9_work 0 = .ok (.aload_n 0, 1) := by decide +kernel
theorem dX9_work_1 : decode cX9_work 1 = .ok (.iload_n 1, 1) := by decide +kernel
theorem dX9_work_2 : decode cX9_work 2 = .ok (.sipush 150, 3) := by decide +kernel
theorem dX9_work_5 : decode cX9_work 5 = .ok (.invokevirtual 103, 3) := by decide +kernel
theorem dX9_work_8 : decode cX9_work 8 = .ok (.aload_n 0, 1) := by decide +kernel
theorem dX9_work_9 : decode cX9_work 9 = .ok (.getfield 26, 3) := by decide +kernel
theorem dX9_work_12 : decode cX9_work 12 = .ok (.getfield 127, 3) := by decide +kernel
theorem dX9_work_15 : decode cX9_work 15 = .ok (.bipush 16, 2) := by decide +kernel
theorem dX9_work_17 : decode cX9_work 17 = .ok (.if_icmp .lt 6, 3) := by decide +kernel
theorem dX9_work_20 : decode cX9_work 20 = .ok (.bipush (-20), 2) := by decide +kernel
theorem dX9_work_22 : decode cX9_work 22 = .ok (.ireturn, 1) := by decide +kernel
theorem dX9_work_23 : decode cX9_work 23 = .ok (.aload_n 0, 1) := by decide +kernel
theorem dX9_work_24 : decode cX9_work 24 = .ok (.getfield 19, 3) := by decide +kernel
theorem dX9_work_27 : decode cX9_work 27 = .ok (.aload_n 0, 1) := by decide +kernel
theorem dX9_work_28 : decode cX9_work 28 = .ok (.getfield 12, 3) := by decide +kernel
theorem dX9_work_31 : decode cX9_work 31 = .ok (.aload_n 0, 1) := by decide +kernel
theorem dX9_work_32 : decode cX9_work 32 = .ok (.getfield 61, 3) := by decide +kernel
theorem dX9_work_35 : decode cX9_work 35 = .ok (.getfield 123, 3) := by decide +kernel
theorem dX9_work_38 : decode cX9_work 38 = .ok (.invokevirtual 130, 3) := by decide +kernel
theorem dX9_work_41 : decode cX9_work 41 = .ok (.ifCond .ne 14, 3) := by decide +kernel
theorem dX9_work_44 : decode cX9_work 44 = .ok (.aload_n 0, 1) := by decide +kernel
theorem dX9_work_45 : decode cX9_work 45 = .ok (.getfield 12, 3) := by decide +kernel
theorem dX9_work_48 : decode cX9_work 48 = .ok (.getfield 111, 3) := by decide +kernel
theorem dX9_work_51 : decode cX9_work 51 = .ok (.bipush 10, 2) := by decide +kernel
theorem dX9_work_53 : decode cX9_work 53 = .ok (.isub, 1) := by decide +kernel
theorem dX9_work_54 : decode cX9_work 54 = .ok (.ireturn, 1) := by decide +kernel
theorem dX9_work_55 : decode cX9_work 55 = .ok (.aload_n 0, 1) := by decide +kernel
theorem dX9_work_56 : decode cX9_work 56 = .ok (.getfield 26, 3) := by decide +kernel
theorem dX9_work_59 : decode cX9_work 59 = .ok (.invokevirtual 133, 3) := by decide +kernel
theorem dX9_work_62 : decode cX9_work 62 = .ok (.aload_n 0, 1) := by decide +kernel
theorem dX9_work_63 : decode cX9_work 63 = .ok (.getfield 19, 3) := by decide +kernel
theorem dX9_work_66 : decode cX9_work 66 = .ok (.aload_n 0, 1) := by decide +kernel
theorem dX9_work_67 : decode cX9_work 67 = .ok (.getfield 26, 3) := by decide +kernel
theorem dX9_work_70 : decode cX9_work 70 = .ok (.getfield 136, 3) := by decide +kernel
theorem dX9_work_73 : decode cX9_work 73 = .ok (.aload_n 0, 1) := by decide +kernel
theorem dX9_work_74 : decode cX9_work 74 = .ok (.getfield 61, 3) := by decide +kernel
theorem dX9_work_77 : decode cX9_work 77 = .ok (.aload_n 0, 1) := by decide +kernel
theorem dX9_work_78 : decode cX9_work 78 = .ok (.getfield 71, 3) := by decide +kernel
theorem dX9_work_81 : decode cX9_work 81 = .ok (.invokevirtual 139, 3) := by decide +kernel
theorem dX9_work_84 : decode cX9_work 84 = .ok (.aload_n 0, 1) := by decide +kernel
theorem dX9_work_85 : decode cX9_work 85 = .ok (.aload_n 0, 1) := by decide +kernel
theorem dX9_work_86 : decode cX9_work 86 = .ok (.getfield 19, 3) := by decide +kernel
theorem dX9_work_89 : decode cX9_work 89 = .ok (.getfield 143, 3) := by decide +kernel
theorem dX9_work_92 : decode cX9_work 92 = .ok (.putfield 120, 3) := by decide +kernel
theorem dX9_work_95 : decode cX9_work 95 = .ok (.aload_n 0, 1) := by decide +kernel
theorem dX9_work_96 : decode cX9_work 96 = .ok (.getfield 19, 3) := by decide +kernel
theorem dX9_work_99 : decode cX9_work 99 = .ok (.getfield 146, 3) := by decide +kernel
theorem dX9_work_102 : decode cX9_work 102 = .ok (.ireturn, 1) := by decide +kernel
theorem r_X9_work_0 {d rc rs : Nat} {Q : PO → PH → Prop} {h : PH} {l0 : Nat} {l1 : Int32}
    (k : isO h 10900 l0 ∧ cl d rc rs M_X9_beginText [vR (900, l0), vI l1, vI (150 : Int32)] h (kV fun h1 rc2 rs3 => gO h1 (10902, l0) 200 fun o4 => gI h1 (10202, o4) fun x5 => br (x5 < (16 : Int32)) (gO h1 (10901, l0) 700 fun o6 => gO h1 (10900, l0) 800 fun o7 => gO h1 (10908, l0) 100 fun o8 => gI h1 (10107, o8) fun x9 => isO h1 10700 o6 ∧ cl d rc2 rs3 M_X7_read [vR (700, o6), vR (800, o7), vI x9] h1 (kI fun x13 h10 rc11 rs12 => br (x13 = 0) (gO h10 (10900, l0) 800 fun o31 => gI h10 (10805, o31) fun x32 => Q (.inl (some (vI (x32 - (10 : Int32))))) h10) (gO h10 (10902, l0) 200 fun o14 => isO h10 10200 o14 ∧ cl d rc11 rs12 M_X2_keep [vR (200, o14)] h10 (kV fun h15 rc16 rs17 => gO h15 (10901, l0) 700 fun o18 => gO h15 (10902, l0) 200 fun o19 => gO h15 (10200, o19) 400 fun o20 => gO h15 (10908, l0) 100 fun o21 => gO h15 (10910, l0) 300 fun o22 => isO h15 10700 o18 ∧ cl d rc16 rs17 M_X7_run [vR (700, o18), vR (400, o20), vR (100, o21), vR (300, o22)] h15 (kV fun h23 rc24 rs25 => gO h23 (10901, l0) 700 fun o26 => gI h23 (10707, o26) fun x27 => sF h23 (10915, l0) (vI x27) fun h28 => gO h28 (10901, l0) 700 fun o29 => gI h28 (10706, o29) fun x30 => Q (.inl (some (vI x30))) h28) (fun E h23 rc24 rs25 => Q (.inr E) h23)) (fun E h15 rc16 rs17 => Q (.inr E) h15))) (fun E h10 rc11 rs12 => Q (.inr E) h10)) (Q (.inl (some (vI (-20 : Int32)))) h1)) (fun E h1 rc2 rs3 => Q (.inr E) h1)) :
    PW d M_X9_work Q rc rs 0 [vR (900, l0), vI l1] [] h := by
  refine P_aload_n (pc := 0) dX9_work_0 rfl ?_
  refine P_iload_n (pc := 1) dX9_work_1 rfl ?_
  refine P_sipush (v := (150 : Int32)) (pc := 2) dX9_work_2 (by decide) ?_
  obtain ⟨⟨w9, e9⟩, d2, nc, ns, rc2, rs3, Qc, g1, rfl, rfl, g2, kk, kx⟩ := k
  refine P_callV (ci := 9) (k := 0) (id := l0) (q := (RX9, TX9, 18)) (As := [vI l1, vI (150 : Int32)]) (st := []) (pc := 5) dX9_work_5 mk_X9_beginText l_X9_103 im_X9_beginText se_X9_beginText ini_X9 rfl g1 (Nat.le_of_ble_eq_true rfl) rfl rfl (by decide) e9 rfl g2 (fun v9 h9 q9 => ?_) (fun E h9 q9 => PX_out rfl (kx E h9 q9))
  obtain ⟨rfl, k⟩ := kk v9 h9 q9
  clear kk kx g1 g2 q9
  refine P_aload_n (pc := 8) dX9_work_8 rfl ?_
  obtain ⟨o4, e9, k⟩ := k
  refine G9_2 (pc := 9) dX9_work_9 l_X9_26 e9 ?_
  clear e9
  obtain ⟨x5, e9, k⟩ := k
  refine GN2_2 (pc := 12) dX9_work_12 n_X9_127 e9 ?_
  clear e9
  refine P_bipush (v := (16 : Int32)) (pc := 15) dX9_work_15 (by decide) ?_
  refine P_icmp_lt (tgt := 23) (pc := 17) dX9_work_17 (by decide) (fun c => ?_) (fun c => ?_)
  · have k := k.1 c
    refine P_aload_n (pc := 23) dX9_work_23 rfl ?_
    obtain ⟨o6, e9, k⟩ := k
    refine G9_1 (pc := 24) dX9_work_24 l_X9_19 e9 ?_
    clear e9
    refine P_aload_n (pc := 27) dX9_work_27 rfl ?_
    obtain ⟨o7, e9, k⟩ := k
    refine G9_0 (pc := 28) dX9_work_28 l_X9_12 e9 ?_
    clear e9
    refine P_aload_n (pc := 31) dX9_work_31 rfl ?_
    obtain ⟨o8, e9, k⟩ := k
    refine G9_8 (pc := 32) dX9_work_32 l_X9_61 e9 ?_
    clear e9
    obtain ⟨x9, e9, k⟩ := k
    refine GN1_7 (pc := 35) dX9_work_35 n_X9_123 e9 ?_
    clear e9
    obtain ⟨⟨w9, e9⟩, d2, nc, ns, rc11, rs12, Qc, g1, rfl, rfl, g2, kk, kx⟩ := k
    refine P_callV (ci := 7) (k := 0) (id := o6) (q := (RX7, TX7, 8)) (As := [vR (800, o7), vI x9]) (st := []) (pc := 38) dX9_work_38 mk_X7_read l_X9_130 im_X7_read se_X7_read ini_X7 rfl g1 (Nat.le_of_ble_eq_true rfl) rfl rfl (by decide) e9 rfl g2 (fun v9 h9 q9 => ?_) (fun E h9 q9 => PX_out rfl (kx E h9 q9))
    obtain ⟨x13, rfl, k⟩ := kk v9 h9 q9
    clear kk kx g1 g2 q9
    refine P_if_ne (tgt := 55) (pc := 41) dX9_work_41 (by decide) (fun c => ?_) (fun c => ?_)
    · have k := k.2 c
      refine P_aload_n (pc := 55) dX9_work_55 rfl ?_
      obtain ⟨o14, e9, k⟩ := k
      refine G9_2 (pc := 56) dX9_work_56 l_X9_26 e9 ?_
      clear e9
      obtain ⟨⟨w9, e9⟩, d2, nc, ns, rc16, rs17, Qc, g1, rfl, rfl, g2, kk, kx⟩ := k
      refine P_callV (ci := 2) (k := 0) (id := o14) (q := (RX2, TX2, 3)) (As := []) (st := []) (pc := 59) dX9_work_59 mk_X2_keep l_X9_133 im_X2_keep se_X2_keep ini_X2 rfl g1 (Nat.le_of_ble_eq_true rfl) rfl rfl (by decide) e9 rfl g2 (fun v9 h9 q9 => ?_) (fun E h9 q9 => PX_out rfl (kx E h9 q9))
      obtain ⟨rfl, k⟩ := kk v9 h9 q9
      clear kk kx g1 g2 q9
      refine P_aload_n (pc := 62) dX9_work_62 rfl ?_
      obtain ⟨o18, e9, k⟩ := k
      refine G9_1 (pc := 63) dX9_work_63 l_X9_19 e9 ?_
      clear e9
      refine P_aload_n (pc := 66) dX9_work_66 rfl ?_
      obtain ⟨o19, e9, k⟩ := k
      refine G9_2 (pc := 67) dX9_work_67 l_X9_26 e9 ?_
      clear e9
      obtain ⟨o20, e9, k⟩ := k
      refine GN2_0 (pc := 70) dX9_work_70 n_X9_136 e9 ?_
      clear e9
      refine P_aload_n (pc := 73) dX9_work_73 rfl ?_
      obtain ⟨o21, e9, k⟩ := k
      refine G9_8 (pc := 74) dX9_work_74 l_X9_61 e9 ?_
      clear e9
      refine P_aload_n (pc := 77) dX9_work_77 rfl ?_
      obtain ⟨o22, e9, k⟩ := k
      refine G9_10 (pc := 78) dX9_work_78 l_X9_71 e9 ?_
      clear e9
      obtain ⟨⟨w9, e9⟩, d2, nc, ns, rc24, rs25, Qc, g1, rfl, rfl, g2, kk, kx⟩ := k
      refine P_callV (ci := 7) (k := 0) (id := o18) (q := (RX7, TX7, 8)) (As := [vR (400, o20), vR (100, o21), vR (300, o22)]) (st := []) (pc := 81) dX9_work_81 mk_X7_run l_X9_139 im_X7_run se_X7_run ini_X7 rfl g1 (Nat.le_of_ble_eq_true rfl) rfl rfl (by decide) e9 rfl g2 (fun v9 h9 q9 => ?_) (fun E h9 q9 => PX_out rfl (kx E h9 q9))
      obtain ⟨rfl, k⟩ := kk v9 h9 q9
      clear kk kx g1 g2 q9
      refine P_aload_n (pc := 84) dX9_work_84 rfl ?_
      refine P_aload_n (pc := 85) dX9_work_85 rfl ?_
      obtain ⟨o26, e9, k⟩ := k
      refine G9_1 (pc := 86) dX9_work_86 l_X9_19 e9 ?_
      clear e9
      obtain ⟨x27, e9, k⟩ := k
      refine GN7_7 (pc := 89) dX9_work_89 n_X9_143 e9 ?_
      clear e9
      obtain ⟨⟨v9, e9⟩, k⟩ := k
      refine S9_15 (pc := 92) dX9_work_92 l_X9_120 e9 ?_
      clear e9
      refine P_aload_n (pc := 95) dX9_work_95 rfl ?_
      obtain ⟨o29, e9, k⟩ := k
      refine G9_1 (pc := 96) dX9_work_96 l_X9_19 e9 ?_
      clear e9
      obtain ⟨x30, e9, k⟩ := k
      refine GN7_6 (pc := 99) dX9_work_99 n_X9_146 e9 ?_
      clear e9
      exact R_ireturn (pc := 102) dX9_work_102 rfl rfl k
    · have k := k.1 c
      refine P_aload_n (pc := 44) dX9_work_44 rfl ?_
      obtain ⟨o31, e9, k⟩ := k
      refine G9_0 (pc := 45) dX9_work_45 l_X9_12 e9 ?_
      clear e9
      obtain ⟨x32, e9, k⟩ := k
      refine GN8_5 (pc := 48) dX9_work_48 n_X9_111 e9 ?_
      clear e9
      refine P_bipush (v := (10 : Int32)) (pc := 51) dX9_work_51 (by decide) ?_
      refine P_isub (pc := 53) dX9_work_53 ?_
      exact R_ireturn (pc := 54) dX9_work_54 rfl rfl k
  · have k := k.2 c
    refine P_bipush (v := (-20 : Int32)) (pc := 20) dX9_work_20 (by decide) ?_
    exact R_ireturn (pc := 22) dX9_work_22 rfl rfl k
-- X9_book book(I)I
theorem dX9_book_0 : decode cX9_book 0 = .ok (.aload_n 0, 1) := by decide +kernel
theorem dX9_book_1 : decode cX9_book 1 = .ok (.iload_n 1, 1) := by decide +kernel
theorem dX9_book_2 : decode cX9_book 2 = .ok (.bipush 60, 2) := by decide +kernel
theorem dX9_book_4 : decode cX9_book 4 = .ok (.invokevirtual 103, 3) := by decide +kernel
theorem dX9_book_7 : decode cX9_book 7 = .ok (.aload_n 0, 1) := by decide +kernel
theorem dX9_book_8 : decode cX9_book 8 = .ok (.getfield 85, 3) := by decide +kernel
theorem dX9_book_11 : decode cX9_book 11 = .ok (.aload_n 0, 1) := by decide +kernel
theorem dX9_book_12 : decode cX9_book 12 = .ok (.getfield 12, 3) := by decide +kernel
theorem dX9_book_15 : decode cX9_book 15 = .ok (.invokevirtual 149, 3) := by decide +kernel
theorem dX9_book_18 : decode cX9_book 18 = .ok (.ifCond .ne 14, 3) := by decide +kernel
theorem dX9_book_21 : decode cX9_book 21 = .ok (.aload_n 0, 1) := by decide +kernel
theorem dX9_book_22 : decode cX9_book 22 = .ok (.getfield 12, 3) := by decide +kernel
theorem dX9_book_25 : decode cX9_book 25 = .ok (.getfield 111, 3) := by decide +kernel
theorem dX9_book_28 : decode cX9_book 28 = .ok (.bipush 10, 2) := by decide +kernel
theorem dX9_book_30 : decode cX9_book 30 = .ok (.isub, 1) := by decide +kernel
theorem dX9_book_31 : decode cX9_book 31 = .ok (.ireturn, 1) := by decide +kernel
theorem dX9_book_32 : decode cX9_book 32 = .ok (.aload_n 0, 1) := by decide +kernel
theorem dX9_book_33 : decode cX9_book 33 = .ok (.getfield 85, 3) := by decide +kernel
theorem dX9_book_36 : decode cX9_book 36 = .ok (.astore_n 2, 1) := by decide +kernel
theorem dX9_book_37 : decode cX9_book 37 = .ok (.aload_n 0, 1) := by decide +kernel
theorem dX9_book_38 : decode cX9_book 38 = .ok (.aload_n 0, 1) := by decide +kernel
theorem dX9_book_39 : decode cX9_book 39 = .ok (.getfield 81, 3) := by decide +kernel
theorem dX9_book_42 : decode cX9_book 42 = .ok (.putfield 85, 3) := by decide +kernel
theorem dX9_book_45 : decode cX9_book 45 = .ok (.aload_n 0, 1) := by decide +kernel
theorem dX9_book_46 : decode cX9_book 46 = .ok (.aload_n 2, 1) := by decide +kernel
theorem dX9_book_47 : decode cX9_book 47 = .ok (.putfield 81, 3) := by decide +kernel
theorem dX9_book_50 : decode cX9_book 50 = .ok (.aload_n 0, 1) := by decide +kernel
theorem dX9_book_51 : decode cX9_book 51 = .ok (.getfield 81, 3) := by decide +kernel
theorem dX9_book_54 : decode cX9_book 54 = .ok (.getfield 150, 3) := by decide +kernel
theorem dX9_book_57 : decode cX9_book 57 = .ok (.ireturn, 1) := by decide +kernel
theorem r_X9_book_0 {d rc rs : Nat} {Q : PO → PH → Prop} {h : PH} {l0 : Nat} {l1 : Int32}
    (k : isO h 10900 l0 ∧ cl d rc rs M_X9_beginText [vR (900, l0), vI l1, vI (60 : Int32)] h (kV fun h1 rc2 rs3 => gO h1 (10913, l0) 0 fun o4 => gO h1 (10900, l0) 800 fun o5 => isO h1 10000 o4 ∧ cl d rc2 rs3 M_X0_read [vR (0, o4), vR (800, o5)] h1 (kI fun x9 h6 rc7 rs8 => br (x9 = 0) (gO h6 (10900, l0) 800 fun o16 => gI h6 (10805, o16) fun x17 => Q (.inl (some (vI (x17 - (10 : Int32))))) h6) (gO h6 (10913, l0) 0 fun o10 => gO h6 (10912, l0) 0 fun o11 => sF h6 (10913, l0) (vR (0, o11)) fun h12 => sF h12 (10912, l0) (vR (0, o10)) fun h13 => gO h13 (10912, l0) 0 fun o14 => gI h13 (10001, o14) fun x15 => Q (.inl (some (vI x15))) h13)) (fun E h6 rc7 rs8 => Q (.inr E) h6)) (fun E h1 rc2 rs3 => Q (.inr E) h1)) :
    PW d M_X9_book Q rc rs 0 [vR (900, l0), vI l1, vU] [] h := by
  refine P_aload_n (pc := 0) dX9_book_0 rfl ?_
  refine P_iload_n (pc := 1) dX9_book_1 rfl ?_
  refine P_bipush (v := (60 : Int32)) (pc := 2) dX9_book_2 (by decide) ?_
  obtain ⟨⟨w9, e9⟩, d2, nc, ns, rc2, rs3, Qc, g1, rfl, rfl, g2, kk, kx⟩ := k
  refine P_callV (ci := 9) (k := 0) (id := l0) (q := (RX9, TX9, 18)) (As := [vI l1, vI (60 : Int32)]) (st := []) (pc := 4) dX9_book_4 mk_X9_beginText l_X9_103 im_X9_beginText se_X9_beginText ini_X9 rfl g1 (Nat.le_of_ble_eq_true rfl) rfl rfl (by decide) e9 rfl g2 (fun v9 h9 q9 => ?_) (fun E h9 q9 => PX_out rfl (kx E h9 q9))
  obtain ⟨rfl, k⟩ := kk v9 h9 q9
  clear kk kx g1 g2 q9
  refine P_aload_n (pc := 7) dX9_book_7 rfl ?_
  obtain ⟨o4, e9, k⟩ := k
  refine G9_13 (pc := 8) dX9_book_8 l_X9_85 e9 ?_
  clear e9
  refine P_aload_n (pc := 11) dX9_book_11 rfl ?_
  obtain ⟨o5, e9, k⟩ := k
  refine G9_0 (pc := 12) dX9_book_12 l_X9_12 e9 ?_
  clear e9
  obtain ⟨⟨w9, e9⟩, d2, nc, ns, rc7, rs8, Qc, g1, rfl, rfl, g2, kk, kx⟩ := k
  refine P_callV (ci := 0) (k := 0) (id := o4) (q := (RX0, TX0, 2)) (As := [vR (800, o5)]) (st := []) (pc := 15) dX9_book_15 mk_X0_read l_X9_149 im_X0_read se_X0_read ini_X0 rfl g1 (Nat.le_of_ble_eq_true rfl) rfl rfl (by decide) e9 rfl g2 (fun v9 h9 q9 => ?_) (fun E h9 q9 => PX_out rfl (kx E h9 q9))
  obtain ⟨x9, rfl, k⟩ := kk v9 h9 q9
  clear kk kx g1 g2 q9
  refine P_if_ne (tgt := 32) (pc := 18) dX9_book_18 (by decide) (fun c => ?_) (fun c => ?_)
  · have k := k.2 c
    refine P_aload_n (pc := 32) dX9_book_32 rfl ?_
    obtain ⟨o10, e9, k⟩ := k
    refine G9_13 (pc := 33) dX9_book_33 l_X9_85 e9 ?_
    clear e9
    refine P_astore_n (pc := 36) dX9_book_36 (by decide) (Or.inr (by intro z e9; cases e9)) rfl ?_
    refine P_aload_n (pc := 37) dX9_book_37 rfl ?_
    refine P_aload_n (pc := 38) dX9_book_38 rfl ?_
    obtain ⟨o11, e9, k⟩ := k
    refine G9_12 (pc := 39) dX9_book_39 l_X9_81 e9 ?_
    clear e9
    obtain ⟨⟨v9, e9⟩, k⟩ := k
    refine S9_13 (pc := 42) dX9_book_42 l_X9_85 e9 ?_
    clear e9
    refine P_aload_n (pc := 45) dX9_book_45 rfl ?_
    refine P_aload_n (pc := 46) dX9_book_46 rfl ?_
    obtain ⟨⟨v9, e9⟩, k⟩ := k
    refine S9_12 (pc := 47) dX9_book_47 l_X9_81 e9 ?_
    clear e9
    refine P_aload_n (pc := 50) dX9_book_50 rfl ?_
    obtain ⟨o14, e9, k⟩ := k
    refine G9_12 (pc := 51) dX9_book_51 l_X9_81 e9 ?_
    clear e9
    obtain ⟨x15, e9, k⟩ := k
    refine GN0_1 (pc := 54) dX9_book_54 n_X9_150 e9 ?_
    clear e9
    exact R_ireturn (pc := 57) dX9_book_57 rfl rfl k
  · have k := k.1 c
    refine P_aload_n (pc := 21) dX9_book_21 rfl ?_
    obtain ⟨o16, e9, k⟩ := k
    refine G9_0 (pc := 22) dX9_book_22 l_X9_12 e9 ?_
    clear e9
    obtain ⟨x17, e9, k⟩ := k
    refine GN8_5 (pc := 25) dX9_book_25 n_X9_111 e9 ?_
    clear e9
    refine P_bipush (v := (10 : Int32)) (pc := 28) dX9_book_28 (by decide) ?_
    refine P_isub (pc := 30) dX9_book_30 ?_
    exact R_ireturn (pc := 31) dX9_book_31 rfl rfl k
-- X9_fault fault()I
theorem dX9_fault_0 : decode cX9_fault 0 = .ok (.aload_n 0, 1) := by decide +kernel
theorem dX9_fault_1 : decode cX9_fault 1 = .ok (.getfield 12, 3) := by decide +kernel
theorem dX9_fault_4 : decode cX9_fault 4 = .ok (.getfield 153, 3) := by decide +kernel
theorem dX9_fault_7 : decode cX9_fault 7 = .ok (.ireturn, 1) := by decide +kernel
theorem r_X9_fault_0 {d rc rs : Nat} {Q : PO → PH → Prop} {h : PH} {l0 : Nat}
    (k : gO h (10900, l0) 800 fun o1 => gI h (10806, o1) fun x2 => Q (.inl (some (vI x2))) h) :
    PW d M_X9_fault Q rc rs 0 [vR (900, l0)] [] h := by
  refine P_aload_n (pc := 0) dX9_fault_0 rfl ?_
  obtain ⟨o1, e9, k⟩ := k
  refine G9_0 (pc := 1) dX9_fault_1 l_X9_12 e9 ?_
  clear e9
  obtain ⟨x2, e9, k⟩ := k
  refine GN8_6 (pc := 4) dX9_fault_4 n_X9_153 e9 ?_
  clear e9
  exact R_ireturn (pc := 7) dX9_fault_7 rfl rfl k
-- X9_undo undo()I
theorem dX9_undo_0 : decode cX9_undo 0 = .ok (.aload_n 0, 1) := by decide +kernel
theorem dX9_undo_1 : decode cX9_undo 1 = .ok (.getfield 26, 3) := by decide +kernel
theorem dX9_undo_4 : decode cX9_undo 4 = .ok (.getfield 127, 3) := by decide +kernel
theorem dX9_undo_7 : decode cX9_undo 7 = .ok (.ifCond .gt 5, 3) := by decide +kernel
theorem dX9_undo_10 : decode cX9_undo 10 = .ok (.iconst (-1), 1) := by decide +kernel
theorem dX9_undo_11 : decode cX9_undo 11 = .ok (.ireturn, 1) := by decide +kernel
theorem dX9_undo_12 : decode cX9_undo 12 = .ok (.aload_n 0, 1) := by decide +kernel
theorem dX9_undo_13 : decode cX9_undo 13 = .ok (.getfield 26, 3) := by decide +kernel
theorem dX9_undo_16 : decode cX9_undo 16 = .ok (.invokevirtual 156, 3) := by decide +kernel
theorem dX9_undo_19 : decode cX9_undo 19 = .ok (.aload_n 0, 1) := by decide +kernel
theorem dX9_undo_20 : decode cX9_undo 20 = .ok (.iconst 0, 1) := by decide +kernel
theorem dX9_undo_21 : decode cX9_undo 21 = .ok (.putfield 120, 3) := by decide +kernel
theorem dX9_undo_24 : decode cX9_undo 24 = .ok (.aload_n 0, 1) := by decide +kernel
theorem dX9_undo_25 : decode cX9_undo 25 = .ok (.getfield 26, 3) := by decide +kernel
theorem dX9_undo_28 : decode cX9_undo 28 = .ok (.getfield 127, 3) := by decide +kernel
theorem dX9_undo_31 : decode cX9_undo 31 = .ok (.ireturn, 1) := by decide +kernel
theorem r_X9_undo_0 {d rc rs : Nat} {Q : PO → PH → Prop} {h : PH} {l0 : Nat}
    (k : gO h (10902, l0) 200 fun o1 => gI h (10202, o1) fun x2 => br (0 < x2) (gO h (10902, l0) 200 fun o3 => isO h 10200 o3 ∧ cl d rc rs M_X2_takeBack [vR (200, o3)] h (kV fun h4 rc5 rs6 => sF h4 (10915, l0) (vI (0 : Int32)) fun h7 => gO h7 (10902, l0) 200 fun o8 => gI h7 (10202, o8) fun x9 => Q (.inl (some (vI x9))) h7) (fun E h4 rc5 rs6 => Q (.inr E) h4)) (Q (.inl (some (vI (-1 : Int32)))) h)) :
    PW d M_X9_undo Q rc rs 0 [vR (900, l0)] [] h := by
  refine P_aload_n (pc := 0) dX9_undo_0 rfl ?_
  obtain ⟨o1, e9, k⟩ := k
  refine G9_2 (pc := 1) dX9_undo_1 l_X9_26 e9 ?_
  clear e9
  obtain ⟨x2, e9, k⟩ := k
  refine GN2_2 (pc := 4) dX9_undo_4 n_X9_127 e9 ?_
  clear e9
  refine P_if_gt (tgt := 12) (pc := 7) dX9_undo_7 (by decide) (fun c => ?_) (fun c => ?_)
  · have k := k.1 c
    refine P_aload_n (pc := 12) dX9_undo_12 rfl ?_
    obtain ⟨o3, e9, k⟩ := k
    refine G9_2 (pc := 13) dX9_undo_13 l_X9_26 e9 ?_
    clear e9
    obtain ⟨⟨w9, e9⟩, d2, nc, ns, rc5, rs6, Qc, g1, rfl, rfl, g2, kk, kx⟩ := k
    refine P_callV (ci := 2) (k := 0) (id := o3) (q := (RX2, TX2, 3)) (As := []) (st := []) (pc := 16) dX9_undo_16 mk_X2_takeBack l_X9_156 im_X2_takeBack se_X2_takeBack ini_X2 rfl g1 (Nat.le_of_ble_eq_true rfl) rfl rfl (by decide) e9 rfl g2 (fun v9 h9 q9 => ?_) (fun E h9 q9 => PX_out rfl (kx E h9 q9))
    obtain ⟨rfl, k⟩ := kk v9 h9 q9
    clear kk kx g1 g2 q9
    refine P_aload_n (pc := 19) dX9_undo_19 rfl ?_
    refine P_iconst (v := (0 : Int32)) (pc := 20) dX9_undo_20 (by decide) ?_
    obtain ⟨⟨v9, e9⟩, k⟩ := k
    refine S9_15 (pc := 21) dX9_undo_21 l_X9_120 e9 ?_
    clear e9
    refine P_aload_n (pc := 24) dX9_undo_24 rfl ?_
    obtain ⟨o8, e9, k⟩ := k
    refine G9_2 (pc := 25) dX9_undo_25 l_X9_26 e9 ?_
    clear e9
    obtain ⟨x9, e9, k⟩ := k
    refine GN2_2 (pc := 28) dX9_undo_28 n_X9_127 e9 ?_
    clear e9
    exact R_ireturn (pc := 31) dX9_undo_31 rfl rfl k
  · have k := k.2 c
    refine P_iconst (v := (-1 : Int32)) (pc := 10) dX9_undo_10 (by decide) ?_
    exact R_ireturn (pc := 11) dX9_undo_11 rfl rfl k
-- X9_told told(I)I
theorem dX9_told_0 : decode cX9_told 0 = .ok (.aload_n 0, 1) := by decide +kernel
theorem dX9_told_1 : decode cX9_told 1 = .ok (.iload_n 1, 1) := by decide +kernel
theorem dX9_told_2 : decode cX9_told 2 = .ok (.iconst 0, 1) := by decide +kernel
theorem dX9_told_3 : decode cX9_told 3 = .ok (.bipush 11, 2) := by decide +kernel
theorem dX9_told_5 : decode cX9_told 5 = .ok (.invokevirtual 159, 3) := by decide +kernel
theorem dX9_told_8 : decode cX9_told 8 = .ok (.aload_n 0, 1) := by decide +kernel
theorem dX9_told_9 : decode cX9_told 9 = .ok (.getfield 26, 3) := by decide +kernel
theorem dX9_told_12 : decode cX9_told 12 = .ok (.getfield 136, 3) := by decide +kernel
theorem dX9_told_15 : decode cX9_told 15 = .ok (.astore_n 2, 1) := by decide +kernel
theorem dX9_told_16 : decode cX9_told 16 = .ok (.iload_n 1, 1) := by decide +kernel
theorem dX9_told_17 : decode cX9_told 17 = .ok (.tableswitch 133 0 10 #[59, 67, 75, 83, 88, 93, 98, 104, 112, 120, 128], 59) := by decide +kernel
theorem dX9_told_76 : decode cX9_told 76 = .ok (.aload_n 0, 1) := by decide +kernel
theorem dX9_told_77 : decode cX9_told 77 = .ok (.getfield 61, 3) := by decide +kernel
theorem dX9_told_80 : decode cX9_told 80 = .ok (.getfield 123, 3) := by decide +kernel
theorem dX9_told_83 : decode cX9_told 83 = .ok (.ireturn, 1) := by decide +kernel
theorem dX9_told_84 : decode cX9_told 84 = .ok (.aload_n 0, 1) := by decide +kernel
theorem dX9_told_85 : decode cX9_told 85 = .ok (.getfield 61, 3) := by decide +kernel
theorem dX9_told_88 : decode cX9_told 88 = .ok (.getfield 163, 3) := by decide +kernel
theorem dX9_told_91 : decode cX9_told 91 = .ok (.ireturn, 1) := by decide +kernel
theorem dX9_told_92 : decode cX9_told 92 = .ok (.aload_n 0, 1) := by decide +kernel
theorem dX9_told_93 : decode cX9_told 93 = .ok (.getfield 61, 3) := by decide +kernel
theorem dX9_told_96 : decode cX9_told 96 = .ok (.getfield 166, 3) := by decide +kernel
theorem dX9_told_99 : decode cX9_told 99 = .ok (.ireturn, 1) := by decide +kernel
theorem dX9_told_100 : decode cX9_told 100 = .ok (.aload_n 2, 1) := by decide +kernel
theorem dX9_told_101 : decode cX9_told 101 = .ok (.getfield 169, 3) := by decide +kernel
theorem dX9_told_104 : decode cX9_told 104 = .ok (.ireturn, 1) := by decide +kernel
theorem dX9_told_105 : decode cX9_told 105 = .ok (.aload_n 2, 1) := by decide +kernel
theorem dX9_told_106 : decode cX9_told 106 = .ok (.invokevirtual 172, 3) := by decide +kernel
theorem dX9_told_109 : decode cX9_told 109 = .ok (.ireturn, 1) := by decide +kernel
theorem dX9_told_110 : decode cX9_told 110 = .ok (.aload_n 2, 1) := by decide +kernel
theorem dX9_told_111 : decode cX9_told 111 = .ok (.invokevirtual 176, 3) := by decide +kernel
theorem dX9_told_114 : decode cX9_told 114 = .ok (.ireturn, 1) := by decide +kernel
theorem dX9_told_115 : decode cX9_told 115 = .ok (.aload_n 2, 1) := by decide +kernel
theorem dX9_told_116 : decode cX9_told 116 = .ok (.iconst 0, 1) := by decide +kernel
theorem dX9_told_117 : decode cX9_told 117 = .ok (.invokevirtual 179, 3) := by decide +kernel
theorem dX9_told_120 : decode cX9_told 120 = .ok (.ireturn, 1) := by decide +kernel
theorem dX9_told_121 : decode cX9_told 121 = .ok (.aload_n 0, 1) := by decide +kernel
theorem dX9_told_122 : decode cX9_told 122 = .ok (.getfield 61, 3) := by decide +kernel
theorem dX9_told_125 : decode cX9_told 125 = .ok (.getfield 183, 3) := by decide +kernel
theorem dX9_told_128 : decode cX9_told 128 = .ok (.ireturn, 1) := by decide +kernel
theorem dX9_told_129 : decode cX9_told 129 = .ok (.aload_n 2, 1) := by decide +kernel
theorem dX9_told_130 : decode cX9_told 130 = .ok (.getfield 186, 3) := by decide +kernel
theorem dX9_told_133 : decode cX9_told 133 = .ok (.invokestatic 190, 3) := by decide +kernel
theorem dX9_told_136 : decode cX9_told 136 = .ok (.ireturn, 1) := by decide +kernel
theorem dX9_told_137 : decode cX9_told 137 = .ok (.aload_n 0, 1) := by decide +kernel
theorem dX9_told_138 : decode cX9_told 138 = .ok (.getfield 81, 3) := by decide +kernel
theorem dX9_told_141 : decode cX9_told 141 = .ok (.getfield 150, 3) := by decide +kernel
theorem dX9_told_144 : decode cX9_told 144 = .ok (.ireturn, 1) := by decide +kernel
theorem dX9_told_145 : decode cX9_told 145 = .ok (.aload_n 0, 1) := by decide +kernel
theorem dX9_told_146 : decode cX9_told 146 = .ok (.getfield 120, 3) := by decide +kernel
theorem dX9_told_149 : decode cX9_told 149 = .ok (.ireturn, 1) := by decide +kernel
theorem dX9_told_150 : decode cX9_told 150 = .ok (.aload_n 2, 1) := by decide +kernel
theorem dX9_told_151 : decode cX9_told 151 = .ok (.getfield 194, 3) := by decide +kernel
theorem dX9_told_154 : decode cX9_told 154 = .ok (.invokestatic 190, 3) := by decide +kernel
theorem dX9_told_157 : decode cX9_told 157 = .ok (.ireturn, 1) := by decide +kernel
theorem r_X9_told_0 {d rc rs : Nat} {Q : PO → PH → Prop} {h : PH} {l0 : Nat} {l1 : Int32}
    (k : isO h 10900 l0 ∧ cl d rc rs M_X9_needWithin [vR (900, l0), vI l1, vI (0 : Int32), vI (11 : Int32)] h (kV fun h1 rc2 rs3 => gO h1 (10902, l0) 200 fun o4 => gO h1 (10200, o4) 400 fun o5 => (l1 = (0 : Int32) → gO h1 (10908, l0) 100 fun o6 => gI h1 (10107, o6) fun x7 => Q (.inl (some (vI x7))) h1) ∧ (l1 = (1 : Int32) → gO h1 (10908, l0) 100 fun o8 => gI h1 (10108, o8) fun x9 => Q (.inl (some (vI x9))) h1) ∧ (l1 = (2 : Int32) → gO h1 (10908, l0) 100 fun o10 => gI h1 (10109, o10) fun x11 => Q (.inl (some (vI x11))) h1) ∧ (l1 = (3 : Int32) → gI h1 (10409, o5) fun x12 => Q (.inl (some (vI x12))) h1) ∧ (l1 = (4 : Int32) → isO h1 10400 o5 ∧ cl d rc2 rs3 M_X4_standing [vR (400, o5)] h1 (kI fun x16 h13 rc14 rs15 => Q (.inl (some (vI x16))) h13) (fun E h13 rc14 rs15 => Q (.inr E) h13)) ∧ (l1 = (5 : Int32) → isO h1 10400 o5 ∧ cl d rc2 rs3 M_X4_cloudedHeirs [vR (400, o5)] h1 (kI fun x20 h17 rc18 rs19 => Q (.inl (some (vI x20))) h17) (fun E h17 rc18 rs19 => Q (.inr E) h17)) ∧ (l1 = (6 : Int32) → isO h1 10400 o5 ∧ cl d rc2 rs3 M_X4_ranked [vR (400, o5), vI (0 : Int32)] h1 (kI fun x24 h21 rc22 rs23 => Q (.inl (some (vI x24))) h21) (fun E h21 rc22 rs23 => Q (.inr E) h21)) ∧ (l1 = (7 : Int32) → gO h1 (10908, l0) 100 fun o25 => gI h1 (10110, o25) fun x26 => Q (.inl (some (vI x26))) h1) ∧ (l1 = (8 : Int32) → gA h1 (10408, o5) fun a27 => cl d rc2 rs3 M_X9_sum [vR a27] h1 (kI fun x31 h28 rc29 rs30 => Q (.inl (some (vI x31))) h28) (fun E h28 rc29 rs30 => Q (.inr E) h28)) ∧ (l1 = (9 : Int32) → gO h1 (10912, l0) 0 fun o32 => gI h1 (10001, o32) fun x33 => Q (.inl (some (vI x33))) h1) ∧ (l1 = (10 : Int32) → gI h1 (10915, l0) fun x34 => Q (.inl (some (vI x34))) h1) ∧ (¬ l1 = (0 : Int32) ∧ ¬ l1 = (1 : Int32) ∧ ¬ l1 = (2 : Int32) ∧ ¬ l1 = (3 : Int32) ∧ ¬ l1 = (4 : Int32) ∧ ¬ l1 = (5 : Int32) ∧ ¬ l1 = (6 : Int32) ∧ ¬ l1 = (7 : Int32) ∧ ¬ l1 = (8 : Int32) ∧ ¬ l1 = (9 : Int32) ∧ ¬ l1 = (10 : Int32) → gA h1 (10402, o5) fun a35 => cl d rc2 rs3 M_X9_sum [vR a35] h1 (kI fun x39 h36 rc37 rs38 => Q (.inl (some (vI x39))) h36) (fun E h36 rc37 rs38 => Q (.inr E) h36))) (fun E h1 rc2 rs3 => Q (.inr E) h1)) :
    PW d M_X9_told Q rc rs 0 [vR (900, l0), vI l1, vU] [] h := by
  refine P_aload_n (pc := 0) dX9_told_0 rfl ?_
  refine P_iload_n (pc := 1) dX9_told_1 rfl ?_
  refine P_iconst (v := (0 : Int32)) (pc := 2) dX9_told_2 (by decide) ?_
  refine P_bipush (v := (11 : Int32)) (pc := 3) dX9_told_3 (by decide) ?_
  obtain ⟨⟨w9, e9⟩, d2, nc, ns, rc2, rs3, Qc, g1, rfl, rfl, g2, kk, kx⟩ := k
  refine P_callV (ci := 9) (k := 0) (id := l0) (q := (RX9, TX9, 18)) (As := [vI l1, vI (0 : Int32), vI (11 : Int32)]) (st := []) (pc := 5) dX9_told_5 mk_X9_needWithin l_X9_159 im_X9_needWithin se_X9_needWithin ini_X9 rfl g1 (Nat.le_of_ble_eq_true rfl) rfl rfl (by decide) e9 rfl g2 (fun v9 h9 q9 => ?_) (fun E h9 q9 => PX_out rfl (kx E h9 q9))
  obtain ⟨rfl, k⟩ := kk v9 h9 q9
  clear kk kx g1 g2 q9
  refine P_aload_n (pc := 8) dX9_told_8 rfl ?_
  obtain ⟨o4, e9, k⟩ := k
  refine G9_2 (pc := 9) dX9_told_9 l_X9_26 e9 ?_
  clear e9
  obtain ⟨o5, e9, k⟩ := k
  refine GN2_0 (pc := 12) dX9_told_12 n_X9_136 e9 ?_
  clear e9
  refine P_astore_n (pc := 15) dX9_told_15 (by decide) (Or.inr (by intro z e9; cases e9)) rfl ?_
  refine P_iload_n (pc := 16) dX9_told_16 rfl ?_
  by_cases c0 : l1 = (0 : Int32)
  · replace k := k.1 c0
    refine P_tableIn (pc := 17) (tgt := 76) dX9_told_17 (by rw [c0]; decide) (by rw [c0]; decide) (by rw [c0] <;> rfl) (by decide) ?_
    refine P_aload_n (pc := 76) dX9_told_76 rfl ?_
    obtain ⟨o6, e9, k⟩ := k
    refine G9_8 (pc := 77) dX9_told_77 l_X9_61 e9 ?_
    clear e9
    obtain ⟨x7, e9, k⟩ := k
    refine GN1_7 (pc := 80) dX9_told_80 n_X9_123 e9 ?_
    clear e9
    exact R_ireturn (pc := 83) dX9_told_83 rfl rfl k
  replace k := k.2
  by_cases c1 : l1 = (1 : Int32)
  · replace k := k.1 c1
    refine P_tableIn (pc := 17) (tgt := 84) dX9_told_17 (by rw [c1]; decide) (by rw [c1]; decide) (by rw [c1] <;> rfl) (by decide) ?_
    refine P_aload_n (pc := 84) dX9_told_84 rfl ?_
    obtain ⟨o8, e9, k⟩ := k
    refine G9_8 (pc := 85) dX9_told_85 l_X9_61 e9 ?_
    clear e9
    obtain ⟨x9, e9, k⟩ := k
    refine GN1_8 (pc := 88) dX9_told_88 n_X9_163 e9 ?_
    clear e9
    exact R_ireturn (pc := 91) dX9_told_91 rfl rfl k
  replace k := k.2
  by_cases c2 : l1 = (2 : Int32)
  · replace k := k.1 c2
    refine P_tableIn (pc := 17) (tgt := 92) dX9_told_17 (by rw [c2]; decide) (by rw [c2]; decide) (by rw [c2] <;> rfl) (by decide) ?_
    refine P_aload_n (pc := 92) dX9_told_92 rfl ?_
    obtain ⟨o10, e9, k⟩ := k
    refine G9_8 (pc := 93) dX9_told_93 l_X9_61 e9 ?_
    clear e9
    obtain ⟨x11, e9, k⟩ := k
    refine GN1_9 (pc := 96) dX9_told_96 n_X9_166 e9 ?_
    clear e9
    exact R_ireturn (pc := 99) dX9_told_99 rfl rfl k
  replace k := k.2
  by_cases c3 : l1 = (3 : Int32)
  · replace k := k.1 c3
    refine P_tableIn (pc := 17) (tgt := 100) dX9_told_17 (by rw [c3]; decide) (by rw [c3]; decide) (by rw [c3] <;> rfl) (by decide) ?_
    refine P_aload_n (pc := 100) dX9_told_100 rfl ?_
    obtain ⟨x12, e9, k⟩ := k
    refine GN4_9 (pc := 101) dX9_told_101 n_X9_169 e9 ?_
    clear e9
    exact R_ireturn (pc := 104) dX9_told_104 rfl rfl k
  replace k := k.2
  by_cases c4 : l1 = (4 : Int32)
  · replace k := k.1 c4
    refine P_tableIn (pc := 17) (tgt := 105) dX9_told_17 (by rw [c4]; decide) (by rw [c4]; decide) (by rw [c4] <;> rfl) (by decide) ?_
    refine P_aload_n (pc := 105) dX9_told_105 rfl ?_
    obtain ⟨⟨w9, e9⟩, d2, nc, ns, rc14, rs15, Qc, g1, rfl, rfl, g2, kk, kx⟩ := k
    refine P_callV (ci := 4) (k := 0) (id := o5) (q := (RX4, TX4, 10)) (As := []) (st := []) (pc := 106) dX9_told_106 mk_X4_standing l_X9_172 im_X4_standing se_X4_standing ini_X4 rfl g1 (Nat.le_of_ble_eq_true rfl) rfl rfl (by decide) e9 rfl g2 (fun v9 h9 q9 => ?_) (fun E h9 q9 => PX_out rfl (kx E h9 q9))
    obtain ⟨x16, rfl, k⟩ := kk v9 h9 q9
    clear kk kx g1 g2 q9
    exact R_ireturn (pc := 109) dX9_told_109 rfl rfl k
  replace k := k.2
  by_cases c5 : l1 = (5 : Int32)
  · replace k := k.1 c5
    refine P_tableIn (pc := 17) (tgt := 110) dX9_told_17 (by rw [c5]; decide) (by rw [c5]; decide) (by rw [c5] <;> rfl) (by decide) ?_
    refine P_aload_n (pc := 110) dX9_told_110 rfl ?_
    obtain ⟨⟨w9, e9⟩, d2, nc, ns, rc18, rs19, Qc, g1, rfl, rfl, g2, kk, kx⟩ := k
    refine P_callV (ci := 4) (k := 0) (id := o5) (q := (RX4, TX4, 10)) (As := []) (st := []) (pc := 111) dX9_told_111 mk_X4_cloudedHeirs l_X9_176 im_X4_cloudedHeirs se_X4_cloudedHeirs ini_X4 rfl g1 (Nat.le_of_ble_eq_true rfl) rfl rfl (by decide) e9 rfl g2 (fun v9 h9 q9 => ?_) (fun E h9 q9 => PX_out rfl (kx E h9 q9))
    obtain ⟨x20, rfl, k⟩ := kk v9 h9 q9
    clear kk kx g1 g2 q9
    exact R_ireturn (pc := 114) dX9_told_114 rfl rfl k
  replace k := k.2
  by_cases c6 : l1 = (6 : Int32)
  · replace k := k.1 c6
    refine P_tableIn (pc := 17) (tgt := 115) dX9_told_17 (by rw [c6]; decide) (by rw [c6]; decide) (by rw [c6] <;> rfl) (by decide) ?_
    refine P_aload_n (pc := 115) dX9_told_115 rfl ?_
    refine P_iconst (v := (0 : Int32)) (pc := 116) dX9_told_116 (by decide) ?_
    obtain ⟨⟨w9, e9⟩, d2, nc, ns, rc22, rs23, Qc, g1, rfl, rfl, g2, kk, kx⟩ := k
    refine P_callV (ci := 4) (k := 0) (id := o5) (q := (RX4, TX4, 10)) (As := [vI (0 : Int32)]) (st := []) (pc := 117) dX9_told_117 mk_X4_ranked l_X9_179 im_X4_ranked se_X4_ranked ini_X4 rfl g1 (Nat.le_of_ble_eq_true rfl) rfl rfl (by decide) e9 rfl g2 (fun v9 h9 q9 => ?_) (fun E h9 q9 => PX_out rfl (kx E h9 q9))
    obtain ⟨x24, rfl, k⟩ := kk v9 h9 q9
    clear kk kx g1 g2 q9
    exact R_ireturn (pc := 120) dX9_told_120 rfl rfl k
  replace k := k.2
  by_cases c7 : l1 = (7 : Int32)
  · replace k := k.1 c7
    refine P_tableIn (pc := 17) (tgt := 121) dX9_told_17 (by rw [c7]; decide) (by rw [c7]; decide) (by rw [c7] <;> rfl) (by decide) ?_
    refine P_aload_n (pc := 121) dX9_told_121 rfl ?_
    obtain ⟨o25, e9, k⟩ := k
    refine G9_8 (pc := 122) dX9_told_122 l_X9_61 e9 ?_
    clear e9
    obtain ⟨x26, e9, k⟩ := k
    refine GN1_10 (pc := 125) dX9_told_125 n_X9_183 e9 ?_
    clear e9
    exact R_ireturn (pc := 128) dX9_told_128 rfl rfl k
  replace k := k.2
  by_cases c8 : l1 = (8 : Int32)
  · replace k := k.1 c8
    refine P_tableIn (pc := 17) (tgt := 129) dX9_told_17 (by rw [c8]; decide) (by rw [c8]; decide) (by rw [c8] <;> rfl) (by decide) ?_
    refine P_aload_n (pc := 129) dX9_told_129 rfl ?_
    obtain ⟨a27, e9, k⟩ := k
    refine GN4_8 (pc := 130) dX9_told_130 n_X9_186 e9 ?_
    clear e9
    obtain ⟨d2, nc, ns, rc29, rs30, Qc, g1, rfl, rfl, g2, kk, kx⟩ := k
    refine P_callS (As := [vR a27]) (st := []) (pc := 133) dX9_told_133 mk_X9_sum l_X9_190 st_X9_sum ini_X9 rfl g1 (Nat.le_of_ble_eq_true rfl) rfl g2 (fun v9 h9 q9 => ?_) (fun E h9 q9 => PX_out rfl (kx E h9 q9))
    obtain ⟨x31, rfl, k⟩ := kk v9 h9 q9
    clear kk kx g1 g2 q9
    exact R_ireturn (pc := 136) dX9_told_136 rfl rfl k
  replace k := k.2
  by_cases c9 : l1 = (9 : Int32)
  · replace k := k.1 c9
    refine P_tableIn (pc := 17) (tgt := 137) dX9_told_17 (by rw [c9]; decide) (by rw [c9]; decide) (by rw [c9] <;> rfl) (by decide) ?_
    refine P_aload_n (pc := 137) dX9_told_137 rfl ?_
    obtain ⟨o32, e9, k⟩ := k
    refine G9_12 (pc := 138) dX9_told_138 l_X9_81 e9 ?_
    clear e9
    obtain ⟨x33, e9, k⟩ := k
    refine GN0_1 (pc := 141) dX9_told_141 n_X9_150 e9 ?_
    clear e9
    exact R_ireturn (pc := 144) dX9_told_144 rfl rfl k
  replace k := k.2
  by_cases c10 : l1 = (10 : Int32)
  · replace k := k.1 c10
    refine P_tableIn (pc := 17) (tgt := 145) dX9_told_17 (by rw [c10]; decide) (by rw [c10]; decide) (by rw [c10] <;> rfl) (by decide) ?_
    refine P_aload_n (pc := 145) dX9_told_145 rfl ?_
    obtain ⟨x34, e9, k⟩ := k
    refine G9_15 (pc := 146) dX9_told_146 l_X9_120 e9 ?_
    clear e9
    exact R_ireturn (pc := 149) dX9_told_149 rfl rfl k
  replace k := k.2
  replace k := k ⟨c0, c1, c2, c3, c4, c5, c6, c7, c8, c9, c10⟩
  refine P_tableOut (pc := 17) (tgt := 150) dX9_told_17 ?_ (by decide) ?_
  · have q9 := sw_out (x := l1) (lo := 0) 11 (fun j hj => by
        match j, hj with
        | 0, _ => exact ti_ne c0
        | 1, _ => exact ti_ne c1
        | 2, _ => exact ti_ne c2
        | 3, _ => exact ti_ne c3
        | 4, _ => exact ti_ne c4
        | 5, _ => exact ti_ne c5
        | 6, _ => exact ti_ne c6
        | 7, _ => exact ti_ne c7
        | 8, _ => exact ti_ne c8
        | 9, _ => exact ti_ne c9
        | 10, _ => exact ti_ne c10
        | n + 11, hj => exact absurd hj (by omega))
    omega
  refine P_aload_n (pc := 150) dX9_told_150 rfl ?_
  obtain ⟨a35, e9, k⟩ := k
  refine GN4_2 (pc := 151) dX9_told_151 n_X9_194 e9 ?_
  clear e9
  obtain ⟨d2, nc, ns, rc37, rs38, Qc, g1, rfl, rfl, g2, kk, kx⟩ := k
  refine P_callS (As := [vR a35]) (st := []) (pc := 154) dX9_told_154 mk_X9_sum l_X9_190 st_X9_sum ini_X9 rfl g1 (Nat.le_of_ble_eq_true rfl) rfl g2 (fun v9 h9 q9 => ?_) (fun E h9 q9 => PX_out rfl (kx E h9 q9))
  obtain ⟨x39, rfl, k⟩ := kk v9 h9 q9
  clear kk kx g1 g2 q9
  exact R_ireturn (pc := 157) dX9_told_157 rfl rfl k
-- X9_heir heir(II)I
theorem dX9_heir_0 : decode cX9_heir 0 = .ok (.aload_n 0, 1) := by decide +kernel
theorem dX9_heir_1 : decode cX9_heir 1 = .ok (.iload_n 1, 1) := by decide +kernel
theorem dX9_heir_2 : decode cX9_heir 2 = .ok (.invokevirtual 197, 3) := by decide +kernel
theorem dX9_heir_5 : decode cX9_heir 5 = .ok (.aload_n 0, 1) := by decide +kernel
theorem dX9_heir_6 : decode cX9_heir 6 = .ok (.iload_n 2, 1) := by decide +kernel
theorem dX9_heir_7 : decode cX9_heir 7 = .ok (.iconst 0, 1) := by decide +kernel
theorem dX9_heir_8 : decode cX9_heir 8 = .ok (.bipush 9, 2) := by decide +kernel
theorem dX9_heir_10 : decode cX9_heir 10 = .ok (.invokevirtual 159, 3) := by decide +kernel
theorem dX9_heir_13 : decode cX9_heir 13 = .ok (.aload_n 0, 1) := by decide +kernel
theorem dX9_heir_14 : decode cX9_heir 14 = .ok (.getfield 26, 3) := by decide +kernel
theorem dX9_heir_17 : decode cX9_heir 17 = .ok (.getfield 136, 3) := by decide +kernel
theorem dX9_heir_20 : decode cX9_heir 20 = .ok (.astore_n 3, 1) := by decide +kernel
theorem dX9_heir_21 : decode cX9_heir 21 = .ok (.iload_n 2, 1) := by decide +kernel
theorem dX9_heir_22 : decode cX9_heir 22 = .ok (.tableswitch 113 0 8 #[50, 57, 64, 71, 78, 85, 92, 99, 106], 50) := by decide +kernel
theorem dX9_heir_72 : decode cX9_heir 72 = .ok (.aload_n 3, 1) := by decide +kernel
theorem dX9_heir_73 : decode cX9_heir 73 = .ok (.getfield 200, 3) := by decide +kernel
theorem dX9_heir_76 : decode cX9_heir 76 = .ok (.iload_n 1, 1) := by decide +kernel
theorem dX9_heir_77 : decode cX9_heir 77 = .ok (.iaload, 1) := by decide +kernel
theorem dX9_heir_78 : decode cX9_heir 78 = .ok (.ireturn, 1) := by decide +kernel
theorem dX9_heir_79 : decode cX9_heir 79 = .ok (.aload_n 3, 1) := by decide +kernel
theorem dX9_heir_80 : decode cX9_heir 80 = .ok (.getfield 203, 3) := by decide +kernel
theorem dX9_heir_83 : decode cX9_heir 83 = .ok (.iload_n 1, 1) := by decide +kernel
theorem dX9_heir_84 : decode cX9_heir 84 = .ok (.iaload, 1) := by decide +kernel
theorem dX9_heir_85 : decode cX9_heir 85 = .ok (.ireturn, 1) := by decide +kernel
theorem dX9_heir_86 : decode cX9_heir 86 = .ok (.aload_n 3, 1) := by decide +kernel
theorem dX9_heir_87 : decode cX9_heir 87 = .ok (.getfield 194, 3) := by decide +kernel
theorem dX9_heir_90 : decode cX9_heir 90 = .ok (.iload_n 1, 1) := by decide +kernel
theorem dX9_heir_91 : decode cX9_heir 91 = .ok (.iaload, 1) := by decide +kernel
theorem dX9_heir_92 : decode cX9_heir 92 = .ok (.ireturn, 1) := by decide +kernel
theorem dX9_heir_93 : decode cX9_heir 93 = .ok (.aload_n 3, 1) := by decide +kernel
theorem dX9_heir_94 : decode cX9_heir 94 = .ok (.getfield 206, 3) := by decide +kernel
theorem dX9_heir_97 : decode cX9_heir 97 = .ok (.iload_n 1, 1) := by decide +kernel
theorem dX9_heir_98 : decode cX9_heir 98 = .ok (.iaload, 1) := by decide +kernel
theorem dX9_heir_99 : decode cX9_heir 99 = .ok (.ireturn, 1) := by decide +kernel
theorem dX9_heir_100 : decode cX9_heir 100 = .ok (.aload_n 3, 1) := by decide +kernel
theorem dX9_heir_101 : decode cX9_heir 101 = .ok (.getfield 209, 3) := by decide +kernel
theorem dX9_heir_104 : decode cX9_heir 104 = .ok (.iload_n 1, 1) := by decide +kernel
theorem dX9_heir_105 : decode cX9_heir 105 = .ok (.iaload, 1) := by decide +kernel
theorem dX9_heir_106 : decode cX9_heir 106 = .ok (.ireturn, 1) := by decide +kernel
theorem dX9_heir_107 : decode cX9_heir 107 = .ok (.aload_n 3, 1) := by decide +kernel
theorem dX9_heir_108 : decode cX9_heir 108 = .ok (.getfield 212, 3) := by decide +kernel
theorem dX9_heir_111 : decode cX9_heir 111 = .ok (.iload_n 1, 1) := by decide +kernel
theorem dX9_heir_112 : decode cX9_heir 112 = .ok (.iaload, 1) := by decide +kernel
theorem dX9_heir_113 : decode cX9_heir 113 = .ok (.ireturn, 1) := by decide +kernel
theorem dX9_heir_114 : decode cX9_heir 114 = .ok (.aload_n 3, 1) := by decide +kernel
theorem dX9_heir_115 : decode cX9_heir 115 = .ok (.getfield 215, 3) := by decide +kernel
theorem dX9_heir_118 : decode cX9_heir 118 = .ok (.iload_n 1, 1) := by decide +kernel
theorem dX9_heir_119 : decode cX9_heir 119 = .ok (.iaload, 1) := by decide +kernel
theorem dX9_heir_120 : decode cX9_heir 120 = .ok (.ireturn, 1) := by decide +kernel
theorem dX9_heir_121 : decode cX9_heir 121 = .ok (.aload_n 3, 1) := by decide +kernel
theorem dX9_heir_122 : decode cX9_heir 122 = .ok (.getfield 218, 3) := by decide +kernel
theorem dX9_heir_125 : decode cX9_heir 125 = .ok (.iload_n 1, 1) := by decide +kernel
theorem dX9_heir_126 : decode cX9_heir 126 = .ok (.iaload, 1) := by decide +kernel
theorem dX9_heir_127 : decode cX9_heir 127 = .ok (.ireturn, 1) := by decide +kernel
theorem dX9_heir_128 : decode cX9_heir 128 = .ok (.aload_n 3, 1) := by decide +kernel
theorem dX9_heir_129 : decode cX9_heir 129 = .ok (.getfield 186, 3) := by decide +kernel
theorem dX9_heir_132 : decode cX9_heir 132 = .ok (.iload_n 1, 1) := by decide +kernel
theorem dX9_heir_133 : decode cX9_heir 133 = .ok (.iaload, 1) := by decide +kernel
theorem dX9_heir_134 : decode cX9_heir 134 = .ok (.ireturn, 1) := by decide +kernel
theorem dX9_heir_135 : decode cX9_heir 135 = .ok (.aload_n 0, 1) := by decide +kernel
theorem dX9_heir_136 : decode cX9_heir 136 = .ok (.getfield 61, 3) := by decide +kernel
theorem dX9_heir_139 : decode cX9_heir 139 = .ok (.getfield 221, 3) := by decide +kernel
theorem dX9_heir_142 : decode cX9_heir 142 = .ok (.iload_n 1, 1) := by decide +kernel
theorem dX9_heir_143 : decode cX9_heir 143 = .ok (.iaload, 1) := by decide +kernel
theorem dX9_heir_144 : decode cX9_heir 144 = .ok (.ireturn, 1) := by decide +kernel
theorem r_X9_heir_0 {d rc rs : Nat} {Q : PO → PH → Prop} {h : PH} {l0 : Nat} {l1 : Int32} {l2 : Int32}
    (k : isO h 10900 l0 ∧ cl d rc rs M_X9_needHeir [vR (900, l0), vI l1] h (kV fun h1 rc2 rs3 => isO h1 10900 l0 ∧ cl d rc2 rs3 M_X9_needWithin [vR (900, l0), vI l2, vI (0 : Int32), vI (9 : Int32)] h1 (kV fun h4 rc5 rs6 => gO h4 (10902, l0) 200 fun o7 => gO h4 (10200, o7) 400 fun o8 => (l2 = (0 : Int32) → gA h4 (10400, o8) fun a9 => xI h4 a9 l1 fun x10 => Q (.inl (some (vI x10))) h4) ∧ (l2 = (1 : Int32) → gA h4 (10401, o8) fun a11 => xI h4 a11 l1 fun x12 => Q (.inl (some (vI x12))) h4) ∧ (l2 = (2 : Int32) → gA h4 (10402, o8) fun a13 => xI h4 a13 l1 fun x14 => Q (.inl (some (vI x14))) h4) ∧ (l2 = (3 : Int32) → gA h4 (10403, o8) fun a15 => xI h4 a15 l1 fun x16 => Q (.inl (some (vI x16))) h4) ∧ (l2 = (4 : Int32) → gA h4 (10404, o8) fun a17 => xI h4 a17 l1 fun x18 => Q (.inl (some (vI x18))) h4) ∧ (l2 = (5 : Int32) → gA h4 (10405, o8) fun a19 => xI h4 a19 l1 fun x20 => Q (.inl (some (vI x20))) h4) ∧ (l2 = (6 : Int32) → gA h4 (10406, o8) fun a21 => xI h4 a21 l1 fun x22 => Q (.inl (some (vI x22))) h4) ∧ (l2 = (7 : Int32) → gA h4 (10407, o8) fun a23 => xI h4 a23 l1 fun x24 => Q (.inl (some (vI x24))) h4) ∧ (l2 = (8 : Int32) → gA h4 (10408, o8) fun a25 => xI h4 a25 l1 fun x26 => Q (.inl (some (vI x26))) h4) ∧ (¬ l2 = (0 : Int32) ∧ ¬ l2 = (1 : Int32) ∧ ¬ l2 = (2 : Int32) ∧ ¬ l2 = (3 : Int32) ∧ ¬ l2 = (4 : Int32) ∧ ¬ l2 = (5 : Int32) ∧ ¬ l2 = (6 : Int32) ∧ ¬ l2 = (7 : Int32) ∧ ¬ l2 = (8 : Int32) → gO h4 (10908, l0) 100 fun o27 => gA h4 (10102, o27) fun a28 => xI h4 a28 l1 fun x29 => Q (.inl (some (vI x29))) h4)) (fun E h4 rc5 rs6 => Q (.inr E) h4)) (fun E h1 rc2 rs3 => Q (.inr E) h1)) :
    PW d M_X9_heir Q rc rs 0 [vR (900, l0), vI l1, vI l2, vU] [] h := by
  refine P_aload_n (pc := 0) dX9_heir_0 rfl ?_
  refine P_iload_n (pc := 1) dX9_heir_1 rfl ?_
  obtain ⟨⟨w9, e9⟩, d2, nc, ns, rc2, rs3, Qc, g1, rfl, rfl, g2, kk, kx⟩ := k
  refine P_callV (ci := 9) (k := 0) (id := l0) (q := (RX9, TX9, 18)) (As := [vI l1]) (st := []) (pc := 2) dX9_heir_2 mk_X9_needHeir l_X9_197 im_X9_needHeir se_X9_needHeir ini_X9 rfl g1 (Nat.le_of_ble_eq_true rfl) rfl rfl (by decide) e9 rfl g2 (fun v9 h9 q9 => ?_) (fun E h9 q9 => PX_out rfl (kx E h9 q9))
  obtain ⟨rfl, k⟩ := kk v9 h9 q9
  clear kk kx g1 g2 q9
  refine P_aload_n (pc := 5) dX9_heir_5 rfl ?_
  refine P_iload_n (pc := 6) dX9_heir_6 rfl ?_
  refine P_iconst (v := (0 : Int32)) (pc := 7) dX9_heir_7 (by decide) ?_
  refine P_bipush (v := (9 : Int32)) (pc := 8) dX9_heir_8 (by decide) ?_
  obtain ⟨⟨w9, e9⟩, d2, nc, ns, rc5, rs6, Qc, g1, rfl, rfl, g2, kk, kx⟩ := k
  refine P_callV (ci := 9) (k := 0) (id := l0) (q := (RX9, TX9, 18)) (As := [vI l2, vI (0 : Int32), vI (9 : Int32)]) (st := []) (pc := 10) dX9_heir_10 mk_X9_needWithin l_X9_159 im_X9_needWithin se_X9_needWithin ini_X9 rfl g1 (Nat.le_of_ble_eq_true rfl) rfl rfl (by decide) e9 rfl g2 (fun v9 h9 q9 => ?_) (fun E h9 q9 => PX_out rfl (kx E h9 q9))
  obtain ⟨rfl, k⟩ := kk v9 h9 q9
  clear kk kx g1 g2 q9
  refine P_aload_n (pc := 13) dX9_heir_13 rfl ?_
  obtain ⟨o7, e9, k⟩ := k
  refine G9_2 (pc := 14) dX9_heir_14 l_X9_26 e9 ?_
  clear e9
  obtain ⟨o8, e9, k⟩ := k
  refine GN2_0 (pc := 17) dX9_heir_17 n_X9_136 e9 ?_
  clear e9
  refine P_astore_n (pc := 20) dX9_heir_20 (by decide) (Or.inr (by intro z e9; cases e9)) rfl ?_
  refine P_iload_n (pc := 21) dX9_heir_21 rfl ?_
  by_cases c0 : l2 = (0 : Int32)
  · replace k := k.1 c0
    refine P_tableIn (pc := 22) (tgt := 72) dX9_heir_22 (by rw [c0]; decide) (by rw [c0]; decide) (by rw [c0] <;> rfl) (by decide) ?_
    refine P_aload_n (pc := 72) dX9_heir_72 rfl ?_
    obtain ⟨a9, e9, k⟩ := k
    refine GN4_0 (pc := 73) dX9_heir_73 n_X9_200 e9 ?_
    clear e9
    refine P_iload_n (pc := 76) dX9_heir_76 rfl ?_
    obtain ⟨n9, f9, e9, i9, k⟩ := k
    refine P_iald (pc := 77) dX9_heir_77 e9 i9 ?_
    clear e9
    generalize f9 (Int32.toNatClampNeg l1) = x10 at k ⊢
    exact R_ireturn (pc := 78) dX9_heir_78 rfl rfl k
  replace k := k.2
  by_cases c1 : l2 = (1 : Int32)
  · replace k := k.1 c1
    refine P_tableIn (pc := 22) (tgt := 79) dX9_heir_22 (by rw [c1]; decide) (by rw [c1]; decide) (by rw [c1] <;> rfl) (by decide) ?_
    refine P_aload_n (pc := 79) dX9_heir_79 rfl ?_
    obtain ⟨a11, e9, k⟩ := k
    refine GN4_1 (pc := 80) dX9_heir_80 n_X9_203 e9 ?_
    clear e9
    refine P_iload_n (pc := 83) dX9_heir_83 rfl ?_
    obtain ⟨n9, f9, e9, i9, k⟩ := k
    refine P_iald (pc := 84) dX9_heir_84 e9 i9 ?_
    clear e9
    generalize f9 (Int32.toNatClampNeg l1) = x12 at k ⊢
    exact R_ireturn (pc := 85) dX9_heir_85 rfl rfl k
  replace k := k.2
  by_cases c2 : l2 = (2 : Int32)
  · replace k := k.1 c2
    refine P_tableIn (pc := 22) (tgt := 86) dX9_heir_22 (by rw [c2]; decide) (by rw [c2]; decide) (by rw [c2] <;> rfl) (by decide) ?_
    refine P_aload_n (pc := 86) dX9_heir_86 rfl ?_
    obtain ⟨a13, e9, k⟩ := k
    refine GN4_2 (pc := 87) dX9_heir_87 n_X9_194 e9 ?_
    clear e9
    refine P_iload_n (pc := 90) dX9_heir_90 rfl ?_
    obtain ⟨n9, f9, e9, i9, k⟩ := k
    refine P_iald (pc := 91) dX9_heir_91 e9 i9 ?_
    clear e9
    generalize f9 (Int32.toNatClampNeg l1) = x14 at k ⊢
    exact R_ireturn (pc := 92) dX9_heir_92 rfl rfl k
  replace k := k.2
  by_cases c3 : l2 = (3 : Int32)
  · replace k := k.1 c3
    refine P_tableIn (pc := 22) (tgt := 93) dX9_heir_22 (by rw [c3]; decide) (by rw [c3]; decide) (by rw [c3] <;> rfl) (by decide) ?_
    refine P_aload_n (pc := 93) dX9_heir_93 rfl ?_
    obtain ⟨a15, e9, k⟩ := k
    refine GN4_3 (pc := 94) dX9_heir_94 n_X9_206 e9 ?_
    clear e9
    refine P_iload_n (pc := 97) dX9_heir_97 rfl ?_
    obtain ⟨n9, f9, e9, i9, k⟩ := k
    refine P_iald (pc := 98) dX9_heir_98 e9 i9 ?_
    clear e9
    generalize f9 (Int32.toNatClampNeg l1) = x16 at k ⊢
    exact R_ireturn (pc := 99) dX9_heir_99 rfl rfl k
  replace k := k.2
  by_cases c4 : l2 = (4 : Int32)
  · replace k := k.1 c4
    refine P_tableIn (pc := 22) (tgt := 100) dX9_heir_22 (by rw [c4]; decide) (by rw [c4]; decide) (by rw [c4] <;> rfl) (by decide) ?_
    refine P_aload_n (pc := 100) dX9_heir_100 rfl ?_
    obtain ⟨a17, e9, k⟩ := k
    refine GN4_4 (pc := 101) dX9_heir_101 n_X9_209 e9 ?_
    clear e9
    refine P_iload_n (pc := 104) dX9_heir_104 rfl ?_
    obtain ⟨n9, f9, e9, i9, k⟩ := k
    refine P_iald (pc := 105) dX9_heir_105 e9 i9 ?_
    clear e9
    generalize f9 (Int32.toNatClampNeg l1) = x18 at k ⊢
    exact R_ireturn (pc := 106) dX9_heir_106 rfl rfl k
  replace k := k.2
  by_cases c5 : l2 = (5 : Int32)
  · replace k := k.1 c5
    refine P_tableIn (pc := 22) (tgt := 107) dX9_heir_22 (by rw [c5]; decide) (by rw [c5]; decide) (by rw [c5] <;> rfl) (by decide) ?_
    refine P_aload_n (pc := 107) dX9_heir_107 rfl ?_
    obtain ⟨a19, e9, k⟩ := k
    refine GN4_5 (pc := 108) dX9_heir_108 n_X9_212 e9 ?_
    clear e9
    refine P_iload_n (pc := 111) dX9_heir_111 rfl ?_
    obtain ⟨n9, f9, e9, i9, k⟩ := k
    refine P_iald (pc := 112) dX9_heir_112 e9 i9 ?_
    clear e9
    generalize f9 (Int32.toNatClampNeg l1) = x20 at k ⊢
    exact R_ireturn (pc := 113) dX9_heir_113 rfl rfl k
  replace k := k.2
  by_cases c6 : l2 = (6 : Int32)
  · replace k := k.1 c6
    refine P_tableIn (pc := 22) (tgt := 114) dX9_heir_22 (by rw [c6]; decide) (by rw [c6]; decide) (by rw [c6] <;> rfl) (by decide) ?_
    refine P_aload_n (pc := 114) dX9_heir_114 rfl ?_
    obtain ⟨a21, e9, k⟩ := k
    refine GN4_6 (pc := 115) dX9_heir_115 n_X9_215 e9 ?_
    clear e9
    refine P_iload_n (pc := 118) dX9_heir_118 rfl ?_
    obtain ⟨n9, f9, e9, i9, k⟩ := k
    refine P_iald (pc := 119) dX9_heir_119 e9 i9 ?_
    clear e9
    generalize f9 (Int32.toNatClampNeg l1) = x22 at k ⊢
    exact R_ireturn (pc := 120) dX9_heir_120 rfl rfl k
  replace k := k.2
  by_cases c7 : l2 = (7 : Int32)
  · replace k := k.1 c7
    refine P_tableIn (pc := 22) (tgt := 121) dX9_heir_22 (by rw [c7]; decide) (by rw [c7]; decide) (by rw [c7] <;> rfl) (by decide) ?_
    refine P_aload_n (pc := 121) dX9_heir_121 rfl ?_
    obtain ⟨a23, e9, k⟩ := k
    refine GN4_7 (pc := 122) dX9_heir_122 n_X9_218 e9 ?_
    clear e9
    refine P_iload_n (pc := 125) dX9_heir_125 rfl ?_
    obtain ⟨n9, f9, e9, i9, k⟩ := k
    refine P_iald (pc := 126) dX9_heir_126 e9 i9 ?_
    clear e9
    generalize f9 (Int32.toNatClampNeg l1) = x24 at k ⊢
    exact R_ireturn (pc := 127) dX9_heir_127 rfl rfl k
  replace k := k.2
  by_cases c8 : l2 = (8 : Int32)
  · replace k := k.1 c8
    refine P_tableIn (pc := 22) (tgt := 128) dX9_heir_22 (by rw [c8]; decide) (by rw [c8]; decide) (by rw [c8] <;> rfl) (by decide) ?_
    refine P_aload_n (pc := 128) dX9_heir_128 rfl ?_
    obtain ⟨a25, e9, k⟩ := k
    refine GN4_8 (pc := 129) dX9_heir_129 n_X9_186 e9 ?_
    clear e9
    refine P_iload_n (pc := 132) dX9_heir_132 rfl ?_
    obtain ⟨n9, f9, e9, i9, k⟩ := k
    refine P_iald (pc := 133) dX9_heir_133 e9 i9 ?_
    clear e9
    generalize f9 (Int32.toNatClampNeg l1) = x26 at k ⊢
    exact R_ireturn (pc := 134) dX9_heir_134 rfl rfl k
  replace k := k.2
  replace k := k ⟨c0, c1, c2, c3, c4, c5, c6, c7, c8⟩
  refine P_tableOut (pc := 22) (tgt := 135) dX9_heir_22 ?_ (by decide) ?_
  · have q9 := sw_out (x := l2) (lo := 0) 9 (fun j hj => by
        match j, hj with
        | 0, _ => exact ti_ne c0
        | 1, _ => exact ti_ne c1
        | 2, _ => exact ti_ne c2
        | 3, _ => exact ti_ne c3
        | 4, _ => exact ti_ne c4
        | 5, _ => exact ti_ne c5
        | 6, _ => exact ti_ne c6
        | 7, _ => exact ti_ne c7
        | 8, _ => exact ti_ne c8
        | n + 9, hj => exact absurd hj (by omega))
    omega
  refine P_aload_n (pc := 135) dX9_heir_135 rfl ?_
  obtain ⟨o27, e9, k⟩ := k
  refine G9_8 (pc := 136) dX9_heir_136 l_X9_61 e9 ?_
  clear e9
  obtain ⟨a28, e9, k⟩ := k
  refine GN1_2 (pc := 139) dX9_heir_139 n_X9_221 e9 ?_
  clear e9
  refine P_iload_n (pc := 142) dX9_heir_142 rfl ?_
  obtain ⟨n9, f9, e9, i9, k⟩ := k
  refine P_iald (pc := 143) dX9_heir_143 e9 i9 ?_
  clear e9
  generalize f9 (Int32.toNatClampNeg l1) = x29 at k ⊢
  exact R_ireturn (pc := 144) dX9_heir_144 rfl rfl k
-- X9_two two(II)I
theorem dX9_two_0 : decode cX9_two 0 = .ok (.aload_n 0, 1) := by decide +kernel
theorem dX9_two_1 : decode cX9_two 1 = .ok (.iload_n 1, 1) := by decide +kernel
theorem dX9_two_2 : decode cX9_two 2 = .ok (.aload_n 0, 1) := by decide +kernel
theorem dX9_two_3 : decode cX9_two 3 = .ok (.getfield 61, 3) := by decide +kernel
theorem dX9_two_6 : decode cX9_two 6 = .ok (.getfield 163, 3) := by decide +kernel
theorem dX9_two_9 : decode cX9_two 9 = .ok (.invokevirtual 224, 3) := by decide +kernel
theorem dX9_two_12 : decode cX9_two 12 = .ok (.aload_n 0, 1) := by decide +kernel
theorem dX9_two_13 : decode cX9_two 13 = .ok (.iload_n 2, 1) := by decide +kernel
theorem dX9_two_14 : decode cX9_two 14 = .ok (.iconst 0, 1) := by decide +kernel
theorem dX9_two_15 : decode cX9_two 15 = .ok (.iconst 1, 1) := by decide +kernel
theorem dX9_two_16 : decode cX9_two 16 = .ok (.invokevirtual 159, 3) := by decide +kernel
theorem dX9_two_19 : decode cX9_two 19 = .ok (.iload_n 2, 1) := by decide +kernel
theorem dX9_two_20 : decode cX9_two 20 = .ok (.ifCond .ne 15, 3) := by decide +kernel
theorem dX9_two_23 : decode cX9_two 23 = .ok (.aload_n 0, 1) := by decide +kernel
theorem dX9_two_24 : decode cX9_two 24 = .ok (.getfield 61, 3) := by decide +kernel
theorem dX9_two_27 : decode cX9_two 27 = .ok (.getfield 227, 3) := by decide +kernel
theorem dX9_two_30 : decode cX9_two 30 = .ok (.iload_n 1, 1) := by decide +kernel
theorem dX9_two_31 : decode cX9_two 31 = .ok (.iaload, 1) := by decide +kernel
theorem dX9_two_32 : decode cX9_two 32 = .ok (.goto 12, 3) := by decide +kernel
theorem dX9_two_35 : decode cX9_two 35 = .ok (.aload_n 0, 1) := by decide +kernel
theorem dX9_two_36 : decode cX9_two 36 = .ok (.getfield 61, 3) := by decide +kernel
theorem dX9_two_39 : decode cX9_two 39 = .ok (.getfield 230, 3) := by decide +kernel
theorem dX9_two_42 : decode cX9_two 42 = .ok (.iload_n 1, 1) := by decide +kernel
theorem dX9_two_43 : decode cX9_two 43 = .ok (.iaload, 1) := by decide +kernel
theorem dX9_two_44 : decode cX9_two 44 = .ok (.ireturn, 1) := by decide +kernel
theorem r_X9_two_0 {d rc rs : Nat} {Q : PO → PH → Prop} {h : PH} {l0 : Nat} {l1 : Int32} {l2 : Int32}
    (k : gO h (10908, l0) 100 fun o1 => gI h (10108, o1) fun x2 => isO h 10900 l0 ∧ cl d rc rs M_X9_needBelow [vR (900, l0), vI l1, vI x2] h (kV fun h3 rc4 rs5 => isO h3 10900 l0 ∧ cl d rc4 rs5 M_X9_needWithin [vR (900, l0), vI l2, vI (0 : Int32), vI (1 : Int32)] h3 (kV fun h6 rc7 rs8 => br (l2 = 0) (gO h6 (10908, l0) 100 fun o12 => gA h6 (10103, o12) fun a13 => xI h6 a13 l1 fun x14 => Q (.inl (some (vI x14))) h6) (gO h6 (10908, l0) 100 fun o9 => gA h6 (10104, o9) fun a10 => xI h6 a10 l1 fun x11 => Q (.inl (some (vI x11))) h6)) (fun E h6 rc7 rs8 => Q (.inr E) h6)) (fun E h3 rc4 rs5 => Q (.inr E) h3)) :
    PW d M_X9_two Q rc rs 0 [vR (900, l0), vI l1, vI l2] [] h := by
  refine P_aload_n (pc := 0) dX9_two_0 rfl ?_
  refine P_iload_n (pc := 1) dX9_two_1 rfl ?_
  refine P_aload_n (pc := 2) dX9_two_2 rfl ?_
  obtain ⟨o1, e9, k⟩ := k
  refine G9_8 (pc := 3) dX9_two_3 l_X9_61 e9 ?_
  clear e9
  obtain ⟨x2, e9, k⟩ := k
  refine GN1_8 (pc := 6) dX9_two_6 n_X9_163 e9 ?_
  clear e9
  obtain ⟨⟨w9, e9⟩, d2, nc, ns, rc4, rs5, Qc, g1, rfl, rfl, g2, kk, kx⟩ := k
  refine P_callV (ci := 9) (k := 0) (id := l0) (q := (RX9, TX9, 18)) (As := [vI l1, vI x2]) (st := []) (pc := 9) dX9_two_9 mk_X9_needBelow l_X9_224 im_X9_needBelow se_X9_needBelow ini_X9 rfl g1 (Nat.le_of_ble_eq_true rfl) rfl rfl (by decide) e9 rfl g2 (fun v9 h9 q9 => ?_) (fun E h9 q9 => PX_out rfl (kx E h9 q9))
  obtain ⟨rfl, k⟩ := kk v9 h9 q9
  clear kk kx g1 g2 q9
  refine P_aload_n (pc := 12) dX9_two_12 rfl ?_
  refine P_iload_n (pc := 13) dX9_two_13 rfl ?_
  refine P_iconst (v := (0 : Int32)) (pc := 14) dX9_two_14 (by decide) ?_
  refine P_iconst (v := (1 : Int32)) (pc := 15) dX9_two_15 (by decide) ?_
  obtain ⟨⟨w9, e9⟩, d2, nc, ns, rc7, rs8, Qc, g1, rfl, rfl, g2, kk, kx⟩ := k
  refine P_callV (ci := 9) (k := 0) (id := l0) (q := (RX9, TX9, 18)) (As := [vI l2, vI (0 : Int32), vI (1 : Int32)]) (st := []) (pc := 16) dX9_two_16 mk_X9_needWithin l_X9_159 im_X9_needWithin se_X9_needWithin ini_X9 rfl g1 (Nat.le_of_ble_eq_true rfl) rfl rfl (by decide) e9 rfl g2 (fun v9 h9 q9 => ?_) (fun E h9 q9 => PX_out rfl (kx E h9 q9))
  obtain ⟨rfl, k⟩ := kk v9 h9 q9
  clear kk kx g1 g2 q9
  refine P_iload_n (pc := 19) dX9_two_19 rfl ?_
  refine P_if_ne (tgt := 35) (pc := 20) dX9_two_20 (by decide) (fun c => ?_) (fun c => ?_)
  · have k := k.2 c
    refine P_aload_n (pc := 35) dX9_two_35 rfl ?_
    obtain ⟨o9, e9, k⟩ := k
    refine G9_8 (pc := 36) dX9_two_36 l_X9_61 e9 ?_
    clear e9
    obtain ⟨a10, e9, k⟩ := k
    refine GN1_4 (pc := 39) dX9_two_39 n_X9_230 e9 ?_
    clear e9
    refine P_iload_n (pc := 42) dX9_two_42 rfl ?_
    obtain ⟨n9, f9, e9, i9, k⟩ := k
    refine P_iald (pc := 43) dX9_two_43 e9 i9 ?_
    clear e9
    generalize f9 (Int32.toNatClampNeg l1) = x11 at k ⊢
    exact R_ireturn (pc := 44) dX9_two_44 rfl rfl k
  · have k := k.1 c
    refine P_aload_n (pc := 23) dX9_two_23 rfl ?_
    obtain ⟨o12, e9, k⟩ := k
    refine G9_8 (pc := 24) dX9_two_24 l_X9_61 e9 ?_
    clear e9
    obtain ⟨a13, e9, k⟩ := k
    refine GN1_3 (pc := 27) dX9_two_27 n_X9_227 e9 ?_
    clear e9
    refine P_iload_n (pc := 30) dX9_two_30 rfl ?_
    obtain ⟨n9, f9, e9, i9, k⟩ := k
    refine P_iald (pc := 31) dX9_two_31 e9 i9 ?_
    clear e9
    generalize f9 (Int32.toNatClampNeg l1) = x14 at k ⊢
    refine P_goto (tgt := 44) (pc := 32) dX9_two_32 (by decide) ?_
    exact R_ireturn (pc := 44) dX9_two_44 rfl rfl k
-- X9_keeper keeper(II)I
theorem dX9_keeper_0 : decode cX9_keeper 0 = .ok (.aload_n 0, 1) := by decide +kernel
theorem dX9_keeper_1 : decode cX9_keeper 1 = .ok (.iload_n 1, 1) := by decide +kernel
theorem dX9_keeper_2 : decode cX9_keeper 2 = .ok (.aload_n 0, 1) := by decide +kernel
theorem dX9_keeper_3 : decode cX9_keeper 3 = .ok (.getfield 61, 3) := by decide +kernel
theorem dX9_keeper_6 : decode cX9_keeper 6 = .ok (.getfield 166, 3) := by decide +kernel
theorem dX9_keeper_9 : decode cX9_keeper 9 = .ok (.invokevirtual 224, 3) := by decide +kernel
theorem dX9_keeper_12 : decode cX9_keeper 12 = .ok (.aload_n 0, 1) := by decide +kernel
theorem dX9_keeper_13 : decode cX9_keeper 13 = .ok (.iload_n 2, 1) := by decide +kernel
theorem dX9_keeper_14 : decode cX9_keeper 14 = .ok (.iconst 0, 1) := by decide +kernel
theorem dX9_keeper_15 : decode cX9_keeper 15 = .ok (.iconst 2, 1) := by decide +kernel
theorem dX9_keeper_16 : decode cX9_keeper 16 = .ok (.invokevirtual 159, 3) := by decide +kernel
theorem dX9_keeper_19 : decode cX9_keeper 19 = .ok (.iload_n 2, 1) := by decide +kernel
theorem dX9_keeper_20 : decode cX9_keeper 20 = .ok (.lookupswitch 48 #[(0, 28), (1, 38)], 28) := by decide +kernel
theorem dX9_keeper_48 : decode cX9_keeper 48 = .ok (.aload_n 0, 1) := by decide +kernel
theorem dX9_keeper_49 : decode cX9_keeper 49 = .ok (.getfield 61, 3) := by decide +kernel
theorem dX9_keeper_52 : decode cX9_keeper 52 = .ok (.getfield 233, 3) := by decide +kernel
theorem dX9_keeper_55 : decode cX9_keeper 55 = .ok (.iload_n 1, 1) := by decide +kernel
theorem dX9_keeper_56 : decode cX9_keeper 56 = .ok (.iaload, 1) := by decide +kernel
theorem dX9_keeper_57 : decode cX9_keeper 57 = .ok (.ireturn, 1) := by decide +kernel
theorem dX9_keeper_58 : decode cX9_keeper 58 = .ok (.aload_n 0, 1) := by decide +kernel
theorem dX9_keeper_59 : decode cX9_keeper 59 = .ok (.getfield 61, 3) := by decide +kernel
theorem dX9_keeper_62 : decode cX9_keeper 62 = .ok (.getfield 236, 3) := by decide +kernel
theorem dX9_keeper_65 : decode cX9_keeper 65 = .ok (.iload_n 1, 1) := by decide +kernel
theorem dX9_keeper_66 : decode cX9_keeper 66 = .ok (.iaload, 1) := by decide +kernel
theorem dX9_keeper_67 : decode cX9_keeper 67 = .ok (.ireturn, 1) := by decide +kernel
theorem dX9_keeper_68 : decode cX9_keeper 68 = .ok (.aload_n 0, 1) := by decide +kernel
theorem dX9_keeper_69 : decode cX9_keeper 69 = .ok (.getfield 61, 3) := by decide +kernel
theorem dX9_keeper_72 : decode cX9_keeper 72 = .ok (.iload_n 1, 1) := by decide +kernel
theorem dX9_keeper_73 : decode cX9_keeper 73 = .ok (.aload_n 0, 1) := by decide +kernel
theorem dX9_keeper_74 : decode cX9_keeper 74 = .ok (.getfield 26, 3) := by decide +kernel
theorem dX9_keeper_77 : decode cX9_keeper 77 = .ok (.getfield 136, 3) := by decide +kernel
theorem dX9_keeper_80 : decode cX9_keeper 80 = .ok (.getfield 169, 3) := by decide +kernel
theorem dX9_keeper_83 : decode cX9_keeper 83 = .ok (.invokevirtual 239, 3) := by decide +kernel
theorem dX9_keeper_86 : decode cX9_keeper 86 = .ok (.ireturn, 1) := by decide +kernel
theorem r_X9_keeper_0 {d rc rs : Nat} {Q : PO → PH → Prop} {h : PH} {l0 : Nat} {l1 : Int32} {l2 : Int32}
    (k : gO h (10908, l0) 100 fun o1 => gI h (10109, o1) fun x2 => isO h 10900 l0 ∧ cl d rc rs M_X9_needBelow [vR (900, l0), vI l1, vI x2] h (kV fun h3 rc4 rs5 => isO h3 10900 l0 ∧ cl d rc4 rs5 M_X9_needWithin [vR (900, l0), vI l2, vI (0 : Int32), vI (2 : Int32)] h3 (kV fun h6 rc7 rs8 => (l2 = (0 : Int32) → gO h6 (10908, l0) 100 fun o9 => gA h6 (10105, o9) fun a10 => xI h6 a10 l1 fun x11 => Q (.inl (some (vI x11))) h6) ∧ (l2 = (1 : Int32) → gO h6 (10908, l0) 100 fun o12 => gA h6 (10106, o12) fun a13 => xI h6 a13 l1 fun x14 => Q (.inl (some (vI x14))) h6) ∧ (¬ l2 = (0 : Int32) ∧ ¬ l2 = (1 : Int32) → gO h6 (10908, l0) 100 fun o15 => gO h6 (10902, l0) 200 fun o16 => gO h6 (10200, o16) 400 fun o17 => gI h6 (10409, o17) fun x18 => isO h6 10100 o15 ∧ cl d rc7 rs8 M_X1_nextCough [vR (100, o15), vI l1, vI x18] h6 (kI fun x22 h19 rc20 rs21 => Q (.inl (some (vI x22))) h19) (fun E h19 rc20 rs21 => Q (.inr E) h19))) (fun E h6 rc7 rs8 => Q (.inr E) h6)) (fun E h3 rc4 rs5 => Q (.inr E) h3)) :
    PW d M_X9_keeper Q rc rs 0 [vR (900, l0), vI l1, vI l2] [] h := by
  refine P_aload_n (pc := 0) dX9_keeper_0 rfl ?_
  refine P_iload_n (pc := 1) dX9_keeper_1 rfl ?_
  refine P_aload_n (pc := 2) dX9_keeper_2 rfl ?_
  obtain ⟨o1, e9, k⟩ := k
  refine G9_8 (pc := 3) dX9_keeper_3 l_X9_61 e9 ?_
  clear e9
  obtain ⟨x2, e9, k⟩ := k
  refine GN1_9 (pc := 6) dX9_keeper_6 n_X9_166 e9 ?_
  clear e9
  obtain ⟨⟨w9, e9⟩, d2, nc, ns, rc4, rs5, Qc, g1, rfl, rfl, g2, kk, kx⟩ := k
  refine P_callV (ci := 9) (k := 0) (id := l0) (q := (RX9, TX9, 18)) (As := [vI l1, vI x2]) (st := []) (pc := 9) dX9_keeper_9 mk_X9_needBelow l_X9_224 im_X9_needBelow se_X9_needBelow ini_X9 rfl g1 (Nat.le_of_ble_eq_true rfl) rfl rfl (by decide) e9 rfl g2 (fun v9 h9 q9 => ?_) (fun E h9 q9 => PX_out rfl (kx E h9 q9))
  obtain ⟨rfl, k⟩ := kk v9 h9 q9
  clear kk kx g1 g2 q9
  refine P_aload_n (pc := 12) dX9_keeper_12 rfl ?_
  refine P_iload_n (pc := 13) dX9_keeper_13 rfl ?_
  refine P_iconst (v := (0 : Int32)) (pc := 14) dX9_keeper_14 (by decide) ?_
  refine P_iconst (v := (2 : Int32)) (pc := 15) dX9_keeper_15 (by decide) ?_
  obtain ⟨⟨w9, e9⟩, d2, nc, ns, rc7, rs8, Qc, g1, rfl, rfl, g2, kk, kx⟩ := k
  refine P_callV (ci := 9) (k := 0) (id := l0) (q := (RX9, TX9, 18)) (As := [vI l2, vI (0 : Int32), vI (2 : Int32)]) (st := []) (pc := 16) dX9_keeper_16 mk_X9_needWithin l_X9_159 im_X9_needWithin se_X9_needWithin ini_X9 rfl g1 (Nat.le_of_ble_eq_true rfl) rfl rfl (by decide) e9 rfl g2 (fun v9 h9 q9 => ?_) (fun E h9 q9 => PX_out rfl (kx E h9 q9))
  obtain ⟨rfl, k⟩ := kk v9 h9 q9
  clear kk kx g1 g2 q9
  refine P_iload_n (pc := 19) dX9_keeper_19 rfl ?_
  by_cases c0 : l2 = (0 : Int32)
  · replace k := k.1 c0
    refine P_lookup (pc := 20) (tgt := 48) dX9_keeper_20 (by decide) (by rw [c0] <;> rfl) (by decide) ?_
    refine P_aload_n (pc := 48) dX9_keeper_48 rfl ?_
    obtain ⟨o9, e9, k⟩ := k
    refine G9_8 (pc := 49) dX9_keeper_49 l_X9_61 e9 ?_
    clear e9
    obtain ⟨a10, e9, k⟩ := k
    refine GN1_5 (pc := 52) dX9_keeper_52 n_X9_233 e9 ?_
    clear e9
    refine P_iload_n (pc := 55) dX9_keeper_55 rfl ?_
    obtain ⟨n9, f9, e9, i9, k⟩ := k
    refine P_iald (pc := 56) dX9_keeper_56 e9 i9 ?_
    clear e9
    generalize f9 (Int32.toNatClampNeg l1) = x11 at k ⊢
    exact R_ireturn (pc := 57) dX9_keeper_57 rfl rfl k
  replace k := k.2
  by_cases c1 : l2 = (1 : Int32)
  · replace k := k.1 c1
    refine P_lookup (pc := 20) (tgt := 58) dX9_keeper_20 (by decide) (by rw [c1] <;> rfl) (by decide) ?_
    refine P_aload_n (pc := 58) dX9_keeper_58 rfl ?_
    obtain ⟨o12, e9, k⟩ := k
    refine G9_8 (pc := 59) dX9_keeper_59 l_X9_61 e9 ?_
    clear e9
    obtain ⟨a13, e9, k⟩ := k
    refine GN1_6 (pc := 62) dX9_keeper_62 n_X9_236 e9 ?_
    clear e9
    refine P_iload_n (pc := 65) dX9_keeper_65 rfl ?_
    obtain ⟨n9, f9, e9, i9, k⟩ := k
    refine P_iald (pc := 66) dX9_keeper_66 e9 i9 ?_
    clear e9
    generalize f9 (Int32.toNatClampNeg l1) = x14 at k ⊢
    exact R_ireturn (pc := 67) dX9_keeper_67 rfl rfl k
  replace k := k.2
  replace k := k ⟨c0, c1⟩
  refine P_lookup (off := 48) (pc := 20) (tgt := 68) dX9_keeper_20 (by decide) ?_ (by decide) ?_
  · exact lko (List.forall_mem_cons.mpr ⟨Ne.symm (ti_ne c0), (List.forall_mem_cons.mpr ⟨Ne.symm (ti_ne c1), (fun _ h9 => nomatch h9)⟩)⟩)
  refine P_aload_n (pc := 68) dX9_keeper_68 rfl ?_
  obtain ⟨o15, e9, k⟩ := k
  refine G9_8 (pc := 69) dX9_keeper_69 l_X9_61 e9 ?_
  clear e9
  refine P_iload_n (pc := 72) dX9_keeper_72 rfl ?_
  refine P_aload_n (pc := 73) dX9_keeper_73 rfl ?_
  obtain ⟨o16, e9, k⟩ := k
  refine G9_2 (pc := 74) dX9_keeper_74 l_X9_26 e9 ?_
  clear e9
  obtain ⟨o17, e9, k⟩ := k
  refine GN2_0 (pc := 77) dX9_keeper_77 n_X9_136 e9 ?_
  clear e9
  obtain ⟨x18, e9, k⟩ := k
  refine GN4_9 (pc := 80) dX9_keeper_80 n_X9_169 e9 ?_
  clear e9
  obtain ⟨⟨w9, e9⟩, d2, nc, ns, rc20, rs21, Qc, g1, rfl, rfl, g2, kk, kx⟩ := k
  refine P_callV (ci := 1) (k := 0) (id := o15) (q := (RX1, TX1, 11)) (As := [vI l1, vI x18]) (st := []) (pc := 83) dX9_keeper_83 mk_X1_nextCough l_X9_239 im_X1_nextCough se_X1_nextCough ini_X1 rfl g1 (Nat.le_of_ble_eq_true rfl) rfl rfl (by decide) e9 rfl g2 (fun v9 h9 q9 => ?_) (fun E h9 q9 => PX_out rfl (kx E h9 q9))
  obtain ⟨x22, rfl, k⟩ := kk v9 h9 q9
  clear kk kx g1 g2 q9
  exact R_ireturn (pc := 86) dX9_keeper_86 rfl rfl k
-- X9_cloud cloud(I)I
theorem dX9_cloud_0 : decode cX9_cloud 0 = .ok (.aload_n 0, 1) := by decide +kernel
theorem dX9_cloud_1 : decode cX9_cloud 1 = .ok (.iload_n 1, 1) := by decide +kernel
theorem dX9_cloud_2 : decode cX9_cloud 2 = .ok (.invokevirtual 197, 3) := by decide +kernel
theorem dX9_cloud_5 : decode cX9_cloud 5 = .ok (.aload_n 0, 1) := by decide +kernel
theorem dX9_cloud_6 : decode cX9_cloud 6 = .ok (.getfield 26, 3) := by decide +kernel
theorem dX9_cloud_9 : decode cX9_cloud 9 = .ok (.getfield 136, 3) := by decide +kernel
theorem dX9_cloud_12 : decode cX9_cloud 12 = .ok (.iload_n 1, 1) := by decide +kernel
theorem dX9_cloud_13 : decode cX9_cloud 13 = .ok (.aload_n 0, 1) := by decide +kernel
theorem dX9_cloud_14 : decode cX9_cloud 14 = .ok (.getfield 61, 3) := by decide +kernel
theorem dX9_cloud_17 : decode cX9_cloud 17 = .ok (.getfield 183, 3) := by decide +kernel
theorem dX9_cloud_20 : decode cX9_cloud 20 = .ok (.aload_n 0, 1) := by decide +kernel
theorem dX9_cloud_21 : decode cX9_cloud 21 = .ok (.getfield 71, 3) := by decide +kernel
theorem dX9_cloud_24 : decode cX9_cloud 24 = .ok (.invokevirtual 243, 3) := by decide +kernel
theorem dX9_cloud_27 : decode cX9_cloud 27 = .ok (.ireturn, 1) := by decide +kernel
theorem r_X9_cloud_0 {d rc rs : Nat} {Q : PO → PH → Prop} {h : PH} {l0 : Nat} {l1 : Int32}
    (k : isO h 10900 l0 ∧ cl d rc rs M_X9_needHeir [vR (900, l0), vI l1] h (kV fun h1 rc2 rs3 => gO h1 (10902, l0) 200 fun o4 => gO h1 (10200, o4) 400 fun o5 => gO h1 (10908, l0) 100 fun o6 => gI h1 (10110, o6) fun x7 => gO h1 (10910, l0) 300 fun o8 => isO h1 10400 o5 ∧ cl d rc2 rs3 M_X4_comesOn [vR (400, o5), vI l1, vI x7, vR (300, o8)] h1 (kI fun x12 h9 rc10 rs11 => Q (.inl (some (vI x12))) h9) (fun E h9 rc10 rs11 => Q (.inr E) h9)) (fun E h1 rc2 rs3 => Q (.inr E) h1)) :
    PW d M_X9_cloud Q rc rs 0 [vR (900, l0), vI l1] [] h := by
  refine P_aload_n (pc := 0) dX9_cloud_0 rfl ?_
  refine P_iload_n (pc := 1) dX9_cloud_1 rfl ?_
  obtain ⟨⟨w9, e9⟩, d2, nc, ns, rc2, rs3, Qc, g1, rfl, rfl, g2, kk, kx⟩ := k
  refine P_callV (ci := 9) (k := 0) (id := l0) (q := (RX9, TX9, 18)) (As := [vI l1]) (st := []) (pc := 2) dX9_cloud_2 mk_X9_needHeir l_X9_197 im_X9_needHeir se_X9_needHeir ini_X9 rfl g1 (Nat.le_of_ble_eq_true rfl) rfl rfl (by decide) e9 rfl g2 (fun v9 h9 q9 => ?_) (fun E h9 q9 => PX_out rfl (kx E h9 q9))
  obtain ⟨rfl, k⟩ := kk v9 h9 q9
  clear kk kx g1 g2 q9
  refine P_aload_n (pc := 5) dX9_cloud_5 rfl ?_
  obtain ⟨o4, e9, k⟩ := k
  refine G9_2 (pc := 6) dX9_cloud_6 l_X9_26 e9 ?_
  clear e9
  obtain ⟨o5, e9, k⟩ := k
  refine GN2_0 (pc := 9) dX9_cloud_9 n_X9_136 e9 ?_
  clear e9
  refine P_iload_n (pc := 12) dX9_cloud_12 rfl ?_
  refine P_aload_n (pc := 13) dX9_cloud_13 rfl ?_
  obtain ⟨o6, e9, k⟩ := k
  refine G9_8 (pc := 14) dX9_cloud_14 l_X9_61 e9 ?_
  clear e9
  obtain ⟨x7, e9, k⟩ := k
  refine GN1_10 (pc := 17) dX9_cloud_17 n_X9_183 e9 ?_
  clear e9
  refine P_aload_n (pc := 20) dX9_cloud_20 rfl ?_
  obtain ⟨o8, e9, k⟩ := k
  refine G9_10 (pc := 21) dX9_cloud_21 l_X9_71 e9 ?_
  clear e9
  obtain ⟨⟨w9, e9⟩, d2, nc, ns, rc10, rs11, Qc, g1, rfl, rfl, g2, kk, kx⟩ := k
  refine P_callV (ci := 4) (k := 0) (id := o5) (q := (RX4, TX4, 10)) (As := [vI l1, vI x7, vR (300, o8)]) (st := []) (pc := 24) dX9_cloud_24 mk_X4_comesOn l_X9_243 im_X4_comesOn se_X4_comesOn ini_X4 rfl g1 (Nat.le_of_ble_eq_true rfl) rfl rfl (by decide) e9 rfl g2 (fun v9 h9 q9 => ?_) (fun E h9 q9 => PX_out rfl (kx E h9 q9))
  obtain ⟨x12, rfl, k⟩ := kk v9 h9 q9
  clear kk kx g1 g2 q9
  exact R_ireturn (pc := 27) dX9_cloud_27 rfl rfl k
-- X9_would would(IIIIIIIII)I
theorem dX9_would_0 : decode cX9_would 0 = .ok (.aload_n 0, 1) := by decide +kernel
theorem dX9_would_1 : decode cX9_would 1 = .ok (.iload_n 1, 1) := by decide +kernel
theorem dX9_would_2 : decode cX9_would 2 = .ok (.iconst 1, 1) := by decide +kernel
theorem dX9_would_3 : decode cX9_would 3 = .ok (.bipush 9, 2) := by decide +kernel
theorem dX9_would_5 : decode cX9_would 5 = .ok (.invokevirtual 159, 3) := by decide +kernel
theorem dX9_would_8 : decode cX9_would 8 = .ok (.aload_n 0, 1) := by decide +kernel
theorem dX9_would_9 : decode cX9_would 9 = .ok (.iload_n 2, 1) := by decide +kernel
theorem dX9_would_10 : decode cX9_would 10 = .ok (.iconst 0, 1) := by decide +kernel
theorem dX9_would_11 : decode cX9_would 11 = .ok (.bipush 9, 2) := by decide +kernel
theorem dX9_would_13 : decode cX9_would 13 = .ok (.invokevirtual 159, 3) := by decide +kernel
theorem dX9_would_16 : decode cX9_would 16 = .ok (.aload_n 0, 1) := by decide +kernel
theorem dX9_would_17 : decode cX9_would 17 = .ok (.iload_n 3, 1) := by decide +kernel
theorem dX9_would_18 : decode cX9_would 18 = .ok (.iconst 0, 1) := by decide +kernel
theorem dX9_would_19 : decode cX9_would 19 = .ok (.sipush 999, 3) := by decide +kernel
theorem dX9_would_22 : decode cX9_would 22 = .ok (.invokevirtual 159, 3) := by decide +kernel
theorem dX9_would_25 : decode cX9_would 25 = .ok (.aload_n 0, 1) := by decide +kernel
theorem dX9_would_26 : decode cX9_would 26 = .ok (.iload 4, 2) := by decide +kernel
theorem dX9_would_28 : decode cX9_would 28 = .ok (.iconst 0, 1) := by decide +kernel
theorem dX9_would_29 : decode cX9_would 29 = .ok (.bipush 99, 2) := by decide +kernel
theorem dX9_would_31 : decode cX9_would 31 = .ok (.invokevirtual 159, 3) := by decide +kernel
theorem dX9_would_34 : decode cX9_would 34 = .ok (.aload_n 0, 1) := by decide +kernel
theorem dX9_would_35 : decode cX9_would 35 = .ok (.iload 5, 2) := by decide +kernel
theorem dX9_would_37 : decode cX9_would 37 = .ok (.iconst 0, 1) := by decide +kernel
theorem dX9_would_38 : decode cX9_would 38 = .ok (.iconst 3, 1) := by decide +kernel
theorem dX9_would_39 : decode cX9_would 39 = .ok (.invokevirtual 159, 3) := by decide +kernel
theorem dX9_would_42 : decode cX9_would 42 = .ok (.aload_n 0, 1) := by decide +kernel
theorem dX9_would_43 : decode cX9_would 43 = .ok (.iload 6, 2) := by decide +kernel
theorem dX9_would_45 : decode cX9_would 45 = .ok (.iconst 0, 1) := by decide +kernel
theorem dX9_would_46 : decode cX9_would 46 = .ok (.bipush 99, 2) := by decide +kernel
theorem dX9_would_48 : decode cX9_would 48 = .ok (.invokevirtual 159, 3) := by decide +kernel
theorem dX9_would_51 : decode cX9_would 51 = .ok (.aload_n 0, 1) := by decide +kernel
theorem dX9_would_52 : decode cX9_would 52 = .ok (.iload 7, 2) := by decide +kernel
theorem dX9_would_54 : decode cX9_would 54 = .ok (.iconst 0, 1) := by decide +kernel
theorem dX9_would_55 : decode cX9_would 55 = .ok (.bipush 23, 2) := by decide +kernel
theorem dX9_would_57 : decode cX9_would 57 = .ok (.invokevirtual 159, 3) := by decide +kernel
theorem dX9_would_60 : decode cX9_would 60 = .ok (.aload_n 0, 1) := by decide +kernel
theorem dX9_would_61 : decode cX9_would 61 = .ok (.iload 8, 2) := by decide +kernel
theorem dX9_would_63 : decode cX9_would 63 = .ok (.iconst 0, 1) := by decide +kernel
theorem dX9_would_64 : decode cX9_would 64 = .ok (.iconst 1, 1) := by decide +kernel
theorem dX9_would_65 : decode cX9_would 65 = .ok (.invokevirtual 159, 3) := by decide +kernel
theorem dX9_would_68 : decode cX9_would 68 = .ok (.aload_n 0, 1) := by decide +kernel
theorem dX9_would_69 : decode cX9_would 69 = .ok (.iload 9, 2) := by decide +kernel
theorem dX9_would_71 : decode cX9_would 71 = .ok (.iconst 0, 1) := by decide +kernel
theorem dX9_would_72 : decode cX9_would 72 = .ok (.bipush 6, 2) := by decide +kernel
theorem dX9_would_74 : decode cX9_would 74 = .ok (.invokevirtual 159, 3) := by decide +kernel
theorem dX9_would_77 : decode cX9_would 77 = .ok (.aload_n 0, 1) := by decide +kernel
theorem dX9_would_78 : decode cX9_would 78 = .ok (.getfield 71, 3) := by decide +kernel
theorem dX9_would_81 : decode cX9_would 81 = .ok (.iload_n 1, 1) := by decide +kernel
theorem dX9_would_82 : decode cX9_would 82 = .ok (.iload_n 2, 1) := by decide +kernel
theorem dX9_would_83 : decode cX9_would 83 = .ok (.iload 9, 2) := by decide +kernel
theorem dX9_would_85 : decode cX9_would 85 = .ok (.invokevirtual 247, 3) := by decide +kernel
theorem dX9_would_88 : decode cX9_would 88 = .ok (.aload_n 0, 1) := by decide +kernel
theorem dX9_would_89 : decode cX9_would 89 = .ok (.getfield 71, 3) := by decide +kernel
theorem dX9_would_92 : decode cX9_would 92 = .ok (.iload_n 3, 1) := by decide +kernel
theorem dX9_would_93 : decode cX9_would 93 = .ok (.iload 4, 2) := by decide +kernel
theorem dX9_would_95 : decode cX9_would 95 = .ok (.iload 5, 2) := by decide +kernel
theorem dX9_would_97 : decode cX9_would 97 = .ok (.iload 6, 2) := by decide +kernel
theorem dX9_would_99 : decode cX9_would 99 = .ok (.invokevirtual 250, 3) := by decide +kernel
theorem dX9_would_102 : decode cX9_would 102 = .ok (.aload_n 0, 1) := by decide +kernel
theorem dX9_would_103 : decode cX9_would 103 = .ok (.getfield 71, 3) := by decide +kernel
theorem dX9_would_106 : decode cX9_would 106 = .ok (.iload 7, 2) := by decide +kernel
theorem dX9_would_108 : decode cX9_would 108 = .ok (.iload 8, 2) := by decide +kernel
theorem dX9_would_110 : decode cX9_would 110 = .ok (.invokevirtual 254, 3) := by decide +kernel
theorem dX9_would_113 : decode cX9_would 113 = .ok (.aload_n 0, 1) := by decide +kernel
theorem dX9_would_114 : decode cX9_would 114 = .ok (.getfield 71, 3) := by decide +kernel
theorem dX9_would_117 : decode cX9_would 117 = .ok (.invokevirtual 257, 3) := by decide +kernel
theorem dX9_would_120 : decode cX9_would 120 = .ok (.ireturn, 1) := by decide +kernel
theorem r_X9_would_0 {d rc rs : Nat} {Q : PO → PH → Prop} {h : PH} {l0 : Nat} {l1 : Int32} {l2 : Int32} {l3 : Int32} {l4 : Int32} {l5 : Int32} {l6 : Int32} {l7 : Int32} {l8 : Int32} {l9 : Int32}
    (k : isO h 10900 l0 ∧ cl d rc rs M_X9_needWithin [vR (900, l0), vI l1, vI (1 : Int32), vI (9 : Int32)] h (kV fun h1 rc2 rs3 => isO h1 10900 l0 ∧ cl d rc2 rs3 M_X9_needWithin [vR (900, l0), vI l2, vI (0 : Int32), vI (9 : Int32)] h1 (kV fun h4 rc5 rs6 => isO h4 10900 l0 ∧ cl d rc5 rs6 M_X9_needWithin [vR (900, l0), vI l3, vI (0 : Int32), vI (999 : Int32)] h4 (kV fun h7 rc8 rs9 => isO h7 10900 l0 ∧ cl d rc8 rs9 M_X9_needWithin [vR (900, l0), vI l4, vI (0 : Int32), vI (99 : Int32)] h7 (kV fun h10 rc11 rs12 => isO h10 10900 l0 ∧ cl d rc11 rs12 M_X9_needWithin [vR (900, l0), vI l5, vI (0 : Int32), vI (3 : Int32)] h10 (kV fun h13 rc14 rs15 => isO h13 10900 l0 ∧ cl d rc14 rs15 M_X9_needWithin [vR (900, l0), vI l6, vI (0 : Int32), vI (99 : Int32)] h13 (kV fun h16 rc17 rs18 => isO h16 10900 l0 ∧ cl d rc17 rs18 M_X9_needWithin [vR (900, l0), vI l7, vI (0 : Int32), vI (23 : Int32)] h16 (kV fun h19 rc20 rs21 => isO h19 10900 l0 ∧ cl d rc20 rs21 M_X9_needWithin [vR (900, l0), vI l8, vI (0 : Int32), vI (1 : Int32)] h19 (kV fun h22 rc23 rs24 => isO h22 10900 l0 ∧ cl d rc23 rs24 M_X9_needWithin [vR (900, l0), vI l9, vI (0 : Int32), vI (6 : Int32)] h22 (kV fun h25 rc26 rs27 => gO h25 (10910, l0) 300 fun o28 => isO h25 10300 o28 ∧ cl d rc26 rs27 M_X3_setHeir [vR (300, o28), vI l1, vI l2, vI l9] h25 (kV fun h29 rc30 rs31 => gO h29 (10910, l0) 300 fun o32 => isO h29 10300 o32 ∧ cl d rc30 rs31 M_X3_setGlass [vR (300, o32), vI l3, vI l4, vI l5, vI l6] h29 (kV fun h33 rc34 rs35 => gO h33 (10910, l0) 300 fun o36 => isO h33 10300 o36 ∧ cl d rc34 rs35 M_X3_setHour [vR (300, o36), vI l7, vI l8] h33 (kV fun h37 rc38 rs39 => gO h37 (10910, l0) 300 fun o40 => isO h37 10300 o40 ∧ cl d rc38 rs39 M_X3_comes [vR (300, o40)] h37 (kI fun x44 h41 rc42 rs43 => Q (.inl (some (vI x44))) h41) (fun E h41 rc42 rs43 => Q (.inr E) h41)) (fun E h37 rc38 rs39 => Q (.inr E) h37)) (fun E h33 rc34 rs35 => Q (.inr E) h33)) (fun E h29 rc30 rs31 => Q (.inr E) h29)) (fun E h25 rc26 rs27 => Q (.inr E) h25)) (fun E h22 rc23 rs24 => Q (.inr E) h22)) (fun E h19 rc20 rs21 => Q (.inr E) h19)) (fun E h16 rc17 rs18 => Q (.inr E) h16)) (fun E h13 rc14 rs15 => Q (.inr E) h13)) (fun E h10 rc11 rs12 => Q (.inr E) h10)) (fun E h7 rc8 rs9 => Q (.inr E) h7)) (fun E h4 rc5 rs6 => Q (.inr E) h4)) (fun E h1 rc2 rs3 => Q (.inr E) h1)) :
    PW d M_X9_would Q rc rs 0 [vR (900, l0), vI l1, vI l2, vI l3, vI l4, vI l5, vI l6, vI l7, vI l8, vI l9] [] h := by
  refine P_aload_n (pc := 0) dX9_would_0 rfl ?_
  refine P_iload_n (pc := 1) dX9_would_1 rfl ?_
  refine P_iconst (v := (1 : Int32)) (pc := 2) dX9_would_2 (by decide) ?_
  refine P_bipush (v := (9 : Int32)) (pc := 3) dX9_would_3 (by decide) ?_
  obtain ⟨⟨w9, e9⟩, d2, nc, ns, rc2, rs3, Qc, g1, rfl, rfl, g2, kk, kx⟩ := k
  refine P_callV (ci := 9) (k := 0) (id := l0) (q := (RX9, TX9, 18)) (As := [vI l1, vI (1 : Int32), vI (9 : Int32)]) (st := []) (pc := 5) dX9_would_5 mk_X9_needWithin l_X9_159 im_X9_needWithin se_X9_needWithin ini_X9 rfl g1 (Nat.le_of_ble_eq_true rfl) rfl rfl (by decide) e9 rfl g2 (fun v9 h9 q9 => ?_) (fun E h9 q9 => PX_out rfl (kx E h9 q9))
  obtain ⟨rfl, k⟩ := kk v9 h9 q9
  clear kk kx g1 g2 q9
  refine P_aload_n (pc := 8) dX9_would_8 rfl ?_
  refine P_iload_n (pc := 9) dX9_would_9 rfl ?_
  refine P_iconst (v := (0 : Int32)) (pc := 10) dX9_would_10 (by decide) ?_
  refine P_bipush (v := (9 : Int32)) (pc := 11) dX9_would_11 (by decide) ?_
  obtain ⟨⟨w9, e9⟩, d2, nc, ns, rc5, rs6, Qc, g1, rfl, rfl, g2, kk, kx⟩ := k
  refine P_callV (ci := 9) (k := 0) (id := l0) (q := (RX9, TX9, 18)) (As := [vI l2, vI (0 : Int32), vI (9 : Int32)]) (st := []) (pc := 13) dX9_would_13 mk_X9_needWithin l_X9_159 im_X9_needWithin se_X9_needWithin ini_X9 rfl g1 (Nat.le_of_ble_eq_true rfl) rfl rfl (by decide) e9 rfl g2 (fun v9 h9 q9 => ?_) (fun E h9 q9 => PX_out rfl (kx E h9 q9))
  obtain ⟨rfl, k⟩ := kk v9 h9 q9
  clear kk kx g1 g2 q9
  refine P_aload_n (pc := 16) dX9_would_16 rfl ?_
  refine P_iload_n (pc := 17) dX9_would_17 rfl ?_
  refine P_iconst (v := (0 : Int32)) (pc := 18) dX9_would_18 (by decide) ?_
  refine P_sipush (v := (999 : Int32)) (pc := 19) dX9_would_19 (by decide) ?_
  obtain ⟨⟨w9, e9⟩, d2, nc, ns, rc8, rs9, Qc, g1, rfl, rfl, g2, kk, kx⟩ := k
  refine P_callV (ci := 9) (k := 0) (id := l0) (q := (RX9, TX9, 18)) (As := [vI l3, vI (0 : Int32), vI (999 : Int32)]) (st := []) (pc := 22) dX9_would_22 mk_X9_needWithin l_X9_159 im_X9_needWithin se_X9_needWithin ini_X9 rfl g1 (Nat.le_of_ble_eq_true rfl) rfl rfl (by decide) e9 rfl g2 (fun v9 h9 q9 => ?_) (fun E h9 q9 => PX_out rfl (kx E h9 q9))
  obtain ⟨rfl, k⟩ := kk v9 h9 q9
  clear kk kx g1 g2 q9
  refine P_aload_n (pc := 25) dX9_would_25 rfl ?_
  refine P_iload (pc := 26) dX9_would_26 rfl ?_
  refine P_iconst (v := (0 : Int32)) (pc := 28) dX9_would_28 (by decide) ?_
  refine P_bipush (v := (99 : Int32)) (pc := 29) dX9_would_29 (by decide) ?_
  obtain ⟨⟨w9, e9⟩, d2, nc, ns, rc11, rs12, Qc, g1, rfl, rfl, g2, kk, kx⟩ := k
  refine P_callV (ci := 9) (k := 0) (id := l0) (q := (RX9, TX9, 18)) (As := [vI l4, vI (0 : Int32), vI (99 : Int32)]) (st := []) (pc := 31) dX9_would_31 mk_X9_needWithin l_X9_159 im_X9_needWithin se_X9_needWithin ini_X9 rfl g1 (Nat.le_of_ble_eq_true rfl) rfl rfl (by decide) e9 rfl g2 (fun v9 h9 q9 => ?_) (fun E h9 q9 => PX_out rfl (kx E h9 q9))
  obtain ⟨rfl, k⟩ := kk v9 h9 q9
  clear kk kx g1 g2 q9
  refine P_aload_n (pc := 34) dX9_would_34 rfl ?_
  refine P_iload (pc := 35) dX9_would_35 rfl ?_
  refine P_iconst (v := (0 : Int32)) (pc := 37) dX9_would_37 (by decide) ?_
  refine P_iconst (v := (3 : Int32)) (pc := 38) dX9_would_38 (by decide) ?_
  obtain ⟨⟨w9, e9⟩, d2, nc, ns, rc14, rs15, Qc, g1, rfl, rfl, g2, kk, kx⟩ := k
  refine P_callV (ci := 9) (k := 0) (id := l0) (q := (RX9, TX9, 18)) (As := [vI l5, vI (0 : Int32), vI (3 : Int32)]) (st := []) (pc := 39) dX9_would_39 mk_X9_needWithin l_X9_159 im_X9_needWithin se_X9_needWithin ini_X9 rfl g1 (Nat.le_of_ble_eq_true rfl) rfl rfl (by decide) e9 rfl g2 (fun v9 h9 q9 => ?_) (fun E h9 q9 => PX_out rfl (kx E h9 q9))
  obtain ⟨rfl, k⟩ := kk v9 h9 q9
  clear kk kx g1 g2 q9
  refine P_aload_n (pc := 42) dX9_would_42 rfl ?_
  refine P_iload (pc := 43) dX9_would_43 rfl ?_
  refine P_iconst (v := (0 : Int32)) (pc := 45) dX9_would_45 (by decide) ?_
  refine P_bipush (v := (99 : Int32)) (pc := 46) dX9_would_46 (by decide) ?_
  obtain ⟨⟨w9, e9⟩, d2, nc, ns, rc17, rs18, Qc, g1, rfl, rfl, g2, kk, kx⟩ := k
  refine P_callV (ci := 9) (k := 0) (id := l0) (q := (RX9, TX9, 18)) (As := [vI l6, vI (0 : Int32), vI (99 : Int32)]) (st := []) (pc := 48) dX9_would_48 mk_X9_needWithin l_X9_159 im_X9_needWithin se_X9_needWithin ini_X9 rfl g1 (Nat.le_of_ble_eq_true rfl) rfl rfl (by decide) e9 rfl g2 (fun v9 h9 q9 => ?_) (fun E h9 q9 => PX_out rfl (kx E h9 q9))
  obtain ⟨rfl, k⟩ := kk v9 h9 q9
  clear kk kx g1 g2 q9
  refine P_aload_n (pc := 51) dX9_would_51 rfl ?_
  refine P_iload (pc := 52) dX9_would_52 rfl ?_
  refine P_iconst (v := (0 : Int32)) (pc := 54) dX9_would_54 (by decide) ?_
  refine P_bipush (v := (23 : Int32)) (pc := 55) dX9_would_55 (by decide) ?_
  obtain ⟨⟨w9, e9⟩, d2, nc, ns, rc20, rs21, Qc, g1, rfl, rfl, g2, kk, kx⟩ := k
  refine P_callV (ci := 9) (k := 0) (id := l0) (q := (RX9, TX9, 18)) (As := [vI l7, vI (0 : Int32), vI (23 : Int32)]) (st := []) (pc := 57) dX9_would_57 mk_X9_needWithin l_X9_159 im_X9_needWithin se_X9_needWithin ini_X9 rfl g1 (Nat.le_of_ble_eq_true rfl) rfl rfl (by decide) e9 rfl g2 (fun v9 h9 q9 => ?_) (fun E h9 q9 => PX_out rfl (kx E h9 q9))
  obtain ⟨rfl, k⟩ := kk v9 h9 q9
  clear kk kx g1 g2 q9
  refine P_aload_n (pc := 60) dX9_would_60 rfl ?_
  refine P_iload (pc := 61) dX9_would_61 rfl ?_
  refine P_iconst (v := (0 : Int32)) (pc := 63) dX9_would_63 (by decide) ?_
  refine P_iconst (v := (1 : Int32)) (pc := 64) dX9_would_64 (by decide) ?_
  obtain ⟨⟨w9, e9⟩, d2, nc, ns, rc23, rs24, Qc, g1, rfl, rfl, g2, kk, kx⟩ := k
  refine P_callV (ci := 9) (k := 0) (id := l0) (q := (RX9, TX9, 18)) (As := [vI l8, vI (0 : Int32), vI (1 : Int32)]) (st := []) (pc := 65) dX9_would_65 mk_X9_needWithin l_X9_159 im_X9_needWithin se_X9_needWithin ini_X9 rfl g1 (Nat.le_of_ble_eq_true rfl) rfl rfl (by decide) e9 rfl g2 (fun v9 h9 q9 => ?_) (fun E h9 q9 => PX_out rfl (kx E h9 q9))
  obtain ⟨rfl, k⟩ := kk v9 h9 q9
  clear kk kx g1 g2 q9
  refine P_aload_n (pc := 68) dX9_would_68 rfl ?_
  refine P_iload (pc := 69) dX9_would_69 rfl ?_
  refine P_iconst (v := (0 : Int32)) (pc := 71) dX9_would_71 (by decide) ?_
  refine P_bipush (v := (6 : Int32)) (pc := 72) dX9_would_72 (by decide) ?_
  obtain ⟨⟨w9, e9⟩, d2, nc, ns, rc26, rs27, Qc, g1, rfl, rfl, g2, kk, kx⟩ := k
  refine P_callV (ci := 9) (k := 0) (id := l0) (q := (RX9, TX9, 18)) (As := [vI l9, vI (0 : Int32), vI (6 : Int32)]) (st := []) (pc := 74) dX9_would_74 mk_X9_needWithin l_X9_159 im_X9_needWithin se_X9_needWithin ini_X9 rfl g1 (Nat.le_of_ble_eq_true rfl) rfl rfl (by decide) e9 rfl g2 (fun v9 h9 q9 => ?_) (fun E h9 q9 => PX_out rfl (kx E h9 q9))
  obtain ⟨rfl, k⟩ := kk v9 h9 q9
  clear kk kx g1 g2 q9
  refine P_aload_n (pc := 77) dX9_would_77 rfl ?_
  obtain ⟨o28, e9, k⟩ := k
  refine G9_10 (pc := 78) dX9_would_78 l_X9_71 e9 ?_
  clear e9
  refine P_iload_n (pc := 81) dX9_would_81 rfl ?_
  refine P_iload_n (pc := 82) dX9_would_82 rfl ?_
  refine P_iload (pc := 83) dX9_would_83 rfl ?_
  obtain ⟨⟨w9, e9⟩, d2, nc, ns, rc30, rs31, Qc, g1, rfl, rfl, g2, kk, kx⟩ := k
  refine P_callV (ci := 3) (k := 0) (id := o28) (q := (RX3, TX3, 5)) (As := [vI l1, vI l2, vI l9]) (st := []) (pc := 85) dX9_would_85 mk_X3_setHeir l_X9_247 im_X3_setHeir se_X3_setHeir ini_X3 rfl g1 (Nat.le_of_ble_eq_true rfl) rfl rfl (by decide) e9 rfl g2 (fun v9 h9 q9 => ?_) (fun E h9 q9 => PX_out rfl (kx E h9 q9))
  obtain ⟨rfl, k⟩ := kk v9 h9 q9
  clear kk kx g1 g2 q9
  refine P_aload_n (pc := 88) dX9_would_88 rfl ?_
  obtain ⟨o32, e9, k⟩ := k
  refine G9_10 (pc := 89) dX9_would_89 l_X9_71 e9 ?_
  clear e9
  refine P_iload_n (pc := 92) dX9_would_92 rfl ?_
  refine P_iload (pc := 93) dX9_would_93 rfl ?_
  refine P_iload (pc := 95) dX9_would_95 rfl ?_
  refine P_iload (pc := 97) dX9_would_97 rfl ?_
  obtain ⟨⟨w9, e9⟩, d2, nc, ns, rc34, rs35, Qc, g1, rfl, rfl, g2, kk, kx⟩ := k
  refine P_callV (ci := 3) (k := 0) (id := o32) (q := (RX3, TX3, 5)) (As := [vI l3, vI l4, vI l5, vI l6]) (st := []) (pc := 99) dX9_would_99 mk_X3_setGlass l_X9_250 im_X3_setGlass se_X3_setGlass ini_X3 rfl g1 (Nat.le_of_ble_eq_true rfl) rfl rfl (by decide) e9 rfl g2 (fun v9 h9 q9 => ?_) (fun E h9 q9 => PX_out rfl (kx E h9 q9))
  obtain ⟨rfl, k⟩ := kk v9 h9 q9
  clear kk kx g1 g2 q9
  refine P_aload_n (pc := 102) dX9_would_102 rfl ?_
  obtain ⟨o36, e9, k⟩ := k
  refine G9_10 (pc := 103) dX9_would_103 l_X9_71 e9 ?_
  clear e9
  refine P_iload (pc := 106) dX9_would_106 rfl ?_
  refine P_iload (pc := 108) dX9_would_108 rfl ?_
  obtain ⟨⟨w9, e9⟩, d2, nc, ns, rc38, rs39, Qc, g1, rfl, rfl, g2, kk, kx⟩ := k
  refine P_callV (ci := 3) (k := 0) (id := o36) (q := (RX3, TX3, 5)) (As := [vI l7, vI l8]) (st := []) (pc := 110) dX9_would_110 mk_X3_setHour l_X9_254 im_X3_setHour se_X3_setHour ini_X3 rfl g1 (Nat.le_of_ble_eq_true rfl) rfl rfl (by decide) e9 rfl g2 (fun v9 h9 q9 => ?_) (fun E h9 q9 => PX_out rfl (kx E h9 q9))
  obtain ⟨rfl, k⟩ := kk v9 h9 q9
  clear kk kx g1 g2 q9
  refine P_aload_n (pc := 113) dX9_would_113 rfl ?_
  obtain ⟨o40, e9, k⟩ := k
  refine G9_10 (pc := 114) dX9_would_114 l_X9_71 e9 ?_
  clear e9
  obtain ⟨⟨w9, e9⟩, d2, nc, ns, rc42, rs43, Qc, g1, rfl, rfl, g2, kk, kx⟩ := k
  refine P_callV (ci := 3) (k := 0) (id := o40) (q := (RX3, TX3, 5)) (As := []) (st := []) (pc := 117) dX9_would_117 mk_X3_comes l_X9_257 im_X3_comes se_X3_comes ini_X3 rfl g1 (Nat.le_of_ble_eq_true rfl) rfl rfl (by decide) e9 rfl g2 (fun v9 h9 q9 => ?_) (fun E h9 q9 => PX_out rfl (kx E h9 q9))
  obtain ⟨x44, rfl, k⟩ := kk v9 h9 q9
  clear kk kx g1 g2 q9
  exact R_ireturn (pc := 120) dX9_would_120 rfl rfl k
-- X9_rank rank(I)I
theorem dX9_rank_0 : decode cX9_rank 0 = .ok (.aload_n 0, 1) := by decide +kernel
theorem dX9_rank_1 : decode cX9_rank 1 = .ok (.iload_n 1, 1) := by decide +kernel
theorem dX9_rank_2 : decode cX9_rank 2 = .ok (.iconst 0, 1) := by decide +kernel
theorem dX9_rank_3 : decode cX9_rank 3 = .ok (.bipush 6, 2) := by decide +kernel
theorem dX9_rank_5 : decode cX9_rank 5 = .ok (.invokevirtual 159, 3) := by decide +kernel
theorem dX9_rank_8 : decode cX9_rank 8 = .ok (.aload_n 0, 1) := by decide +kernel
theorem dX9_rank_9 : decode cX9_rank 9 = .ok (.getfield 26, 3) := by decide +kernel
theorem dX9_rank_12 : decode cX9_rank 12 = .ok (.getfield 136, 3) := by decide +kernel
theorem dX9_rank_15 : decode cX9_rank 15 = .ok (.iload_n 1, 1) := by decide +kernel
theorem dX9_rank_16 : decode cX9_rank 16 = .ok (.invokevirtual 179, 3) := by decide +kernel
theorem dX9_rank_19 : decode cX9_rank 19 = .ok (.ireturn, 1) := by decide +kernel
theorem r_X9_rank_0 {d rc rs : Nat} {Q : PO → PH → Prop} {h : PH} {l0 : Nat} {l1 : Int32}
    (k : isO h 10900 l0 ∧ cl d rc rs M_X9_needWithin [vR (900, l0), vI l1, vI (0 : Int32), vI (6 : Int32)] h (kV fun h1 rc2 rs3 => gO h1 (10902, l0) 200 fun o4 => gO h1 (10200, o4) 400 fun o5 => isO h1 10400 o5 ∧ cl d rc2 rs3 M_X4_ranked [vR (400, o5), vI l1] h1 (kI fun x9 h6 rc7 rs8 => Q (.inl (some (vI x9))) h6) (fun E h6 rc7 rs8 => Q (.inr E) h6)) (fun E h1 rc2 rs3 => Q (.inr E) h1)) :
    PW d M_X9_rank Q rc rs 0 [vR (900, l0), vI l1] [] h := by
  refine P_aload_n (pc := 0) dX9_rank_0 rfl ?_
  refine P_iload_n (pc := 1) dX9_rank_1 rfl ?_
  refine P_iconst (v := (0 : Int32)) (pc := 2) dX9_rank_2 (by decide) ?_
  refine P_bipush (v := (6 : Int32)) (pc := 3) dX9_rank_3 (by decide) ?_
  obtain ⟨⟨w9, e9⟩, d2, nc, ns, rc2, rs3, Qc, g1, rfl, rfl, g2, kk, kx⟩ := k
  refine P_callV (ci := 9) (k := 0) (id := l0) (q := (RX9, TX9, 18)) (As := [vI l1, vI (0 : Int32), vI (6 : Int32)]) (st := []) (pc := 5) dX9_rank_5 mk_X9_needWithin l_X9_159 im_X9_needWithin se_X9_needWithin ini_X9 rfl g1 (Nat.le_of_ble_eq_true rfl) rfl rfl (by decide) e9 rfl g2 (fun v9 h9 q9 => ?_) (fun E h9 q9 => PX_out rfl (kx E h9 q9))
  obtain ⟨rfl, k⟩ := kk v9 h9 q9
  clear kk kx g1 g2 q9
  refine P_aload_n (pc := 8) dX9_rank_8 rfl ?_
  obtain ⟨o4, e9, k⟩ := k
  refine G9_2 (pc := 9) dX9_rank_9 l_X9_26 e9 ?_
  clear e9
  obtain ⟨o5, e9, k⟩ := k
  refine GN2_0 (pc := 12) dX9_rank_12 n_X9_136 e9 ?_
  clear e9
  refine P_iload_n (pc := 15) dX9_rank_15 rfl ?_
  obtain ⟨⟨w9, e9⟩, d2, nc, ns, rc7, rs8, Qc, g1, rfl, rfl, g2, kk, kx⟩ := k
  refine P_callV (ci := 4) (k := 0) (id := o5) (q := (RX4, TX4, 10)) (As := [vI l1]) (st := []) (pc := 16) dX9_rank_16 mk_X4_ranked l_X9_179 im_X4_ranked se_X4_ranked ini_X4 rfl g1 (Nat.le_of_ble_eq_true rfl) rfl rfl (by decide) e9 rfl g2 (fun v9 h9 q9 => ?_) (fun E h9 q9 => PX_out rfl (kx E h9 q9))
  obtain ⟨x9, rfl, k⟩ := kk v9 h9 q9
  clear kk kx g1 g2 q9
  exact R_ireturn (pc := 19) dX9_rank_19 rfl rfl k
-- X9_greenest greenest(I)I
theorem dX9_greenest_0 : decode cX9_greenest 0 = .ok (.aload_n 0, 1) := by decide +kernel
theorem dX9_greenest_1 : decode cX9_greenest 1 = .ok (.iload_n 1, 1) := by decide +kernel
theorem dX9_greenest_2 : decode cX9_greenest 2 = .ok (.iconst 0, 1) := by decide +kernel
theorem dX9_greenest_3 : decode cX9_greenest 3 = .ok (.iconst 1, 1) := by decide +kernel
theorem dX9_greenest_4 : decode cX9_greenest 4 = .ok (.invokevirtual 159, 3) := by decide +kernel
theorem dX9_greenest_7 : decode cX9_greenest 7 = .ok (.aload_n 0, 1) := by decide +kernel
theorem dX9_greenest_8 : decode cX9_greenest 8 = .ok (.getfield 26, 3) := by decide +kernel
theorem dX9_greenest_11 : decode cX9_greenest 11 = .ok (.getfield 136, 3) := by decide +kernel
theorem dX9_greenest_14 : decode cX9_greenest 14 = .ok (.getfield 194, 3) := by decide +kernel
theorem dX9_greenest_17 : decode cX9_greenest 17 = .ok (.astore_n 2, 1) := by decide +kernel
theorem dX9_greenest_18 : decode cX9_greenest 18 = .ok (.aload_n 2, 1) := by decide +kernel
theorem dX9_greenest_19 : decode cX9_greenest 19 = .ok (.invokestatic 260, 3) := by decide +kernel
theorem dX9_greenest_22 : decode cX9_greenest 22 = .ok (.istore_n 3, 1) := by decide +kernel
theorem dX9_greenest_23 : decode cX9_greenest 23 = .ok (.aload_n 2, 1) := by decide +kernel
theorem dX9_greenest_24 : decode cX9_greenest 24 = .ok (.iload_n 3, 1) := by decide +kernel
theorem dX9_greenest_25 : decode cX9_greenest 25 = .ok (.iaload, 1) := by decide +kernel
theorem dX9_greenest_26 : decode cX9_greenest 26 = .ok (.ifCond .ne 5, 3) := by decide +kernel
theorem dX9_greenest_29 : decode cX9_greenest 29 = .ok (.iconst (-1), 1) := by decide +kernel
theorem dX9_greenest_30 : decode cX9_greenest 30 = .ok (.ireturn, 1) := by decide +kernel
theorem dX9_greenest_31 : decode cX9_greenest 31 = .ok (.iload_n 1, 1) := by decide +kernel
theorem dX9_greenest_32 : decode cX9_greenest 32 = .ok (.ifCond .ne 7, 3) := by decide +kernel
theorem dX9_greenest_35 : decode cX9_greenest 35 = .ok (.iload_n 3, 1) := by decide +kernel
theorem dX9_greenest_36 : decode cX9_greenest 36 = .ok (.goto 6, 3) := by decide +kernel
theorem dX9_greenest_39 : decode cX9_greenest 39 = .ok (.aload_n 2, 1) := by decide +kernel
theorem dX9_greenest_40 : decode cX9_greenest 40 = .ok (.iload_n 3, 1) := by decide +kernel
theorem dX9_greenest_41 : decode cX9_greenest 41 = .ok (.iaload, 1) := by decide +kernel
theorem dX9_greenest_42 : decode cX9_greenest 42 = .ok (.ireturn, 1) := by decide +kernel
theorem r_X9_greenest_0 {d rc rs : Nat} {Q : PO → PH → Prop} {h : PH} {l0 : Nat} {l1 : Int32}
    (k : isO h 10900 l0 ∧ cl d rc rs M_X9_needWithin [vR (900, l0), vI l1, vI (0 : Int32), vI (1 : Int32)] h (kV fun h1 rc2 rs3 => gO h1 (10902, l0) 200 fun o4 => gO h1 (10200, o4) 400 fun o5 => gA h1 (10402, o5) fun a6 => cl d rc2 rs3 M_X9_mostOf [vR a6] h1 (kI fun x10 h7 rc8 rs9 => xI h7 a6 x10 fun x11 => br (x11 = 0) (Q (.inl (some (vI (-1 : Int32)))) h7) (br (l1 = 0) (Q (.inl (some (vI x10))) h7) (xI h7 a6 x10 fun x12 => Q (.inl (some (vI x12))) h7))) (fun E h7 rc8 rs9 => Q (.inr E) h7)) (fun E h1 rc2 rs3 => Q (.inr E) h1)) :
    PW d M_X9_greenest Q rc rs 0 [vR (900, l0), vI l1, vU, vU] [] h := by
  refine P_aload_n (pc := 0) dX9_greenest_0 rfl ?_
  refine P_iload_n (pc := 1) dX9_greenest_1 rfl ?_
  refine P_iconst (v := (0 : Int32)) (pc := 2) dX9_greenest_2 (by decide) ?_
  refine P_iconst (v := (1 : Int32)) (pc := 3) dX9_greenest_3 (by decide) ?_
  obtain ⟨⟨w9, e9⟩, d2, nc, ns, rc2, rs3, Qc, g1, rfl, rfl, g2, kk, kx⟩ := k
  refine P_callV (ci := 9) (k := 0) (id := l0) (q := (RX9, TX9, 18)) (As := [vI l1, vI (0 : Int32), vI (1 : Int32)]) (st := []) (pc := 4) dX9_greenest_4 mk_X9_needWithin l_X9_159 im_X9_needWithin se_X9_needWithin ini_X9 rfl g1 (Nat.le_of_ble_eq_true rfl) rfl rfl (by decide) e9 rfl g2 (fun v9 h9 q9 => ?_) (fun E h9 q9 => PX_out rfl (kx E h9 q9))
  obtain ⟨rfl, k⟩ := kk v9 h9 q9
  clear kk kx g1 g2 q9
  refine P_aload_n (pc := 7) dX9_greenest_7 rfl ?_
  obtain ⟨o4, e9, k⟩ := k
  refine G9_2 (pc := 8) dX9_greenest_8 l_X9_26 e9 ?_
  clear e9
  obtain ⟨o5, e9, k⟩ := k
  refine GN2_0 (pc := 11) dX9_greenest_11 n_X9_136 e9 ?_
  clear e9
  obtain ⟨a6, e9, k⟩ := k
  refine GN4_2 (pc := 14) dX9_greenest_14 n_X9_194 e9 ?_
  clear e9
  refine P_astore_n (pc := 17) dX9_greenest_17 (by decide) (Or.inr (by intro z e9; cases e9)) rfl ?_
  refine P_aload_n (pc := 18) dX9_greenest_18 rfl ?_
  obtain ⟨d2, nc, ns, rc8, rs9, Qc, g1, rfl, rfl, g2, kk, kx⟩ := k
  refine P_callS (As := [vR a6]) (st := []) (pc := 19) dX9_greenest_19 mk_X9_mostOf l_X9_260 st_X9_mostOf ini_X9 rfl g1 (Nat.le_of_ble_eq_true rfl) rfl g2 (fun v9 h9 q9 => ?_) (fun E h9 q9 => PX_out rfl (kx E h9 q9))
  obtain ⟨x10, rfl, k⟩ := kk v9 h9 q9
  clear kk kx g1 g2 q9
  refine P_istore_n (pc := 22) dX9_greenest_22 (by decide) (Or.inr (by intro z e9; cases e9)) rfl ?_
  refine P_aload_n (pc := 23) dX9_greenest_23 rfl ?_
  refine P_iload_n (pc := 24) dX9_greenest_24 rfl ?_
  obtain ⟨n9, f9, e9, i9, k⟩ := k
  refine P_iald (pc := 25) dX9_greenest_25 e9 i9 ?_
  clear e9
  generalize f9 (Int32.toNatClampNeg x10) = x11 at k ⊢
  refine P_if_ne (tgt := 31) (pc := 26) dX9_greenest_26 (by decide) (fun c => ?_) (fun c => ?_)
  · have k := k.2 c
    refine P_iload_n (pc := 31) dX9_greenest_31 rfl ?_
    refine P_if_ne (tgt := 39) (pc := 32) dX9_greenest_32 (by decide) (fun c => ?_) (fun c => ?_)
    · have k := k.2 c
      refine P_aload_n (pc := 39) dX9_greenest_39 rfl ?_
      refine P_iload_n (pc := 40) dX9_greenest_40 rfl ?_
      obtain ⟨n9, f9, e9, i9, k⟩ := k
      refine P_iald (pc := 41) dX9_greenest_41 e9 i9 ?_
      clear e9
      generalize f9 (Int32.toNatClampNeg x10) = x12 at k ⊢
      exact R_ireturn (pc := 42) dX9_greenest_42 rfl rfl k
    · have k := k.1 c
      refine P_iload_n (pc := 35) dX9_greenest_35 rfl ?_
      refine P_goto (tgt := 42) (pc := 36) dX9_greenest_36 (by decide) ?_
      exact R_ireturn (pc := 42) dX9_greenest_42 rfl rfl k
  · have k := k.1 c
    refine P_iconst (v := (-1 : Int32)) (pc := 29) dX9_greenest_29 (by decide) ?_
    exact R_ireturn (pc := 30) dX9_greenest_30 rfl rfl k
-- X9_stalest stalest(I)I
theorem dX9_stalest_0 : decode cX9_stalest 0 = .ok (.aload_n 0, 1) := by decide +kernel
theorem dX9_stalest_1 : decode cX9_stalest 1 = .ok (.iload_n 1, 1) := by decide +kernel
theorem dX9_stalest_2 : decode cX9_stalest 2 = .ok (.iconst 0, 1) := by decide +kernel
theorem dX9_stalest_3 : decode cX9_stalest 3 = .ok (.iconst 1, 1) := by decide +kernel
theorem dX9_stalest_4 : decode cX9_stalest 4 = .ok (.invokevirtual 159, 3) := by decide +kernel
theorem dX9_stalest_7 : decode cX9_stalest 7 = .ok (.aload_n 0, 1) := by decide +kernel
theorem dX9_stalest_8 : decode cX9_stalest 8 = .ok (.getfield 61, 3) := by decide +kernel
theorem dX9_stalest_11 : decode cX9_stalest 11 = .ok (.getfield 123, 3) := by decide +kernel
theorem dX9_stalest_14 : decode cX9_stalest 14 = .ok (.ifCond .ne 5, 3) := by decide +kernel
theorem dX9_stalest_17 : decode cX9_stalest 17 = .ok (.iconst (-1), 1) := by decide +kernel
theorem dX9_stalest_18 : decode cX9_stalest 18 = .ok (.ireturn, 1) := by decide +kernel
theorem dX9_stalest_19 : decode cX9_stalest 19 = .ok (.aload_n 0, 1) := by decide +kernel
theorem dX9_stalest_20 : decode cX9_stalest 20 = .ok (.getfield 26, 3) := by decide +kernel
theorem dX9_stalest_23 : decode cX9_stalest 23 = .ok (.getfield 136, 3) := by decide +kernel
theorem dX9_stalest_26 : decode cX9_stalest 26 = .ok (.getfield 206, 3) := by decide +kernel
theorem dX9_stalest_29 : decode cX9_stalest 29 = .ok (.astore_n 2, 1) := by decide +kernel
theorem dX9_stalest_30 : decode cX9_stalest 30 = .ok (.iconst 0, 1) := by decide +kernel
theorem dX9_stalest_31 : decode cX9_stalest 31 = .ok (.istore_n 3, 1) := by decide +kernel
theorem dX9_stalest_32 : decode cX9_stalest 32 = .ok (.iconst 1, 1) := by decide +kernel
theorem dX9_stalest_33 : decode cX9_stalest 33 = .ok (.istore 4, 2) := by decide +kernel
theorem dX9_stalest_35 : decode cX9_stalest 35 = .ok (.iload 4, 2) := by decide +kernel
theorem dX9_stalest_37 : decode cX9_stalest 37 = .ok (.aload_n 0, 1) := by decide +kernel
theorem dX9_stalest_38 : decode cX9_stalest 38 = .ok (.getfield 61, 3) := by decide +kernel
theorem dX9_stalest_41 : decode cX9_stalest 41 = .ok (.getfield 123, 3) := by decide +kernel
theorem dX9_stalest_44 : decode cX9_stalest 44 = .ok (.if_icmp .ge 22, 3) := by decide +kernel
theorem dX9_stalest_47 : decode cX9_stalest 47 = .ok (.aload_n 2, 1) := by decide +kernel
theorem dX9_stalest_48 : decode cX9_stalest 48 = .ok (.iload 4, 2) := by decide +kernel
theorem dX9_stalest_50 : decode cX9_stalest 50 = .ok (.iaload, 1) := by decide +kernel
theorem dX9_stalest_51 : decode cX9_stalest 51 = .ok (.aload_n 2, 1) := by decide +kernel
theorem dX9_stalest_52 : decode cX9_stalest 52 = .ok (.iload_n 3, 1) := by decide +kernel
theorem dX9_stalest_53 : decode cX9_stalest 53 = .ok (.iaload, 1) := by decide +kernel
theorem dX9_stalest_54 : decode cX9_stalest 54 = .ok (.if_icmp .ge 6, 3) := by decide +kernel
theorem dX9_stalest_57 : decode cX9_stalest 57 = .ok (.iload 4, 2) := by decide +kernel
theorem dX9_stalest_59 : decode cX9_stalest 59 = .ok (.istore_n 3, 1) := by decide +kernel
theorem dX9_stalest_60 : decode cX9_stalest 60 = .ok (.iinc 4 1, 3) := by decide +kernel
theorem dX9_stalest_63 : decode cX9_stalest 63 = .ok (.goto (-28), 3) := by decide +kernel
theorem dX9_stalest_66 : decode cX9_stalest 66 = .ok (.iload_n 1, 1) := by decide +kernel
theorem dX9_stalest_67 : decode cX9_stalest 67 = .ok (.ifCond .ne 7, 3) := by decide +kernel
theorem dX9_stalest_70 : decode cX9_stalest 70 = .ok (.iload_n 3, 1) := by decide +kernel
theorem dX9_stalest_71 : decode cX9_stalest 71 = .ok (.goto 6, 3) := by decide +kernel
theorem dX9_stalest_74 : decode cX9_stalest 74 = .ok (.aload_n 2, 1) := by decide +kernel
theorem dX9_stalest_75 : decode cX9_stalest 75 = .ok (.iload_n 3, 1) := by decide +kernel
theorem dX9_stalest_76 : decode cX9_stalest 76 = .ok (.iaload, 1) := by decide +kernel
theorem dX9_stalest_77 : decode cX9_stalest 77 = .ok (.ireturn, 1) := by decide +kernel
theorem r_X9_stalest_0 {d rc rs : Nat} {Q : PO → PH → Prop} {h : PH} {l0 : Nat} {l1 : Int32}
    (k : isO h 10900 l0 ∧ cl d rc rs M_X9_needWithin [vR (900, l0), vI l1, vI (0 : Int32), vI (1 : Int32)] h (kV fun h1 rc2 rs3 => gO h1 (10908, l0) 100 fun o4 => gI h1 (10107, o4) fun x5 => br (x5 = 0) (Q (.inl (some (vI (-1 : Int32)))) h1) (gO h1 (10902, l0) 200 fun o6 => gO h1 (10200, o6) 400 fun o7 => gA h1 (10403, o7) fun a8 => PW d M_X9_stalest Q rc2 rs3 35 [vR (900, l0), vI l1, vR a8, vI (0 : Int32), vI (1 : Int32)] [] h1)) (fun E h1 rc2 rs3 => Q (.inr E) h1)) :
    PW d M_X9_stalest Q rc rs 0 [vR (900, l0), vI l1, vU, vU, vU] [] h := by
  refine P_aload_n (pc := 0) dX9_stalest_0 rfl ?_
  refine P_iload_n (pc := 1) dX9_stalest_1 rfl ?_
  refine P_iconst (v := (0 : Int32)) (pc := 2) dX9_stalest_2 (by decide) ?_
  refine P_iconst (v := (1 : Int32)) (pc := 3) dX9_stalest_3 (by decide) ?_
  obtain ⟨⟨w9, e9⟩, d2, nc, ns, rc2, rs3, Qc, g1, rfl, rfl, g2, kk, kx⟩ := k
  refine P_callV (ci := 9) (k := 0) (id := l0) (q := (RX9, TX9, 18)) (As := [vI l1, vI (0 : Int32), vI (1 : Int32)]) (st := []) (pc := 4) dX9_stalest_4 mk_X9_needWithin l_X9_159 im_X9_needWithin se_X9_needWithin ini_X9 rfl g1 (Nat.le_of_ble_eq_true rfl) rfl rfl (by decide) e9 rfl g2 (fun v9 h9 q9 => ?_) (fun E h9 q9 => PX_out rfl (kx E h9 q9))
  obtain ⟨rfl, k⟩ := kk v9 h9 q9
  clear kk kx g1 g2 q9
  refine P_aload_n (pc := 7) dX9_stalest_7 rfl ?_
  obtain ⟨o4, e9, k⟩ := k
  refine G9_8 (pc := 8) dX9_stalest_8 l_X9_61 e9 ?_
  clear e9
  obtain ⟨x5, e9, k⟩ := k
  refine GN1_7 (pc := 11) dX9_stalest_11 n_X9_123 e9 ?_
  clear e9
  refine P_if_ne (tgt := 19) (pc := 14) dX9_stalest_14 (by decide) (fun c => ?_) (fun c => ?_)
  · have k := k.2 c
    refine P_aload_n (pc := 19) dX9_stalest_19 rfl ?_
    obtain ⟨o6, e9, k⟩ := k
    refine G9_2 (pc := 20) dX9_stalest_20 l_X9_26 e9 ?_
    clear e9
    obtain ⟨o7, e9, k⟩ := k
    refine GN2_0 (pc := 23) dX9_stalest_23 n_X9_136 e9 ?_
    clear e9
    obtain ⟨a8, e9, k⟩ := k
    refine GN4_3 (pc := 26) dX9_stalest_26 n_X9_206 e9 ?_
    clear e9
    refine P_astore_n (pc := 29) dX9_stalest_29 (by decide) (Or.inr (by intro z e9; cases e9)) rfl ?_
    refine P_iconst (v := (0 : Int32)) (pc := 30) dX9_stalest_30 (by decide) ?_
    refine P_istore_n (pc := 31) dX9_stalest_31 (by decide) (Or.inr (by intro z e9; cases e9)) rfl ?_
    refine P_iconst (v := (1 : Int32)) (pc := 32) dX9_stalest_32 (by decide) ?_
    refine P_istore (pc := 33) dX9_stalest_33 (by decide) (Or.inr (by intro z e9; cases e9)) rfl ?_
    exact k
  · have k := k.1 c
    refine P_iconst (v := (-1 : Int32)) (pc := 17) dX9_stalest_17 (by decide) ?_
    exact R_ireturn (pc := 18) dX9_stalest_18 rfl rfl k
theorem r_X9_stalest_35 {d rc rs : Nat} {Q : PO → PH → Prop} {h : PH} {l0 : Nat} {l1 : Int32} {l2 : LA} {l3 : Int32} {l4 : Int32}
    (k : gO h (10908, l0) 100 fun o1 => gI h (10107, o1) fun x2 => br (l4 < x2) (xI h l2 l4 fun x4 => xI h l2 l3 fun x5 => br (x4 < x5) (PW d M_X9_stalest Q rc rs 35 [vR (900, l0), vI l1, vR l2, vI l4, vI (l4 + (1 : Int32))] [] h) (PW d M_X9_stalest Q rc rs 35 [vR (900, l0), vI l1, vR l2, vI l3, vI (l4 + (1 : Int32))] [] h)) (br (l1 = 0) (Q (.inl (some (vI l3))) h) (xI h l2 l3 fun x3 => Q (.inl (some (vI x3))) h))) :
    PW d M_X9_stalest Q rc rs 35 [vR (900, l0), vI l1, vR l2, vI l3, vI l4] [] h := by
  refine P_iload (pc := 35) dX9_stalest_35 rfl ?_
  refine P_aload_n (pc := 37) dX9_stalest_37 rfl ?_
  obtain ⟨o1, e9, k⟩ := k
  refine G9_8 (pc := 38) dX9_stalest_38 l_X9_61 e9 ?_
  clear e9
  obtain ⟨x2, e9, k⟩ := k
  refine GN1_7 (pc := 41) dX9_stalest_41 n_X9_123 e9 ?_
  clear e9
  refine P_icmp_ge (tgt := 66) (pc := 44) dX9_stalest_44 (by decide) (fun c => ?_) (fun c => ?_)
  · have k := k.2 (Int32.not_lt.mpr c)
    refine P_iload_n (pc := 66) dX9_stalest_66 rfl ?_
    refine P_if_ne (tgt := 74) (pc := 67) dX9_stalest_67 (by decide) (fun c => ?_) (fun c => ?_)
    · have k := k.2 c
      refine P_aload_n (pc := 74) dX9_stalest_74 rfl ?_
      refine P_iload_n (pc := 75) dX9_stalest_75 rfl ?_
      obtain ⟨n9, f9, e9, i9, k⟩ := k
      refine P_iald (pc := 76) dX9_stalest_76 e9 i9 ?_
      clear e9
      generalize f9 (Int32.toNatClampNeg l3) = x3 at k ⊢
      exact R_ireturn (pc := 77) dX9_stalest_77 rfl rfl k
    · have k := k.1 c
      refine P_iload_n (pc := 70) dX9_stalest_70 rfl ?_
      refine P_goto (tgt := 77) (pc := 71) dX9_stalest_71 (by decide) ?_
      exact R_ireturn (pc := 77) dX9_stalest_77 rfl rfl k
  · have k := k.1 (Int32.not_le.mp c)
    refine P_aload_n (pc := 47) dX9_stalest_47 rfl ?_
    refine P_iload (pc := 48) dX9_stalest_48 rfl ?_
    obtain ⟨n9, f9, e9, i9, k⟩ := k
    refine P_iald (pc := 50) dX9_stalest_50 e9 i9 ?_
    clear e9
    generalize f9 (Int32.toNatClampNeg l4) = x4 at k ⊢
    refine P_aload_n (pc := 51) dX9_stalest_51 rfl ?_
    refine P_iload_n (pc := 52) dX9_stalest_52 rfl ?_
    obtain ⟨n9, f9, e9, i9, k⟩ := k
    refine P_iald (pc := 53) dX9_stalest_53 e9 i9 ?_
    clear e9
    generalize f9 (Int32.toNatClampNeg l3) = x5 at k ⊢
    refine P_icmp_ge (tgt := 60) (pc := 54) dX9_stalest_54 (by decide) (fun c => ?_) (fun c => ?_)
    · have k := k.2 (Int32.not_lt.mpr c)
      refine P_iinc (v := l4 + (1 : Int32)) (pc := 60) dX9_stalest_60 (by decide) rfl rfl (Or.inr (by intro z e9; cases e9)) rfl ?_
      refine P_goto (tgt := 35) (pc := 63) dX9_stalest_63 (by decide) ?_
      exact k
    · have k := k.1 (Int32.not_le.mp c)
      refine P_iload (pc := 57) dX9_stalest_57 rfl ?_
      refine P_istore_n (pc := 59) dX9_stalest_59 (by decide) (Or.inr (by intro z e9; cases e9)) rfl ?_
      refine P_iinc (v := l4 + (1 : Int32)) (pc := 60) dX9_stalest_60 (by decide) rfl rfl (Or.inr (by intro z e9; cases e9)) rfl ?_
      refine P_goto (tgt := 35) (pc := 63) dX9_stalest_63 (by decide) ?_
      exact k
-- X9_coughs coughs(II)I
theorem dX9_coughs_0 : decode cX9_coughs 0 = .ok (.aload_n 0, 1) := by decide +kernel
theorem dX9_coughs_1 : decode cX9_coughs 1 = .ok (.iload_n 1, 1) := by decide +kernel
theorem dX9_coughs_2 : decode cX9_coughs 2 = .ok (.invokevirtual 197, 3) := by decide +kernel
theorem dX9_coughs_5 : decode cX9_coughs 5 = .ok (.aload_n 0, 1) := by decide +kernel
theorem dX9_coughs_6 : decode cX9_coughs 6 = .ok (.iload_n 2, 1) := by decide +kernel
theorem dX9_coughs_7 : decode cX9_coughs 7 = .ok (.iconst 0, 1) := by decide +kernel
theorem dX9_coughs_8 : decode cX9_coughs 8 = .ok (.bipush 99, 2) := by decide +kernel
theorem dX9_coughs_10 : decode cX9_coughs 10 = .ok (.invokevirtual 159, 3) := by decide +kernel
theorem dX9_coughs_13 : decode cX9_coughs 13 = .ok (.iconst 0, 1) := by decide +kernel
theorem dX9_coughs_14 : decode cX9_coughs 14 = .ok (.istore_n 3, 1) := by decide +kernel
theorem dX9_coughs_15 : decode cX9_coughs 15 = .ok (.iconst 0, 1) := by decide +kernel
theorem dX9_coughs_16 : decode cX9_coughs 16 = .ok (.istore 4, 2) := by decide +kernel
theorem dX9_coughs_18 : decode cX9_coughs 18 = .ok (.iload 4, 2) := by decide +kernel
theorem dX9_coughs_20 : decode cX9_coughs 20 = .ok (.iload_n 2, 1) := by decide +kernel
theorem dX9_coughs_21 : decode cX9_coughs 21 = .ok (.if_icmp .ge 33, 3) := by decide +kernel
theorem dX9_coughs_24 : decode cX9_coughs 24 = .ok (.iload_n 3, 1) := by decide +kernel
theorem dX9_coughs_25 : decode cX9_coughs 25 = .ok (.aload_n 0, 1) := by decide +kernel
theorem dX9_coughs_26 : decode cX9_coughs 26 = .ok (.getfield 61, 3) := by decide +kernel
theorem dX9_coughs_29 : decode cX9_coughs 29 = .ok (.iload_n 1, 1) := by decide +kernel
theorem dX9_coughs_30 : decode cX9_coughs 30 = .ok (.aload_n 0, 1) := by decide +kernel
theorem dX9_coughs_31 : decode cX9_coughs 31 = .ok (.getfield 26, 3) := by decide +kernel
theorem dX9_coughs_34 : decode cX9_coughs 34 = .ok (.getfield 136, 3) := by decide +kernel
theorem dX9_coughs_37 : decode cX9_coughs 37 = .ok (.getfield 169, 3) := by decide +kernel
theorem dX9_coughs_40 : decode cX9_coughs 40 = .ok (.iload 4, 2) := by decide +kernel
theorem dX9_coughs_42 : decode cX9_coughs 42 = .ok (.iadd, 1) := by decide +kernel
theorem dX9_coughs_43 : decode cX9_coughs 43 = .ok (.invokevirtual 263, 3) := by decide +kernel
theorem dX9_coughs_46 : decode cX9_coughs 46 = .ok (.iadd, 1) := by decide +kernel
theorem dX9_coughs_47 : decode cX9_coughs 47 = .ok (.istore_n 3, 1) := by decide +kernel
theorem dX9_coughs_48 : decode cX9_coughs 48 = .ok (.iinc 4 1, 3) := by decide +kernel
theorem dX9_coughs_51 : decode cX9_coughs 51 = .ok (.goto (-33), 3) := by decide +kernel
theorem dX9_coughs_54 : decode cX9_coughs 54 = .ok (.iload_n 3, 1) := by decide +kernel
theorem dX9_coughs_55 : decode cX9_coughs 55 = .ok (.ireturn, 1) := by decide +kernel
theorem r_X9_coughs_0 {d rc rs : Nat} {Q : PO → PH → Prop} {h : PH} {l0 : Nat} {l1 : Int32} {l2 : Int32}
    (k : isO h 10900 l0 ∧ cl d rc rs M_X9_needHeir [vR (900, l0), vI l1] h (kV fun h1 rc2 rs3 => isO h1 10900 l0 ∧ cl d rc2 rs3 M_X9_needWithin [vR (900, l0), vI l2, vI (0 : Int32), vI (99 : Int32)] h1 (kV fun h4 rc5 rs6 => PW d M_X9_coughs Q rc5 rs6 18 [vR (900, l0), vI l1, vI l2, vI (0 : Int32), vI (0 : Int32)] [] h4) (fun E h4 rc5 rs6 => Q (.inr E) h4)) (fun E h1 rc2 rs3 => Q (.inr E) h1)) :
    PW d M_X9_coughs Q rc rs 0 [vR (900, l0), vI l1, vI l2, vU, vU] [] h := by
  refine P_aload_n (pc := 0) dX9_coughs_0 rfl ?_
  refine P_iload_n (pc := 1) dX9_coughs_1 rfl ?_
  obtain ⟨⟨w9, e9⟩, d2, nc, ns, rc2, rs3, Qc, g1, rfl, rfl, g2, kk, kx⟩ := k
  refine P_callV (ci := 9) (k := 0) (id := l0) (q := (RX9, TX9, 18)) (As := [vI l1]) (st := []) (pc := 2) dX9_coughs_2 mk_X9_needHeir l_X9_197 im_X9_needHeir se_X9_needHeir ini_X9 rfl g1 (Nat.le_of_ble_eq_true rfl) rfl rfl (by decide) e9 rfl g2 (fun v9 h9 q9 => ?_) (fun E h9 q9 => PX_out rfl (kx E h9 q9))
  obtain ⟨rfl, k⟩ := kk v9 h9 q9
  clear kk kx g1 g2 q9
  refine P_aload_n (pc := 5) dX9_coughs_5 rfl ?_
  refine P_iload_n (pc := 6) dX9_coughs_6 rfl ?_
  refine P_iconst (v := (0 : Int32)) (pc := 7) dX9_coughs_7 (by decide) ?_
  refine P_bipush (v := (99 : Int32)) (pc := 8) dX9_coughs_8 (by decide) ?_
  obtain ⟨⟨w9, e9⟩, d2, nc, ns, rc5, rs6, Qc, g1, rfl, rfl, g2, kk, kx⟩ := k
  refine P_callV (ci := 9) (k := 0) (id := l0) (q := (RX9, TX9, 18)) (As := [vI l2, vI (0 : Int32), vI (99 : Int32)]) (st := []) (pc := 10) dX9_coughs_10 mk_X9_needWithin l_X9_159 im_X9_needWithin se_X9_needWithin ini_X9 rfl g1 (Nat.le_of_ble_eq_true rfl) rfl rfl (by decide) e9 rfl g2 (fun v9 h9 q9 => ?_) (fun E h9 q9 => PX_out rfl (kx E h9 q9))
  obtain ⟨rfl, k⟩ := kk v9 h9 q9
  clear kk kx g1 g2 q9
  refine P_iconst (v := (0 : Int32)) (pc := 13) dX9_coughs_13 (by decide) ?_
  refine P_istore_n (pc := 14) dX9_coughs_14 (by decide) (Or.inr (by intro z e9; cases e9)) rfl ?_
  refine P_iconst (v := (0 : Int32)) (pc := 15) dX9_coughs_15 (by decide) ?_
  refine P_istore (pc := 16) dX9_coughs_16 (by decide) (Or.inr (by intro z e9; cases e9)) rfl ?_
  exact k
theorem r_X9_coughs_18 {d rc rs : Nat} {Q : PO → PH → Prop} {h : PH} {l0 : Nat} {l1 : Int32} {l2 : Int32} {l3 : Int32} {l4 : Int32}
    (k : br (l4 < l2) (gO h (10908, l0) 100 fun o1 => gO h (10902, l0) 200 fun o2 => gO h (10200, o2) 400 fun o3 => gI h (10409, o3) fun x4 => isO h 10100 o1 ∧ cl d rc rs M_X1_coughsBeside [vR (100, o1), vI l1, vI (x4 + l4)] h (kI fun x8 h5 rc6 rs7 => PW d M_X9_coughs Q rc6 rs7 18 [vR (900, l0), vI l1, vI l2, vI (l3 + x8), vI (l4 + (1 : Int32))] [] h5) (fun E h5 rc6 rs7 => Q (.inr E) h5)) (Q (.inl (some (vI l3))) h)) :
    PW d M_X9_coughs Q rc rs 18 [vR (900, l0), vI l1, vI l2, vI l3, vI l4] [] h := by
  refine P_iload (pc := 18) dX9_coughs_18 rfl ?_
  refine P_iload_n (pc := 20) dX9_coughs_20 rfl ?_
  refine P_icmp_ge (tgt := 54) (pc := 21) dX9_coughs_21 (by decide) (fun c => ?_) (fun c => ?_)
  · have k := k.2 (Int32.not_lt.mpr c)
    refine P_iload_n (pc := 54) dX9_coughs_54 rfl ?_
    exact R_ireturn (pc := 55) dX9_coughs_55 rfl rfl k
  · have k := k.1 (Int32.not_le.mp c)
    refine P_iload_n (pc := 24) dX9_coughs_24 rfl ?_
    refine P_aload_n (pc := 25) dX9_coughs_25 rfl ?_
    obtain ⟨o1, e9, k⟩ := k
    refine G9_8 (pc := 26) dX9_coughs_26 l_X9_61 e9 ?_
    clear e9
    refine P_iload_n (pc := 29) dX9_coughs_29 rfl ?_
    refine P_aload_n (pc := 30) dX9_coughs_30 rfl ?_
    obtain ⟨o2, e9, k⟩ := k
    refine G9_2 (pc := 31) dX9_coughs_31 l_X9_26 e9 ?_
    clear e9
    obtain ⟨o3, e9, k⟩ := k
    refine GN2_0 (pc := 34) dX9_coughs_34 n_X9_136 e9 ?_
    clear e9
    obtain ⟨x4, e9, k⟩ := k
    refine GN4_9 (pc := 37) dX9_coughs_37 n_X9_169 e9 ?_
    clear e9
    refine P_iload (pc := 40) dX9_coughs_40 rfl ?_
    refine P_iadd (pc := 42) dX9_coughs_42 ?_
    obtain ⟨⟨w9, e9⟩, d2, nc, ns, rc6, rs7, Qc, g1, rfl, rfl, g2, kk, kx⟩ := k
    refine P_callV (ci := 1) (k := 0) (id := o1) (q := (RX1, TX1, 11)) (As := [vI l1, vI (x4 + l4)]) (st := [vI l3]) (pc := 43) dX9_coughs_43 mk_X1_coughsBeside l_X9_263 im_X1_coughsBeside se_X1_coughsBeside ini_X1 rfl g1 (Nat.le_of_ble_eq_true rfl) rfl rfl (by decide) e9 rfl g2 (fun v9 h9 q9 => ?_) (fun E h9 q9 => PX_out rfl (kx E h9 q9))
    obtain ⟨x8, rfl, k⟩ := kk v9 h9 q9
    clear kk kx g1 g2 q9
    refine P_iadd (pc := 46) dX9_coughs_46 ?_
    refine P_istore_n (pc := 47) dX9_coughs_47 (by decide) (Or.inr (by intro z e9; cases e9)) rfl ?_
    refine P_iinc (v := l4 + (1 : Int32)) (pc := 48) dX9_coughs_48 (by decide) rfl rfl (Or.inr (by intro z e9; cases e9)) rfl ?_
    refine P_goto (tgt := 18) (pc := 51) dX9_coughs_51 (by decide) ?_
    exact k
-- X9_twins twins(I)I
theorem dX9_twins_0 : decode cX9_twins 0 = .ok (.aload_n 0, 1) := by decide +kernel
theorem dX9_twins_1 : decode cX9_twins 1 = .ok (.iload_n 1, 1) := by decide +kernel
theorem dX9_twins_2 : decode cX9_twins 2 = .ok (.iconst 0, 1) := by decide +kernel
theorem dX9_twins_3 : decode cX9_twins 3 = .ok (.iconst 1, 1) := by decide +kernel
theorem dX9_twins_4 : decode cX9_twins 4 = .ok (.invokevirtual 159, 3) := by decide +kernel
theorem dX9_twins_7 : decode cX9_twins 7 = .ok (.aload_n 0, 1) := by decide +kernel
theorem dX9_twins_8 : decode cX9_twins 8 = .ok (.getfield 26, 3) := by decide +kernel
theorem dX9_twins_11 : decode cX9_twins 11 = .ok (.getfield 136, 3) := by decide +kernel
theorem dX9_twins_14 : decode cX9_twins 14 = .ok (.astore_n 2, 1) := by decide +kernel
theorem dX9_twins_15 : decode cX9_twins 15 = .ok (.iconst 0, 1) := by decide +kernel
theorem dX9_twins_16 : decode cX9_twins 16 = .ok (.istore_n 3, 1) := by decide +kernel
theorem dX9_twins_17 : decode cX9_twins 17 = .ok (.iconst (-1), 1) := by decide +kernel
theorem dX9_twins_18 : decode cX9_twins 18 = .ok (.istore 4, 2) := by decide +kernel
theorem dX9_twins_20 : decode cX9_twins 20 = .ok (.iconst 0, 1) := by decide +kernel
theorem dX9_twins_21 : decode cX9_twins 21 = .ok (.istore 5, 2) := by decide +kernel
theorem dX9_twins_23 : decode cX9_twins 23 = .ok (.iload 5, 2) := by decide +kernel
theorem dX9_twins_25 : decode cX9_twins 25 = .ok (.aload_n 0, 1) := by decide +kernel
theorem dX9_twins_26 : decode cX9_twins 26 = .ok (.getfield 61, 3) := by decide +kernel
theorem dX9_twins_29 : decode cX9_twins 29 = .ok (.getfield 123, 3) := by decide +kernel
theorem dX9_twins_32 : decode cX9_twins 32 = .ok (.if_icmp .ge 91, 3) := by decide +kernel
theorem dX9_twins_35 : decode cX9_twins 35 = .ok (.iload 5, 2) := by decide +kernel
theorem dX9_twins_37 : decode cX9_twins 37 = .ok (.iconst 1, 1) := by decide +kernel
theorem dX9_twins_38 : decode cX9_twins 38 = .ok (.iadd, 1) := by decide +kernel
theorem dX9_twins_39 : decode cX9_twins 39 = .ok (.istore 6, 2) := by decide +kernel
theorem dX9_twins_41 : decode cX9_twins 41 = .ok (.iload 6, 2) := by decide +kernel
theorem dX9_twins_43 : decode cX9_twins 43 = .ok (.aload_n 0, 1) := by decide +kernel
theorem dX9_twins_44 : decode cX9_twins 44 = .ok (.getfield 61, 3) := by decide +kernel
theorem dX9_twins_47 : decode cX9_twins 47 = .ok (.getfield 123, 3) := by decide +kernel
theorem dX9_twins_50 : decode cX9_twins 50 = .ok (.if_icmp .ge 67, 3) := by decide +kernel
theorem dX9_twins_53 : decode cX9_twins 53 = .ok (.aload_n 2, 1) := by decide +kernel
theorem dX9_twins_54 : decode cX9_twins 54 = .ok (.getfield 200, 3) := by decide +kernel
theorem dX9_twins_57 : decode cX9_twins 57 = .ok (.iload 5, 2) := by decide +kernel
theorem dX9_twins_59 : decode cX9_twins 59 = .ok (.iaload, 1) := by decide +kernel
theorem dX9_twins_60 : decode cX9_twins 60 = .ok (.aload_n 2, 1) := by decide +kernel
theorem dX9_twins_61 : decode cX9_twins 61 = .ok (.getfield 200, 3) := by decide +kernel
theorem dX9_twins_64 : decode cX9_twins 64 = .ok (.iload 6, 2) := by decide +kernel
theorem dX9_twins_66 : decode cX9_twins 66 = .ok (.iaload, 1) := by decide +kernel
theorem dX9_twins_67 : decode cX9_twins 67 = .ok (.if_icmp .ne 44, 3) := by decide +kernel
theorem dX9_twins_70 : decode cX9_twins 70 = .ok (.aload_n 2, 1) := by decide +kernel
theorem dX9_twins_71 : decode cX9_twins 71 = .ok (.getfield 203, 3) := by decide +kernel
theorem dX9_twins_74 : decode cX9_twins 74 = .ok (.iload 5, 2) := by decide +kernel
theorem dX9_twins_76 : decode cX9_twins 76 = .ok (.iaload, 1) := by decide +kernel
theorem dX9_twins_77 : decode cX9_twins 77 = .ok (.aload_n 2, 1) := by decide +kernel
theorem dX9_twins_78 : decode cX9_twins 78 = .ok (.getfield 203, 3) := by decide +kernel
theorem dX9_twins_81 : decode cX9_twins 81 = .ok (.iload 6, 2) := by decide +kernel
theorem dX9_twins_83 : decode cX9_twins 83 = .ok (.iaload, 1) := by decide +kernel
theorem dX9_twins_84 : decode cX9_twins 84 = .ok (.if_icmp .ne 27, 3) := by decide +kernel
theorem dX9_twins_87 : decode cX9_twins 87 = .ok (.iinc 3 1, 3) := by decide +kernel
theorem dX9_twins_90 : decode cX9_twins 90 = .ok (.iload 4, 2) := by decide +kernel
theorem dX9_twins_92 : decode cX9_twins 92 = .ok (.iconst (-1), 1) := by decide +kernel
theorem dX9_twins_93 : decode cX9_twins 93 = .ok (.if_icmp .ne 14, 3) := by decide +kernel
theorem dX9_twins_96 : decode cX9_twins 96 = .ok (.bipush 10, 2) := by decide +kernel
theorem dX9_twins_98 : decode cX9_twins 98 = .ok (.iload 5, 2) := by decide +kernel
theorem dX9_twins_100 : decode cX9_twins 100 = .ok (.imul, 1) := by decide +kernel
theorem dX9_twins_101 : decode cX9_twins 101 = .ok (.iload 6, 2) := by decide +kernel
theorem dX9_twins_103 : decode cX9_twins 103 = .ok (.iadd, 1) := by decide +kernel
theorem dX9_twins_104 : decode cX9_twins 104 = .ok (.goto 5, 3) := by decide +kernel
theorem dX9_twins_107 : decode cX9_twins 107 = .ok (.iload 4, 2) := by decide +kernel
theorem dX9_twins_109 : decode cX9_twins 109 = .ok (.istore 4, 2) := by decide +kernel
theorem dX9_twins_111 : decode cX9_twins 111 = .ok (.iinc 6 1, 3) := by decide +kernel
theorem dX9_twins_114 : decode cX9_twins 114 = .ok (.goto (-73), 3) := by decide +kernel
theorem dX9_twins_117 : decode cX9_twins 117 = .ok (.iinc 5 1, 3) := by decide +kernel
theorem dX9_twins_120 : decode cX9_twins 120 = .ok (.goto (-97), 3) := by decide +kernel
theorem dX9_twins_123 : decode cX9_twins 123 = .ok (.iload_n 1, 1) := by decide +kernel
theorem dX9_twins_124 : decode cX9_twins 124 = .ok (.ifCond .ne 7, 3) := by decide +kernel
theorem dX9_twins_127 : decode cX9_twins 127 = .ok (.iload_n 3, 1) := by decide +kernel
theorem dX9_twins_128 : decode cX9_twins 128 = .ok (.goto 5, 3) := by decide +kernel
theorem dX9_twins_131 : decode cX9_twins 131 = .ok (.iload 4, 2) := by decide +kernel
theorem dX9_twins_133 : decode cX9_twins 133 = .ok (.ireturn, 1) := by decide +kernel
theorem r_X9_twins_0 {d rc rs : Nat} {Q : PO → PH → Prop} {h : PH} {l0 : Nat} {l1 : Int32}
    (k : isO h 10900 l0 ∧ cl d rc rs M_X9_needWithin [vR (900, l0), vI l1, vI (0 : Int32), vI (1 : Int32)] h (kV fun h1 rc2 rs3 => gO h1 (10902, l0) 200 fun o4 => gO h1 (10200, o4) 400 fun o5 => PW d M_X9_twins Q rc2 rs3 23 [vR (900, l0), vI l1, vR (400, o5), vI (0 : Int32), vI (-1 : Int32), vI (0 : Int32), vU] [] h1) (fun E h1 rc2 rs3 => Q (.inr E) h1)) :
    PW d M_X9_twins Q rc rs 0 [vR (900, l0), vI l1, vU, vU, vU, vU, vU] [] h := by
  refine P_aload_n (pc := 0) dX9_twins_0 rfl ?_
  refine P_iload_n (pc := 1) dX9_twins_1 rfl ?_
  refine P_iconst (v := (0 : Int32)) (pc := 2) dX9_twins_2 (by decide) ?_
  refine P_iconst (v := (1 : Int32)) (pc := 3) dX9_twins_3 (by decide) ?_
  obtain ⟨⟨w9, e9⟩, d2, nc, ns, rc2, rs3, Qc, g1, rfl, rfl, g2, kk, kx⟩ := k
  refine P_callV (ci := 9) (k := 0) (id := l0) (q := (RX9, TX9, 18)) (As := [vI l1, vI (0 : Int32), vI (1 : Int32)]) (st := []) (pc := 4) dX9_twins_4 mk_X9_needWithin l_X9_159 im_X9_needWithin se_X9_needWithin ini_X9 rfl g1 (Nat.le_of_ble_eq_true rfl) rfl rfl (by decide) e9 rfl g2 (fun v9 h9 q9 => ?_) (fun E h9 q9 => PX_out rfl (kx E h9 q9))
  obtain ⟨rfl, k⟩ := kk v9 h9 q9
  clear kk kx g1 g2 q9
  refine P_aload_n (pc := 7) dX9_twins_7 rfl ?_
  obtain ⟨o4, e9, k⟩ := k
  refine G9_2 (pc := 8) dX9_twins_8 l_X9_26 e9 ?_
  clear e9
  obtain ⟨o5, e9, k⟩ := k
  refine GN2_0 (pc := 11) dX9_twins_11 n_X9_136 e9 ?_
  clear e9
  refine P_astore_n (pc := 14) dX9_twins_14 (by decide) (Or.inr (by intro z e9; cases e9)) rfl ?_
  refine P_iconst (v := (0 : Int32)) (pc := 15) dX9_twins_15 (by decide) ?_
  refine P_istore_n (pc := 16) dX9_twins_16 (by decide) (Or.inr (by intro z e9; cases e9)) rfl ?_
  refine P_iconst (v := (-1 : Int32)) (pc := 17) dX9_twins_17 (by decide) ?_
  refine P_istore (pc := 18) dX9_twins_18 (by decide) (Or.inr (by intro z e9; cases e9)) rfl ?_
  refine P_iconst (v := (0 : Int32)) (pc := 20) dX9_twins_20 (by decide) ?_
  refine P_istore (pc := 21) dX9_twins_21 (by decide) (Or.inr (by intro z e9; cases e9)) rfl ?_
  exact k
theorem r_X9_twins_23 {d rc rs : Nat} {Q : PO → PH → Prop} {h : PH} {l0 : Nat} {l1 : Int32} {l2 : Nat} {l3 : Int32} {l4 : Int32} {l5 : Int32}
    (k : gO h (10908, l0) 100 fun o1 => gI h (10107, o1) fun x2 => br (l5 < x2) (PW d M_X9_twins Q rc rs 41 [vR (900, l0), vI l1, vR (400, l2), vI l3, vI l4, vI l5, vI (l5 + (1 : Int32))] [] h) (br (l1 = 0) (Q (.inl (some (vI l3))) h) (Q (.inl (some (vI l4))) h))) :
    PW d M_X9_twins Q rc rs 23 [vR (900, l0), vI l1, vR (400, l2), vI l3, vI l4, vI l5, vU] [] h := by
  refine P_iload (pc := 23) dX9_twins_23 rfl ?_
  refine P_aload_n (pc := 25) dX9_twins_25 rfl ?_
  obtain ⟨o1, e9, k⟩ := k
  refine G9_8 (pc := 26) dX9_twins_26 l_X9_61 e9 ?_
  clear e9
  obtain ⟨x2, e9, k⟩ := k
  refine GN1_7 (pc := 29) dX9_twins_29 n_X9_123 e9 ?_
  clear e9
  refine P_icmp_ge (tgt := 123) (pc := 32) dX9_twins_32 (by decide) (fun c => ?_) (fun c => ?_)
  · have k := k.2 (Int32.not_lt.mpr c)
    refine P_iload_n (pc := 123) dX9_twins_123 rfl ?_
    refine P_if_ne (tgt := 131) (pc := 124) dX9_twins_124 (by decide) (fun c => ?_) (fun c => ?_)
    · have k := k.2 c
      refine P_iload (pc := 131) dX9_twins_131 rfl ?_
      exact R_ireturn (pc := 133) dX9_twins_133 rfl rfl k
    · have k := k.1 c
      refine P_iload_n (pc := 127) dX9_twins_127 rfl ?_
      refine P_goto (tgt := 133) (pc := 128) dX9_twins_128 (by decide) ?_
      exact R_ireturn (pc := 133) dX9_twins_133 rfl rfl k
  · have k := k.1 (Int32.not_le.mp c)
    refine P_iload (pc := 35) dX9_twins_35 rfl ?_
    refine P_iconst (v := (1 : Int32)) (pc := 37) dX9_twins_37 (by decide) ?_
    refine P_iadd (pc := 38) dX9_twins_38 ?_
    refine P_istore (pc := 39) dX9_twins_39 (by decide) (Or.inr (by intro z e9; cases e9)) rfl ?_
    exact k
theorem r_X9_twins_41 {d rc rs : Nat} {Q : PO → PH → Prop} {h : PH} {l0 : Nat} {l1 : Int32} {l2 : Nat} {l3 : Int32} {l4 : Int32} {l5 : Int32} {l6 : Int32}
    (k : gO h (10908, l0) 100 fun o1 => gI h (10107, o1) fun x2 => br (l6 < x2) (gA h (10400, l2) fun a3 => xI h a3 l5 fun x4 => gA h (10400, l2) fun a5 => xI h a5 l6 fun x6 => br (x4 = x6) (gA h (10401, l2) fun a7 => xI h a7 l5 fun x8 => gA h (10401, l2) fun a9 => xI h a9 l6 fun x10 => br (x8 = x10) (br (l4 = (-1 : Int32)) (PW d M_X9_twins Q rc rs 41 [vR (900, l0), vI l1, vR (400, l2), vI (l3 + (1 : Int32)), vI (((10 : Int32) * l5) + l6), vI l5, vI (l6 + (1 : Int32))] [] h) (PW d M_X9_twins Q rc rs 41 [vR (900, l0), vI l1, vR (400, l2), vI (l3 + (1 : Int32)), vI l4, vI l5, vI (l6 + (1 : Int32))] [] h)) (PW d M_X9_twins Q rc rs 41 [vR (900, l0), vI l1, vR (400, l2), vI l3, vI l4, vI l5, vI (l6 + (1 : Int32))] [] h)) (PW d M_X9_twins Q rc rs 41 [vR (900, l0), vI l1, vR (400, l2), vI l3, vI l4, vI l5, vI (l6 + (1 : Int32))] [] h)) (PW d M_X9_twins Q rc rs 23 [vR (900, l0), vI l1, vR (400, l2), vI l3, vI l4, vI (l5 + (1 : Int32)), vU] [] h)) :
    PW d M_X9_twins Q rc rs 41 [vR (900, l0), vI l1, vR (400, l2), vI l3, vI l4, vI l5, vI l6] [] h := by
  refine P_iload (pc := 41) dX9_twins_41 rfl ?_
  refine P_aload_n (pc := 43) dX9_twins_43 rfl ?_
  obtain ⟨o1, e9, k⟩ := k
  refine G9_8 (pc := 44) dX9_twins_44 l_X9_61 e9 ?_
  clear e9
  obtain ⟨x2, e9, k⟩ := k
  refine GN1_7 (pc := 47) dX9_twins_47 n_X9_123 e9 ?_
  clear e9
  refine P_icmp_ge (tgt := 117) (pc := 50) dX9_twins_50 (by decide) (fun c => ?_) (fun c => ?_)
  · have k := k.2 (Int32.not_lt.mpr c)
    refine P_iinc (v := l5 + (1 : Int32)) (pc := 117) dX9_twins_117 (by decide) rfl rfl (Or.inr (by intro z e9; cases e9)) rfl ?_
    refine P_goto (tgt := 23) (pc := 120) dX9_twins_120 (by decide) ?_
    exact P_drop (ls2 := [vR (900, l0), vI l1, vR (400, l2), vI l3, vI l4, vI (l5 + (1 : Int32)), vU]) (ls := [vR (900, l0), vI l1, vR (400, l2), vI l3, vI l4, vI (l5 + (1 : Int32)), vI l6]) ⟨Or.inr rfl, ⟨Or.inr rfl, ⟨Or.inr rfl, ⟨Or.inr rfl, ⟨Or.inr rfl, ⟨Or.inr rfl, ⟨Or.inl rfl, trivial⟩⟩⟩⟩⟩⟩⟩ k
  · have k := k.1 (Int32.not_le.mp c)
    refine P_aload_n (pc := 53) dX9_twins_53 rfl ?_
    obtain ⟨a3, e9, k⟩ := k
    refine GN4_0 (pc := 54) dX9_twins_54 n_X9_200 e9 ?_
    clear e9
    refine P_iload (pc := 57) dX9_twins_57 rfl ?_
    obtain ⟨n9, f9, e9, i9, k⟩ := k
    refine P_iald (pc := 59) dX9_twins_59 e9 i9 ?_
    clear e9
    generalize f9 (Int32.toNatClampNeg l5) = x4 at k ⊢
    refine P_aload_n (pc := 60) dX9_twins_60 rfl ?_
    obtain ⟨a5, e9, k⟩ := k
    refine GN4_0 (pc := 61) dX9_twins_61 n_X9_200 e9 ?_
    clear e9
    refine P_iload (pc := 64) dX9_twins_64 rfl ?_
    obtain ⟨n9, f9, e9, i9, k⟩ := k
    refine P_iald (pc := 66) dX9_twins_66 e9 i9 ?_
    clear e9
    generalize f9 (Int32.toNatClampNeg l6) = x6 at k ⊢
    refine P_icmp_ne (tgt := 111) (pc := 67) dX9_twins_67 (by decide) (fun c => ?_) (fun c => ?_)
    · have k := k.2 c
      refine P_iinc (v := l6 + (1 : Int32)) (pc := 111) dX9_twins_111 (by decide) rfl rfl (Or.inr (by intro z e9; cases e9)) rfl ?_
      refine P_goto (tgt := 41) (pc := 114) dX9_twins_114 (by decide) ?_
      exact k
    · have k := k.1 c
      refine P_aload_n (pc := 70) dX9_twins_70 rfl ?_
      obtain ⟨a7, e9, k⟩ := k
      refine GN4_1 (pc := 71) dX9_twins_71 n_X9_203 e9 ?_
      clear e9
      refine P_iload (pc := 74) dX9_twins_74 rfl ?_
      obtain ⟨n9, f9, e9, i9, k⟩ := k
      refine P_iald (pc := 76) dX9_twins_76 e9 i9 ?_
      clear e9
      generalize f9 (Int32.toNatClampNeg l5) = x8 at k ⊢
      refine P_aload_n (pc := 77) dX9_twins_77 rfl ?_
      obtain ⟨a9, e9, k⟩ := k
      refine GN4_1 (pc := 78) dX9_twins_78 n_X9_203 e9 ?_
      clear e9
      refine P_iload (pc := 81) dX9_twins_81 rfl ?_
      obtain ⟨n9, f9, e9, i9, k⟩ := k
      refine P_iald (pc := 83) dX9_twins_83 e9 i9 ?_
      clear e9
      generalize f9 (Int32.toNatClampNeg l6) = x10 at k ⊢
      refine P_icmp_ne (tgt := 111) (pc := 84) dX9_twins_84 (by decide) (fun c => ?_) (fun c => ?_)
      · have k := k.2 c
        refine P_iinc (v := l6 + (1 : Int32)) (pc := 111) dX9_twins_111 (by decide) rfl rfl (Or.inr (by intro z e9; cases e9)) rfl ?_
        refine P_goto (tgt := 41) (pc := 114) dX9_twins_114 (by decide) ?_
        exact k
      · have k := k.1 c
        refine P_iinc (v := l3 + (1 : Int32)) (pc := 87) dX9_twins_87 (by decide) rfl rfl (Or.inr (by intro z e9; cases e9)) rfl ?_
        refine P_iload (pc := 90) dX9_twins_90 rfl ?_
        refine P_iconst (v := (-1 : Int32)) (pc := 92) dX9_twins_92 (by decide) ?_
        refine P_icmp_ne (tgt := 107) (pc := 93) dX9_twins_93 (by decide) (fun c => ?_) (fun c => ?_)
        · have k := k.2 c
          refine P_iload (pc := 107) dX9_twins_107 rfl ?_
          refine P_istore (pc := 109) dX9_twins_109 (by decide) (Or.inr (by intro z e9; cases e9)) rfl ?_
          refine P_iinc (v := l6 + (1 : Int32)) (pc := 111) dX9_twins_111 (by decide) rfl rfl (Or.inr (by intro z e9; cases e9)) rfl ?_
          refine P_goto (tgt := 41) (pc := 114) dX9_twins_114 (by decide) ?_
          exact k
        · have k := k.1 c
          refine P_bipush (v := (10 : Int32)) (pc := 96) dX9_twins_96 (by decide) ?_
          refine P_iload (pc := 98) dX9_twins_98 rfl ?_
          refine P_imul (pc := 100) dX9_twins_100 ?_
          refine P_iload (pc := 101) dX9_twins_101 rfl ?_
          refine P_iadd (pc := 103) dX9_twins_103 ?_
          refine P_goto (tgt := 109) (pc := 104) dX9_twins_104 (by decide) ?_
          refine P_istore (pc := 109) dX9_twins_109 (by decide) (Or.inr (by intro z e9; cases e9)) rfl ?_
          refine P_iinc (v := l6 + (1 : Int32)) (pc := 111) dX9_twins_111 (by decide) rfl rfl (Or.inr (by intro z e9; cases e9)) rfl ?_
          refine P_goto (tgt := 41) (pc := 114) dX9_twins_114 (by decide) ?_
          exact k
-- X9_sunny sunny()I
theorem dX9_sunny_0 : decode cX9_sunny 0 = .ok (.aload_n 0, 1) := by decide +kernel
theorem dX9_sunny_1 : decode cX9_sunny 1 = .ok (.getfield 61, 3) := by decide +kernel
theorem dX9_sunny_4 : decode cX9_sunny 4 = .ok (.getfield 183, 3) := by decide +kernel
theorem dX9_sunny_7 : decode cX9_sunny 7 = .ok (.aload_n 0, 1) := by decide +kernel
theorem dX9_sunny_8 : decode cX9_sunny 8 = .ok (.getfield 26, 3) := by decide +kernel
theorem dX9_sunny_11 : decode cX9_sunny 11 = .ok (.getfield 136, 3) := by decide +kernel
theorem dX9_sunny_14 : decode cX9_sunny 14 = .ok (.getfield 169, 3) := by decide +kernel
theorem dX9_sunny_17 : decode cX9_sunny 17 = .ok (.isub, 1) := by decide +kernel
theorem dX9_sunny_18 : decode cX9_sunny 18 = .ok (.bipush 24, 2) := by decide +kernel
theorem dX9_sunny_20 : decode cX9_sunny 20 = .ok (.invokestatic 266, 3) := by decide +kernel
theorem dX9_sunny_23 : decode cX9_sunny 23 = .ok (.ireturn, 1) := by decide +kernel
theorem r_X9_sunny_0 {d rc rs : Nat} {Q : PO → PH → Prop} {h : PH} {l0 : Nat}
    (k : gO h (10908, l0) 100 fun o1 => gI h (10110, o1) fun x2 => gO h (10902, l0) 200 fun o3 => gO h (10200, o3) 400 fun o4 => gI h (10409, o4) fun x5 => cl d rc rs M_J9_floorMod_7cf53 [vI (x2 - x5), vI (24 : Int32)] h (kI fun x9 h6 rc7 rs8 => Q (.inl (some (vI x9))) h6) (fun E h6 rc7 rs8 => Q (.inr E) h6)) :
    PW d M_X9_sunny Q rc rs 0 [vR (900, l0)] [] h := by
  refine P_aload_n (pc := 0) dX9_sunny_0 rfl ?_
  obtain ⟨o1, e9, k⟩ := k
  refine G9_8 (pc := 1) dX9_sunny_1 l_X9_61 e9 ?_
  clear e9
  obtain ⟨x2, e9, k⟩ := k
  refine GN1_10 (pc := 4) dX9_sunny_4 n_X9_183 e9 ?_
  clear e9
  refine P_aload_n (pc := 7) dX9_sunny_7 rfl ?_
  obtain ⟨o3, e9, k⟩ := k
  refine G9_2 (pc := 8) dX9_sunny_8 l_X9_26 e9 ?_
  clear e9
  obtain ⟨o4, e9, k⟩ := k
  refine GN2_0 (pc := 11) dX9_sunny_11 n_X9_136 e9 ?_
  clear e9
  obtain ⟨x5, e9, k⟩ := k
  refine GN4_9 (pc := 14) dX9_sunny_14 n_X9_169 e9 ?_
  clear e9
  refine P_isub (pc := 17) dX9_sunny_17 ?_
  refine P_bipush (v := (24 : Int32)) (pc := 18) dX9_sunny_18 (by decide) ?_
  obtain ⟨d2, nc, ns, rc7, rs8, Qc, g1, rfl, rfl, g2, kk, kx⟩ := k
  refine P_callS (As := [vI (x2 - x5), vI (24 : Int32)]) (st := []) (pc := 20) dX9_sunny_20 mk_J9_floorMod_7cf53 l_X9_266 st_J9_floorMod_7cf53 ini_J9 rfl g1 (Nat.le_of_ble_eq_true rfl) rfl g2 (fun v9 h9 q9 => ?_) (fun E h9 q9 => PX_out rfl (kx E h9 q9))
  obtain ⟨x9, rfl, k⟩ := kk v9 h9 q9
  clear kk kx g1 g2 q9
  exact R_ireturn (pc := 23) dX9_sunny_23 rfl rfl k
-- X9_ahead ahead(II)I
theorem dX9_ahead_0 : decode cX9_ahead 0 = .ok (.aload_n 0, 1) := by decide +kernel
theorem dX9_ahead_1 : decode cX9_ahead 1 = .ok (.iload_n 1, 1) := by decide +kernel
theorem dX9_ahead_2 : decode cX9_ahead 2 = .ok (.iconst 0, 1) := by decide +kernel
theorem dX9_ahead_3 : decode cX9_ahead 3 = .ok (.bipush 99, 2) := by decide +kernel
theorem dX9_ahead_5 : decode cX9_ahead 5 = .ok (.invokevirtual 159, 3) := by decide +kernel
theorem dX9_ahead_8 : decode cX9_ahead 8 = .ok (.aload_n 0, 1) := by decide +kernel
theorem dX9_ahead_9 : decode cX9_ahead 9 = .ok (.iload_n 2, 1) := by decide +kernel
theorem dX9_ahead_10 : decode cX9_ahead 10 = .ok (.iconst 0, 1) := by decide +kernel
theorem dX9_ahead_11 : decode cX9_ahead 11 = .ok (.iconst 3, 1) := by decide +kernel
theorem dX9_ahead_12 : decode cX9_ahead 12 = .ok (.invokevirtual 159, 3) := by decide +kernel
theorem dX9_ahead_15 : decode cX9_ahead 15 = .ok (.aload_n 0, 1) := by decide +kernel
theorem dX9_ahead_16 : decode cX9_ahead 16 = .ok (.getfield 37, 3) := by decide +kernel
theorem dX9_ahead_19 : decode cX9_ahead 19 = .ok (.aload_n 0, 1) := by decide +kernel
theorem dX9_ahead_20 : decode cX9_ahead 20 = .ok (.getfield 26, 3) := by decide +kernel
theorem dX9_ahead_23 : decode cX9_ahead 23 = .ok (.getfield 136, 3) := by decide +kernel
theorem dX9_ahead_26 : decode cX9_ahead 26 = .ok (.invokevirtual 271, 3) := by decide +kernel
theorem dX9_ahead_29 : decode cX9_ahead 29 = .ok (.aload_n 0, 1) := by decide +kernel
theorem dX9_ahead_30 : decode cX9_ahead 30 = .ok (.getfield 37, 3) := by decide +kernel
theorem dX9_ahead_33 : decode cX9_ahead 33 = .ok (.iload_n 1, 1) := by decide +kernel
theorem dX9_ahead_34 : decode cX9_ahead 34 = .ok (.aload_n 0, 1) := by decide +kernel
theorem dX9_ahead_35 : decode cX9_ahead 35 = .ok (.getfield 61, 3) := by decide +kernel
theorem dX9_ahead_38 : decode cX9_ahead 38 = .ok (.aload_n 0, 1) := by decide +kernel
theorem dX9_ahead_39 : decode cX9_ahead 39 = .ok (.getfield 71, 3) := by decide +kernel
theorem dX9_ahead_42 : decode cX9_ahead 42 = .ok (.invokevirtual 275, 3) := by decide +kernel
theorem dX9_ahead_45 : decode cX9_ahead 45 = .ok (.iload_n 2, 1) := by decide +kernel
theorem dX9_ahead_46 : decode cX9_ahead 46 = .ok (.tableswitch 54 0 2 #[26, 37, 45], 26) := by decide +kernel
theorem dX9_ahead_72 : decode cX9_ahead 72 = .ok (.aload_n 0, 1) := by decide +kernel
theorem dX9_ahead_73 : decode cX9_ahead 73 = .ok (.getfield 37, 3) := by decide +kernel
theorem dX9_ahead_76 : decode cX9_ahead 76 = .ok (.getfield 194, 3) := by decide +kernel
theorem dX9_ahead_79 : decode cX9_ahead 79 = .ok (.invokestatic 190, 3) := by decide +kernel
theorem dX9_ahead_82 : decode cX9_ahead 82 = .ok (.ireturn, 1) := by decide +kernel
theorem dX9_ahead_83 : decode cX9_ahead 83 = .ok (.aload_n 0, 1) := by decide +kernel
theorem dX9_ahead_84 : decode cX9_ahead 84 = .ok (.getfield 37, 3) := by decide +kernel
theorem dX9_ahead_87 : decode cX9_ahead 87 = .ok (.invokevirtual 176, 3) := by decide +kernel
theorem dX9_ahead_90 : decode cX9_ahead 90 = .ok (.ireturn, 1) := by decide +kernel
theorem dX9_ahead_91 : decode cX9_ahead 91 = .ok (.aload_n 0, 1) := by decide +kernel
theorem dX9_ahead_92 : decode cX9_ahead 92 = .ok (.getfield 37, 3) := by decide +kernel
theorem dX9_ahead_95 : decode cX9_ahead 95 = .ok (.iconst 0, 1) := by decide +kernel
theorem dX9_ahead_96 : decode cX9_ahead 96 = .ok (.invokevirtual 179, 3) := by decide +kernel
theorem dX9_ahead_99 : decode cX9_ahead 99 = .ok (.ireturn, 1) := by decide +kernel
theorem dX9_ahead_100 : decode cX9_ahead 100 = .ok (.aload_n 0, 1) := by decide +kernel
theorem dX9_ahead_101 : decode cX9_ahead 101 = .ok (.getfield 37, 3) := by decide +kernel
theorem dX9_ahead_104 : decode cX9_ahead 104 = .ok (.getfield 186, 3) := by decide +kernel
theorem dX9_ahead_107 : decode cX9_ahead 107 = .ok (.invokestatic 190, 3) := by decide +kernel
theorem dX9_ahead_110 : decode cX9_ahead 110 = .ok (.ireturn, 1) := by decide +kernel
theorem r_X9_ahead_0 {d rc rs : Nat} {Q : PO → PH → Prop} {h : PH} {l0 : Nat} {l1 : Int32} {l2 : Int32}
    (k : isO h 10900 l0 ∧ cl d rc rs M_X9_needWithin [vR (900, l0), vI l1, vI (0 : Int32), vI (99 : Int32)] h (kV fun h1 rc2 rs3 => isO h1 10900 l0 ∧ cl d rc2 rs3 M_X9_needWithin [vR (900, l0), vI l2, vI (0 : Int32), vI (3 : Int32)] h1 (kV fun h4 rc5 rs6 => gO h4 (10904, l0) 400 fun o7 => gO h4 (10902, l0) 200 fun o8 => gO h4 (10200, o8) 400 fun o9 => isO h4 10400 o7 ∧ cl d rc5 rs6 M_X4_copy [vR (400, o7), vR (400, o9)] h4 (kV fun h10 rc11 rs12 => gO h10 (10904, l0) 400 fun o13 => gO h10 (10908, l0) 100 fun o14 => gO h10 (10910, l0) 300 fun o15 => isO h10 10400 o13 ∧ cl d rc11 rs12 M_X4_passHours [vR (400, o13), vI l1, vR (100, o14), vR (300, o15)] h10 (kV fun h16 rc17 rs18 => (l2 = (0 : Int32) → gO h16 (10904, l0) 400 fun o19 => gA h16 (10402, o19) fun a20 => cl d rc17 rs18 M_X9_sum [vR a20] h16 (kI fun x24 h21 rc22 rs23 => Q (.inl (some (vI x24))) h21) (fun E h21 rc22 rs23 => Q (.inr E) h21)) ∧ (l2 = (1 : Int32) → gO h16 (10904, l0) 400 fun o25 => isO h16 10400 o25 ∧ cl d rc17 rs18 M_X4_cloudedHeirs [vR (400, o25)] h16 (kI fun x29 h26 rc27 rs28 => Q (.inl (some (vI x29))) h26) (fun E h26 rc27 rs28 => Q (.inr E) h26)) ∧ (l2 = (2 : Int32) → gO h16 (10904, l0) 400 fun o30 => isO h16 10400 o30 ∧ cl d rc17 rs18 M_X4_ranked [vR (400, o30), vI (0 : Int32)] h16 (kI fun x34 h31 rc32 rs33 => Q (.inl (some (vI x34))) h31) (fun E h31 rc32 rs33 => Q (.inr E) h31)) ∧ (¬ l2 = (0 : Int32) ∧ ¬ l2 = (1 : Int32) ∧ ¬ l2 = (2 : Int32) → gO h16 (10904, l0) 400 fun o35 => gA h16 (10408, o35) fun a36 => cl d rc17 rs18 M_X9_sum [vR a36] h16 (kI fun x40 h37 rc38 rs39 => Q (.inl (some (vI x40))) h37) (fun E h37 rc38 rs39 => Q (.inr E) h37))) (fun E h16 rc17 rs18 => Q (.inr E) h16)) (fun E h10 rc11 rs12 => Q (.inr E) h10)) (fun E h4 rc5 rs6 => Q (.inr E) h4)) (fun E h1 rc2 rs3 => Q (.inr E) h1)) :
    PW d M_X9_ahead Q rc rs 0 [vR (900, l0), vI l1, vI l2] [] h := by
  refine P_aload_n (pc := 0) dX9_ahead_0 rfl ?_
  refine P_iload_n (pc := 1) dX9_ahead_1 rfl ?_
  refine P_iconst (v := (0 : Int32)) (pc := 2) dX9_ahead_2 (by decide) ?_
  refine P_bipush (v := (99 : Int32)) (pc := 3) dX9_ahead_3 (by decide) ?_
  obtain ⟨⟨w9, e9⟩, d2, nc, ns, rc2, rs3, Qc, g1, rfl, rfl, g2, kk, kx⟩ := k
  refine P_callV (ci := 9) (k := 0) (id := l0) (q := (RX9, TX9, 18)) (As := [vI l1, vI (0 : Int32), vI (99 : Int32)]) (st := []) (pc := 5) dX9_ahead_5 mk_X9_needWithin l_X9_159 im_X9_needWithin se_X9_needWithin ini_X9 rfl g1 (Nat.le_of_ble_eq_true rfl) rfl rfl (by decide) e9 rfl g2 (fun v9 h9 q9 => ?_) (fun E h9 q9 => PX_out rfl (kx E h9 q9))
  obtain ⟨rfl, k⟩ := kk v9 h9 q9
  clear kk kx g1 g2 q9
  refine P_aload_n (pc := 8) dX9_ahead_8 rfl ?_
  refine P_iload_n (pc := 9) dX9_ahead_9 rfl ?_
  refine P_iconst (v := (0 : Int32)) (pc := 10) dX9_ahead_10 (by decide) ?_
  refine P_iconst (v := (3 : Int32)) (pc := 11) dX9_ahead_11 (by decide) ?_
  obtain ⟨⟨w9, e9⟩, d2, nc, ns, rc5, rs6, Qc, g1, rfl, rfl, g2, kk, kx⟩ := k
  refine P_callV (ci := 9) (k := 0) (id := l0) (q := (RX9, TX9, 18)) (As := [vI l2, vI (0 : Int32), vI (3 : Int32)]) (st := []) (pc := 12) dX9_ahead_12 mk_X9_needWithin l_X9_159 im_X9_needWithin se_X9_needWithin ini_X9 rfl g1 (Nat.le_of_ble_eq_true rfl) rfl rfl (by decide) e9 rfl g2 (fun v9 h9 q9 => ?_) (fun E h9 q9 => PX_out rfl (kx E h9 q9))
  obtain ⟨rfl, k⟩ := kk v9 h9 q9
  clear kk kx g1 g2 q9
  refine P_aload_n (pc := 15) dX9_ahead_15 rfl ?_
  obtain ⟨o7, e9, k⟩ := k
  refine G9_4 (pc := 16) dX9_ahead_16 l_X9_37 e9 ?_
  clear e9
  refine P_aload_n (pc := 19) dX9_ahead_19 rfl ?_
  obtain ⟨o8, e9, k⟩ := k
  refine G9_2 (pc := 20) dX9_ahead_20 l_X9_26 e9 ?_
  clear e9
  obtain ⟨o9, e9, k⟩ := k
  refine GN2_0 (pc := 23) dX9_ahead_23 n_X9_136 e9 ?_
  clear e9
  obtain ⟨⟨w9, e9⟩, d2, nc, ns, rc11, rs12, Qc, g1, rfl, rfl, g2, kk, kx⟩ := k
  refine P_callV (ci := 4) (k := 0) (id := o7) (q := (RX4, TX4, 10)) (As := [vR (400, o9)]) (st := []) (pc := 26) dX9_ahead_26 mk_X4_copy l_X9_271 im_X4_copy se_X4_copy ini_X4 rfl g1 (Nat.le_of_ble_eq_true rfl) rfl rfl (by decide) e9 rfl g2 (fun v9 h9 q9 => ?_) (fun E h9 q9 => PX_out rfl (kx E h9 q9))
  obtain ⟨rfl, k⟩ := kk v9 h9 q9
  clear kk kx g1 g2 q9
  refine P_aload_n (pc := 29) dX9_ahead_29 rfl ?_
  obtain ⟨o13, e9, k⟩ := k
  refine G9_4 (pc := 30) dX9_ahead_30 l_X9_37 e9 ?_
  clear e9
  refine P_iload_n (pc := 33) dX9_ahead_33 rfl ?_
  refine P_aload_n (pc := 34) dX9_ahead_34 rfl ?_
  obtain ⟨o14, e9, k⟩ := k
  refine G9_8 (pc := 35) dX9_ahead_35 l_X9_61 e9 ?_
  clear e9
  refine P_aload_n (pc := 38) dX9_ahead_38 rfl ?_
  obtain ⟨o15, e9, k⟩ := k
  refine G9_10 (pc := 39) dX9_ahead_39 l_X9_71 e9 ?_
  clear e9
  obtain ⟨⟨w9, e9⟩, d2, nc, ns, rc17, rs18, Qc, g1, rfl, rfl, g2, kk, kx⟩ := k
  refine P_callV (ci := 4) (k := 0) (id := o13) (q := (RX4, TX4, 10)) (As := [vI l1, vR (100, o14), vR (300, o15)]) (st := []) (pc := 42) dX9_ahead_42 mk_X4_passHours l_X9_275 im_X4_passHours se_X4_passHours ini_X4 rfl g1 (Nat.le_of_ble_eq_true rfl) rfl rfl (by decide) e9 rfl g2 (fun v9 h9 q9 => ?_) (fun E h9 q9 => PX_out rfl (kx E h9 q9))
  obtain ⟨rfl, k⟩ := kk v9 h9 q9
  clear kk kx g1 g2 q9
  refine P_iload_n (pc := 45) dX9_ahead_45 rfl ?_
  by_cases c0 : l2 = (0 : Int32)
  · replace k := k.1 c0
    refine P_tableIn (pc := 46) (tgt := 72) dX9_ahead_46 (by rw [c0]; decide) (by rw [c0]; decide) (by rw [c0] <;> rfl) (by decide) ?_
    refine P_aload_n (pc := 72) dX9_ahead_72 rfl ?_
    obtain ⟨o19, e9, k⟩ := k
    refine G9_4 (pc := 73) dX9_ahead_73 l_X9_37 e9 ?_
    clear e9
    obtain ⟨a20, e9, k⟩ := k
    refine GN4_2 (pc := 76) dX9_ahead_76 n_X9_194 e9 ?_
    clear e9
    obtain ⟨d2, nc, ns, rc22, rs23, Qc, g1, rfl, rfl, g2, kk, kx⟩ := k
    refine P_callS (As := [vR a20]) (st := []) (pc := 79) dX9_ahead_79 mk_X9_sum l_X9_190 st_X9_sum ini_X9 rfl g1 (Nat.le_of_ble_eq_true rfl) rfl g2 (fun v9 h9 q9 => ?_) (fun E h9 q9 => PX_out rfl (kx E h9 q9))
    obtain ⟨x24, rfl, k⟩ := kk v9 h9 q9
    clear kk kx g1 g2 q9
    exact R_ireturn (pc := 82) dX9_ahead_82 rfl rfl k
  replace k := k.2
  by_cases c1 : l2 = (1 : Int32)
  · replace k := k.1 c1
    refine P_tableIn (pc := 46) (tgt := 83) dX9_ahead_46 (by rw [c1]; decide) (by rw [c1]; decide) (by rw [c1] <;> rfl) (by decide) ?_
    refine P_aload_n (pc := 83) dX9_ahead_83 rfl ?_
    obtain ⟨o25, e9, k⟩ := k
    refine G9_4 (pc := 84) dX9_ahead_84 l_X9_37 e9 ?_
    clear e9
    obtain ⟨⟨w9, e9⟩, d2, nc, ns, rc27, rs28, Qc, g1, rfl, rfl, g2, kk, kx⟩ := k
    refine P_callV (ci := 4) (k := 0) (id := o25) (q := (RX4, TX4, 10)) (As := []) (st := []) (pc := 87) dX9_ahead_87 mk_X4_cloudedHeirs l_X9_176 im_X4_cloudedHeirs se_X4_cloudedHeirs ini_X4 rfl g1 (Nat.le_of_ble_eq_true rfl) rfl rfl (by decide) e9 rfl g2 (fun v9 h9 q9 => ?_) (fun E h9 q9 => PX_out rfl (kx E h9 q9))
    obtain ⟨x29, rfl, k⟩ := kk v9 h9 q9
    clear kk kx g1 g2 q9
    exact R_ireturn (pc := 90) dX9_ahead_90 rfl rfl k
  replace k := k.2
  by_cases c2 : l2 = (2 : Int32)
  · replace k := k.1 c2
    refine P_tableIn (pc := 46) (tgt := 91) dX9_ahead_46 (by rw [c2]; decide) (by rw [c2]; decide) (by rw [c2] <;> rfl) (by decide) ?_
    refine P_aload_n (pc := 91) dX9_ahead_91 rfl ?_
    obtain ⟨o30, e9, k⟩ := k
    refine G9_4 (pc := 92) dX9_ahead_92 l_X9_37 e9 ?_
    clear e9
    refine P_iconst (v := (0 : Int32)) (pc := 95) dX9_ahead_95 (by decide) ?_
    obtain ⟨⟨w9, e9⟩, d2, nc, ns, rc32, rs33, Qc, g1, rfl, rfl, g2, kk, kx⟩ := k
    refine P_callV (ci := 4) (k := 0) (id := o30) (q := (RX4, TX4, 10)) (As := [vI (0 : Int32)]) (st := []) (pc := 96) dX9_ahead_96 mk_X4_ranked l_X9_179 im_X4_ranked se_X4_ranked ini_X4 rfl g1 (Nat.le_of_ble_eq_true rfl) rfl rfl (by decide) e9 rfl g2 (fun v9 h9 q9 => ?_) (fun E h9 q9 => PX_out rfl (kx E h9 q9))
    obtain ⟨x34, rfl, k⟩ := kk v9 h9 q9
    clear kk kx g1 g2 q9
    exact R_ireturn (pc := 99) dX9_ahead_99 rfl rfl k
  replace k := k.2
  replace k := k ⟨c0, c1, c2⟩
  refine P_tableOut (pc := 46) (tgt := 100) dX9_ahead_46 ?_ (by decide) ?_
  · have q9 := sw_out (x := l2) (lo := 0) 3 (fun j hj => by
        match j, hj with
        | 0, _ => exact ti_ne c0
        | 1, _ => exact ti_ne c1
        | 2, _ => exact ti_ne c2
        | n + 3, hj => exact absurd hj (by omega))
    omega
  refine P_aload_n (pc := 100) dX9_ahead_100 rfl ?_
  obtain ⟨o35, e9, k⟩ := k
  refine G9_4 (pc := 101) dX9_ahead_101 l_X9_37 e9 ?_
  clear e9
  obtain ⟨a36, e9, k⟩ := k
  refine GN4_8 (pc := 104) dX9_ahead_104 n_X9_186 e9 ?_
  clear e9
  obtain ⟨d2, nc, ns, rc38, rs39, Qc, g1, rfl, rfl, g2, kk, kx⟩ := k
  refine P_callS (As := [vR a36]) (st := []) (pc := 107) dX9_ahead_107 mk_X9_sum l_X9_190 st_X9_sum ini_X9 rfl g1 (Nat.le_of_ble_eq_true rfl) rfl g2 (fun v9 h9 q9 => ?_) (fun E h9 q9 => PX_out rfl (kx E h9 q9))
  obtain ⟨x40, rfl, k⟩ := kk v9 h9 q9
  clear kk kx g1 g2 q9
  exact R_ireturn (pc := 110) dX9_ahead_110 rfl rfl k
-- X9_clouds clouds(I)I
theorem dX9_clouds_0 : decode cX9_clouds 0 = .ok (.aload_n 0, 1) := by decide +kernel
theorem dX9_clouds_1 : decode cX9_clouds 1 = .ok (.iload_n 1, 1) := by decide +kernel
theorem dX9_clouds_2 : decode cX9_clouds 2 = .ok (.invokevirtual 197, 3) := by decide +kernel
theorem dX9_clouds_5 : decode cX9_clouds 5 = .ok (.aload_n 0, 1) := by decide +kernel
theorem dX9_clouds_6 : decode cX9_clouds 6 = .ok (.getfield 37, 3) := by decide +kernel
theorem dX9_clouds_9 : decode cX9_clouds 9 = .ok (.aload_n 0, 1) := by decide +kernel
theorem dX9_clouds_10 : decode cX9_clouds 10 = .ok (.getfield 26, 3) := by decide +kernel
theorem dX9_clouds_13 : decode cX9_clouds 13 = .ok (.getfield 136, 3) := by decide +kernel
theorem dX9_clouds_16 : decode cX9_clouds 16 = .ok (.invokevirtual 271, 3) := by decide +kernel
theorem dX9_clouds_19 : decode cX9_clouds 19 = .ok (.iconst 0, 1) := by decide +kernel
theorem dX9_clouds_20 : decode cX9_clouds 20 = .ok (.istore_n 2, 1) := by decide +kernel
theorem dX9_clouds_21 : decode cX9_clouds 21 = .ok (.iload_n 2, 1) := by decide +kernel
theorem dX9_clouds_22 : decode cX9_clouds 22 = .ok (.bipush 48, 2) := by decide +kernel
theorem dX9_clouds_24 : decode cX9_clouds 24 = .ok (.if_icmp .gt 42, 3) := by decide +kernel
theorem dX9_clouds_27 : decode cX9_clouds 27 = .ok (.aload_n 0, 1) := by decide +kernel
theorem dX9_clouds_28 : decode cX9_clouds 28 = .ok (.getfield 37, 3) := by decide +kernel
theorem dX9_clouds_31 : decode cX9_clouds 31 = .ok (.getfield 194, 3) := by decide +kernel
theorem dX9_clouds_34 : decode cX9_clouds 34 = .ok (.iload_n 1, 1) := by decide +kernel
theorem dX9_clouds_35 : decode cX9_clouds 35 = .ok (.iaload, 1) := by decide +kernel
theorem dX9_clouds_36 : decode cX9_clouds 36 = .ok (.bipush 50, 2) := by decide +kernel
theorem dX9_clouds_38 : decode cX9_clouds 38 = .ok (.if_icmp .lt 5, 3) := by decide +kernel
theorem dX9_clouds_41 : decode cX9_clouds 41 = .ok (.iload_n 2, 1) := by decide +kernel
theorem dX9_clouds_42 : decode cX9_clouds 42 = .ok (.ireturn, 1) := by decide +kernel
theorem dX9_clouds_43 : decode cX9_clouds 43 = .ok (.aload_n 0, 1) := by decide +kernel
theorem dX9_clouds_44 : decode cX9_clouds 44 = .ok (.getfield 37, 3) := by decide +kernel
theorem dX9_clouds_47 : decode cX9_clouds 47 = .ok (.aload_n 0, 1) := by decide +kernel
theorem dX9_clouds_48 : decode cX9_clouds 48 = .ok (.getfield 61, 3) := by decide +kernel
theorem dX9_clouds_51 : decode cX9_clouds 51 = .ok (.aload_n 0, 1) := by decide +kernel
theorem dX9_clouds_52 : decode cX9_clouds 52 = .ok (.getfield 71, 3) := by decide +kernel
theorem dX9_clouds_55 : decode cX9_clouds 55 = .ok (.iconst 1, 1) := by decide +kernel
theorem dX9_clouds_56 : decode cX9_clouds 56 = .ok (.invokevirtual 279, 3) := by decide +kernel
theorem dX9_clouds_59 : decode cX9_clouds 59 = .ok (.pop, 1) := by decide +kernel
theorem dX9_clouds_60 : decode cX9_clouds 60 = .ok (.iinc 2 1, 3) := by decide +kernel
theorem dX9_clouds_63 : decode cX9_clouds 63 = .ok (.goto (-42), 3) := by decide +kernel
theorem dX9_clouds_66 : decode cX9_clouds 66 = .ok (.iconst (-1), 1) := by decide +kernel
theorem dX9_clouds_67 : decode cX9_clouds 67 = .ok (.ireturn, 1) := by decide +kernel
theorem r_X9_clouds_0 {d rc rs : Nat} {Q : PO → PH → Prop} {h : PH} {l0 : Nat} {l1 : Int32}
    (k : isO h 10900 l0 ∧ cl d rc rs M_X9_needHeir [vR (900, l0), vI l1] h (kV fun h1 rc2 rs3 => gO h1 (10904, l0) 400 fun o4 => gO h1 (10902, l0) 200 fun o5 => gO h1 (10200, o5) 400 fun o6 => isO h1 10400 o4 ∧ cl d rc2 rs3 M_X4_copy [vR (400, o4), vR (400, o6)] h1 (kV fun h7 rc8 rs9 => PW d M_X9_clouds Q rc8 rs9 21 [vR (900, l0), vI l1, vI (0 : Int32)] [] h7) (fun E h7 rc8 rs9 => Q (.inr E) h7)) (fun E h1 rc2 rs3 => Q (.inr E) h1)) :
    PW d M_X9_clouds Q rc rs 0 [vR (900, l0), vI l1, vU] [] h := by
  refine P_aload_n (pc := 0) dX9_clouds_0 rfl ?_
  refine P_iload_n (pc := 1) dX9_clouds_1 rfl ?_
  obtain ⟨⟨w9, e9⟩, d2, nc, ns, rc2, rs3, Qc, g1, rfl, rfl, g2, kk, kx⟩ := k
  refine P_callV (ci := 9) (k := 0) (id := l0) (q := (RX9, TX9, 18)) (As := [vI l1]) (st := []) (pc := 2) dX9_clouds_2 mk_X9_needHeir l_X9_197 im_X9_needHeir se_X9_needHeir ini_X9 rfl g1 (Nat.le_of_ble_eq_true rfl) rfl rfl (by decide) e9 rfl g2 (fun v9 h9 q9 => ?_) (fun E h9 q9 => PX_out rfl (kx E h9 q9))
  obtain ⟨rfl, k⟩ := kk v9 h9 q9
  clear kk kx g1 g2 q9
  refine P_aload_n (pc := 5) dX9_clouds_5 rfl ?_
  obtain ⟨o4, e9, k⟩ := k
  refine G9_4 (pc := 6) dX9_clouds_6 l_X9_37 e9 ?_
  clear e9
  refine P_aload_n (pc := 9) dX9_clouds_9 rfl ?_
  obtain ⟨o5, e9, k⟩ := k
  refine G9_2 (pc := 10) dX9_clouds_10 l_X9_26 e9 ?_
  clear e9
  obtain ⟨o6, e9, k⟩ := k
  refine GN2_0 (pc := 13) dX9_clouds_13 n_X9_136 e9 ?_
  clear e9
  obtain ⟨⟨w9, e9⟩, d2, nc, ns, rc8, rs9, Qc, g1, rfl, rfl, g2, kk, kx⟩ := k
  refine P_callV (ci := 4) (k := 0) (id := o4) (q := (RX4, TX4, 10)) (As := [vR (400, o6)]) (st := []) (pc := 16) dX9_clouds_16 mk_X4_copy l_X9_271 im_X4_copy se_X4_copy ini_X4 rfl g1 (Nat.le_of_ble_eq_true rfl) rfl rfl (by decide) e9 rfl g2 (fun v9 h9 q9 => ?_) (fun E h9 q9 => PX_out rfl (kx E h9 q9))
  obtain ⟨rfl, k⟩ := kk v9 h9 q9
  clear kk kx g1 g2 q9
  refine P_iconst (v := (0 : Int32)) (pc := 19) dX9_clouds_19 (by decide) ?_
  refine P_istore_n (pc := 20) dX9_clouds_20 (by decide) (Or.inr (by intro z e9; cases e9)) rfl ?_
  exact k
theorem r_X9_clouds_21 {d rc rs : Nat} {Q : PO → PH → Prop} {h : PH} {l0 : Nat} {l1 : Int32} {l2 : Int32}
    (k : br ((48 : Int32) < l2) (Q (.inl (some (vI (-1 : Int32)))) h) (gO h (10904, l0) 400 fun o1 => gA h (10402, o1) fun a2 => xI h a2 l1 fun x3 => br (x3 < (50 : Int32)) (gO h (10904, l0) 400 fun o4 => gO h (10908, l0) 100 fun o5 => gO h (10910, l0) 300 fun o6 => isO h 10400 o4 ∧ cl d rc rs M_X4_passHour [vR (400, o4), vR (100, o5), vR (300, o6), vI (1 : Int32)] h (kI fun x10 h7 rc8 rs9 => PW d M_X9_clouds Q rc8 rs9 21 [vR (900, l0), vI l1, vI (l2 + (1 : Int32))] [] h7) (fun E h7 rc8 rs9 => Q (.inr E) h7)) (Q (.inl (some (vI l2))) h))) :
    PW d M_X9_clouds Q rc rs 21 [vR (900, l0), vI l1, vI l2] [] h := by
  refine P_iload_n (pc := 21) dX9_clouds_21 rfl ?_
  refine P_bipush (v := (48 : Int32)) (pc := 22) dX9_clouds_22 (by decide) ?_
  refine P_icmp_gt (tgt := 66) (pc := 24) dX9_clouds_24 (by decide) (fun c => ?_) (fun c => ?_)
  · have k := k.1 c
    refine P_iconst (v := (-1 : Int32)) (pc := 66) dX9_clouds_66 (by decide) ?_
    exact R_ireturn (pc := 67) dX9_clouds_67 rfl rfl k
  · have k := k.2 c
    refine P_aload_n (pc := 27) dX9_clouds_27 rfl ?_
    obtain ⟨o1, e9, k⟩ := k
    refine G9_4 (pc := 28) dX9_clouds_28 l_X9_37 e9 ?_
    clear e9
    obtain ⟨a2, e9, k⟩ := k
    refine GN4_2 (pc := 31) dX9_clouds_31 n_X9_194 e9 ?_
    clear e9
    refine P_iload_n (pc := 34) dX9_clouds_34 rfl ?_
    obtain ⟨n9, f9, e9, i9, k⟩ := k
    refine P_iald (pc := 35) dX9_clouds_35 e9 i9 ?_
    clear e9
    generalize f9 (Int32.toNatClampNeg l1) = x3 at k ⊢
    refine P_bipush (v := (50 : Int32)) (pc := 36) dX9_clouds_36 (by decide) ?_
    refine P_icmp_lt (tgt := 43) (pc := 38) dX9_clouds_38 (by decide) (fun c => ?_) (fun c => ?_)
    · have k := k.1 c
      refine P_aload_n (pc := 43) dX9_clouds_43 rfl ?_
      obtain ⟨o4, e9, k⟩ := k
      refine G9_4 (pc := 44) dX9_clouds_44 l_X9_37 e9 ?_
      clear e9
      refine P_aload_n (pc := 47) dX9_clouds_47 rfl ?_
      obtain ⟨o5, e9, k⟩ := k
      refine G9_8 (pc := 48) dX9_clouds_48 l_X9_61 e9 ?_
      clear e9
      refine P_aload_n (pc := 51) dX9_clouds_51 rfl ?_
      obtain ⟨o6, e9, k⟩ := k
      refine G9_10 (pc := 52) dX9_clouds_52 l_X9_71 e9 ?_
      clear e9
      refine P_iconst (v := (1 : Int32)) (pc := 55) dX9_clouds_55 (by decide) ?_
      obtain ⟨⟨w9, e9⟩, d2, nc, ns, rc8, rs9, Qc, g1, rfl, rfl, g2, kk, kx⟩ := k
      refine P_callV (ci := 4) (k := 0) (id := o4) (q := (RX4, TX4, 10)) (As := [vR (100, o5), vR (300, o6), vI (1 : Int32)]) (st := []) (pc := 56) dX9_clouds_56 mk_X4_passHour l_X9_279 im_X4_passHour se_X4_passHour ini_X4 rfl g1 (Nat.le_of_ble_eq_true rfl) rfl rfl (by decide) e9 rfl g2 (fun v9 h9 q9 => ?_) (fun E h9 q9 => PX_out rfl (kx E h9 q9))
      obtain ⟨x10, rfl, k⟩ := kk v9 h9 q9
      clear kk kx g1 g2 q9
      refine P_pop (pc := 59) dX9_clouds_59 (fun _ => rfl) ?_
      refine P_iinc (v := l2 + (1 : Int32)) (pc := 60) dX9_clouds_60 (by decide) rfl rfl (Or.inr (by intro z e9; cases e9)) rfl ?_
      refine P_goto (tgt := 21) (pc := 63) dX9_clouds_63 (by decide) ?_
      exact k
    · have k := k.2 c
      refine P_iload_n (pc := 41) dX9_clouds_41 rfl ?_
      exact R_ireturn (pc := 42) dX9_clouds_42 rfl rfl k
-- X9_wipes wipes(I)I
theorem dX9_wipes_0 : decode cX9_wipes 0 = .ok (.aload_n 0, 1) := by decide +kernel
theorem dX9_wipes_1 : decode cX9_wipes 1 = .ok (.iload_n 1, 1) := by decide +kernel
theorem dX9_wipes_2 : decode cX9_wipes 2 = .ok (.invokevirtual 197, 3) := by decide +kernel
theorem dX9_wipes_5 : decode cX9_wipes 5 = .ok (.aload_n 0, 1) := by decide +kernel
theorem dX9_wipes_6 : decode cX9_wipes 6 = .ok (.getfield 37, 3) := by decide +kernel
theorem dX9_wipes_9 : decode cX9_wipes 9 = .ok (.aload_n 0, 1) := by decide +kernel
theorem dX9_wipes_10 : decode cX9_wipes 10 = .ok (.getfield 26, 3) := by decide +kernel
theorem dX9_wipes_13 : decode cX9_wipes 13 = .ok (.getfield 136, 3) := by decide +kernel
theorem dX9_wipes_16 : decode cX9_wipes 16 = .ok (.invokevirtual 271, 3) := by decide +kernel
theorem dX9_wipes_19 : decode cX9_wipes 19 = .ok (.aload_n 0, 1) := by decide +kernel
theorem dX9_wipes_20 : decode cX9_wipes 20 = .ok (.getfield 37, 3) := by decide +kernel
theorem dX9_wipes_23 : decode cX9_wipes 23 = .ok (.invokevirtual 283, 3) := by decide +kernel
theorem dX9_wipes_26 : decode cX9_wipes 26 = .ok (.pop, 1) := by decide +kernel
theorem dX9_wipes_27 : decode cX9_wipes 27 = .ok (.aload_n 0, 1) := by decide +kernel
theorem dX9_wipes_28 : decode cX9_wipes 28 = .ok (.getfield 37, 3) := by decide +kernel
theorem dX9_wipes_31 : decode cX9_wipes 31 = .ok (.bipush 24, 2) := by decide +kernel
theorem dX9_wipes_33 : decode cX9_wipes 33 = .ok (.aload_n 0, 1) := by decide +kernel
theorem dX9_wipes_34 : decode cX9_wipes 34 = .ok (.getfield 61, 3) := by decide +kernel
theorem dX9_wipes_37 : decode cX9_wipes 37 = .ok (.aload_n 0, 1) := by decide +kernel
theorem dX9_wipes_38 : decode cX9_wipes 38 = .ok (.getfield 71, 3) := by decide +kernel
theorem dX9_wipes_41 : decode cX9_wipes 41 = .ok (.invokevirtual 275, 3) := by decide +kernel
theorem dX9_wipes_44 : decode cX9_wipes 44 = .ok (.aload_n 0, 1) := by decide +kernel
theorem dX9_wipes_45 : decode cX9_wipes 45 = .ok (.getfield 41, 3) := by decide +kernel
theorem dX9_wipes_48 : decode cX9_wipes 48 = .ok (.aload_n 0, 1) := by decide +kernel
theorem dX9_wipes_49 : decode cX9_wipes 49 = .ok (.getfield 26, 3) := by decide +kernel
theorem dX9_wipes_52 : decode cX9_wipes 52 = .ok (.getfield 136, 3) := by decide +kernel
theorem dX9_wipes_55 : decode cX9_wipes 55 = .ok (.invokevirtual 271, 3) := by decide +kernel
theorem dX9_wipes_58 : decode cX9_wipes 58 = .ok (.aload_n 0, 1) := by decide +kernel
theorem dX9_wipes_59 : decode cX9_wipes 59 = .ok (.getfield 41, 3) := by decide +kernel
theorem dX9_wipes_62 : decode cX9_wipes 62 = .ok (.invokevirtual 283, 3) := by decide +kernel
theorem dX9_wipes_65 : decode cX9_wipes 65 = .ok (.pop, 1) := by decide +kernel
theorem dX9_wipes_66 : decode cX9_wipes 66 = .ok (.aload_n 0, 1) := by decide +kernel
theorem dX9_wipes_67 : decode cX9_wipes 67 = .ok (.getfield 41, 3) := by decide +kernel
theorem dX9_wipes_70 : decode cX9_wipes 70 = .ok (.getfield 194, 3) := by decide +kernel
theorem dX9_wipes_73 : decode cX9_wipes 73 = .ok (.iconst 0, 1) := by decide +kernel
theorem dX9_wipes_74 : decode cX9_wipes 74 = .ok (.invokestatic 287, 3) := by decide +kernel
theorem dX9_wipes_77 : decode cX9_wipes 77 = .ok (.aload_n 0, 1) := by decide +kernel
theorem dX9_wipes_78 : decode cX9_wipes 78 = .ok (.getfield 41, 3) := by decide +kernel
theorem dX9_wipes_81 : decode cX9_wipes 81 = .ok (.bipush 24, 2) := by decide +kernel
theorem dX9_wipes_83 : decode cX9_wipes 83 = .ok (.aload_n 0, 1) := by decide +kernel
theorem dX9_wipes_84 : decode cX9_wipes 84 = .ok (.getfield 61, 3) := by decide +kernel
theorem dX9_wipes_87 : decode cX9_wipes 87 = .ok (.aload_n 0, 1) := by decide +kernel
theorem dX9_wipes_88 : decode cX9_wipes 88 = .ok (.getfield 71, 3) := by decide +kernel
theorem dX9_wipes_91 : decode cX9_wipes 91 = .ok (.invokevirtual 275, 3) := by decide +kernel
theorem dX9_wipes_94 : decode cX9_wipes 94 = .ok (.aload_n 0, 1) := by decide +kernel
theorem dX9_wipes_95 : decode cX9_wipes 95 = .ok (.iload_n 1, 1) := by decide +kernel
theorem dX9_wipes_96 : decode cX9_wipes 96 = .ok (.invokevirtual 293, 3) := by decide +kernel
theorem dX9_wipes_99 : decode cX9_wipes 99 = .ok (.ireturn, 1) := by decide +kernel
theorem r_X9_wipes_0 {d rc rs : Nat} {Q : PO → PH → Prop} {h : PH} {l0 : Nat} {l1 : Int32}
    (k : isO h 10900 l0 ∧ cl d rc rs M_X9_needHeir [vR (900, l0), vI l1] h (kV fun h1 rc2 rs3 => gO h1 (10904, l0) 400 fun o4 => gO h1 (10902, l0) 200 fun o5 => gO h1 (10200, o5) 400 fun o6 => isO h1 10400 o4 ∧ cl d rc2 rs3 M_X4_copy [vR (400, o4), vR (400, o6)] h1 (kV fun h7 rc8 rs9 => gO h7 (10904, l0) 400 fun o10 => isO h7 10400 o10 ∧ cl d rc8 rs9 M_X4_beginDawn [vR (400, o10)] h7 (kI fun x14 h11 rc12 rs13 => gO h11 (10904, l0) 400 fun o15 => gO h11 (10908, l0) 100 fun o16 => gO h11 (10910, l0) 300 fun o17 => isO h11 10400 o15 ∧ cl d rc12 rs13 M_X4_passHours [vR (400, o15), vI (24 : Int32), vR (100, o16), vR (300, o17)] h11 (kV fun h18 rc19 rs20 => gO h18 (10905, l0) 400 fun o21 => gO h18 (10902, l0) 200 fun o22 => gO h18 (10200, o22) 400 fun o23 => isO h18 10400 o21 ∧ cl d rc19 rs20 M_X4_copy [vR (400, o21), vR (400, o23)] h18 (kV fun h24 rc25 rs26 => gO h24 (10905, l0) 400 fun o27 => isO h24 10400 o27 ∧ cl d rc25 rs26 M_X4_beginDawn [vR (400, o27)] h24 (kI fun x31 h28 rc29 rs30 => gO h28 (10905, l0) 400 fun o32 => gA h28 (10402, o32) fun a33 => cl d rc29 rs30 M_J7_fill_53178 [vR a33, vI (0 : Int32)] h28 (kV fun h34 rc35 rs36 => gO h34 (10905, l0) 400 fun o37 => gO h34 (10908, l0) 100 fun o38 => gO h34 (10910, l0) 300 fun o39 => isO h34 10400 o37 ∧ cl d rc35 rs36 M_X4_passHours [vR (400, o37), vI (24 : Int32), vR (100, o38), vR (300, o39)] h34 (kV fun h40 rc41 rs42 => isO h40 10900 l0 ∧ cl d rc41 rs42 M_X9_leastWiped [vR (900, l0), vI l1] h40 (kI fun x46 h43 rc44 rs45 => Q (.inl (some (vI x46))) h43) (fun E h43 rc44 rs45 => Q (.inr E) h43)) (fun E h40 rc41 rs42 => Q (.inr E) h40)) (fun E h34 rc35 rs36 => Q (.inr E) h34)) (fun E h28 rc29 rs30 => Q (.inr E) h28)) (fun E h24 rc25 rs26 => Q (.inr E) h24)) (fun E h18 rc19 rs20 => Q (.inr E) h18)) (fun E h11 rc12 rs13 => Q (.inr E) h11)) (fun E h7 rc8 rs9 => Q (.inr E) h7)) (fun E h1 rc2 rs3 => Q (.inr E) h1)) :
    PW d M_X9_wipes Q rc rs 0 [vR (900, l0), vI l1] [] h := by
  refine P_aload_n (pc := 0) dX9_wipes_0 rfl ?_
  refine P_iload_n (pc := 1) dX9_wipes_1 rfl ?_
  obtain ⟨⟨w9, e9⟩, d2, nc, ns, rc2, rs3, Qc, g1, rfl, rfl, g2, kk, kx⟩ := k
  refine P_callV (ci := 9) (k := 0) (id := l0) (q := (RX9, TX9, 18)) (As := [vI l1]) (st := []) (pc := 2) dX9_wipes_2 mk_X9_needHeir l_X9_197 im_X9_needHeir se_X9_needHeir ini_X9 rfl g1 (Nat.le_of_ble_eq_true rfl) rfl rfl (by decide) e9 rfl g2 (fun v9 h9 q9 => ?_) (fun E h9 q9 => PX_out rfl (kx E h9 q9))
  obtain ⟨rfl, k⟩ := kk v9 h9 q9
  clear kk kx g1 g2 q9
  refine P_aload_n (pc := 5) dX9_wipes_5 rfl ?_
  obtain ⟨o4, e9, k⟩ := k
  refine G9_4 (pc := 6) dX9_wipes_6 l_X9_37 e9 ?_
  clear e9
  refine P_aload_n (pc := 9) dX9_wipes_9 rfl ?_
  obtain ⟨o5, e9, k⟩ := k
  refine G9_2 (pc := 10) dX9_wipes_10 l_X9_26 e9 ?_
  clear e9
  obtain ⟨o6, e9, k⟩ := k
  refine GN2_0 (pc := 13) dX9_wipes_13 n_X9_136 e9 ?_
  clear e9
  obtain ⟨⟨w9, e9⟩, d2, nc, ns, rc8, rs9, Qc, g1, rfl, rfl, g2, kk, kx⟩ := k
  refine P_callV (ci := 4) (k := 0) (id := o4) (q := (RX4, TX4, 10)) (As := [vR (400, o6)]) (st := []) (pc := 16) dX9_wipes_16 mk_X4_copy l_X9_271 im_X4_copy se_X4_copy ini_X4 rfl g1 (Nat.le_of_ble_eq_true rfl) rfl rfl (by decide) e9 rfl g2 (fun v9 h9 q9 => ?_) (fun E h9 q9 => PX_out rfl (kx E h9 q9))
  obtain ⟨rfl, k⟩ := kk v9 h9 q9
  clear kk kx g1 g2 q9
  refine P_aload_n (pc := 19) dX9_wipes_19 rfl ?_
  obtain ⟨o10, e9, k⟩ := k
  refine G9_4 (pc := 20) dX9_wipes_20 l_X9_37 e9 ?_
  clear e9
  obtain ⟨⟨w9, e9⟩, d2, nc, ns, rc12, rs13, Qc, g1, rfl, rfl, g2, kk, kx⟩ := k
  refine P_callV (ci := 4) (k := 0) (id := o10) (q := (RX4, TX4, 10)) (As := []) (st := []) (pc := 23) dX9_wipes_23 mk_X4_beginDawn l_X9_283 im_X4_beginDawn se_X4_beginDawn ini_X4 rfl g1 (Nat.le_of_ble_eq_true rfl) rfl rfl (by decide) e9 rfl g2 (fun v9 h9 q9 => ?_) (fun E h9 q9 => PX_out rfl (kx E h9 q9))
  obtain ⟨x14, rfl, k⟩ := kk v9 h9 q9
  clear kk kx g1 g2 q9
  refine P_pop (pc := 26) dX9_wipes_26 (fun _ => rfl) ?_
  refine P_aload_n (pc := 27) dX9_wipes_27 rfl ?_
  obtain ⟨o15, e9, k⟩ := k
  refine G9_4 (pc := 28) dX9_wipes_28 l_X9_37 e9 ?_
  clear e9
  refine P_bipush (v := (24 : Int32)) (pc := 31) dX9_wipes_31 (by decide) ?_
  refine P_aload_n (pc := 33) dX9_wipes_33 rfl ?_
  obtain ⟨o16, e9, k⟩ := k
  refine G9_8 (pc := 34) dX9_wipes_34 l_X9_61 e9 ?_
  clear e9
  refine P_aload_n (pc := 37) dX9_wipes_37 rfl ?_
  obtain ⟨o17, e9, k⟩ := k
  refine G9_10 (pc := 38) dX9_wipes_38 l_X9_71 e9 ?_
  clear e9
  obtain ⟨⟨w9, e9⟩, d2, nc, ns, rc19, rs20, Qc, g1, rfl, rfl, g2, kk, kx⟩ := k
  refine P_callV (ci := 4) (k := 0) (id := o15) (q := (RX4, TX4, 10)) (As := [vI (24 : Int32), vR (100, o16), vR (300, o17)]) (st := []) (pc := 41) dX9_wipes_41 mk_X4_passHours l_X9_275 im_X4_passHours se_X4_passHours ini_X4 rfl g1 (Nat.le_of_ble_eq_true rfl) rfl rfl (by decide) e9 rfl g2 (fun v9 h9 q9 => ?_) (fun E h9 q9 => PX_out rfl (kx E h9 q9))
  obtain ⟨rfl, k⟩ := kk v9 h9 q9
  clear kk kx g1 g2 q9
  refine P_aload_n (pc := 44) dX9_wipes_44 rfl ?_
  obtain ⟨o21, e9, k⟩ := k
  refine G9_5 (pc := 45) dX9_wipes_45 l_X9_41 e9 ?_
  clear e9
  refine P_aload_n (pc := 48) dX9_wipes_48 rfl ?_
  obtain ⟨o22, e9, k⟩ := k
  refine G9_2 (pc := 49) dX9_wipes_49 l_X9_26 e9 ?_
  clear e9
  obtain ⟨o23, e9, k⟩ := k
  refine GN2_0 (pc := 52) dX9_wipes_52 n_X9_136 e9 ?_
  clear e9
  obtain ⟨⟨w9, e9⟩, d2, nc, ns, rc25, rs26, Qc, g1, rfl, rfl, g2, kk, kx⟩ := k
  refine P_callV (ci := 4) (k := 0) (id := o21) (q := (RX4, TX4, 10)) (As := [vR (400, o23)]) (st := []) (pc := 55) dX9_wipes_55 mk_X4_copy l_X9_271 im_X4_copy se_X4_copy ini_X4 rfl g1 (Nat.le_of_ble_eq_true rfl) rfl rfl (by decide) e9 rfl g2 (fun v9 h9 q9 => ?_) (fun E h9 q9 => PX_out rfl (kx E h9 q9))
  obtain ⟨rfl, k⟩ := kk v9 h9 q9
  clear kk kx g1 g2 q9
  refine P_aload_n (pc := 58) dX9_wipes_58 rfl ?_
  obtain ⟨o27, e9, k⟩ := k
  refine G9_5 (pc := 59) dX9_wipes_59 l_X9_41 e9 ?_
  clear e9
  obtain ⟨⟨w9, e9⟩, d2, nc, ns, rc29, rs30, Qc, g1, rfl, rfl, g2, kk, kx⟩ := k
  refine P_callV (ci := 4) (k := 0) (id := o27) (q := (RX4, TX4, 10)) (As := []) (st := []) (pc := 62) dX9_wipes_62 mk_X4_beginDawn l_X9_283 im_X4_beginDawn se_X4_beginDawn ini_X4 rfl g1 (Nat.le_of_ble_eq_true rfl) rfl rfl (by decide) e9 rfl g2 (fun v9 h9 q9 => ?_) (fun E h9 q9 => PX_out rfl (kx E h9 q9))
  obtain ⟨x31, rfl, k⟩ := kk v9 h9 q9
  clear kk kx g1 g2 q9
  refine P_pop (pc := 65) dX9_wipes_65 (fun _ => rfl) ?_
  refine P_aload_n (pc := 66) dX9_wipes_66 rfl ?_
  obtain ⟨o32, e9, k⟩ := k
  refine G9_5 (pc := 67) dX9_wipes_67 l_X9_41 e9 ?_
  clear e9
  obtain ⟨a33, e9, k⟩ := k
  refine GN4_2 (pc := 70) dX9_wipes_70 n_X9_194 e9 ?_
  clear e9
  refine P_iconst (v := (0 : Int32)) (pc := 73) dX9_wipes_73 (by decide) ?_
  obtain ⟨d2, nc, ns, rc35, rs36, Qc, g1, rfl, rfl, g2, kk, kx⟩ := k
  refine P_callS (As := [vR a33, vI (0 : Int32)]) (st := []) (pc := 74) dX9_wipes_74 mk_J7_fill_53178 l_X9_287 st_J7_fill_53178 ini_J7 rfl g1 (Nat.le_of_ble_eq_true rfl) rfl g2 (fun v9 h9 q9 => ?_) (fun E h9 q9 => PX_out rfl (kx E h9 q9))
  obtain ⟨rfl, k⟩ := kk v9 h9 q9
  clear kk kx g1 g2 q9
  refine P_aload_n (pc := 77) dX9_wipes_77 rfl ?_
  obtain ⟨o37, e9, k⟩ := k
  refine G9_5 (pc := 78) dX9_wipes_78 l_X9_41 e9 ?_
  clear e9
  refine P_bipush (v := (24 : Int32)) (pc := 81) dX9_wipes_81 (by decide) ?_
  refine P_aload_n (pc := 83) dX9_wipes_83 rfl ?_
  obtain ⟨o38, e9, k⟩ := k
  refine G9_8 (pc := 84) dX9_wipes_84 l_X9_61 e9 ?_
  clear e9
  refine P_aload_n (pc := 87) dX9_wipes_87 rfl ?_
  obtain ⟨o39, e9, k⟩ := k
  refine G9_10 (pc := 88) dX9_wipes_88 l_X9_71 e9 ?_
  clear e9
  obtain ⟨⟨w9, e9⟩, d2, nc, ns, rc41, rs42, Qc, g1, rfl, rfl, g2, kk, kx⟩ := k
  refine P_callV (ci := 4) (k := 0) (id := o37) (q := (RX4, TX4, 10)) (As := [vI (24 : Int32), vR (100, o38), vR (300, o39)]) (st := []) (pc := 91) dX9_wipes_91 mk_X4_passHours l_X9_275 im_X4_passHours se_X4_passHours ini_X4 rfl g1 (Nat.le_of_ble_eq_true rfl) rfl rfl (by decide) e9 rfl g2 (fun v9 h9 q9 => ?_) (fun E h9 q9 => PX_out rfl (kx E h9 q9))
  obtain ⟨rfl, k⟩ := kk v9 h9 q9
  clear kk kx g1 g2 q9
  refine P_aload_n (pc := 94) dX9_wipes_94 rfl ?_
  refine P_iload_n (pc := 95) dX9_wipes_95 rfl ?_
  obtain ⟨⟨w9, e9⟩, d2, nc, ns, rc44, rs45, Qc, g1, rfl, rfl, g2, kk, kx⟩ := k
  refine P_callV (ci := 9) (k := 0) (id := l0) (q := (RX9, TX9, 18)) (As := [vI l1]) (st := []) (pc := 96) dX9_wipes_96 mk_X9_leastWiped l_X9_293 im_X9_leastWiped se_X9_leastWiped ini_X9 rfl g1 (Nat.le_of_ble_eq_true rfl) rfl rfl (by decide) e9 rfl g2 (fun v9 h9 q9 => ?_) (fun E h9 q9 => PX_out rfl (kx E h9 q9))
  obtain ⟨x46, rfl, k⟩ := kk v9 h9 q9
  clear kk kx g1 g2 q9
  exact R_ireturn (pc := 99) dX9_wipes_99 rfl rfl k
-- X9_leastWiped leastWiped(I)I
theorem dX9_leastWiped_0 : decode cX9_leastWiped 0 = .ok (.aload_n 0, 1) := by decide +kernel
theorem dX9_leastWiped_1 : decode cX9_leastWiped 1 = .ok (.getfield 37, 3) := by decide +kernel
theorem dX9_leastWiped_4 : decode cX9_leastWiped 4 = .ok (.getfield 218, 3) := by decide +kernel
theorem dX9_leastWiped_7 : decode cX9_leastWiped 7 = .ok (.iload_n 1, 1) := by decide +kernel
theorem dX9_leastWiped_8 : decode cX9_leastWiped 8 = .ok (.iaload, 1) := by decide +kernel
theorem dX9_leastWiped_9 : decode cX9_leastWiped 9 = .ok (.istore_n 2, 1) := by decide +kernel
theorem dX9_leastWiped_10 : decode cX9_leastWiped 10 = .ok (.iload_n 2, 1) := by decide +kernel
theorem dX9_leastWiped_11 : decode cX9_leastWiped 11 = .ok (.iconst (-1), 1) := by decide +kernel
theorem dX9_leastWiped_12 : decode cX9_leastWiped 12 = .ok (.if_icmp .ne 5, 3) := by decide +kernel
theorem dX9_leastWiped_15 : decode cX9_leastWiped 15 = .ok (.iconst (-1), 1) := by decide +kernel
theorem dX9_leastWiped_16 : decode cX9_leastWiped 16 = .ok (.ireturn, 1) := by decide +kernel
theorem dX9_leastWiped_17 : decode cX9_leastWiped 17 = .ok (.iconst 0, 1) := by decide +kernel
theorem dX9_leastWiped_18 : decode cX9_leastWiped 18 = .ok (.istore_n 3, 1) := by decide +kernel
theorem dX9_leastWiped_19 : decode cX9_leastWiped 19 = .ok (.iconst 0, 1) := by decide +kernel
theorem dX9_leastWiped_20 : decode cX9_leastWiped 20 = .ok (.istore 4, 2) := by decide +kernel
theorem dX9_leastWiped_22 : decode cX9_leastWiped 22 = .ok (.iload 4, 2) := by decide +kernel
theorem dX9_leastWiped_24 : decode cX9_leastWiped 24 = .ok (.aload_n 0, 1) := by decide +kernel
theorem dX9_leastWiped_25 : decode cX9_leastWiped 25 = .ok (.getfield 61, 3) := by decide +kernel
theorem dX9_leastWiped_28 : decode cX9_leastWiped 28 = .ok (.getfield 123, 3) := by decide +kernel
theorem dX9_leastWiped_31 : decode cX9_leastWiped 31 = .ok (.if_icmp .ge 64, 3) := by decide +kernel
theorem dX9_leastWiped_34 : decode cX9_leastWiped 34 = .ok (.iload 4, 2) := by decide +kernel
theorem dX9_leastWiped_36 : decode cX9_leastWiped 36 = .ok (.iload_n 1, 1) := by decide +kernel
theorem dX9_leastWiped_37 : decode cX9_leastWiped 37 = .ok (.if_icmp .eq 52, 3) := by decide +kernel
theorem dX9_leastWiped_40 : decode cX9_leastWiped 40 = .ok (.aload_n 0, 1) := by decide +kernel
theorem dX9_leastWiped_41 : decode cX9_leastWiped 41 = .ok (.getfield 37, 3) := by decide +kernel
theorem dX9_leastWiped_44 : decode cX9_leastWiped 44 = .ok (.getfield 218, 3) := by decide +kernel
theorem dX9_leastWiped_47 : decode cX9_leastWiped 47 = .ok (.iload 4, 2) := by decide +kernel
theorem dX9_leastWiped_49 : decode cX9_leastWiped 49 = .ok (.iaload, 1) := by decide +kernel
theorem dX9_leastWiped_50 : decode cX9_leastWiped 50 = .ok (.iload 4, 2) := by decide +kernel
theorem dX9_leastWiped_52 : decode cX9_leastWiped 52 = .ok (.iload_n 2, 1) := by decide +kernel
theorem dX9_leastWiped_53 : decode cX9_leastWiped 53 = .ok (.iload_n 1, 1) := by decide +kernel
theorem dX9_leastWiped_54 : decode cX9_leastWiped 54 = .ok (.invokestatic 296, 3) := by decide +kernel
theorem dX9_leastWiped_57 : decode cX9_leastWiped 57 = .ok (.ifCond .eq 32, 3) := by decide +kernel
theorem dX9_leastWiped_60 : decode cX9_leastWiped 60 = .ok (.aload_n 0, 1) := by decide +kernel
theorem dX9_leastWiped_61 : decode cX9_leastWiped 61 = .ok (.getfield 41, 3) := by decide +kernel
theorem dX9_leastWiped_64 : decode cX9_leastWiped 64 = .ok (.getfield 218, 3) := by decide +kernel
theorem dX9_leastWiped_67 : decode cX9_leastWiped 67 = .ok (.iload 4, 2) := by decide +kernel
theorem dX9_leastWiped_69 : decode cX9_leastWiped 69 = .ok (.iaload, 1) := by decide +kernel
theorem dX9_leastWiped_70 : decode cX9_leastWiped 70 = .ok (.iload 4, 2) := by decide +kernel
theorem dX9_leastWiped_72 : decode cX9_leastWiped 72 = .ok (.iload_n 2, 1) := by decide +kernel
theorem dX9_leastWiped_73 : decode cX9_leastWiped 73 = .ok (.iload_n 1, 1) := by decide +kernel
theorem dX9_leastWiped_74 : decode cX9_leastWiped 74 = .ok (.invokestatic 296, 3) := by decide +kernel
theorem dX9_leastWiped_77 : decode cX9_leastWiped 77 = .ok (.ifCond .eq 5, 3) := by decide +kernel
theorem dX9_leastWiped_80 : decode cX9_leastWiped 80 = .ok (.iconst (-1), 1) := by decide +kernel
theorem dX9_leastWiped_81 : decode cX9_leastWiped 81 = .ok (.ireturn, 1) := by decide +kernel
theorem dX9_leastWiped_82 : decode cX9_leastWiped 82 = .ok (.iload_n 3, 1) := by decide +kernel
theorem dX9_leastWiped_83 : decode cX9_leastWiped 83 = .ok (.iconst 1, 1) := by decide +kernel
theorem dX9_leastWiped_84 : decode cX9_leastWiped 84 = .ok (.iload 4, 2) := by decide +kernel
theorem dX9_leastWiped_86 : decode cX9_leastWiped 86 = .ok (.ishl, 1) := by decide +kernel
theorem dX9_leastWiped_87 : decode cX9_leastWiped 87 = .ok (.ior, 1) := by decide +kernel
theorem dX9_leastWiped_88 : decode cX9_leastWiped 88 = .ok (.istore_n 3, 1) := by decide +kernel
theorem dX9_leastWiped_89 : decode cX9_leastWiped 89 = .ok (.iinc 4 1, 3) := by decide +kernel
theorem dX9_leastWiped_92 : decode cX9_leastWiped 92 = .ok (.goto (-70), 3) := by decide +kernel
theorem dX9_leastWiped_95 : decode cX9_leastWiped 95 = .ok (.iload_n 3, 1) := by decide +kernel
theorem dX9_leastWiped_96 : decode cX9_leastWiped 96 = .ok (.ireturn, 1) := by decide +kernel
theorem r_X9_leastWiped_0 {d rc rs : Nat} {Q : PO → PH → Prop} {h : PH} {l0 : Nat} {l1 : Int32}
    (k : gO h (10904, l0) 400 fun o1 => gA h (10407, o1) fun a2 => xI h a2 l1 fun x3 => br (x3 = (-1 : Int32)) (Q (.inl (some (vI (-1 : Int32)))) h) (PW d M_X9_leastWiped Q rc rs 22 [vR (900, l0), vI l1, vI x3, vI (0 : Int32), vI (0 : Int32)] [] h)) :
    PW d M_X9_leastWiped Q rc rs 0 [vR (900, l0), vI l1, vU, vU, vU] [] h := by
  refine P_aload_n (pc := 0) dX9_leastWiped_0 rfl ?_
  obtain ⟨o1, e9, k⟩ := k
  refine G9_4 (pc := 1) dX9_leastWiped_1 l_X9_37 e9 ?_
  clear e9
  obtain ⟨a2, e9, k⟩ := k
  refine GN4_7 (pc := 4) dX9_leastWiped_4 n_X9_218 e9 ?_
  clear e9
  refine P_iload_n (pc := 7) dX9_leastWiped_7 rfl ?_
  obtain ⟨n9, f9, e9, i9, k⟩ := k
  refine P_iald (pc := 8) dX9_leastWiped_8 e9 i9 ?_
  clear e9
  generalize f9 (Int32.toNatClampNeg l1) = x3 at k ⊢
  refine P_istore_n (pc := 9) dX9_leastWiped_9 (by decide) (Or.inr (by intro z e9; cases e9)) rfl ?_
  refine P_iload_n (pc := 10) dX9_leastWiped_10 rfl ?_
  refine P_iconst (v := (-1 : Int32)) (pc := 11) dX9_leastWiped_11 (by decide) ?_
  refine P_icmp_ne (tgt := 17) (pc := 12) dX9_leastWiped_12 (by decide) (fun c => ?_) (fun c => ?_)
  · have k := k.2 c
    refine P_iconst (v := (0 : Int32)) (pc := 17) dX9_leastWiped_17 (by decide) ?_
    refine P_istore_n (pc := 18) dX9_leastWiped_18 (by decide) (Or.inr (by intro z e9; cases e9)) rfl ?_
    refine P_iconst (v := (0 : Int32)) (pc := 19) dX9_leastWiped_19 (by decide) ?_
    refine P_istore (pc := 20) dX9_leastWiped_20 (by decide) (Or.inr (by intro z e9; cases e9)) rfl ?_
    exact k
  · have k := k.1 c
    refine P_iconst (v := (-1 : Int32)) (pc := 15) dX9_leastWiped_15 (by decide) ?_
    exact R_ireturn (pc := 16) dX9_leastWiped_16 rfl rfl k
theorem r_X9_leastWiped_22 {d rc rs : Nat} {Q : PO → PH → Prop} {h : PH} {l0 : Nat} {l1 : Int32} {l2 : Int32} {l3 : Int32} {l4 : Int32}
    (k : gO h (10908, l0) 100 fun o1 => gI h (10107, o1) fun x2 => br (l4 < x2) (br (l4 = l1) (PW d M_X9_leastWiped Q rc rs 22 [vR (900, l0), vI l1, vI l2, vI l3, vI (l4 + (1 : Int32))] [] h) (gO h (10904, l0) 400 fun o3 => gA h (10407, o3) fun a4 => xI h a4 l4 fun x5 => cl d rc rs M_X9_isAhead [vI x5, vI l4, vI l2, vI l1] h (kI fun x9 h6 rc7 rs8 => br (x9 = 0) (PW d M_X9_leastWiped Q rc7 rs8 22 [vR (900, l0), vI l1, vI l2, vI l3, vI (l4 + (1 : Int32))] [] h6) (gO h6 (10905, l0) 400 fun o10 => gA h6 (10407, o10) fun a11 => xI h6 a11 l4 fun x12 => cl d rc7 rs8 M_X9_isAhead [vI x12, vI l4, vI l2, vI l1] h6 (kI fun x16 h13 rc14 rs15 => br (x16 = 0) (PW d M_X9_leastWiped Q rc14 rs15 22 [vR (900, l0), vI l1, vI l2, vI (l3 ||| ((1 : Int32) <<< (l4 &&& 31))), vI (l4 + (1 : Int32))] [] h13) (Q (.inl (some (vI (-1 : Int32)))) h13)) (fun E h13 rc14 rs15 => Q (.inr E) h13))) (fun E h6 rc7 rs8 => Q (.inr E) h6))) (Q (.inl (some (vI l3))) h)) :
    PW d M_X9_leastWiped Q rc rs 22 [vR (900, l0), vI l1, vI l2, vI l3, vI l4] [] h := by
  refine P_iload (pc := 22) dX9_leastWiped_22 rfl ?_
  refine P_aload_n (pc := 24) dX9_leastWiped_24 rfl ?_
  obtain ⟨o1, e9, k⟩ := k
  refine G9_8 (pc := 25) dX9_leastWiped_25 l_X9_61 e9 ?_
  clear e9
  obtain ⟨x2, e9, k⟩ := k
  refine GN1_7 (pc := 28) dX9_leastWiped_28 n_X9_123 e9 ?_
  clear e9
  refine P_icmp_ge (tgt := 95) (pc := 31) dX9_leastWiped_31 (by decide) (fun c => ?_) (fun c => ?_)
  · have k := k.2 (Int32.not_lt.mpr c)
    refine P_iload_n (pc := 95) dX9_leastWiped_95 rfl ?_
    exact R_ireturn (pc := 96) dX9_leastWiped_96 rfl rfl k
  · have k := k.1 (Int32.not_le.mp c)
    refine P_iload (pc := 34) dX9_leastWiped_34 rfl ?_
    refine P_iload_n (pc := 36) dX9_leastWiped_36 rfl ?_
    refine P_icmp_eq (tgt := 89) (pc := 37) dX9_leastWiped_37 (by decide) (fun c => ?_) (fun c => ?_)
    · have k := k.1 c
      refine P_iinc (v := l4 + (1 : Int32)) (pc := 89) dX9_leastWiped_89 (by decide) rfl rfl (Or.inr (by intro z e9; cases e9)) rfl ?_
      refine P_goto (tgt := 22) (pc := 92) dX9_leastWiped_92 (by decide) ?_
      exact k
    · have k := k.2 c
      refine P_aload_n (pc := 40) dX9_leastWiped_40 rfl ?_
      obtain ⟨o3, e9, k⟩ := k
      refine G9_4 (pc := 41) dX9_leastWiped_41 l_X9_37 e9 ?_
      clear e9
      obtain ⟨a4, e9, k⟩ := k
      refine GN4_7 (pc := 44) dX9_leastWiped_44 n_X9_218 e9 ?_
      clear e9
      refine P_iload (pc := 47) dX9_leastWiped_47 rfl ?_
      obtain ⟨n9, f9, e9, i9, k⟩ := k
      refine P_iald (pc := 49) dX9_leastWiped_49 e9 i9 ?_
      clear e9
      generalize f9 (Int32.toNatClampNeg l4) = x5 at k ⊢
      refine P_iload (pc := 50) dX9_leastWiped_50 rfl ?_
      refine P_iload_n (pc := 52) dX9_leastWiped_52 rfl ?_
      refine P_iload_n (pc := 53) dX9_leastWiped_53 rfl ?_
      obtain ⟨d2, nc, ns, rc7, rs8, Qc, g1, rfl, rfl, g2, kk, kx⟩ := k
      refine P_callS (As := [vI x5, vI l4, vI l2, vI l1]) (st := []) (pc := 54) dX9_leastWiped_54 mk_X9_isAhead l_X9_296 st_X9_isAhead ini_X9 rfl g1 (Nat.le_of_ble_eq_true rfl) rfl g2 (fun v9 h9 q9 => ?_) (fun E h9 q9 => PX_out rfl (kx E h9 q9))
      obtain ⟨x9, rfl, k⟩ := kk v9 h9 q9
      clear kk kx g1 g2 q9
      refine P_if_eq (tgt := 89) (pc := 57) dX9_leastWiped_57 (by decide) (fun c => ?_) (fun c => ?_)
      · have k := k.1 c
        refine P_iinc (v := l4 + (1 : Int32)) (pc := 89) dX9_leastWiped_89 (by decide) rfl rfl (Or.inr (by intro z e9; cases e9)) rfl ?_
        refine P_goto (tgt := 22) (pc := 92) dX9_leastWiped_92 (by decide) ?_
        exact k
      · have k := k.2 c
        refine P_aload_n (pc := 60) dX9_leastWiped_60 rfl ?_
        obtain ⟨o10, e9, k⟩ := k
        refine G9_5 (pc := 61) dX9_leastWiped_61 l_X9_41 e9 ?_
        clear e9
        obtain ⟨a11, e9, k⟩ := k
        refine GN4_7 (pc := 64) dX9_leastWiped_64 n_X9_218 e9 ?_
        clear e9
        refine P_iload (pc := 67) dX9_leastWiped_67 rfl ?_
        obtain ⟨n9, f9, e9, i9, k⟩ := k
        refine P_iald (pc := 69) dX9_leastWiped_69 e9 i9 ?_
        clear e9
        generalize f9 (Int32.toNatClampNeg l4) = x12 at k ⊢
        refine P_iload (pc := 70) dX9_leastWiped_70 rfl ?_
        refine P_iload_n (pc := 72) dX9_leastWiped_72 rfl ?_
        refine P_iload_n (pc := 73) dX9_leastWiped_73 rfl ?_
        obtain ⟨d2, nc, ns, rc14, rs15, Qc, g1, rfl, rfl, g2, kk, kx⟩ := k
        refine P_callS (As := [vI x12, vI l4, vI l2, vI l1]) (st := []) (pc := 74) dX9_leastWiped_74 mk_X9_isAhead l_X9_296 st_X9_isAhead ini_X9 rfl g1 (Nat.le_of_ble_eq_true rfl) rfl g2 (fun v9 h9 q9 => ?_) (fun E h9 q9 => PX_out rfl (kx E h9 q9))
        obtain ⟨x16, rfl, k⟩ := kk v9 h9 q9
        clear kk kx g1 g2 q9
        refine P_if_eq (tgt := 82) (pc := 77) dX9_leastWiped_77 (by decide) (fun c => ?_) (fun c => ?_)
        · have k := k.1 c
          refine P_iload_n (pc := 82) dX9_leastWiped_82 rfl ?_
          refine P_iconst (v := (1 : Int32)) (pc := 83) dX9_leastWiped_83 (by decide) ?_
          refine P_iload (pc := 84) dX9_leastWiped_84 rfl ?_
          refine P_ishl (pc := 86) dX9_leastWiped_86 ?_
          refine P_ior (pc := 87) dX9_leastWiped_87 ?_
          refine P_istore_n (pc := 88) dX9_leastWiped_88 (by decide) (Or.inr (by intro z e9; cases e9)) rfl ?_
          refine P_iinc (v := l4 + (1 : Int32)) (pc := 89) dX9_leastWiped_89 (by decide) rfl rfl (Or.inr (by intro z e9; cases e9)) rfl ?_
          refine P_goto (tgt := 22) (pc := 92) dX9_leastWiped_92 (by decide) ?_
          exact k
        · have k := k.2 c
          refine P_iconst (v := (-1 : Int32)) (pc := 80) dX9_leastWiped_80 (by decide) ?_
          exact R_ireturn (pc := 81) dX9_leastWiped_81 rfl rfl k
-- X9_gasp gasp(I)I
theorem dX9_gasp_0 : decode cX9_gasp 0 = .ok (.aload_n 0, 1) := by decide +kernel
theorem dX9_gasp_1 : decode cX9_gasp 1 = .ok (.iload_n 1, 1) := by decide +kernel
theorem dX9_gasp_2 : decode cX9_gasp 2 = .ok (.invokevirtual 197, 3) := by decide +kernel
theorem dX9_gasp_5 : decode cX9_gasp 5 = .ok (.aload_n 0, 1) := by decide +kernel
theorem dX9_gasp_6 : decode cX9_gasp 6 = .ok (.getfield 37, 3) := by decide +kernel
theorem dX9_gasp_9 : decode cX9_gasp 9 = .ok (.aload_n 0, 1) := by decide +kernel
theorem dX9_gasp_10 : decode cX9_gasp 10 = .ok (.getfield 26, 3) := by decide +kernel
theorem dX9_gasp_13 : decode cX9_gasp 13 = .ok (.getfield 136, 3) := by decide +kernel
theorem dX9_gasp_16 : decode cX9_gasp 16 = .ok (.invokevirtual 271, 3) := by decide +kernel
theorem dX9_gasp_19 : decode cX9_gasp 19 = .ok (.aload_n 0, 1) := by decide +kernel
theorem dX9_gasp_20 : decode cX9_gasp 20 = .ok (.getfield 37, 3) := by decide +kernel
theorem dX9_gasp_23 : decode cX9_gasp 23 = .ok (.getfield 186, 3) := by decide +kernel
theorem dX9_gasp_26 : decode cX9_gasp 26 = .ok (.iload_n 1, 1) := by decide +kernel
theorem dX9_gasp_27 : decode cX9_gasp 27 = .ok (.iaload, 1) := by decide +kernel
theorem dX9_gasp_28 : decode cX9_gasp 28 = .ok (.istore_n 2, 1) := by decide +kernel
theorem dX9_gasp_29 : decode cX9_gasp 29 = .ok (.iconst 1, 1) := by decide +kernel
theorem dX9_gasp_30 : decode cX9_gasp 30 = .ok (.istore_n 3, 1) := by decide +kernel
theorem dX9_gasp_31 : decode cX9_gasp 31 = .ok (.iload_n 3, 1) := by decide +kernel
theorem dX9_gasp_32 : decode cX9_gasp 32 = .ok (.bipush 99, 2) := by decide +kernel
theorem dX9_gasp_34 : decode cX9_gasp 34 = .ok (.if_icmp .gt 41, 3) := by decide +kernel
theorem dX9_gasp_37 : decode cX9_gasp 37 = .ok (.aload_n 0, 1) := by decide +kernel
theorem dX9_gasp_38 : decode cX9_gasp 38 = .ok (.getfield 37, 3) := by decide +kernel
theorem dX9_gasp_41 : decode cX9_gasp 41 = .ok (.aload_n 0, 1) := by decide +kernel
theorem dX9_gasp_42 : decode cX9_gasp 42 = .ok (.getfield 61, 3) := by decide +kernel
theorem dX9_gasp_45 : decode cX9_gasp 45 = .ok (.aload_n 0, 1) := by decide +kernel
theorem dX9_gasp_46 : decode cX9_gasp 46 = .ok (.getfield 71, 3) := by decide +kernel
theorem dX9_gasp_49 : decode cX9_gasp 49 = .ok (.iconst 1, 1) := by decide +kernel
theorem dX9_gasp_50 : decode cX9_gasp 50 = .ok (.invokevirtual 279, 3) := by decide +kernel
theorem dX9_gasp_53 : decode cX9_gasp 53 = .ok (.pop, 1) := by decide +kernel
theorem dX9_gasp_54 : decode cX9_gasp 54 = .ok (.aload_n 0, 1) := by decide +kernel
theorem dX9_gasp_55 : decode cX9_gasp 55 = .ok (.getfield 37, 3) := by decide +kernel
theorem dX9_gasp_58 : decode cX9_gasp 58 = .ok (.getfield 186, 3) := by decide +kernel
theorem dX9_gasp_61 : decode cX9_gasp 61 = .ok (.iload_n 1, 1) := by decide +kernel
theorem dX9_gasp_62 : decode cX9_gasp 62 = .ok (.iaload, 1) := by decide +kernel
theorem dX9_gasp_63 : decode cX9_gasp 63 = .ok (.iload_n 2, 1) := by decide +kernel
theorem dX9_gasp_64 : decode cX9_gasp 64 = .ok (.if_icmp .le 5, 3) := by decide +kernel
theorem dX9_gasp_67 : decode cX9_gasp 67 = .ok (.iload_n 3, 1) := by decide +kernel
theorem dX9_gasp_68 : decode cX9_gasp 68 = .ok (.ireturn, 1) := by decide +kernel
theorem dX9_gasp_69 : decode cX9_gasp 69 = .ok (.iinc 3 1, 3) := by decide +kernel
theorem dX9_gasp_72 : decode cX9_gasp 72 = .ok (.goto (-41), 3) := by decide +kernel
theorem dX9_gasp_75 : decode cX9_gasp 75 = .ok (.iconst (-1), 1) := by decide +kernel
theorem dX9_gasp_76 : decode cX9_gasp 76 = .ok (.ireturn, 1) := by decide +kernel
theorem r_X9_gasp_0 {d rc rs : Nat} {Q : PO → PH → Prop} {h : PH} {l0 : Nat} {l1 : Int32}
    (k : isO h 10900 l0 ∧ cl d rc rs M_X9_needHeir [vR (900, l0), vI l1] h (kV fun h1 rc2 rs3 => gO h1 (10904, l0) 400 fun o4 => gO h1 (10902, l0) 200 fun o5 => gO h1 (10200, o5) 400 fun o6 => isO h1 10400 o4 ∧ cl d rc2 rs3 M_X4_copy [vR (400, o4), vR (400, o6)] h1 (kV fun h7 rc8 rs9 => gO h7 (10904, l0) 400 fun o10 => gA h7 (10408, o10) fun a11 => xI h7 a11 l1 fun x12 => PW d M_X9_gasp Q rc8 rs9 31 [vR (900, l0), vI l1, vI x12, vI (1 : Int32)] [] h7) (fun E h7 rc8 rs9 => Q (.inr E) h7)) (fun E h1 rc2 rs3 => Q (.inr E) h1)) :
    PW d M_X9_gasp Q rc rs 0 [vR (900, l0), vI l1, vU, vU] [] h := by
  refine P_aload_n (pc := 0) dX9_gasp_0 rfl ?_
  refine P_iload_n (pc := 1) dX9_gasp_1 rfl ?_
  obtain ⟨⟨w9, e9⟩, d2, nc, ns, rc2, rs3, Qc, g1, rfl, rfl, g2, kk, kx⟩ := k
  refine P_callV (ci := 9) (k := 0) (id := l0) (q := (RX9, TX9, 18)) (As := [vI l1]) (st := []) (pc := 2) dX9_gasp_2 mk_X9_needHeir l_X9_197 im_X9_needHeir se_X9_needHeir ini_X9 rfl g1 (Nat.le_of_ble_eq_true rfl) rfl rfl (by decide) e9 rfl g2 (fun v9 h9 q9 => ?_) (fun E h9 q9 => PX_out rfl (kx E h9 q9))
  obtain ⟨rfl, k⟩ := kk v9 h9 q9
  clear kk kx g1 g2 q9
  refine P_aload_n (pc := 5) dX9_gasp_5 rfl ?_
  obtain ⟨o4, e9, k⟩ := k
  refine G9_4 (pc := 6) dX9_gasp_6 l_X9_37 e9 ?_
  clear e9
  refine P_aload_n (pc := 9) dX9_gasp_9 rfl ?_
  obtain ⟨o5, e9, k⟩ := k
  refine G9_2 (pc := 10) dX9_gasp_10 l_X9_26 e9 ?_
  clear e9
  obtain ⟨o6, e9, k⟩ := k
  refine GN2_0 (pc := 13) dX9_gasp_13 n_X9_136 e9 ?_
  clear e9
  obtain ⟨⟨w9, e9⟩, d2, nc, ns, rc8, rs9, Qc, g1, rfl, rfl, g2, kk, kx⟩ := k
  refine P_callV (ci := 4) (k := 0) (id := o4) (q := (RX4, TX4, 10)) (As := [vR (400, o6)]) (st := []) (pc := 16) dX9_gasp_16 mk_X4_copy l_X9_271 im_X4_copy se_X4_copy ini_X4 rfl g1 (Nat.le_of_ble_eq_true rfl) rfl rfl (by decide) e9 rfl g2 (fun v9 h9 q9 => ?_) (fun E h9 q9 => PX_out rfl (kx E h9 q9))
  obtain ⟨rfl, k⟩ := kk v9 h9 q9
  clear kk kx g1 g2 q9
  refine P_aload_n (pc := 19) dX9_gasp_19 rfl ?_
  obtain ⟨o10, e9, k⟩ := k
  refine G9_4 (pc := 20) dX9_gasp_20 l_X9_37 e9 ?_
  clear e9
  obtain ⟨a11, e9, k⟩ := k
  refine GN4_8 (pc := 23) dX9_gasp_23 n_X9_186 e9 ?_
  clear e9
  refine P_iload_n (pc := 26) dX9_gasp_26 rfl ?_
  obtain ⟨n9, f9, e9, i9, k⟩ := k
  refine P_iald (pc := 27) dX9_gasp_27 e9 i9 ?_
  clear e9
  generalize f9 (Int32.toNatClampNeg l1) = x12 at k ⊢
  refine P_istore_n (pc := 28) dX9_gasp_28 (by decide) (Or.inr (by intro z e9; cases e9)) rfl ?_
  refine P_iconst (v := (1 : Int32)) (pc := 29) dX9_gasp_29 (by decide) ?_
  refine P_istore_n (pc := 30) dX9_gasp_30 (by decide) (Or.inr (by intro z e9; cases e9)) rfl ?_
  exact k
theorem r_X9_gasp_31 {d rc rs : Nat} {Q : PO → PH → Prop} {h : PH} {l0 : Nat} {l1 : Int32} {l2 : Int32} {l3 : Int32}
    (k : br ((99 : Int32) < l3) (Q (.inl (some (vI (-1 : Int32)))) h) (gO h (10904, l0) 400 fun o1 => gO h (10908, l0) 100 fun o2 => gO h (10910, l0) 300 fun o3 => isO h 10400 o1 ∧ cl d rc rs M_X4_passHour [vR (400, o1), vR (100, o2), vR (300, o3), vI (1 : Int32)] h (kI fun x7 h4 rc5 rs6 => gO h4 (10904, l0) 400 fun o8 => gA h4 (10408, o8) fun a9 => xI h4 a9 l1 fun x10 => br (l2 < x10) (Q (.inl (some (vI l3))) h4) (PW d M_X9_gasp Q rc5 rs6 31 [vR (900, l0), vI l1, vI l2, vI (l3 + (1 : Int32))] [] h4)) (fun E h4 rc5 rs6 => Q (.inr E) h4))) :
    PW d M_X9_gasp Q rc rs 31 [vR (900, l0), vI l1, vI l2, vI l3] [] h := by
  refine P_iload_n (pc := 31) dX9_gasp_31 rfl ?_
  refine P_bipush (v := (99 : Int32)) (pc := 32) dX9_gasp_32 (by decide) ?_
  refine P_icmp_gt (tgt := 75) (pc := 34) dX9_gasp_34 (by decide) (fun c => ?_) (fun c => ?_)
  · have k := k.1 c
    refine P_iconst (v := (-1 : Int32)) (pc := 75) dX9_gasp_75 (by decide) ?_
    exact R_ireturn (pc := 76) dX9_gasp_76 rfl rfl k
  · have k := k.2 c
    refine P_aload_n (pc := 37) dX9_gasp_37 rfl ?_
    obtain ⟨o1, e9, k⟩ := k
    refine G9_4 (pc := 38) dX9_gasp_38 l_X9_37 e9 ?_
    clear e9
    refine P_aload_n (pc := 41) dX9_gasp_41 rfl ?_
    obtain ⟨o2, e9, k⟩ := k
    refine G9_8 (pc := 42) dX9_gasp_42 l_X9_61 e9 ?_
    clear e9
    refine P_aload_n (pc := 45) dX9_gasp_45 rfl ?_
    obtain ⟨o3, e9, k⟩ := k
    refine G9_10 (pc := 46) dX9_gasp_46 l_X9_71 e9 ?_
    clear e9
    refine P_iconst (v := (1 : Int32)) (pc := 49) dX9_gasp_49 (by decide) ?_
    obtain ⟨⟨w9, e9⟩, d2, nc, ns, rc5, rs6, Qc, g1, rfl, rfl, g2, kk, kx⟩ := k
    refine P_callV (ci := 4) (k := 0) (id := o1) (q := (RX4, TX4, 10)) (As := [vR (100, o2), vR (300, o3), vI (1 : Int32)]) (st := []) (pc := 50) dX9_gasp_50 mk_X4_passHour l_X9_279 im_X4_passHour se_X4_passHour ini_X4 rfl g1 (Nat.le_of_ble_eq_true rfl) rfl rfl (by decide) e9 rfl g2 (fun v9 h9 q9 => ?_) (fun E h9 q9 => PX_out rfl (kx E h9 q9))
    obtain ⟨x7, rfl, k⟩ := kk v9 h9 q9
    clear kk kx g1 g2 q9
    refine P_pop (pc := 53) dX9_gasp_53 (fun _ => rfl) ?_
    refine P_aload_n (pc := 54) dX9_gasp_54 rfl ?_
    obtain ⟨o8, e9, k⟩ := k
    refine G9_4 (pc := 55) dX9_gasp_55 l_X9_37 e9 ?_
    clear e9
    obtain ⟨a9, e9, k⟩ := k
    refine GN4_8 (pc := 58) dX9_gasp_58 n_X9_186 e9 ?_
    clear e9
    refine P_iload_n (pc := 61) dX9_gasp_61 rfl ?_
    obtain ⟨n9, f9, e9, i9, k⟩ := k
    refine P_iald (pc := 62) dX9_gasp_62 e9 i9 ?_
    clear e9
    generalize f9 (Int32.toNatClampNeg l1) = x10 at k ⊢
    refine P_iload_n (pc := 63) dX9_gasp_63 rfl ?_
    refine P_icmp_le (tgt := 69) (pc := 64) dX9_gasp_64 (by decide) (fun c => ?_) (fun c => ?_)
    · have k := k.2 (Int32.not_lt.mpr c)
      refine P_iinc (v := l3 + (1 : Int32)) (pc := 69) dX9_gasp_69 (by decide) rfl rfl (Or.inr (by intro z e9; cases e9)) rfl ?_
      refine P_goto (tgt := 31) (pc := 72) dX9_gasp_72 (by decide) ?_
      exact k
    · have k := k.1 (Int32.not_le.mp c)
      refine P_iload_n (pc := 67) dX9_gasp_67 rfl ?_
      exact R_ireturn (pc := 68) dX9_gasp_68 rfl rfl k
-- X9_year year(III)I
theorem dX9_year_0 : decode cX9_year 0 = .ok (.aload_n 0, 1) := by decide +kernel
theorem dX9_year_1 : decode cX9_year 1 = .ok (.iload_n 2, 1) := by decide +kernel
theorem dX9_year_2 : decode cX9_year 2 = .ok (.iconst 1, 1) := by decide +kernel
theorem dX9_year_3 : decode cX9_year 3 = .ok (.bipush 96, 2) := by decide +kernel
theorem dX9_year_5 : decode cX9_year 5 = .ok (.invokevirtual 159, 3) := by decide +kernel
theorem dX9_year_8 : decode cX9_year 8 = .ok (.aload_n 0, 1) := by decide +kernel
theorem dX9_year_9 : decode cX9_year 9 = .ok (.iload_n 3, 1) := by decide +kernel
theorem dX9_year_10 : decode cX9_year 10 = .ok (.iconst 0, 1) := by decide +kernel
theorem dX9_year_11 : decode cX9_year 11 = .ok (.iconst 3, 1) := by decide +kernel
theorem dX9_year_12 : decode cX9_year 12 = .ok (.invokevirtual 159, 3) := by decide +kernel
theorem dX9_year_15 : decode cX9_year 15 = .ok (.aload_n 0, 1) := by decide +kernel
theorem dX9_year_16 : decode cX9_year 16 = .ok (.iload_n 1, 1) := by decide +kernel
theorem dX9_year_17 : decode cX9_year 17 = .ok (.iload_n 2, 1) := by decide +kernel
theorem dX9_year_18 : decode cX9_year 18 = .ok (.invokevirtual 300, 3) := by decide +kernel
theorem dX9_year_21 : decode cX9_year 21 = .ok (.iload_n 3, 1) := by decide +kernel
theorem dX9_year_22 : decode cX9_year 22 = .ok (.tableswitch 51 0 2 #[26, 37, 46], 26) := by decide +kernel
theorem dX9_year_48 : decode cX9_year 48 = .ok (.aload_n 0, 1) := by decide +kernel
theorem dX9_year_49 : decode cX9_year 49 = .ok (.getfield 37, 3) := by decide +kernel
theorem dX9_year_52 : decode cX9_year 52 = .ok (.getfield 194, 3) := by decide +kernel
theorem dX9_year_55 : decode cX9_year 55 = .ok (.invokestatic 190, 3) := by decide +kernel
theorem dX9_year_58 : decode cX9_year 58 = .ok (.ireturn, 1) := by decide +kernel
theorem dX9_year_59 : decode cX9_year 59 = .ok (.aload_n 0, 1) := by decide +kernel
theorem dX9_year_60 : decode cX9_year 60 = .ok (.getfield 37, 3) := by decide +kernel
theorem dX9_year_63 : decode cX9_year 63 = .ok (.iconst 0, 1) := by decide +kernel
theorem dX9_year_64 : decode cX9_year 64 = .ok (.invokevirtual 179, 3) := by decide +kernel
theorem dX9_year_67 : decode cX9_year 67 = .ok (.ireturn, 1) := by decide +kernel
theorem dX9_year_68 : decode cX9_year 68 = .ok (.aload_n 0, 1) := by decide +kernel
theorem dX9_year_69 : decode cX9_year 69 = .ok (.invokevirtual 303, 3) := by decide +kernel
theorem dX9_year_72 : decode cX9_year 72 = .ok (.ireturn, 1) := by decide +kernel
theorem dX9_year_73 : decode cX9_year 73 = .ok (.aload_n 0, 1) := by decide +kernel
theorem dX9_year_74 : decode cX9_year 74 = .ok (.getfield 37, 3) := by decide +kernel
theorem dX9_year_77 : decode cX9_year 77 = .ok (.invokevirtual 172, 3) := by decide +kernel
theorem dX9_year_80 : decode cX9_year 80 = .ok (.ireturn, 1) := by decide +kernel
theorem r_X9_year_0 {d rc rs : Nat} {Q : PO → PH → Prop} {h : PH} {l0 : Nat} {l1 : Int32} {l2 : Int32} {l3 : Int32}
    (k : isO h 10900 l0 ∧ cl d rc rs M_X9_needWithin [vR (900, l0), vI l2, vI (1 : Int32), vI (96 : Int32)] h (kV fun h1 rc2 rs3 => isO h1 10900 l0 ∧ cl d rc2 rs3 M_X9_needWithin [vR (900, l0), vI l3, vI (0 : Int32), vI (3 : Int32)] h1 (kV fun h4 rc5 rs6 => isO h4 10900 l0 ∧ cl d rc5 rs6 M_X9_passYear [vR (900, l0), vI l1, vI l2] h4 (kV fun h7 rc8 rs9 => (l3 = (0 : Int32) → gO h7 (10904, l0) 400 fun o10 => gA h7 (10402, o10) fun a11 => cl d rc8 rs9 M_X9_sum [vR a11] h7 (kI fun x15 h12 rc13 rs14 => Q (.inl (some (vI x15))) h12) (fun E h12 rc13 rs14 => Q (.inr E) h12)) ∧ (l3 = (1 : Int32) → gO h7 (10904, l0) 400 fun o16 => isO h7 10400 o16 ∧ cl d rc8 rs9 M_X4_ranked [vR (400, o16), vI (0 : Int32)] h7 (kI fun x20 h17 rc18 rs19 => Q (.inl (some (vI x20))) h17) (fun E h17 rc18 rs19 => Q (.inr E) h17)) ∧ (l3 = (2 : Int32) → isO h7 10900 l0 ∧ cl d rc8 rs9 M_X9_yearGasps [vR (900, l0)] h7 (kI fun x24 h21 rc22 rs23 => Q (.inl (some (vI x24))) h21) (fun E h21 rc22 rs23 => Q (.inr E) h21)) ∧ (¬ l3 = (0 : Int32) ∧ ¬ l3 = (1 : Int32) ∧ ¬ l3 = (2 : Int32) → gO h7 (10904, l0) 400 fun o25 => isO h7 10400 o25 ∧ cl d rc8 rs9 M_X4_standing [vR (400, o25)] h7 (kI fun x29 h26 rc27 rs28 => Q (.inl (some (vI x29))) h26) (fun E h26 rc27 rs28 => Q (.inr E) h26))) (fun E h7 rc8 rs9 => Q (.inr E) h7)) (fun E h4 rc5 rs6 => Q (.inr E) h4)) (fun E h1 rc2 rs3 => Q (.inr E) h1)) :
    PW d M_X9_year Q rc rs 0 [vR (900, l0), vI l1, vI l2, vI l3] [] h := by
  refine P_aload_n (pc := 0) dX9_year_0 rfl ?_
  refine P_iload_n (pc := 1) dX9_year_1 rfl ?_
  refine P_iconst (v := (1 : Int32)) (pc := 2) dX9_year_2 (by decide) ?_
  refine P_bipush (v := (96 : Int32)) (pc := 3) dX9_year_3 (by decide) ?_
  obtain ⟨⟨w9, e9⟩, d2, nc, ns, rc2, rs3, Qc, g1, rfl, rfl, g2, kk, kx⟩ := k
  refine P_callV (ci := 9) (k := 0) (id := l0) (q := (RX9, TX9, 18)) (As := [vI l2, vI (1 : Int32), vI (96 : Int32)]) (st := []) (pc := 5) dX9_year_5 mk_X9_needWithin l_X9_159 im_X9_needWithin se_X9_needWithin ini_X9 rfl g1 (Nat.le_of_ble_eq_true rfl) rfl rfl (by decide) e9 rfl g2 (fun v9 h9 q9 => ?_) (fun E h9 q9 => PX_out rfl (kx E h9 q9))
  obtain ⟨rfl, k⟩ := kk v9 h9 q9
  clear kk kx g1 g2 q9
  refine P_aload_n (pc := 8) dX9_year_8 rfl ?_
  refine P_iload_n (pc := 9) dX9_year_9 rfl ?_
  refine P_iconst (v := (0 : Int32)) (pc := 10) dX9_year_10 (by decide) ?_
  refine P_iconst (v := (3 : Int32)) (pc := 11) dX9_year_11 (by decide) ?_
  obtain ⟨⟨w9, e9⟩, d2, nc, ns, rc5, rs6, Qc, g1, rfl, rfl, g2, kk, kx⟩ := k
  refine P_callV (ci := 9) (k := 0) (id := l0) (q := (RX9, TX9, 18)) (As := [vI l3, vI (0 : Int32), vI (3 : Int32)]) (st := []) (pc := 12) dX9_year_12 mk_X9_needWithin l_X9_159 im_X9_needWithin se_X9_needWithin ini_X9 rfl g1 (Nat.le_of_ble_eq_true rfl) rfl rfl (by decide) e9 rfl g2 (fun v9 h9 q9 => ?_) (fun E h9 q9 => PX_out rfl (kx E h9 q9))
  obtain ⟨rfl, k⟩ := kk v9 h9 q9
  clear kk kx g1 g2 q9
  refine P_aload_n (pc := 15) dX9_year_15 rfl ?_
  refine P_iload_n (pc := 16) dX9_year_16 rfl ?_
  refine P_iload_n (pc := 17) dX9_year_17 rfl ?_
  obtain ⟨⟨w9, e9⟩, d2, nc, ns, rc8, rs9, Qc, g1, rfl, rfl, g2, kk, kx⟩ := k
  refine P_callV (ci := 9) (k := 0) (id := l0) (q := (RX9, TX9, 18)) (As := [vI l1, vI l2]) (st := []) (pc := 18) dX9_year_18 mk_X9_passYear l_X9_300 im_X9_passYear se_X9_passYear ini_X9 rfl g1 (Nat.le_of_ble_eq_true rfl) rfl rfl (by decide) e9 rfl g2 (fun v9 h9 q9 => ?_) (fun E h9 q9 => PX_out rfl (kx E h9 q9))
  obtain ⟨rfl, k⟩ := kk v9 h9 q9
  clear kk kx g1 g2 q9
  refine P_iload_n (pc := 21) dX9_year_21 rfl ?_
  by_cases c0 : l3 = (0 : Int32)
  · replace k := k.1 c0
    refine P_tableIn (pc := 22) (tgt := 48) dX9_year_22 (by rw [c0]; decide) (by rw [c0]; decide) (by rw [c0] <;> rfl) (by decide) ?_
    refine P_aload_n (pc := 48) dX9_year_48 rfl ?_
    obtain ⟨o10, e9, k⟩ := k
    refine G9_4 (pc := 49) dX9_year_49 l_X9_37 e9 ?_
    clear e9
    obtain ⟨a11, e9, k⟩ := k
    refine GN4_2 (pc := 52) dX9_year_52 n_X9_194 e9 ?_
    clear e9
    obtain ⟨d2, nc, ns, rc13, rs14, Qc, g1, rfl, rfl, g2, kk, kx⟩ := k
    refine P_callS (As := [vR a11]) (st := []) (pc := 55) dX9_year_55 mk_X9_sum l_X9_190 st_X9_sum ini_X9 rfl g1 (Nat.le_of_ble_eq_true rfl) rfl g2 (fun v9 h9 q9 => ?_) (fun E h9 q9 => PX_out rfl (kx E h9 q9))
    obtain ⟨x15, rfl, k⟩ := kk v9 h9 q9
    clear kk kx g1 g2 q9
    exact R_ireturn (pc := 58) dX9_year_58 rfl rfl k
  replace k := k.2
  by_cases c1 : l3 = (1 : Int32)
  · replace k := k.1 c1
    refine P_tableIn (pc := 22) (tgt := 59) dX9_year_22 (by rw [c1]; decide) (by rw [c1]; decide) (by rw [c1] <;> rfl) (by decide) ?_
    refine P_aload_n (pc := 59) dX9_year_59 rfl ?_
    obtain ⟨o16, e9, k⟩ := k
    refine G9_4 (pc := 60) dX9_year_60 l_X9_37 e9 ?_
    clear e9
    refine P_iconst (v := (0 : Int32)) (pc := 63) dX9_year_63 (by decide) ?_
    obtain ⟨⟨w9, e9⟩, d2, nc, ns, rc18, rs19, Qc, g1, rfl, rfl, g2, kk, kx⟩ := k
    refine P_callV (ci := 4) (k := 0) (id := o16) (q := (RX4, TX4, 10)) (As := [vI (0 : Int32)]) (st := []) (pc := 64) dX9_year_64 mk_X4_ranked l_X9_179 im_X4_ranked se_X4_ranked ini_X4 rfl g1 (Nat.le_of_ble_eq_true rfl) rfl rfl (by decide) e9 rfl g2 (fun v9 h9 q9 => ?_) (fun E h9 q9 => PX_out rfl (kx E h9 q9))
    obtain ⟨x20, rfl, k⟩ := kk v9 h9 q9
    clear kk kx g1 g2 q9
    exact R_ireturn (pc := 67) dX9_year_67 rfl rfl k
  replace k := k.2
  by_cases c2 : l3 = (2 : Int32)
  · replace k := k.1 c2
    refine P_tableIn (pc := 22) (tgt := 68) dX9_year_22 (by rw [c2]; decide) (by rw [c2]; decide) (by rw [c2] <;> rfl) (by decide) ?_
    refine P_aload_n (pc := 68) dX9_year_68 rfl ?_
    obtain ⟨⟨w9, e9⟩, d2, nc, ns, rc22, rs23, Qc, g1, rfl, rfl, g2, kk, kx⟩ := k
    refine P_callV (ci := 9) (k := 0) (id := l0) (q := (RX9, TX9, 18)) (As := []) (st := []) (pc := 69) dX9_year_69 mk_X9_yearGasps l_X9_303 im_X9_yearGasps se_X9_yearGasps ini_X9 rfl g1 (Nat.le_of_ble_eq_true rfl) rfl rfl (by decide) e9 rfl g2 (fun v9 h9 q9 => ?_) (fun E h9 q9 => PX_out rfl (kx E h9 q9))
    obtain ⟨x24, rfl, k⟩ := kk v9 h9 q9
    clear kk kx g1 g2 q9
    exact R_ireturn (pc := 72) dX9_year_72 rfl rfl k
  replace k := k.2
  replace k := k ⟨c0, c1, c2⟩
  refine P_tableOut (pc := 22) (tgt := 73) dX9_year_22 ?_ (by decide) ?_
  · have q9 := sw_out (x := l3) (lo := 0) 3 (fun j hj => by
        match j, hj with
        | 0, _ => exact ti_ne c0
        | 1, _ => exact ti_ne c1
        | 2, _ => exact ti_ne c2
        | n + 3, hj => exact absurd hj (by omega))
    omega
  refine P_aload_n (pc := 73) dX9_year_73 rfl ?_
  obtain ⟨o25, e9, k⟩ := k
  refine G9_4 (pc := 74) dX9_year_74 l_X9_37 e9 ?_
  clear e9
  obtain ⟨⟨w9, e9⟩, d2, nc, ns, rc27, rs28, Qc, g1, rfl, rfl, g2, kk, kx⟩ := k
  refine P_callV (ci := 4) (k := 0) (id := o25) (q := (RX4, TX4, 10)) (As := []) (st := []) (pc := 77) dX9_year_77 mk_X4_standing l_X9_172 im_X4_standing se_X4_standing ini_X4 rfl g1 (Nat.le_of_ble_eq_true rfl) rfl rfl (by decide) e9 rfl g2 (fun v9 h9 q9 => ?_) (fun E h9 q9 => PX_out rfl (kx E h9 q9))
  obtain ⟨x29, rfl, k⟩ := kk v9 h9 q9
  clear kk kx g1 g2 q9
  exact R_ireturn (pc := 80) dX9_year_80 rfl rfl k
-- X9_span span(IIII)I
theorem dX9_span_0 : decode cX9_span 0 = .ok (.aload_n 0, 1) := by decide +kernel
theorem dX9_span_1 : decode cX9_span 1 = .ok (.iload_n 2, 1) := by decide +kernel
theorem dX9_span_2 : decode cX9_span 2 = .ok (.iconst 1, 1) := by decide +kernel
theorem dX9_span_3 : decode cX9_span 3 = .ok (.bipush 20, 2) := by decide +kernel
theorem dX9_span_5 : decode cX9_span 5 = .ok (.invokevirtual 159, 3) := by decide +kernel
theorem dX9_span_8 : decode cX9_span 8 = .ok (.aload_n 0, 1) := by decide +kernel
theorem dX9_span_9 : decode cX9_span 9 = .ok (.iload_n 3, 1) := by decide +kernel
theorem dX9_span_10 : decode cX9_span 10 = .ok (.iconst 1, 1) := by decide +kernel
theorem dX9_span_11 : decode cX9_span 11 = .ok (.bipush 96, 2) := by decide +kernel
theorem dX9_span_13 : decode cX9_span 13 = .ok (.invokevirtual 159, 3) := by decide +kernel
theorem dX9_span_16 : decode cX9_span 16 = .ok (.aload_n 0, 1) := by decide +kernel
theorem dX9_span_17 : decode cX9_span 17 = .ok (.iload 4, 2) := by decide +kernel
theorem dX9_span_19 : decode cX9_span 19 = .ok (.iconst 0, 1) := by decide +kernel
theorem dX9_span_20 : decode cX9_span 20 = .ok (.iconst 2, 1) := by decide +kernel
theorem dX9_span_21 : decode cX9_span 21 = .ok (.invokevirtual 159, 3) := by decide +kernel
theorem dX9_span_24 : decode cX9_span 24 = .ok (.iconst 0, 1) := by decide +kernel
theorem dX9_span_25 : decode cX9_span 25 = .ok (.istore 5, 2) := by decide +kernel
theorem dX9_span_27 : decode cX9_span 27 = .ok (.iconst 0, 1) := by decide +kernel
theorem dX9_span_28 : decode cX9_span 28 = .ok (.istore 6, 2) := by decide +kernel
theorem dX9_span_30 : decode cX9_span 30 = .ok (.iconst 0, 1) := by decide +kernel
theorem dX9_span_31 : decode cX9_span 31 = .ok (.istore 7, 2) := by decide +kernel
theorem dX9_span_33 : decode cX9_span 33 = .ok (.iconst 0, 1) := by decide +kernel
theorem dX9_span_34 : decode cX9_span 34 = .ok (.istore 8, 2) := by decide +kernel
theorem dX9_span_36 : decode cX9_span 36 = .ok (.iload 8, 2) := by decide +kernel
theorem dX9_span_38 : decode cX9_span 38 = .ok (.iload_n 2, 1) := by decide +kernel
theorem dX9_span_39 : decode cX9_span 39 = .ok (.if_icmp .ge 74, 3) := by decide +kernel
theorem dX9_span_42 : decode cX9_span 42 = .ok (.aload_n 0, 1) := by decide +kernel
theorem dX9_span_43 : decode cX9_span 43 = .ok (.iload_n 1, 1) := by decide +kernel
theorem dX9_span_44 : decode cX9_span 44 = .ok (.iload 8, 2) := by decide +kernel
theorem dX9_span_46 : decode cX9_span 46 = .ok (.iadd, 1) := by decide +kernel
theorem dX9_span_47 : decode cX9_span 47 = .ok (.iload_n 3, 1) := by decide +kernel
theorem dX9_span_48 : decode cX9_span 48 = .ok (.invokevirtual 300, 3) := by decide +kernel
theorem dX9_span_51 : decode cX9_span 51 = .ok (.aload_n 0, 1) := by decide +kernel
theorem dX9_span_52 : decode cX9_span 52 = .ok (.invokevirtual 303, 3) := by decide +kernel
theorem dX9_span_55 : decode cX9_span 55 = .ok (.istore 9, 2) := by decide +kernel
theorem dX9_span_57 : decode cX9_span 57 = .ok (.iload 8, 2) := by decide +kernel
theorem dX9_span_59 : decode cX9_span 59 = .ok (.ifCond .ne 8, 3) := by decide +kernel
theorem dX9_span_62 : decode cX9_span 62 = .ok (.iload 9, 2) := by decide +kernel
theorem dX9_span_64 : decode cX9_span 64 = .ok (.goto 10, 3) := by decide +kernel
theorem dX9_span_67 : decode cX9_span 67 = .ok (.iload 5, 2) := by decide +kernel
theorem dX9_span_69 : decode cX9_span 69 = .ok (.iload 9, 2) := by decide +kernel
theorem dX9_span_71 : decode cX9_span 71 = .ok (.invokestatic 306, 3) := by decide +kernel
theorem dX9_span_74 : decode cX9_span 74 = .ok (.istore 5, 2) := by decide +kernel
theorem dX9_span_76 : decode cX9_span 76 = .ok (.iload 6, 2) := by decide +kernel
theorem dX9_span_78 : decode cX9_span 78 = .ok (.iload 9, 2) := by decide +kernel
theorem dX9_span_80 : decode cX9_span 80 = .ok (.invokestatic 309, 3) := by decide +kernel
theorem dX9_span_83 : decode cX9_span 83 = .ok (.istore 6, 2) := by decide +kernel
theorem dX9_span_85 : decode cX9_span 85 = .ok (.iload 7, 2) := by decide +kernel
theorem dX9_span_87 : decode cX9_span 87 = .ok (.aload_n 0, 1) := by decide +kernel
theorem dX9_span_88 : decode cX9_span 88 = .ok (.getfield 37, 3) := by decide +kernel
theorem dX9_span_91 : decode cX9_span 91 = .ok (.iconst 0, 1) := by decide +kernel
theorem dX9_span_92 : decode cX9_span 92 = .ok (.invokevirtual 179, 3) := by decide +kernel
theorem dX9_span_95 : decode cX9_span 95 = .ok (.iconst (-1), 1) := by decide +kernel
theorem dX9_span_96 : decode cX9_span 96 = .ok (.if_icmp .ne 7, 3) := by decide +kernel
theorem dX9_span_99 : decode cX9_span 99 = .ok (.iconst 0, 1) := by decide +kernel
theorem dX9_span_100 : decode cX9_span 100 = .ok (.goto 4, 3) := by decide +kernel
theorem dX9_span_103 : decode cX9_span 103 = .ok (.iconst 1, 1) := by decide +kernel
theorem dX9_span_104 : decode cX9_span 104 = .ok (.iadd, 1) := by decide +kernel
theorem dX9_span_105 : decode cX9_span 105 = .ok (.istore 7, 2) := by decide +kernel
theorem dX9_span_107 : decode cX9_span 107 = .ok (.iinc 8 1, 3) := by decide +kernel
theorem dX9_span_110 : decode cX9_span 110 = .ok (.goto (-74), 3) := by decide +kernel
theorem dX9_span_113 : decode cX9_span 113 = .ok (.iload 4, 2) := by decide +kernel
theorem dX9_span_115 : decode cX9_span 115 = .ok (.lookupswitch 31 #[(0, 25), (1, 28)], 25) := by decide +kernel
theorem dX9_span_140 : decode cX9_span 140 = .ok (.iload 5, 2) := by decide +kernel
theorem dX9_span_142 : decode cX9_span 142 = .ok (.ireturn, 1) := by decide +kernel
theorem dX9_span_143 : decode cX9_span 143 = .ok (.iload 6, 2) := by decide +kernel
theorem dX9_span_145 : decode cX9_span 145 = .ok (.ireturn, 1) := by decide +kernel
theorem dX9_span_146 : decode cX9_span 146 = .ok (.iload 7, 2) := by decide +kernel
theorem dX9_span_148 : decode cX9_span 148 = .ok (.ireturn, 1) := by decide +kernel
theorem r_X9_span_0 {d rc rs : Nat} {Q : PO → PH → Prop} {h : PH} {l0 : Nat} {l1 : Int32} {l2 : Int32} {l3 : Int32} {l4 : Int32}
    (k : isO h 10900 l0 ∧ cl d rc rs M_X9_needWithin [vR (900, l0), vI l2, vI (1 : Int32), vI (20 : Int32)] h (kV fun h1 rc2 rs3 => isO h1 10900 l0 ∧ cl d rc2 rs3 M_X9_needWithin [vR (900, l0), vI l3, vI (1 : Int32), vI (96 : Int32)] h1 (kV fun h4 rc5 rs6 => isO h4 10900 l0 ∧ cl d rc5 rs6 M_X9_needWithin [vR (900, l0), vI l4, vI (0 : Int32), vI (2 : Int32)] h4 (kV fun h7 rc8 rs9 => PW d M_X9_span Q rc8 rs9 36 [vR (900, l0), vI l1, vI l2, vI l3, vI l4, vI (0 : Int32), vI (0 : Int32), vI (0 : Int32), vI (0 : Int32), vU] [] h7) (fun E h7 rc8 rs9 => Q (.inr E) h7)) (fun E h4 rc5 rs6 => Q (.inr E) h4)) (fun E h1 rc2 rs3 => Q (.inr E) h1)) :
    PW d M_X9_span Q rc rs 0 [vR (900, l0), vI l1, vI l2, vI l3, vI l4, vU, vU, vU, vU, vU] [] h := by
  refine P_aload_n (pc := 0) dX9_span_0 rfl ?_
  refine P_iload_n (pc := 1) dX9_span_1 rfl ?_
  refine P_iconst (v := (1 : Int32)) (pc := 2) dX9_span_2 (by decide) ?_
  refine P_bipush (v := (20 : Int32)) (pc := 3) dX9_span_3 (by decide) ?_
  obtain ⟨⟨w9, e9⟩, d2, nc, ns, rc2, rs3, Qc, g1, rfl, rfl, g2, kk, kx⟩ := k
  refine P_callV (ci := 9) (k := 0) (id := l0) (q := (RX9, TX9, 18)) (As := [vI l2, vI (1 : Int32), vI (20 : Int32)]) (st := []) (pc := 5) dX9_span_5 mk_X9_needWithin l_X9_159 im_X9_needWithin se_X9_needWithin ini_X9 rfl g1 (Nat.le_of_ble_eq_true rfl) rfl rfl (by decide) e9 rfl g2 (fun v9 h9 q9 => ?_) (fun E h9 q9 => PX_out rfl (kx E h9 q9))
  obtain ⟨rfl, k⟩ := kk v9 h9 q9
  clear kk kx g1 g2 q9
  refine P_aload_n (pc := 8) dX9_span_8 rfl ?_
  refine P_iload_n (pc := 9) dX9_span_9 rfl ?_
  refine P_iconst (v := (1 : Int32)) (pc := 10) dX9_span_10 (by decide) ?_
  refine P_bipush (v := (96 : Int32)) (pc := 11) dX9_span_11 (by decide) ?_
  obtain ⟨⟨w9, e9⟩, d2, nc, ns, rc5, rs6, Qc, g1, rfl, rfl, g2, kk, kx⟩ := k
  refine P_callV (ci := 9) (k := 0) (id := l0) (q := (RX9, TX9, 18)) (As := [vI l3, vI (1 : Int32), vI (96 : Int32)]) (st := []) (pc := 13) dX9_span_13 mk_X9_needWithin l_X9_159 im_X9_needWithin se_X9_needWithin ini_X9 rfl g1 (Nat.le_of_ble_eq_true rfl) rfl rfl (by decide) e9 rfl g2 (fun v9 h9 q9 => ?_) (fun E h9 q9 => PX_out rfl (kx E h9 q9))
  obtain ⟨rfl, k⟩ := kk v9 h9 q9
  clear kk kx g1 g2 q9
  refine P_aload_n (pc := 16) dX9_span_16 rfl ?_
  refine P_iload (pc := 17) dX9_span_17 rfl ?_
  refine P_iconst (v := (0 : Int32)) (pc := 19) dX9_span_19 (by decide) ?_
  refine P_iconst (v := (2 : Int32)) (pc := 20) dX9_span_20 (by decide) ?_
  obtain ⟨⟨w9, e9⟩, d2, nc, ns, rc8, rs9, Qc, g1, rfl, rfl, g2, kk, kx⟩ := k
  refine P_callV (ci := 9) (k := 0) (id := l0) (q := (RX9, TX9, 18)) (As := [vI l4, vI (0 : Int32), vI (2 : Int32)]) (st := []) (pc := 21) dX9_span_21 mk_X9_needWithin l_X9_159 im_X9_needWithin se_X9_needWithin ini_X9 rfl g1 (Nat.le_of_ble_eq_true rfl) rfl rfl (by decide) e9 rfl g2 (fun v9 h9 q9 => ?_) (fun E h9 q9 => PX_out rfl (kx E h9 q9))
  obtain ⟨rfl, k⟩ := kk v9 h9 q9
  clear kk kx g1 g2 q9
  refine P_iconst (v := (0 : Int32)) (pc := 24) dX9_span_24 (by decide) ?_
  refine P_istore (pc := 25) dX9_span_25 (by decide) (Or.inr (by intro z e9; cases e9)) rfl ?_
  refine P_iconst (v := (0 : Int32)) (pc := 27) dX9_span_27 (by decide) ?_
  refine P_istore (pc := 28) dX9_span_28 (by decide) (Or.inr (by intro z e9; cases e9)) rfl ?_
  refine P_iconst (v := (0 : Int32)) (pc := 30) dX9_span_30 (by decide) ?_
  refine P_istore (pc := 31) dX9_span_31 (by decide) (Or.inr (by intro z e9; cases e9)) rfl ?_
  refine P_iconst (v := (0 : Int32)) (pc := 33) dX9_span_33 (by decide) ?_
  refine P_istore (pc := 34) dX9_span_34 (by decide) (Or.inr (by intro z e9; cases e9)) rfl ?_
  exact k
theorem r_X9_span_36 {d rc rs : Nat} {Q : PO → PH → Prop} {h : PH} {l0 : Nat} {l1 : Int32} {l2 : Int32} {l3 : Int32} {l4 : Int32} {l5 : Int32} {l6 : Int32} {l7 : Int32} {l8 : Int32}
    (k : br (l8 < l2) (isO h 10900 l0 ∧ cl d rc rs M_X9_passYear [vR (900, l0), vI (l1 + l8), vI l3] h (kV fun h1 rc2 rs3 => isO h1 10900 l0 ∧ cl d rc2 rs3 M_X9_yearGasps [vR (900, l0)] h1 (kI fun x7 h4 rc5 rs6 => br (l8 = 0) (cl d rc5 rs6 M_J9_max_7cf53 [vI l6, vI x7] h4 (kI fun x24 h21 rc22 rs23 => gO h21 (10904, l0) 400 fun o25 => isO h21 10400 o25 ∧ cl d rc22 rs23 M_X4_ranked [vR (400, o25), vI (0 : Int32)] h21 (kI fun x29 h26 rc27 rs28 => br (x29 = (-1 : Int32)) (PW d M_X9_span Q rc27 rs28 36 [vR (900, l0), vI l1, vI l2, vI l3, vI l4, vI x7, vI x24, vI (l7 + (0 : Int32)), vI (l8 + (1 : Int32)), vU] [] h26) (PW d M_X9_span Q rc27 rs28 36 [vR (900, l0), vI l1, vI l2, vI l3, vI l4, vI x7, vI x24, vI (l7 + (1 : Int32)), vI (l8 + (1 : Int32)), vU] [] h26)) (fun E h26 rc27 rs28 => Q (.inr E) h26)) (fun E h21 rc22 rs23 => Q (.inr E) h21)) (cl d rc5 rs6 M_J9_min_7cf53 [vI l5, vI x7] h4 (kI fun x11 h8 rc9 rs10 => cl d rc9 rs10 M_J9_max_7cf53 [vI l6, vI x7] h8 (kI fun x15 h12 rc13 rs14 => gO h12 (10904, l0) 400 fun o16 => isO h12 10400 o16 ∧ cl d rc13 rs14 M_X4_ranked [vR (400, o16), vI (0 : Int32)] h12 (kI fun x20 h17 rc18 rs19 => br (x20 = (-1 : Int32)) (PW d M_X9_span Q rc18 rs19 36 [vR (900, l0), vI l1, vI l2, vI l3, vI l4, vI x11, vI x15, vI (l7 + (0 : Int32)), vI (l8 + (1 : Int32)), vU] [] h17) (PW d M_X9_span Q rc18 rs19 36 [vR (900, l0), vI l1, vI l2, vI l3, vI l4, vI x11, vI x15, vI (l7 + (1 : Int32)), vI (l8 + (1 : Int32)), vU] [] h17)) (fun E h17 rc18 rs19 => Q (.inr E) h17)) (fun E h12 rc13 rs14 => Q (.inr E) h12)) (fun E h8 rc9 rs10 => Q (.inr E) h8))) (fun E h4 rc5 rs6 => Q (.inr E) h4)) (fun E h1 rc2 rs3 => Q (.inr E) h1)) ((l4 = (0 : Int32) → Q (.inl (some (vI l5))) h) ∧ (l4 = (1 : Int32) → Q (.inl (some (vI l6))) h) ∧ (¬ l4 = (0 : Int32) ∧ ¬ l4 = (1 : Int32) → Q (.inl (some (vI l7))) h))) :
    PW d M_X9_span Q rc rs 36 [vR (900, l0), vI l1, vI l2, vI l3, vI l4, vI l5, vI l6, vI l7, vI l8, vU] [] h := by
  refine P_iload (pc := 36) dX9_span_36 rfl ?_
  refine P_iload_n (pc := 38) dX9_span_38 rfl ?_
  refine P_icmp_ge (tgt := 113) (pc := 39) dX9_span_39 (by decide) (fun c => ?_) (fun c => ?_)
  · have k := k.2 (Int32.not_lt.mpr c)
    refine P_iload (pc := 113) dX9_span_113 rfl ?_
    by_cases c0 : l4 = (0 : Int32)
    · replace k := k.1 c0
      refine P_lookup (pc := 115) (tgt := 140) dX9_span_115 (by decide) (by rw [c0] <;> rfl) (by decide) ?_
      refine P_iload (pc := 140) dX9_span_140 rfl ?_
      exact R_ireturn (pc := 142) dX9_span_142 rfl rfl k
    replace k := k.2
    by_cases c1 : l4 = (1 : Int32)
    · replace k := k.1 c1
      refine P_lookup (pc := 115) (tgt := 143) dX9_span_115 (by decide) (by rw [c1] <;> rfl) (by decide) ?_
      refine P_iload (pc := 143) dX9_span_143 rfl ?_
      exact R_ireturn (pc := 145) dX9_span_145 rfl rfl k
    replace k := k.2
    replace k := k ⟨c0, c1⟩
    refine P_lookup (off := 31) (pc := 115) (tgt := 146) dX9_span_115 (by decide) ?_ (by decide) ?_
    · exact lko (List.forall_mem_cons.mpr ⟨Ne.symm (ti_ne c0), (List.forall_mem_cons.mpr ⟨Ne.symm (ti_ne c1), (fun _ h9 => nomatch h9)⟩)⟩)
    refine P_iload (pc := 146) dX9_span_146 rfl ?_
    exact R_ireturn (pc := 148) dX9_span_148 rfl rfl k
  · have k := k.1 (Int32.not_le.mp c)
    refine P_aload_n (pc := 42) dX9_span_42 rfl ?_
    refine P_iload_n (pc := 43) dX9_span_43 rfl ?_
    refine P_iload (pc := 44) dX9_span_44 rfl ?_
    refine P_iadd (pc := 46) dX9_span_46 ?_
    refine P_iload_n (pc := 47) dX9_span_47 rfl ?_
    obtain ⟨⟨w9, e9⟩, d2, nc, ns, rc2, rs3, Qc, g1, rfl, rfl, g2, kk, kx⟩ := k
    refine P_callV (ci := 9) (k := 0) (id := l0) (q := (RX9, TX9, 18)) (As := [vI (l1 + l8), vI l3]) (st := []) (pc := 48) dX9_span_48 mk_X9_passYear l_X9_300 im_X9_passYear se_X9_passYear ini_X9 rfl g1 (Nat.le_of_ble_eq_true rfl) rfl rfl (by decide) e9 rfl g2 (fun v9 h9 q9 => ?_) (fun E h9 q9 => PX_out rfl (kx E h9 q9))
    obtain ⟨rfl, k⟩ := kk v9 h9 q9
    clear kk kx g1 g2 q9
    refine P_aload_n (pc := 51) dX9_span_51 rfl ?_
    obtain ⟨⟨w9, e9⟩, d2, nc, ns, rc5, rs6, Qc, g1, rfl, rfl, g2, kk, kx⟩ := k
    refine P_callV (ci := 9) (k := 0) (id := l0) (q := (RX9, TX9, 18)) (As := []) (st := []) (pc := 52) dX9_span_52 mk_X9_yearGasps l_X9_303 im_X9_yearGasps se_X9_yearGasps ini_X9 rfl g1 (Nat.le_of_ble_eq_true rfl) rfl rfl (by decide) e9 rfl g2 (fun v9 h9 q9 => ?_) (fun E h9 q9 => PX_out rfl (kx E h9 q9))
    obtain ⟨x7, rfl, k⟩ := kk v9 h9 q9
    clear kk kx g1 g2 q9
    refine P_istore (pc := 55) dX9_span_55 (by decide) (Or.inr (by intro z e9; cases e9)) rfl ?_
    refine P_iload (pc := 57) dX9_span_57 rfl ?_
    refine P_if_ne (tgt := 67) (pc := 59) dX9_span_59 (by decide) (fun c => ?_) (fun c => ?_)
    · have k := k.2 c
      refine P_iload (pc := 67) dX9_span_67 rfl ?_
      refine P_iload (pc := 69) dX9_span_69 rfl ?_
      obtain ⟨d2, nc, ns, rc9, rs10, Qc, g1, rfl, rfl, g2, kk, kx⟩ := k
      refine P_callS (As := [vI l5, vI x7]) (st := []) (pc := 71) dX9_span_71 mk_J9_min_7cf53 l_X9_306 st_J9_min_7cf53 ini_J9 rfl g1 (Nat.le_of_ble_eq_true rfl) rfl g2 (fun v9 h9 q9 => ?_) (fun E h9 q9 => PX_out rfl (kx E h9 q9))
      obtain ⟨x11, rfl, k⟩ := kk v9 h9 q9
      clear kk kx g1 g2 q9
      refine P_istore (pc := 74) dX9_span_74 (by decide) (Or.inr (by intro z e9; cases e9)) rfl ?_
      refine P_iload (pc := 76) dX9_span_76 rfl ?_
      refine P_iload (pc := 78) dX9_span_78 rfl ?_
      obtain ⟨d2, nc, ns, rc13, rs14, Qc, g1, rfl, rfl, g2, kk, kx⟩ := k
      refine P_callS (As := [vI l6, vI x7]) (st := []) (pc := 80) dX9_span_80 mk_J9_max_7cf53 l_X9_309 st_J9_max_7cf53 ini_J9 rfl g1 (Nat.le_of_ble_eq_true rfl) rfl g2 (fun v9 h9 q9 => ?_) (fun E h9 q9 => PX_out rfl (kx E h9 q9))
      obtain ⟨x15, rfl, k⟩ := kk v9 h9 q9
      clear kk kx g1 g2 q9
      refine P_istore (pc := 83) dX9_span_83 (by decide) (Or.inr (by intro z e9; cases e9)) rfl ?_
      refine P_iload (pc := 85) dX9_span_85 rfl ?_
      refine P_aload_n (pc := 87) dX9_span_87 rfl ?_
      obtain ⟨o16, e9, k⟩ := k
      refine G9_4 (pc := 88) dX9_span_88 l_X9_37 e9 ?_
      clear e9
      refine P_iconst (v := (0 : Int32)) (pc := 91) dX9_span_91 (by decide) ?_
      obtain ⟨⟨w9, e9⟩, d2, nc, ns, rc18, rs19, Qc, g1, rfl, rfl, g2, kk, kx⟩ := k
      refine P_callV (ci := 4) (k := 0) (id := o16) (q := (RX4, TX4, 10)) (As := [vI (0 : Int32)]) (st := [vI l7]) (pc := 92) dX9_span_92 mk_X4_ranked l_X9_179 im_X4_ranked se_X4_ranked ini_X4 rfl g1 (Nat.le_of_ble_eq_true rfl) rfl rfl (by decide) e9 rfl g2 (fun v9 h9 q9 => ?_) (fun E h9 q9 => PX_out rfl (kx E h9 q9))
      obtain ⟨x20, rfl, k⟩ := kk v9 h9 q9
      clear kk kx g1 g2 q9
      refine P_iconst (v := (-1 : Int32)) (pc := 95) dX9_span_95 (by decide) ?_
      refine P_icmp_ne (tgt := 103) (pc := 96) dX9_span_96 (by decide) (fun c => ?_) (fun c => ?_)
      · have k := k.2 c
        refine P_iconst (v := (1 : Int32)) (pc := 103) dX9_span_103 (by decide) ?_
        refine P_iadd (pc := 104) dX9_span_104 ?_
        refine P_istore (pc := 105) dX9_span_105 (by decide) (Or.inr (by intro z e9; cases e9)) rfl ?_
        refine P_iinc (v := l8 + (1 : Int32)) (pc := 107) dX9_span_107 (by decide) rfl rfl (Or.inr (by intro z e9; cases e9)) rfl ?_
        refine P_goto (tgt := 36) (pc := 110) dX9_span_110 (by decide) ?_
        exact P_drop (ls2 := [vR (900, l0), vI l1, vI l2, vI l3, vI l4, vI x11, vI x15, vI (l7 + (1 : Int32)), vI (l8 + (1 : Int32)), vU]) (ls := [vR (900, l0), vI l1, vI l2, vI l3, vI l4, vI x11, vI x15, vI (l7 + (1 : Int32)), vI (l8 + (1 : Int32)), vI x7]) ⟨Or.inr rfl, ⟨Or.inr rfl, ⟨Or.inr rfl, ⟨Or.inr rfl, ⟨Or.inr rfl, ⟨Or.inr rfl, ⟨Or.inr rfl, ⟨Or.inr rfl, ⟨Or.inr rfl, ⟨Or.inl rfl, trivial⟩⟩⟩⟩⟩⟩⟩⟩⟩⟩ k
      · have k := k.1 c
        refine P_iconst (v := (0 : Int32)) (pc := 99) dX9_span_99 (by decide) ?_
        refine P_goto (tgt := 104) (pc := 100) dX9_span_100 (by decide) ?_
        refine P_iadd (pc := 104) dX9_span_104 ?_
        refine P_istore (pc := 105) dX9_span_105 (by decide) (Or.inr (by intro z e9; cases e9)) rfl ?_
        refine P_iinc (v := l8 + (1 : Int32)) (pc := 107) dX9_span_107 (by decide) rfl rfl (Or.inr (by intro z e9; cases e9)) rfl ?_
        refine P_goto (tgt := 36) (pc := 110) dX9_span_110 (by decide) ?_
        exact P_drop (ls2 := [vR (900, l0), vI l1, vI l2, vI l3, vI l4, vI x11, vI x15, vI (l7 + (0 : Int32)), vI (l8 + (1 : Int32)), vU]) (ls := [vR (900, l0), vI l1, vI l2, vI l3, vI l4, vI x11, vI x15, vI (l7 + (0 : Int32)), vI (l8 + (1 : Int32)), vI x7]) ⟨Or.inr rfl, ⟨Or.inr rfl, ⟨Or.inr rfl, ⟨Or.inr rfl, ⟨Or.inr rfl, ⟨Or.inr rfl, ⟨Or.inr rfl, ⟨Or.inr rfl, ⟨Or.inr rfl, ⟨Or.inl rfl, trivial⟩⟩⟩⟩⟩⟩⟩⟩⟩⟩ k
    · have k := k.1 c
      refine P_iload (pc := 62) dX9_span_62 rfl ?_
      refine P_goto (tgt := 74) (pc := 64) dX9_span_64 (by decide) ?_
      refine P_istore (pc := 74) dX9_span_74 (by decide) (Or.inr (by intro z e9; cases e9)) rfl ?_
      refine P_iload (pc := 76) dX9_span_76 rfl ?_
      refine P_iload (pc := 78) dX9_span_78 rfl ?_
      obtain ⟨d2, nc, ns, rc22, rs23, Qc, g1, rfl, rfl, g2, kk, kx⟩ := k
      refine P_callS (As := [vI l6, vI x7]) (st := []) (pc := 80) dX9_span_80 mk_J9_max_7cf53 l_X9_309 st_J9_max_7cf53 ini_J9 rfl g1 (Nat.le_of_ble_eq_true rfl) rfl g2 (fun v9 h9 q9 => ?_) (fun E h9 q9 => PX_out rfl (kx E h9 q9))
      obtain ⟨x24, rfl, k⟩ := kk v9 h9 q9
      clear kk kx g1 g2 q9
      refine P_istore (pc := 83) dX9_span_83 (by decide) (Or.inr (by intro z e9; cases e9)) rfl ?_
      refine P_iload (pc := 85) dX9_span_85 rfl ?_
      refine P_aload_n (pc := 87) dX9_span_87 rfl ?_
      obtain ⟨o25, e9, k⟩ := k
      refine G9_4 (pc := 88) dX9_span_88 l_X9_37 e9 ?_
      clear e9
      refine P_iconst (v := (0 : Int32)) (pc := 91) dX9_span_91 (by decide) ?_
      obtain ⟨⟨w9, e9⟩, d2, nc, ns, rc27, rs28, Qc, g1, rfl, rfl, g2, kk, kx⟩ := k
      refine P_callV (ci := 4) (k := 0) (id := o25) (q := (RX4, TX4, 10)) (As := [vI (0 : Int32)]) (st := [vI l7]) (pc := 92) dX9_span_92 mk_X4_ranked l_X9_179 im_X4_ranked se_X4_ranked ini_X4 rfl g1 (Nat.le_of_ble_eq_true rfl) rfl rfl (by decide) e9 rfl g2 (fun v9 h9 q9 => ?_) (fun E h9 q9 => PX_out rfl (kx E h9 q9))
      obtain ⟨x29, rfl, k⟩ := kk v9 h9 q9
      clear kk kx g1 g2 q9
      refine P_iconst (v := (-1 : Int32)) (pc := 95) dX9_span_95 (by decide) ?_
      refine P_icmp_ne (tgt := 103) (pc := 96) dX9_span_96 (by decide) (fun c => ?_) (fun c => ?_)
      · have k := k.2 c
        refine P_iconst (v := (1 : Int32)) (pc := 103) dX9_span_103 (by decide) ?_
        refine P_iadd (pc := 104) dX9_span_104 ?_
        refine P_istore (pc := 105) dX9_span_105 (by decide) (Or.inr (by intro z e9; cases e9)) rfl ?_
        refine P_iinc (v := l8 + (1 : Int32)) (pc := 107) dX9_span_107 (by decide) rfl rfl (Or.inr (by intro z e9; cases e9)) rfl ?_
        refine P_goto (tgt := 36) (pc := 110) dX9_span_110 (by decide) ?_
        exact P_drop (ls2 := [vR (900, l0), vI l1, vI l2, vI l3, vI l4, vI x7, vI x24, vI (l7 + (1 : Int32)), vI (l8 + (1 : Int32)), vU]) (ls := [vR (900, l0), vI l1, vI l2, vI l3, vI l4, vI x7, vI x24, vI (l7 + (1 : Int32)), vI (l8 + (1 : Int32)), vI x7]) ⟨Or.inr rfl, ⟨Or.inr rfl, ⟨Or.inr rfl, ⟨Or.inr rfl, ⟨Or.inr rfl, ⟨Or.inr rfl, ⟨Or.inr rfl, ⟨Or.inr rfl, ⟨Or.inr rfl, ⟨Or.inl rfl, trivial⟩⟩⟩⟩⟩⟩⟩⟩⟩⟩ k
      · have k := k.1 c
        refine P_iconst (v := (0 : Int32)) (pc := 99) dX9_span_99 (by decide) ?_
        refine P_goto (tgt := 104) (pc := 100) dX9_span_100 (by decide) ?_
        refine P_iadd (pc := 104) dX9_span_104 ?_
        refine P_istore (pc := 105) dX9_span_105 (by decide) (Or.inr (by intro z e9; cases e9)) rfl ?_
        refine P_iinc (v := l8 + (1 : Int32)) (pc := 107) dX9_span_107 (by decide) rfl rfl (Or.inr (by intro z e9; cases e9)) rfl ?_
        refine P_goto (tgt := 36) (pc := 110) dX9_span_110 (by decide) ?_
        exact P_drop (ls2 := [vR (900, l0), vI l1, vI l2, vI l3, vI l4, vI x7, vI x24, vI (l7 + (0 : Int32)), vI (l8 + (1 : Int32)), vU]) (ls := [vR (900, l0), vI l1, vI l2, vI l3, vI l4, vI x7, vI x24, vI (l7 + (0 : Int32)), vI (l8 + (1 : Int32)), vI x7]) ⟨Or.inr rfl, ⟨Or.inr rfl, ⟨Or.inr rfl, ⟨Or.inr rfl, ⟨Or.inr rfl, ⟨Or.inr rfl, ⟨Or.inr rfl, ⟨Or.inr rfl, ⟨Or.inr rfl, ⟨Or.inl rfl, trivial⟩⟩⟩⟩⟩⟩⟩⟩⟩⟩ k
-- X9_passYear passYear(II)V
theorem dX9_passYear_0 : decode cX9_passYear 0 = .ok (.aload_n 0, 1) := by decide +kernel
theorem dX9_passYear_1 : decode cX9_passYear 1 = .ok (.getfield 37, 3) := by decide +kernel
theorem dX9_passYear_4 : decode cX9_passYear 4 = .ok (.aload_n 0, 1) := by decide +kernel
theorem dX9_passYear_5 : decode cX9_passYear 5 = .ok (.getfield 26, 3) := by decide +kernel
theorem dX9_passYear_8 : decode cX9_passYear 8 = .ok (.getfield 136, 3) := by decide +kernel
theorem dX9_passYear_11 : decode cX9_passYear 11 = .ok (.invokevirtual 271, 3) := by decide +kernel
theorem dX9_passYear_14 : decode cX9_passYear 14 = .ok (.iload_n 1, 1) := by decide +kernel
theorem dX9_passYear_15 : decode cX9_passYear 15 = .ok (.istore_n 3, 1) := by decide +kernel
theorem dX9_passYear_16 : decode cX9_passYear 16 = .ok (.iconst 0, 1) := by decide +kernel
theorem dX9_passYear_17 : decode cX9_passYear 17 = .ok (.istore 4, 2) := by decide +kernel
theorem dX9_passYear_19 : decode cX9_passYear 19 = .ok (.iload 4, 2) := by decide +kernel
theorem dX9_passYear_21 : decode cX9_passYear 21 = .ok (.iload_n 2, 1) := by decide +kernel
theorem dX9_passYear_22 : decode cX9_passYear 22 = .ok (.if_icmp .ge 83, 3) := by decide +kernel
theorem dX9_passYear_25 : decode cX9_passYear 25 = .ok (.aload_n 0, 1) := by decide +kernel
theorem dX9_passYear_26 : decode cX9_passYear 26 = .ok (.getfield 61, 3) := by decide +kernel
theorem dX9_passYear_29 : decode cX9_passYear 29 = .ok (.getfield 123, 3) := by decide +kernel
theorem dX9_passYear_32 : decode cX9_passYear 32 = .ok (.ifCond .le 50, 3) := by decide +kernel
theorem dX9_passYear_35 : decode cX9_passYear 35 = .ok (.iload_n 3, 1) := by decide +kernel
theorem dX9_passYear_36 : decode cX9_passYear 36 = .ok (.invokestatic 312, 3) := by decide +kernel
theorem dX9_passYear_39 : decode cX9_passYear 39 = .ok (.istore_n 3, 1) := by decide +kernel
theorem dX9_passYear_40 : decode cX9_passYear 40 = .ok (.iload_n 3, 1) := by decide +kernel
theorem dX9_passYear_41 : decode cX9_passYear 41 = .ok (.aload_n 0, 1) := by decide +kernel
theorem dX9_passYear_42 : decode cX9_passYear 42 = .ok (.getfield 61, 3) := by decide +kernel
theorem dX9_passYear_45 : decode cX9_passYear 45 = .ok (.getfield 123, 3) := by decide +kernel
theorem dX9_passYear_48 : decode cX9_passYear 48 = .ok (.invokestatic 315, 3) := by decide +kernel
theorem dX9_passYear_51 : decode cX9_passYear 51 = .ok (.istore 5, 2) := by decide +kernel
theorem dX9_passYear_53 : decode cX9_passYear 53 = .ok (.iload_n 3, 1) := by decide +kernel
theorem dX9_passYear_54 : decode cX9_passYear 54 = .ok (.invokestatic 312, 3) := by decide +kernel
theorem dX9_passYear_57 : decode cX9_passYear 57 = .ok (.istore_n 3, 1) := by decide +kernel
theorem dX9_passYear_58 : decode cX9_passYear 58 = .ok (.aload_n 0, 1) := by decide +kernel
theorem dX9_passYear_59 : decode cX9_passYear 59 = .ok (.getfield 37, 3) := by decide +kernel
theorem dX9_passYear_62 : decode cX9_passYear 62 = .ok (.iload_n 3, 1) := by decide +kernel
theorem dX9_passYear_63 : decode cX9_passYear 63 = .ok (.iconst 5, 1) := by decide +kernel
theorem dX9_passYear_64 : decode cX9_passYear 64 = .ok (.invokestatic 315, 3) := by decide +kernel
theorem dX9_passYear_67 : decode cX9_passYear 67 = .ok (.iload 5, 2) := by decide +kernel
theorem dX9_passYear_69 : decode cX9_passYear 69 = .ok (.iconst 0, 1) := by decide +kernel
theorem dX9_passYear_70 : decode cX9_passYear 70 = .ok (.aload_n 0, 1) := by decide +kernel
theorem dX9_passYear_71 : decode cX9_passYear 71 = .ok (.getfield 61, 3) := by decide +kernel
theorem dX9_passYear_74 : decode cX9_passYear 74 = .ok (.aload_n 0, 1) := by decide +kernel
theorem dX9_passYear_75 : decode cX9_passYear 75 = .ok (.getfield 71, 3) := by decide +kernel
theorem dX9_passYear_78 : decode cX9_passYear 78 = .ok (.invokevirtual 318, 3) := by decide +kernel
theorem dX9_passYear_81 : decode cX9_passYear 81 = .ok (.pop, 1) := by decide +kernel
theorem dX9_passYear_82 : decode cX9_passYear 82 = .ok (.aload_n 0, 1) := by decide +kernel
theorem dX9_passYear_83 : decode cX9_passYear 83 = .ok (.getfield 37, 3) := by decide +kernel
theorem dX9_passYear_86 : decode cX9_passYear 86 = .ok (.aload_n 0, 1) := by decide +kernel
theorem dX9_passYear_87 : decode cX9_passYear 87 = .ok (.getfield 61, 3) := by decide +kernel
theorem dX9_passYear_90 : decode cX9_passYear 90 = .ok (.aload_n 0, 1) := by decide +kernel
theorem dX9_passYear_91 : decode cX9_passYear 91 = .ok (.getfield 71, 3) := by decide +kernel
theorem dX9_passYear_94 : decode cX9_passYear 94 = .ok (.iconst 1, 1) := by decide +kernel
theorem dX9_passYear_95 : decode cX9_passYear 95 = .ok (.invokevirtual 279, 3) := by decide +kernel
theorem dX9_passYear_98 : decode cX9_passYear 98 = .ok (.pop, 1) := by decide +kernel
theorem dX9_passYear_99 : decode cX9_passYear 99 = .ok (.iinc 4 1, 3) := by decide +kernel
theorem dX9_passYear_102 : decode cX9_passYear 102 = .ok (.goto (-83), 3) := by decide +kernel
theorem dX9_passYear_105 : decode cX9_passYear 105 = .ok (.return_, 1) := by decide +kernel
theorem r_X9_passYear_0 {d rc rs : Nat} {Q : PO → PH → Prop} {h : PH} {l0 : Nat} {l1 : Int32} {l2 : Int32}
    (k : gO h (10904, l0) 400 fun o1 => gO h (10902, l0) 200 fun o2 => gO h (10200, o2) 400 fun o3 => isO h 10400 o1 ∧ cl d rc rs M_X4_copy [vR (400, o1), vR (400, o3)] h (kV fun h4 rc5 rs6 => PW d M_X9_passYear Q rc5 rs6 19 [vR (900, l0), vU, vI l2, vI l1, vI (0 : Int32), vU] [] h4) (fun E h4 rc5 rs6 => Q (.inr E) h4)) :
    PW d M_X9_passYear Q rc rs 0 [vR (900, l0), vI l1, vI l2, vU, vU, vU] [] h := by
  refine P_aload_n (pc := 0) dX9_passYear_0 rfl ?_
  obtain ⟨o1, e9, k⟩ := k
  refine G9_4 (pc := 1) dX9_passYear_1 l_X9_37 e9 ?_
  clear e9
  refine P_aload_n (pc := 4) dX9_passYear_4 rfl ?_
  obtain ⟨o2, e9, k⟩ := k
  refine G9_2 (pc := 5) dX9_passYear_5 l_X9_26 e9 ?_
  clear e9
  obtain ⟨o3, e9, k⟩ := k
  refine GN2_0 (pc := 8) dX9_passYear_8 n_X9_136 e9 ?_
  clear e9
  obtain ⟨⟨w9, e9⟩, d2, nc, ns, rc5, rs6, Qc, g1, rfl, rfl, g2, kk, kx⟩ := k
  refine P_callV (ci := 4) (k := 0) (id := o1) (q := (RX4, TX4, 10)) (As := [vR (400, o3)]) (st := []) (pc := 11) dX9_passYear_11 mk_X4_copy l_X9_271 im_X4_copy se_X4_copy ini_X4 rfl g1 (Nat.le_of_ble_eq_true rfl) rfl rfl (by decide) e9 rfl g2 (fun v9 h9 q9 => ?_) (fun E h9 q9 => PX_out rfl (kx E h9 q9))
  obtain ⟨rfl, k⟩ := kk v9 h9 q9
  clear kk kx g1 g2 q9
  refine P_iload_n (pc := 14) dX9_passYear_14 rfl ?_
  refine P_istore_n (pc := 15) dX9_passYear_15 (by decide) (Or.inr (by intro z e9; cases e9)) rfl ?_
  refine P_iconst (v := (0 : Int32)) (pc := 16) dX9_passYear_16 (by decide) ?_
  refine P_istore (pc := 17) dX9_passYear_17 (by decide) (Or.inr (by intro z e9; cases e9)) rfl ?_
  exact P_drop (ls2 := [vR (900, l0), vU, vI l2, vI l1, vI (0 : Int32), vU]) (ls := [vR (900, l0), vI l1, vI l2, vI l1, vI (0 : Int32), vU]) ⟨Or.inr rfl, ⟨Or.inl rfl, ⟨Or.inr rfl, ⟨Or.inr rfl, ⟨Or.inr rfl, ⟨Or.inr rfl, trivial⟩⟩⟩⟩⟩⟩ k
theorem r_X9_passYear_19 {d rc rs : Nat} {Q : PO → PH → Prop} {h : PH} {l0 : Nat} {l2 : Int32} {l3 : Int32} {l4 : Int32}
    (k : br (l4 < l2) (gO h (10908, l0) 100 fun o1 => gI h (10107, o1) fun x2 => br (0 < x2) (cl d rc rs M_X9_drawnAfter [vI l3] h (kI fun x13 h10 rc11 rs12 => gO h10 (10908, l0) 100 fun o14 => gI h10 (10107, o14) fun x15 => cl d rc11 rs12 M_X9_drawnBy [vI x13, vI x15] h10 (kI fun x19 h16 rc17 rs18 => cl d rc17 rs18 M_X9_drawnAfter [vI x13] h16 (kI fun x23 h20 rc21 rs22 => gO h20 (10904, l0) 400 fun o24 => cl d rc21 rs22 M_X9_drawnBy [vI x23, vI (5 : Int32)] h20 (kI fun x28 h25 rc26 rs27 => gO h25 (10908, l0) 100 fun o29 => gO h25 (10910, l0) 300 fun o30 => isO h25 10400 o24 ∧ cl d rc26 rs27 M_X4_tryStep [vR (400, o24), vI x28, vI x19, vI (0 : Int32), vR (100, o29), vR (300, o30)] h25 (kI fun x34 h31 rc32 rs33 => gO h31 (10904, l0) 400 fun o35 => gO h31 (10908, l0) 100 fun o36 => gO h31 (10910, l0) 300 fun o37 => isO h31 10400 o35 ∧ cl d rc32 rs33 M_X4_passHour [vR (400, o35), vR (100, o36), vR (300, o37), vI (1 : Int32)] h31 (kI fun x41 h38 rc39 rs40 => PW d M_X9_passYear Q rc39 rs40 19 [vR (900, l0), vU, vI l2, vI x23, vI (l4 + (1 : Int32)), vU] [] h38) (fun E h38 rc39 rs40 => Q (.inr E) h38)) (fun E h31 rc32 rs33 => Q (.inr E) h31)) (fun E h25 rc26 rs27 => Q (.inr E) h25)) (fun E h20 rc21 rs22 => Q (.inr E) h20)) (fun E h16 rc17 rs18 => Q (.inr E) h16)) (fun E h10 rc11 rs12 => Q (.inr E) h10)) (gO h (10904, l0) 400 fun o3 => gO h (10908, l0) 100 fun o4 => gO h (10910, l0) 300 fun o5 => isO h 10400 o3 ∧ cl d rc rs M_X4_passHour [vR (400, o3), vR (100, o4), vR (300, o5), vI (1 : Int32)] h (kI fun x9 h6 rc7 rs8 => PW d M_X9_passYear Q rc7 rs8 19 [vR (900, l0), vU, vI l2, vI l3, vI (l4 + (1 : Int32)), vU] [] h6) (fun E h6 rc7 rs8 => Q (.inr E) h6))) (Q (.inl none) h)) :
    PW d M_X9_passYear Q rc rs 19 [vR (900, l0), vU, vI l2, vI l3, vI l4, vU] [] h := by
  refine P_iload (pc := 19) dX9_passYear_19 rfl ?_
  refine P_iload_n (pc := 21) dX9_passYear_21 rfl ?_
  refine P_icmp_ge (tgt := 105) (pc := 22) dX9_passYear_22 (by decide) (fun c => ?_) (fun c => ?_)
  · have k := k.2 (Int32.not_lt.mpr c)
    exact R_return (pc := 105) dX9_passYear_105 rfl k
  · have k := k.1 (Int32.not_le.mp c)
    refine P_aload_n (pc := 25) dX9_passYear_25 rfl ?_
    obtain ⟨o1, e9, k⟩ := k
    refine G9_8 (pc := 26) dX9_passYear_26 l_X9_61 e9 ?_
    clear e9
    obtain ⟨x2, e9, k⟩ := k
    refine GN1_7 (pc := 29) dX9_passYear_29 n_X9_123 e9 ?_
    clear e9
    refine P_if_le (tgt := 82) (pc := 32) dX9_passYear_32 (by decide) (fun c => ?_) (fun c => ?_)
    · have k := k.2 (Int32.not_lt.mpr c)
      refine P_aload_n (pc := 82) dX9_passYear_82 rfl ?_
      obtain ⟨o3, e9, k⟩ := k
      refine G9_4 (pc := 83) dX9_passYear_83 l_X9_37 e9 ?_
      clear e9
      refine P_aload_n (pc := 86) dX9_passYear_86 rfl ?_
      obtain ⟨o4, e9, k⟩ := k
      refine G9_8 (pc := 87) dX9_passYear_87 l_X9_61 e9 ?_
      clear e9
      refine P_aload_n (pc := 90) dX9_passYear_90 rfl ?_
      obtain ⟨o5, e9, k⟩ := k
      refine G9_10 (pc := 91) dX9_passYear_91 l_X9_71 e9 ?_
      clear e9
      refine P_iconst (v := (1 : Int32)) (pc := 94) dX9_passYear_94 (by decide) ?_
      obtain ⟨⟨w9, e9⟩, d2, nc, ns, rc7, rs8, Qc, g1, rfl, rfl, g2, kk, kx⟩ := k
      refine P_callV (ci := 4) (k := 0) (id := o3) (q := (RX4, TX4, 10)) (As := [vR (100, o4), vR (300, o5), vI (1 : Int32)]) (st := []) (pc := 95) dX9_passYear_95 mk_X4_passHour l_X9_279 im_X4_passHour se_X4_passHour ini_X4 rfl g1 (Nat.le_of_ble_eq_true rfl) rfl rfl (by decide) e9 rfl g2 (fun v9 h9 q9 => ?_) (fun E h9 q9 => PX_out rfl (kx E h9 q9))
      obtain ⟨x9, rfl, k⟩ := kk v9 h9 q9
      clear kk kx g1 g2 q9
      refine P_pop (pc := 98) dX9_passYear_98 (fun _ => rfl) ?_
      refine P_iinc (v := l4 + (1 : Int32)) (pc := 99) dX9_passYear_99 (by decide) rfl rfl (Or.inr (by intro z e9; cases e9)) rfl ?_
      refine P_goto (tgt := 19) (pc := 102) dX9_passYear_102 (by decide) ?_
      exact k
    · have k := k.1 (Int32.not_le.mp c)
      refine P_iload_n (pc := 35) dX9_passYear_35 rfl ?_
      obtain ⟨d2, nc, ns, rc11, rs12, Qc, g1, rfl, rfl, g2, kk, kx⟩ := k
      refine P_callS (As := [vI l3]) (st := []) (pc := 36) dX9_passYear_36 mk_X9_drawnAfter l_X9_312 st_X9_drawnAfter ini_X9 rfl g1 (Nat.le_of_ble_eq_true rfl) rfl g2 (fun v9 h9 q9 => ?_) (fun E h9 q9 => PX_out rfl (kx E h9 q9))
      obtain ⟨x13, rfl, k⟩ := kk v9 h9 q9
      clear kk kx g1 g2 q9
      refine P_istore_n (pc := 39) dX9_passYear_39 (by decide) (Or.inr (by intro z e9; cases e9)) rfl ?_
      refine P_iload_n (pc := 40) dX9_passYear_40 rfl ?_
      refine P_aload_n (pc := 41) dX9_passYear_41 rfl ?_
      obtain ⟨o14, e9, k⟩ := k
      refine G9_8 (pc := 42) dX9_passYear_42 l_X9_61 e9 ?_
      clear e9
      obtain ⟨x15, e9, k⟩ := k
      refine GN1_7 (pc := 45) dX9_passYear_45 n_X9_123 e9 ?_
      clear e9
      obtain ⟨d2, nc, ns, rc17, rs18, Qc, g1, rfl, rfl, g2, kk, kx⟩ := k
      refine P_callS (As := [vI x13, vI x15]) (st := []) (pc := 48) dX9_passYear_48 mk_X9_drawnBy l_X9_315 st_X9_drawnBy ini_X9 rfl g1 (Nat.le_of_ble_eq_true rfl) rfl g2 (fun v9 h9 q9 => ?_) (fun E h9 q9 => PX_out rfl (kx E h9 q9))
      obtain ⟨x19, rfl, k⟩ := kk v9 h9 q9
      clear kk kx g1 g2 q9
      refine P_istore (pc := 51) dX9_passYear_51 (by decide) (Or.inr (by intro z e9; cases e9)) rfl ?_
      refine P_iload_n (pc := 53) dX9_passYear_53 rfl ?_
      obtain ⟨d2, nc, ns, rc21, rs22, Qc, g1, rfl, rfl, g2, kk, kx⟩ := k
      refine P_callS (As := [vI x13]) (st := []) (pc := 54) dX9_passYear_54 mk_X9_drawnAfter l_X9_312 st_X9_drawnAfter ini_X9 rfl g1 (Nat.le_of_ble_eq_true rfl) rfl g2 (fun v9 h9 q9 => ?_) (fun E h9 q9 => PX_out rfl (kx E h9 q9))
      obtain ⟨x23, rfl, k⟩ := kk v9 h9 q9
      clear kk kx g1 g2 q9
      refine P_istore_n (pc := 57) dX9_passYear_57 (by decide) (Or.inr (by intro z e9; cases e9)) rfl ?_
      refine P_aload_n (pc := 58) dX9_passYear_58 rfl ?_
      obtain ⟨o24, e9, k⟩ := k
      refine G9_4 (pc := 59) dX9_passYear_59 l_X9_37 e9 ?_
      clear e9
      refine P_iload_n (pc := 62) dX9_passYear_62 rfl ?_
      refine P_iconst (v := (5 : Int32)) (pc := 63) dX9_passYear_63 (by decide) ?_
      obtain ⟨d2, nc, ns, rc26, rs27, Qc, g1, rfl, rfl, g2, kk, kx⟩ := k
      refine P_callS (As := [vI x23, vI (5 : Int32)]) (st := [vR (400, o24)]) (pc := 64) dX9_passYear_64 mk_X9_drawnBy l_X9_315 st_X9_drawnBy ini_X9 rfl g1 (Nat.le_of_ble_eq_true rfl) rfl g2 (fun v9 h9 q9 => ?_) (fun E h9 q9 => PX_out rfl (kx E h9 q9))
      obtain ⟨x28, rfl, k⟩ := kk v9 h9 q9
      clear kk kx g1 g2 q9
      refine P_iload (pc := 67) dX9_passYear_67 rfl ?_
      refine P_iconst (v := (0 : Int32)) (pc := 69) dX9_passYear_69 (by decide) ?_
      refine P_aload_n (pc := 70) dX9_passYear_70 rfl ?_
      obtain ⟨o29, e9, k⟩ := k
      refine G9_8 (pc := 71) dX9_passYear_71 l_X9_61 e9 ?_
      clear e9
      refine P_aload_n (pc := 74) dX9_passYear_74 rfl ?_
      obtain ⟨o30, e9, k⟩ := k
      refine G9_10 (pc := 75) dX9_passYear_75 l_X9_71 e9 ?_
      clear e9
      obtain ⟨⟨w9, e9⟩, d2, nc, ns, rc32, rs33, Qc, g1, rfl, rfl, g2, kk, kx⟩ := k
      refine P_callV (ci := 4) (k := 0) (id := o24) (q := (RX4, TX4, 10)) (As := [vI x28, vI x19, vI (0 : Int32), vR (100, o29), vR (300, o30)]) (st := []) (pc := 78) dX9_passYear_78 mk_X4_tryStep l_X9_318 im_X4_tryStep se_X4_tryStep ini_X4 rfl g1 (Nat.le_of_ble_eq_true rfl) rfl rfl (by decide) e9 rfl g2 (fun v9 h9 q9 => ?_) (fun E h9 q9 => PX_out rfl (kx E h9 q9))
      obtain ⟨x34, rfl, k⟩ := kk v9 h9 q9
      clear kk kx g1 g2 q9
      refine P_pop (pc := 81) dX9_passYear_81 (fun _ => rfl) ?_
      refine P_aload_n (pc := 82) dX9_passYear_82 rfl ?_
      obtain ⟨o35, e9, k⟩ := k
      refine G9_4 (pc := 83) dX9_passYear_83 l_X9_37 e9 ?_
      clear e9
      refine P_aload_n (pc := 86) dX9_passYear_86 rfl ?_
      obtain ⟨o36, e9, k⟩ := k
      refine G9_8 (pc := 87) dX9_passYear_87 l_X9_61 e9 ?_
      clear e9
      refine P_aload_n (pc := 90) dX9_passYear_90 rfl ?_
      obtain ⟨o37, e9, k⟩ := k
      refine G9_10 (pc := 91) dX9_passYear_91 l_X9_71 e9 ?_
      clear e9
      refine P_iconst (v := (1 : Int32)) (pc := 94) dX9_passYear_94 (by decide) ?_
      obtain ⟨⟨w9, e9⟩, d2, nc, ns, rc39, rs40, Qc, g1, rfl, rfl, g2, kk, kx⟩ := k
      refine P_callV (ci := 4) (k := 0) (id := o35) (q := (RX4, TX4, 10)) (As := [vR (100, o36), vR (300, o37), vI (1 : Int32)]) (st := []) (pc := 95) dX9_passYear_95 mk_X4_passHour l_X9_279 im_X4_passHour se_X4_passHour ini_X4 rfl g1 (Nat.le_of_ble_eq_true rfl) rfl rfl (by decide) e9 rfl g2 (fun v9 h9 q9 => ?_) (fun E h9 q9 => PX_out rfl (kx E h9 q9))
      obtain ⟨x41, rfl, k⟩ := kk v9 h9 q9
      clear kk kx g1 g2 q9
      refine P_pop (pc := 98) dX9_passYear_98 (fun _ => rfl) ?_
      refine P_iinc (v := l4 + (1 : Int32)) (pc := 99) dX9_passYear_99 (by decide) rfl rfl (Or.inr (by intro z e9; cases e9)) rfl ?_
      refine P_goto (tgt := 19) (pc := 102) dX9_passYear_102 (by decide) ?_
      exact P_drop (ls2 := [vR (900, l0), vU, vI l2, vI x23, vI (l4 + (1 : Int32)), vU]) (ls := [vR (900, l0), vU, vI l2, vI x23, vI (l4 + (1 : Int32)), vI x19]) ⟨Or.inr rfl, ⟨Or.inr rfl, ⟨Or.inr rfl, ⟨Or.inr rfl, ⟨Or.inr rfl, ⟨Or.inl rfl, trivial⟩⟩⟩⟩⟩⟩ k
-- X9_yearGasps yearGasps()I
theorem dX9_yearGasps_0 : decode cX9_yearGasps 0 = .ok (.aload_n 0, 1) := by decide +kernel
theorem dX9_yearGasps_1 : decode cX9_yearGasps 1 = .ok (.getfield 37, 3) := by decide +kernel
theorem dX9_yearGasps_4 : decode cX9_yearGasps 4 = .ok (.getfield 186, 3) := by decide +kernel
theorem dX9_yearGasps_7 : decode cX9_yearGasps 7 = .ok (.invokestatic 190, 3) := by decide +kernel
theorem dX9_yearGasps_10 : decode cX9_yearGasps 10 = .ok (.aload_n 0, 1) := by decide +kernel
theorem dX9_yearGasps_11 : decode cX9_yearGasps 11 = .ok (.getfield 26, 3) := by decide +kernel
theorem dX9_yearGasps_14 : decode cX9_yearGasps 14 = .ok (.getfield 136, 3) := by decide +kernel
theorem dX9_yearGasps_17 : decode cX9_yearGasps 17 = .ok (.getfield 186, 3) := by decide +kernel
theorem dX9_yearGasps_20 : decode cX9_yearGasps 20 = .ok (.invokestatic 190, 3) := by decide +kernel
theorem dX9_yearGasps_23 : decode cX9_yearGasps 23 = .ok (.isub, 1) := by decide +kernel
theorem dX9_yearGasps_24 : decode cX9_yearGasps 24 = .ok (.ireturn, 1) := by decide +kernel
theorem r_X9_yearGasps_0 {d rc rs : Nat} {Q : PO → PH → Prop} {h : PH} {l0 : Nat}
    (k : gO h (10904, l0) 400 fun o1 => gA h (10408, o1) fun a2 => cl d rc rs M_X9_sum [vR a2] h (kI fun x6 h3 rc4 rs5 => gO h3 (10902, l0) 200 fun o7 => gO h3 (10200, o7) 400 fun o8 => gA h3 (10408, o8) fun a9 => cl d rc4 rs5 M_X9_sum [vR a9] h3 (kI fun x13 h10 rc11 rs12 => Q (.inl (some (vI (x6 - x13)))) h10) (fun E h10 rc11 rs12 => Q (.inr E) h10)) (fun E h3 rc4 rs5 => Q (.inr E) h3)) :
    PW d M_X9_yearGasps Q rc rs 0 [vR (900, l0)] [] h := by
  refine P_aload_n (pc := 0) dX9_yearGasps_0 rfl ?_
  obtain ⟨o1, e9, k⟩ := k
  refine G9_4 (pc := 1) dX9_yearGasps_1 l_X9_37 e9 ?_
  clear e9
  obtain ⟨a2, e9, k⟩ := k
  refine GN4_8 (pc := 4) dX9_yearGasps_4 n_X9_186 e9 ?_
  clear e9
  obtain ⟨d2, nc, ns, rc4, rs5, Qc, g1, rfl, rfl, g2, kk, kx⟩ := k
  refine P_callS (As := [vR a2]) (st := []) (pc := 7) dX9_yearGasps_7 mk_X9_sum l_X9_190 st_X9_sum ini_X9 rfl g1 (Nat.le_of_ble_eq_true rfl) rfl g2 (fun v9 h9 q9 => ?_) (fun E h9 q9 => PX_out rfl (kx E h9 q9))
  obtain ⟨x6, rfl, k⟩ := kk v9 h9 q9
  clear kk kx g1 g2 q9
  refine P_aload_n (pc := 10) dX9_yearGasps_10 rfl ?_
  obtain ⟨o7, e9, k⟩ := k
  refine G9_2 (pc := 11) dX9_yearGasps_11 l_X9_26 e9 ?_
  clear e9
  obtain ⟨o8, e9, k⟩ := k
  refine GN2_0 (pc := 14) dX9_yearGasps_14 n_X9_136 e9 ?_
  clear e9
  obtain ⟨a9, e9, k⟩ := k
  refine GN4_8 (pc := 17) dX9_yearGasps_17 n_X9_186 e9 ?_
  clear e9
  obtain ⟨d2, nc, ns, rc11, rs12, Qc, g1, rfl, rfl, g2, kk, kx⟩ := k
  refine P_callS (As := [vR a9]) (st := [vI x6]) (pc := 20) dX9_yearGasps_20 mk_X9_sum l_X9_190 st_X9_sum ini_X9 rfl g1 (Nat.le_of_ble_eq_true rfl) rfl g2 (fun v9 h9 q9 => ?_) (fun E h9 q9 => PX_out rfl (kx E h9 q9))
  obtain ⟨x13, rfl, k⟩ := kk v9 h9 q9
  clear kk kx g1 g2 q9
  refine P_isub (pc := 23) dX9_yearGasps_23 ?_
  exact R_ireturn (pc := 24) dX9_yearGasps_24 rfl rfl k
-- X9_drawnAfter drawnAfter(I)I
theorem dX9_drawnAfter_0 : decode cX9_drawnAfter 0 = .ok (.iload_n 0, 1) := by decide +kernel
theorem dX9_drawnAfter_1 : decode cX9_drawnAfter 1 = .ok (.ldc_w 322, 3) := by decide +kernel
theorem dX9_drawnAfter_4 : decode cX9_drawnAfter 4 = .ok (.imul, 1) := by decide +kernel
theorem dX9_drawnAfter_5 : decode cX9_drawnAfter 5 = .ok (.sipush 12345, 3) := by decide +kernel
theorem dX9_drawnAfter_8 : decode cX9_drawnAfter 8 = .ok (.iadd, 1) := by decide +kernel
theorem dX9_drawnAfter_9 : decode cX9_drawnAfter 9 = .ok (.ireturn, 1) := by decide +kernel
theorem r_X9_drawnAfter_0 {d rc rs : Nat} {Q : PO → PH → Prop} {h : PH} {l0 : Int32}
    (k : Q (.inl (some (vI ((l0 * (1103515245 : Int32)) + (12345 : Int32))))) h) :
    PW d M_X9_drawnAfter Q rc rs 0 [vI l0] [] h := by
  refine P_iload_n (pc := 0) dX9_drawnAfter_0 rfl ?_
  refine P_ldcw (v := (1103515245 : Int32)) (pc := 1) dX9_drawnAfter_1 l_X9_322 ?_
  refine P_imul (pc := 4) dX9_drawnAfter_4 ?_
  refine P_sipush (v := (12345 : Int32)) (pc := 5) dX9_drawnAfter_5 (by decide) ?_
  refine P_iadd (pc := 8) dX9_drawnAfter_8 ?_
  exact R_ireturn (pc := 9) dX9_drawnAfter_9 rfl rfl k
-- X9_drawnBy drawnBy(II)I
theorem dX9_drawnBy_0 : decode cX9_drawnBy 0 = .ok (.iload_n 1, 1) := by decide +kernel
theorem dX9_drawnBy_1 : decode cX9_drawnBy 1 = .ok (.ifCond .le 16, 3) := by decide +kernel
theorem dX9_drawnBy_4 : decode cX9_drawnBy 4 = .ok (.iload_n 0, 1) := by decide +kernel
theorem dX9_drawnBy_5 : decode cX9_drawnBy 5 = .ok (.bipush 16, 2) := by decide +kernel
theorem dX9_drawnBy_7 : decode cX9_drawnBy 7 = .ok (.iushr, 1) := by decide +kernel
theorem dX9_drawnBy_8 : decode cX9_drawnBy 8 = .ok (.sipush 32767, 3) := by decide +kernel
theorem dX9_drawnBy_11 : decode cX9_drawnBy 11 = .ok (.iand, 1) := by decide +kernel
theorem dX9_drawnBy_12 : decode cX9_drawnBy 12 = .ok (.iload_n 1, 1) := by decide +kernel
theorem dX9_drawnBy_13 : decode cX9_drawnBy 13 = .ok (.irem, 1) := by decide +kernel
theorem dX9_drawnBy_14 : decode cX9_drawnBy 14 = .ok (.goto 4, 3) := by decide +kernel
theorem dX9_drawnBy_17 : decode cX9_drawnBy 17 = .ok (.iconst 0, 1) := by decide +kernel
theorem dX9_drawnBy_18 : decode cX9_drawnBy 18 = .ok (.ireturn, 1) := by decide +kernel
theorem r_X9_drawnBy_0 {d rc rs : Nat} {Q : PO → PH → Prop} {h : PH} {l0 : Int32} {l1 : Int32}
    (k : br (0 < l1) (nz l1 (Q (.inl (some (vI ((((l0.toUInt32 >>> ((16 : Int32).toUInt32 &&& Int32.toUInt32 31)).toInt32) &&& (32767 : Int32)) - (((l0.toUInt32 >>> ((16 : Int32).toUInt32 &&& Int32.toUInt32 31)).toInt32) &&& (32767 : Int32)) / l1 * l1)))) h)) (Q (.inl (some (vI (0 : Int32)))) h)) :
    PW d M_X9_drawnBy Q rc rs 0 [vI l0, vI l1] [] h := by
  refine P_iload_n (pc := 0) dX9_drawnBy_0 rfl ?_
  refine P_if_le (tgt := 17) (pc := 1) dX9_drawnBy_1 (by decide) (fun c => ?_) (fun c => ?_)
  · have k := k.2 (Int32.not_lt.mpr c)
    refine P_iconst (v := (0 : Int32)) (pc := 17) dX9_drawnBy_17 (by decide) ?_
    exact R_ireturn (pc := 18) dX9_drawnBy_18 rfl rfl k
  · have k := k.1 (Int32.not_le.mp c)
    refine P_iload_n (pc := 4) dX9_drawnBy_4 rfl ?_
    refine P_bipush (v := (16 : Int32)) (pc := 5) dX9_drawnBy_5 (by decide) ?_
    refine P_iushr (pc := 7) dX9_drawnBy_7 ?_
    refine P_sipush (v := (32767 : Int32)) (pc := 8) dX9_drawnBy_8 (by decide) ?_
    refine P_iand (pc := 11) dX9_drawnBy_11 ?_
    refine P_iload_n (pc := 12) dX9_drawnBy_12 rfl ?_
    refine P_irem (pc := 13) dX9_drawnBy_13 k.1 ?_
    replace k := k.2
    refine P_goto (tgt := 18) (pc := 14) dX9_drawnBy_14 (by decide) ?_
    exact R_ireturn (pc := 18) dX9_drawnBy_18 rfl rfl k
-- X9_way way(II)I
theorem dX9_way_0 : decode cX9_way 0 = .ok (.aload_n 0, 1) := by decide +kernel
theorem dX9_way_1 : decode cX9_way 1 = .ok (.iload_n 1, 1) := by decide +kernel
theorem dX9_way_2 : decode cX9_way 2 = .ok (.invokevirtual 197, 3) := by decide +kernel
theorem dX9_way_5 : decode cX9_way 5 = .ok (.aload_n 0, 1) := by decide +kernel
theorem dX9_way_6 : decode cX9_way 6 = .ok (.iload_n 2, 1) := by decide +kernel
theorem dX9_way_7 : decode cX9_way 7 = .ok (.invokevirtual 197, 3) := by decide +kernel
theorem dX9_way_10 : decode cX9_way 10 = .ok (.aload_n 0, 1) := by decide +kernel
theorem dX9_way_11 : decode cX9_way 11 = .ok (.getfield 61, 3) := by decide +kernel
theorem dX9_way_14 : decode cX9_way 14 = .ok (.iload_n 1, 1) := by decide +kernel
theorem dX9_way_15 : decode cX9_way 15 = .ok (.iload_n 2, 1) := by decide +kernel
theorem dX9_way_16 : decode cX9_way 16 = .ok (.invokevirtual 323, 3) := by decide +kernel
theorem dX9_way_19 : decode cX9_way 19 = .ok (.ireturn, 1) := by decide +kernel
theorem r_X9_way_0 {d rc rs : Nat} {Q : PO → PH → Prop} {h : PH} {l0 : Nat} {l1 : Int32} {l2 : Int32}
    (k : isO h 10900 l0 ∧ cl d rc rs M_X9_needHeir [vR (900, l0), vI l1] h (kV fun h1 rc2 rs3 => isO h1 10900 l0 ∧ cl d rc2 rs3 M_X9_needHeir [vR (900, l0), vI l2] h1 (kV fun h4 rc5 rs6 => gO h4 (10908, l0) 100 fun o7 => isO h4 10100 o7 ∧ cl d rc5 rs6 M_X1_tapsBetween [vR (100, o7), vI l1, vI l2] h4 (kI fun x11 h8 rc9 rs10 => Q (.inl (some (vI x11))) h8) (fun E h8 rc9 rs10 => Q (.inr E) h8)) (fun E h4 rc5 rs6 => Q (.inr E) h4)) (fun E h1 rc2 rs3 => Q (.inr E) h1)) :
    PW d M_X9_way Q rc rs 0 [vR (900, l0), vI l1, vI l2] [] h := by
  refine P_aload_n (pc := 0) dX9_way_0 rfl ?_
  refine P_iload_n (pc := 1) dX9_way_1 rfl ?_
  obtain ⟨⟨w9, e9⟩, d2, nc, ns, rc2, rs3, Qc, g1, rfl, rfl, g2, kk, kx⟩ := k
  refine P_callV (ci := 9) (k := 0) (id := l0) (q := (RX9, TX9, 18)) (As := [vI l1]) (st := []) (pc := 2) dX9_way_2 mk_X9_needHeir l_X9_197 im_X9_needHeir se_X9_needHeir ini_X9 rfl g1 (Nat.le_of_ble_eq_true rfl) rfl rfl (by decide) e9 rfl g2 (fun v9 h9 q9 => ?_) (fun E h9 q9 => PX_out rfl (kx E h9 q9))
  obtain ⟨rfl, k⟩ := kk v9 h9 q9
  clear kk kx g1 g2 q9
  refine P_aload_n (pc := 5) dX9_way_5 rfl ?_
  refine P_iload_n (pc := 6) dX9_way_6 rfl ?_
  obtain ⟨⟨w9, e9⟩, d2, nc, ns, rc5, rs6, Qc, g1, rfl, rfl, g2, kk, kx⟩ := k
  refine P_callV (ci := 9) (k := 0) (id := l0) (q := (RX9, TX9, 18)) (As := [vI l2]) (st := []) (pc := 7) dX9_way_7 mk_X9_needHeir l_X9_197 im_X9_needHeir se_X9_needHeir ini_X9 rfl g1 (Nat.le_of_ble_eq_true rfl) rfl rfl (by decide) e9 rfl g2 (fun v9 h9 q9 => ?_) (fun E h9 q9 => PX_out rfl (kx E h9 q9))
  obtain ⟨rfl, k⟩ := kk v9 h9 q9
  clear kk kx g1 g2 q9
  refine P_aload_n (pc := 10) dX9_way_10 rfl ?_
  obtain ⟨o7, e9, k⟩ := k
  refine G9_8 (pc := 11) dX9_way_11 l_X9_61 e9 ?_
  clear e9
  refine P_iload_n (pc := 14) dX9_way_14 rfl ?_
  refine P_iload_n (pc := 15) dX9_way_15 rfl ?_
  obtain ⟨⟨w9, e9⟩, d2, nc, ns, rc9, rs10, Qc, g1, rfl, rfl, g2, kk, kx⟩ := k
  refine P_callV (ci := 1) (k := 0) (id := o7) (q := (RX1, TX1, 11)) (As := [vI l1, vI l2]) (st := []) (pc := 16) dX9_way_16 mk_X1_tapsBetween l_X9_323 im_X1_tapsBetween se_X1_tapsBetween ini_X1 rfl g1 (Nat.le_of_ble_eq_true rfl) rfl rfl (by decide) e9 rfl g2 (fun v9 h9 q9 => ?_) (fun E h9 q9 => PX_out rfl (kx E h9 q9))
  obtain ⟨x11, rfl, k⟩ := kk v9 h9 q9
  clear kk kx g1 g2 q9
  exact R_ireturn (pc := 19) dX9_way_19 rfl rfl k
-- X9_hush hush(II)I
theorem dX9_hush_0 : decode cX9_hush 0 = .ok (.aload_n 0, 1) := by decide +kernel
theorem dX9_hush_1 : decode cX9_hush 1 = .ok (.iload_n 1, 1) := by decide +kernel
theorem dX9_hush_2 : decode cX9_hush 2 = .ok (.invokevirtual 197, 3) := by decide +kernel
theorem dX9_hush_5 : decode cX9_hush 5 = .ok (.aload_n 0, 1) := by decide +kernel
theorem dX9_hush_6 : decode cX9_hush 6 = .ok (.iload_n 2, 1) := by decide +kernel
theorem dX9_hush_7 : decode cX9_hush 7 = .ok (.invokevirtual 197, 3) := by decide +kernel
theorem dX9_hush_10 : decode cX9_hush 10 = .ok (.aload_n 0, 1) := by decide +kernel
theorem dX9_hush_11 : decode cX9_hush 11 = .ok (.iload_n 1, 1) := by decide +kernel
theorem dX9_hush_12 : decode cX9_hush 12 = .ok (.iload_n 2, 1) := by decide +kernel
theorem dX9_hush_13 : decode cX9_hush 13 = .ok (.if_icmp .eq 7, 3) := by decide +kernel
theorem dX9_hush_16 : decode cX9_hush 16 = .ok (.iconst 1, 1) := by decide +kernel
theorem dX9_hush_17 : decode cX9_hush 17 = .ok (.goto 4, 3) := by decide +kernel
theorem dX9_hush_20 : decode cX9_hush 20 = .ok (.iconst 0, 1) := by decide +kernel
theorem dX9_hush_21 : decode cX9_hush 21 = .ok (.invokevirtual 326, 3) := by decide +kernel
theorem dX9_hush_24 : decode cX9_hush 24 = .ok (.aload_n 0, 1) := by decide +kernel
theorem dX9_hush_25 : decode cX9_hush 25 = .ok (.getfield 61, 3) := by decide +kernel
theorem dX9_hush_28 : decode cX9_hush 28 = .ok (.iload_n 1, 1) := by decide +kernel
theorem dX9_hush_29 : decode cX9_hush 29 = .ok (.iload_n 2, 1) := by decide +kernel
theorem dX9_hush_30 : decode cX9_hush 30 = .ok (.invokevirtual 330, 3) := by decide +kernel
theorem dX9_hush_33 : decode cX9_hush 33 = .ok (.ifCond .eq 5, 3) := by decide +kernel
theorem dX9_hush_36 : decode cX9_hush 36 = .ok (.iconst (-1), 1) := by decide +kernel
theorem dX9_hush_37 : decode cX9_hush 37 = .ok (.ireturn, 1) := by decide +kernel
theorem dX9_hush_38 : decode cX9_hush 38 = .ok (.iconst 1, 1) := by decide +kernel
theorem dX9_hush_39 : decode cX9_hush 39 = .ok (.iload_n 1, 1) := by decide +kernel
theorem dX9_hush_40 : decode cX9_hush 40 = .ok (.ishl, 1) := by decide +kernel
theorem dX9_hush_41 : decode cX9_hush 41 = .ok (.iconst 1, 1) := by decide +kernel
theorem dX9_hush_42 : decode cX9_hush 42 = .ok (.iload_n 2, 1) := by decide +kernel
theorem dX9_hush_43 : decode cX9_hush 43 = .ok (.ishl, 1) := by decide +kernel
theorem dX9_hush_44 : decode cX9_hush 44 = .ok (.ior, 1) := by decide +kernel
theorem dX9_hush_45 : decode cX9_hush 45 = .ok (.istore_n 3, 1) := by decide +kernel
theorem dX9_hush_46 : decode cX9_hush 46 = .ok (.aload_n 0, 1) := by decide +kernel
theorem dX9_hush_47 : decode cX9_hush 47 = .ok (.getfield 61, 3) := by decide +kernel
theorem dX9_hush_50 : decode cX9_hush 50 = .ok (.invokevirtual 334, 3) := by decide +kernel
theorem dX9_hush_53 : decode cX9_hush 53 = .ok (.iload_n 3, 1) := by decide +kernel
theorem dX9_hush_54 : decode cX9_hush 54 = .ok (.iconst (-1), 1) := by decide +kernel
theorem dX9_hush_55 : decode cX9_hush 55 = .ok (.ixor, 1) := by decide +kernel
theorem dX9_hush_56 : decode cX9_hush 56 = .ok (.iand, 1) := by decide +kernel
theorem dX9_hush_57 : decode cX9_hush 57 = .ok (.istore 4, 2) := by decide +kernel
theorem dX9_hush_59 : decode cX9_hush 59 = .ok (.iconst 0, 1) := by decide +kernel
theorem dX9_hush_60 : decode cX9_hush 60 = .ok (.istore 5, 2) := by decide +kernel
theorem dX9_hush_62 : decode cX9_hush 62 = .ok (.iload 5, 2) := by decide +kernel
theorem dX9_hush_64 : decode cX9_hush 64 = .ok (.aload_n 0, 1) := by decide +kernel
theorem dX9_hush_65 : decode cX9_hush 65 = .ok (.getfield 61, 3) := by decide +kernel
theorem dX9_hush_68 : decode cX9_hush 68 = .ok (.invokevirtual 334, 3) := by decide +kernel
theorem dX9_hush_71 : decode cX9_hush 71 = .ok (.if_icmp .gt 50, 3) := by decide +kernel
theorem dX9_hush_74 : decode cX9_hush 74 = .ok (.iload 5, 2) := by decide +kernel
theorem dX9_hush_76 : decode cX9_hush 76 = .ok (.iload_n 3, 1) := by decide +kernel
theorem dX9_hush_77 : decode cX9_hush 77 = .ok (.iand, 1) := by decide +kernel
theorem dX9_hush_78 : decode cX9_hush 78 = .ok (.ifCond .ne 37, 3) := by decide +kernel
theorem dX9_hush_81 : decode cX9_hush 81 = .ok (.iload 5, 2) := by decide +kernel
theorem dX9_hush_83 : decode cX9_hush 83 = .ok (.invokestatic 337, 3) := by decide +kernel
theorem dX9_hush_86 : decode cX9_hush 86 = .ok (.iload 4, 2) := by decide +kernel
theorem dX9_hush_88 : decode cX9_hush 88 = .ok (.invokestatic 337, 3) := by decide +kernel
theorem dX9_hush_91 : decode cX9_hush 91 = .ok (.if_icmp .ge 24, 3) := by decide +kernel
theorem dX9_hush_94 : decode cX9_hush 94 = .ok (.aload_n 0, 1) := by decide +kernel
theorem dX9_hush_95 : decode cX9_hush 95 = .ok (.getfield 61, 3) := by decide +kernel
theorem dX9_hush_98 : decode cX9_hush 98 = .ok (.iload_n 1, 1) := by decide +kernel
theorem dX9_hush_99 : decode cX9_hush 99 = .ok (.iload 5, 2) := by decide +kernel
theorem dX9_hush_101 : decode cX9_hush 101 = .ok (.invokevirtual 342, 3) := by decide +kernel
theorem dX9_hush_104 : decode cX9_hush 104 = .ok (.iconst 1, 1) := by decide +kernel
theorem dX9_hush_105 : decode cX9_hush 105 = .ok (.iload_n 2, 1) := by decide +kernel
theorem dX9_hush_106 : decode cX9_hush 106 = .ok (.ishl, 1) := by decide +kernel
theorem dX9_hush_107 : decode cX9_hush 107 = .ok (.iand, 1) := by decide +kernel
theorem dX9_hush_108 : decode cX9_hush 108 = .ok (.ifCond .ne 7, 3) := by decide +kernel
theorem dX9_hush_111 : decode cX9_hush 111 = .ok (.iload 5, 2) := by decide +kernel
theorem dX9_hush_113 : decode cX9_hush 113 = .ok (.istore 4, 2) := by decide +kernel
theorem dX9_hush_115 : decode cX9_hush 115 = .ok (.iinc 5 1, 3) := by decide +kernel
theorem dX9_hush_118 : decode cX9_hush 118 = .ok (.goto (-56), 3) := by decide +kernel
theorem dX9_hush_121 : decode cX9_hush 121 = .ok (.iload 4, 2) := by decide +kernel
theorem dX9_hush_123 : decode cX9_hush 123 = .ok (.ireturn, 1) := by decide +kernel
theorem r_X9_hush_0 {d rc rs : Nat} {Q : PO → PH → Prop} {h : PH} {l0 : Nat} {l1 : Int32} {l2 : Int32}
    (k : isO h 10900 l0 ∧ cl d rc rs M_X9_needHeir [vR (900, l0), vI l1] h (kV fun h1 rc2 rs3 => isO h1 10900 l0 ∧ cl d rc2 rs3 M_X9_needHeir [vR (900, l0), vI l2] h1 (kV fun h4 rc5 rs6 => br (l1 = l2) (isO h4 10900 l0 ∧ cl d rc5 rs6 M_X9_need [vR (900, l0), vI (0 : Int32)] h4 (kV fun h7 rc8 rs9 => gO h7 (10908, l0) 100 fun o10 => isO h7 10100 o10 ∧ cl d rc8 rs9 M_X1_areTwo [vR (100, o10), vI l1, vI l2] h7 (kI fun x14 h11 rc12 rs13 => br (x14 = 0) (gO h11 (10908, l0) 100 fun o15 => isO h11 10100 o15 ∧ cl d rc12 rs13 M_X1_all [vR (100, o15)] h11 (kI fun x19 h16 rc17 rs18 => PW d M_X9_hush Q rc17 rs18 62 [vR (900, l0), vI l1, vI l2, vI (((1 : Int32) <<< (l1 &&& 31)) ||| ((1 : Int32) <<< (l2 &&& 31))), vI (x19 &&& ((((1 : Int32) <<< (l1 &&& 31)) ||| ((1 : Int32) <<< (l2 &&& 31))) ^^^ (-1 : Int32))), vI (0 : Int32)] [] h16) (fun E h16 rc17 rs18 => Q (.inr E) h16)) (Q (.inl (some (vI (-1 : Int32)))) h11)) (fun E h11 rc12 rs13 => Q (.inr E) h11)) (fun E h7 rc8 rs9 => Q (.inr E) h7)) (isO h4 10900 l0 ∧ cl d rc5 rs6 M_X9_need [vR (900, l0), vI (1 : Int32)] h4 (kV fun h20 rc21 rs22 => gO h20 (10908, l0) 100 fun o23 => isO h20 10100 o23 ∧ cl d rc21 rs22 M_X1_areTwo [vR (100, o23), vI l1, vI l2] h20 (kI fun x27 h24 rc25 rs26 => br (x27 = 0) (gO h24 (10908, l0) 100 fun o28 => isO h24 10100 o28 ∧ cl d rc25 rs26 M_X1_all [vR (100, o28)] h24 (kI fun x32 h29 rc30 rs31 => PW d M_X9_hush Q rc30 rs31 62 [vR (900, l0), vI l1, vI l2, vI (((1 : Int32) <<< (l1 &&& 31)) ||| ((1 : Int32) <<< (l2 &&& 31))), vI (x32 &&& ((((1 : Int32) <<< (l1 &&& 31)) ||| ((1 : Int32) <<< (l2 &&& 31))) ^^^ (-1 : Int32))), vI (0 : Int32)] [] h29) (fun E h29 rc30 rs31 => Q (.inr E) h29)) (Q (.inl (some (vI (-1 : Int32)))) h24)) (fun E h24 rc25 rs26 => Q (.inr E) h24)) (fun E h20 rc21 rs22 => Q (.inr E) h20))) (fun E h4 rc5 rs6 => Q (.inr E) h4)) (fun E h1 rc2 rs3 => Q (.inr E) h1)) :
    PW d M_X9_hush Q rc rs 0 [vR (900, l0), vI l1, vI l2, vU, vU, vU] [] h := by
  refine P_aload_n (pc := 0) dX9_hush_0 rfl ?_
  refine P_iload_n (pc := 1) dX9_hush_1 rfl ?_
  obtain ⟨⟨w9, e9⟩, d2, nc, ns, rc2, rs3, Qc, g1, rfl, rfl, g2, kk, kx⟩ := k
  refine P_callV (ci := 9) (k := 0) (id := l0) (q := (RX9, TX9, 18)) (As := [vI l1]) (st := []) (pc := 2) dX9_hush_2 mk_X9_needHeir l_X9_197 im_X9_needHeir se_X9_needHeir ini_X9 rfl g1 (Nat.le_of_ble_eq_true rfl) rfl rfl (by decide) e9 rfl g2 (fun v9 h9 q9 => ?_) (fun E h9 q9 => PX_out rfl (kx E h9 q9))
  obtain ⟨rfl, k⟩ := kk v9 h9 q9
  clear kk kx g1 g2 q9
  refine P_aload_n (pc := 5) dX9_hush_5 rfl ?_
  refine P_iload_n (pc := 6) dX9_hush_6 rfl ?_
  obtain ⟨⟨w9, e9⟩, d2, nc, ns, rc5, rs6, Qc, g1, rfl, rfl, g2, kk, kx⟩ := k
  refine P_callV (ci := 9) (k := 0) (id := l0) (q := (RX9, TX9, 18)) (As := [vI l2]) (st := []) (pc := 7) dX9_hush_7 mk_X9_needHeir l_X9_197 im_X9_needHeir se_X9_needHeir ini_X9 rfl g1 (Nat.le_of_ble_eq_true rfl) rfl rfl (by decide) e9 rfl g2 (fun v9 h9 q9 => ?_) (fun E h9 q9 => PX_out rfl (kx E h9 q9))
  obtain ⟨rfl, k⟩ := kk v9 h9 q9
  clear kk kx g1 g2 q9
  refine P_aload_n (pc := 10) dX9_hush_10 rfl ?_
  refine P_iload_n (pc := 11) dX9_hush_11 rfl ?_
  refine P_iload_n (pc := 12) dX9_hush_12 rfl ?_
  refine P_icmp_eq (tgt := 20) (pc := 13) dX9_hush_13 (by decide) (fun c => ?_) (fun c => ?_)
  · have k := k.1 c
    refine P_iconst (v := (0 : Int32)) (pc := 20) dX9_hush_20 (by decide) ?_
    obtain ⟨⟨w9, e9⟩, d2, nc, ns, rc8, rs9, Qc, g1, rfl, rfl, g2, kk, kx⟩ := k
    refine P_callV (ci := 9) (k := 0) (id := l0) (q := (RX9, TX9, 18)) (As := [vI (0 : Int32)]) (st := []) (pc := 21) dX9_hush_21 mk_X9_need l_X9_326 im_X9_need se_X9_need ini_X9 rfl g1 (Nat.le_of_ble_eq_true rfl) rfl rfl (by decide) e9 rfl g2 (fun v9 h9 q9 => ?_) (fun E h9 q9 => PX_out rfl (kx E h9 q9))
    obtain ⟨rfl, k⟩ := kk v9 h9 q9
    clear kk kx g1 g2 q9
    refine P_aload_n (pc := 24) dX9_hush_24 rfl ?_
    obtain ⟨o10, e9, k⟩ := k
    refine G9_8 (pc := 25) dX9_hush_25 l_X9_61 e9 ?_
    clear e9
    refine P_iload_n (pc := 28) dX9_hush_28 rfl ?_
    refine P_iload_n (pc := 29) dX9_hush_29 rfl ?_
    obtain ⟨⟨w9, e9⟩, d2, nc, ns, rc12, rs13, Qc, g1, rfl, rfl, g2, kk, kx⟩ := k
    refine P_callV (ci := 1) (k := 0) (id := o10) (q := (RX1, TX1, 11)) (As := [vI l1, vI l2]) (st := []) (pc := 30) dX9_hush_30 mk_X1_areTwo l_X9_330 im_X1_areTwo se_X1_areTwo ini_X1 rfl g1 (Nat.le_of_ble_eq_true rfl) rfl rfl (by decide) e9 rfl g2 (fun v9 h9 q9 => ?_) (fun E h9 q9 => PX_out rfl (kx E h9 q9))
    obtain ⟨x14, rfl, k⟩ := kk v9 h9 q9
    clear kk kx g1 g2 q9
    refine P_if_eq (tgt := 38) (pc := 33) dX9_hush_33 (by decide) (fun c => ?_) (fun c => ?_)
    · have k := k.1 c
      refine P_iconst (v := (1 : Int32)) (pc := 38) dX9_hush_38 (by decide) ?_
      refine P_iload_n (pc := 39) dX9_hush_39 rfl ?_
      refine P_ishl (pc := 40) dX9_hush_40 ?_
      refine P_iconst (v := (1 : Int32)) (pc := 41) dX9_hush_41 (by decide) ?_
      refine P_iload_n (pc := 42) dX9_hush_42 rfl ?_
      refine P_ishl (pc := 43) dX9_hush_43 ?_
      refine P_ior (pc := 44) dX9_hush_44 ?_
      refine P_istore_n (pc := 45) dX9_hush_45 (by decide) (Or.inr (by intro z e9; cases e9)) rfl ?_
      refine P_aload_n (pc := 46) dX9_hush_46 rfl ?_
      obtain ⟨o15, e9, k⟩ := k
      refine G9_8 (pc := 47) dX9_hush_47 l_X9_61 e9 ?_
      clear e9
      obtain ⟨⟨w9, e9⟩, d2, nc, ns, rc17, rs18, Qc, g1, rfl, rfl, g2, kk, kx⟩ := k
      refine P_callV (ci := 1) (k := 0) (id := o15) (q := (RX1, TX1, 11)) (As := []) (st := []) (pc := 50) dX9_hush_50 mk_X1_all l_X9_334 im_X1_all se_X1_all ini_X1 rfl g1 (Nat.le_of_ble_eq_true rfl) rfl rfl (by decide) e9 rfl g2 (fun v9 h9 q9 => ?_) (fun E h9 q9 => PX_out rfl (kx E h9 q9))
      obtain ⟨x19, rfl, k⟩ := kk v9 h9 q9
      clear kk kx g1 g2 q9
      refine P_iload_n (pc := 53) dX9_hush_53 rfl ?_
      refine P_iconst (v := (-1 : Int32)) (pc := 54) dX9_hush_54 (by decide) ?_
      refine P_ixor (pc := 55) dX9_hush_55 ?_
      refine P_iand (pc := 56) dX9_hush_56 ?_
      refine P_istore (pc := 57) dX9_hush_57 (by decide) (Or.inr (by intro z e9; cases e9)) rfl ?_
      refine P_iconst (v := (0 : Int32)) (pc := 59) dX9_hush_59 (by decide) ?_
      refine P_istore (pc := 60) dX9_hush_60 (by decide) (Or.inr (by intro z e9; cases e9)) rfl ?_
      exact k
    · have k := k.2 c
      refine P_iconst (v := (-1 : Int32)) (pc := 36) dX9_hush_36 (by decide) ?_
      exact R_ireturn (pc := 37) dX9_hush_37 rfl rfl k
  · have k := k.2 c
    refine P_iconst (v := (1 : Int32)) (pc := 16) dX9_hush_16 (by decide) ?_
    refine P_goto (tgt := 21) (pc := 17) dX9_hush_17 (by decide) ?_
    obtain ⟨⟨w9, e9⟩, d2, nc, ns, rc21, rs22, Qc, g1, rfl, rfl, g2, kk, kx⟩ := k
    refine P_callV (ci := 9) (k := 0) (id := l0) (q := (RX9, TX9, 18)) (As := [vI (1 : Int32)]) (st := []) (pc := 21) dX9_hush_21 mk_X9_need l_X9_326 im_X9_need se_X9_need ini_X9 rfl g1 (Nat.le_of_ble_eq_true rfl) rfl rfl (by decide) e9 rfl g2 (fun v9 h9 q9 => ?_) (fun E h9 q9 => PX_out rfl (kx E h9 q9))
    obtain ⟨rfl, k⟩ := kk v9 h9 q9
    clear kk kx g1 g2 q9
    refine P_aload_n (pc := 24) dX9_hush_24 rfl ?_
    obtain ⟨o23, e9, k⟩ := k
    refine G9_8 (pc := 25) dX9_hush_25 l_X9_61 e9 ?_
    clear e9
    refine P_iload_n (pc := 28) dX9_hush_28 rfl ?_
    refine P_iload_n (pc := 29) dX9_hush_29 rfl ?_
    obtain ⟨⟨w9, e9⟩, d2, nc, ns, rc25, rs26, Qc, g1, rfl, rfl, g2, kk, kx⟩ := k
    refine P_callV (ci := 1) (k := 0) (id := o23) (q := (RX1, TX1, 11)) (As := [vI l1, vI l2]) (st := []) (pc := 30) dX9_hush_30 mk_X1_areTwo l_X9_330 im_X1_areTwo se_X1_areTwo ini_X1 rfl g1 (Nat.le_of_ble_eq_true rfl) rfl rfl (by decide) e9 rfl g2 (fun v9 h9 q9 => ?_) (fun E h9 q9 => PX_out rfl (kx E h9 q9))
    obtain ⟨x27, rfl, k⟩ := kk v9 h9 q9
    clear kk kx g1 g2 q9
    refine P_if_eq (tgt := 38) (pc := 33) dX9_hush_33 (by decide) (fun c => ?_) (fun c => ?_)
    · have k := k.1 c
      refine P_iconst (v := (1 : Int32)) (pc := 38) dX9_hush_38 (by decide) ?_
      refine P_iload_n (pc := 39) dX9_hush_39 rfl ?_
      refine P_ishl (pc := 40) dX9_hush_40 ?_
      refine P_iconst (v := (1 : Int32)) (pc := 41) dX9_hush_41 (by decide) ?_
      refine P_iload_n (pc := 42) dX9_hush_42 rfl ?_
      refine P_ishl (pc := 43) dX9_hush_43 ?_
      refine P_ior (pc := 44) dX9_hush_44 ?_
      refine P_istore_n (pc := 45) dX9_hush_45 (by decide) (Or.inr (by intro z e9; cases e9)) rfl ?_
      refine P_aload_n (pc := 46) dX9_hush_46 rfl ?_
      obtain ⟨o28, e9, k⟩ := k
      refine G9_8 (pc := 47) dX9_hush_47 l_X9_61 e9 ?_
      clear e9
      obtain ⟨⟨w9, e9⟩, d2, nc, ns, rc30, rs31, Qc, g1, rfl, rfl, g2, kk, kx⟩ := k
      refine P_callV (ci := 1) (k := 0) (id := o28) (q := (RX1, TX1, 11)) (As := []) (st := []) (pc := 50) dX9_hush_50 mk_X1_all l_X9_334 im_X1_all se_X1_all ini_X1 rfl g1 (Nat.le_of_ble_eq_true rfl) rfl rfl (by decide) e9 rfl g2 (fun v9 h9 q9 => ?_) (fun E h9 q9 => PX_out rfl (kx E h9 q9))
      obtain ⟨x32, rfl, k⟩ := kk v9 h9 q9
      clear kk kx g1 g2 q9
      refine P_iload_n (pc := 53) dX9_hush_53 rfl ?_
      refine P_iconst (v := (-1 : Int32)) (pc := 54) dX9_hush_54 (by decide) ?_
      refine P_ixor (pc := 55) dX9_hush_55 ?_
      refine P_iand (pc := 56) dX9_hush_56 ?_
      refine P_istore (pc := 57) dX9_hush_57 (by decide) (Or.inr (by intro z e9; cases e9)) rfl ?_
      refine P_iconst (v := (0 : Int32)) (pc := 59) dX9_hush_59 (by decide) ?_
      refine P_istore (pc := 60) dX9_hush_60 (by decide) (Or.inr (by intro z e9; cases e9)) rfl ?_
      exact k
    · have k := k.2 c
      refine P_iconst (v := (-1 : Int32)) (pc := 36) dX9_hush_36 (by decide) ?_
      exact R_ireturn (pc := 37) dX9_hush_37 rfl rfl k
theorem r_X9_hush_62 {d rc rs : Nat} {Q : PO → PH → Prop} {h : PH} {l0 : Nat} {l1 : Int32} {l2 : Int32} {l3 : Int32} {l4 : Int32} {l5 : Int32}
    (k : gO h (10908, l0) 100 fun o1 => isO h 10100 o1 ∧ cl d rc rs M_X1_all [vR (100, o1)] h (kI fun x5 h2 rc3 rs4 => br (x5 < l5) (Q (.inl (some (vI l4))) h2) (br ((l5 &&& l3) = 0) (cl d rc3 rs4 M_J6_bitCount_0f7a4 [vI l5] h2 (kI fun x9 h6 rc7 rs8 => cl d rc7 rs8 M_J6_bitCount_0f7a4 [vI l4] h6 (kI fun x13 h10 rc11 rs12 => br (x9 < x13) (gO h10 (10908, l0) 100 fun o14 => isO h10 10100 o14 ∧ cl d rc11 rs12 M_X1_reached [vR (100, o14), vI l1, vI l5] h10 (kI fun x18 h15 rc16 rs17 => br ((x18 &&& ((1 : Int32) <<< (l2 &&& 31))) = 0) (PW d M_X9_hush Q rc16 rs17 62 [vR (900, l0), vI l1, vI l2, vI l3, vI l5, vI (l5 + (1 : Int32))] [] h15) (PW d M_X9_hush Q rc16 rs17 62 [vR (900, l0), vI l1, vI l2, vI l3, vI l4, vI (l5 + (1 : Int32))] [] h15)) (fun E h15 rc16 rs17 => Q (.inr E) h15)) (PW d M_X9_hush Q rc11 rs12 62 [vR (900, l0), vI l1, vI l2, vI l3, vI l4, vI (l5 + (1 : Int32))] [] h10)) (fun E h10 rc11 rs12 => Q (.inr E) h10)) (fun E h6 rc7 rs8 => Q (.inr E) h6)) (PW d M_X9_hush Q rc3 rs4 62 [vR (900, l0), vI l1, vI l2, vI l3, vI l4, vI (l5 + (1 : Int32))] [] h2))) (fun E h2 rc3 rs4 => Q (.inr E) h2)) :
    PW d M_X9_hush Q rc rs 62 [vR (900, l0), vI l1, vI l2, vI l3, vI l4, vI l5] [] h := by
  refine P_iload (pc := 62) dX9_hush_62 rfl ?_
  refine P_aload_n (pc := 64) dX9_hush_64 rfl ?_
  obtain ⟨o1, e9, k⟩ := k
  refine G9_8 (pc := 65) dX9_hush_65 l_X9_61 e9 ?_
  clear e9
  obtain ⟨⟨w9, e9⟩, d2, nc, ns, rc3, rs4, Qc, g1, rfl, rfl, g2, kk, kx⟩ := k
  refine P_callV (ci := 1) (k := 0) (id := o1) (q := (RX1, TX1, 11)) (As := []) (st := [vI l5]) (pc := 68) dX9_hush_68 mk_X1_all l_X9_334 im_X1_all se_X1_all ini_X1 rfl g1 (Nat.le_of_ble_eq_true rfl) rfl rfl (by decide) e9 rfl g2 (fun v9 h9 q9 => ?_) (fun E h9 q9 => PX_out rfl (kx E h9 q9))
  obtain ⟨x5, rfl, k⟩ := kk v9 h9 q9
  clear kk kx g1 g2 q9
  refine P_icmp_gt (tgt := 121) (pc := 71) dX9_hush_71 (by decide) (fun c => ?_) (fun c => ?_)
  · have k := k.1 c
    refine P_iload (pc := 121) dX9_hush_121 rfl ?_
    exact R_ireturn (pc := 123) dX9_hush_123 rfl rfl k
  · have k := k.2 c
    refine P_iload (pc := 74) dX9_hush_74 rfl ?_
    refine P_iload_n (pc := 76) dX9_hush_76 rfl ?_
    refine P_iand (pc := 77) dX9_hush_77 ?_
    refine P_if_ne (tgt := 115) (pc := 78) dX9_hush_78 (by decide) (fun c => ?_) (fun c => ?_)
    · have k := k.2 c
      refine P_iinc (v := l5 + (1 : Int32)) (pc := 115) dX9_hush_115 (by decide) rfl rfl (Or.inr (by intro z e9; cases e9)) rfl ?_
      refine P_goto (tgt := 62) (pc := 118) dX9_hush_118 (by decide) ?_
      exact k
    · have k := k.1 c
      refine P_iload (pc := 81) dX9_hush_81 rfl ?_
      obtain ⟨d2, nc, ns, rc7, rs8, Qc, g1, rfl, rfl, g2, kk, kx⟩ := k
      refine P_callS (As := [vI l5]) (st := []) (pc := 83) dX9_hush_83 mk_J6_bitCount_0f7a4 l_X9_337 st_J6_bitCount_0f7a4 ini_J6 rfl g1 (Nat.le_of_ble_eq_true rfl) rfl g2 (fun v9 h9 q9 => ?_) (fun E h9 q9 => PX_out rfl (kx E h9 q9))
      obtain ⟨x9, rfl, k⟩ := kk v9 h9 q9
      clear kk kx g1 g2 q9
      refine P_iload (pc := 86) dX9_hush_86 rfl ?_
      obtain ⟨d2, nc, ns, rc11, rs12, Qc, g1, rfl, rfl, g2, kk, kx⟩ := k
      refine P_callS (As := [vI l4]) (st := [vI x9]) (pc := 88) dX9_hush_88 mk_J6_bitCount_0f7a4 l_X9_337 st_J6_bitCount_0f7a4 ini_J6 rfl g1 (Nat.le_of_ble_eq_true rfl) rfl g2 (fun v9 h9 q9 => ?_) (fun E h9 q9 => PX_out rfl (kx E h9 q9))
      obtain ⟨x13, rfl, k⟩ := kk v9 h9 q9
      clear kk kx g1 g2 q9
      refine P_icmp_ge (tgt := 115) (pc := 91) dX9_hush_91 (by decide) (fun c => ?_) (fun c => ?_)
      · have k := k.2 (Int32.not_lt.mpr c)
        refine P_iinc (v := l5 + (1 : Int32)) (pc := 115) dX9_hush_115 (by decide) rfl rfl (Or.inr (by intro z e9; cases e9)) rfl ?_
        refine P_goto (tgt := 62) (pc := 118) dX9_hush_118 (by decide) ?_
        exact k
      · have k := k.1 (Int32.not_le.mp c)
        refine P_aload_n (pc := 94) dX9_hush_94 rfl ?_
        obtain ⟨o14, e9, k⟩ := k
        refine G9_8 (pc := 95) dX9_hush_95 l_X9_61 e9 ?_
        clear e9
        refine P_iload_n (pc := 98) dX9_hush_98 rfl ?_
        refine P_iload (pc := 99) dX9_hush_99 rfl ?_
        obtain ⟨⟨w9, e9⟩, d2, nc, ns, rc16, rs17, Qc, g1, rfl, rfl, g2, kk, kx⟩ := k
        refine P_callV (ci := 1) (k := 0) (id := o14) (q := (RX1, TX1, 11)) (As := [vI l1, vI l5]) (st := []) (pc := 101) dX9_hush_101 mk_X1_reached l_X9_342 im_X1_reached se_X1_reached ini_X1 rfl g1 (Nat.le_of_ble_eq_true rfl) rfl rfl (by decide) e9 rfl g2 (fun v9 h9 q9 => ?_) (fun E h9 q9 => PX_out rfl (kx E h9 q9))
        obtain ⟨x18, rfl, k⟩ := kk v9 h9 q9
        clear kk kx g1 g2 q9
        refine P_iconst (v := (1 : Int32)) (pc := 104) dX9_hush_104 (by decide) ?_
        refine P_iload_n (pc := 105) dX9_hush_105 rfl ?_
        refine P_ishl (pc := 106) dX9_hush_106 ?_
        refine P_iand (pc := 107) dX9_hush_107 ?_
        refine P_if_ne (tgt := 115) (pc := 108) dX9_hush_108 (by decide) (fun c => ?_) (fun c => ?_)
        · have k := k.2 c
          refine P_iinc (v := l5 + (1 : Int32)) (pc := 115) dX9_hush_115 (by decide) rfl rfl (Or.inr (by intro z e9; cases e9)) rfl ?_
          refine P_goto (tgt := 62) (pc := 118) dX9_hush_118 (by decide) ?_
          exact k
        · have k := k.1 c
          refine P_iload (pc := 111) dX9_hush_111 rfl ?_
          refine P_istore (pc := 113) dX9_hush_113 (by decide) (Or.inr (by intro z e9; cases e9)) rfl ?_
          refine P_iinc (v := l5 + (1 : Int32)) (pc := 115) dX9_hush_115 (by decide) rfl rfl (Or.inr (by intro z e9; cases e9)) rfl ?_
          refine P_goto (tgt := 62) (pc := 118) dX9_hush_118 (by decide) ?_
          exact k
-- X9_still still()I
theorem dX9_still_0 : decode cX9_still 0 = .ok (.iconst 0, 1) := by decide +kernel
theorem dX9_still_1 : decode cX9_still 1 = .ok (.istore_n 1, 1) := by decide +kernel
theorem dX9_still_2 : decode cX9_still 2 = .ok (.iconst 0, 1) := by decide +kernel
theorem dX9_still_3 : decode cX9_still 3 = .ok (.istore_n 2, 1) := by decide +kernel
theorem dX9_still_4 : decode cX9_still 4 = .ok (.iload_n 2, 1) := by decide +kernel
theorem dX9_still_5 : decode cX9_still 5 = .ok (.aload_n 0, 1) := by decide +kernel
theorem dX9_still_6 : decode cX9_still 6 = .ok (.getfield 61, 3) := by decide +kernel
theorem dX9_still_9 : decode cX9_still 9 = .ok (.invokevirtual 334, 3) := by decide +kernel
theorem dX9_still_12 : decode cX9_still 12 = .ok (.if_icmp .gt 33, 3) := by decide +kernel
theorem dX9_still_15 : decode cX9_still 15 = .ok (.iload_n 2, 1) := by decide +kernel
theorem dX9_still_16 : decode cX9_still 16 = .ok (.invokestatic 337, 3) := by decide +kernel
theorem dX9_still_19 : decode cX9_still 19 = .ok (.iload_n 1, 1) := by decide +kernel
theorem dX9_still_20 : decode cX9_still 20 = .ok (.invokestatic 337, 3) := by decide +kernel
theorem dX9_still_23 : decode cX9_still 23 = .ok (.if_icmp .le 16, 3) := by decide +kernel
theorem dX9_still_26 : decode cX9_still 26 = .ok (.aload_n 0, 1) := by decide +kernel
theorem dX9_still_27 : decode cX9_still 27 = .ok (.getfield 61, 3) := by decide +kernel
theorem dX9_still_30 : decode cX9_still 30 = .ok (.iload_n 2, 1) := by decide +kernel
theorem dX9_still_31 : decode cX9_still 31 = .ok (.invokevirtual 345, 3) := by decide +kernel
theorem dX9_still_34 : decode cX9_still 34 = .ok (.ifCond .eq 5, 3) := by decide +kernel
theorem dX9_still_37 : decode cX9_still 37 = .ok (.iload_n 2, 1) := by decide +kernel
theorem dX9_still_38 : decode cX9_still 38 = .ok (.istore_n 1, 1) := by decide +kernel
theorem dX9_still_39 : decode cX9_still 39 = .ok (.iinc 2 1, 3) := by decide +kernel
theorem dX9_still_42 : decode cX9_still 42 = .ok (.goto (-38), 3) := by decide +kernel
theorem dX9_still_45 : decode cX9_still 45 = .ok (.iload_n 1, 1) := by decide +kernel
theorem dX9_still_46 : decode cX9_still 46 = .ok (.ireturn, 1) := by decide +kernel
theorem r_X9_still_0 {d rc rs : Nat} {Q : PO → PH → Prop} {h : PH} {l0 : Nat}
    (k : PW d M_X9_still Q rc rs 4 [vR (900, l0), vI (0 : Int32), vI (0 : Int32)] [] h) :
    PW d M_X9_still Q rc rs 0 [vR (900, l0), vU, vU] [] h := by
  refine P_iconst (v := (0 : Int32)) (pc := 0) dX9_still_0 (by decide) ?_
  refine P_istore_n (pc := 1) dX9_still_1 (by decide) (Or.inr (by intro z e9; cases e9)) rfl ?_
  refine P_iconst (v := (0 : Int32)) (pc := 2) dX9_still_2 (by decide) ?_
  refine P_istore_n (pc := 3) dX9_still_3 (by decide) (Or.inr (by intro z e9; cases e9)) rfl ?_
  exact k
theorem r_X9_still_4 {d rc rs : Nat} {Q : PO → PH → Prop} {h : PH} {l0 : Nat} {l1 : Int32} {l2 : Int32}
    (k : gO h (10908, l0) 100 fun o1 => isO h 10100 o1 ∧ cl d rc rs M_X1_all [vR (100, o1)] h (kI fun x5 h2 rc3 rs4 => br (x5 < l2) (Q (.inl (some (vI l1))) h2) (cl d rc3 rs4 M_J6_bitCount_0f7a4 [vI l2] h2 (kI fun x9 h6 rc7 rs8 => cl d rc7 rs8 M_J6_bitCount_0f7a4 [vI l1] h6 (kI fun x13 h10 rc11 rs12 => br (x13 < x9) (gO h10 (10908, l0) 100 fun o14 => isO h10 10100 o14 ∧ cl d rc11 rs12 M_X1_isStill [vR (100, o14), vI l2] h10 (kI fun x18 h15 rc16 rs17 => br (x18 = 0) (PW d M_X9_still Q rc16 rs17 4 [vR (900, l0), vI l1, vI (l2 + (1 : Int32))] [] h15) (PW d M_X9_still Q rc16 rs17 4 [vR (900, l0), vI l2, vI (l2 + (1 : Int32))] [] h15)) (fun E h15 rc16 rs17 => Q (.inr E) h15)) (PW d M_X9_still Q rc11 rs12 4 [vR (900, l0), vI l1, vI (l2 + (1 : Int32))] [] h10)) (fun E h10 rc11 rs12 => Q (.inr E) h10)) (fun E h6 rc7 rs8 => Q (.inr E) h6))) (fun E h2 rc3 rs4 => Q (.inr E) h2)) :
    PW d M_X9_still Q rc rs 4 [vR (900, l0), vI l1, vI l2] [] h := by
  refine P_iload_n (pc := 4) dX9_still_4 rfl ?_
  refine P_aload_n (pc := 5) dX9_still_5 rfl ?_
  obtain ⟨o1, e9, k⟩ := k
  refine G9_8 (pc := 6) dX9_still_6 l_X9_61 e9 ?_
  clear e9
  obtain ⟨⟨w9, e9⟩, d2, nc, ns, rc3, rs4, Qc, g1, rfl, rfl, g2, kk, kx⟩ := k
  refine P_callV (ci := 1) (k := 0) (id := o1) (q := (RX1, TX1, 11)) (As := []) (st := [vI l2]) (pc := 9) dX9_still_9 mk_X1_all l_X9_334 im_X1_all se_X1_all ini_X1 rfl g1 (Nat.le_of_ble_eq_true rfl) rfl rfl (by decide) e9 rfl g2 (fun v9 h9 q9 => ?_) (fun E h9 q9 => PX_out rfl (kx E h9 q9))
  obtain ⟨x5, rfl, k⟩ := kk v9 h9 q9
  clear kk kx g1 g2 q9
  refine P_icmp_gt (tgt := 45) (pc := 12) dX9_still_12 (by decide) (fun c => ?_) (fun c => ?_)
  · have k := k.1 c
    refine P_iload_n (pc := 45) dX9_still_45 rfl ?_
    exact R_ireturn (pc := 46) dX9_still_46 rfl rfl k
  · have k := k.2 c
    refine P_iload_n (pc := 15) dX9_still_15 rfl ?_
    obtain ⟨d2, nc, ns, rc7, rs8, Qc, g1, rfl, rfl, g2, kk, kx⟩ := k
    refine P_callS (As := [vI l2]) (st := []) (pc := 16) dX9_still_16 mk_J6_bitCount_0f7a4 l_X9_337 st_J6_bitCount_0f7a4 ini_J6 rfl g1 (Nat.le_of_ble_eq_true rfl) rfl g2 (fun v9 h9 q9 => ?_) (fun E h9 q9 => PX_out rfl (kx E h9 q9))
    obtain ⟨x9, rfl, k⟩ := kk v9 h9 q9
    clear kk kx g1 g2 q9
    refine P_iload_n (pc := 19) dX9_still_19 rfl ?_
    obtain ⟨d2, nc, ns, rc11, rs12, Qc, g1, rfl, rfl, g2, kk, kx⟩ := k
    refine P_callS (As := [vI l1]) (st := [vI x9]) (pc := 20) dX9_still_20 mk_J6_bitCount_0f7a4 l_X9_337 st_J6_bitCount_0f7a4 ini_J6 rfl g1 (Nat.le_of_ble_eq_true rfl) rfl g2 (fun v9 h9 q9 => ?_) (fun E h9 q9 => PX_out rfl (kx E h9 q9))
    obtain ⟨x13, rfl, k⟩ := kk v9 h9 q9
    clear kk kx g1 g2 q9
    refine P_icmp_le (tgt := 39) (pc := 23) dX9_still_23 (by decide) (fun c => ?_) (fun c => ?_)
    · have k := k.2 (Int32.not_lt.mpr c)
      refine P_iinc (v := l2 + (1 : Int32)) (pc := 39) dX9_still_39 (by decide) rfl rfl (Or.inr (by intro z e9; cases e9)) rfl ?_
      refine P_goto (tgt := 4) (pc := 42) dX9_still_42 (by decide) ?_
      exact k
    · have k := k.1 (Int32.not_le.mp c)
      refine P_aload_n (pc := 26) dX9_still_26 rfl ?_
      obtain ⟨o14, e9, k⟩ := k
      refine G9_8 (pc := 27) dX9_still_27 l_X9_61 e9 ?_
      clear e9
      refine P_iload_n (pc := 30) dX9_still_30 rfl ?_
      obtain ⟨⟨w9, e9⟩, d2, nc, ns, rc16, rs17, Qc, g1, rfl, rfl, g2, kk, kx⟩ := k
      refine P_callV (ci := 1) (k := 0) (id := o14) (q := (RX1, TX1, 11)) (As := [vI l2]) (st := []) (pc := 31) dX9_still_31 mk_X1_isStill l_X9_345 im_X1_isStill se_X1_isStill ini_X1 rfl g1 (Nat.le_of_ble_eq_true rfl) rfl rfl (by decide) e9 rfl g2 (fun v9 h9 q9 => ?_) (fun E h9 q9 => PX_out rfl (kx E h9 q9))
      obtain ⟨x18, rfl, k⟩ := kk v9 h9 q9
      clear kk kx g1 g2 q9
      refine P_if_eq (tgt := 39) (pc := 34) dX9_still_34 (by decide) (fun c => ?_) (fun c => ?_)
      · have k := k.1 c
        refine P_iinc (v := l2 + (1 : Int32)) (pc := 39) dX9_still_39 (by decide) rfl rfl (Or.inr (by intro z e9; cases e9)) rfl ?_
        refine P_goto (tgt := 4) (pc := 42) dX9_still_42 (by decide) ?_
        exact k
      · have k := k.2 c
        refine P_iload_n (pc := 37) dX9_still_37 rfl ?_
        refine P_istore_n (pc := 38) dX9_still_38 (by decide) (Or.inr (by intro z e9; cases e9)) rfl ?_
        refine P_iinc (v := l2 + (1 : Int32)) (pc := 39) dX9_still_39 (by decide) rfl rfl (Or.inr (by intro z e9; cases e9)) rfl ?_
        refine P_goto (tgt := 4) (pc := 42) dX9_still_42 (by decide) ?_
        exact k
-- X9_seats seats()I
theorem dX9_seats_0 : decode cX9_seats 0 = .ok (.aload_n 0, 1) := by decide +kernel
theorem dX9_seats_1 : decode cX9_seats 1 = .ok (.getfield 47, 3) := by decide +kernel
theorem dX9_seats_4 : decode cX9_seats 4 = .ok (.aload_n 0, 1) := by decide +kernel
theorem dX9_seats_5 : decode cX9_seats 5 = .ok (.getfield 61, 3) := by decide +kernel
theorem dX9_seats_8 : decode cX9_seats 8 = .ok (.invokevirtual 349, 3) := by decide +kernel
theorem dX9_seats_11 : decode cX9_seats 11 = .ok (.aload_n 0, 1) := by decide +kernel
theorem dX9_seats_12 : decode cX9_seats 12 = .ok (.getfield 47, 3) := by decide +kernel
theorem dX9_seats_15 : decode cX9_seats 15 = .ok (.invokevirtual 352, 3) := by decide +kernel
theorem dX9_seats_18 : decode cX9_seats 18 = .ok (.ireturn, 1) := by decide +kernel
theorem r_X9_seats_0 {d rc rs : Nat} {Q : PO → PH → Prop} {h : PH} {l0 : Nat}
    (k : gO h (10906, l0) 600 fun o1 => gO h (10908, l0) 100 fun o2 => isO h 10600 o1 ∧ cl d rc rs M_X6_find [vR (600, o1), vR (100, o2)] h (kV fun h3 rc4 rs5 => gO h3 (10906, l0) 600 fun o6 => isO h3 10600 o6 ∧ cl d rc4 rs5 M_X6_inAll [vR (600, o6)] h3 (kI fun x10 h7 rc8 rs9 => Q (.inl (some (vI x10))) h7) (fun E h7 rc8 rs9 => Q (.inr E) h7)) (fun E h3 rc4 rs5 => Q (.inr E) h3)) :
    PW d M_X9_seats Q rc rs 0 [vR (900, l0)] [] h := by
  refine P_aload_n (pc := 0) dX9_seats_0 rfl ?_
  obtain ⟨o1, e9, k⟩ := k
  refine G9_6 (pc := 1) dX9_seats_1 l_X9_47 e9 ?_
  clear e9
  refine P_aload_n (pc := 4) dX9_seats_4 rfl ?_
  obtain ⟨o2, e9, k⟩ := k
  refine G9_8 (pc := 5) dX9_seats_5 l_X9_61 e9 ?_
  clear e9
  obtain ⟨⟨w9, e9⟩, d2, nc, ns, rc4, rs5, Qc, g1, rfl, rfl, g2, kk, kx⟩ := k
  refine P_callV (ci := 6) (k := 0) (id := o1) (q := (RX6, TX6, 1)) (As := [vR (100, o2)]) (st := []) (pc := 8) dX9_seats_8 mk_X6_find l_X9_349 im_X6_find se_X6_find ini_X6 rfl g1 (Nat.le_of_ble_eq_true rfl) rfl rfl (by decide) e9 rfl g2 (fun v9 h9 q9 => ?_) (fun E h9 q9 => PX_out rfl (kx E h9 q9))
  obtain ⟨rfl, k⟩ := kk v9 h9 q9
  clear kk kx g1 g2 q9
  refine P_aload_n (pc := 11) dX9_seats_11 rfl ?_
  obtain ⟨o6, e9, k⟩ := k
  refine G9_6 (pc := 12) dX9_seats_12 l_X9_47 e9 ?_
  clear e9
  obtain ⟨⟨w9, e9⟩, d2, nc, ns, rc8, rs9, Qc, g1, rfl, rfl, g2, kk, kx⟩ := k
  refine P_callV (ci := 6) (k := 0) (id := o6) (q := (RX6, TX6, 1)) (As := []) (st := []) (pc := 15) dX9_seats_15 mk_X6_inAll l_X9_352 im_X6_inAll se_X6_inAll ini_X6 rfl g1 (Nat.le_of_ble_eq_true rfl) rfl rfl (by decide) e9 rfl g2 (fun v9 h9 q9 => ?_) (fun E h9 q9 => PX_out rfl (kx E h9 q9))
  obtain ⟨x10, rfl, k⟩ := kk v9 h9 q9
  clear kk kx g1 g2 q9
  exact R_ireturn (pc := 18) dX9_seats_18 rfl rfl k
-- X9_seat seat(I)I
theorem dX9_seat_0 : decode cX9_seat 0 = .ok (.aload_n 0, 1) := by decide +kernel
theorem dX9_seat_1 : decode cX9_seat 1 = .ok (.iload_n 1, 1) := by decide +kernel
theorem dX9_seat_2 : decode cX9_seat 2 = .ok (.ifCond .lt 7, 3) := by decide +kernel
theorem dX9_seat_5 : decode cX9_seat 5 = .ok (.iconst 1, 1) := by decide +kernel
theorem dX9_seat_6 : decode cX9_seat 6 = .ok (.goto 4, 3) := by decide +kernel
theorem dX9_seat_9 : decode cX9_seat 9 = .ok (.iconst 0, 1) := by decide +kernel
theorem dX9_seat_10 : decode cX9_seat 10 = .ok (.invokevirtual 326, 3) := by decide +kernel
theorem dX9_seat_13 : decode cX9_seat 13 = .ok (.aload_n 0, 1) := by decide +kernel
theorem dX9_seat_14 : decode cX9_seat 14 = .ok (.getfield 47, 3) := by decide +kernel
theorem dX9_seat_17 : decode cX9_seat 17 = .ok (.aload_n 0, 1) := by decide +kernel
theorem dX9_seat_18 : decode cX9_seat 18 = .ok (.getfield 61, 3) := by decide +kernel
theorem dX9_seat_21 : decode cX9_seat 21 = .ok (.invokevirtual 349, 3) := by decide +kernel
theorem dX9_seat_24 : decode cX9_seat 24 = .ok (.aload_n 0, 1) := by decide +kernel
theorem dX9_seat_25 : decode cX9_seat 25 = .ok (.getfield 47, 3) := by decide +kernel
theorem dX9_seat_28 : decode cX9_seat 28 = .ok (.iload_n 1, 1) := by decide +kernel
theorem dX9_seat_29 : decode cX9_seat 29 = .ok (.aload_n 0, 1) := by decide +kernel
theorem dX9_seat_30 : decode cX9_seat 30 = .ok (.getfield 61, 3) := by decide +kernel
theorem dX9_seat_33 : decode cX9_seat 33 = .ok (.invokevirtual 355, 3) := by decide +kernel
theorem dX9_seat_36 : decode cX9_seat 36 = .ok (.ireturn, 1) := by decide +kernel
theorem r_X9_seat_0 {d rc rs : Nat} {Q : PO → PH → Prop} {h : PH} {l0 : Nat} {l1 : Int32}
    (k : br (l1 < 0) (isO h 10900 l0 ∧ cl d rc rs M_X9_need [vR (900, l0), vI (0 : Int32)] h (kV fun h1 rc2 rs3 => gO h1 (10906, l0) 600 fun o4 => gO h1 (10908, l0) 100 fun o5 => isO h1 10600 o4 ∧ cl d rc2 rs3 M_X6_find [vR (600, o4), vR (100, o5)] h1 (kV fun h6 rc7 rs8 => gO h6 (10906, l0) 600 fun o9 => gO h6 (10908, l0) 100 fun o10 => isO h6 10600 o9 ∧ cl d rc7 rs8 M_X6_firstOn [vR (600, o9), vI l1, vR (100, o10)] h6 (kI fun x14 h11 rc12 rs13 => Q (.inl (some (vI x14))) h11) (fun E h11 rc12 rs13 => Q (.inr E) h11)) (fun E h6 rc7 rs8 => Q (.inr E) h6)) (fun E h1 rc2 rs3 => Q (.inr E) h1)) (isO h 10900 l0 ∧ cl d rc rs M_X9_need [vR (900, l0), vI (1 : Int32)] h (kV fun h15 rc16 rs17 => gO h15 (10906, l0) 600 fun o18 => gO h15 (10908, l0) 100 fun o19 => isO h15 10600 o18 ∧ cl d rc16 rs17 M_X6_find [vR (600, o18), vR (100, o19)] h15 (kV fun h20 rc21 rs22 => gO h20 (10906, l0) 600 fun o23 => gO h20 (10908, l0) 100 fun o24 => isO h20 10600 o23 ∧ cl d rc21 rs22 M_X6_firstOn [vR (600, o23), vI l1, vR (100, o24)] h20 (kI fun x28 h25 rc26 rs27 => Q (.inl (some (vI x28))) h25) (fun E h25 rc26 rs27 => Q (.inr E) h25)) (fun E h20 rc21 rs22 => Q (.inr E) h20)) (fun E h15 rc16 rs17 => Q (.inr E) h15))) :
    PW d M_X9_seat Q rc rs 0 [vR (900, l0), vI l1] [] h := by
  refine P_aload_n (pc := 0) dX9_seat_0 rfl ?_
  refine P_iload_n (pc := 1) dX9_seat_1 rfl ?_
  refine P_if_lt (tgt := 9) (pc := 2) dX9_seat_2 (by decide) (fun c => ?_) (fun c => ?_)
  · have k := k.1 c
    refine P_iconst (v := (0 : Int32)) (pc := 9) dX9_seat_9 (by decide) ?_
    obtain ⟨⟨w9, e9⟩, d2, nc, ns, rc2, rs3, Qc, g1, rfl, rfl, g2, kk, kx⟩ := k
    refine P_callV (ci := 9) (k := 0) (id := l0) (q := (RX9, TX9, 18)) (As := [vI (0 : Int32)]) (st := []) (pc := 10) dX9_seat_10 mk_X9_need l_X9_326 im_X9_need se_X9_need ini_X9 rfl g1 (Nat.le_of_ble_eq_true rfl) rfl rfl (by decide) e9 rfl g2 (fun v9 h9 q9 => ?_) (fun E h9 q9 => PX_out rfl (kx E h9 q9))
    obtain ⟨rfl, k⟩ := kk v9 h9 q9
    clear kk kx g1 g2 q9
    refine P_aload_n (pc := 13) dX9_seat_13 rfl ?_
    obtain ⟨o4, e9, k⟩ := k
    refine G9_6 (pc := 14) dX9_seat_14 l_X9_47 e9 ?_
    clear e9
    refine P_aload_n (pc := 17) dX9_seat_17 rfl ?_
    obtain ⟨o5, e9, k⟩ := k
    refine G9_8 (pc := 18) dX9_seat_18 l_X9_61 e9 ?_
    clear e9
    obtain ⟨⟨w9, e9⟩, d2, nc, ns, rc7, rs8, Qc, g1, rfl, rfl, g2, kk, kx⟩ := k
    refine P_callV (ci := 6) (k := 0) (id := o4) (q := (RX6, TX6, 1)) (As := [vR (100, o5)]) (st := []) (pc := 21) dX9_seat_21 mk_X6_find l_X9_349 im_X6_find se_X6_find ini_X6 rfl g1 (Nat.le_of_ble_eq_true rfl) rfl rfl (by decide) e9 rfl g2 (fun v9 h9 q9 => ?_) (fun E h9 q9 => PX_out rfl (kx E h9 q9))
    obtain ⟨rfl, k⟩ := kk v9 h9 q9
    clear kk kx g1 g2 q9
    refine P_aload_n (pc := 24) dX9_seat_24 rfl ?_
    obtain ⟨o9, e9, k⟩ := k
    refine G9_6 (pc := 25) dX9_seat_25 l_X9_47 e9 ?_
    clear e9
    refine P_iload_n (pc := 28) dX9_seat_28 rfl ?_
    refine P_aload_n (pc := 29) dX9_seat_29 rfl ?_
    obtain ⟨o10, e9, k⟩ := k
    refine G9_8 (pc := 30) dX9_seat_30 l_X9_61 e9 ?_
    clear e9
    obtain ⟨⟨w9, e9⟩, d2, nc, ns, rc12, rs13, Qc, g1, rfl, rfl, g2, kk, kx⟩ := k
    refine P_callV (ci := 6) (k := 0) (id := o9) (q := (RX6, TX6, 1)) (As := [vI l1, vR (100, o10)]) (st := []) (pc := 33) dX9_seat_33 mk_X6_firstOn l_X9_355 im_X6_firstOn se_X6_firstOn ini_X6 rfl g1 (Nat.le_of_ble_eq_true rfl) rfl rfl (by decide) e9 rfl g2 (fun v9 h9 q9 => ?_) (fun E h9 q9 => PX_out rfl (kx E h9 q9))
    obtain ⟨x14, rfl, k⟩ := kk v9 h9 q9
    clear kk kx g1 g2 q9
    exact R_ireturn (pc := 36) dX9_seat_36 rfl rfl k
  · have k := k.2 c
    refine P_iconst (v := (1 : Int32)) (pc := 5) dX9_seat_5 (by decide) ?_
    refine P_goto (tgt := 10) (pc := 6) dX9_seat_6 (by decide) ?_
    obtain ⟨⟨w9, e9⟩, d2, nc, ns, rc16, rs17, Qc, g1, rfl, rfl, g2, kk, kx⟩ := k
    refine P_callV (ci := 9) (k := 0) (id := l0) (q := (RX9, TX9, 18)) (As := [vI (1 : Int32)]) (st := []) (pc := 10) dX9_seat_10 mk_X9_need l_X9_326 im_X9_need se_X9_need ini_X9 rfl g1 (Nat.le_of_ble_eq_true rfl) rfl rfl (by decide) e9 rfl g2 (fun v9 h9 q9 => ?_) (fun E h9 q9 => PX_out rfl (kx E h9 q9))
    obtain ⟨rfl, k⟩ := kk v9 h9 q9
    clear kk kx g1 g2 q9
    refine P_aload_n (pc := 13) dX9_seat_13 rfl ?_
    obtain ⟨o18, e9, k⟩ := k
    refine G9_6 (pc := 14) dX9_seat_14 l_X9_47 e9 ?_
    clear e9
    refine P_aload_n (pc := 17) dX9_seat_17 rfl ?_
    obtain ⟨o19, e9, k⟩ := k
    refine G9_8 (pc := 18) dX9_seat_18 l_X9_61 e9 ?_
    clear e9
    obtain ⟨⟨w9, e9⟩, d2, nc, ns, rc21, rs22, Qc, g1, rfl, rfl, g2, kk, kx⟩ := k
    refine P_callV (ci := 6) (k := 0) (id := o18) (q := (RX6, TX6, 1)) (As := [vR (100, o19)]) (st := []) (pc := 21) dX9_seat_21 mk_X6_find l_X9_349 im_X6_find se_X6_find ini_X6 rfl g1 (Nat.le_of_ble_eq_true rfl) rfl rfl (by decide) e9 rfl g2 (fun v9 h9 q9 => ?_) (fun E h9 q9 => PX_out rfl (kx E h9 q9))
    obtain ⟨rfl, k⟩ := kk v9 h9 q9
    clear kk kx g1 g2 q9
    refine P_aload_n (pc := 24) dX9_seat_24 rfl ?_
    obtain ⟨o23, e9, k⟩ := k
    refine G9_6 (pc := 25) dX9_seat_25 l_X9_47 e9 ?_
    clear e9
    refine P_iload_n (pc := 28) dX9_seat_28 rfl ?_
    refine P_aload_n (pc := 29) dX9_seat_29 rfl ?_
    obtain ⟨o24, e9, k⟩ := k
    refine G9_8 (pc := 30) dX9_seat_30 l_X9_61 e9 ?_
    clear e9
    obtain ⟨⟨w9, e9⟩, d2, nc, ns, rc26, rs27, Qc, g1, rfl, rfl, g2, kk, kx⟩ := k
    refine P_callV (ci := 6) (k := 0) (id := o23) (q := (RX6, TX6, 1)) (As := [vI l1, vR (100, o24)]) (st := []) (pc := 33) dX9_seat_33 mk_X6_firstOn l_X9_355 im_X6_firstOn se_X6_firstOn ini_X6 rfl g1 (Nat.le_of_ble_eq_true rfl) rfl rfl (by decide) e9 rfl g2 (fun v9 h9 q9 => ?_) (fun E h9 q9 => PX_out rfl (kx E h9 q9))
    obtain ⟨x28, rfl, k⟩ := kk v9 h9 q9
    clear kk kx g1 g2 q9
    exact R_ireturn (pc := 36) dX9_seat_36 rfl rfl k
-- X9_ear ear(I)I
theorem dX9_ear_0 : decode cX9_ear 0 = .ok (.aload_n 0, 1) := by decide +kernel
theorem dX9_ear_1 : decode cX9_ear 1 = .ok (.iload_n 1, 1) := by decide +kernel
theorem dX9_ear_2 : decode cX9_ear 2 = .ok (.invokevirtual 197, 3) := by decide +kernel
theorem dX9_ear_5 : decode cX9_ear 5 = .ok (.aload_n 0, 1) := by decide +kernel
theorem dX9_ear_6 : decode cX9_ear 6 = .ok (.getfield 61, 3) := by decide +kernel
theorem dX9_ear_9 : decode cX9_ear 9 = .ok (.iload_n 1, 1) := by decide +kernel
theorem dX9_ear_10 : decode cX9_ear 10 = .ok (.iconst 0, 1) := by decide +kernel
theorem dX9_ear_11 : decode cX9_ear 11 = .ok (.invokevirtual 342, 3) := by decide +kernel
theorem dX9_ear_14 : decode cX9_ear 14 = .ok (.ireturn, 1) := by decide +kernel
theorem r_X9_ear_0 {d rc rs : Nat} {Q : PO → PH → Prop} {h : PH} {l0 : Nat} {l1 : Int32}
    (k : isO h 10900 l0 ∧ cl d rc rs M_X9_needHeir [vR (900, l0), vI l1] h (kV fun h1 rc2 rs3 => gO h1 (10908, l0) 100 fun o4 => isO h1 10100 o4 ∧ cl d rc2 rs3 M_X1_reached [vR (100, o4), vI l1, vI (0 : Int32)] h1 (kI fun x8 h5 rc6 rs7 => Q (.inl (some (vI x8))) h5) (fun E h5 rc6 rs7 => Q (.inr E) h5)) (fun E h1 rc2 rs3 => Q (.inr E) h1)) :
    PW d M_X9_ear Q rc rs 0 [vR (900, l0), vI l1] [] h := by
  refine P_aload_n (pc := 0) dX9_ear_0 rfl ?_
  refine P_iload_n (pc := 1) dX9_ear_1 rfl ?_
  obtain ⟨⟨w9, e9⟩, d2, nc, ns, rc2, rs3, Qc, g1, rfl, rfl, g2, kk, kx⟩ := k
  refine P_callV (ci := 9) (k := 0) (id := l0) (q := (RX9, TX9, 18)) (As := [vI l1]) (st := []) (pc := 2) dX9_ear_2 mk_X9_needHeir l_X9_197 im_X9_needHeir se_X9_needHeir ini_X9 rfl g1 (Nat.le_of_ble_eq_true rfl) rfl rfl (by decide) e9 rfl g2 (fun v9 h9 q9 => ?_) (fun E h9 q9 => PX_out rfl (kx E h9 q9))
  obtain ⟨rfl, k⟩ := kk v9 h9 q9
  clear kk kx g1 g2 q9
  refine P_aload_n (pc := 5) dX9_ear_5 rfl ?_
  obtain ⟨o4, e9, k⟩ := k
  refine G9_8 (pc := 6) dX9_ear_6 l_X9_61 e9 ?_
  clear e9
  refine P_iload_n (pc := 9) dX9_ear_9 rfl ?_
  refine P_iconst (v := (0 : Int32)) (pc := 10) dX9_ear_10 (by decide) ?_
  obtain ⟨⟨w9, e9⟩, d2, nc, ns, rc6, rs7, Qc, g1, rfl, rfl, g2, kk, kx⟩ := k
  refine P_callV (ci := 1) (k := 0) (id := o4) (q := (RX1, TX1, 11)) (As := [vI l1, vI (0 : Int32)]) (st := []) (pc := 11) dX9_ear_11 mk_X1_reached l_X9_342 im_X1_reached se_X1_reached ini_X1 rfl g1 (Nat.le_of_ble_eq_true rfl) rfl rfl (by decide) e9 rfl g2 (fun v9 h9 q9 => ?_) (fun E h9 q9 => PX_out rfl (kx E h9 q9))
  obtain ⟨x8, rfl, k⟩ := kk v9 h9 q9
  clear kk kx g1 g2 q9
  exact R_ireturn (pc := 14) dX9_ear_14 rfl rfl k
-- X9_gossip gossip(I)I
theorem dX9_gossip_0 : decode cX9_gossip 0 = .ok (.aload_n 0, 1) := by decide +kernel
theorem dX9_gossip_1 : decode cX9_gossip 1 = .ok (.iload_n 1, 1) := by decide +kernel
theorem dX9_gossip_2 : decode cX9_gossip 2 = .ok (.iconst 0, 1) := by decide +kernel
theorem dX9_gossip_3 : decode cX9_gossip 3 = .ok (.iconst 1, 1) := by decide +kernel
theorem dX9_gossip_4 : decode cX9_gossip 4 = .ok (.invokevirtual 159, 3) := by decide +kernel
theorem dX9_gossip_7 : decode cX9_gossip 7 = .ok (.aload_n 0, 1) := by decide +kernel
theorem dX9_gossip_8 : decode cX9_gossip 8 = .ok (.getfield 61, 3) := by decide +kernel
theorem dX9_gossip_11 : decode cX9_gossip 11 = .ok (.getfield 163, 3) := by decide +kernel
theorem dX9_gossip_14 : decode cX9_gossip 14 = .ok (.ifCond .ne 5, 3) := by decide +kernel
theorem dX9_gossip_17 : decode cX9_gossip 17 = .ok (.iconst (-1), 1) := by decide +kernel
theorem dX9_gossip_18 : decode cX9_gossip 18 = .ok (.ireturn, 1) := by decide +kernel
theorem dX9_gossip_19 : decode cX9_gossip 19 = .ok (.iconst 0, 1) := by decide +kernel
theorem dX9_gossip_20 : decode cX9_gossip 20 = .ok (.istore_n 2, 1) := by decide +kernel
theorem dX9_gossip_21 : decode cX9_gossip 21 = .ok (.iconst 1, 1) := by decide +kernel
theorem dX9_gossip_22 : decode cX9_gossip 22 = .ok (.istore_n 3, 1) := by decide +kernel
theorem dX9_gossip_23 : decode cX9_gossip 23 = .ok (.iload_n 3, 1) := by decide +kernel
theorem dX9_gossip_24 : decode cX9_gossip 24 = .ok (.aload_n 0, 1) := by decide +kernel
theorem dX9_gossip_25 : decode cX9_gossip 25 = .ok (.getfield 61, 3) := by decide +kernel
theorem dX9_gossip_28 : decode cX9_gossip 28 = .ok (.getfield 123, 3) := by decide +kernel
theorem dX9_gossip_31 : decode cX9_gossip 31 = .ok (.if_icmp .ge 30, 3) := by decide +kernel
theorem dX9_gossip_34 : decode cX9_gossip 34 = .ok (.aload_n 0, 1) := by decide +kernel
theorem dX9_gossip_35 : decode cX9_gossip 35 = .ok (.getfield 61, 3) := by decide +kernel
theorem dX9_gossip_38 : decode cX9_gossip 38 = .ok (.iload_n 3, 1) := by decide +kernel
theorem dX9_gossip_39 : decode cX9_gossip 39 = .ok (.invokevirtual 359, 3) := by decide +kernel
theorem dX9_gossip_42 : decode cX9_gossip 42 = .ok (.aload_n 0, 1) := by decide +kernel
theorem dX9_gossip_43 : decode cX9_gossip 43 = .ok (.getfield 61, 3) := by decide +kernel
theorem dX9_gossip_46 : decode cX9_gossip 46 = .ok (.iload_n 2, 1) := by decide +kernel
theorem dX9_gossip_47 : decode cX9_gossip 47 = .ok (.invokevirtual 359, 3) := by decide +kernel
theorem dX9_gossip_50 : decode cX9_gossip 50 = .ok (.if_icmp .le 5, 3) := by decide +kernel
theorem dX9_gossip_53 : decode cX9_gossip 53 = .ok (.iload_n 3, 1) := by decide +kernel
theorem dX9_gossip_54 : decode cX9_gossip 54 = .ok (.istore_n 2, 1) := by decide +kernel
theorem dX9_gossip_55 : decode cX9_gossip 55 = .ok (.iinc 3 1, 3) := by decide +kernel
theorem dX9_gossip_58 : decode cX9_gossip 58 = .ok (.goto (-35), 3) := by decide +kernel
theorem dX9_gossip_61 : decode cX9_gossip 61 = .ok (.iload_n 1, 1) := by decide +kernel
theorem dX9_gossip_62 : decode cX9_gossip 62 = .ok (.ifCond .ne 7, 3) := by decide +kernel
theorem dX9_gossip_65 : decode cX9_gossip 65 = .ok (.iload_n 2, 1) := by decide +kernel
theorem dX9_gossip_66 : decode cX9_gossip 66 = .ok (.goto 11, 3) := by decide +kernel
theorem dX9_gossip_69 : decode cX9_gossip 69 = .ok (.aload_n 0, 1) := by decide +kernel
theorem dX9_gossip_70 : decode cX9_gossip 70 = .ok (.getfield 61, 3) := by decide +kernel
theorem dX9_gossip_73 : decode cX9_gossip 73 = .ok (.iload_n 2, 1) := by decide +kernel
theorem dX9_gossip_74 : decode cX9_gossip 74 = .ok (.invokevirtual 359, 3) := by decide +kernel
theorem dX9_gossip_77 : decode cX9_gossip 77 = .ok (.ireturn, 1) := by decide +kernel
theorem r_X9_gossip_0 {d rc rs : Nat} {Q : PO → PH → Prop} {h : PH} {l0 : Nat} {l1 : Int32}
    (k : isO h 10900 l0 ∧ cl d rc rs M_X9_needWithin [vR (900, l0), vI l1, vI (0 : Int32), vI (1 : Int32)] h (kV fun h1 rc2 rs3 => gO h1 (10908, l0) 100 fun o4 => gI h1 (10108, o4) fun x5 => br (x5 = 0) (Q (.inl (some (vI (-1 : Int32)))) h1) (PW d M_X9_gossip Q rc2 rs3 23 [vR (900, l0), vI l1, vI (0 : Int32), vI (1 : Int32)] [] h1)) (fun E h1 rc2 rs3 => Q (.inr E) h1)) :
    PW d M_X9_gossip Q rc rs 0 [vR (900, l0), vI l1, vU, vU] [] h := by
  refine P_aload_n (pc := 0) dX9_gossip_0 rfl ?_
  refine P_iload_n (pc := 1) dX9_gossip_1 rfl ?_
  refine P_iconst (v := (0 : Int32)) (pc := 2) dX9_gossip_2 (by decide) ?_
  refine P_iconst (v := (1 : Int32)) (pc := 3) dX9_gossip_3 (by decide) ?_
  obtain ⟨⟨w9, e9⟩, d2, nc, ns, rc2, rs3, Qc, g1, rfl, rfl, g2, kk, kx⟩ := k
  refine P_callV (ci := 9) (k := 0) (id := l0) (q := (RX9, TX9, 18)) (As := [vI l1, vI (0 : Int32), vI (1 : Int32)]) (st := []) (pc := 4) dX9_gossip_4 mk_X9_needWithin l_X9_159 im_X9_needWithin se_X9_needWithin ini_X9 rfl g1 (Nat.le_of_ble_eq_true rfl) rfl rfl (by decide) e9 rfl g2 (fun v9 h9 q9 => ?_) (fun E h9 q9 => PX_out rfl (kx E h9 q9))
  obtain ⟨rfl, k⟩ := kk v9 h9 q9
  clear kk kx g1 g2 q9
  refine P_aload_n (pc := 7) dX9_gossip_7 rfl ?_
  obtain ⟨o4, e9, k⟩ := k
  refine G9_8 (pc := 8) dX9_gossip_8 l_X9_61 e9 ?_
  clear e9
  obtain ⟨x5, e9, k⟩ := k
  refine GN1_8 (pc := 11) dX9_gossip_11 n_X9_163 e9 ?_
  clear e9
  refine P_if_ne (tgt := 19) (pc := 14) dX9_gossip_14 (by decide) (fun c => ?_) (fun c => ?_)
  · have k := k.2 c
    refine P_iconst (v := (0 : Int32)) (pc := 19) dX9_gossip_19 (by decide) ?_
    refine P_istore_n (pc := 20) dX9_gossip_20 (by decide) (Or.inr (by intro z e9; cases e9)) rfl ?_
    refine P_iconst (v := (1 : Int32)) (pc := 21) dX9_gossip_21 (by decide) ?_
    refine P_istore_n (pc := 22) dX9_gossip_22 (by decide) (Or.inr (by intro z e9; cases e9)) rfl ?_
    exact k
  · have k := k.1 c
    refine P_iconst (v := (-1 : Int32)) (pc := 17) dX9_gossip_17 (by decide) ?_
    exact R_ireturn (pc := 18) dX9_gossip_18 rfl rfl k
theorem r_X9_gossip_23 {d rc rs : Nat} {Q : PO → PH → Prop} {h : PH} {l0 : Nat} {l1 : Int32} {l2 : Int32} {l3 : Int32}
    (k : gO h (10908, l0) 100 fun o1 => gI h (10107, o1) fun x2 => br (l3 < x2) (gO h (10908, l0) 100 fun o8 => isO h 10100 o8 ∧ cl d rc rs M_X1_friendsOf [vR (100, o8), vI l3] h (kI fun x12 h9 rc10 rs11 => gO h9 (10908, l0) 100 fun o13 => isO h9 10100 o13 ∧ cl d rc10 rs11 M_X1_friendsOf [vR (100, o13), vI l2] h9 (kI fun x17 h14 rc15 rs16 => br (x17 < x12) (PW d M_X9_gossip Q rc15 rs16 23 [vR (900, l0), vI l1, vI l3, vI (l3 + (1 : Int32))] [] h14) (PW d M_X9_gossip Q rc15 rs16 23 [vR (900, l0), vI l1, vI l2, vI (l3 + (1 : Int32))] [] h14)) (fun E h14 rc15 rs16 => Q (.inr E) h14)) (fun E h9 rc10 rs11 => Q (.inr E) h9)) (br (l1 = 0) (Q (.inl (some (vI l2))) h) (gO h (10908, l0) 100 fun o3 => isO h 10100 o3 ∧ cl d rc rs M_X1_friendsOf [vR (100, o3), vI l2] h (kI fun x7 h4 rc5 rs6 => Q (.inl (some (vI x7))) h4) (fun E h4 rc5 rs6 => Q (.inr E) h4)))) :
    PW d M_X9_gossip Q rc rs 23 [vR (900, l0), vI l1, vI l2, vI l3] [] h := by
  refine P_iload_n (pc := 23) dX9_gossip_23 rfl ?_
  refine P_aload_n (pc := 24) dX9_gossip_24 rfl ?_
  obtain ⟨o1, e9, k⟩ := k
  refine G9_8 (pc := 25) dX9_gossip_25 l_X9_61 e9 ?_
  clear e9
  obtain ⟨x2, e9, k⟩ := k
  refine GN1_7 (pc := 28) dX9_gossip_28 n_X9_123 e9 ?_
  clear e9
  refine P_icmp_ge (tgt := 61) (pc := 31) dX9_gossip_31 (by decide) (fun c => ?_) (fun c => ?_)
  · have k := k.2 (Int32.not_lt.mpr c)
    refine P_iload_n (pc := 61) dX9_gossip_61 rfl ?_
    refine P_if_ne (tgt := 69) (pc := 62) dX9_gossip_62 (by decide) (fun c => ?_) (fun c => ?_)
    · have k := k.2 c
      refine P_aload_n (pc := 69) dX9_gossip_69 rfl ?_
      obtain ⟨o3, e9, k⟩ := k
      refine G9_8 (pc := 70) dX9_gossip_70 l_X9_61 e9 ?_
      clear e9
      refine P_iload_n (pc := 73) dX9_gossip_73 rfl ?_
      obtain ⟨⟨w9, e9⟩, d2, nc, ns, rc5, rs6, Qc, g1, rfl, rfl, g2, kk, kx⟩ := k
      refine P_callV (ci := 1) (k := 0) (id := o3) (q := (RX1, TX1, 11)) (As := [vI l2]) (st := []) (pc := 74) dX9_gossip_74 mk_X1_friendsOf l_X9_359 im_X1_friendsOf se_X1_friendsOf ini_X1 rfl g1 (Nat.le_of_ble_eq_true rfl) rfl rfl (by decide) e9 rfl g2 (fun v9 h9 q9 => ?_) (fun E h9 q9 => PX_out rfl (kx E h9 q9))
      obtain ⟨x7, rfl, k⟩ := kk v9 h9 q9
      clear kk kx g1 g2 q9
      exact R_ireturn (pc := 77) dX9_gossip_77 rfl rfl k
    · have k := k.1 c
      refine P_iload_n (pc := 65) dX9_gossip_65 rfl ?_
      refine P_goto (tgt := 77) (pc := 66) dX9_gossip_66 (by decide) ?_
      exact R_ireturn (pc := 77) dX9_gossip_77 rfl rfl k
  · have k := k.1 (Int32.not_le.mp c)
    refine P_aload_n (pc := 34) dX9_gossip_34 rfl ?_
    obtain ⟨o8, e9, k⟩ := k
    refine G9_8 (pc := 35) dX9_gossip_35 l_X9_61 e9 ?_
    clear e9
    refine P_iload_n (pc := 38) dX9_gossip_38 rfl ?_
    obtain ⟨⟨w9, e9⟩, d2, nc, ns, rc10, rs11, Qc, g1, rfl, rfl, g2, kk, kx⟩ := k
    refine P_callV (ci := 1) (k := 0) (id := o8) (q := (RX1, TX1, 11)) (As := [vI l3]) (st := []) (pc := 39) dX9_gossip_39 mk_X1_friendsOf l_X9_359 im_X1_friendsOf se_X1_friendsOf ini_X1 rfl g1 (Nat.le_of_ble_eq_true rfl) rfl rfl (by decide) e9 rfl g2 (fun v9 h9 q9 => ?_) (fun E h9 q9 => PX_out rfl (kx E h9 q9))
    obtain ⟨x12, rfl, k⟩ := kk v9 h9 q9
    clear kk kx g1 g2 q9
    refine P_aload_n (pc := 42) dX9_gossip_42 rfl ?_
    obtain ⟨o13, e9, k⟩ := k
    refine G9_8 (pc := 43) dX9_gossip_43 l_X9_61 e9 ?_
    clear e9
    refine P_iload_n (pc := 46) dX9_gossip_46 rfl ?_
    obtain ⟨⟨w9, e9⟩, d2, nc, ns, rc15, rs16, Qc, g1, rfl, rfl, g2, kk, kx⟩ := k
    refine P_callV (ci := 1) (k := 0) (id := o13) (q := (RX1, TX1, 11)) (As := [vI l2]) (st := [vI x12]) (pc := 47) dX9_gossip_47 mk_X1_friendsOf l_X9_359 im_X1_friendsOf se_X1_friendsOf ini_X1 rfl g1 (Nat.le_of_ble_eq_true rfl) rfl rfl (by decide) e9 rfl g2 (fun v9 h9 q9 => ?_) (fun E h9 q9 => PX_out rfl (kx E h9 q9))
    obtain ⟨x17, rfl, k⟩ := kk v9 h9 q9
    clear kk kx g1 g2 q9
    refine P_icmp_le (tgt := 55) (pc := 50) dX9_gossip_50 (by decide) (fun c => ?_) (fun c => ?_)
    · have k := k.2 (Int32.not_lt.mpr c)
      refine P_iinc (v := l3 + (1 : Int32)) (pc := 55) dX9_gossip_55 (by decide) rfl rfl (Or.inr (by intro z e9; cases e9)) rfl ?_
      refine P_goto (tgt := 23) (pc := 58) dX9_gossip_58 (by decide) ?_
      exact k
    · have k := k.1 (Int32.not_le.mp c)
      refine P_iload_n (pc := 53) dX9_gossip_53 rfl ?_
      refine P_istore_n (pc := 54) dX9_gossip_54 (by decide) (Or.inr (by intro z e9; cases e9)) rfl ?_
      refine P_iinc (v := l3 + (1 : Int32)) (pc := 55) dX9_gossip_55 (by decide) rfl rfl (Or.inr (by intro z e9; cases e9)) rfl ?_
      refine P_goto (tgt := 23) (pc := 58) dX9_gossip_58 (by decide) ?_
      exact k
-- X9_fits fits(II)I
theorem dX9_fits_0 : decode cX9_fits 0 = .ok (.aload_n 0, 1) := by decide +kernel
theorem dX9_fits_1 : decode cX9_fits 1 = .ok (.iload_n 1, 1) := by decide +kernel
theorem dX9_fits_2 : decode cX9_fits 2 = .ok (.invokevirtual 197, 3) := by decide +kernel
theorem dX9_fits_5 : decode cX9_fits 5 = .ok (.aload_n 0, 1) := by decide +kernel
theorem dX9_fits_6 : decode cX9_fits 6 = .ok (.iload_n 2, 1) := by decide +kernel
theorem dX9_fits_7 : decode cX9_fits 7 = .ok (.iconst 0, 1) := by decide +kernel
theorem dX9_fits_8 : decode cX9_fits 8 = .ok (.iconst 1, 1) := by decide +kernel
theorem dX9_fits_9 : decode cX9_fits 9 = .ok (.invokevirtual 159, 3) := by decide +kernel
theorem dX9_fits_12 : decode cX9_fits 12 = .ok (.aload_n 0, 1) := by decide +kernel
theorem dX9_fits_13 : decode cX9_fits 13 = .ok (.iload_n 1, 1) := by decide +kernel
theorem dX9_fits_14 : decode cX9_fits 14 = .ok (.invokevirtual 362, 3) := by decide +kernel
theorem dX9_fits_17 : decode cX9_fits 17 = .ok (.iload_n 2, 1) := by decide +kernel
theorem dX9_fits_18 : decode cX9_fits 18 = .ok (.ifCond .ne 13, 3) := by decide +kernel
theorem dX9_fits_21 : decode cX9_fits 21 = .ok (.aload_n 0, 1) := by decide +kernel
theorem dX9_fits_22 : decode cX9_fits 22 = .ok (.getfield 54, 3) := by decide +kernel
theorem dX9_fits_25 : decode cX9_fits 25 = .ok (.getfield 365, 3) := by decide +kernel
theorem dX9_fits_28 : decode cX9_fits 28 = .ok (.goto 10, 3) := by decide +kernel
theorem dX9_fits_31 : decode cX9_fits 31 = .ok (.aload_n 0, 1) := by decide +kernel
theorem dX9_fits_32 : decode cX9_fits 32 = .ok (.getfield 54, 3) := by decide +kernel
theorem dX9_fits_35 : decode cX9_fits 35 = .ok (.getfield 366, 3) := by decide +kernel
theorem dX9_fits_38 : decode cX9_fits 38 = .ok (.ireturn, 1) := by decide +kernel
theorem r_X9_fits_0 {d rc rs : Nat} {Q : PO → PH → Prop} {h : PH} {l0 : Nat} {l1 : Int32} {l2 : Int32}
    (k : isO h 10900 l0 ∧ cl d rc rs M_X9_needHeir [vR (900, l0), vI l1] h (kV fun h1 rc2 rs3 => isO h1 10900 l0 ∧ cl d rc2 rs3 M_X9_needWithin [vR (900, l0), vI l2, vI (0 : Int32), vI (1 : Int32)] h1 (kV fun h4 rc5 rs6 => isO h4 10900 l0 ∧ cl d rc5 rs6 M_X9_findPairs [vR (900, l0), vI l1] h4 (kV fun h7 rc8 rs9 => br (l2 = 0) (gO h7 (10907, l0) 500 fun o12 => gI h7 (10502, o12) fun x13 => Q (.inl (some (vI x13))) h7) (gO h7 (10907, l0) 500 fun o10 => gI h7 (10503, o10) fun x11 => Q (.inl (some (vI x11))) h7)) (fun E h7 rc8 rs9 => Q (.inr E) h7)) (fun E h4 rc5 rs6 => Q (.inr E) h4)) (fun E h1 rc2 rs3 => Q (.inr E) h1)) :
    PW d M_X9_fits Q rc rs 0 [vR (900, l0), vI l1, vI l2] [] h := by
  refine P_aload_n (pc := 0) dX9_fits_0 rfl ?_
  refine P_iload_n (pc := 1) dX9_fits_1 rfl ?_
  obtain ⟨⟨w9, e9⟩, d2, nc, ns, rc2, rs3, Qc, g1, rfl, rfl, g2, kk, kx⟩ := k
  refine P_callV (ci := 9) (k := 0) (id := l0) (q := (RX9, TX9, 18)) (As := [vI l1]) (st := []) (pc := 2) dX9_fits_2 mk_X9_needHeir l_X9_197 im_X9_needHeir se_X9_needHeir ini_X9 rfl g1 (Nat.le_of_ble_eq_true rfl) rfl rfl (by decide) e9 rfl g2 (fun v9 h9 q9 => ?_) (fun E h9 q9 => PX_out rfl (kx E h9 q9))
  obtain ⟨rfl, k⟩ := kk v9 h9 q9
  clear kk kx g1 g2 q9
  refine P_aload_n (pc := 5) dX9_fits_5 rfl ?_
  refine P_iload_n (pc := 6) dX9_fits_6 rfl ?_
  refine P_iconst (v := (0 : Int32)) (pc := 7) dX9_fits_7 (by decide) ?_
  refine P_iconst (v := (1 : Int32)) (pc := 8) dX9_fits_8 (by decide) ?_
  obtain ⟨⟨w9, e9⟩, d2, nc, ns, rc5, rs6, Qc, g1, rfl, rfl, g2, kk, kx⟩ := k
  refine P_callV (ci := 9) (k := 0) (id := l0) (q := (RX9, TX9, 18)) (As := [vI l2, vI (0 : Int32), vI (1 : Int32)]) (st := []) (pc := 9) dX9_fits_9 mk_X9_needWithin l_X9_159 im_X9_needWithin se_X9_needWithin ini_X9 rfl g1 (Nat.le_of_ble_eq_true rfl) rfl rfl (by decide) e9 rfl g2 (fun v9 h9 q9 => ?_) (fun E h9 q9 => PX_out rfl (kx E h9 q9))
  obtain ⟨rfl, k⟩ := kk v9 h9 q9
  clear kk kx g1 g2 q9
  refine P_aload_n (pc := 12) dX9_fits_12 rfl ?_
  refine P_iload_n (pc := 13) dX9_fits_13 rfl ?_
  obtain ⟨⟨w9, e9⟩, d2, nc, ns, rc8, rs9, Qc, g1, rfl, rfl, g2, kk, kx⟩ := k
  refine P_callV (ci := 9) (k := 0) (id := l0) (q := (RX9, TX9, 18)) (As := [vI l1]) (st := []) (pc := 14) dX9_fits_14 mk_X9_findPairs l_X9_362 im_X9_findPairs se_X9_findPairs ini_X9 rfl g1 (Nat.le_of_ble_eq_true rfl) rfl rfl (by decide) e9 rfl g2 (fun v9 h9 q9 => ?_) (fun E h9 q9 => PX_out rfl (kx E h9 q9))
  obtain ⟨rfl, k⟩ := kk v9 h9 q9
  clear kk kx g1 g2 q9
  refine P_iload_n (pc := 17) dX9_fits_17 rfl ?_
  refine P_if_ne (tgt := 31) (pc := 18) dX9_fits_18 (by decide) (fun c => ?_) (fun c => ?_)
  · have k := k.2 c
    refine P_aload_n (pc := 31) dX9_fits_31 rfl ?_
    obtain ⟨o10, e9, k⟩ := k
    refine G9_7 (pc := 32) dX9_fits_32 l_X9_54 e9 ?_
    clear e9
    obtain ⟨x11, e9, k⟩ := k
    refine GN5_3 (pc := 35) dX9_fits_35 n_X9_366 e9 ?_
    clear e9
    exact R_ireturn (pc := 38) dX9_fits_38 rfl rfl k
  · have k := k.1 c
    refine P_aload_n (pc := 21) dX9_fits_21 rfl ?_
    obtain ⟨o12, e9, k⟩ := k
    refine G9_7 (pc := 22) dX9_fits_22 l_X9_54 e9 ?_
    clear e9
    obtain ⟨x13, e9, k⟩ := k
    refine GN5_2 (pc := 25) dX9_fits_25 n_X9_365 e9 ?_
    clear e9
    refine P_goto (tgt := 38) (pc := 28) dX9_fits_28 (by decide) ?_
    exact R_ireturn (pc := 38) dX9_fits_38 rfl rfl k
-- X9_look look(II)I
theorem dX9_look_0 : decode cX9_look 0 = .ok (.aload_n 0, 1) := by decide +kernel
theorem dX9_look_1 : decode cX9_look 1 = .ok (.iload_n 1, 1) := by decide +kernel
theorem dX9_look_2 : decode cX9_look 2 = .ok (.invokevirtual 197, 3) := by decide +kernel
theorem dX9_look_5 : decode cX9_look 5 = .ok (.aload_n 0, 1) := by decide +kernel
theorem dX9_look_6 : decode cX9_look 6 = .ok (.iload_n 2, 1) := by decide +kernel
theorem dX9_look_7 : decode cX9_look 7 = .ok (.iconst 0, 1) := by decide +kernel
theorem dX9_look_8 : decode cX9_look 8 = .ok (.iconst 1, 1) := by decide +kernel
theorem dX9_look_9 : decode cX9_look 9 = .ok (.invokevirtual 159, 3) := by decide +kernel
theorem dX9_look_12 : decode cX9_look 12 = .ok (.aload_n 0, 1) := by decide +kernel
theorem dX9_look_13 : decode cX9_look 13 = .ok (.iload_n 1, 1) := by decide +kernel
theorem dX9_look_14 : decode cX9_look 14 = .ok (.invokevirtual 362, 3) := by decide +kernel
theorem dX9_look_17 : decode cX9_look 17 = .ok (.iconst (-1), 1) := by decide +kernel
theorem dX9_look_18 : decode cX9_look 18 = .ok (.istore_n 3, 1) := by decide +kernel
theorem dX9_look_19 : decode cX9_look 19 = .ok (.iconst (-1), 1) := by decide +kernel
theorem dX9_look_20 : decode cX9_look 20 = .ok (.istore 4, 2) := by decide +kernel
theorem dX9_look_22 : decode cX9_look 22 = .ok (.iconst 1, 1) := by decide +kernel
theorem dX9_look_23 : decode cX9_look 23 = .ok (.istore 5, 2) := by decide +kernel
theorem dX9_look_25 : decode cX9_look 25 = .ok (.iload 5, 2) := by decide +kernel
theorem dX9_look_27 : decode cX9_look 27 = .ok (.bipush 12, 2) := by decide +kernel
theorem dX9_look_29 : decode cX9_look 29 = .ok (.if_icmp .gt 53, 3) := by decide +kernel
theorem dX9_look_32 : decode cX9_look 32 = .ok (.aload_n 0, 1) := by decide +kernel
theorem dX9_look_33 : decode cX9_look 33 = .ok (.getfield 81, 3) := by decide +kernel
theorem dX9_look_36 : decode cX9_look 36 = .ok (.getfield 369, 3) := by decide +kernel
theorem dX9_look_39 : decode cX9_look 39 = .ok (.iload 5, 2) := by decide +kernel
theorem dX9_look_41 : decode cX9_look 41 = .ok (.iaload, 1) := by decide +kernel
theorem dX9_look_42 : decode cX9_look 42 = .ok (.iconst (-1), 1) := by decide +kernel
theorem dX9_look_43 : decode cX9_look 43 = .ok (.if_icmp .ne 33, 3) := by decide +kernel
theorem dX9_look_46 : decode cX9_look 46 = .ok (.aload_n 0, 1) := by decide +kernel
theorem dX9_look_47 : decode cX9_look 47 = .ok (.getfield 54, 3) := by decide +kernel
theorem dX9_look_50 : decode cX9_look 50 = .ok (.iload 5, 2) := by decide +kernel
theorem dX9_look_52 : decode cX9_look 52 = .ok (.invokevirtual 372, 3) := by decide +kernel
theorem dX9_look_55 : decode cX9_look 55 = .ok (.istore 6, 2) := by decide +kernel
theorem dX9_look_57 : decode cX9_look 57 = .ok (.iload_n 3, 1) := by decide +kernel
theorem dX9_look_58 : decode cX9_look 58 = .ok (.iconst (-1), 1) := by decide +kernel
theorem dX9_look_59 : decode cX9_look 59 = .ok (.if_icmp .eq 10, 3) := by decide +kernel
theorem dX9_look_62 : decode cX9_look 62 = .ok (.iload 6, 2) := by decide +kernel
theorem dX9_look_64 : decode cX9_look 64 = .ok (.iload 4, 2) := by decide +kernel
theorem dX9_look_66 : decode cX9_look 66 = .ok (.if_icmp .ge 10, 3) := by decide +kernel
theorem dX9_look_69 : decode cX9_look 69 = .ok (.iload 5, 2) := by decide +kernel
theorem dX9_look_71 : decode cX9_look 71 = .ok (.istore_n 3, 1) := by decide +kernel
theorem dX9_look_72 : decode cX9_look 72 = .ok (.iload 6, 2) := by decide +kernel
theorem dX9_look_74 : decode cX9_look 74 = .ok (.istore 4, 2) := by decide +kernel
theorem dX9_look_76 : decode cX9_look 76 = .ok (.iinc 5 1, 3) := by decide +kernel
theorem dX9_look_79 : decode cX9_look 79 = .ok (.goto (-54), 3) := by decide +kernel
theorem dX9_look_82 : decode cX9_look 82 = .ok (.iload_n 2, 1) := by decide +kernel
theorem dX9_look_83 : decode cX9_look 83 = .ok (.ifCond .ne 7, 3) := by decide +kernel
theorem dX9_look_86 : decode cX9_look 86 = .ok (.iload_n 3, 1) := by decide +kernel
theorem dX9_look_87 : decode cX9_look 87 = .ok (.goto 5, 3) := by decide +kernel
theorem dX9_look_90 : decode cX9_look 90 = .ok (.iload 4, 2) := by decide +kernel
theorem dX9_look_92 : decode cX9_look 92 = .ok (.ireturn, 1) := by decide +kernel
theorem r_X9_look_0 {d rc rs : Nat} {Q : PO → PH → Prop} {h : PH} {l0 : Nat} {l1 : Int32} {l2 : Int32}
    (k : isO h 10900 l0 ∧ cl d rc rs M_X9_needHeir [vR (900, l0), vI l1] h (kV fun h1 rc2 rs3 => isO h1 10900 l0 ∧ cl d rc2 rs3 M_X9_needWithin [vR (900, l0), vI l2, vI (0 : Int32), vI (1 : Int32)] h1 (kV fun h4 rc5 rs6 => isO h4 10900 l0 ∧ cl d rc5 rs6 M_X9_findPairs [vR (900, l0), vI l1] h4 (kV fun h7 rc8 rs9 => PW d M_X9_look Q rc8 rs9 25 [vR (900, l0), vU, vI l2, vI (-1 : Int32), vI (-1 : Int32), vI (1 : Int32), vU] [] h7) (fun E h7 rc8 rs9 => Q (.inr E) h7)) (fun E h4 rc5 rs6 => Q (.inr E) h4)) (fun E h1 rc2 rs3 => Q (.inr E) h1)) :
    PW d M_X9_look Q rc rs 0 [vR (900, l0), vI l1, vI l2, vU, vU, vU, vU] [] h := by
  refine P_aload_n (pc := 0) dX9_look_0 rfl ?_
  refine P_iload_n (pc := 1) dX9_look_1 rfl ?_
  obtain ⟨⟨w9, e9⟩, d2, nc, ns, rc2, rs3, Qc, g1, rfl, rfl, g2, kk, kx⟩ := k
  refine P_callV (ci := 9) (k := 0) (id := l0) (q := (RX9, TX9, 18)) (As := [vI l1]) (st := []) (pc := 2) dX9_look_2 mk_X9_needHeir l_X9_197 im_X9_needHeir se_X9_needHeir ini_X9 rfl g1 (Nat.le_of_ble_eq_true rfl) rfl rfl (by decide) e9 rfl g2 (fun v9 h9 q9 => ?_) (fun E h9 q9 => PX_out rfl (kx E h9 q9))
  obtain ⟨rfl, k⟩ := kk v9 h9 q9
  clear kk kx g1 g2 q9
  refine P_aload_n (pc := 5) dX9_look_5 rfl ?_
  refine P_iload_n (pc := 6) dX9_look_6 rfl ?_
  refine P_iconst (v := (0 : Int32)) (pc := 7) dX9_look_7 (by decide) ?_
  refine P_iconst (v := (1 : Int32)) (pc := 8) dX9_look_8 (by decide) ?_
  obtain ⟨⟨w9, e9⟩, d2, nc, ns, rc5, rs6, Qc, g1, rfl, rfl, g2, kk, kx⟩ := k
  refine P_callV (ci := 9) (k := 0) (id := l0) (q := (RX9, TX9, 18)) (As := [vI l2, vI (0 : Int32), vI (1 : Int32)]) (st := []) (pc := 9) dX9_look_9 mk_X9_needWithin l_X9_159 im_X9_needWithin se_X9_needWithin ini_X9 rfl g1 (Nat.le_of_ble_eq_true rfl) rfl rfl (by decide) e9 rfl g2 (fun v9 h9 q9 => ?_) (fun E h9 q9 => PX_out rfl (kx E h9 q9))
  obtain ⟨rfl, k⟩ := kk v9 h9 q9
  clear kk kx g1 g2 q9
  refine P_aload_n (pc := 12) dX9_look_12 rfl ?_
  refine P_iload_n (pc := 13) dX9_look_13 rfl ?_
  obtain ⟨⟨w9, e9⟩, d2, nc, ns, rc8, rs9, Qc, g1, rfl, rfl, g2, kk, kx⟩ := k
  refine P_callV (ci := 9) (k := 0) (id := l0) (q := (RX9, TX9, 18)) (As := [vI l1]) (st := []) (pc := 14) dX9_look_14 mk_X9_findPairs l_X9_362 im_X9_findPairs se_X9_findPairs ini_X9 rfl g1 (Nat.le_of_ble_eq_true rfl) rfl rfl (by decide) e9 rfl g2 (fun v9 h9 q9 => ?_) (fun E h9 q9 => PX_out rfl (kx E h9 q9))
  obtain ⟨rfl, k⟩ := kk v9 h9 q9
  clear kk kx g1 g2 q9
  refine P_iconst (v := (-1 : Int32)) (pc := 17) dX9_look_17 (by decide) ?_
  refine P_istore_n (pc := 18) dX9_look_18 (by decide) (Or.inr (by intro z e9; cases e9)) rfl ?_
  refine P_iconst (v := (-1 : Int32)) (pc := 19) dX9_look_19 (by decide) ?_
  refine P_istore (pc := 20) dX9_look_20 (by decide) (Or.inr (by intro z e9; cases e9)) rfl ?_
  refine P_iconst (v := (1 : Int32)) (pc := 22) dX9_look_22 (by decide) ?_
  refine P_istore (pc := 23) dX9_look_23 (by decide) (Or.inr (by intro z e9; cases e9)) rfl ?_
  exact P_drop (ls2 := [vR (900, l0), vU, vI l2, vI (-1 : Int32), vI (-1 : Int32), vI (1 : Int32), vU]) (ls := [vR (900, l0), vI l1, vI l2, vI (-1 : Int32), vI (-1 : Int32), vI (1 : Int32), vU]) ⟨Or.inr rfl, ⟨Or.inl rfl, ⟨Or.inr rfl, ⟨Or.inr rfl, ⟨Or.inr rfl, ⟨Or.inr rfl, ⟨Or.inr rfl, trivial⟩⟩⟩⟩⟩⟩⟩ k
theorem r_X9_look_25 {d rc rs : Nat} {Q : PO → PH → Prop} {h : PH} {l0 : Nat} {l2 : Int32} {l3 : Int32} {l4 : Int32} {l5 : Int32}
    (k : br ((12 : Int32) < l5) (br (l2 = 0) (Q (.inl (some (vI l3))) h) (Q (.inl (some (vI l4))) h)) (gO h (10912, l0) 0 fun o1 => gA h (10000, o1) fun a2 => xI h a2 l5 fun x3 => br (x3 = (-1 : Int32)) (gO h (10907, l0) 500 fun o4 => isO h 10500 o4 ∧ cl d rc rs M_X5_mostAlike [vR (500, o4), vI l5] h (kI fun x8 h5 rc6 rs7 => br (l3 = (-1 : Int32)) (PW d M_X9_look Q rc6 rs7 25 [vR (900, l0), vU, vI l2, vI l5, vI x8, vI (l5 + (1 : Int32)), vU] [] h5) (br (x8 < l4) (PW d M_X9_look Q rc6 rs7 25 [vR (900, l0), vU, vI l2, vI l5, vI x8, vI (l5 + (1 : Int32)), vU] [] h5) (PW d M_X9_look Q rc6 rs7 25 [vR (900, l0), vU, vI l2, vI l3, vI l4, vI (l5 + (1 : Int32)), vU] [] h5))) (fun E h5 rc6 rs7 => Q (.inr E) h5)) (PW d M_X9_look Q rc rs 25 [vR (900, l0), vU, vI l2, vI l3, vI l4, vI (l5 + (1 : Int32)), vU] [] h))) :
    PW d M_X9_look Q rc rs 25 [vR (900, l0), vU, vI l2, vI l3, vI l4, vI l5, vU] [] h := by
  refine P_iload (pc := 25) dX9_look_25 rfl ?_
  refine P_bipush (v := (12 : Int32)) (pc := 27) dX9_look_27 (by decide) ?_
  refine P_icmp_gt (tgt := 82) (pc := 29) dX9_look_29 (by decide) (fun c => ?_) (fun c => ?_)
  · have k := k.1 c
    refine P_iload_n (pc := 82) dX9_look_82 rfl ?_
    refine P_if_ne (tgt := 90) (pc := 83) dX9_look_83 (by decide) (fun c => ?_) (fun c => ?_)
    · have k := k.2 c
      refine P_iload (pc := 90) dX9_look_90 rfl ?_
      exact R_ireturn (pc := 92) dX9_look_92 rfl rfl k
    · have k := k.1 c
      refine P_iload_n (pc := 86) dX9_look_86 rfl ?_
      refine P_goto (tgt := 92) (pc := 87) dX9_look_87 (by decide) ?_
      exact R_ireturn (pc := 92) dX9_look_92 rfl rfl k
  · have k := k.2 c
    refine P_aload_n (pc := 32) dX9_look_32 rfl ?_
    obtain ⟨o1, e9, k⟩ := k
    refine G9_12 (pc := 33) dX9_look_33 l_X9_81 e9 ?_
    clear e9
    obtain ⟨a2, e9, k⟩ := k
    refine GN0_0 (pc := 36) dX9_look_36 n_X9_369 e9 ?_
    clear e9
    refine P_iload (pc := 39) dX9_look_39 rfl ?_
    obtain ⟨n9, f9, e9, i9, k⟩ := k
    refine P_iald (pc := 41) dX9_look_41 e9 i9 ?_
    clear e9
    generalize f9 (Int32.toNatClampNeg l5) = x3 at k ⊢
    refine P_iconst (v := (-1 : Int32)) (pc := 42) dX9_look_42 (by decide) ?_
    refine P_icmp_ne (tgt := 76) (pc := 43) dX9_look_43 (by decide) (fun c => ?_) (fun c => ?_)
    · have k := k.2 c
      refine P_iinc (v := l5 + (1 : Int32)) (pc := 76) dX9_look_76 (by decide) rfl rfl (Or.inr (by intro z e9; cases e9)) rfl ?_
      refine P_goto (tgt := 25) (pc := 79) dX9_look_79 (by decide) ?_
      exact k
    · have k := k.1 c
      refine P_aload_n (pc := 46) dX9_look_46 rfl ?_
      obtain ⟨o4, e9, k⟩ := k
      refine G9_7 (pc := 47) dX9_look_47 l_X9_54 e9 ?_
      clear e9
      refine P_iload (pc := 50) dX9_look_50 rfl ?_
      obtain ⟨⟨w9, e9⟩, d2, nc, ns, rc6, rs7, Qc, g1, rfl, rfl, g2, kk, kx⟩ := k
      refine P_callV (ci := 5) (k := 0) (id := o4) (q := (RX5, TX5, 4)) (As := [vI l5]) (st := []) (pc := 52) dX9_look_52 mk_X5_mostAlike l_X9_372 im_X5_mostAlike se_X5_mostAlike ini_X5 rfl g1 (Nat.le_of_ble_eq_true rfl) rfl rfl (by decide) e9 rfl g2 (fun v9 h9 q9 => ?_) (fun E h9 q9 => PX_out rfl (kx E h9 q9))
      obtain ⟨x8, rfl, k⟩ := kk v9 h9 q9
      clear kk kx g1 g2 q9
      refine P_istore (pc := 55) dX9_look_55 (by decide) (Or.inr (by intro z e9; cases e9)) rfl ?_
      refine P_iload_n (pc := 57) dX9_look_57 rfl ?_
      refine P_iconst (v := (-1 : Int32)) (pc := 58) dX9_look_58 (by decide) ?_
      refine P_icmp_eq (tgt := 69) (pc := 59) dX9_look_59 (by decide) (fun c => ?_) (fun c => ?_)
      · have k := k.1 c
        refine P_iload (pc := 69) dX9_look_69 rfl ?_
        refine P_istore_n (pc := 71) dX9_look_71 (by decide) (Or.inr (by intro z e9; cases e9)) rfl ?_
        refine P_iload (pc := 72) dX9_look_72 rfl ?_
        refine P_istore (pc := 74) dX9_look_74 (by decide) (Or.inr (by intro z e9; cases e9)) rfl ?_
        refine P_iinc (v := l5 + (1 : Int32)) (pc := 76) dX9_look_76 (by decide) rfl rfl (Or.inr (by intro z e9; cases e9)) rfl ?_
        refine P_goto (tgt := 25) (pc := 79) dX9_look_79 (by decide) ?_
        exact P_drop (ls2 := [vR (900, l0), vU, vI l2, vI l5, vI x8, vI (l5 + (1 : Int32)), vU]) (ls := [vR (900, l0), vU, vI l2, vI l5, vI x8, vI (l5 + (1 : Int32)), vI x8]) ⟨Or.inr rfl, ⟨Or.inr rfl, ⟨Or.inr rfl, ⟨Or.inr rfl, ⟨Or.inr rfl, ⟨Or.inr rfl, ⟨Or.inl rfl, trivial⟩⟩⟩⟩⟩⟩⟩ k
      · have k := k.2 c
        refine P_iload (pc := 62) dX9_look_62 rfl ?_
        refine P_iload (pc := 64) dX9_look_64 rfl ?_
        refine P_icmp_ge (tgt := 76) (pc := 66) dX9_look_66 (by decide) (fun c => ?_) (fun c => ?_)
        · have k := k.2 (Int32.not_lt.mpr c)
          refine P_iinc (v := l5 + (1 : Int32)) (pc := 76) dX9_look_76 (by decide) rfl rfl (Or.inr (by intro z e9; cases e9)) rfl ?_
          refine P_goto (tgt := 25) (pc := 79) dX9_look_79 (by decide) ?_
          exact P_drop (ls2 := [vR (900, l0), vU, vI l2, vI l3, vI l4, vI (l5 + (1 : Int32)), vU]) (ls := [vR (900, l0), vU, vI l2, vI l3, vI l4, vI (l5 + (1 : Int32)), vI x8]) ⟨Or.inr rfl, ⟨Or.inr rfl, ⟨Or.inr rfl, ⟨Or.inr rfl, ⟨Or.inr rfl, ⟨Or.inr rfl, ⟨Or.inl rfl, trivial⟩⟩⟩⟩⟩⟩⟩ k
        · have k := k.1 (Int32.not_le.mp c)
          refine P_iload (pc := 69) dX9_look_69 rfl ?_
          refine P_istore_n (pc := 71) dX9_look_71 (by decide) (Or.inr (by intro z e9; cases e9)) rfl ?_
          refine P_iload (pc := 72) dX9_look_72 rfl ?_
          refine P_istore (pc := 74) dX9_look_74 (by decide) (Or.inr (by intro z e9; cases e9)) rfl ?_
          refine P_iinc (v := l5 + (1 : Int32)) (pc := 76) dX9_look_76 (by decide) rfl rfl (Or.inr (by intro z e9; cases e9)) rfl ?_
          refine P_goto (tgt := 25) (pc := 79) dX9_look_79 (by decide) ?_
          exact P_drop (ls2 := [vR (900, l0), vU, vI l2, vI l5, vI x8, vI (l5 + (1 : Int32)), vU]) (ls := [vR (900, l0), vU, vI l2, vI l5, vI x8, vI (l5 + (1 : Int32)), vI x8]) ⟨Or.inr rfl, ⟨Or.inr rfl, ⟨Or.inr rfl, ⟨Or.inr rfl, ⟨Or.inr rfl, ⟨Or.inr rfl, ⟨Or.inl rfl, trivial⟩⟩⟩⟩⟩⟩⟩ k
-- X9_findPairs findPairs(I)V
theorem dX9_findPairs_0 : decode cX9_findPairs 0 = .ok (.aload_n 0, 1) := by decide +kernel
theorem dX9_findPairs_1 : decode cX9_findPairs 1 = .ok (.getfield 54, 3) := by decide +kernel
theorem dX9_findPairs_4 : decode cX9_findPairs 4 = .ok (.invokevirtual 375, 3) := by decide +kernel
theorem dX9_findPairs_7 : decode cX9_findPairs 7 = .ok (.iconst 1, 1) := by decide +kernel
theorem dX9_findPairs_8 : decode cX9_findPairs 8 = .ok (.istore_n 2, 1) := by decide +kernel
theorem dX9_findPairs_9 : decode cX9_findPairs 9 = .ok (.iload_n 2, 1) := by decide +kernel
theorem dX9_findPairs_10 : decode cX9_findPairs 10 = .ok (.bipush 9, 2) := by decide +kernel
theorem dX9_findPairs_12 : decode cX9_findPairs 12 = .ok (.if_icmp .gt 111, 3) := by decide +kernel
theorem dX9_findPairs_15 : decode cX9_findPairs 15 = .ok (.iconst 0, 1) := by decide +kernel
theorem dX9_findPairs_16 : decode cX9_findPairs 16 = .ok (.istore_n 3, 1) := by decide +kernel
theorem dX9_findPairs_17 : decode cX9_findPairs 17 = .ok (.iload_n 3, 1) := by decide +kernel
theorem dX9_findPairs_18 : decode cX9_findPairs 18 = .ok (.bipush 9, 2) := by decide +kernel
theorem dX9_findPairs_20 : decode cX9_findPairs 20 = .ok (.if_icmp .gt 97, 3) := by decide +kernel
theorem dX9_findPairs_23 : decode cX9_findPairs 23 = .ok (.aload_n 0, 1) := by decide +kernel
theorem dX9_findPairs_24 : decode cX9_findPairs 24 = .ok (.getfield 37, 3) := by decide +kernel
theorem dX9_findPairs_27 : decode cX9_findPairs 27 = .ok (.aload_n 0, 1) := by decide +kernel
theorem dX9_findPairs_28 : decode cX9_findPairs 28 = .ok (.getfield 26, 3) := by decide +kernel
theorem dX9_findPairs_31 : decode cX9_findPairs 31 = .ok (.getfield 136, 3) := by decide +kernel
theorem dX9_findPairs_34 : decode cX9_findPairs 34 = .ok (.getfield 169, 3) := by decide +kernel
theorem dX9_findPairs_37 : decode cX9_findPairs 37 = .ok (.iload_n 1, 1) := by decide +kernel
theorem dX9_findPairs_38 : decode cX9_findPairs 38 = .ok (.iload_n 2, 1) := by decide +kernel
theorem dX9_findPairs_39 : decode cX9_findPairs 39 = .ok (.iload_n 3, 1) := by decide +kernel
theorem dX9_findPairs_40 : decode cX9_findPairs 40 = .ok (.invokevirtual 376, 3) := by decide +kernel
theorem dX9_findPairs_43 : decode cX9_findPairs 43 = .ok (.iconst 1, 1) := by decide +kernel
theorem dX9_findPairs_44 : decode cX9_findPairs 44 = .ok (.istore 4, 2) := by decide +kernel
theorem dX9_findPairs_46 : decode cX9_findPairs 46 = .ok (.iload 4, 2) := by decide +kernel
theorem dX9_findPairs_48 : decode cX9_findPairs 48 = .ok (.bipush 12, 2) := by decide +kernel
theorem dX9_findPairs_50 : decode cX9_findPairs 50 = .ok (.if_icmp .gt 44, 3) := by decide +kernel
theorem dX9_findPairs_53 : decode cX9_findPairs 53 = .ok (.aload_n 0, 1) := by decide +kernel
theorem dX9_findPairs_54 : decode cX9_findPairs 54 = .ok (.getfield 37, 3) := by decide +kernel
theorem dX9_findPairs_57 : decode cX9_findPairs 57 = .ok (.aload_n 0, 1) := by decide +kernel
theorem dX9_findPairs_58 : decode cX9_findPairs 58 = .ok (.getfield 61, 3) := by decide +kernel
theorem dX9_findPairs_61 : decode cX9_findPairs 61 = .ok (.aload_n 0, 1) := by decide +kernel
theorem dX9_findPairs_62 : decode cX9_findPairs 62 = .ok (.getfield 71, 3) := by decide +kernel
theorem dX9_findPairs_65 : decode cX9_findPairs 65 = .ok (.iconst 0, 1) := by decide +kernel
theorem dX9_findPairs_66 : decode cX9_findPairs 66 = .ok (.invokevirtual 279, 3) := by decide +kernel
theorem dX9_findPairs_69 : decode cX9_findPairs 69 = .ok (.pop, 1) := by decide +kernel
theorem dX9_findPairs_70 : decode cX9_findPairs 70 = .ok (.aload_n 0, 1) := by decide +kernel
theorem dX9_findPairs_71 : decode cX9_findPairs 71 = .ok (.getfield 54, 3) := by decide +kernel
theorem dX9_findPairs_74 : decode cX9_findPairs 74 = .ok (.iload 4, 2) := by decide +kernel
theorem dX9_findPairs_76 : decode cX9_findPairs 76 = .ok (.aload_n 0, 1) := by decide +kernel
theorem dX9_findPairs_77 : decode cX9_findPairs 77 = .ok (.getfield 37, 3) := by decide +kernel
theorem dX9_findPairs_80 : decode cX9_findPairs 80 = .ok (.getfield 194, 3) := by decide +kernel
theorem dX9_findPairs_83 : decode cX9_findPairs 83 = .ok (.iload_n 1, 1) := by decide +kernel
theorem dX9_findPairs_84 : decode cX9_findPairs 84 = .ok (.iaload, 1) := by decide +kernel
theorem dX9_findPairs_85 : decode cX9_findPairs 85 = .ok (.invokevirtual 379, 3) := by decide +kernel
theorem dX9_findPairs_88 : decode cX9_findPairs 88 = .ok (.iinc 4 1, 3) := by decide +kernel
theorem dX9_findPairs_91 : decode cX9_findPairs 91 = .ok (.goto (-45), 3) := by decide +kernel
theorem dX9_findPairs_94 : decode cX9_findPairs 94 = .ok (.aload_n 0, 1) := by decide +kernel
theorem dX9_findPairs_95 : decode cX9_findPairs 95 = .ok (.getfield 54, 3) := by decide +kernel
theorem dX9_findPairs_98 : decode cX9_findPairs 98 = .ok (.aload_n 0, 1) := by decide +kernel
theorem dX9_findPairs_99 : decode cX9_findPairs 99 = .ok (.getfield 81, 3) := by decide +kernel
theorem dX9_findPairs_102 : decode cX9_findPairs 102 = .ok (.bipush 10, 2) := by decide +kernel
theorem dX9_findPairs_104 : decode cX9_findPairs 104 = .ok (.iload_n 2, 1) := by decide +kernel
theorem dX9_findPairs_105 : decode cX9_findPairs 105 = .ok (.imul, 1) := by decide +kernel
theorem dX9_findPairs_106 : decode cX9_findPairs 106 = .ok (.iload_n 3, 1) := by decide +kernel
theorem dX9_findPairs_107 : decode cX9_findPairs 107 = .ok (.iadd, 1) := by decide +kernel
theorem dX9_findPairs_108 : decode cX9_findPairs 108 = .ok (.invokevirtual 382, 3) := by decide +kernel
theorem dX9_findPairs_111 : decode cX9_findPairs 111 = .ok (.iinc 3 1, 3) := by decide +kernel
theorem dX9_findPairs_114 : decode cX9_findPairs 114 = .ok (.goto (-97), 3) := by decide +kernel
theorem dX9_findPairs_117 : decode cX9_findPairs 117 = .ok (.iinc 2 1, 3) := by decide +kernel
theorem dX9_findPairs_120 : decode cX9_findPairs 120 = .ok (.goto (-111), 3) := by decide +kernel
theorem dX9_findPairs_123 : decode cX9_findPairs 123 = .ok (.return_, 1) := by decide +kernel
theorem r_X9_findPairs_0 {d rc rs : Nat} {Q : PO → PH → Prop} {h : PH} {l0 : Nat} {l1 : Int32}
    (k : gO h (10907, l0) 500 fun o1 => isO h 10500 o1 ∧ cl d rc rs M_X5_clear [vR (500, o1)] h (kV fun h2 rc3 rs4 => PW d M_X9_findPairs Q rc3 rs4 9 [vR (900, l0), vI l1, vI (1 : Int32), vU, vU] [] h2) (fun E h2 rc3 rs4 => Q (.inr E) h2)) :
    PW d M_X9_findPairs Q rc rs 0 [vR (900, l0), vI l1, vU, vU, vU] [] h := by
  refine P_aload_n (pc := 0) dX9_findPairs_0 rfl ?_
  obtain ⟨o1, e9, k⟩ := k
  refine G9_7 (pc := 1) dX9_findPairs_1 l_X9_54 e9 ?_
  clear e9
  obtain ⟨⟨w9, e9⟩, d2, nc, ns, rc3, rs4, Qc, g1, rfl, rfl, g2, kk, kx⟩ := k
  refine P_callV (ci := 5) (k := 0) (id := o1) (q := (RX5, TX5, 4)) (As := []) (st := []) (pc := 4) dX9_findPairs_4 mk_X5_clear l_X9_375 im_X5_clear se_X5_clear ini_X5 rfl g1 (Nat.le_of_ble_eq_true rfl) rfl rfl (by decide) e9 rfl g2 (fun v9 h9 q9 => ?_) (fun E h9 q9 => PX_out rfl (kx E h9 q9))
  obtain ⟨rfl, k⟩ := kk v9 h9 q9
  clear kk kx g1 g2 q9
  refine P_iconst (v := (1 : Int32)) (pc := 7) dX9_findPairs_7 (by decide) ?_
  refine P_istore_n (pc := 8) dX9_findPairs_8 (by decide) (Or.inr (by intro z e9; cases e9)) rfl ?_
  exact k
theorem r_X9_findPairs_9 {d rc rs : Nat} {Q : PO → PH → Prop} {h : PH} {l0 : Nat} {l1 : Int32} {l2 : Int32}
    (k : br ((9 : Int32) < l2) (Q (.inl none) h) (PW d M_X9_findPairs Q rc rs 17 [vR (900, l0), vI l1, vI l2, vI (0 : Int32), vU] [] h)) :
    PW d M_X9_findPairs Q rc rs 9 [vR (900, l0), vI l1, vI l2, vU, vU] [] h := by
  refine P_iload_n (pc := 9) dX9_findPairs_9 rfl ?_
  refine P_bipush (v := (9 : Int32)) (pc := 10) dX9_findPairs_10 (by decide) ?_
  refine P_icmp_gt (tgt := 123) (pc := 12) dX9_findPairs_12 (by decide) (fun c => ?_) (fun c => ?_)
  · have k := k.1 c
    exact R_return (pc := 123) dX9_findPairs_123 rfl k
  · have k := k.2 c
    refine P_iconst (v := (0 : Int32)) (pc := 15) dX9_findPairs_15 (by decide) ?_
    refine P_istore_n (pc := 16) dX9_findPairs_16 (by decide) (Or.inr (by intro z e9; cases e9)) rfl ?_
    exact k
theorem r_X9_findPairs_17 {d rc rs : Nat} {Q : PO → PH → Prop} {h : PH} {l0 : Nat} {l1 : Int32} {l2 : Int32} {l3 : Int32}
    (k : br ((9 : Int32) < l3) (PW d M_X9_findPairs Q rc rs 9 [vR (900, l0), vI l1, vI (l2 + (1 : Int32)), vU, vU] [] h) (gO h (10904, l0) 400 fun o1 => gO h (10902, l0) 200 fun o2 => gO h (10200, o2) 400 fun o3 => gI h (10409, o3) fun x4 => isO h 10400 o1 ∧ cl d rc rs M_X4_beAlone [vR (400, o1), vI x4, vI l1, vI l2, vI l3] h (kV fun h5 rc6 rs7 => PW d M_X9_findPairs Q rc6 rs7 46 [vR (900, l0), vI l1, vI l2, vI l3, vI (1 : Int32)] [] h5) (fun E h5 rc6 rs7 => Q (.inr E) h5))) :
    PW d M_X9_findPairs Q rc rs 17 [vR (900, l0), vI l1, vI l2, vI l3, vU] [] h := by
  refine P_iload_n (pc := 17) dX9_findPairs_17 rfl ?_
  refine P_bipush (v := (9 : Int32)) (pc := 18) dX9_findPairs_18 (by decide) ?_
  refine P_icmp_gt (tgt := 117) (pc := 20) dX9_findPairs_20 (by decide) (fun c => ?_) (fun c => ?_)
  · have k := k.1 c
    refine P_iinc (v := l2 + (1 : Int32)) (pc := 117) dX9_findPairs_117 (by decide) rfl rfl (Or.inr (by intro z e9; cases e9)) rfl ?_
    refine P_goto (tgt := 9) (pc := 120) dX9_findPairs_120 (by decide) ?_
    exact P_drop (ls2 := [vR (900, l0), vI l1, vI (l2 + (1 : Int32)), vU, vU]) (ls := [vR (900, l0), vI l1, vI (l2 + (1 : Int32)), vI l3, vU]) ⟨Or.inr rfl, ⟨Or.inr rfl, ⟨Or.inr rfl, ⟨Or.inl rfl, ⟨Or.inr rfl, trivial⟩⟩⟩⟩⟩ k
  · have k := k.2 c
    refine P_aload_n (pc := 23) dX9_findPairs_23 rfl ?_
    obtain ⟨o1, e9, k⟩ := k
    refine G9_4 (pc := 24) dX9_findPairs_24 l_X9_37 e9 ?_
    clear e9
    refine P_aload_n (pc := 27) dX9_findPairs_27 rfl ?_
    obtain ⟨o2, e9, k⟩ := k
    refine G9_2 (pc := 28) dX9_findPairs_28 l_X9_26 e9 ?_
    clear e9
    obtain ⟨o3, e9, k⟩ := k
    refine GN2_0 (pc := 31) dX9_findPairs_31 n_X9_136 e9 ?_
    clear e9
    obtain ⟨x4, e9, k⟩ := k
    refine GN4_9 (pc := 34) dX9_findPairs_34 n_X9_169 e9 ?_
    clear e9
    refine P_iload_n (pc := 37) dX9_findPairs_37 rfl ?_
    refine P_iload_n (pc := 38) dX9_findPairs_38 rfl ?_
    refine P_iload_n (pc := 39) dX9_findPairs_39 rfl ?_
    obtain ⟨⟨w9, e9⟩, d2, nc, ns, rc6, rs7, Qc, g1, rfl, rfl, g2, kk, kx⟩ := k
    refine P_callV (ci := 4) (k := 0) (id := o1) (q := (RX4, TX4, 10)) (As := [vI x4, vI l1, vI l2, vI l3]) (st := []) (pc := 40) dX9_findPairs_40 mk_X4_beAlone l_X9_376 im_X4_beAlone se_X4_beAlone ini_X4 rfl g1 (Nat.le_of_ble_eq_true rfl) rfl rfl (by decide) e9 rfl g2 (fun v9 h9 q9 => ?_) (fun E h9 q9 => PX_out rfl (kx E h9 q9))
    obtain ⟨rfl, k⟩ := kk v9 h9 q9
    clear kk kx g1 g2 q9
    refine P_iconst (v := (1 : Int32)) (pc := 43) dX9_findPairs_43 (by decide) ?_
    refine P_istore (pc := 44) dX9_findPairs_44 (by decide) (Or.inr (by intro z e9; cases e9)) rfl ?_
    exact k
theorem r_X9_findPairs_46 {d rc rs : Nat} {Q : PO → PH → Prop} {h : PH} {l0 : Nat} {l1 : Int32} {l2 : Int32} {l3 : Int32} {l4 : Int32}
    (k : br ((12 : Int32) < l4) (gO h (10907, l0) 500 fun o1 => gO h (10912, l0) 0 fun o2 => isO h 10500 o1 ∧ cl d rc rs M_X5_keepIfRight [vR (500, o1), vR (0, o2), vI (((10 : Int32) * l2) + l3)] h (kV fun h3 rc4 rs5 => PW d M_X9_findPairs Q rc4 rs5 17 [vR (900, l0), vI l1, vI l2, vI (l3 + (1 : Int32)), vU] [] h3) (fun E h3 rc4 rs5 => Q (.inr E) h3)) (gO h (10904, l0) 400 fun o6 => gO h (10908, l0) 100 fun o7 => gO h (10910, l0) 300 fun o8 => isO h 10400 o6 ∧ cl d rc rs M_X4_passHour [vR (400, o6), vR (100, o7), vR (300, o8), vI (0 : Int32)] h (kI fun x12 h9 rc10 rs11 => gO h9 (10907, l0) 500 fun o13 => gO h9 (10904, l0) 400 fun o14 => gA h9 (10402, o14) fun a15 => xI h9 a15 l1 fun x16 => isO h9 10500 o13 ∧ cl d rc10 rs11 M_X5_note [vR (500, o13), vI l4, vI x16] h9 (kV fun h17 rc18 rs19 => PW d M_X9_findPairs Q rc18 rs19 46 [vR (900, l0), vI l1, vI l2, vI l3, vI (l4 + (1 : Int32))] [] h17) (fun E h17 rc18 rs19 => Q (.inr E) h17)) (fun E h9 rc10 rs11 => Q (.inr E) h9))) :
    PW d M_X9_findPairs Q rc rs 46 [vR (900, l0), vI l1, vI l2, vI l3, vI l4] [] h := by
  refine P_iload (pc := 46) dX9_findPairs_46 rfl ?_
  refine P_bipush (v := (12 : Int32)) (pc := 48) dX9_findPairs_48 (by decide) ?_
  refine P_icmp_gt (tgt := 94) (pc := 50) dX9_findPairs_50 (by decide) (fun c => ?_) (fun c => ?_)
  · have k := k.1 c
    refine P_aload_n (pc := 94) dX9_findPairs_94 rfl ?_
    obtain ⟨o1, e9, k⟩ := k
    refine G9_7 (pc := 95) dX9_findPairs_95 l_X9_54 e9 ?_
    clear e9
    refine P_aload_n (pc := 98) dX9_findPairs_98 rfl ?_
    obtain ⟨o2, e9, k⟩ := k
    refine G9_12 (pc := 99) dX9_findPairs_99 l_X9_81 e9 ?_
    clear e9
    refine P_bipush (v := (10 : Int32)) (pc := 102) dX9_findPairs_102 (by decide) ?_
    refine P_iload_n (pc := 104) dX9_findPairs_104 rfl ?_
    refine P_imul (pc := 105) dX9_findPairs_105 ?_
    refine P_iload_n (pc := 106) dX9_findPairs_106 rfl ?_
    refine P_iadd (pc := 107) dX9_findPairs_107 ?_
    obtain ⟨⟨w9, e9⟩, d2, nc, ns, rc4, rs5, Qc, g1, rfl, rfl, g2, kk, kx⟩ := k
    refine P_callV (ci := 5) (k := 0) (id := o1) (q := (RX5, TX5, 4)) (As := [vR (0, o2), vI (((10 : Int32) * l2) + l3)]) (st := []) (pc := 108) dX9_findPairs_108 mk_X5_keepIfRight l_X9_382 im_X5_keepIfRight se_X5_keepIfRight ini_X5 rfl g1 (Nat.le_of_ble_eq_true rfl) rfl rfl (by decide) e9 rfl g2 (fun v9 h9 q9 => ?_) (fun E h9 q9 => PX_out rfl (kx E h9 q9))
    obtain ⟨rfl, k⟩ := kk v9 h9 q9
    clear kk kx g1 g2 q9
    refine P_iinc (v := l3 + (1 : Int32)) (pc := 111) dX9_findPairs_111 (by decide) rfl rfl (Or.inr (by intro z e9; cases e9)) rfl ?_
    refine P_goto (tgt := 17) (pc := 114) dX9_findPairs_114 (by decide) ?_
    exact P_drop (ls2 := [vR (900, l0), vI l1, vI l2, vI (l3 + (1 : Int32)), vU]) (ls := [vR (900, l0), vI l1, vI l2, vI (l3 + (1 : Int32)), vI l4]) ⟨Or.inr rfl, ⟨Or.inr rfl, ⟨Or.inr rfl, ⟨Or.inr rfl, ⟨Or.inl rfl, trivial⟩⟩⟩⟩⟩ k
  · have k := k.2 c
    refine P_aload_n (pc := 53) dX9_findPairs_53 rfl ?_
    obtain ⟨o6, e9, k⟩ := k
    refine G9_4 (pc := 54) dX9_findPairs_54 l_X9_37 e9 ?_
    clear e9
    refine P_aload_n (pc := 57) dX9_findPairs_57 rfl ?_
    obtain ⟨o7, e9, k⟩ := k
    refine G9_8 (pc := 58) dX9_findPairs_58 l_X9_61 e9 ?_
    clear e9
    refine P_aload_n (pc := 61) dX9_findPairs_61 rfl ?_
    obtain ⟨o8, e9, k⟩ := k
    refine G9_10 (pc := 62) dX9_findPairs_62 l_X9_71 e9 ?_
    clear e9
    refine P_iconst (v := (0 : Int32)) (pc := 65) dX9_findPairs_65 (by decide) ?_
    obtain ⟨⟨w9, e9⟩, d2, nc, ns, rc10, rs11, Qc, g1, rfl, rfl, g2, kk, kx⟩ := k
    refine P_callV (ci := 4) (k := 0) (id := o6) (q := (RX4, TX4, 10)) (As := [vR (100, o7), vR (300, o8), vI (0 : Int32)]) (st := []) (pc := 66) dX9_findPairs_66 mk_X4_passHour l_X9_279 im_X4_passHour se_X4_passHour ini_X4 rfl g1 (Nat.le_of_ble_eq_true rfl) rfl rfl (by decide) e9 rfl g2 (fun v9 h9 q9 => ?_) (fun E h9 q9 => PX_out rfl (kx E h9 q9))
    obtain ⟨x12, rfl, k⟩ := kk v9 h9 q9
    clear kk kx g1 g2 q9
    refine P_pop (pc := 69) dX9_findPairs_69 (fun _ => rfl) ?_
    refine P_aload_n (pc := 70) dX9_findPairs_70 rfl ?_
    obtain ⟨o13, e9, k⟩ := k
    refine G9_7 (pc := 71) dX9_findPairs_71 l_X9_54 e9 ?_
    clear e9
    refine P_iload (pc := 74) dX9_findPairs_74 rfl ?_
    refine P_aload_n (pc := 76) dX9_findPairs_76 rfl ?_
    obtain ⟨o14, e9, k⟩ := k
    refine G9_4 (pc := 77) dX9_findPairs_77 l_X9_37 e9 ?_
    clear e9
    obtain ⟨a15, e9, k⟩ := k
    refine GN4_2 (pc := 80) dX9_findPairs_80 n_X9_194 e9 ?_
    clear e9
    refine P_iload_n (pc := 83) dX9_findPairs_83 rfl ?_
    obtain ⟨n9, f9, e9, i9, k⟩ := k
    refine P_iald (pc := 84) dX9_findPairs_84 e9 i9 ?_
    clear e9
    generalize f9 (Int32.toNatClampNeg l1) = x16 at k ⊢
    obtain ⟨⟨w9, e9⟩, d2, nc, ns, rc18, rs19, Qc, g1, rfl, rfl, g2, kk, kx⟩ := k
    refine P_callV (ci := 5) (k := 0) (id := o13) (q := (RX5, TX5, 4)) (As := [vI l4, vI x16]) (st := []) (pc := 85) dX9_findPairs_85 mk_X5_note l_X9_379 im_X5_note se_X5_note ini_X5 rfl g1 (Nat.le_of_ble_eq_true rfl) rfl rfl (by decide) e9 rfl g2 (fun v9 h9 q9 => ?_) (fun E h9 q9 => PX_out rfl (kx E h9 q9))
    obtain ⟨rfl, k⟩ := kk v9 h9 q9
    clear kk kx g1 g2 q9
    refine P_iinc (v := l4 + (1 : Int32)) (pc := 88) dX9_findPairs_88 (by decide) rfl rfl (Or.inr (by intro z e9; cases e9)) rfl ?_
    refine P_goto (tgt := 46) (pc := 91) dX9_findPairs_91 (by decide) ?_
    exact k
-- X9_lots lots(IIII)I
theorem dX9_lots_0 : decode cX9_lots 0 = .ok (.aload_n 0, 1) := by decide +kernel
theorem dX9_lots_1 : decode cX9_lots 1 = .ok (.iload_n 1, 1) := by decide +kernel
theorem dX9_lots_2 : decode cX9_lots 2 = .ok (.iconst 1, 1) := by decide +kernel
theorem dX9_lots_3 : decode cX9_lots 3 = .ok (.bipush 20, 2) := by decide +kernel
theorem dX9_lots_5 : decode cX9_lots 5 = .ok (.invokevirtual 159, 3) := by decide +kernel
theorem dX9_lots_8 : decode cX9_lots 8 = .ok (.aload_n 0, 1) := by decide +kernel
theorem dX9_lots_9 : decode cX9_lots 9 = .ok (.iload_n 2, 1) := by decide +kernel
theorem dX9_lots_10 : decode cX9_lots 10 = .ok (.iconst 0, 1) := by decide +kernel
theorem dX9_lots_11 : decode cX9_lots 11 = .ok (.iload_n 1, 1) := by decide +kernel
theorem dX9_lots_12 : decode cX9_lots 12 = .ok (.invokevirtual 159, 3) := by decide +kernel
theorem dX9_lots_15 : decode cX9_lots 15 = .ok (.aload_n 0, 1) := by decide +kernel
theorem dX9_lots_16 : decode cX9_lots 16 = .ok (.iload_n 3, 1) := by decide +kernel
theorem dX9_lots_17 : decode cX9_lots 17 = .ok (.iconst 0, 1) := by decide +kernel
theorem dX9_lots_18 : decode cX9_lots 18 = .ok (.iload_n 1, 1) := by decide +kernel
theorem dX9_lots_19 : decode cX9_lots 19 = .ok (.invokevirtual 159, 3) := by decide +kernel
theorem dX9_lots_22 : decode cX9_lots 22 = .ok (.aload_n 0, 1) := by decide +kernel
theorem dX9_lots_23 : decode cX9_lots 23 = .ok (.iload 4, 2) := by decide +kernel
theorem dX9_lots_25 : decode cX9_lots 25 = .ok (.iconst 0, 1) := by decide +kernel
theorem dX9_lots_26 : decode cX9_lots 26 = .ok (.iconst 1, 1) := by decide +kernel
theorem dX9_lots_27 : decode cX9_lots 27 = .ok (.invokevirtual 159, 3) := by decide +kernel
theorem dX9_lots_30 : decode cX9_lots 30 = .ok (.iload_n 1, 1) := by decide +kernel
theorem dX9_lots_31 : decode cX9_lots 31 = .ok (.iload_n 3, 1) := by decide +kernel
theorem dX9_lots_32 : decode cX9_lots 32 = .ok (.invokestatic 386, 3) := by decide +kernel
theorem dX9_lots_35 : decode cX9_lots 35 = .ok (.istore 5, 2) := by decide +kernel
theorem dX9_lots_37 : decode cX9_lots 37 = .ok (.iload 5, 2) := by decide +kernel
theorem dX9_lots_39 : decode cX9_lots 39 = .ok (.iload_n 1, 1) := by decide +kernel
theorem dX9_lots_40 : decode cX9_lots 40 = .ok (.iload_n 2, 1) := by decide +kernel
theorem dX9_lots_41 : decode cX9_lots 41 = .ok (.isub, 1) := by decide +kernel
theorem dX9_lots_42 : decode cX9_lots 42 = .ok (.iload_n 3, 1) := by decide +kernel
theorem dX9_lots_43 : decode cX9_lots 43 = .ok (.invokestatic 386, 3) := by decide +kernel
theorem dX9_lots_46 : decode cX9_lots 46 = .ok (.isub, 1) := by decide +kernel
theorem dX9_lots_47 : decode cX9_lots 47 = .ok (.istore 6, 2) := by decide +kernel
theorem dX9_lots_49 : decode cX9_lots 49 = .ok (.iload 6, 2) := by decide +kernel
theorem dX9_lots_51 : decode cX9_lots 51 = .ok (.iload 5, 2) := by decide +kernel
theorem dX9_lots_53 : decode cX9_lots 53 = .ok (.invokestatic 389, 3) := by decide +kernel
theorem dX9_lots_56 : decode cX9_lots 56 = .ok (.istore 7, 2) := by decide +kernel
theorem dX9_lots_58 : decode cX9_lots 58 = .ok (.iload 7, 2) := by decide +kernel
theorem dX9_lots_60 : decode cX9_lots 60 = .ok (.ifCond .gt 5, 3) := by decide +kernel
theorem dX9_lots_63 : decode cX9_lots 63 = .ok (.iconst (-1), 1) := by decide +kernel
theorem dX9_lots_64 : decode cX9_lots 64 = .ok (.ireturn, 1) := by decide +kernel
theorem dX9_lots_65 : decode cX9_lots 65 = .ok (.iload 4, 2) := by decide +kernel
theorem dX9_lots_67 : decode cX9_lots 67 = .ok (.ifCond .ne 11, 3) := by decide +kernel
theorem dX9_lots_70 : decode cX9_lots 70 = .ok (.iload 6, 2) := by decide +kernel
theorem dX9_lots_72 : decode cX9_lots 72 = .ok (.iload 7, 2) := by decide +kernel
theorem dX9_lots_74 : decode cX9_lots 74 = .ok (.idiv, 1) := by decide +kernel
theorem dX9_lots_75 : decode cX9_lots 75 = .ok (.goto 8, 3) := by decide +kernel
theorem dX9_lots_78 : decode cX9_lots 78 = .ok (.iload 5, 2) := by decide +kernel
theorem dX9_lots_80 : decode cX9_lots 80 = .ok (.iload 7, 2) := by decide +kernel
theorem dX9_lots_82 : decode cX9_lots 82 = .ok (.idiv, 1) := by decide +kernel
theorem dX9_lots_83 : decode cX9_lots 83 = .ok (.ireturn, 1) := by decide +kernel
theorem r_X9_lots_0 {d rc rs : Nat} {Q : PO → PH → Prop} {h : PH} {l0 : Nat} {l1 : Int32} {l2 : Int32} {l3 : Int32} {l4 : Int32}
    (k : isO h 10900 l0 ∧ cl d rc rs M_X9_needWithin [vR (900, l0), vI l1, vI (1 : Int32), vI (20 : Int32)] h (kV fun h1 rc2 rs3 => isO h1 10900 l0 ∧ cl d rc2 rs3 M_X9_needWithin [vR (900, l0), vI l2, vI (0 : Int32), vI l1] h1 (kV fun h4 rc5 rs6 => isO h4 10900 l0 ∧ cl d rc5 rs6 M_X9_needWithin [vR (900, l0), vI l3, vI (0 : Int32), vI l1] h4 (kV fun h7 rc8 rs9 => isO h7 10900 l0 ∧ cl d rc8 rs9 M_X9_needWithin [vR (900, l0), vI l4, vI (0 : Int32), vI (1 : Int32)] h7 (kV fun h10 rc11 rs12 => cl d rc11 rs12 M_X9_choices [vI l1, vI l3] h10 (kI fun x16 h13 rc14 rs15 => cl d rc14 rs15 M_X9_choices [vI (l1 - l2), vI l3] h13 (kI fun x20 h17 rc18 rs19 => cl d rc18 rs19 M_X9_commonDivisor [vI (x16 - x20), vI x16] h17 (kI fun x24 h21 rc22 rs23 => br (0 < x24) (br (l4 = 0) (nz x24 (Q (.inl (some (vI ((x16 - x20) / x24)))) h21)) (nz x24 (Q (.inl (some (vI (x16 / x24)))) h21))) (Q (.inl (some (vI (-1 : Int32)))) h21)) (fun E h21 rc22 rs23 => Q (.inr E) h21)) (fun E h17 rc18 rs19 => Q (.inr E) h17)) (fun E h13 rc14 rs15 => Q (.inr E) h13)) (fun E h10 rc11 rs12 => Q (.inr E) h10)) (fun E h7 rc8 rs9 => Q (.inr E) h7)) (fun E h4 rc5 rs6 => Q (.inr E) h4)) (fun E h1 rc2 rs3 => Q (.inr E) h1)) :
    PW d M_X9_lots Q rc rs 0 [vR (900, l0), vI l1, vI l2, vI l3, vI l4, vU, vU, vU] [] h := by
  refine P_aload_n (pc := 0) dX9_lots_0 rfl ?_
  refine P_iload_n (pc := 1) dX9_lots_1 rfl ?_
  refine P_iconst (v := (1 : Int32)) (pc := 2) dX9_lots_2 (by decide) ?_
  refine P_bipush (v := (20 : Int32)) (pc := 3) dX9_lots_3 (by decide) ?_
  obtain ⟨⟨w9, e9⟩, d2, nc, ns, rc2, rs3, Qc, g1, rfl, rfl, g2, kk, kx⟩ := k
  refine P_callV (ci := 9) (k := 0) (id := l0) (q := (RX9, TX9, 18)) (As := [vI l1, vI (1 : Int32), vI (20 : Int32)]) (st := []) (pc := 5) dX9_lots_5 mk_X9_needWithin l_X9_159 im_X9_needWithin se_X9_needWithin ini_X9 rfl g1 (Nat.le_of_ble_eq_true rfl) rfl rfl (by decide) e9 rfl g2 (fun v9 h9 q9 => ?_) (fun E h9 q9 => PX_out rfl (kx E h9 q9))
  obtain ⟨rfl, k⟩ := kk v9 h9 q9
  clear kk kx g1 g2 q9
  refine P_aload_n (pc := 8) dX9_lots_8 rfl ?_
  refine P_iload_n (pc := 9) dX9_lots_9 rfl ?_
  refine P_iconst (v := (0 : Int32)) (pc := 10) dX9_lots_10 (by decide) ?_
  refine P_iload_n (pc := 11) dX9_lots_11 rfl ?_
  obtain ⟨⟨w9, e9⟩, d2, nc, ns, rc5, rs6, Qc, g1, rfl, rfl, g2, kk, kx⟩ := k
  refine P_callV (ci := 9) (k := 0) (id := l0) (q := (RX9, TX9, 18)) (As := [vI l2, vI (0 : Int32), vI l1]) (st := []) (pc := 12) dX9_lots_12 mk_X9_needWithin l_X9_159 im_X9_needWithin se_X9_needWithin ini_X9 rfl g1 (Nat.le_of_ble_eq_true rfl) rfl rfl (by decide) e9 rfl g2 (fun v9 h9 q9 => ?_) (fun E h9 q9 => PX_out rfl (kx E h9 q9))
  obtain ⟨rfl, k⟩ := kk v9 h9 q9
  clear kk kx g1 g2 q9
  refine P_aload_n (pc := 15) dX9_lots_15 rfl ?_
  refine P_iload_n (pc := 16) dX9_lots_16 rfl ?_
  refine P_iconst (v := (0 : Int32)) (pc := 17) dX9_lots_17 (by decide) ?_
  refine P_iload_n (pc := 18) dX9_lots_18 rfl ?_
  obtain ⟨⟨w9, e9⟩, d2, nc, ns, rc8, rs9, Qc, g1, rfl, rfl, g2, kk, kx⟩ := k
  refine P_callV (ci := 9) (k := 0) (id := l0) (q := (RX9, TX9, 18)) (As := [vI l3, vI (0 : Int32), vI l1]) (st := []) (pc := 19) dX9_lots_19 mk_X9_needWithin l_X9_159 im_X9_needWithin se_X9_needWithin ini_X9 rfl g1 (Nat.le_of_ble_eq_true rfl) rfl rfl (by decide) e9 rfl g2 (fun v9 h9 q9 => ?_) (fun E h9 q9 => PX_out rfl (kx E h9 q9))
  obtain ⟨rfl, k⟩ := kk v9 h9 q9
  clear kk kx g1 g2 q9
  refine P_aload_n (pc := 22) dX9_lots_22 rfl ?_
  refine P_iload (pc := 23) dX9_lots_23 rfl ?_
  refine P_iconst (v := (0 : Int32)) (pc := 25) dX9_lots_25 (by decide) ?_
  refine P_iconst (v := (1 : Int32)) (pc := 26) dX9_lots_26 (by decide) ?_
  obtain ⟨⟨w9, e9⟩, d2, nc, ns, rc11, rs12, Qc, g1, rfl, rfl, g2, kk, kx⟩ := k
  refine P_callV (ci := 9) (k := 0) (id := l0) (q := (RX9, TX9, 18)) (As := [vI l4, vI (0 : Int32), vI (1 : Int32)]) (st := []) (pc := 27) dX9_lots_27 mk_X9_needWithin l_X9_159 im_X9_needWithin se_X9_needWithin ini_X9 rfl g1 (Nat.le_of_ble_eq_true rfl) rfl rfl (by decide) e9 rfl g2 (fun v9 h9 q9 => ?_) (fun E h9 q9 => PX_out rfl (kx E h9 q9))
  obtain ⟨rfl, k⟩ := kk v9 h9 q9
  clear kk kx g1 g2 q9
  refine P_iload_n (pc := 30) dX9_lots_30 rfl ?_
  refine P_iload_n (pc := 31) dX9_lots_31 rfl ?_
  obtain ⟨d2, nc, ns, rc14, rs15, Qc, g1, rfl, rfl, g2, kk, kx⟩ := k
  refine P_callS (As := [vI l1, vI l3]) (st := []) (pc := 32) dX9_lots_32 mk_X9_choices l_X9_386 st_X9_choices ini_X9 rfl g1 (Nat.le_of_ble_eq_true rfl) rfl g2 (fun v9 h9 q9 => ?_) (fun E h9 q9 => PX_out rfl (kx E h9 q9))
  obtain ⟨x16, rfl, k⟩ := kk v9 h9 q9
  clear kk kx g1 g2 q9
  refine P_istore (pc := 35) dX9_lots_35 (by decide) (Or.inr (by intro z e9; cases e9)) rfl ?_
  refine P_iload (pc := 37) dX9_lots_37 rfl ?_
  refine P_iload_n (pc := 39) dX9_lots_39 rfl ?_
  refine P_iload_n (pc := 40) dX9_lots_40 rfl ?_
  refine P_isub (pc := 41) dX9_lots_41 ?_
  refine P_iload_n (pc := 42) dX9_lots_42 rfl ?_
  obtain ⟨d2, nc, ns, rc18, rs19, Qc, g1, rfl, rfl, g2, kk, kx⟩ := k
  refine P_callS (As := [vI (l1 - l2), vI l3]) (st := [vI x16]) (pc := 43) dX9_lots_43 mk_X9_choices l_X9_386 st_X9_choices ini_X9 rfl g1 (Nat.le_of_ble_eq_true rfl) rfl g2 (fun v9 h9 q9 => ?_) (fun E h9 q9 => PX_out rfl (kx E h9 q9))
  obtain ⟨x20, rfl, k⟩ := kk v9 h9 q9
  clear kk kx g1 g2 q9
  refine P_isub (pc := 46) dX9_lots_46 ?_
  refine P_istore (pc := 47) dX9_lots_47 (by decide) (Or.inr (by intro z e9; cases e9)) rfl ?_
  refine P_iload (pc := 49) dX9_lots_49 rfl ?_
  refine P_iload (pc := 51) dX9_lots_51 rfl ?_
  obtain ⟨d2, nc, ns, rc22, rs23, Qc, g1, rfl, rfl, g2, kk, kx⟩ := k
  refine P_callS (As := [vI (x16 - x20), vI x16]) (st := []) (pc := 53) dX9_lots_53 mk_X9_commonDivisor l_X9_389 st_X9_commonDivisor ini_X9 rfl g1 (Nat.le_of_ble_eq_true rfl) rfl g2 (fun v9 h9 q9 => ?_) (fun E h9 q9 => PX_out rfl (kx E h9 q9))
  obtain ⟨x24, rfl, k⟩ := kk v9 h9 q9
  clear kk kx g1 g2 q9
  refine P_istore (pc := 56) dX9_lots_56 (by decide) (Or.inr (by intro z e9; cases e9)) rfl ?_
  refine P_iload (pc := 58) dX9_lots_58 rfl ?_
  refine P_if_gt (tgt := 65) (pc := 60) dX9_lots_60 (by decide) (fun c => ?_) (fun c => ?_)
  · have k := k.1 c
    refine P_iload (pc := 65) dX9_lots_65 rfl ?_
    refine P_if_ne (tgt := 78) (pc := 67) dX9_lots_67 (by decide) (fun c => ?_) (fun c => ?_)
    · have k := k.2 c
      refine P_iload (pc := 78) dX9_lots_78 rfl ?_
      refine P_iload (pc := 80) dX9_lots_80 rfl ?_
      refine P_idiv (pc := 82) dX9_lots_82 k.1 ?_
      replace k := k.2
      exact R_ireturn (pc := 83) dX9_lots_83 rfl rfl k
    · have k := k.1 c
      refine P_iload (pc := 70) dX9_lots_70 rfl ?_
      refine P_iload (pc := 72) dX9_lots_72 rfl ?_
      refine P_idiv (pc := 74) dX9_lots_74 k.1 ?_
      replace k := k.2
      refine P_goto (tgt := 83) (pc := 75) dX9_lots_75 (by decide) ?_
      exact R_ireturn (pc := 83) dX9_lots_83 rfl rfl k
  · have k := k.2 c
    refine P_iconst (v := (-1 : Int32)) (pc := 63) dX9_lots_63 (by decide) ?_
    exact R_ireturn (pc := 64) dX9_lots_64 rfl rfl k
-- X9_choices choices(II)I
theorem dX9_choices_0 : decode cX9_choices 0 = .ok (.iconst 1, 1) := by decide +kernel
theorem dX9_choices_1 : decode cX9_choices 1 = .ok (.istore_n 2, 1) := by decide +kernel
theorem dX9_choices_2 : decode cX9_choices 2 = .ok (.iconst 0, 1) := by decide +kernel
theorem dX9_choices_3 : decode cX9_choices 3 = .ok (.istore_n 3, 1) := by decide +kernel
theorem dX9_choices_4 : decode cX9_choices 4 = .ok (.iload_n 3, 1) := by decide +kernel
theorem dX9_choices_5 : decode cX9_choices 5 = .ok (.iload_n 1, 1) := by decide +kernel
theorem dX9_choices_6 : decode cX9_choices 6 = .ok (.if_icmp .ge 19, 3) := by decide +kernel
theorem dX9_choices_9 : decode cX9_choices 9 = .ok (.iload_n 2, 1) := by decide +kernel
theorem dX9_choices_10 : decode cX9_choices 10 = .ok (.iload_n 0, 1) := by decide +kernel
theorem dX9_choices_11 : decode cX9_choices 11 = .ok (.iload_n 3, 1) := by decide +kernel
theorem dX9_choices_12 : decode cX9_choices 12 = .ok (.isub, 1) := by decide +kernel
theorem dX9_choices_13 : decode cX9_choices 13 = .ok (.imul, 1) := by decide +kernel
theorem dX9_choices_14 : decode cX9_choices 14 = .ok (.iload_n 3, 1) := by decide +kernel
theorem dX9_choices_15 : decode cX9_choices 15 = .ok (.iconst 1, 1) := by decide +kernel
theorem dX9_choices_16 : decode cX9_choices 16 = .ok (.iadd, 1) := by decide +kernel
theorem dX9_choices_17 : decode cX9_choices 17 = .ok (.idiv, 1) := by decide +kernel
theorem dX9_choices_18 : decode cX9_choices 18 = .ok (.istore_n 2, 1) := by decide +kernel
theorem dX9_choices_19 : decode cX9_choices 19 = .ok (.iinc 3 1, 3) := by decide +kernel
theorem dX9_choices_22 : decode cX9_choices 22 = .ok (.goto (-18), 3) := by decide +kernel
theorem dX9_choices_25 : decode cX9_choices 25 = .ok (.iload_n 2, 1) := by decide +kernel
theorem dX9_choices_26 : decode cX9_choices 26 = .ok (.ireturn, 1) := by decide +kernel
theorem r_X9_choices_0 {d rc rs : Nat} {Q : PO → PH → Prop} {h : PH} {l0 : Int32} {l1 : Int32}
    (k : PW d M_X9_choices Q rc rs 4 [vI l0, vI l1, vI (1 : Int32), vI (0 : Int32)] [] h) :
    PW d M_X9_choices Q rc rs 0 [vI l0, vI l1, vU, vU] [] h := by
  refine P_iconst (v := (1 : Int32)) (pc := 0) dX9_choices_0 (by decide) ?_
  refine P_istore_n (pc := 1) dX9_choices_1 (by decide) (Or.inr (by intro z e9; cases e9)) rfl ?_
  refine P_iconst (v := (0 : Int32)) (pc := 2) dX9_choices_2 (by decide) ?_
  refine P_istore_n (pc := 3) dX9_choices_3 (by decide) (Or.inr (by intro z e9; cases e9)) rfl ?_
  exact k
theorem r_X9_choices_4 {d rc rs : Nat} {Q : PO → PH → Prop} {h : PH} {l0 : Int32} {l1 : Int32} {l2 : Int32} {l3 : Int32}
    (k : br (l3 < l1) (nz (l3 + (1 : Int32)) (PW d M_X9_choices Q rc rs 4 [vI l0, vI l1, vI ((l2 * (l0 - l3)) / (l3 + (1 : Int32))), vI (l3 + (1 : Int32))] [] h)) (Q (.inl (some (vI l2))) h)) :
    PW d M_X9_choices Q rc rs 4 [vI l0, vI l1, vI l2, vI l3] [] h := by
  refine P_iload_n (pc := 4) dX9_choices_4 rfl ?_
  refine P_iload_n (pc := 5) dX9_choices_5 rfl ?_
  refine P_icmp_ge (tgt := 25) (pc := 6) dX9_choices_6 (by decide) (fun c => ?_) (fun c => ?_)
  · have k := k.2 (Int32.not_lt.mpr c)
    refine P_iload_n (pc := 25) dX9_choices_25 rfl ?_
    exact R_ireturn (pc := 26) dX9_choices_26 rfl rfl k
  · have k := k.1 (Int32.not_le.mp c)
    refine P_iload_n (pc := 9) dX9_choices_9 rfl ?_
    refine P_iload_n (pc := 10) dX9_choices_10 rfl ?_
    refine P_iload_n (pc := 11) dX9_choices_11 rfl ?_
    refine P_isub (pc := 12) dX9_choices_12 ?_
    refine P_imul (pc := 13) dX9_choices_13 ?_
    refine P_iload_n (pc := 14) dX9_choices_14 rfl ?_
    refine P_iconst (v := (1 : Int32)) (pc := 15) dX9_choices_15 (by decide) ?_
    refine P_iadd (pc := 16) dX9_choices_16 ?_
    refine P_idiv (pc := 17) dX9_choices_17 k.1 ?_
    replace k := k.2
    refine P_istore_n (pc := 18) dX9_choices_18 (by decide) (Or.inr (by intro z e9; cases e9)) rfl ?_
    refine P_iinc (v := l3 + (1 : Int32)) (pc := 19) dX9_choices_19 (by decide) rfl rfl (Or.inr (by intro z e9; cases e9)) rfl ?_
    refine P_goto (tgt := 4) (pc := 22) dX9_choices_22 (by decide) ?_
    exact k
-- X9_commonDivisor commonDivisor(II)I
theorem dX9_commonDivisor_0 : decode cX9_commonDivisor 0 = .ok (.iload_n 0, 1) := by decide +kernel
theorem dX9_commonDivisor_1 : decode cX9_commonDivisor 1 = .ok (.iload_n 1, 1) := by decide +kernel
theorem dX9_commonDivisor_2 : decode cX9_commonDivisor 2 = .ok (.invokestatic 309, 3) := by decide +kernel
theorem dX9_commonDivisor_5 : decode cX9_commonDivisor 5 = .ok (.istore_n 2, 1) := by decide +kernel
theorem dX9_commonDivisor_6 : decode cX9_commonDivisor 6 = .ok (.iload_n 0, 1) := by decide +kernel
theorem dX9_commonDivisor_7 : decode cX9_commonDivisor 7 = .ok (.iload_n 1, 1) := by decide +kernel
theorem dX9_commonDivisor_8 : decode cX9_commonDivisor 8 = .ok (.invokestatic 306, 3) := by decide +kernel
theorem dX9_commonDivisor_11 : decode cX9_commonDivisor 11 = .ok (.istore_n 3, 1) := by decide +kernel
theorem dX9_commonDivisor_12 : decode cX9_commonDivisor 12 = .ok (.iconst 0, 1) := by decide +kernel
theorem dX9_commonDivisor_13 : decode cX9_commonDivisor 13 = .ok (.istore 4, 2) := by decide +kernel
theorem dX9_commonDivisor_15 : decode cX9_commonDivisor 15 = .ok (.iload 4, 2) := by decide +kernel
theorem dX9_commonDivisor_17 : decode cX9_commonDivisor 17 = .ok (.bipush 100, 2) := by decide +kernel
theorem dX9_commonDivisor_19 : decode cX9_commonDivisor 19 = .ok (.if_icmp .ge 23, 3) := by decide +kernel
theorem dX9_commonDivisor_22 : decode cX9_commonDivisor 22 = .ok (.iload_n 3, 1) := by decide +kernel
theorem dX9_commonDivisor_23 : decode cX9_commonDivisor 23 = .ok (.ifCond .le 19, 3) := by decide +kernel
theorem dX9_commonDivisor_26 : decode cX9_commonDivisor 26 = .ok (.iload_n 2, 1) := by decide +kernel
theorem dX9_commonDivisor_27 : decode cX9_commonDivisor 27 = .ok (.iload_n 3, 1) := by decide +kernel
theorem dX9_commonDivisor_28 : decode cX9_commonDivisor 28 = .ok (.irem, 1) := by decide +kernel
theorem dX9_commonDivisor_29 : decode cX9_commonDivisor 29 = .ok (.istore 5, 2) := by decide +kernel
theorem dX9_commonDivisor_31 : decode cX9_commonDivisor 31 = .ok (.iload_n 3, 1) := by decide +kernel
theorem dX9_commonDivisor_32 : decode cX9_commonDivisor 32 = .ok (.istore_n 2, 1) := by decide +kernel
theorem dX9_commonDivisor_33 : decode cX9_commonDivisor 33 = .ok (.iload 5, 2) := by decide +kernel
theorem dX9_commonDivisor_35 : decode cX9_commonDivisor 35 = .ok (.istore_n 3, 1) := by decide +kernel
theorem dX9_commonDivisor_36 : decode cX9_commonDivisor 36 = .ok (.iinc 4 1, 3) := by decide +kernel
theorem dX9_commonDivisor_39 : decode cX9_commonDivisor 39 = .ok (.goto (-24), 3) := by decide +kernel
theorem dX9_commonDivisor_42 : decode cX9_commonDivisor 42 = .ok (.iload_n 2, 1) := by decide +kernel
theorem dX9_commonDivisor_43 : decode cX9_commonDivisor 43 = .ok (.ireturn, 1) := by decide +kernel
theorem r_X9_commonDivisor_0 {d rc rs : Nat} {Q : PO → PH → Prop} {h : PH} {l0 : Int32} {l1 : Int32}
    (k : cl d rc rs M_J9_max_7cf53 [vI l0, vI l1] h (kI fun x4 h1 rc2 rs3 => cl d rc2 rs3 M_J9_min_7cf53 [vI l0, vI l1] h1 (kI fun x8 h5 rc6 rs7 => PW d M_X9_commonDivisor Q rc6 rs7 15 [vU, vU, vI x4, vI x8, vI (0 : Int32), vU] [] h5) (fun E h5 rc6 rs7 => Q (.inr E) h5)) (fun E h1 rc2 rs3 => Q (.inr E) h1)) :
    PW d M_X9_commonDivisor Q rc rs 0 [vI l0, vI l1, vU, vU, vU, vU] [] h := by
  refine P_iload_n (pc := 0) dX9_commonDivisor_0 rfl ?_
  refine P_iload_n (pc := 1) dX9_commonDivisor_1 rfl ?_
  obtain ⟨d2, nc, ns, rc2, rs3, Qc, g1, rfl, rfl, g2, kk, kx⟩ := k
  refine P_callS (As := [vI l0, vI l1]) (st := []) (pc := 2) dX9_commonDivisor_2 mk_J9_max_7cf53 l_X9_309 st_J9_max_7cf53 ini_J9 rfl g1 (Nat.le_of_ble_eq_true rfl) rfl g2 (fun v9 h9 q9 => ?_) (fun E h9 q9 => PX_out rfl (kx E h9 q9))
  obtain ⟨x4, rfl, k⟩ := kk v9 h9 q9
  clear kk kx g1 g2 q9
  refine P_istore_n (pc := 5) dX9_commonDivisor_5 (by decide) (Or.inr (by intro z e9; cases e9)) rfl ?_
  refine P_iload_n (pc := 6) dX9_commonDivisor_6 rfl ?_
  refine P_iload_n (pc := 7) dX9_commonDivisor_7 rfl ?_
  obtain ⟨d2, nc, ns, rc6, rs7, Qc, g1, rfl, rfl, g2, kk, kx⟩ := k
  refine P_callS (As := [vI l0, vI l1]) (st := []) (pc := 8) dX9_commonDivisor_8 mk_J9_min_7cf53 l_X9_306 st_J9_min_7cf53 ini_J9 rfl g1 (Nat.le_of_ble_eq_true rfl) rfl g2 (fun v9 h9 q9 => ?_) (fun E h9 q9 => PX_out rfl (kx E h9 q9))
  obtain ⟨x8, rfl, k⟩ := kk v9 h9 q9
  clear kk kx g1 g2 q9
  refine P_istore_n (pc := 11) dX9_commonDivisor_11 (by decide) (Or.inr (by intro z e9; cases e9)) rfl ?_
  refine P_iconst (v := (0 : Int32)) (pc := 12) dX9_commonDivisor_12 (by decide) ?_
  refine P_istore (pc := 13) dX9_commonDivisor_13 (by decide) (Or.inr (by intro z e9; cases e9)) rfl ?_
  exact P_drop (ls2 := [vU, vU, vI x4, vI x8, vI (0 : Int32), vU]) (ls := [vI l0, vI l1, vI x4, vI x8, vI (0 : Int32), vU]) ⟨Or.inl rfl, ⟨Or.inl rfl, ⟨Or.inr rfl, ⟨Or.inr rfl, ⟨Or.inr rfl, ⟨Or.inr rfl, trivial⟩⟩⟩⟩⟩⟩ k
theorem r_X9_commonDivisor_15 {d rc rs : Nat} {Q : PO → PH → Prop} {h : PH} {l2 : Int32} {l3 : Int32} {l4 : Int32}
    (k : br (l4 < (100 : Int32)) (br (0 < l3) (nz l3 (PW d M_X9_commonDivisor Q rc rs 15 [vU, vU, vI l3, vI (l2 - l2 / l3 * l3), vI (l4 + (1 : Int32)), vU] [] h)) (Q (.inl (some (vI l2))) h)) (Q (.inl (some (vI l2))) h)) :
    PW d M_X9_commonDivisor Q rc rs 15 [vU, vU, vI l2, vI l3, vI l4, vU] [] h := by
  refine P_iload (pc := 15) dX9_commonDivisor_15 rfl ?_
  refine P_bipush (v := (100 : Int32)) (pc := 17) dX9_commonDivisor_17 (by decide) ?_
  refine P_icmp_ge (tgt := 42) (pc := 19) dX9_commonDivisor_19 (by decide) (fun c => ?_) (fun c => ?_)
  · have k := k.2 (Int32.not_lt.mpr c)
    refine P_iload_n (pc := 42) dX9_commonDivisor_42 rfl ?_
    exact R_ireturn (pc := 43) dX9_commonDivisor_43 rfl rfl k
  · have k := k.1 (Int32.not_le.mp c)
    refine P_iload_n (pc := 22) dX9_commonDivisor_22 rfl ?_
    refine P_if_le (tgt := 42) (pc := 23) dX9_commonDivisor_23 (by decide) (fun c => ?_) (fun c => ?_)
    · have k := k.2 (Int32.not_lt.mpr c)
      refine P_iload_n (pc := 42) dX9_commonDivisor_42 rfl ?_
      exact R_ireturn (pc := 43) dX9_commonDivisor_43 rfl rfl k
    · have k := k.1 (Int32.not_le.mp c)
      refine P_iload_n (pc := 26) dX9_commonDivisor_26 rfl ?_
      refine P_iload_n (pc := 27) dX9_commonDivisor_27 rfl ?_
      refine P_irem (pc := 28) dX9_commonDivisor_28 k.1 ?_
      replace k := k.2
      refine P_istore (pc := 29) dX9_commonDivisor_29 (by decide) (Or.inr (by intro z e9; cases e9)) rfl ?_
      refine P_iload_n (pc := 31) dX9_commonDivisor_31 rfl ?_
      refine P_istore_n (pc := 32) dX9_commonDivisor_32 (by decide) (Or.inr (by intro z e9; cases e9)) rfl ?_
      refine P_iload (pc := 33) dX9_commonDivisor_33 rfl ?_
      refine P_istore_n (pc := 35) dX9_commonDivisor_35 (by decide) (Or.inr (by intro z e9; cases e9)) rfl ?_
      refine P_iinc (v := l4 + (1 : Int32)) (pc := 36) dX9_commonDivisor_36 (by decide) rfl rfl (Or.inr (by intro z e9; cases e9)) rfl ?_
      refine P_goto (tgt := 15) (pc := 39) dX9_commonDivisor_39 (by decide) ?_
      exact P_drop (ls2 := [vU, vU, vI l3, vI (l2 - l2 / l3 * l3), vI (l4 + (1 : Int32)), vU]) (ls := [vU, vU, vI l3, vI (l2 - l2 / l3 * l3), vI (l4 + (1 : Int32)), vI (l2 - l2 / l3 * l3)]) ⟨Or.inr rfl, ⟨Or.inr rfl, ⟨Or.inr rfl, ⟨Or.inr rfl, ⟨Or.inr rfl, ⟨Or.inl rfl, trivial⟩⟩⟩⟩⟩⟩ k
-- X9_regents regents(III)I
theorem dX9_regents_0 : decode cX9_regents 0 = .ok (.aload_n 0, 1) := by decide +kernel
theorem dX9_regents_1 : decode cX9_regents 1 = .ok (.iload_n 1, 1) := by decide +kernel
theorem dX9_regents_2 : decode cX9_regents 2 = .ok (.iconst 0, 1) := by decide +kernel
theorem dX9_regents_3 : decode cX9_regents 3 = .ok (.bipush 99, 2) := by decide +kernel
theorem dX9_regents_5 : decode cX9_regents 5 = .ok (.invokevirtual 159, 3) := by decide +kernel
theorem dX9_regents_8 : decode cX9_regents 8 = .ok (.aload_n 0, 1) := by decide +kernel
theorem dX9_regents_9 : decode cX9_regents 9 = .ok (.iload_n 2, 1) := by decide +kernel
theorem dX9_regents_10 : decode cX9_regents 10 = .ok (.iconst 0, 1) := by decide +kernel
theorem dX9_regents_11 : decode cX9_regents 11 = .ok (.bipush 99, 2) := by decide +kernel
theorem dX9_regents_13 : decode cX9_regents 13 = .ok (.invokevirtual 159, 3) := by decide +kernel
theorem dX9_regents_16 : decode cX9_regents 16 = .ok (.aload_n 0, 1) := by decide +kernel
theorem dX9_regents_17 : decode cX9_regents 17 = .ok (.iload_n 3, 1) := by decide +kernel
theorem dX9_regents_18 : decode cX9_regents 18 = .ok (.iconst 0, 1) := by decide +kernel
theorem dX9_regents_19 : decode cX9_regents 19 = .ok (.iconst 2, 1) := by decide +kernel
theorem dX9_regents_20 : decode cX9_regents 20 = .ok (.invokevirtual 159, 3) := by decide +kernel
theorem dX9_regents_23 : decode cX9_regents 23 = .ok (.iconst 0, 1) := by decide +kernel
theorem dX9_regents_24 : decode cX9_regents 24 = .ok (.istore 4, 2) := by decide +kernel
theorem dX9_regents_26 : decode cX9_regents 26 = .ok (.iconst (-1), 1) := by decide +kernel
theorem dX9_regents_27 : decode cX9_regents 27 = .ok (.istore 5, 2) := by decide +kernel
theorem dX9_regents_29 : decode cX9_regents 29 = .ok (.iconst 0, 1) := by decide +kernel
theorem dX9_regents_30 : decode cX9_regents 30 = .ok (.istore 6, 2) := by decide +kernel
theorem dX9_regents_32 : decode cX9_regents 32 = .ok (.iload 6, 2) := by decide +kernel
theorem dX9_regents_34 : decode cX9_regents 34 = .ok (.iconst 1, 1) := by decide +kernel
theorem dX9_regents_35 : decode cX9_regents 35 = .ok (.if_icmp .gt 60, 3) := by decide +kernel
theorem dX9_regents_38 : decode cX9_regents 38 = .ok (.iconst 0, 1) := by decide +kernel
theorem dX9_regents_39 : decode cX9_regents 39 = .ok (.istore 7, 2) := by decide +kernel
theorem dX9_regents_41 : decode cX9_regents 41 = .ok (.iload 7, 2) := by decide +kernel
theorem dX9_regents_43 : decode cX9_regents 43 = .ok (.iconst 1, 1) := by decide +kernel
theorem dX9_regents_44 : decode cX9_regents 44 = .ok (.if_icmp .gt 45, 3) := by decide +kernel
theorem dX9_regents_47 : decode cX9_regents 47 = .ok (.iload 6, 2) := by decide +kernel
theorem dX9_regents_49 : decode cX9_regents 49 = .ok (.iload 7, 2) := by decide +kernel
theorem dX9_regents_51 : decode cX9_regents 51 = .ok (.iload_n 1, 1) := by decide +kernel
theorem dX9_regents_52 : decode cX9_regents 52 = .ok (.iload_n 2, 1) := by decide +kernel
theorem dX9_regents_53 : decode cX9_regents 53 = .ok (.invokestatic 392, 3) := by decide +kernel
theorem dX9_regents_56 : decode cX9_regents 56 = .ok (.ifCond .eq 27, 3) := by decide +kernel
theorem dX9_regents_59 : decode cX9_regents 59 = .ok (.iinc 4 1, 3) := by decide +kernel
theorem dX9_regents_62 : decode cX9_regents 62 = .ok (.iload 5, 2) := by decide +kernel
theorem dX9_regents_64 : decode cX9_regents 64 = .ok (.iconst (-1), 1) := by decide +kernel
theorem dX9_regents_65 : decode cX9_regents 65 = .ok (.if_icmp .ne 14, 3) := by decide +kernel
theorem dX9_regents_68 : decode cX9_regents 68 = .ok (.bipush 10, 2) := by decide +kernel
theorem dX9_regents_70 : decode cX9_regents 70 = .ok (.iload 6, 2) := by decide +kernel
theorem dX9_regents_72 : decode cX9_regents 72 = .ok (.imul, 1) := by decide +kernel
theorem dX9_regents_73 : decode cX9_regents 73 = .ok (.iload 7, 2) := by decide +kernel
theorem dX9_regents_75 : decode cX9_regents 75 = .ok (.iadd, 1) := by decide +kernel
theorem dX9_regents_76 : decode cX9_regents 76 = .ok (.goto 5, 3) := by decide +kernel
theorem dX9_regents_79 : decode cX9_regents 79 = .ok (.iload 5, 2) := by decide +kernel
theorem dX9_regents_81 : decode cX9_regents 81 = .ok (.istore 5, 2) := by decide +kernel
theorem dX9_regents_83 : decode cX9_regents 83 = .ok (.iinc 7 1, 3) := by decide +kernel
theorem dX9_regents_86 : decode cX9_regents 86 = .ok (.goto (-45), 3) := by decide +kernel
theorem dX9_regents_89 : decode cX9_regents 89 = .ok (.iinc 6 1, 3) := by decide +kernel
theorem dX9_regents_92 : decode cX9_regents 92 = .ok (.goto (-60), 3) := by decide +kernel
theorem dX9_regents_95 : decode cX9_regents 95 = .ok (.iload_n 3, 1) := by decide +kernel
theorem dX9_regents_96 : decode cX9_regents 96 = .ok (.lookupswitch 34 #[(0, 28), (1, 31)], 28) := by decide +kernel
theorem dX9_regents_124 : decode cX9_regents 124 = .ok (.iload 4, 2) := by decide +kernel
theorem dX9_regents_126 : decode cX9_regents 126 = .ok (.ireturn, 1) := by decide +kernel
theorem dX9_regents_127 : decode cX9_regents 127 = .ok (.iload 5, 2) := by decide +kernel
theorem dX9_regents_129 : decode cX9_regents 129 = .ok (.ireturn, 1) := by decide +kernel
theorem dX9_regents_130 : decode cX9_regents 130 = .ok (.iload 5, 2) := by decide +kernel
theorem dX9_regents_132 : decode cX9_regents 132 = .ok (.iconst (-1), 1) := by decide +kernel
theorem dX9_regents_133 : decode cX9_regents 133 = .ok (.if_icmp .ne 7, 3) := by decide +kernel
theorem dX9_regents_136 : decode cX9_regents 136 = .ok (.iconst 0, 1) := by decide +kernel
theorem dX9_regents_137 : decode cX9_regents 137 = .ok (.goto 18, 3) := by decide +kernel
theorem dX9_regents_140 : decode cX9_regents 140 = .ok (.iload 5, 2) := by decide +kernel
theorem dX9_regents_142 : decode cX9_regents 142 = .ok (.bipush 10, 2) := by decide +kernel
theorem dX9_regents_144 : decode cX9_regents 144 = .ok (.idiv, 1) := by decide +kernel
theorem dX9_regents_145 : decode cX9_regents 145 = .ok (.iload 5, 2) := by decide +kernel
theorem dX9_regents_147 : decode cX9_regents 147 = .ok (.bipush 10, 2) := by decide +kernel
theorem dX9_regents_149 : decode cX9_regents 149 = .ok (.irem, 1) := by decide +kernel
theorem dX9_regents_150 : decode cX9_regents 150 = .ok (.iload_n 1, 1) := by decide +kernel
theorem dX9_regents_151 : decode cX9_regents 151 = .ok (.iload_n 2, 1) := by decide +kernel
theorem dX9_regents_152 : decode cX9_regents 152 = .ok (.invokestatic 395, 3) := by decide +kernel
theorem dX9_regents_155 : decode cX9_regents 155 = .ok (.ireturn, 1) := by decide +kernel
theorem r_X9_regents_0 {d rc rs : Nat} {Q : PO → PH → Prop} {h : PH} {l0 : Nat} {l1 : Int32} {l2 : Int32} {l3 : Int32}
    (k : isO h 10900 l0 ∧ cl d rc rs M_X9_needWithin [vR (900, l0), vI l1, vI (0 : Int32), vI (99 : Int32)] h (kV fun h1 rc2 rs3 => isO h1 10900 l0 ∧ cl d rc2 rs3 M_X9_needWithin [vR (900, l0), vI l2, vI (0 : Int32), vI (99 : Int32)] h1 (kV fun h4 rc5 rs6 => isO h4 10900 l0 ∧ cl d rc5 rs6 M_X9_needWithin [vR (900, l0), vI l3, vI (0 : Int32), vI (2 : Int32)] h4 (kV fun h7 rc8 rs9 => PW d M_X9_regents Q rc8 rs9 32 [vU, vI l1, vI l2, vI l3, vI (0 : Int32), vI (-1 : Int32), vI (0 : Int32), vU] [] h7) (fun E h7 rc8 rs9 => Q (.inr E) h7)) (fun E h4 rc5 rs6 => Q (.inr E) h4)) (fun E h1 rc2 rs3 => Q (.inr E) h1)) :
    PW d M_X9_regents Q rc rs 0 [vR (900, l0), vI l1, vI l2, vI l3, vU, vU, vU, vU] [] h := by
  refine P_aload_n (pc := 0) dX9_regents_0 rfl ?_
  refine P_iload_n (pc := 1) dX9_regents_1 rfl ?_
  refine P_iconst (v := (0 : Int32)) (pc := 2) dX9_regents_2 (by decide) ?_
  refine P_bipush (v := (99 : Int32)) (pc := 3) dX9_regents_3 (by decide) ?_
  obtain ⟨⟨w9, e9⟩, d2, nc, ns, rc2, rs3, Qc, g1, rfl, rfl, g2, kk, kx⟩ := k
  refine P_callV (ci := 9) (k := 0) (id := l0) (q := (RX9, TX9, 18)) (As := [vI l1, vI (0 : Int32), vI (99 : Int32)]) (st := []) (pc := 5) dX9_regents_5 mk_X9_needWithin l_X9_159 im_X9_needWithin se_X9_needWithin ini_X9 rfl g1 (Nat.le_of_ble_eq_true rfl) rfl rfl (by decide) e9 rfl g2 (fun v9 h9 q9 => ?_) (fun E h9 q9 => PX_out rfl (kx E h9 q9))
  obtain ⟨rfl, k⟩ := kk v9 h9 q9
  clear kk kx g1 g2 q9
  refine P_aload_n (pc := 8) dX9_regents_8 rfl ?_
  refine P_iload_n (pc := 9) dX9_regents_9 rfl ?_
  refine P_iconst (v := (0 : Int32)) (pc := 10) dX9_regents_10 (by decide) ?_
  refine P_bipush (v := (99 : Int32)) (pc := 11) dX9_regents_11 (by decide) ?_
  obtain ⟨⟨w9, e9⟩, d2, nc, ns, rc5, rs6, Qc, g1, rfl, rfl, g2, kk, kx⟩ := k
  refine P_callV (ci := 9) (k := 0) (id := l0) (q := (RX9, TX9, 18)) (As := [vI l2, vI (0 : Int32), vI (99 : Int32)]) (st := []) (pc := 13) dX9_regents_13 mk_X9_needWithin l_X9_159 im_X9_needWithin se_X9_needWithin ini_X9 rfl g1 (Nat.le_of_ble_eq_true rfl) rfl rfl (by decide) e9 rfl g2 (fun v9 h9 q9 => ?_) (fun E h9 q9 => PX_out rfl (kx E h9 q9))
  obtain ⟨rfl, k⟩ := kk v9 h9 q9
  clear kk kx g1 g2 q9
  refine P_aload_n (pc := 16) dX9_regents_16 rfl ?_
  refine P_iload_n (pc := 17) dX9_regents_17 rfl ?_
  refine P_iconst (v := (0 : Int32)) (pc := 18) dX9_regents_18 (by decide) ?_
  refine P_iconst (v := (2 : Int32)) (pc := 19) dX9_regents_19 (by decide) ?_
  obtain ⟨⟨w9, e9⟩, d2, nc, ns, rc8, rs9, Qc, g1, rfl, rfl, g2, kk, kx⟩ := k
  refine P_callV (ci := 9) (k := 0) (id := l0) (q := (RX9, TX9, 18)) (As := [vI l3, vI (0 : Int32), vI (2 : Int32)]) (st := []) (pc := 20) dX9_regents_20 mk_X9_needWithin l_X9_159 im_X9_needWithin se_X9_needWithin ini_X9 rfl g1 (Nat.le_of_ble_eq_true rfl) rfl rfl (by decide) e9 rfl g2 (fun v9 h9 q9 => ?_) (fun E h9 q9 => PX_out rfl (kx E h9 q9))
  obtain ⟨rfl, k⟩ := kk v9 h9 q9
  clear kk kx g1 g2 q9
  refine P_iconst (v := (0 : Int32)) (pc := 23) dX9_regents_23 (by decide) ?_
  refine P_istore (pc := 24) dX9_regents_24 (by decide) (Or.inr (by intro z e9; cases e9)) rfl ?_
  refine P_iconst (v := (-1 : Int32)) (pc := 26) dX9_regents_26 (by decide) ?_
  refine P_istore (pc := 27) dX9_regents_27 (by decide) (Or.inr (by intro z e9; cases e9)) rfl ?_
  refine P_iconst (v := (0 : Int32)) (pc := 29) dX9_regents_29 (by decide) ?_
  refine P_istore (pc := 30) dX9_regents_30 (by decide) (Or.inr (by intro z e9; cases e9)) rfl ?_
  exact P_drop (ls2 := [vU, vI l1, vI l2, vI l3, vI (0 : Int32), vI (-1 : Int32), vI (0 : Int32), vU]) (ls := [vR (900, l0), vI l1, vI l2, vI l3, vI (0 : Int32), vI (-1 : Int32), vI (0 : Int32), vU]) ⟨Or.inl rfl, ⟨Or.inr rfl, ⟨Or.inr rfl, ⟨Or.inr rfl, ⟨Or.inr rfl, ⟨Or.inr rfl, ⟨Or.inr rfl, ⟨Or.inr rfl, trivial⟩⟩⟩⟩⟩⟩⟩⟩ k
theorem r_X9_regents_32 {d rc rs : Nat} {Q : PO → PH → Prop} {h : PH} {l1 : Int32} {l2 : Int32} {l3 : Int32} {l4 : Int32} {l5 : Int32} {l6 : Int32}
    (k : br ((1 : Int32) < l6) ((l3 = (0 : Int32) → Q (.inl (some (vI l4))) h) ∧ (l3 = (1 : Int32) → Q (.inl (some (vI l5))) h) ∧ (¬ l3 = (0 : Int32) ∧ ¬ l3 = (1 : Int32) → br (l5 = (-1 : Int32)) (Q (.inl (some (vI (0 : Int32)))) h) (nz (10 : Int32) (nz (10 : Int32) (cl d rc rs M_X9_bothHave [vI (l5 / (10 : Int32)), vI (l5 - l5 / (10 : Int32) * (10 : Int32)), vI l1, vI l2] h (kI fun x4 h1 rc2 rs3 => Q (.inl (some (vI x4))) h1) (fun E h1 rc2 rs3 => Q (.inr E) h1)))))) (PW d M_X9_regents Q rc rs 41 [vU, vI l1, vI l2, vI l3, vI l4, vI l5, vI l6, vI (0 : Int32)] [] h)) :
    PW d M_X9_regents Q rc rs 32 [vU, vI l1, vI l2, vI l3, vI l4, vI l5, vI l6, vU] [] h := by
  refine P_iload (pc := 32) dX9_regents_32 rfl ?_
  refine P_iconst (v := (1 : Int32)) (pc := 34) dX9_regents_34 (by decide) ?_
  refine P_icmp_gt (tgt := 95) (pc := 35) dX9_regents_35 (by decide) (fun c => ?_) (fun c => ?_)
  · have k := k.1 c
    refine P_iload_n (pc := 95) dX9_regents_95 rfl ?_
    by_cases c0 : l3 = (0 : Int32)
    · replace k := k.1 c0
      refine P_lookup (pc := 96) (tgt := 124) dX9_regents_96 (by decide) (by rw [c0] <;> rfl) (by decide) ?_
      refine P_iload (pc := 124) dX9_regents_124 rfl ?_
      exact R_ireturn (pc := 126) dX9_regents_126 rfl rfl k
    replace k := k.2
    by_cases c1 : l3 = (1 : Int32)
    · replace k := k.1 c1
      refine P_lookup (pc := 96) (tgt := 127) dX9_regents_96 (by decide) (by rw [c1] <;> rfl) (by decide) ?_
      refine P_iload (pc := 127) dX9_regents_127 rfl ?_
      exact R_ireturn (pc := 129) dX9_regents_129 rfl rfl k
    replace k := k.2
    replace k := k ⟨c0, c1⟩
    refine P_lookup (off := 34) (pc := 96) (tgt := 130) dX9_regents_96 (by decide) ?_ (by decide) ?_
    · exact lko (List.forall_mem_cons.mpr ⟨Ne.symm (ti_ne c0), (List.forall_mem_cons.mpr ⟨Ne.symm (ti_ne c1), (fun _ h9 => nomatch h9)⟩)⟩)
    refine P_iload (pc := 130) dX9_regents_130 rfl ?_
    refine P_iconst (v := (-1 : Int32)) (pc := 132) dX9_regents_132 (by decide) ?_
    refine P_icmp_ne (tgt := 140) (pc := 133) dX9_regents_133 (by decide) (fun c => ?_) (fun c => ?_)
    · have k := k.2 c
      refine P_iload (pc := 140) dX9_regents_140 rfl ?_
      refine P_bipush (v := (10 : Int32)) (pc := 142) dX9_regents_142 (by decide) ?_
      refine P_idiv (pc := 144) dX9_regents_144 k.1 ?_
      replace k := k.2
      refine P_iload (pc := 145) dX9_regents_145 rfl ?_
      refine P_bipush (v := (10 : Int32)) (pc := 147) dX9_regents_147 (by decide) ?_
      refine P_irem (pc := 149) dX9_regents_149 k.1 ?_
      replace k := k.2
      refine P_iload_n (pc := 150) dX9_regents_150 rfl ?_
      refine P_iload_n (pc := 151) dX9_regents_151 rfl ?_
      obtain ⟨d2, nc, ns, rc2, rs3, Qc, g1, rfl, rfl, g2, kk, kx⟩ := k
      refine P_callS (As := [vI (l5 / (10 : Int32)), vI (l5 - l5 / (10 : Int32) * (10 : Int32)), vI l1, vI l2]) (st := []) (pc := 152) dX9_regents_152 mk_X9_bothHave l_X9_395 st_X9_bothHave ini_X9 rfl g1 (Nat.le_of_ble_eq_true rfl) rfl g2 (fun v9 h9 q9 => ?_) (fun E h9 q9 => PX_out rfl (kx E h9 q9))
      obtain ⟨x4, rfl, k⟩ := kk v9 h9 q9
      clear kk kx g1 g2 q9
      exact R_ireturn (pc := 155) dX9_regents_155 rfl rfl k
    · have k := k.1 c
      refine P_iconst (v := (0 : Int32)) (pc := 136) dX9_regents_136 (by decide) ?_
      refine P_goto (tgt := 155) (pc := 137) dX9_regents_137 (by decide) ?_
      exact R_ireturn (pc := 155) dX9_regents_155 rfl rfl k
  · have k := k.2 c
    refine P_iconst (v := (0 : Int32)) (pc := 38) dX9_regents_38 (by decide) ?_
    refine P_istore (pc := 39) dX9_regents_39 (by decide) (Or.inr (by intro z e9; cases e9)) rfl ?_
    exact k
theorem r_X9_regents_41 {d rc rs : Nat} {Q : PO → PH → Prop} {h : PH} {l1 : Int32} {l2 : Int32} {l3 : Int32} {l4 : Int32} {l5 : Int32} {l6 : Int32} {l7 : Int32}
    (k : br ((1 : Int32) < l7) (PW d M_X9_regents Q rc rs 32 [vU, vI l1, vI l2, vI l3, vI l4, vI l5, vI (l6 + (1 : Int32)), vU] [] h) (cl d rc rs M_X9_rests [vI l6, vI l7, vI l1, vI l2] h (kI fun x4 h1 rc2 rs3 => br (x4 = 0) (PW d M_X9_regents Q rc2 rs3 41 [vU, vI l1, vI l2, vI l3, vI l4, vI l5, vI l6, vI (l7 + (1 : Int32))] [] h1) (br (l5 = (-1 : Int32)) (PW d M_X9_regents Q rc2 rs3 41 [vU, vI l1, vI l2, vI l3, vI (l4 + (1 : Int32)), vI (((10 : Int32) * l6) + l7), vI l6, vI (l7 + (1 : Int32))] [] h1) (PW d M_X9_regents Q rc2 rs3 41 [vU, vI l1, vI l2, vI l3, vI (l4 + (1 : Int32)), vI l5, vI l6, vI (l7 + (1 : Int32))] [] h1))) (fun E h1 rc2 rs3 => Q (.inr E) h1))) :
    PW d M_X9_regents Q rc rs 41 [vU, vI l1, vI l2, vI l3, vI l4, vI l5, vI l6, vI l7] [] h := by
  refine P_iload (pc := 41) dX9_regents_41 rfl ?_
  refine P_iconst (v := (1 : Int32)) (pc := 43) dX9_regents_43 (by decide) ?_
  refine P_icmp_gt (tgt := 89) (pc := 44) dX9_regents_44 (by decide) (fun c => ?_) (fun c => ?_)
  · have k := k.1 c
    refine P_iinc (v := l6 + (1 : Int32)) (pc := 89) dX9_regents_89 (by decide) rfl rfl (Or.inr (by intro z e9; cases e9)) rfl ?_
    refine P_goto (tgt := 32) (pc := 92) dX9_regents_92 (by decide) ?_
    exact P_drop (ls2 := [vU, vI l1, vI l2, vI l3, vI l4, vI l5, vI (l6 + (1 : Int32)), vU]) (ls := [vU, vI l1, vI l2, vI l3, vI l4, vI l5, vI (l6 + (1 : Int32)), vI l7]) ⟨Or.inr rfl, ⟨Or.inr rfl, ⟨Or.inr rfl, ⟨Or.inr rfl, ⟨Or.inr rfl, ⟨Or.inr rfl, ⟨Or.inr rfl, ⟨Or.inl rfl, trivial⟩⟩⟩⟩⟩⟩⟩⟩ k
  · have k := k.2 c
    refine P_iload (pc := 47) dX9_regents_47 rfl ?_
    refine P_iload (pc := 49) dX9_regents_49 rfl ?_
    refine P_iload_n (pc := 51) dX9_regents_51 rfl ?_
    refine P_iload_n (pc := 52) dX9_regents_52 rfl ?_
    obtain ⟨d2, nc, ns, rc2, rs3, Qc, g1, rfl, rfl, g2, kk, kx⟩ := k
    refine P_callS (As := [vI l6, vI l7, vI l1, vI l2]) (st := []) (pc := 53) dX9_regents_53 mk_X9_rests l_X9_392 st_X9_rests ini_X9 rfl g1 (Nat.le_of_ble_eq_true rfl) rfl g2 (fun v9 h9 q9 => ?_) (fun E h9 q9 => PX_out rfl (kx E h9 q9))
    obtain ⟨x4, rfl, k⟩ := kk v9 h9 q9
    clear kk kx g1 g2 q9
    refine P_if_eq (tgt := 83) (pc := 56) dX9_regents_56 (by decide) (fun c => ?_) (fun c => ?_)
    · have k := k.1 c
      refine P_iinc (v := l7 + (1 : Int32)) (pc := 83) dX9_regents_83 (by decide) rfl rfl (Or.inr (by intro z e9; cases e9)) rfl ?_
      refine P_goto (tgt := 41) (pc := 86) dX9_regents_86 (by decide) ?_
      exact k
    · have k := k.2 c
      refine P_iinc (v := l4 + (1 : Int32)) (pc := 59) dX9_regents_59 (by decide) rfl rfl (Or.inr (by intro z e9; cases e9)) rfl ?_
      refine P_iload (pc := 62) dX9_regents_62 rfl ?_
      refine P_iconst (v := (-1 : Int32)) (pc := 64) dX9_regents_64 (by decide) ?_
      refine P_icmp_ne (tgt := 79) (pc := 65) dX9_regents_65 (by decide) (fun c => ?_) (fun c => ?_)
      · have k := k.2 c
        refine P_iload (pc := 79) dX9_regents_79 rfl ?_
        refine P_istore (pc := 81) dX9_regents_81 (by decide) (Or.inr (by intro z e9; cases e9)) rfl ?_
        refine P_iinc (v := l7 + (1 : Int32)) (pc := 83) dX9_regents_83 (by decide) rfl rfl (Or.inr (by intro z e9; cases e9)) rfl ?_
        refine P_goto (tgt := 41) (pc := 86) dX9_regents_86 (by decide) ?_
        exact k
      · have k := k.1 c
        refine P_bipush (v := (10 : Int32)) (pc := 68) dX9_regents_68 (by decide) ?_
        refine P_iload (pc := 70) dX9_regents_70 rfl ?_
        refine P_imul (pc := 72) dX9_regents_72 ?_
        refine P_iload (pc := 73) dX9_regents_73 rfl ?_
        refine P_iadd (pc := 75) dX9_regents_75 ?_
        refine P_goto (tgt := 81) (pc := 76) dX9_regents_76 (by decide) ?_
        refine P_istore (pc := 81) dX9_regents_81 (by decide) (Or.inr (by intro z e9; cases e9)) rfl ?_
        refine P_iinc (v := l7 + (1 : Int32)) (pc := 83) dX9_regents_83 (by decide) rfl rfl (Or.inr (by intro z e9; cases e9)) rfl ?_
        refine P_goto (tgt := 41) (pc := 86) dX9_regents_86 (by decide) ?_
        exact k
-- X9_bothHave bothHave(IIII)I
theorem dX9_bothHave_0 : decode cX9_bothHave 0 = .ok (.iload_n 0, 1) := by decide +kernel
theorem dX9_bothHave_1 : decode cX9_bothHave 1 = .ok (.iload_n 1, 1) := by decide +kernel
theorem dX9_bothHave_2 : decode cX9_bothHave 2 = .ok (.iload_n 2, 1) := by decide +kernel
theorem dX9_bothHave_3 : decode cX9_bothHave 3 = .ok (.iload_n 3, 1) := by decide +kernel
theorem dX9_bothHave_4 : decode cX9_bothHave 4 = .ok (.invokestatic 399, 3) := by decide +kernel
theorem dX9_bothHave_7 : decode cX9_bothHave 7 = .ok (.iload_n 1, 1) := by decide +kernel
theorem dX9_bothHave_8 : decode cX9_bothHave 8 = .ok (.iload_n 0, 1) := by decide +kernel
theorem dX9_bothHave_9 : decode cX9_bothHave 9 = .ok (.iload_n 2, 1) := by decide +kernel
theorem dX9_bothHave_10 : decode cX9_bothHave 10 = .ok (.iload_n 3, 1) := by decide +kernel
theorem dX9_bothHave_11 : decode cX9_bothHave 11 = .ok (.invokestatic 399, 3) := by decide +kernel
theorem dX9_bothHave_14 : decode cX9_bothHave 14 = .ok (.iadd, 1) := by decide +kernel
theorem dX9_bothHave_15 : decode cX9_bothHave 15 = .ok (.ireturn, 1) := by decide +kernel
theorem r_X9_bothHave_0 {d rc rs : Nat} {Q : PO → PH → Prop} {h : PH} {l0 : Int32} {l1 : Int32} {l2 : Int32} {l3 : Int32}
    (k : cl d rc rs M_X9_regentHas [vI l0, vI l1, vI l2, vI l3] h (kI fun x4 h1 rc2 rs3 => cl d rc2 rs3 M_X9_regentHas [vI l1, vI l0, vI l2, vI l3] h1 (kI fun x8 h5 rc6 rs7 => Q (.inl (some (vI (x4 + x8)))) h5) (fun E h5 rc6 rs7 => Q (.inr E) h5)) (fun E h1 rc2 rs3 => Q (.inr E) h1)) :
    PW d M_X9_bothHave Q rc rs 0 [vI l0, vI l1, vI l2, vI l3] [] h := by
  refine P_iload_n (pc := 0) dX9_bothHave_0 rfl ?_
  refine P_iload_n (pc := 1) dX9_bothHave_1 rfl ?_
  refine P_iload_n (pc := 2) dX9_bothHave_2 rfl ?_
  refine P_iload_n (pc := 3) dX9_bothHave_3 rfl ?_
  obtain ⟨d2, nc, ns, rc2, rs3, Qc, g1, rfl, rfl, g2, kk, kx⟩ := k
  refine P_callS (As := [vI l0, vI l1, vI l2, vI l3]) (st := []) (pc := 4) dX9_bothHave_4 mk_X9_regentHas l_X9_399 st_X9_regentHas ini_X9 rfl g1 (Nat.le_of_ble_eq_true rfl) rfl g2 (fun v9 h9 q9 => ?_) (fun E h9 q9 => PX_out rfl (kx E h9 q9))
  obtain ⟨x4, rfl, k⟩ := kk v9 h9 q9
  clear kk kx g1 g2 q9
  refine P_iload_n (pc := 7) dX9_bothHave_7 rfl ?_
  refine P_iload_n (pc := 8) dX9_bothHave_8 rfl ?_
  refine P_iload_n (pc := 9) dX9_bothHave_9 rfl ?_
  refine P_iload_n (pc := 10) dX9_bothHave_10 rfl ?_
  obtain ⟨d2, nc, ns, rc6, rs7, Qc, g1, rfl, rfl, g2, kk, kx⟩ := k
  refine P_callS (As := [vI l1, vI l0, vI l2, vI l3]) (st := [vI x4]) (pc := 11) dX9_bothHave_11 mk_X9_regentHas l_X9_399 st_X9_regentHas ini_X9 rfl g1 (Nat.le_of_ble_eq_true rfl) rfl g2 (fun v9 h9 q9 => ?_) (fun E h9 q9 => PX_out rfl (kx E h9 q9))
  obtain ⟨x8, rfl, k⟩ := kk v9 h9 q9
  clear kk kx g1 g2 q9
  refine P_iadd (pc := 14) dX9_bothHave_14 ?_
  exact R_ireturn (pc := 15) dX9_bothHave_15 rfl rfl k
-- X9_rests rests(IIII)Z
theorem dX9_rests_0 : decode cX9_rests 0 = .ok (.iload_n 0, 1) := by decide +kernel
theorem dX9_rests_1 : decode cX9_rests 1 = .ok (.iload_n 1, 1) := by decide +kernel
theorem dX9_rests_2 : decode cX9_rests 2 = .ok (.iload_n 2, 1) := by decide +kernel
theorem dX9_rests_3 : decode cX9_rests 3 = .ok (.iload_n 3, 1) := by decide +kernel
theorem dX9_rests_4 : decode cX9_rests 4 = .ok (.invokestatic 399, 3) := by decide +kernel
theorem dX9_rests_7 : decode cX9_rests 7 = .ok (.iconst 1, 1) := by decide +kernel
theorem dX9_rests_8 : decode cX9_rests 8 = .ok (.iload_n 0, 1) := by decide +kernel
theorem dX9_rests_9 : decode cX9_rests 9 = .ok (.isub, 1) := by decide +kernel
theorem dX9_rests_10 : decode cX9_rests 10 = .ok (.iload_n 1, 1) := by decide +kernel
theorem dX9_rests_11 : decode cX9_rests 11 = .ok (.iload_n 2, 1) := by decide +kernel
theorem dX9_rests_12 : decode cX9_rests 12 = .ok (.iload_n 3, 1) := by decide +kernel
theorem dX9_rests_13 : decode cX9_rests 13 = .ok (.invokestatic 399, 3) := by decide +kernel
theorem dX9_rests_16 : decode cX9_rests 16 = .ok (.if_icmp .lt 26, 3) := by decide +kernel
theorem dX9_rests_19 : decode cX9_rests 19 = .ok (.iload_n 1, 1) := by decide +kernel
theorem dX9_rests_20 : decode cX9_rests 20 = .ok (.iload_n 0, 1) := by decide +kernel
theorem dX9_rests_21 : decode cX9_rests 21 = .ok (.iload_n 2, 1) := by decide +kernel
theorem dX9_rests_22 : decode cX9_rests 22 = .ok (.iload_n 3, 1) := by decide +kernel
theorem dX9_rests_23 : decode cX9_rests 23 = .ok (.invokestatic 399, 3) := by decide +kernel
theorem dX9_rests_26 : decode cX9_rests 26 = .ok (.iconst 1, 1) := by decide +kernel
theorem dX9_rests_27 : decode cX9_rests 27 = .ok (.iload_n 1, 1) := by decide +kernel
theorem dX9_rests_28 : decode cX9_rests 28 = .ok (.isub, 1) := by decide +kernel
theorem dX9_rests_29 : decode cX9_rests 29 = .ok (.iload_n 0, 1) := by decide +kernel
theorem dX9_rests_30 : decode cX9_rests 30 = .ok (.iload_n 2, 1) := by decide +kernel
theorem dX9_rests_31 : decode cX9_rests 31 = .ok (.iload_n 3, 1) := by decide +kernel
theorem dX9_rests_32 : decode cX9_rests 32 = .ok (.invokestatic 399, 3) := by decide +kernel
theorem dX9_rests_35 : decode cX9_rests 35 = .ok (.if_icmp .lt 7, 3) := by decide +kernel
theorem dX9_rests_38 : decode cX9_rests 38 = .ok (.iconst 1, 1) := by decide +kernel
theorem dX9_rests_39 : decode cX9_rests 39 = .ok (.goto 4, 3) := by decide +kernel
theorem dX9_rests_42 : decode cX9_rests 42 = .ok (.iconst 0, 1) := by decide +kernel
theorem dX9_rests_43 : decode cX9_rests 43 = .ok (.ireturn, 1) := by decide +kernel
theorem r_X9_rests_0 {d rc rs : Nat} {Q : PO → PH → Prop} {h : PH} {l0 : Int32} {l1 : Int32} {l2 : Int32} {l3 : Int32}
    (k : cl d rc rs M_X9_regentHas [vI l0, vI l1, vI l2, vI l3] h (kI fun x4 h1 rc2 rs3 => cl d rc2 rs3 M_X9_regentHas [vI ((1 : Int32) - l0), vI l1, vI l2, vI l3] h1 (kI fun x8 h5 rc6 rs7 => br (x4 < x8) (Q (.inl (some (vI (0 : Int32)))) h5) (cl d rc6 rs7 M_X9_regentHas [vI l1, vI l0, vI l2, vI l3] h5 (kI fun x12 h9 rc10 rs11 => cl d rc10 rs11 M_X9_regentHas [vI ((1 : Int32) - l1), vI l0, vI l2, vI l3] h9 (kI fun x16 h13 rc14 rs15 => br (x12 < x16) (Q (.inl (some (vI (0 : Int32)))) h13) (Q (.inl (some (vI (1 : Int32)))) h13)) (fun E h13 rc14 rs15 => Q (.inr E) h13)) (fun E h9 rc10 rs11 => Q (.inr E) h9))) (fun E h5 rc6 rs7 => Q (.inr E) h5)) (fun E h1 rc2 rs3 => Q (.inr E) h1)) :
    PW d M_X9_rests Q rc rs 0 [vI l0, vI l1, vI l2, vI l3] [] h := by
  refine P_iload_n (pc := 0) dX9_rests_0 rfl ?_
  refine P_iload_n (pc := 1) dX9_rests_1 rfl ?_
  refine P_iload_n (pc := 2) dX9_rests_2 rfl ?_
  refine P_iload_n (pc := 3) dX9_rests_3 rfl ?_
  obtain ⟨d2, nc, ns, rc2, rs3, Qc, g1, rfl, rfl, g2, kk, kx⟩ := k
  refine P_callS (As := [vI l0, vI l1, vI l2, vI l3]) (st := []) (pc := 4) dX9_rests_4 mk_X9_regentHas l_X9_399 st_X9_regentHas ini_X9 rfl g1 (Nat.le_of_ble_eq_true rfl) rfl g2 (fun v9 h9 q9 => ?_) (fun E h9 q9 => PX_out rfl (kx E h9 q9))
  obtain ⟨x4, rfl, k⟩ := kk v9 h9 q9
  clear kk kx g1 g2 q9
  refine P_iconst (v := (1 : Int32)) (pc := 7) dX9_rests_7 (by decide) ?_
  refine P_iload_n (pc := 8) dX9_rests_8 rfl ?_
  refine P_isub (pc := 9) dX9_rests_9 ?_
  refine P_iload_n (pc := 10) dX9_rests_10 rfl ?_
  refine P_iload_n (pc := 11) dX9_rests_11 rfl ?_
  refine P_iload_n (pc := 12) dX9_rests_12 rfl ?_
  obtain ⟨d2, nc, ns, rc6, rs7, Qc, g1, rfl, rfl, g2, kk, kx⟩ := k
  refine P_callS (As := [vI ((1 : Int32) - l0), vI l1, vI l2, vI l3]) (st := [vI x4]) (pc := 13) dX9_rests_13 mk_X9_regentHas l_X9_399 st_X9_regentHas ini_X9 rfl g1 (Nat.le_of_ble_eq_true rfl) rfl g2 (fun v9 h9 q9 => ?_) (fun E h9 q9 => PX_out rfl (kx E h9 q9))
  obtain ⟨x8, rfl, k⟩ := kk v9 h9 q9
  clear kk kx g1 g2 q9
  refine P_icmp_lt (tgt := 42) (pc := 16) dX9_rests_16 (by decide) (fun c => ?_) (fun c => ?_)
  · have k := k.1 c
    refine P_iconst (v := (0 : Int32)) (pc := 42) dX9_rests_42 (by decide) ?_
    exact R_ireturn (pc := 43) dX9_rests_43 rfl rfl k
  · have k := k.2 c
    refine P_iload_n (pc := 19) dX9_rests_19 rfl ?_
    refine P_iload_n (pc := 20) dX9_rests_20 rfl ?_
    refine P_iload_n (pc := 21) dX9_rests_21 rfl ?_
    refine P_iload_n (pc := 22) dX9_rests_22 rfl ?_
    obtain ⟨d2, nc, ns, rc10, rs11, Qc, g1, rfl, rfl, g2, kk, kx⟩ := k
    refine P_callS (As := [vI l1, vI l0, vI l2, vI l3]) (st := []) (pc := 23) dX9_rests_23 mk_X9_regentHas l_X9_399 st_X9_regentHas ini_X9 rfl g1 (Nat.le_of_ble_eq_true rfl) rfl g2 (fun v9 h9 q9 => ?_) (fun E h9 q9 => PX_out rfl (kx E h9 q9))
    obtain ⟨x12, rfl, k⟩ := kk v9 h9 q9
    clear kk kx g1 g2 q9
    refine P_iconst (v := (1 : Int32)) (pc := 26) dX9_rests_26 (by decide) ?_
    refine P_iload_n (pc := 27) dX9_rests_27 rfl ?_
    refine P_isub (pc := 28) dX9_rests_28 ?_
    refine P_iload_n (pc := 29) dX9_rests_29 rfl ?_
    refine P_iload_n (pc := 30) dX9_rests_30 rfl ?_
    refine P_iload_n (pc := 31) dX9_rests_31 rfl ?_
    obtain ⟨d2, nc, ns, rc14, rs15, Qc, g1, rfl, rfl, g2, kk, kx⟩ := k
    refine P_callS (As := [vI ((1 : Int32) - l1), vI l0, vI l2, vI l3]) (st := [vI x12]) (pc := 32) dX9_rests_32 mk_X9_regentHas l_X9_399 st_X9_regentHas ini_X9 rfl g1 (Nat.le_of_ble_eq_true rfl) rfl g2 (fun v9 h9 q9 => ?_) (fun E h9 q9 => PX_out rfl (kx E h9 q9))
    obtain ⟨x16, rfl, k⟩ := kk v9 h9 q9
    clear kk kx g1 g2 q9
    refine P_icmp_lt (tgt := 42) (pc := 35) dX9_rests_35 (by decide) (fun c => ?_) (fun c => ?_)
    · have k := k.1 c
      refine P_iconst (v := (0 : Int32)) (pc := 42) dX9_rests_42 (by decide) ?_
      exact R_ireturn (pc := 43) dX9_rests_43 rfl rfl k
    · have k := k.2 c
      refine P_iconst (v := (1 : Int32)) (pc := 38) dX9_rests_38 (by decide) ?_
      refine P_goto (tgt := 43) (pc := 39) dX9_rests_39 (by decide) ?_
      exact R_ireturn (pc := 43) dX9_rests_43 rfl rfl k
-- X9_regentHas regentHas(IIII)I
theorem dX9_regentHas_0 : decode cX9_regentHas 0 = .ok (.iload_n 0, 1) := by decide +kernel
theorem dX9_regentHas_1 : decode cX9_regentHas 1 = .ok (.iload_n 1, 1) := by decide +kernel
theorem dX9_regentHas_2 : decode cX9_regentHas 2 = .ok (.if_icmp .ne 13, 3) := by decide +kernel
theorem dX9_regentHas_5 : decode cX9_regentHas 5 = .ok (.iload_n 0, 1) := by decide +kernel
theorem dX9_regentHas_6 : decode cX9_regentHas 6 = .ok (.ifCond .ne 7, 3) := by decide +kernel
theorem dX9_regentHas_9 : decode cX9_regentHas 9 = .ok (.iconst 0, 1) := by decide +kernel
theorem dX9_regentHas_10 : decode cX9_regentHas 10 = .ok (.goto 4, 3) := by decide +kernel
theorem dX9_regentHas_13 : decode cX9_regentHas 13 = .ok (.iload_n 2, 1) := by decide +kernel
theorem dX9_regentHas_14 : decode cX9_regentHas 14 = .ok (.ireturn, 1) := by decide +kernel
theorem dX9_regentHas_15 : decode cX9_regentHas 15 = .ok (.iload_n 0, 1) := by decide +kernel
theorem dX9_regentHas_16 : decode cX9_regentHas 16 = .ok (.ifCond .ne 7, 3) := by decide +kernel
theorem dX9_regentHas_19 : decode cX9_regentHas 19 = .ok (.iload_n 3, 1) := by decide +kernel
theorem dX9_regentHas_20 : decode cX9_regentHas 20 = .ok (.goto 4, 3) := by decide +kernel
theorem dX9_regentHas_23 : decode cX9_regentHas 23 = .ok (.iconst (-1), 1) := by decide +kernel
theorem dX9_regentHas_24 : decode cX9_regentHas 24 = .ok (.ireturn, 1) := by decide +kernel
theorem r_X9_regentHas_0 {d rc rs : Nat} {Q : PO → PH → Prop} {h : PH} {l0 : Int32} {l1 : Int32} {l2 : Int32} {l3 : Int32}
    (k : br (l0 = l1) (br (l0 = 0) (Q (.inl (some (vI (0 : Int32)))) h) (Q (.inl (some (vI l2))) h)) (br (l0 = 0) (Q (.inl (some (vI l3))) h) (Q (.inl (some (vI (-1 : Int32)))) h))) :
    PW d M_X9_regentHas Q rc rs 0 [vI l0, vI l1, vI l2, vI l3] [] h := by
  refine P_iload_n (pc := 0) dX9_regentHas_0 rfl ?_
  refine P_iload_n (pc := 1) dX9_regentHas_1 rfl ?_
  refine P_icmp_ne (tgt := 15) (pc := 2) dX9_regentHas_2 (by decide) (fun c => ?_) (fun c => ?_)
  · have k := k.2 c
    refine P_iload_n (pc := 15) dX9_regentHas_15 rfl ?_
    refine P_if_ne (tgt := 23) (pc := 16) dX9_regentHas_16 (by decide) (fun c => ?_) (fun c => ?_)
    · have k := k.2 c
      refine P_iconst (v := (-1 : Int32)) (pc := 23) dX9_regentHas_23 (by decide) ?_
      exact R_ireturn (pc := 24) dX9_regentHas_24 rfl rfl k
    · have k := k.1 c
      refine P_iload_n (pc := 19) dX9_regentHas_19 rfl ?_
      refine P_goto (tgt := 24) (pc := 20) dX9_regentHas_20 (by decide) ?_
      exact R_ireturn (pc := 24) dX9_regentHas_24 rfl rfl k
  · have k := k.1 c
    refine P_iload_n (pc := 5) dX9_regentHas_5 rfl ?_
    refine P_if_ne (tgt := 13) (pc := 6) dX9_regentHas_6 (by decide) (fun c => ?_) (fun c => ?_)
    · have k := k.2 c
      refine P_iload_n (pc := 13) dX9_regentHas_13 rfl ?_
      exact R_ireturn (pc := 14) dX9_regentHas_14 rfl rfl k
    · have k := k.1 c
      refine P_iconst (v := (0 : Int32)) (pc := 9) dX9_regentHas_9 (by decide) ?_
      refine P_goto (tgt := 14) (pc := 10) dX9_regentHas_10 (by decide) ?_
      exact R_ireturn (pc := 14) dX9_regentHas_14 rfl rfl k
-- X9_moss moss(III)I
theorem dX9_moss_0 : decode cX9_moss 0 = .ok (.aload_n 0, 1) := by decide +kernel
theorem dX9_moss_1 : decode cX9_moss 1 = .ok (.iload_n 1, 1) := by decide +kernel
theorem dX9_moss_2 : decode cX9_moss 2 = .ok (.invokevirtual 197, 3) := by decide +kernel
theorem dX9_moss_5 : decode cX9_moss 5 = .ok (.aload_n 0, 1) := by decide +kernel
theorem dX9_moss_6 : decode cX9_moss 6 = .ok (.iload_n 2, 1) := by decide +kernel
theorem dX9_moss_7 : decode cX9_moss 7 = .ok (.aload_n 0, 1) := by decide +kernel
theorem dX9_moss_8 : decode cX9_moss 8 = .ok (.getfield 61, 3) := by decide +kernel
theorem dX9_moss_11 : decode cX9_moss 11 = .ok (.invokevirtual 334, 3) := by decide +kernel
theorem dX9_moss_14 : decode cX9_moss 14 = .ok (.iconst (-1), 1) := by decide +kernel
theorem dX9_moss_15 : decode cX9_moss 15 = .ok (.ixor, 1) := by decide +kernel
theorem dX9_moss_16 : decode cX9_moss 16 = .ok (.iand, 1) := by decide +kernel
theorem dX9_moss_17 : decode cX9_moss 17 = .ok (.ifCond .ne 7, 3) := by decide +kernel
theorem dX9_moss_20 : decode cX9_moss 20 = .ok (.iconst 1, 1) := by decide +kernel
theorem dX9_moss_21 : decode cX9_moss 21 = .ok (.goto 4, 3) := by decide +kernel
theorem dX9_moss_24 : decode cX9_moss 24 = .ok (.iconst 0, 1) := by decide +kernel
theorem dX9_moss_25 : decode cX9_moss 25 = .ok (.invokevirtual 326, 3) := by decide +kernel
theorem dX9_moss_28 : decode cX9_moss 28 = .ok (.aload_n 0, 1) := by decide +kernel
theorem dX9_moss_29 : decode cX9_moss 29 = .ok (.iload_n 3, 1) := by decide +kernel
theorem dX9_moss_30 : decode cX9_moss 30 = .ok (.iconst 0, 1) := by decide +kernel
theorem dX9_moss_31 : decode cX9_moss 31 = .ok (.bipush 99, 2) := by decide +kernel
theorem dX9_moss_33 : decode cX9_moss 33 = .ok (.invokevirtual 159, 3) := by decide +kernel
theorem dX9_moss_36 : decode cX9_moss 36 = .ok (.iload_n 2, 1) := by decide +kernel
theorem dX9_moss_37 : decode cX9_moss 37 = .ok (.iconst 1, 1) := by decide +kernel
theorem dX9_moss_38 : decode cX9_moss 38 = .ok (.iload_n 1, 1) := by decide +kernel
theorem dX9_moss_39 : decode cX9_moss 39 = .ok (.ishl, 1) := by decide +kernel
theorem dX9_moss_40 : decode cX9_moss 40 = .ok (.iand, 1) := by decide +kernel
theorem dX9_moss_41 : decode cX9_moss 41 = .ok (.ifCond .ne 5, 3) := by decide +kernel
theorem dX9_moss_44 : decode cX9_moss 44 = .ok (.iconst 0, 1) := by decide +kernel
theorem dX9_moss_45 : decode cX9_moss 45 = .ok (.ireturn, 1) := by decide +kernel
theorem dX9_moss_46 : decode cX9_moss 46 = .ok (.bipush 9, 2) := by decide +kernel
theorem dX9_moss_48 : decode cX9_moss 48 = .ok (.istore 4, 2) := by decide +kernel
theorem dX9_moss_50 : decode cX9_moss 50 = .ok (.bipush 9, 2) := by decide +kernel
theorem dX9_moss_52 : decode cX9_moss 52 = .ok (.istore 5, 2) := by decide +kernel
theorem dX9_moss_54 : decode cX9_moss 54 = .ok (.iload 5, 2) := by decide +kernel
theorem dX9_moss_56 : decode cX9_moss 56 = .ok (.ifCond .le 29, 3) := by decide +kernel
theorem dX9_moss_59 : decode cX9_moss 59 = .ok (.aload_n 0, 1) := by decide +kernel
theorem dX9_moss_60 : decode cX9_moss 60 = .ok (.getfield 61, 3) := by decide +kernel
theorem dX9_moss_63 : decode cX9_moss 63 = .ok (.iload_n 2, 1) := by decide +kernel
theorem dX9_moss_64 : decode cX9_moss 64 = .ok (.iload 4, 2) := by decide +kernel
theorem dX9_moss_66 : decode cX9_moss 66 = .ok (.invokevirtual 402, 3) := by decide +kernel
theorem dX9_moss_69 : decode cX9_moss 69 = .ok (.iload_n 3, 1) := by decide +kernel
theorem dX9_moss_70 : decode cX9_moss 70 = .ok (.if_icmp .le 15, 3) := by decide +kernel
theorem dX9_moss_73 : decode cX9_moss 73 = .ok (.iload 5, 2) := by decide +kernel
theorem dX9_moss_75 : decode cX9_moss 75 = .ok (.iconst 1, 1) := by decide +kernel
theorem dX9_moss_76 : decode cX9_moss 76 = .ok (.isub, 1) := by decide +kernel
theorem dX9_moss_77 : decode cX9_moss 77 = .ok (.istore 4, 2) := by decide +kernel
theorem dX9_moss_79 : decode cX9_moss 79 = .ok (.iinc 5 (-1), 3) := by decide +kernel
theorem dX9_moss_82 : decode cX9_moss 82 = .ok (.goto (-28), 3) := by decide +kernel
theorem dX9_moss_85 : decode cX9_moss 85 = .ok (.aload_n 0, 1) := by decide +kernel
theorem dX9_moss_86 : decode cX9_moss 86 = .ok (.getfield 61, 3) := by decide +kernel
theorem dX9_moss_89 : decode cX9_moss 89 = .ok (.getfield 405, 3) := by decide +kernel
theorem dX9_moss_92 : decode cX9_moss 92 = .ok (.iload_n 1, 1) := by decide +kernel
theorem dX9_moss_93 : decode cX9_moss 93 = .ok (.iaload, 1) := by decide +kernel
theorem dX9_moss_94 : decode cX9_moss 94 = .ok (.iload 4, 2) := by decide +kernel
theorem dX9_moss_96 : decode cX9_moss 96 = .ok (.invokestatic 306, 3) := by decide +kernel
theorem dX9_moss_99 : decode cX9_moss 99 = .ok (.ireturn, 1) := by decide +kernel
theorem r_X9_moss_0 {d rc rs : Nat} {Q : PO → PH → Prop} {h : PH} {l0 : Nat} {l1 : Int32} {l2 : Int32} {l3 : Int32}
    (k : isO h 10900 l0 ∧ cl d rc rs M_X9_needHeir [vR (900, l0), vI l1] h (kV fun h1 rc2 rs3 => gO h1 (10908, l0) 100 fun o4 => isO h1 10100 o4 ∧ cl d rc2 rs3 M_X1_all [vR (100, o4)] h1 (kI fun x8 h5 rc6 rs7 => br ((l2 &&& (x8 ^^^ (-1 : Int32))) = 0) (isO h5 10900 l0 ∧ cl d rc6 rs7 M_X9_need [vR (900, l0), vI (1 : Int32)] h5 (kV fun h15 rc16 rs17 => isO h15 10900 l0 ∧ cl d rc16 rs17 M_X9_needWithin [vR (900, l0), vI l3, vI (0 : Int32), vI (99 : Int32)] h15 (kV fun h18 rc19 rs20 => br ((l2 &&& ((1 : Int32) <<< (l1 &&& 31))) = 0) (Q (.inl (some (vI (0 : Int32)))) h18) (PW d M_X9_moss Q rc19 rs20 54 [vR (900, l0), vI l1, vI l2, vI l3, vI (9 : Int32), vI (9 : Int32)] [] h18)) (fun E h18 rc19 rs20 => Q (.inr E) h18)) (fun E h15 rc16 rs17 => Q (.inr E) h15)) (isO h5 10900 l0 ∧ cl d rc6 rs7 M_X9_need [vR (900, l0), vI (0 : Int32)] h5 (kV fun h9 rc10 rs11 => isO h9 10900 l0 ∧ cl d rc10 rs11 M_X9_needWithin [vR (900, l0), vI l3, vI (0 : Int32), vI (99 : Int32)] h9 (kV fun h12 rc13 rs14 => br ((l2 &&& ((1 : Int32) <<< (l1 &&& 31))) = 0) (Q (.inl (some (vI (0 : Int32)))) h12) (PW d M_X9_moss Q rc13 rs14 54 [vR (900, l0), vI l1, vI l2, vI l3, vI (9 : Int32), vI (9 : Int32)] [] h12)) (fun E h12 rc13 rs14 => Q (.inr E) h12)) (fun E h9 rc10 rs11 => Q (.inr E) h9))) (fun E h5 rc6 rs7 => Q (.inr E) h5)) (fun E h1 rc2 rs3 => Q (.inr E) h1)) :
    PW d M_X9_moss Q rc rs 0 [vR (900, l0), vI l1, vI l2, vI l3, vU, vU] [] h := by
  refine P_aload_n (pc := 0) dX9_moss_0 rfl ?_
  refine P_iload_n (pc := 1) dX9_moss_1 rfl ?_
  obtain ⟨⟨w9, e9⟩, d2, nc, ns, rc2, rs3, Qc, g1, rfl, rfl, g2, kk, kx⟩ := k
  refine P_callV (ci := 9) (k := 0) (id := l0) (q := (RX9, TX9, 18)) (As := [vI l1]) (st := []) (pc := 2) dX9_moss_2 mk_X9_needHeir l_X9_197 im_X9_needHeir se_X9_needHeir ini_X9 rfl g1 (Nat.le_of_ble_eq_true rfl) rfl rfl (by decide) e9 rfl g2 (fun v9 h9 q9 => ?_) (fun E h9 q9 => PX_out rfl (kx E h9 q9))
  obtain ⟨rfl, k⟩ := kk v9 h9 q9
  clear kk kx g1 g2 q9
  refine P_aload_n (pc := 5) dX9_moss_5 rfl ?_
  refine P_iload_n (pc := 6) dX9_moss_6 rfl ?_
  refine P_aload_n (pc := 7) dX9_moss_7 rfl ?_
  obtain ⟨o4, e9, k⟩ := k
  refine G9_8 (pc := 8) dX9_moss_8 l_X9_61 e9 ?_
  clear e9
  obtain ⟨⟨w9, e9⟩, d2, nc, ns, rc6, rs7, Qc, g1, rfl, rfl, g2, kk, kx⟩ := k
  refine P_callV (ci := 1) (k := 0) (id := o4) (q := (RX1, TX1, 11)) (As := []) (st := [vI l2, vR (900, l0)]) (pc := 11) dX9_moss_11 mk_X1_all l_X9_334 im_X1_all se_X1_all ini_X1 rfl g1 (Nat.le_of_ble_eq_true rfl) rfl rfl (by decide) e9 rfl g2 (fun v9 h9 q9 => ?_) (fun E h9 q9 => PX_out rfl (kx E h9 q9))
  obtain ⟨x8, rfl, k⟩ := kk v9 h9 q9
  clear kk kx g1 g2 q9
  refine P_iconst (v := (-1 : Int32)) (pc := 14) dX9_moss_14 (by decide) ?_
  refine P_ixor (pc := 15) dX9_moss_15 ?_
  refine P_iand (pc := 16) dX9_moss_16 ?_
  refine P_if_ne (tgt := 24) (pc := 17) dX9_moss_17 (by decide) (fun c => ?_) (fun c => ?_)
  · have k := k.2 c
    refine P_iconst (v := (0 : Int32)) (pc := 24) dX9_moss_24 (by decide) ?_
    obtain ⟨⟨w9, e9⟩, d2, nc, ns, rc10, rs11, Qc, g1, rfl, rfl, g2, kk, kx⟩ := k
    refine P_callV (ci := 9) (k := 0) (id := l0) (q := (RX9, TX9, 18)) (As := [vI (0 : Int32)]) (st := []) (pc := 25) dX9_moss_25 mk_X9_need l_X9_326 im_X9_need se_X9_need ini_X9 rfl g1 (Nat.le_of_ble_eq_true rfl) rfl rfl (by decide) e9 rfl g2 (fun v9 h9 q9 => ?_) (fun E h9 q9 => PX_out rfl (kx E h9 q9))
    obtain ⟨rfl, k⟩ := kk v9 h9 q9
    clear kk kx g1 g2 q9
    refine P_aload_n (pc := 28) dX9_moss_28 rfl ?_
    refine P_iload_n (pc := 29) dX9_moss_29 rfl ?_
    refine P_iconst (v := (0 : Int32)) (pc := 30) dX9_moss_30 (by decide) ?_
    refine P_bipush (v := (99 : Int32)) (pc := 31) dX9_moss_31 (by decide) ?_
    obtain ⟨⟨w9, e9⟩, d2, nc, ns, rc13, rs14, Qc, g1, rfl, rfl, g2, kk, kx⟩ := k
    refine P_callV (ci := 9) (k := 0) (id := l0) (q := (RX9, TX9, 18)) (As := [vI l3, vI (0 : Int32), vI (99 : Int32)]) (st := []) (pc := 33) dX9_moss_33 mk_X9_needWithin l_X9_159 im_X9_needWithin se_X9_needWithin ini_X9 rfl g1 (Nat.le_of_ble_eq_true rfl) rfl rfl (by decide) e9 rfl g2 (fun v9 h9 q9 => ?_) (fun E h9 q9 => PX_out rfl (kx E h9 q9))
    obtain ⟨rfl, k⟩ := kk v9 h9 q9
    clear kk kx g1 g2 q9
    refine P_iload_n (pc := 36) dX9_moss_36 rfl ?_
    refine P_iconst (v := (1 : Int32)) (pc := 37) dX9_moss_37 (by decide) ?_
    refine P_iload_n (pc := 38) dX9_moss_38 rfl ?_
    refine P_ishl (pc := 39) dX9_moss_39 ?_
    refine P_iand (pc := 40) dX9_moss_40 ?_
    refine P_if_ne (tgt := 46) (pc := 41) dX9_moss_41 (by decide) (fun c => ?_) (fun c => ?_)
    · have k := k.2 c
      refine P_bipush (v := (9 : Int32)) (pc := 46) dX9_moss_46 (by decide) ?_
      refine P_istore (pc := 48) dX9_moss_48 (by decide) (Or.inr (by intro z e9; cases e9)) rfl ?_
      refine P_bipush (v := (9 : Int32)) (pc := 50) dX9_moss_50 (by decide) ?_
      refine P_istore (pc := 52) dX9_moss_52 (by decide) (Or.inr (by intro z e9; cases e9)) rfl ?_
      exact k
    · have k := k.1 c
      refine P_iconst (v := (0 : Int32)) (pc := 44) dX9_moss_44 (by decide) ?_
      exact R_ireturn (pc := 45) dX9_moss_45 rfl rfl k
  · have k := k.1 c
    refine P_iconst (v := (1 : Int32)) (pc := 20) dX9_moss_20 (by decide) ?_
    refine P_goto (tgt := 25) (pc := 21) dX9_moss_21 (by decide) ?_
    obtain ⟨⟨w9, e9⟩, d2, nc, ns, rc16, rs17, Qc, g1, rfl, rfl, g2, kk, kx⟩ := k
    refine P_callV (ci := 9) (k := 0) (id := l0) (q := (RX9, TX9, 18)) (As := [vI (1 : Int32)]) (st := []) (pc := 25) dX9_moss_25 mk_X9_need l_X9_326 im_X9_need se_X9_need ini_X9 rfl g1 (Nat.le_of_ble_eq_true rfl) rfl rfl (by decide) e9 rfl g2 (fun v9 h9 q9 => ?_) (fun E h9 q9 => PX_out rfl (kx E h9 q9))
    obtain ⟨rfl, k⟩ := kk v9 h9 q9
    clear kk kx g1 g2 q9
    refine P_aload_n (pc := 28) dX9_moss_28 rfl ?_
    refine P_iload_n (pc := 29) dX9_moss_29 rfl ?_
    refine P_iconst (v := (0 : Int32)) (pc := 30) dX9_moss_30 (by decide) ?_
    refine P_bipush (v := (99 : Int32)) (pc := 31) dX9_moss_31 (by decide) ?_
    obtain ⟨⟨w9, e9⟩, d2, nc, ns, rc19, rs20, Qc, g1, rfl, rfl, g2, kk, kx⟩ := k
    refine P_callV (ci := 9) (k := 0) (id := l0) (q := (RX9, TX9, 18)) (As := [vI l3, vI (0 : Int32), vI (99 : Int32)]) (st := []) (pc := 33) dX9_moss_33 mk_X9_needWithin l_X9_159 im_X9_needWithin se_X9_needWithin ini_X9 rfl g1 (Nat.le_of_ble_eq_true rfl) rfl rfl (by decide) e9 rfl g2 (fun v9 h9 q9 => ?_) (fun E h9 q9 => PX_out rfl (kx E h9 q9))
    obtain ⟨rfl, k⟩ := kk v9 h9 q9
    clear kk kx g1 g2 q9
    refine P_iload_n (pc := 36) dX9_moss_36 rfl ?_
    refine P_iconst (v := (1 : Int32)) (pc := 37) dX9_moss_37 (by decide) ?_
    refine P_iload_n (pc := 38) dX9_moss_38 rfl ?_
    refine P_ishl (pc := 39) dX9_moss_39 ?_
    refine P_iand (pc := 40) dX9_moss_40 ?_
    refine P_if_ne (tgt := 46) (pc := 41) dX9_moss_41 (by decide) (fun c => ?_) (fun c => ?_)
    · have k := k.2 c
      refine P_bipush (v := (9 : Int32)) (pc := 46) dX9_moss_46 (by decide) ?_
      refine P_istore (pc := 48) dX9_moss_48 (by decide) (Or.inr (by intro z e9; cases e9)) rfl ?_
      refine P_bipush (v := (9 : Int32)) (pc := 50) dX9_moss_50 (by decide) ?_
      refine P_istore (pc := 52) dX9_moss_52 (by decide) (Or.inr (by intro z e9; cases e9)) rfl ?_
      exact k
    · have k := k.1 c
      refine P_iconst (v := (0 : Int32)) (pc := 44) dX9_moss_44 (by decide) ?_
      exact R_ireturn (pc := 45) dX9_moss_45 rfl rfl k
theorem r_X9_moss_54 {d rc rs : Nat} {Q : PO → PH → Prop} {h : PH} {l0 : Nat} {l1 : Int32} {l2 : Int32} {l3 : Int32} {l4 : Int32} {l5 : Int32}
    (k : br (0 < l5) (gO h (10908, l0) 100 fun o8 => isO h 10100 o8 ∧ cl d rc rs M_X1_mossBy [vR (100, o8), vI l2, vI l4] h (kI fun x12 h9 rc10 rs11 => br (l3 < x12) (PW d M_X9_moss Q rc10 rs11 54 [vR (900, l0), vI l1, vI l2, vI l3, vI (l5 - (1 : Int32)), vI (l5 + (-1 : Int32))] [] h9) (gO h9 (10908, l0) 100 fun o13 => gA h9 (10100, o13) fun a14 => xI h9 a14 l1 fun x15 => cl d rc10 rs11 M_J9_min_7cf53 [vI x15, vI l4] h9 (kI fun x19 h16 rc17 rs18 => Q (.inl (some (vI x19))) h16) (fun E h16 rc17 rs18 => Q (.inr E) h16))) (fun E h9 rc10 rs11 => Q (.inr E) h9)) (gO h (10908, l0) 100 fun o1 => gA h (10100, o1) fun a2 => xI h a2 l1 fun x3 => cl d rc rs M_J9_min_7cf53 [vI x3, vI l4] h (kI fun x7 h4 rc5 rs6 => Q (.inl (some (vI x7))) h4) (fun E h4 rc5 rs6 => Q (.inr E) h4))) :
    PW d M_X9_moss Q rc rs 54 [vR (900, l0), vI l1, vI l2, vI l3, vI l4, vI l5] [] h := by
  refine P_iload (pc := 54) dX9_moss_54 rfl ?_
  refine P_if_le (tgt := 85) (pc := 56) dX9_moss_56 (by decide) (fun c => ?_) (fun c => ?_)
  · have k := k.2 (Int32.not_lt.mpr c)
    refine P_aload_n (pc := 85) dX9_moss_85 rfl ?_
    obtain ⟨o1, e9, k⟩ := k
    refine G9_8 (pc := 86) dX9_moss_86 l_X9_61 e9 ?_
    clear e9
    obtain ⟨a2, e9, k⟩ := k
    refine GN1_0 (pc := 89) dX9_moss_89 n_X9_405 e9 ?_
    clear e9
    refine P_iload_n (pc := 92) dX9_moss_92 rfl ?_
    obtain ⟨n9, f9, e9, i9, k⟩ := k
    refine P_iald (pc := 93) dX9_moss_93 e9 i9 ?_
    clear e9
    generalize f9 (Int32.toNatClampNeg l1) = x3 at k ⊢
    refine P_iload (pc := 94) dX9_moss_94 rfl ?_
    obtain ⟨d2, nc, ns, rc5, rs6, Qc, g1, rfl, rfl, g2, kk, kx⟩ := k
    refine P_callS (As := [vI x3, vI l4]) (st := []) (pc := 96) dX9_moss_96 mk_J9_min_7cf53 l_X9_306 st_J9_min_7cf53 ini_J9 rfl g1 (Nat.le_of_ble_eq_true rfl) rfl g2 (fun v9 h9 q9 => ?_) (fun E h9 q9 => PX_out rfl (kx E h9 q9))
    obtain ⟨x7, rfl, k⟩ := kk v9 h9 q9
    clear kk kx g1 g2 q9
    exact R_ireturn (pc := 99) dX9_moss_99 rfl rfl k
  · have k := k.1 (Int32.not_le.mp c)
    refine P_aload_n (pc := 59) dX9_moss_59 rfl ?_
    obtain ⟨o8, e9, k⟩ := k
    refine G9_8 (pc := 60) dX9_moss_60 l_X9_61 e9 ?_
    clear e9
    refine P_iload_n (pc := 63) dX9_moss_63 rfl ?_
    refine P_iload (pc := 64) dX9_moss_64 rfl ?_
    obtain ⟨⟨w9, e9⟩, d2, nc, ns, rc10, rs11, Qc, g1, rfl, rfl, g2, kk, kx⟩ := k
    refine P_callV (ci := 1) (k := 0) (id := o8) (q := (RX1, TX1, 11)) (As := [vI l2, vI l4]) (st := []) (pc := 66) dX9_moss_66 mk_X1_mossBy l_X9_402 im_X1_mossBy se_X1_mossBy ini_X1 rfl g1 (Nat.le_of_ble_eq_true rfl) rfl rfl (by decide) e9 rfl g2 (fun v9 h9 q9 => ?_) (fun E h9 q9 => PX_out rfl (kx E h9 q9))
    obtain ⟨x12, rfl, k⟩ := kk v9 h9 q9
    clear kk kx g1 g2 q9
    refine P_iload_n (pc := 69) dX9_moss_69 rfl ?_
    refine P_icmp_le (tgt := 85) (pc := 70) dX9_moss_70 (by decide) (fun c => ?_) (fun c => ?_)
    · have k := k.2 (Int32.not_lt.mpr c)
      refine P_aload_n (pc := 85) dX9_moss_85 rfl ?_
      obtain ⟨o13, e9, k⟩ := k
      refine G9_8 (pc := 86) dX9_moss_86 l_X9_61 e9 ?_
      clear e9
      obtain ⟨a14, e9, k⟩ := k
      refine GN1_0 (pc := 89) dX9_moss_89 n_X9_405 e9 ?_
      clear e9
      refine P_iload_n (pc := 92) dX9_moss_92 rfl ?_
      obtain ⟨n9, f9, e9, i9, k⟩ := k
      refine P_iald (pc := 93) dX9_moss_93 e9 i9 ?_
      clear e9
      generalize f9 (Int32.toNatClampNeg l1) = x15 at k ⊢
      refine P_iload (pc := 94) dX9_moss_94 rfl ?_
      obtain ⟨d2, nc, ns, rc17, rs18, Qc, g1, rfl, rfl, g2, kk, kx⟩ := k
      refine P_callS (As := [vI x15, vI l4]) (st := []) (pc := 96) dX9_moss_96 mk_J9_min_7cf53 l_X9_306 st_J9_min_7cf53 ini_J9 rfl g1 (Nat.le_of_ble_eq_true rfl) rfl g2 (fun v9 h9 q9 => ?_) (fun E h9 q9 => PX_out rfl (kx E h9 q9))
      obtain ⟨x19, rfl, k⟩ := kk v9 h9 q9
      clear kk kx g1 g2 q9
      exact R_ireturn (pc := 99) dX9_moss_99 rfl rfl k
    · have k := k.1 (Int32.not_le.mp c)
      refine P_iload (pc := 73) dX9_moss_73 rfl ?_
      refine P_iconst (v := (1 : Int32)) (pc := 75) dX9_moss_75 (by decide) ?_
      refine P_isub (pc := 76) dX9_moss_76 ?_
      refine P_istore (pc := 77) dX9_moss_77 (by decide) (Or.inr (by intro z e9; cases e9)) rfl ?_
      refine P_iinc (v := l5 + (-1 : Int32)) (pc := 79) dX9_moss_79 (by decide) rfl rfl (Or.inr (by intro z e9; cases e9)) rfl ?_
      refine P_goto (tgt := 54) (pc := 82) dX9_moss_82 (by decide) ?_
      exact k
-- X9_backward backward(I)I
theorem dX9_backward_0 : decode cX9_backward 0 = .ok (.aload_n 0, 1) := by decide +kernel
theorem dX9_backward_1 : decode cX9_backward 1 = .ok (.iload_n 1, 1) := by decide +kernel
theorem dX9_backward_2 : decode cX9_backward 2 = .ok (.iconst 0, 1) := by decide +kernel
theorem dX9_backward_3 : decode cX9_backward 3 = .ok (.ldc_w 406, 3) := by decide +kernel
theorem dX9_backward_6 : decode cX9_backward 6 = .ok (.invokevirtual 159, 3) := by decide +kernel
theorem dX9_backward_9 : decode cX9_backward 9 = .ok (.iconst 0, 1) := by decide +kernel
theorem dX9_backward_10 : decode cX9_backward 10 = .ok (.istore_n 2, 1) := by decide +kernel
theorem dX9_backward_11 : decode cX9_backward 11 = .ok (.iload_n 1, 1) := by decide +kernel
theorem dX9_backward_12 : decode cX9_backward 12 = .ok (.istore_n 3, 1) := by decide +kernel
theorem dX9_backward_13 : decode cX9_backward 13 = .ok (.iconst 0, 1) := by decide +kernel
theorem dX9_backward_14 : decode cX9_backward 14 = .ok (.istore 4, 2) := by decide +kernel
theorem dX9_backward_16 : decode cX9_backward 16 = .ok (.iload 4, 2) := by decide +kernel
theorem dX9_backward_18 : decode cX9_backward 18 = .ok (.bipush 8, 2) := by decide +kernel
theorem dX9_backward_20 : decode cX9_backward 20 = .ok (.if_icmp .ge 28, 3) := by decide +kernel
theorem dX9_backward_23 : decode cX9_backward 23 = .ok (.iload_n 3, 1) := by decide +kernel
theorem dX9_backward_24 : decode cX9_backward 24 = .ok (.ifCond .le 24, 3) := by decide +kernel
theorem dX9_backward_27 : decode cX9_backward 27 = .ok (.iload_n 2, 1) := by decide +kernel
theorem dX9_backward_28 : decode cX9_backward 28 = .ok (.bipush 10, 2) := by decide +kernel
theorem dX9_backward_30 : decode cX9_backward 30 = .ok (.imul, 1) := by decide +kernel
theorem dX9_backward_31 : decode cX9_backward 31 = .ok (.iload_n 3, 1) := by decide +kernel
theorem dX9_backward_32 : decode cX9_backward 32 = .ok (.bipush 10, 2) := by decide +kernel
theorem dX9_backward_34 : decode cX9_backward 34 = .ok (.irem, 1) := by decide +kernel
theorem dX9_backward_35 : decode cX9_backward 35 = .ok (.iadd, 1) := by decide +kernel
theorem dX9_backward_36 : decode cX9_backward 36 = .ok (.istore_n 2, 1) := by decide +kernel
theorem dX9_backward_37 : decode cX9_backward 37 = .ok (.iload_n 3, 1) := by decide +kernel
theorem dX9_backward_38 : decode cX9_backward 38 = .ok (.bipush 10, 2) := by decide +kernel
theorem dX9_backward_40 : decode cX9_backward 40 = .ok (.idiv, 1) := by decide +kernel
theorem dX9_backward_41 : decode cX9_backward 41 = .ok (.istore_n 3, 1) := by decide +kernel
theorem dX9_backward_42 : decode cX9_backward 42 = .ok (.iinc 4 1, 3) := by decide +kernel
theorem dX9_backward_45 : decode cX9_backward 45 = .ok (.goto (-29), 3) := by decide +kernel
theorem dX9_backward_48 : decode cX9_backward 48 = .ok (.iload_n 2, 1) := by decide +kernel
theorem dX9_backward_49 : decode cX9_backward 49 = .ok (.ireturn, 1) := by decide +kernel
theorem r_X9_backward_0 {d rc rs : Nat} {Q : PO → PH → Prop} {h : PH} {l0 : Nat} {l1 : Int32}
    (k : isO h 10900 l0 ∧ cl d rc rs M_X9_needWithin [vR (900, l0), vI l1, vI (0 : Int32), vI (99999999 : Int32)] h (kV fun h1 rc2 rs3 => PW d M_X9_backward Q rc2 rs3 16 [vU, vU, vI (0 : Int32), vI l1, vI (0 : Int32)] [] h1) (fun E h1 rc2 rs3 => Q (.inr E) h1)) :
    PW d M_X9_backward Q rc rs 0 [vR (900, l0), vI l1, vU, vU, vU] [] h := by
  refine P_aload_n (pc := 0) dX9_backward_0 rfl ?_
  refine P_iload_n (pc := 1) dX9_backward_1 rfl ?_
  refine P_iconst (v := (0 : Int32)) (pc := 2) dX9_backward_2 (by decide) ?_
  refine P_ldcw (v := (99999999 : Int32)) (pc := 3) dX9_backward_3 l_X9_406 ?_
  obtain ⟨⟨w9, e9⟩, d2, nc, ns, rc2, rs3, Qc, g1, rfl, rfl, g2, kk, kx⟩ := k
  refine P_callV (ci := 9) (k := 0) (id := l0) (q := (RX9, TX9, 18)) (As := [vI l1, vI (0 : Int32), vI (99999999 : Int32)]) (st := []) (pc := 6) dX9_backward_6 mk_X9_needWithin l_X9_159 im_X9_needWithin se_X9_needWithin ini_X9 rfl g1 (Nat.le_of_ble_eq_true rfl) rfl rfl (by decide) e9 rfl g2 (fun v9 h9 q9 => ?_) (fun E h9 q9 => PX_out rfl (kx E h9 q9))
  obtain ⟨rfl, k⟩ := kk v9 h9 q9
  clear kk kx g1 g2 q9
  refine P_iconst (v := (0 : Int32)) (pc := 9) dX9_backward_9 (by decide) ?_
  refine P_istore_n (pc := 10) dX9_backward_10 (by decide) (Or.inr (by intro z e9; cases e9)) rfl ?_
  refine P_iload_n (pc := 11) dX9_backward_11 rfl ?_
  refine P_istore_n (pc := 12) dX9_backward_12 (by decide) (Or.inr (by intro z e9; cases e9)) rfl ?_
  refine P_iconst (v := (0 : Int32)) (pc := 13) dX9_backward_13 (by decide) ?_
  refine P_istore (pc := 14) dX9_backward_14 (by decide) (Or.inr (by intro z e9; cases e9)) rfl ?_
  exact P_drop (ls2 := [vU, vU, vI (0 : Int32), vI l1, vI (0 : Int32)]) (ls := [vR (900, l0), vI l1, vI (0 : Int32), vI l1, vI (0 : Int32)]) ⟨Or.inl rfl, ⟨Or.inl rfl, ⟨Or.inr rfl, ⟨Or.inr rfl, ⟨Or.inr rfl, trivial⟩⟩⟩⟩⟩ k
theorem r_X9_backward_16 {d rc rs : Nat} {Q : PO → PH → Prop} {h : PH} {l2 : Int32} {l3 : Int32} {l4 : Int32}
    (k : br (l4 < (8 : Int32)) (br (0 < l3) (nz (10 : Int32) (nz (10 : Int32) (PW d M_X9_backward Q rc rs 16 [vU, vU, vI ((l2 * (10 : Int32)) + (l3 - l3 / (10 : Int32) * (10 : Int32))), vI (l3 / (10 : Int32)), vI (l4 + (1 : Int32))] [] h))) (Q (.inl (some (vI l2))) h)) (Q (.inl (some (vI l2))) h)) :
    PW d M_X9_backward Q rc rs 16 [vU, vU, vI l2, vI l3, vI l4] [] h := by
  refine P_iload (pc := 16) dX9_backward_16 rfl ?_
  refine P_bipush (v := (8 : Int32)) (pc := 18) dX9_backward_18 (by decide) ?_
  refine P_icmp_ge (tgt := 48) (pc := 20) dX9_backward_20 (by decide) (fun c => ?_) (fun c => ?_)
  · have k := k.2 (Int32.not_lt.mpr c)
    refine P_iload_n (pc := 48) dX9_backward_48 rfl ?_
    exact R_ireturn (pc := 49) dX9_backward_49 rfl rfl k
  · have k := k.1 (Int32.not_le.mp c)
    refine P_iload_n (pc := 23) dX9_backward_23 rfl ?_
    refine P_if_le (tgt := 48) (pc := 24) dX9_backward_24 (by decide) (fun c => ?_) (fun c => ?_)
    · have k := k.2 (Int32.not_lt.mpr c)
      refine P_iload_n (pc := 48) dX9_backward_48 rfl ?_
      exact R_ireturn (pc := 49) dX9_backward_49 rfl rfl k
    · have k := k.1 (Int32.not_le.mp c)
      refine P_iload_n (pc := 27) dX9_backward_27 rfl ?_
      refine P_bipush (v := (10 : Int32)) (pc := 28) dX9_backward_28 (by decide) ?_
      refine P_imul (pc := 30) dX9_backward_30 ?_
      refine P_iload_n (pc := 31) dX9_backward_31 rfl ?_
      refine P_bipush (v := (10 : Int32)) (pc := 32) dX9_backward_32 (by decide) ?_
      refine P_irem (pc := 34) dX9_backward_34 k.1 ?_
      replace k := k.2
      refine P_iadd (pc := 35) dX9_backward_35 ?_
      refine P_istore_n (pc := 36) dX9_backward_36 (by decide) (Or.inr (by intro z e9; cases e9)) rfl ?_
      refine P_iload_n (pc := 37) dX9_backward_37 rfl ?_
      refine P_bipush (v := (10 : Int32)) (pc := 38) dX9_backward_38 (by decide) ?_
      refine P_idiv (pc := 40) dX9_backward_40 k.1 ?_
      replace k := k.2
      refine P_istore_n (pc := 41) dX9_backward_41 (by decide) (Or.inr (by intro z e9; cases e9)) rfl ?_
      refine P_iinc (v := l4 + (1 : Int32)) (pc := 42) dX9_backward_42 (by decide) rfl rfl (Or.inr (by intro z e9; cases e9)) rfl ?_
      refine P_goto (tgt := 16) (pc := 45) dX9_backward_45 (by decide) ?_
      exact k
-- X9_image image()I
theorem dX9_image_0 : decode cX9_image 0 = .ok (.aload_n 0, 1) := by decide +kernel
theorem dX9_image_1 : decode cX9_image 1 = .ok (.getfield 117, 3) := by decide +kernel
theorem dX9_image_4 : decode cX9_image 4 = .ok (.iconst 3, 1) := by decide +kernel
theorem dX9_image_5 : decode cX9_image 5 = .ok (.if_icmp .lt 5, 3) := by decide +kernel
theorem dX9_image_8 : decode cX9_image 8 = .ok (.iconst (-1), 1) := by decide +kernel
theorem dX9_image_9 : decode cX9_image 9 = .ok (.ireturn, 1) := by decide +kernel
theorem dX9_image_10 : decode cX9_image 10 = .ok (.aload_n 0, 1) := by decide +kernel
theorem dX9_image_11 : decode cX9_image 11 = .ok (.getfield 30, 3) := by decide +kernel
theorem dX9_image_14 : decode cX9_image 14 = .ok (.aload_n 0, 1) := by decide +kernel
theorem dX9_image_15 : decode cX9_image 15 = .ok (.getfield 117, 3) := by decide +kernel
theorem dX9_image_18 : decode cX9_image 18 = .ok (.aaload, 1) := by decide +kernel
theorem dX9_image_19 : decode cX9_image 19 = .ok (.aload_n 0, 1) := by decide +kernel
theorem dX9_image_20 : decode cX9_image 20 = .ok (.getfield 26, 3) := by decide +kernel
theorem dX9_image_23 : decode cX9_image 23 = .ok (.invokevirtual 407, 3) := by decide +kernel
theorem dX9_image_26 : decode cX9_image 26 = .ok (.aload_n 0, 1) := by decide +kernel
theorem dX9_image_27 : decode cX9_image 27 = .ok (.dup, 1) := by decide +kernel
theorem dX9_image_28 : decode cX9_image 28 = .ok (.getfield 117, 3) := by decide +kernel
theorem dX9_image_31 : decode cX9_image 31 = .ok (.iconst 1, 1) := by decide +kernel
theorem dX9_image_32 : decode cX9_image 32 = .ok (.iadd, 1) := by decide +kernel
theorem dX9_image_33 : decode cX9_image 33 = .ok (.putfield 117, 3) := by decide +kernel
theorem dX9_image_36 : decode cX9_image 36 = .ok (.aload_n 0, 1) := by decide +kernel
theorem dX9_image_37 : decode cX9_image 37 = .ok (.getfield 117, 3) := by decide +kernel
theorem dX9_image_40 : decode cX9_image 40 = .ok (.ireturn, 1) := by decide +kernel
theorem r_X9_image_0 {d rc rs : Nat} {Q : PO → PH → Prop} {h : PH} {l0 : Nat}
    (k : gI h (10914, l0) fun x1 => br (x1 < (3 : Int32)) (gA h (10903, l0) fun a2 => gI h (10914, l0) fun x3 => xO h a2 x3 5 200 fun o4 => gO h (10902, l0) 200 fun o5 => isO h 10200 o4 ∧ cl d rc rs M_X2_copy [vR (200, o4), vR (200, o5)] h (kV fun h6 rc7 rs8 => gI h6 (10914, l0) fun x9 => sF h6 (10914, l0) (vI (x9 + (1 : Int32))) fun h10 => gI h10 (10914, l0) fun x11 => Q (.inl (some (vI x11))) h10) (fun E h6 rc7 rs8 => Q (.inr E) h6)) (Q (.inl (some (vI (-1 : Int32)))) h)) :
    PW d M_X9_image Q rc rs 0 [vR (900, l0)] [] h := by
  refine P_aload_n (pc := 0) dX9_image_0 rfl ?_
  obtain ⟨x1, e9, k⟩ := k
  refine G9_14 (pc := 1) dX9_image_1 l_X9_117 e9 ?_
  clear e9
  refine P_iconst (v := (3 : Int32)) (pc := 4) dX9_image_4 (by decide) ?_
  refine P_icmp_lt (tgt := 10) (pc := 5) dX9_image_5 (by decide) (fun c => ?_) (fun c => ?_)
  · have k := k.1 c
    refine P_aload_n (pc := 10) dX9_image_10 rfl ?_
    obtain ⟨a2, e9, k⟩ := k
    refine G9_3 (pc := 11) dX9_image_11 l_X9_30 e9 ?_
    clear e9
    refine P_aload_n (pc := 14) dX9_image_14 rfl ?_
    obtain ⟨x3, e9, k⟩ := k
    refine G9_14 (pc := 15) dX9_image_15 l_X9_117 e9 ?_
    clear e9
    obtain ⟨n9, f9, o4, e9, i9, b9, k⟩ := k
    refine P_aald (kd := 5) (pc := 18) dX9_image_18 (by decide) rfl e9 i9 b9 ?_
    refine P_aload_n (pc := 19) dX9_image_19 rfl ?_
    obtain ⟨o5, e9, k⟩ := k
    refine G9_2 (pc := 20) dX9_image_20 l_X9_26 e9 ?_
    clear e9
    obtain ⟨⟨w9, e9⟩, d2, nc, ns, rc7, rs8, Qc, g1, rfl, rfl, g2, kk, kx⟩ := k
    refine P_callV (ci := 2) (k := 0) (id := o4) (q := (RX2, TX2, 3)) (As := [vR (200, o5)]) (st := []) (pc := 23) dX9_image_23 mk_X2_copy l_X9_407 im_X2_copy se_X2_copy ini_X2 rfl g1 (Nat.le_of_ble_eq_true rfl) rfl rfl (by decide) e9 rfl g2 (fun v9 h9 q9 => ?_) (fun E h9 q9 => PX_out rfl (kx E h9 q9))
    obtain ⟨rfl, k⟩ := kk v9 h9 q9
    clear kk kx g1 g2 q9
    refine P_aload_n (pc := 26) dX9_image_26 rfl ?_
    refine P_dup (pc := 27) dX9_image_27 (fun _ => rfl) ?_
    obtain ⟨x9, e9, k⟩ := k
    refine G9_14 (pc := 28) dX9_image_28 l_X9_117 e9 ?_
    clear e9
    refine P_iconst (v := (1 : Int32)) (pc := 31) dX9_image_31 (by decide) ?_
    refine P_iadd (pc := 32) dX9_image_32 ?_
    obtain ⟨⟨v9, e9⟩, k⟩ := k
    refine S9_14 (pc := 33) dX9_image_33 l_X9_117 e9 ?_
    clear e9
    refine P_aload_n (pc := 36) dX9_image_36 rfl ?_
    obtain ⟨x11, e9, k⟩ := k
    refine G9_14 (pc := 37) dX9_image_37 l_X9_117 e9 ?_
    clear e9
    exact R_ireturn (pc := 40) dX9_image_40 rfl rfl k
  · have k := k.2 c
    refine P_iconst (v := (-1 : Int32)) (pc := 8) dX9_image_8 (by decide) ?_
    exact R_ireturn (pc := 9) dX9_image_9 rfl rfl k
-- X9_restore restore()I
theorem dX9_restore_0 : decode cX9_restore 0 = .ok (.aload_n 0, 1) := by decide +kernel
theorem dX9_restore_1 : decode cX9_restore 1 = .ok (.getfield 117, 3) := by decide +kernel
theorem dX9_restore_4 : decode cX9_restore 4 = .ok (.ifCond .gt 5, 3) := by decide +kernel
theorem dX9_restore_7 : decode cX9_restore 7 = .ok (.iconst (-1), 1) := by decide +kernel
theorem dX9_restore_8 : decode cX9_restore 8 = .ok (.ireturn, 1) := by decide +kernel
theorem dX9_restore_9 : decode cX9_restore 9 = .ok (.aload_n 0, 1) := by decide +kernel
theorem dX9_restore_10 : decode cX9_restore 10 = .ok (.dup, 1) := by decide +kernel
theorem dX9_restore_11 : decode cX9_restore 11 = .ok (.getfield 117, 3) := by decide +kernel
theorem dX9_restore_14 : decode cX9_restore 14 = .ok (.iconst 1, 1) := by decide +kernel
theorem dX9_restore_15 : decode cX9_restore 15 = .ok (.isub, 1) := by decide +kernel
theorem dX9_restore_16 : decode cX9_restore 16 = .ok (.putfield 117, 3) := by decide +kernel
theorem dX9_restore_19 : decode cX9_restore 19 = .ok (.aload_n 0, 1) := by decide +kernel
theorem dX9_restore_20 : decode cX9_restore 20 = .ok (.getfield 26, 3) := by decide +kernel
theorem dX9_restore_23 : decode cX9_restore 23 = .ok (.aload_n 0, 1) := by decide +kernel
theorem dX9_restore_24 : decode cX9_restore 24 = .ok (.getfield 30, 3) := by decide +kernel
theorem dX9_restore_27 : decode cX9_restore 27 = .ok (.aload_n 0, 1) := by decide +kernel
theorem dX9_restore_28 : decode cX9_restore 28 = .ok (.getfield 117, 3) := by decide +kernel
theorem dX9_restore_31 : decode cX9_restore 31 = .ok (.aaload, 1) := by decide +kernel
theorem dX9_restore_32 : decode cX9_restore 32 = .ok (.invokevirtual 407, 3) := by decide +kernel
theorem dX9_restore_35 : decode cX9_restore 35 = .ok (.aload_n 0, 1) := by decide +kernel
theorem dX9_restore_36 : decode cX9_restore 36 = .ok (.iconst 0, 1) := by decide +kernel
theorem dX9_restore_37 : decode cX9_restore 37 = .ok (.putfield 120, 3) := by decide +kernel
theorem dX9_restore_40 : decode cX9_restore 40 = .ok (.aload_n 0, 1) := by decide +kernel
theorem dX9_restore_41 : decode cX9_restore 41 = .ok (.getfield 117, 3) := by decide +kernel
theorem dX9_restore_44 : decode cX9_restore 44 = .ok (.ireturn, 1) := by decide +kernel
theorem r_X9_restore_0 {d rc rs : Nat} {Q : PO → PH → Prop} {h : PH} {l0 : Nat}
    (k : gI h (10914, l0) fun x1 => br (0 < x1) (gI h (10914, l0) fun x2 => sF h (10914, l0) (vI (x2 - (1 : Int32))) fun h3 => gO h3 (10902, l0) 200 fun o4 => gA h3 (10903, l0) fun a5 => gI h3 (10914, l0) fun x6 => xO h3 a5 x6 5 200 fun o7 => isO h3 10200 o4 ∧ cl d rc rs M_X2_copy [vR (200, o4), vR (200, o7)] h3 (kV fun h8 rc9 rs10 => sF h8 (10915, l0) (vI (0 : Int32)) fun h11 => gI h11 (10914, l0) fun x12 => Q (.inl (some (vI x12))) h11) (fun E h8 rc9 rs10 => Q (.inr E) h8)) (Q (.inl (some (vI (-1 : Int32)))) h)) :
    PW d M_X9_restore Q rc rs 0 [vR (900, l0)] [] h := by
  refine P_aload_n (pc := 0) dX9_restore_0 rfl ?_
  obtain ⟨x1, e9, k⟩ := k
  refine G9_14 (pc := 1) dX9_restore_1 l_X9_117 e9 ?_
  clear e9
  refine P_if_gt (tgt := 9) (pc := 4) dX9_restore_4 (by decide) (fun c => ?_) (fun c => ?_)
  · have k := k.1 c
    refine P_aload_n (pc := 9) dX9_restore_9 rfl ?_
    refine P_dup (pc := 10) dX9_restore_10 (fun _ => rfl) ?_
    obtain ⟨x2, e9, k⟩ := k
    refine G9_14 (pc := 11) dX9_restore_11 l_X9_117 e9 ?_
    clear e9
    refine P_iconst (v := (1 : Int32)) (pc := 14) dX9_restore_14 (by decide) ?_
    refine P_isub (pc := 15) dX9_restore_15 ?_
    obtain ⟨⟨v9, e9⟩, k⟩ := k
    refine S9_14 (pc := 16) dX9_restore_16 l_X9_117 e9 ?_
    clear e9
    refine P_aload_n (pc := 19) dX9_restore_19 rfl ?_
    obtain ⟨o4, e9, k⟩ := k
    refine G9_2 (pc := 20) dX9_restore_20 l_X9_26 e9 ?_
    clear e9
    refine P_aload_n (pc := 23) dX9_restore_23 rfl ?_
    obtain ⟨a5, e9, k⟩ := k
    refine G9_3 (pc := 24) dX9_restore_24 l_X9_30 e9 ?_
    clear e9
    refine P_aload_n (pc := 27) dX9_restore_27 rfl ?_
    obtain ⟨x6, e9, k⟩ := k
    refine G9_14 (pc := 28) dX9_restore_28 l_X9_117 e9 ?_
    clear e9
    obtain ⟨n9, f9, o7, e9, i9, b9, k⟩ := k
    refine P_aald (kd := 5) (pc := 31) dX9_restore_31 (by decide) rfl e9 i9 b9 ?_
    obtain ⟨⟨w9, e9⟩, d2, nc, ns, rc9, rs10, Qc, g1, rfl, rfl, g2, kk, kx⟩ := k
    refine P_callV (ci := 2) (k := 0) (id := o4) (q := (RX2, TX2, 3)) (As := [vR (200, o7)]) (st := []) (pc := 32) dX9_restore_32 mk_X2_copy l_X9_407 im_X2_copy se_X2_copy ini_X2 rfl g1 (Nat.le_of_ble_eq_true rfl) rfl rfl (by decide) e9 rfl g2 (fun v9 h9 q9 => ?_) (fun E h9 q9 => PX_out rfl (kx E h9 q9))
    obtain ⟨rfl, k⟩ := kk v9 h9 q9
    clear kk kx g1 g2 q9
    refine P_aload_n (pc := 35) dX9_restore_35 rfl ?_
    refine P_iconst (v := (0 : Int32)) (pc := 36) dX9_restore_36 (by decide) ?_
    obtain ⟨⟨v9, e9⟩, k⟩ := k
    refine S9_15 (pc := 37) dX9_restore_37 l_X9_120 e9 ?_
    clear e9
    refine P_aload_n (pc := 40) dX9_restore_40 rfl ?_
    obtain ⟨x12, e9, k⟩ := k
    refine G9_14 (pc := 41) dX9_restore_41 l_X9_117 e9 ?_
    clear e9
    exact R_ireturn (pc := 44) dX9_restore_44 rfl rfl k
  · have k := k.2 c
    refine P_iconst (v := (-1 : Int32)) (pc := 7) dX9_restore_7 (by decide) ?_
    exact R_ireturn (pc := 8) dX9_restore_8 rfl rfl k
-- X9_status status(I)I
theorem dX9_status_0 : decode cX9_status 0 = .ok (.iload_n 1, 1) := by decide +kernel
theorem dX9_status_1 : decode cX9_status 1 = .ok (.lookupswitch 37 #[(0, 27), (1, 32)], 27) := by decide +kernel
theorem dX9_status_28 : decode cX9_status 28 = .ok (.aload_n 0, 1) := by decide +kernel
theorem dX9_status_29 : decode cX9_status 29 = .ok (.getfield 410, 3) := by decide +kernel
theorem dX9_status_32 : decode cX9_status 32 = .ok (.ireturn, 1) := by decide +kernel
theorem dX9_status_33 : decode cX9_status 33 = .ok (.aload_n 0, 1) := by decide +kernel
theorem dX9_status_34 : decode cX9_status 34 = .ok (.getfield 413, 3) := by decide +kernel
theorem dX9_status_37 : decode cX9_status 37 = .ok (.ireturn, 1) := by decide +kernel
theorem dX9_status_38 : decode cX9_status 38 = .ok (.iconst (-1), 1) := by decide +kernel
theorem dX9_status_39 : decode cX9_status 39 = .ok (.ireturn, 1) := by decide +kernel
theorem r_X9_status_0 {d rc rs : Nat} {Q : PO → PH → Prop} {h : PH} {l0 : Nat} {l1 : Int32}
    (k : (l1 = (0 : Int32) → gI h (10916, l0) fun x1 => Q (.inl (some (vI x1))) h) ∧ (l1 = (1 : Int32) → gI h (10917, l0) fun x2 => Q (.inl (some (vI x2))) h) ∧ (¬ l1 = (0 : Int32) ∧ ¬ l1 = (1 : Int32) → Q (.inl (some (vI (-1 : Int32)))) h)) :
    PW d M_X9_status Q rc rs 0 [vR (900, l0), vI l1] [] h := by
  refine P_iload_n (pc := 0) dX9_status_0 rfl ?_
  by_cases c0 : l1 = (0 : Int32)
  · replace k := k.1 c0
    refine P_lookup (pc := 1) (tgt := 28) dX9_status_1 (by decide) (by rw [c0] <;> rfl) (by decide) ?_
    refine P_aload_n (pc := 28) dX9_status_28 rfl ?_
    obtain ⟨x1, e9, k⟩ := k
    refine G9_16 (pc := 29) dX9_status_29 l_X9_410 e9 ?_
    clear e9
    exact R_ireturn (pc := 32) dX9_status_32 rfl rfl k
  replace k := k.2
  by_cases c1 : l1 = (1 : Int32)
  · replace k := k.1 c1
    refine P_lookup (pc := 1) (tgt := 33) dX9_status_1 (by decide) (by rw [c1] <;> rfl) (by decide) ?_
    refine P_aload_n (pc := 33) dX9_status_33 rfl ?_
    obtain ⟨x2, e9, k⟩ := k
    refine G9_17 (pc := 34) dX9_status_34 l_X9_413 e9 ?_
    clear e9
    exact R_ireturn (pc := 37) dX9_status_37 rfl rfl k
  replace k := k.2
  replace k := k ⟨c0, c1⟩
  refine P_lookup (off := 37) (pc := 1) (tgt := 38) dX9_status_1 (by decide) ?_ (by decide) ?_
  · exact lko (List.forall_mem_cons.mpr ⟨Ne.symm (ti_ne c0), (List.forall_mem_cons.mpr ⟨Ne.symm (ti_ne c1), (fun _ h9 => nomatch h9)⟩)⟩)
  refine P_iconst (v := (-1 : Int32)) (pc := 38) dX9_status_38 (by decide) ?_
  exact R_ireturn (pc := 39) dX9_status_39 rfl rfl k
-- X9_count count(I)I
theorem dX9_count_0 : decode cX9_count 0 = .ok (.iload_n 1, 1) := by decide +kernel
theorem dX9_count_1 : decode cX9_count 1 = .ok (.tableswitch 48 0 2 #[27, 32, 40], 27) := by decide +kernel
theorem dX9_count_28 : decode cX9_count 28 = .ok (.aload_n 0, 1) := by decide +kernel
theorem dX9_count_29 : decode cX9_count 29 = .ok (.getfield 117, 3) := by decide +kernel
theorem dX9_count_32 : decode cX9_count 32 = .ok (.ireturn, 1) := by decide +kernel
theorem dX9_count_33 : decode cX9_count 33 = .ok (.aload_n 0, 1) := by decide +kernel
theorem dX9_count_34 : decode cX9_count 34 = .ok (.getfield 12, 3) := by decide +kernel
theorem dX9_count_37 : decode cX9_count 37 = .ok (.getfield 95, 3) := by decide +kernel
theorem dX9_count_40 : decode cX9_count 40 = .ok (.ireturn, 1) := by decide +kernel
theorem dX9_count_41 : decode cX9_count 41 = .ok (.aload_n 0, 1) := by decide +kernel
theorem dX9_count_42 : decode cX9_count 42 = .ok (.getfield 26, 3) := by decide +kernel
theorem dX9_count_45 : decode cX9_count 45 = .ok (.getfield 127, 3) := by decide +kernel
theorem dX9_count_48 : decode cX9_count 48 = .ok (.ireturn, 1) := by decide +kernel
theorem dX9_count_49 : decode cX9_count 49 = .ok (.iconst (-1), 1) := by decide +kernel
theorem dX9_count_50 : decode cX9_count 50 = .ok (.ireturn, 1) := by decide +kernel
theorem r_X9_count_0 {d rc rs : Nat} {Q : PO → PH → Prop} {h : PH} {l0 : Nat} {l1 : Int32}
    (k : (l1 = (0 : Int32) → gI h (10914, l0) fun x1 => Q (.inl (some (vI x1))) h) ∧ (l1 = (1 : Int32) → gO h (10900, l0) 800 fun o2 => gI h (10801, o2) fun x3 => Q (.inl (some (vI x3))) h) ∧ (l1 = (2 : Int32) → gO h (10902, l0) 200 fun o4 => gI h (10202, o4) fun x5 => Q (.inl (some (vI x5))) h) ∧ (¬ l1 = (0 : Int32) ∧ ¬ l1 = (1 : Int32) ∧ ¬ l1 = (2 : Int32) → Q (.inl (some (vI (-1 : Int32)))) h)) :
    PW d M_X9_count Q rc rs 0 [vR (900, l0), vI l1] [] h := by
  refine P_iload_n (pc := 0) dX9_count_0 rfl ?_
  by_cases c0 : l1 = (0 : Int32)
  · replace k := k.1 c0
    refine P_tableIn (pc := 1) (tgt := 28) dX9_count_1 (by rw [c0]; decide) (by rw [c0]; decide) (by rw [c0] <;> rfl) (by decide) ?_
    refine P_aload_n (pc := 28) dX9_count_28 rfl ?_
    obtain ⟨x1, e9, k⟩ := k
    refine G9_14 (pc := 29) dX9_count_29 l_X9_117 e9 ?_
    clear e9
    exact R_ireturn (pc := 32) dX9_count_32 rfl rfl k
  replace k := k.2
  by_cases c1 : l1 = (1 : Int32)
  · replace k := k.1 c1
    refine P_tableIn (pc := 1) (tgt := 33) dX9_count_1 (by rw [c1]; decide) (by rw [c1]; decide) (by rw [c1] <;> rfl) (by decide) ?_
    refine P_aload_n (pc := 33) dX9_count_33 rfl ?_
    obtain ⟨o2, e9, k⟩ := k
    refine G9_0 (pc := 34) dX9_count_34 l_X9_12 e9 ?_
    clear e9
    obtain ⟨x3, e9, k⟩ := k
    refine GN8_1 (pc := 37) dX9_count_37 n_X9_95 e9 ?_
    clear e9
    exact R_ireturn (pc := 40) dX9_count_40 rfl rfl k
  replace k := k.2
  by_cases c2 : l1 = (2 : Int32)
  · replace k := k.1 c2
    refine P_tableIn (pc := 1) (tgt := 41) dX9_count_1 (by rw [c2]; decide) (by rw [c2]; decide) (by rw [c2] <;> rfl) (by decide) ?_
    refine P_aload_n (pc := 41) dX9_count_41 rfl ?_
    obtain ⟨o4, e9, k⟩ := k
    refine G9_2 (pc := 42) dX9_count_42 l_X9_26 e9 ?_
    clear e9
    obtain ⟨x5, e9, k⟩ := k
    refine GN2_2 (pc := 45) dX9_count_45 n_X9_127 e9 ?_
    clear e9
    exact R_ireturn (pc := 48) dX9_count_48 rfl rfl k
  replace k := k.2
  replace k := k ⟨c0, c1, c2⟩
  refine P_tableOut (pc := 1) (tgt := 49) dX9_count_1 ?_ (by decide) ?_
  · have q9 := sw_out (x := l1) (lo := 0) 3 (fun j hj => by
        match j, hj with
        | 0, _ => exact ti_ne c0
        | 1, _ => exact ti_ne c1
        | 2, _ => exact ti_ne c2
        | n + 3, hj => exact absurd hj (by omega))
    omega
  refine P_iconst (v := (-1 : Int32)) (pc := 49) dX9_count_49 (by decide) ?_
  exact R_ireturn (pc := 50) dX9_count_50 rfl rfl k
-- X9_beginText beginText(II)V
theorem dX9_beginText_0 : decode cX9_beginText 0 = .ok (.aload_n 0, 1) := by decide +kernel
theorem dX9_beginText_1 : decode cX9_beginText 1 = .ok (.iload_n 1, 1) := by decide +kernel
theorem dX9_beginText_2 : decode cX9_beginText 2 = .ok (.iconst 0, 1) := by decide +kernel
theorem dX9_beginText_3 : decode cX9_beginText 3 = .ok (.iload_n 2, 1) := by decide +kernel
theorem dX9_beginText_4 : decode cX9_beginText 4 = .ok (.aload_n 0, 1) := by decide +kernel
theorem dX9_beginText_5 : decode cX9_beginText 5 = .ok (.getfield 12, 3) := by decide +kernel
theorem dX9_beginText_8 : decode cX9_beginText 8 = .ok (.getfield 95, 3) := by decide +kernel
theorem dX9_beginText_11 : decode cX9_beginText 11 = .ok (.invokestatic 306, 3) := by decide +kernel
theorem dX9_beginText_14 : decode cX9_beginText 14 = .ok (.invokevirtual 159, 3) := by decide +kernel
theorem dX9_beginText_17 : decode cX9_beginText 17 = .ok (.aload_n 0, 1) := by decide +kernel
theorem dX9_beginText_18 : decode cX9_beginText 18 = .ok (.getfield 12, 3) := by decide +kernel
theorem dX9_beginText_21 : decode cX9_beginText 21 = .ok (.iload_n 1, 1) := by decide +kernel
theorem dX9_beginText_22 : decode cX9_beginText 22 = .ok (.invokevirtual 416, 3) := by decide +kernel
theorem dX9_beginText_25 : decode cX9_beginText 25 = .ok (.return_, 1) := by decide +kernel
theorem r_X9_beginText_0 {d rc rs : Nat} {Q : PO → PH → Prop} {h : PH} {l0 : Nat} {l1 : Int32} {l2 : Int32}
    (k : gO h (10900, l0) 800 fun o1 => gI h (10801, o1) fun x2 => cl d rc rs M_J9_min_7cf53 [vI l2, vI x2] h (kI fun x6 h3 rc4 rs5 => isO h3 10900 l0 ∧ cl d rc4 rs5 M_X9_needWithin [vR (900, l0), vI l1, vI (0 : Int32), vI x6] h3 (kV fun h7 rc8 rs9 => gO h7 (10900, l0) 800 fun o10 => isO h7 10800 o10 ∧ cl d rc8 rs9 M_X8_begin [vR (800, o10), vI l1] h7 (kV fun h11 rc12 rs13 => Q (.inl none) h11) (fun E h11 rc12 rs13 => Q (.inr E) h11)) (fun E h7 rc8 rs9 => Q (.inr E) h7)) (fun E h3 rc4 rs5 => Q (.inr E) h3)) :
    PW d M_X9_beginText Q rc rs 0 [vR (900, l0), vI l1, vI l2] [] h := by
  refine P_aload_n (pc := 0) dX9_beginText_0 rfl ?_
  refine P_iload_n (pc := 1) dX9_beginText_1 rfl ?_
  refine P_iconst (v := (0 : Int32)) (pc := 2) dX9_beginText_2 (by decide) ?_
  refine P_iload_n (pc := 3) dX9_beginText_3 rfl ?_
  refine P_aload_n (pc := 4) dX9_beginText_4 rfl ?_
  obtain ⟨o1, e9, k⟩ := k
  refine G9_0 (pc := 5) dX9_beginText_5 l_X9_12 e9 ?_
  clear e9
  obtain ⟨x2, e9, k⟩ := k
  refine GN8_1 (pc := 8) dX9_beginText_8 n_X9_95 e9 ?_
  clear e9
  obtain ⟨d2, nc, ns, rc4, rs5, Qc, g1, rfl, rfl, g2, kk, kx⟩ := k
  refine P_callS (As := [vI l2, vI x2]) (st := [vI (0 : Int32), vI l1, vR (900, l0)]) (pc := 11) dX9_beginText_11 mk_J9_min_7cf53 l_X9_306 st_J9_min_7cf53 ini_J9 rfl g1 (Nat.le_of_ble_eq_true rfl) rfl g2 (fun v9 h9 q9 => ?_) (fun E h9 q9 => PX_out rfl (kx E h9 q9))
  obtain ⟨x6, rfl, k⟩ := kk v9 h9 q9
  clear kk kx g1 g2 q9
  obtain ⟨⟨w9, e9⟩, d2, nc, ns, rc8, rs9, Qc, g1, rfl, rfl, g2, kk, kx⟩ := k
  refine P_callV (ci := 9) (k := 0) (id := l0) (q := (RX9, TX9, 18)) (As := [vI l1, vI (0 : Int32), vI x6]) (st := []) (pc := 14) dX9_beginText_14 mk_X9_needWithin l_X9_159 im_X9_needWithin se_X9_needWithin ini_X9 rfl g1 (Nat.le_of_ble_eq_true rfl) rfl rfl (by decide) e9 rfl g2 (fun v9 h9 q9 => ?_) (fun E h9 q9 => PX_out rfl (kx E h9 q9))
  obtain ⟨rfl, k⟩ := kk v9 h9 q9
  clear kk kx g1 g2 q9
  refine P_aload_n (pc := 17) dX9_beginText_17 rfl ?_
  obtain ⟨o10, e9, k⟩ := k
  refine G9_0 (pc := 18) dX9_beginText_18 l_X9_12 e9 ?_
  clear e9
  refine P_iload_n (pc := 21) dX9_beginText_21 rfl ?_
  obtain ⟨⟨w9, e9⟩, d2, nc, ns, rc12, rs13, Qc, g1, rfl, rfl, g2, kk, kx⟩ := k
  refine P_callV (ci := 8) (k := 0) (id := o10) (q := (RX8, TX8, 7)) (As := [vI l1]) (st := []) (pc := 22) dX9_beginText_22 mk_X8_begin l_X9_416 im_X8_begin se_X8_begin ini_X8 rfl g1 (Nat.le_of_ble_eq_true rfl) rfl rfl (by decide) e9 rfl g2 (fun v9 h9 q9 => ?_) (fun E h9 q9 => PX_out rfl (kx E h9 q9))
  obtain ⟨rfl, k⟩ := kk v9 h9 q9
  clear kk kx g1 g2 q9
  exact R_return (pc := 25) dX9_beginText_25 rfl k
-- X9_need need(Z)V
theorem dX9_need_0 : decode cX9_need 0 = .ok (.iload_n 1, 1) := by decide +kernel
theorem dX9_need_1 : decode cX9_need 1 = .ok (.ifCond .ne 21, 3) := by decide +kernel
theorem dX9_need_4 : decode cX9_need 4 = .ok (.aload_n 0, 1) := by decide +kernel
theorem dX9_need_5 : decode cX9_need 5 = .ok (.dup, 1) := by decide +kernel
theorem dX9_need_6 : decode cX9_need 6 = .ok (.getfield 413, 3) := by decide +kernel
theorem dX9_need_9 : decode cX9_need 9 = .ok (.iconst 1, 1) := by decide +kernel
theorem dX9_need_10 : decode cX9_need 10 = .ok (.iadd, 1) := by decide +kernel
theorem dX9_need_11 : decode cX9_need 11 = .ok (.putfield 413, 3) := by decide +kernel
theorem dX9_need_14 : decode cX9_need 14 = .ok (.new 418, 3) := by decide +kernel
theorem dX9_need_17 : decode cX9_need 17 = .ok (.dup, 1) := by decide +kernel
theorem dX9_need_18 : decode cX9_need 18 = .ok (.invokespecial 420, 3) := by decide +kernel
theorem dX9_need_21 : decode cX9_need 21 = .ok (.athrow, 1) := by decide +kernel
theorem dX9_need_22 : decode cX9_need 22 = .ok (.return_, 1) := by decide +kernel
theorem r_X9_need_0 {d rc rs : Nat} {Q : PO → PH → Prop} {h : PH} {l0 : Nat} {l1 : Int32}
    (k : br (l1 = 0) (gI h (10917, l0) fun x1 => sF h (10917, l0) (vI (x1 + (1 : Int32))) fun h2 => thr d rc rs h2 (Q (.inr "java/lang/IllegalArgumentException") h2)) (Q (.inl none) h)) :
    PW d M_X9_need Q rc rs 0 [vR (900, l0), vI l1] [] h := by
  refine P_iload_n (pc := 0) dX9_need_0 rfl ?_
  refine P_if_ne (tgt := 22) (pc := 1) dX9_need_1 (by decide) (fun c => ?_) (fun c => ?_)
  · have k := k.2 c
    exact R_return (pc := 22) dX9_need_22 rfl k
  · have k := k.1 c
    refine P_aload_n (pc := 4) dX9_need_4 rfl ?_
    refine P_dup (pc := 5) dX9_need_5 (fun _ => rfl) ?_
    obtain ⟨x1, e9, k⟩ := k
    refine G9_17 (pc := 6) dX9_need_6 l_X9_413 e9 ?_
    clear e9
    refine P_iconst (v := (1 : Int32)) (pc := 9) dX9_need_9 (by decide) ?_
    refine P_iadd (pc := 10) dX9_need_10 ?_
    obtain ⟨⟨v9, e9⟩, k⟩ := k
    refine S9_17 (pc := 11) dX9_need_11 l_X9_413 e9 ?_
    clear e9
    exact T_X9_418 (pc := 14) dX9_need_14 dX9_need_17 dX9_need_18 dX9_need_21 k
-- X9_needWithin needWithin(III)V
theorem dX9_needWithin_0 : decode cX9_needWithin 0 = .ok (.aload_n 0, 1) := by decide +kernel
theorem dX9_needWithin_1 : decode cX9_needWithin 1 = .ok (.iload_n 1, 1) := by decide +kernel
theorem dX9_needWithin_2 : decode cX9_needWithin 2 = .ok (.iload_n 2, 1) := by decide +kernel
theorem dX9_needWithin_3 : decode cX9_needWithin 3 = .ok (.if_icmp .lt 12, 3) := by decide +kernel
theorem dX9_needWithin_6 : decode cX9_needWithin 6 = .ok (.iload_n 1, 1) := by decide +kernel
theorem dX9_needWithin_7 : decode cX9_needWithin 7 = .ok (.iload_n 3, 1) := by decide +kernel
theorem dX9_needWithin_8 : decode cX9_needWithin 8 = .ok (.if_icmp .gt 7, 3) := by decide +kernel
theorem dX9_needWithin_11 : decode cX9_needWithin 11 = .ok (.iconst 1, 1) := by decide +kernel
theorem dX9_needWithin_12 : decode cX9_needWithin 12 = .ok (.goto 4, 3) := by decide +kernel
theorem dX9_needWithin_15 : decode cX9_needWithin 15 = .ok (.iconst 0, 1) := by decide +kernel
theorem dX9_needWithin_16 : decode cX9_needWithin 16 = .ok (.invokevirtual 326, 3) := by decide +kernel
theorem dX9_needWithin_19 : decode cX9_needWithin 19 = .ok (.return_, 1) := by decide +kernel
theorem r_X9_needWithin_0 {d rc rs : Nat} {Q : PO → PH → Prop} {h : PH} {l0 : Nat} {l1 : Int32} {l2 : Int32} {l3 : Int32}
    (k : br (l1 < l2) (isO h 10900 l0 ∧ cl d rc rs M_X9_need [vR (900, l0), vI (0 : Int32)] h (kV fun h1 rc2 rs3 => Q (.inl none) h1) (fun E h1 rc2 rs3 => Q (.inr E) h1)) (br (l3 < l1) (isO h 10900 l0 ∧ cl d rc rs M_X9_need [vR (900, l0), vI (0 : Int32)] h (kV fun h4 rc5 rs6 => Q (.inl none) h4) (fun E h4 rc5 rs6 => Q (.inr E) h4)) (isO h 10900 l0 ∧ cl d rc rs M_X9_need [vR (900, l0), vI (1 : Int32)] h (kV fun h7 rc8 rs9 => Q (.inl none) h7) (fun E h7 rc8 rs9 => Q (.inr E) h7)))) :
    PW d M_X9_needWithin Q rc rs 0 [vR (900, l0), vI l1, vI l2, vI l3] [] h := by
  refine P_aload_n (pc := 0) dX9_needWithin_0 rfl ?_
  refine P_iload_n (pc := 1) dX9_needWithin_1 rfl ?_
  refine P_iload_n (pc := 2) dX9_needWithin_2 rfl ?_
  refine P_icmp_lt (tgt := 15) (pc := 3) dX9_needWithin_3 (by decide) (fun c => ?_) (fun c => ?_)
  · have k := k.1 c
    refine P_iconst (v := (0 : Int32)) (pc := 15) dX9_needWithin_15 (by decide) ?_
    obtain ⟨⟨w9, e9⟩, d2, nc, ns, rc2, rs3, Qc, g1, rfl, rfl, g2, kk, kx⟩ := k
    refine P_callV (ci := 9) (k := 0) (id := l0) (q := (RX9, TX9, 18)) (As := [vI (0 : Int32)]) (st := []) (pc := 16) dX9_needWithin_16 mk_X9_need l_X9_326 im_X9_need se_X9_need ini_X9 rfl g1 (Nat.le_of_ble_eq_true rfl) rfl rfl (by decide) e9 rfl g2 (fun v9 h9 q9 => ?_) (fun E h9 q9 => PX_out rfl (kx E h9 q9))
    obtain ⟨rfl, k⟩ := kk v9 h9 q9
    clear kk kx g1 g2 q9
    exact R_return (pc := 19) dX9_needWithin_19 rfl k
  · have k := k.2 c
    refine P_iload_n (pc := 6) dX9_needWithin_6 rfl ?_
    refine P_iload_n (pc := 7) dX9_needWithin_7 rfl ?_
    refine P_icmp_gt (tgt := 15) (pc := 8) dX9_needWithin_8 (by decide) (fun c => ?_) (fun c => ?_)
    · have k := k.1 c
      refine P_iconst (v := (0 : Int32)) (pc := 15) dX9_needWithin_15 (by decide) ?_
      obtain ⟨⟨w9, e9⟩, d2, nc, ns, rc5, rs6, Qc, g1, rfl, rfl, g2, kk, kx⟩ := k
      refine P_callV (ci := 9) (k := 0) (id := l0) (q := (RX9, TX9, 18)) (As := [vI (0 : Int32)]) (st := []) (pc := 16) dX9_needWithin_16 mk_X9_need l_X9_326 im_X9_need se_X9_need ini_X9 rfl g1 (Nat.le_of_ble_eq_true rfl) rfl rfl (by decide) e9 rfl g2 (fun v9 h9 q9 => ?_) (fun E h9 q9 => PX_out rfl (kx E h9 q9))
      obtain ⟨rfl, k⟩ := kk v9 h9 q9
      clear kk kx g1 g2 q9
      exact R_return (pc := 19) dX9_needWithin_19 rfl k
    · have k := k.2 c
      refine P_iconst (v := (1 : Int32)) (pc := 11) dX9_needWithin_11 (by decide) ?_
      refine P_goto (tgt := 16) (pc := 12) dX9_needWithin_12 (by decide) ?_
      obtain ⟨⟨w9, e9⟩, d2, nc, ns, rc8, rs9, Qc, g1, rfl, rfl, g2, kk, kx⟩ := k
      refine P_callV (ci := 9) (k := 0) (id := l0) (q := (RX9, TX9, 18)) (As := [vI (1 : Int32)]) (st := []) (pc := 16) dX9_needWithin_16 mk_X9_need l_X9_326 im_X9_need se_X9_need ini_X9 rfl g1 (Nat.le_of_ble_eq_true rfl) rfl rfl (by decide) e9 rfl g2 (fun v9 h9 q9 => ?_) (fun E h9 q9 => PX_out rfl (kx E h9 q9))
      obtain ⟨rfl, k⟩ := kk v9 h9 q9
      clear kk kx g1 g2 q9
      exact R_return (pc := 19) dX9_needWithin_19 rfl k
-- X9_needBelow needBelow(II)V
theorem dX9_needBelow_0 : decode cX9_needBelow 0 = .ok (.iload_n 1, 1) := by decide +kernel
theorem dX9_needBelow_1 : decode cX9_needBelow 1 = .ok (.ifCond .lt 8, 3) := by decide +kernel
theorem dX9_needBelow_4 : decode cX9_needBelow 4 = .ok (.iload_n 1, 1) := by decide +kernel
theorem dX9_needBelow_5 : decode cX9_needBelow 5 = .ok (.iload_n 2, 1) := by decide +kernel
theorem dX9_needBelow_6 : decode cX9_needBelow 6 = .ok (.if_icmp .lt 21, 3) := by decide +kernel
theorem dX9_needBelow_9 : decode cX9_needBelow 9 = .ok (.aload_n 0, 1) := by decide +kernel
theorem dX9_needBelow_10 : decode cX9_needBelow 10 = .ok (.dup, 1) := by decide +kernel
theorem dX9_needBelow_11 : decode cX9_needBelow 11 = .ok (.getfield 410, 3) := by decide +kernel
theorem dX9_needBelow_14 : decode cX9_needBelow 14 = .ok (.iconst 1, 1) := by decide +kernel
theorem dX9_needBelow_15 : decode cX9_needBelow 15 = .ok (.iadd, 1) := by decide +kernel
theorem dX9_needBelow_16 : decode cX9_needBelow 16 = .ok (.putfield 410, 3) := by decide +kernel
theorem dX9_needBelow_19 : decode cX9_needBelow 19 = .ok (.new 421, 3) := by decide +kernel
theorem dX9_needBelow_22 : decode cX9_needBelow 22 = .ok (.dup, 1) := by decide +kernel
theorem dX9_needBelow_23 : decode cX9_needBelow 23 = .ok (.invokespecial 423, 3) := by decide +kernel
theorem dX9_needBelow_26 : decode cX9_needBelow 26 = .ok (.athrow, 1) := by decide +kernel
theorem dX9_needBelow_27 : decode cX9_needBelow 27 = .ok (.return_, 1) := by decide +kernel
theorem r_X9_needBelow_0 {d rc rs : Nat} {Q : PO → PH → Prop} {h : PH} {l0 : Nat} {l1 : Int32} {l2 : Int32}
    (k : br (l1 < 0) (gI h (10916, l0) fun x1 => sF h (10916, l0) (vI (x1 + (1 : Int32))) fun h2 => thr d rc rs h2 (Q (.inr "java/util/NoSuchElementException") h2)) (br (l1 < l2) (Q (.inl none) h) (gI h (10916, l0) fun x3 => sF h (10916, l0) (vI (x3 + (1 : Int32))) fun h4 => thr d rc rs h4 (Q (.inr "java/util/NoSuchElementException") h4)))) :
    PW d M_X9_needBelow Q rc rs 0 [vR (900, l0), vI l1, vI l2] [] h := by
  refine P_iload_n (pc := 0) dX9_needBelow_0 rfl ?_
  refine P_if_lt (tgt := 9) (pc := 1) dX9_needBelow_1 (by decide) (fun c => ?_) (fun c => ?_)
  · have k := k.1 c
    refine P_aload_n (pc := 9) dX9_needBelow_9 rfl ?_
    refine P_dup (pc := 10) dX9_needBelow_10 (fun _ => rfl) ?_
    obtain ⟨x1, e9, k⟩ := k
    refine G9_16 (pc := 11) dX9_needBelow_11 l_X9_410 e9 ?_
    clear e9
    refine P_iconst (v := (1 : Int32)) (pc := 14) dX9_needBelow_14 (by decide) ?_
    refine P_iadd (pc := 15) dX9_needBelow_15 ?_
    obtain ⟨⟨v9, e9⟩, k⟩ := k
    refine S9_16 (pc := 16) dX9_needBelow_16 l_X9_410 e9 ?_
    clear e9
    exact T_X9_421 (pc := 19) dX9_needBelow_19 dX9_needBelow_22 dX9_needBelow_23 dX9_needBelow_26 k
  · have k := k.2 c
    refine P_iload_n (pc := 4) dX9_needBelow_4 rfl ?_
    refine P_iload_n (pc := 5) dX9_needBelow_5 rfl ?_
    refine P_icmp_lt (tgt := 27) (pc := 6) dX9_needBelow_6 (by decide) (fun c => ?_) (fun c => ?_)
    · have k := k.1 c
      exact R_return (pc := 27) dX9_needBelow_27 rfl k
    · have k := k.2 c
      refine P_aload_n (pc := 9) dX9_needBelow_9 rfl ?_
      refine P_dup (pc := 10) dX9_needBelow_10 (fun _ => rfl) ?_
      obtain ⟨x3, e9, k⟩ := k
      refine G9_16 (pc := 11) dX9_needBelow_11 l_X9_410 e9 ?_
      clear e9
      refine P_iconst (v := (1 : Int32)) (pc := 14) dX9_needBelow_14 (by decide) ?_
      refine P_iadd (pc := 15) dX9_needBelow_15 ?_
      obtain ⟨⟨v9, e9⟩, k⟩ := k
      refine S9_16 (pc := 16) dX9_needBelow_16 l_X9_410 e9 ?_
      clear e9
      exact T_X9_421 (pc := 19) dX9_needBelow_19 dX9_needBelow_22 dX9_needBelow_23 dX9_needBelow_26 k
-- X9_needHeir needHeir(I)V
theorem dX9_needHeir_0 : decode cX9_needHeir 0 = .ok (.aload_n 0, 1) := by decide +kernel
theorem dX9_needHeir_1 : decode cX9_needHeir 1 = .ok (.iload_n 1, 1) := by decide +kernel
theorem dX9_needHeir_2 : decode cX9_needHeir 2 = .ok (.aload_n 0, 1) := by decide +kernel
theorem dX9_needHeir_3 : decode cX9_needHeir 3 = .ok (.getfield 61, 3) := by decide +kernel
theorem dX9_needHeir_6 : decode cX9_needHeir 6 = .ok (.getfield 123, 3) := by decide +kernel
theorem dX9_needHeir_9 : decode cX9_needHeir 9 = .ok (.invokevirtual 224, 3) := by decide +kernel
theorem dX9_needHeir_12 : decode cX9_needHeir 12 = .ok (.return_, 1) := by decide +kernel
theorem r_X9_needHeir_0 {d rc rs : Nat} {Q : PO → PH → Prop} {h : PH} {l0 : Nat} {l1 : Int32}
    (k : gO h (10908, l0) 100 fun o1 => gI h (10107, o1) fun x2 => isO h 10900 l0 ∧ cl d rc rs M_X9_needBelow [vR (900, l0), vI l1, vI x2] h (kV fun h3 rc4 rs5 => Q (.inl none) h3) (fun E h3 rc4 rs5 => Q (.inr E) h3)) :
    PW d M_X9_needHeir Q rc rs 0 [vR (900, l0), vI l1] [] h := by
  refine P_aload_n (pc := 0) dX9_needHeir_0 rfl ?_
  refine P_iload_n (pc := 1) dX9_needHeir_1 rfl ?_
  refine P_aload_n (pc := 2) dX9_needHeir_2 rfl ?_
  obtain ⟨o1, e9, k⟩ := k
  refine G9_8 (pc := 3) dX9_needHeir_3 l_X9_61 e9 ?_
  clear e9
  obtain ⟨x2, e9, k⟩ := k
  refine GN1_7 (pc := 6) dX9_needHeir_6 n_X9_123 e9 ?_
  clear e9
  obtain ⟨⟨w9, e9⟩, d2, nc, ns, rc4, rs5, Qc, g1, rfl, rfl, g2, kk, kx⟩ := k
  refine P_callV (ci := 9) (k := 0) (id := l0) (q := (RX9, TX9, 18)) (As := [vI l1, vI x2]) (st := []) (pc := 9) dX9_needHeir_9 mk_X9_needBelow l_X9_224 im_X9_needBelow se_X9_needBelow ini_X9 rfl g1 (Nat.le_of_ble_eq_true rfl) rfl rfl (by decide) e9 rfl g2 (fun v9 h9 q9 => ?_) (fun E h9 q9 => PX_out rfl (kx E h9 q9))
  obtain ⟨rfl, k⟩ := kk v9 h9 q9
  clear kk kx g1 g2 q9
  exact R_return (pc := 12) dX9_needHeir_12 rfl k
-- X9_sum sum([I)I
theorem dX9_sum_0 : decode cX9_sum 0 = .ok (.iconst 0, 1) := by decide +kernel
theorem dX9_sum_1 : decode cX9_sum 1 = .ok (.istore_n 1, 1) := by decide +kernel
theorem dX9_sum_2 : decode cX9_sum 2 = .ok (.aload_n 0, 1) := by decide +kernel
theorem dX9_sum_3 : decode cX9_sum 3 = .ok (.astore_n 2, 1) := by decide +kernel
theorem dX9_sum_4 : decode cX9_sum 4 = .ok (.aload_n 2, 1) := by decide +kernel
theorem dX9_sum_5 : decode cX9_sum 5 = .ok (.arraylength, 1) := by decide +kernel
theorem dX9_sum_6 : decode cX9_sum 6 = .ok (.istore_n 3, 1) := by decide +kernel
theorem dX9_sum_7 : decode cX9_sum 7 = .ok (.iconst 0, 1) := by decide +kernel
theorem dX9_sum_8 : decode cX9_sum 8 = .ok (.istore 4, 2) := by decide +kernel
theorem dX9_sum_10 : decode cX9_sum 10 = .ok (.iload 4, 2) := by decide +kernel
theorem dX9_sum_12 : decode cX9_sum 12 = .ok (.iload_n 3, 1) := by decide +kernel
theorem dX9_sum_13 : decode cX9_sum 13 = .ok (.if_icmp .ge 20, 3) := by decide +kernel
theorem dX9_sum_16 : decode cX9_sum 16 = .ok (.aload_n 2, 1) := by decide +kernel
theorem dX9_sum_17 : decode cX9_sum 17 = .ok (.iload 4, 2) := by decide +kernel
theorem dX9_sum_19 : decode cX9_sum 19 = .ok (.iaload, 1) := by decide +kernel
theorem dX9_sum_20 : decode cX9_sum 20 = .ok (.istore 5, 2) := by decide +kernel
theorem dX9_sum_22 : decode cX9_sum 22 = .ok (.iload_n 1, 1) := by decide +kernel
theorem dX9_sum_23 : decode cX9_sum 23 = .ok (.iload 5, 2) := by decide +kernel
theorem dX9_sum_25 : decode cX9_sum 25 = .ok (.iadd, 1) := by decide +kernel
theorem dX9_sum_26 : decode cX9_sum 26 = .ok (.istore_n 1, 1) := by decide +kernel
theorem dX9_sum_27 : decode cX9_sum 27 = .ok (.iinc 4 1, 3) := by decide +kernel
theorem dX9_sum_30 : decode cX9_sum 30 = .ok (.goto (-20), 3) := by decide +kernel
theorem dX9_sum_33 : decode cX9_sum 33 = .ok (.iload_n 1, 1) := by decide +kernel
theorem dX9_sum_34 : decode cX9_sum 34 = .ok (.ireturn, 1) := by decide +kernel
theorem r_X9_sum_0 {d rc rs : Nat} {Q : PO → PH → Prop} {h : PH} {l0 : LA}
    (k : lnA h l0 fun x1 => PW d M_X9_sum Q rc rs 10 [vU, vI (0 : Int32), vR l0, vI x1, vI (0 : Int32), vU] [] h) :
    PW d M_X9_sum Q rc rs 0 [vR l0, vU, vU, vU, vU, vU] [] h := by
  refine P_iconst (v := (0 : Int32)) (pc := 0) dX9_sum_0 (by decide) ?_
  refine P_istore_n (pc := 1) dX9_sum_1 (by decide) (Or.inr (by intro z e9; cases e9)) rfl ?_
  refine P_aload_n (pc := 2) dX9_sum_2 rfl ?_
  refine P_astore_n (pc := 3) dX9_sum_3 (by decide) (Or.inr (by intro z e9; cases e9)) rfl ?_
  refine P_aload_n (pc := 4) dX9_sum_4 rfl ?_
  obtain ⟨kd9, n9, g9, i9, e9, k⟩ := k
  refine P_alen (pc := 5) dX9_sum_5 i9 e9 ?_
  clear e9
  generalize nI n9 = x1 at k ⊢
  refine P_istore_n (pc := 6) dX9_sum_6 (by decide) (Or.inr (by intro z e9; cases e9)) rfl ?_
  refine P_iconst (v := (0 : Int32)) (pc := 7) dX9_sum_7 (by decide) ?_
  refine P_istore (pc := 8) dX9_sum_8 (by decide) (Or.inr (by intro z e9; cases e9)) rfl ?_
  exact P_drop (ls2 := [vU, vI (0 : Int32), vR l0, vI x1, vI (0 : Int32), vU]) (ls := [vR l0, vI (0 : Int32), vR l0, vI x1, vI (0 : Int32), vU]) ⟨Or.inl rfl, ⟨Or.inr rfl, ⟨Or.inr rfl, ⟨Or.inr rfl, ⟨Or.inr rfl, ⟨Or.inr rfl, trivial⟩⟩⟩⟩⟩⟩ k
theorem r_X9_sum_10 {d rc rs : Nat} {Q : PO → PH → Prop} {h : PH} {l1 : Int32} {l2 : LA} {l3 : Int32} {l4 : Int32}
    (k : br (l4 < l3) (xI h l2 l4 fun x1 => PW d M_X9_sum Q rc rs 10 [vU, vI (l1 + x1), vR l2, vI l3, vI (l4 + (1 : Int32)), vU] [] h) (Q (.inl (some (vI l1))) h)) :
    PW d M_X9_sum Q rc rs 10 [vU, vI l1, vR l2, vI l3, vI l4, vU] [] h := by
  refine P_iload (pc := 10) dX9_sum_10 rfl ?_
  refine P_iload_n (pc := 12) dX9_sum_12 rfl ?_
  refine P_icmp_ge (tgt := 33) (pc := 13) dX9_sum_13 (by decide) (fun c => ?_) (fun c => ?_)
  · have k := k.2 (Int32.not_lt.mpr c)
    refine P_iload_n (pc := 33) dX9_sum_33 rfl ?_
    exact R_ireturn (pc := 34) dX9_sum_34 rfl rfl k
  · have k := k.1 (Int32.not_le.mp c)
    refine P_aload_n (pc := 16) dX9_sum_16 rfl ?_
    refine P_iload (pc := 17) dX9_sum_17 rfl ?_
    obtain ⟨n9, f9, e9, i9, k⟩ := k
    refine P_iald (pc := 19) dX9_sum_19 e9 i9 ?_
    clear e9
    generalize f9 (Int32.toNatClampNeg l4) = x1 at k ⊢
    refine P_istore (pc := 20) dX9_sum_20 (by decide) (Or.inr (by intro z e9; cases e9)) rfl ?_
    refine P_iload_n (pc := 22) dX9_sum_22 rfl ?_
    refine P_iload (pc := 23) dX9_sum_23 rfl ?_
    refine P_iadd (pc := 25) dX9_sum_25 ?_
    refine P_istore_n (pc := 26) dX9_sum_26 (by decide) (Or.inr (by intro z e9; cases e9)) rfl ?_
    refine P_iinc (v := l4 + (1 : Int32)) (pc := 27) dX9_sum_27 (by decide) rfl rfl (Or.inr (by intro z e9; cases e9)) rfl ?_
    refine P_goto (tgt := 10) (pc := 30) dX9_sum_30 (by decide) ?_
    exact P_drop (ls2 := [vU, vI (l1 + x1), vR l2, vI l3, vI (l4 + (1 : Int32)), vU]) (ls := [vU, vI (l1 + x1), vR l2, vI l3, vI (l4 + (1 : Int32)), vI x1]) ⟨Or.inr rfl, ⟨Or.inr rfl, ⟨Or.inr rfl, ⟨Or.inr rfl, ⟨Or.inr rfl, ⟨Or.inl rfl, trivial⟩⟩⟩⟩⟩⟩ k
-- X9_mostOf mostOf([I)I
theorem dX9_mostOf_0 : decode cX9_mostOf 0 = .ok (.iconst 0, 1) := by decide +kernel
theorem dX9_mostOf_1 : decode cX9_mostOf 1 = .ok (.istore_n 1, 1) := by decide +kernel
theorem dX9_mostOf_2 : decode cX9_mostOf 2 = .ok (.iconst 1, 1) := by decide +kernel
theorem dX9_mostOf_3 : decode cX9_mostOf 3 = .ok (.istore_n 2, 1) := by decide +kernel
theorem dX9_mostOf_4 : decode cX9_mostOf 4 = .ok (.iload_n 2, 1) := by decide +kernel
theorem dX9_mostOf_5 : decode cX9_mostOf 5 = .ok (.aload_n 0, 1) := by decide +kernel
theorem dX9_mostOf_6 : decode cX9_mostOf 6 = .ok (.arraylength, 1) := by decide +kernel
theorem dX9_mostOf_7 : decode cX9_mostOf 7 = .ok (.if_icmp .ge 20, 3) := by decide +kernel
theorem dX9_mostOf_10 : decode cX9_mostOf 10 = .ok (.aload_n 0, 1) := by decide +kernel
theorem dX9_mostOf_11 : decode cX9_mostOf 11 = .ok (.iload_n 2, 1) := by decide +kernel
theorem dX9_mostOf_12 : decode cX9_mostOf 12 = .ok (.iaload, 1) := by decide +kernel
theorem dX9_mostOf_13 : decode cX9_mostOf 13 = .ok (.aload_n 0, 1) := by decide +kernel
theorem dX9_mostOf_14 : decode cX9_mostOf 14 = .ok (.iload_n 1, 1) := by decide +kernel
theorem dX9_mostOf_15 : decode cX9_mostOf 15 = .ok (.iaload, 1) := by decide +kernel
theorem dX9_mostOf_16 : decode cX9_mostOf 16 = .ok (.if_icmp .le 5, 3) := by decide +kernel
theorem dX9_mostOf_19 : decode cX9_mostOf 19 = .ok (.iload_n 2, 1) := by decide +kernel
theorem dX9_mostOf_20 : decode cX9_mostOf 20 = .ok (.istore_n 1, 1) := by decide +kernel
theorem dX9_mostOf_21 : decode cX9_mostOf 21 = .ok (.iinc 2 1, 3) := by decide +kernel
theorem dX9_mostOf_24 : decode cX9_mostOf 24 = .ok (.goto (-20), 3) := by decide +kernel
theorem dX9_mostOf_27 : decode cX9_mostOf 27 = .ok (.iload_n 1, 1) := by decide +kernel
theorem dX9_mostOf_28 : decode cX9_mostOf 28 = .ok (.ireturn, 1) := by decide +kernel
theorem r_X9_mostOf_0 {d rc rs : Nat} {Q : PO → PH → Prop} {h : PH} {l0 : LA}
    (k : PW d M_X9_mostOf Q rc rs 4 [vR l0, vI (0 : Int32), vI (1 : Int32)] [] h) :
    PW d M_X9_mostOf Q rc rs 0 [vR l0, vU, vU] [] h := by
  refine P_iconst (v := (0 : Int32)) (pc := 0) dX9_mostOf_0 (by decide) ?_
  refine P_istore_n (pc := 1) dX9_mostOf_1 (by decide) (Or.inr (by intro z e9; cases e9)) rfl ?_
  refine P_iconst (v := (1 : Int32)) (pc := 2) dX9_mostOf_2 (by decide) ?_
  refine P_istore_n (pc := 3) dX9_mostOf_3 (by decide) (Or.inr (by intro z e9; cases e9)) rfl ?_
  exact k
theorem r_X9_mostOf_4 {d rc rs : Nat} {Q : PO → PH → Prop} {h : PH} {l0 : LA} {l1 : Int32} {l2 : Int32}
    (k : lnA h l0 fun x1 => br (l2 < x1) (xI h l0 l2 fun x2 => xI h l0 l1 fun x3 => br (x3 < x2) (PW d M_X9_mostOf Q rc rs 4 [vR l0, vI l2, vI (l2 + (1 : Int32))] [] h) (PW d M_X9_mostOf Q rc rs 4 [vR l0, vI l1, vI (l2 + (1 : Int32))] [] h)) (Q (.inl (some (vI l1))) h)) :
    PW d M_X9_mostOf Q rc rs 4 [vR l0, vI l1, vI l2] [] h := by
  refine P_iload_n (pc := 4) dX9_mostOf_4 rfl ?_
  refine P_aload_n (pc := 5) dX9_mostOf_5 rfl ?_
  obtain ⟨kd9, n9, g9, i9, e9, k⟩ := k
  refine P_alen (pc := 6) dX9_mostOf_6 i9 e9 ?_
  clear e9
  generalize nI n9 = x1 at k ⊢
  refine P_icmp_ge (tgt := 27) (pc := 7) dX9_mostOf_7 (by decide) (fun c => ?_) (fun c => ?_)
  · have k := k.2 (Int32.not_lt.mpr c)
    refine P_iload_n (pc := 27) dX9_mostOf_27 rfl ?_
    exact R_ireturn (pc := 28) dX9_mostOf_28 rfl rfl k
  · have k := k.1 (Int32.not_le.mp c)
    refine P_aload_n (pc := 10) dX9_mostOf_10 rfl ?_
    refine P_iload_n (pc := 11) dX9_mostOf_11 rfl ?_
    obtain ⟨n9, f9, e9, i9, k⟩ := k
    refine P_iald (pc := 12) dX9_mostOf_12 e9 i9 ?_
    clear e9
    generalize f9 (Int32.toNatClampNeg l2) = x2 at k ⊢
    refine P_aload_n (pc := 13) dX9_mostOf_13 rfl ?_
    refine P_iload_n (pc := 14) dX9_mostOf_14 rfl ?_
    obtain ⟨n9, f9, e9, i9, k⟩ := k
    refine P_iald (pc := 15) dX9_mostOf_15 e9 i9 ?_
    clear e9
    generalize f9 (Int32.toNatClampNeg l1) = x3 at k ⊢
    refine P_icmp_le (tgt := 21) (pc := 16) dX9_mostOf_16 (by decide) (fun c => ?_) (fun c => ?_)
    · have k := k.2 (Int32.not_lt.mpr c)
      refine P_iinc (v := l2 + (1 : Int32)) (pc := 21) dX9_mostOf_21 (by decide) rfl rfl (Or.inr (by intro z e9; cases e9)) rfl ?_
      refine P_goto (tgt := 4) (pc := 24) dX9_mostOf_24 (by decide) ?_
      exact k
    · have k := k.1 (Int32.not_le.mp c)
      refine P_iload_n (pc := 19) dX9_mostOf_19 rfl ?_
      refine P_istore_n (pc := 20) dX9_mostOf_20 (by decide) (Or.inr (by intro z e9; cases e9)) rfl ?_
      refine P_iinc (v := l2 + (1 : Int32)) (pc := 21) dX9_mostOf_21 (by decide) rfl rfl (Or.inr (by intro z e9; cases e9)) rfl ?_
      refine P_goto (tgt := 4) (pc := 24) dX9_mostOf_24 (by decide) ?_
      exact k
-- X9_isAhead isAhead(IIII)Z
theorem dX9_isAhead_0 : decode cX9_isAhead 0 = .ok (.iload_n 0, 1) := by decide +kernel
theorem dX9_isAhead_1 : decode cX9_isAhead 1 = .ok (.iconst (-1), 1) := by decide +kernel
theorem dX9_isAhead_2 : decode cX9_isAhead 2 = .ok (.if_icmp .eq 22, 3) := by decide +kernel
theorem dX9_isAhead_5 : decode cX9_isAhead 5 = .ok (.iload_n 0, 1) := by decide +kernel
theorem dX9_isAhead_6 : decode cX9_isAhead 6 = .ok (.iload_n 2, 1) := by decide +kernel
theorem dX9_isAhead_7 : decode cX9_isAhead 7 = .ok (.if_icmp .lt 13, 3) := by decide +kernel
theorem dX9_isAhead_10 : decode cX9_isAhead 10 = .ok (.iload_n 0, 1) := by decide +kernel
theorem dX9_isAhead_11 : decode cX9_isAhead 11 = .ok (.iload_n 2, 1) := by decide +kernel
theorem dX9_isAhead_12 : decode cX9_isAhead 12 = .ok (.if_icmp .ne 12, 3) := by decide +kernel
theorem dX9_isAhead_15 : decode cX9_isAhead 15 = .ok (.iload_n 1, 1) := by decide +kernel
theorem dX9_isAhead_16 : decode cX9_isAhead 16 = .ok (.iload_n 3, 1) := by decide +kernel
theorem dX9_isAhead_17 : decode cX9_isAhead 17 = .ok (.if_icmp .ge 7, 3) := by decide +kernel
theorem dX9_isAhead_20 : decode cX9_isAhead 20 = .ok (.iconst 1, 1) := by decide +kernel
theorem dX9_isAhead_21 : decode cX9_isAhead 21 = .ok (.goto 4, 3) := by decide +kernel
theorem dX9_isAhead_24 : decode cX9_isAhead 24 = .ok (.iconst 0, 1) := by decide +kernel
theorem dX9_isAhead_25 : decode cX9_isAhead 25 = .ok (.ireturn, 1) := by decide +kernel
theorem r_X9_isAhead_0 {d rc rs : Nat} {Q : PO → PH → Prop} {h : PH} {l0 : Int32} {l1 : Int32} {l2 : Int32} {l3 : Int32}
    (k : br (l0 = (-1 : Int32)) (Q (.inl (some (vI (0 : Int32)))) h) (br (l0 < l2) (Q (.inl (some (vI (1 : Int32)))) h) (br (l0 = l2) (br (l1 < l3) (Q (.inl (some (vI (1 : Int32)))) h) (Q (.inl (some (vI (0 : Int32)))) h)) (Q (.inl (some (vI (0 : Int32)))) h)))) :
    PW d M_X9_isAhead Q rc rs 0 [vI l0, vI l1, vI l2, vI l3] [] h := by
  refine P_iload_n (pc := 0) dX9_isAhead_0 rfl ?_
  refine P_iconst (v := (-1 : Int32)) (pc := 1) dX9_isAhead_1 (by decide) ?_
  refine P_icmp_eq (tgt := 24) (pc := 2) dX9_isAhead_2 (by decide) (fun c => ?_) (fun c => ?_)
  · have k := k.1 c
    refine P_iconst (v := (0 : Int32)) (pc := 24) dX9_isAhead_24 (by decide) ?_
    exact R_ireturn (pc := 25) dX9_isAhead_25 rfl rfl k
  · have k := k.2 c
    refine P_iload_n (pc := 5) dX9_isAhead_5 rfl ?_
    refine P_iload_n (pc := 6) dX9_isAhead_6 rfl ?_
    refine P_icmp_lt (tgt := 20) (pc := 7) dX9_isAhead_7 (by decide) (fun c => ?_) (fun c => ?_)
    · have k := k.1 c
      refine P_iconst (v := (1 : Int32)) (pc := 20) dX9_isAhead_20 (by decide) ?_
      refine P_goto (tgt := 25) (pc := 21) dX9_isAhead_21 (by decide) ?_
      exact R_ireturn (pc := 25) dX9_isAhead_25 rfl rfl k
    · have k := k.2 c
      refine P_iload_n (pc := 10) dX9_isAhead_10 rfl ?_
      refine P_iload_n (pc := 11) dX9_isAhead_11 rfl ?_
      refine P_icmp_ne (tgt := 24) (pc := 12) dX9_isAhead_12 (by decide) (fun c => ?_) (fun c => ?_)
      · have k := k.2 c
        refine P_iconst (v := (0 : Int32)) (pc := 24) dX9_isAhead_24 (by decide) ?_
        exact R_ireturn (pc := 25) dX9_isAhead_25 rfl rfl k
      · have k := k.1 c
        refine P_iload_n (pc := 15) dX9_isAhead_15 rfl ?_
        refine P_iload_n (pc := 16) dX9_isAhead_16 rfl ?_
        refine P_icmp_ge (tgt := 24) (pc := 17) dX9_isAhead_17 (by decide) (fun c => ?_) (fun c => ?_)
        · have k := k.2 (Int32.not_lt.mpr c)
          refine P_iconst (v := (0 : Int32)) (pc := 24) dX9_isAhead_24 (by decide) ?_
          exact R_ireturn (pc := 25) dX9_isAhead_25 rfl rfl k
        · have k := k.1 (Int32.not_le.mp c)
          refine P_iconst (v := (1 : Int32)) (pc := 20) dX9_isAhead_20 (by decide) ?_
          refine P_goto (tgt := 25) (pc := 21) dX9_isAhead_21 (by decide) ?_
          exact R_ireturn (pc := 25) dX9_isAhead_25 rfl rfl k
