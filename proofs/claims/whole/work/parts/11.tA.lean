-- X0_init <init>()V
theorem dX0_init_0 : decode cX0_init 0 = .ok (.aload_n 0, 1) := by decide +kernel
theorem dX0_init_1 : decode cX0_init 1 = .ok (.invokespecial 3, 3) := by decide +kernel
theorem dX0_init_4 : decode cX0_init 4 = .ok (.aload_n 0, 1) := by decide +kernel
theorem dX0_init_5 : decode cX0_init 5 = .ok (.bipush 13, 2) := by decide +kernel
theorem dX0_init_7 : decode cX0_init 7 = .ok (.newarray .int, 2) := by decide +kernel
theorem dX0_init_9 : decode cX0_init 9 = .ok (.putfield 9, 3) := by decide +kernel
theorem dX0_init_12 : decode cX0_init 12 = .ok (.aload_n 0, 1) := by decide +kernel
theorem dX0_init_13 : decode cX0_init 13 = .ok (.getfield 9, 3) := by decide +kernel
theorem dX0_init_16 : decode cX0_init 16 = .ok (.iconst (-1), 1) := by decide +kernel
theorem dX0_init_17 : decode cX0_init 17 = .ok (.invokestatic 15, 3) := by decide +kernel
theorem dX0_init_20 : decode cX0_init 20 = .ok (.return_, 1) := by decide +kernel
theorem r_X0_init_0 {d rc rs : Nat} {Q : PO → PH → Prop} {h : PH} {l0 : Nat}
    (k : 1 ≤ d ∧ nwA h 0 (13 : Int32) (.inl (fun _ => 0)) rc rs fun a1 h2 rc3 rs4 => sF h2 (10000, l0) (vR a1) fun h5 => gA h5 (10000, l0) fun a6 => cl d rc3 rs4 M_J7_fill_53178 [vR a6, vI (-1 : Int32)] h5 (kV fun h7 rc8 rs9 => Q (.inl none) h7) (fun E h7 rc8 rs9 => Q (.inr E) h7)) :
    PW d M_X0_init Q rc rs 0 [vR (0, l0)] [] h := by
  refine P_aload_n (pc := 0) dX0_init_0 rfl ?_
  refine P_objInit (pc := 1) dX0_init_1 l_X0_3 oi_in oi_co k.1 (Nat.le_of_ble_eq_true rfl) ?_
  replace k := k.2
  refine P_aload_n (pc := 4) dX0_init_4 rfl ?_
  refine P_bipush (v := (13 : Int32)) (pc := 5) dX0_init_5 (by decide) ?_
  obtain ⟨a1, n9, m9, g9, rc3, rs4, b1, b2, b3, b4, b5, b6, rfl, rfl, k⟩ := k
  refine P_newaI (pc := 7) dX0_init_7 ac_int b1 b2 b3 b4 b5 b6 ?_
  obtain ⟨⟨v9, e9⟩, k⟩ := k
  refine S0_0 (pc := 9) dX0_init_9 l_X0_9 rfl rfl e9 ?_
  clear e9
  refine P_aload_n (pc := 12) dX0_init_12 rfl ?_
  obtain ⟨a6, e9, k⟩ := k
  refine G0_0 (pc := 13) dX0_init_13 l_X0_9 e9 ?_
  clear e9
  refine P_iconst (v := (-1 : Int32)) (pc := 16) dX0_init_16 (by decide) ?_
  obtain ⟨d2, nc, ns, rc8, rs9, Qc, g1, rfl, rfl, g2, kk, kx⟩ := k
  refine P_callS (As := [vR a6, vI (-1 : Int32)]) (st := []) (pc := 17) dX0_init_17 mk_J7_fill_53178 l_X0_15 st_J7_fill_53178 ini_J7 rfl g1 (Nat.le_of_ble_eq_true rfl) rfl g2 (fun v9 h9 q9 => ?_) (fun E h9 q9 => PX_out rfl (kx E h9 q9))
  obtain ⟨rfl, k⟩ := kk v9 h9 q9
  clear kk kx g1 g2 q9
  exact R_return (pc := 20) dX0_init_20 rfl k
-- X0_clear clear()V
theorem dX0_clear_0 : decode cX0_clear 0 = .ok (.aload_n 0, 1) := by decide +kernel
theorem dX0_clear_1 : decode cX0_clear 1 = .ok (.getfield 9, 3) := by decide +kernel
theorem dX0_clear_4 : decode cX0_clear 4 = .ok (.iconst (-1), 1) := by decide +kernel
theorem dX0_clear_5 : decode cX0_clear 5 = .ok (.invokestatic 15, 3) := by decide +kernel
theorem dX0_clear_8 : decode cX0_clear 8 = .ok (.aload_n 0, 1) := by decide +kernel
theorem dX0_clear_9 : decode cX0_clear 9 = .ok (.iconst 0, 1) := by decide +kernel
theorem dX0_clear_10 : decode cX0_clear 10 = .ok (.putfield 21, 3) := by decide +kernel
theorem dX0_clear_13 : decode cX0_clear 13 = .ok (.return_, 1) := by decide +kernel
theorem r_X0_clear_0 {d rc rs : Nat} {Q : PO → PH → Prop} {h : PH} {l0 : Nat}
    (k : gA h (10000, l0) fun a1 => cl d rc rs M_J7_fill_53178 [vR a1, vI (-1 : Int32)] h (kV fun h2 rc3 rs4 => sF h2 (10001, l0) (vI (0 : Int32)) fun h5 => Q (.inl none) h5) (fun E h2 rc3 rs4 => Q (.inr E) h2)) :
    PW d M_X0_clear Q rc rs 0 [vR (0, l0)] [] h := by
  refine P_aload_n (pc := 0) dX0_clear_0 rfl ?_
  obtain ⟨a1, e9, k⟩ := k
  refine G0_0 (pc := 1) dX0_clear_1 l_X0_9 e9 ?_
  clear e9
  refine P_iconst (v := (-1 : Int32)) (pc := 4) dX0_clear_4 (by decide) ?_
  obtain ⟨d2, nc, ns, rc3, rs4, Qc, g1, rfl, rfl, g2, kk, kx⟩ := k
  refine P_callS (As := [vR a1, vI (-1 : Int32)]) (st := []) (pc := 5) dX0_clear_5 mk_J7_fill_53178 l_X0_15 st_J7_fill_53178 ini_J7 rfl g1 (Nat.le_of_ble_eq_true rfl) rfl g2 (fun v9 h9 q9 => ?_) (fun E h9 q9 => PX_out rfl (kx E h9 q9))
  obtain ⟨rfl, k⟩ := kk v9 h9 q9
  clear kk kx g1 g2 q9
  refine P_aload_n (pc := 8) dX0_clear_8 rfl ?_
  refine P_iconst (v := (0 : Int32)) (pc := 9) dX0_clear_9 (by decide) ?_
  obtain ⟨⟨v9, e9⟩, k⟩ := k
  refine S0_1 (pc := 10) dX0_clear_10 l_X0_21 e9 ?_
  clear e9
  exact R_return (pc := 13) dX0_clear_13 rfl k
-- X0_read read(LFernHeirs$Text;)Z
theorem dX0_read_0 : decode cX0_read 0 = .ok (.aload_n 0, 1) := by decide +kernel
theorem dX0_read_1 : decode cX0_read 1 = .ok (.invokevirtual 25, 3) := by decide +kernel
theorem dX0_read_4 : decode cX0_read 4 = .ok (.iconst 0, 1) := by decide +kernel
theorem dX0_read_5 : decode cX0_read 5 = .ok (.istore_n 2, 1) := by decide +kernel
theorem dX0_read_6 : decode cX0_read 6 = .ok (.iload_n 2, 1) := by decide +kernel
theorem dX0_read_7 : decode cX0_read 7 = .ok (.bipush 6, 2) := by decide +kernel
theorem dX0_read_9 : decode cX0_read 9 = .ok (.if_icmp .gt 36, 3) := by decide +kernel
theorem dX0_read_12 : decode cX0_read 12 = .ok (.aload_n 1, 1) := by decide +kernel
theorem dX0_read_13 : decode cX0_read 13 = .ok (.invokevirtual 28, 3) := by decide +kernel
theorem dX0_read_16 : decode cX0_read 16 = .ok (.iconst (-1), 1) := by decide +kernel
theorem dX0_read_17 : decode cX0_read 17 = .ok (.if_icmp .eq 28, 3) := by decide +kernel
theorem dX0_read_20 : decode cX0_read 20 = .ok (.aload_n 0, 1) := by decide +kernel
theorem dX0_read_21 : decode cX0_read 21 = .ok (.aload_n 1, 1) := by decide +kernel
theorem dX0_read_22 : decode cX0_read 22 = .ok (.invokevirtual 34, 3) := by decide +kernel
theorem dX0_read_25 : decode cX0_read 25 = .ok (.ifCond .eq 12, 3) := by decide +kernel
theorem dX0_read_28 : decode cX0_read 28 = .ok (.aload_n 1, 1) := by decide +kernel
theorem dX0_read_29 : decode cX0_read 29 = .ok (.bipush 59, 2) := by decide +kernel
theorem dX0_read_31 : decode cX0_read 31 = .ok (.invokevirtual 38, 3) := by decide +kernel
theorem dX0_read_34 : decode cX0_read 34 = .ok (.ifCond .ne 5, 3) := by decide +kernel
theorem dX0_read_37 : decode cX0_read 37 = .ok (.iconst 0, 1) := by decide +kernel
theorem dX0_read_38 : decode cX0_read 38 = .ok (.ireturn, 1) := by decide +kernel
theorem dX0_read_39 : decode cX0_read 39 = .ok (.iinc 2 1, 3) := by decide +kernel
theorem dX0_read_42 : decode cX0_read 42 = .ok (.goto (-36), 3) := by decide +kernel
theorem dX0_read_45 : decode cX0_read 45 = .ok (.iconst 1, 1) := by decide +kernel
theorem dX0_read_46 : decode cX0_read 46 = .ok (.ireturn, 1) := by decide +kernel
theorem r_X0_read_0 {d rc rs : Nat} {Q : PO → PH → Prop} {h : PH} {l0 : Nat} {l1 : Nat}
    (k : isO h 10000 l0 ∧ cl d rc rs M_X0_clear [vR (0, l0)] h (kV fun h1 rc2 rs3 => PW d M_X0_read Q rc2 rs3 6 [vR (0, l0), vR (800, l1), vI (0 : Int32)] [] h1) (fun E h1 rc2 rs3 => Q (.inr E) h1)) :
    PW d M_X0_read Q rc rs 0 [vR (0, l0), vR (800, l1), vU] [] h := by
  refine P_aload_n (pc := 0) dX0_read_0 rfl ?_
  obtain ⟨⟨w9, e9⟩, d2, nc, ns, rc2, rs3, Qc, g1, rfl, rfl, g2, kk, kx⟩ := k
  refine P_callV (ci := 0) (k := 0) (id := l0) (q := (RX0, TX0, 2)) (As := []) (st := []) (pc := 1) dX0_read_1 mk_X0_clear l_X0_25 im_X0_clear se_X0_clear ini_X0 rfl g1 (Nat.le_of_ble_eq_true rfl) rfl rfl (by decide) e9 rfl g2 (fun v9 h9 q9 => ?_) (fun E h9 q9 => PX_out rfl (kx E h9 q9))
  obtain ⟨rfl, k⟩ := kk v9 h9 q9
  clear kk kx g1 g2 q9
  refine P_iconst (v := (0 : Int32)) (pc := 4) dX0_read_4 (by decide) ?_
  refine P_istore_n (pc := 5) dX0_read_5 (by decide) (Or.inr (by intro z e9; cases e9)) rfl ?_
  exact k
theorem r_X0_read_6 {d rc rs : Nat} {Q : PO → PH → Prop} {h : PH} {l0 : Nat} {l1 : Nat} {l2 : Int32}
    (k : br ((6 : Int32) < l2) (Q (.inl (some (vI (1 : Int32)))) h) (isO h 10800 l1 ∧ cl d rc rs M_X8_peek [vR (800, l1)] h (kI fun x4 h1 rc2 rs3 => br (x4 = (-1 : Int32)) (Q (.inl (some (vI (1 : Int32)))) h1) (isO h1 10000 l0 ∧ cl d rc2 rs3 M_X0_readLine [vR (0, l0), vR (800, l1)] h1 (kI fun x8 h5 rc6 rs7 => br (x8 = 0) (Q (.inl (some (vI (0 : Int32)))) h5) (isO h5 10800 l1 ∧ cl d rc6 rs7 M_X8_needSign [vR (800, l1), vI (59 : Int32)] h5 (kI fun x12 h9 rc10 rs11 => br (x12 = 0) (Q (.inl (some (vI (0 : Int32)))) h9) (PW d M_X0_read Q rc10 rs11 6 [vR (0, l0), vR (800, l1), vI (l2 + (1 : Int32))] [] h9)) (fun E h9 rc10 rs11 => Q (.inr E) h9))) (fun E h5 rc6 rs7 => Q (.inr E) h5))) (fun E h1 rc2 rs3 => Q (.inr E) h1))) :
    PW d M_X0_read Q rc rs 6 [vR (0, l0), vR (800, l1), vI l2] [] h := by
  refine P_iload_n (pc := 6) dX0_read_6 rfl ?_
  refine P_bipush (v := (6 : Int32)) (pc := 7) dX0_read_7 (by decide) ?_
  refine P_icmp_gt (tgt := 45) (pc := 9) dX0_read_9 (by decide) (fun c => ?_) (fun c => ?_)
  · have k := k.1 c
    refine P_iconst (v := (1 : Int32)) (pc := 45) dX0_read_45 (by decide) ?_
    exact R_ireturn (pc := 46) dX0_read_46 rfl rfl k
  · have k := k.2 c
    refine P_aload_n (pc := 12) dX0_read_12 rfl ?_
    obtain ⟨⟨w9, e9⟩, d2, nc, ns, rc2, rs3, Qc, g1, rfl, rfl, g2, kk, kx⟩ := k
    refine P_callV (ci := 8) (k := 0) (id := l1) (q := (RX8, TX8, 7)) (As := []) (st := []) (pc := 13) dX0_read_13 mk_X8_peek l_X0_28 im_X8_peek se_X8_peek ini_X8 rfl g1 (Nat.le_of_ble_eq_true rfl) rfl rfl (by decide) e9 rfl g2 (fun v9 h9 q9 => ?_) (fun E h9 q9 => PX_out rfl (kx E h9 q9))
    obtain ⟨x4, rfl, k⟩ := kk v9 h9 q9
    clear kk kx g1 g2 q9
    refine P_iconst (v := (-1 : Int32)) (pc := 16) dX0_read_16 (by decide) ?_
    refine P_icmp_eq (tgt := 45) (pc := 17) dX0_read_17 (by decide) (fun c => ?_) (fun c => ?_)
    · have k := k.1 c
      refine P_iconst (v := (1 : Int32)) (pc := 45) dX0_read_45 (by decide) ?_
      exact R_ireturn (pc := 46) dX0_read_46 rfl rfl k
    · have k := k.2 c
      refine P_aload_n (pc := 20) dX0_read_20 rfl ?_
      refine P_aload_n (pc := 21) dX0_read_21 rfl ?_
      obtain ⟨⟨w9, e9⟩, d2, nc, ns, rc6, rs7, Qc, g1, rfl, rfl, g2, kk, kx⟩ := k
      refine P_callV (ci := 0) (k := 0) (id := l0) (q := (RX0, TX0, 2)) (As := [vR (800, l1)]) (st := []) (pc := 22) dX0_read_22 mk_X0_readLine l_X0_34 im_X0_readLine se_X0_readLine ini_X0 rfl g1 (Nat.le_of_ble_eq_true rfl) rfl rfl (by decide) e9 rfl g2 (fun v9 h9 q9 => ?_) (fun E h9 q9 => PX_out rfl (kx E h9 q9))
      obtain ⟨x8, rfl, k⟩ := kk v9 h9 q9
      clear kk kx g1 g2 q9
      refine P_if_eq (tgt := 37) (pc := 25) dX0_read_25 (by decide) (fun c => ?_) (fun c => ?_)
      · have k := k.1 c
        refine P_iconst (v := (0 : Int32)) (pc := 37) dX0_read_37 (by decide) ?_
        exact R_ireturn (pc := 38) dX0_read_38 rfl rfl k
      · have k := k.2 c
        refine P_aload_n (pc := 28) dX0_read_28 rfl ?_
        refine P_bipush (v := (59 : Int32)) (pc := 29) dX0_read_29 (by decide) ?_
        obtain ⟨⟨w9, e9⟩, d2, nc, ns, rc10, rs11, Qc, g1, rfl, rfl, g2, kk, kx⟩ := k
        refine P_callV (ci := 8) (k := 0) (id := l1) (q := (RX8, TX8, 7)) (As := [vI (59 : Int32)]) (st := []) (pc := 31) dX0_read_31 mk_X8_needSign l_X0_38 im_X8_needSign se_X8_needSign ini_X8 rfl g1 (Nat.le_of_ble_eq_true rfl) rfl rfl (by decide) e9 rfl g2 (fun v9 h9 q9 => ?_) (fun E h9 q9 => PX_out rfl (kx E h9 q9))
        obtain ⟨x12, rfl, k⟩ := kk v9 h9 q9
        clear kk kx g1 g2 q9
        refine P_if_ne (tgt := 39) (pc := 34) dX0_read_34 (by decide) (fun c => ?_) (fun c => ?_)
        · have k := k.2 c
          refine P_iinc (v := l2 + (1 : Int32)) (pc := 39) dX0_read_39 (by decide) rfl rfl (Or.inr (by intro z e9; cases e9)) rfl ?_
          refine P_goto (tgt := 6) (pc := 42) dX0_read_42 (by decide) ?_
          exact k
        · have k := k.1 c
          refine P_iconst (v := (0 : Int32)) (pc := 37) dX0_read_37 (by decide) ?_
          exact R_ireturn (pc := 38) dX0_read_38 rfl rfl k
-- X0_readLine readLine(LFernHeirs$Text;)Z
theorem dX0_readLine_0 : decode cX0_readLine 0 = .ok (.aload_n 1, 1) := by decide +kernel
theorem dX0_readLine_1 : decode cX0_readLine 1 = .ok (.iconst 1, 1) := by decide +kernel
theorem dX0_readLine_2 : decode cX0_readLine 2 = .ok (.bipush 12, 2) := by decide +kernel
theorem dX0_readLine_4 : decode cX0_readLine 4 = .ok (.invokevirtual 42, 3) := by decide +kernel
theorem dX0_readLine_7 : decode cX0_readLine 7 = .ok (.istore_n 2, 1) := by decide +kernel
theorem dX0_readLine_8 : decode cX0_readLine 8 = .ok (.iload_n 2, 1) := by decide +kernel
theorem dX0_readLine_9 : decode cX0_readLine 9 = .ok (.iconst (-1), 1) := by decide +kernel
theorem dX0_readLine_10 : decode cX0_readLine 10 = .ok (.if_icmp .ne 5, 3) := by decide +kernel
theorem dX0_readLine_13 : decode cX0_readLine 13 = .ok (.iconst 0, 1) := by decide +kernel
theorem dX0_readLine_14 : decode cX0_readLine 14 = .ok (.ireturn, 1) := by decide +kernel
theorem dX0_readLine_15 : decode cX0_readLine 15 = .ok (.aload_n 0, 1) := by decide +kernel
theorem dX0_readLine_16 : decode cX0_readLine 16 = .ok (.getfield 9, 3) := by decide +kernel
theorem dX0_readLine_19 : decode cX0_readLine 19 = .ok (.iload_n 2, 1) := by decide +kernel
theorem dX0_readLine_20 : decode cX0_readLine 20 = .ok (.iaload, 1) := by decide +kernel
theorem dX0_readLine_21 : decode cX0_readLine 21 = .ok (.iconst (-1), 1) := by decide +kernel
theorem dX0_readLine_22 : decode cX0_readLine 22 = .ok (.if_icmp .eq 9, 3) := by decide +kernel
theorem dX0_readLine_25 : decode cX0_readLine 25 = .ok (.aload_n 1, 1) := by decide +kernel
theorem dX0_readLine_26 : decode cX0_readLine 26 = .ok (.iconst 2, 1) := by decide +kernel
theorem dX0_readLine_27 : decode cX0_readLine 27 = .ok (.invokevirtual 46, 3) := by decide +kernel
theorem dX0_readLine_30 : decode cX0_readLine 30 = .ok (.ireturn, 1) := by decide +kernel
theorem dX0_readLine_31 : decode cX0_readLine 31 = .ok (.aload_n 0, 1) := by decide +kernel
theorem dX0_readLine_32 : decode cX0_readLine 32 = .ok (.getfield 21, 3) := by decide +kernel
theorem dX0_readLine_35 : decode cX0_readLine 35 = .ok (.bipush 6, 2) := by decide +kernel
theorem dX0_readLine_37 : decode cX0_readLine 37 = .ok (.if_icmp .lt 9, 3) := by decide +kernel
theorem dX0_readLine_40 : decode cX0_readLine 40 = .ok (.aload_n 1, 1) := by decide +kernel
theorem dX0_readLine_41 : decode cX0_readLine 41 = .ok (.iconst 3, 1) := by decide +kernel
theorem dX0_readLine_42 : decode cX0_readLine 42 = .ok (.invokevirtual 46, 3) := by decide +kernel
theorem dX0_readLine_45 : decode cX0_readLine 45 = .ok (.ireturn, 1) := by decide +kernel
theorem dX0_readLine_46 : decode cX0_readLine 46 = .ok (.aload_n 0, 1) := by decide +kernel
theorem dX0_readLine_47 : decode cX0_readLine 47 = .ok (.getfield 9, 3) := by decide +kernel
theorem dX0_readLine_50 : decode cX0_readLine 50 = .ok (.iload_n 2, 1) := by decide +kernel
theorem dX0_readLine_51 : decode cX0_readLine 51 = .ok (.aload_n 1, 1) := by decide +kernel
theorem dX0_readLine_52 : decode cX0_readLine 52 = .ok (.iconst 0, 1) := by decide +kernel
theorem dX0_readLine_53 : decode cX0_readLine 53 = .ok (.bipush 99, 2) := by decide +kernel
theorem dX0_readLine_55 : decode cX0_readLine 55 = .ok (.invokevirtual 42, 3) := by decide +kernel
theorem dX0_readLine_58 : decode cX0_readLine 58 = .ok (.iastore, 1) := by decide +kernel
theorem dX0_readLine_59 : decode cX0_readLine 59 = .ok (.aload_n 0, 1) := by decide +kernel
theorem dX0_readLine_60 : decode cX0_readLine 60 = .ok (.dup, 1) := by decide +kernel
theorem dX0_readLine_61 : decode cX0_readLine 61 = .ok (.getfield 21, 3) := by decide +kernel
theorem dX0_readLine_64 : decode cX0_readLine 64 = .ok (.iconst 1, 1) := by decide +kernel
theorem dX0_readLine_65 : decode cX0_readLine 65 = .ok (.iadd, 1) := by decide +kernel
theorem dX0_readLine_66 : decode cX0_readLine 66 = .ok (.putfield 21, 3) := by decide +kernel
theorem dX0_readLine_69 : decode cX0_readLine 69 = .ok (.aload_n 0, 1) := by decide +kernel
theorem dX0_readLine_70 : decode cX0_readLine 70 = .ok (.getfield 9, 3) := by decide +kernel
theorem dX0_readLine_73 : decode cX0_readLine 73 = .ok (.iload_n 2, 1) := by decide +kernel
theorem dX0_readLine_74 : decode cX0_readLine 74 = .ok (.iaload, 1) := by decide +kernel
theorem dX0_readLine_75 : decode cX0_readLine 75 = .ok (.iconst (-1), 1) := by decide +kernel
theorem dX0_readLine_76 : decode cX0_readLine 76 = .ok (.if_icmp .eq 7, 3) := by decide +kernel
theorem dX0_readLine_79 : decode cX0_readLine 79 = .ok (.iconst 1, 1) := by decide +kernel
theorem dX0_readLine_80 : decode cX0_readLine 80 = .ok (.goto 4, 3) := by decide +kernel
theorem dX0_readLine_83 : decode cX0_readLine 83 = .ok (.iconst 0, 1) := by decide +kernel
theorem dX0_readLine_84 : decode cX0_readLine 84 = .ok (.ireturn, 1) := by decide +kernel
theorem r_X0_readLine_0 {d rc rs : Nat} {Q : PO → PH → Prop} {h : PH} {l0 : Nat} {l1 : Nat}
    (k : isO h 10800 l1 ∧ cl d rc rs M_X8_number [vR (800, l1), vI (1 : Int32), vI (12 : Int32)] h (kI fun x4 h1 rc2 rs3 => br (x4 = (-1 : Int32)) (Q (.inl (some (vI (0 : Int32)))) h1) (gA h1 (10000, l0) fun a5 => xI h1 a5 x4 fun x6 => br (x6 = (-1 : Int32)) (gI h1 (10001, l0) fun x7 => br (x7 < (6 : Int32)) (gA h1 (10000, l0) fun a8 => isO h1 10800 l1 ∧ cl d rc2 rs3 M_X8_number [vR (800, l1), vI (0 : Int32), vI (99 : Int32)] h1 (kI fun x12 h9 rc10 rs11 => yI h9 a8 x4 x12 fun h13 => gI h13 (10001, l0) fun x14 => sF h13 (10001, l0) (vI (x14 + (1 : Int32))) fun h15 => gA h15 (10000, l0) fun a16 => xI h15 a16 x4 fun x17 => br (x17 = (-1 : Int32)) (Q (.inl (some (vI (0 : Int32)))) h15) (Q (.inl (some (vI (1 : Int32)))) h15)) (fun E h9 rc10 rs11 => Q (.inr E) h9)) (isO h1 10800 l1 ∧ cl d rc2 rs3 M_X8_refuse [vR (800, l1), vI (3 : Int32)] h1 (kI fun x21 h18 rc19 rs20 => nrw .boolean x21 (Q (.inl (some (vI x21))) h18)) (fun E h18 rc19 rs20 => Q (.inr E) h18))) (isO h1 10800 l1 ∧ cl d rc2 rs3 M_X8_refuse [vR (800, l1), vI (2 : Int32)] h1 (kI fun x25 h22 rc23 rs24 => nrw .boolean x25 (Q (.inl (some (vI x25))) h22)) (fun E h22 rc23 rs24 => Q (.inr E) h22)))) (fun E h1 rc2 rs3 => Q (.inr E) h1)) :
    PW d M_X0_readLine Q rc rs 0 [vR (0, l0), vR (800, l1), vU] [] h := by
  refine P_aload_n (pc := 0) dX0_readLine_0 rfl ?_
  refine P_iconst (v := (1 : Int32)) (pc := 1) dX0_readLine_1 (by decide) ?_
  refine P_bipush (v := (12 : Int32)) (pc := 2) dX0_readLine_2 (by decide) ?_
  obtain ⟨⟨w9, e9⟩, d2, nc, ns, rc2, rs3, Qc, g1, rfl, rfl, g2, kk, kx⟩ := k
  refine P_callV (ci := 8) (k := 0) (id := l1) (q := (RX8, TX8, 7)) (As := [vI (1 : Int32), vI (12 : Int32)]) (st := []) (pc := 4) dX0_readLine_4 mk_X8_number l_X0_42 im_X8_number se_X8_number ini_X8 rfl g1 (Nat.le_of_ble_eq_true rfl) rfl rfl (by decide) e9 rfl g2 (fun v9 h9 q9 => ?_) (fun E h9 q9 => PX_out rfl (kx E h9 q9))
  obtain ⟨x4, rfl, k⟩ := kk v9 h9 q9
  clear kk kx g1 g2 q9
  refine P_istore_n (pc := 7) dX0_readLine_7 (by decide) (Or.inr (by intro z e9; cases e9)) rfl ?_
  refine P_iload_n (pc := 8) dX0_readLine_8 rfl ?_
  refine P_iconst (v := (-1 : Int32)) (pc := 9) dX0_readLine_9 (by decide) ?_
  refine P_icmp_ne (tgt := 15) (pc := 10) dX0_readLine_10 (by decide) (fun c => ?_) (fun c => ?_)
  · have k := k.2 c
    refine P_aload_n (pc := 15) dX0_readLine_15 rfl ?_
    obtain ⟨a5, e9, k⟩ := k
    refine G0_0 (pc := 16) dX0_readLine_16 l_X0_9 e9 ?_
    clear e9
    refine P_iload_n (pc := 19) dX0_readLine_19 rfl ?_
    obtain ⟨n9, f9, e9, i9, k⟩ := k
    refine P_iald (pc := 20) dX0_readLine_20 e9 i9 ?_
    clear e9
    generalize f9 (Int32.toNatClampNeg x4) = x6 at k ⊢
    refine P_iconst (v := (-1 : Int32)) (pc := 21) dX0_readLine_21 (by decide) ?_
    refine P_icmp_eq (tgt := 31) (pc := 22) dX0_readLine_22 (by decide) (fun c => ?_) (fun c => ?_)
    · have k := k.1 c
      refine P_aload_n (pc := 31) dX0_readLine_31 rfl ?_
      obtain ⟨x7, e9, k⟩ := k
      refine G0_1 (pc := 32) dX0_readLine_32 l_X0_21 e9 ?_
      clear e9
      refine P_bipush (v := (6 : Int32)) (pc := 35) dX0_readLine_35 (by decide) ?_
      refine P_icmp_lt (tgt := 46) (pc := 37) dX0_readLine_37 (by decide) (fun c => ?_) (fun c => ?_)
      · have k := k.1 c
        refine P_aload_n (pc := 46) dX0_readLine_46 rfl ?_
        obtain ⟨a8, e9, k⟩ := k
        refine G0_0 (pc := 47) dX0_readLine_47 l_X0_9 e9 ?_
        clear e9
        refine P_iload_n (pc := 50) dX0_readLine_50 rfl ?_
        refine P_aload_n (pc := 51) dX0_readLine_51 rfl ?_
        refine P_iconst (v := (0 : Int32)) (pc := 52) dX0_readLine_52 (by decide) ?_
        refine P_bipush (v := (99 : Int32)) (pc := 53) dX0_readLine_53 (by decide) ?_
        obtain ⟨⟨w9, e9⟩, d2, nc, ns, rc10, rs11, Qc, g1, rfl, rfl, g2, kk, kx⟩ := k
        refine P_callV (ci := 8) (k := 0) (id := l1) (q := (RX8, TX8, 7)) (As := [vI (0 : Int32), vI (99 : Int32)]) (st := [vI x4, vR a8]) (pc := 55) dX0_readLine_55 mk_X8_number l_X0_42 im_X8_number se_X8_number ini_X8 rfl g1 (Nat.le_of_ble_eq_true rfl) rfl rfl (by decide) e9 rfl g2 (fun v9 h9 q9 => ?_) (fun E h9 q9 => PX_out rfl (kx E h9 q9))
        obtain ⟨x12, rfl, k⟩ := kk v9 h9 q9
        clear kk kx g1 g2 q9
        obtain ⟨n9, f9, e9, i9, k⟩ := k
        refine P_iast (pc := 58) dX0_readLine_58 e9 i9 ?_
        clear e9
        refine P_aload_n (pc := 59) dX0_readLine_59 rfl ?_
        refine P_dup (pc := 60) dX0_readLine_60 (fun _ => rfl) ?_
        obtain ⟨x14, e9, k⟩ := k
        refine G0_1 (pc := 61) dX0_readLine_61 l_X0_21 e9 ?_
        clear e9
        refine P_iconst (v := (1 : Int32)) (pc := 64) dX0_readLine_64 (by decide) ?_
        refine P_iadd (pc := 65) dX0_readLine_65 ?_
        obtain ⟨⟨v9, e9⟩, k⟩ := k
        refine S0_1 (pc := 66) dX0_readLine_66 l_X0_21 e9 ?_
        clear e9
        refine P_aload_n (pc := 69) dX0_readLine_69 rfl ?_
        obtain ⟨a16, e9, k⟩ := k
        refine G0_0 (pc := 70) dX0_readLine_70 l_X0_9 e9 ?_
        clear e9
        refine P_iload_n (pc := 73) dX0_readLine_73 rfl ?_
        obtain ⟨n9, f9, e9, i9, k⟩ := k
        refine P_iald (pc := 74) dX0_readLine_74 e9 i9 ?_
        clear e9
        generalize f9 (Int32.toNatClampNeg x4) = x17 at k ⊢
        refine P_iconst (v := (-1 : Int32)) (pc := 75) dX0_readLine_75 (by decide) ?_
        refine P_icmp_eq (tgt := 83) (pc := 76) dX0_readLine_76 (by decide) (fun c => ?_) (fun c => ?_)
        · have k := k.1 c
          refine P_iconst (v := (0 : Int32)) (pc := 83) dX0_readLine_83 (by decide) ?_
          exact R_ireturn (pc := 84) dX0_readLine_84 rfl rfl k
        · have k := k.2 c
          refine P_iconst (v := (1 : Int32)) (pc := 79) dX0_readLine_79 (by decide) ?_
          refine P_goto (tgt := 84) (pc := 80) dX0_readLine_80 (by decide) ?_
          exact R_ireturn (pc := 84) dX0_readLine_84 rfl rfl k
      · have k := k.2 c
        refine P_aload_n (pc := 40) dX0_readLine_40 rfl ?_
        refine P_iconst (v := (3 : Int32)) (pc := 41) dX0_readLine_41 (by decide) ?_
        obtain ⟨⟨w9, e9⟩, d2, nc, ns, rc19, rs20, Qc, g1, rfl, rfl, g2, kk, kx⟩ := k
        refine P_callV (ci := 8) (k := 0) (id := l1) (q := (RX8, TX8, 7)) (As := [vI (3 : Int32)]) (st := []) (pc := 42) dX0_readLine_42 mk_X8_refuse l_X0_46 im_X8_refuse se_X8_refuse ini_X8 rfl g1 (Nat.le_of_ble_eq_true rfl) rfl rfl (by decide) e9 rfl g2 (fun v9 h9 q9 => ?_) (fun E h9 q9 => PX_out rfl (kx E h9 q9))
        obtain ⟨x21, rfl, k⟩ := kk v9 h9 q9
        clear kk kx g1 g2 q9
        exact R_ireturn (pc := 45) dX0_readLine_45 rfl k.1 k.2
    · have k := k.2 c
      refine P_aload_n (pc := 25) dX0_readLine_25 rfl ?_
      refine P_iconst (v := (2 : Int32)) (pc := 26) dX0_readLine_26 (by decide) ?_
      obtain ⟨⟨w9, e9⟩, d2, nc, ns, rc23, rs24, Qc, g1, rfl, rfl, g2, kk, kx⟩ := k
      refine P_callV (ci := 8) (k := 0) (id := l1) (q := (RX8, TX8, 7)) (As := [vI (2 : Int32)]) (st := []) (pc := 27) dX0_readLine_27 mk_X8_refuse l_X0_46 im_X8_refuse se_X8_refuse ini_X8 rfl g1 (Nat.le_of_ble_eq_true rfl) rfl rfl (by decide) e9 rfl g2 (fun v9 h9 q9 => ?_) (fun E h9 q9 => PX_out rfl (kx E h9 q9))
      obtain ⟨x25, rfl, k⟩ := kk v9 h9 q9
      clear kk kx g1 g2 q9
      exact R_ireturn (pc := 30) dX0_readLine_30 rfl k.1 k.2
  · have k := k.1 c
    refine P_iconst (v := (0 : Int32)) (pc := 13) dX0_readLine_13 (by decide) ?_
    exact R_ireturn (pc := 14) dX0_readLine_14 rfl rfl k
-- X1_init <init>()V
theorem dX1_init_0 : decode cX1_init 0 = .ok (.aload_n 0, 1) := by decide +kernel
theorem dX1_init_1 : decode cX1_init 1 = .ok (.invokespecial 3, 3) := by decide +kernel
theorem dX1_init_4 : decode cX1_init 4 = .ok (.aload_n 0, 1) := by decide +kernel
theorem dX1_init_5 : decode cX1_init 5 = .ok (.bipush 7, 2) := by decide +kernel
theorem dX1_init_7 : decode cX1_init 7 = .ok (.newarray .int, 2) := by decide +kernel
theorem dX1_init_9 : decode cX1_init 9 = .ok (.putfield 9, 3) := by decide +kernel
theorem dX1_init_12 : decode cX1_init 12 = .ok (.aload_n 0, 1) := by decide +kernel
theorem dX1_init_13 : decode cX1_init 13 = .ok (.bipush 7, 2) := by decide +kernel
theorem dX1_init_15 : decode cX1_init 15 = .ok (.newarray .int, 2) := by decide +kernel
theorem dX1_init_17 : decode cX1_init 17 = .ok (.putfield 15, 3) := by decide +kernel
theorem dX1_init_20 : decode cX1_init 20 = .ok (.aload_n 0, 1) := by decide +kernel
theorem dX1_init_21 : decode cX1_init 21 = .ok (.bipush 7, 2) := by decide +kernel
theorem dX1_init_23 : decode cX1_init 23 = .ok (.newarray .int, 2) := by decide +kernel
theorem dX1_init_25 : decode cX1_init 25 = .ok (.putfield 18, 3) := by decide +kernel
theorem dX1_init_28 : decode cX1_init 28 = .ok (.aload_n 0, 1) := by decide +kernel
theorem dX1_init_29 : decode cX1_init 29 = .ok (.bipush 12, 2) := by decide +kernel
theorem dX1_init_31 : decode cX1_init 31 = .ok (.newarray .int, 2) := by decide +kernel
theorem dX1_init_33 : decode cX1_init 33 = .ok (.putfield 21, 3) := by decide +kernel
theorem dX1_init_36 : decode cX1_init 36 = .ok (.aload_n 0, 1) := by decide +kernel
theorem dX1_init_37 : decode cX1_init 37 = .ok (.bipush 12, 2) := by decide +kernel
theorem dX1_init_39 : decode cX1_init 39 = .ok (.newarray .int, 2) := by decide +kernel
theorem dX1_init_41 : decode cX1_init 41 = .ok (.putfield 24, 3) := by decide +kernel
theorem dX1_init_44 : decode cX1_init 44 = .ok (.aload_n 0, 1) := by decide +kernel
theorem dX1_init_45 : decode cX1_init 45 = .ok (.bipush 6, 2) := by decide +kernel
theorem dX1_init_47 : decode cX1_init 47 = .ok (.newarray .int, 2) := by decide +kernel
theorem dX1_init_49 : decode cX1_init 49 = .ok (.putfield 27, 3) := by decide +kernel
theorem dX1_init_52 : decode cX1_init 52 = .ok (.aload_n 0, 1) := by decide +kernel
theorem dX1_init_53 : decode cX1_init 53 = .ok (.bipush 6, 2) := by decide +kernel
theorem dX1_init_55 : decode cX1_init 55 = .ok (.newarray .int, 2) := by decide +kernel
theorem dX1_init_57 : decode cX1_init 57 = .ok (.putfield 30, 3) := by decide +kernel
theorem dX1_init_60 : decode cX1_init 60 = .ok (.aload_n 0, 1) := by decide +kernel
theorem dX1_init_61 : decode cX1_init 61 = .ok (.bipush 12, 2) := by decide +kernel
theorem dX1_init_63 : decode cX1_init 63 = .ok (.putfield 33, 3) := by decide +kernel
theorem dX1_init_66 : decode cX1_init 66 = .ok (.return_, 1) := by decide +kernel
theorem r_X1_init_0 {d rc rs : Nat} {Q : PO → PH → Prop} {h : PH} {l0 : Nat}
    (k : 1 ≤ d ∧ nwA h 0 (7 : Int32) (.inl (fun _ => 0)) rc rs fun a1 h2 rc3 rs4 => sF h2 (10100, l0) (vR a1) fun h5 => nwA h5 0 (7 : Int32) (.inl (fun _ => 0)) rc3 rs4 fun a6 h7 rc8 rs9 => sF h7 (10101, l0) (vR a6) fun h10 => nwA h10 0 (7 : Int32) (.inl (fun _ => 0)) rc8 rs9 fun a11 h12 rc13 rs14 => sF h12 (10102, l0) (vR a11) fun h15 => nwA h15 0 (12 : Int32) (.inl (fun _ => 0)) rc13 rs14 fun a16 h17 rc18 rs19 => sF h17 (10103, l0) (vR a16) fun h20 => nwA h20 0 (12 : Int32) (.inl (fun _ => 0)) rc18 rs19 fun a21 h22 rc23 rs24 => sF h22 (10104, l0) (vR a21) fun h25 => nwA h25 0 (6 : Int32) (.inl (fun _ => 0)) rc23 rs24 fun a26 h27 rc28 rs29 => sF h27 (10105, l0) (vR a26) fun h30 => nwA h30 0 (6 : Int32) (.inl (fun _ => 0)) rc28 rs29 fun a31 h32 rc33 rs34 => sF h32 (10106, l0) (vR a31) fun h35 => sF h35 (10110, l0) (vI (12 : Int32)) fun h36 => Q (.inl none) h36) :
    PW d M_X1_init Q rc rs 0 [vR (100, l0)] [] h := by
  refine P_aload_n (pc := 0) dX1_init_0 rfl ?_
  refine P_objInit (pc := 1) dX1_init_1 l_X1_3 oi_in oi_co k.1 (Nat.le_of_ble_eq_true rfl) ?_
  replace k := k.2
  refine P_aload_n (pc := 4) dX1_init_4 rfl ?_
  refine P_bipush (v := (7 : Int32)) (pc := 5) dX1_init_5 (by decide) ?_
  obtain ⟨a1, n9, m9, g9, rc3, rs4, b1, b2, b3, b4, b5, b6, rfl, rfl, k⟩ := k
  refine P_newaI (pc := 7) dX1_init_7 ac_int b1 b2 b3 b4 b5 b6 ?_
  obtain ⟨⟨v9, e9⟩, k⟩ := k
  refine S1_0 (pc := 9) dX1_init_9 l_X1_9 rfl rfl e9 ?_
  clear e9
  refine P_aload_n (pc := 12) dX1_init_12 rfl ?_
  refine P_bipush (v := (7 : Int32)) (pc := 13) dX1_init_13 (by decide) ?_
  obtain ⟨a6, n9, m9, g9, rc8, rs9, b1, b2, b3, b4, b5, b6, rfl, rfl, k⟩ := k
  refine P_newaI (pc := 15) dX1_init_15 ac_int b1 b2 b3 b4 b5 b6 ?_
  obtain ⟨⟨v9, e9⟩, k⟩ := k
  refine S1_1 (pc := 17) dX1_init_17 l_X1_15 rfl rfl e9 ?_
  clear e9
  refine P_aload_n (pc := 20) dX1_init_20 rfl ?_
  refine P_bipush (v := (7 : Int32)) (pc := 21) dX1_init_21 (by decide) ?_
  obtain ⟨a11, n9, m9, g9, rc13, rs14, b1, b2, b3, b4, b5, b6, rfl, rfl, k⟩ := k
  refine P_newaI (pc := 23) dX1_init_23 ac_int b1 b2 b3 b4 b5 b6 ?_
  obtain ⟨⟨v9, e9⟩, k⟩ := k
  refine S1_2 (pc := 25) dX1_init_25 l_X1_18 rfl rfl e9 ?_
  clear e9
  refine P_aload_n (pc := 28) dX1_init_28 rfl ?_
  refine P_bipush (v := (12 : Int32)) (pc := 29) dX1_init_29 (by decide) ?_
  obtain ⟨a16, n9, m9, g9, rc18, rs19, b1, b2, b3, b4, b5, b6, rfl, rfl, k⟩ := k
  refine P_newaI (pc := 31) dX1_init_31 ac_int b1 b2 b3 b4 b5 b6 ?_
  obtain ⟨⟨v9, e9⟩, k⟩ := k
  refine S1_3 (pc := 33) dX1_init_33 l_X1_21 rfl rfl e9 ?_
  clear e9
  refine P_aload_n (pc := 36) dX1_init_36 rfl ?_
  refine P_bipush (v := (12 : Int32)) (pc := 37) dX1_init_37 (by decide) ?_
  obtain ⟨a21, n9, m9, g9, rc23, rs24, b1, b2, b3, b4, b5, b6, rfl, rfl, k⟩ := k
  refine P_newaI (pc := 39) dX1_init_39 ac_int b1 b2 b3 b4 b5 b6 ?_
  obtain ⟨⟨v9, e9⟩, k⟩ := k
  refine S1_4 (pc := 41) dX1_init_41 l_X1_24 rfl rfl e9 ?_
  clear e9
  refine P_aload_n (pc := 44) dX1_init_44 rfl ?_
  refine P_bipush (v := (6 : Int32)) (pc := 45) dX1_init_45 (by decide) ?_
  obtain ⟨a26, n9, m9, g9, rc28, rs29, b1, b2, b3, b4, b5, b6, rfl, rfl, k⟩ := k
  refine P_newaI (pc := 47) dX1_init_47 ac_int b1 b2 b3 b4 b5 b6 ?_
  obtain ⟨⟨v9, e9⟩, k⟩ := k
  refine S1_5 (pc := 49) dX1_init_49 l_X1_27 rfl rfl e9 ?_
  clear e9
  refine P_aload_n (pc := 52) dX1_init_52 rfl ?_
  refine P_bipush (v := (6 : Int32)) (pc := 53) dX1_init_53 (by decide) ?_
  obtain ⟨a31, n9, m9, g9, rc33, rs34, b1, b2, b3, b4, b5, b6, rfl, rfl, k⟩ := k
  refine P_newaI (pc := 55) dX1_init_55 ac_int b1 b2 b3 b4 b5 b6 ?_
  obtain ⟨⟨v9, e9⟩, k⟩ := k
  refine S1_6 (pc := 57) dX1_init_57 l_X1_30 rfl rfl e9 ?_
  clear e9
  refine P_aload_n (pc := 60) dX1_init_60 rfl ?_
  refine P_bipush (v := (12 : Int32)) (pc := 61) dX1_init_61 (by decide) ?_
  obtain ⟨⟨v9, e9⟩, k⟩ := k
  refine S1_10 (pc := 63) dX1_init_63 l_X1_33 e9 ?_
  clear e9
  exact R_return (pc := 66) dX1_init_66 rfl k
-- X1_read read(LFernHeirs$Text;)Z
theorem dX1_read_0 : decode cX1_read 0 = .ok (.aload_n 0, 1) := by decide +kernel
theorem dX1_read_1 : decode cX1_read 1 = .ok (.iconst 0, 1) := by decide +kernel
theorem dX1_read_2 : decode cX1_read 2 = .ok (.putfield 37, 3) := by decide +kernel
theorem dX1_read_5 : decode cX1_read 5 = .ok (.aload_n 0, 1) := by decide +kernel
theorem dX1_read_6 : decode cX1_read 6 = .ok (.iconst 0, 1) := by decide +kernel
theorem dX1_read_7 : decode cX1_read 7 = .ok (.putfield 40, 3) := by decide +kernel
theorem dX1_read_10 : decode cX1_read 10 = .ok (.aload_n 0, 1) := by decide +kernel
theorem dX1_read_11 : decode cX1_read 11 = .ok (.iconst 0, 1) := by decide +kernel
theorem dX1_read_12 : decode cX1_read 12 = .ok (.putfield 43, 3) := by decide +kernel
theorem dX1_read_15 : decode cX1_read 15 = .ok (.aload_n 0, 1) := by decide +kernel
theorem dX1_read_16 : decode cX1_read 16 = .ok (.bipush 12, 2) := by decide +kernel
theorem dX1_read_18 : decode cX1_read 18 = .ok (.putfield 33, 3) := by decide +kernel
theorem dX1_read_21 : decode cX1_read 21 = .ok (.aload_n 0, 1) := by decide +kernel
theorem dX1_read_22 : decode cX1_read 22 = .ok (.getfield 18, 3) := by decide +kernel
theorem dX1_read_25 : decode cX1_read 25 = .ok (.iconst 0, 1) := by decide +kernel
theorem dX1_read_26 : decode cX1_read 26 = .ok (.invokestatic 46, 3) := by decide +kernel
theorem dX1_read_29 : decode cX1_read 29 = .ok (.iconst 0, 1) := by decide +kernel
theorem dX1_read_30 : decode cX1_read 30 = .ok (.istore_n 2, 1) := by decide +kernel
theorem dX1_read_31 : decode cX1_read 31 = .ok (.iload_n 2, 1) := by decide +kernel
theorem dX1_read_32 : decode cX1_read 32 = .ok (.bipush 60, 2) := by decide +kernel
theorem dX1_read_34 : decode cX1_read 34 = .ok (.if_icmp .gt 47, 3) := by decide +kernel
theorem dX1_read_37 : decode cX1_read 37 = .ok (.aload_n 1, 1) := by decide +kernel
theorem dX1_read_38 : decode cX1_read 38 = .ok (.invokevirtual 52, 3) := by decide +kernel
theorem dX1_read_41 : decode cX1_read 41 = .ok (.iconst (-1), 1) := by decide +kernel
theorem dX1_read_42 : decode cX1_read 42 = .ok (.if_icmp .eq 39, 3) := by decide +kernel
theorem dX1_read_45 : decode cX1_read 45 = .ok (.aload_n 0, 1) := by decide +kernel
theorem dX1_read_46 : decode cX1_read 46 = .ok (.aload_n 1, 1) := by decide +kernel
theorem dX1_read_47 : decode cX1_read 47 = .ok (.iload_n 2, 1) := by decide +kernel
theorem dX1_read_48 : decode cX1_read 48 = .ok (.bipush 60, 2) := by decide +kernel
theorem dX1_read_50 : decode cX1_read 50 = .ok (.if_icmp .lt 7, 3) := by decide +kernel
theorem dX1_read_53 : decode cX1_read 53 = .ok (.iconst 1, 1) := by decide +kernel
theorem dX1_read_54 : decode cX1_read 54 = .ok (.goto 4, 3) := by decide +kernel
theorem dX1_read_57 : decode cX1_read 57 = .ok (.iconst 0, 1) := by decide +kernel
theorem dX1_read_58 : decode cX1_read 58 = .ok (.invokevirtual 58, 3) := by decide +kernel
theorem dX1_read_61 : decode cX1_read 61 = .ok (.ifCond .eq 12, 3) := by decide +kernel
theorem dX1_read_64 : decode cX1_read 64 = .ok (.aload_n 1, 1) := by decide +kernel
theorem dX1_read_65 : decode cX1_read 65 = .ok (.bipush 59, 2) := by decide +kernel
theorem dX1_read_67 : decode cX1_read 67 = .ok (.invokevirtual 62, 3) := by decide +kernel
theorem dX1_read_70 : decode cX1_read 70 = .ok (.ifCond .ne 5, 3) := by decide +kernel
theorem dX1_read_73 : decode cX1_read 73 = .ok (.iconst 0, 1) := by decide +kernel
theorem dX1_read_74 : decode cX1_read 74 = .ok (.ireturn, 1) := by decide +kernel
theorem dX1_read_75 : decode cX1_read 75 = .ok (.iinc 2 1, 3) := by decide +kernel
theorem dX1_read_78 : decode cX1_read 78 = .ok (.goto (-47), 3) := by decide +kernel
theorem dX1_read_81 : decode cX1_read 81 = .ok (.iconst 1, 1) := by decide +kernel
theorem dX1_read_82 : decode cX1_read 82 = .ok (.ireturn, 1) := by decide +kernel
theorem r_X1_read_0 {d rc rs : Nat} {Q : PO → PH → Prop} {h : PH} {l0 : Nat} {l1 : Nat}
    (k : sF h (10107, l0) (vI (0 : Int32)) fun h1 => sF h1 (10108, l0) (vI (0 : Int32)) fun h2 => sF h2 (10109, l0) (vI (0 : Int32)) fun h3 => sF h3 (10110, l0) (vI (12 : Int32)) fun h4 => gA h4 (10102, l0) fun a5 => cl d rc rs M_J7_fill_53178 [vR a5, vI (0 : Int32)] h4 (kV fun h6 rc7 rs8 => PW d M_X1_read Q rc7 rs8 31 [vR (100, l0), vR (800, l1), vI (0 : Int32)] [] h6) (fun E h6 rc7 rs8 => Q (.inr E) h6)) :
    PW d M_X1_read Q rc rs 0 [vR (100, l0), vR (800, l1), vU] [] h := by
  refine P_aload_n (pc := 0) dX1_read_0 rfl ?_
  refine P_iconst (v := (0 : Int32)) (pc := 1) dX1_read_1 (by decide) ?_
  obtain ⟨⟨v9, e9⟩, k⟩ := k
  refine S1_7 (pc := 2) dX1_read_2 l_X1_37 e9 ?_
  clear e9
  refine P_aload_n (pc := 5) dX1_read_5 rfl ?_
  refine P_iconst (v := (0 : Int32)) (pc := 6) dX1_read_6 (by decide) ?_
  obtain ⟨⟨v9, e9⟩, k⟩ := k
  refine S1_8 (pc := 7) dX1_read_7 l_X1_40 e9 ?_
  clear e9
  refine P_aload_n (pc := 10) dX1_read_10 rfl ?_
  refine P_iconst (v := (0 : Int32)) (pc := 11) dX1_read_11 (by decide) ?_
  obtain ⟨⟨v9, e9⟩, k⟩ := k
  refine S1_9 (pc := 12) dX1_read_12 l_X1_43 e9 ?_
  clear e9
  refine P_aload_n (pc := 15) dX1_read_15 rfl ?_
  refine P_bipush (v := (12 : Int32)) (pc := 16) dX1_read_16 (by decide) ?_
  obtain ⟨⟨v9, e9⟩, k⟩ := k
  refine S1_10 (pc := 18) dX1_read_18 l_X1_33 e9 ?_
  clear e9
  refine P_aload_n (pc := 21) dX1_read_21 rfl ?_
  obtain ⟨a5, e9, k⟩ := k
  refine G1_2 (pc := 22) dX1_read_22 l_X1_18 e9 ?_
  clear e9
  refine P_iconst (v := (0 : Int32)) (pc := 25) dX1_read_25 (by decide) ?_
  obtain ⟨d2, nc, ns, rc7, rs8, Qc, g1, rfl, rfl, g2, kk, kx⟩ := k
  refine P_callS (As := [vR a5, vI (0 : Int32)]) (st := []) (pc := 26) dX1_read_26 mk_J7_fill_53178 l_X1_46 st_J7_fill_53178 ini_J7 rfl g1 (Nat.le_of_ble_eq_true rfl) rfl g2 (fun v9 h9 q9 => ?_) (fun E h9 q9 => PX_out rfl (kx E h9 q9))
  obtain ⟨rfl, k⟩ := kk v9 h9 q9
  clear kk kx g1 g2 q9
  refine P_iconst (v := (0 : Int32)) (pc := 29) dX1_read_29 (by decide) ?_
  refine P_istore_n (pc := 30) dX1_read_30 (by decide) (Or.inr (by intro z e9; cases e9)) rfl ?_
  exact k
theorem r_X1_read_31 {d rc rs : Nat} {Q : PO → PH → Prop} {h : PH} {l0 : Nat} {l1 : Nat} {l2 : Int32}
    (k : br ((60 : Int32) < l2) (Q (.inl (some (vI (1 : Int32)))) h) (isO h 10800 l1 ∧ cl d rc rs M_X8_peek [vR (800, l1)] h (kI fun x4 h1 rc2 rs3 => br (x4 = (-1 : Int32)) (Q (.inl (some (vI (1 : Int32)))) h1) (br (l2 < (60 : Int32)) (isO h1 10100 l0 ∧ cl d rc2 rs3 M_X1_readClause [vR (100, l0), vR (800, l1), vI (0 : Int32)] h1 (kI fun x8 h5 rc6 rs7 => br (x8 = 0) (Q (.inl (some (vI (0 : Int32)))) h5) (isO h5 10800 l1 ∧ cl d rc6 rs7 M_X8_needSign [vR (800, l1), vI (59 : Int32)] h5 (kI fun x12 h9 rc10 rs11 => br (x12 = 0) (Q (.inl (some (vI (0 : Int32)))) h9) (PW d M_X1_read Q rc10 rs11 31 [vR (100, l0), vR (800, l1), vI (l2 + (1 : Int32))] [] h9)) (fun E h9 rc10 rs11 => Q (.inr E) h9))) (fun E h5 rc6 rs7 => Q (.inr E) h5)) (isO h1 10100 l0 ∧ cl d rc2 rs3 M_X1_readClause [vR (100, l0), vR (800, l1), vI (1 : Int32)] h1 (kI fun x16 h13 rc14 rs15 => br (x16 = 0) (Q (.inl (some (vI (0 : Int32)))) h13) (isO h13 10800 l1 ∧ cl d rc14 rs15 M_X8_needSign [vR (800, l1), vI (59 : Int32)] h13 (kI fun x20 h17 rc18 rs19 => br (x20 = 0) (Q (.inl (some (vI (0 : Int32)))) h17) (PW d M_X1_read Q rc18 rs19 31 [vR (100, l0), vR (800, l1), vI (l2 + (1 : Int32))] [] h17)) (fun E h17 rc18 rs19 => Q (.inr E) h17))) (fun E h13 rc14 rs15 => Q (.inr E) h13)))) (fun E h1 rc2 rs3 => Q (.inr E) h1))) :
    PW d M_X1_read Q rc rs 31 [vR (100, l0), vR (800, l1), vI l2] [] h := by
  refine P_iload_n (pc := 31) dX1_read_31 rfl ?_
  refine P_bipush (v := (60 : Int32)) (pc := 32) dX1_read_32 (by decide) ?_
  refine P_icmp_gt (tgt := 81) (pc := 34) dX1_read_34 (by decide) (fun c => ?_) (fun c => ?_)
  · have k := k.1 c
    refine P_iconst (v := (1 : Int32)) (pc := 81) dX1_read_81 (by decide) ?_
    exact R_ireturn (pc := 82) dX1_read_82 rfl rfl k
  · have k := k.2 c
    refine P_aload_n (pc := 37) dX1_read_37 rfl ?_
    obtain ⟨⟨w9, e9⟩, d2, nc, ns, rc2, rs3, Qc, g1, rfl, rfl, g2, kk, kx⟩ := k
    refine P_callV (ci := 8) (k := 0) (id := l1) (q := (RX8, TX8, 7)) (As := []) (st := []) (pc := 38) dX1_read_38 mk_X8_peek l_X1_52 im_X8_peek se_X8_peek ini_X8 rfl g1 (Nat.le_of_ble_eq_true rfl) rfl rfl (by decide) e9 rfl g2 (fun v9 h9 q9 => ?_) (fun E h9 q9 => PX_out rfl (kx E h9 q9))
    obtain ⟨x4, rfl, k⟩ := kk v9 h9 q9
    clear kk kx g1 g2 q9
    refine P_iconst (v := (-1 : Int32)) (pc := 41) dX1_read_41 (by decide) ?_
    refine P_icmp_eq (tgt := 81) (pc := 42) dX1_read_42 (by decide) (fun c => ?_) (fun c => ?_)
    · have k := k.1 c
      refine P_iconst (v := (1 : Int32)) (pc := 81) dX1_read_81 (by decide) ?_
      exact R_ireturn (pc := 82) dX1_read_82 rfl rfl k
    · have k := k.2 c
      refine P_aload_n (pc := 45) dX1_read_45 rfl ?_
      refine P_aload_n (pc := 46) dX1_read_46 rfl ?_
      refine P_iload_n (pc := 47) dX1_read_47 rfl ?_
      refine P_bipush (v := (60 : Int32)) (pc := 48) dX1_read_48 (by decide) ?_
      refine P_icmp_lt (tgt := 57) (pc := 50) dX1_read_50 (by decide) (fun c => ?_) (fun c => ?_)
      · have k := k.1 c
        refine P_iconst (v := (0 : Int32)) (pc := 57) dX1_read_57 (by decide) ?_
        obtain ⟨⟨w9, e9⟩, d2, nc, ns, rc6, rs7, Qc, g1, rfl, rfl, g2, kk, kx⟩ := k
        refine P_callV (ci := 1) (k := 0) (id := l0) (q := (RX1, TX1, 11)) (As := [vR (800, l1), vI (0 : Int32)]) (st := []) (pc := 58) dX1_read_58 mk_X1_readClause l_X1_58 im_X1_readClause se_X1_readClause ini_X1 rfl g1 (Nat.le_of_ble_eq_true rfl) rfl rfl (by decide) e9 rfl g2 (fun v9 h9 q9 => ?_) (fun E h9 q9 => PX_out rfl (kx E h9 q9))
        obtain ⟨x8, rfl, k⟩ := kk v9 h9 q9
        clear kk kx g1 g2 q9
        refine P_if_eq (tgt := 73) (pc := 61) dX1_read_61 (by decide) (fun c => ?_) (fun c => ?_)
        · have k := k.1 c
          refine P_iconst (v := (0 : Int32)) (pc := 73) dX1_read_73 (by decide) ?_
          exact R_ireturn (pc := 74) dX1_read_74 rfl rfl k
        · have k := k.2 c
          refine P_aload_n (pc := 64) dX1_read_64 rfl ?_
          refine P_bipush (v := (59 : Int32)) (pc := 65) dX1_read_65 (by decide) ?_
          obtain ⟨⟨w9, e9⟩, d2, nc, ns, rc10, rs11, Qc, g1, rfl, rfl, g2, kk, kx⟩ := k
          refine P_callV (ci := 8) (k := 0) (id := l1) (q := (RX8, TX8, 7)) (As := [vI (59 : Int32)]) (st := []) (pc := 67) dX1_read_67 mk_X8_needSign l_X1_62 im_X8_needSign se_X8_needSign ini_X8 rfl g1 (Nat.le_of_ble_eq_true rfl) rfl rfl (by decide) e9 rfl g2 (fun v9 h9 q9 => ?_) (fun E h9 q9 => PX_out rfl (kx E h9 q9))
          obtain ⟨x12, rfl, k⟩ := kk v9 h9 q9
          clear kk kx g1 g2 q9
          refine P_if_ne (tgt := 75) (pc := 70) dX1_read_70 (by decide) (fun c => ?_) (fun c => ?_)
          · have k := k.2 c
            refine P_iinc (v := l2 + (1 : Int32)) (pc := 75) dX1_read_75 (by decide) rfl rfl (Or.inr (by intro z e9; cases e9)) rfl ?_
            refine P_goto (tgt := 31) (pc := 78) dX1_read_78 (by decide) ?_
            exact k
          · have k := k.1 c
            refine P_iconst (v := (0 : Int32)) (pc := 73) dX1_read_73 (by decide) ?_
            exact R_ireturn (pc := 74) dX1_read_74 rfl rfl k
      · have k := k.2 c
        refine P_iconst (v := (1 : Int32)) (pc := 53) dX1_read_53 (by decide) ?_
        refine P_goto (tgt := 58) (pc := 54) dX1_read_54 (by decide) ?_
        obtain ⟨⟨w9, e9⟩, d2, nc, ns, rc14, rs15, Qc, g1, rfl, rfl, g2, kk, kx⟩ := k
        refine P_callV (ci := 1) (k := 0) (id := l0) (q := (RX1, TX1, 11)) (As := [vR (800, l1), vI (1 : Int32)]) (st := []) (pc := 58) dX1_read_58 mk_X1_readClause l_X1_58 im_X1_readClause se_X1_readClause ini_X1 rfl g1 (Nat.le_of_ble_eq_true rfl) rfl rfl (by decide) e9 rfl g2 (fun v9 h9 q9 => ?_) (fun E h9 q9 => PX_out rfl (kx E h9 q9))
        obtain ⟨x16, rfl, k⟩ := kk v9 h9 q9
        clear kk kx g1 g2 q9
        refine P_if_eq (tgt := 73) (pc := 61) dX1_read_61 (by decide) (fun c => ?_) (fun c => ?_)
        · have k := k.1 c
          refine P_iconst (v := (0 : Int32)) (pc := 73) dX1_read_73 (by decide) ?_
          exact R_ireturn (pc := 74) dX1_read_74 rfl rfl k
        · have k := k.2 c
          refine P_aload_n (pc := 64) dX1_read_64 rfl ?_
          refine P_bipush (v := (59 : Int32)) (pc := 65) dX1_read_65 (by decide) ?_
          obtain ⟨⟨w9, e9⟩, d2, nc, ns, rc18, rs19, Qc, g1, rfl, rfl, g2, kk, kx⟩ := k
          refine P_callV (ci := 8) (k := 0) (id := l1) (q := (RX8, TX8, 7)) (As := [vI (59 : Int32)]) (st := []) (pc := 67) dX1_read_67 mk_X8_needSign l_X1_62 im_X8_needSign se_X8_needSign ini_X8 rfl g1 (Nat.le_of_ble_eq_true rfl) rfl rfl (by decide) e9 rfl g2 (fun v9 h9 q9 => ?_) (fun E h9 q9 => PX_out rfl (kx E h9 q9))
          obtain ⟨x20, rfl, k⟩ := kk v9 h9 q9
          clear kk kx g1 g2 q9
          refine P_if_ne (tgt := 75) (pc := 70) dX1_read_70 (by decide) (fun c => ?_) (fun c => ?_)
          · have k := k.2 c
            refine P_iinc (v := l2 + (1 : Int32)) (pc := 75) dX1_read_75 (by decide) rfl rfl (Or.inr (by intro z e9; cases e9)) rfl ?_
            refine P_goto (tgt := 31) (pc := 78) dX1_read_78 (by decide) ?_
            exact k
          · have k := k.1 c
            refine P_iconst (v := (0 : Int32)) (pc := 73) dX1_read_73 (by decide) ?_
            exact R_ireturn (pc := 74) dX1_read_74 rfl rfl k
-- X1_readClause readClause(LFernHeirs$Text;Z)Z
theorem dX1_readClause_0 : decode cX1_readClause 0 = .ok (.aload_n 1, 1) := by decide +kernel
theorem dX1_readClause_1 : decode cX1_readClause 1 = .ok (.ldc 66, 2) := by decide +kernel
theorem dX1_readClause_3 : decode cX1_readClause 3 = .ok (.invokevirtual 68, 3) := by decide +kernel
theorem dX1_readClause_6 : decode cX1_readClause 6 = .ok (.ifCond .eq 30, 3) := by decide +kernel
theorem dX1_readClause_9 : decode cX1_readClause 9 = .ok (.iload_n 2, 1) := by decide +kernel
theorem dX1_readClause_10 : decode cX1_readClause 10 = .ok (.ifCond .ne 12, 3) := by decide +kernel
theorem dX1_readClause_13 : decode cX1_readClause 13 = .ok (.aload_n 0, 1) := by decide +kernel
theorem dX1_readClause_14 : decode cX1_readClause 14 = .ok (.getfield 37, 3) := by decide +kernel
theorem dX1_readClause_17 : decode cX1_readClause 17 = .ok (.bipush 7, 2) := by decide +kernel
theorem dX1_readClause_19 : decode cX1_readClause 19 = .ok (.if_icmp .lt 11, 3) := by decide +kernel
theorem dX1_readClause_22 : decode cX1_readClause 22 = .ok (.aload_n 1, 1) := by decide +kernel
theorem dX1_readClause_23 : decode cX1_readClause 23 = .ok (.iconst 3, 1) := by decide +kernel
theorem dX1_readClause_24 : decode cX1_readClause 24 = .ok (.invokevirtual 72, 3) := by decide +kernel
theorem dX1_readClause_27 : decode cX1_readClause 27 = .ok (.goto 8, 3) := by decide +kernel
theorem dX1_readClause_30 : decode cX1_readClause 30 = .ok (.aload_n 0, 1) := by decide +kernel
theorem dX1_readClause_31 : decode cX1_readClause 31 = .ok (.aload_n 1, 1) := by decide +kernel
theorem dX1_readClause_32 : decode cX1_readClause 32 = .ok (.invokevirtual 76, 3) := by decide +kernel
theorem dX1_readClause_35 : decode cX1_readClause 35 = .ok (.ireturn, 1) := by decide +kernel
theorem dX1_readClause_36 : decode cX1_readClause 36 = .ok (.aload_n 1, 1) := by decide +kernel
theorem dX1_readClause_37 : decode cX1_readClause 37 = .ok (.ldc 80, 2) := by decide +kernel
theorem dX1_readClause_39 : decode cX1_readClause 39 = .ok (.invokevirtual 68, 3) := by decide +kernel
theorem dX1_readClause_42 : decode cX1_readClause 42 = .ok (.ifCond .eq 30, 3) := by decide +kernel
theorem dX1_readClause_45 : decode cX1_readClause 45 = .ok (.iload_n 2, 1) := by decide +kernel
theorem dX1_readClause_46 : decode cX1_readClause 46 = .ok (.ifCond .ne 12, 3) := by decide +kernel
theorem dX1_readClause_49 : decode cX1_readClause 49 = .ok (.aload_n 0, 1) := by decide +kernel
theorem dX1_readClause_50 : decode cX1_readClause 50 = .ok (.getfield 40, 3) := by decide +kernel
theorem dX1_readClause_53 : decode cX1_readClause 53 = .ok (.bipush 12, 2) := by decide +kernel
theorem dX1_readClause_55 : decode cX1_readClause 55 = .ok (.if_icmp .lt 11, 3) := by decide +kernel
theorem dX1_readClause_58 : decode cX1_readClause 58 = .ok (.aload_n 1, 1) := by decide +kernel
theorem dX1_readClause_59 : decode cX1_readClause 59 = .ok (.iconst 3, 1) := by decide +kernel
theorem dX1_readClause_60 : decode cX1_readClause 60 = .ok (.invokevirtual 72, 3) := by decide +kernel
theorem dX1_readClause_63 : decode cX1_readClause 63 = .ok (.goto 8, 3) := by decide +kernel
theorem dX1_readClause_66 : decode cX1_readClause 66 = .ok (.aload_n 0, 1) := by decide +kernel
theorem dX1_readClause_67 : decode cX1_readClause 67 = .ok (.aload_n 1, 1) := by decide +kernel
theorem dX1_readClause_68 : decode cX1_readClause 68 = .ok (.invokevirtual 82, 3) := by decide +kernel
theorem dX1_readClause_71 : decode cX1_readClause 71 = .ok (.ireturn, 1) := by decide +kernel
theorem dX1_readClause_72 : decode cX1_readClause 72 = .ok (.aload_n 1, 1) := by decide +kernel
theorem dX1_readClause_73 : decode cX1_readClause 73 = .ok (.ldc 85, 2) := by decide +kernel
theorem dX1_readClause_75 : decode cX1_readClause 75 = .ok (.invokevirtual 68, 3) := by decide +kernel
theorem dX1_readClause_78 : decode cX1_readClause 78 = .ok (.ifCond .eq 30, 3) := by decide +kernel
theorem dX1_readClause_81 : decode cX1_readClause 81 = .ok (.iload_n 2, 1) := by decide +kernel
theorem dX1_readClause_82 : decode cX1_readClause 82 = .ok (.ifCond .ne 12, 3) := by decide +kernel
theorem dX1_readClause_85 : decode cX1_readClause 85 = .ok (.aload_n 0, 1) := by decide +kernel
theorem dX1_readClause_86 : decode cX1_readClause 86 = .ok (.getfield 43, 3) := by decide +kernel
theorem dX1_readClause_89 : decode cX1_readClause 89 = .ok (.bipush 6, 2) := by decide +kernel
theorem dX1_readClause_91 : decode cX1_readClause 91 = .ok (.if_icmp .lt 11, 3) := by decide +kernel
theorem dX1_readClause_94 : decode cX1_readClause 94 = .ok (.aload_n 1, 1) := by decide +kernel
theorem dX1_readClause_95 : decode cX1_readClause 95 = .ok (.iconst 3, 1) := by decide +kernel
theorem dX1_readClause_96 : decode cX1_readClause 96 = .ok (.invokevirtual 72, 3) := by decide +kernel
theorem dX1_readClause_99 : decode cX1_readClause 99 = .ok (.goto 8, 3) := by decide +kernel
theorem dX1_readClause_102 : decode cX1_readClause 102 = .ok (.aload_n 0, 1) := by decide +kernel
theorem dX1_readClause_103 : decode cX1_readClause 103 = .ok (.aload_n 1, 1) := by decide +kernel
theorem dX1_readClause_104 : decode cX1_readClause 104 = .ok (.invokevirtual 87, 3) := by decide +kernel
theorem dX1_readClause_107 : decode cX1_readClause 107 = .ok (.ireturn, 1) := by decide +kernel
theorem dX1_readClause_108 : decode cX1_readClause 108 = .ok (.aload_n 1, 1) := by decide +kernel
theorem dX1_readClause_109 : decode cX1_readClause 109 = .ok (.ldc 90, 2) := by decide +kernel
theorem dX1_readClause_111 : decode cX1_readClause 111 = .ok (.invokevirtual 68, 3) := by decide +kernel
theorem dX1_readClause_114 : decode cX1_readClause 114 = .ok (.ifCond .eq 21, 3) := by decide +kernel
theorem dX1_readClause_117 : decode cX1_readClause 117 = .ok (.iload_n 2, 1) := by decide +kernel
theorem dX1_readClause_118 : decode cX1_readClause 118 = .ok (.ifCond .eq 11, 3) := by decide +kernel
theorem dX1_readClause_121 : decode cX1_readClause 121 = .ok (.aload_n 1, 1) := by decide +kernel
theorem dX1_readClause_122 : decode cX1_readClause 122 = .ok (.iconst 3, 1) := by decide +kernel
theorem dX1_readClause_123 : decode cX1_readClause 123 = .ok (.invokevirtual 72, 3) := by decide +kernel
theorem dX1_readClause_126 : decode cX1_readClause 126 = .ok (.goto 8, 3) := by decide +kernel
theorem dX1_readClause_129 : decode cX1_readClause 129 = .ok (.aload_n 0, 1) := by decide +kernel
theorem dX1_readClause_130 : decode cX1_readClause 130 = .ok (.aload_n 1, 1) := by decide +kernel
theorem dX1_readClause_131 : decode cX1_readClause 131 = .ok (.invokevirtual 91, 3) := by decide +kernel
theorem dX1_readClause_134 : decode cX1_readClause 134 = .ok (.ireturn, 1) := by decide +kernel
theorem dX1_readClause_135 : decode cX1_readClause 135 = .ok (.aload_n 1, 1) := by decide +kernel
theorem dX1_readClause_136 : decode cX1_readClause 136 = .ok (.iconst 1, 1) := by decide +kernel
theorem dX1_readClause_137 : decode cX1_readClause 137 = .ok (.invokevirtual 72, 3) := by decide +kernel
theorem dX1_readClause_140 : decode cX1_readClause 140 = .ok (.ireturn, 1) := by decide +kernel
theorem r_X1_readClause_0 {d rc rs : Nat} {Q : PO → PH → Prop} {h : PH} {l0 : Nat} {l1 : Nat} {l2 : Int32}
    (k : isO h 10800 l1 ∧ cl d rc rs M_X8_takeWord [vR (800, l1), vR (1200, 0)] h (kI fun x4 h1 rc2 rs3 => br (x4 = 0) (isO h1 10800 l1 ∧ cl d rc2 rs3 M_X8_takeWord [vR (800, l1), vR (1200, 1)] h1 (kI fun x8 h5 rc6 rs7 => br (x8 = 0) (isO h5 10800 l1 ∧ cl d rc6 rs7 M_X8_takeWord [vR (800, l1), vR (1200, 2)] h5 (kI fun x12 h9 rc10 rs11 => br (x12 = 0) (isO h9 10800 l1 ∧ cl d rc10 rs11 M_X8_takeWord [vR (800, l1), vR (1200, 3)] h9 (kI fun x16 h13 rc14 rs15 => br (x16 = 0) (isO h13 10800 l1 ∧ cl d rc14 rs15 M_X8_refuse [vR (800, l1), vI (1 : Int32)] h13 (kI fun x20 h17 rc18 rs19 => nrw .boolean x20 (Q (.inl (some (vI x20))) h17)) (fun E h17 rc18 rs19 => Q (.inr E) h17)) (br (l2 = 0) (isO h13 10100 l0 ∧ cl d rc14 rs15 M_X1_readSun [vR (100, l0), vR (800, l1)] h13 (kI fun x24 h21 rc22 rs23 => nrw .boolean x24 (Q (.inl (some (vI x24))) h21)) (fun E h21 rc22 rs23 => Q (.inr E) h21)) (isO h13 10800 l1 ∧ cl d rc14 rs15 M_X8_refuse [vR (800, l1), vI (3 : Int32)] h13 (kI fun x28 h25 rc26 rs27 => nrw .boolean x28 (Q (.inl (some (vI x28))) h25)) (fun E h25 rc26 rs27 => Q (.inr E) h25)))) (fun E h13 rc14 rs15 => Q (.inr E) h13)) (br (l2 = 0) (gI h9 (10109, l0) fun x33 => br (x33 < (6 : Int32)) (isO h9 10100 l0 ∧ cl d rc10 rs11 M_X1_readKeeper [vR (100, l0), vR (800, l1)] h9 (kI fun x37 h34 rc35 rs36 => nrw .boolean x37 (Q (.inl (some (vI x37))) h34)) (fun E h34 rc35 rs36 => Q (.inr E) h34)) (isO h9 10800 l1 ∧ cl d rc10 rs11 M_X8_refuse [vR (800, l1), vI (3 : Int32)] h9 (kI fun x41 h38 rc39 rs40 => nrw .boolean x41 (Q (.inl (some (vI x41))) h38)) (fun E h38 rc39 rs40 => Q (.inr E) h38))) (isO h9 10800 l1 ∧ cl d rc10 rs11 M_X8_refuse [vR (800, l1), vI (3 : Int32)] h9 (kI fun x32 h29 rc30 rs31 => nrw .boolean x32 (Q (.inl (some (vI x32))) h29)) (fun E h29 rc30 rs31 => Q (.inr E) h29)))) (fun E h9 rc10 rs11 => Q (.inr E) h9)) (br (l2 = 0) (gI h5 (10108, l0) fun x46 => br (x46 < (12 : Int32)) (isO h5 10100 l0 ∧ cl d rc6 rs7 M_X1_readTwo [vR (100, l0), vR (800, l1)] h5 (kI fun x50 h47 rc48 rs49 => nrw .boolean x50 (Q (.inl (some (vI x50))) h47)) (fun E h47 rc48 rs49 => Q (.inr E) h47)) (isO h5 10800 l1 ∧ cl d rc6 rs7 M_X8_refuse [vR (800, l1), vI (3 : Int32)] h5 (kI fun x54 h51 rc52 rs53 => nrw .boolean x54 (Q (.inl (some (vI x54))) h51)) (fun E h51 rc52 rs53 => Q (.inr E) h51))) (isO h5 10800 l1 ∧ cl d rc6 rs7 M_X8_refuse [vR (800, l1), vI (3 : Int32)] h5 (kI fun x45 h42 rc43 rs44 => nrw .boolean x45 (Q (.inl (some (vI x45))) h42)) (fun E h42 rc43 rs44 => Q (.inr E) h42)))) (fun E h5 rc6 rs7 => Q (.inr E) h5)) (br (l2 = 0) (gI h1 (10107, l0) fun x59 => br (x59 < (7 : Int32)) (isO h1 10100 l0 ∧ cl d rc2 rs3 M_X1_readHeir [vR (100, l0), vR (800, l1)] h1 (kI fun x63 h60 rc61 rs62 => nrw .boolean x63 (Q (.inl (some (vI x63))) h60)) (fun E h60 rc61 rs62 => Q (.inr E) h60)) (isO h1 10800 l1 ∧ cl d rc2 rs3 M_X8_refuse [vR (800, l1), vI (3 : Int32)] h1 (kI fun x67 h64 rc65 rs66 => nrw .boolean x67 (Q (.inl (some (vI x67))) h64)) (fun E h64 rc65 rs66 => Q (.inr E) h64))) (isO h1 10800 l1 ∧ cl d rc2 rs3 M_X8_refuse [vR (800, l1), vI (3 : Int32)] h1 (kI fun x58 h55 rc56 rs57 => nrw .boolean x58 (Q (.inl (some (vI x58))) h55)) (fun E h55 rc56 rs57 => Q (.inr E) h55)))) (fun E h1 rc2 rs3 => Q (.inr E) h1)) :
    PW d M_X1_readClause Q rc rs 0 [vR (100, l0), vR (800, l1), vI l2] [] h := by
  refine P_aload_n (pc := 0) dX1_readClause_0 rfl ?_
  refine P_ldcS (i := 0) (tx := "heir") (pc := 1) dX1_readClause_1 (by decide +kernel) ?_
  obtain ⟨⟨w9, e9⟩, d2, nc, ns, rc2, rs3, Qc, g1, rfl, rfl, g2, kk, kx⟩ := k
  refine P_callV (ci := 8) (k := 0) (id := l1) (q := (RX8, TX8, 7)) (As := [vR (1200, 0)]) (st := []) (pc := 3) dX1_readClause_3 mk_X8_takeWord l_X1_68 im_X8_takeWord se_X8_takeWord ini_X8 rfl g1 (Nat.le_of_ble_eq_true rfl) rfl rfl (by decide) e9 rfl g2 (fun v9 h9 q9 => ?_) (fun E h9 q9 => PX_out rfl (kx E h9 q9))
  obtain ⟨x4, rfl, k⟩ := kk v9 h9 q9
  clear kk kx g1 g2 q9
  refine P_if_eq (tgt := 36) (pc := 6) dX1_readClause_6 (by decide) (fun c => ?_) (fun c => ?_)
  · have k := k.1 c
    refine P_aload_n (pc := 36) dX1_readClause_36 rfl ?_
    refine P_ldcS (i := 1) (tx := "hears") (pc := 37) dX1_readClause_37 (by decide +kernel) ?_
    obtain ⟨⟨w9, e9⟩, d2, nc, ns, rc6, rs7, Qc, g1, rfl, rfl, g2, kk, kx⟩ := k
    refine P_callV (ci := 8) (k := 0) (id := l1) (q := (RX8, TX8, 7)) (As := [vR (1200, 1)]) (st := []) (pc := 39) dX1_readClause_39 mk_X8_takeWord l_X1_68 im_X8_takeWord se_X8_takeWord ini_X8 rfl g1 (Nat.le_of_ble_eq_true rfl) rfl rfl (by decide) e9 rfl g2 (fun v9 h9 q9 => ?_) (fun E h9 q9 => PX_out rfl (kx E h9 q9))
    obtain ⟨x8, rfl, k⟩ := kk v9 h9 q9
    clear kk kx g1 g2 q9
    refine P_if_eq (tgt := 72) (pc := 42) dX1_readClause_42 (by decide) (fun c => ?_) (fun c => ?_)
    · have k := k.1 c
      refine P_aload_n (pc := 72) dX1_readClause_72 rfl ?_
      refine P_ldcS (i := 2) (tx := "keeper") (pc := 73) dX1_readClause_73 (by decide +kernel) ?_
      obtain ⟨⟨w9, e9⟩, d2, nc, ns, rc10, rs11, Qc, g1, rfl, rfl, g2, kk, kx⟩ := k
      refine P_callV (ci := 8) (k := 0) (id := l1) (q := (RX8, TX8, 7)) (As := [vR (1200, 2)]) (st := []) (pc := 75) dX1_readClause_75 mk_X8_takeWord l_X1_68 im_X8_takeWord se_X8_takeWord ini_X8 rfl g1 (Nat.le_of_ble_eq_true rfl) rfl rfl (by decide) e9 rfl g2 (fun v9 h9 q9 => ?_) (fun E h9 q9 => PX_out rfl (kx E h9 q9))
      obtain ⟨x12, rfl, k⟩ := kk v9 h9 q9
      clear kk kx g1 g2 q9
      refine P_if_eq (tgt := 108) (pc := 78) dX1_readClause_78 (by decide) (fun c => ?_) (fun c => ?_)
      · have k := k.1 c
        refine P_aload_n (pc := 108) dX1_readClause_108 rfl ?_
        refine P_ldcS (i := 3) (tx := "sun") (pc := 109) dX1_readClause_109 (by decide +kernel) ?_
        obtain ⟨⟨w9, e9⟩, d2, nc, ns, rc14, rs15, Qc, g1, rfl, rfl, g2, kk, kx⟩ := k
        refine P_callV (ci := 8) (k := 0) (id := l1) (q := (RX8, TX8, 7)) (As := [vR (1200, 3)]) (st := []) (pc := 111) dX1_readClause_111 mk_X8_takeWord l_X1_68 im_X8_takeWord se_X8_takeWord ini_X8 rfl g1 (Nat.le_of_ble_eq_true rfl) rfl rfl (by decide) e9 rfl g2 (fun v9 h9 q9 => ?_) (fun E h9 q9 => PX_out rfl (kx E h9 q9))
        obtain ⟨x16, rfl, k⟩ := kk v9 h9 q9
        clear kk kx g1 g2 q9
        refine P_if_eq (tgt := 135) (pc := 114) dX1_readClause_114 (by decide) (fun c => ?_) (fun c => ?_)
        · have k := k.1 c
          refine P_aload_n (pc := 135) dX1_readClause_135 rfl ?_
          refine P_iconst (v := (1 : Int32)) (pc := 136) dX1_readClause_136 (by decide) ?_
          obtain ⟨⟨w9, e9⟩, d2, nc, ns, rc18, rs19, Qc, g1, rfl, rfl, g2, kk, kx⟩ := k
          refine P_callV (ci := 8) (k := 0) (id := l1) (q := (RX8, TX8, 7)) (As := [vI (1 : Int32)]) (st := []) (pc := 137) dX1_readClause_137 mk_X8_refuse l_X1_72 im_X8_refuse se_X8_refuse ini_X8 rfl g1 (Nat.le_of_ble_eq_true rfl) rfl rfl (by decide) e9 rfl g2 (fun v9 h9 q9 => ?_) (fun E h9 q9 => PX_out rfl (kx E h9 q9))
          obtain ⟨x20, rfl, k⟩ := kk v9 h9 q9
          clear kk kx g1 g2 q9
          exact R_ireturn (pc := 140) dX1_readClause_140 rfl k.1 k.2
        · have k := k.2 c
          refine P_iload_n (pc := 117) dX1_readClause_117 rfl ?_
          refine P_if_eq (tgt := 129) (pc := 118) dX1_readClause_118 (by decide) (fun c => ?_) (fun c => ?_)
          · have k := k.1 c
            refine P_aload_n (pc := 129) dX1_readClause_129 rfl ?_
            refine P_aload_n (pc := 130) dX1_readClause_130 rfl ?_
            obtain ⟨⟨w9, e9⟩, d2, nc, ns, rc22, rs23, Qc, g1, rfl, rfl, g2, kk, kx⟩ := k
            refine P_callV (ci := 1) (k := 0) (id := l0) (q := (RX1, TX1, 11)) (As := [vR (800, l1)]) (st := []) (pc := 131) dX1_readClause_131 mk_X1_readSun l_X1_91 im_X1_readSun se_X1_readSun ini_X1 rfl g1 (Nat.le_of_ble_eq_true rfl) rfl rfl (by decide) e9 rfl g2 (fun v9 h9 q9 => ?_) (fun E h9 q9 => PX_out rfl (kx E h9 q9))
            obtain ⟨x24, rfl, k⟩ := kk v9 h9 q9
            clear kk kx g1 g2 q9
            exact R_ireturn (pc := 134) dX1_readClause_134 rfl k.1 k.2
          · have k := k.2 c
            refine P_aload_n (pc := 121) dX1_readClause_121 rfl ?_
            refine P_iconst (v := (3 : Int32)) (pc := 122) dX1_readClause_122 (by decide) ?_
            obtain ⟨⟨w9, e9⟩, d2, nc, ns, rc26, rs27, Qc, g1, rfl, rfl, g2, kk, kx⟩ := k
            refine P_callV (ci := 8) (k := 0) (id := l1) (q := (RX8, TX8, 7)) (As := [vI (3 : Int32)]) (st := []) (pc := 123) dX1_readClause_123 mk_X8_refuse l_X1_72 im_X8_refuse se_X8_refuse ini_X8 rfl g1 (Nat.le_of_ble_eq_true rfl) rfl rfl (by decide) e9 rfl g2 (fun v9 h9 q9 => ?_) (fun E h9 q9 => PX_out rfl (kx E h9 q9))
            obtain ⟨x28, rfl, k⟩ := kk v9 h9 q9
            clear kk kx g1 g2 q9
            refine P_goto (tgt := 134) (pc := 126) dX1_readClause_126 (by decide) ?_
            exact R_ireturn (pc := 134) dX1_readClause_134 rfl k.1 k.2
      · have k := k.2 c
        refine P_iload_n (pc := 81) dX1_readClause_81 rfl ?_
        refine P_if_ne (tgt := 94) (pc := 82) dX1_readClause_82 (by decide) (fun c => ?_) (fun c => ?_)
        · have k := k.2 c
          refine P_aload_n (pc := 94) dX1_readClause_94 rfl ?_
          refine P_iconst (v := (3 : Int32)) (pc := 95) dX1_readClause_95 (by decide) ?_
          obtain ⟨⟨w9, e9⟩, d2, nc, ns, rc30, rs31, Qc, g1, rfl, rfl, g2, kk, kx⟩ := k
          refine P_callV (ci := 8) (k := 0) (id := l1) (q := (RX8, TX8, 7)) (As := [vI (3 : Int32)]) (st := []) (pc := 96) dX1_readClause_96 mk_X8_refuse l_X1_72 im_X8_refuse se_X8_refuse ini_X8 rfl g1 (Nat.le_of_ble_eq_true rfl) rfl rfl (by decide) e9 rfl g2 (fun v9 h9 q9 => ?_) (fun E h9 q9 => PX_out rfl (kx E h9 q9))
          obtain ⟨x32, rfl, k⟩ := kk v9 h9 q9
          clear kk kx g1 g2 q9
          refine P_goto (tgt := 107) (pc := 99) dX1_readClause_99 (by decide) ?_
          exact R_ireturn (pc := 107) dX1_readClause_107 rfl k.1 k.2
        · have k := k.1 c
          refine P_aload_n (pc := 85) dX1_readClause_85 rfl ?_
          obtain ⟨x33, e9, k⟩ := k
          refine G1_9 (pc := 86) dX1_readClause_86 l_X1_43 e9 ?_
          clear e9
          refine P_bipush (v := (6 : Int32)) (pc := 89) dX1_readClause_89 (by decide) ?_
          refine P_icmp_lt (tgt := 102) (pc := 91) dX1_readClause_91 (by decide) (fun c => ?_) (fun c => ?_)
          · have k := k.1 c
            refine P_aload_n (pc := 102) dX1_readClause_102 rfl ?_
            refine P_aload_n (pc := 103) dX1_readClause_103 rfl ?_
            obtain ⟨⟨w9, e9⟩, d2, nc, ns, rc35, rs36, Qc, g1, rfl, rfl, g2, kk, kx⟩ := k
            refine P_callV (ci := 1) (k := 0) (id := l0) (q := (RX1, TX1, 11)) (As := [vR (800, l1)]) (st := []) (pc := 104) dX1_readClause_104 mk_X1_readKeeper l_X1_87 im_X1_readKeeper se_X1_readKeeper ini_X1 rfl g1 (Nat.le_of_ble_eq_true rfl) rfl rfl (by decide) e9 rfl g2 (fun v9 h9 q9 => ?_) (fun E h9 q9 => PX_out rfl (kx E h9 q9))
            obtain ⟨x37, rfl, k⟩ := kk v9 h9 q9
            clear kk kx g1 g2 q9
            exact R_ireturn (pc := 107) dX1_readClause_107 rfl k.1 k.2
          · have k := k.2 c
            refine P_aload_n (pc := 94) dX1_readClause_94 rfl ?_
            refine P_iconst (v := (3 : Int32)) (pc := 95) dX1_readClause_95 (by decide) ?_
            obtain ⟨⟨w9, e9⟩, d2, nc, ns, rc39, rs40, Qc, g1, rfl, rfl, g2, kk, kx⟩ := k
            refine P_callV (ci := 8) (k := 0) (id := l1) (q := (RX8, TX8, 7)) (As := [vI (3 : Int32)]) (st := []) (pc := 96) dX1_readClause_96 mk_X8_refuse l_X1_72 im_X8_refuse se_X8_refuse ini_X8 rfl g1 (Nat.le_of_ble_eq_true rfl) rfl rfl (by decide) e9 rfl g2 (fun v9 h9 q9 => ?_) (fun E h9 q9 => PX_out rfl (kx E h9 q9))
            obtain ⟨x41, rfl, k⟩ := kk v9 h9 q9
            clear kk kx g1 g2 q9
            refine P_goto (tgt := 107) (pc := 99) dX1_readClause_99 (by decide) ?_
            exact R_ireturn (pc := 107) dX1_readClause_107 rfl k.1 k.2
    · have k := k.2 c
      refine P_iload_n (pc := 45) dX1_readClause_45 rfl ?_
      refine P_if_ne (tgt := 58) (pc := 46) dX1_readClause_46 (by decide) (fun c => ?_) (fun c => ?_)
      · have k := k.2 c
        refine P_aload_n (pc := 58) dX1_readClause_58 rfl ?_
        refine P_iconst (v := (3 : Int32)) (pc := 59) dX1_readClause_59 (by decide) ?_
        obtain ⟨⟨w9, e9⟩, d2, nc, ns, rc43, rs44, Qc, g1, rfl, rfl, g2, kk, kx⟩ := k
        refine P_callV (ci := 8) (k := 0) (id := l1) (q := (RX8, TX8, 7)) (As := [vI (3 : Int32)]) (st := []) (pc := 60) dX1_readClause_60 mk_X8_refuse l_X1_72 im_X8_refuse se_X8_refuse ini_X8 rfl g1 (Nat.le_of_ble_eq_true rfl) rfl rfl (by decide) e9 rfl g2 (fun v9 h9 q9 => ?_) (fun E h9 q9 => PX_out rfl (kx E h9 q9))
        obtain ⟨x45, rfl, k⟩ := kk v9 h9 q9
        clear kk kx g1 g2 q9
        refine P_goto (tgt := 71) (pc := 63) dX1_readClause_63 (by decide) ?_
        exact R_ireturn (pc := 71) dX1_readClause_71 rfl k.1 k.2
      · have k := k.1 c
        refine P_aload_n (pc := 49) dX1_readClause_49 rfl ?_
        obtain ⟨x46, e9, k⟩ := k
        refine G1_8 (pc := 50) dX1_readClause_50 l_X1_40 e9 ?_
        clear e9
        refine P_bipush (v := (12 : Int32)) (pc := 53) dX1_readClause_53 (by decide) ?_
        refine P_icmp_lt (tgt := 66) (pc := 55) dX1_readClause_55 (by decide) (fun c => ?_) (fun c => ?_)
        · have k := k.1 c
          refine P_aload_n (pc := 66) dX1_readClause_66 rfl ?_
          refine P_aload_n (pc := 67) dX1_readClause_67 rfl ?_
          obtain ⟨⟨w9, e9⟩, d2, nc, ns, rc48, rs49, Qc, g1, rfl, rfl, g2, kk, kx⟩ := k
          refine P_callV (ci := 1) (k := 0) (id := l0) (q := (RX1, TX1, 11)) (As := [vR (800, l1)]) (st := []) (pc := 68) dX1_readClause_68 mk_X1_readTwo l_X1_82 im_X1_readTwo se_X1_readTwo ini_X1 rfl g1 (Nat.le_of_ble_eq_true rfl) rfl rfl (by decide) e9 rfl g2 (fun v9 h9 q9 => ?_) (fun E h9 q9 => PX_out rfl (kx E h9 q9))
          obtain ⟨x50, rfl, k⟩ := kk v9 h9 q9
          clear kk kx g1 g2 q9
          exact R_ireturn (pc := 71) dX1_readClause_71 rfl k.1 k.2
        · have k := k.2 c
          refine P_aload_n (pc := 58) dX1_readClause_58 rfl ?_
          refine P_iconst (v := (3 : Int32)) (pc := 59) dX1_readClause_59 (by decide) ?_
          obtain ⟨⟨w9, e9⟩, d2, nc, ns, rc52, rs53, Qc, g1, rfl, rfl, g2, kk, kx⟩ := k
          refine P_callV (ci := 8) (k := 0) (id := l1) (q := (RX8, TX8, 7)) (As := [vI (3 : Int32)]) (st := []) (pc := 60) dX1_readClause_60 mk_X8_refuse l_X1_72 im_X8_refuse se_X8_refuse ini_X8 rfl g1 (Nat.le_of_ble_eq_true rfl) rfl rfl (by decide) e9 rfl g2 (fun v9 h9 q9 => ?_) (fun E h9 q9 => PX_out rfl (kx E h9 q9))
          obtain ⟨x54, rfl, k⟩ := kk v9 h9 q9
          clear kk kx g1 g2 q9
          refine P_goto (tgt := 71) (pc := 63) dX1_readClause_63 (by decide) ?_
          exact R_ireturn (pc := 71) dX1_readClause_71 rfl k.1 k.2
  · have k := k.2 c
    refine P_iload_n (pc := 9) dX1_readClause_9 rfl ?_
    refine P_if_ne (tgt := 22) (pc := 10) dX1_readClause_10 (by decide) (fun c => ?_) (fun c => ?_)
    · have k := k.2 c
      refine P_aload_n (pc := 22) dX1_readClause_22 rfl ?_
      refine P_iconst (v := (3 : Int32)) (pc := 23) dX1_readClause_23 (by decide) ?_
      obtain ⟨⟨w9, e9⟩, d2, nc, ns, rc56, rs57, Qc, g1, rfl, rfl, g2, kk, kx⟩ := k
      refine P_callV (ci := 8) (k := 0) (id := l1) (q := (RX8, TX8, 7)) (As := [vI (3 : Int32)]) (st := []) (pc := 24) dX1_readClause_24 mk_X8_refuse l_X1_72 im_X8_refuse se_X8_refuse ini_X8 rfl g1 (Nat.le_of_ble_eq_true rfl) rfl rfl (by decide) e9 rfl g2 (fun v9 h9 q9 => ?_) (fun E h9 q9 => PX_out rfl (kx E h9 q9))
      obtain ⟨x58, rfl, k⟩ := kk v9 h9 q9
      clear kk kx g1 g2 q9
      refine P_goto (tgt := 35) (pc := 27) dX1_readClause_27 (by decide) ?_
      exact R_ireturn (pc := 35) dX1_readClause_35 rfl k.1 k.2
    · have k := k.1 c
      refine P_aload_n (pc := 13) dX1_readClause_13 rfl ?_
      obtain ⟨x59, e9, k⟩ := k
      refine G1_7 (pc := 14) dX1_readClause_14 l_X1_37 e9 ?_
      clear e9
      refine P_bipush (v := (7 : Int32)) (pc := 17) dX1_readClause_17 (by decide) ?_
      refine P_icmp_lt (tgt := 30) (pc := 19) dX1_readClause_19 (by decide) (fun c => ?_) (fun c => ?_)
      · have k := k.1 c
        refine P_aload_n (pc := 30) dX1_readClause_30 rfl ?_
        refine P_aload_n (pc := 31) dX1_readClause_31 rfl ?_
        obtain ⟨⟨w9, e9⟩, d2, nc, ns, rc61, rs62, Qc, g1, rfl, rfl, g2, kk, kx⟩ := k
        refine P_callV (ci := 1) (k := 0) (id := l0) (q := (RX1, TX1, 11)) (As := [vR (800, l1)]) (st := []) (pc := 32) dX1_readClause_32 mk_X1_readHeir l_X1_76 im_X1_readHeir se_X1_readHeir ini_X1 rfl g1 (Nat.le_of_ble_eq_true rfl) rfl rfl (by decide) e9 rfl g2 (fun v9 h9 q9 => ?_) (fun E h9 q9 => PX_out rfl (kx E h9 q9))
        obtain ⟨x63, rfl, k⟩ := kk v9 h9 q9
        clear kk kx g1 g2 q9
        exact R_ireturn (pc := 35) dX1_readClause_35 rfl k.1 k.2
      · have k := k.2 c
        refine P_aload_n (pc := 22) dX1_readClause_22 rfl ?_
        refine P_iconst (v := (3 : Int32)) (pc := 23) dX1_readClause_23 (by decide) ?_
        obtain ⟨⟨w9, e9⟩, d2, nc, ns, rc65, rs66, Qc, g1, rfl, rfl, g2, kk, kx⟩ := k
        refine P_callV (ci := 8) (k := 0) (id := l1) (q := (RX8, TX8, 7)) (As := [vI (3 : Int32)]) (st := []) (pc := 24) dX1_readClause_24 mk_X8_refuse l_X1_72 im_X8_refuse se_X8_refuse ini_X8 rfl g1 (Nat.le_of_ble_eq_true rfl) rfl rfl (by decide) e9 rfl g2 (fun v9 h9 q9 => ?_) (fun E h9 q9 => PX_out rfl (kx E h9 q9))
        obtain ⟨x67, rfl, k⟩ := kk v9 h9 q9
        clear kk kx g1 g2 q9
        refine P_goto (tgt := 35) (pc := 27) dX1_readClause_27 (by decide) ?_
        exact R_ireturn (pc := 35) dX1_readClause_35 rfl k.1 k.2
-- X1_readHeir readHeir(LFernHeirs$Text;)Z
theorem dX1_readHeir_0 : decode cX1_readHeir 0 = .ok (.aload_n 1, 1) := by decide +kernel
theorem dX1_readHeir_1 : decode cX1_readHeir 1 = .ok (.iconst 1, 1) := by decide +kernel
theorem dX1_readHeir_2 : decode cX1_readHeir 2 = .ok (.bipush 9, 2) := by decide +kernel
theorem dX1_readHeir_4 : decode cX1_readHeir 4 = .ok (.invokevirtual 94, 3) := by decide +kernel
theorem dX1_readHeir_7 : decode cX1_readHeir 7 = .ok (.istore_n 2, 1) := by decide +kernel
theorem dX1_readHeir_8 : decode cX1_readHeir 8 = .ok (.iload_n 2, 1) := by decide +kernel
theorem dX1_readHeir_9 : decode cX1_readHeir 9 = .ok (.iconst (-1), 1) := by decide +kernel
theorem dX1_readHeir_10 : decode cX1_readHeir 10 = .ok (.if_icmp .ne 7, 3) := by decide +kernel
theorem dX1_readHeir_13 : decode cX1_readHeir 13 = .ok (.iconst (-1), 1) := by decide +kernel
theorem dX1_readHeir_14 : decode cX1_readHeir 14 = .ok (.goto 10, 3) := by decide +kernel
theorem dX1_readHeir_17 : decode cX1_readHeir 17 = .ok (.aload_n 1, 1) := by decide +kernel
theorem dX1_readHeir_18 : decode cX1_readHeir 18 = .ok (.iconst 0, 1) := by decide +kernel
theorem dX1_readHeir_19 : decode cX1_readHeir 19 = .ok (.bipush 9, 2) := by decide +kernel
theorem dX1_readHeir_21 : decode cX1_readHeir 21 = .ok (.invokevirtual 94, 3) := by decide +kernel
theorem dX1_readHeir_24 : decode cX1_readHeir 24 = .ok (.istore_n 3, 1) := by decide +kernel
theorem dX1_readHeir_25 : decode cX1_readHeir 25 = .ok (.iload_n 3, 1) := by decide +kernel
theorem dX1_readHeir_26 : decode cX1_readHeir 26 = .ok (.iconst (-1), 1) := by decide +kernel
theorem dX1_readHeir_27 : decode cX1_readHeir 27 = .ok (.if_icmp .ne 5, 3) := by decide +kernel
theorem dX1_readHeir_30 : decode cX1_readHeir 30 = .ok (.iconst 0, 1) := by decide +kernel
theorem dX1_readHeir_31 : decode cX1_readHeir 31 = .ok (.ireturn, 1) := by decide +kernel
theorem dX1_readHeir_32 : decode cX1_readHeir 32 = .ok (.aload_n 0, 1) := by decide +kernel
theorem dX1_readHeir_33 : decode cX1_readHeir 33 = .ok (.getfield 9, 3) := by decide +kernel
theorem dX1_readHeir_36 : decode cX1_readHeir 36 = .ok (.aload_n 0, 1) := by decide +kernel
theorem dX1_readHeir_37 : decode cX1_readHeir 37 = .ok (.getfield 37, 3) := by decide +kernel
theorem dX1_readHeir_40 : decode cX1_readHeir 40 = .ok (.iload_n 2, 1) := by decide +kernel
theorem dX1_readHeir_41 : decode cX1_readHeir 41 = .ok (.iastore, 1) := by decide +kernel
theorem dX1_readHeir_42 : decode cX1_readHeir 42 = .ok (.aload_n 0, 1) := by decide +kernel
theorem dX1_readHeir_43 : decode cX1_readHeir 43 = .ok (.getfield 15, 3) := by decide +kernel
theorem dX1_readHeir_46 : decode cX1_readHeir 46 = .ok (.aload_n 0, 1) := by decide +kernel
theorem dX1_readHeir_47 : decode cX1_readHeir 47 = .ok (.getfield 37, 3) := by decide +kernel
theorem dX1_readHeir_50 : decode cX1_readHeir 50 = .ok (.iload_n 3, 1) := by decide +kernel
theorem dX1_readHeir_51 : decode cX1_readHeir 51 = .ok (.iastore, 1) := by decide +kernel
theorem dX1_readHeir_52 : decode cX1_readHeir 52 = .ok (.aload_n 0, 1) := by decide +kernel
theorem dX1_readHeir_53 : decode cX1_readHeir 53 = .ok (.dup, 1) := by decide +kernel
theorem dX1_readHeir_54 : decode cX1_readHeir 54 = .ok (.getfield 37, 3) := by decide +kernel
theorem dX1_readHeir_57 : decode cX1_readHeir 57 = .ok (.iconst 1, 1) := by decide +kernel
theorem dX1_readHeir_58 : decode cX1_readHeir 58 = .ok (.iadd, 1) := by decide +kernel
theorem dX1_readHeir_59 : decode cX1_readHeir 59 = .ok (.putfield 37, 3) := by decide +kernel
theorem dX1_readHeir_62 : decode cX1_readHeir 62 = .ok (.iconst 1, 1) := by decide +kernel
theorem dX1_readHeir_63 : decode cX1_readHeir 63 = .ok (.ireturn, 1) := by decide +kernel
theorem r_X1_readHeir_0 {d rc rs : Nat} {Q : PO → PH → Prop} {h : PH} {l0 : Nat} {l1 : Nat}
    (k : isO h 10800 l1 ∧ cl d rc rs M_X8_number [vR (800, l1), vI (1 : Int32), vI (9 : Int32)] h (kI fun x4 h1 rc2 rs3 => br (x4 = (-1 : Int32)) (br ((-1 : Int32) = (-1 : Int32)) (Q (.inl (some (vI (0 : Int32)))) h1) (gA h1 (10100, l0) fun a17 => gI h1 (10107, l0) fun x18 => yI h1 a17 x18 x4 fun h19 => gA h19 (10101, l0) fun a20 => gI h19 (10107, l0) fun x21 => yI h19 a20 x21 (-1 : Int32) fun h22 => gI h22 (10107, l0) fun x23 => sF h22 (10107, l0) (vI (x23 + (1 : Int32))) fun h24 => Q (.inl (some (vI (1 : Int32)))) h24)) (isO h1 10800 l1 ∧ cl d rc2 rs3 M_X8_number [vR (800, l1), vI (0 : Int32), vI (9 : Int32)] h1 (kI fun x8 h5 rc6 rs7 => br (x8 = (-1 : Int32)) (Q (.inl (some (vI (0 : Int32)))) h5) (gA h5 (10100, l0) fun a9 => gI h5 (10107, l0) fun x10 => yI h5 a9 x10 x4 fun h11 => gA h11 (10101, l0) fun a12 => gI h11 (10107, l0) fun x13 => yI h11 a12 x13 x8 fun h14 => gI h14 (10107, l0) fun x15 => sF h14 (10107, l0) (vI (x15 + (1 : Int32))) fun h16 => Q (.inl (some (vI (1 : Int32)))) h16)) (fun E h5 rc6 rs7 => Q (.inr E) h5))) (fun E h1 rc2 rs3 => Q (.inr E) h1)) :
    PW d M_X1_readHeir Q rc rs 0 [vR (100, l0), vR (800, l1), vU, vU] [] h := by
  refine P_aload_n (pc := 0) dX1_readHeir_0 rfl ?_
  refine P_iconst (v := (1 : Int32)) (pc := 1) dX1_readHeir_1 (by decide) ?_
  refine P_bipush (v := (9 : Int32)) (pc := 2) dX1_readHeir_2 (by decide) ?_
  obtain ⟨⟨w9, e9⟩, d2, nc, ns, rc2, rs3, Qc, g1, rfl, rfl, g2, kk, kx⟩ := k
  refine P_callV (ci := 8) (k := 0) (id := l1) (q := (RX8, TX8, 7)) (As := [vI (1 : Int32), vI (9 : Int32)]) (st := []) (pc := 4) dX1_readHeir_4 mk_X8_number l_X1_94 im_X8_number se_X8_number ini_X8 rfl g1 (Nat.le_of_ble_eq_true rfl) rfl rfl (by decide) e9 rfl g2 (fun v9 h9 q9 => ?_) (fun E h9 q9 => PX_out rfl (kx E h9 q9))
  obtain ⟨x4, rfl, k⟩ := kk v9 h9 q9
  clear kk kx g1 g2 q9
  refine P_istore_n (pc := 7) dX1_readHeir_7 (by decide) (Or.inr (by intro z e9; cases e9)) rfl ?_
  refine P_iload_n (pc := 8) dX1_readHeir_8 rfl ?_
  refine P_iconst (v := (-1 : Int32)) (pc := 9) dX1_readHeir_9 (by decide) ?_
  refine P_icmp_ne (tgt := 17) (pc := 10) dX1_readHeir_10 (by decide) (fun c => ?_) (fun c => ?_)
  · have k := k.2 c
    refine P_aload_n (pc := 17) dX1_readHeir_17 rfl ?_
    refine P_iconst (v := (0 : Int32)) (pc := 18) dX1_readHeir_18 (by decide) ?_
    refine P_bipush (v := (9 : Int32)) (pc := 19) dX1_readHeir_19 (by decide) ?_
    obtain ⟨⟨w9, e9⟩, d2, nc, ns, rc6, rs7, Qc, g1, rfl, rfl, g2, kk, kx⟩ := k
    refine P_callV (ci := 8) (k := 0) (id := l1) (q := (RX8, TX8, 7)) (As := [vI (0 : Int32), vI (9 : Int32)]) (st := []) (pc := 21) dX1_readHeir_21 mk_X8_number l_X1_94 im_X8_number se_X8_number ini_X8 rfl g1 (Nat.le_of_ble_eq_true rfl) rfl rfl (by decide) e9 rfl g2 (fun v9 h9 q9 => ?_) (fun E h9 q9 => PX_out rfl (kx E h9 q9))
    obtain ⟨x8, rfl, k⟩ := kk v9 h9 q9
    clear kk kx g1 g2 q9
    refine P_istore_n (pc := 24) dX1_readHeir_24 (by decide) (Or.inr (by intro z e9; cases e9)) rfl ?_
    refine P_iload_n (pc := 25) dX1_readHeir_25 rfl ?_
    refine P_iconst (v := (-1 : Int32)) (pc := 26) dX1_readHeir_26 (by decide) ?_
    refine P_icmp_ne (tgt := 32) (pc := 27) dX1_readHeir_27 (by decide) (fun c => ?_) (fun c => ?_)
    · have k := k.2 c
      refine P_aload_n (pc := 32) dX1_readHeir_32 rfl ?_
      obtain ⟨a9, e9, k⟩ := k
      refine G1_0 (pc := 33) dX1_readHeir_33 l_X1_9 e9 ?_
      clear e9
      refine P_aload_n (pc := 36) dX1_readHeir_36 rfl ?_
      obtain ⟨x10, e9, k⟩ := k
      refine G1_7 (pc := 37) dX1_readHeir_37 l_X1_37 e9 ?_
      clear e9
      refine P_iload_n (pc := 40) dX1_readHeir_40 rfl ?_
      obtain ⟨n9, f9, e9, i9, k⟩ := k
      refine P_iast (pc := 41) dX1_readHeir_41 e9 i9 ?_
      clear e9
      refine P_aload_n (pc := 42) dX1_readHeir_42 rfl ?_
      obtain ⟨a12, e9, k⟩ := k
      refine G1_1 (pc := 43) dX1_readHeir_43 l_X1_15 e9 ?_
      clear e9
      refine P_aload_n (pc := 46) dX1_readHeir_46 rfl ?_
      obtain ⟨x13, e9, k⟩ := k
      refine G1_7 (pc := 47) dX1_readHeir_47 l_X1_37 e9 ?_
      clear e9
      refine P_iload_n (pc := 50) dX1_readHeir_50 rfl ?_
      obtain ⟨n9, f9, e9, i9, k⟩ := k
      refine P_iast (pc := 51) dX1_readHeir_51 e9 i9 ?_
      clear e9
      refine P_aload_n (pc := 52) dX1_readHeir_52 rfl ?_
      refine P_dup (pc := 53) dX1_readHeir_53 (fun _ => rfl) ?_
      obtain ⟨x15, e9, k⟩ := k
      refine G1_7 (pc := 54) dX1_readHeir_54 l_X1_37 e9 ?_
      clear e9
      refine P_iconst (v := (1 : Int32)) (pc := 57) dX1_readHeir_57 (by decide) ?_
      refine P_iadd (pc := 58) dX1_readHeir_58 ?_
      obtain ⟨⟨v9, e9⟩, k⟩ := k
      refine S1_7 (pc := 59) dX1_readHeir_59 l_X1_37 e9 ?_
      clear e9
      refine P_iconst (v := (1 : Int32)) (pc := 62) dX1_readHeir_62 (by decide) ?_
      exact R_ireturn (pc := 63) dX1_readHeir_63 rfl rfl k
    · have k := k.1 c
      refine P_iconst (v := (0 : Int32)) (pc := 30) dX1_readHeir_30 (by decide) ?_
      exact R_ireturn (pc := 31) dX1_readHeir_31 rfl rfl k
  · have k := k.1 c
    refine P_iconst (v := (-1 : Int32)) (pc := 13) dX1_readHeir_13 (by decide) ?_
    refine P_goto (tgt := 24) (pc := 14) dX1_readHeir_14 (by decide) ?_
    refine P_istore_n (pc := 24) dX1_readHeir_24 (by decide) (Or.inr (by intro z e9; cases e9)) rfl ?_
    refine P_iload_n (pc := 25) dX1_readHeir_25 rfl ?_
    refine P_iconst (v := (-1 : Int32)) (pc := 26) dX1_readHeir_26 (by decide) ?_
    refine P_icmp_ne (tgt := 32) (pc := 27) dX1_readHeir_27 (by decide) (fun c => ?_) (fun c => ?_)
    · have k := k.2 c
      refine P_aload_n (pc := 32) dX1_readHeir_32 rfl ?_
      obtain ⟨a17, e9, k⟩ := k
      refine G1_0 (pc := 33) dX1_readHeir_33 l_X1_9 e9 ?_
      clear e9
      refine P_aload_n (pc := 36) dX1_readHeir_36 rfl ?_
      obtain ⟨x18, e9, k⟩ := k
      refine G1_7 (pc := 37) dX1_readHeir_37 l_X1_37 e9 ?_
      clear e9
      refine P_iload_n (pc := 40) dX1_readHeir_40 rfl ?_
      obtain ⟨n9, f9, e9, i9, k⟩ := k
      refine P_iast (pc := 41) dX1_readHeir_41 e9 i9 ?_
      clear e9
      refine P_aload_n (pc := 42) dX1_readHeir_42 rfl ?_
      obtain ⟨a20, e9, k⟩ := k
      refine G1_1 (pc := 43) dX1_readHeir_43 l_X1_15 e9 ?_
      clear e9
      refine P_aload_n (pc := 46) dX1_readHeir_46 rfl ?_
      obtain ⟨x21, e9, k⟩ := k
      refine G1_7 (pc := 47) dX1_readHeir_47 l_X1_37 e9 ?_
      clear e9
      refine P_iload_n (pc := 50) dX1_readHeir_50 rfl ?_
      obtain ⟨n9, f9, e9, i9, k⟩ := k
      refine P_iast (pc := 51) dX1_readHeir_51 e9 i9 ?_
      clear e9
      refine P_aload_n (pc := 52) dX1_readHeir_52 rfl ?_
      refine P_dup (pc := 53) dX1_readHeir_53 (fun _ => rfl) ?_
      obtain ⟨x23, e9, k⟩ := k
      refine G1_7 (pc := 54) dX1_readHeir_54 l_X1_37 e9 ?_
      clear e9
      refine P_iconst (v := (1 : Int32)) (pc := 57) dX1_readHeir_57 (by decide) ?_
      refine P_iadd (pc := 58) dX1_readHeir_58 ?_
      obtain ⟨⟨v9, e9⟩, k⟩ := k
      refine S1_7 (pc := 59) dX1_readHeir_59 l_X1_37 e9 ?_
      clear e9
      refine P_iconst (v := (1 : Int32)) (pc := 62) dX1_readHeir_62 (by decide) ?_
      exact R_ireturn (pc := 63) dX1_readHeir_63 rfl rfl k
    · have k := k.1 c
      refine P_iconst (v := (0 : Int32)) (pc := 30) dX1_readHeir_30 (by decide) ?_
      exact R_ireturn (pc := 31) dX1_readHeir_31 rfl rfl k
-- X1_readTwo readTwo(LFernHeirs$Text;)Z
theorem dX1_readTwo_0 : decode cX1_readTwo 0 = .ok (.aload_n 1, 1) := by decide +kernel
theorem dX1_readTwo_1 : decode cX1_readTwo 1 = .ok (.iconst 0, 1) := by decide +kernel
theorem dX1_readTwo_2 : decode cX1_readTwo 2 = .ok (.aload_n 0, 1) := by decide +kernel
theorem dX1_readTwo_3 : decode cX1_readTwo 3 = .ok (.getfield 37, 3) := by decide +kernel
theorem dX1_readTwo_6 : decode cX1_readTwo 6 = .ok (.iconst 1, 1) := by decide +kernel
theorem dX1_readTwo_7 : decode cX1_readTwo 7 = .ok (.isub, 1) := by decide +kernel
theorem dX1_readTwo_8 : decode cX1_readTwo 8 = .ok (.invokevirtual 94, 3) := by decide +kernel
theorem dX1_readTwo_11 : decode cX1_readTwo 11 = .ok (.istore_n 2, 1) := by decide +kernel
theorem dX1_readTwo_12 : decode cX1_readTwo 12 = .ok (.iload_n 2, 1) := by decide +kernel
theorem dX1_readTwo_13 : decode cX1_readTwo 13 = .ok (.iconst (-1), 1) := by decide +kernel
theorem dX1_readTwo_14 : decode cX1_readTwo 14 = .ok (.if_icmp .ne 7, 3) := by decide +kernel
theorem dX1_readTwo_17 : decode cX1_readTwo 17 = .ok (.iconst (-1), 1) := by decide +kernel
theorem dX1_readTwo_18 : decode cX1_readTwo 18 = .ok (.goto 14, 3) := by decide +kernel
theorem dX1_readTwo_21 : decode cX1_readTwo 21 = .ok (.aload_n 1, 1) := by decide +kernel
theorem dX1_readTwo_22 : decode cX1_readTwo 22 = .ok (.iconst 0, 1) := by decide +kernel
theorem dX1_readTwo_23 : decode cX1_readTwo 23 = .ok (.aload_n 0, 1) := by decide +kernel
theorem dX1_readTwo_24 : decode cX1_readTwo 24 = .ok (.getfield 37, 3) := by decide +kernel
theorem dX1_readTwo_27 : decode cX1_readTwo 27 = .ok (.iconst 1, 1) := by decide +kernel
theorem dX1_readTwo_28 : decode cX1_readTwo 28 = .ok (.isub, 1) := by decide +kernel
theorem dX1_readTwo_29 : decode cX1_readTwo 29 = .ok (.invokevirtual 94, 3) := by decide +kernel
theorem dX1_readTwo_32 : decode cX1_readTwo 32 = .ok (.istore_n 3, 1) := by decide +kernel
theorem dX1_readTwo_33 : decode cX1_readTwo 33 = .ok (.iload_n 3, 1) := by decide +kernel
theorem dX1_readTwo_34 : decode cX1_readTwo 34 = .ok (.iconst (-1), 1) := by decide +kernel
theorem dX1_readTwo_35 : decode cX1_readTwo 35 = .ok (.if_icmp .ne 5, 3) := by decide +kernel
theorem dX1_readTwo_38 : decode cX1_readTwo 38 = .ok (.iconst 0, 1) := by decide +kernel
theorem dX1_readTwo_39 : decode cX1_readTwo 39 = .ok (.ireturn, 1) := by decide +kernel
theorem dX1_readTwo_40 : decode cX1_readTwo 40 = .ok (.iload_n 2, 1) := by decide +kernel
theorem dX1_readTwo_41 : decode cX1_readTwo 41 = .ok (.iload_n 3, 1) := by decide +kernel
theorem dX1_readTwo_42 : decode cX1_readTwo 42 = .ok (.if_icmp .eq 12, 3) := by decide +kernel
theorem dX1_readTwo_45 : decode cX1_readTwo 45 = .ok (.aload_n 0, 1) := by decide +kernel
theorem dX1_readTwo_46 : decode cX1_readTwo 46 = .ok (.iload_n 2, 1) := by decide +kernel
theorem dX1_readTwo_47 : decode cX1_readTwo 47 = .ok (.iload_n 3, 1) := by decide +kernel
theorem dX1_readTwo_48 : decode cX1_readTwo 48 = .ok (.invokevirtual 98, 3) := by decide +kernel
theorem dX1_readTwo_51 : decode cX1_readTwo 51 = .ok (.ifCond .eq 9, 3) := by decide +kernel
theorem dX1_readTwo_54 : decode cX1_readTwo 54 = .ok (.aload_n 1, 1) := by decide +kernel
theorem dX1_readTwo_55 : decode cX1_readTwo 55 = .ok (.iconst 2, 1) := by decide +kernel
theorem dX1_readTwo_56 : decode cX1_readTwo 56 = .ok (.invokevirtual 72, 3) := by decide +kernel
theorem dX1_readTwo_59 : decode cX1_readTwo 59 = .ok (.ireturn, 1) := by decide +kernel
theorem dX1_readTwo_60 : decode cX1_readTwo 60 = .ok (.aload_n 0, 1) := by decide +kernel
theorem dX1_readTwo_61 : decode cX1_readTwo 61 = .ok (.getfield 21, 3) := by decide +kernel
theorem dX1_readTwo_64 : decode cX1_readTwo 64 = .ok (.aload_n 0, 1) := by decide +kernel
theorem dX1_readTwo_65 : decode cX1_readTwo 65 = .ok (.getfield 40, 3) := by decide +kernel
theorem dX1_readTwo_68 : decode cX1_readTwo 68 = .ok (.iload_n 2, 1) := by decide +kernel
theorem dX1_readTwo_69 : decode cX1_readTwo 69 = .ok (.iastore, 1) := by decide +kernel
theorem dX1_readTwo_70 : decode cX1_readTwo 70 = .ok (.aload_n 0, 1) := by decide +kernel
theorem dX1_readTwo_71 : decode cX1_readTwo 71 = .ok (.getfield 24, 3) := by decide +kernel
theorem dX1_readTwo_74 : decode cX1_readTwo 74 = .ok (.aload_n 0, 1) := by decide +kernel
theorem dX1_readTwo_75 : decode cX1_readTwo 75 = .ok (.getfield 40, 3) := by decide +kernel
theorem dX1_readTwo_78 : decode cX1_readTwo 78 = .ok (.iload_n 3, 1) := by decide +kernel
theorem dX1_readTwo_79 : decode cX1_readTwo 79 = .ok (.iastore, 1) := by decide +kernel
theorem dX1_readTwo_80 : decode cX1_readTwo 80 = .ok (.aload_n 0, 1) := by decide +kernel
theorem dX1_readTwo_81 : decode cX1_readTwo 81 = .ok (.dup, 1) := by decide +kernel
theorem dX1_readTwo_82 : decode cX1_readTwo 82 = .ok (.getfield 40, 3) := by decide +kernel
theorem dX1_readTwo_85 : decode cX1_readTwo 85 = .ok (.iconst 1, 1) := by decide +kernel
theorem dX1_readTwo_86 : decode cX1_readTwo 86 = .ok (.iadd, 1) := by decide +kernel
theorem dX1_readTwo_87 : decode cX1_readTwo 87 = .ok (.putfield 40, 3) := by decide +kernel
theorem dX1_readTwo_90 : decode cX1_readTwo 90 = .ok (.aload_n 0, 1) := by decide +kernel
theorem dX1_readTwo_91 : decode cX1_readTwo 91 = .ok (.getfield 18, 3) := by decide +kernel
theorem dX1_readTwo_94 : decode cX1_readTwo 94 = .ok (.iload_n 2, 1) := by decide +kernel
theorem dX1_readTwo_95 : decode cX1_readTwo 95 = .ok (.dup2, 1) := by decide +kernel
theorem dX1_readTwo_96 : decode cX1_readTwo 96 = .ok (.iaload, 1) := by decide +kernel
theorem dX1_readTwo_97 : decode cX1_readTwo 97 = .ok (.iconst 1, 1) := by decide +kernel
theorem dX1_readTwo_98 : decode cX1_readTwo 98 = .ok (.iload_n 3, 1) := by decide +kernel
theorem dX1_readTwo_99 : decode cX1_readTwo 99 = .ok (.ishl, 1) := by decide +kernel
theorem dX1_readTwo_100 : decode cX1_readTwo 100 = .ok (.ior, 1) := by decide +kernel
theorem dX1_readTwo_101 : decode cX1_readTwo 101 = .ok (.iastore, 1) := by decide +kernel
theorem dX1_readTwo_102 : decode cX1_readTwo 102 = .ok (.aload_n 0, 1) := by decide +kernel
theorem dX1_readTwo_103 : decode cX1_readTwo 103 = .ok (.getfield 18, 3) := by decide +kernel
theorem dX1_readTwo_106 : decode cX1_readTwo 106 = .ok (.iload_n 3, 1) := by decide +kernel
theorem dX1_readTwo_107 : decode cX1_readTwo 107 = .ok (.dup2, 1) := by decide +kernel
theorem dX1_readTwo_108 : decode cX1_readTwo 108 = .ok (.iaload, 1) := by decide +kernel
theorem dX1_readTwo_109 : decode cX1_readTwo 109 = .ok (.iconst 1, 1) := by decide +kernel
theorem dX1_readTwo_110 : decode cX1_readTwo 110 = .ok (.iload_n 2, 1) := by decide +kernel
theorem dX1_readTwo_111 : decode cX1_readTwo 111 = .ok (.ishl, 1) := by decide +kernel
theorem dX1_readTwo_112 : decode cX1_readTwo 112 = .ok (.ior, 1) := by decide +kernel
theorem dX1_readTwo_113 : decode cX1_readTwo 113 = .ok (.iastore, 1) := by decide +kernel
theorem dX1_readTwo_114 : decode cX1_readTwo 114 = .ok (.iconst 1, 1) := by decide +kernel
theorem dX1_readTwo_115 : decode cX1_readTwo 115 = .ok (.ireturn, 1) := by decide +kernel
theorem r_X1_readTwo_0 {d rc rs : Nat} {Q : PO → PH → Prop} {h : PH} {l0 : Nat} {l1 : Nat}
    (k : gI h (10107, l0) fun x1 => isO h 10800 l1 ∧ cl d rc rs M_X8_number [vR (800, l1), vI (0 : Int32), vI (x1 - (1 : Int32))] h (kI fun x5 h2 rc3 rs4 => br (x5 = (-1 : Int32)) (PW d M_X1_readTwo Q rc3 rs4 32 [vR (100, l0), vR (800, l1), vI x5, vU] [vI (-1 : Int32)] h2) (gI h2 (10107, l0) fun x6 => isO h2 10800 l1 ∧ cl d rc3 rs4 M_X8_number [vR (800, l1), vI (0 : Int32), vI (x6 - (1 : Int32))] h2 (kI fun x10 h7 rc8 rs9 => PW d M_X1_readTwo Q rc8 rs9 32 [vR (100, l0), vR (800, l1), vI x5, vU] [vI x10] h7) (fun E h7 rc8 rs9 => Q (.inr E) h7))) (fun E h2 rc3 rs4 => Q (.inr E) h2)) :
    PW d M_X1_readTwo Q rc rs 0 [vR (100, l0), vR (800, l1), vU, vU] [] h := by
  refine P_aload_n (pc := 0) dX1_readTwo_0 rfl ?_
  refine P_iconst (v := (0 : Int32)) (pc := 1) dX1_readTwo_1 (by decide) ?_
  refine P_aload_n (pc := 2) dX1_readTwo_2 rfl ?_
  obtain ⟨x1, e9, k⟩ := k
  refine G1_7 (pc := 3) dX1_readTwo_3 l_X1_37 e9 ?_
  clear e9
  refine P_iconst (v := (1 : Int32)) (pc := 6) dX1_readTwo_6 (by decide) ?_
  refine P_isub (pc := 7) dX1_readTwo_7 ?_
  obtain ⟨⟨w9, e9⟩, d2, nc, ns, rc3, rs4, Qc, g1, rfl, rfl, g2, kk, kx⟩ := k
  refine P_callV (ci := 8) (k := 0) (id := l1) (q := (RX8, TX8, 7)) (As := [vI (0 : Int32), vI (x1 - (1 : Int32))]) (st := []) (pc := 8) dX1_readTwo_8 mk_X8_number l_X1_94 im_X8_number se_X8_number ini_X8 rfl g1 (Nat.le_of_ble_eq_true rfl) rfl rfl (by decide) e9 rfl g2 (fun v9 h9 q9 => ?_) (fun E h9 q9 => PX_out rfl (kx E h9 q9))
  obtain ⟨x5, rfl, k⟩ := kk v9 h9 q9
  clear kk kx g1 g2 q9
  refine P_istore_n (pc := 11) dX1_readTwo_11 (by decide) (Or.inr (by intro z e9; cases e9)) rfl ?_
  refine P_iload_n (pc := 12) dX1_readTwo_12 rfl ?_
  refine P_iconst (v := (-1 : Int32)) (pc := 13) dX1_readTwo_13 (by decide) ?_
  refine P_icmp_ne (tgt := 21) (pc := 14) dX1_readTwo_14 (by decide) (fun c => ?_) (fun c => ?_)
  · have k := k.2 c
    refine P_aload_n (pc := 21) dX1_readTwo_21 rfl ?_
    refine P_iconst (v := (0 : Int32)) (pc := 22) dX1_readTwo_22 (by decide) ?_
    refine P_aload_n (pc := 23) dX1_readTwo_23 rfl ?_
    obtain ⟨x6, e9, k⟩ := k
    refine G1_7 (pc := 24) dX1_readTwo_24 l_X1_37 e9 ?_
    clear e9
    refine P_iconst (v := (1 : Int32)) (pc := 27) dX1_readTwo_27 (by decide) ?_
    refine P_isub (pc := 28) dX1_readTwo_28 ?_
    obtain ⟨⟨w9, e9⟩, d2, nc, ns, rc8, rs9, Qc, g1, rfl, rfl, g2, kk, kx⟩ := k
    refine P_callV (ci := 8) (k := 0) (id := l1) (q := (RX8, TX8, 7)) (As := [vI (0 : Int32), vI (x6 - (1 : Int32))]) (st := []) (pc := 29) dX1_readTwo_29 mk_X8_number l_X1_94 im_X8_number se_X8_number ini_X8 rfl g1 (Nat.le_of_ble_eq_true rfl) rfl rfl (by decide) e9 rfl g2 (fun v9 h9 q9 => ?_) (fun E h9 q9 => PX_out rfl (kx E h9 q9))
    obtain ⟨x10, rfl, k⟩ := kk v9 h9 q9
    clear kk kx g1 g2 q9
    exact k
  · have k := k.1 c
    refine P_iconst (v := (-1 : Int32)) (pc := 17) dX1_readTwo_17 (by decide) ?_
    refine P_goto (tgt := 32) (pc := 18) dX1_readTwo_18 (by decide) ?_
    exact k
theorem r_X1_readTwo_32 {d rc rs : Nat} {Q : PO → PH → Prop} {h : PH} {l0 : Nat} {l1 : Nat} {l2 : Int32} {s0 : Int32}
    (k : br (s0 = (-1 : Int32)) (Q (.inl (some (vI (0 : Int32)))) h) (br (l2 = s0) (isO h 10800 l1 ∧ cl d rc rs M_X8_refuse [vR (800, l1), vI (2 : Int32)] h (kI fun x4 h1 rc2 rs3 => nrw .boolean x4 (Q (.inl (some (vI x4))) h1)) (fun E h1 rc2 rs3 => Q (.inr E) h1)) (isO h 10100 l0 ∧ cl d rc rs M_X1_areTwo [vR (100, l0), vI l2, vI s0] h (kI fun x8 h5 rc6 rs7 => br (x8 = 0) (gA h5 (10103, l0) fun a9 => gI h5 (10108, l0) fun x10 => yI h5 a9 x10 l2 fun h11 => gA h11 (10104, l0) fun a12 => gI h11 (10108, l0) fun x13 => yI h11 a12 x13 s0 fun h14 => gI h14 (10108, l0) fun x15 => sF h14 (10108, l0) (vI (x15 + (1 : Int32))) fun h16 => gA h16 (10102, l0) fun a17 => xI h16 a17 l2 fun x18 => yI h16 a17 l2 (x18 ||| ((1 : Int32) <<< (s0 &&& 31))) fun h19 => gA h19 (10102, l0) fun a20 => xI h19 a20 s0 fun x21 => yI h19 a20 s0 (x21 ||| ((1 : Int32) <<< (l2 &&& 31))) fun h22 => Q (.inl (some (vI (1 : Int32)))) h22) (isO h5 10800 l1 ∧ cl d rc6 rs7 M_X8_refuse [vR (800, l1), vI (2 : Int32)] h5 (kI fun x26 h23 rc24 rs25 => nrw .boolean x26 (Q (.inl (some (vI x26))) h23)) (fun E h23 rc24 rs25 => Q (.inr E) h23))) (fun E h5 rc6 rs7 => Q (.inr E) h5)))) :
    PW d M_X1_readTwo Q rc rs 32 [vR (100, l0), vR (800, l1), vI l2, vU] [vI s0] h := by
  refine P_istore_n (pc := 32) dX1_readTwo_32 (by decide) (Or.inr (by intro z e9; cases e9)) rfl ?_
  refine P_iload_n (pc := 33) dX1_readTwo_33 rfl ?_
  refine P_iconst (v := (-1 : Int32)) (pc := 34) dX1_readTwo_34 (by decide) ?_
  refine P_icmp_ne (tgt := 40) (pc := 35) dX1_readTwo_35 (by decide) (fun c => ?_) (fun c => ?_)
  · have k := k.2 c
    refine P_iload_n (pc := 40) dX1_readTwo_40 rfl ?_
    refine P_iload_n (pc := 41) dX1_readTwo_41 rfl ?_
    refine P_icmp_eq (tgt := 54) (pc := 42) dX1_readTwo_42 (by decide) (fun c => ?_) (fun c => ?_)
    · have k := k.1 c
      refine P_aload_n (pc := 54) dX1_readTwo_54 rfl ?_
      refine P_iconst (v := (2 : Int32)) (pc := 55) dX1_readTwo_55 (by decide) ?_
      obtain ⟨⟨w9, e9⟩, d2, nc, ns, rc2, rs3, Qc, g1, rfl, rfl, g2, kk, kx⟩ := k
      refine P_callV (ci := 8) (k := 0) (id := l1) (q := (RX8, TX8, 7)) (As := [vI (2 : Int32)]) (st := []) (pc := 56) dX1_readTwo_56 mk_X8_refuse l_X1_72 im_X8_refuse se_X8_refuse ini_X8 rfl g1 (Nat.le_of_ble_eq_true rfl) rfl rfl (by decide) e9 rfl g2 (fun v9 h9 q9 => ?_) (fun E h9 q9 => PX_out rfl (kx E h9 q9))
      obtain ⟨x4, rfl, k⟩ := kk v9 h9 q9
      clear kk kx g1 g2 q9
      exact R_ireturn (pc := 59) dX1_readTwo_59 rfl k.1 k.2
    · have k := k.2 c
      refine P_aload_n (pc := 45) dX1_readTwo_45 rfl ?_
      refine P_iload_n (pc := 46) dX1_readTwo_46 rfl ?_
      refine P_iload_n (pc := 47) dX1_readTwo_47 rfl ?_
      obtain ⟨⟨w9, e9⟩, d2, nc, ns, rc6, rs7, Qc, g1, rfl, rfl, g2, kk, kx⟩ := k
      refine P_callV (ci := 1) (k := 0) (id := l0) (q := (RX1, TX1, 11)) (As := [vI l2, vI s0]) (st := []) (pc := 48) dX1_readTwo_48 mk_X1_areTwo l_X1_98 im_X1_areTwo se_X1_areTwo ini_X1 rfl g1 (Nat.le_of_ble_eq_true rfl) rfl rfl (by decide) e9 rfl g2 (fun v9 h9 q9 => ?_) (fun E h9 q9 => PX_out rfl (kx E h9 q9))
      obtain ⟨x8, rfl, k⟩ := kk v9 h9 q9
      clear kk kx g1 g2 q9
      refine P_if_eq (tgt := 60) (pc := 51) dX1_readTwo_51 (by decide) (fun c => ?_) (fun c => ?_)
      · have k := k.1 c
        refine P_aload_n (pc := 60) dX1_readTwo_60 rfl ?_
        obtain ⟨a9, e9, k⟩ := k
        refine G1_3 (pc := 61) dX1_readTwo_61 l_X1_21 e9 ?_
        clear e9
        refine P_aload_n (pc := 64) dX1_readTwo_64 rfl ?_
        obtain ⟨x10, e9, k⟩ := k
        refine G1_8 (pc := 65) dX1_readTwo_65 l_X1_40 e9 ?_
        clear e9
        refine P_iload_n (pc := 68) dX1_readTwo_68 rfl ?_
        obtain ⟨n9, f9, e9, i9, k⟩ := k
        refine P_iast (pc := 69) dX1_readTwo_69 e9 i9 ?_
        clear e9
        refine P_aload_n (pc := 70) dX1_readTwo_70 rfl ?_
        obtain ⟨a12, e9, k⟩ := k
        refine G1_4 (pc := 71) dX1_readTwo_71 l_X1_24 e9 ?_
        clear e9
        refine P_aload_n (pc := 74) dX1_readTwo_74 rfl ?_
        obtain ⟨x13, e9, k⟩ := k
        refine G1_8 (pc := 75) dX1_readTwo_75 l_X1_40 e9 ?_
        clear e9
        refine P_iload_n (pc := 78) dX1_readTwo_78 rfl ?_
        obtain ⟨n9, f9, e9, i9, k⟩ := k
        refine P_iast (pc := 79) dX1_readTwo_79 e9 i9 ?_
        clear e9
        refine P_aload_n (pc := 80) dX1_readTwo_80 rfl ?_
        refine P_dup (pc := 81) dX1_readTwo_81 (fun _ => rfl) ?_
        obtain ⟨x15, e9, k⟩ := k
        refine G1_8 (pc := 82) dX1_readTwo_82 l_X1_40 e9 ?_
        clear e9
        refine P_iconst (v := (1 : Int32)) (pc := 85) dX1_readTwo_85 (by decide) ?_
        refine P_iadd (pc := 86) dX1_readTwo_86 ?_
        obtain ⟨⟨v9, e9⟩, k⟩ := k
        refine S1_8 (pc := 87) dX1_readTwo_87 l_X1_40 e9 ?_
        clear e9
        refine P_aload_n (pc := 90) dX1_readTwo_90 rfl ?_
        obtain ⟨a17, e9, k⟩ := k
        refine G1_2 (pc := 91) dX1_readTwo_91 l_X1_18 e9 ?_
        clear e9
        refine P_iload_n (pc := 94) dX1_readTwo_94 rfl ?_
        refine P_dup2 (pc := 95) dX1_readTwo_95 (fun _ => rfl) (fun _ => rfl) ?_
        obtain ⟨n9, f9, e9, i9, k⟩ := k
        refine P_iald (pc := 96) dX1_readTwo_96 e9 i9 ?_
        clear e9
        generalize f9 (Int32.toNatClampNeg l2) = x18 at k ⊢
        refine P_iconst (v := (1 : Int32)) (pc := 97) dX1_readTwo_97 (by decide) ?_
        refine P_iload_n (pc := 98) dX1_readTwo_98 rfl ?_
        refine P_ishl (pc := 99) dX1_readTwo_99 ?_
        refine P_ior (pc := 100) dX1_readTwo_100 ?_
        obtain ⟨n9, f9, e9, i9, k⟩ := k
        refine P_iast (pc := 101) dX1_readTwo_101 e9 i9 ?_
        clear e9
        refine P_aload_n (pc := 102) dX1_readTwo_102 rfl ?_
        obtain ⟨a20, e9, k⟩ := k
        refine G1_2 (pc := 103) dX1_readTwo_103 l_X1_18 e9 ?_
        clear e9
        refine P_iload_n (pc := 106) dX1_readTwo_106 rfl ?_
        refine P_dup2 (pc := 107) dX1_readTwo_107 (fun _ => rfl) (fun _ => rfl) ?_
        obtain ⟨n9, f9, e9, i9, k⟩ := k
        refine P_iald (pc := 108) dX1_readTwo_108 e9 i9 ?_
        clear e9
        generalize f9 (Int32.toNatClampNeg s0) = x21 at k ⊢
        refine P_iconst (v := (1 : Int32)) (pc := 109) dX1_readTwo_109 (by decide) ?_
        refine P_iload_n (pc := 110) dX1_readTwo_110 rfl ?_
        refine P_ishl (pc := 111) dX1_readTwo_111 ?_
        refine P_ior (pc := 112) dX1_readTwo_112 ?_
        obtain ⟨n9, f9, e9, i9, k⟩ := k
        refine P_iast (pc := 113) dX1_readTwo_113 e9 i9 ?_
        clear e9
        refine P_iconst (v := (1 : Int32)) (pc := 114) dX1_readTwo_114 (by decide) ?_
        exact R_ireturn (pc := 115) dX1_readTwo_115 rfl rfl k
      · have k := k.2 c
        refine P_aload_n (pc := 54) dX1_readTwo_54 rfl ?_
        refine P_iconst (v := (2 : Int32)) (pc := 55) dX1_readTwo_55 (by decide) ?_
        obtain ⟨⟨w9, e9⟩, d2, nc, ns, rc24, rs25, Qc, g1, rfl, rfl, g2, kk, kx⟩ := k
        refine P_callV (ci := 8) (k := 0) (id := l1) (q := (RX8, TX8, 7)) (As := [vI (2 : Int32)]) (st := []) (pc := 56) dX1_readTwo_56 mk_X8_refuse l_X1_72 im_X8_refuse se_X8_refuse ini_X8 rfl g1 (Nat.le_of_ble_eq_true rfl) rfl rfl (by decide) e9 rfl g2 (fun v9 h9 q9 => ?_) (fun E h9 q9 => PX_out rfl (kx E h9 q9))
        obtain ⟨x26, rfl, k⟩ := kk v9 h9 q9
        clear kk kx g1 g2 q9
        exact R_ireturn (pc := 59) dX1_readTwo_59 rfl k.1 k.2
  · have k := k.1 c
    refine P_iconst (v := (0 : Int32)) (pc := 38) dX1_readTwo_38 (by decide) ?_
    exact R_ireturn (pc := 39) dX1_readTwo_39 rfl rfl k
-- X1_readKeeper readKeeper(LFernHeirs$Text;)Z
theorem dX1_readKeeper_0 : decode cX1_readKeeper 0 = .ok (.aload_n 1, 1) := by decide +kernel
theorem dX1_readKeeper_1 : decode cX1_readKeeper 1 = .ok (.iconst 0, 1) := by decide +kernel
theorem dX1_readKeeper_2 : decode cX1_readKeeper 2 = .ok (.aload_n 0, 1) := by decide +kernel
theorem dX1_readKeeper_3 : decode cX1_readKeeper 3 = .ok (.getfield 37, 3) := by decide +kernel
theorem dX1_readKeeper_6 : decode cX1_readKeeper 6 = .ok (.iconst 1, 1) := by decide +kernel
theorem dX1_readKeeper_7 : decode cX1_readKeeper 7 = .ok (.isub, 1) := by decide +kernel
theorem dX1_readKeeper_8 : decode cX1_readKeeper 8 = .ok (.invokevirtual 94, 3) := by decide +kernel
theorem dX1_readKeeper_11 : decode cX1_readKeeper 11 = .ok (.istore_n 2, 1) := by decide +kernel
theorem dX1_readKeeper_12 : decode cX1_readKeeper 12 = .ok (.iload_n 2, 1) := by decide +kernel
theorem dX1_readKeeper_13 : decode cX1_readKeeper 13 = .ok (.iconst (-1), 1) := by decide +kernel
theorem dX1_readKeeper_14 : decode cX1_readKeeper 14 = .ok (.if_icmp .ne 7, 3) := by decide +kernel
theorem dX1_readKeeper_17 : decode cX1_readKeeper 17 = .ok (.iconst (-1), 1) := by decide +kernel
theorem dX1_readKeeper_18 : decode cX1_readKeeper 18 = .ok (.goto 10, 3) := by decide +kernel
theorem dX1_readKeeper_21 : decode cX1_readKeeper 21 = .ok (.aload_n 1, 1) := by decide +kernel
theorem dX1_readKeeper_22 : decode cX1_readKeeper 22 = .ok (.iconst 1, 1) := by decide +kernel
theorem dX1_readKeeper_23 : decode cX1_readKeeper 23 = .ok (.bipush 24, 2) := by decide +kernel
theorem dX1_readKeeper_25 : decode cX1_readKeeper 25 = .ok (.invokevirtual 94, 3) := by decide +kernel
theorem dX1_readKeeper_28 : decode cX1_readKeeper 28 = .ok (.istore_n 3, 1) := by decide +kernel
theorem dX1_readKeeper_29 : decode cX1_readKeeper 29 = .ok (.iload_n 3, 1) := by decide +kernel
theorem dX1_readKeeper_30 : decode cX1_readKeeper 30 = .ok (.iconst (-1), 1) := by decide +kernel
theorem dX1_readKeeper_31 : decode cX1_readKeeper 31 = .ok (.if_icmp .ne 5, 3) := by decide +kernel
theorem dX1_readKeeper_34 : decode cX1_readKeeper 34 = .ok (.iconst 0, 1) := by decide +kernel
theorem dX1_readKeeper_35 : decode cX1_readKeeper 35 = .ok (.ireturn, 1) := by decide +kernel
theorem dX1_readKeeper_36 : decode cX1_readKeeper 36 = .ok (.aload_n 0, 1) := by decide +kernel
theorem dX1_readKeeper_37 : decode cX1_readKeeper 37 = .ok (.getfield 27, 3) := by decide +kernel
theorem dX1_readKeeper_40 : decode cX1_readKeeper 40 = .ok (.aload_n 0, 1) := by decide +kernel
theorem dX1_readKeeper_41 : decode cX1_readKeeper 41 = .ok (.getfield 43, 3) := by decide +kernel
theorem dX1_readKeeper_44 : decode cX1_readKeeper 44 = .ok (.iload_n 2, 1) := by decide +kernel
theorem dX1_readKeeper_45 : decode cX1_readKeeper 45 = .ok (.iastore, 1) := by decide +kernel
theorem dX1_readKeeper_46 : decode cX1_readKeeper 46 = .ok (.aload_n 0, 1) := by decide +kernel
theorem dX1_readKeeper_47 : decode cX1_readKeeper 47 = .ok (.getfield 30, 3) := by decide +kernel
theorem dX1_readKeeper_50 : decode cX1_readKeeper 50 = .ok (.aload_n 0, 1) := by decide +kernel
theorem dX1_readKeeper_51 : decode cX1_readKeeper 51 = .ok (.getfield 43, 3) := by decide +kernel
theorem dX1_readKeeper_54 : decode cX1_readKeeper 54 = .ok (.iload_n 3, 1) := by decide +kernel
theorem dX1_readKeeper_55 : decode cX1_readKeeper 55 = .ok (.iastore, 1) := by decide +kernel
theorem dX1_readKeeper_56 : decode cX1_readKeeper 56 = .ok (.aload_n 0, 1) := by decide +kernel
theorem dX1_readKeeper_57 : decode cX1_readKeeper 57 = .ok (.dup, 1) := by decide +kernel
theorem dX1_readKeeper_58 : decode cX1_readKeeper 58 = .ok (.getfield 43, 3) := by decide +kernel
theorem dX1_readKeeper_61 : decode cX1_readKeeper 61 = .ok (.iconst 1, 1) := by decide +kernel
theorem dX1_readKeeper_62 : decode cX1_readKeeper 62 = .ok (.iadd, 1) := by decide +kernel
theorem dX1_readKeeper_63 : decode cX1_readKeeper 63 = .ok (.putfield 43, 3) := by decide +kernel
theorem dX1_readKeeper_66 : decode cX1_readKeeper 66 = .ok (.iconst 1, 1) := by decide +kernel
theorem dX1_readKeeper_67 : decode cX1_readKeeper 67 = .ok (.ireturn, 1) := by decide +kernel
theorem r_X1_readKeeper_0 {d rc rs : Nat} {Q : PO → PH → Prop} {h : PH} {l0 : Nat} {l1 : Nat}
    (k : gI h (10107, l0) fun x1 => isO h 10800 l1 ∧ cl d rc rs M_X8_number [vR (800, l1), vI (0 : Int32), vI (x1 - (1 : Int32))] h (kI fun x5 h2 rc3 rs4 => br (x5 = (-1 : Int32)) (br ((-1 : Int32) = (-1 : Int32)) (Q (.inl (some (vI (0 : Int32)))) h2) (gA h2 (10105, l0) fun a18 => gI h2 (10109, l0) fun x19 => yI h2 a18 x19 x5 fun h20 => gA h20 (10106, l0) fun a21 => gI h20 (10109, l0) fun x22 => yI h20 a21 x22 (-1 : Int32) fun h23 => gI h23 (10109, l0) fun x24 => sF h23 (10109, l0) (vI (x24 + (1 : Int32))) fun h25 => Q (.inl (some (vI (1 : Int32)))) h25)) (isO h2 10800 l1 ∧ cl d rc3 rs4 M_X8_number [vR (800, l1), vI (1 : Int32), vI (24 : Int32)] h2 (kI fun x9 h6 rc7 rs8 => br (x9 = (-1 : Int32)) (Q (.inl (some (vI (0 : Int32)))) h6) (gA h6 (10105, l0) fun a10 => gI h6 (10109, l0) fun x11 => yI h6 a10 x11 x5 fun h12 => gA h12 (10106, l0) fun a13 => gI h12 (10109, l0) fun x14 => yI h12 a13 x14 x9 fun h15 => gI h15 (10109, l0) fun x16 => sF h15 (10109, l0) (vI (x16 + (1 : Int32))) fun h17 => Q (.inl (some (vI (1 : Int32)))) h17)) (fun E h6 rc7 rs8 => Q (.inr E) h6))) (fun E h2 rc3 rs4 => Q (.inr E) h2)) :
    PW d M_X1_readKeeper Q rc rs 0 [vR (100, l0), vR (800, l1), vU, vU] [] h := by
  refine P_aload_n (pc := 0) dX1_readKeeper_0 rfl ?_
  refine P_iconst (v := (0 : Int32)) (pc := 1) dX1_readKeeper_1 (by decide) ?_
  refine P_aload_n (pc := 2) dX1_readKeeper_2 rfl ?_
  obtain ⟨x1, e9, k⟩ := k
  refine G1_7 (pc := 3) dX1_readKeeper_3 l_X1_37 e9 ?_
  clear e9
  refine P_iconst (v := (1 : Int32)) (pc := 6) dX1_readKeeper_6 (by decide) ?_
  refine P_isub (pc := 7) dX1_readKeeper_7 ?_
  obtain ⟨⟨w9, e9⟩, d2, nc, ns, rc3, rs4, Qc, g1, rfl, rfl, g2, kk, kx⟩ := k
  refine P_callV (ci := 8) (k := 0) (id := l1) (q := (RX8, TX8, 7)) (As := [vI (0 : Int32), vI (x1 - (1 : Int32))]) (st := []) (pc := 8) dX1_readKeeper_8 mk_X8_number l_X1_94 im_X8_number se_X8_number ini_X8 rfl g1 (Nat.le_of_ble_eq_true rfl) rfl rfl (by decide) e9 rfl g2 (fun v9 h9 q9 => ?_) (fun E h9 q9 => PX_out rfl (kx E h9 q9))
  obtain ⟨x5, rfl, k⟩ := kk v9 h9 q9
  clear kk kx g1 g2 q9
  refine P_istore_n (pc := 11) dX1_readKeeper_11 (by decide) (Or.inr (by intro z e9; cases e9)) rfl ?_
  refine P_iload_n (pc := 12) dX1_readKeeper_12 rfl ?_
  refine P_iconst (v := (-1 : Int32)) (pc := 13) dX1_readKeeper_13 (by decide) ?_
  refine P_icmp_ne (tgt := 21) (pc := 14) dX1_readKeeper_14 (by decide) (fun c => ?_) (fun c => ?_)
  · have k := k.2 c
    refine P_aload_n (pc := 21) dX1_readKeeper_21 rfl ?_
    refine P_iconst (v := (1 : Int32)) (pc := 22) dX1_readKeeper_22 (by decide) ?_
    refine P_bipush (v := (24 : Int32)) (pc := 23) dX1_readKeeper_23 (by decide) ?_
    obtain ⟨⟨w9, e9⟩, d2, nc, ns, rc7, rs8, Qc, g1, rfl, rfl, g2, kk, kx⟩ := k
    refine P_callV (ci := 8) (k := 0) (id := l1) (q := (RX8, TX8, 7)) (As := [vI (1 : Int32), vI (24 : Int32)]) (st := []) (pc := 25) dX1_readKeeper_25 mk_X8_number l_X1_94 im_X8_number se_X8_number ini_X8 rfl g1 (Nat.le_of_ble_eq_true rfl) rfl rfl (by decide) e9 rfl g2 (fun v9 h9 q9 => ?_) (fun E h9 q9 => PX_out rfl (kx E h9 q9))
    obtain ⟨x9, rfl, k⟩ := kk v9 h9 q9
    clear kk kx g1 g2 q9
    refine P_istore_n (pc := 28) dX1_readKeeper_28 (by decide) (Or.inr (by intro z e9; cases e9)) rfl ?_
    refine P_iload_n (pc := 29) dX1_readKeeper_29 rfl ?_
    refine P_iconst (v := (-1 : Int32)) (pc := 30) dX1_readKeeper_30 (by decide) ?_
    refine P_icmp_ne (tgt := 36) (pc := 31) dX1_readKeeper_31 (by decide) (fun c => ?_) (fun c => ?_)
    · have k := k.2 c
      refine P_aload_n (pc := 36) dX1_readKeeper_36 rfl ?_
      obtain ⟨a10, e9, k⟩ := k
      refine G1_5 (pc := 37) dX1_readKeeper_37 l_X1_27 e9 ?_
      clear e9
      refine P_aload_n (pc := 40) dX1_readKeeper_40 rfl ?_
      obtain ⟨x11, e9, k⟩ := k
      refine G1_9 (pc := 41) dX1_readKeeper_41 l_X1_43 e9 ?_
      clear e9
      refine P_iload_n (pc := 44) dX1_readKeeper_44 rfl ?_
      obtain ⟨n9, f9, e9, i9, k⟩ := k
      refine P_iast (pc := 45) dX1_readKeeper_45 e9 i9 ?_
      clear e9
      refine P_aload_n (pc := 46) dX1_readKeeper_46 rfl ?_
      obtain ⟨a13, e9, k⟩ := k
      refine G1_6 (pc := 47) dX1_readKeeper_47 l_X1_30 e9 ?_
      clear e9
      refine P_aload_n (pc := 50) dX1_readKeeper_50 rfl ?_
      obtain ⟨x14, e9, k⟩ := k
      refine G1_9 (pc := 51) dX1_readKeeper_51 l_X1_43 e9 ?_
      clear e9
      refine P_iload_n (pc := 54) dX1_readKeeper_54 rfl ?_
      obtain ⟨n9, f9, e9, i9, k⟩ := k
      refine P_iast (pc := 55) dX1_readKeeper_55 e9 i9 ?_
      clear e9
      refine P_aload_n (pc := 56) dX1_readKeeper_56 rfl ?_
      refine P_dup (pc := 57) dX1_readKeeper_57 (fun _ => rfl) ?_
      obtain ⟨x16, e9, k⟩ := k
      refine G1_9 (pc := 58) dX1_readKeeper_58 l_X1_43 e9 ?_
      clear e9
      refine P_iconst (v := (1 : Int32)) (pc := 61) dX1_readKeeper_61 (by decide) ?_
      refine P_iadd (pc := 62) dX1_readKeeper_62 ?_
      obtain ⟨⟨v9, e9⟩, k⟩ := k
      refine S1_9 (pc := 63) dX1_readKeeper_63 l_X1_43 e9 ?_
      clear e9
      refine P_iconst (v := (1 : Int32)) (pc := 66) dX1_readKeeper_66 (by decide) ?_
      exact R_ireturn (pc := 67) dX1_readKeeper_67 rfl rfl k
    · have k := k.1 c
      refine P_iconst (v := (0 : Int32)) (pc := 34) dX1_readKeeper_34 (by decide) ?_
      exact R_ireturn (pc := 35) dX1_readKeeper_35 rfl rfl k
  · have k := k.1 c
    refine P_iconst (v := (-1 : Int32)) (pc := 17) dX1_readKeeper_17 (by decide) ?_
    refine P_goto (tgt := 28) (pc := 18) dX1_readKeeper_18 (by decide) ?_
    refine P_istore_n (pc := 28) dX1_readKeeper_28 (by decide) (Or.inr (by intro z e9; cases e9)) rfl ?_
    refine P_iload_n (pc := 29) dX1_readKeeper_29 rfl ?_
    refine P_iconst (v := (-1 : Int32)) (pc := 30) dX1_readKeeper_30 (by decide) ?_
    refine P_icmp_ne (tgt := 36) (pc := 31) dX1_readKeeper_31 (by decide) (fun c => ?_) (fun c => ?_)
    · have k := k.2 c
      refine P_aload_n (pc := 36) dX1_readKeeper_36 rfl ?_
      obtain ⟨a18, e9, k⟩ := k
      refine G1_5 (pc := 37) dX1_readKeeper_37 l_X1_27 e9 ?_
      clear e9
      refine P_aload_n (pc := 40) dX1_readKeeper_40 rfl ?_
      obtain ⟨x19, e9, k⟩ := k
      refine G1_9 (pc := 41) dX1_readKeeper_41 l_X1_43 e9 ?_
      clear e9
      refine P_iload_n (pc := 44) dX1_readKeeper_44 rfl ?_
      obtain ⟨n9, f9, e9, i9, k⟩ := k
      refine P_iast (pc := 45) dX1_readKeeper_45 e9 i9 ?_
      clear e9
      refine P_aload_n (pc := 46) dX1_readKeeper_46 rfl ?_
      obtain ⟨a21, e9, k⟩ := k
      refine G1_6 (pc := 47) dX1_readKeeper_47 l_X1_30 e9 ?_
      clear e9
      refine P_aload_n (pc := 50) dX1_readKeeper_50 rfl ?_
      obtain ⟨x22, e9, k⟩ := k
      refine G1_9 (pc := 51) dX1_readKeeper_51 l_X1_43 e9 ?_
      clear e9
      refine P_iload_n (pc := 54) dX1_readKeeper_54 rfl ?_
      obtain ⟨n9, f9, e9, i9, k⟩ := k
      refine P_iast (pc := 55) dX1_readKeeper_55 e9 i9 ?_
      clear e9
      refine P_aload_n (pc := 56) dX1_readKeeper_56 rfl ?_
      refine P_dup (pc := 57) dX1_readKeeper_57 (fun _ => rfl) ?_
      obtain ⟨x24, e9, k⟩ := k
      refine G1_9 (pc := 58) dX1_readKeeper_58 l_X1_43 e9 ?_
      clear e9
      refine P_iconst (v := (1 : Int32)) (pc := 61) dX1_readKeeper_61 (by decide) ?_
      refine P_iadd (pc := 62) dX1_readKeeper_62 ?_
      obtain ⟨⟨v9, e9⟩, k⟩ := k
      refine S1_9 (pc := 63) dX1_readKeeper_63 l_X1_43 e9 ?_
      clear e9
      refine P_iconst (v := (1 : Int32)) (pc := 66) dX1_readKeeper_66 (by decide) ?_
      exact R_ireturn (pc := 67) dX1_readKeeper_67 rfl rfl k
    · have k := k.1 c
      refine P_iconst (v := (0 : Int32)) (pc := 34) dX1_readKeeper_34 (by decide) ?_
      exact R_ireturn (pc := 35) dX1_readKeeper_35 rfl rfl k
-- X1_readSun readSun(LFernHeirs$Text;)Z
theorem dX1_readSun_0 : decode cX1_readSun 0 = .ok (.aload_n 1, 1) := by decide +kernel
theorem dX1_readSun_1 : decode cX1_readSun 1 = .ok (.iconst 0, 1) := by decide +kernel
theorem dX1_readSun_2 : decode cX1_readSun 2 = .ok (.bipush 23, 2) := by decide +kernel
theorem dX1_readSun_4 : decode cX1_readSun 4 = .ok (.invokevirtual 94, 3) := by decide +kernel
theorem dX1_readSun_7 : decode cX1_readSun 7 = .ok (.istore_n 2, 1) := by decide +kernel
theorem dX1_readSun_8 : decode cX1_readSun 8 = .ok (.iload_n 2, 1) := by decide +kernel
theorem dX1_readSun_9 : decode cX1_readSun 9 = .ok (.iconst (-1), 1) := by decide +kernel
theorem dX1_readSun_10 : decode cX1_readSun 10 = .ok (.if_icmp .ne 5, 3) := by decide +kernel
theorem dX1_readSun_13 : decode cX1_readSun 13 = .ok (.iconst 0, 1) := by decide +kernel
theorem dX1_readSun_14 : decode cX1_readSun 14 = .ok (.ireturn, 1) := by decide +kernel
theorem dX1_readSun_15 : decode cX1_readSun 15 = .ok (.aload_n 0, 1) := by decide +kernel
theorem dX1_readSun_16 : decode cX1_readSun 16 = .ok (.iload_n 2, 1) := by decide +kernel
theorem dX1_readSun_17 : decode cX1_readSun 17 = .ok (.putfield 33, 3) := by decide +kernel
theorem dX1_readSun_20 : decode cX1_readSun 20 = .ok (.iconst 1, 1) := by decide +kernel
theorem dX1_readSun_21 : decode cX1_readSun 21 = .ok (.ireturn, 1) := by decide +kernel
theorem r_X1_readSun_0 {d rc rs : Nat} {Q : PO → PH → Prop} {h : PH} {l0 : Nat} {l1 : Nat}
    (k : isO h 10800 l1 ∧ cl d rc rs M_X8_number [vR (800, l1), vI (0 : Int32), vI (23 : Int32)] h (kI fun x4 h1 rc2 rs3 => br (x4 = (-1 : Int32)) (Q (.inl (some (vI (0 : Int32)))) h1) (sF h1 (10110, l0) (vI x4) fun h5 => Q (.inl (some (vI (1 : Int32)))) h5)) (fun E h1 rc2 rs3 => Q (.inr E) h1)) :
    PW d M_X1_readSun Q rc rs 0 [vR (100, l0), vR (800, l1), vU] [] h := by
  refine P_aload_n (pc := 0) dX1_readSun_0 rfl ?_
  refine P_iconst (v := (0 : Int32)) (pc := 1) dX1_readSun_1 (by decide) ?_
  refine P_bipush (v := (23 : Int32)) (pc := 2) dX1_readSun_2 (by decide) ?_
  obtain ⟨⟨w9, e9⟩, d2, nc, ns, rc2, rs3, Qc, g1, rfl, rfl, g2, kk, kx⟩ := k
  refine P_callV (ci := 8) (k := 0) (id := l1) (q := (RX8, TX8, 7)) (As := [vI (0 : Int32), vI (23 : Int32)]) (st := []) (pc := 4) dX1_readSun_4 mk_X8_number l_X1_94 im_X8_number se_X8_number ini_X8 rfl g1 (Nat.le_of_ble_eq_true rfl) rfl rfl (by decide) e9 rfl g2 (fun v9 h9 q9 => ?_) (fun E h9 q9 => PX_out rfl (kx E h9 q9))
  obtain ⟨x4, rfl, k⟩ := kk v9 h9 q9
  clear kk kx g1 g2 q9
  refine P_istore_n (pc := 7) dX1_readSun_7 (by decide) (Or.inr (by intro z e9; cases e9)) rfl ?_
  refine P_iload_n (pc := 8) dX1_readSun_8 rfl ?_
  refine P_iconst (v := (-1 : Int32)) (pc := 9) dX1_readSun_9 (by decide) ?_
  refine P_icmp_ne (tgt := 15) (pc := 10) dX1_readSun_10 (by decide) (fun c => ?_) (fun c => ?_)
  · have k := k.2 c
    refine P_aload_n (pc := 15) dX1_readSun_15 rfl ?_
    refine P_iload_n (pc := 16) dX1_readSun_16 rfl ?_
    obtain ⟨⟨v9, e9⟩, k⟩ := k
    refine S1_10 (pc := 17) dX1_readSun_17 l_X1_33 e9 ?_
    clear e9
    refine P_iconst (v := (1 : Int32)) (pc := 20) dX1_readSun_20 (by decide) ?_
    exact R_ireturn (pc := 21) dX1_readSun_21 rfl rfl k
  · have k := k.1 c
    refine P_iconst (v := (0 : Int32)) (pc := 13) dX1_readSun_13 (by decide) ?_
    exact R_ireturn (pc := 14) dX1_readSun_14 rfl rfl k
-- X1_all all()I
theorem dX1_all_0 : decode cX1_all 0 = .ok (.iconst 1, 1) := by decide +kernel
theorem dX1_all_1 : decode cX1_all 1 = .ok (.aload_n 0, 1) := by decide +kernel
theorem dX1_all_2 : decode cX1_all 2 = .ok (.getfield 37, 3) := by decide +kernel
theorem dX1_all_5 : decode cX1_all 5 = .ok (.ishl, 1) := by decide +kernel
theorem dX1_all_6 : decode cX1_all 6 = .ok (.iconst 1, 1) := by decide +kernel
theorem dX1_all_7 : decode cX1_all 7 = .ok (.isub, 1) := by decide +kernel
theorem dX1_all_8 : decode cX1_all 8 = .ok (.ireturn, 1) := by decide +kernel
theorem r_X1_all_0 {d rc rs : Nat} {Q : PO → PH → Prop} {h : PH} {l0 : Nat}
    (k : gI h (10107, l0) fun x1 => Q (.inl (some (vI (((1 : Int32) <<< (x1 &&& 31)) - (1 : Int32))))) h) :
    PW d M_X1_all Q rc rs 0 [vR (100, l0)] [] h := by
  refine P_iconst (v := (1 : Int32)) (pc := 0) dX1_all_0 (by decide) ?_
  refine P_aload_n (pc := 1) dX1_all_1 rfl ?_
  obtain ⟨x1, e9, k⟩ := k
  refine G1_7 (pc := 2) dX1_all_2 l_X1_37 e9 ?_
  clear e9
  refine P_ishl (pc := 5) dX1_all_5 ?_
  refine P_iconst (v := (1 : Int32)) (pc := 6) dX1_all_6 (by decide) ?_
  refine P_isub (pc := 7) dX1_all_7 ?_
  exact R_ireturn (pc := 8) dX1_all_8 rfl rfl k
-- X1_areTwo areTwo(II)Z
theorem dX1_areTwo_0 : decode cX1_areTwo 0 = .ok (.aload_n 0, 1) := by decide +kernel
theorem dX1_areTwo_1 : decode cX1_areTwo 1 = .ok (.getfield 18, 3) := by decide +kernel
theorem dX1_areTwo_4 : decode cX1_areTwo 4 = .ok (.iload_n 1, 1) := by decide +kernel
theorem dX1_areTwo_5 : decode cX1_areTwo 5 = .ok (.iaload, 1) := by decide +kernel
theorem dX1_areTwo_6 : decode cX1_areTwo 6 = .ok (.iconst 1, 1) := by decide +kernel
theorem dX1_areTwo_7 : decode cX1_areTwo 7 = .ok (.iload_n 2, 1) := by decide +kernel
theorem dX1_areTwo_8 : decode cX1_areTwo 8 = .ok (.ishl, 1) := by decide +kernel
theorem dX1_areTwo_9 : decode cX1_areTwo 9 = .ok (.iand, 1) := by decide +kernel
theorem dX1_areTwo_10 : decode cX1_areTwo 10 = .ok (.ifCond .eq 7, 3) := by decide +kernel
theorem dX1_areTwo_13 : decode cX1_areTwo 13 = .ok (.iconst 1, 1) := by decide +kernel
theorem dX1_areTwo_14 : decode cX1_areTwo 14 = .ok (.goto 4, 3) := by decide +kernel
theorem dX1_areTwo_17 : decode cX1_areTwo 17 = .ok (.iconst 0, 1) := by decide +kernel
theorem dX1_areTwo_18 : decode cX1_areTwo 18 = .ok (.ireturn, 1) := by decide +kernel
theorem r_X1_areTwo_0 {d rc rs : Nat} {Q : PO → PH → Prop} {h : PH} {l0 : Nat} {l1 : Int32} {l2 : Int32}
    (k : gA h (10102, l0) fun a1 => xI h a1 l1 fun x2 => br ((x2 &&& ((1 : Int32) <<< (l2 &&& 31))) = 0) (Q (.inl (some (vI (0 : Int32)))) h) (Q (.inl (some (vI (1 : Int32)))) h)) :
    PW d M_X1_areTwo Q rc rs 0 [vR (100, l0), vI l1, vI l2] [] h := by
  refine P_aload_n (pc := 0) dX1_areTwo_0 rfl ?_
  obtain ⟨a1, e9, k⟩ := k
  refine G1_2 (pc := 1) dX1_areTwo_1 l_X1_18 e9 ?_
  clear e9
  refine P_iload_n (pc := 4) dX1_areTwo_4 rfl ?_
  obtain ⟨n9, f9, e9, i9, k⟩ := k
  refine P_iald (pc := 5) dX1_areTwo_5 e9 i9 ?_
  clear e9
  generalize f9 (Int32.toNatClampNeg l1) = x2 at k ⊢
  refine P_iconst (v := (1 : Int32)) (pc := 6) dX1_areTwo_6 (by decide) ?_
  refine P_iload_n (pc := 7) dX1_areTwo_7 rfl ?_
  refine P_ishl (pc := 8) dX1_areTwo_8 ?_
  refine P_iand (pc := 9) dX1_areTwo_9 ?_
  refine P_if_eq (tgt := 17) (pc := 10) dX1_areTwo_10 (by decide) (fun c => ?_) (fun c => ?_)
  · have k := k.1 c
    refine P_iconst (v := (0 : Int32)) (pc := 17) dX1_areTwo_17 (by decide) ?_
    exact R_ireturn (pc := 18) dX1_areTwo_18 rfl rfl k
  · have k := k.2 c
    refine P_iconst (v := (1 : Int32)) (pc := 13) dX1_areTwo_13 (by decide) ?_
    refine P_goto (tgt := 18) (pc := 14) dX1_areTwo_14 (by decide) ?_
    exact R_ireturn (pc := 18) dX1_areTwo_18 rfl rfl k
-- X1_friendsOf friendsOf(I)I
theorem dX1_friendsOf_0 : decode cX1_friendsOf 0 = .ok (.aload_n 0, 1) := by decide +kernel
theorem dX1_friendsOf_1 : decode cX1_friendsOf 1 = .ok (.getfield 18, 3) := by decide +kernel
theorem dX1_friendsOf_4 : decode cX1_friendsOf 4 = .ok (.iload_n 1, 1) := by decide +kernel
theorem dX1_friendsOf_5 : decode cX1_friendsOf 5 = .ok (.iaload, 1) := by decide +kernel
theorem dX1_friendsOf_6 : decode cX1_friendsOf 6 = .ok (.invokestatic 102, 3) := by decide +kernel
theorem dX1_friendsOf_9 : decode cX1_friendsOf 9 = .ok (.ireturn, 1) := by decide +kernel
theorem r_X1_friendsOf_0 {d rc rs : Nat} {Q : PO → PH → Prop} {h : PH} {l0 : Nat} {l1 : Int32}
    (k : gA h (10102, l0) fun a1 => xI h a1 l1 fun x2 => cl d rc rs M_J6_bitCount_0f7a4 [vI x2] h (kI fun x6 h3 rc4 rs5 => Q (.inl (some (vI x6))) h3) (fun E h3 rc4 rs5 => Q (.inr E) h3)) :
    PW d M_X1_friendsOf Q rc rs 0 [vR (100, l0), vI l1] [] h := by
  refine P_aload_n (pc := 0) dX1_friendsOf_0 rfl ?_
  obtain ⟨a1, e9, k⟩ := k
  refine G1_2 (pc := 1) dX1_friendsOf_1 l_X1_18 e9 ?_
  clear e9
  refine P_iload_n (pc := 4) dX1_friendsOf_4 rfl ?_
  obtain ⟨n9, f9, e9, i9, k⟩ := k
  refine P_iald (pc := 5) dX1_friendsOf_5 e9 i9 ?_
  clear e9
  generalize f9 (Int32.toNatClampNeg l1) = x2 at k ⊢
  obtain ⟨d2, nc, ns, rc4, rs5, Qc, g1, rfl, rfl, g2, kk, kx⟩ := k
  refine P_callS (As := [vI x2]) (st := []) (pc := 6) dX1_friendsOf_6 mk_J6_bitCount_0f7a4 l_X1_102 st_J6_bitCount_0f7a4 ini_J6 rfl g1 (Nat.le_of_ble_eq_true rfl) rfl g2 (fun v9 h9 q9 => ?_) (fun E h9 q9 => PX_out rfl (kx E h9 q9))
  obtain ⟨x6, rfl, k⟩ := kk v9 h9 q9
  clear kk kx g1 g2 q9
  exact R_ireturn (pc := 9) dX1_friendsOf_9 rfl rfl k
-- X1_nextCough nextCough(II)I
theorem dX1_nextCough_0 : decode cX1_nextCough 0 = .ok (.aload_n 0, 1) := by decide +kernel
theorem dX1_nextCough_1 : decode cX1_nextCough 1 = .ok (.getfield 30, 3) := by decide +kernel
theorem dX1_nextCough_4 : decode cX1_nextCough 4 = .ok (.iload_n 1, 1) := by decide +kernel
theorem dX1_nextCough_5 : decode cX1_nextCough 5 = .ok (.iaload, 1) := by decide +kernel
theorem dX1_nextCough_6 : decode cX1_nextCough 6 = .ok (.istore_n 3, 1) := by decide +kernel
theorem dX1_nextCough_7 : decode cX1_nextCough 7 = .ok (.iload_n 3, 1) := by decide +kernel
theorem dX1_nextCough_8 : decode cX1_nextCough 8 = .ok (.ifCond .le 12, 3) := by decide +kernel
theorem dX1_nextCough_11 : decode cX1_nextCough 11 = .ok (.iload_n 2, 1) := by decide +kernel
theorem dX1_nextCough_12 : decode cX1_nextCough 12 = .ok (.ineg, 1) := by decide +kernel
theorem dX1_nextCough_13 : decode cX1_nextCough 13 = .ok (.iload_n 3, 1) := by decide +kernel
theorem dX1_nextCough_14 : decode cX1_nextCough 14 = .ok (.invokestatic 108, 3) := by decide +kernel
theorem dX1_nextCough_17 : decode cX1_nextCough 17 = .ok (.goto 4, 3) := by decide +kernel
theorem dX1_nextCough_20 : decode cX1_nextCough 20 = .ok (.iconst 0, 1) := by decide +kernel
theorem dX1_nextCough_21 : decode cX1_nextCough 21 = .ok (.ireturn, 1) := by decide +kernel
theorem r_X1_nextCough_0 {d rc rs : Nat} {Q : PO → PH → Prop} {h : PH} {l0 : Nat} {l1 : Int32} {l2 : Int32}
    (k : gA h (10106, l0) fun a1 => xI h a1 l1 fun x2 => br (0 < x2) (cl d rc rs M_J9_floorMod_7cf53 [vI (-l2), vI x2] h (kI fun x6 h3 rc4 rs5 => Q (.inl (some (vI x6))) h3) (fun E h3 rc4 rs5 => Q (.inr E) h3)) (Q (.inl (some (vI (0 : Int32)))) h)) :
    PW d M_X1_nextCough Q rc rs 0 [vR (100, l0), vI l1, vI l2, vU] [] h := by
  refine P_aload_n (pc := 0) dX1_nextCough_0 rfl ?_
  obtain ⟨a1, e9, k⟩ := k
  refine G1_6 (pc := 1) dX1_nextCough_1 l_X1_30 e9 ?_
  clear e9
  refine P_iload_n (pc := 4) dX1_nextCough_4 rfl ?_
  obtain ⟨n9, f9, e9, i9, k⟩ := k
  refine P_iald (pc := 5) dX1_nextCough_5 e9 i9 ?_
  clear e9
  generalize f9 (Int32.toNatClampNeg l1) = x2 at k ⊢
  refine P_istore_n (pc := 6) dX1_nextCough_6 (by decide) (Or.inr (by intro z e9; cases e9)) rfl ?_
  refine P_iload_n (pc := 7) dX1_nextCough_7 rfl ?_
  refine P_if_le (tgt := 20) (pc := 8) dX1_nextCough_8 (by decide) (fun c => ?_) (fun c => ?_)
  · have k := k.2 (Int32.not_lt.mpr c)
    refine P_iconst (v := (0 : Int32)) (pc := 20) dX1_nextCough_20 (by decide) ?_
    exact R_ireturn (pc := 21) dX1_nextCough_21 rfl rfl k
  · have k := k.1 (Int32.not_le.mp c)
    refine P_iload_n (pc := 11) dX1_nextCough_11 rfl ?_
    refine P_ineg (pc := 12) dX1_nextCough_12 ?_
    refine P_iload_n (pc := 13) dX1_nextCough_13 rfl ?_
    obtain ⟨d2, nc, ns, rc4, rs5, Qc, g1, rfl, rfl, g2, kk, kx⟩ := k
    refine P_callS (As := [vI (-l2), vI x2]) (st := []) (pc := 14) dX1_nextCough_14 mk_J9_floorMod_7cf53 l_X1_108 st_J9_floorMod_7cf53 ini_J9 rfl g1 (Nat.le_of_ble_eq_true rfl) rfl g2 (fun v9 h9 q9 => ?_) (fun E h9 q9 => PX_out rfl (kx E h9 q9))
    obtain ⟨x6, rfl, k⟩ := kk v9 h9 q9
    clear kk kx g1 g2 q9
    refine P_goto (tgt := 21) (pc := 17) dX1_nextCough_17 (by decide) ?_
    exact R_ireturn (pc := 21) dX1_nextCough_21 rfl rfl k
-- X1_coughsBeside coughsBeside(II)I
theorem dX1_coughsBeside_0 : decode cX1_coughsBeside 0 = .ok (.iconst 0, 1) := by decide +kernel
theorem dX1_coughsBeside_1 : decode cX1_coughsBeside 1 = .ok (.istore_n 3, 1) := by decide +kernel
theorem dX1_coughsBeside_2 : decode cX1_coughsBeside 2 = .ok (.iconst 0, 1) := by decide +kernel
theorem dX1_coughsBeside_3 : decode cX1_coughsBeside 3 = .ok (.istore 4, 2) := by decide +kernel
theorem dX1_coughsBeside_5 : decode cX1_coughsBeside 5 = .ok (.iload 4, 2) := by decide +kernel
theorem dX1_coughsBeside_7 : decode cX1_coughsBeside 7 = .ok (.aload_n 0, 1) := by decide +kernel
theorem dX1_coughsBeside_8 : decode cX1_coughsBeside 8 = .ok (.getfield 43, 3) := by decide +kernel
theorem dX1_coughsBeside_11 : decode cX1_coughsBeside 11 = .ok (.if_icmp .ge 33, 3) := by decide +kernel
theorem dX1_coughsBeside_14 : decode cX1_coughsBeside 14 = .ok (.aload_n 0, 1) := by decide +kernel
theorem dX1_coughsBeside_15 : decode cX1_coughsBeside 15 = .ok (.getfield 27, 3) := by decide +kernel
theorem dX1_coughsBeside_18 : decode cX1_coughsBeside 18 = .ok (.iload 4, 2) := by decide +kernel
theorem dX1_coughsBeside_20 : decode cX1_coughsBeside 20 = .ok (.iaload, 1) := by decide +kernel
theorem dX1_coughsBeside_21 : decode cX1_coughsBeside 21 = .ok (.iload_n 1, 1) := by decide +kernel
theorem dX1_coughsBeside_22 : decode cX1_coughsBeside 22 = .ok (.if_icmp .ne 16, 3) := by decide +kernel
theorem dX1_coughsBeside_25 : decode cX1_coughsBeside 25 = .ok (.aload_n 0, 1) := by decide +kernel
theorem dX1_coughsBeside_26 : decode cX1_coughsBeside 26 = .ok (.iload 4, 2) := by decide +kernel
theorem dX1_coughsBeside_28 : decode cX1_coughsBeside 28 = .ok (.iload_n 2, 1) := by decide +kernel
theorem dX1_coughsBeside_29 : decode cX1_coughsBeside 29 = .ok (.invokevirtual 113, 3) := by decide +kernel
theorem dX1_coughsBeside_32 : decode cX1_coughsBeside 32 = .ok (.ifCond .ne 6, 3) := by decide +kernel
theorem dX1_coughsBeside_35 : decode cX1_coughsBeside 35 = .ok (.iinc 3 1, 3) := by decide +kernel
theorem dX1_coughsBeside_38 : decode cX1_coughsBeside 38 = .ok (.iinc 4 1, 3) := by decide +kernel
theorem dX1_coughsBeside_41 : decode cX1_coughsBeside 41 = .ok (.goto (-36), 3) := by decide +kernel
theorem dX1_coughsBeside_44 : decode cX1_coughsBeside 44 = .ok (.iload_n 3, 1) := by decide +kernel
theorem dX1_coughsBeside_45 : decode cX1_coughsBeside 45 = .ok (.ireturn, 1) := by decide +kernel
theorem r_X1_coughsBeside_0 {d rc rs : Nat} {Q : PO → PH → Prop} {h : PH} {l0 : Nat} {l1 : Int32} {l2 : Int32}
    (k : PW d M_X1_coughsBeside Q rc rs 5 [vR (100, l0), vI l1, vI l2, vI (0 : Int32), vI (0 : Int32)] [] h) :
    PW d M_X1_coughsBeside Q rc rs 0 [vR (100, l0), vI l1, vI l2, vU, vU] [] h := by
  refine P_iconst (v := (0 : Int32)) (pc := 0) dX1_coughsBeside_0 (by decide) ?_
  refine P_istore_n (pc := 1) dX1_coughsBeside_1 (by decide) (Or.inr (by intro z e9; cases e9)) rfl ?_
  refine P_iconst (v := (0 : Int32)) (pc := 2) dX1_coughsBeside_2 (by decide) ?_
  refine P_istore (pc := 3) dX1_coughsBeside_3 (by decide) (Or.inr (by intro z e9; cases e9)) rfl ?_
  exact k
theorem r_X1_coughsBeside_5 {d rc rs : Nat} {Q : PO → PH → Prop} {h : PH} {l0 : Nat} {l1 : Int32} {l2 : Int32} {l3 : Int32} {l4 : Int32}
    (k : gI h (10109, l0) fun x1 => br (l4 < x1) (gA h (10105, l0) fun a2 => xI h a2 l4 fun x3 => br (x3 = l1) (isO h 10100 l0 ∧ cl d rc rs M_X1_nextCough [vR (100, l0), vI l4, vI l2] h (kI fun x7 h4 rc5 rs6 => br (x7 = 0) (PW d M_X1_coughsBeside Q rc5 rs6 5 [vR (100, l0), vI l1, vI l2, vI (l3 + (1 : Int32)), vI (l4 + (1 : Int32))] [] h4) (PW d M_X1_coughsBeside Q rc5 rs6 5 [vR (100, l0), vI l1, vI l2, vI l3, vI (l4 + (1 : Int32))] [] h4)) (fun E h4 rc5 rs6 => Q (.inr E) h4)) (PW d M_X1_coughsBeside Q rc rs 5 [vR (100, l0), vI l1, vI l2, vI l3, vI (l4 + (1 : Int32))] [] h)) (Q (.inl (some (vI l3))) h)) :
    PW d M_X1_coughsBeside Q rc rs 5 [vR (100, l0), vI l1, vI l2, vI l3, vI l4] [] h := by
  refine P_iload (pc := 5) dX1_coughsBeside_5 rfl ?_
  refine P_aload_n (pc := 7) dX1_coughsBeside_7 rfl ?_
  obtain ⟨x1, e9, k⟩ := k
  refine G1_9 (pc := 8) dX1_coughsBeside_8 l_X1_43 e9 ?_
  clear e9
  refine P_icmp_ge (tgt := 44) (pc := 11) dX1_coughsBeside_11 (by decide) (fun c => ?_) (fun c => ?_)
  · have k := k.2 (Int32.not_lt.mpr c)
    refine P_iload_n (pc := 44) dX1_coughsBeside_44 rfl ?_
    exact R_ireturn (pc := 45) dX1_coughsBeside_45 rfl rfl k
  · have k := k.1 (Int32.not_le.mp c)
    refine P_aload_n (pc := 14) dX1_coughsBeside_14 rfl ?_
    obtain ⟨a2, e9, k⟩ := k
    refine G1_5 (pc := 15) dX1_coughsBeside_15 l_X1_27 e9 ?_
    clear e9
    refine P_iload (pc := 18) dX1_coughsBeside_18 rfl ?_
    obtain ⟨n9, f9, e9, i9, k⟩ := k
    refine P_iald (pc := 20) dX1_coughsBeside_20 e9 i9 ?_
    clear e9
    generalize f9 (Int32.toNatClampNeg l4) = x3 at k ⊢
    refine P_iload_n (pc := 21) dX1_coughsBeside_21 rfl ?_
    refine P_icmp_ne (tgt := 38) (pc := 22) dX1_coughsBeside_22 (by decide) (fun c => ?_) (fun c => ?_)
    · have k := k.2 c
      refine P_iinc (v := l4 + (1 : Int32)) (pc := 38) dX1_coughsBeside_38 (by decide) rfl rfl (Or.inr (by intro z e9; cases e9)) rfl ?_
      refine P_goto (tgt := 5) (pc := 41) dX1_coughsBeside_41 (by decide) ?_
      exact k
    · have k := k.1 c
      refine P_aload_n (pc := 25) dX1_coughsBeside_25 rfl ?_
      refine P_iload (pc := 26) dX1_coughsBeside_26 rfl ?_
      refine P_iload_n (pc := 28) dX1_coughsBeside_28 rfl ?_
      obtain ⟨⟨w9, e9⟩, d2, nc, ns, rc5, rs6, Qc, g1, rfl, rfl, g2, kk, kx⟩ := k
      refine P_callV (ci := 1) (k := 0) (id := l0) (q := (RX1, TX1, 11)) (As := [vI l4, vI l2]) (st := []) (pc := 29) dX1_coughsBeside_29 mk_X1_nextCough l_X1_113 im_X1_nextCough se_X1_nextCough ini_X1 rfl g1 (Nat.le_of_ble_eq_true rfl) rfl rfl (by decide) e9 rfl g2 (fun v9 h9 q9 => ?_) (fun E h9 q9 => PX_out rfl (kx E h9 q9))
      obtain ⟨x7, rfl, k⟩ := kk v9 h9 q9
      clear kk kx g1 g2 q9
      refine P_if_ne (tgt := 38) (pc := 32) dX1_coughsBeside_32 (by decide) (fun c => ?_) (fun c => ?_)
      · have k := k.2 c
        refine P_iinc (v := l4 + (1 : Int32)) (pc := 38) dX1_coughsBeside_38 (by decide) rfl rfl (Or.inr (by intro z e9; cases e9)) rfl ?_
        refine P_goto (tgt := 5) (pc := 41) dX1_coughsBeside_41 (by decide) ?_
        exact k
      · have k := k.1 c
        refine P_iinc (v := l3 + (1 : Int32)) (pc := 35) dX1_coughsBeside_35 (by decide) rfl rfl (Or.inr (by intro z e9; cases e9)) rfl ?_
        refine P_iinc (v := l4 + (1 : Int32)) (pc := 38) dX1_coughsBeside_38 (by decide) rfl rfl (Or.inr (by intro z e9; cases e9)) rfl ?_
        refine P_goto (tgt := 5) (pc := 41) dX1_coughsBeside_41 (by decide) ?_
        exact k
-- X1_spread spread(I)I
theorem dX1_spread_0 : decode cX1_spread 0 = .ok (.iload_n 1, 1) := by decide +kernel
theorem dX1_spread_1 : decode cX1_spread 1 = .ok (.istore_n 2, 1) := by decide +kernel
theorem dX1_spread_2 : decode cX1_spread 2 = .ok (.iconst 0, 1) := by decide +kernel
theorem dX1_spread_3 : decode cX1_spread 3 = .ok (.istore_n 3, 1) := by decide +kernel
theorem dX1_spread_4 : decode cX1_spread 4 = .ok (.iload_n 3, 1) := by decide +kernel
theorem dX1_spread_5 : decode cX1_spread 5 = .ok (.aload_n 0, 1) := by decide +kernel
theorem dX1_spread_6 : decode cX1_spread 6 = .ok (.getfield 37, 3) := by decide +kernel
theorem dX1_spread_9 : decode cX1_spread 9 = .ok (.if_icmp .ge 26, 3) := by decide +kernel
theorem dX1_spread_12 : decode cX1_spread 12 = .ok (.iload_n 1, 1) := by decide +kernel
theorem dX1_spread_13 : decode cX1_spread 13 = .ok (.iconst 1, 1) := by decide +kernel
theorem dX1_spread_14 : decode cX1_spread 14 = .ok (.iload_n 3, 1) := by decide +kernel
theorem dX1_spread_15 : decode cX1_spread 15 = .ok (.ishl, 1) := by decide +kernel
theorem dX1_spread_16 : decode cX1_spread 16 = .ok (.iand, 1) := by decide +kernel
theorem dX1_spread_17 : decode cX1_spread 17 = .ok (.ifCond .eq 12, 3) := by decide +kernel
theorem dX1_spread_20 : decode cX1_spread 20 = .ok (.iload_n 2, 1) := by decide +kernel
theorem dX1_spread_21 : decode cX1_spread 21 = .ok (.aload_n 0, 1) := by decide +kernel
theorem dX1_spread_22 : decode cX1_spread 22 = .ok (.getfield 18, 3) := by decide +kernel
theorem dX1_spread_25 : decode cX1_spread 25 = .ok (.iload_n 3, 1) := by decide +kernel
theorem dX1_spread_26 : decode cX1_spread 26 = .ok (.iaload, 1) := by decide +kernel
theorem dX1_spread_27 : decode cX1_spread 27 = .ok (.ior, 1) := by decide +kernel
theorem dX1_spread_28 : decode cX1_spread 28 = .ok (.istore_n 2, 1) := by decide +kernel
theorem dX1_spread_29 : decode cX1_spread 29 = .ok (.iinc 3 1, 3) := by decide +kernel
theorem dX1_spread_32 : decode cX1_spread 32 = .ok (.goto (-28), 3) := by decide +kernel
theorem dX1_spread_35 : decode cX1_spread 35 = .ok (.iload_n 2, 1) := by decide +kernel
theorem dX1_spread_36 : decode cX1_spread 36 = .ok (.ireturn, 1) := by decide +kernel
theorem r_X1_spread_0 {d rc rs : Nat} {Q : PO → PH → Prop} {h : PH} {l0 : Nat} {l1 : Int32}
    (k : PW d M_X1_spread Q rc rs 4 [vR (100, l0), vI l1, vI l1, vI (0 : Int32)] [] h) :
    PW d M_X1_spread Q rc rs 0 [vR (100, l0), vI l1, vU, vU] [] h := by
  refine P_iload_n (pc := 0) dX1_spread_0 rfl ?_
  refine P_istore_n (pc := 1) dX1_spread_1 (by decide) (Or.inr (by intro z e9; cases e9)) rfl ?_
  refine P_iconst (v := (0 : Int32)) (pc := 2) dX1_spread_2 (by decide) ?_
  refine P_istore_n (pc := 3) dX1_spread_3 (by decide) (Or.inr (by intro z e9; cases e9)) rfl ?_
  exact k
theorem r_X1_spread_4 {d rc rs : Nat} {Q : PO → PH → Prop} {h : PH} {l0 : Nat} {l1 : Int32} {l2 : Int32} {l3 : Int32}
    (k : gI h (10107, l0) fun x1 => br (l3 < x1) (br ((l1 &&& ((1 : Int32) <<< (l3 &&& 31))) = 0) (PW d M_X1_spread Q rc rs 4 [vR (100, l0), vI l1, vI l2, vI (l3 + (1 : Int32))] [] h) (gA h (10102, l0) fun a2 => xI h a2 l3 fun x3 => PW d M_X1_spread Q rc rs 4 [vR (100, l0), vI l1, vI (l2 ||| x3), vI (l3 + (1 : Int32))] [] h)) (Q (.inl (some (vI l2))) h)) :
    PW d M_X1_spread Q rc rs 4 [vR (100, l0), vI l1, vI l2, vI l3] [] h := by
  refine P_iload_n (pc := 4) dX1_spread_4 rfl ?_
  refine P_aload_n (pc := 5) dX1_spread_5 rfl ?_
  obtain ⟨x1, e9, k⟩ := k
  refine G1_7 (pc := 6) dX1_spread_6 l_X1_37 e9 ?_
  clear e9
  refine P_icmp_ge (tgt := 35) (pc := 9) dX1_spread_9 (by decide) (fun c => ?_) (fun c => ?_)
  · have k := k.2 (Int32.not_lt.mpr c)
    refine P_iload_n (pc := 35) dX1_spread_35 rfl ?_
    exact R_ireturn (pc := 36) dX1_spread_36 rfl rfl k
  · have k := k.1 (Int32.not_le.mp c)
    refine P_iload_n (pc := 12) dX1_spread_12 rfl ?_
    refine P_iconst (v := (1 : Int32)) (pc := 13) dX1_spread_13 (by decide) ?_
    refine P_iload_n (pc := 14) dX1_spread_14 rfl ?_
    refine P_ishl (pc := 15) dX1_spread_15 ?_
    refine P_iand (pc := 16) dX1_spread_16 ?_
    refine P_if_eq (tgt := 29) (pc := 17) dX1_spread_17 (by decide) (fun c => ?_) (fun c => ?_)
    · have k := k.1 c
      refine P_iinc (v := l3 + (1 : Int32)) (pc := 29) dX1_spread_29 (by decide) rfl rfl (Or.inr (by intro z e9; cases e9)) rfl ?_
      refine P_goto (tgt := 4) (pc := 32) dX1_spread_32 (by decide) ?_
      exact k
    · have k := k.2 c
      refine P_iload_n (pc := 20) dX1_spread_20 rfl ?_
      refine P_aload_n (pc := 21) dX1_spread_21 rfl ?_
      obtain ⟨a2, e9, k⟩ := k
      refine G1_2 (pc := 22) dX1_spread_22 l_X1_18 e9 ?_
      clear e9
      refine P_iload_n (pc := 25) dX1_spread_25 rfl ?_
      obtain ⟨n9, f9, e9, i9, k⟩ := k
      refine P_iald (pc := 26) dX1_spread_26 e9 i9 ?_
      clear e9
      generalize f9 (Int32.toNatClampNeg l3) = x3 at k ⊢
      refine P_ior (pc := 27) dX1_spread_27 ?_
      refine P_istore_n (pc := 28) dX1_spread_28 (by decide) (Or.inr (by intro z e9; cases e9)) rfl ?_
      refine P_iinc (v := l3 + (1 : Int32)) (pc := 29) dX1_spread_29 (by decide) rfl rfl (Or.inr (by intro z e9; cases e9)) rfl ?_
      refine P_goto (tgt := 4) (pc := 32) dX1_spread_32 (by decide) ?_
      exact k
-- X1_reached reached(II)I
theorem dX1_reached_0 : decode cX1_reached 0 = .ok (.iconst 1, 1) := by decide +kernel
theorem dX1_reached_1 : decode cX1_reached 1 = .ok (.iload_n 1, 1) := by decide +kernel
theorem dX1_reached_2 : decode cX1_reached 2 = .ok (.ishl, 1) := by decide +kernel
theorem dX1_reached_3 : decode cX1_reached 3 = .ok (.istore_n 3, 1) := by decide +kernel
theorem dX1_reached_4 : decode cX1_reached 4 = .ok (.iconst 0, 1) := by decide +kernel
theorem dX1_reached_5 : decode cX1_reached 5 = .ok (.istore 4, 2) := by decide +kernel
theorem dX1_reached_7 : decode cX1_reached 7 = .ok (.iload 4, 2) := by decide +kernel
theorem dX1_reached_9 : decode cX1_reached 9 = .ok (.aload_n 0, 1) := by decide +kernel
theorem dX1_reached_10 : decode cX1_reached 10 = .ok (.getfield 37, 3) := by decide +kernel
theorem dX1_reached_13 : decode cX1_reached 13 = .ok (.if_icmp .ge 19, 3) := by decide +kernel
theorem dX1_reached_16 : decode cX1_reached 16 = .ok (.aload_n 0, 1) := by decide +kernel
theorem dX1_reached_17 : decode cX1_reached 17 = .ok (.iload_n 3, 1) := by decide +kernel
theorem dX1_reached_18 : decode cX1_reached 18 = .ok (.invokevirtual 116, 3) := by decide +kernel
theorem dX1_reached_21 : decode cX1_reached 21 = .ok (.iload_n 2, 1) := by decide +kernel
theorem dX1_reached_22 : decode cX1_reached 22 = .ok (.iconst (-1), 1) := by decide +kernel
theorem dX1_reached_23 : decode cX1_reached 23 = .ok (.ixor, 1) := by decide +kernel
theorem dX1_reached_24 : decode cX1_reached 24 = .ok (.iand, 1) := by decide +kernel
theorem dX1_reached_25 : decode cX1_reached 25 = .ok (.istore_n 3, 1) := by decide +kernel
theorem dX1_reached_26 : decode cX1_reached 26 = .ok (.iinc 4 1, 3) := by decide +kernel
theorem dX1_reached_29 : decode cX1_reached 29 = .ok (.goto (-22), 3) := by decide +kernel
theorem dX1_reached_32 : decode cX1_reached 32 = .ok (.iload_n 3, 1) := by decide +kernel
theorem dX1_reached_33 : decode cX1_reached 33 = .ok (.ireturn, 1) := by decide +kernel
theorem r_X1_reached_0 {d rc rs : Nat} {Q : PO → PH → Prop} {h : PH} {l0 : Nat} {l1 : Int32} {l2 : Int32}
    (k : PW d M_X1_reached Q rc rs 7 [vR (100, l0), vU, vI l2, vI ((1 : Int32) <<< (l1 &&& 31)), vI (0 : Int32)] [] h) :
    PW d M_X1_reached Q rc rs 0 [vR (100, l0), vI l1, vI l2, vU, vU] [] h := by
  refine P_iconst (v := (1 : Int32)) (pc := 0) dX1_reached_0 (by decide) ?_
  refine P_iload_n (pc := 1) dX1_reached_1 rfl ?_
  refine P_ishl (pc := 2) dX1_reached_2 ?_
  refine P_istore_n (pc := 3) dX1_reached_3 (by decide) (Or.inr (by intro z e9; cases e9)) rfl ?_
  refine P_iconst (v := (0 : Int32)) (pc := 4) dX1_reached_4 (by decide) ?_
  refine P_istore (pc := 5) dX1_reached_5 (by decide) (Or.inr (by intro z e9; cases e9)) rfl ?_
  exact P_drop (ls2 := [vR (100, l0), vU, vI l2, vI ((1 : Int32) <<< (l1 &&& 31)), vI (0 : Int32)]) (ls := [vR (100, l0), vI l1, vI l2, vI ((1 : Int32) <<< (l1 &&& 31)), vI (0 : Int32)]) ⟨Or.inr rfl, ⟨Or.inl rfl, ⟨Or.inr rfl, ⟨Or.inr rfl, ⟨Or.inr rfl, trivial⟩⟩⟩⟩⟩ k
theorem r_X1_reached_7 {d rc rs : Nat} {Q : PO → PH → Prop} {h : PH} {l0 : Nat} {l2 : Int32} {l3 : Int32} {l4 : Int32}
    (k : gI h (10107, l0) fun x1 => br (l4 < x1) (isO h 10100 l0 ∧ cl d rc rs M_X1_spread [vR (100, l0), vI l3] h (kI fun x5 h2 rc3 rs4 => PW d M_X1_reached Q rc3 rs4 7 [vR (100, l0), vU, vI l2, vI (x5 &&& (l2 ^^^ (-1 : Int32))), vI (l4 + (1 : Int32))] [] h2) (fun E h2 rc3 rs4 => Q (.inr E) h2)) (Q (.inl (some (vI l3))) h)) :
    PW d M_X1_reached Q rc rs 7 [vR (100, l0), vU, vI l2, vI l3, vI l4] [] h := by
  refine P_iload (pc := 7) dX1_reached_7 rfl ?_
  refine P_aload_n (pc := 9) dX1_reached_9 rfl ?_
  obtain ⟨x1, e9, k⟩ := k
  refine G1_7 (pc := 10) dX1_reached_10 l_X1_37 e9 ?_
  clear e9
  refine P_icmp_ge (tgt := 32) (pc := 13) dX1_reached_13 (by decide) (fun c => ?_) (fun c => ?_)
  · have k := k.2 (Int32.not_lt.mpr c)
    refine P_iload_n (pc := 32) dX1_reached_32 rfl ?_
    exact R_ireturn (pc := 33) dX1_reached_33 rfl rfl k
  · have k := k.1 (Int32.not_le.mp c)
    refine P_aload_n (pc := 16) dX1_reached_16 rfl ?_
    refine P_iload_n (pc := 17) dX1_reached_17 rfl ?_
    obtain ⟨⟨w9, e9⟩, d2, nc, ns, rc3, rs4, Qc, g1, rfl, rfl, g2, kk, kx⟩ := k
    refine P_callV (ci := 1) (k := 0) (id := l0) (q := (RX1, TX1, 11)) (As := [vI l3]) (st := []) (pc := 18) dX1_reached_18 mk_X1_spread l_X1_116 im_X1_spread se_X1_spread ini_X1 rfl g1 (Nat.le_of_ble_eq_true rfl) rfl rfl (by decide) e9 rfl g2 (fun v9 h9 q9 => ?_) (fun E h9 q9 => PX_out rfl (kx E h9 q9))
    obtain ⟨x5, rfl, k⟩ := kk v9 h9 q9
    clear kk kx g1 g2 q9
    refine P_iload_n (pc := 21) dX1_reached_21 rfl ?_
    refine P_iconst (v := (-1 : Int32)) (pc := 22) dX1_reached_22 (by decide) ?_
    refine P_ixor (pc := 23) dX1_reached_23 ?_
    refine P_iand (pc := 24) dX1_reached_24 ?_
    refine P_istore_n (pc := 25) dX1_reached_25 (by decide) (Or.inr (by intro z e9; cases e9)) rfl ?_
    refine P_iinc (v := l4 + (1 : Int32)) (pc := 26) dX1_reached_26 (by decide) rfl rfl (Or.inr (by intro z e9; cases e9)) rfl ?_
    refine P_goto (tgt := 7) (pc := 29) dX1_reached_29 (by decide) ?_
    exact k
-- X1_tapsBetween tapsBetween(II)I
theorem dX1_tapsBetween_0 : decode cX1_tapsBetween 0 = .ok (.iconst 1, 1) := by decide +kernel
theorem dX1_tapsBetween_1 : decode cX1_tapsBetween 1 = .ok (.iload_n 1, 1) := by decide +kernel
theorem dX1_tapsBetween_2 : decode cX1_tapsBetween 2 = .ok (.ishl, 1) := by decide +kernel
theorem dX1_tapsBetween_3 : decode cX1_tapsBetween 3 = .ok (.istore_n 3, 1) := by decide +kernel
theorem dX1_tapsBetween_4 : decode cX1_tapsBetween 4 = .ok (.iconst 0, 1) := by decide +kernel
theorem dX1_tapsBetween_5 : decode cX1_tapsBetween 5 = .ok (.istore 4, 2) := by decide +kernel
theorem dX1_tapsBetween_7 : decode cX1_tapsBetween 7 = .ok (.iload 4, 2) := by decide +kernel
theorem dX1_tapsBetween_9 : decode cX1_tapsBetween 9 = .ok (.aload_n 0, 1) := by decide +kernel
theorem dX1_tapsBetween_10 : decode cX1_tapsBetween 10 = .ok (.getfield 37, 3) := by decide +kernel
theorem dX1_tapsBetween_13 : decode cX1_tapsBetween 13 = .ok (.if_icmp .ge 26, 3) := by decide +kernel
theorem dX1_tapsBetween_16 : decode cX1_tapsBetween 16 = .ok (.iload_n 3, 1) := by decide +kernel
theorem dX1_tapsBetween_17 : decode cX1_tapsBetween 17 = .ok (.iconst 1, 1) := by decide +kernel
theorem dX1_tapsBetween_18 : decode cX1_tapsBetween 18 = .ok (.iload_n 2, 1) := by decide +kernel
theorem dX1_tapsBetween_19 : decode cX1_tapsBetween 19 = .ok (.ishl, 1) := by decide +kernel
theorem dX1_tapsBetween_20 : decode cX1_tapsBetween 20 = .ok (.iand, 1) := by decide +kernel
theorem dX1_tapsBetween_21 : decode cX1_tapsBetween 21 = .ok (.ifCond .eq 6, 3) := by decide +kernel
theorem dX1_tapsBetween_24 : decode cX1_tapsBetween 24 = .ok (.iload 4, 2) := by decide +kernel
theorem dX1_tapsBetween_26 : decode cX1_tapsBetween 26 = .ok (.ireturn, 1) := by decide +kernel
theorem dX1_tapsBetween_27 : decode cX1_tapsBetween 27 = .ok (.aload_n 0, 1) := by decide +kernel
theorem dX1_tapsBetween_28 : decode cX1_tapsBetween 28 = .ok (.iload_n 3, 1) := by decide +kernel
theorem dX1_tapsBetween_29 : decode cX1_tapsBetween 29 = .ok (.invokevirtual 116, 3) := by decide +kernel
theorem dX1_tapsBetween_32 : decode cX1_tapsBetween 32 = .ok (.istore_n 3, 1) := by decide +kernel
theorem dX1_tapsBetween_33 : decode cX1_tapsBetween 33 = .ok (.iinc 4 1, 3) := by decide +kernel
theorem dX1_tapsBetween_36 : decode cX1_tapsBetween 36 = .ok (.goto (-29), 3) := by decide +kernel
theorem dX1_tapsBetween_39 : decode cX1_tapsBetween 39 = .ok (.iconst (-1), 1) := by decide +kernel
theorem dX1_tapsBetween_40 : decode cX1_tapsBetween 40 = .ok (.ireturn, 1) := by decide +kernel
theorem r_X1_tapsBetween_0 {d rc rs : Nat} {Q : PO → PH → Prop} {h : PH} {l0 : Nat} {l1 : Int32} {l2 : Int32}
    (k : PW d M_X1_tapsBetween Q rc rs 7 [vR (100, l0), vU, vI l2, vI ((1 : Int32) <<< (l1 &&& 31)), vI (0 : Int32)] [] h) :
    PW d M_X1_tapsBetween Q rc rs 0 [vR (100, l0), vI l1, vI l2, vU, vU] [] h := by
  refine P_iconst (v := (1 : Int32)) (pc := 0) dX1_tapsBetween_0 (by decide) ?_
  refine P_iload_n (pc := 1) dX1_tapsBetween_1 rfl ?_
  refine P_ishl (pc := 2) dX1_tapsBetween_2 ?_
  refine P_istore_n (pc := 3) dX1_tapsBetween_3 (by decide) (Or.inr (by intro z e9; cases e9)) rfl ?_
  refine P_iconst (v := (0 : Int32)) (pc := 4) dX1_tapsBetween_4 (by decide) ?_
  refine P_istore (pc := 5) dX1_tapsBetween_5 (by decide) (Or.inr (by intro z e9; cases e9)) rfl ?_
  exact P_drop (ls2 := [vR (100, l0), vU, vI l2, vI ((1 : Int32) <<< (l1 &&& 31)), vI (0 : Int32)]) (ls := [vR (100, l0), vI l1, vI l2, vI ((1 : Int32) <<< (l1 &&& 31)), vI (0 : Int32)]) ⟨Or.inr rfl, ⟨Or.inl rfl, ⟨Or.inr rfl, ⟨Or.inr rfl, ⟨Or.inr rfl, trivial⟩⟩⟩⟩⟩ k
theorem r_X1_tapsBetween_7 {d rc rs : Nat} {Q : PO → PH → Prop} {h : PH} {l0 : Nat} {l2 : Int32} {l3 : Int32} {l4 : Int32}
    (k : gI h (10107, l0) fun x1 => br (l4 < x1) (br ((l3 &&& ((1 : Int32) <<< (l2 &&& 31))) = 0) (isO h 10100 l0 ∧ cl d rc rs M_X1_spread [vR (100, l0), vI l3] h (kI fun x5 h2 rc3 rs4 => PW d M_X1_tapsBetween Q rc3 rs4 7 [vR (100, l0), vU, vI l2, vI x5, vI (l4 + (1 : Int32))] [] h2) (fun E h2 rc3 rs4 => Q (.inr E) h2)) (Q (.inl (some (vI l4))) h)) (Q (.inl (some (vI (-1 : Int32)))) h)) :
    PW d M_X1_tapsBetween Q rc rs 7 [vR (100, l0), vU, vI l2, vI l3, vI l4] [] h := by
  refine P_iload (pc := 7) dX1_tapsBetween_7 rfl ?_
  refine P_aload_n (pc := 9) dX1_tapsBetween_9 rfl ?_
  obtain ⟨x1, e9, k⟩ := k
  refine G1_7 (pc := 10) dX1_tapsBetween_10 l_X1_37 e9 ?_
  clear e9
  refine P_icmp_ge (tgt := 39) (pc := 13) dX1_tapsBetween_13 (by decide) (fun c => ?_) (fun c => ?_)
  · have k := k.2 (Int32.not_lt.mpr c)
    refine P_iconst (v := (-1 : Int32)) (pc := 39) dX1_tapsBetween_39 (by decide) ?_
    exact R_ireturn (pc := 40) dX1_tapsBetween_40 rfl rfl k
  · have k := k.1 (Int32.not_le.mp c)
    refine P_iload_n (pc := 16) dX1_tapsBetween_16 rfl ?_
    refine P_iconst (v := (1 : Int32)) (pc := 17) dX1_tapsBetween_17 (by decide) ?_
    refine P_iload_n (pc := 18) dX1_tapsBetween_18 rfl ?_
    refine P_ishl (pc := 19) dX1_tapsBetween_19 ?_
    refine P_iand (pc := 20) dX1_tapsBetween_20 ?_
    refine P_if_eq (tgt := 27) (pc := 21) dX1_tapsBetween_21 (by decide) (fun c => ?_) (fun c => ?_)
    · have k := k.1 c
      refine P_aload_n (pc := 27) dX1_tapsBetween_27 rfl ?_
      refine P_iload_n (pc := 28) dX1_tapsBetween_28 rfl ?_
      obtain ⟨⟨w9, e9⟩, d2, nc, ns, rc3, rs4, Qc, g1, rfl, rfl, g2, kk, kx⟩ := k
      refine P_callV (ci := 1) (k := 0) (id := l0) (q := (RX1, TX1, 11)) (As := [vI l3]) (st := []) (pc := 29) dX1_tapsBetween_29 mk_X1_spread l_X1_116 im_X1_spread se_X1_spread ini_X1 rfl g1 (Nat.le_of_ble_eq_true rfl) rfl rfl (by decide) e9 rfl g2 (fun v9 h9 q9 => ?_) (fun E h9 q9 => PX_out rfl (kx E h9 q9))
      obtain ⟨x5, rfl, k⟩ := kk v9 h9 q9
      clear kk kx g1 g2 q9
      refine P_istore_n (pc := 32) dX1_tapsBetween_32 (by decide) (Or.inr (by intro z e9; cases e9)) rfl ?_
      refine P_iinc (v := l4 + (1 : Int32)) (pc := 33) dX1_tapsBetween_33 (by decide) rfl rfl (Or.inr (by intro z e9; cases e9)) rfl ?_
      refine P_goto (tgt := 7) (pc := 36) dX1_tapsBetween_36 (by decide) ?_
      exact k
    · have k := k.2 c
      refine P_iload (pc := 24) dX1_tapsBetween_24 rfl ?_
      exact R_ireturn (pc := 26) dX1_tapsBetween_26 rfl rfl k
-- X1_isStill isStill(I)Z
theorem dX1_isStill_0 : decode cX1_isStill 0 = .ok (.iconst 0, 1) := by decide +kernel
theorem dX1_isStill_1 : decode cX1_isStill 1 = .ok (.istore_n 2, 1) := by decide +kernel
theorem dX1_isStill_2 : decode cX1_isStill 2 = .ok (.iload_n 2, 1) := by decide +kernel
theorem dX1_isStill_3 : decode cX1_isStill 3 = .ok (.aload_n 0, 1) := by decide +kernel
theorem dX1_isStill_4 : decode cX1_isStill 4 = .ok (.getfield 37, 3) := by decide +kernel
theorem dX1_isStill_7 : decode cX1_isStill 7 = .ok (.if_icmp .ge 30, 3) := by decide +kernel
theorem dX1_isStill_10 : decode cX1_isStill 10 = .ok (.iload_n 1, 1) := by decide +kernel
theorem dX1_isStill_11 : decode cX1_isStill 11 = .ok (.iconst 1, 1) := by decide +kernel
theorem dX1_isStill_12 : decode cX1_isStill 12 = .ok (.iload_n 2, 1) := by decide +kernel
theorem dX1_isStill_13 : decode cX1_isStill 13 = .ok (.ishl, 1) := by decide +kernel
theorem dX1_isStill_14 : decode cX1_isStill 14 = .ok (.iand, 1) := by decide +kernel
theorem dX1_isStill_15 : decode cX1_isStill 15 = .ok (.ifCond .eq 16, 3) := by decide +kernel
theorem dX1_isStill_18 : decode cX1_isStill 18 = .ok (.iload_n 1, 1) := by decide +kernel
theorem dX1_isStill_19 : decode cX1_isStill 19 = .ok (.aload_n 0, 1) := by decide +kernel
theorem dX1_isStill_20 : decode cX1_isStill 20 = .ok (.getfield 18, 3) := by decide +kernel
theorem dX1_isStill_23 : decode cX1_isStill 23 = .ok (.iload_n 2, 1) := by decide +kernel
theorem dX1_isStill_24 : decode cX1_isStill 24 = .ok (.iaload, 1) := by decide +kernel
theorem dX1_isStill_25 : decode cX1_isStill 25 = .ok (.iand, 1) := by decide +kernel
theorem dX1_isStill_26 : decode cX1_isStill 26 = .ok (.ifCond .eq 5, 3) := by decide +kernel
theorem dX1_isStill_29 : decode cX1_isStill 29 = .ok (.iconst 0, 1) := by decide +kernel
theorem dX1_isStill_30 : decode cX1_isStill 30 = .ok (.ireturn, 1) := by decide +kernel
theorem dX1_isStill_31 : decode cX1_isStill 31 = .ok (.iinc 2 1, 3) := by decide +kernel
theorem dX1_isStill_34 : decode cX1_isStill 34 = .ok (.goto (-32), 3) := by decide +kernel
theorem dX1_isStill_37 : decode cX1_isStill 37 = .ok (.iconst 1, 1) := by decide +kernel
theorem dX1_isStill_38 : decode cX1_isStill 38 = .ok (.ireturn, 1) := by decide +kernel
theorem r_X1_isStill_0 {d rc rs : Nat} {Q : PO → PH → Prop} {h : PH} {l0 : Nat} {l1 : Int32}
    (k : PW d M_X1_isStill Q rc rs 2 [vR (100, l0), vI l1, vI (0 : Int32)] [] h) :
    PW d M_X1_isStill Q rc rs 0 [vR (100, l0), vI l1, vU] [] h := by
  refine P_iconst (v := (0 : Int32)) (pc := 0) dX1_isStill_0 (by decide) ?_
  refine P_istore_n (pc := 1) dX1_isStill_1 (by decide) (Or.inr (by intro z e9; cases e9)) rfl ?_
  exact k
theorem r_X1_isStill_2 {d rc rs : Nat} {Q : PO → PH → Prop} {h : PH} {l0 : Nat} {l1 : Int32} {l2 : Int32}
    (k : gI h (10107, l0) fun x1 => br (l2 < x1) (br ((l1 &&& ((1 : Int32) <<< (l2 &&& 31))) = 0) (PW d M_X1_isStill Q rc rs 2 [vR (100, l0), vI l1, vI (l2 + (1 : Int32))] [] h) (gA h (10102, l0) fun a2 => xI h a2 l2 fun x3 => br ((l1 &&& x3) = 0) (PW d M_X1_isStill Q rc rs 2 [vR (100, l0), vI l1, vI (l2 + (1 : Int32))] [] h) (Q (.inl (some (vI (0 : Int32)))) h))) (Q (.inl (some (vI (1 : Int32)))) h)) :
    PW d M_X1_isStill Q rc rs 2 [vR (100, l0), vI l1, vI l2] [] h := by
  refine P_iload_n (pc := 2) dX1_isStill_2 rfl ?_
  refine P_aload_n (pc := 3) dX1_isStill_3 rfl ?_
  obtain ⟨x1, e9, k⟩ := k
  refine G1_7 (pc := 4) dX1_isStill_4 l_X1_37 e9 ?_
  clear e9
  refine P_icmp_ge (tgt := 37) (pc := 7) dX1_isStill_7 (by decide) (fun c => ?_) (fun c => ?_)
  · have k := k.2 (Int32.not_lt.mpr c)
    refine P_iconst (v := (1 : Int32)) (pc := 37) dX1_isStill_37 (by decide) ?_
    exact R_ireturn (pc := 38) dX1_isStill_38 rfl rfl k
  · have k := k.1 (Int32.not_le.mp c)
    refine P_iload_n (pc := 10) dX1_isStill_10 rfl ?_
    refine P_iconst (v := (1 : Int32)) (pc := 11) dX1_isStill_11 (by decide) ?_
    refine P_iload_n (pc := 12) dX1_isStill_12 rfl ?_
    refine P_ishl (pc := 13) dX1_isStill_13 ?_
    refine P_iand (pc := 14) dX1_isStill_14 ?_
    refine P_if_eq (tgt := 31) (pc := 15) dX1_isStill_15 (by decide) (fun c => ?_) (fun c => ?_)
    · have k := k.1 c
      refine P_iinc (v := l2 + (1 : Int32)) (pc := 31) dX1_isStill_31 (by decide) rfl rfl (Or.inr (by intro z e9; cases e9)) rfl ?_
      refine P_goto (tgt := 2) (pc := 34) dX1_isStill_34 (by decide) ?_
      exact k
    · have k := k.2 c
      refine P_iload_n (pc := 18) dX1_isStill_18 rfl ?_
      refine P_aload_n (pc := 19) dX1_isStill_19 rfl ?_
      obtain ⟨a2, e9, k⟩ := k
      refine G1_2 (pc := 20) dX1_isStill_20 l_X1_18 e9 ?_
      clear e9
      refine P_iload_n (pc := 23) dX1_isStill_23 rfl ?_
      obtain ⟨n9, f9, e9, i9, k⟩ := k
      refine P_iald (pc := 24) dX1_isStill_24 e9 i9 ?_
      clear e9
      generalize f9 (Int32.toNatClampNeg l2) = x3 at k ⊢
      refine P_iand (pc := 25) dX1_isStill_25 ?_
      refine P_if_eq (tgt := 31) (pc := 26) dX1_isStill_26 (by decide) (fun c => ?_) (fun c => ?_)
      · have k := k.1 c
        refine P_iinc (v := l2 + (1 : Int32)) (pc := 31) dX1_isStill_31 (by decide) rfl rfl (Or.inr (by intro z e9; cases e9)) rfl ?_
        refine P_goto (tgt := 2) (pc := 34) dX1_isStill_34 (by decide) ?_
        exact k
      · have k := k.2 c
        refine P_iconst (v := (0 : Int32)) (pc := 29) dX1_isStill_29 (by decide) ?_
        exact R_ireturn (pc := 30) dX1_isStill_30 rfl rfl k
-- X1_mossBy mossBy(II)I
theorem dX1_mossBy_0 : decode cX1_mossBy 0 = .ok (.iconst 0, 1) := by decide +kernel
theorem dX1_mossBy_1 : decode cX1_mossBy 1 = .ok (.istore_n 3, 1) := by decide +kernel
theorem dX1_mossBy_2 : decode cX1_mossBy 2 = .ok (.iconst 0, 1) := by decide +kernel
theorem dX1_mossBy_3 : decode cX1_mossBy 3 = .ok (.istore 4, 2) := by decide +kernel
theorem dX1_mossBy_5 : decode cX1_mossBy 5 = .ok (.iload 4, 2) := by decide +kernel
theorem dX1_mossBy_7 : decode cX1_mossBy 7 = .ok (.aload_n 0, 1) := by decide +kernel
theorem dX1_mossBy_8 : decode cX1_mossBy 8 = .ok (.getfield 37, 3) := by decide +kernel
theorem dX1_mossBy_11 : decode cX1_mossBy 11 = .ok (.if_icmp .ge 32, 3) := by decide +kernel
theorem dX1_mossBy_14 : decode cX1_mossBy 14 = .ok (.iload_n 1, 1) := by decide +kernel
theorem dX1_mossBy_15 : decode cX1_mossBy 15 = .ok (.iconst 1, 1) := by decide +kernel
theorem dX1_mossBy_16 : decode cX1_mossBy 16 = .ok (.iload 4, 2) := by decide +kernel
theorem dX1_mossBy_18 : decode cX1_mossBy 18 = .ok (.ishl, 1) := by decide +kernel
theorem dX1_mossBy_19 : decode cX1_mossBy 19 = .ok (.iand, 1) := by decide +kernel
theorem dX1_mossBy_20 : decode cX1_mossBy 20 = .ok (.ifCond .eq 17, 3) := by decide +kernel
theorem dX1_mossBy_23 : decode cX1_mossBy 23 = .ok (.iload_n 3, 1) := by decide +kernel
theorem dX1_mossBy_24 : decode cX1_mossBy 24 = .ok (.aload_n 0, 1) := by decide +kernel
theorem dX1_mossBy_25 : decode cX1_mossBy 25 = .ok (.getfield 9, 3) := by decide +kernel
theorem dX1_mossBy_28 : decode cX1_mossBy 28 = .ok (.iload 4, 2) := by decide +kernel
theorem dX1_mossBy_30 : decode cX1_mossBy 30 = .ok (.iaload, 1) := by decide +kernel
theorem dX1_mossBy_31 : decode cX1_mossBy 31 = .ok (.iload_n 2, 1) := by decide +kernel
theorem dX1_mossBy_32 : decode cX1_mossBy 32 = .ok (.invokestatic 119, 3) := by decide +kernel
theorem dX1_mossBy_35 : decode cX1_mossBy 35 = .ok (.iadd, 1) := by decide +kernel
theorem dX1_mossBy_36 : decode cX1_mossBy 36 = .ok (.istore_n 3, 1) := by decide +kernel
theorem dX1_mossBy_37 : decode cX1_mossBy 37 = .ok (.iinc 4 1, 3) := by decide +kernel
theorem dX1_mossBy_40 : decode cX1_mossBy 40 = .ok (.goto (-35), 3) := by decide +kernel
theorem dX1_mossBy_43 : decode cX1_mossBy 43 = .ok (.iload_n 3, 1) := by decide +kernel
theorem dX1_mossBy_44 : decode cX1_mossBy 44 = .ok (.ireturn, 1) := by decide +kernel
theorem r_X1_mossBy_0 {d rc rs : Nat} {Q : PO → PH → Prop} {h : PH} {l0 : Nat} {l1 : Int32} {l2 : Int32}
    (k : PW d M_X1_mossBy Q rc rs 5 [vR (100, l0), vI l1, vI l2, vI (0 : Int32), vI (0 : Int32)] [] h) :
    PW d M_X1_mossBy Q rc rs 0 [vR (100, l0), vI l1, vI l2, vU, vU] [] h := by
  refine P_iconst (v := (0 : Int32)) (pc := 0) dX1_mossBy_0 (by decide) ?_
  refine P_istore_n (pc := 1) dX1_mossBy_1 (by decide) (Or.inr (by intro z e9; cases e9)) rfl ?_
  refine P_iconst (v := (0 : Int32)) (pc := 2) dX1_mossBy_2 (by decide) ?_
  refine P_istore (pc := 3) dX1_mossBy_3 (by decide) (Or.inr (by intro z e9; cases e9)) rfl ?_
  exact k
theorem r_X1_mossBy_5 {d rc rs : Nat} {Q : PO → PH → Prop} {h : PH} {l0 : Nat} {l1 : Int32} {l2 : Int32} {l3 : Int32} {l4 : Int32}
    (k : gI h (10107, l0) fun x1 => br (l4 < x1) (br ((l1 &&& ((1 : Int32) <<< (l4 &&& 31))) = 0) (PW d M_X1_mossBy Q rc rs 5 [vR (100, l0), vI l1, vI l2, vI l3, vI (l4 + (1 : Int32))] [] h) (gA h (10100, l0) fun a2 => xI h a2 l4 fun x3 => cl d rc rs M_J9_min_7cf53 [vI x3, vI l2] h (kI fun x7 h4 rc5 rs6 => PW d M_X1_mossBy Q rc5 rs6 5 [vR (100, l0), vI l1, vI l2, vI (l3 + x7), vI (l4 + (1 : Int32))] [] h4) (fun E h4 rc5 rs6 => Q (.inr E) h4))) (Q (.inl (some (vI l3))) h)) :
    PW d M_X1_mossBy Q rc rs 5 [vR (100, l0), vI l1, vI l2, vI l3, vI l4] [] h := by
  refine P_iload (pc := 5) dX1_mossBy_5 rfl ?_
  refine P_aload_n (pc := 7) dX1_mossBy_7 rfl ?_
  obtain ⟨x1, e9, k⟩ := k
  refine G1_7 (pc := 8) dX1_mossBy_8 l_X1_37 e9 ?_
  clear e9
  refine P_icmp_ge (tgt := 43) (pc := 11) dX1_mossBy_11 (by decide) (fun c => ?_) (fun c => ?_)
  · have k := k.2 (Int32.not_lt.mpr c)
    refine P_iload_n (pc := 43) dX1_mossBy_43 rfl ?_
    exact R_ireturn (pc := 44) dX1_mossBy_44 rfl rfl k
  · have k := k.1 (Int32.not_le.mp c)
    refine P_iload_n (pc := 14) dX1_mossBy_14 rfl ?_
    refine P_iconst (v := (1 : Int32)) (pc := 15) dX1_mossBy_15 (by decide) ?_
    refine P_iload (pc := 16) dX1_mossBy_16 rfl ?_
    refine P_ishl (pc := 18) dX1_mossBy_18 ?_
    refine P_iand (pc := 19) dX1_mossBy_19 ?_
    refine P_if_eq (tgt := 37) (pc := 20) dX1_mossBy_20 (by decide) (fun c => ?_) (fun c => ?_)
    · have k := k.1 c
      refine P_iinc (v := l4 + (1 : Int32)) (pc := 37) dX1_mossBy_37 (by decide) rfl rfl (Or.inr (by intro z e9; cases e9)) rfl ?_
      refine P_goto (tgt := 5) (pc := 40) dX1_mossBy_40 (by decide) ?_
      exact k
    · have k := k.2 c
      refine P_iload_n (pc := 23) dX1_mossBy_23 rfl ?_
      refine P_aload_n (pc := 24) dX1_mossBy_24 rfl ?_
      obtain ⟨a2, e9, k⟩ := k
      refine G1_0 (pc := 25) dX1_mossBy_25 l_X1_9 e9 ?_
      clear e9
      refine P_iload (pc := 28) dX1_mossBy_28 rfl ?_
      obtain ⟨n9, f9, e9, i9, k⟩ := k
      refine P_iald (pc := 30) dX1_mossBy_30 e9 i9 ?_
      clear e9
      generalize f9 (Int32.toNatClampNeg l4) = x3 at k ⊢
      refine P_iload_n (pc := 31) dX1_mossBy_31 rfl ?_
      obtain ⟨d2, nc, ns, rc5, rs6, Qc, g1, rfl, rfl, g2, kk, kx⟩ := k
      refine P_callS (As := [vI x3, vI l2]) (st := [vI l3]) (pc := 32) dX1_mossBy_32 mk_J9_min_7cf53 l_X1_119 st_J9_min_7cf53 ini_J9 rfl g1 (Nat.le_of_ble_eq_true rfl) rfl g2 (fun v9 h9 q9 => ?_) (fun E h9 q9 => PX_out rfl (kx E h9 q9))
      obtain ⟨x7, rfl, k⟩ := kk v9 h9 q9
      clear kk kx g1 g2 q9
      refine P_iadd (pc := 35) dX1_mossBy_35 ?_
      refine P_istore_n (pc := 36) dX1_mossBy_36 (by decide) (Or.inr (by intro z e9; cases e9)) rfl ?_
      refine P_iinc (v := l4 + (1 : Int32)) (pc := 37) dX1_mossBy_37 (by decide) rfl rfl (Or.inr (by intro z e9; cases e9)) rfl ?_
      refine P_goto (tgt := 5) (pc := 40) dX1_mossBy_40 (by decide) ?_
      exact k
-- X2_init <init>()V
theorem dX2_init_0 : decode cX2_init 0 = .ok (.aload_n 0, 1) := by decide +kernel
theorem dX2_init_1 : decode cX2_init 1 = .ok (.invokespecial 3, 3) := by decide +kernel
theorem dX2_init_4 : decode cX2_init 4 = .ok (.aload_n 0, 1) := by decide +kernel
theorem dX2_init_5 : decode cX2_init 5 = .ok (.new 9, 3) := by decide +kernel
theorem dX2_init_8 : decode cX2_init 8 = .ok (.dup, 1) := by decide +kernel
theorem dX2_init_9 : decode cX2_init 9 = .ok (.invokespecial 11, 3) := by decide +kernel
theorem dX2_init_12 : decode cX2_init 12 = .ok (.putfield 12, 3) := by decide +kernel
theorem dX2_init_15 : decode cX2_init 15 = .ok (.aload_n 0, 1) := by decide +kernel
theorem dX2_init_16 : decode cX2_init 16 = .ok (.bipush 16, 2) := by decide +kernel
theorem dX2_init_18 : decode cX2_init 18 = .ok (.anewarray 9, 3) := by decide +kernel
theorem dX2_init_21 : decode cX2_init 21 = .ok (.putfield 18, 3) := by decide +kernel
theorem dX2_init_24 : decode cX2_init 24 = .ok (.iconst 0, 1) := by decide +kernel
theorem dX2_init_25 : decode cX2_init 25 = .ok (.istore_n 1, 1) := by decide +kernel
theorem dX2_init_26 : decode cX2_init 26 = .ok (.iload_n 1, 1) := by decide +kernel
theorem dX2_init_27 : decode cX2_init 27 = .ok (.bipush 16, 2) := by decide +kernel
theorem dX2_init_29 : decode cX2_init 29 = .ok (.if_icmp .ge 22, 3) := by decide +kernel
theorem dX2_init_32 : decode cX2_init 32 = .ok (.aload_n 0, 1) := by decide +kernel
theorem dX2_init_33 : decode cX2_init 33 = .ok (.getfield 18, 3) := by decide +kernel
theorem dX2_init_36 : decode cX2_init 36 = .ok (.iload_n 1, 1) := by decide +kernel
theorem dX2_init_37 : decode cX2_init 37 = .ok (.new 9, 3) := by decide +kernel
theorem dX2_init_40 : decode cX2_init 40 = .ok (.dup, 1) := by decide +kernel
theorem dX2_init_41 : decode cX2_init 41 = .ok (.invokespecial 11, 3) := by decide +kernel
theorem dX2_init_44 : decode cX2_init 44 = .ok (.aastore, 1) := by decide +kernel
theorem dX2_init_45 : decode cX2_init 45 = .ok (.iinc 1 1, 3) := by decide +kernel
theorem dX2_init_48 : decode cX2_init 48 = .ok (.goto (-22), 3) := by decide +kernel
theorem dX2_init_51 : decode cX2_init 51 = .ok (.return_, 1) := by decide +kernel
theorem r_X2_init_0 {d rc rs : Nat} {Q : PO → PH → Prop} {h : PH} {l0 : Nat}
    (k : 1 ≤ d ∧ nwO h 4 10 rc rs (dvT tyX4) fun o1 h2 rc3 rs4 => cl d rc3 rs4 M_X4_init [vR (400, o1)] h2 (kV fun h5 rc6 rs7 => sF h5 (10200, l0) (vR (400, o1)) fun h8 => nwA h8 4 (16 : Int32) (.inr (.inr (fun _ => none))) rc6 rs7 fun a9 h10 rc11 rs12 => sF h10 (10201, l0) (vR a9) fun h13 => PW d M_X2_init Q rc11 rs12 26 [vR (200, l0), vI (0 : Int32)] [] h13) (fun E h5 rc6 rs7 => Q (.inr E) h5)) :
    PW d M_X2_init Q rc rs 0 [vR (200, l0), vU] [] h := by
  refine P_aload_n (pc := 0) dX2_init_0 rfl ?_
  refine P_objInit (pc := 1) dX2_init_1 l_X2_3 oi_in oi_co k.1 (Nat.le_of_ble_eq_true rfl) ?_
  replace k := k.2
  refine P_aload_n (pc := 4) dX2_init_4 rfl ?_
  obtain ⟨o1, g9, rc3, rs4, rfl, rfl, b3, k⟩ := k
  refine P_new (ci := 4) (q := (RX4, TX4, 10)) (pc := 5) dX2_init_5 rfl l_X2_9 ins_X4 ini_X4 inT4 tyX4_ok dv4 b3 ?_
  refine P_dup (pc := 8) dX2_init_8 (fun _ => rfl) ?_
  obtain ⟨d2, nc, ns, rc6, rs7, Qc, g1, rfl, rfl, g2, kk, kx⟩ := k
  refine P_callIN (As := []) (st := [vR (400, o1), vR (200, l0)]) (pc := 9) dX2_init_9 mk_X4_init n_X2_11 im_X4_init rfl ini_X4 rfl g1 (Nat.le_of_ble_eq_true rfl) rfl g2 (fun v9 h9 q9 => ?_) (fun E h9 q9 => PX_out rfl (kx E h9 q9))
  obtain ⟨rfl, k⟩ := kk v9 h9 q9
  clear kk kx g1 g2 q9
  obtain ⟨⟨v9, e9⟩, k⟩ := k
  refine S2_0 (pc := 12) dX2_init_12 l_X2_12 rfl rfl e9 ?_
  clear e9
  refine P_aload_n (pc := 15) dX2_init_15 rfl ?_
  refine P_bipush (v := (16 : Int32)) (pc := 16) dX2_init_16 (by decide) ?_
  obtain ⟨a9, n9, m9, g9, rc11, rs12, b1, b2, b3, b4, b5, b6, rfl, rfl, k⟩ := k
  refine P_anew (kd := 4) (cn := "FernHeirs$Morning") (pc := 18) dX2_init_18 (by decide) rfl l_X2_9 ao_Morning b1 b2 b3 b4 b5 b6 ?_
  obtain ⟨⟨v9, e9⟩, k⟩ := k
  refine S2_1 (pc := 21) dX2_init_21 l_X2_18 rfl rfl e9 ?_
  clear e9
  refine P_iconst (v := (0 : Int32)) (pc := 24) dX2_init_24 (by decide) ?_
  refine P_istore_n (pc := 25) dX2_init_25 (by decide) (Or.inr (by intro z e9; cases e9)) rfl ?_
  exact k
theorem r_X2_init_26 {d rc rs : Nat} {Q : PO → PH → Prop} {h : PH} {l0 : Nat} {l1 : Int32}
    (k : br (l1 < (16 : Int32)) (gA h (10201, l0) fun a1 => nwO h 4 10 rc rs (dvT tyX4) fun o2 h3 rc4 rs5 => cl d rc4 rs5 M_X4_init [vR (400, o2)] h3 (kV fun h6 rc7 rs8 => yO h6 a1 l1 4 10400 400 o2 fun h9 => PW d M_X2_init Q rc7 rs8 26 [vR (200, l0), vI (l1 + (1 : Int32))] [] h9) (fun E h6 rc7 rs8 => Q (.inr E) h6)) (Q (.inl none) h)) :
    PW d M_X2_init Q rc rs 26 [vR (200, l0), vI l1] [] h := by
  refine P_iload_n (pc := 26) dX2_init_26 rfl ?_
  refine P_bipush (v := (16 : Int32)) (pc := 27) dX2_init_27 (by decide) ?_
  refine P_icmp_ge (tgt := 51) (pc := 29) dX2_init_29 (by decide) (fun c => ?_) (fun c => ?_)
  · have k := k.2 (Int32.not_lt.mpr c)
    exact R_return (pc := 51) dX2_init_51 rfl k
  · have k := k.1 (Int32.not_le.mp c)
    refine P_aload_n (pc := 32) dX2_init_32 rfl ?_
    obtain ⟨a1, e9, k⟩ := k
    refine G2_1 (pc := 33) dX2_init_33 l_X2_18 e9 ?_
    clear e9
    refine P_iload_n (pc := 36) dX2_init_36 rfl ?_
    obtain ⟨o2, g9, rc4, rs5, rfl, rfl, b3, k⟩ := k
    refine P_new (ci := 4) (q := (RX4, TX4, 10)) (pc := 37) dX2_init_37 rfl l_X2_9 ins_X4 ini_X4 inT4 tyX4_ok dv4 b3 ?_
    refine P_dup (pc := 40) dX2_init_40 (fun _ => rfl) ?_
    obtain ⟨d2, nc, ns, rc7, rs8, Qc, g1, rfl, rfl, g2, kk, kx⟩ := k
    refine P_callIN (As := []) (st := [vR (400, o2), vI l1, vR a1]) (pc := 41) dX2_init_41 mk_X4_init n_X2_11 im_X4_init rfl ini_X4 rfl g1 (Nat.le_of_ble_eq_true rfl) rfl g2 (fun v9 h9 q9 => ?_) (fun E h9 q9 => PX_out rfl (kx E h9 q9))
    obtain ⟨rfl, k⟩ := kk v9 h9 q9
    clear kk kx g1 g2 q9
    obtain ⟨n9, f9, e9, i9, ⟨v9, b9⟩, k⟩ := k
    refine P_aast (kd := 4) (ci := 4) (k0 := 0) (q := (RX4, TX4, 10)) (pc := 44) dX2_init_44 (by decide) rfl rfl e9 i9 (by decide) b9 ?_
    clear e9
    refine P_iinc (v := l1 + (1 : Int32)) (pc := 45) dX2_init_45 (by decide) rfl rfl (Or.inr (by intro z e9; cases e9)) rfl ?_
    refine P_goto (tgt := 26) (pc := 48) dX2_init_48 (by decide) ?_
    exact k
-- X2_begin begin(LFernHeirs$Court;)V
theorem dX2_begin_0 : decode cX2_begin 0 = .ok (.aload_n 0, 1) := by decide +kernel
theorem dX2_begin_1 : decode cX2_begin 1 = .ok (.getfield 12, 3) := by decide +kernel
theorem dX2_begin_4 : decode cX2_begin 4 = .ok (.aload_n 1, 1) := by decide +kernel
theorem dX2_begin_5 : decode cX2_begin 5 = .ok (.invokevirtual 22, 3) := by decide +kernel
theorem dX2_begin_8 : decode cX2_begin 8 = .ok (.aload_n 0, 1) := by decide +kernel
theorem dX2_begin_9 : decode cX2_begin 9 = .ok (.iconst 0, 1) := by decide +kernel
theorem dX2_begin_10 : decode cX2_begin 10 = .ok (.putfield 26, 3) := by decide +kernel
theorem dX2_begin_13 : decode cX2_begin 13 = .ok (.return_, 1) := by decide +kernel
theorem r_X2_begin_0 {d rc rs : Nat} {Q : PO → PH → Prop} {h : PH} {l0 : Nat} {l1 : Nat}
    (k : gO h (10200, l0) 400 fun o1 => isO h 10400 o1 ∧ cl d rc rs M_X4_begin [vR (400, o1), vR (100, l1)] h (kV fun h2 rc3 rs4 => sF h2 (10202, l0) (vI (0 : Int32)) fun h5 => Q (.inl none) h5) (fun E h2 rc3 rs4 => Q (.inr E) h2)) :
    PW d M_X2_begin Q rc rs 0 [vR (200, l0), vR (100, l1)] [] h := by
  refine P_aload_n (pc := 0) dX2_begin_0 rfl ?_
  obtain ⟨o1, e9, k⟩ := k
  refine G2_0 (pc := 1) dX2_begin_1 l_X2_12 e9 ?_
  clear e9
  refine P_aload_n (pc := 4) dX2_begin_4 rfl ?_
  obtain ⟨⟨w9, e9⟩, d2, nc, ns, rc3, rs4, Qc, g1, rfl, rfl, g2, kk, kx⟩ := k
  refine P_callV (ci := 4) (k := 0) (id := o1) (q := (RX4, TX4, 10)) (As := [vR (100, l1)]) (st := []) (pc := 5) dX2_begin_5 mk_X4_begin l_X2_22 im_X4_begin se_X4_begin ini_X4 rfl g1 (Nat.le_of_ble_eq_true rfl) rfl rfl (by decide) e9 rfl g2 (fun v9 h9 q9 => ?_) (fun E h9 q9 => PX_out rfl (kx E h9 q9))
  obtain ⟨rfl, k⟩ := kk v9 h9 q9
  clear kk kx g1 g2 q9
  refine P_aload_n (pc := 8) dX2_begin_8 rfl ?_
  refine P_iconst (v := (0 : Int32)) (pc := 9) dX2_begin_9 (by decide) ?_
  obtain ⟨⟨v9, e9⟩, k⟩ := k
  refine S2_2 (pc := 10) dX2_begin_10 l_X2_26 e9 ?_
  clear e9
  exact R_return (pc := 13) dX2_begin_13 rfl k
-- X2_copy copy(LFernHeirs$History;)V
theorem dX2_copy_0 : decode cX2_copy 0 = .ok (.aload_n 0, 1) := by decide +kernel
theorem dX2_copy_1 : decode cX2_copy 1 = .ok (.getfield 12, 3) := by decide +kernel
theorem dX2_copy_4 : decode cX2_copy 4 = .ok (.aload_n 1, 1) := by decide +kernel
theorem dX2_copy_5 : decode cX2_copy 5 = .ok (.getfield 12, 3) := by decide +kernel
theorem dX2_copy_8 : decode cX2_copy 8 = .ok (.invokevirtual 30, 3) := by decide +kernel
theorem dX2_copy_11 : decode cX2_copy 11 = .ok (.aload_n 0, 1) := by decide +kernel
theorem dX2_copy_12 : decode cX2_copy 12 = .ok (.aload_n 1, 1) := by decide +kernel
theorem dX2_copy_13 : decode cX2_copy 13 = .ok (.getfield 26, 3) := by decide +kernel
theorem dX2_copy_16 : decode cX2_copy 16 = .ok (.putfield 26, 3) := by decide +kernel
theorem dX2_copy_19 : decode cX2_copy 19 = .ok (.iconst 0, 1) := by decide +kernel
theorem dX2_copy_20 : decode cX2_copy 20 = .ok (.istore_n 2, 1) := by decide +kernel
theorem dX2_copy_21 : decode cX2_copy 21 = .ok (.iload_n 2, 1) := by decide +kernel
theorem dX2_copy_22 : decode cX2_copy 22 = .ok (.aload_n 0, 1) := by decide +kernel
theorem dX2_copy_23 : decode cX2_copy 23 = .ok (.getfield 26, 3) := by decide +kernel
theorem dX2_copy_26 : decode cX2_copy 26 = .ok (.if_icmp .ge 30, 3) := by decide +kernel
theorem dX2_copy_29 : decode cX2_copy 29 = .ok (.iload_n 2, 1) := by decide +kernel
theorem dX2_copy_30 : decode cX2_copy 30 = .ok (.bipush 16, 2) := by decide +kernel
theorem dX2_copy_32 : decode cX2_copy 32 = .ok (.if_icmp .ge 24, 3) := by decide +kernel
theorem dX2_copy_35 : decode cX2_copy 35 = .ok (.aload_n 0, 1) := by decide +kernel
theorem dX2_copy_36 : decode cX2_copy 36 = .ok (.getfield 18, 3) := by decide +kernel
theorem dX2_copy_39 : decode cX2_copy 39 = .ok (.iload_n 2, 1) := by decide +kernel
theorem dX2_copy_40 : decode cX2_copy 40 = .ok (.aaload, 1) := by decide +kernel
theorem dX2_copy_41 : decode cX2_copy 41 = .ok (.aload_n 1, 1) := by decide +kernel
theorem dX2_copy_42 : decode cX2_copy 42 = .ok (.getfield 18, 3) := by decide +kernel
theorem dX2_copy_45 : decode cX2_copy 45 = .ok (.iload_n 2, 1) := by decide +kernel
theorem dX2_copy_46 : decode cX2_copy 46 = .ok (.aaload, 1) := by decide +kernel
theorem dX2_copy_47 : decode cX2_copy 47 = .ok (.invokevirtual 30, 3) := by decide +kernel
theorem dX2_copy_50 : decode cX2_copy 50 = .ok (.iinc 2 1, 3) := by decide +kernel
theorem dX2_copy_53 : decode cX2_copy 53 = .ok (.goto (-32), 3) := by decide +kernel
theorem dX2_copy_56 : decode cX2_copy 56 = .ok (.return_, 1) := by decide +kernel
theorem r_X2_copy_0 {d rc rs : Nat} {Q : PO → PH → Prop} {h : PH} {l0 : Nat} {l1 : Nat}
    (k : gO h (10200, l0) 400 fun o1 => gO h (10200, l1) 400 fun o2 => isO h 10400 o1 ∧ cl d rc rs M_X4_copy [vR (400, o1), vR (400, o2)] h (kV fun h3 rc4 rs5 => gI h3 (10202, l1) fun x6 => sF h3 (10202, l0) (vI x6) fun h7 => PW d M_X2_copy Q rc4 rs5 21 [vR (200, l0), vR (200, l1), vI (0 : Int32)] [] h7) (fun E h3 rc4 rs5 => Q (.inr E) h3)) :
    PW d M_X2_copy Q rc rs 0 [vR (200, l0), vR (200, l1), vU] [] h := by
  refine P_aload_n (pc := 0) dX2_copy_0 rfl ?_
  obtain ⟨o1, e9, k⟩ := k
  refine G2_0 (pc := 1) dX2_copy_1 l_X2_12 e9 ?_
  clear e9
  refine P_aload_n (pc := 4) dX2_copy_4 rfl ?_
  obtain ⟨o2, e9, k⟩ := k
  refine G2_0 (pc := 5) dX2_copy_5 l_X2_12 e9 ?_
  clear e9
  obtain ⟨⟨w9, e9⟩, d2, nc, ns, rc4, rs5, Qc, g1, rfl, rfl, g2, kk, kx⟩ := k
  refine P_callV (ci := 4) (k := 0) (id := o1) (q := (RX4, TX4, 10)) (As := [vR (400, o2)]) (st := []) (pc := 8) dX2_copy_8 mk_X4_copy l_X2_30 im_X4_copy se_X4_copy ini_X4 rfl g1 (Nat.le_of_ble_eq_true rfl) rfl rfl (by decide) e9 rfl g2 (fun v9 h9 q9 => ?_) (fun E h9 q9 => PX_out rfl (kx E h9 q9))
  obtain ⟨rfl, k⟩ := kk v9 h9 q9
  clear kk kx g1 g2 q9
  refine P_aload_n (pc := 11) dX2_copy_11 rfl ?_
  refine P_aload_n (pc := 12) dX2_copy_12 rfl ?_
  obtain ⟨x6, e9, k⟩ := k
  refine G2_2 (pc := 13) dX2_copy_13 l_X2_26 e9 ?_
  clear e9
  obtain ⟨⟨v9, e9⟩, k⟩ := k
  refine S2_2 (pc := 16) dX2_copy_16 l_X2_26 e9 ?_
  clear e9
  refine P_iconst (v := (0 : Int32)) (pc := 19) dX2_copy_19 (by decide) ?_
  refine P_istore_n (pc := 20) dX2_copy_20 (by decide) (Or.inr (by intro z e9; cases e9)) rfl ?_
  exact k
theorem r_X2_copy_21 {d rc rs : Nat} {Q : PO → PH → Prop} {h : PH} {l0 : Nat} {l1 : Nat} {l2 : Int32}
    (k : gI h (10202, l0) fun x1 => br (l2 < x1) (br (l2 < (16 : Int32)) (gA h (10201, l0) fun a2 => xO h a2 l2 4 400 fun o3 => gA h (10201, l1) fun a4 => xO h a4 l2 4 400 fun o5 => isO h 10400 o3 ∧ cl d rc rs M_X4_copy [vR (400, o3), vR (400, o5)] h (kV fun h6 rc7 rs8 => PW d M_X2_copy Q rc7 rs8 21 [vR (200, l0), vR (200, l1), vI (l2 + (1 : Int32))] [] h6) (fun E h6 rc7 rs8 => Q (.inr E) h6)) (Q (.inl none) h)) (Q (.inl none) h)) :
    PW d M_X2_copy Q rc rs 21 [vR (200, l0), vR (200, l1), vI l2] [] h := by
  refine P_iload_n (pc := 21) dX2_copy_21 rfl ?_
  refine P_aload_n (pc := 22) dX2_copy_22 rfl ?_
  obtain ⟨x1, e9, k⟩ := k
  refine G2_2 (pc := 23) dX2_copy_23 l_X2_26 e9 ?_
  clear e9
  refine P_icmp_ge (tgt := 56) (pc := 26) dX2_copy_26 (by decide) (fun c => ?_) (fun c => ?_)
  · have k := k.2 (Int32.not_lt.mpr c)
    exact R_return (pc := 56) dX2_copy_56 rfl k
  · have k := k.1 (Int32.not_le.mp c)
    refine P_iload_n (pc := 29) dX2_copy_29 rfl ?_
    refine P_bipush (v := (16 : Int32)) (pc := 30) dX2_copy_30 (by decide) ?_
    refine P_icmp_ge (tgt := 56) (pc := 32) dX2_copy_32 (by decide) (fun c => ?_) (fun c => ?_)
    · have k := k.2 (Int32.not_lt.mpr c)
      exact R_return (pc := 56) dX2_copy_56 rfl k
    · have k := k.1 (Int32.not_le.mp c)
      refine P_aload_n (pc := 35) dX2_copy_35 rfl ?_
      obtain ⟨a2, e9, k⟩ := k
      refine G2_1 (pc := 36) dX2_copy_36 l_X2_18 e9 ?_
      clear e9
      refine P_iload_n (pc := 39) dX2_copy_39 rfl ?_
      obtain ⟨n9, f9, o3, e9, i9, b9, k⟩ := k
      refine P_aald (kd := 4) (pc := 40) dX2_copy_40 (by decide) rfl e9 i9 b9 ?_
      refine P_aload_n (pc := 41) dX2_copy_41 rfl ?_
      obtain ⟨a4, e9, k⟩ := k
      refine G2_1 (pc := 42) dX2_copy_42 l_X2_18 e9 ?_
      clear e9
      refine P_iload_n (pc := 45) dX2_copy_45 rfl ?_
      obtain ⟨n9, f9, o5, e9, i9, b9, k⟩ := k
      refine P_aald (kd := 4) (pc := 46) dX2_copy_46 (by decide) rfl e9 i9 b9 ?_
      obtain ⟨⟨w9, e9⟩, d2, nc, ns, rc7, rs8, Qc, g1, rfl, rfl, g2, kk, kx⟩ := k
      refine P_callV (ci := 4) (k := 0) (id := o3) (q := (RX4, TX4, 10)) (As := [vR (400, o5)]) (st := []) (pc := 47) dX2_copy_47 mk_X4_copy l_X2_30 im_X4_copy se_X4_copy ini_X4 rfl g1 (Nat.le_of_ble_eq_true rfl) rfl rfl (by decide) e9 rfl g2 (fun v9 h9 q9 => ?_) (fun E h9 q9 => PX_out rfl (kx E h9 q9))
      obtain ⟨rfl, k⟩ := kk v9 h9 q9
      clear kk kx g1 g2 q9
      refine P_iinc (v := l2 + (1 : Int32)) (pc := 50) dX2_copy_50 (by decide) rfl rfl (Or.inr (by intro z e9; cases e9)) rfl ?_
      refine P_goto (tgt := 21) (pc := 53) dX2_copy_53 (by decide) ?_
      exact k
-- X2_keep keep()V
theorem dX2_keep_0 : decode cX2_keep 0 = .ok (.aload_n 0, 1) := by decide +kernel
theorem dX2_keep_1 : decode cX2_keep 1 = .ok (.getfield 26, 3) := by decide +kernel
theorem dX2_keep_4 : decode cX2_keep 4 = .ok (.bipush 16, 2) := by decide +kernel
theorem dX2_keep_6 : decode cX2_keep 6 = .ok (.if_icmp .ge 29, 3) := by decide +kernel
theorem dX2_keep_9 : decode cX2_keep 9 = .ok (.aload_n 0, 1) := by decide +kernel
theorem dX2_keep_10 : decode cX2_keep 10 = .ok (.getfield 18, 3) := by decide +kernel
theorem dX2_keep_13 : decode cX2_keep 13 = .ok (.aload_n 0, 1) := by decide +kernel
theorem dX2_keep_14 : decode cX2_keep 14 = .ok (.getfield 26, 3) := by decide +kernel
theorem dX2_keep_17 : decode cX2_keep 17 = .ok (.aaload, 1) := by decide +kernel
theorem dX2_keep_18 : decode cX2_keep 18 = .ok (.aload_n 0, 1) := by decide +kernel
theorem dX2_keep_19 : decode cX2_keep 19 = .ok (.getfield 12, 3) := by decide +kernel
theorem dX2_keep_22 : decode cX2_keep 22 = .ok (.invokevirtual 30, 3) := by decide +kernel
theorem dX2_keep_25 : decode cX2_keep 25 = .ok (.aload_n 0, 1) := by decide +kernel
theorem dX2_keep_26 : decode cX2_keep 26 = .ok (.dup, 1) := by decide +kernel
theorem dX2_keep_27 : decode cX2_keep 27 = .ok (.getfield 26, 3) := by decide +kernel
theorem dX2_keep_30 : decode cX2_keep 30 = .ok (.iconst 1, 1) := by decide +kernel
theorem dX2_keep_31 : decode cX2_keep 31 = .ok (.iadd, 1) := by decide +kernel
theorem dX2_keep_32 : decode cX2_keep 32 = .ok (.putfield 26, 3) := by decide +kernel
theorem dX2_keep_35 : decode cX2_keep 35 = .ok (.return_, 1) := by decide +kernel
theorem r_X2_keep_0 {d rc rs : Nat} {Q : PO → PH → Prop} {h : PH} {l0 : Nat}
    (k : gI h (10202, l0) fun x1 => br (x1 < (16 : Int32)) (gA h (10201, l0) fun a2 => gI h (10202, l0) fun x3 => xO h a2 x3 4 400 fun o4 => gO h (10200, l0) 400 fun o5 => isO h 10400 o4 ∧ cl d rc rs M_X4_copy [vR (400, o4), vR (400, o5)] h (kV fun h6 rc7 rs8 => gI h6 (10202, l0) fun x9 => sF h6 (10202, l0) (vI (x9 + (1 : Int32))) fun h10 => Q (.inl none) h10) (fun E h6 rc7 rs8 => Q (.inr E) h6)) (Q (.inl none) h)) :
    PW d M_X2_keep Q rc rs 0 [vR (200, l0)] [] h := by
  refine P_aload_n (pc := 0) dX2_keep_0 rfl ?_
  obtain ⟨x1, e9, k⟩ := k
  refine G2_2 (pc := 1) dX2_keep_1 l_X2_26 e9 ?_
  clear e9
  refine P_bipush (v := (16 : Int32)) (pc := 4) dX2_keep_4 (by decide) ?_
  refine P_icmp_ge (tgt := 35) (pc := 6) dX2_keep_6 (by decide) (fun c => ?_) (fun c => ?_)
  · have k := k.2 (Int32.not_lt.mpr c)
    exact R_return (pc := 35) dX2_keep_35 rfl k
  · have k := k.1 (Int32.not_le.mp c)
    refine P_aload_n (pc := 9) dX2_keep_9 rfl ?_
    obtain ⟨a2, e9, k⟩ := k
    refine G2_1 (pc := 10) dX2_keep_10 l_X2_18 e9 ?_
    clear e9
    refine P_aload_n (pc := 13) dX2_keep_13 rfl ?_
    obtain ⟨x3, e9, k⟩ := k
    refine G2_2 (pc := 14) dX2_keep_14 l_X2_26 e9 ?_
    clear e9
    obtain ⟨n9, f9, o4, e9, i9, b9, k⟩ := k
    refine P_aald (kd := 4) (pc := 17) dX2_keep_17 (by decide) rfl e9 i9 b9 ?_
    refine P_aload_n (pc := 18) dX2_keep_18 rfl ?_
    obtain ⟨o5, e9, k⟩ := k
    refine G2_0 (pc := 19) dX2_keep_19 l_X2_12 e9 ?_
    clear e9
    obtain ⟨⟨w9, e9⟩, d2, nc, ns, rc7, rs8, Qc, g1, rfl, rfl, g2, kk, kx⟩ := k
    refine P_callV (ci := 4) (k := 0) (id := o4) (q := (RX4, TX4, 10)) (As := [vR (400, o5)]) (st := []) (pc := 22) dX2_keep_22 mk_X4_copy l_X2_30 im_X4_copy se_X4_copy ini_X4 rfl g1 (Nat.le_of_ble_eq_true rfl) rfl rfl (by decide) e9 rfl g2 (fun v9 h9 q9 => ?_) (fun E h9 q9 => PX_out rfl (kx E h9 q9))
    obtain ⟨rfl, k⟩ := kk v9 h9 q9
    clear kk kx g1 g2 q9
    refine P_aload_n (pc := 25) dX2_keep_25 rfl ?_
    refine P_dup (pc := 26) dX2_keep_26 (fun _ => rfl) ?_
    obtain ⟨x9, e9, k⟩ := k
    refine G2_2 (pc := 27) dX2_keep_27 l_X2_26 e9 ?_
    clear e9
    refine P_iconst (v := (1 : Int32)) (pc := 30) dX2_keep_30 (by decide) ?_
    refine P_iadd (pc := 31) dX2_keep_31 ?_
    obtain ⟨⟨v9, e9⟩, k⟩ := k
    refine S2_2 (pc := 32) dX2_keep_32 l_X2_26 e9 ?_
    clear e9
    exact R_return (pc := 35) dX2_keep_35 rfl k
-- X2_takeBack takeBack()V
theorem dX2_takeBack_0 : decode cX2_takeBack 0 = .ok (.aload_n 0, 1) := by decide +kernel
theorem dX2_takeBack_1 : decode cX2_takeBack 1 = .ok (.getfield 26, 3) := by decide +kernel
theorem dX2_takeBack_4 : decode cX2_takeBack 4 = .ok (.ifCond .le 29, 3) := by decide +kernel
theorem dX2_takeBack_7 : decode cX2_takeBack 7 = .ok (.aload_n 0, 1) := by decide +kernel
theorem dX2_takeBack_8 : decode cX2_takeBack 8 = .ok (.dup, 1) := by decide +kernel
theorem dX2_takeBack_9 : decode cX2_takeBack 9 = .ok (.getfield 26, 3) := by decide +kernel
theorem dX2_takeBack_12 : decode cX2_takeBack 12 = .ok (.iconst 1, 1) := by decide +kernel
theorem dX2_takeBack_13 : decode cX2_takeBack 13 = .ok (.isub, 1) := by decide +kernel
theorem dX2_takeBack_14 : decode cX2_takeBack 14 = .ok (.putfield 26, 3) := by decide +kernel
theorem dX2_takeBack_17 : decode cX2_takeBack 17 = .ok (.aload_n 0, 1) := by decide +kernel
theorem dX2_takeBack_18 : decode cX2_takeBack 18 = .ok (.getfield 12, 3) := by decide +kernel
theorem dX2_takeBack_21 : decode cX2_takeBack 21 = .ok (.aload_n 0, 1) := by decide +kernel
theorem dX2_takeBack_22 : decode cX2_takeBack 22 = .ok (.getfield 18, 3) := by decide +kernel
theorem dX2_takeBack_25 : decode cX2_takeBack 25 = .ok (.aload_n 0, 1) := by decide +kernel
theorem dX2_takeBack_26 : decode cX2_takeBack 26 = .ok (.getfield 26, 3) := by decide +kernel
theorem dX2_takeBack_29 : decode cX2_takeBack 29 = .ok (.aaload, 1) := by decide +kernel
theorem dX2_takeBack_30 : decode cX2_takeBack 30 = .ok (.invokevirtual 30, 3) := by decide +kernel
theorem dX2_takeBack_33 : decode cX2_takeBack 33 = .ok (.return_, 1) := by decide +kernel
theorem r_X2_takeBack_0 {d rc rs : Nat} {Q : PO → PH → Prop} {h : PH} {l0 : Nat}
    (k : gI h (10202, l0) fun x1 => br (0 < x1) (gI h (10202, l0) fun x2 => sF h (10202, l0) (vI (x2 - (1 : Int32))) fun h3 => gO h3 (10200, l0) 400 fun o4 => gA h3 (10201, l0) fun a5 => gI h3 (10202, l0) fun x6 => xO h3 a5 x6 4 400 fun o7 => isO h3 10400 o4 ∧ cl d rc rs M_X4_copy [vR (400, o4), vR (400, o7)] h3 (kV fun h8 rc9 rs10 => Q (.inl none) h8) (fun E h8 rc9 rs10 => Q (.inr E) h8)) (Q (.inl none) h)) :
    PW d M_X2_takeBack Q rc rs 0 [vR (200, l0)] [] h := by
  refine P_aload_n (pc := 0) dX2_takeBack_0 rfl ?_
  obtain ⟨x1, e9, k⟩ := k
  refine G2_2 (pc := 1) dX2_takeBack_1 l_X2_26 e9 ?_
  clear e9
  refine P_if_le (tgt := 33) (pc := 4) dX2_takeBack_4 (by decide) (fun c => ?_) (fun c => ?_)
  · have k := k.2 (Int32.not_lt.mpr c)
    exact R_return (pc := 33) dX2_takeBack_33 rfl k
  · have k := k.1 (Int32.not_le.mp c)
    refine P_aload_n (pc := 7) dX2_takeBack_7 rfl ?_
    refine P_dup (pc := 8) dX2_takeBack_8 (fun _ => rfl) ?_
    obtain ⟨x2, e9, k⟩ := k
    refine G2_2 (pc := 9) dX2_takeBack_9 l_X2_26 e9 ?_
    clear e9
    refine P_iconst (v := (1 : Int32)) (pc := 12) dX2_takeBack_12 (by decide) ?_
    refine P_isub (pc := 13) dX2_takeBack_13 ?_
    obtain ⟨⟨v9, e9⟩, k⟩ := k
    refine S2_2 (pc := 14) dX2_takeBack_14 l_X2_26 e9 ?_
    clear e9
    refine P_aload_n (pc := 17) dX2_takeBack_17 rfl ?_
    obtain ⟨o4, e9, k⟩ := k
    refine G2_0 (pc := 18) dX2_takeBack_18 l_X2_12 e9 ?_
    clear e9
    refine P_aload_n (pc := 21) dX2_takeBack_21 rfl ?_
    obtain ⟨a5, e9, k⟩ := k
    refine G2_1 (pc := 22) dX2_takeBack_22 l_X2_18 e9 ?_
    clear e9
    refine P_aload_n (pc := 25) dX2_takeBack_25 rfl ?_
    obtain ⟨x6, e9, k⟩ := k
    refine G2_2 (pc := 26) dX2_takeBack_26 l_X2_26 e9 ?_
    clear e9
    obtain ⟨n9, f9, o7, e9, i9, b9, k⟩ := k
    refine P_aald (kd := 4) (pc := 29) dX2_takeBack_29 (by decide) rfl e9 i9 b9 ?_
    obtain ⟨⟨w9, e9⟩, d2, nc, ns, rc9, rs10, Qc, g1, rfl, rfl, g2, kk, kx⟩ := k
    refine P_callV (ci := 4) (k := 0) (id := o4) (q := (RX4, TX4, 10)) (As := [vR (400, o7)]) (st := []) (pc := 30) dX2_takeBack_30 mk_X4_copy l_X2_30 im_X4_copy se_X4_copy ini_X4 rfl g1 (Nat.le_of_ble_eq_true rfl) rfl rfl (by decide) e9 rfl g2 (fun v9 h9 q9 => ?_) (fun E h9 q9 => PX_out rfl (kx E h9 q9))
    obtain ⟨rfl, k⟩ := kk v9 h9 q9
    clear kk kx g1 g2 q9
    exact R_return (pc := 33) dX2_takeBack_33 rfl k
-- X3_init <init>()V
theorem dX3_init_0 : decode cX3_init 0 = .ok (.aload_n 0, 1) := by decide +kernel
theorem dX3_init_1 : decode cX3_init 1 = .ok (.invokespecial 3, 3) := by decide +kernel
theorem dX3_init_4 : decode cX3_init 4 = .ok (.aload_n 0, 1) := by decide +kernel
theorem dX3_init_5 : decode cX3_init 5 = .ok (.sipush 150, 3) := by decide +kernel
theorem dX3_init_8 : decode cX3_init 8 = .ok (.newarray .int, 2) := by decide +kernel
theorem dX3_init_10 : decode cX3_init 10 = .ok (.putfield 9, 3) := by decide +kernel
theorem dX3_init_13 : decode cX3_init 13 = .ok (.aload_n 0, 1) := by decide +kernel
theorem dX3_init_14 : decode cX3_init 14 = .ok (.sipush 150, 3) := by decide +kernel
theorem dX3_init_17 : decode cX3_init 17 = .ok (.newarray .int, 2) := by decide +kernel
theorem dX3_init_19 : decode cX3_init 19 = .ok (.putfield 15, 3) := by decide +kernel
theorem dX3_init_22 : decode cX3_init 22 = .ok (.aload_n 0, 1) := by decide +kernel
theorem dX3_init_23 : decode cX3_init 23 = .ok (.sipush 150, 3) := by decide +kernel
theorem dX3_init_26 : decode cX3_init 26 = .ok (.newarray .int, 2) := by decide +kernel
theorem dX3_init_28 : decode cX3_init 28 = .ok (.putfield 18, 3) := by decide +kernel
theorem dX3_init_31 : decode cX3_init 31 = .ok (.aload_n 0, 1) := by decide +kernel
theorem dX3_init_32 : decode cX3_init 32 = .ok (.bipush 9, 2) := by decide +kernel
theorem dX3_init_34 : decode cX3_init 34 = .ok (.newarray .int, 2) := by decide +kernel
theorem dX3_init_36 : decode cX3_init 36 = .ok (.putfield 21, 3) := by decide +kernel
theorem dX3_init_39 : decode cX3_init 39 = .ok (.return_, 1) := by decide +kernel
theorem r_X3_init_0 {d rc rs : Nat} {Q : PO → PH → Prop} {h : PH} {l0 : Nat}
    (k : 1 ≤ d ∧ nwA h 0 (150 : Int32) (.inl (fun _ => 0)) rc rs fun a1 h2 rc3 rs4 => sF h2 (10300, l0) (vR a1) fun h5 => nwA h5 0 (150 : Int32) (.inl (fun _ => 0)) rc3 rs4 fun a6 h7 rc8 rs9 => sF h7 (10301, l0) (vR a6) fun h10 => nwA h10 0 (150 : Int32) (.inl (fun _ => 0)) rc8 rs9 fun a11 h12 rc13 rs14 => sF h12 (10302, l0) (vR a11) fun h15 => nwA h15 0 (9 : Int32) (.inl (fun _ => 0)) rc13 rs14 fun a16 h17 rc18 rs19 => sF h17 (10303, l0) (vR a16) fun h20 => Q (.inl none) h20) :
    PW d M_X3_init Q rc rs 0 [vR (300, l0)] [] h := by
  refine P_aload_n (pc := 0) dX3_init_0 rfl ?_
  refine P_objInit (pc := 1) dX3_init_1 l_X3_3 oi_in oi_co k.1 (Nat.le_of_ble_eq_true rfl) ?_
  replace k := k.2
  refine P_aload_n (pc := 4) dX3_init_4 rfl ?_
  refine P_sipush (v := (150 : Int32)) (pc := 5) dX3_init_5 (by decide) ?_
  obtain ⟨a1, n9, m9, g9, rc3, rs4, b1, b2, b3, b4, b5, b6, rfl, rfl, k⟩ := k
  refine P_newaI (pc := 8) dX3_init_8 ac_int b1 b2 b3 b4 b5 b6 ?_
  obtain ⟨⟨v9, e9⟩, k⟩ := k
  refine S3_0 (pc := 10) dX3_init_10 l_X3_9 rfl rfl e9 ?_
  clear e9
  refine P_aload_n (pc := 13) dX3_init_13 rfl ?_
  refine P_sipush (v := (150 : Int32)) (pc := 14) dX3_init_14 (by decide) ?_
  obtain ⟨a6, n9, m9, g9, rc8, rs9, b1, b2, b3, b4, b5, b6, rfl, rfl, k⟩ := k
  refine P_newaI (pc := 17) dX3_init_17 ac_int b1 b2 b3 b4 b5 b6 ?_
  obtain ⟨⟨v9, e9⟩, k⟩ := k
  refine S3_1 (pc := 19) dX3_init_19 l_X3_15 rfl rfl e9 ?_
  clear e9
  refine P_aload_n (pc := 22) dX3_init_22 rfl ?_
  refine P_sipush (v := (150 : Int32)) (pc := 23) dX3_init_23 (by decide) ?_
  obtain ⟨a11, n9, m9, g9, rc13, rs14, b1, b2, b3, b4, b5, b6, rfl, rfl, k⟩ := k
  refine P_newaI (pc := 26) dX3_init_26 ac_int b1 b2 b3 b4 b5 b6 ?_
  obtain ⟨⟨v9, e9⟩, k⟩ := k
  refine S3_2 (pc := 28) dX3_init_28 l_X3_18 rfl rfl e9 ?_
  clear e9
  refine P_aload_n (pc := 31) dX3_init_31 rfl ?_
  refine P_bipush (v := (9 : Int32)) (pc := 32) dX3_init_32 (by decide) ?_
  obtain ⟨a16, n9, m9, g9, rc18, rs19, b1, b2, b3, b4, b5, b6, rfl, rfl, k⟩ := k
  refine P_newaI (pc := 34) dX3_init_34 ac_int b1 b2 b3 b4 b5 b6 ?_
  obtain ⟨⟨v9, e9⟩, k⟩ := k
  refine S3_3 (pc := 36) dX3_init_36 l_X3_21 rfl rfl e9 ?_
  clear e9
  exact R_return (pc := 39) dX3_init_39 rfl k
-- X3_beUsual beUsual()V
theorem dX3_beUsual_0 : decode cX3_beUsual 0 = .ok (.aload_n 0, 1) := by decide +kernel
theorem dX3_beUsual_1 : decode cX3_beUsual 1 = .ok (.iconst 0, 1) := by decide +kernel
theorem dX3_beUsual_2 : decode cX3_beUsual 2 = .ok (.putfield 24, 3) := by decide +kernel
theorem dX3_beUsual_5 : decode cX3_beUsual 5 = .ok (.aload_n 0, 1) := by decide +kernel
theorem dX3_beUsual_6 : decode cX3_beUsual 6 = .ok (.iconst 1, 1) := by decide +kernel
theorem dX3_beUsual_7 : decode cX3_beUsual 7 = .ok (.iconst 0, 1) := by decide +kernel
theorem dX3_beUsual_8 : decode cX3_beUsual 8 = .ok (.invokevirtual 28, 3) := by decide +kernel
theorem dX3_beUsual_11 : decode cX3_beUsual 11 = .ok (.aload_n 0, 1) := by decide +kernel
theorem dX3_beUsual_12 : decode cX3_beUsual 12 = .ok (.iconst 0, 1) := by decide +kernel
theorem dX3_beUsual_13 : decode cX3_beUsual 13 = .ok (.iconst 2, 1) := by decide +kernel
theorem dX3_beUsual_14 : decode cX3_beUsual 14 = .ok (.invokevirtual 28, 3) := by decide +kernel
theorem dX3_beUsual_17 : decode cX3_beUsual 17 = .ok (.aload_n 0, 1) := by decide +kernel
theorem dX3_beUsual_18 : decode cX3_beUsual 18 = .ok (.bipush 42, 2) := by decide +kernel
theorem dX3_beUsual_20 : decode cX3_beUsual 20 = .ok (.iconst 0, 1) := by decide +kernel
theorem dX3_beUsual_21 : decode cX3_beUsual 21 = .ok (.invokevirtual 28, 3) := by decide +kernel
theorem dX3_beUsual_24 : decode cX3_beUsual 24 = .ok (.aload_n 0, 1) := by decide +kernel
theorem dX3_beUsual_25 : decode cX3_beUsual 25 = .ok (.iconst 1, 1) := by decide +kernel
theorem dX3_beUsual_26 : decode cX3_beUsual 26 = .ok (.iconst 1, 1) := by decide +kernel
theorem dX3_beUsual_27 : decode cX3_beUsual 27 = .ok (.invokevirtual 28, 3) := by decide +kernel
theorem dX3_beUsual_30 : decode cX3_beUsual 30 = .ok (.aload_n 0, 1) := by decide +kernel
theorem dX3_beUsual_31 : decode cX3_beUsual 31 = .ok (.bipush 43, 2) := by decide +kernel
theorem dX3_beUsual_33 : decode cX3_beUsual 33 = .ok (.iconst 0, 1) := by decide +kernel
theorem dX3_beUsual_34 : decode cX3_beUsual 34 = .ok (.invokevirtual 28, 3) := by decide +kernel
theorem dX3_beUsual_37 : decode cX3_beUsual 37 = .ok (.aload_n 0, 1) := by decide +kernel
theorem dX3_beUsual_38 : decode cX3_beUsual 38 = .ok (.iconst 1, 1) := by decide +kernel
theorem dX3_beUsual_39 : decode cX3_beUsual 39 = .ok (.iconst 2, 1) := by decide +kernel
theorem dX3_beUsual_40 : decode cX3_beUsual 40 = .ok (.invokevirtual 28, 3) := by decide +kernel
theorem dX3_beUsual_43 : decode cX3_beUsual 43 = .ok (.aload_n 0, 1) := by decide +kernel
theorem dX3_beUsual_44 : decode cX3_beUsual 44 = .ok (.bipush 45, 2) := by decide +kernel
theorem dX3_beUsual_46 : decode cX3_beUsual 46 = .ok (.iconst 0, 1) := by decide +kernel
theorem dX3_beUsual_47 : decode cX3_beUsual 47 = .ok (.invokevirtual 28, 3) := by decide +kernel
theorem dX3_beUsual_50 : decode cX3_beUsual 50 = .ok (.return_, 1) := by decide +kernel
theorem r_X3_beUsual_0 {d rc rs : Nat} {Q : PO → PH → Prop} {h : PH} {l0 : Nat}
    (k : sF h (10304, l0) (vI (0 : Int32)) fun h1 => isO h1 10300 l0 ∧ cl d rc rs M_X3_add [vR (300, l0), vI (1 : Int32), vI (0 : Int32)] h1 (kV fun h2 rc3 rs4 => isO h2 10300 l0 ∧ cl d rc3 rs4 M_X3_add [vR (300, l0), vI (0 : Int32), vI (2 : Int32)] h2 (kV fun h5 rc6 rs7 => isO h5 10300 l0 ∧ cl d rc6 rs7 M_X3_add [vR (300, l0), vI (42 : Int32), vI (0 : Int32)] h5 (kV fun h8 rc9 rs10 => isO h8 10300 l0 ∧ cl d rc9 rs10 M_X3_add [vR (300, l0), vI (1 : Int32), vI (1 : Int32)] h8 (kV fun h11 rc12 rs13 => isO h11 10300 l0 ∧ cl d rc12 rs13 M_X3_add [vR (300, l0), vI (43 : Int32), vI (0 : Int32)] h11 (kV fun h14 rc15 rs16 => isO h14 10300 l0 ∧ cl d rc15 rs16 M_X3_add [vR (300, l0), vI (1 : Int32), vI (2 : Int32)] h14 (kV fun h17 rc18 rs19 => isO h17 10300 l0 ∧ cl d rc18 rs19 M_X3_add [vR (300, l0), vI (45 : Int32), vI (0 : Int32)] h17 (kV fun h20 rc21 rs22 => Q (.inl none) h20) (fun E h20 rc21 rs22 => Q (.inr E) h20)) (fun E h17 rc18 rs19 => Q (.inr E) h17)) (fun E h14 rc15 rs16 => Q (.inr E) h14)) (fun E h11 rc12 rs13 => Q (.inr E) h11)) (fun E h8 rc9 rs10 => Q (.inr E) h8)) (fun E h5 rc6 rs7 => Q (.inr E) h5)) (fun E h2 rc3 rs4 => Q (.inr E) h2)) :
    PW d M_X3_beUsual Q rc rs 0 [vR (300, l0)] [] h := by
  refine P_aload_n (pc := 0) dX3_beUsual_0 rfl ?_
  refine P_iconst (v := (0 : Int32)) (pc := 1) dX3_beUsual_1 (by decide) ?_
  obtain ⟨⟨v9, e9⟩, k⟩ := k
  refine S3_4 (pc := 2) dX3_beUsual_2 l_X3_24 e9 ?_
  clear e9
  refine P_aload_n (pc := 5) dX3_beUsual_5 rfl ?_
  refine P_iconst (v := (1 : Int32)) (pc := 6) dX3_beUsual_6 (by decide) ?_
  refine P_iconst (v := (0 : Int32)) (pc := 7) dX3_beUsual_7 (by decide) ?_
  obtain ⟨⟨w9, e9⟩, d2, nc, ns, rc3, rs4, Qc, g1, rfl, rfl, g2, kk, kx⟩ := k
  refine P_callV (ci := 3) (k := 0) (id := l0) (q := (RX3, TX3, 5)) (As := [vI (1 : Int32), vI (0 : Int32)]) (st := []) (pc := 8) dX3_beUsual_8 mk_X3_add l_X3_28 im_X3_add se_X3_add ini_X3 rfl g1 (Nat.le_of_ble_eq_true rfl) rfl rfl (by decide) e9 rfl g2 (fun v9 h9 q9 => ?_) (fun E h9 q9 => PX_out rfl (kx E h9 q9))
  obtain ⟨rfl, k⟩ := kk v9 h9 q9
  clear kk kx g1 g2 q9
  refine P_aload_n (pc := 11) dX3_beUsual_11 rfl ?_
  refine P_iconst (v := (0 : Int32)) (pc := 12) dX3_beUsual_12 (by decide) ?_
  refine P_iconst (v := (2 : Int32)) (pc := 13) dX3_beUsual_13 (by decide) ?_
  obtain ⟨⟨w9, e9⟩, d2, nc, ns, rc6, rs7, Qc, g1, rfl, rfl, g2, kk, kx⟩ := k
  refine P_callV (ci := 3) (k := 0) (id := l0) (q := (RX3, TX3, 5)) (As := [vI (0 : Int32), vI (2 : Int32)]) (st := []) (pc := 14) dX3_beUsual_14 mk_X3_add l_X3_28 im_X3_add se_X3_add ini_X3 rfl g1 (Nat.le_of_ble_eq_true rfl) rfl rfl (by decide) e9 rfl g2 (fun v9 h9 q9 => ?_) (fun E h9 q9 => PX_out rfl (kx E h9 q9))
  obtain ⟨rfl, k⟩ := kk v9 h9 q9
  clear kk kx g1 g2 q9
  refine P_aload_n (pc := 17) dX3_beUsual_17 rfl ?_
  refine P_bipush (v := (42 : Int32)) (pc := 18) dX3_beUsual_18 (by decide) ?_
  refine P_iconst (v := (0 : Int32)) (pc := 20) dX3_beUsual_20 (by decide) ?_
  obtain ⟨⟨w9, e9⟩, d2, nc, ns, rc9, rs10, Qc, g1, rfl, rfl, g2, kk, kx⟩ := k
  refine P_callV (ci := 3) (k := 0) (id := l0) (q := (RX3, TX3, 5)) (As := [vI (42 : Int32), vI (0 : Int32)]) (st := []) (pc := 21) dX3_beUsual_21 mk_X3_add l_X3_28 im_X3_add se_X3_add ini_X3 rfl g1 (Nat.le_of_ble_eq_true rfl) rfl rfl (by decide) e9 rfl g2 (fun v9 h9 q9 => ?_) (fun E h9 q9 => PX_out rfl (kx E h9 q9))
  obtain ⟨rfl, k⟩ := kk v9 h9 q9
  clear kk kx g1 g2 q9
  refine P_aload_n (pc := 24) dX3_beUsual_24 rfl ?_
  refine P_iconst (v := (1 : Int32)) (pc := 25) dX3_beUsual_25 (by decide) ?_
  refine P_iconst (v := (1 : Int32)) (pc := 26) dX3_beUsual_26 (by decide) ?_
  obtain ⟨⟨w9, e9⟩, d2, nc, ns, rc12, rs13, Qc, g1, rfl, rfl, g2, kk, kx⟩ := k
  refine P_callV (ci := 3) (k := 0) (id := l0) (q := (RX3, TX3, 5)) (As := [vI (1 : Int32), vI (1 : Int32)]) (st := []) (pc := 27) dX3_beUsual_27 mk_X3_add l_X3_28 im_X3_add se_X3_add ini_X3 rfl g1 (Nat.le_of_ble_eq_true rfl) rfl rfl (by decide) e9 rfl g2 (fun v9 h9 q9 => ?_) (fun E h9 q9 => PX_out rfl (kx E h9 q9))
  obtain ⟨rfl, k⟩ := kk v9 h9 q9
  clear kk kx g1 g2 q9
  refine P_aload_n (pc := 30) dX3_beUsual_30 rfl ?_
  refine P_bipush (v := (43 : Int32)) (pc := 31) dX3_beUsual_31 (by decide) ?_
  refine P_iconst (v := (0 : Int32)) (pc := 33) dX3_beUsual_33 (by decide) ?_
  obtain ⟨⟨w9, e9⟩, d2, nc, ns, rc15, rs16, Qc, g1, rfl, rfl, g2, kk, kx⟩ := k
  refine P_callV (ci := 3) (k := 0) (id := l0) (q := (RX3, TX3, 5)) (As := [vI (43 : Int32), vI (0 : Int32)]) (st := []) (pc := 34) dX3_beUsual_34 mk_X3_add l_X3_28 im_X3_add se_X3_add ini_X3 rfl g1 (Nat.le_of_ble_eq_true rfl) rfl rfl (by decide) e9 rfl g2 (fun v9 h9 q9 => ?_) (fun E h9 q9 => PX_out rfl (kx E h9 q9))
  obtain ⟨rfl, k⟩ := kk v9 h9 q9
  clear kk kx g1 g2 q9
  refine P_aload_n (pc := 37) dX3_beUsual_37 rfl ?_
  refine P_iconst (v := (1 : Int32)) (pc := 38) dX3_beUsual_38 (by decide) ?_
  refine P_iconst (v := (2 : Int32)) (pc := 39) dX3_beUsual_39 (by decide) ?_
  obtain ⟨⟨w9, e9⟩, d2, nc, ns, rc18, rs19, Qc, g1, rfl, rfl, g2, kk, kx⟩ := k
  refine P_callV (ci := 3) (k := 0) (id := l0) (q := (RX3, TX3, 5)) (As := [vI (1 : Int32), vI (2 : Int32)]) (st := []) (pc := 40) dX3_beUsual_40 mk_X3_add l_X3_28 im_X3_add se_X3_add ini_X3 rfl g1 (Nat.le_of_ble_eq_true rfl) rfl rfl (by decide) e9 rfl g2 (fun v9 h9 q9 => ?_) (fun E h9 q9 => PX_out rfl (kx E h9 q9))
  obtain ⟨rfl, k⟩ := kk v9 h9 q9
  clear kk kx g1 g2 q9
  refine P_aload_n (pc := 43) dX3_beUsual_43 rfl ?_
  refine P_bipush (v := (45 : Int32)) (pc := 44) dX3_beUsual_44 (by decide) ?_
  refine P_iconst (v := (0 : Int32)) (pc := 46) dX3_beUsual_46 (by decide) ?_
  obtain ⟨⟨w9, e9⟩, d2, nc, ns, rc21, rs22, Qc, g1, rfl, rfl, g2, kk, kx⟩ := k
  refine P_callV (ci := 3) (k := 0) (id := l0) (q := (RX3, TX3, 5)) (As := [vI (45 : Int32), vI (0 : Int32)]) (st := []) (pc := 47) dX3_beUsual_47 mk_X3_add l_X3_28 im_X3_add se_X3_add ini_X3 rfl g1 (Nat.le_of_ble_eq_true rfl) rfl rfl (by decide) e9 rfl g2 (fun v9 h9 q9 => ?_) (fun E h9 q9 => PX_out rfl (kx E h9 q9))
  obtain ⟨rfl, k⟩ := kk v9 h9 q9
  clear kk kx g1 g2 q9
  exact R_return (pc := 50) dX3_beUsual_50 rfl k
-- X3_add add(II)V
theorem dX3_add_0 : decode cX3_add 0 = .ok (.aload_n 0, 1) := by decide +kernel
theorem dX3_add_1 : decode cX3_add 1 = .ok (.getfield 24, 3) := by decide +kernel
theorem dX3_add_4 : decode cX3_add 4 = .ok (.sipush 150, 3) := by decide +kernel
theorem dX3_add_7 : decode cX3_add 7 = .ok (.if_icmp .ge 33, 3) := by decide +kernel
theorem dX3_add_10 : decode cX3_add 10 = .ok (.aload_n 0, 1) := by decide +kernel
theorem dX3_add_11 : decode cX3_add 11 = .ok (.getfield 9, 3) := by decide +kernel
theorem dX3_add_14 : decode cX3_add 14 = .ok (.aload_n 0, 1) := by decide +kernel
theorem dX3_add_15 : decode cX3_add 15 = .ok (.getfield 24, 3) := by decide +kernel
theorem dX3_add_18 : decode cX3_add 18 = .ok (.iload_n 1, 1) := by decide +kernel
theorem dX3_add_19 : decode cX3_add 19 = .ok (.iastore, 1) := by decide +kernel
theorem dX3_add_20 : decode cX3_add 20 = .ok (.aload_n 0, 1) := by decide +kernel
theorem dX3_add_21 : decode cX3_add 21 = .ok (.getfield 15, 3) := by decide +kernel
theorem dX3_add_24 : decode cX3_add 24 = .ok (.aload_n 0, 1) := by decide +kernel
theorem dX3_add_25 : decode cX3_add 25 = .ok (.getfield 24, 3) := by decide +kernel
theorem dX3_add_28 : decode cX3_add 28 = .ok (.iload_n 2, 1) := by decide +kernel
theorem dX3_add_29 : decode cX3_add 29 = .ok (.iastore, 1) := by decide +kernel
theorem dX3_add_30 : decode cX3_add 30 = .ok (.aload_n 0, 1) := by decide +kernel
theorem dX3_add_31 : decode cX3_add 31 = .ok (.dup, 1) := by decide +kernel
theorem dX3_add_32 : decode cX3_add 32 = .ok (.getfield 24, 3) := by decide +kernel
theorem dX3_add_35 : decode cX3_add 35 = .ok (.iconst 1, 1) := by decide +kernel
theorem dX3_add_36 : decode cX3_add 36 = .ok (.iadd, 1) := by decide +kernel
theorem dX3_add_37 : decode cX3_add 37 = .ok (.putfield 24, 3) := by decide +kernel
theorem dX3_add_40 : decode cX3_add 40 = .ok (.return_, 1) := by decide +kernel
theorem r_X3_add_0 {d rc rs : Nat} {Q : PO → PH → Prop} {h : PH} {l0 : Nat} {l1 : Int32} {l2 : Int32}
    (k : gI h (10304, l0) fun x1 => br (x1 < (150 : Int32)) (gA h (10300, l0) fun a2 => gI h (10304, l0) fun x3 => yI h a2 x3 l1 fun h4 => gA h4 (10301, l0) fun a5 => gI h4 (10304, l0) fun x6 => yI h4 a5 x6 l2 fun h7 => gI h7 (10304, l0) fun x8 => sF h7 (10304, l0) (vI (x8 + (1 : Int32))) fun h9 => Q (.inl none) h9) (Q (.inl none) h)) :
    PW d M_X3_add Q rc rs 0 [vR (300, l0), vI l1, vI l2] [] h := by
  refine P_aload_n (pc := 0) dX3_add_0 rfl ?_
  obtain ⟨x1, e9, k⟩ := k
  refine G3_4 (pc := 1) dX3_add_1 l_X3_24 e9 ?_
  clear e9
  refine P_sipush (v := (150 : Int32)) (pc := 4) dX3_add_4 (by decide) ?_
  refine P_icmp_ge (tgt := 40) (pc := 7) dX3_add_7 (by decide) (fun c => ?_) (fun c => ?_)
  · have k := k.2 (Int32.not_lt.mpr c)
    exact R_return (pc := 40) dX3_add_40 rfl k
  · have k := k.1 (Int32.not_le.mp c)
    refine P_aload_n (pc := 10) dX3_add_10 rfl ?_
    obtain ⟨a2, e9, k⟩ := k
    refine G3_0 (pc := 11) dX3_add_11 l_X3_9 e9 ?_
    clear e9
    refine P_aload_n (pc := 14) dX3_add_14 rfl ?_
    obtain ⟨x3, e9, k⟩ := k
    refine G3_4 (pc := 15) dX3_add_15 l_X3_24 e9 ?_
    clear e9
    refine P_iload_n (pc := 18) dX3_add_18 rfl ?_
    obtain ⟨n9, f9, e9, i9, k⟩ := k
    refine P_iast (pc := 19) dX3_add_19 e9 i9 ?_
    clear e9
    refine P_aload_n (pc := 20) dX3_add_20 rfl ?_
    obtain ⟨a5, e9, k⟩ := k
    refine G3_1 (pc := 21) dX3_add_21 l_X3_15 e9 ?_
    clear e9
    refine P_aload_n (pc := 24) dX3_add_24 rfl ?_
    obtain ⟨x6, e9, k⟩ := k
    refine G3_4 (pc := 25) dX3_add_25 l_X3_24 e9 ?_
    clear e9
    refine P_iload_n (pc := 28) dX3_add_28 rfl ?_
    obtain ⟨n9, f9, e9, i9, k⟩ := k
    refine P_iast (pc := 29) dX3_add_29 e9 i9 ?_
    clear e9
    refine P_aload_n (pc := 30) dX3_add_30 rfl ?_
    refine P_dup (pc := 31) dX3_add_31 (fun _ => rfl) ?_
    obtain ⟨x8, e9, k⟩ := k
    refine G3_4 (pc := 32) dX3_add_32 l_X3_24 e9 ?_
    clear e9
    refine P_iconst (v := (1 : Int32)) (pc := 35) dX3_add_35 (by decide) ?_
    refine P_iadd (pc := 36) dX3_add_36 ?_
    obtain ⟨⟨v9, e9⟩, k⟩ := k
    refine S3_4 (pc := 37) dX3_add_37 l_X3_24 e9 ?_
    clear e9
    exact R_return (pc := 40) dX3_add_40 rfl k
-- X3_read read(LFernHeirs$Text;)Z
theorem dX3_read_0 : decode cX3_read 0 = .ok (.aload_n 0, 1) := by decide +kernel
theorem dX3_read_1 : decode cX3_read 1 = .ok (.iconst 0, 1) := by decide +kernel
theorem dX3_read_2 : decode cX3_read 2 = .ok (.putfield 24, 3) := by decide +kernel
theorem dX3_read_5 : decode cX3_read 5 = .ok (.aload_n 0, 1) := by decide +kernel
theorem dX3_read_6 : decode cX3_read 6 = .ok (.aload_n 1, 1) := by decide +kernel
theorem dX3_read_7 : decode cX3_read 7 = .ok (.iconst 0, 1) := by decide +kernel
theorem dX3_read_8 : decode cX3_read 8 = .ok (.invokevirtual 32, 3) := by decide +kernel
theorem dX3_read_11 : decode cX3_read 11 = .ok (.ifCond .eq 14, 3) := by decide +kernel
theorem dX3_read_14 : decode cX3_read 14 = .ok (.aload_n 1, 1) := by decide +kernel
theorem dX3_read_15 : decode cX3_read 15 = .ok (.invokevirtual 36, 3) := by decide +kernel
theorem dX3_read_18 : decode cX3_read 18 = .ok (.ifCond .eq 7, 3) := by decide +kernel
theorem dX3_read_21 : decode cX3_read 21 = .ok (.iconst 1, 1) := by decide +kernel
theorem dX3_read_22 : decode cX3_read 22 = .ok (.goto 4, 3) := by decide +kernel
theorem dX3_read_25 : decode cX3_read 25 = .ok (.iconst 0, 1) := by decide +kernel
theorem dX3_read_26 : decode cX3_read 26 = .ok (.ireturn, 1) := by decide +kernel
theorem r_X3_read_0 {d rc rs : Nat} {Q : PO → PH → Prop} {h : PH} {l0 : Nat} {l1 : Nat}
    (k : sF h (10304, l0) (vI (0 : Int32)) fun h1 => isO h1 10300 l0 ∧ cl d rc rs M_X3_readSum [vR (300, l0), vR (800, l1), vI (0 : Int32)] h1 (kI fun x5 h2 rc3 rs4 => br (x5 = 0) (Q (.inl (some (vI (0 : Int32)))) h2) (isO h2 10800 l1 ∧ cl d rc3 rs4 M_X8_needEnd [vR (800, l1)] h2 (kI fun x9 h6 rc7 rs8 => br (x9 = 0) (Q (.inl (some (vI (0 : Int32)))) h6) (Q (.inl (some (vI (1 : Int32)))) h6)) (fun E h6 rc7 rs8 => Q (.inr E) h6))) (fun E h2 rc3 rs4 => Q (.inr E) h2)) :
    PW d M_X3_read Q rc rs 0 [vR (300, l0), vR (800, l1)] [] h := by
  refine P_aload_n (pc := 0) dX3_read_0 rfl ?_
  refine P_iconst (v := (0 : Int32)) (pc := 1) dX3_read_1 (by decide) ?_
  obtain ⟨⟨v9, e9⟩, k⟩ := k
  refine S3_4 (pc := 2) dX3_read_2 l_X3_24 e9 ?_
  clear e9
  refine P_aload_n (pc := 5) dX3_read_5 rfl ?_
  refine P_aload_n (pc := 6) dX3_read_6 rfl ?_
  refine P_iconst (v := (0 : Int32)) (pc := 7) dX3_read_7 (by decide) ?_
  obtain ⟨⟨w9, e9⟩, d2, nc, ns, rc3, rs4, Qc, g1, rfl, rfl, g2, kk, kx⟩ := k
  refine P_callV (ci := 3) (k := 0) (id := l0) (q := (RX3, TX3, 5)) (As := [vR (800, l1), vI (0 : Int32)]) (st := []) (pc := 8) dX3_read_8 mk_X3_readSum l_X3_32 im_X3_readSum se_X3_readSum ini_X3 rfl g1 (Nat.le_of_ble_eq_true rfl) rfl rfl (by decide) e9 rfl g2 (fun v9 h9 q9 => ?_) (fun E h9 q9 => PX_out rfl (kx E h9 q9))
  obtain ⟨x5, rfl, k⟩ := kk v9 h9 q9
  clear kk kx g1 g2 q9
  refine P_if_eq (tgt := 25) (pc := 11) dX3_read_11 (by decide) (fun c => ?_) (fun c => ?_)
  · have k := k.1 c
    refine P_iconst (v := (0 : Int32)) (pc := 25) dX3_read_25 (by decide) ?_
    exact R_ireturn (pc := 26) dX3_read_26 rfl rfl k
  · have k := k.2 c
    refine P_aload_n (pc := 14) dX3_read_14 rfl ?_
    obtain ⟨⟨w9, e9⟩, d2, nc, ns, rc7, rs8, Qc, g1, rfl, rfl, g2, kk, kx⟩ := k
    refine P_callV (ci := 8) (k := 0) (id := l1) (q := (RX8, TX8, 7)) (As := []) (st := []) (pc := 15) dX3_read_15 mk_X8_needEnd l_X3_36 im_X8_needEnd se_X8_needEnd ini_X8 rfl g1 (Nat.le_of_ble_eq_true rfl) rfl rfl (by decide) e9 rfl g2 (fun v9 h9 q9 => ?_) (fun E h9 q9 => PX_out rfl (kx E h9 q9))
    obtain ⟨x9, rfl, k⟩ := kk v9 h9 q9
    clear kk kx g1 g2 q9
    refine P_if_eq (tgt := 25) (pc := 18) dX3_read_18 (by decide) (fun c => ?_) (fun c => ?_)
    · have k := k.1 c
      refine P_iconst (v := (0 : Int32)) (pc := 25) dX3_read_25 (by decide) ?_
      exact R_ireturn (pc := 26) dX3_read_26 rfl rfl k
    · have k := k.2 c
      refine P_iconst (v := (1 : Int32)) (pc := 21) dX3_read_21 (by decide) ?_
      refine P_goto (tgt := 26) (pc := 22) dX3_read_22 (by decide) ?_
      exact R_ireturn (pc := 26) dX3_read_26 rfl rfl k
-- X3_readSum readSum(LFernHeirs$Text;I)Z
theorem dX3_readSum_0 : decode cX3_readSum 0 = .ok (.aload_n 0, 1) := by decide +kernel
theorem dX3_readSum_1 : decode cX3_readSum 1 = .ok (.aload_n 1, 1) := by decide +kernel
theorem dX3_readSum_2 : decode cX3_readSum 2 = .ok (.iload_n 2, 1) := by decide +kernel
theorem dX3_readSum_3 : decode cX3_readSum 3 = .ok (.invokevirtual 42, 3) := by decide +kernel
theorem dX3_readSum_6 : decode cX3_readSum 6 = .ok (.istore_n 3, 1) := by decide +kernel
theorem dX3_readSum_7 : decode cX3_readSum 7 = .ok (.iconst 0, 1) := by decide +kernel
theorem dX3_readSum_8 : decode cX3_readSum 8 = .ok (.istore 4, 2) := by decide +kernel
theorem dX3_readSum_10 : decode cX3_readSum 10 = .ok (.iload_n 3, 1) := by decide +kernel
theorem dX3_readSum_11 : decode cX3_readSum 11 = .ok (.ifCond .eq 71, 3) := by decide +kernel
theorem dX3_readSum_14 : decode cX3_readSum 14 = .ok (.iload 4, 2) := by decide +kernel
theorem dX3_readSum_16 : decode cX3_readSum 16 = .ok (.sipush 150, 3) := by decide +kernel
theorem dX3_readSum_19 : decode cX3_readSum 19 = .ok (.if_icmp .ge 63, 3) := by decide +kernel
theorem dX3_readSum_22 : decode cX3_readSum 22 = .ok (.aload_n 1, 1) := by decide +kernel
theorem dX3_readSum_23 : decode cX3_readSum 23 = .ok (.invokevirtual 45, 3) := by decide +kernel
theorem dX3_readSum_26 : decode cX3_readSum 26 = .ok (.istore 5, 2) := by decide +kernel
theorem dX3_readSum_28 : decode cX3_readSum 28 = .ok (.iload 5, 2) := by decide +kernel
theorem dX3_readSum_30 : decode cX3_readSum 30 = .ok (.bipush 43, 2) := by decide +kernel
theorem dX3_readSum_32 : decode cX3_readSum 32 = .ok (.if_icmp .eq 12, 3) := by decide +kernel
theorem dX3_readSum_35 : decode cX3_readSum 35 = .ok (.iload 5, 2) := by decide +kernel
theorem dX3_readSum_37 : decode cX3_readSum 37 = .ok (.bipush 45, 2) := by decide +kernel
theorem dX3_readSum_39 : decode cX3_readSum 39 = .ok (.if_icmp .eq 5, 3) := by decide +kernel
theorem dX3_readSum_42 : decode cX3_readSum 42 = .ok (.iconst 1, 1) := by decide +kernel
theorem dX3_readSum_43 : decode cX3_readSum 43 = .ok (.ireturn, 1) := by decide +kernel
theorem dX3_readSum_44 : decode cX3_readSum 44 = .ok (.aload_n 1, 1) := by decide +kernel
theorem dX3_readSum_45 : decode cX3_readSum 45 = .ok (.iload 5, 2) := by decide +kernel
theorem dX3_readSum_47 : decode cX3_readSum 47 = .ok (.i2c, 1) := by decide +kernel
theorem dX3_readSum_48 : decode cX3_readSum 48 = .ok (.invokevirtual 49, 3) := by decide +kernel
theorem dX3_readSum_51 : decode cX3_readSum 51 = .ok (.ifCond .eq 16, 3) := by decide +kernel
theorem dX3_readSum_54 : decode cX3_readSum 54 = .ok (.aload_n 0, 1) := by decide +kernel
theorem dX3_readSum_55 : decode cX3_readSum 55 = .ok (.aload_n 1, 1) := by decide +kernel
theorem dX3_readSum_56 : decode cX3_readSum 56 = .ok (.iload_n 2, 1) := by decide +kernel
theorem dX3_readSum_57 : decode cX3_readSum 57 = .ok (.invokevirtual 42, 3) := by decide +kernel
theorem dX3_readSum_60 : decode cX3_readSum 60 = .ok (.ifCond .eq 7, 3) := by decide +kernel
theorem dX3_readSum_63 : decode cX3_readSum 63 = .ok (.iconst 1, 1) := by decide +kernel
theorem dX3_readSum_64 : decode cX3_readSum 64 = .ok (.goto 4, 3) := by decide +kernel
theorem dX3_readSum_67 : decode cX3_readSum 67 = .ok (.iconst 0, 1) := by decide +kernel
theorem dX3_readSum_68 : decode cX3_readSum 68 = .ok (.istore_n 3, 1) := by decide +kernel
theorem dX3_readSum_69 : decode cX3_readSum 69 = .ok (.aload_n 0, 1) := by decide +kernel
theorem dX3_readSum_70 : decode cX3_readSum 70 = .ok (.iload 5, 2) := by decide +kernel
theorem dX3_readSum_72 : decode cX3_readSum 72 = .ok (.iconst 0, 1) := by decide +kernel
theorem dX3_readSum_73 : decode cX3_readSum 73 = .ok (.invokevirtual 28, 3) := by decide +kernel
theorem dX3_readSum_76 : decode cX3_readSum 76 = .ok (.iinc 4 1, 3) := by decide +kernel
theorem dX3_readSum_79 : decode cX3_readSum 79 = .ok (.goto (-69), 3) := by decide +kernel
theorem dX3_readSum_82 : decode cX3_readSum 82 = .ok (.iload_n 3, 1) := by decide +kernel
theorem dX3_readSum_83 : decode cX3_readSum 83 = .ok (.ireturn, 1) := by decide +kernel
theorem r_X3_readSum_0 {d rc rs : Nat} {Q : PO → PH → Prop} {h : PH} {l0 : Nat} {l1 : Nat} {l2 : Int32}
    (k : isO h 10300 l0 ∧ cl d rc rs M_X3_readProduct [vR (300, l0), vR (800, l1), vI l2] h (kI fun x4 h1 rc2 rs3 => PW d M_X3_readSum Q rc2 rs3 10 [vR (300, l0), vR (800, l1), vI l2, vI x4, vI (0 : Int32), vU] [] h1) (fun E h1 rc2 rs3 => Q (.inr E) h1)) :
    PW d M_X3_readSum Q rc rs 0 [vR (300, l0), vR (800, l1), vI l2, vU, vU, vU] [] h := by
  refine P_aload_n (pc := 0) dX3_readSum_0 rfl ?_
  refine P_aload_n (pc := 1) dX3_readSum_1 rfl ?_
  refine P_iload_n (pc := 2) dX3_readSum_2 rfl ?_
  obtain ⟨⟨w9, e9⟩, d2, nc, ns, rc2, rs3, Qc, g1, rfl, rfl, g2, kk, kx⟩ := k
  refine P_callV (ci := 3) (k := 0) (id := l0) (q := (RX3, TX3, 5)) (As := [vR (800, l1), vI l2]) (st := []) (pc := 3) dX3_readSum_3 mk_X3_readProduct l_X3_42 im_X3_readProduct se_X3_readProduct ini_X3 rfl g1 (Nat.le_of_ble_eq_true rfl) rfl rfl (by decide) e9 rfl g2 (fun v9 h9 q9 => ?_) (fun E h9 q9 => PX_out rfl (kx E h9 q9))
  obtain ⟨x4, rfl, k⟩ := kk v9 h9 q9
  clear kk kx g1 g2 q9
  refine P_istore_n (pc := 6) dX3_readSum_6 (by decide) (Or.inr (by intro z e9; cases e9)) rfl ?_
  refine P_iconst (v := (0 : Int32)) (pc := 7) dX3_readSum_7 (by decide) ?_
  refine P_istore (pc := 8) dX3_readSum_8 (by decide) (Or.inr (by intro z e9; cases e9)) rfl ?_
  exact k
theorem r_X3_readSum_10 {d rc rs : Nat} {Q : PO → PH → Prop} {h : PH} {l0 : Nat} {l1 : Nat} {l2 : Int32} {l3 : Int32} {l4 : Int32}
    (k : br (l3 = 0) (nrw .boolean l3 (Q (.inl (some (vI l3))) h)) (br (l4 < (150 : Int32)) (isO h 10800 l1 ∧ cl d rc rs M_X8_peek [vR (800, l1)] h (kI fun x4 h1 rc2 rs3 => br (x4 = (43 : Int32)) (PW d M_X3_readSum Q rc2 rs3 44 [vR (300, l0), vR (800, l1), vI l2, vU, vI l4, vI x4] [] h1) (br (x4 = (45 : Int32)) (PW d M_X3_readSum Q rc2 rs3 44 [vR (300, l0), vR (800, l1), vI l2, vU, vI l4, vI x4] [] h1) (Q (.inl (some (vI (1 : Int32)))) h1))) (fun E h1 rc2 rs3 => Q (.inr E) h1)) (nrw .boolean l3 (Q (.inl (some (vI l3))) h)))) :
    PW d M_X3_readSum Q rc rs 10 [vR (300, l0), vR (800, l1), vI l2, vI l3, vI l4, vU] [] h := by
  refine P_iload_n (pc := 10) dX3_readSum_10 rfl ?_
  refine P_if_eq (tgt := 82) (pc := 11) dX3_readSum_11 (by decide) (fun c => ?_) (fun c => ?_)
  · have k := k.1 c
    refine P_iload_n (pc := 82) dX3_readSum_82 rfl ?_
    exact R_ireturn (pc := 83) dX3_readSum_83 rfl k.1 k.2
  · have k := k.2 c
    refine P_iload (pc := 14) dX3_readSum_14 rfl ?_
    refine P_sipush (v := (150 : Int32)) (pc := 16) dX3_readSum_16 (by decide) ?_
    refine P_icmp_ge (tgt := 82) (pc := 19) dX3_readSum_19 (by decide) (fun c => ?_) (fun c => ?_)
    · have k := k.2 (Int32.not_lt.mpr c)
      refine P_iload_n (pc := 82) dX3_readSum_82 rfl ?_
      exact R_ireturn (pc := 83) dX3_readSum_83 rfl k.1 k.2
    · have k := k.1 (Int32.not_le.mp c)
      refine P_aload_n (pc := 22) dX3_readSum_22 rfl ?_
      obtain ⟨⟨w9, e9⟩, d2, nc, ns, rc2, rs3, Qc, g1, rfl, rfl, g2, kk, kx⟩ := k
      refine P_callV (ci := 8) (k := 0) (id := l1) (q := (RX8, TX8, 7)) (As := []) (st := []) (pc := 23) dX3_readSum_23 mk_X8_peek l_X3_45 im_X8_peek se_X8_peek ini_X8 rfl g1 (Nat.le_of_ble_eq_true rfl) rfl rfl (by decide) e9 rfl g2 (fun v9 h9 q9 => ?_) (fun E h9 q9 => PX_out rfl (kx E h9 q9))
      obtain ⟨x4, rfl, k⟩ := kk v9 h9 q9
      clear kk kx g1 g2 q9
      refine P_istore (pc := 26) dX3_readSum_26 (by decide) (Or.inr (by intro z e9; cases e9)) rfl ?_
      refine P_iload (pc := 28) dX3_readSum_28 rfl ?_
      refine P_bipush (v := (43 : Int32)) (pc := 30) dX3_readSum_30 (by decide) ?_
      refine P_icmp_eq (tgt := 44) (pc := 32) dX3_readSum_32 (by decide) (fun c => ?_) (fun c => ?_)
      · have k := k.1 c
        exact P_drop (ls2 := [vR (300, l0), vR (800, l1), vI l2, vU, vI l4, vI x4]) (ls := [vR (300, l0), vR (800, l1), vI l2, vI l3, vI l4, vI x4]) ⟨Or.inr rfl, ⟨Or.inr rfl, ⟨Or.inr rfl, ⟨Or.inl rfl, ⟨Or.inr rfl, ⟨Or.inr rfl, trivial⟩⟩⟩⟩⟩⟩ k
      · have k := k.2 c
        refine P_iload (pc := 35) dX3_readSum_35 rfl ?_
        refine P_bipush (v := (45 : Int32)) (pc := 37) dX3_readSum_37 (by decide) ?_
        refine P_icmp_eq (tgt := 44) (pc := 39) dX3_readSum_39 (by decide) (fun c => ?_) (fun c => ?_)
        · have k := k.1 c
          exact P_drop (ls2 := [vR (300, l0), vR (800, l1), vI l2, vU, vI l4, vI x4]) (ls := [vR (300, l0), vR (800, l1), vI l2, vI l3, vI l4, vI x4]) ⟨Or.inr rfl, ⟨Or.inr rfl, ⟨Or.inr rfl, ⟨Or.inl rfl, ⟨Or.inr rfl, ⟨Or.inr rfl, trivial⟩⟩⟩⟩⟩⟩ k
        · have k := k.2 c
          refine P_iconst (v := (1 : Int32)) (pc := 42) dX3_readSum_42 (by decide) ?_
          exact R_ireturn (pc := 43) dX3_readSum_43 rfl rfl k
theorem r_X3_readSum_44 {d rc rs : Nat} {Q : PO → PH → Prop} {h : PH} {l0 : Nat} {l1 : Nat} {l2 : Int32} {l4 : Int32} {l5 : Int32}
    (k : isO h 10800 l1 ∧ cl d rc rs M_X8_needSign [vR (800, l1), vI ((l5.toUInt32 % 65536).toInt32)] h (kI fun x4 h1 rc2 rs3 => br (x4 = 0) (isO h1 10300 l0 ∧ cl d rc2 rs3 M_X3_add [vR (300, l0), vI l5, vI (0 : Int32)] h1 (kV fun h5 rc6 rs7 => PW d M_X3_readSum Q rc6 rs7 10 [vR (300, l0), vR (800, l1), vI l2, vI (0 : Int32), vI (l4 + (1 : Int32)), vU] [] h5) (fun E h5 rc6 rs7 => Q (.inr E) h5)) (isO h1 10300 l0 ∧ cl d rc2 rs3 M_X3_readProduct [vR (300, l0), vR (800, l1), vI l2] h1 (kI fun x11 h8 rc9 rs10 => br (x11 = 0) (isO h8 10300 l0 ∧ cl d rc9 rs10 M_X3_add [vR (300, l0), vI l5, vI (0 : Int32)] h8 (kV fun h12 rc13 rs14 => PW d M_X3_readSum Q rc13 rs14 10 [vR (300, l0), vR (800, l1), vI l2, vI (0 : Int32), vI (l4 + (1 : Int32)), vU] [] h12) (fun E h12 rc13 rs14 => Q (.inr E) h12)) (isO h8 10300 l0 ∧ cl d rc9 rs10 M_X3_add [vR (300, l0), vI l5, vI (0 : Int32)] h8 (kV fun h15 rc16 rs17 => PW d M_X3_readSum Q rc16 rs17 10 [vR (300, l0), vR (800, l1), vI l2, vI (1 : Int32), vI (l4 + (1 : Int32)), vU] [] h15) (fun E h15 rc16 rs17 => Q (.inr E) h15))) (fun E h8 rc9 rs10 => Q (.inr E) h8))) (fun E h1 rc2 rs3 => Q (.inr E) h1)) :
    PW d M_X3_readSum Q rc rs 44 [vR (300, l0), vR (800, l1), vI l2, vU, vI l4, vI l5] [] h := by
  refine P_aload_n (pc := 44) dX3_readSum_44 rfl ?_
  refine P_iload (pc := 45) dX3_readSum_45 rfl ?_
  refine P_i2c (pc := 47) dX3_readSum_47 ?_
  obtain ⟨⟨w9, e9⟩, d2, nc, ns, rc2, rs3, Qc, g1, rfl, rfl, g2, kk, kx⟩ := k
  refine P_callV (ci := 8) (k := 0) (id := l1) (q := (RX8, TX8, 7)) (As := [vI ((l5.toUInt32 % 65536).toInt32)]) (st := []) (pc := 48) dX3_readSum_48 mk_X8_needSign l_X3_49 im_X8_needSign se_X8_needSign ini_X8 rfl g1 (Nat.le_of_ble_eq_true rfl) rfl rfl (by decide) e9 rfl g2 (fun v9 h9 q9 => ?_) (fun E h9 q9 => PX_out rfl (kx E h9 q9))
  obtain ⟨x4, rfl, k⟩ := kk v9 h9 q9
  clear kk kx g1 g2 q9
  refine P_if_eq (tgt := 67) (pc := 51) dX3_readSum_51 (by decide) (fun c => ?_) (fun c => ?_)
  · have k := k.1 c
    refine P_iconst (v := (0 : Int32)) (pc := 67) dX3_readSum_67 (by decide) ?_
    refine P_istore_n (pc := 68) dX3_readSum_68 (by decide) (Or.inr (by intro z e9; cases e9)) rfl ?_
    refine P_aload_n (pc := 69) dX3_readSum_69 rfl ?_
    refine P_iload (pc := 70) dX3_readSum_70 rfl ?_
    refine P_iconst (v := (0 : Int32)) (pc := 72) dX3_readSum_72 (by decide) ?_
    obtain ⟨⟨w9, e9⟩, d2, nc, ns, rc6, rs7, Qc, g1, rfl, rfl, g2, kk, kx⟩ := k
    refine P_callV (ci := 3) (k := 0) (id := l0) (q := (RX3, TX3, 5)) (As := [vI l5, vI (0 : Int32)]) (st := []) (pc := 73) dX3_readSum_73 mk_X3_add l_X3_28 im_X3_add se_X3_add ini_X3 rfl g1 (Nat.le_of_ble_eq_true rfl) rfl rfl (by decide) e9 rfl g2 (fun v9 h9 q9 => ?_) (fun E h9 q9 => PX_out rfl (kx E h9 q9))
    obtain ⟨rfl, k⟩ := kk v9 h9 q9
    clear kk kx g1 g2 q9
    refine P_iinc (v := l4 + (1 : Int32)) (pc := 76) dX3_readSum_76 (by decide) rfl rfl (Or.inr (by intro z e9; cases e9)) rfl ?_
    refine P_goto (tgt := 10) (pc := 79) dX3_readSum_79 (by decide) ?_
    exact P_drop (ls2 := [vR (300, l0), vR (800, l1), vI l2, vI (0 : Int32), vI (l4 + (1 : Int32)), vU]) (ls := [vR (300, l0), vR (800, l1), vI l2, vI (0 : Int32), vI (l4 + (1 : Int32)), vI l5]) ⟨Or.inr rfl, ⟨Or.inr rfl, ⟨Or.inr rfl, ⟨Or.inr rfl, ⟨Or.inr rfl, ⟨Or.inl rfl, trivial⟩⟩⟩⟩⟩⟩ k
  · have k := k.2 c
    refine P_aload_n (pc := 54) dX3_readSum_54 rfl ?_
    refine P_aload_n (pc := 55) dX3_readSum_55 rfl ?_
    refine P_iload_n (pc := 56) dX3_readSum_56 rfl ?_
    obtain ⟨⟨w9, e9⟩, d2, nc, ns, rc9, rs10, Qc, g1, rfl, rfl, g2, kk, kx⟩ := k
    refine P_callV (ci := 3) (k := 0) (id := l0) (q := (RX3, TX3, 5)) (As := [vR (800, l1), vI l2]) (st := []) (pc := 57) dX3_readSum_57 mk_X3_readProduct l_X3_42 im_X3_readProduct se_X3_readProduct ini_X3 rfl g1 (Nat.le_of_ble_eq_true rfl) rfl rfl (by decide) e9 rfl g2 (fun v9 h9 q9 => ?_) (fun E h9 q9 => PX_out rfl (kx E h9 q9))
    obtain ⟨x11, rfl, k⟩ := kk v9 h9 q9
    clear kk kx g1 g2 q9
    refine P_if_eq (tgt := 67) (pc := 60) dX3_readSum_60 (by decide) (fun c => ?_) (fun c => ?_)
    · have k := k.1 c
      refine P_iconst (v := (0 : Int32)) (pc := 67) dX3_readSum_67 (by decide) ?_
      refine P_istore_n (pc := 68) dX3_readSum_68 (by decide) (Or.inr (by intro z e9; cases e9)) rfl ?_
      refine P_aload_n (pc := 69) dX3_readSum_69 rfl ?_
      refine P_iload (pc := 70) dX3_readSum_70 rfl ?_
      refine P_iconst (v := (0 : Int32)) (pc := 72) dX3_readSum_72 (by decide) ?_
      obtain ⟨⟨w9, e9⟩, d2, nc, ns, rc13, rs14, Qc, g1, rfl, rfl, g2, kk, kx⟩ := k
      refine P_callV (ci := 3) (k := 0) (id := l0) (q := (RX3, TX3, 5)) (As := [vI l5, vI (0 : Int32)]) (st := []) (pc := 73) dX3_readSum_73 mk_X3_add l_X3_28 im_X3_add se_X3_add ini_X3 rfl g1 (Nat.le_of_ble_eq_true rfl) rfl rfl (by decide) e9 rfl g2 (fun v9 h9 q9 => ?_) (fun E h9 q9 => PX_out rfl (kx E h9 q9))
      obtain ⟨rfl, k⟩ := kk v9 h9 q9
      clear kk kx g1 g2 q9
      refine P_iinc (v := l4 + (1 : Int32)) (pc := 76) dX3_readSum_76 (by decide) rfl rfl (Or.inr (by intro z e9; cases e9)) rfl ?_
      refine P_goto (tgt := 10) (pc := 79) dX3_readSum_79 (by decide) ?_
      exact P_drop (ls2 := [vR (300, l0), vR (800, l1), vI l2, vI (0 : Int32), vI (l4 + (1 : Int32)), vU]) (ls := [vR (300, l0), vR (800, l1), vI l2, vI (0 : Int32), vI (l4 + (1 : Int32)), vI l5]) ⟨Or.inr rfl, ⟨Or.inr rfl, ⟨Or.inr rfl, ⟨Or.inr rfl, ⟨Or.inr rfl, ⟨Or.inl rfl, trivial⟩⟩⟩⟩⟩⟩ k
    · have k := k.2 c
      refine P_iconst (v := (1 : Int32)) (pc := 63) dX3_readSum_63 (by decide) ?_
      refine P_goto (tgt := 68) (pc := 64) dX3_readSum_64 (by decide) ?_
      refine P_istore_n (pc := 68) dX3_readSum_68 (by decide) (Or.inr (by intro z e9; cases e9)) rfl ?_
      refine P_aload_n (pc := 69) dX3_readSum_69 rfl ?_
      refine P_iload (pc := 70) dX3_readSum_70 rfl ?_
      refine P_iconst (v := (0 : Int32)) (pc := 72) dX3_readSum_72 (by decide) ?_
      obtain ⟨⟨w9, e9⟩, d2, nc, ns, rc16, rs17, Qc, g1, rfl, rfl, g2, kk, kx⟩ := k
      refine P_callV (ci := 3) (k := 0) (id := l0) (q := (RX3, TX3, 5)) (As := [vI l5, vI (0 : Int32)]) (st := []) (pc := 73) dX3_readSum_73 mk_X3_add l_X3_28 im_X3_add se_X3_add ini_X3 rfl g1 (Nat.le_of_ble_eq_true rfl) rfl rfl (by decide) e9 rfl g2 (fun v9 h9 q9 => ?_) (fun E h9 q9 => PX_out rfl (kx E h9 q9))
      obtain ⟨rfl, k⟩ := kk v9 h9 q9
      clear kk kx g1 g2 q9
      refine P_iinc (v := l4 + (1 : Int32)) (pc := 76) dX3_readSum_76 (by decide) rfl rfl (Or.inr (by intro z e9; cases e9)) rfl ?_
      refine P_goto (tgt := 10) (pc := 79) dX3_readSum_79 (by decide) ?_
      exact P_drop (ls2 := [vR (300, l0), vR (800, l1), vI l2, vI (1 : Int32), vI (l4 + (1 : Int32)), vU]) (ls := [vR (300, l0), vR (800, l1), vI l2, vI (1 : Int32), vI (l4 + (1 : Int32)), vI l5]) ⟨Or.inr rfl, ⟨Or.inr rfl, ⟨Or.inr rfl, ⟨Or.inr rfl, ⟨Or.inr rfl, ⟨Or.inl rfl, trivial⟩⟩⟩⟩⟩⟩ k
-- X3_readProduct readProduct(LFernHeirs$Text;I)Z
theorem dX3_readProduct_0 : decode cX3_readProduct 0 = .ok (.aload_n 0, 1) := by decide +kernel
theorem dX3_readProduct_1 : decode cX3_readProduct 1 = .ok (.aload_n 1, 1) := by decide +kernel
theorem dX3_readProduct_2 : decode cX3_readProduct 2 = .ok (.iload_n 2, 1) := by decide +kernel
theorem dX3_readProduct_3 : decode cX3_readProduct 3 = .ok (.invokevirtual 53, 3) := by decide +kernel
theorem dX3_readProduct_6 : decode cX3_readProduct 6 = .ok (.istore_n 3, 1) := by decide +kernel
theorem dX3_readProduct_7 : decode cX3_readProduct 7 = .ok (.iconst 0, 1) := by decide +kernel
theorem dX3_readProduct_8 : decode cX3_readProduct 8 = .ok (.istore 4, 2) := by decide +kernel
theorem dX3_readProduct_10 : decode cX3_readProduct 10 = .ok (.iload_n 3, 1) := by decide +kernel
theorem dX3_readProduct_11 : decode cX3_readProduct 11 = .ok (.ifCond .eq 78, 3) := by decide +kernel
theorem dX3_readProduct_14 : decode cX3_readProduct 14 = .ok (.iload 4, 2) := by decide +kernel
theorem dX3_readProduct_16 : decode cX3_readProduct 16 = .ok (.sipush 150, 3) := by decide +kernel
theorem dX3_readProduct_19 : decode cX3_readProduct 19 = .ok (.if_icmp .ge 70, 3) := by decide +kernel
theorem dX3_readProduct_22 : decode cX3_readProduct 22 = .ok (.aload_n 1, 1) := by decide +kernel
theorem dX3_readProduct_23 : decode cX3_readProduct 23 = .ok (.invokevirtual 45, 3) := by decide +kernel
theorem dX3_readProduct_26 : decode cX3_readProduct 26 = .ok (.istore 5, 2) := by decide +kernel
theorem dX3_readProduct_28 : decode cX3_readProduct 28 = .ok (.iload 5, 2) := by decide +kernel
theorem dX3_readProduct_30 : decode cX3_readProduct 30 = .ok (.bipush 42, 2) := by decide +kernel
theorem dX3_readProduct_32 : decode cX3_readProduct 32 = .ok (.if_icmp .eq 19, 3) := by decide +kernel
theorem dX3_readProduct_35 : decode cX3_readProduct 35 = .ok (.iload 5, 2) := by decide +kernel
theorem dX3_readProduct_37 : decode cX3_readProduct 37 = .ok (.bipush 47, 2) := by decide +kernel
theorem dX3_readProduct_39 : decode cX3_readProduct 39 = .ok (.if_icmp .eq 12, 3) := by decide +kernel
theorem dX3_readProduct_42 : decode cX3_readProduct 42 = .ok (.iload 5, 2) := by decide +kernel
theorem dX3_readProduct_44 : decode cX3_readProduct 44 = .ok (.bipush 37, 2) := by decide +kernel
theorem dX3_readProduct_46 : decode cX3_readProduct 46 = .ok (.if_icmp .eq 5, 3) := by decide +kernel
theorem dX3_readProduct_49 : decode cX3_readProduct 49 = .ok (.iconst 1, 1) := by decide +kernel
theorem dX3_readProduct_50 : decode cX3_readProduct 50 = .ok (.ireturn, 1) := by decide +kernel
theorem dX3_readProduct_51 : decode cX3_readProduct 51 = .ok (.aload_n 1, 1) := by decide +kernel
theorem dX3_readProduct_52 : decode cX3_readProduct 52 = .ok (.iload 5, 2) := by decide +kernel
theorem dX3_readProduct_54 : decode cX3_readProduct 54 = .ok (.i2c, 1) := by decide +kernel
theorem dX3_readProduct_55 : decode cX3_readProduct 55 = .ok (.invokevirtual 49, 3) := by decide +kernel
theorem dX3_readProduct_58 : decode cX3_readProduct 58 = .ok (.ifCond .eq 16, 3) := by decide +kernel
theorem dX3_readProduct_61 : decode cX3_readProduct 61 = .ok (.aload_n 0, 1) := by decide +kernel
theorem dX3_readProduct_62 : decode cX3_readProduct 62 = .ok (.aload_n 1, 1) := by decide +kernel
theorem dX3_readProduct_63 : decode cX3_readProduct 63 = .ok (.iload_n 2, 1) := by decide +kernel
theorem dX3_readProduct_64 : decode cX3_readProduct 64 = .ok (.invokevirtual 53, 3) := by decide +kernel
theorem dX3_readProduct_67 : decode cX3_readProduct 67 = .ok (.ifCond .eq 7, 3) := by decide +kernel
theorem dX3_readProduct_70 : decode cX3_readProduct 70 = .ok (.iconst 1, 1) := by decide +kernel
theorem dX3_readProduct_71 : decode cX3_readProduct 71 = .ok (.goto 4, 3) := by decide +kernel
theorem dX3_readProduct_74 : decode cX3_readProduct 74 = .ok (.iconst 0, 1) := by decide +kernel
theorem dX3_readProduct_75 : decode cX3_readProduct 75 = .ok (.istore_n 3, 1) := by decide +kernel
theorem dX3_readProduct_76 : decode cX3_readProduct 76 = .ok (.aload_n 0, 1) := by decide +kernel
theorem dX3_readProduct_77 : decode cX3_readProduct 77 = .ok (.iload 5, 2) := by decide +kernel
theorem dX3_readProduct_79 : decode cX3_readProduct 79 = .ok (.iconst 0, 1) := by decide +kernel
theorem dX3_readProduct_80 : decode cX3_readProduct 80 = .ok (.invokevirtual 28, 3) := by decide +kernel
theorem dX3_readProduct_83 : decode cX3_readProduct 83 = .ok (.iinc 4 1, 3) := by decide +kernel
theorem dX3_readProduct_86 : decode cX3_readProduct 86 = .ok (.goto (-76), 3) := by decide +kernel
theorem dX3_readProduct_89 : decode cX3_readProduct 89 = .ok (.iload_n 3, 1) := by decide +kernel
theorem dX3_readProduct_90 : decode cX3_readProduct 90 = .ok (.ireturn, 1) := by decide +kernel
theorem r_X3_readProduct_0 {d rc rs : Nat} {Q : PO → PH → Prop} {h : PH} {l0 : Nat} {l1 : Nat} {l2 : Int32}
    (k : isO h 10300 l0 ∧ cl d rc rs M_X3_readUnit [vR (300, l0), vR (800, l1), vI l2] h (kI fun x4 h1 rc2 rs3 => PW d M_X3_readProduct Q rc2 rs3 10 [vR (300, l0), vR (800, l1), vI l2, vI x4, vI (0 : Int32), vU] [] h1) (fun E h1 rc2 rs3 => Q (.inr E) h1)) :
    PW d M_X3_readProduct Q rc rs 0 [vR (300, l0), vR (800, l1), vI l2, vU, vU, vU] [] h := by
  refine P_aload_n (pc := 0) dX3_readProduct_0 rfl ?_
  refine P_aload_n (pc := 1) dX3_readProduct_1 rfl ?_
  refine P_iload_n (pc := 2) dX3_readProduct_2 rfl ?_
  obtain ⟨⟨w9, e9⟩, d2, nc, ns, rc2, rs3, Qc, g1, rfl, rfl, g2, kk, kx⟩ := k
  refine P_callV (ci := 3) (k := 0) (id := l0) (q := (RX3, TX3, 5)) (As := [vR (800, l1), vI l2]) (st := []) (pc := 3) dX3_readProduct_3 mk_X3_readUnit l_X3_53 im_X3_readUnit se_X3_readUnit ini_X3 rfl g1 (Nat.le_of_ble_eq_true rfl) rfl rfl (by decide) e9 rfl g2 (fun v9 h9 q9 => ?_) (fun E h9 q9 => PX_out rfl (kx E h9 q9))
  obtain ⟨x4, rfl, k⟩ := kk v9 h9 q9
  clear kk kx g1 g2 q9
  refine P_istore_n (pc := 6) dX3_readProduct_6 (by decide) (Or.inr (by intro z e9; cases e9)) rfl ?_
  refine P_iconst (v := (0 : Int32)) (pc := 7) dX3_readProduct_7 (by decide) ?_
  refine P_istore (pc := 8) dX3_readProduct_8 (by decide) (Or.inr (by intro z e9; cases e9)) rfl ?_
  exact k
theorem r_X3_readProduct_10 {d rc rs : Nat} {Q : PO → PH → Prop} {h : PH} {l0 : Nat} {l1 : Nat} {l2 : Int32} {l3 : Int32} {l4 : Int32}
    (k : br (l3 = 0) (nrw .boolean l3 (Q (.inl (some (vI l3))) h)) (br (l4 < (150 : Int32)) (isO h 10800 l1 ∧ cl d rc rs M_X8_peek [vR (800, l1)] h (kI fun x4 h1 rc2 rs3 => br (x4 = (42 : Int32)) (PW d M_X3_readProduct Q rc2 rs3 51 [vR (300, l0), vR (800, l1), vI l2, vU, vI l4, vI x4] [] h1) (br (x4 = (47 : Int32)) (PW d M_X3_readProduct Q rc2 rs3 51 [vR (300, l0), vR (800, l1), vI l2, vU, vI l4, vI x4] [] h1) (br (x4 = (37 : Int32)) (PW d M_X3_readProduct Q rc2 rs3 51 [vR (300, l0), vR (800, l1), vI l2, vU, vI l4, vI x4] [] h1) (Q (.inl (some (vI (1 : Int32)))) h1)))) (fun E h1 rc2 rs3 => Q (.inr E) h1)) (nrw .boolean l3 (Q (.inl (some (vI l3))) h)))) :
    PW d M_X3_readProduct Q rc rs 10 [vR (300, l0), vR (800, l1), vI l2, vI l3, vI l4, vU] [] h := by
  refine P_iload_n (pc := 10) dX3_readProduct_10 rfl ?_
  refine P_if_eq (tgt := 89) (pc := 11) dX3_readProduct_11 (by decide) (fun c => ?_) (fun c => ?_)
  · have k := k.1 c
    refine P_iload_n (pc := 89) dX3_readProduct_89 rfl ?_
    exact R_ireturn (pc := 90) dX3_readProduct_90 rfl k.1 k.2
  · have k := k.2 c
    refine P_iload (pc := 14) dX3_readProduct_14 rfl ?_
    refine P_sipush (v := (150 : Int32)) (pc := 16) dX3_readProduct_16 (by decide) ?_
    refine P_icmp_ge (tgt := 89) (pc := 19) dX3_readProduct_19 (by decide) (fun c => ?_) (fun c => ?_)
    · have k := k.2 (Int32.not_lt.mpr c)
      refine P_iload_n (pc := 89) dX3_readProduct_89 rfl ?_
      exact R_ireturn (pc := 90) dX3_readProduct_90 rfl k.1 k.2
    · have k := k.1 (Int32.not_le.mp c)
      refine P_aload_n (pc := 22) dX3_readProduct_22 rfl ?_
      obtain ⟨⟨w9, e9⟩, d2, nc, ns, rc2, rs3, Qc, g1, rfl, rfl, g2, kk, kx⟩ := k
      refine P_callV (ci := 8) (k := 0) (id := l1) (q := (RX8, TX8, 7)) (As := []) (st := []) (pc := 23) dX3_readProduct_23 mk_X8_peek l_X3_45 im_X8_peek se_X8_peek ini_X8 rfl g1 (Nat.le_of_ble_eq_true rfl) rfl rfl (by decide) e9 rfl g2 (fun v9 h9 q9 => ?_) (fun E h9 q9 => PX_out rfl (kx E h9 q9))
      obtain ⟨x4, rfl, k⟩ := kk v9 h9 q9
      clear kk kx g1 g2 q9
      refine P_istore (pc := 26) dX3_readProduct_26 (by decide) (Or.inr (by intro z e9; cases e9)) rfl ?_
      refine P_iload (pc := 28) dX3_readProduct_28 rfl ?_
      refine P_bipush (v := (42 : Int32)) (pc := 30) dX3_readProduct_30 (by decide) ?_
      refine P_icmp_eq (tgt := 51) (pc := 32) dX3_readProduct_32 (by decide) (fun c => ?_) (fun c => ?_)
      · have k := k.1 c
        exact P_drop (ls2 := [vR (300, l0), vR (800, l1), vI l2, vU, vI l4, vI x4]) (ls := [vR (300, l0), vR (800, l1), vI l2, vI l3, vI l4, vI x4]) ⟨Or.inr rfl, ⟨Or.inr rfl, ⟨Or.inr rfl, ⟨Or.inl rfl, ⟨Or.inr rfl, ⟨Or.inr rfl, trivial⟩⟩⟩⟩⟩⟩ k
      · have k := k.2 c
        refine P_iload (pc := 35) dX3_readProduct_35 rfl ?_
        refine P_bipush (v := (47 : Int32)) (pc := 37) dX3_readProduct_37 (by decide) ?_
        refine P_icmp_eq (tgt := 51) (pc := 39) dX3_readProduct_39 (by decide) (fun c => ?_) (fun c => ?_)
        · have k := k.1 c
          exact P_drop (ls2 := [vR (300, l0), vR (800, l1), vI l2, vU, vI l4, vI x4]) (ls := [vR (300, l0), vR (800, l1), vI l2, vI l3, vI l4, vI x4]) ⟨Or.inr rfl, ⟨Or.inr rfl, ⟨Or.inr rfl, ⟨Or.inl rfl, ⟨Or.inr rfl, ⟨Or.inr rfl, trivial⟩⟩⟩⟩⟩⟩ k
        · have k := k.2 c
          refine P_iload (pc := 42) dX3_readProduct_42 rfl ?_
          refine P_bipush (v := (37 : Int32)) (pc := 44) dX3_readProduct_44 (by decide) ?_
          refine P_icmp_eq (tgt := 51) (pc := 46) dX3_readProduct_46 (by decide) (fun c => ?_) (fun c => ?_)
          · have k := k.1 c
            exact P_drop (ls2 := [vR (300, l0), vR (800, l1), vI l2, vU, vI l4, vI x4]) (ls := [vR (300, l0), vR (800, l1), vI l2, vI l3, vI l4, vI x4]) ⟨Or.inr rfl, ⟨Or.inr rfl, ⟨Or.inr rfl, ⟨Or.inl rfl, ⟨Or.inr rfl, ⟨Or.inr rfl, trivial⟩⟩⟩⟩⟩⟩ k
          · have k := k.2 c
            refine P_iconst (v := (1 : Int32)) (pc := 49) dX3_readProduct_49 (by decide) ?_
            exact R_ireturn (pc := 50) dX3_readProduct_50 rfl rfl k
theorem r_X3_readProduct_51 {d rc rs : Nat} {Q : PO → PH → Prop} {h : PH} {l0 : Nat} {l1 : Nat} {l2 : Int32} {l4 : Int32} {l5 : Int32}
    (k : isO h 10800 l1 ∧ cl d rc rs M_X8_needSign [vR (800, l1), vI ((l5.toUInt32 % 65536).toInt32)] h (kI fun x4 h1 rc2 rs3 => br (x4 = 0) (isO h1 10300 l0 ∧ cl d rc2 rs3 M_X3_add [vR (300, l0), vI l5, vI (0 : Int32)] h1 (kV fun h5 rc6 rs7 => PW d M_X3_readProduct Q rc6 rs7 10 [vR (300, l0), vR (800, l1), vI l2, vI (0 : Int32), vI (l4 + (1 : Int32)), vU] [] h5) (fun E h5 rc6 rs7 => Q (.inr E) h5)) (isO h1 10300 l0 ∧ cl d rc2 rs3 M_X3_readUnit [vR (300, l0), vR (800, l1), vI l2] h1 (kI fun x11 h8 rc9 rs10 => br (x11 = 0) (isO h8 10300 l0 ∧ cl d rc9 rs10 M_X3_add [vR (300, l0), vI l5, vI (0 : Int32)] h8 (kV fun h12 rc13 rs14 => PW d M_X3_readProduct Q rc13 rs14 10 [vR (300, l0), vR (800, l1), vI l2, vI (0 : Int32), vI (l4 + (1 : Int32)), vU] [] h12) (fun E h12 rc13 rs14 => Q (.inr E) h12)) (isO h8 10300 l0 ∧ cl d rc9 rs10 M_X3_add [vR (300, l0), vI l5, vI (0 : Int32)] h8 (kV fun h15 rc16 rs17 => PW d M_X3_readProduct Q rc16 rs17 10 [vR (300, l0), vR (800, l1), vI l2, vI (1 : Int32), vI (l4 + (1 : Int32)), vU] [] h15) (fun E h15 rc16 rs17 => Q (.inr E) h15))) (fun E h8 rc9 rs10 => Q (.inr E) h8))) (fun E h1 rc2 rs3 => Q (.inr E) h1)) :
    PW d M_X3_readProduct Q rc rs 51 [vR (300, l0), vR (800, l1), vI l2, vU, vI l4, vI l5] [] h := by
  refine P_aload_n (pc := 51) dX3_readProduct_51 rfl ?_
  refine P_iload (pc := 52) dX3_readProduct_52 rfl ?_
  refine P_i2c (pc := 54) dX3_readProduct_54 ?_
  obtain ⟨⟨w9, e9⟩, d2, nc, ns, rc2, rs3, Qc, g1, rfl, rfl, g2, kk, kx⟩ := k
  refine P_callV (ci := 8) (k := 0) (id := l1) (q := (RX8, TX8, 7)) (As := [vI ((l5.toUInt32 % 65536).toInt32)]) (st := []) (pc := 55) dX3_readProduct_55 mk_X8_needSign l_X3_49 im_X8_needSign se_X8_needSign ini_X8 rfl g1 (Nat.le_of_ble_eq_true rfl) rfl rfl (by decide) e9 rfl g2 (fun v9 h9 q9 => ?_) (fun E h9 q9 => PX_out rfl (kx E h9 q9))
  obtain ⟨x4, rfl, k⟩ := kk v9 h9 q9
  clear kk kx g1 g2 q9
  refine P_if_eq (tgt := 74) (pc := 58) dX3_readProduct_58 (by decide) (fun c => ?_) (fun c => ?_)
  · have k := k.1 c
    refine P_iconst (v := (0 : Int32)) (pc := 74) dX3_readProduct_74 (by decide) ?_
    refine P_istore_n (pc := 75) dX3_readProduct_75 (by decide) (Or.inr (by intro z e9; cases e9)) rfl ?_
    refine P_aload_n (pc := 76) dX3_readProduct_76 rfl ?_
    refine P_iload (pc := 77) dX3_readProduct_77 rfl ?_
    refine P_iconst (v := (0 : Int32)) (pc := 79) dX3_readProduct_79 (by decide) ?_
    obtain ⟨⟨w9, e9⟩, d2, nc, ns, rc6, rs7, Qc, g1, rfl, rfl, g2, kk, kx⟩ := k
    refine P_callV (ci := 3) (k := 0) (id := l0) (q := (RX3, TX3, 5)) (As := [vI l5, vI (0 : Int32)]) (st := []) (pc := 80) dX3_readProduct_80 mk_X3_add l_X3_28 im_X3_add se_X3_add ini_X3 rfl g1 (Nat.le_of_ble_eq_true rfl) rfl rfl (by decide) e9 rfl g2 (fun v9 h9 q9 => ?_) (fun E h9 q9 => PX_out rfl (kx E h9 q9))
    obtain ⟨rfl, k⟩ := kk v9 h9 q9
    clear kk kx g1 g2 q9
    refine P_iinc (v := l4 + (1 : Int32)) (pc := 83) dX3_readProduct_83 (by decide) rfl rfl (Or.inr (by intro z e9; cases e9)) rfl ?_
    refine P_goto (tgt := 10) (pc := 86) dX3_readProduct_86 (by decide) ?_
    exact P_drop (ls2 := [vR (300, l0), vR (800, l1), vI l2, vI (0 : Int32), vI (l4 + (1 : Int32)), vU]) (ls := [vR (300, l0), vR (800, l1), vI l2, vI (0 : Int32), vI (l4 + (1 : Int32)), vI l5]) ⟨Or.inr rfl, ⟨Or.inr rfl, ⟨Or.inr rfl, ⟨Or.inr rfl, ⟨Or.inr rfl, ⟨Or.inl rfl, trivial⟩⟩⟩⟩⟩⟩ k
  · have k := k.2 c
    refine P_aload_n (pc := 61) dX3_readProduct_61 rfl ?_
    refine P_aload_n (pc := 62) dX3_readProduct_62 rfl ?_
    refine P_iload_n (pc := 63) dX3_readProduct_63 rfl ?_
    obtain ⟨⟨w9, e9⟩, d2, nc, ns, rc9, rs10, Qc, g1, rfl, rfl, g2, kk, kx⟩ := k
    refine P_callV (ci := 3) (k := 0) (id := l0) (q := (RX3, TX3, 5)) (As := [vR (800, l1), vI l2]) (st := []) (pc := 64) dX3_readProduct_64 mk_X3_readUnit l_X3_53 im_X3_readUnit se_X3_readUnit ini_X3 rfl g1 (Nat.le_of_ble_eq_true rfl) rfl rfl (by decide) e9 rfl g2 (fun v9 h9 q9 => ?_) (fun E h9 q9 => PX_out rfl (kx E h9 q9))
    obtain ⟨x11, rfl, k⟩ := kk v9 h9 q9
    clear kk kx g1 g2 q9
    refine P_if_eq (tgt := 74) (pc := 67) dX3_readProduct_67 (by decide) (fun c => ?_) (fun c => ?_)
    · have k := k.1 c
      refine P_iconst (v := (0 : Int32)) (pc := 74) dX3_readProduct_74 (by decide) ?_
      refine P_istore_n (pc := 75) dX3_readProduct_75 (by decide) (Or.inr (by intro z e9; cases e9)) rfl ?_
      refine P_aload_n (pc := 76) dX3_readProduct_76 rfl ?_
      refine P_iload (pc := 77) dX3_readProduct_77 rfl ?_
      refine P_iconst (v := (0 : Int32)) (pc := 79) dX3_readProduct_79 (by decide) ?_
      obtain ⟨⟨w9, e9⟩, d2, nc, ns, rc13, rs14, Qc, g1, rfl, rfl, g2, kk, kx⟩ := k
      refine P_callV (ci := 3) (k := 0) (id := l0) (q := (RX3, TX3, 5)) (As := [vI l5, vI (0 : Int32)]) (st := []) (pc := 80) dX3_readProduct_80 mk_X3_add l_X3_28 im_X3_add se_X3_add ini_X3 rfl g1 (Nat.le_of_ble_eq_true rfl) rfl rfl (by decide) e9 rfl g2 (fun v9 h9 q9 => ?_) (fun E h9 q9 => PX_out rfl (kx E h9 q9))
      obtain ⟨rfl, k⟩ := kk v9 h9 q9
      clear kk kx g1 g2 q9
      refine P_iinc (v := l4 + (1 : Int32)) (pc := 83) dX3_readProduct_83 (by decide) rfl rfl (Or.inr (by intro z e9; cases e9)) rfl ?_
      refine P_goto (tgt := 10) (pc := 86) dX3_readProduct_86 (by decide) ?_
      exact P_drop (ls2 := [vR (300, l0), vR (800, l1), vI l2, vI (0 : Int32), vI (l4 + (1 : Int32)), vU]) (ls := [vR (300, l0), vR (800, l1), vI l2, vI (0 : Int32), vI (l4 + (1 : Int32)), vI l5]) ⟨Or.inr rfl, ⟨Or.inr rfl, ⟨Or.inr rfl, ⟨Or.inr rfl, ⟨Or.inr rfl, ⟨Or.inl rfl, trivial⟩⟩⟩⟩⟩⟩ k
    · have k := k.2 c
      refine P_iconst (v := (1 : Int32)) (pc := 70) dX3_readProduct_70 (by decide) ?_
      refine P_goto (tgt := 75) (pc := 71) dX3_readProduct_71 (by decide) ?_
      refine P_istore_n (pc := 75) dX3_readProduct_75 (by decide) (Or.inr (by intro z e9; cases e9)) rfl ?_
      refine P_aload_n (pc := 76) dX3_readProduct_76 rfl ?_
      refine P_iload (pc := 77) dX3_readProduct_77 rfl ?_
      refine P_iconst (v := (0 : Int32)) (pc := 79) dX3_readProduct_79 (by decide) ?_
      obtain ⟨⟨w9, e9⟩, d2, nc, ns, rc16, rs17, Qc, g1, rfl, rfl, g2, kk, kx⟩ := k
      refine P_callV (ci := 3) (k := 0) (id := l0) (q := (RX3, TX3, 5)) (As := [vI l5, vI (0 : Int32)]) (st := []) (pc := 80) dX3_readProduct_80 mk_X3_add l_X3_28 im_X3_add se_X3_add ini_X3 rfl g1 (Nat.le_of_ble_eq_true rfl) rfl rfl (by decide) e9 rfl g2 (fun v9 h9 q9 => ?_) (fun E h9 q9 => PX_out rfl (kx E h9 q9))
      obtain ⟨rfl, k⟩ := kk v9 h9 q9
      clear kk kx g1 g2 q9
      refine P_iinc (v := l4 + (1 : Int32)) (pc := 83) dX3_readProduct_83 (by decide) rfl rfl (Or.inr (by intro z e9; cases e9)) rfl ?_
      refine P_goto (tgt := 10) (pc := 86) dX3_readProduct_86 (by decide) ?_
      exact P_drop (ls2 := [vR (300, l0), vR (800, l1), vI l2, vI (1 : Int32), vI (l4 + (1 : Int32)), vU]) (ls := [vR (300, l0), vR (800, l1), vI l2, vI (1 : Int32), vI (l4 + (1 : Int32)), vI l5]) ⟨Or.inr rfl, ⟨Or.inr rfl, ⟨Or.inr rfl, ⟨Or.inr rfl, ⟨Or.inr rfl, ⟨Or.inl rfl, trivial⟩⟩⟩⟩⟩⟩ k
-- X3_readUnit readUnit(LFernHeirs$Text;I)Z
theorem dX3_readUnit_0 : decode cX3_readUnit 0 = .ok (.aload_n 1, 1) := by decide +kernel
theorem dX3_readUnit_1 : decode cX3_readUnit 1 = .ok (.bipush 40, 2) := by decide +kernel
theorem dX3_readUnit_3 : decode cX3_readUnit 3 = .ok (.invokevirtual 56, 3) := by decide +kernel
theorem dX3_readUnit_6 : decode cX3_readUnit 6 = .ok (.ifCond .eq 43, 3) := by decide +kernel
theorem dX3_readUnit_9 : decode cX3_readUnit 9 = .ok (.iload_n 2, 1) := by decide +kernel
theorem dX3_readUnit_10 : decode cX3_readUnit 10 = .ok (.bipush 6, 2) := by decide +kernel
theorem dX3_readUnit_12 : decode cX3_readUnit 12 = .ok (.if_icmp .lt 11, 3) := by decide +kernel
theorem dX3_readUnit_15 : decode cX3_readUnit 15 = .ok (.aload_n 1, 1) := by decide +kernel
theorem dX3_readUnit_16 : decode cX3_readUnit 16 = .ok (.iconst 3, 1) := by decide +kernel
theorem dX3_readUnit_17 : decode cX3_readUnit 17 = .ok (.invokevirtual 59, 3) := by decide +kernel
theorem dX3_readUnit_20 : decode cX3_readUnit 20 = .ok (.goto 28, 3) := by decide +kernel
theorem dX3_readUnit_23 : decode cX3_readUnit 23 = .ok (.aload_n 0, 1) := by decide +kernel
theorem dX3_readUnit_24 : decode cX3_readUnit 24 = .ok (.aload_n 1, 1) := by decide +kernel
theorem dX3_readUnit_25 : decode cX3_readUnit 25 = .ok (.iload_n 2, 1) := by decide +kernel
theorem dX3_readUnit_26 : decode cX3_readUnit 26 = .ok (.iconst 1, 1) := by decide +kernel
theorem dX3_readUnit_27 : decode cX3_readUnit 27 = .ok (.iadd, 1) := by decide +kernel
theorem dX3_readUnit_28 : decode cX3_readUnit 28 = .ok (.invokevirtual 32, 3) := by decide +kernel
theorem dX3_readUnit_31 : decode cX3_readUnit 31 = .ok (.ifCond .eq 16, 3) := by decide +kernel
theorem dX3_readUnit_34 : decode cX3_readUnit 34 = .ok (.aload_n 1, 1) := by decide +kernel
theorem dX3_readUnit_35 : decode cX3_readUnit 35 = .ok (.bipush 41, 2) := by decide +kernel
theorem dX3_readUnit_37 : decode cX3_readUnit 37 = .ok (.invokevirtual 49, 3) := by decide +kernel
theorem dX3_readUnit_40 : decode cX3_readUnit 40 = .ok (.ifCond .eq 7, 3) := by decide +kernel
theorem dX3_readUnit_43 : decode cX3_readUnit 43 = .ok (.iconst 1, 1) := by decide +kernel
theorem dX3_readUnit_44 : decode cX3_readUnit 44 = .ok (.goto 4, 3) := by decide +kernel
theorem dX3_readUnit_47 : decode cX3_readUnit 47 = .ok (.iconst 0, 1) := by decide +kernel
theorem dX3_readUnit_48 : decode cX3_readUnit 48 = .ok (.ireturn, 1) := by decide +kernel
theorem dX3_readUnit_49 : decode cX3_readUnit 49 = .ok (.aload_n 1, 1) := by decide +kernel
theorem dX3_readUnit_50 : decode cX3_readUnit 50 = .ok (.ldc 63, 2) := by decide +kernel
theorem dX3_readUnit_52 : decode cX3_readUnit 52 = .ok (.invokevirtual 65, 3) := by decide +kernel
theorem dX3_readUnit_55 : decode cX3_readUnit 55 = .ok (.ifCond .eq 7, 3) := by decide +kernel
theorem dX3_readUnit_58 : decode cX3_readUnit 58 = .ok (.iconst 2, 1) := by decide +kernel
theorem dX3_readUnit_59 : decode cX3_readUnit 59 = .ok (.goto 17, 3) := by decide +kernel
theorem dX3_readUnit_62 : decode cX3_readUnit 62 = .ok (.aload_n 1, 1) := by decide +kernel
theorem dX3_readUnit_63 : decode cX3_readUnit 63 = .ok (.ldc 69, 2) := by decide +kernel
theorem dX3_readUnit_65 : decode cX3_readUnit 65 = .ok (.invokevirtual 65, 3) := by decide +kernel
theorem dX3_readUnit_68 : decode cX3_readUnit 68 = .ok (.ifCond .eq 7, 3) := by decide +kernel
theorem dX3_readUnit_71 : decode cX3_readUnit 71 = .ok (.iconst 3, 1) := by decide +kernel
theorem dX3_readUnit_72 : decode cX3_readUnit 72 = .ok (.goto 4, 3) := by decide +kernel
theorem dX3_readUnit_75 : decode cX3_readUnit 75 = .ok (.iconst (-1), 1) := by decide +kernel
theorem dX3_readUnit_76 : decode cX3_readUnit 76 = .ok (.istore_n 3, 1) := by decide +kernel
theorem dX3_readUnit_77 : decode cX3_readUnit 77 = .ok (.iload_n 3, 1) := by decide +kernel
theorem dX3_readUnit_78 : decode cX3_readUnit 78 = .ok (.iconst (-1), 1) := by decide +kernel
theorem dX3_readUnit_79 : decode cX3_readUnit 79 = .ok (.if_icmp .eq 27, 3) := by decide +kernel
theorem dX3_readUnit_82 : decode cX3_readUnit 82 = .ok (.iload_n 2, 1) := by decide +kernel
theorem dX3_readUnit_83 : decode cX3_readUnit 83 = .ok (.bipush 6, 2) := by decide +kernel
theorem dX3_readUnit_85 : decode cX3_readUnit 85 = .ok (.if_icmp .lt 11, 3) := by decide +kernel
theorem dX3_readUnit_88 : decode cX3_readUnit 88 = .ok (.aload_n 1, 1) := by decide +kernel
theorem dX3_readUnit_89 : decode cX3_readUnit 89 = .ok (.iconst 3, 1) := by decide +kernel
theorem dX3_readUnit_90 : decode cX3_readUnit 90 = .ok (.invokevirtual 59, 3) := by decide +kernel
theorem dX3_readUnit_93 : decode cX3_readUnit 93 = .ok (.goto 12, 3) := by decide +kernel
theorem dX3_readUnit_96 : decode cX3_readUnit 96 = .ok (.aload_n 0, 1) := by decide +kernel
theorem dX3_readUnit_97 : decode cX3_readUnit 97 = .ok (.aload_n 1, 1) := by decide +kernel
theorem dX3_readUnit_98 : decode cX3_readUnit 98 = .ok (.iload_n 2, 1) := by decide +kernel
theorem dX3_readUnit_99 : decode cX3_readUnit 99 = .ok (.iconst 1, 1) := by decide +kernel
theorem dX3_readUnit_100 : decode cX3_readUnit 100 = .ok (.iadd, 1) := by decide +kernel
theorem dX3_readUnit_101 : decode cX3_readUnit 101 = .ok (.iload_n 3, 1) := by decide +kernel
theorem dX3_readUnit_102 : decode cX3_readUnit 102 = .ok (.invokevirtual 71, 3) := by decide +kernel
theorem dX3_readUnit_105 : decode cX3_readUnit 105 = .ok (.ireturn, 1) := by decide +kernel
theorem dX3_readUnit_106 : decode cX3_readUnit 106 = .ok (.aload_n 1, 1) := by decide +kernel
theorem dX3_readUnit_107 : decode cX3_readUnit 107 = .ok (.invokestatic 75, 3) := by decide +kernel
theorem dX3_readUnit_110 : decode cX3_readUnit 110 = .ok (.istore 4, 2) := by decide +kernel
theorem dX3_readUnit_112 : decode cX3_readUnit 112 = .ok (.iload 4, 2) := by decide +kernel
theorem dX3_readUnit_114 : decode cX3_readUnit 114 = .ok (.iconst (-1), 1) := by decide +kernel
theorem dX3_readUnit_115 : decode cX3_readUnit 115 = .ok (.if_icmp .eq 12, 3) := by decide +kernel
theorem dX3_readUnit_118 : decode cX3_readUnit 118 = .ok (.aload_n 0, 1) := by decide +kernel
theorem dX3_readUnit_119 : decode cX3_readUnit 119 = .ok (.iconst 1, 1) := by decide +kernel
theorem dX3_readUnit_120 : decode cX3_readUnit 120 = .ok (.iload 4, 2) := by decide +kernel
theorem dX3_readUnit_122 : decode cX3_readUnit 122 = .ok (.invokevirtual 28, 3) := by decide +kernel
theorem dX3_readUnit_125 : decode cX3_readUnit 125 = .ok (.iconst 1, 1) := by decide +kernel
theorem dX3_readUnit_126 : decode cX3_readUnit 126 = .ok (.ireturn, 1) := by decide +kernel
theorem dX3_readUnit_127 : decode cX3_readUnit 127 = .ok (.aload_n 1, 1) := by decide +kernel
theorem dX3_readUnit_128 : decode cX3_readUnit 128 = .ok (.iconst 0, 1) := by decide +kernel
theorem dX3_readUnit_129 : decode cX3_readUnit 129 = .ok (.sipush 999, 3) := by decide +kernel
theorem dX3_readUnit_132 : decode cX3_readUnit 132 = .ok (.invokevirtual 79, 3) := by decide +kernel
theorem dX3_readUnit_135 : decode cX3_readUnit 135 = .ok (.istore 5, 2) := by decide +kernel
theorem dX3_readUnit_137 : decode cX3_readUnit 137 = .ok (.aload_n 0, 1) := by decide +kernel
theorem dX3_readUnit_138 : decode cX3_readUnit 138 = .ok (.iconst 0, 1) := by decide +kernel
theorem dX3_readUnit_139 : decode cX3_readUnit 139 = .ok (.iload 5, 2) := by decide +kernel
theorem dX3_readUnit_141 : decode cX3_readUnit 141 = .ok (.invokevirtual 28, 3) := by decide +kernel
theorem dX3_readUnit_144 : decode cX3_readUnit 144 = .ok (.iload 5, 2) := by decide +kernel
theorem dX3_readUnit_146 : decode cX3_readUnit 146 = .ok (.iconst (-1), 1) := by decide +kernel
theorem dX3_readUnit_147 : decode cX3_readUnit 147 = .ok (.if_icmp .eq 7, 3) := by decide +kernel
theorem dX3_readUnit_150 : decode cX3_readUnit 150 = .ok (.iconst 1, 1) := by decide +kernel
theorem dX3_readUnit_151 : decode cX3_readUnit 151 = .ok (.goto 4, 3) := by decide +kernel
theorem dX3_readUnit_154 : decode cX3_readUnit 154 = .ok (.iconst 0, 1) := by decide +kernel
theorem dX3_readUnit_155 : decode cX3_readUnit 155 = .ok (.ireturn, 1) := by decide +kernel
theorem r_X3_readUnit_0 {d rc rs : Nat} {Q : PO → PH → Prop} {h : PH} {l0 : Nat} {l1 : Nat} {l2 : Int32}
    (k : isO h 10800 l1 ∧ cl d rc rs M_X8_takeSign [vR (800, l1), vI (40 : Int32)] h (kI fun x4 h1 rc2 rs3 => br (x4 = 0) (isO h1 10800 l1 ∧ cl d rc2 rs3 M_X8_takeWord [vR (800, l1), vR (1200, 4)] h1 (kI fun x8 h5 rc6 rs7 => br (x8 = 0) (isO h5 10800 l1 ∧ cl d rc6 rs7 M_X8_takeWord [vR (800, l1), vR (1200, 5)] h5 (kI fun x12 h9 rc10 rs11 => br (x12 = 0) (PW d M_X3_readUnit Q rc10 rs11 76 [vR (300, l0), vR (800, l1), vI l2, vU, vU, vU] [vI (-1 : Int32)] h9) (PW d M_X3_readUnit Q rc10 rs11 76 [vR (300, l0), vR (800, l1), vI l2, vU, vU, vU] [vI (3 : Int32)] h9)) (fun E h9 rc10 rs11 => Q (.inr E) h9)) (PW d M_X3_readUnit Q rc6 rs7 76 [vR (300, l0), vR (800, l1), vI l2, vU, vU, vU] [vI (2 : Int32)] h5)) (fun E h5 rc6 rs7 => Q (.inr E) h5)) (br (l2 < (6 : Int32)) (isO h1 10300 l0 ∧ cl d rc2 rs3 M_X3_readSum [vR (300, l0), vR (800, l1), vI (l2 + (1 : Int32))] h1 (kI fun x16 h13 rc14 rs15 => br (x16 = 0) (Q (.inl (some (vI (0 : Int32)))) h13) (isO h13 10800 l1 ∧ cl d rc14 rs15 M_X8_needSign [vR (800, l1), vI (41 : Int32)] h13 (kI fun x20 h17 rc18 rs19 => br (x20 = 0) (Q (.inl (some (vI (0 : Int32)))) h17) (Q (.inl (some (vI (1 : Int32)))) h17)) (fun E h17 rc18 rs19 => Q (.inr E) h17))) (fun E h13 rc14 rs15 => Q (.inr E) h13)) (isO h1 10800 l1 ∧ cl d rc2 rs3 M_X8_refuse [vR (800, l1), vI (3 : Int32)] h1 (kI fun x24 h21 rc22 rs23 => nrw .boolean x24 (Q (.inl (some (vI x24))) h21)) (fun E h21 rc22 rs23 => Q (.inr E) h21)))) (fun E h1 rc2 rs3 => Q (.inr E) h1)) :
    PW d M_X3_readUnit Q rc rs 0 [vR (300, l0), vR (800, l1), vI l2, vU, vU, vU] [] h := by
  refine P_aload_n (pc := 0) dX3_readUnit_0 rfl ?_
  refine P_bipush (v := (40 : Int32)) (pc := 1) dX3_readUnit_1 (by decide) ?_
  obtain ⟨⟨w9, e9⟩, d2, nc, ns, rc2, rs3, Qc, g1, rfl, rfl, g2, kk, kx⟩ := k
  refine P_callV (ci := 8) (k := 0) (id := l1) (q := (RX8, TX8, 7)) (As := [vI (40 : Int32)]) (st := []) (pc := 3) dX3_readUnit_3 mk_X8_takeSign l_X3_56 im_X8_takeSign se_X8_takeSign ini_X8 rfl g1 (Nat.le_of_ble_eq_true rfl) rfl rfl (by decide) e9 rfl g2 (fun v9 h9 q9 => ?_) (fun E h9 q9 => PX_out rfl (kx E h9 q9))
  obtain ⟨x4, rfl, k⟩ := kk v9 h9 q9
  clear kk kx g1 g2 q9
  refine P_if_eq (tgt := 49) (pc := 6) dX3_readUnit_6 (by decide) (fun c => ?_) (fun c => ?_)
  · have k := k.1 c
    refine P_aload_n (pc := 49) dX3_readUnit_49 rfl ?_
    refine P_ldcS (i := 4) (tx := "least") (pc := 50) dX3_readUnit_50 (by decide +kernel) ?_
    obtain ⟨⟨w9, e9⟩, d2, nc, ns, rc6, rs7, Qc, g1, rfl, rfl, g2, kk, kx⟩ := k
    refine P_callV (ci := 8) (k := 0) (id := l1) (q := (RX8, TX8, 7)) (As := [vR (1200, 4)]) (st := []) (pc := 52) dX3_readUnit_52 mk_X8_takeWord l_X3_65 im_X8_takeWord se_X8_takeWord ini_X8 rfl g1 (Nat.le_of_ble_eq_true rfl) rfl rfl (by decide) e9 rfl g2 (fun v9 h9 q9 => ?_) (fun E h9 q9 => PX_out rfl (kx E h9 q9))
    obtain ⟨x8, rfl, k⟩ := kk v9 h9 q9
    clear kk kx g1 g2 q9
    refine P_if_eq (tgt := 62) (pc := 55) dX3_readUnit_55 (by decide) (fun c => ?_) (fun c => ?_)
    · have k := k.1 c
      refine P_aload_n (pc := 62) dX3_readUnit_62 rfl ?_
      refine P_ldcS (i := 5) (tx := "most") (pc := 63) dX3_readUnit_63 (by decide +kernel) ?_
      obtain ⟨⟨w9, e9⟩, d2, nc, ns, rc10, rs11, Qc, g1, rfl, rfl, g2, kk, kx⟩ := k
      refine P_callV (ci := 8) (k := 0) (id := l1) (q := (RX8, TX8, 7)) (As := [vR (1200, 5)]) (st := []) (pc := 65) dX3_readUnit_65 mk_X8_takeWord l_X3_65 im_X8_takeWord se_X8_takeWord ini_X8 rfl g1 (Nat.le_of_ble_eq_true rfl) rfl rfl (by decide) e9 rfl g2 (fun v9 h9 q9 => ?_) (fun E h9 q9 => PX_out rfl (kx E h9 q9))
      obtain ⟨x12, rfl, k⟩ := kk v9 h9 q9
      clear kk kx g1 g2 q9
      refine P_if_eq (tgt := 75) (pc := 68) dX3_readUnit_68 (by decide) (fun c => ?_) (fun c => ?_)
      · have k := k.1 c
        refine P_iconst (v := (-1 : Int32)) (pc := 75) dX3_readUnit_75 (by decide) ?_
        exact k
      · have k := k.2 c
        refine P_iconst (v := (3 : Int32)) (pc := 71) dX3_readUnit_71 (by decide) ?_
        refine P_goto (tgt := 76) (pc := 72) dX3_readUnit_72 (by decide) ?_
        exact k
    · have k := k.2 c
      refine P_iconst (v := (2 : Int32)) (pc := 58) dX3_readUnit_58 (by decide) ?_
      refine P_goto (tgt := 76) (pc := 59) dX3_readUnit_59 (by decide) ?_
      exact k
  · have k := k.2 c
    refine P_iload_n (pc := 9) dX3_readUnit_9 rfl ?_
    refine P_bipush (v := (6 : Int32)) (pc := 10) dX3_readUnit_10 (by decide) ?_
    refine P_icmp_lt (tgt := 23) (pc := 12) dX3_readUnit_12 (by decide) (fun c => ?_) (fun c => ?_)
    · have k := k.1 c
      refine P_aload_n (pc := 23) dX3_readUnit_23 rfl ?_
      refine P_aload_n (pc := 24) dX3_readUnit_24 rfl ?_
      refine P_iload_n (pc := 25) dX3_readUnit_25 rfl ?_
      refine P_iconst (v := (1 : Int32)) (pc := 26) dX3_readUnit_26 (by decide) ?_
      refine P_iadd (pc := 27) dX3_readUnit_27 ?_
      obtain ⟨⟨w9, e9⟩, d2, nc, ns, rc14, rs15, Qc, g1, rfl, rfl, g2, kk, kx⟩ := k
      refine P_callV (ci := 3) (k := 0) (id := l0) (q := (RX3, TX3, 5)) (As := [vR (800, l1), vI (l2 + (1 : Int32))]) (st := []) (pc := 28) dX3_readUnit_28 mk_X3_readSum l_X3_32 im_X3_readSum se_X3_readSum ini_X3 rfl g1 (Nat.le_of_ble_eq_true rfl) rfl rfl (by decide) e9 rfl g2 (fun v9 h9 q9 => ?_) (fun E h9 q9 => PX_out rfl (kx E h9 q9))
      obtain ⟨x16, rfl, k⟩ := kk v9 h9 q9
      clear kk kx g1 g2 q9
      refine P_if_eq (tgt := 47) (pc := 31) dX3_readUnit_31 (by decide) (fun c => ?_) (fun c => ?_)
      · have k := k.1 c
        refine P_iconst (v := (0 : Int32)) (pc := 47) dX3_readUnit_47 (by decide) ?_
        exact R_ireturn (pc := 48) dX3_readUnit_48 rfl rfl k
      · have k := k.2 c
        refine P_aload_n (pc := 34) dX3_readUnit_34 rfl ?_
        refine P_bipush (v := (41 : Int32)) (pc := 35) dX3_readUnit_35 (by decide) ?_
        obtain ⟨⟨w9, e9⟩, d2, nc, ns, rc18, rs19, Qc, g1, rfl, rfl, g2, kk, kx⟩ := k
        refine P_callV (ci := 8) (k := 0) (id := l1) (q := (RX8, TX8, 7)) (As := [vI (41 : Int32)]) (st := []) (pc := 37) dX3_readUnit_37 mk_X8_needSign l_X3_49 im_X8_needSign se_X8_needSign ini_X8 rfl g1 (Nat.le_of_ble_eq_true rfl) rfl rfl (by decide) e9 rfl g2 (fun v9 h9 q9 => ?_) (fun E h9 q9 => PX_out rfl (kx E h9 q9))
        obtain ⟨x20, rfl, k⟩ := kk v9 h9 q9
        clear kk kx g1 g2 q9
        refine P_if_eq (tgt := 47) (pc := 40) dX3_readUnit_40 (by decide) (fun c => ?_) (fun c => ?_)
        · have k := k.1 c
          refine P_iconst (v := (0 : Int32)) (pc := 47) dX3_readUnit_47 (by decide) ?_
          exact R_ireturn (pc := 48) dX3_readUnit_48 rfl rfl k
        · have k := k.2 c
          refine P_iconst (v := (1 : Int32)) (pc := 43) dX3_readUnit_43 (by decide) ?_
          refine P_goto (tgt := 48) (pc := 44) dX3_readUnit_44 (by decide) ?_
          exact R_ireturn (pc := 48) dX3_readUnit_48 rfl rfl k
    · have k := k.2 c
      refine P_aload_n (pc := 15) dX3_readUnit_15 rfl ?_
      refine P_iconst (v := (3 : Int32)) (pc := 16) dX3_readUnit_16 (by decide) ?_
      obtain ⟨⟨w9, e9⟩, d2, nc, ns, rc22, rs23, Qc, g1, rfl, rfl, g2, kk, kx⟩ := k
      refine P_callV (ci := 8) (k := 0) (id := l1) (q := (RX8, TX8, 7)) (As := [vI (3 : Int32)]) (st := []) (pc := 17) dX3_readUnit_17 mk_X8_refuse l_X3_59 im_X8_refuse se_X8_refuse ini_X8 rfl g1 (Nat.le_of_ble_eq_true rfl) rfl rfl (by decide) e9 rfl g2 (fun v9 h9 q9 => ?_) (fun E h9 q9 => PX_out rfl (kx E h9 q9))
      obtain ⟨x24, rfl, k⟩ := kk v9 h9 q9
      clear kk kx g1 g2 q9
      refine P_goto (tgt := 48) (pc := 20) dX3_readUnit_20 (by decide) ?_
      exact R_ireturn (pc := 48) dX3_readUnit_48 rfl k.1 k.2
theorem r_X3_readUnit_76 {d rc rs : Nat} {Q : PO → PH → Prop} {h : PH} {l0 : Nat} {l1 : Nat} {l2 : Int32} {s0 : Int32}
    (k : br (s0 = (-1 : Int32)) (cl d rc rs M_X3_valueAhead [vR (800, l1)] h (kI fun x4 h1 rc2 rs3 => br (x4 = (-1 : Int32)) (isO h1 10800 l1 ∧ cl d rc2 rs3 M_X8_number [vR (800, l1), vI (0 : Int32), vI (999 : Int32)] h1 (kI fun x8 h5 rc6 rs7 => isO h5 10300 l0 ∧ cl d rc6 rs7 M_X3_add [vR (300, l0), vI (0 : Int32), vI x8] h5 (kV fun h9 rc10 rs11 => br (x8 = (-1 : Int32)) (Q (.inl (some (vI (0 : Int32)))) h9) (Q (.inl (some (vI (1 : Int32)))) h9)) (fun E h9 rc10 rs11 => Q (.inr E) h9)) (fun E h5 rc6 rs7 => Q (.inr E) h5)) (isO h1 10300 l0 ∧ cl d rc2 rs3 M_X3_add [vR (300, l0), vI (1 : Int32), vI x4] h1 (kV fun h12 rc13 rs14 => Q (.inl (some (vI (1 : Int32)))) h12) (fun E h12 rc13 rs14 => Q (.inr E) h12))) (fun E h1 rc2 rs3 => Q (.inr E) h1)) (br (l2 < (6 : Int32)) (isO h 10300 l0 ∧ cl d rc rs M_X3_readEither [vR (300, l0), vR (800, l1), vI (l2 + (1 : Int32)), vI s0] h (kI fun x18 h15 rc16 rs17 => nrw .boolean x18 (Q (.inl (some (vI x18))) h15)) (fun E h15 rc16 rs17 => Q (.inr E) h15)) (isO h 10800 l1 ∧ cl d rc rs M_X8_refuse [vR (800, l1), vI (3 : Int32)] h (kI fun x22 h19 rc20 rs21 => nrw .boolean x22 (Q (.inl (some (vI x22))) h19)) (fun E h19 rc20 rs21 => Q (.inr E) h19)))) :
    PW d M_X3_readUnit Q rc rs 76 [vR (300, l0), vR (800, l1), vI l2, vU, vU, vU] [vI s0] h := by
  refine P_istore_n (pc := 76) dX3_readUnit_76 (by decide) (Or.inr (by intro z e9; cases e9)) rfl ?_
  refine P_iload_n (pc := 77) dX3_readUnit_77 rfl ?_
  refine P_iconst (v := (-1 : Int32)) (pc := 78) dX3_readUnit_78 (by decide) ?_
  refine P_icmp_eq (tgt := 106) (pc := 79) dX3_readUnit_79 (by decide) (fun c => ?_) (fun c => ?_)
  · have k := k.1 c
    refine P_aload_n (pc := 106) dX3_readUnit_106 rfl ?_
    obtain ⟨d2, nc, ns, rc2, rs3, Qc, g1, rfl, rfl, g2, kk, kx⟩ := k
    refine P_callS (As := [vR (800, l1)]) (st := []) (pc := 107) dX3_readUnit_107 mk_X3_valueAhead l_X3_75 st_X3_valueAhead ini_X3 rfl g1 (Nat.le_of_ble_eq_true rfl) rfl g2 (fun v9 h9 q9 => ?_) (fun E h9 q9 => PX_out rfl (kx E h9 q9))
    obtain ⟨x4, rfl, k⟩ := kk v9 h9 q9
    clear kk kx g1 g2 q9
    refine P_istore (pc := 110) dX3_readUnit_110 (by decide) (Or.inr (by intro z e9; cases e9)) rfl ?_
    refine P_iload (pc := 112) dX3_readUnit_112 rfl ?_
    refine P_iconst (v := (-1 : Int32)) (pc := 114) dX3_readUnit_114 (by decide) ?_
    refine P_icmp_eq (tgt := 127) (pc := 115) dX3_readUnit_115 (by decide) (fun c => ?_) (fun c => ?_)
    · have k := k.1 c
      refine P_aload_n (pc := 127) dX3_readUnit_127 rfl ?_
      refine P_iconst (v := (0 : Int32)) (pc := 128) dX3_readUnit_128 (by decide) ?_
      refine P_sipush (v := (999 : Int32)) (pc := 129) dX3_readUnit_129 (by decide) ?_
      obtain ⟨⟨w9, e9⟩, d2, nc, ns, rc6, rs7, Qc, g1, rfl, rfl, g2, kk, kx⟩ := k
      refine P_callV (ci := 8) (k := 0) (id := l1) (q := (RX8, TX8, 7)) (As := [vI (0 : Int32), vI (999 : Int32)]) (st := []) (pc := 132) dX3_readUnit_132 mk_X8_number l_X3_79 im_X8_number se_X8_number ini_X8 rfl g1 (Nat.le_of_ble_eq_true rfl) rfl rfl (by decide) e9 rfl g2 (fun v9 h9 q9 => ?_) (fun E h9 q9 => PX_out rfl (kx E h9 q9))
      obtain ⟨x8, rfl, k⟩ := kk v9 h9 q9
      clear kk kx g1 g2 q9
      refine P_istore (pc := 135) dX3_readUnit_135 (by decide) (Or.inr (by intro z e9; cases e9)) rfl ?_
      refine P_aload_n (pc := 137) dX3_readUnit_137 rfl ?_
      refine P_iconst (v := (0 : Int32)) (pc := 138) dX3_readUnit_138 (by decide) ?_
      refine P_iload (pc := 139) dX3_readUnit_139 rfl ?_
      obtain ⟨⟨w9, e9⟩, d2, nc, ns, rc10, rs11, Qc, g1, rfl, rfl, g2, kk, kx⟩ := k
      refine P_callV (ci := 3) (k := 0) (id := l0) (q := (RX3, TX3, 5)) (As := [vI (0 : Int32), vI x8]) (st := []) (pc := 141) dX3_readUnit_141 mk_X3_add l_X3_28 im_X3_add se_X3_add ini_X3 rfl g1 (Nat.le_of_ble_eq_true rfl) rfl rfl (by decide) e9 rfl g2 (fun v9 h9 q9 => ?_) (fun E h9 q9 => PX_out rfl (kx E h9 q9))
      obtain ⟨rfl, k⟩ := kk v9 h9 q9
      clear kk kx g1 g2 q9
      refine P_iload (pc := 144) dX3_readUnit_144 rfl ?_
      refine P_iconst (v := (-1 : Int32)) (pc := 146) dX3_readUnit_146 (by decide) ?_
      refine P_icmp_eq (tgt := 154) (pc := 147) dX3_readUnit_147 (by decide) (fun c => ?_) (fun c => ?_)
      · have k := k.1 c
        refine P_iconst (v := (0 : Int32)) (pc := 154) dX3_readUnit_154 (by decide) ?_
        exact R_ireturn (pc := 155) dX3_readUnit_155 rfl rfl k
      · have k := k.2 c
        refine P_iconst (v := (1 : Int32)) (pc := 150) dX3_readUnit_150 (by decide) ?_
        refine P_goto (tgt := 155) (pc := 151) dX3_readUnit_151 (by decide) ?_
        exact R_ireturn (pc := 155) dX3_readUnit_155 rfl rfl k
    · have k := k.2 c
      refine P_aload_n (pc := 118) dX3_readUnit_118 rfl ?_
      refine P_iconst (v := (1 : Int32)) (pc := 119) dX3_readUnit_119 (by decide) ?_
      refine P_iload (pc := 120) dX3_readUnit_120 rfl ?_
      obtain ⟨⟨w9, e9⟩, d2, nc, ns, rc13, rs14, Qc, g1, rfl, rfl, g2, kk, kx⟩ := k
      refine P_callV (ci := 3) (k := 0) (id := l0) (q := (RX3, TX3, 5)) (As := [vI (1 : Int32), vI x4]) (st := []) (pc := 122) dX3_readUnit_122 mk_X3_add l_X3_28 im_X3_add se_X3_add ini_X3 rfl g1 (Nat.le_of_ble_eq_true rfl) rfl rfl (by decide) e9 rfl g2 (fun v9 h9 q9 => ?_) (fun E h9 q9 => PX_out rfl (kx E h9 q9))
      obtain ⟨rfl, k⟩ := kk v9 h9 q9
      clear kk kx g1 g2 q9
      refine P_iconst (v := (1 : Int32)) (pc := 125) dX3_readUnit_125 (by decide) ?_
      exact R_ireturn (pc := 126) dX3_readUnit_126 rfl rfl k
  · have k := k.2 c
    refine P_iload_n (pc := 82) dX3_readUnit_82 rfl ?_
    refine P_bipush (v := (6 : Int32)) (pc := 83) dX3_readUnit_83 (by decide) ?_
    refine P_icmp_lt (tgt := 96) (pc := 85) dX3_readUnit_85 (by decide) (fun c => ?_) (fun c => ?_)
    · have k := k.1 c
      refine P_aload_n (pc := 96) dX3_readUnit_96 rfl ?_
      refine P_aload_n (pc := 97) dX3_readUnit_97 rfl ?_
      refine P_iload_n (pc := 98) dX3_readUnit_98 rfl ?_
      refine P_iconst (v := (1 : Int32)) (pc := 99) dX3_readUnit_99 (by decide) ?_
      refine P_iadd (pc := 100) dX3_readUnit_100 ?_
      refine P_iload_n (pc := 101) dX3_readUnit_101 rfl ?_
      obtain ⟨⟨w9, e9⟩, d2, nc, ns, rc16, rs17, Qc, g1, rfl, rfl, g2, kk, kx⟩ := k
      refine P_callV (ci := 3) (k := 0) (id := l0) (q := (RX3, TX3, 5)) (As := [vR (800, l1), vI (l2 + (1 : Int32)), vI s0]) (st := []) (pc := 102) dX3_readUnit_102 mk_X3_readEither l_X3_71 im_X3_readEither se_X3_readEither ini_X3 rfl g1 (Nat.le_of_ble_eq_true rfl) rfl rfl (by decide) e9 rfl g2 (fun v9 h9 q9 => ?_) (fun E h9 q9 => PX_out rfl (kx E h9 q9))
      obtain ⟨x18, rfl, k⟩ := kk v9 h9 q9
      clear kk kx g1 g2 q9
      exact R_ireturn (pc := 105) dX3_readUnit_105 rfl k.1 k.2
    · have k := k.2 c
      refine P_aload_n (pc := 88) dX3_readUnit_88 rfl ?_
      refine P_iconst (v := (3 : Int32)) (pc := 89) dX3_readUnit_89 (by decide) ?_
      obtain ⟨⟨w9, e9⟩, d2, nc, ns, rc20, rs21, Qc, g1, rfl, rfl, g2, kk, kx⟩ := k
      refine P_callV (ci := 8) (k := 0) (id := l1) (q := (RX8, TX8, 7)) (As := [vI (3 : Int32)]) (st := []) (pc := 90) dX3_readUnit_90 mk_X8_refuse l_X3_59 im_X8_refuse se_X8_refuse ini_X8 rfl g1 (Nat.le_of_ble_eq_true rfl) rfl rfl (by decide) e9 rfl g2 (fun v9 h9 q9 => ?_) (fun E h9 q9 => PX_out rfl (kx E h9 q9))
      obtain ⟨x22, rfl, k⟩ := kk v9 h9 q9
      clear kk kx g1 g2 q9
      refine P_goto (tgt := 105) (pc := 93) dX3_readUnit_93 (by decide) ?_
      exact R_ireturn (pc := 105) dX3_readUnit_105 rfl k.1 k.2
-- X3_readEither readEither(LFernHeirs$Text;II)Z
theorem dX3_readEither_0 : decode cX3_readEither 0 = .ok (.aload_n 1, 1) := by decide +kernel
theorem dX3_readEither_1 : decode cX3_readEither 1 = .ok (.bipush 91, 2) := by decide +kernel
theorem dX3_readEither_3 : decode cX3_readEither 3 = .ok (.invokevirtual 49, 3) := by decide +kernel
theorem dX3_readEither_6 : decode cX3_readEither 6 = .ok (.ifCond .eq 43, 3) := by decide +kernel
theorem dX3_readEither_9 : decode cX3_readEither 9 = .ok (.aload_n 0, 1) := by decide +kernel
theorem dX3_readEither_10 : decode cX3_readEither 10 = .ok (.aload_n 1, 1) := by decide +kernel
theorem dX3_readEither_11 : decode cX3_readEither 11 = .ok (.iload_n 2, 1) := by decide +kernel
theorem dX3_readEither_12 : decode cX3_readEither 12 = .ok (.invokevirtual 32, 3) := by decide +kernel
theorem dX3_readEither_15 : decode cX3_readEither 15 = .ok (.ifCond .eq 34, 3) := by decide +kernel
theorem dX3_readEither_18 : decode cX3_readEither 18 = .ok (.aload_n 1, 1) := by decide +kernel
theorem dX3_readEither_19 : decode cX3_readEither 19 = .ok (.bipush 44, 2) := by decide +kernel
theorem dX3_readEither_21 : decode cX3_readEither 21 = .ok (.invokevirtual 49, 3) := by decide +kernel
theorem dX3_readEither_24 : decode cX3_readEither 24 = .ok (.ifCond .eq 25, 3) := by decide +kernel
theorem dX3_readEither_27 : decode cX3_readEither 27 = .ok (.aload_n 0, 1) := by decide +kernel
theorem dX3_readEither_28 : decode cX3_readEither 28 = .ok (.aload_n 1, 1) := by decide +kernel
theorem dX3_readEither_29 : decode cX3_readEither 29 = .ok (.iload_n 2, 1) := by decide +kernel
theorem dX3_readEither_30 : decode cX3_readEither 30 = .ok (.invokevirtual 32, 3) := by decide +kernel
theorem dX3_readEither_33 : decode cX3_readEither 33 = .ok (.ifCond .eq 16, 3) := by decide +kernel
theorem dX3_readEither_36 : decode cX3_readEither 36 = .ok (.aload_n 1, 1) := by decide +kernel
theorem dX3_readEither_37 : decode cX3_readEither 37 = .ok (.bipush 93, 2) := by decide +kernel
theorem dX3_readEither_39 : decode cX3_readEither 39 = .ok (.invokevirtual 49, 3) := by decide +kernel
theorem dX3_readEither_42 : decode cX3_readEither 42 = .ok (.ifCond .eq 7, 3) := by decide +kernel
theorem dX3_readEither_45 : decode cX3_readEither 45 = .ok (.iconst 1, 1) := by decide +kernel
theorem dX3_readEither_46 : decode cX3_readEither 46 = .ok (.goto 4, 3) := by decide +kernel
theorem dX3_readEither_49 : decode cX3_readEither 49 = .ok (.iconst 0, 1) := by decide +kernel
theorem dX3_readEither_50 : decode cX3_readEither 50 = .ok (.istore 4, 2) := by decide +kernel
theorem dX3_readEither_52 : decode cX3_readEither 52 = .ok (.aload_n 0, 1) := by decide +kernel
theorem dX3_readEither_53 : decode cX3_readEither 53 = .ok (.iload_n 3, 1) := by decide +kernel
theorem dX3_readEither_54 : decode cX3_readEither 54 = .ok (.iconst 0, 1) := by decide +kernel
theorem dX3_readEither_55 : decode cX3_readEither 55 = .ok (.invokevirtual 28, 3) := by decide +kernel
theorem dX3_readEither_58 : decode cX3_readEither 58 = .ok (.iload 4, 2) := by decide +kernel
theorem dX3_readEither_60 : decode cX3_readEither 60 = .ok (.ireturn, 1) := by decide +kernel
theorem r_X3_readEither_0 {d rc rs : Nat} {Q : PO → PH → Prop} {h : PH} {l0 : Nat} {l1 : Nat} {l2 : Int32} {l3 : Int32}
    (k : isO h 10800 l1 ∧ cl d rc rs M_X8_needSign [vR (800, l1), vI (91 : Int32)] h (kI fun x4 h1 rc2 rs3 => br (x4 = 0) (isO h1 10300 l0 ∧ cl d rc2 rs3 M_X3_add [vR (300, l0), vI l3, vI (0 : Int32)] h1 (kV fun h5 rc6 rs7 => Q (.inl (some (vI (0 : Int32)))) h5) (fun E h5 rc6 rs7 => Q (.inr E) h5)) (isO h1 10300 l0 ∧ cl d rc2 rs3 M_X3_readSum [vR (300, l0), vR (800, l1), vI l2] h1 (kI fun x11 h8 rc9 rs10 => br (x11 = 0) (isO h8 10300 l0 ∧ cl d rc9 rs10 M_X3_add [vR (300, l0), vI l3, vI (0 : Int32)] h8 (kV fun h12 rc13 rs14 => Q (.inl (some (vI (0 : Int32)))) h12) (fun E h12 rc13 rs14 => Q (.inr E) h12)) (isO h8 10800 l1 ∧ cl d rc9 rs10 M_X8_needSign [vR (800, l1), vI (44 : Int32)] h8 (kI fun x18 h15 rc16 rs17 => br (x18 = 0) (isO h15 10300 l0 ∧ cl d rc16 rs17 M_X3_add [vR (300, l0), vI l3, vI (0 : Int32)] h15 (kV fun h19 rc20 rs21 => Q (.inl (some (vI (0 : Int32)))) h19) (fun E h19 rc20 rs21 => Q (.inr E) h19)) (isO h15 10300 l0 ∧ cl d rc16 rs17 M_X3_readSum [vR (300, l0), vR (800, l1), vI l2] h15 (kI fun x25 h22 rc23 rs24 => br (x25 = 0) (isO h22 10300 l0 ∧ cl d rc23 rs24 M_X3_add [vR (300, l0), vI l3, vI (0 : Int32)] h22 (kV fun h26 rc27 rs28 => Q (.inl (some (vI (0 : Int32)))) h26) (fun E h26 rc27 rs28 => Q (.inr E) h26)) (isO h22 10800 l1 ∧ cl d rc23 rs24 M_X8_needSign [vR (800, l1), vI (93 : Int32)] h22 (kI fun x32 h29 rc30 rs31 => br (x32 = 0) (isO h29 10300 l0 ∧ cl d rc30 rs31 M_X3_add [vR (300, l0), vI l3, vI (0 : Int32)] h29 (kV fun h33 rc34 rs35 => Q (.inl (some (vI (0 : Int32)))) h33) (fun E h33 rc34 rs35 => Q (.inr E) h33)) (isO h29 10300 l0 ∧ cl d rc30 rs31 M_X3_add [vR (300, l0), vI l3, vI (0 : Int32)] h29 (kV fun h36 rc37 rs38 => Q (.inl (some (vI (1 : Int32)))) h36) (fun E h36 rc37 rs38 => Q (.inr E) h36))) (fun E h29 rc30 rs31 => Q (.inr E) h29))) (fun E h22 rc23 rs24 => Q (.inr E) h22))) (fun E h15 rc16 rs17 => Q (.inr E) h15))) (fun E h8 rc9 rs10 => Q (.inr E) h8))) (fun E h1 rc2 rs3 => Q (.inr E) h1)) :
    PW d M_X3_readEither Q rc rs 0 [vR (300, l0), vR (800, l1), vI l2, vI l3, vU] [] h := by
  refine P_aload_n (pc := 0) dX3_readEither_0 rfl ?_
  refine P_bipush (v := (91 : Int32)) (pc := 1) dX3_readEither_1 (by decide) ?_
  obtain ⟨⟨w9, e9⟩, d2, nc, ns, rc2, rs3, Qc, g1, rfl, rfl, g2, kk, kx⟩ := k
  refine P_callV (ci := 8) (k := 0) (id := l1) (q := (RX8, TX8, 7)) (As := [vI (91 : Int32)]) (st := []) (pc := 3) dX3_readEither_3 mk_X8_needSign l_X3_49 im_X8_needSign se_X8_needSign ini_X8 rfl g1 (Nat.le_of_ble_eq_true rfl) rfl rfl (by decide) e9 rfl g2 (fun v9 h9 q9 => ?_) (fun E h9 q9 => PX_out rfl (kx E h9 q9))
  obtain ⟨x4, rfl, k⟩ := kk v9 h9 q9
  clear kk kx g1 g2 q9
  refine P_if_eq (tgt := 49) (pc := 6) dX3_readEither_6 (by decide) (fun c => ?_) (fun c => ?_)
  · have k := k.1 c
    refine P_iconst (v := (0 : Int32)) (pc := 49) dX3_readEither_49 (by decide) ?_
    refine P_istore (pc := 50) dX3_readEither_50 (by decide) (Or.inr (by intro z e9; cases e9)) rfl ?_
    refine P_aload_n (pc := 52) dX3_readEither_52 rfl ?_
    refine P_iload_n (pc := 53) dX3_readEither_53 rfl ?_
    refine P_iconst (v := (0 : Int32)) (pc := 54) dX3_readEither_54 (by decide) ?_
    obtain ⟨⟨w9, e9⟩, d2, nc, ns, rc6, rs7, Qc, g1, rfl, rfl, g2, kk, kx⟩ := k
    refine P_callV (ci := 3) (k := 0) (id := l0) (q := (RX3, TX3, 5)) (As := [vI l3, vI (0 : Int32)]) (st := []) (pc := 55) dX3_readEither_55 mk_X3_add l_X3_28 im_X3_add se_X3_add ini_X3 rfl g1 (Nat.le_of_ble_eq_true rfl) rfl rfl (by decide) e9 rfl g2 (fun v9 h9 q9 => ?_) (fun E h9 q9 => PX_out rfl (kx E h9 q9))
    obtain ⟨rfl, k⟩ := kk v9 h9 q9
    clear kk kx g1 g2 q9
    refine P_iload (pc := 58) dX3_readEither_58 rfl ?_
    exact R_ireturn (pc := 60) dX3_readEither_60 rfl rfl k
  · have k := k.2 c
    refine P_aload_n (pc := 9) dX3_readEither_9 rfl ?_
    refine P_aload_n (pc := 10) dX3_readEither_10 rfl ?_
    refine P_iload_n (pc := 11) dX3_readEither_11 rfl ?_
    obtain ⟨⟨w9, e9⟩, d2, nc, ns, rc9, rs10, Qc, g1, rfl, rfl, g2, kk, kx⟩ := k
    refine P_callV (ci := 3) (k := 0) (id := l0) (q := (RX3, TX3, 5)) (As := [vR (800, l1), vI l2]) (st := []) (pc := 12) dX3_readEither_12 mk_X3_readSum l_X3_32 im_X3_readSum se_X3_readSum ini_X3 rfl g1 (Nat.le_of_ble_eq_true rfl) rfl rfl (by decide) e9 rfl g2 (fun v9 h9 q9 => ?_) (fun E h9 q9 => PX_out rfl (kx E h9 q9))
    obtain ⟨x11, rfl, k⟩ := kk v9 h9 q9
    clear kk kx g1 g2 q9
    refine P_if_eq (tgt := 49) (pc := 15) dX3_readEither_15 (by decide) (fun c => ?_) (fun c => ?_)
    · have k := k.1 c
      refine P_iconst (v := (0 : Int32)) (pc := 49) dX3_readEither_49 (by decide) ?_
      refine P_istore (pc := 50) dX3_readEither_50 (by decide) (Or.inr (by intro z e9; cases e9)) rfl ?_
      refine P_aload_n (pc := 52) dX3_readEither_52 rfl ?_
      refine P_iload_n (pc := 53) dX3_readEither_53 rfl ?_
      refine P_iconst (v := (0 : Int32)) (pc := 54) dX3_readEither_54 (by decide) ?_
      obtain ⟨⟨w9, e9⟩, d2, nc, ns, rc13, rs14, Qc, g1, rfl, rfl, g2, kk, kx⟩ := k
      refine P_callV (ci := 3) (k := 0) (id := l0) (q := (RX3, TX3, 5)) (As := [vI l3, vI (0 : Int32)]) (st := []) (pc := 55) dX3_readEither_55 mk_X3_add l_X3_28 im_X3_add se_X3_add ini_X3 rfl g1 (Nat.le_of_ble_eq_true rfl) rfl rfl (by decide) e9 rfl g2 (fun v9 h9 q9 => ?_) (fun E h9 q9 => PX_out rfl (kx E h9 q9))
      obtain ⟨rfl, k⟩ := kk v9 h9 q9
      clear kk kx g1 g2 q9
      refine P_iload (pc := 58) dX3_readEither_58 rfl ?_
      exact R_ireturn (pc := 60) dX3_readEither_60 rfl rfl k
    · have k := k.2 c
      refine P_aload_n (pc := 18) dX3_readEither_18 rfl ?_
      refine P_bipush (v := (44 : Int32)) (pc := 19) dX3_readEither_19 (by decide) ?_
      obtain ⟨⟨w9, e9⟩, d2, nc, ns, rc16, rs17, Qc, g1, rfl, rfl, g2, kk, kx⟩ := k
      refine P_callV (ci := 8) (k := 0) (id := l1) (q := (RX8, TX8, 7)) (As := [vI (44 : Int32)]) (st := []) (pc := 21) dX3_readEither_21 mk_X8_needSign l_X3_49 im_X8_needSign se_X8_needSign ini_X8 rfl g1 (Nat.le_of_ble_eq_true rfl) rfl rfl (by decide) e9 rfl g2 (fun v9 h9 q9 => ?_) (fun E h9 q9 => PX_out rfl (kx E h9 q9))
      obtain ⟨x18, rfl, k⟩ := kk v9 h9 q9
      clear kk kx g1 g2 q9
      refine P_if_eq (tgt := 49) (pc := 24) dX3_readEither_24 (by decide) (fun c => ?_) (fun c => ?_)
      · have k := k.1 c
        refine P_iconst (v := (0 : Int32)) (pc := 49) dX3_readEither_49 (by decide) ?_
        refine P_istore (pc := 50) dX3_readEither_50 (by decide) (Or.inr (by intro z e9; cases e9)) rfl ?_
        refine P_aload_n (pc := 52) dX3_readEither_52 rfl ?_
        refine P_iload_n (pc := 53) dX3_readEither_53 rfl ?_
        refine P_iconst (v := (0 : Int32)) (pc := 54) dX3_readEither_54 (by decide) ?_
        obtain ⟨⟨w9, e9⟩, d2, nc, ns, rc20, rs21, Qc, g1, rfl, rfl, g2, kk, kx⟩ := k
        refine P_callV (ci := 3) (k := 0) (id := l0) (q := (RX3, TX3, 5)) (As := [vI l3, vI (0 : Int32)]) (st := []) (pc := 55) dX3_readEither_55 mk_X3_add l_X3_28 im_X3_add se_X3_add ini_X3 rfl g1 (Nat.le_of_ble_eq_true rfl) rfl rfl (by decide) e9 rfl g2 (fun v9 h9 q9 => ?_) (fun E h9 q9 => PX_out rfl (kx E h9 q9))
        obtain ⟨rfl, k⟩ := kk v9 h9 q9
        clear kk kx g1 g2 q9
        refine P_iload (pc := 58) dX3_readEither_58 rfl ?_
        exact R_ireturn (pc := 60) dX3_readEither_60 rfl rfl k
      · have k := k.2 c
        refine P_aload_n (pc := 27) dX3_readEither_27 rfl ?_
        refine P_aload_n (pc := 28) dX3_readEither_28 rfl ?_
        refine P_iload_n (pc := 29) dX3_readEither_29 rfl ?_
        obtain ⟨⟨w9, e9⟩, d2, nc, ns, rc23, rs24, Qc, g1, rfl, rfl, g2, kk, kx⟩ := k
        refine P_callV (ci := 3) (k := 0) (id := l0) (q := (RX3, TX3, 5)) (As := [vR (800, l1), vI l2]) (st := []) (pc := 30) dX3_readEither_30 mk_X3_readSum l_X3_32 im_X3_readSum se_X3_readSum ini_X3 rfl g1 (Nat.le_of_ble_eq_true rfl) rfl rfl (by decide) e9 rfl g2 (fun v9 h9 q9 => ?_) (fun E h9 q9 => PX_out rfl (kx E h9 q9))
        obtain ⟨x25, rfl, k⟩ := kk v9 h9 q9
        clear kk kx g1 g2 q9
        refine P_if_eq (tgt := 49) (pc := 33) dX3_readEither_33 (by decide) (fun c => ?_) (fun c => ?_)
        · have k := k.1 c
          refine P_iconst (v := (0 : Int32)) (pc := 49) dX3_readEither_49 (by decide) ?_
          refine P_istore (pc := 50) dX3_readEither_50 (by decide) (Or.inr (by intro z e9; cases e9)) rfl ?_
          refine P_aload_n (pc := 52) dX3_readEither_52 rfl ?_
          refine P_iload_n (pc := 53) dX3_readEither_53 rfl ?_
          refine P_iconst (v := (0 : Int32)) (pc := 54) dX3_readEither_54 (by decide) ?_
          obtain ⟨⟨w9, e9⟩, d2, nc, ns, rc27, rs28, Qc, g1, rfl, rfl, g2, kk, kx⟩ := k
          refine P_callV (ci := 3) (k := 0) (id := l0) (q := (RX3, TX3, 5)) (As := [vI l3, vI (0 : Int32)]) (st := []) (pc := 55) dX3_readEither_55 mk_X3_add l_X3_28 im_X3_add se_X3_add ini_X3 rfl g1 (Nat.le_of_ble_eq_true rfl) rfl rfl (by decide) e9 rfl g2 (fun v9 h9 q9 => ?_) (fun E h9 q9 => PX_out rfl (kx E h9 q9))
          obtain ⟨rfl, k⟩ := kk v9 h9 q9
          clear kk kx g1 g2 q9
          refine P_iload (pc := 58) dX3_readEither_58 rfl ?_
          exact R_ireturn (pc := 60) dX3_readEither_60 rfl rfl k
        · have k := k.2 c
          refine P_aload_n (pc := 36) dX3_readEither_36 rfl ?_
          refine P_bipush (v := (93 : Int32)) (pc := 37) dX3_readEither_37 (by decide) ?_
          obtain ⟨⟨w9, e9⟩, d2, nc, ns, rc30, rs31, Qc, g1, rfl, rfl, g2, kk, kx⟩ := k
          refine P_callV (ci := 8) (k := 0) (id := l1) (q := (RX8, TX8, 7)) (As := [vI (93 : Int32)]) (st := []) (pc := 39) dX3_readEither_39 mk_X8_needSign l_X3_49 im_X8_needSign se_X8_needSign ini_X8 rfl g1 (Nat.le_of_ble_eq_true rfl) rfl rfl (by decide) e9 rfl g2 (fun v9 h9 q9 => ?_) (fun E h9 q9 => PX_out rfl (kx E h9 q9))
          obtain ⟨x32, rfl, k⟩ := kk v9 h9 q9
          clear kk kx g1 g2 q9
          refine P_if_eq (tgt := 49) (pc := 42) dX3_readEither_42 (by decide) (fun c => ?_) (fun c => ?_)
          · have k := k.1 c
            refine P_iconst (v := (0 : Int32)) (pc := 49) dX3_readEither_49 (by decide) ?_
            refine P_istore (pc := 50) dX3_readEither_50 (by decide) (Or.inr (by intro z e9; cases e9)) rfl ?_
            refine P_aload_n (pc := 52) dX3_readEither_52 rfl ?_
            refine P_iload_n (pc := 53) dX3_readEither_53 rfl ?_
            refine P_iconst (v := (0 : Int32)) (pc := 54) dX3_readEither_54 (by decide) ?_
            obtain ⟨⟨w9, e9⟩, d2, nc, ns, rc34, rs35, Qc, g1, rfl, rfl, g2, kk, kx⟩ := k
            refine P_callV (ci := 3) (k := 0) (id := l0) (q := (RX3, TX3, 5)) (As := [vI l3, vI (0 : Int32)]) (st := []) (pc := 55) dX3_readEither_55 mk_X3_add l_X3_28 im_X3_add se_X3_add ini_X3 rfl g1 (Nat.le_of_ble_eq_true rfl) rfl rfl (by decide) e9 rfl g2 (fun v9 h9 q9 => ?_) (fun E h9 q9 => PX_out rfl (kx E h9 q9))
            obtain ⟨rfl, k⟩ := kk v9 h9 q9
            clear kk kx g1 g2 q9
            refine P_iload (pc := 58) dX3_readEither_58 rfl ?_
            exact R_ireturn (pc := 60) dX3_readEither_60 rfl rfl k
          · have k := k.2 c
            refine P_iconst (v := (1 : Int32)) (pc := 45) dX3_readEither_45 (by decide) ?_
            refine P_goto (tgt := 50) (pc := 46) dX3_readEither_46 (by decide) ?_
            refine P_istore (pc := 50) dX3_readEither_50 (by decide) (Or.inr (by intro z e9; cases e9)) rfl ?_
            refine P_aload_n (pc := 52) dX3_readEither_52 rfl ?_
            refine P_iload_n (pc := 53) dX3_readEither_53 rfl ?_
            refine P_iconst (v := (0 : Int32)) (pc := 54) dX3_readEither_54 (by decide) ?_
            obtain ⟨⟨w9, e9⟩, d2, nc, ns, rc37, rs38, Qc, g1, rfl, rfl, g2, kk, kx⟩ := k
            refine P_callV (ci := 3) (k := 0) (id := l0) (q := (RX3, TX3, 5)) (As := [vI l3, vI (0 : Int32)]) (st := []) (pc := 55) dX3_readEither_55 mk_X3_add l_X3_28 im_X3_add se_X3_add ini_X3 rfl g1 (Nat.le_of_ble_eq_true rfl) rfl rfl (by decide) e9 rfl g2 (fun v9 h9 q9 => ?_) (fun E h9 q9 => PX_out rfl (kx E h9 q9))
            obtain ⟨rfl, k⟩ := kk v9 h9 q9
            clear kk kx g1 g2 q9
            refine P_iload (pc := 58) dX3_readEither_58 rfl ?_
            exact R_ireturn (pc := 60) dX3_readEither_60 rfl rfl k
-- X3_valueAhead valueAhead(LFernHeirs$Text;)I
theorem dX3_valueAhead_0 : decode cX3_valueAhead 0 = .ok (.aload_n 0, 1) := by decide +kernel
theorem dX3_valueAhead_1 : decode cX3_valueAhead 1 = .ok (.ldc 83, 2) := by decide +kernel
theorem dX3_valueAhead_3 : decode cX3_valueAhead 3 = .ok (.invokevirtual 65, 3) := by decide +kernel
theorem dX3_valueAhead_6 : decode cX3_valueAhead 6 = .ok (.ifCond .eq 7, 3) := by decide +kernel
theorem dX3_valueAhead_9 : decode cX3_valueAhead 9 = .ok (.iconst 0, 1) := by decide +kernel
theorem dX3_valueAhead_10 : decode cX3_valueAhead 10 = .ok (.goto 111, 3) := by decide +kernel
theorem dX3_valueAhead_13 : decode cX3_valueAhead 13 = .ok (.aload_n 0, 1) := by decide +kernel
theorem dX3_valueAhead_14 : decode cX3_valueAhead 14 = .ok (.ldc 85, 2) := by decide +kernel
theorem dX3_valueAhead_16 : decode cX3_valueAhead 16 = .ok (.invokevirtual 65, 3) := by decide +kernel
theorem dX3_valueAhead_19 : decode cX3_valueAhead 19 = .ok (.ifCond .eq 7, 3) := by decide +kernel
theorem dX3_valueAhead_22 : decode cX3_valueAhead 22 = .ok (.iconst 1, 1) := by decide +kernel
theorem dX3_valueAhead_23 : decode cX3_valueAhead 23 = .ok (.goto 98, 3) := by decide +kernel
theorem dX3_valueAhead_26 : decode cX3_valueAhead 26 = .ok (.aload_n 0, 1) := by decide +kernel
theorem dX3_valueAhead_27 : decode cX3_valueAhead 27 = .ok (.ldc 87, 2) := by decide +kernel
theorem dX3_valueAhead_29 : decode cX3_valueAhead 29 = .ok (.invokevirtual 65, 3) := by decide +kernel
theorem dX3_valueAhead_32 : decode cX3_valueAhead 32 = .ok (.ifCond .eq 7, 3) := by decide +kernel
theorem dX3_valueAhead_35 : decode cX3_valueAhead 35 = .ok (.iconst 2, 1) := by decide +kernel
theorem dX3_valueAhead_36 : decode cX3_valueAhead 36 = .ok (.goto 85, 3) := by decide +kernel
theorem dX3_valueAhead_39 : decode cX3_valueAhead 39 = .ok (.aload_n 0, 1) := by decide +kernel
theorem dX3_valueAhead_40 : decode cX3_valueAhead 40 = .ok (.ldc 89, 2) := by decide +kernel
theorem dX3_valueAhead_42 : decode cX3_valueAhead 42 = .ok (.invokevirtual 65, 3) := by decide +kernel
theorem dX3_valueAhead_45 : decode cX3_valueAhead 45 = .ok (.ifCond .eq 7, 3) := by decide +kernel
theorem dX3_valueAhead_48 : decode cX3_valueAhead 48 = .ok (.iconst 3, 1) := by decide +kernel
theorem dX3_valueAhead_49 : decode cX3_valueAhead 49 = .ok (.goto 72, 3) := by decide +kernel
theorem dX3_valueAhead_52 : decode cX3_valueAhead 52 = .ok (.aload_n 0, 1) := by decide +kernel
theorem dX3_valueAhead_53 : decode cX3_valueAhead 53 = .ok (.ldc 91, 2) := by decide +kernel
theorem dX3_valueAhead_55 : decode cX3_valueAhead 55 = .ok (.invokevirtual 65, 3) := by decide +kernel
theorem dX3_valueAhead_58 : decode cX3_valueAhead 58 = .ok (.ifCond .eq 7, 3) := by decide +kernel
theorem dX3_valueAhead_61 : decode cX3_valueAhead 61 = .ok (.iconst 4, 1) := by decide +kernel
theorem dX3_valueAhead_62 : decode cX3_valueAhead 62 = .ok (.goto 59, 3) := by decide +kernel
theorem dX3_valueAhead_65 : decode cX3_valueAhead 65 = .ok (.aload_n 0, 1) := by decide +kernel
theorem dX3_valueAhead_66 : decode cX3_valueAhead 66 = .ok (.ldc 93, 2) := by decide +kernel
theorem dX3_valueAhead_68 : decode cX3_valueAhead 68 = .ok (.invokevirtual 65, 3) := by decide +kernel
theorem dX3_valueAhead_71 : decode cX3_valueAhead 71 = .ok (.ifCond .eq 7, 3) := by decide +kernel
theorem dX3_valueAhead_74 : decode cX3_valueAhead 74 = .ok (.iconst 5, 1) := by decide +kernel
theorem dX3_valueAhead_75 : decode cX3_valueAhead 75 = .ok (.goto 46, 3) := by decide +kernel
theorem dX3_valueAhead_78 : decode cX3_valueAhead 78 = .ok (.aload_n 0, 1) := by decide +kernel
theorem dX3_valueAhead_79 : decode cX3_valueAhead 79 = .ok (.ldc 95, 2) := by decide +kernel
theorem dX3_valueAhead_81 : decode cX3_valueAhead 81 = .ok (.invokevirtual 65, 3) := by decide +kernel
theorem dX3_valueAhead_84 : decode cX3_valueAhead 84 = .ok (.ifCond .eq 8, 3) := by decide +kernel
theorem dX3_valueAhead_87 : decode cX3_valueAhead 87 = .ok (.bipush 6, 2) := by decide +kernel
theorem dX3_valueAhead_89 : decode cX3_valueAhead 89 = .ok (.goto 32, 3) := by decide +kernel
theorem dX3_valueAhead_92 : decode cX3_valueAhead 92 = .ok (.aload_n 0, 1) := by decide +kernel
theorem dX3_valueAhead_93 : decode cX3_valueAhead 93 = .ok (.ldc 97, 2) := by decide +kernel
theorem dX3_valueAhead_95 : decode cX3_valueAhead 95 = .ok (.invokevirtual 65, 3) := by decide +kernel
theorem dX3_valueAhead_98 : decode cX3_valueAhead 98 = .ok (.ifCond .eq 8, 3) := by decide +kernel
theorem dX3_valueAhead_101 : decode cX3_valueAhead 101 = .ok (.bipush 7, 2) := by decide +kernel
theorem dX3_valueAhead_103 : decode cX3_valueAhead 103 = .ok (.goto 18, 3) := by decide +kernel
theorem dX3_valueAhead_106 : decode cX3_valueAhead 106 = .ok (.aload_n 0, 1) := by decide +kernel
theorem dX3_valueAhead_107 : decode cX3_valueAhead 107 = .ok (.ldc 99, 2) := by decide +kernel
theorem dX3_valueAhead_109 : decode cX3_valueAhead 109 = .ok (.invokevirtual 65, 3) := by decide +kernel
theorem dX3_valueAhead_112 : decode cX3_valueAhead 112 = .ok (.ifCond .eq 8, 3) := by decide +kernel
theorem dX3_valueAhead_115 : decode cX3_valueAhead 115 = .ok (.bipush 8, 2) := by decide +kernel
theorem dX3_valueAhead_117 : decode cX3_valueAhead 117 = .ok (.goto 4, 3) := by decide +kernel
theorem dX3_valueAhead_120 : decode cX3_valueAhead 120 = .ok (.iconst (-1), 1) := by decide +kernel
theorem dX3_valueAhead_121 : decode cX3_valueAhead 121 = .ok (.ireturn, 1) := by decide +kernel
theorem r_X3_valueAhead_0 {d rc rs : Nat} {Q : PO → PH → Prop} {h : PH} {l0 : Nat}
    (k : isO h 10800 l0 ∧ cl d rc rs M_X8_takeWord [vR (800, l0), vR (1200, 6)] h (kI fun x4 h1 rc2 rs3 => br (x4 = 0) (isO h1 10800 l0 ∧ cl d rc2 rs3 M_X8_takeWord [vR (800, l0), vR (1200, 7)] h1 (kI fun x8 h5 rc6 rs7 => br (x8 = 0) (isO h5 10800 l0 ∧ cl d rc6 rs7 M_X8_takeWord [vR (800, l0), vR (1200, 8)] h5 (kI fun x12 h9 rc10 rs11 => br (x12 = 0) (isO h9 10800 l0 ∧ cl d rc10 rs11 M_X8_takeWord [vR (800, l0), vR (1200, 9)] h9 (kI fun x16 h13 rc14 rs15 => br (x16 = 0) (isO h13 10800 l0 ∧ cl d rc14 rs15 M_X8_takeWord [vR (800, l0), vR (1200, 10)] h13 (kI fun x20 h17 rc18 rs19 => br (x20 = 0) (isO h17 10800 l0 ∧ cl d rc18 rs19 M_X8_takeWord [vR (800, l0), vR (1200, 11)] h17 (kI fun x24 h21 rc22 rs23 => br (x24 = 0) (isO h21 10800 l0 ∧ cl d rc22 rs23 M_X8_takeWord [vR (800, l0), vR (1200, 12)] h21 (kI fun x28 h25 rc26 rs27 => br (x28 = 0) (isO h25 10800 l0 ∧ cl d rc26 rs27 M_X8_takeWord [vR (800, l0), vR (1200, 3)] h25 (kI fun x32 h29 rc30 rs31 => br (x32 = 0) (isO h29 10800 l0 ∧ cl d rc30 rs31 M_X8_takeWord [vR (800, l0), vR (1200, 0)] h29 (kI fun x36 h33 rc34 rs35 => br (x36 = 0) (Q (.inl (some (vI (-1 : Int32)))) h33) (Q (.inl (some (vI (8 : Int32)))) h33)) (fun E h33 rc34 rs35 => Q (.inr E) h33)) (Q (.inl (some (vI (7 : Int32)))) h29)) (fun E h29 rc30 rs31 => Q (.inr E) h29)) (Q (.inl (some (vI (6 : Int32)))) h25)) (fun E h25 rc26 rs27 => Q (.inr E) h25)) (Q (.inl (some (vI (5 : Int32)))) h21)) (fun E h21 rc22 rs23 => Q (.inr E) h21)) (Q (.inl (some (vI (4 : Int32)))) h17)) (fun E h17 rc18 rs19 => Q (.inr E) h17)) (Q (.inl (some (vI (3 : Int32)))) h13)) (fun E h13 rc14 rs15 => Q (.inr E) h13)) (Q (.inl (some (vI (2 : Int32)))) h9)) (fun E h9 rc10 rs11 => Q (.inr E) h9)) (Q (.inl (some (vI (1 : Int32)))) h5)) (fun E h5 rc6 rs7 => Q (.inr E) h5)) (Q (.inl (some (vI (0 : Int32)))) h1)) (fun E h1 rc2 rs3 => Q (.inr E) h1)) :
    PW d M_X3_valueAhead Q rc rs 0 [vR (800, l0)] [] h := by
  refine P_aload_n (pc := 0) dX3_valueAhead_0 rfl ?_
  refine P_ldcS (i := 6) (tx := "breath") (pc := 1) dX3_valueAhead_1 (by decide +kernel) ?_
  obtain ⟨⟨w9, e9⟩, d2, nc, ns, rc2, rs3, Qc, g1, rfl, rfl, g2, kk, kx⟩ := k
  refine P_callV (ci := 8) (k := 0) (id := l0) (q := (RX8, TX8, 7)) (As := [vR (1200, 6)]) (st := []) (pc := 3) dX3_valueAhead_3 mk_X8_takeWord l_X3_65 im_X8_takeWord se_X8_takeWord ini_X8 rfl g1 (Nat.le_of_ble_eq_true rfl) rfl rfl (by decide) e9 rfl g2 (fun v9 h9 q9 => ?_) (fun E h9 q9 => PX_out rfl (kx E h9 q9))
  obtain ⟨x4, rfl, k⟩ := kk v9 h9 q9
  clear kk kx g1 g2 q9
  refine P_if_eq (tgt := 13) (pc := 6) dX3_valueAhead_6 (by decide) (fun c => ?_) (fun c => ?_)
  · have k := k.1 c
    refine P_aload_n (pc := 13) dX3_valueAhead_13 rfl ?_
    refine P_ldcS (i := 7) (tx := "ferns") (pc := 14) dX3_valueAhead_14 (by decide +kernel) ?_
    obtain ⟨⟨w9, e9⟩, d2, nc, ns, rc6, rs7, Qc, g1, rfl, rfl, g2, kk, kx⟩ := k
    refine P_callV (ci := 8) (k := 0) (id := l0) (q := (RX8, TX8, 7)) (As := [vR (1200, 7)]) (st := []) (pc := 16) dX3_valueAhead_16 mk_X8_takeWord l_X3_65 im_X8_takeWord se_X8_takeWord ini_X8 rfl g1 (Nat.le_of_ble_eq_true rfl) rfl rfl (by decide) e9 rfl g2 (fun v9 h9 q9 => ?_) (fun E h9 q9 => PX_out rfl (kx E h9 q9))
    obtain ⟨x8, rfl, k⟩ := kk v9 h9 q9
    clear kk kx g1 g2 q9
    refine P_if_eq (tgt := 26) (pc := 19) dX3_valueAhead_19 (by decide) (fun c => ?_) (fun c => ?_)
    · have k := k.1 c
      refine P_aload_n (pc := 26) dX3_valueAhead_26 rfl ?_
      refine P_ldcS (i := 8) (tx := "taps") (pc := 27) dX3_valueAhead_27 (by decide +kernel) ?_
      obtain ⟨⟨w9, e9⟩, d2, nc, ns, rc10, rs11, Qc, g1, rfl, rfl, g2, kk, kx⟩ := k
      refine P_callV (ci := 8) (k := 0) (id := l0) (q := (RX8, TX8, 7)) (As := [vR (1200, 8)]) (st := []) (pc := 29) dX3_valueAhead_29 mk_X8_takeWord l_X3_65 im_X8_takeWord se_X8_takeWord ini_X8 rfl g1 (Nat.le_of_ble_eq_true rfl) rfl rfl (by decide) e9 rfl g2 (fun v9 h9 q9 => ?_) (fun E h9 q9 => PX_out rfl (kx E h9 q9))
      obtain ⟨x12, rfl, k⟩ := kk v9 h9 q9
      clear kk kx g1 g2 q9
      refine P_if_eq (tgt := 39) (pc := 32) dX3_valueAhead_32 (by decide) (fun c => ?_) (fun c => ?_)
      · have k := k.1 c
        refine P_aload_n (pc := 39) dX3_valueAhead_39 rfl ?_
        refine P_ldcS (i := 9) (tx := "air") (pc := 40) dX3_valueAhead_40 (by decide +kernel) ?_
        obtain ⟨⟨w9, e9⟩, d2, nc, ns, rc14, rs15, Qc, g1, rfl, rfl, g2, kk, kx⟩ := k
        refine P_callV (ci := 8) (k := 0) (id := l0) (q := (RX8, TX8, 7)) (As := [vR (1200, 9)]) (st := []) (pc := 42) dX3_valueAhead_42 mk_X8_takeWord l_X3_65 im_X8_takeWord se_X8_takeWord ini_X8 rfl g1 (Nat.le_of_ble_eq_true rfl) rfl rfl (by decide) e9 rfl g2 (fun v9 h9 q9 => ?_) (fun E h9 q9 => PX_out rfl (kx E h9 q9))
        obtain ⟨x16, rfl, k⟩ := kk v9 h9 q9
        clear kk kx g1 g2 q9
        refine P_if_eq (tgt := 52) (pc := 45) dX3_valueAhead_45 (by decide) (fun c => ?_) (fun c => ?_)
        · have k := k.1 c
          refine P_aload_n (pc := 52) dX3_valueAhead_52 rfl ?_
          refine P_ldcS (i := 10) (tx := "cracks") (pc := 53) dX3_valueAhead_53 (by decide +kernel) ?_
          obtain ⟨⟨w9, e9⟩, d2, nc, ns, rc18, rs19, Qc, g1, rfl, rfl, g2, kk, kx⟩ := k
          refine P_callV (ci := 8) (k := 0) (id := l0) (q := (RX8, TX8, 7)) (As := [vR (1200, 10)]) (st := []) (pc := 55) dX3_valueAhead_55 mk_X8_takeWord l_X3_65 im_X8_takeWord se_X8_takeWord ini_X8 rfl g1 (Nat.le_of_ble_eq_true rfl) rfl rfl (by decide) e9 rfl g2 (fun v9 h9 q9 => ?_) (fun E h9 q9 => PX_out rfl (kx E h9 q9))
          obtain ⟨x20, rfl, k⟩ := kk v9 h9 q9
          clear kk kx g1 g2 q9
          refine P_if_eq (tgt := 65) (pc := 58) dX3_valueAhead_58 (by decide) (fun c => ?_) (fun c => ?_)
          · have k := k.1 c
            refine P_aload_n (pc := 65) dX3_valueAhead_65 rfl ?_
            refine P_ldcS (i := 11) (tx := "mist") (pc := 66) dX3_valueAhead_66 (by decide +kernel) ?_
            obtain ⟨⟨w9, e9⟩, d2, nc, ns, rc22, rs23, Qc, g1, rfl, rfl, g2, kk, kx⟩ := k
            refine P_callV (ci := 8) (k := 0) (id := l0) (q := (RX8, TX8, 7)) (As := [vR (1200, 11)]) (st := []) (pc := 68) dX3_valueAhead_68 mk_X8_takeWord l_X3_65 im_X8_takeWord se_X8_takeWord ini_X8 rfl g1 (Nat.le_of_ble_eq_true rfl) rfl rfl (by decide) e9 rfl g2 (fun v9 h9 q9 => ?_) (fun E h9 q9 => PX_out rfl (kx E h9 q9))
            obtain ⟨x24, rfl, k⟩ := kk v9 h9 q9
            clear kk kx g1 g2 q9
            refine P_if_eq (tgt := 78) (pc := 71) dX3_valueAhead_71 (by decide) (fun c => ?_) (fun c => ?_)
            · have k := k.1 c
              refine P_aload_n (pc := 78) dX3_valueAhead_78 rfl ?_
              refine P_ldcS (i := 12) (tx := "hour") (pc := 79) dX3_valueAhead_79 (by decide +kernel) ?_
              obtain ⟨⟨w9, e9⟩, d2, nc, ns, rc26, rs27, Qc, g1, rfl, rfl, g2, kk, kx⟩ := k
              refine P_callV (ci := 8) (k := 0) (id := l0) (q := (RX8, TX8, 7)) (As := [vR (1200, 12)]) (st := []) (pc := 81) dX3_valueAhead_81 mk_X8_takeWord l_X3_65 im_X8_takeWord se_X8_takeWord ini_X8 rfl g1 (Nat.le_of_ble_eq_true rfl) rfl rfl (by decide) e9 rfl g2 (fun v9 h9 q9 => ?_) (fun E h9 q9 => PX_out rfl (kx E h9 q9))
              obtain ⟨x28, rfl, k⟩ := kk v9 h9 q9
              clear kk kx g1 g2 q9
              refine P_if_eq (tgt := 92) (pc := 84) dX3_valueAhead_84 (by decide) (fun c => ?_) (fun c => ?_)
              · have k := k.1 c
                refine P_aload_n (pc := 92) dX3_valueAhead_92 rfl ?_
                refine P_ldcS (i := 3) (tx := "sun") (pc := 93) dX3_valueAhead_93 (by decide +kernel) ?_
                obtain ⟨⟨w9, e9⟩, d2, nc, ns, rc30, rs31, Qc, g1, rfl, rfl, g2, kk, kx⟩ := k
                refine P_callV (ci := 8) (k := 0) (id := l0) (q := (RX8, TX8, 7)) (As := [vR (1200, 3)]) (st := []) (pc := 95) dX3_valueAhead_95 mk_X8_takeWord l_X3_65 im_X8_takeWord se_X8_takeWord ini_X8 rfl g1 (Nat.le_of_ble_eq_true rfl) rfl rfl (by decide) e9 rfl g2 (fun v9 h9 q9 => ?_) (fun E h9 q9 => PX_out rfl (kx E h9 q9))
                obtain ⟨x32, rfl, k⟩ := kk v9 h9 q9
                clear kk kx g1 g2 q9
                refine P_if_eq (tgt := 106) (pc := 98) dX3_valueAhead_98 (by decide) (fun c => ?_) (fun c => ?_)
                · have k := k.1 c
                  refine P_aload_n (pc := 106) dX3_valueAhead_106 rfl ?_
                  refine P_ldcS (i := 0) (tx := "heir") (pc := 107) dX3_valueAhead_107 (by decide +kernel) ?_
                  obtain ⟨⟨w9, e9⟩, d2, nc, ns, rc34, rs35, Qc, g1, rfl, rfl, g2, kk, kx⟩ := k
                  refine P_callV (ci := 8) (k := 0) (id := l0) (q := (RX8, TX8, 7)) (As := [vR (1200, 0)]) (st := []) (pc := 109) dX3_valueAhead_109 mk_X8_takeWord l_X3_65 im_X8_takeWord se_X8_takeWord ini_X8 rfl g1 (Nat.le_of_ble_eq_true rfl) rfl rfl (by decide) e9 rfl g2 (fun v9 h9 q9 => ?_) (fun E h9 q9 => PX_out rfl (kx E h9 q9))
                  obtain ⟨x36, rfl, k⟩ := kk v9 h9 q9
                  clear kk kx g1 g2 q9
                  refine P_if_eq (tgt := 120) (pc := 112) dX3_valueAhead_112 (by decide) (fun c => ?_) (fun c => ?_)
                  · have k := k.1 c
                    refine P_iconst (v := (-1 : Int32)) (pc := 120) dX3_valueAhead_120 (by decide) ?_
                    exact R_ireturn (pc := 121) dX3_valueAhead_121 rfl rfl k
                  · have k := k.2 c
                    refine P_bipush (v := (8 : Int32)) (pc := 115) dX3_valueAhead_115 (by decide) ?_
                    refine P_goto (tgt := 121) (pc := 117) dX3_valueAhead_117 (by decide) ?_
                    exact R_ireturn (pc := 121) dX3_valueAhead_121 rfl rfl k
                · have k := k.2 c
                  refine P_bipush (v := (7 : Int32)) (pc := 101) dX3_valueAhead_101 (by decide) ?_
                  refine P_goto (tgt := 121) (pc := 103) dX3_valueAhead_103 (by decide) ?_
                  exact R_ireturn (pc := 121) dX3_valueAhead_121 rfl rfl k
              · have k := k.2 c
                refine P_bipush (v := (6 : Int32)) (pc := 87) dX3_valueAhead_87 (by decide) ?_
                refine P_goto (tgt := 121) (pc := 89) dX3_valueAhead_89 (by decide) ?_
                exact R_ireturn (pc := 121) dX3_valueAhead_121 rfl rfl k
            · have k := k.2 c
              refine P_iconst (v := (5 : Int32)) (pc := 74) dX3_valueAhead_74 (by decide) ?_
              refine P_goto (tgt := 121) (pc := 75) dX3_valueAhead_75 (by decide) ?_
              exact R_ireturn (pc := 121) dX3_valueAhead_121 rfl rfl k
          · have k := k.2 c
            refine P_iconst (v := (4 : Int32)) (pc := 61) dX3_valueAhead_61 (by decide) ?_
            refine P_goto (tgt := 121) (pc := 62) dX3_valueAhead_62 (by decide) ?_
            exact R_ireturn (pc := 121) dX3_valueAhead_121 rfl rfl k
        · have k := k.2 c
          refine P_iconst (v := (3 : Int32)) (pc := 48) dX3_valueAhead_48 (by decide) ?_
          refine P_goto (tgt := 121) (pc := 49) dX3_valueAhead_49 (by decide) ?_
          exact R_ireturn (pc := 121) dX3_valueAhead_121 rfl rfl k
      · have k := k.2 c
        refine P_iconst (v := (2 : Int32)) (pc := 35) dX3_valueAhead_35 (by decide) ?_
        refine P_goto (tgt := 121) (pc := 36) dX3_valueAhead_36 (by decide) ?_
        exact R_ireturn (pc := 121) dX3_valueAhead_121 rfl rfl k
    · have k := k.2 c
      refine P_iconst (v := (1 : Int32)) (pc := 22) dX3_valueAhead_22 (by decide) ?_
      refine P_goto (tgt := 121) (pc := 23) dX3_valueAhead_23 (by decide) ?_
      exact R_ireturn (pc := 121) dX3_valueAhead_121 rfl rfl k
  · have k := k.2 c
    refine P_iconst (v := (0 : Int32)) (pc := 9) dX3_valueAhead_9 (by decide) ?_
    refine P_goto (tgt := 121) (pc := 10) dX3_valueAhead_10 (by decide) ?_
    exact R_ireturn (pc := 121) dX3_valueAhead_121 rfl rfl k
-- X3_setHeir setHeir(III)V
theorem dX3_setHeir_0 : decode cX3_setHeir 0 = .ok (.aload_n 0, 1) := by decide +kernel
theorem dX3_setHeir_1 : decode cX3_setHeir 1 = .ok (.getfield 21, 3) := by decide +kernel
theorem dX3_setHeir_4 : decode cX3_setHeir 4 = .ok (.iconst 0, 1) := by decide +kernel
theorem dX3_setHeir_5 : decode cX3_setHeir 5 = .ok (.iload_n 1, 1) := by decide +kernel
theorem dX3_setHeir_6 : decode cX3_setHeir 6 = .ok (.iastore, 1) := by decide +kernel
theorem dX3_setHeir_7 : decode cX3_setHeir 7 = .ok (.aload_n 0, 1) := by decide +kernel
theorem dX3_setHeir_8 : decode cX3_setHeir 8 = .ok (.getfield 21, 3) := by decide +kernel
theorem dX3_setHeir_11 : decode cX3_setHeir 11 = .ok (.iconst 1, 1) := by decide +kernel
theorem dX3_setHeir_12 : decode cX3_setHeir 12 = .ok (.iload_n 2, 1) := by decide +kernel
theorem dX3_setHeir_13 : decode cX3_setHeir 13 = .ok (.iastore, 1) := by decide +kernel
theorem dX3_setHeir_14 : decode cX3_setHeir 14 = .ok (.aload_n 0, 1) := by decide +kernel
theorem dX3_setHeir_15 : decode cX3_setHeir 15 = .ok (.getfield 21, 3) := by decide +kernel
theorem dX3_setHeir_18 : decode cX3_setHeir 18 = .ok (.bipush 8, 2) := by decide +kernel
theorem dX3_setHeir_20 : decode cX3_setHeir 20 = .ok (.iload_n 3, 1) := by decide +kernel
theorem dX3_setHeir_21 : decode cX3_setHeir 21 = .ok (.iastore, 1) := by decide +kernel
theorem dX3_setHeir_22 : decode cX3_setHeir 22 = .ok (.return_, 1) := by decide +kernel
theorem r_X3_setHeir_0 {d rc rs : Nat} {Q : PO → PH → Prop} {h : PH} {l0 : Nat} {l1 : Int32} {l2 : Int32} {l3 : Int32}
    (k : gA h (10303, l0) fun a1 => yI h a1 (0 : Int32) l1 fun h2 => gA h2 (10303, l0) fun a3 => yI h2 a3 (1 : Int32) l2 fun h4 => gA h4 (10303, l0) fun a5 => yI h4 a5 (8 : Int32) l3 fun h6 => Q (.inl none) h6) :
    PW d M_X3_setHeir Q rc rs 0 [vR (300, l0), vI l1, vI l2, vI l3] [] h := by
  refine P_aload_n (pc := 0) dX3_setHeir_0 rfl ?_
  obtain ⟨a1, e9, k⟩ := k
  refine G3_3 (pc := 1) dX3_setHeir_1 l_X3_21 e9 ?_
  clear e9
  refine P_iconst (v := (0 : Int32)) (pc := 4) dX3_setHeir_4 (by decide) ?_
  refine P_iload_n (pc := 5) dX3_setHeir_5 rfl ?_
  obtain ⟨n9, f9, e9, i9, k⟩ := k
  refine P_iast (pc := 6) dX3_setHeir_6 e9 i9 ?_
  clear e9
  refine P_aload_n (pc := 7) dX3_setHeir_7 rfl ?_
  obtain ⟨a3, e9, k⟩ := k
  refine G3_3 (pc := 8) dX3_setHeir_8 l_X3_21 e9 ?_
  clear e9
  refine P_iconst (v := (1 : Int32)) (pc := 11) dX3_setHeir_11 (by decide) ?_
  refine P_iload_n (pc := 12) dX3_setHeir_12 rfl ?_
  obtain ⟨n9, f9, e9, i9, k⟩ := k
  refine P_iast (pc := 13) dX3_setHeir_13 e9 i9 ?_
  clear e9
  refine P_aload_n (pc := 14) dX3_setHeir_14 rfl ?_
  obtain ⟨a5, e9, k⟩ := k
  refine G3_3 (pc := 15) dX3_setHeir_15 l_X3_21 e9 ?_
  clear e9
  refine P_bipush (v := (8 : Int32)) (pc := 18) dX3_setHeir_18 (by decide) ?_
  refine P_iload_n (pc := 20) dX3_setHeir_20 rfl ?_
  obtain ⟨n9, f9, e9, i9, k⟩ := k
  refine P_iast (pc := 21) dX3_setHeir_21 e9 i9 ?_
  clear e9
  exact R_return (pc := 22) dX3_setHeir_22 rfl k
-- X3_setGlass setGlass(IIII)V
theorem dX3_setGlass_0 : decode cX3_setGlass 0 = .ok (.aload_n 0, 1) := by decide +kernel
theorem dX3_setGlass_1 : decode cX3_setGlass 1 = .ok (.getfield 21, 3) := by decide +kernel
theorem dX3_setGlass_4 : decode cX3_setGlass 4 = .ok (.iconst 2, 1) := by decide +kernel
theorem dX3_setGlass_5 : decode cX3_setGlass 5 = .ok (.iload_n 1, 1) := by decide +kernel
theorem dX3_setGlass_6 : decode cX3_setGlass 6 = .ok (.iastore, 1) := by decide +kernel
theorem dX3_setGlass_7 : decode cX3_setGlass 7 = .ok (.aload_n 0, 1) := by decide +kernel
theorem dX3_setGlass_8 : decode cX3_setGlass 8 = .ok (.getfield 21, 3) := by decide +kernel
theorem dX3_setGlass_11 : decode cX3_setGlass 11 = .ok (.iconst 3, 1) := by decide +kernel
theorem dX3_setGlass_12 : decode cX3_setGlass 12 = .ok (.iload_n 2, 1) := by decide +kernel
theorem dX3_setGlass_13 : decode cX3_setGlass 13 = .ok (.iastore, 1) := by decide +kernel
theorem dX3_setGlass_14 : decode cX3_setGlass 14 = .ok (.aload_n 0, 1) := by decide +kernel
theorem dX3_setGlass_15 : decode cX3_setGlass 15 = .ok (.getfield 21, 3) := by decide +kernel
theorem dX3_setGlass_18 : decode cX3_setGlass 18 = .ok (.iconst 4, 1) := by decide +kernel
theorem dX3_setGlass_19 : decode cX3_setGlass 19 = .ok (.iload_n 3, 1) := by decide +kernel
theorem dX3_setGlass_20 : decode cX3_setGlass 20 = .ok (.iastore, 1) := by decide +kernel
theorem dX3_setGlass_21 : decode cX3_setGlass 21 = .ok (.aload_n 0, 1) := by decide +kernel
theorem dX3_setGlass_22 : decode cX3_setGlass 22 = .ok (.getfield 21, 3) := by decide +kernel
theorem dX3_setGlass_25 : decode cX3_setGlass 25 = .ok (.iconst 5, 1) := by decide +kernel
theorem dX3_setGlass_26 : decode cX3_setGlass 26 = .ok (.iload 4, 2) := by decide +kernel
theorem dX3_setGlass_28 : decode cX3_setGlass 28 = .ok (.iastore, 1) := by decide +kernel
theorem dX3_setGlass_29 : decode cX3_setGlass 29 = .ok (.return_, 1) := by decide +kernel
theorem r_X3_setGlass_0 {d rc rs : Nat} {Q : PO → PH → Prop} {h : PH} {l0 : Nat} {l1 : Int32} {l2 : Int32} {l3 : Int32} {l4 : Int32}
    (k : gA h (10303, l0) fun a1 => yI h a1 (2 : Int32) l1 fun h2 => gA h2 (10303, l0) fun a3 => yI h2 a3 (3 : Int32) l2 fun h4 => gA h4 (10303, l0) fun a5 => yI h4 a5 (4 : Int32) l3 fun h6 => gA h6 (10303, l0) fun a7 => yI h6 a7 (5 : Int32) l4 fun h8 => Q (.inl none) h8) :
    PW d M_X3_setGlass Q rc rs 0 [vR (300, l0), vI l1, vI l2, vI l3, vI l4] [] h := by
  refine P_aload_n (pc := 0) dX3_setGlass_0 rfl ?_
  obtain ⟨a1, e9, k⟩ := k
  refine G3_3 (pc := 1) dX3_setGlass_1 l_X3_21 e9 ?_
  clear e9
  refine P_iconst (v := (2 : Int32)) (pc := 4) dX3_setGlass_4 (by decide) ?_
  refine P_iload_n (pc := 5) dX3_setGlass_5 rfl ?_
  obtain ⟨n9, f9, e9, i9, k⟩ := k
  refine P_iast (pc := 6) dX3_setGlass_6 e9 i9 ?_
  clear e9
  refine P_aload_n (pc := 7) dX3_setGlass_7 rfl ?_
  obtain ⟨a3, e9, k⟩ := k
  refine G3_3 (pc := 8) dX3_setGlass_8 l_X3_21 e9 ?_
  clear e9
  refine P_iconst (v := (3 : Int32)) (pc := 11) dX3_setGlass_11 (by decide) ?_
  refine P_iload_n (pc := 12) dX3_setGlass_12 rfl ?_
  obtain ⟨n9, f9, e9, i9, k⟩ := k
  refine P_iast (pc := 13) dX3_setGlass_13 e9 i9 ?_
  clear e9
  refine P_aload_n (pc := 14) dX3_setGlass_14 rfl ?_
  obtain ⟨a5, e9, k⟩ := k
  refine G3_3 (pc := 15) dX3_setGlass_15 l_X3_21 e9 ?_
  clear e9
  refine P_iconst (v := (4 : Int32)) (pc := 18) dX3_setGlass_18 (by decide) ?_
  refine P_iload_n (pc := 19) dX3_setGlass_19 rfl ?_
  obtain ⟨n9, f9, e9, i9, k⟩ := k
  refine P_iast (pc := 20) dX3_setGlass_20 e9 i9 ?_
  clear e9
  refine P_aload_n (pc := 21) dX3_setGlass_21 rfl ?_
  obtain ⟨a7, e9, k⟩ := k
  refine G3_3 (pc := 22) dX3_setGlass_22 l_X3_21 e9 ?_
  clear e9
  refine P_iconst (v := (5 : Int32)) (pc := 25) dX3_setGlass_25 (by decide) ?_
  refine P_iload (pc := 26) dX3_setGlass_26 rfl ?_
  obtain ⟨n9, f9, e9, i9, k⟩ := k
  refine P_iast (pc := 28) dX3_setGlass_28 e9 i9 ?_
  clear e9
  exact R_return (pc := 29) dX3_setGlass_29 rfl k
-- X3_setHour setHour(II)V
theorem dX3_setHour_0 : decode cX3_setHour 0 = .ok (.aload_n 0, 1) := by decide +kernel
theorem dX3_setHour_1 : decode cX3_setHour 1 = .ok (.getfield 21, 3) := by decide +kernel
theorem dX3_setHour_4 : decode cX3_setHour 4 = .ok (.bipush 6, 2) := by decide +kernel
theorem dX3_setHour_6 : decode cX3_setHour 6 = .ok (.iload_n 1, 1) := by decide +kernel
theorem dX3_setHour_7 : decode cX3_setHour 7 = .ok (.iastore, 1) := by decide +kernel
theorem dX3_setHour_8 : decode cX3_setHour 8 = .ok (.aload_n 0, 1) := by decide +kernel
theorem dX3_setHour_9 : decode cX3_setHour 9 = .ok (.getfield 21, 3) := by decide +kernel
theorem dX3_setHour_12 : decode cX3_setHour 12 = .ok (.bipush 7, 2) := by decide +kernel
theorem dX3_setHour_14 : decode cX3_setHour 14 = .ok (.iload_n 2, 1) := by decide +kernel
theorem dX3_setHour_15 : decode cX3_setHour 15 = .ok (.iastore, 1) := by decide +kernel
theorem dX3_setHour_16 : decode cX3_setHour 16 = .ok (.return_, 1) := by decide +kernel
theorem r_X3_setHour_0 {d rc rs : Nat} {Q : PO → PH → Prop} {h : PH} {l0 : Nat} {l1 : Int32} {l2 : Int32}
    (k : gA h (10303, l0) fun a1 => yI h a1 (6 : Int32) l1 fun h2 => gA h2 (10303, l0) fun a3 => yI h2 a3 (7 : Int32) l2 fun h4 => Q (.inl none) h4) :
    PW d M_X3_setHour Q rc rs 0 [vR (300, l0), vI l1, vI l2] [] h := by
  refine P_aload_n (pc := 0) dX3_setHour_0 rfl ?_
  obtain ⟨a1, e9, k⟩ := k
  refine G3_3 (pc := 1) dX3_setHour_1 l_X3_21 e9 ?_
  clear e9
  refine P_bipush (v := (6 : Int32)) (pc := 4) dX3_setHour_4 (by decide) ?_
  refine P_iload_n (pc := 6) dX3_setHour_6 rfl ?_
  obtain ⟨n9, f9, e9, i9, k⟩ := k
  refine P_iast (pc := 7) dX3_setHour_7 e9 i9 ?_
  clear e9
  refine P_aload_n (pc := 8) dX3_setHour_8 rfl ?_
  obtain ⟨a3, e9, k⟩ := k
  refine G3_3 (pc := 9) dX3_setHour_9 l_X3_21 e9 ?_
  clear e9
  refine P_bipush (v := (7 : Int32)) (pc := 12) dX3_setHour_12 (by decide) ?_
  refine P_iload_n (pc := 14) dX3_setHour_14 rfl ?_
  obtain ⟨n9, f9, e9, i9, k⟩ := k
  refine P_iast (pc := 15) dX3_setHour_15 e9 i9 ?_
  clear e9
  exact R_return (pc := 16) dX3_setHour_16 rfl k
-- X3_comes comes()I
theorem dX3_comes_0 : decode cX3_comes 0 = .ok (.iconst 0, 1) := by decide +kernel
theorem dX3_comes_1 : decode cX3_comes 1 = .ok (.istore_n 1, 1) := by decide +kernel
theorem dX3_comes_2 : decode cX3_comes 2 = .ok (.iconst 0, 1) := by decide +kernel
theorem dX3_comes_3 : decode cX3_comes 3 = .ok (.istore_n 2, 1) := by decide +kernel
theorem dX3_comes_4 : decode cX3_comes 4 = .ok (.iload_n 2, 1) := by decide +kernel
theorem dX3_comes_5 : decode cX3_comes 5 = .ok (.aload_n 0, 1) := by decide +kernel
theorem dX3_comes_6 : decode cX3_comes 6 = .ok (.getfield 24, 3) := by decide +kernel
theorem dX3_comes_9 : decode cX3_comes 9 = .ok (.if_icmp .ge 123, 3) := by decide +kernel
theorem dX3_comes_12 : decode cX3_comes 12 = .ok (.iload_n 1, 1) := by decide +kernel
theorem dX3_comes_13 : decode cX3_comes 13 = .ok (.sipush 150, 3) := by decide +kernel
theorem dX3_comes_16 : decode cX3_comes 16 = .ok (.if_icmp .ge 116, 3) := by decide +kernel
theorem dX3_comes_19 : decode cX3_comes 19 = .ok (.aload_n 0, 1) := by decide +kernel
theorem dX3_comes_20 : decode cX3_comes 20 = .ok (.getfield 9, 3) := by decide +kernel
theorem dX3_comes_23 : decode cX3_comes 23 = .ok (.iload_n 2, 1) := by decide +kernel
theorem dX3_comes_24 : decode cX3_comes 24 = .ok (.iaload, 1) := by decide +kernel
theorem dX3_comes_25 : decode cX3_comes 25 = .ok (.istore_n 3, 1) := by decide +kernel
theorem dX3_comes_26 : decode cX3_comes 26 = .ok (.aload_n 0, 1) := by decide +kernel
theorem dX3_comes_27 : decode cX3_comes 27 = .ok (.getfield 15, 3) := by decide +kernel
theorem dX3_comes_30 : decode cX3_comes 30 = .ok (.iload_n 2, 1) := by decide +kernel
theorem dX3_comes_31 : decode cX3_comes 31 = .ok (.iaload, 1) := by decide +kernel
theorem dX3_comes_32 : decode cX3_comes 32 = .ok (.istore 4, 2) := by decide +kernel
theorem dX3_comes_34 : decode cX3_comes 34 = .ok (.iload_n 3, 1) := by decide +kernel
theorem dX3_comes_35 : decode cX3_comes 35 = .ok (.ifCond .ne 17, 3) := by decide +kernel
theorem dX3_comes_38 : decode cX3_comes 38 = .ok (.aload_n 0, 1) := by decide +kernel
theorem dX3_comes_39 : decode cX3_comes 39 = .ok (.getfield 18, 3) := by decide +kernel
theorem dX3_comes_42 : decode cX3_comes 42 = .ok (.iload_n 1, 1) := by decide +kernel
theorem dX3_comes_43 : decode cX3_comes 43 = .ok (.iload 4, 2) := by decide +kernel
theorem dX3_comes_45 : decode cX3_comes 45 = .ok (.iastore, 1) := by decide +kernel
theorem dX3_comes_46 : decode cX3_comes 46 = .ok (.iinc 1 1, 3) := by decide +kernel
theorem dX3_comes_49 : decode cX3_comes 49 = .ok (.goto 77, 3) := by decide +kernel
theorem dX3_comes_52 : decode cX3_comes 52 = .ok (.iload_n 3, 1) := by decide +kernel
theorem dX3_comes_53 : decode cX3_comes 53 = .ok (.iconst 1, 1) := by decide +kernel
theorem dX3_comes_54 : decode cX3_comes 54 = .ok (.if_icmp .ne 38, 3) := by decide +kernel
theorem dX3_comes_57 : decode cX3_comes 57 = .ok (.aload_n 0, 1) := by decide +kernel
theorem dX3_comes_58 : decode cX3_comes 58 = .ok (.getfield 18, 3) := by decide +kernel
theorem dX3_comes_61 : decode cX3_comes 61 = .ok (.iload_n 1, 1) := by decide +kernel
theorem dX3_comes_62 : decode cX3_comes 62 = .ok (.iload 4, 2) := by decide +kernel
theorem dX3_comes_64 : decode cX3_comes 64 = .ok (.ifCond .lt 20, 3) := by decide +kernel
theorem dX3_comes_67 : decode cX3_comes 67 = .ok (.iload 4, 2) := by decide +kernel
theorem dX3_comes_69 : decode cX3_comes 69 = .ok (.bipush 9, 2) := by decide +kernel
theorem dX3_comes_71 : decode cX3_comes 71 = .ok (.if_icmp .ge 13, 3) := by decide +kernel
theorem dX3_comes_74 : decode cX3_comes 74 = .ok (.aload_n 0, 1) := by decide +kernel
theorem dX3_comes_75 : decode cX3_comes 75 = .ok (.getfield 21, 3) := by decide +kernel
theorem dX3_comes_78 : decode cX3_comes 78 = .ok (.iload 4, 2) := by decide +kernel
theorem dX3_comes_80 : decode cX3_comes 80 = .ok (.iaload, 1) := by decide +kernel
theorem dX3_comes_81 : decode cX3_comes 81 = .ok (.goto 4, 3) := by decide +kernel
theorem dX3_comes_84 : decode cX3_comes 84 = .ok (.iconst 0, 1) := by decide +kernel
theorem dX3_comes_85 : decode cX3_comes 85 = .ok (.iastore, 1) := by decide +kernel
theorem dX3_comes_86 : decode cX3_comes 86 = .ok (.iinc 1 1, 3) := by decide +kernel
theorem dX3_comes_89 : decode cX3_comes 89 = .ok (.goto 37, 3) := by decide +kernel
theorem dX3_comes_92 : decode cX3_comes 92 = .ok (.iload_n 1, 1) := by decide +kernel
theorem dX3_comes_93 : decode cX3_comes 93 = .ok (.iconst 2, 1) := by decide +kernel
theorem dX3_comes_94 : decode cX3_comes 94 = .ok (.if_icmp .lt 32, 3) := by decide +kernel
theorem dX3_comes_97 : decode cX3_comes 97 = .ok (.iinc 1 (-1), 3) := by decide +kernel
theorem dX3_comes_100 : decode cX3_comes 100 = .ok (.aload_n 0, 1) := by decide +kernel
theorem dX3_comes_101 : decode cX3_comes 101 = .ok (.getfield 18, 3) := by decide +kernel
theorem dX3_comes_104 : decode cX3_comes 104 = .ok (.iload_n 1, 1) := by decide +kernel
theorem dX3_comes_105 : decode cX3_comes 105 = .ok (.iconst 1, 1) := by decide +kernel
theorem dX3_comes_106 : decode cX3_comes 106 = .ok (.isub, 1) := by decide +kernel
theorem dX3_comes_107 : decode cX3_comes 107 = .ok (.iload_n 3, 1) := by decide +kernel
theorem dX3_comes_108 : decode cX3_comes 108 = .ok (.aload_n 0, 1) := by decide +kernel
theorem dX3_comes_109 : decode cX3_comes 109 = .ok (.getfield 18, 3) := by decide +kernel
theorem dX3_comes_112 : decode cX3_comes 112 = .ok (.iload_n 1, 1) := by decide +kernel
theorem dX3_comes_113 : decode cX3_comes 113 = .ok (.iconst 1, 1) := by decide +kernel
theorem dX3_comes_114 : decode cX3_comes 114 = .ok (.isub, 1) := by decide +kernel
theorem dX3_comes_115 : decode cX3_comes 115 = .ok (.iaload, 1) := by decide +kernel
theorem dX3_comes_116 : decode cX3_comes 116 = .ok (.aload_n 0, 1) := by decide +kernel
theorem dX3_comes_117 : decode cX3_comes 117 = .ok (.getfield 18, 3) := by decide +kernel
theorem dX3_comes_120 : decode cX3_comes 120 = .ok (.iload_n 1, 1) := by decide +kernel
theorem dX3_comes_121 : decode cX3_comes 121 = .ok (.iaload, 1) := by decide +kernel
theorem dX3_comes_122 : decode cX3_comes 122 = .ok (.invokestatic 101, 3) := by decide +kernel
theorem dX3_comes_125 : decode cX3_comes 125 = .ok (.iastore, 1) := by decide +kernel
theorem dX3_comes_126 : decode cX3_comes 126 = .ok (.iinc 2 1, 3) := by decide +kernel
theorem dX3_comes_129 : decode cX3_comes 129 = .ok (.goto (-125), 3) := by decide +kernel
theorem dX3_comes_132 : decode cX3_comes 132 = .ok (.iconst 0, 1) := by decide +kernel
theorem dX3_comes_133 : decode cX3_comes 133 = .ok (.bipush 40, 2) := by decide +kernel
theorem dX3_comes_135 : decode cX3_comes 135 = .ok (.aload_n 0, 1) := by decide +kernel
theorem dX3_comes_136 : decode cX3_comes 136 = .ok (.getfield 18, 3) := by decide +kernel
theorem dX3_comes_139 : decode cX3_comes 139 = .ok (.iconst 0, 1) := by decide +kernel
theorem dX3_comes_140 : decode cX3_comes 140 = .ok (.iaload, 1) := by decide +kernel
theorem dX3_comes_141 : decode cX3_comes 141 = .ok (.invokestatic 105, 3) := by decide +kernel
theorem dX3_comes_144 : decode cX3_comes 144 = .ok (.invokestatic 110, 3) := by decide +kernel
theorem dX3_comes_147 : decode cX3_comes 147 = .ok (.ireturn, 1) := by decide +kernel
theorem r_X3_comes_0 {d rc rs : Nat} {Q : PO → PH → Prop} {h : PH} {l0 : Nat}
    (k : PW d M_X3_comes Q rc rs 4 [vR (300, l0), vI (0 : Int32), vI (0 : Int32), vU, vU] [] h) :
    PW d M_X3_comes Q rc rs 0 [vR (300, l0), vU, vU, vU, vU] [] h := by
  refine P_iconst (v := (0 : Int32)) (pc := 0) dX3_comes_0 (by decide) ?_
  refine P_istore_n (pc := 1) dX3_comes_1 (by decide) (Or.inr (by intro z e9; cases e9)) rfl ?_
  refine P_iconst (v := (0 : Int32)) (pc := 2) dX3_comes_2 (by decide) ?_
  refine P_istore_n (pc := 3) dX3_comes_3 (by decide) (Or.inr (by intro z e9; cases e9)) rfl ?_
  exact k
theorem r_X3_comes_4 {d rc rs : Nat} {Q : PO → PH → Prop} {h : PH} {l0 : Nat} {l1 : Int32} {l2 : Int32}
    (k : gI h (10304, l0) fun x1 => br (l2 < x1) (br (l1 < (150 : Int32)) (gA h (10300, l0) fun a22 => xI h a22 l2 fun x23 => gA h (10301, l0) fun a24 => xI h a24 l2 fun x25 => br (x23 = 0) (gA h (10302, l0) fun a42 => yI h a42 l1 x25 fun h43 => PW d M_X3_comes Q rc rs 4 [vR (300, l0), vI (l1 + (1 : Int32)), vI (l2 + (1 : Int32)), vU, vU] [] h43) (br (x23 = (1 : Int32)) (gA h (10302, l0) fun a36 => br (x25 < 0) (yI h a36 l1 (0 : Int32) fun h37 => PW d M_X3_comes Q rc rs 4 [vR (300, l0), vI (l1 + (1 : Int32)), vI (l2 + (1 : Int32)), vU, vU] [] h37) (br (x25 < (9 : Int32)) (gA h (10303, l0) fun a39 => xI h a39 x25 fun x40 => yI h a36 l1 x40 fun h41 => PW d M_X3_comes Q rc rs 4 [vR (300, l0), vI (l1 + (1 : Int32)), vI (l2 + (1 : Int32)), vU, vU] [] h41) (yI h a36 l1 (0 : Int32) fun h38 => PW d M_X3_comes Q rc rs 4 [vR (300, l0), vI (l1 + (1 : Int32)), vI (l2 + (1 : Int32)), vU, vU] [] h38))) (br (l1 < (2 : Int32)) (PW d M_X3_comes Q rc rs 4 [vR (300, l0), vI l1, vI (l2 + (1 : Int32)), vU, vU] [] h) (gA h (10302, l0) fun a26 => gA h (10302, l0) fun a27 => xI h a27 ((l1 + (-1 : Int32)) - (1 : Int32)) fun x28 => gA h (10302, l0) fun a29 => xI h a29 (l1 + (-1 : Int32)) fun x30 => cl d rc rs M_X3_joined [vI x23, vI x28, vI x30] h (kI fun x34 h31 rc32 rs33 => yI h31 a26 ((l1 + (-1 : Int32)) - (1 : Int32)) x34 fun h35 => PW d M_X3_comes Q rc32 rs33 4 [vR (300, l0), vI (l1 + (-1 : Int32)), vI (l2 + (1 : Int32)), vU, vU] [] h35) (fun E h31 rc32 rs33 => Q (.inr E) h31))))) (gA h (10302, l0) fun a12 => xI h a12 (0 : Int32) fun x13 => cl d rc rs M_J9_min_7cf53 [vI (40 : Int32), vI x13] h (kI fun x17 h14 rc15 rs16 => cl d rc15 rs16 M_J9_max_7cf53 [vI (0 : Int32), vI x17] h14 (kI fun x21 h18 rc19 rs20 => Q (.inl (some (vI x21))) h18) (fun E h18 rc19 rs20 => Q (.inr E) h18)) (fun E h14 rc15 rs16 => Q (.inr E) h14))) (gA h (10302, l0) fun a2 => xI h a2 (0 : Int32) fun x3 => cl d rc rs M_J9_min_7cf53 [vI (40 : Int32), vI x3] h (kI fun x7 h4 rc5 rs6 => cl d rc5 rs6 M_J9_max_7cf53 [vI (0 : Int32), vI x7] h4 (kI fun x11 h8 rc9 rs10 => Q (.inl (some (vI x11))) h8) (fun E h8 rc9 rs10 => Q (.inr E) h8)) (fun E h4 rc5 rs6 => Q (.inr E) h4))) :
    PW d M_X3_comes Q rc rs 4 [vR (300, l0), vI l1, vI l2, vU, vU] [] h := by
  refine P_iload_n (pc := 4) dX3_comes_4 rfl ?_
  refine P_aload_n (pc := 5) dX3_comes_5 rfl ?_
  obtain ⟨x1, e9, k⟩ := k
  refine G3_4 (pc := 6) dX3_comes_6 l_X3_24 e9 ?_
  clear e9
  refine P_icmp_ge (tgt := 132) (pc := 9) dX3_comes_9 (by decide) (fun c => ?_) (fun c => ?_)
  · have k := k.2 (Int32.not_lt.mpr c)
    refine P_iconst (v := (0 : Int32)) (pc := 132) dX3_comes_132 (by decide) ?_
    refine P_bipush (v := (40 : Int32)) (pc := 133) dX3_comes_133 (by decide) ?_
    refine P_aload_n (pc := 135) dX3_comes_135 rfl ?_
    obtain ⟨a2, e9, k⟩ := k
    refine G3_2 (pc := 136) dX3_comes_136 l_X3_18 e9 ?_
    clear e9
    refine P_iconst (v := (0 : Int32)) (pc := 139) dX3_comes_139 (by decide) ?_
    obtain ⟨n9, f9, e9, i9, k⟩ := k
    refine P_iald (pc := 140) dX3_comes_140 e9 i9 ?_
    clear e9
    generalize f9 (Int32.toNatClampNeg (0 : Int32)) = x3 at k ⊢
    obtain ⟨d2, nc, ns, rc5, rs6, Qc, g1, rfl, rfl, g2, kk, kx⟩ := k
    refine P_callS (As := [vI (40 : Int32), vI x3]) (st := [vI (0 : Int32)]) (pc := 141) dX3_comes_141 mk_J9_min_7cf53 l_X3_105 st_J9_min_7cf53 ini_J9 rfl g1 (Nat.le_of_ble_eq_true rfl) rfl g2 (fun v9 h9 q9 => ?_) (fun E h9 q9 => PX_out rfl (kx E h9 q9))
    obtain ⟨x7, rfl, k⟩ := kk v9 h9 q9
    clear kk kx g1 g2 q9
    obtain ⟨d2, nc, ns, rc9, rs10, Qc, g1, rfl, rfl, g2, kk, kx⟩ := k
    refine P_callS (As := [vI (0 : Int32), vI x7]) (st := []) (pc := 144) dX3_comes_144 mk_J9_max_7cf53 l_X3_110 st_J9_max_7cf53 ini_J9 rfl g1 (Nat.le_of_ble_eq_true rfl) rfl g2 (fun v9 h9 q9 => ?_) (fun E h9 q9 => PX_out rfl (kx E h9 q9))
    obtain ⟨x11, rfl, k⟩ := kk v9 h9 q9
    clear kk kx g1 g2 q9
    exact R_ireturn (pc := 147) dX3_comes_147 rfl rfl k
  · have k := k.1 (Int32.not_le.mp c)
    refine P_iload_n (pc := 12) dX3_comes_12 rfl ?_
    refine P_sipush (v := (150 : Int32)) (pc := 13) dX3_comes_13 (by decide) ?_
    refine P_icmp_ge (tgt := 132) (pc := 16) dX3_comes_16 (by decide) (fun c => ?_) (fun c => ?_)
    · have k := k.2 (Int32.not_lt.mpr c)
      refine P_iconst (v := (0 : Int32)) (pc := 132) dX3_comes_132 (by decide) ?_
      refine P_bipush (v := (40 : Int32)) (pc := 133) dX3_comes_133 (by decide) ?_
      refine P_aload_n (pc := 135) dX3_comes_135 rfl ?_
      obtain ⟨a12, e9, k⟩ := k
      refine G3_2 (pc := 136) dX3_comes_136 l_X3_18 e9 ?_
      clear e9
      refine P_iconst (v := (0 : Int32)) (pc := 139) dX3_comes_139 (by decide) ?_
      obtain ⟨n9, f9, e9, i9, k⟩ := k
      refine P_iald (pc := 140) dX3_comes_140 e9 i9 ?_
      clear e9
      generalize f9 (Int32.toNatClampNeg (0 : Int32)) = x13 at k ⊢
      obtain ⟨d2, nc, ns, rc15, rs16, Qc, g1, rfl, rfl, g2, kk, kx⟩ := k
      refine P_callS (As := [vI (40 : Int32), vI x13]) (st := [vI (0 : Int32)]) (pc := 141) dX3_comes_141 mk_J9_min_7cf53 l_X3_105 st_J9_min_7cf53 ini_J9 rfl g1 (Nat.le_of_ble_eq_true rfl) rfl g2 (fun v9 h9 q9 => ?_) (fun E h9 q9 => PX_out rfl (kx E h9 q9))
      obtain ⟨x17, rfl, k⟩ := kk v9 h9 q9
      clear kk kx g1 g2 q9
      obtain ⟨d2, nc, ns, rc19, rs20, Qc, g1, rfl, rfl, g2, kk, kx⟩ := k
      refine P_callS (As := [vI (0 : Int32), vI x17]) (st := []) (pc := 144) dX3_comes_144 mk_J9_max_7cf53 l_X3_110 st_J9_max_7cf53 ini_J9 rfl g1 (Nat.le_of_ble_eq_true rfl) rfl g2 (fun v9 h9 q9 => ?_) (fun E h9 q9 => PX_out rfl (kx E h9 q9))
      obtain ⟨x21, rfl, k⟩ := kk v9 h9 q9
      clear kk kx g1 g2 q9
      exact R_ireturn (pc := 147) dX3_comes_147 rfl rfl k
    · have k := k.1 (Int32.not_le.mp c)
      refine P_aload_n (pc := 19) dX3_comes_19 rfl ?_
      obtain ⟨a22, e9, k⟩ := k
      refine G3_0 (pc := 20) dX3_comes_20 l_X3_9 e9 ?_
      clear e9
      refine P_iload_n (pc := 23) dX3_comes_23 rfl ?_
      obtain ⟨n9, f9, e9, i9, k⟩ := k
      refine P_iald (pc := 24) dX3_comes_24 e9 i9 ?_
      clear e9
      generalize f9 (Int32.toNatClampNeg l2) = x23 at k ⊢
      refine P_istore_n (pc := 25) dX3_comes_25 (by decide) (Or.inr (by intro z e9; cases e9)) rfl ?_
      refine P_aload_n (pc := 26) dX3_comes_26 rfl ?_
      obtain ⟨a24, e9, k⟩ := k
      refine G3_1 (pc := 27) dX3_comes_27 l_X3_15 e9 ?_
      clear e9
      refine P_iload_n (pc := 30) dX3_comes_30 rfl ?_
      obtain ⟨n9, f9, e9, i9, k⟩ := k
      refine P_iald (pc := 31) dX3_comes_31 e9 i9 ?_
      clear e9
      generalize f9 (Int32.toNatClampNeg l2) = x25 at k ⊢
      refine P_istore (pc := 32) dX3_comes_32 (by decide) (Or.inr (by intro z e9; cases e9)) rfl ?_
      refine P_iload_n (pc := 34) dX3_comes_34 rfl ?_
      refine P_if_ne (tgt := 52) (pc := 35) dX3_comes_35 (by decide) (fun c => ?_) (fun c => ?_)
      · have k := k.2 c
        refine P_iload_n (pc := 52) dX3_comes_52 rfl ?_
        refine P_iconst (v := (1 : Int32)) (pc := 53) dX3_comes_53 (by decide) ?_
        refine P_icmp_ne (tgt := 92) (pc := 54) dX3_comes_54 (by decide) (fun c => ?_) (fun c => ?_)
        · have k := k.2 c
          refine P_iload_n (pc := 92) dX3_comes_92 rfl ?_
          refine P_iconst (v := (2 : Int32)) (pc := 93) dX3_comes_93 (by decide) ?_
          refine P_icmp_lt (tgt := 126) (pc := 94) dX3_comes_94 (by decide) (fun c => ?_) (fun c => ?_)
          · have k := k.1 c
            refine P_iinc (v := l2 + (1 : Int32)) (pc := 126) dX3_comes_126 (by decide) rfl rfl (Or.inr (by intro z e9; cases e9)) rfl ?_
            refine P_goto (tgt := 4) (pc := 129) dX3_comes_129 (by decide) ?_
            exact P_drop (ls2 := [vR (300, l0), vI l1, vI (l2 + (1 : Int32)), vU, vU]) (ls := [vR (300, l0), vI l1, vI (l2 + (1 : Int32)), vI x23, vI x25]) ⟨Or.inr rfl, ⟨Or.inr rfl, ⟨Or.inr rfl, ⟨Or.inl rfl, ⟨Or.inl rfl, trivial⟩⟩⟩⟩⟩ k
          · have k := k.2 c
            refine P_iinc (v := l1 + (-1 : Int32)) (pc := 97) dX3_comes_97 (by decide) rfl rfl (Or.inr (by intro z e9; cases e9)) rfl ?_
            refine P_aload_n (pc := 100) dX3_comes_100 rfl ?_
            obtain ⟨a26, e9, k⟩ := k
            refine G3_2 (pc := 101) dX3_comes_101 l_X3_18 e9 ?_
            clear e9
            refine P_iload_n (pc := 104) dX3_comes_104 rfl ?_
            refine P_iconst (v := (1 : Int32)) (pc := 105) dX3_comes_105 (by decide) ?_
            refine P_isub (pc := 106) dX3_comes_106 ?_
            refine P_iload_n (pc := 107) dX3_comes_107 rfl ?_
            refine P_aload_n (pc := 108) dX3_comes_108 rfl ?_
            obtain ⟨a27, e9, k⟩ := k
            refine G3_2 (pc := 109) dX3_comes_109 l_X3_18 e9 ?_
            clear e9
            refine P_iload_n (pc := 112) dX3_comes_112 rfl ?_
            refine P_iconst (v := (1 : Int32)) (pc := 113) dX3_comes_113 (by decide) ?_
            refine P_isub (pc := 114) dX3_comes_114 ?_
            obtain ⟨n9, f9, e9, i9, k⟩ := k
            refine P_iald (pc := 115) dX3_comes_115 e9 i9 ?_
            clear e9
            generalize f9 (Int32.toNatClampNeg ((l1 + (-1 : Int32)) - (1 : Int32))) = x28 at k ⊢
            refine P_aload_n (pc := 116) dX3_comes_116 rfl ?_
            obtain ⟨a29, e9, k⟩ := k
            refine G3_2 (pc := 117) dX3_comes_117 l_X3_18 e9 ?_
            clear e9
            refine P_iload_n (pc := 120) dX3_comes_120 rfl ?_
            obtain ⟨n9, f9, e9, i9, k⟩ := k
            refine P_iald (pc := 121) dX3_comes_121 e9 i9 ?_
            clear e9
            generalize f9 (Int32.toNatClampNeg (l1 + (-1 : Int32))) = x30 at k ⊢
            obtain ⟨d2, nc, ns, rc32, rs33, Qc, g1, rfl, rfl, g2, kk, kx⟩ := k
            refine P_callS (As := [vI x23, vI x28, vI x30]) (st := [vI ((l1 + (-1 : Int32)) - (1 : Int32)), vR a26]) (pc := 122) dX3_comes_122 mk_X3_joined l_X3_101 st_X3_joined ini_X3 rfl g1 (Nat.le_of_ble_eq_true rfl) rfl g2 (fun v9 h9 q9 => ?_) (fun E h9 q9 => PX_out rfl (kx E h9 q9))
            obtain ⟨x34, rfl, k⟩ := kk v9 h9 q9
            clear kk kx g1 g2 q9
            obtain ⟨n9, f9, e9, i9, k⟩ := k
            refine P_iast (pc := 125) dX3_comes_125 e9 i9 ?_
            clear e9
            refine P_iinc (v := l2 + (1 : Int32)) (pc := 126) dX3_comes_126 (by decide) rfl rfl (Or.inr (by intro z e9; cases e9)) rfl ?_
            refine P_goto (tgt := 4) (pc := 129) dX3_comes_129 (by decide) ?_
            exact P_drop (ls2 := [vR (300, l0), vI (l1 + (-1 : Int32)), vI (l2 + (1 : Int32)), vU, vU]) (ls := [vR (300, l0), vI (l1 + (-1 : Int32)), vI (l2 + (1 : Int32)), vI x23, vI x25]) ⟨Or.inr rfl, ⟨Or.inr rfl, ⟨Or.inr rfl, ⟨Or.inl rfl, ⟨Or.inl rfl, trivial⟩⟩⟩⟩⟩ k
        · have k := k.1 c
          refine P_aload_n (pc := 57) dX3_comes_57 rfl ?_
          obtain ⟨a36, e9, k⟩ := k
          refine G3_2 (pc := 58) dX3_comes_58 l_X3_18 e9 ?_
          clear e9
          refine P_iload_n (pc := 61) dX3_comes_61 rfl ?_
          refine P_iload (pc := 62) dX3_comes_62 rfl ?_
          refine P_if_lt (tgt := 84) (pc := 64) dX3_comes_64 (by decide) (fun c => ?_) (fun c => ?_)
          · have k := k.1 c
            refine P_iconst (v := (0 : Int32)) (pc := 84) dX3_comes_84 (by decide) ?_
            obtain ⟨n9, f9, e9, i9, k⟩ := k
            refine P_iast (pc := 85) dX3_comes_85 e9 i9 ?_
            clear e9
            refine P_iinc (v := l1 + (1 : Int32)) (pc := 86) dX3_comes_86 (by decide) rfl rfl (Or.inr (by intro z e9; cases e9)) rfl ?_
            refine P_goto (tgt := 126) (pc := 89) dX3_comes_89 (by decide) ?_
            refine P_iinc (v := l2 + (1 : Int32)) (pc := 126) dX3_comes_126 (by decide) rfl rfl (Or.inr (by intro z e9; cases e9)) rfl ?_
            refine P_goto (tgt := 4) (pc := 129) dX3_comes_129 (by decide) ?_
            exact P_drop (ls2 := [vR (300, l0), vI (l1 + (1 : Int32)), vI (l2 + (1 : Int32)), vU, vU]) (ls := [vR (300, l0), vI (l1 + (1 : Int32)), vI (l2 + (1 : Int32)), vI x23, vI x25]) ⟨Or.inr rfl, ⟨Or.inr rfl, ⟨Or.inr rfl, ⟨Or.inl rfl, ⟨Or.inl rfl, trivial⟩⟩⟩⟩⟩ k
          · have k := k.2 c
            refine P_iload (pc := 67) dX3_comes_67 rfl ?_
            refine P_bipush (v := (9 : Int32)) (pc := 69) dX3_comes_69 (by decide) ?_
            refine P_icmp_ge (tgt := 84) (pc := 71) dX3_comes_71 (by decide) (fun c => ?_) (fun c => ?_)
            · have k := k.2 (Int32.not_lt.mpr c)
              refine P_iconst (v := (0 : Int32)) (pc := 84) dX3_comes_84 (by decide) ?_
              obtain ⟨n9, f9, e9, i9, k⟩ := k
              refine P_iast (pc := 85) dX3_comes_85 e9 i9 ?_
              clear e9
              refine P_iinc (v := l1 + (1 : Int32)) (pc := 86) dX3_comes_86 (by decide) rfl rfl (Or.inr (by intro z e9; cases e9)) rfl ?_
              refine P_goto (tgt := 126) (pc := 89) dX3_comes_89 (by decide) ?_
              refine P_iinc (v := l2 + (1 : Int32)) (pc := 126) dX3_comes_126 (by decide) rfl rfl (Or.inr (by intro z e9; cases e9)) rfl ?_
              refine P_goto (tgt := 4) (pc := 129) dX3_comes_129 (by decide) ?_
              exact P_drop (ls2 := [vR (300, l0), vI (l1 + (1 : Int32)), vI (l2 + (1 : Int32)), vU, vU]) (ls := [vR (300, l0), vI (l1 + (1 : Int32)), vI (l2 + (1 : Int32)), vI x23, vI x25]) ⟨Or.inr rfl, ⟨Or.inr rfl, ⟨Or.inr rfl, ⟨Or.inl rfl, ⟨Or.inl rfl, trivial⟩⟩⟩⟩⟩ k
            · have k := k.1 (Int32.not_le.mp c)
              refine P_aload_n (pc := 74) dX3_comes_74 rfl ?_
              obtain ⟨a39, e9, k⟩ := k
              refine G3_3 (pc := 75) dX3_comes_75 l_X3_21 e9 ?_
              clear e9
              refine P_iload (pc := 78) dX3_comes_78 rfl ?_
              obtain ⟨n9, f9, e9, i9, k⟩ := k
              refine P_iald (pc := 80) dX3_comes_80 e9 i9 ?_
              clear e9
              generalize f9 (Int32.toNatClampNeg x25) = x40 at k ⊢
              refine P_goto (tgt := 85) (pc := 81) dX3_comes_81 (by decide) ?_
              obtain ⟨n9, f9, e9, i9, k⟩ := k
              refine P_iast (pc := 85) dX3_comes_85 e9 i9 ?_
              clear e9
              refine P_iinc (v := l1 + (1 : Int32)) (pc := 86) dX3_comes_86 (by decide) rfl rfl (Or.inr (by intro z e9; cases e9)) rfl ?_
              refine P_goto (tgt := 126) (pc := 89) dX3_comes_89 (by decide) ?_
              refine P_iinc (v := l2 + (1 : Int32)) (pc := 126) dX3_comes_126 (by decide) rfl rfl (Or.inr (by intro z e9; cases e9)) rfl ?_
              refine P_goto (tgt := 4) (pc := 129) dX3_comes_129 (by decide) ?_
              exact P_drop (ls2 := [vR (300, l0), vI (l1 + (1 : Int32)), vI (l2 + (1 : Int32)), vU, vU]) (ls := [vR (300, l0), vI (l1 + (1 : Int32)), vI (l2 + (1 : Int32)), vI x23, vI x25]) ⟨Or.inr rfl, ⟨Or.inr rfl, ⟨Or.inr rfl, ⟨Or.inl rfl, ⟨Or.inl rfl, trivial⟩⟩⟩⟩⟩ k
      · have k := k.1 c
        refine P_aload_n (pc := 38) dX3_comes_38 rfl ?_
        obtain ⟨a42, e9, k⟩ := k
        refine G3_2 (pc := 39) dX3_comes_39 l_X3_18 e9 ?_
        clear e9
        refine P_iload_n (pc := 42) dX3_comes_42 rfl ?_
        refine P_iload (pc := 43) dX3_comes_43 rfl ?_
        obtain ⟨n9, f9, e9, i9, k⟩ := k
        refine P_iast (pc := 45) dX3_comes_45 e9 i9 ?_
        clear e9
        refine P_iinc (v := l1 + (1 : Int32)) (pc := 46) dX3_comes_46 (by decide) rfl rfl (Or.inr (by intro z e9; cases e9)) rfl ?_
        refine P_goto (tgt := 126) (pc := 49) dX3_comes_49 (by decide) ?_
        refine P_iinc (v := l2 + (1 : Int32)) (pc := 126) dX3_comes_126 (by decide) rfl rfl (Or.inr (by intro z e9; cases e9)) rfl ?_
        refine P_goto (tgt := 4) (pc := 129) dX3_comes_129 (by decide) ?_
        exact P_drop (ls2 := [vR (300, l0), vI (l1 + (1 : Int32)), vI (l2 + (1 : Int32)), vU, vU]) (ls := [vR (300, l0), vI (l1 + (1 : Int32)), vI (l2 + (1 : Int32)), vI x23, vI x25]) ⟨Or.inr rfl, ⟨Or.inr rfl, ⟨Or.inr rfl, ⟨Or.inl rfl, ⟨Or.inl rfl, trivial⟩⟩⟩⟩⟩ k
-- X3_joined joined(III)I
theorem dX3_joined_0 : decode cX3_joined 0 = .ok (.iload_n 0, 1) := by decide +kernel
theorem dX3_joined_1 : decode cX3_joined 1 = .ok (.lookupswitch 106 #[(2, 95), (37, 83), (42, 67), (43, 59), (45, 63), (47, 71)], 59) := by decide +kernel
theorem dX3_joined_60 : decode cX3_joined 60 = .ok (.iload_n 1, 1) := by decide +kernel
theorem dX3_joined_61 : decode cX3_joined 61 = .ok (.iload_n 2, 1) := by decide +kernel
theorem dX3_joined_62 : decode cX3_joined 62 = .ok (.iadd, 1) := by decide +kernel
theorem dX3_joined_63 : decode cX3_joined 63 = .ok (.ireturn, 1) := by decide +kernel
theorem dX3_joined_64 : decode cX3_joined 64 = .ok (.iload_n 1, 1) := by decide +kernel
theorem dX3_joined_65 : decode cX3_joined 65 = .ok (.iload_n 2, 1) := by decide +kernel
theorem dX3_joined_66 : decode cX3_joined 66 = .ok (.isub, 1) := by decide +kernel
theorem dX3_joined_67 : decode cX3_joined 67 = .ok (.ireturn, 1) := by decide +kernel
theorem dX3_joined_68 : decode cX3_joined 68 = .ok (.iload_n 1, 1) := by decide +kernel
theorem dX3_joined_69 : decode cX3_joined 69 = .ok (.iload_n 2, 1) := by decide +kernel
theorem dX3_joined_70 : decode cX3_joined 70 = .ok (.imul, 1) := by decide +kernel
theorem dX3_joined_71 : decode cX3_joined 71 = .ok (.ireturn, 1) := by decide +kernel
theorem dX3_joined_72 : decode cX3_joined 72 = .ok (.iload_n 2, 1) := by decide +kernel
theorem dX3_joined_73 : decode cX3_joined 73 = .ok (.ifCond .ne 7, 3) := by decide +kernel
theorem dX3_joined_76 : decode cX3_joined 76 = .ok (.iconst 0, 1) := by decide +kernel
theorem dX3_joined_77 : decode cX3_joined 77 = .ok (.goto 6, 3) := by decide +kernel
theorem dX3_joined_80 : decode cX3_joined 80 = .ok (.iload_n 1, 1) := by decide +kernel
theorem dX3_joined_81 : decode cX3_joined 81 = .ok (.iload_n 2, 1) := by decide +kernel
theorem dX3_joined_82 : decode cX3_joined 82 = .ok (.idiv, 1) := by decide +kernel
theorem dX3_joined_83 : decode cX3_joined 83 = .ok (.ireturn, 1) := by decide +kernel
theorem dX3_joined_84 : decode cX3_joined 84 = .ok (.iload_n 2, 1) := by decide +kernel
theorem dX3_joined_85 : decode cX3_joined 85 = .ok (.ifCond .ne 7, 3) := by decide +kernel
theorem dX3_joined_88 : decode cX3_joined 88 = .ok (.iconst 0, 1) := by decide +kernel
theorem dX3_joined_89 : decode cX3_joined 89 = .ok (.goto 6, 3) := by decide +kernel
theorem dX3_joined_92 : decode cX3_joined 92 = .ok (.iload_n 1, 1) := by decide +kernel
theorem dX3_joined_93 : decode cX3_joined 93 = .ok (.iload_n 2, 1) := by decide +kernel
theorem dX3_joined_94 : decode cX3_joined 94 = .ok (.irem, 1) := by decide +kernel
theorem dX3_joined_95 : decode cX3_joined 95 = .ok (.ireturn, 1) := by decide +kernel
theorem dX3_joined_96 : decode cX3_joined 96 = .ok (.iload_n 1, 1) := by decide +kernel
theorem dX3_joined_97 : decode cX3_joined 97 = .ok (.iload_n 2, 1) := by decide +kernel
theorem dX3_joined_98 : decode cX3_joined 98 = .ok (.if_icmp .ge 7, 3) := by decide +kernel
theorem dX3_joined_101 : decode cX3_joined 101 = .ok (.iload_n 1, 1) := by decide +kernel
theorem dX3_joined_102 : decode cX3_joined 102 = .ok (.goto 4, 3) := by decide +kernel
theorem dX3_joined_105 : decode cX3_joined 105 = .ok (.iload_n 2, 1) := by decide +kernel
theorem dX3_joined_106 : decode cX3_joined 106 = .ok (.ireturn, 1) := by decide +kernel
theorem dX3_joined_107 : decode cX3_joined 107 = .ok (.iload_n 1, 1) := by decide +kernel
theorem dX3_joined_108 : decode cX3_joined 108 = .ok (.iload_n 2, 1) := by decide +kernel
theorem dX3_joined_109 : decode cX3_joined 109 = .ok (.if_icmp .le 7, 3) := by decide +kernel
theorem dX3_joined_112 : decode cX3_joined 112 = .ok (.iload_n 1, 1) := by decide +kernel
theorem dX3_joined_113 : decode cX3_joined 113 = .ok (.goto 4, 3) := by decide +kernel
theorem dX3_joined_116 : decode cX3_joined 116 = .ok (.iload_n 2, 1) := by decide +kernel
theorem dX3_joined_117 : decode cX3_joined 117 = .ok (.ireturn, 1) := by decide +kernel
theorem r_X3_joined_0 {d rc rs : Nat} {Q : PO → PH → Prop} {h : PH} {l0 : Int32} {l1 : Int32} {l2 : Int32}
    (k : (l0 = (2 : Int32) → br (l1 < l2) (Q (.inl (some (vI l1))) h) (Q (.inl (some (vI l2))) h)) ∧ (l0 = (37 : Int32) → br (l2 = 0) (Q (.inl (some (vI (0 : Int32)))) h) (nz l2 (Q (.inl (some (vI (l1 - l1 / l2 * l2)))) h))) ∧ (l0 = (42 : Int32) → Q (.inl (some (vI (l1 * l2)))) h) ∧ (l0 = (43 : Int32) → Q (.inl (some (vI (l1 + l2)))) h) ∧ (l0 = (45 : Int32) → Q (.inl (some (vI (l1 - l2)))) h) ∧ (l0 = (47 : Int32) → br (l2 = 0) (Q (.inl (some (vI (0 : Int32)))) h) (nz l2 (Q (.inl (some (vI (l1 / l2)))) h))) ∧ (¬ l0 = (2 : Int32) ∧ ¬ l0 = (37 : Int32) ∧ ¬ l0 = (42 : Int32) ∧ ¬ l0 = (43 : Int32) ∧ ¬ l0 = (45 : Int32) ∧ ¬ l0 = (47 : Int32) → br (l2 < l1) (Q (.inl (some (vI l1))) h) (Q (.inl (some (vI l2))) h))) :
    PW d M_X3_joined Q rc rs 0 [vI l0, vI l1, vI l2] [] h := by
  refine P_iload_n (pc := 0) dX3_joined_0 rfl ?_
  by_cases c2 : l0 = (2 : Int32)
  · replace k := k.1 c2
    refine P_lookup (pc := 1) (tgt := 96) dX3_joined_1 (by decide) (by rw [c2] <;> rfl) (by decide) ?_
    refine P_iload_n (pc := 96) dX3_joined_96 rfl ?_
    refine P_iload_n (pc := 97) dX3_joined_97 rfl ?_
    refine P_icmp_ge (tgt := 105) (pc := 98) dX3_joined_98 (by decide) (fun c => ?_) (fun c => ?_)
    · have k := k.2 (Int32.not_lt.mpr c)
      refine P_iload_n (pc := 105) dX3_joined_105 rfl ?_
      exact R_ireturn (pc := 106) dX3_joined_106 rfl rfl k
    · have k := k.1 (Int32.not_le.mp c)
      refine P_iload_n (pc := 101) dX3_joined_101 rfl ?_
      refine P_goto (tgt := 106) (pc := 102) dX3_joined_102 (by decide) ?_
      exact R_ireturn (pc := 106) dX3_joined_106 rfl rfl k
  replace k := k.2
  by_cases c37 : l0 = (37 : Int32)
  · replace k := k.1 c37
    refine P_lookup (pc := 1) (tgt := 84) dX3_joined_1 (by decide) (by rw [c37] <;> rfl) (by decide) ?_
    refine P_iload_n (pc := 84) dX3_joined_84 rfl ?_
    refine P_if_ne (tgt := 92) (pc := 85) dX3_joined_85 (by decide) (fun c => ?_) (fun c => ?_)
    · have k := k.2 c
      refine P_iload_n (pc := 92) dX3_joined_92 rfl ?_
      refine P_iload_n (pc := 93) dX3_joined_93 rfl ?_
      refine P_irem (pc := 94) dX3_joined_94 k.1 ?_
      replace k := k.2
      exact R_ireturn (pc := 95) dX3_joined_95 rfl rfl k
    · have k := k.1 c
      refine P_iconst (v := (0 : Int32)) (pc := 88) dX3_joined_88 (by decide) ?_
      refine P_goto (tgt := 95) (pc := 89) dX3_joined_89 (by decide) ?_
      exact R_ireturn (pc := 95) dX3_joined_95 rfl rfl k
  replace k := k.2
  by_cases c42 : l0 = (42 : Int32)
  · replace k := k.1 c42
    refine P_lookup (pc := 1) (tgt := 68) dX3_joined_1 (by decide) (by rw [c42] <;> rfl) (by decide) ?_
    refine P_iload_n (pc := 68) dX3_joined_68 rfl ?_
    refine P_iload_n (pc := 69) dX3_joined_69 rfl ?_
    refine P_imul (pc := 70) dX3_joined_70 ?_
    exact R_ireturn (pc := 71) dX3_joined_71 rfl rfl k
  replace k := k.2
  by_cases c43 : l0 = (43 : Int32)
  · replace k := k.1 c43
    refine P_lookup (pc := 1) (tgt := 60) dX3_joined_1 (by decide) (by rw [c43] <;> rfl) (by decide) ?_
    refine P_iload_n (pc := 60) dX3_joined_60 rfl ?_
    refine P_iload_n (pc := 61) dX3_joined_61 rfl ?_
    refine P_iadd (pc := 62) dX3_joined_62 ?_
    exact R_ireturn (pc := 63) dX3_joined_63 rfl rfl k
  replace k := k.2
  by_cases c45 : l0 = (45 : Int32)
  · replace k := k.1 c45
    refine P_lookup (pc := 1) (tgt := 64) dX3_joined_1 (by decide) (by rw [c45] <;> rfl) (by decide) ?_
    refine P_iload_n (pc := 64) dX3_joined_64 rfl ?_
    refine P_iload_n (pc := 65) dX3_joined_65 rfl ?_
    refine P_isub (pc := 66) dX3_joined_66 ?_
    exact R_ireturn (pc := 67) dX3_joined_67 rfl rfl k
  replace k := k.2
  by_cases c47 : l0 = (47 : Int32)
  · replace k := k.1 c47
    refine P_lookup (pc := 1) (tgt := 72) dX3_joined_1 (by decide) (by rw [c47] <;> rfl) (by decide) ?_
    refine P_iload_n (pc := 72) dX3_joined_72 rfl ?_
    refine P_if_ne (tgt := 80) (pc := 73) dX3_joined_73 (by decide) (fun c => ?_) (fun c => ?_)
    · have k := k.2 c
      refine P_iload_n (pc := 80) dX3_joined_80 rfl ?_
      refine P_iload_n (pc := 81) dX3_joined_81 rfl ?_
      refine P_idiv (pc := 82) dX3_joined_82 k.1 ?_
      replace k := k.2
      exact R_ireturn (pc := 83) dX3_joined_83 rfl rfl k
    · have k := k.1 c
      refine P_iconst (v := (0 : Int32)) (pc := 76) dX3_joined_76 (by decide) ?_
      refine P_goto (tgt := 83) (pc := 77) dX3_joined_77 (by decide) ?_
      exact R_ireturn (pc := 83) dX3_joined_83 rfl rfl k
  replace k := k.2
  replace k := k ⟨c2, c37, c42, c43, c45, c47⟩
  refine P_lookup (off := 106) (pc := 1) (tgt := 107) dX3_joined_1 (by decide) ?_ (by decide) ?_
  · exact lko (List.forall_mem_cons.mpr ⟨Ne.symm (ti_ne c2), (List.forall_mem_cons.mpr ⟨Ne.symm (ti_ne c37), (List.forall_mem_cons.mpr ⟨Ne.symm (ti_ne c42), (List.forall_mem_cons.mpr ⟨Ne.symm (ti_ne c43), (List.forall_mem_cons.mpr ⟨Ne.symm (ti_ne c45), (List.forall_mem_cons.mpr ⟨Ne.symm (ti_ne c47), (fun _ h9 => nomatch h9)⟩)⟩)⟩)⟩)⟩)⟩)
  refine P_iload_n (pc := 107) dX3_joined_107 rfl ?_
  refine P_iload_n (pc := 108) dX3_joined_108 rfl ?_
  refine P_icmp_le (tgt := 116) (pc := 109) dX3_joined_109 (by decide) (fun c => ?_) (fun c => ?_)
  · have k := k.2 (Int32.not_lt.mpr c)
    refine P_iload_n (pc := 116) dX3_joined_116 rfl ?_
    exact R_ireturn (pc := 117) dX3_joined_117 rfl rfl k
  · have k := k.1 (Int32.not_le.mp c)
    refine P_iload_n (pc := 112) dX3_joined_112 rfl ?_
    refine P_goto (tgt := 117) (pc := 113) dX3_joined_113 (by decide) ?_
    exact R_ireturn (pc := 117) dX3_joined_117 rfl rfl k
-- J6_bitCount_0f7a4 bitCount(I)I
theorem dJ6_bitCount_0f7a4_0 : decode cJ6_bitCount_0f7a4 0 = .ok (.iload_n 0, 1) := by decide +kernel
theorem dJ6_bitCount_0f7a4_1 : decode cJ6_bitCount_0f7a4 1 = .ok (.iload_n 0, 1) := by decide +kernel
theorem dJ6_bitCount_0f7a4_2 : decode cJ6_bitCount_0f7a4 2 = .ok (.iconst 1, 1) := by decide +kernel
theorem dJ6_bitCount_0f7a4_3 : decode cJ6_bitCount_0f7a4 3 = .ok (.iushr, 1) := by decide +kernel
theorem dJ6_bitCount_0f7a4_4 : decode cJ6_bitCount_0f7a4 4 = .ok (.ldc_w 265, 3) := by decide +kernel
theorem dJ6_bitCount_0f7a4_7 : decode cJ6_bitCount_0f7a4 7 = .ok (.iand, 1) := by decide +kernel
theorem dJ6_bitCount_0f7a4_8 : decode cJ6_bitCount_0f7a4 8 = .ok (.isub, 1) := by decide +kernel
theorem dJ6_bitCount_0f7a4_9 : decode cJ6_bitCount_0f7a4 9 = .ok (.istore_n 0, 1) := by decide +kernel
theorem dJ6_bitCount_0f7a4_10 : decode cJ6_bitCount_0f7a4 10 = .ok (.iload_n 0, 1) := by decide +kernel
theorem dJ6_bitCount_0f7a4_11 : decode cJ6_bitCount_0f7a4 11 = .ok (.ldc_w 266, 3) := by decide +kernel
theorem dJ6_bitCount_0f7a4_14 : decode cJ6_bitCount_0f7a4 14 = .ok (.iand, 1) := by decide +kernel
theorem dJ6_bitCount_0f7a4_15 : decode cJ6_bitCount_0f7a4 15 = .ok (.iload_n 0, 1) := by decide +kernel
theorem dJ6_bitCount_0f7a4_16 : decode cJ6_bitCount_0f7a4 16 = .ok (.iconst 2, 1) := by decide +kernel
theorem dJ6_bitCount_0f7a4_17 : decode cJ6_bitCount_0f7a4 17 = .ok (.iushr, 1) := by decide +kernel
theorem dJ6_bitCount_0f7a4_18 : decode cJ6_bitCount_0f7a4 18 = .ok (.ldc_w 266, 3) := by decide +kernel
theorem dJ6_bitCount_0f7a4_21 : decode cJ6_bitCount_0f7a4 21 = .ok (.iand, 1) := by decide +kernel
theorem dJ6_bitCount_0f7a4_22 : decode cJ6_bitCount_0f7a4 22 = .ok (.iadd, 1) := by decide +kernel
theorem dJ6_bitCount_0f7a4_23 : decode cJ6_bitCount_0f7a4 23 = .ok (.istore_n 0, 1) := by decide +kernel
theorem dJ6_bitCount_0f7a4_24 : decode cJ6_bitCount_0f7a4 24 = .ok (.iload_n 0, 1) := by decide +kernel
theorem dJ6_bitCount_0f7a4_25 : decode cJ6_bitCount_0f7a4 25 = .ok (.iload_n 0, 1) := by decide +kernel
theorem dJ6_bitCount_0f7a4_26 : decode cJ6_bitCount_0f7a4 26 = .ok (.iconst 4, 1) := by decide +kernel
theorem dJ6_bitCount_0f7a4_27 : decode cJ6_bitCount_0f7a4 27 = .ok (.iushr, 1) := by decide +kernel
theorem dJ6_bitCount_0f7a4_28 : decode cJ6_bitCount_0f7a4 28 = .ok (.iadd, 1) := by decide +kernel
theorem dJ6_bitCount_0f7a4_29 : decode cJ6_bitCount_0f7a4 29 = .ok (.ldc_w 267, 3) := by decide +kernel
theorem dJ6_bitCount_0f7a4_32 : decode cJ6_bitCount_0f7a4 32 = .ok (.iand, 1) := by decide +kernel
theorem dJ6_bitCount_0f7a4_33 : decode cJ6_bitCount_0f7a4 33 = .ok (.istore_n 0, 1) := by decide +kernel
theorem dJ6_bitCount_0f7a4_34 : decode cJ6_bitCount_0f7a4 34 = .ok (.iload_n 0, 1) := by decide +kernel
theorem dJ6_bitCount_0f7a4_35 : decode cJ6_bitCount_0f7a4 35 = .ok (.iload_n 0, 1) := by decide +kernel
theorem dJ6_bitCount_0f7a4_36 : decode cJ6_bitCount_0f7a4 36 = .ok (.bipush 8, 2) := by decide +kernel
theorem dJ6_bitCount_0f7a4_38 : decode cJ6_bitCount_0f7a4 38 = .ok (.iushr, 1) := by decide +kernel
theorem dJ6_bitCount_0f7a4_39 : decode cJ6_bitCount_0f7a4 39 = .ok (.iadd, 1) := by decide +kernel
theorem dJ6_bitCount_0f7a4_40 : decode cJ6_bitCount_0f7a4 40 = .ok (.istore_n 0, 1) := by decide +kernel
theorem dJ6_bitCount_0f7a4_41 : decode cJ6_bitCount_0f7a4 41 = .ok (.iload_n 0, 1) := by decide +kernel
theorem dJ6_bitCount_0f7a4_42 : decode cJ6_bitCount_0f7a4 42 = .ok (.iload_n 0, 1) := by decide +kernel
theorem dJ6_bitCount_0f7a4_43 : decode cJ6_bitCount_0f7a4 43 = .ok (.bipush 16, 2) := by decide +kernel
theorem dJ6_bitCount_0f7a4_45 : decode cJ6_bitCount_0f7a4 45 = .ok (.iushr, 1) := by decide +kernel
theorem dJ6_bitCount_0f7a4_46 : decode cJ6_bitCount_0f7a4 46 = .ok (.iadd, 1) := by decide +kernel
theorem dJ6_bitCount_0f7a4_47 : decode cJ6_bitCount_0f7a4 47 = .ok (.istore_n 0, 1) := by decide +kernel
theorem dJ6_bitCount_0f7a4_48 : decode cJ6_bitCount_0f7a4 48 = .ok (.iload_n 0, 1) := by decide +kernel
theorem dJ6_bitCount_0f7a4_49 : decode cJ6_bitCount_0f7a4 49 = .ok (.bipush 63, 2) := by decide +kernel
theorem dJ6_bitCount_0f7a4_51 : decode cJ6_bitCount_0f7a4 51 = .ok (.iand, 1) := by decide +kernel
theorem dJ6_bitCount_0f7a4_52 : decode cJ6_bitCount_0f7a4 52 = .ok (.ireturn, 1) := by decide +kernel
theorem r_J6_bitCount_0f7a4_0 {d rc rs : Nat} {Q : PO → PH → Prop} {h : PH} {l0 : Int32}
    (k : Q (.inl (some (vI ((((((((l0 - (((l0.toUInt32 >>> ((1 : Int32).toUInt32 &&& Int32.toUInt32 31)).toInt32) &&& (1431655765 : Int32))) &&& (858993459 : Int32)) + ((((l0 - (((l0.toUInt32 >>> ((1 : Int32).toUInt32 &&& Int32.toUInt32 31)).toInt32) &&& (1431655765 : Int32))).toUInt32 >>> ((2 : Int32).toUInt32 &&& Int32.toUInt32 31)).toInt32) &&& (858993459 : Int32))) + (((((l0 - (((l0.toUInt32 >>> ((1 : Int32).toUInt32 &&& Int32.toUInt32 31)).toInt32) &&& (1431655765 : Int32))) &&& (858993459 : Int32)) + ((((l0 - (((l0.toUInt32 >>> ((1 : Int32).toUInt32 &&& Int32.toUInt32 31)).toInt32) &&& (1431655765 : Int32))).toUInt32 >>> ((2 : Int32).toUInt32 &&& Int32.toUInt32 31)).toInt32) &&& (858993459 : Int32))).toUInt32 >>> ((4 : Int32).toUInt32 &&& Int32.toUInt32 31)).toInt32)) &&& (252645135 : Int32)) + (((((((l0 - (((l0.toUInt32 >>> ((1 : Int32).toUInt32 &&& Int32.toUInt32 31)).toInt32) &&& (1431655765 : Int32))) &&& (858993459 : Int32)) + ((((l0 - (((l0.toUInt32 >>> ((1 : Int32).toUInt32 &&& Int32.toUInt32 31)).toInt32) &&& (1431655765 : Int32))).toUInt32 >>> ((2 : Int32).toUInt32 &&& Int32.toUInt32 31)).toInt32) &&& (858993459 : Int32))) + (((((l0 - (((l0.toUInt32 >>> ((1 : Int32).toUInt32 &&& Int32.toUInt32 31)).toInt32) &&& (1431655765 : Int32))) &&& (858993459 : Int32)) + ((((l0 - (((l0.toUInt32 >>> ((1 : Int32).toUInt32 &&& Int32.toUInt32 31)).toInt32) &&& (1431655765 : Int32))).toUInt32 >>> ((2 : Int32).toUInt32 &&& Int32.toUInt32 31)).toInt32) &&& (858993459 : Int32))).toUInt32 >>> ((4 : Int32).toUInt32 &&& Int32.toUInt32 31)).toInt32)) &&& (252645135 : Int32)).toUInt32 >>> ((8 : Int32).toUInt32 &&& Int32.toUInt32 31)).toInt32)) + ((((((((l0 - (((l0.toUInt32 >>> ((1 : Int32).toUInt32 &&& Int32.toUInt32 31)).toInt32) &&& (1431655765 : Int32))) &&& (858993459 : Int32)) + ((((l0 - (((l0.toUInt32 >>> ((1 : Int32).toUInt32 &&& Int32.toUInt32 31)).toInt32) &&& (1431655765 : Int32))).toUInt32 >>> ((2 : Int32).toUInt32 &&& Int32.toUInt32 31)).toInt32) &&& (858993459 : Int32))) + (((((l0 - (((l0.toUInt32 >>> ((1 : Int32).toUInt32 &&& Int32.toUInt32 31)).toInt32) &&& (1431655765 : Int32))) &&& (858993459 : Int32)) + ((((l0 - (((l0.toUInt32 >>> ((1 : Int32).toUInt32 &&& Int32.toUInt32 31)).toInt32) &&& (1431655765 : Int32))).toUInt32 >>> ((2 : Int32).toUInt32 &&& Int32.toUInt32 31)).toInt32) &&& (858993459 : Int32))).toUInt32 >>> ((4 : Int32).toUInt32 &&& Int32.toUInt32 31)).toInt32)) &&& (252645135 : Int32)) + (((((((l0 - (((l0.toUInt32 >>> ((1 : Int32).toUInt32 &&& Int32.toUInt32 31)).toInt32) &&& (1431655765 : Int32))) &&& (858993459 : Int32)) + ((((l0 - (((l0.toUInt32 >>> ((1 : Int32).toUInt32 &&& Int32.toUInt32 31)).toInt32) &&& (1431655765 : Int32))).toUInt32 >>> ((2 : Int32).toUInt32 &&& Int32.toUInt32 31)).toInt32) &&& (858993459 : Int32))) + (((((l0 - (((l0.toUInt32 >>> ((1 : Int32).toUInt32 &&& Int32.toUInt32 31)).toInt32) &&& (1431655765 : Int32))) &&& (858993459 : Int32)) + ((((l0 - (((l0.toUInt32 >>> ((1 : Int32).toUInt32 &&& Int32.toUInt32 31)).toInt32) &&& (1431655765 : Int32))).toUInt32 >>> ((2 : Int32).toUInt32 &&& Int32.toUInt32 31)).toInt32) &&& (858993459 : Int32))).toUInt32 >>> ((4 : Int32).toUInt32 &&& Int32.toUInt32 31)).toInt32)) &&& (252645135 : Int32)).toUInt32 >>> ((8 : Int32).toUInt32 &&& Int32.toUInt32 31)).toInt32)).toUInt32 >>> ((16 : Int32).toUInt32 &&& Int32.toUInt32 31)).toInt32)) &&& (63 : Int32))))) h) :
    PW d M_J6_bitCount_0f7a4 Q rc rs 0 [vI l0] [] h := by
  refine P_iload_n (pc := 0) dJ6_bitCount_0f7a4_0 rfl ?_
  refine P_iload_n (pc := 1) dJ6_bitCount_0f7a4_1 rfl ?_
  refine P_iconst (v := (1 : Int32)) (pc := 2) dJ6_bitCount_0f7a4_2 (by decide) ?_
  refine P_iushr (pc := 3) dJ6_bitCount_0f7a4_3 ?_
  refine P_ldcw (v := (1431655765 : Int32)) (pc := 4) dJ6_bitCount_0f7a4_4 l_J6_265 ?_
  refine P_iand (pc := 7) dJ6_bitCount_0f7a4_7 ?_
  refine P_isub (pc := 8) dJ6_bitCount_0f7a4_8 ?_
  refine P_istore_n (pc := 9) dJ6_bitCount_0f7a4_9 (by decide) (Or.inl rfl) rfl ?_
  refine P_iload_n (pc := 10) dJ6_bitCount_0f7a4_10 rfl ?_
  refine P_ldcw (v := (858993459 : Int32)) (pc := 11) dJ6_bitCount_0f7a4_11 l_J6_266 ?_
  refine P_iand (pc := 14) dJ6_bitCount_0f7a4_14 ?_
  refine P_iload_n (pc := 15) dJ6_bitCount_0f7a4_15 rfl ?_
  refine P_iconst (v := (2 : Int32)) (pc := 16) dJ6_bitCount_0f7a4_16 (by decide) ?_
  refine P_iushr (pc := 17) dJ6_bitCount_0f7a4_17 ?_
  refine P_ldcw (v := (858993459 : Int32)) (pc := 18) dJ6_bitCount_0f7a4_18 l_J6_266 ?_
  refine P_iand (pc := 21) dJ6_bitCount_0f7a4_21 ?_
  refine P_iadd (pc := 22) dJ6_bitCount_0f7a4_22 ?_
  refine P_istore_n (pc := 23) dJ6_bitCount_0f7a4_23 (by decide) (Or.inl rfl) rfl ?_
  refine P_iload_n (pc := 24) dJ6_bitCount_0f7a4_24 rfl ?_
  refine P_iload_n (pc := 25) dJ6_bitCount_0f7a4_25 rfl ?_
  refine P_iconst (v := (4 : Int32)) (pc := 26) dJ6_bitCount_0f7a4_26 (by decide) ?_
  refine P_iushr (pc := 27) dJ6_bitCount_0f7a4_27 ?_
  refine P_iadd (pc := 28) dJ6_bitCount_0f7a4_28 ?_
  refine P_ldcw (v := (252645135 : Int32)) (pc := 29) dJ6_bitCount_0f7a4_29 l_J6_267 ?_
  refine P_iand (pc := 32) dJ6_bitCount_0f7a4_32 ?_
  refine P_istore_n (pc := 33) dJ6_bitCount_0f7a4_33 (by decide) (Or.inl rfl) rfl ?_
  refine P_iload_n (pc := 34) dJ6_bitCount_0f7a4_34 rfl ?_
  refine P_iload_n (pc := 35) dJ6_bitCount_0f7a4_35 rfl ?_
  refine P_bipush (v := (8 : Int32)) (pc := 36) dJ6_bitCount_0f7a4_36 (by decide) ?_
  refine P_iushr (pc := 38) dJ6_bitCount_0f7a4_38 ?_
  refine P_iadd (pc := 39) dJ6_bitCount_0f7a4_39 ?_
  refine P_istore_n (pc := 40) dJ6_bitCount_0f7a4_40 (by decide) (Or.inl rfl) rfl ?_
  refine P_iload_n (pc := 41) dJ6_bitCount_0f7a4_41 rfl ?_
  refine P_iload_n (pc := 42) dJ6_bitCount_0f7a4_42 rfl ?_
  refine P_bipush (v := (16 : Int32)) (pc := 43) dJ6_bitCount_0f7a4_43 (by decide) ?_
  refine P_iushr (pc := 45) dJ6_bitCount_0f7a4_45 ?_
  refine P_iadd (pc := 46) dJ6_bitCount_0f7a4_46 ?_
  refine P_istore_n (pc := 47) dJ6_bitCount_0f7a4_47 (by decide) (Or.inl rfl) rfl ?_
  refine P_iload_n (pc := 48) dJ6_bitCount_0f7a4_48 rfl ?_
  refine P_bipush (v := (63 : Int32)) (pc := 49) dJ6_bitCount_0f7a4_49 (by decide) ?_
  refine P_iand (pc := 51) dJ6_bitCount_0f7a4_51 ?_
  exact R_ireturn (pc := 52) dJ6_bitCount_0f7a4_52 rfl rfl k
-- J9_floorMod_7cf53 floorMod(II)I
theorem dJ9_floorMod_7cf53_0 : decode cJ9_floorMod_7cf53 0 = .ok (.iload_n 0, 1) := by decide +kernel
theorem dJ9_floorMod_7cf53_1 : decode cJ9_floorMod_7cf53 1 = .ok (.iload_n 1, 1) := by decide +kernel
theorem dJ9_floorMod_7cf53_2 : decode cJ9_floorMod_7cf53 2 = .ok (.irem, 1) := by decide +kernel
theorem dJ9_floorMod_7cf53_3 : decode cJ9_floorMod_7cf53 3 = .ok (.istore_n 2, 1) := by decide +kernel
theorem dJ9_floorMod_7cf53_4 : decode cJ9_floorMod_7cf53 4 = .ok (.iload_n 0, 1) := by decide +kernel
theorem dJ9_floorMod_7cf53_5 : decode cJ9_floorMod_7cf53 5 = .ok (.iload_n 1, 1) := by decide +kernel
theorem dJ9_floorMod_7cf53_6 : decode cJ9_floorMod_7cf53 6 = .ok (.ixor, 1) := by decide +kernel
theorem dJ9_floorMod_7cf53_7 : decode cJ9_floorMod_7cf53 7 = .ok (.ifCond .ge 11, 3) := by decide +kernel
theorem dJ9_floorMod_7cf53_10 : decode cJ9_floorMod_7cf53 10 = .ok (.iload_n 2, 1) := by decide +kernel
theorem dJ9_floorMod_7cf53_11 : decode cJ9_floorMod_7cf53 11 = .ok (.ifCond .eq 7, 3) := by decide +kernel
theorem dJ9_floorMod_7cf53_14 : decode cJ9_floorMod_7cf53 14 = .ok (.iload_n 2, 1) := by decide +kernel
theorem dJ9_floorMod_7cf53_15 : decode cJ9_floorMod_7cf53 15 = .ok (.iload_n 1, 1) := by decide +kernel
theorem dJ9_floorMod_7cf53_16 : decode cJ9_floorMod_7cf53 16 = .ok (.iadd, 1) := by decide +kernel
theorem dJ9_floorMod_7cf53_17 : decode cJ9_floorMod_7cf53 17 = .ok (.ireturn, 1) := by decide +kernel
theorem dJ9_floorMod_7cf53_18 : decode cJ9_floorMod_7cf53 18 = .ok (.iload_n 2, 1) := by decide +kernel
theorem dJ9_floorMod_7cf53_19 : decode cJ9_floorMod_7cf53 19 = .ok (.ireturn, 1) := by decide +kernel
theorem r_J9_floorMod_7cf53_0 {d rc rs : Nat} {Q : PO → PH → Prop} {h : PH} {l0 : Int32} {l1 : Int32}
    (k : nz l1 (br ((l0 ^^^ l1) < 0) (br ((l0 - l0 / l1 * l1) = 0) (Q (.inl (some (vI (l0 - l0 / l1 * l1)))) h) (Q (.inl (some (vI ((l0 - l0 / l1 * l1) + l1)))) h)) (Q (.inl (some (vI (l0 - l0 / l1 * l1)))) h))) :
    PW d M_J9_floorMod_7cf53 Q rc rs 0 [vI l0, vI l1, vU] [] h := by
  refine P_iload_n (pc := 0) dJ9_floorMod_7cf53_0 rfl ?_
  refine P_iload_n (pc := 1) dJ9_floorMod_7cf53_1 rfl ?_
  refine P_irem (pc := 2) dJ9_floorMod_7cf53_2 k.1 ?_
  replace k := k.2
  refine P_istore_n (pc := 3) dJ9_floorMod_7cf53_3 (by decide) (Or.inr (by intro z e9; cases e9)) rfl ?_
  refine P_iload_n (pc := 4) dJ9_floorMod_7cf53_4 rfl ?_
  refine P_iload_n (pc := 5) dJ9_floorMod_7cf53_5 rfl ?_
  refine P_ixor (pc := 6) dJ9_floorMod_7cf53_6 ?_
  refine P_if_ge (tgt := 18) (pc := 7) dJ9_floorMod_7cf53_7 (by decide) (fun c => ?_) (fun c => ?_)
  · have k := k.2 (Int32.not_lt.mpr c)
    refine P_iload_n (pc := 18) dJ9_floorMod_7cf53_18 rfl ?_
    exact R_ireturn (pc := 19) dJ9_floorMod_7cf53_19 rfl rfl k
  · have k := k.1 (Int32.not_le.mp c)
    refine P_iload_n (pc := 10) dJ9_floorMod_7cf53_10 rfl ?_
    refine P_if_eq (tgt := 18) (pc := 11) dJ9_floorMod_7cf53_11 (by decide) (fun c => ?_) (fun c => ?_)
    · have k := k.1 c
      refine P_iload_n (pc := 18) dJ9_floorMod_7cf53_18 rfl ?_
      exact R_ireturn (pc := 19) dJ9_floorMod_7cf53_19 rfl rfl k
    · have k := k.2 c
      refine P_iload_n (pc := 14) dJ9_floorMod_7cf53_14 rfl ?_
      refine P_iload_n (pc := 15) dJ9_floorMod_7cf53_15 rfl ?_
      refine P_iadd (pc := 16) dJ9_floorMod_7cf53_16 ?_
      exact R_ireturn (pc := 17) dJ9_floorMod_7cf53_17 rfl rfl k
-- J9_max_7cf53 max(II)I
theorem dJ9_max_7cf53_0 : decode cJ9_max_7cf53 0 = .ok (.iload_n 0, 1) := by decide +kernel
theorem dJ9_max_7cf53_1 : decode cJ9_max_7cf53 1 = .ok (.iload_n 1, 1) := by decide +kernel
theorem dJ9_max_7cf53_2 : decode cJ9_max_7cf53 2 = .ok (.if_icmp .lt 7, 3) := by decide +kernel
theorem dJ9_max_7cf53_5 : decode cJ9_max_7cf53 5 = .ok (.iload_n 0, 1) := by decide +kernel
theorem dJ9_max_7cf53_6 : decode cJ9_max_7cf53 6 = .ok (.goto 4, 3) := by decide +kernel
theorem dJ9_max_7cf53_9 : decode cJ9_max_7cf53 9 = .ok (.iload_n 1, 1) := by decide +kernel
theorem dJ9_max_7cf53_10 : decode cJ9_max_7cf53 10 = .ok (.ireturn, 1) := by decide +kernel
theorem r_J9_max_7cf53_0 {d rc rs : Nat} {Q : PO → PH → Prop} {h : PH} {l0 : Int32} {l1 : Int32}
    (k : br (l0 < l1) (Q (.inl (some (vI l1))) h) (Q (.inl (some (vI l0))) h)) :
    PW d M_J9_max_7cf53 Q rc rs 0 [vI l0, vI l1] [] h := by
  refine P_iload_n (pc := 0) dJ9_max_7cf53_0 rfl ?_
  refine P_iload_n (pc := 1) dJ9_max_7cf53_1 rfl ?_
  refine P_icmp_lt (tgt := 9) (pc := 2) dJ9_max_7cf53_2 (by decide) (fun c => ?_) (fun c => ?_)
  · have k := k.1 c
    refine P_iload_n (pc := 9) dJ9_max_7cf53_9 rfl ?_
    exact R_ireturn (pc := 10) dJ9_max_7cf53_10 rfl rfl k
  · have k := k.2 c
    refine P_iload_n (pc := 5) dJ9_max_7cf53_5 rfl ?_
    refine P_goto (tgt := 10) (pc := 6) dJ9_max_7cf53_6 (by decide) ?_
    exact R_ireturn (pc := 10) dJ9_max_7cf53_10 rfl rfl k
-- J9_min_7cf53 min(II)I
theorem dJ9_min_7cf53_0 : decode cJ9_min_7cf53 0 = .ok (.iload_n 0, 1) := by decide +kernel
theorem dJ9_min_7cf53_1 : decode cJ9_min_7cf53 1 = .ok (.iload_n 1, 1) := by decide +kernel
theorem dJ9_min_7cf53_2 : decode cJ9_min_7cf53 2 = .ok (.if_icmp .gt 7, 3) := by decide +kernel
theorem dJ9_min_7cf53_5 : decode cJ9_min_7cf53 5 = .ok (.iload_n 0, 1) := by decide +kernel
theorem dJ9_min_7cf53_6 : decode cJ9_min_7cf53 6 = .ok (.goto 4, 3) := by decide +kernel
theorem dJ9_min_7cf53_9 : decode cJ9_min_7cf53 9 = .ok (.iload_n 1, 1) := by decide +kernel
theorem dJ9_min_7cf53_10 : decode cJ9_min_7cf53 10 = .ok (.ireturn, 1) := by decide +kernel
theorem r_J9_min_7cf53_0 {d rc rs : Nat} {Q : PO → PH → Prop} {h : PH} {l0 : Int32} {l1 : Int32}
    (k : br (l1 < l0) (Q (.inl (some (vI l1))) h) (Q (.inl (some (vI l0))) h)) :
    PW d M_J9_min_7cf53 Q rc rs 0 [vI l0, vI l1] [] h := by
  refine P_iload_n (pc := 0) dJ9_min_7cf53_0 rfl ?_
  refine P_iload_n (pc := 1) dJ9_min_7cf53_1 rfl ?_
  refine P_icmp_gt (tgt := 9) (pc := 2) dJ9_min_7cf53_2 (by decide) (fun c => ?_) (fun c => ?_)
  · have k := k.1 c
    refine P_iload_n (pc := 9) dJ9_min_7cf53_9 rfl ?_
    exact R_ireturn (pc := 10) dJ9_min_7cf53_10 rfl rfl k
  · have k := k.2 c
    refine P_iload_n (pc := 5) dJ9_min_7cf53_5 rfl ?_
    refine P_goto (tgt := 10) (pc := 6) dJ9_min_7cf53_6 (by decide) ?_
    exact R_ireturn (pc := 10) dJ9_min_7cf53_10 rfl rfl k
-- J0_length_8abf5 length()I
theorem dJ0_length_8abf5_0 : decode cJ0_length_8abf5 0 = .ok (.aload_n 0, 1) := by decide +kernel
theorem dJ0_length_8abf5_1 : decode cJ0_length_8abf5 1 = .ok (.getfield 9, 3) := by decide +kernel
theorem dJ0_length_8abf5_4 : decode cJ0_length_8abf5 4 = .ok (.arraylength, 1) := by decide +kernel
theorem dJ0_length_8abf5_5 : decode cJ0_length_8abf5 5 = .ok (.aload_n 0, 1) := by decide +kernel
theorem dJ0_length_8abf5_6 : decode cJ0_length_8abf5 6 = .ok (.invokevirtual 335, 3) := by decide +kernel
theorem dJ0_length_8abf5_9 : decode cJ0_length_8abf5 9 = .ok (.ishr, 1) := by decide +kernel
theorem dJ0_length_8abf5_10 : decode cJ0_length_8abf5 10 = .ok (.ireturn, 1) := by decide +kernel
theorem r_J0_length_8abf5_0 {d rc rs : Nat} {Q : PO → PH → Prop} {h : PH} {l0 : Nat} (hl0 : l0 < 21)
    (k : cl d rc rs M_J0_coder_7d493 [vR (1200, l0)] h (kI fun x5 h2 rc3 rs4 => Q (.inl (some (vI ((nI (sLen.getD l0 0)) >>> (x5 &&& 31))))) h2) (fun E h2 rc3 rs4 => Q (.inr E) h2)) :
    PW d M_J0_length_8abf5 Q rc rs 0 [vR (1200, l0)] [] h := by
  refine P_aload_n (pc := 0) dJ0_length_8abf5_0 rfl ?_
  refine P_getSv (pc := 1) dJ0_length_8abf5_1 (by assumption) l_J0_9 ?_
  refine P_alenS (pc := 4) dJ0_length_8abf5_4 (by assumption) ?_
  refine P_aload_n (pc := 5) dJ0_length_8abf5_5 rfl ?_
  obtain ⟨d2, nc, ns, rc3, rs4, Qc, g1, rfl, rfl, g2, kk, kx⟩ := k
  refine P_callVS (i := l0) (As := []) (st := [vI (nI (sLen.getD l0 0))]) (pc := 6) dJ0_length_8abf5_6 mk_J0_coder_7d493 l_J0_335 im_J0_coder_7d493 se_J0_coder_7d493 ini_J0 rfl g1 (Nat.le_of_ble_eq_true rfl) rfl (by assumption) rfl g2 (fun v9 h9 q9 => ?_) (fun E h9 q9 => PX_out rfl (kx E h9 q9))
  obtain ⟨x5, rfl, k⟩ := kk v9 h9 q9
  clear kk kx g1 g2 q9
  refine P_ishr (pc := 9) dJ0_length_8abf5_9 ?_
  exact R_ireturn (pc := 10) dJ0_length_8abf5_10 rfl rfl k
-- J0_charAt_5068e charAt(I)C
theorem dJ0_charAt_5068e_0 : decode cJ0_charAt_5068e 0 = .ok (.aload_n 0, 1) := by decide +kernel
theorem dJ0_charAt_5068e_1 : decode cJ0_charAt_5068e 1 = .ok (.invokevirtual 492, 3) := by decide +kernel
theorem dJ0_charAt_5068e_4 : decode cJ0_charAt_5068e 4 = .ok (.ifCond .eq 12, 3) := by decide +kernel
theorem dJ0_charAt_5068e_7 : decode cJ0_charAt_5068e 7 = .ok (.aload_n 0, 1) := by decide +kernel
theorem dJ0_charAt_5068e_8 : decode cJ0_charAt_5068e 8 = .ok (.getfield 9, 3) := by decide +kernel
theorem dJ0_charAt_5068e_11 : decode cJ0_charAt_5068e 11 = .ok (.iload_n 1, 1) := by decide +kernel
theorem dJ0_charAt_5068e_12 : decode cJ0_charAt_5068e 12 = .ok (.invokestatic 495, 3) := by decide +kernel
theorem dJ0_charAt_5068e_15 : decode cJ0_charAt_5068e 15 = .ok (.ireturn, 1) := by decide +kernel
theorem dJ0_charAt_5068e_16 : decode cJ0_charAt_5068e 16 = .ok (.aload_n 0, 1) := by decide +kernel
theorem dJ0_charAt_5068e_17 : decode cJ0_charAt_5068e 17 = .ok (.getfield 9, 3) := by decide +kernel
theorem dJ0_charAt_5068e_20 : decode cJ0_charAt_5068e 20 = .ok (.iload_n 1, 1) := by decide +kernel
theorem dJ0_charAt_5068e_21 : decode cJ0_charAt_5068e 21 = .ok (.invokestatic 498, 3) := by decide +kernel
theorem dJ0_charAt_5068e_24 : decode cJ0_charAt_5068e 24 = .ok (.ireturn, 1) := by decide +kernel
theorem r_J0_charAt_5068e_0 {d rc rs : Nat} {Q : PO → PH → Prop} {h : PH} {l0 : Nat} {l1 : Int32} (hl0 : l0 < 21)
    (k : cl d rc rs M_J0_isLatin1_aae02 [vR (1200, l0)] h (kI fun x4 h1 rc2 rs3 => br (x4 = 0) (cl d rc2 rs3 M_J2_charAt_3b067 [vR (1202, l0), vI l1] h1 (kI fun x8 h5 rc6 rs7 => nrw .char x8 (Q (.inl (some (vI x8))) h5)) (fun E h5 rc6 rs7 => Q (.inr E) h5)) (cl d rc2 rs3 M_J1_charAt_3b067 [vR (1202, l0), vI l1] h1 (kI fun x12 h9 rc10 rs11 => nrw .char x12 (Q (.inl (some (vI x12))) h9)) (fun E h9 rc10 rs11 => Q (.inr E) h9))) (fun E h1 rc2 rs3 => Q (.inr E) h1)) :
    PW d M_J0_charAt_5068e Q rc rs 0 [vR (1200, l0), vI l1] [] h := by
  refine P_aload_n (pc := 0) dJ0_charAt_5068e_0 rfl ?_
  obtain ⟨d2, nc, ns, rc2, rs3, Qc, g1, rfl, rfl, g2, kk, kx⟩ := k
  refine P_callVS (i := l0) (As := []) (st := []) (pc := 1) dJ0_charAt_5068e_1 mk_J0_isLatin1_aae02 l_J0_492 im_J0_isLatin1_aae02 se_J0_isLatin1_aae02 ini_J0 rfl g1 (Nat.le_of_ble_eq_true rfl) rfl (by assumption) rfl g2 (fun v9 h9 q9 => ?_) (fun E h9 q9 => PX_out rfl (kx E h9 q9))
  obtain ⟨x4, rfl, k⟩ := kk v9 h9 q9
  clear kk kx g1 g2 q9
  refine P_if_eq (tgt := 16) (pc := 4) dJ0_charAt_5068e_4 (by decide) (fun c => ?_) (fun c => ?_)
  · have k := k.1 c
    refine P_aload_n (pc := 16) dJ0_charAt_5068e_16 rfl ?_
    refine P_getSv (pc := 17) dJ0_charAt_5068e_17 (by assumption) l_J0_9 ?_
    refine P_iload_n (pc := 20) dJ0_charAt_5068e_20 rfl ?_
    obtain ⟨d2, nc, ns, rc6, rs7, Qc, g1, rfl, rfl, g2, kk, kx⟩ := k
    refine P_callS (As := [vR (1202, l0), vI l1]) (st := []) (pc := 21) dJ0_charAt_5068e_21 mk_J2_charAt_3b067 l_J0_498 st_J2_charAt_3b067 ini_J2 rfl g1 (Nat.le_of_ble_eq_true rfl) rfl g2 (fun v9 h9 q9 => ?_) (fun E h9 q9 => PX_out rfl (kx E h9 q9))
    obtain ⟨x8, rfl, k⟩ := kk v9 h9 q9
    clear kk kx g1 g2 q9
    exact R_ireturn (pc := 24) dJ0_charAt_5068e_24 rfl k.1 k.2
  · have k := k.2 c
    refine P_aload_n (pc := 7) dJ0_charAt_5068e_7 rfl ?_
    refine P_getSv (pc := 8) dJ0_charAt_5068e_8 (by assumption) l_J0_9 ?_
    refine P_iload_n (pc := 11) dJ0_charAt_5068e_11 rfl ?_
    obtain ⟨d2, nc, ns, rc10, rs11, Qc, g1, rfl, rfl, g2, kk, kx⟩ := k
    refine P_callS (As := [vR (1202, l0), vI l1]) (st := []) (pc := 12) dJ0_charAt_5068e_12 mk_J1_charAt_3b067 l_J0_495 st_J1_charAt_3b067 ini_J1 rfl g1 (Nat.le_of_ble_eq_true rfl) rfl g2 (fun v9 h9 q9 => ?_) (fun E h9 q9 => PX_out rfl (kx E h9 q9))
    obtain ⟨x12, rfl, k⟩ := kk v9 h9 q9
    clear kk kx g1 g2 q9
    exact R_ireturn (pc := 15) dJ0_charAt_5068e_15 rfl k.1 k.2
-- J0_coder_7d493 coder()B
theorem dJ0_coder_7d493_0 : decode cJ0_coder_7d493 0 = .ok (.getstatic 38, 3) := by decide +kernel
theorem dJ0_coder_7d493_3 : decode cJ0_coder_7d493 3 = .ok (.ifCond .eq 10, 3) := by decide +kernel
theorem dJ0_coder_7d493_6 : decode cJ0_coder_7d493 6 = .ok (.aload_n 0, 1) := by decide +kernel
theorem dJ0_coder_7d493_7 : decode cJ0_coder_7d493 7 = .ok (.getfield 15, 3) := by decide +kernel
theorem dJ0_coder_7d493_10 : decode cJ0_coder_7d493 10 = .ok (.goto 4, 3) := by decide +kernel
theorem dJ0_coder_7d493_13 : decode cJ0_coder_7d493 13 = .ok (.iconst 1, 1) := by decide +kernel
theorem dJ0_coder_7d493_14 : decode cJ0_coder_7d493 14 = .ok (.ireturn, 1) := by decide +kernel
theorem r_J0_coder_7d493_0 {d rc rs : Nat} {Q : PO → PH → Prop} {h : PH} {l0 : Nat} (hl0 : l0 < 21)
    (k : br ((1 : Int32) = 0) (Q (.inl (some (vI (1 : Int32)))) h) (Q (.inl (some (vI (0 : Int32)))) h)) :
    PW d M_J0_coder_7d493 Q rc rs 0 [vR (1200, l0)] [] h := by
  refine P_getsC (pc := 0) dJ0_coder_7d493_0 l_J0_38 ?_
  refine P_if_eq (tgt := 13) (pc := 3) dJ0_coder_7d493_3 (by decide) (fun c => ?_) (fun c => ?_)
  · have k := k.1 c
    refine P_iconst (v := (1 : Int32)) (pc := 13) dJ0_coder_7d493_13 (by decide) ?_
    exact R_ireturn (pc := 14) dJ0_coder_7d493_14 rfl rfl k
  · have k := k.2 c
    refine P_aload_n (pc := 6) dJ0_coder_7d493_6 rfl ?_
    refine P_getSc (pc := 7) dJ0_coder_7d493_7 (by assumption) l_J0_15 ?_
    refine P_goto (tgt := 14) (pc := 10) dJ0_coder_7d493_10 (by decide) ?_
    exact R_ireturn (pc := 14) dJ0_coder_7d493_14 rfl rfl k
-- J0_isLatin1_aae02 isLatin1()Z
theorem dJ0_isLatin1_aae02_0 : decode cJ0_isLatin1_aae02 0 = .ok (.getstatic 38, 3) := by decide +kernel
theorem dJ0_isLatin1_aae02_3 : decode cJ0_isLatin1_aae02 3 = .ok (.ifCond .eq 14, 3) := by decide +kernel
theorem dJ0_isLatin1_aae02_6 : decode cJ0_isLatin1_aae02 6 = .ok (.aload_n 0, 1) := by decide +kernel
theorem dJ0_isLatin1_aae02_7 : decode cJ0_isLatin1_aae02 7 = .ok (.getfield 15, 3) := by decide +kernel
theorem dJ0_isLatin1_aae02_10 : decode cJ0_isLatin1_aae02 10 = .ok (.ifCond .ne 7, 3) := by decide +kernel
theorem dJ0_isLatin1_aae02_13 : decode cJ0_isLatin1_aae02 13 = .ok (.iconst 1, 1) := by decide +kernel
theorem dJ0_isLatin1_aae02_14 : decode cJ0_isLatin1_aae02 14 = .ok (.goto 4, 3) := by decide +kernel
theorem dJ0_isLatin1_aae02_17 : decode cJ0_isLatin1_aae02 17 = .ok (.iconst 0, 1) := by decide +kernel
theorem dJ0_isLatin1_aae02_18 : decode cJ0_isLatin1_aae02 18 = .ok (.ireturn, 1) := by decide +kernel
theorem r_J0_isLatin1_aae02_0 {d rc rs : Nat} {Q : PO → PH → Prop} {h : PH} {l0 : Nat} (hl0 : l0 < 21)
    (k : br ((1 : Int32) = 0) (Q (.inl (some (vI (0 : Int32)))) h) (br ((0 : Int32) = 0) (Q (.inl (some (vI (1 : Int32)))) h) (Q (.inl (some (vI (0 : Int32)))) h))) :
    PW d M_J0_isLatin1_aae02 Q rc rs 0 [vR (1200, l0)] [] h := by
  refine P_getsC (pc := 0) dJ0_isLatin1_aae02_0 l_J0_38 ?_
  refine P_if_eq (tgt := 17) (pc := 3) dJ0_isLatin1_aae02_3 (by decide) (fun c => ?_) (fun c => ?_)
  · have k := k.1 c
    refine P_iconst (v := (0 : Int32)) (pc := 17) dJ0_isLatin1_aae02_17 (by decide) ?_
    exact R_ireturn (pc := 18) dJ0_isLatin1_aae02_18 rfl rfl k
  · have k := k.2 c
    refine P_aload_n (pc := 6) dJ0_isLatin1_aae02_6 rfl ?_
    refine P_getSc (pc := 7) dJ0_isLatin1_aae02_7 (by assumption) l_J0_15 ?_
    refine P_if_ne (tgt := 17) (pc := 10) dJ0_isLatin1_aae02_10 (by decide) (fun c => ?_) (fun c => ?_)
    · have k := k.2 c
      refine P_iconst (v := (0 : Int32)) (pc := 17) dJ0_isLatin1_aae02_17 (by decide) ?_
      exact R_ireturn (pc := 18) dJ0_isLatin1_aae02_18 rfl rfl k
    · have k := k.1 c
      refine P_iconst (v := (1 : Int32)) (pc := 13) dJ0_isLatin1_aae02_13 (by decide) ?_
      refine P_goto (tgt := 18) (pc := 14) dJ0_isLatin1_aae02_14 (by decide) ?_
      exact R_ireturn (pc := 18) dJ0_isLatin1_aae02_18 rfl rfl k
-- J1_charAt_3b067 charAt([BI)C
theorem dJ1_charAt_3b067_0 : decode cJ1_charAt_3b067 0 = .ok (.iload_n 1, 1) := by decide +kernel
theorem dJ1_charAt_3b067_1 : decode cJ1_charAt_3b067 1 = .ok (.aload_n 0, 1) := by decide +kernel
theorem dJ1_charAt_3b067_2 : decode cJ1_charAt_3b067 2 = .ok (.arraylength, 1) := by decide +kernel
theorem dJ1_charAt_3b067_3 : decode cJ1_charAt_3b067 3 = .ok (.invokestatic 9, 3) := by decide +kernel
theorem dJ1_charAt_3b067_6 : decode cJ1_charAt_3b067 6 = .ok (.aload_n 0, 1) := by decide +kernel
theorem dJ1_charAt_3b067_7 : decode cJ1_charAt_3b067 7 = .ok (.iload_n 1, 1) := by decide +kernel
theorem dJ1_charAt_3b067_8 : decode cJ1_charAt_3b067 8 = .ok (.baload, 1) := by decide +kernel
theorem dJ1_charAt_3b067_9 : decode cJ1_charAt_3b067 9 = .ok (.sipush 255, 3) := by decide +kernel
theorem dJ1_charAt_3b067_12 : decode cJ1_charAt_3b067 12 = .ok (.iand, 1) := by decide +kernel
theorem dJ1_charAt_3b067_13 : decode cJ1_charAt_3b067 13 = .ok (.i2c, 1) := by decide +kernel
theorem dJ1_charAt_3b067_14 : decode cJ1_charAt_3b067 14 = .ok (.ireturn, 1) := by decide +kernel
theorem r_J1_charAt_3b067_0 {d rc rs : Nat} {Q : PO → PH → Prop} {h : PH} {l0 : Nat} {l1 : Int32} (hl0 : l0 < 21)
    (k : cl d rc rs M_J0_checkIndex_df160 [vI l1, vI (nI (sLen.getD l0 0))] h (kV fun h2 rc3 rs4 => vp_in l1 (sLen.getD l0 0) ∧ nrw .char (((((sByt.getD l0 []).getD (l1).toNatClampNeg 0) &&& (255 : Int32)).toUInt32 % 65536).toInt32) (Q (.inl (some (vI (((((sByt.getD l0 []).getD (l1).toNatClampNeg 0) &&& (255 : Int32)).toUInt32 % 65536).toInt32)))) h2)) (fun E h2 rc3 rs4 => Q (.inr E) h2)) :
    PW d M_J1_charAt_3b067 Q rc rs 0 [vR (1202, l0), vI l1] [] h := by
  refine P_iload_n (pc := 0) dJ1_charAt_3b067_0 rfl ?_
  refine P_aload_n (pc := 1) dJ1_charAt_3b067_1 rfl ?_
  refine P_alenS (pc := 2) dJ1_charAt_3b067_2 (by assumption) ?_
  obtain ⟨d2, nc, ns, rc3, rs4, Qc, g1, rfl, rfl, g2, kk, kx⟩ := k
  refine P_callS (As := [vI l1, vI (nI (sLen.getD l0 0))]) (st := []) (pc := 3) dJ1_charAt_3b067_3 mk_J0_checkIndex_df160 l_J1_9 st_J0_checkIndex_df160 ini_J0 rfl g1 (Nat.le_of_ble_eq_true rfl) rfl g2 (fun v9 h9 q9 => ?_) (fun E h9 q9 => PX_out rfl (kx E h9 q9))
  obtain ⟨rfl, k⟩ := kk v9 h9 q9
  clear kk kx g1 g2 q9
  refine P_aload_n (pc := 6) dJ1_charAt_3b067_6 rfl ?_
  refine P_iload_n (pc := 7) dJ1_charAt_3b067_7 rfl ?_
  refine P_baldS (pc := 8) dJ1_charAt_3b067_8 (by assumption) k.1 ?_
  replace k := k.2
  refine P_sipush (v := (255 : Int32)) (pc := 9) dJ1_charAt_3b067_9 (by decide) ?_
  refine P_iand (pc := 12) dJ1_charAt_3b067_12 ?_
  refine P_i2c (pc := 13) dJ1_charAt_3b067_13 ?_
  exact R_ireturn (pc := 14) dJ1_charAt_3b067_14 rfl k.1 k.2
-- J7_fill_53178 fill([II)V
theorem dJ7_fill_53178_0 : decode cJ7_fill_53178 0 = .ok (.iconst 0, 1) := by decide +kernel
theorem dJ7_fill_53178_1 : decode cJ7_fill_53178 1 = .ok (.istore_n 2, 1) := by decide +kernel
theorem dJ7_fill_53178_2 : decode cJ7_fill_53178 2 = .ok (.aload_n 0, 1) := by decide +kernel
theorem dJ7_fill_53178_3 : decode cJ7_fill_53178 3 = .ok (.arraylength, 1) := by decide +kernel
theorem dJ7_fill_53178_4 : decode cJ7_fill_53178 4 = .ok (.istore_n 3, 1) := by decide +kernel
theorem dJ7_fill_53178_5 : decode cJ7_fill_53178 5 = .ok (.iload_n 2, 1) := by decide +kernel
theorem dJ7_fill_53178_6 : decode cJ7_fill_53178 6 = .ok (.iload_n 3, 1) := by decide +kernel
theorem dJ7_fill_53178_7 : decode cJ7_fill_53178 7 = .ok (.if_icmp .ge 13, 3) := by decide +kernel
theorem dJ7_fill_53178_10 : decode cJ7_fill_53178 10 = .ok (.aload_n 0, 1) := by decide +kernel
theorem dJ7_fill_53178_11 : decode cJ7_fill_53178 11 = .ok (.iload_n 2, 1) := by decide +kernel
theorem dJ7_fill_53178_12 : decode cJ7_fill_53178 12 = .ok (.iload_n 1, 1) := by decide +kernel
theorem dJ7_fill_53178_13 : decode cJ7_fill_53178 13 = .ok (.iastore, 1) := by decide +kernel
theorem dJ7_fill_53178_14 : decode cJ7_fill_53178 14 = .ok (.iinc 2 1, 3) := by decide +kernel
theorem dJ7_fill_53178_17 : decode cJ7_fill_53178 17 = .ok (.goto (-12), 3) := by decide +kernel
theorem dJ7_fill_53178_20 : decode cJ7_fill_53178 20 = .ok (.return_, 1) := by decide +kernel
theorem r_J7_fill_53178_0 {d rc rs : Nat} {Q : PO → PH → Prop} {h : PH} {l0 : LA} {l1 : Int32}
    (k : lnA h l0 fun x1 => PW d M_J7_fill_53178 Q rc rs 5 [vR l0, vI l1, vI (0 : Int32), vI x1] [] h) :
    PW d M_J7_fill_53178 Q rc rs 0 [vR l0, vI l1, vU, vU] [] h := by
  refine P_iconst (v := (0 : Int32)) (pc := 0) dJ7_fill_53178_0 (by decide) ?_
  refine P_istore_n (pc := 1) dJ7_fill_53178_1 (by decide) (Or.inr (by intro z e9; cases e9)) rfl ?_
  refine P_aload_n (pc := 2) dJ7_fill_53178_2 rfl ?_
  obtain ⟨kd9, n9, g9, i9, e9, k⟩ := k
  refine P_alen (pc := 3) dJ7_fill_53178_3 i9 e9 ?_
  clear e9
  generalize nI n9 = x1 at k ⊢
  refine P_istore_n (pc := 4) dJ7_fill_53178_4 (by decide) (Or.inr (by intro z e9; cases e9)) rfl ?_
  exact k
theorem r_J7_fill_53178_5 {d rc rs : Nat} {Q : PO → PH → Prop} {h : PH} {l0 : LA} {l1 : Int32} {l2 : Int32} {l3 : Int32}
    (k : br (l2 < l3) (yI h l0 l2 l1 fun h1 => PW d M_J7_fill_53178 Q rc rs 5 [vR l0, vI l1, vI (l2 + (1 : Int32)), vI l3] [] h1) (Q (.inl none) h)) :
    PW d M_J7_fill_53178 Q rc rs 5 [vR l0, vI l1, vI l2, vI l3] [] h := by
  refine P_iload_n (pc := 5) dJ7_fill_53178_5 rfl ?_
  refine P_iload_n (pc := 6) dJ7_fill_53178_6 rfl ?_
  refine P_icmp_ge (tgt := 20) (pc := 7) dJ7_fill_53178_7 (by decide) (fun c => ?_) (fun c => ?_)
  · have k := k.2 (Int32.not_lt.mpr c)
    exact R_return (pc := 20) dJ7_fill_53178_20 rfl k
  · have k := k.1 (Int32.not_le.mp c)
    refine P_aload_n (pc := 10) dJ7_fill_53178_10 rfl ?_
    refine P_iload_n (pc := 11) dJ7_fill_53178_11 rfl ?_
    refine P_iload_n (pc := 12) dJ7_fill_53178_12 rfl ?_
    obtain ⟨n9, f9, e9, i9, k⟩ := k
    refine P_iast (pc := 13) dJ7_fill_53178_13 e9 i9 ?_
    clear e9
    refine P_iinc (v := l2 + (1 : Int32)) (pc := 14) dJ7_fill_53178_14 (by decide) rfl rfl (Or.inr (by intro z e9; cases e9)) rfl ?_
    refine P_goto (tgt := 5) (pc := 17) dJ7_fill_53178_17 (by decide) ?_
    exact k
