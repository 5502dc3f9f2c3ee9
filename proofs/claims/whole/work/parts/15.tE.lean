-- L_court court(LFernHeirs;I[J)I
theorem dL_court_0 : decode cL_court 0 = .ok (.aload_n 2, 1) := by decide +kernel
theorem dL_court_1 : decode cL_court 1 = .ok (.iconst 0, 1) := by decide +kernel
theorem dL_court_2 : decode cL_court 2 = .ok (.aload_n 0, 1) := by decide +kernel
theorem dL_court_3 : decode cL_court 3 = .ok (.iload_n 1, 1) := by decide +kernel
theorem dL_court_4 : decode cL_court 4 = .ok (.invokevirtual 7, 3) := by decide +kernel
theorem dL_court_7 : decode cL_court 7 = .ok (.i2l, 1) := by decide +kernel
theorem dL_court_8 : decode cL_court 8 = .ok (.lastore, 1) := by decide +kernel
theorem dL_court_9 : decode cL_court 9 = .ok (.goto 6, 3) := by decide +kernel
theorem dL_court_12 : decode cL_court 12 = .ok (.astore_n 3, 1) := by decide +kernel
theorem dL_court_15 : decode cL_court 15 = .ok (.iconst 0, 1) := by decide +kernel
theorem dL_court_16 : decode cL_court 16 = .ok (.ireturn, 1) := by decide +kernel
theorem r_L_court_0 {d rc rs : Nat} {Q : PO → PH → Prop} {h : PH} {l0 : Nat} {l1 : Int32} {l2 : LA}
    (k : isO h 10900 l0 ∧ cl d rc rs M_X9_court [vR (900, l0), vI l1] h (kI fun x4 h1 rc2 rs3 => yL h1 l2 (0 : Int32) (x4.toInt64) fun h5 => Q (.inl (some (vI (0 : Int32)))) h5) (fun E h1 rc2 rs3 => PX d M_L_court Q rc2 rs3 4 [vR (900, l0), vI l1, vR l2, vU] h1 E)) :
    PW d M_L_court Q rc rs 0 [vR (900, l0), vI l1, vR l2, vU] [] h := by
  refine P_aload_n (pc := 0) dL_court_0 rfl ?_
  refine P_iconst (v := (0 : Int32)) (pc := 1) dL_court_1 (by decide) ?_
  refine P_aload_n (pc := 2) dL_court_2 rfl ?_
  refine P_iload_n (pc := 3) dL_court_3 rfl ?_
  obtain ⟨⟨w9, e9⟩, d2, nc, ns, rc2, rs3, Qc, g1, rfl, rfl, g2, kk, kx⟩ := k
  refine P_callV (ci := 9) (k := 0) (id := l0) (q := (RX9, TX9, 18)) (As := [vI l1]) (st := [vI (0 : Int32), vR l2]) (pc := 4) dL_court_4 mk_X9_court l_L_7 im_X9_court se_X9_court ini_X9 rfl g1 (Nat.le_of_ble_eq_true rfl) rfl rfl (by decide) e9 rfl g2 (fun v9 h9 q9 => ?_) (fun E h9 q9 => kx E h9 q9)
  obtain ⟨x4, rfl, k⟩ := kk v9 h9 q9
  clear kk kx g1 g2 q9
  refine P_i2l (pc := 7) dL_court_7 ?_
  obtain ⟨n9, f9, e9, i9, k⟩ := k
  refine P_last (pc := 8) dL_court_8 e9 i9 ?_
  clear e9
  refine P_goto (tgt := 15) (pc := 9) dL_court_9 (by decide) ?_
  refine P_iconst (v := (0 : Int32)) (pc := 15) dL_court_15 (by decide) ?_
  exact R_ireturn (pc := 16) dL_court_16 rfl rfl k
-- L_law law(LFernHeirs;I[J)I
theorem dL_law_0 : decode cL_law 0 = .ok (.aload_n 2, 1) := by decide +kernel
theorem dL_law_1 : decode cL_law 1 = .ok (.iconst 0, 1) := by decide +kernel
theorem dL_law_2 : decode cL_law 2 = .ok (.aload_n 0, 1) := by decide +kernel
theorem dL_law_3 : decode cL_law 3 = .ok (.iload_n 1, 1) := by decide +kernel
theorem dL_law_4 : decode cL_law 4 = .ok (.invokevirtual 15, 3) := by decide +kernel
theorem dL_law_7 : decode cL_law 7 = .ok (.i2l, 1) := by decide +kernel
theorem dL_law_8 : decode cL_law 8 = .ok (.lastore, 1) := by decide +kernel
theorem dL_law_9 : decode cL_law 9 = .ok (.goto 6, 3) := by decide +kernel
theorem dL_law_12 : decode cL_law 12 = .ok (.astore_n 3, 1) := by decide +kernel
theorem dL_law_15 : decode cL_law 15 = .ok (.iconst 0, 1) := by decide +kernel
theorem dL_law_16 : decode cL_law 16 = .ok (.ireturn, 1) := by decide +kernel
theorem r_L_law_0 {d rc rs : Nat} {Q : PO → PH → Prop} {h : PH} {l0 : Nat} {l1 : Int32} {l2 : LA}
    (k : isO h 10900 l0 ∧ cl d rc rs M_X9_law [vR (900, l0), vI l1] h (kI fun x4 h1 rc2 rs3 => yL h1 l2 (0 : Int32) (x4.toInt64) fun h5 => Q (.inl (some (vI (0 : Int32)))) h5) (fun E h1 rc2 rs3 => PX d M_L_law Q rc2 rs3 4 [vR (900, l0), vI l1, vR l2, vU] h1 E)) :
    PW d M_L_law Q rc rs 0 [vR (900, l0), vI l1, vR l2, vU] [] h := by
  refine P_aload_n (pc := 0) dL_law_0 rfl ?_
  refine P_iconst (v := (0 : Int32)) (pc := 1) dL_law_1 (by decide) ?_
  refine P_aload_n (pc := 2) dL_law_2 rfl ?_
  refine P_iload_n (pc := 3) dL_law_3 rfl ?_
  obtain ⟨⟨w9, e9⟩, d2, nc, ns, rc2, rs3, Qc, g1, rfl, rfl, g2, kk, kx⟩ := k
  refine P_callV (ci := 9) (k := 0) (id := l0) (q := (RX9, TX9, 18)) (As := [vI l1]) (st := [vI (0 : Int32), vR l2]) (pc := 4) dL_law_4 mk_X9_law l_L_15 im_X9_law se_X9_law ini_X9 rfl g1 (Nat.le_of_ble_eq_true rfl) rfl rfl (by decide) e9 rfl g2 (fun v9 h9 q9 => ?_) (fun E h9 q9 => kx E h9 q9)
  obtain ⟨x4, rfl, k⟩ := kk v9 h9 q9
  clear kk kx g1 g2 q9
  refine P_i2l (pc := 7) dL_law_7 ?_
  obtain ⟨n9, f9, e9, i9, k⟩ := k
  refine P_last (pc := 8) dL_law_8 e9 i9 ?_
  clear e9
  refine P_goto (tgt := 15) (pc := 9) dL_law_9 (by decide) ?_
  refine P_iconst (v := (0 : Int32)) (pc := 15) dL_law_15 (by decide) ?_
  exact R_ireturn (pc := 16) dL_law_16 rfl rfl k
-- L_work work(LFernHeirs;I[J)I
theorem dL_work_0 : decode cL_work 0 = .ok (.aload_n 2, 1) := by decide +kernel
theorem dL_work_1 : decode cL_work 1 = .ok (.iconst 0, 1) := by decide +kernel
theorem dL_work_2 : decode cL_work 2 = .ok (.aload_n 0, 1) := by decide +kernel
theorem dL_work_3 : decode cL_work 3 = .ok (.iload_n 1, 1) := by decide +kernel
theorem dL_work_4 : decode cL_work 4 = .ok (.invokevirtual 18, 3) := by decide +kernel
theorem dL_work_7 : decode cL_work 7 = .ok (.i2l, 1) := by decide +kernel
theorem dL_work_8 : decode cL_work 8 = .ok (.lastore, 1) := by decide +kernel
theorem dL_work_9 : decode cL_work 9 = .ok (.goto 6, 3) := by decide +kernel
theorem dL_work_12 : decode cL_work 12 = .ok (.astore_n 3, 1) := by decide +kernel
theorem dL_work_15 : decode cL_work 15 = .ok (.iconst 0, 1) := by decide +kernel
theorem dL_work_16 : decode cL_work 16 = .ok (.ireturn, 1) := by decide +kernel
theorem r_L_work_0 {d rc rs : Nat} {Q : PO → PH → Prop} {h : PH} {l0 : Nat} {l1 : Int32} {l2 : LA}
    (k : isO h 10900 l0 ∧ cl d rc rs M_X9_work [vR (900, l0), vI l1] h (kI fun x4 h1 rc2 rs3 => yL h1 l2 (0 : Int32) (x4.toInt64) fun h5 => Q (.inl (some (vI (0 : Int32)))) h5) (fun E h1 rc2 rs3 => PX d M_L_work Q rc2 rs3 4 [vR (900, l0), vI l1, vR l2, vU] h1 E)) :
    PW d M_L_work Q rc rs 0 [vR (900, l0), vI l1, vR l2, vU] [] h := by
  refine P_aload_n (pc := 0) dL_work_0 rfl ?_
  refine P_iconst (v := (0 : Int32)) (pc := 1) dL_work_1 (by decide) ?_
  refine P_aload_n (pc := 2) dL_work_2 rfl ?_
  refine P_iload_n (pc := 3) dL_work_3 rfl ?_
  obtain ⟨⟨w9, e9⟩, d2, nc, ns, rc2, rs3, Qc, g1, rfl, rfl, g2, kk, kx⟩ := k
  refine P_callV (ci := 9) (k := 0) (id := l0) (q := (RX9, TX9, 18)) (As := [vI l1]) (st := [vI (0 : Int32), vR l2]) (pc := 4) dL_work_4 mk_X9_work l_L_18 im_X9_work se_X9_work ini_X9 rfl g1 (Nat.le_of_ble_eq_true rfl) rfl rfl (by decide) e9 rfl g2 (fun v9 h9 q9 => ?_) (fun E h9 q9 => kx E h9 q9)
  obtain ⟨x4, rfl, k⟩ := kk v9 h9 q9
  clear kk kx g1 g2 q9
  refine P_i2l (pc := 7) dL_work_7 ?_
  obtain ⟨n9, f9, e9, i9, k⟩ := k
  refine P_last (pc := 8) dL_work_8 e9 i9 ?_
  clear e9
  refine P_goto (tgt := 15) (pc := 9) dL_work_9 (by decide) ?_
  refine P_iconst (v := (0 : Int32)) (pc := 15) dL_work_15 (by decide) ?_
  exact R_ireturn (pc := 16) dL_work_16 rfl rfl k
-- L_book book(LFernHeirs;I[J)I
theorem dL_book_0 : decode cL_book 0 = .ok (.aload_n 2, 1) := by decide +kernel
theorem dL_book_1 : decode cL_book 1 = .ok (.iconst 0, 1) := by decide +kernel
theorem dL_book_2 : decode cL_book 2 = .ok (.aload_n 0, 1) := by decide +kernel
theorem dL_book_3 : decode cL_book 3 = .ok (.iload_n 1, 1) := by decide +kernel
theorem dL_book_4 : decode cL_book 4 = .ok (.invokevirtual 21, 3) := by decide +kernel
theorem dL_book_7 : decode cL_book 7 = .ok (.i2l, 1) := by decide +kernel
theorem dL_book_8 : decode cL_book 8 = .ok (.lastore, 1) := by decide +kernel
theorem dL_book_9 : decode cL_book 9 = .ok (.goto 6, 3) := by decide +kernel
theorem dL_book_12 : decode cL_book 12 = .ok (.astore_n 3, 1) := by decide +kernel
theorem dL_book_15 : decode cL_book 15 = .ok (.iconst 0, 1) := by decide +kernel
theorem dL_book_16 : decode cL_book 16 = .ok (.ireturn, 1) := by decide +kernel
theorem r_L_book_0 {d rc rs : Nat} {Q : PO → PH → Prop} {h : PH} {l0 : Nat} {l1 : Int32} {l2 : LA}
    (k : isO h 10900 l0 ∧ cl d rc rs M_X9_book [vR (900, l0), vI l1] h (kI fun x4 h1 rc2 rs3 => yL h1 l2 (0 : Int32) (x4.toInt64) fun h5 => Q (.inl (some (vI (0 : Int32)))) h5) (fun E h1 rc2 rs3 => PX d M_L_book Q rc2 rs3 4 [vR (900, l0), vI l1, vR l2, vU] h1 E)) :
    PW d M_L_book Q rc rs 0 [vR (900, l0), vI l1, vR l2, vU] [] h := by
  refine P_aload_n (pc := 0) dL_book_0 rfl ?_
  refine P_iconst (v := (0 : Int32)) (pc := 1) dL_book_1 (by decide) ?_
  refine P_aload_n (pc := 2) dL_book_2 rfl ?_
  refine P_iload_n (pc := 3) dL_book_3 rfl ?_
  obtain ⟨⟨w9, e9⟩, d2, nc, ns, rc2, rs3, Qc, g1, rfl, rfl, g2, kk, kx⟩ := k
  refine P_callV (ci := 9) (k := 0) (id := l0) (q := (RX9, TX9, 18)) (As := [vI l1]) (st := [vI (0 : Int32), vR l2]) (pc := 4) dL_book_4 mk_X9_book l_L_21 im_X9_book se_X9_book ini_X9 rfl g1 (Nat.le_of_ble_eq_true rfl) rfl rfl (by decide) e9 rfl g2 (fun v9 h9 q9 => ?_) (fun E h9 q9 => kx E h9 q9)
  obtain ⟨x4, rfl, k⟩ := kk v9 h9 q9
  clear kk kx g1 g2 q9
  refine P_i2l (pc := 7) dL_book_7 ?_
  obtain ⟨n9, f9, e9, i9, k⟩ := k
  refine P_last (pc := 8) dL_book_8 e9 i9 ?_
  clear e9
  refine P_goto (tgt := 15) (pc := 9) dL_book_9 (by decide) ?_
  refine P_iconst (v := (0 : Int32)) (pc := 15) dL_book_15 (by decide) ?_
  exact R_ireturn (pc := 16) dL_book_16 rfl rfl k
-- L_told told(LFernHeirs;I[J)I
theorem dL_told_0 : decode cL_told 0 = .ok (.aload_n 2, 1) := by decide +kernel
theorem dL_told_1 : decode cL_told 1 = .ok (.iconst 0, 1) := by decide +kernel
theorem dL_told_2 : decode cL_told 2 = .ok (.aload_n 0, 1) := by decide +kernel
theorem dL_told_3 : decode cL_told 3 = .ok (.iload_n 1, 1) := by decide +kernel
theorem dL_told_4 : decode cL_told 4 = .ok (.invokevirtual 24, 3) := by decide +kernel
theorem dL_told_7 : decode cL_told 7 = .ok (.i2l, 1) := by decide +kernel
theorem dL_told_8 : decode cL_told 8 = .ok (.lastore, 1) := by decide +kernel
theorem dL_told_9 : decode cL_told 9 = .ok (.goto 6, 3) := by decide +kernel
theorem dL_told_12 : decode cL_told 12 = .ok (.astore_n 3, 1) := by decide +kernel
theorem dL_told_15 : decode cL_told 15 = .ok (.iconst 0, 1) := by decide +kernel
theorem dL_told_16 : decode cL_told 16 = .ok (.ireturn, 1) := by decide +kernel
theorem r_L_told_0 {d rc rs : Nat} {Q : PO → PH → Prop} {h : PH} {l0 : Nat} {l1 : Int32} {l2 : LA}
    (k : isO h 10900 l0 ∧ cl d rc rs M_X9_told [vR (900, l0), vI l1] h (kI fun x4 h1 rc2 rs3 => yL h1 l2 (0 : Int32) (x4.toInt64) fun h5 => Q (.inl (some (vI (0 : Int32)))) h5) (fun E h1 rc2 rs3 => PX d M_L_told Q rc2 rs3 4 [vR (900, l0), vI l1, vR l2, vU] h1 E)) :
    PW d M_L_told Q rc rs 0 [vR (900, l0), vI l1, vR l2, vU] [] h := by
  refine P_aload_n (pc := 0) dL_told_0 rfl ?_
  refine P_iconst (v := (0 : Int32)) (pc := 1) dL_told_1 (by decide) ?_
  refine P_aload_n (pc := 2) dL_told_2 rfl ?_
  refine P_iload_n (pc := 3) dL_told_3 rfl ?_
  obtain ⟨⟨w9, e9⟩, d2, nc, ns, rc2, rs3, Qc, g1, rfl, rfl, g2, kk, kx⟩ := k
  refine P_callV (ci := 9) (k := 0) (id := l0) (q := (RX9, TX9, 18)) (As := [vI l1]) (st := [vI (0 : Int32), vR l2]) (pc := 4) dL_told_4 mk_X9_told l_L_24 im_X9_told se_X9_told ini_X9 rfl g1 (Nat.le_of_ble_eq_true rfl) rfl rfl (by decide) e9 rfl g2 (fun v9 h9 q9 => ?_) (fun E h9 q9 => kx E h9 q9)
  obtain ⟨x4, rfl, k⟩ := kk v9 h9 q9
  clear kk kx g1 g2 q9
  refine P_i2l (pc := 7) dL_told_7 ?_
  obtain ⟨n9, f9, e9, i9, k⟩ := k
  refine P_last (pc := 8) dL_told_8 e9 i9 ?_
  clear e9
  refine P_goto (tgt := 15) (pc := 9) dL_told_9 (by decide) ?_
  refine P_iconst (v := (0 : Int32)) (pc := 15) dL_told_15 (by decide) ?_
  exact R_ireturn (pc := 16) dL_told_16 rfl rfl k
-- L_heir heir(LFernHeirs;II[J)I
theorem dL_heir_0 : decode cL_heir 0 = .ok (.aload_n 3, 1) := by decide +kernel
theorem dL_heir_1 : decode cL_heir 1 = .ok (.iconst 0, 1) := by decide +kernel
theorem dL_heir_2 : decode cL_heir 2 = .ok (.aload_n 0, 1) := by decide +kernel
theorem dL_heir_3 : decode cL_heir 3 = .ok (.iload_n 1, 1) := by decide +kernel
theorem dL_heir_4 : decode cL_heir 4 = .ok (.iload_n 2, 1) := by decide +kernel
theorem dL_heir_5 : decode cL_heir 5 = .ok (.invokevirtual 27, 3) := by decide +kernel
theorem dL_heir_8 : decode cL_heir 8 = .ok (.i2l, 1) := by decide +kernel
theorem dL_heir_9 : decode cL_heir 9 = .ok (.lastore, 1) := by decide +kernel
theorem dL_heir_10 : decode cL_heir 10 = .ok (.goto 11, 3) := by decide +kernel
theorem dL_heir_13 : decode cL_heir 13 = .ok (.astore 4, 2) := by decide +kernel
theorem dL_heir_17 : decode cL_heir 17 = .ok (.astore 4, 2) := by decide +kernel
theorem dL_heir_21 : decode cL_heir 21 = .ok (.iconst 0, 1) := by decide +kernel
theorem dL_heir_22 : decode cL_heir 22 = .ok (.ireturn, 1) := by decide +kernel
theorem r_L_heir_0 {d rc rs : Nat} {Q : PO → PH → Prop} {h : PH} {l0 : Nat} {l1 : Int32} {l2 : Int32} {l3 : LA}
    (k : isO h 10900 l0 ∧ cl d rc rs M_X9_heir [vR (900, l0), vI l1, vI l2] h (kI fun x4 h1 rc2 rs3 => yL h1 l3 (0 : Int32) (x4.toInt64) fun h5 => Q (.inl (some (vI (0 : Int32)))) h5) (fun E h1 rc2 rs3 => PX d M_L_heir Q rc2 rs3 5 [vR (900, l0), vI l1, vI l2, vR l3, vU] h1 E)) :
    PW d M_L_heir Q rc rs 0 [vR (900, l0), vI l1, vI l2, vR l3, vU] [] h := by
  refine P_aload_n (pc := 0) dL_heir_0 rfl ?_
  refine P_iconst (v := (0 : Int32)) (pc := 1) dL_heir_1 (by decide) ?_
  refine P_aload_n (pc := 2) dL_heir_2 rfl ?_
  refine P_iload_n (pc := 3) dL_heir_3 rfl ?_
  refine P_iload_n (pc := 4) dL_heir_4 rfl ?_
  obtain ⟨⟨w9, e9⟩, d2, nc, ns, rc2, rs3, Qc, g1, rfl, rfl, g2, kk, kx⟩ := k
  refine P_callV (ci := 9) (k := 0) (id := l0) (q := (RX9, TX9, 18)) (As := [vI l1, vI l2]) (st := [vI (0 : Int32), vR l3]) (pc := 5) dL_heir_5 mk_X9_heir l_L_27 im_X9_heir se_X9_heir ini_X9 rfl g1 (Nat.le_of_ble_eq_true rfl) rfl rfl (by decide) e9 rfl g2 (fun v9 h9 q9 => ?_) (fun E h9 q9 => kx E h9 q9)
  obtain ⟨x4, rfl, k⟩ := kk v9 h9 q9
  clear kk kx g1 g2 q9
  refine P_i2l (pc := 8) dL_heir_8 ?_
  obtain ⟨n9, f9, e9, i9, k⟩ := k
  refine P_last (pc := 9) dL_heir_9 e9 i9 ?_
  clear e9
  refine P_goto (tgt := 21) (pc := 10) dL_heir_10 (by decide) ?_
  refine P_iconst (v := (0 : Int32)) (pc := 21) dL_heir_21 (by decide) ?_
  exact R_ireturn (pc := 22) dL_heir_22 rfl rfl k
-- L_two two(LFernHeirs;II[J)I
theorem dL_two_0 : decode cL_two 0 = .ok (.aload_n 3, 1) := by decide +kernel
theorem dL_two_1 : decode cL_two 1 = .ok (.iconst 0, 1) := by decide +kernel
theorem dL_two_2 : decode cL_two 2 = .ok (.aload_n 0, 1) := by decide +kernel
theorem dL_two_3 : decode cL_two 3 = .ok (.iload_n 1, 1) := by decide +kernel
theorem dL_two_4 : decode cL_two 4 = .ok (.iload_n 2, 1) := by decide +kernel
theorem dL_two_5 : decode cL_two 5 = .ok (.invokevirtual 33, 3) := by decide +kernel
theorem dL_two_8 : decode cL_two 8 = .ok (.i2l, 1) := by decide +kernel
theorem dL_two_9 : decode cL_two 9 = .ok (.lastore, 1) := by decide +kernel
theorem dL_two_10 : decode cL_two 10 = .ok (.goto 11, 3) := by decide +kernel
theorem dL_two_13 : decode cL_two 13 = .ok (.astore 4, 2) := by decide +kernel
theorem dL_two_17 : decode cL_two 17 = .ok (.astore 4, 2) := by decide +kernel
theorem dL_two_21 : decode cL_two 21 = .ok (.iconst 0, 1) := by decide +kernel
theorem dL_two_22 : decode cL_two 22 = .ok (.ireturn, 1) := by decide +kernel
theorem r_L_two_0 {d rc rs : Nat} {Q : PO → PH → Prop} {h : PH} {l0 : Nat} {l1 : Int32} {l2 : Int32} {l3 : LA}
    (k : isO h 10900 l0 ∧ cl d rc rs M_X9_two [vR (900, l0), vI l1, vI l2] h (kI fun x4 h1 rc2 rs3 => yL h1 l3 (0 : Int32) (x4.toInt64) fun h5 => Q (.inl (some (vI (0 : Int32)))) h5) (fun E h1 rc2 rs3 => PX d M_L_two Q rc2 rs3 5 [vR (900, l0), vI l1, vI l2, vR l3, vU] h1 E)) :
    PW d M_L_two Q rc rs 0 [vR (900, l0), vI l1, vI l2, vR l3, vU] [] h := by
  refine P_aload_n (pc := 0) dL_two_0 rfl ?_
  refine P_iconst (v := (0 : Int32)) (pc := 1) dL_two_1 (by decide) ?_
  refine P_aload_n (pc := 2) dL_two_2 rfl ?_
  refine P_iload_n (pc := 3) dL_two_3 rfl ?_
  refine P_iload_n (pc := 4) dL_two_4 rfl ?_
  obtain ⟨⟨w9, e9⟩, d2, nc, ns, rc2, rs3, Qc, g1, rfl, rfl, g2, kk, kx⟩ := k
  refine P_callV (ci := 9) (k := 0) (id := l0) (q := (RX9, TX9, 18)) (As := [vI l1, vI l2]) (st := [vI (0 : Int32), vR l3]) (pc := 5) dL_two_5 mk_X9_two l_L_33 im_X9_two se_X9_two ini_X9 rfl g1 (Nat.le_of_ble_eq_true rfl) rfl rfl (by decide) e9 rfl g2 (fun v9 h9 q9 => ?_) (fun E h9 q9 => kx E h9 q9)
  obtain ⟨x4, rfl, k⟩ := kk v9 h9 q9
  clear kk kx g1 g2 q9
  refine P_i2l (pc := 8) dL_two_8 ?_
  obtain ⟨n9, f9, e9, i9, k⟩ := k
  refine P_last (pc := 9) dL_two_9 e9 i9 ?_
  clear e9
  refine P_goto (tgt := 21) (pc := 10) dL_two_10 (by decide) ?_
  refine P_iconst (v := (0 : Int32)) (pc := 21) dL_two_21 (by decide) ?_
  exact R_ireturn (pc := 22) dL_two_22 rfl rfl k
-- L_keeper keeper(LFernHeirs;II[J)I
theorem dL_keeper_0 : decode cL_keeper 0 = .ok (.aload_n 3, 1) := by decide +kernel
theorem dL_keeper_1 : decode cL_keeper 1 = .ok (.iconst 0, 1) := by decide +kernel
theorem dL_keeper_2 : decode cL_keeper 2 = .ok (.aload_n 0, 1) := by decide +kernel
theorem dL_keeper_3 : decode cL_keeper 3 = .ok (.iload_n 1, 1) := by decide +kernel
theorem dL_keeper_4 : decode cL_keeper 4 = .ok (.iload_n 2, 1) := by decide +kernel
theorem dL_keeper_5 : decode cL_keeper 5 = .ok (.invokevirtual 36, 3) := by decide +kernel
theorem dL_keeper_8 : decode cL_keeper 8 = .ok (.i2l, 1) := by decide +kernel
theorem dL_keeper_9 : decode cL_keeper 9 = .ok (.lastore, 1) := by decide +kernel
theorem dL_keeper_10 : decode cL_keeper 10 = .ok (.goto 11, 3) := by decide +kernel
theorem dL_keeper_13 : decode cL_keeper 13 = .ok (.astore 4, 2) := by decide +kernel
theorem dL_keeper_17 : decode cL_keeper 17 = .ok (.astore 4, 2) := by decide +kernel
theorem dL_keeper_21 : decode cL_keeper 21 = .ok (.iconst 0, 1) := by decide +kernel
theorem dL_keeper_22 : decode cL_keeper 22 = .ok (.ireturn, 1) := by decide +kernel
theorem r_L_keeper_0 {d rc rs : Nat} {Q : PO → PH → Prop} {h : PH} {l0 : Nat} {l1 : Int32} {l2 : Int32} {l3 : LA}
    (k : isO h 10900 l0 ∧ cl d rc rs M_X9_keeper [vR (900, l0), vI l1, vI l2] h (kI fun x4 h1 rc2 rs3 => yL h1 l3 (0 : Int32) (x4.toInt64) fun h5 => Q (.inl (some (vI (0 : Int32)))) h5) (fun E h1 rc2 rs3 => PX d M_L_keeper Q rc2 rs3 5 [vR (900, l0), vI l1, vI l2, vR l3, vU] h1 E)) :
    PW d M_L_keeper Q rc rs 0 [vR (900, l0), vI l1, vI l2, vR l3, vU] [] h := by
  refine P_aload_n (pc := 0) dL_keeper_0 rfl ?_
  refine P_iconst (v := (0 : Int32)) (pc := 1) dL_keeper_1 (by decide) ?_
  refine P_aload_n (pc := 2) dL_keeper_2 rfl ?_
  refine P_iload_n (pc := 3) dL_keeper_3 rfl ?_
  refine P_iload_n (pc := 4) dL_keeper_4 rfl ?_
  obtain ⟨⟨w9, e9⟩, d2, nc, ns, rc2, rs3, Qc, g1, rfl, rfl, g2, kk, kx⟩ := k
  refine P_callV (ci := 9) (k := 0) (id := l0) (q := (RX9, TX9, 18)) (As := [vI l1, vI l2]) (st := [vI (0 : Int32), vR l3]) (pc := 5) dL_keeper_5 mk_X9_keeper l_L_36 im_X9_keeper se_X9_keeper ini_X9 rfl g1 (Nat.le_of_ble_eq_true rfl) rfl rfl (by decide) e9 rfl g2 (fun v9 h9 q9 => ?_) (fun E h9 q9 => kx E h9 q9)
  obtain ⟨x4, rfl, k⟩ := kk v9 h9 q9
  clear kk kx g1 g2 q9
  refine P_i2l (pc := 8) dL_keeper_8 ?_
  obtain ⟨n9, f9, e9, i9, k⟩ := k
  refine P_last (pc := 9) dL_keeper_9 e9 i9 ?_
  clear e9
  refine P_goto (tgt := 21) (pc := 10) dL_keeper_10 (by decide) ?_
  refine P_iconst (v := (0 : Int32)) (pc := 21) dL_keeper_21 (by decide) ?_
  exact R_ireturn (pc := 22) dL_keeper_22 rfl rfl k
-- L_cloud cloud(LFernHeirs;I[J)I
theorem dL_cloud_0 : decode cL_cloud 0 = .ok (.aload_n 2, 1) := by decide +kernel
theorem dL_cloud_1 : decode cL_cloud 1 = .ok (.iconst 0, 1) := by decide +kernel
theorem dL_cloud_2 : decode cL_cloud 2 = .ok (.aload_n 0, 1) := by decide +kernel
theorem dL_cloud_3 : decode cL_cloud 3 = .ok (.iload_n 1, 1) := by decide +kernel
theorem dL_cloud_4 : decode cL_cloud 4 = .ok (.invokevirtual 39, 3) := by decide +kernel
theorem dL_cloud_7 : decode cL_cloud 7 = .ok (.i2l, 1) := by decide +kernel
theorem dL_cloud_8 : decode cL_cloud 8 = .ok (.lastore, 1) := by decide +kernel
theorem dL_cloud_9 : decode cL_cloud 9 = .ok (.goto 6, 3) := by decide +kernel
theorem dL_cloud_12 : decode cL_cloud 12 = .ok (.astore_n 3, 1) := by decide +kernel
theorem dL_cloud_15 : decode cL_cloud 15 = .ok (.iconst 0, 1) := by decide +kernel
theorem dL_cloud_16 : decode cL_cloud 16 = .ok (.ireturn, 1) := by decide +kernel
theorem r_L_cloud_0 {d rc rs : Nat} {Q : PO → PH → Prop} {h : PH} {l0 : Nat} {l1 : Int32} {l2 : LA}
    (k : isO h 10900 l0 ∧ cl d rc rs M_X9_cloud [vR (900, l0), vI l1] h (kI fun x4 h1 rc2 rs3 => yL h1 l2 (0 : Int32) (x4.toInt64) fun h5 => Q (.inl (some (vI (0 : Int32)))) h5) (fun E h1 rc2 rs3 => PX d M_L_cloud Q rc2 rs3 4 [vR (900, l0), vI l1, vR l2, vU] h1 E)) :
    PW d M_L_cloud Q rc rs 0 [vR (900, l0), vI l1, vR l2, vU] [] h := by
  refine P_aload_n (pc := 0) dL_cloud_0 rfl ?_
  refine P_iconst (v := (0 : Int32)) (pc := 1) dL_cloud_1 (by decide) ?_
  refine P_aload_n (pc := 2) dL_cloud_2 rfl ?_
  refine P_iload_n (pc := 3) dL_cloud_3 rfl ?_
  obtain ⟨⟨w9, e9⟩, d2, nc, ns, rc2, rs3, Qc, g1, rfl, rfl, g2, kk, kx⟩ := k
  refine P_callV (ci := 9) (k := 0) (id := l0) (q := (RX9, TX9, 18)) (As := [vI l1]) (st := [vI (0 : Int32), vR l2]) (pc := 4) dL_cloud_4 mk_X9_cloud l_L_39 im_X9_cloud se_X9_cloud ini_X9 rfl g1 (Nat.le_of_ble_eq_true rfl) rfl rfl (by decide) e9 rfl g2 (fun v9 h9 q9 => ?_) (fun E h9 q9 => kx E h9 q9)
  obtain ⟨x4, rfl, k⟩ := kk v9 h9 q9
  clear kk kx g1 g2 q9
  refine P_i2l (pc := 7) dL_cloud_7 ?_
  obtain ⟨n9, f9, e9, i9, k⟩ := k
  refine P_last (pc := 8) dL_cloud_8 e9 i9 ?_
  clear e9
  refine P_goto (tgt := 15) (pc := 9) dL_cloud_9 (by decide) ?_
  refine P_iconst (v := (0 : Int32)) (pc := 15) dL_cloud_15 (by decide) ?_
  exact R_ireturn (pc := 16) dL_cloud_16 rfl rfl k
-- L_would would(LFernHeirs;IIIIIIIII[J)I
theorem dL_would_0 : decode cL_would 0 = .ok (.aload 10, 2) := by decide +kernel
theorem dL_would_2 : decode cL_would 2 = .ok (.iconst 0, 1) := by decide +kernel
theorem dL_would_3 : decode cL_would 3 = .ok (.aload_n 0, 1) := by decide +kernel
theorem dL_would_4 : decode cL_would 4 = .ok (.iload_n 1, 1) := by decide +kernel
theorem dL_would_5 : decode cL_would 5 = .ok (.iload_n 2, 1) := by decide +kernel
theorem dL_would_6 : decode cL_would 6 = .ok (.iload_n 3, 1) := by decide +kernel
theorem dL_would_7 : decode cL_would 7 = .ok (.iload 4, 2) := by decide +kernel
theorem dL_would_9 : decode cL_would 9 = .ok (.iload 5, 2) := by decide +kernel
theorem dL_would_11 : decode cL_would 11 = .ok (.iload 6, 2) := by decide +kernel
theorem dL_would_13 : decode cL_would 13 = .ok (.iload 7, 2) := by decide +kernel
theorem dL_would_15 : decode cL_would 15 = .ok (.iload 8, 2) := by decide +kernel
theorem dL_would_17 : decode cL_would 17 = .ok (.iload 9, 2) := by decide +kernel
theorem dL_would_19 : decode cL_would 19 = .ok (.invokevirtual 42, 3) := by decide +kernel
theorem dL_would_22 : decode cL_would 22 = .ok (.i2l, 1) := by decide +kernel
theorem dL_would_23 : decode cL_would 23 = .ok (.lastore, 1) := by decide +kernel
theorem dL_would_24 : decode cL_would 24 = .ok (.goto 7, 3) := by decide +kernel
theorem dL_would_27 : decode cL_would 27 = .ok (.astore 11, 2) := by decide +kernel
theorem dL_would_31 : decode cL_would 31 = .ok (.iconst 0, 1) := by decide +kernel
theorem dL_would_32 : decode cL_would 32 = .ok (.ireturn, 1) := by decide +kernel
theorem r_L_would_0 {d rc rs : Nat} {Q : PO → PH → Prop} {h : PH} {l0 : Nat} {l1 : Int32} {l2 : Int32} {l3 : Int32} {l4 : Int32} {l5 : Int32} {l6 : Int32} {l7 : Int32} {l8 : Int32} {l9 : Int32} {l10 : LA}
    (k : isO h 10900 l0 ∧ cl d rc rs M_X9_would [vR (900, l0), vI l1, vI l2, vI l3, vI l4, vI l5, vI l6, vI l7, vI l8, vI l9] h (kI fun x4 h1 rc2 rs3 => yL h1 l10 (0 : Int32) (x4.toInt64) fun h5 => Q (.inl (some (vI (0 : Int32)))) h5) (fun E h1 rc2 rs3 => PX d M_L_would Q rc2 rs3 19 [vR (900, l0), vI l1, vI l2, vI l3, vI l4, vI l5, vI l6, vI l7, vI l8, vI l9, vR l10, vU] h1 E)) :
    PW d M_L_would Q rc rs 0 [vR (900, l0), vI l1, vI l2, vI l3, vI l4, vI l5, vI l6, vI l7, vI l8, vI l9, vR l10, vU] [] h := by
  refine P_aload (pc := 0) dL_would_0 rfl ?_
  refine P_iconst (v := (0 : Int32)) (pc := 2) dL_would_2 (by decide) ?_
  refine P_aload_n (pc := 3) dL_would_3 rfl ?_
  refine P_iload_n (pc := 4) dL_would_4 rfl ?_
  refine P_iload_n (pc := 5) dL_would_5 rfl ?_
  refine P_iload_n (pc := 6) dL_would_6 rfl ?_
  refine P_iload (pc := 7) dL_would_7 rfl ?_
  refine P_iload (pc := 9) dL_would_9 rfl ?_
  refine P_iload (pc := 11) dL_would_11 rfl ?_
  refine P_iload (pc := 13) dL_would_13 rfl ?_
  refine P_iload (pc := 15) dL_would_15 rfl ?_
  refine P_iload (pc := 17) dL_would_17 rfl ?_
  obtain ⟨⟨w9, e9⟩, d2, nc, ns, rc2, rs3, Qc, g1, rfl, rfl, g2, kk, kx⟩ := k
  refine P_callV (ci := 9) (k := 0) (id := l0) (q := (RX9, TX9, 18)) (As := [vI l1, vI l2, vI l3, vI l4, vI l5, vI l6, vI l7, vI l8, vI l9]) (st := [vI (0 : Int32), vR l10]) (pc := 19) dL_would_19 mk_X9_would l_L_42 im_X9_would se_X9_would ini_X9 rfl g1 (Nat.le_of_ble_eq_true rfl) rfl rfl (by decide) e9 rfl g2 (fun v9 h9 q9 => ?_) (fun E h9 q9 => kx E h9 q9)
  obtain ⟨x4, rfl, k⟩ := kk v9 h9 q9
  clear kk kx g1 g2 q9
  refine P_i2l (pc := 22) dL_would_22 ?_
  obtain ⟨n9, f9, e9, i9, k⟩ := k
  refine P_last (pc := 23) dL_would_23 e9 i9 ?_
  clear e9
  refine P_goto (tgt := 31) (pc := 24) dL_would_24 (by decide) ?_
  refine P_iconst (v := (0 : Int32)) (pc := 31) dL_would_31 (by decide) ?_
  exact R_ireturn (pc := 32) dL_would_32 rfl rfl k
-- L_rank rank(LFernHeirs;I[J)I
theorem dL_rank_0 : decode cL_rank 0 = .ok (.aload_n 2, 1) := by decide +kernel
theorem dL_rank_1 : decode cL_rank 1 = .ok (.iconst 0, 1) := by decide +kernel
theorem dL_rank_2 : decode cL_rank 2 = .ok (.aload_n 0, 1) := by decide +kernel
theorem dL_rank_3 : decode cL_rank 3 = .ok (.iload_n 1, 1) := by decide +kernel
theorem dL_rank_4 : decode cL_rank 4 = .ok (.invokevirtual 46, 3) := by decide +kernel
theorem dL_rank_7 : decode cL_rank 7 = .ok (.i2l, 1) := by decide +kernel
theorem dL_rank_8 : decode cL_rank 8 = .ok (.lastore, 1) := by decide +kernel
theorem dL_rank_9 : decode cL_rank 9 = .ok (.goto 6, 3) := by decide +kernel
theorem dL_rank_12 : decode cL_rank 12 = .ok (.astore_n 3, 1) := by decide +kernel
theorem dL_rank_15 : decode cL_rank 15 = .ok (.iconst 0, 1) := by decide +kernel
theorem dL_rank_16 : decode cL_rank 16 = .ok (.ireturn, 1) := by decide +kernel
theorem r_L_rank_0 {d rc rs : Nat} {Q : PO → PH → Prop} {h : PH} {l0 : Nat} {l1 : Int32} {l2 : LA}
    (k : isO h 10900 l0 ∧ cl d rc rs M_X9_rank [vR (900, l0), vI l1] h (kI fun x4 h1 rc2 rs3 => yL h1 l2 (0 : Int32) (x4.toInt64) fun h5 => Q (.inl (some (vI (0 : Int32)))) h5) (fun E h1 rc2 rs3 => PX d M_L_rank Q rc2 rs3 4 [vR (900, l0), vI l1, vR l2, vU] h1 E)) :
    PW d M_L_rank Q rc rs 0 [vR (900, l0), vI l1, vR l2, vU] [] h := by
  refine P_aload_n (pc := 0) dL_rank_0 rfl ?_
  refine P_iconst (v := (0 : Int32)) (pc := 1) dL_rank_1 (by decide) ?_
  refine P_aload_n (pc := 2) dL_rank_2 rfl ?_
  refine P_iload_n (pc := 3) dL_rank_3 rfl ?_
  obtain ⟨⟨w9, e9⟩, d2, nc, ns, rc2, rs3, Qc, g1, rfl, rfl, g2, kk, kx⟩ := k
  refine P_callV (ci := 9) (k := 0) (id := l0) (q := (RX9, TX9, 18)) (As := [vI l1]) (st := [vI (0 : Int32), vR l2]) (pc := 4) dL_rank_4 mk_X9_rank l_L_46 im_X9_rank se_X9_rank ini_X9 rfl g1 (Nat.le_of_ble_eq_true rfl) rfl rfl (by decide) e9 rfl g2 (fun v9 h9 q9 => ?_) (fun E h9 q9 => kx E h9 q9)
  obtain ⟨x4, rfl, k⟩ := kk v9 h9 q9
  clear kk kx g1 g2 q9
  refine P_i2l (pc := 7) dL_rank_7 ?_
  obtain ⟨n9, f9, e9, i9, k⟩ := k
  refine P_last (pc := 8) dL_rank_8 e9 i9 ?_
  clear e9
  refine P_goto (tgt := 15) (pc := 9) dL_rank_9 (by decide) ?_
  refine P_iconst (v := (0 : Int32)) (pc := 15) dL_rank_15 (by decide) ?_
  exact R_ireturn (pc := 16) dL_rank_16 rfl rfl k
-- L_ahead ahead(LFernHeirs;II[J)I
theorem dL_ahead_0 : decode cL_ahead 0 = .ok (.aload_n 3, 1) := by decide +kernel
theorem dL_ahead_1 : decode cL_ahead 1 = .ok (.iconst 0, 1) := by decide +kernel
theorem dL_ahead_2 : decode cL_ahead 2 = .ok (.aload_n 0, 1) := by decide +kernel
theorem dL_ahead_3 : decode cL_ahead 3 = .ok (.iload_n 1, 1) := by decide +kernel
theorem dL_ahead_4 : decode cL_ahead 4 = .ok (.iload_n 2, 1) := by decide +kernel
theorem dL_ahead_5 : decode cL_ahead 5 = .ok (.invokevirtual 49, 3) := by decide +kernel
theorem dL_ahead_8 : decode cL_ahead 8 = .ok (.i2l, 1) := by decide +kernel
theorem dL_ahead_9 : decode cL_ahead 9 = .ok (.lastore, 1) := by decide +kernel
theorem dL_ahead_10 : decode cL_ahead 10 = .ok (.goto 7, 3) := by decide +kernel
theorem dL_ahead_13 : decode cL_ahead 13 = .ok (.astore 4, 2) := by decide +kernel
theorem dL_ahead_17 : decode cL_ahead 17 = .ok (.iconst 0, 1) := by decide +kernel
theorem dL_ahead_18 : decode cL_ahead 18 = .ok (.ireturn, 1) := by decide +kernel
theorem r_L_ahead_0 {d rc rs : Nat} {Q : PO → PH → Prop} {h : PH} {l0 : Nat} {l1 : Int32} {l2 : Int32} {l3 : LA}
    (k : isO h 10900 l0 ∧ cl d rc rs M_X9_ahead [vR (900, l0), vI l1, vI l2] h (kI fun x4 h1 rc2 rs3 => yL h1 l3 (0 : Int32) (x4.toInt64) fun h5 => Q (.inl (some (vI (0 : Int32)))) h5) (fun E h1 rc2 rs3 => PX d M_L_ahead Q rc2 rs3 5 [vR (900, l0), vI l1, vI l2, vR l3, vU] h1 E)) :
    PW d M_L_ahead Q rc rs 0 [vR (900, l0), vI l1, vI l2, vR l3, vU] [] h := by
  refine P_aload_n (pc := 0) dL_ahead_0 rfl ?_
  refine P_iconst (v := (0 : Int32)) (pc := 1) dL_ahead_1 (by decide) ?_
  refine P_aload_n (pc := 2) dL_ahead_2 rfl ?_
  refine P_iload_n (pc := 3) dL_ahead_3 rfl ?_
  refine P_iload_n (pc := 4) dL_ahead_4 rfl ?_
  obtain ⟨⟨w9, e9⟩, d2, nc, ns, rc2, rs3, Qc, g1, rfl, rfl, g2, kk, kx⟩ := k
  refine P_callV (ci := 9) (k := 0) (id := l0) (q := (RX9, TX9, 18)) (As := [vI l1, vI l2]) (st := [vI (0 : Int32), vR l3]) (pc := 5) dL_ahead_5 mk_X9_ahead l_L_49 im_X9_ahead se_X9_ahead ini_X9 rfl g1 (Nat.le_of_ble_eq_true rfl) rfl rfl (by decide) e9 rfl g2 (fun v9 h9 q9 => ?_) (fun E h9 q9 => kx E h9 q9)
  obtain ⟨x4, rfl, k⟩ := kk v9 h9 q9
  clear kk kx g1 g2 q9
  refine P_i2l (pc := 8) dL_ahead_8 ?_
  obtain ⟨n9, f9, e9, i9, k⟩ := k
  refine P_last (pc := 9) dL_ahead_9 e9 i9 ?_
  clear e9
  refine P_goto (tgt := 17) (pc := 10) dL_ahead_10 (by decide) ?_
  refine P_iconst (v := (0 : Int32)) (pc := 17) dL_ahead_17 (by decide) ?_
  exact R_ireturn (pc := 18) dL_ahead_18 rfl rfl k
-- L_clouds clouds(LFernHeirs;I[J)I
theorem dL_clouds_0 : decode cL_clouds 0 = .ok (.aload_n 2, 1) := by decide +kernel
theorem dL_clouds_1 : decode cL_clouds 1 = .ok (.iconst 0, 1) := by decide +kernel
theorem dL_clouds_2 : decode cL_clouds 2 = .ok (.aload_n 0, 1) := by decide +kernel
theorem dL_clouds_3 : decode cL_clouds 3 = .ok (.iload_n 1, 1) := by decide +kernel
theorem dL_clouds_4 : decode cL_clouds 4 = .ok (.invokevirtual 52, 3) := by decide +kernel
theorem dL_clouds_7 : decode cL_clouds 7 = .ok (.i2l, 1) := by decide +kernel
theorem dL_clouds_8 : decode cL_clouds 8 = .ok (.lastore, 1) := by decide +kernel
theorem dL_clouds_9 : decode cL_clouds 9 = .ok (.goto 6, 3) := by decide +kernel
theorem dL_clouds_12 : decode cL_clouds 12 = .ok (.astore_n 3, 1) := by decide +kernel
theorem dL_clouds_15 : decode cL_clouds 15 = .ok (.iconst 0, 1) := by decide +kernel
theorem dL_clouds_16 : decode cL_clouds 16 = .ok (.ireturn, 1) := by decide +kernel
theorem r_L_clouds_0 {d rc rs : Nat} {Q : PO → PH → Prop} {h : PH} {l0 : Nat} {l1 : Int32} {l2 : LA}
    (k : isO h 10900 l0 ∧ cl d rc rs M_X9_clouds [vR (900, l0), vI l1] h (kI fun x4 h1 rc2 rs3 => yL h1 l2 (0 : Int32) (x4.toInt64) fun h5 => Q (.inl (some (vI (0 : Int32)))) h5) (fun E h1 rc2 rs3 => PX d M_L_clouds Q rc2 rs3 4 [vR (900, l0), vI l1, vR l2, vU] h1 E)) :
    PW d M_L_clouds Q rc rs 0 [vR (900, l0), vI l1, vR l2, vU] [] h := by
  refine P_aload_n (pc := 0) dL_clouds_0 rfl ?_
  refine P_iconst (v := (0 : Int32)) (pc := 1) dL_clouds_1 (by decide) ?_
  refine P_aload_n (pc := 2) dL_clouds_2 rfl ?_
  refine P_iload_n (pc := 3) dL_clouds_3 rfl ?_
  obtain ⟨⟨w9, e9⟩, d2, nc, ns, rc2, rs3, Qc, g1, rfl, rfl, g2, kk, kx⟩ := k
  refine P_callV (ci := 9) (k := 0) (id := l0) (q := (RX9, TX9, 18)) (As := [vI l1]) (st := [vI (0 : Int32), vR l2]) (pc := 4) dL_clouds_4 mk_X9_clouds l_L_52 im_X9_clouds se_X9_clouds ini_X9 rfl g1 (Nat.le_of_ble_eq_true rfl) rfl rfl (by decide) e9 rfl g2 (fun v9 h9 q9 => ?_) (fun E h9 q9 => kx E h9 q9)
  obtain ⟨x4, rfl, k⟩ := kk v9 h9 q9
  clear kk kx g1 g2 q9
  refine P_i2l (pc := 7) dL_clouds_7 ?_
  obtain ⟨n9, f9, e9, i9, k⟩ := k
  refine P_last (pc := 8) dL_clouds_8 e9 i9 ?_
  clear e9
  refine P_goto (tgt := 15) (pc := 9) dL_clouds_9 (by decide) ?_
  refine P_iconst (v := (0 : Int32)) (pc := 15) dL_clouds_15 (by decide) ?_
  exact R_ireturn (pc := 16) dL_clouds_16 rfl rfl k
-- L_wipes wipes(LFernHeirs;I[J)I
theorem dL_wipes_0 : decode cL_wipes 0 = .ok (.aload_n 2, 1) := by decide +kernel
theorem dL_wipes_1 : decode cL_wipes 1 = .ok (.iconst 0, 1) := by decide +kernel
theorem dL_wipes_2 : decode cL_wipes 2 = .ok (.aload_n 0, 1) := by decide +kernel
theorem dL_wipes_3 : decode cL_wipes 3 = .ok (.iload_n 1, 1) := by decide +kernel
theorem dL_wipes_4 : decode cL_wipes 4 = .ok (.invokevirtual 55, 3) := by decide +kernel
theorem dL_wipes_7 : decode cL_wipes 7 = .ok (.i2l, 1) := by decide +kernel
theorem dL_wipes_8 : decode cL_wipes 8 = .ok (.lastore, 1) := by decide +kernel
theorem dL_wipes_9 : decode cL_wipes 9 = .ok (.goto 6, 3) := by decide +kernel
theorem dL_wipes_12 : decode cL_wipes 12 = .ok (.astore_n 3, 1) := by decide +kernel
theorem dL_wipes_15 : decode cL_wipes 15 = .ok (.iconst 0, 1) := by decide +kernel
theorem dL_wipes_16 : decode cL_wipes 16 = .ok (.ireturn, 1) := by decide +kernel
theorem r_L_wipes_0 {d rc rs : Nat} {Q : PO → PH → Prop} {h : PH} {l0 : Nat} {l1 : Int32} {l2 : LA}
    (k : isO h 10900 l0 ∧ cl d rc rs M_X9_wipes [vR (900, l0), vI l1] h (kI fun x4 h1 rc2 rs3 => yL h1 l2 (0 : Int32) (x4.toInt64) fun h5 => Q (.inl (some (vI (0 : Int32)))) h5) (fun E h1 rc2 rs3 => PX d M_L_wipes Q rc2 rs3 4 [vR (900, l0), vI l1, vR l2, vU] h1 E)) :
    PW d M_L_wipes Q rc rs 0 [vR (900, l0), vI l1, vR l2, vU] [] h := by
  refine P_aload_n (pc := 0) dL_wipes_0 rfl ?_
  refine P_iconst (v := (0 : Int32)) (pc := 1) dL_wipes_1 (by decide) ?_
  refine P_aload_n (pc := 2) dL_wipes_2 rfl ?_
  refine P_iload_n (pc := 3) dL_wipes_3 rfl ?_
  obtain ⟨⟨w9, e9⟩, d2, nc, ns, rc2, rs3, Qc, g1, rfl, rfl, g2, kk, kx⟩ := k
  refine P_callV (ci := 9) (k := 0) (id := l0) (q := (RX9, TX9, 18)) (As := [vI l1]) (st := [vI (0 : Int32), vR l2]) (pc := 4) dL_wipes_4 mk_X9_wipes l_L_55 im_X9_wipes se_X9_wipes ini_X9 rfl g1 (Nat.le_of_ble_eq_true rfl) rfl rfl (by decide) e9 rfl g2 (fun v9 h9 q9 => ?_) (fun E h9 q9 => kx E h9 q9)
  obtain ⟨x4, rfl, k⟩ := kk v9 h9 q9
  clear kk kx g1 g2 q9
  refine P_i2l (pc := 7) dL_wipes_7 ?_
  obtain ⟨n9, f9, e9, i9, k⟩ := k
  refine P_last (pc := 8) dL_wipes_8 e9 i9 ?_
  clear e9
  refine P_goto (tgt := 15) (pc := 9) dL_wipes_9 (by decide) ?_
  refine P_iconst (v := (0 : Int32)) (pc := 15) dL_wipes_15 (by decide) ?_
  exact R_ireturn (pc := 16) dL_wipes_16 rfl rfl k
-- L_gasp gasp(LFernHeirs;I[J)I
theorem dL_gasp_0 : decode cL_gasp 0 = .ok (.aload_n 2, 1) := by decide +kernel
theorem dL_gasp_1 : decode cL_gasp 1 = .ok (.iconst 0, 1) := by decide +kernel
theorem dL_gasp_2 : decode cL_gasp 2 = .ok (.aload_n 0, 1) := by decide +kernel
theorem dL_gasp_3 : decode cL_gasp 3 = .ok (.iload_n 1, 1) := by decide +kernel
theorem dL_gasp_4 : decode cL_gasp 4 = .ok (.invokevirtual 58, 3) := by decide +kernel
theorem dL_gasp_7 : decode cL_gasp 7 = .ok (.i2l, 1) := by decide +kernel
theorem dL_gasp_8 : decode cL_gasp 8 = .ok (.lastore, 1) := by decide +kernel
theorem dL_gasp_9 : decode cL_gasp 9 = .ok (.goto 6, 3) := by decide +kernel
theorem dL_gasp_12 : decode cL_gasp 12 = .ok (.astore_n 3, 1) := by decide +kernel
theorem dL_gasp_15 : decode cL_gasp 15 = .ok (.iconst 0, 1) := by decide +kernel
theorem dL_gasp_16 : decode cL_gasp 16 = .ok (.ireturn, 1) := by decide +kernel
theorem r_L_gasp_0 {d rc rs : Nat} {Q : PO → PH → Prop} {h : PH} {l0 : Nat} {l1 : Int32} {l2 : LA}
    (k : isO h 10900 l0 ∧ cl d rc rs M_X9_gasp [vR (900, l0), vI l1] h (kI fun x4 h1 rc2 rs3 => yL h1 l2 (0 : Int32) (x4.toInt64) fun h5 => Q (.inl (some (vI (0 : Int32)))) h5) (fun E h1 rc2 rs3 => PX d M_L_gasp Q rc2 rs3 4 [vR (900, l0), vI l1, vR l2, vU] h1 E)) :
    PW d M_L_gasp Q rc rs 0 [vR (900, l0), vI l1, vR l2, vU] [] h := by
  refine P_aload_n (pc := 0) dL_gasp_0 rfl ?_
  refine P_iconst (v := (0 : Int32)) (pc := 1) dL_gasp_1 (by decide) ?_
  refine P_aload_n (pc := 2) dL_gasp_2 rfl ?_
  refine P_iload_n (pc := 3) dL_gasp_3 rfl ?_
  obtain ⟨⟨w9, e9⟩, d2, nc, ns, rc2, rs3, Qc, g1, rfl, rfl, g2, kk, kx⟩ := k
  refine P_callV (ci := 9) (k := 0) (id := l0) (q := (RX9, TX9, 18)) (As := [vI l1]) (st := [vI (0 : Int32), vR l2]) (pc := 4) dL_gasp_4 mk_X9_gasp l_L_58 im_X9_gasp se_X9_gasp ini_X9 rfl g1 (Nat.le_of_ble_eq_true rfl) rfl rfl (by decide) e9 rfl g2 (fun v9 h9 q9 => ?_) (fun E h9 q9 => kx E h9 q9)
  obtain ⟨x4, rfl, k⟩ := kk v9 h9 q9
  clear kk kx g1 g2 q9
  refine P_i2l (pc := 7) dL_gasp_7 ?_
  obtain ⟨n9, f9, e9, i9, k⟩ := k
  refine P_last (pc := 8) dL_gasp_8 e9 i9 ?_
  clear e9
  refine P_goto (tgt := 15) (pc := 9) dL_gasp_9 (by decide) ?_
  refine P_iconst (v := (0 : Int32)) (pc := 15) dL_gasp_15 (by decide) ?_
  exact R_ireturn (pc := 16) dL_gasp_16 rfl rfl k
-- L_way way(LFernHeirs;II[J)I
theorem dL_way_0 : decode cL_way 0 = .ok (.aload_n 3, 1) := by decide +kernel
theorem dL_way_1 : decode cL_way 1 = .ok (.iconst 0, 1) := by decide +kernel
theorem dL_way_2 : decode cL_way 2 = .ok (.aload_n 0, 1) := by decide +kernel
theorem dL_way_3 : decode cL_way 3 = .ok (.iload_n 1, 1) := by decide +kernel
theorem dL_way_4 : decode cL_way 4 = .ok (.iload_n 2, 1) := by decide +kernel
theorem dL_way_5 : decode cL_way 5 = .ok (.invokevirtual 61, 3) := by decide +kernel
theorem dL_way_8 : decode cL_way 8 = .ok (.i2l, 1) := by decide +kernel
theorem dL_way_9 : decode cL_way 9 = .ok (.lastore, 1) := by decide +kernel
theorem dL_way_10 : decode cL_way 10 = .ok (.goto 7, 3) := by decide +kernel
theorem dL_way_13 : decode cL_way 13 = .ok (.astore 4, 2) := by decide +kernel
theorem dL_way_17 : decode cL_way 17 = .ok (.iconst 0, 1) := by decide +kernel
theorem dL_way_18 : decode cL_way 18 = .ok (.ireturn, 1) := by decide +kernel
theorem r_L_way_0 {d rc rs : Nat} {Q : PO → PH → Prop} {h : PH} {l0 : Nat} {l1 : Int32} {l2 : Int32} {l3 : LA}
    (k : isO h 10900 l0 ∧ cl d rc rs M_X9_way [vR (900, l0), vI l1, vI l2] h (kI fun x4 h1 rc2 rs3 => yL h1 l3 (0 : Int32) (x4.toInt64) fun h5 => Q (.inl (some (vI (0 : Int32)))) h5) (fun E h1 rc2 rs3 => PX d M_L_way Q rc2 rs3 5 [vR (900, l0), vI l1, vI l2, vR l3, vU] h1 E)) :
    PW d M_L_way Q rc rs 0 [vR (900, l0), vI l1, vI l2, vR l3, vU] [] h := by
  refine P_aload_n (pc := 0) dL_way_0 rfl ?_
  refine P_iconst (v := (0 : Int32)) (pc := 1) dL_way_1 (by decide) ?_
  refine P_aload_n (pc := 2) dL_way_2 rfl ?_
  refine P_iload_n (pc := 3) dL_way_3 rfl ?_
  refine P_iload_n (pc := 4) dL_way_4 rfl ?_
  obtain ⟨⟨w9, e9⟩, d2, nc, ns, rc2, rs3, Qc, g1, rfl, rfl, g2, kk, kx⟩ := k
  refine P_callV (ci := 9) (k := 0) (id := l0) (q := (RX9, TX9, 18)) (As := [vI l1, vI l2]) (st := [vI (0 : Int32), vR l3]) (pc := 5) dL_way_5 mk_X9_way l_L_61 im_X9_way se_X9_way ini_X9 rfl g1 (Nat.le_of_ble_eq_true rfl) rfl rfl (by decide) e9 rfl g2 (fun v9 h9 q9 => ?_) (fun E h9 q9 => kx E h9 q9)
  obtain ⟨x4, rfl, k⟩ := kk v9 h9 q9
  clear kk kx g1 g2 q9
  refine P_i2l (pc := 8) dL_way_8 ?_
  obtain ⟨n9, f9, e9, i9, k⟩ := k
  refine P_last (pc := 9) dL_way_9 e9 i9 ?_
  clear e9
  refine P_goto (tgt := 17) (pc := 10) dL_way_10 (by decide) ?_
  refine P_iconst (v := (0 : Int32)) (pc := 17) dL_way_17 (by decide) ?_
  exact R_ireturn (pc := 18) dL_way_18 rfl rfl k
-- L_hush hush(LFernHeirs;II[J)I
theorem dL_hush_0 : decode cL_hush 0 = .ok (.aload_n 3, 1) := by decide +kernel
theorem dL_hush_1 : decode cL_hush 1 = .ok (.iconst 0, 1) := by decide +kernel
theorem dL_hush_2 : decode cL_hush 2 = .ok (.aload_n 0, 1) := by decide +kernel
theorem dL_hush_3 : decode cL_hush 3 = .ok (.iload_n 1, 1) := by decide +kernel
theorem dL_hush_4 : decode cL_hush 4 = .ok (.iload_n 2, 1) := by decide +kernel
theorem dL_hush_5 : decode cL_hush 5 = .ok (.invokevirtual 64, 3) := by decide +kernel
theorem dL_hush_8 : decode cL_hush 8 = .ok (.i2l, 1) := by decide +kernel
theorem dL_hush_9 : decode cL_hush 9 = .ok (.lastore, 1) := by decide +kernel
theorem dL_hush_10 : decode cL_hush 10 = .ok (.goto 11, 3) := by decide +kernel
theorem dL_hush_13 : decode cL_hush 13 = .ok (.astore 4, 2) := by decide +kernel
theorem dL_hush_17 : decode cL_hush 17 = .ok (.astore 4, 2) := by decide +kernel
theorem dL_hush_21 : decode cL_hush 21 = .ok (.iconst 0, 1) := by decide +kernel
theorem dL_hush_22 : decode cL_hush 22 = .ok (.ireturn, 1) := by decide +kernel
theorem r_L_hush_0 {d rc rs : Nat} {Q : PO → PH → Prop} {h : PH} {l0 : Nat} {l1 : Int32} {l2 : Int32} {l3 : LA}
    (k : isO h 10900 l0 ∧ cl d rc rs M_X9_hush [vR (900, l0), vI l1, vI l2] h (kI fun x4 h1 rc2 rs3 => yL h1 l3 (0 : Int32) (x4.toInt64) fun h5 => Q (.inl (some (vI (0 : Int32)))) h5) (fun E h1 rc2 rs3 => PX d M_L_hush Q rc2 rs3 5 [vR (900, l0), vI l1, vI l2, vR l3, vU] h1 E)) :
    PW d M_L_hush Q rc rs 0 [vR (900, l0), vI l1, vI l2, vR l3, vU] [] h := by
  refine P_aload_n (pc := 0) dL_hush_0 rfl ?_
  refine P_iconst (v := (0 : Int32)) (pc := 1) dL_hush_1 (by decide) ?_
  refine P_aload_n (pc := 2) dL_hush_2 rfl ?_
  refine P_iload_n (pc := 3) dL_hush_3 rfl ?_
  refine P_iload_n (pc := 4) dL_hush_4 rfl ?_
  obtain ⟨⟨w9, e9⟩, d2, nc, ns, rc2, rs3, Qc, g1, rfl, rfl, g2, kk, kx⟩ := k
  refine P_callV (ci := 9) (k := 0) (id := l0) (q := (RX9, TX9, 18)) (As := [vI l1, vI l2]) (st := [vI (0 : Int32), vR l3]) (pc := 5) dL_hush_5 mk_X9_hush l_L_64 im_X9_hush se_X9_hush ini_X9 rfl g1 (Nat.le_of_ble_eq_true rfl) rfl rfl (by decide) e9 rfl g2 (fun v9 h9 q9 => ?_) (fun E h9 q9 => kx E h9 q9)
  obtain ⟨x4, rfl, k⟩ := kk v9 h9 q9
  clear kk kx g1 g2 q9
  refine P_i2l (pc := 8) dL_hush_8 ?_
  obtain ⟨n9, f9, e9, i9, k⟩ := k
  refine P_last (pc := 9) dL_hush_9 e9 i9 ?_
  clear e9
  refine P_goto (tgt := 21) (pc := 10) dL_hush_10 (by decide) ?_
  refine P_iconst (v := (0 : Int32)) (pc := 21) dL_hush_21 (by decide) ?_
  exact R_ireturn (pc := 22) dL_hush_22 rfl rfl k
-- L_seat seat(LFernHeirs;I[J)I
theorem dL_seat_0 : decode cL_seat 0 = .ok (.aload_n 2, 1) := by decide +kernel
theorem dL_seat_1 : decode cL_seat 1 = .ok (.iconst 0, 1) := by decide +kernel
theorem dL_seat_2 : decode cL_seat 2 = .ok (.aload_n 0, 1) := by decide +kernel
theorem dL_seat_3 : decode cL_seat 3 = .ok (.iload_n 1, 1) := by decide +kernel
theorem dL_seat_4 : decode cL_seat 4 = .ok (.invokevirtual 67, 3) := by decide +kernel
theorem dL_seat_7 : decode cL_seat 7 = .ok (.i2l, 1) := by decide +kernel
theorem dL_seat_8 : decode cL_seat 8 = .ok (.lastore, 1) := by decide +kernel
theorem dL_seat_9 : decode cL_seat 9 = .ok (.goto 6, 3) := by decide +kernel
theorem dL_seat_12 : decode cL_seat 12 = .ok (.astore_n 3, 1) := by decide +kernel
theorem dL_seat_15 : decode cL_seat 15 = .ok (.iconst 0, 1) := by decide +kernel
theorem dL_seat_16 : decode cL_seat 16 = .ok (.ireturn, 1) := by decide +kernel
theorem r_L_seat_0 {d rc rs : Nat} {Q : PO → PH → Prop} {h : PH} {l0 : Nat} {l1 : Int32} {l2 : LA}
    (k : isO h 10900 l0 ∧ cl d rc rs M_X9_seat [vR (900, l0), vI l1] h (kI fun x4 h1 rc2 rs3 => yL h1 l2 (0 : Int32) (x4.toInt64) fun h5 => Q (.inl (some (vI (0 : Int32)))) h5) (fun E h1 rc2 rs3 => PX d M_L_seat Q rc2 rs3 4 [vR (900, l0), vI l1, vR l2, vU] h1 E)) :
    PW d M_L_seat Q rc rs 0 [vR (900, l0), vI l1, vR l2, vU] [] h := by
  refine P_aload_n (pc := 0) dL_seat_0 rfl ?_
  refine P_iconst (v := (0 : Int32)) (pc := 1) dL_seat_1 (by decide) ?_
  refine P_aload_n (pc := 2) dL_seat_2 rfl ?_
  refine P_iload_n (pc := 3) dL_seat_3 rfl ?_
  obtain ⟨⟨w9, e9⟩, d2, nc, ns, rc2, rs3, Qc, g1, rfl, rfl, g2, kk, kx⟩ := k
  refine P_callV (ci := 9) (k := 0) (id := l0) (q := (RX9, TX9, 18)) (As := [vI l1]) (st := [vI (0 : Int32), vR l2]) (pc := 4) dL_seat_4 mk_X9_seat l_L_67 im_X9_seat se_X9_seat ini_X9 rfl g1 (Nat.le_of_ble_eq_true rfl) rfl rfl (by decide) e9 rfl g2 (fun v9 h9 q9 => ?_) (fun E h9 q9 => kx E h9 q9)
  obtain ⟨x4, rfl, k⟩ := kk v9 h9 q9
  clear kk kx g1 g2 q9
  refine P_i2l (pc := 7) dL_seat_7 ?_
  obtain ⟨n9, f9, e9, i9, k⟩ := k
  refine P_last (pc := 8) dL_seat_8 e9 i9 ?_
  clear e9
  refine P_goto (tgt := 15) (pc := 9) dL_seat_9 (by decide) ?_
  refine P_iconst (v := (0 : Int32)) (pc := 15) dL_seat_15 (by decide) ?_
  exact R_ireturn (pc := 16) dL_seat_16 rfl rfl k
-- L_fits fits(LFernHeirs;II[J)I
theorem dL_fits_0 : decode cL_fits 0 = .ok (.aload_n 3, 1) := by decide +kernel
theorem dL_fits_1 : decode cL_fits 1 = .ok (.iconst 0, 1) := by decide +kernel
theorem dL_fits_2 : decode cL_fits 2 = .ok (.aload_n 0, 1) := by decide +kernel
theorem dL_fits_3 : decode cL_fits 3 = .ok (.iload_n 1, 1) := by decide +kernel
theorem dL_fits_4 : decode cL_fits 4 = .ok (.iload_n 2, 1) := by decide +kernel
theorem dL_fits_5 : decode cL_fits 5 = .ok (.invokevirtual 70, 3) := by decide +kernel
theorem dL_fits_8 : decode cL_fits 8 = .ok (.i2l, 1) := by decide +kernel
theorem dL_fits_9 : decode cL_fits 9 = .ok (.lastore, 1) := by decide +kernel
theorem dL_fits_10 : decode cL_fits 10 = .ok (.goto 11, 3) := by decide +kernel
theorem dL_fits_13 : decode cL_fits 13 = .ok (.astore 4, 2) := by decide +kernel
theorem dL_fits_17 : decode cL_fits 17 = .ok (.astore 4, 2) := by decide +kernel
theorem dL_fits_21 : decode cL_fits 21 = .ok (.iconst 0, 1) := by decide +kernel
theorem dL_fits_22 : decode cL_fits 22 = .ok (.ireturn, 1) := by decide +kernel
theorem r_L_fits_0 {d rc rs : Nat} {Q : PO → PH → Prop} {h : PH} {l0 : Nat} {l1 : Int32} {l2 : Int32} {l3 : LA}
    (k : isO h 10900 l0 ∧ cl d rc rs M_X9_fits [vR (900, l0), vI l1, vI l2] h (kI fun x4 h1 rc2 rs3 => yL h1 l3 (0 : Int32) (x4.toInt64) fun h5 => Q (.inl (some (vI (0 : Int32)))) h5) (fun E h1 rc2 rs3 => PX d M_L_fits Q rc2 rs3 5 [vR (900, l0), vI l1, vI l2, vR l3, vU] h1 E)) :
    PW d M_L_fits Q rc rs 0 [vR (900, l0), vI l1, vI l2, vR l3, vU] [] h := by
  refine P_aload_n (pc := 0) dL_fits_0 rfl ?_
  refine P_iconst (v := (0 : Int32)) (pc := 1) dL_fits_1 (by decide) ?_
  refine P_aload_n (pc := 2) dL_fits_2 rfl ?_
  refine P_iload_n (pc := 3) dL_fits_3 rfl ?_
  refine P_iload_n (pc := 4) dL_fits_4 rfl ?_
  obtain ⟨⟨w9, e9⟩, d2, nc, ns, rc2, rs3, Qc, g1, rfl, rfl, g2, kk, kx⟩ := k
  refine P_callV (ci := 9) (k := 0) (id := l0) (q := (RX9, TX9, 18)) (As := [vI l1, vI l2]) (st := [vI (0 : Int32), vR l3]) (pc := 5) dL_fits_5 mk_X9_fits l_L_70 im_X9_fits se_X9_fits ini_X9 rfl g1 (Nat.le_of_ble_eq_true rfl) rfl rfl (by decide) e9 rfl g2 (fun v9 h9 q9 => ?_) (fun E h9 q9 => kx E h9 q9)
  obtain ⟨x4, rfl, k⟩ := kk v9 h9 q9
  clear kk kx g1 g2 q9
  refine P_i2l (pc := 8) dL_fits_8 ?_
  obtain ⟨n9, f9, e9, i9, k⟩ := k
  refine P_last (pc := 9) dL_fits_9 e9 i9 ?_
  clear e9
  refine P_goto (tgt := 21) (pc := 10) dL_fits_10 (by decide) ?_
  refine P_iconst (v := (0 : Int32)) (pc := 21) dL_fits_21 (by decide) ?_
  exact R_ireturn (pc := 22) dL_fits_22 rfl rfl k
-- L_look look(LFernHeirs;II[J)I
theorem dL_look_0 : decode cL_look 0 = .ok (.aload_n 3, 1) := by decide +kernel
theorem dL_look_1 : decode cL_look 1 = .ok (.iconst 0, 1) := by decide +kernel
theorem dL_look_2 : decode cL_look 2 = .ok (.aload_n 0, 1) := by decide +kernel
theorem dL_look_3 : decode cL_look 3 = .ok (.iload_n 1, 1) := by decide +kernel
theorem dL_look_4 : decode cL_look 4 = .ok (.iload_n 2, 1) := by decide +kernel
theorem dL_look_5 : decode cL_look 5 = .ok (.invokevirtual 73, 3) := by decide +kernel
theorem dL_look_8 : decode cL_look 8 = .ok (.i2l, 1) := by decide +kernel
theorem dL_look_9 : decode cL_look 9 = .ok (.lastore, 1) := by decide +kernel
theorem dL_look_10 : decode cL_look 10 = .ok (.goto 11, 3) := by decide +kernel
theorem dL_look_13 : decode cL_look 13 = .ok (.astore 4, 2) := by decide +kernel
theorem dL_look_17 : decode cL_look 17 = .ok (.astore 4, 2) := by decide +kernel
theorem dL_look_21 : decode cL_look 21 = .ok (.iconst 0, 1) := by decide +kernel
theorem dL_look_22 : decode cL_look 22 = .ok (.ireturn, 1) := by decide +kernel
theorem r_L_look_0 {d rc rs : Nat} {Q : PO → PH → Prop} {h : PH} {l0 : Nat} {l1 : Int32} {l2 : Int32} {l3 : LA}
    (k : isO h 10900 l0 ∧ cl d rc rs M_X9_look [vR (900, l0), vI l1, vI l2] h (kI fun x4 h1 rc2 rs3 => yL h1 l3 (0 : Int32) (x4.toInt64) fun h5 => Q (.inl (some (vI (0 : Int32)))) h5) (fun E h1 rc2 rs3 => PX d M_L_look Q rc2 rs3 5 [vR (900, l0), vI l1, vI l2, vR l3, vU] h1 E)) :
    PW d M_L_look Q rc rs 0 [vR (900, l0), vI l1, vI l2, vR l3, vU] [] h := by
  refine P_aload_n (pc := 0) dL_look_0 rfl ?_
  refine P_iconst (v := (0 : Int32)) (pc := 1) dL_look_1 (by decide) ?_
  refine P_aload_n (pc := 2) dL_look_2 rfl ?_
  refine P_iload_n (pc := 3) dL_look_3 rfl ?_
  refine P_iload_n (pc := 4) dL_look_4 rfl ?_
  obtain ⟨⟨w9, e9⟩, d2, nc, ns, rc2, rs3, Qc, g1, rfl, rfl, g2, kk, kx⟩ := k
  refine P_callV (ci := 9) (k := 0) (id := l0) (q := (RX9, TX9, 18)) (As := [vI l1, vI l2]) (st := [vI (0 : Int32), vR l3]) (pc := 5) dL_look_5 mk_X9_look l_L_73 im_X9_look se_X9_look ini_X9 rfl g1 (Nat.le_of_ble_eq_true rfl) rfl rfl (by decide) e9 rfl g2 (fun v9 h9 q9 => ?_) (fun E h9 q9 => kx E h9 q9)
  obtain ⟨x4, rfl, k⟩ := kk v9 h9 q9
  clear kk kx g1 g2 q9
  refine P_i2l (pc := 8) dL_look_8 ?_
  obtain ⟨n9, f9, e9, i9, k⟩ := k
  refine P_last (pc := 9) dL_look_9 e9 i9 ?_
  clear e9
  refine P_goto (tgt := 21) (pc := 10) dL_look_10 (by decide) ?_
  refine P_iconst (v := (0 : Int32)) (pc := 21) dL_look_21 (by decide) ?_
  exact R_ireturn (pc := 22) dL_look_22 rfl rfl k
-- L_lots lots(LFernHeirs;IIII[J)I
theorem dL_lots_0 : decode cL_lots 0 = .ok (.aload 5, 2) := by decide +kernel
theorem dL_lots_2 : decode cL_lots 2 = .ok (.iconst 0, 1) := by decide +kernel
theorem dL_lots_3 : decode cL_lots 3 = .ok (.aload_n 0, 1) := by decide +kernel
theorem dL_lots_4 : decode cL_lots 4 = .ok (.iload_n 1, 1) := by decide +kernel
theorem dL_lots_5 : decode cL_lots 5 = .ok (.iload_n 2, 1) := by decide +kernel
theorem dL_lots_6 : decode cL_lots 6 = .ok (.iload_n 3, 1) := by decide +kernel
theorem dL_lots_7 : decode cL_lots 7 = .ok (.iload 4, 2) := by decide +kernel
theorem dL_lots_9 : decode cL_lots 9 = .ok (.invokevirtual 76, 3) := by decide +kernel
theorem dL_lots_12 : decode cL_lots 12 = .ok (.i2l, 1) := by decide +kernel
theorem dL_lots_13 : decode cL_lots 13 = .ok (.lastore, 1) := by decide +kernel
theorem dL_lots_14 : decode cL_lots 14 = .ok (.goto 7, 3) := by decide +kernel
theorem dL_lots_17 : decode cL_lots 17 = .ok (.astore 6, 2) := by decide +kernel
theorem dL_lots_21 : decode cL_lots 21 = .ok (.iconst 0, 1) := by decide +kernel
theorem dL_lots_22 : decode cL_lots 22 = .ok (.ireturn, 1) := by decide +kernel
theorem r_L_lots_0 {d rc rs : Nat} {Q : PO → PH → Prop} {h : PH} {l0 : Nat} {l1 : Int32} {l2 : Int32} {l3 : Int32} {l4 : Int32} {l5 : LA}
    (k : isO h 10900 l0 ∧ cl d rc rs M_X9_lots [vR (900, l0), vI l1, vI l2, vI l3, vI l4] h (kI fun x4 h1 rc2 rs3 => yL h1 l5 (0 : Int32) (x4.toInt64) fun h5 => Q (.inl (some (vI (0 : Int32)))) h5) (fun E h1 rc2 rs3 => PX d M_L_lots Q rc2 rs3 9 [vR (900, l0), vI l1, vI l2, vI l3, vI l4, vR l5, vU] h1 E)) :
    PW d M_L_lots Q rc rs 0 [vR (900, l0), vI l1, vI l2, vI l3, vI l4, vR l5, vU] [] h := by
  refine P_aload (pc := 0) dL_lots_0 rfl ?_
  refine P_iconst (v := (0 : Int32)) (pc := 2) dL_lots_2 (by decide) ?_
  refine P_aload_n (pc := 3) dL_lots_3 rfl ?_
  refine P_iload_n (pc := 4) dL_lots_4 rfl ?_
  refine P_iload_n (pc := 5) dL_lots_5 rfl ?_
  refine P_iload_n (pc := 6) dL_lots_6 rfl ?_
  refine P_iload (pc := 7) dL_lots_7 rfl ?_
  obtain ⟨⟨w9, e9⟩, d2, nc, ns, rc2, rs3, Qc, g1, rfl, rfl, g2, kk, kx⟩ := k
  refine P_callV (ci := 9) (k := 0) (id := l0) (q := (RX9, TX9, 18)) (As := [vI l1, vI l2, vI l3, vI l4]) (st := [vI (0 : Int32), vR l5]) (pc := 9) dL_lots_9 mk_X9_lots l_L_76 im_X9_lots se_X9_lots ini_X9 rfl g1 (Nat.le_of_ble_eq_true rfl) rfl rfl (by decide) e9 rfl g2 (fun v9 h9 q9 => ?_) (fun E h9 q9 => kx E h9 q9)
  obtain ⟨x4, rfl, k⟩ := kk v9 h9 q9
  clear kk kx g1 g2 q9
  refine P_i2l (pc := 12) dL_lots_12 ?_
  obtain ⟨n9, f9, e9, i9, k⟩ := k
  refine P_last (pc := 13) dL_lots_13 e9 i9 ?_
  clear e9
  refine P_goto (tgt := 21) (pc := 14) dL_lots_14 (by decide) ?_
  refine P_iconst (v := (0 : Int32)) (pc := 21) dL_lots_21 (by decide) ?_
  exact R_ireturn (pc := 22) dL_lots_22 rfl rfl k
-- L_regents regents(LFernHeirs;III[J)I
theorem dL_regents_0 : decode cL_regents 0 = .ok (.aload 4, 2) := by decide +kernel
theorem dL_regents_2 : decode cL_regents 2 = .ok (.iconst 0, 1) := by decide +kernel
theorem dL_regents_3 : decode cL_regents 3 = .ok (.aload_n 0, 1) := by decide +kernel
theorem dL_regents_4 : decode cL_regents 4 = .ok (.iload_n 1, 1) := by decide +kernel
theorem dL_regents_5 : decode cL_regents 5 = .ok (.iload_n 2, 1) := by decide +kernel
theorem dL_regents_6 : decode cL_regents 6 = .ok (.iload_n 3, 1) := by decide +kernel
theorem dL_regents_7 : decode cL_regents 7 = .ok (.invokevirtual 80, 3) := by decide +kernel
theorem dL_regents_10 : decode cL_regents 10 = .ok (.i2l, 1) := by decide +kernel
theorem dL_regents_11 : decode cL_regents 11 = .ok (.lastore, 1) := by decide +kernel
theorem dL_regents_12 : decode cL_regents 12 = .ok (.goto 7, 3) := by decide +kernel
theorem dL_regents_15 : decode cL_regents 15 = .ok (.astore 5, 2) := by decide +kernel
theorem dL_regents_19 : decode cL_regents 19 = .ok (.iconst 0, 1) := by decide +kernel
theorem dL_regents_20 : decode cL_regents 20 = .ok (.ireturn, 1) := by decide +kernel
theorem r_L_regents_0 {d rc rs : Nat} {Q : PO → PH → Prop} {h : PH} {l0 : Nat} {l1 : Int32} {l2 : Int32} {l3 : Int32} {l4 : LA}
    (k : isO h 10900 l0 ∧ cl d rc rs M_X9_regents [vR (900, l0), vI l1, vI l2, vI l3] h (kI fun x4 h1 rc2 rs3 => yL h1 l4 (0 : Int32) (x4.toInt64) fun h5 => Q (.inl (some (vI (0 : Int32)))) h5) (fun E h1 rc2 rs3 => PX d M_L_regents Q rc2 rs3 7 [vR (900, l0), vI l1, vI l2, vI l3, vR l4, vU] h1 E)) :
    PW d M_L_regents Q rc rs 0 [vR (900, l0), vI l1, vI l2, vI l3, vR l4, vU] [] h := by
  refine P_aload (pc := 0) dL_regents_0 rfl ?_
  refine P_iconst (v := (0 : Int32)) (pc := 2) dL_regents_2 (by decide) ?_
  refine P_aload_n (pc := 3) dL_regents_3 rfl ?_
  refine P_iload_n (pc := 4) dL_regents_4 rfl ?_
  refine P_iload_n (pc := 5) dL_regents_5 rfl ?_
  refine P_iload_n (pc := 6) dL_regents_6 rfl ?_
  obtain ⟨⟨w9, e9⟩, d2, nc, ns, rc2, rs3, Qc, g1, rfl, rfl, g2, kk, kx⟩ := k
  refine P_callV (ci := 9) (k := 0) (id := l0) (q := (RX9, TX9, 18)) (As := [vI l1, vI l2, vI l3]) (st := [vI (0 : Int32), vR l4]) (pc := 7) dL_regents_7 mk_X9_regents l_L_80 im_X9_regents se_X9_regents ini_X9 rfl g1 (Nat.le_of_ble_eq_true rfl) rfl rfl (by decide) e9 rfl g2 (fun v9 h9 q9 => ?_) (fun E h9 q9 => kx E h9 q9)
  obtain ⟨x4, rfl, k⟩ := kk v9 h9 q9
  clear kk kx g1 g2 q9
  refine P_i2l (pc := 10) dL_regents_10 ?_
  obtain ⟨n9, f9, e9, i9, k⟩ := k
  refine P_last (pc := 11) dL_regents_11 e9 i9 ?_
  clear e9
  refine P_goto (tgt := 19) (pc := 12) dL_regents_12 (by decide) ?_
  refine P_iconst (v := (0 : Int32)) (pc := 19) dL_regents_19 (by decide) ?_
  exact R_ireturn (pc := 20) dL_regents_20 rfl rfl k
-- L_moss moss(LFernHeirs;III[J)I
theorem dL_moss_0 : decode cL_moss 0 = .ok (.aload 4, 2) := by decide +kernel
theorem dL_moss_2 : decode cL_moss 2 = .ok (.iconst 0, 1) := by decide +kernel
theorem dL_moss_3 : decode cL_moss 3 = .ok (.aload_n 0, 1) := by decide +kernel
theorem dL_moss_4 : decode cL_moss 4 = .ok (.iload_n 1, 1) := by decide +kernel
theorem dL_moss_5 : decode cL_moss 5 = .ok (.iload_n 2, 1) := by decide +kernel
theorem dL_moss_6 : decode cL_moss 6 = .ok (.iload_n 3, 1) := by decide +kernel
theorem dL_moss_7 : decode cL_moss 7 = .ok (.invokevirtual 84, 3) := by decide +kernel
theorem dL_moss_10 : decode cL_moss 10 = .ok (.i2l, 1) := by decide +kernel
theorem dL_moss_11 : decode cL_moss 11 = .ok (.lastore, 1) := by decide +kernel
theorem dL_moss_12 : decode cL_moss 12 = .ok (.goto 11, 3) := by decide +kernel
theorem dL_moss_15 : decode cL_moss 15 = .ok (.astore 5, 2) := by decide +kernel
theorem dL_moss_19 : decode cL_moss 19 = .ok (.astore 5, 2) := by decide +kernel
theorem dL_moss_23 : decode cL_moss 23 = .ok (.iconst 0, 1) := by decide +kernel
theorem dL_moss_24 : decode cL_moss 24 = .ok (.ireturn, 1) := by decide +kernel
theorem r_L_moss_0 {d rc rs : Nat} {Q : PO → PH → Prop} {h : PH} {l0 : Nat} {l1 : Int32} {l2 : Int32} {l3 : Int32} {l4 : LA}
    (k : isO h 10900 l0 ∧ cl d rc rs M_X9_moss [vR (900, l0), vI l1, vI l2, vI l3] h (kI fun x4 h1 rc2 rs3 => yL h1 l4 (0 : Int32) (x4.toInt64) fun h5 => Q (.inl (some (vI (0 : Int32)))) h5) (fun E h1 rc2 rs3 => PX d M_L_moss Q rc2 rs3 7 [vR (900, l0), vI l1, vI l2, vI l3, vR l4, vU] h1 E)) :
    PW d M_L_moss Q rc rs 0 [vR (900, l0), vI l1, vI l2, vI l3, vR l4, vU] [] h := by
  refine P_aload (pc := 0) dL_moss_0 rfl ?_
  refine P_iconst (v := (0 : Int32)) (pc := 2) dL_moss_2 (by decide) ?_
  refine P_aload_n (pc := 3) dL_moss_3 rfl ?_
  refine P_iload_n (pc := 4) dL_moss_4 rfl ?_
  refine P_iload_n (pc := 5) dL_moss_5 rfl ?_
  refine P_iload_n (pc := 6) dL_moss_6 rfl ?_
  obtain ⟨⟨w9, e9⟩, d2, nc, ns, rc2, rs3, Qc, g1, rfl, rfl, g2, kk, kx⟩ := k
  refine P_callV (ci := 9) (k := 0) (id := l0) (q := (RX9, TX9, 18)) (As := [vI l1, vI l2, vI l3]) (st := [vI (0 : Int32), vR l4]) (pc := 7) dL_moss_7 mk_X9_moss l_L_84 im_X9_moss se_X9_moss ini_X9 rfl g1 (Nat.le_of_ble_eq_true rfl) rfl rfl (by decide) e9 rfl g2 (fun v9 h9 q9 => ?_) (fun E h9 q9 => kx E h9 q9)
  obtain ⟨x4, rfl, k⟩ := kk v9 h9 q9
  clear kk kx g1 g2 q9
  refine P_i2l (pc := 10) dL_moss_10 ?_
  obtain ⟨n9, f9, e9, i9, k⟩ := k
  refine P_last (pc := 11) dL_moss_11 e9 i9 ?_
  clear e9
  refine P_goto (tgt := 23) (pc := 12) dL_moss_12 (by decide) ?_
  refine P_iconst (v := (0 : Int32)) (pc := 23) dL_moss_23 (by decide) ?_
  exact R_ireturn (pc := 24) dL_moss_24 rfl rfl k
-- L_backward backward(LFernHeirs;I[J)I
theorem dL_backward_0 : decode cL_backward 0 = .ok (.aload_n 2, 1) := by decide +kernel
theorem dL_backward_1 : decode cL_backward 1 = .ok (.iconst 0, 1) := by decide +kernel
theorem dL_backward_2 : decode cL_backward 2 = .ok (.aload_n 0, 1) := by decide +kernel
theorem dL_backward_3 : decode cL_backward 3 = .ok (.iload_n 1, 1) := by decide +kernel
theorem dL_backward_4 : decode cL_backward 4 = .ok (.invokevirtual 87, 3) := by decide +kernel
theorem dL_backward_7 : decode cL_backward 7 = .ok (.i2l, 1) := by decide +kernel
theorem dL_backward_8 : decode cL_backward 8 = .ok (.lastore, 1) := by decide +kernel
theorem dL_backward_9 : decode cL_backward 9 = .ok (.goto 6, 3) := by decide +kernel
theorem dL_backward_12 : decode cL_backward 12 = .ok (.astore_n 3, 1) := by decide +kernel
theorem dL_backward_15 : decode cL_backward 15 = .ok (.iconst 0, 1) := by decide +kernel
theorem dL_backward_16 : decode cL_backward 16 = .ok (.ireturn, 1) := by decide +kernel
theorem r_L_backward_0 {d rc rs : Nat} {Q : PO → PH → Prop} {h : PH} {l0 : Nat} {l1 : Int32} {l2 : LA}
    (k : isO h 10900 l0 ∧ cl d rc rs M_X9_backward [vR (900, l0), vI l1] h (kI fun x4 h1 rc2 rs3 => yL h1 l2 (0 : Int32) (x4.toInt64) fun h5 => Q (.inl (some (vI (0 : Int32)))) h5) (fun E h1 rc2 rs3 => PX d M_L_backward Q rc2 rs3 4 [vR (900, l0), vI l1, vR l2, vU] h1 E)) :
    PW d M_L_backward Q rc rs 0 [vR (900, l0), vI l1, vR l2, vU] [] h := by
  refine P_aload_n (pc := 0) dL_backward_0 rfl ?_
  refine P_iconst (v := (0 : Int32)) (pc := 1) dL_backward_1 (by decide) ?_
  refine P_aload_n (pc := 2) dL_backward_2 rfl ?_
  refine P_iload_n (pc := 3) dL_backward_3 rfl ?_
  obtain ⟨⟨w9, e9⟩, d2, nc, ns, rc2, rs3, Qc, g1, rfl, rfl, g2, kk, kx⟩ := k
  refine P_callV (ci := 9) (k := 0) (id := l0) (q := (RX9, TX9, 18)) (As := [vI l1]) (st := [vI (0 : Int32), vR l2]) (pc := 4) dL_backward_4 mk_X9_backward l_L_87 im_X9_backward se_X9_backward ini_X9 rfl g1 (Nat.le_of_ble_eq_true rfl) rfl rfl (by decide) e9 rfl g2 (fun v9 h9 q9 => ?_) (fun E h9 q9 => kx E h9 q9)
  obtain ⟨x4, rfl, k⟩ := kk v9 h9 q9
  clear kk kx g1 g2 q9
  refine P_i2l (pc := 7) dL_backward_7 ?_
  obtain ⟨n9, f9, e9, i9, k⟩ := k
  refine P_last (pc := 8) dL_backward_8 e9 i9 ?_
  clear e9
  refine P_goto (tgt := 15) (pc := 9) dL_backward_9 (by decide) ?_
  refine P_iconst (v := (0 : Int32)) (pc := 15) dL_backward_15 (by decide) ?_
  exact R_ireturn (pc := 16) dL_backward_16 rfl rfl k
-- L_greenest greenest(LFernHeirs;I[J)I
theorem dL_greenest_0 : decode cL_greenest 0 = .ok (.aload_n 2, 1) := by decide +kernel
theorem dL_greenest_1 : decode cL_greenest 1 = .ok (.iconst 0, 1) := by decide +kernel
theorem dL_greenest_2 : decode cL_greenest 2 = .ok (.aload_n 0, 1) := by decide +kernel
theorem dL_greenest_3 : decode cL_greenest 3 = .ok (.iload_n 1, 1) := by decide +kernel
theorem dL_greenest_4 : decode cL_greenest 4 = .ok (.invokevirtual 90, 3) := by decide +kernel
theorem dL_greenest_7 : decode cL_greenest 7 = .ok (.i2l, 1) := by decide +kernel
theorem dL_greenest_8 : decode cL_greenest 8 = .ok (.lastore, 1) := by decide +kernel
theorem dL_greenest_9 : decode cL_greenest 9 = .ok (.goto 6, 3) := by decide +kernel
theorem dL_greenest_12 : decode cL_greenest 12 = .ok (.astore_n 3, 1) := by decide +kernel
theorem dL_greenest_15 : decode cL_greenest 15 = .ok (.iconst 0, 1) := by decide +kernel
theorem dL_greenest_16 : decode cL_greenest 16 = .ok (.ireturn, 1) := by decide +kernel
theorem r_L_greenest_0 {d rc rs : Nat} {Q : PO → PH → Prop} {h : PH} {l0 : Nat} {l1 : Int32} {l2 : LA}
    (k : isO h 10900 l0 ∧ cl d rc rs M_X9_greenest [vR (900, l0), vI l1] h (kI fun x4 h1 rc2 rs3 => yL h1 l2 (0 : Int32) (x4.toInt64) fun h5 => Q (.inl (some (vI (0 : Int32)))) h5) (fun E h1 rc2 rs3 => PX d M_L_greenest Q rc2 rs3 4 [vR (900, l0), vI l1, vR l2, vU] h1 E)) :
    PW d M_L_greenest Q rc rs 0 [vR (900, l0), vI l1, vR l2, vU] [] h := by
  refine P_aload_n (pc := 0) dL_greenest_0 rfl ?_
  refine P_iconst (v := (0 : Int32)) (pc := 1) dL_greenest_1 (by decide) ?_
  refine P_aload_n (pc := 2) dL_greenest_2 rfl ?_
  refine P_iload_n (pc := 3) dL_greenest_3 rfl ?_
  obtain ⟨⟨w9, e9⟩, d2, nc, ns, rc2, rs3, Qc, g1, rfl, rfl, g2, kk, kx⟩ := k
  refine P_callV (ci := 9) (k := 0) (id := l0) (q := (RX9, TX9, 18)) (As := [vI l1]) (st := [vI (0 : Int32), vR l2]) (pc := 4) dL_greenest_4 mk_X9_greenest l_L_90 im_X9_greenest se_X9_greenest ini_X9 rfl g1 (Nat.le_of_ble_eq_true rfl) rfl rfl (by decide) e9 rfl g2 (fun v9 h9 q9 => ?_) (fun E h9 q9 => kx E h9 q9)
  obtain ⟨x4, rfl, k⟩ := kk v9 h9 q9
  clear kk kx g1 g2 q9
  refine P_i2l (pc := 7) dL_greenest_7 ?_
  obtain ⟨n9, f9, e9, i9, k⟩ := k
  refine P_last (pc := 8) dL_greenest_8 e9 i9 ?_
  clear e9
  refine P_goto (tgt := 15) (pc := 9) dL_greenest_9 (by decide) ?_
  refine P_iconst (v := (0 : Int32)) (pc := 15) dL_greenest_15 (by decide) ?_
  exact R_ireturn (pc := 16) dL_greenest_16 rfl rfl k
-- L_ear ear(LFernHeirs;I[J)I
theorem dL_ear_0 : decode cL_ear 0 = .ok (.aload_n 2, 1) := by decide +kernel
theorem dL_ear_1 : decode cL_ear 1 = .ok (.iconst 0, 1) := by decide +kernel
theorem dL_ear_2 : decode cL_ear 2 = .ok (.aload_n 0, 1) := by decide +kernel
theorem dL_ear_3 : decode cL_ear 3 = .ok (.iload_n 1, 1) := by decide +kernel
theorem dL_ear_4 : decode cL_ear 4 = .ok (.invokevirtual 93, 3) := by decide +kernel
theorem dL_ear_7 : decode cL_ear 7 = .ok (.i2l, 1) := by decide +kernel
theorem dL_ear_8 : decode cL_ear 8 = .ok (.lastore, 1) := by decide +kernel
theorem dL_ear_9 : decode cL_ear 9 = .ok (.goto 6, 3) := by decide +kernel
theorem dL_ear_12 : decode cL_ear 12 = .ok (.astore_n 3, 1) := by decide +kernel
theorem dL_ear_15 : decode cL_ear 15 = .ok (.iconst 0, 1) := by decide +kernel
theorem dL_ear_16 : decode cL_ear 16 = .ok (.ireturn, 1) := by decide +kernel
theorem r_L_ear_0 {d rc rs : Nat} {Q : PO → PH → Prop} {h : PH} {l0 : Nat} {l1 : Int32} {l2 : LA}
    (k : isO h 10900 l0 ∧ cl d rc rs M_X9_ear [vR (900, l0), vI l1] h (kI fun x4 h1 rc2 rs3 => yL h1 l2 (0 : Int32) (x4.toInt64) fun h5 => Q (.inl (some (vI (0 : Int32)))) h5) (fun E h1 rc2 rs3 => PX d M_L_ear Q rc2 rs3 4 [vR (900, l0), vI l1, vR l2, vU] h1 E)) :
    PW d M_L_ear Q rc rs 0 [vR (900, l0), vI l1, vR l2, vU] [] h := by
  refine P_aload_n (pc := 0) dL_ear_0 rfl ?_
  refine P_iconst (v := (0 : Int32)) (pc := 1) dL_ear_1 (by decide) ?_
  refine P_aload_n (pc := 2) dL_ear_2 rfl ?_
  refine P_iload_n (pc := 3) dL_ear_3 rfl ?_
  obtain ⟨⟨w9, e9⟩, d2, nc, ns, rc2, rs3, Qc, g1, rfl, rfl, g2, kk, kx⟩ := k
  refine P_callV (ci := 9) (k := 0) (id := l0) (q := (RX9, TX9, 18)) (As := [vI l1]) (st := [vI (0 : Int32), vR l2]) (pc := 4) dL_ear_4 mk_X9_ear l_L_93 im_X9_ear se_X9_ear ini_X9 rfl g1 (Nat.le_of_ble_eq_true rfl) rfl rfl (by decide) e9 rfl g2 (fun v9 h9 q9 => ?_) (fun E h9 q9 => kx E h9 q9)
  obtain ⟨x4, rfl, k⟩ := kk v9 h9 q9
  clear kk kx g1 g2 q9
  refine P_i2l (pc := 7) dL_ear_7 ?_
  obtain ⟨n9, f9, e9, i9, k⟩ := k
  refine P_last (pc := 8) dL_ear_8 e9 i9 ?_
  clear e9
  refine P_goto (tgt := 15) (pc := 9) dL_ear_9 (by decide) ?_
  refine P_iconst (v := (0 : Int32)) (pc := 15) dL_ear_15 (by decide) ?_
  exact R_ireturn (pc := 16) dL_ear_16 rfl rfl k
-- L_stalest stalest(LFernHeirs;I[J)I
theorem dL_stalest_0 : decode cL_stalest 0 = .ok (.aload_n 2, 1) := by decide +kernel
theorem dL_stalest_1 : decode cL_stalest 1 = .ok (.iconst 0, 1) := by decide +kernel
theorem dL_stalest_2 : decode cL_stalest 2 = .ok (.aload_n 0, 1) := by decide +kernel
theorem dL_stalest_3 : decode cL_stalest 3 = .ok (.iload_n 1, 1) := by decide +kernel
theorem dL_stalest_4 : decode cL_stalest 4 = .ok (.invokevirtual 96, 3) := by decide +kernel
theorem dL_stalest_7 : decode cL_stalest 7 = .ok (.i2l, 1) := by decide +kernel
theorem dL_stalest_8 : decode cL_stalest 8 = .ok (.lastore, 1) := by decide +kernel
theorem dL_stalest_9 : decode cL_stalest 9 = .ok (.goto 6, 3) := by decide +kernel
theorem dL_stalest_12 : decode cL_stalest 12 = .ok (.astore_n 3, 1) := by decide +kernel
theorem dL_stalest_15 : decode cL_stalest 15 = .ok (.iconst 0, 1) := by decide +kernel
theorem dL_stalest_16 : decode cL_stalest 16 = .ok (.ireturn, 1) := by decide +kernel
theorem r_L_stalest_0 {d rc rs : Nat} {Q : PO → PH → Prop} {h : PH} {l0 : Nat} {l1 : Int32} {l2 : LA}
    (k : isO h 10900 l0 ∧ cl d rc rs M_X9_stalest [vR (900, l0), vI l1] h (kI fun x4 h1 rc2 rs3 => yL h1 l2 (0 : Int32) (x4.toInt64) fun h5 => Q (.inl (some (vI (0 : Int32)))) h5) (fun E h1 rc2 rs3 => PX d M_L_stalest Q rc2 rs3 4 [vR (900, l0), vI l1, vR l2, vU] h1 E)) :
    PW d M_L_stalest Q rc rs 0 [vR (900, l0), vI l1, vR l2, vU] [] h := by
  refine P_aload_n (pc := 0) dL_stalest_0 rfl ?_
  refine P_iconst (v := (0 : Int32)) (pc := 1) dL_stalest_1 (by decide) ?_
  refine P_aload_n (pc := 2) dL_stalest_2 rfl ?_
  refine P_iload_n (pc := 3) dL_stalest_3 rfl ?_
  obtain ⟨⟨w9, e9⟩, d2, nc, ns, rc2, rs3, Qc, g1, rfl, rfl, g2, kk, kx⟩ := k
  refine P_callV (ci := 9) (k := 0) (id := l0) (q := (RX9, TX9, 18)) (As := [vI l1]) (st := [vI (0 : Int32), vR l2]) (pc := 4) dL_stalest_4 mk_X9_stalest l_L_96 im_X9_stalest se_X9_stalest ini_X9 rfl g1 (Nat.le_of_ble_eq_true rfl) rfl rfl (by decide) e9 rfl g2 (fun v9 h9 q9 => ?_) (fun E h9 q9 => kx E h9 q9)
  obtain ⟨x4, rfl, k⟩ := kk v9 h9 q9
  clear kk kx g1 g2 q9
  refine P_i2l (pc := 7) dL_stalest_7 ?_
  obtain ⟨n9, f9, e9, i9, k⟩ := k
  refine P_last (pc := 8) dL_stalest_8 e9 i9 ?_
  clear e9
  refine P_goto (tgt := 15) (pc := 9) dL_stalest_9 (by decide) ?_
  refine P_iconst (v := (0 : Int32)) (pc := 15) dL_stalest_15 (by decide) ?_
  exact R_ireturn (pc := 16) dL_stalest_16 rfl rfl k
-- L_coughs coughs(LFernHeirs;II[J)I
theorem dL_coughs_0 : decode cL_coughs 0 = .ok (.aload_n 3, 1) := by decide +kernel
theorem dL_coughs_1 : decode cL_coughs 1 = .ok (.iconst 0, 1) := by decide +kernel
theorem dL_coughs_2 : decode cL_coughs 2 = .ok (.aload_n 0, 1) := by decide +kernel
theorem dL_coughs_3 : decode cL_coughs 3 = .ok (.iload_n 1, 1) := by decide +kernel
theorem dL_coughs_4 : decode cL_coughs 4 = .ok (.iload_n 2, 1) := by decide +kernel
theorem dL_coughs_5 : decode cL_coughs 5 = .ok (.invokevirtual 99, 3) := by decide +kernel
theorem dL_coughs_8 : decode cL_coughs 8 = .ok (.i2l, 1) := by decide +kernel
theorem dL_coughs_9 : decode cL_coughs 9 = .ok (.lastore, 1) := by decide +kernel
theorem dL_coughs_10 : decode cL_coughs 10 = .ok (.goto 11, 3) := by decide +kernel
theorem dL_coughs_13 : decode cL_coughs 13 = .ok (.astore 4, 2) := by decide +kernel
theorem dL_coughs_17 : decode cL_coughs 17 = .ok (.astore 4, 2) := by decide +kernel
theorem dL_coughs_21 : decode cL_coughs 21 = .ok (.iconst 0, 1) := by decide +kernel
theorem dL_coughs_22 : decode cL_coughs 22 = .ok (.ireturn, 1) := by decide +kernel
theorem r_L_coughs_0 {d rc rs : Nat} {Q : PO → PH → Prop} {h : PH} {l0 : Nat} {l1 : Int32} {l2 : Int32} {l3 : LA}
    (k : isO h 10900 l0 ∧ cl d rc rs M_X9_coughs [vR (900, l0), vI l1, vI l2] h (kI fun x4 h1 rc2 rs3 => yL h1 l3 (0 : Int32) (x4.toInt64) fun h5 => Q (.inl (some (vI (0 : Int32)))) h5) (fun E h1 rc2 rs3 => PX d M_L_coughs Q rc2 rs3 5 [vR (900, l0), vI l1, vI l2, vR l3, vU] h1 E)) :
    PW d M_L_coughs Q rc rs 0 [vR (900, l0), vI l1, vI l2, vR l3, vU] [] h := by
  refine P_aload_n (pc := 0) dL_coughs_0 rfl ?_
  refine P_iconst (v := (0 : Int32)) (pc := 1) dL_coughs_1 (by decide) ?_
  refine P_aload_n (pc := 2) dL_coughs_2 rfl ?_
  refine P_iload_n (pc := 3) dL_coughs_3 rfl ?_
  refine P_iload_n (pc := 4) dL_coughs_4 rfl ?_
  obtain ⟨⟨w9, e9⟩, d2, nc, ns, rc2, rs3, Qc, g1, rfl, rfl, g2, kk, kx⟩ := k
  refine P_callV (ci := 9) (k := 0) (id := l0) (q := (RX9, TX9, 18)) (As := [vI l1, vI l2]) (st := [vI (0 : Int32), vR l3]) (pc := 5) dL_coughs_5 mk_X9_coughs l_L_99 im_X9_coughs se_X9_coughs ini_X9 rfl g1 (Nat.le_of_ble_eq_true rfl) rfl rfl (by decide) e9 rfl g2 (fun v9 h9 q9 => ?_) (fun E h9 q9 => kx E h9 q9)
  obtain ⟨x4, rfl, k⟩ := kk v9 h9 q9
  clear kk kx g1 g2 q9
  refine P_i2l (pc := 8) dL_coughs_8 ?_
  obtain ⟨n9, f9, e9, i9, k⟩ := k
  refine P_last (pc := 9) dL_coughs_9 e9 i9 ?_
  clear e9
  refine P_goto (tgt := 21) (pc := 10) dL_coughs_10 (by decide) ?_
  refine P_iconst (v := (0 : Int32)) (pc := 21) dL_coughs_21 (by decide) ?_
  exact R_ireturn (pc := 22) dL_coughs_22 rfl rfl k
-- L_twins twins(LFernHeirs;I[J)I
theorem dL_twins_0 : decode cL_twins 0 = .ok (.aload_n 2, 1) := by decide +kernel
theorem dL_twins_1 : decode cL_twins 1 = .ok (.iconst 0, 1) := by decide +kernel
theorem dL_twins_2 : decode cL_twins 2 = .ok (.aload_n 0, 1) := by decide +kernel
theorem dL_twins_3 : decode cL_twins 3 = .ok (.iload_n 1, 1) := by decide +kernel
theorem dL_twins_4 : decode cL_twins 4 = .ok (.invokevirtual 102, 3) := by decide +kernel
theorem dL_twins_7 : decode cL_twins 7 = .ok (.i2l, 1) := by decide +kernel
theorem dL_twins_8 : decode cL_twins 8 = .ok (.lastore, 1) := by decide +kernel
theorem dL_twins_9 : decode cL_twins 9 = .ok (.goto 6, 3) := by decide +kernel
theorem dL_twins_12 : decode cL_twins 12 = .ok (.astore_n 3, 1) := by decide +kernel
theorem dL_twins_15 : decode cL_twins 15 = .ok (.iconst 0, 1) := by decide +kernel
theorem dL_twins_16 : decode cL_twins 16 = .ok (.ireturn, 1) := by decide +kernel
theorem r_L_twins_0 {d rc rs : Nat} {Q : PO → PH → Prop} {h : PH} {l0 : Nat} {l1 : Int32} {l2 : LA}
    (k : isO h 10900 l0 ∧ cl d rc rs M_X9_twins [vR (900, l0), vI l1] h (kI fun x4 h1 rc2 rs3 => yL h1 l2 (0 : Int32) (x4.toInt64) fun h5 => Q (.inl (some (vI (0 : Int32)))) h5) (fun E h1 rc2 rs3 => PX d M_L_twins Q rc2 rs3 4 [vR (900, l0), vI l1, vR l2, vU] h1 E)) :
    PW d M_L_twins Q rc rs 0 [vR (900, l0), vI l1, vR l2, vU] [] h := by
  refine P_aload_n (pc := 0) dL_twins_0 rfl ?_
  refine P_iconst (v := (0 : Int32)) (pc := 1) dL_twins_1 (by decide) ?_
  refine P_aload_n (pc := 2) dL_twins_2 rfl ?_
  refine P_iload_n (pc := 3) dL_twins_3 rfl ?_
  obtain ⟨⟨w9, e9⟩, d2, nc, ns, rc2, rs3, Qc, g1, rfl, rfl, g2, kk, kx⟩ := k
  refine P_callV (ci := 9) (k := 0) (id := l0) (q := (RX9, TX9, 18)) (As := [vI l1]) (st := [vI (0 : Int32), vR l2]) (pc := 4) dL_twins_4 mk_X9_twins l_L_102 im_X9_twins se_X9_twins ini_X9 rfl g1 (Nat.le_of_ble_eq_true rfl) rfl rfl (by decide) e9 rfl g2 (fun v9 h9 q9 => ?_) (fun E h9 q9 => kx E h9 q9)
  obtain ⟨x4, rfl, k⟩ := kk v9 h9 q9
  clear kk kx g1 g2 q9
  refine P_i2l (pc := 7) dL_twins_7 ?_
  obtain ⟨n9, f9, e9, i9, k⟩ := k
  refine P_last (pc := 8) dL_twins_8 e9 i9 ?_
  clear e9
  refine P_goto (tgt := 15) (pc := 9) dL_twins_9 (by decide) ?_
  refine P_iconst (v := (0 : Int32)) (pc := 15) dL_twins_15 (by decide) ?_
  exact R_ireturn (pc := 16) dL_twins_16 rfl rfl k
-- L_gossip gossip(LFernHeirs;I[J)I
theorem dL_gossip_0 : decode cL_gossip 0 = .ok (.aload_n 2, 1) := by decide +kernel
theorem dL_gossip_1 : decode cL_gossip 1 = .ok (.iconst 0, 1) := by decide +kernel
theorem dL_gossip_2 : decode cL_gossip 2 = .ok (.aload_n 0, 1) := by decide +kernel
theorem dL_gossip_3 : decode cL_gossip 3 = .ok (.iload_n 1, 1) := by decide +kernel
theorem dL_gossip_4 : decode cL_gossip 4 = .ok (.invokevirtual 105, 3) := by decide +kernel
theorem dL_gossip_7 : decode cL_gossip 7 = .ok (.i2l, 1) := by decide +kernel
theorem dL_gossip_8 : decode cL_gossip 8 = .ok (.lastore, 1) := by decide +kernel
theorem dL_gossip_9 : decode cL_gossip 9 = .ok (.goto 6, 3) := by decide +kernel
theorem dL_gossip_12 : decode cL_gossip 12 = .ok (.astore_n 3, 1) := by decide +kernel
theorem dL_gossip_15 : decode cL_gossip 15 = .ok (.iconst 0, 1) := by decide +kernel
theorem dL_gossip_16 : decode cL_gossip 16 = .ok (.ireturn, 1) := by decide +kernel
theorem r_L_gossip_0 {d rc rs : Nat} {Q : PO → PH → Prop} {h : PH} {l0 : Nat} {l1 : Int32} {l2 : LA}
    (k : isO h 10900 l0 ∧ cl d rc rs M_X9_gossip [vR (900, l0), vI l1] h (kI fun x4 h1 rc2 rs3 => yL h1 l2 (0 : Int32) (x4.toInt64) fun h5 => Q (.inl (some (vI (0 : Int32)))) h5) (fun E h1 rc2 rs3 => PX d M_L_gossip Q rc2 rs3 4 [vR (900, l0), vI l1, vR l2, vU] h1 E)) :
    PW d M_L_gossip Q rc rs 0 [vR (900, l0), vI l1, vR l2, vU] [] h := by
  refine P_aload_n (pc := 0) dL_gossip_0 rfl ?_
  refine P_iconst (v := (0 : Int32)) (pc := 1) dL_gossip_1 (by decide) ?_
  refine P_aload_n (pc := 2) dL_gossip_2 rfl ?_
  refine P_iload_n (pc := 3) dL_gossip_3 rfl ?_
  obtain ⟨⟨w9, e9⟩, d2, nc, ns, rc2, rs3, Qc, g1, rfl, rfl, g2, kk, kx⟩ := k
  refine P_callV (ci := 9) (k := 0) (id := l0) (q := (RX9, TX9, 18)) (As := [vI l1]) (st := [vI (0 : Int32), vR l2]) (pc := 4) dL_gossip_4 mk_X9_gossip l_L_105 im_X9_gossip se_X9_gossip ini_X9 rfl g1 (Nat.le_of_ble_eq_true rfl) rfl rfl (by decide) e9 rfl g2 (fun v9 h9 q9 => ?_) (fun E h9 q9 => kx E h9 q9)
  obtain ⟨x4, rfl, k⟩ := kk v9 h9 q9
  clear kk kx g1 g2 q9
  refine P_i2l (pc := 7) dL_gossip_7 ?_
  obtain ⟨n9, f9, e9, i9, k⟩ := k
  refine P_last (pc := 8) dL_gossip_8 e9 i9 ?_
  clear e9
  refine P_goto (tgt := 15) (pc := 9) dL_gossip_9 (by decide) ?_
  refine P_iconst (v := (0 : Int32)) (pc := 15) dL_gossip_15 (by decide) ?_
  exact R_ireturn (pc := 16) dL_gossip_16 rfl rfl k
-- L_year year(LFernHeirs;III[J)I
theorem dL_year_0 : decode cL_year 0 = .ok (.aload 4, 2) := by decide +kernel
theorem dL_year_2 : decode cL_year 2 = .ok (.iconst 0, 1) := by decide +kernel
theorem dL_year_3 : decode cL_year 3 = .ok (.aload_n 0, 1) := by decide +kernel
theorem dL_year_4 : decode cL_year 4 = .ok (.iload_n 1, 1) := by decide +kernel
theorem dL_year_5 : decode cL_year 5 = .ok (.iload_n 2, 1) := by decide +kernel
theorem dL_year_6 : decode cL_year 6 = .ok (.iload_n 3, 1) := by decide +kernel
theorem dL_year_7 : decode cL_year 7 = .ok (.invokevirtual 108, 3) := by decide +kernel
theorem dL_year_10 : decode cL_year 10 = .ok (.i2l, 1) := by decide +kernel
theorem dL_year_11 : decode cL_year 11 = .ok (.lastore, 1) := by decide +kernel
theorem dL_year_12 : decode cL_year 12 = .ok (.goto 7, 3) := by decide +kernel
theorem dL_year_15 : decode cL_year 15 = .ok (.astore 5, 2) := by decide +kernel
theorem dL_year_19 : decode cL_year 19 = .ok (.iconst 0, 1) := by decide +kernel
theorem dL_year_20 : decode cL_year 20 = .ok (.ireturn, 1) := by decide +kernel
theorem r_L_year_0 {d rc rs : Nat} {Q : PO → PH → Prop} {h : PH} {l0 : Nat} {l1 : Int32} {l2 : Int32} {l3 : Int32} {l4 : LA}
    (k : isO h 10900 l0 ∧ cl d rc rs M_X9_year [vR (900, l0), vI l1, vI l2, vI l3] h (kI fun x4 h1 rc2 rs3 => yL h1 l4 (0 : Int32) (x4.toInt64) fun h5 => Q (.inl (some (vI (0 : Int32)))) h5) (fun E h1 rc2 rs3 => PX d M_L_year Q rc2 rs3 7 [vR (900, l0), vI l1, vI l2, vI l3, vR l4, vU] h1 E)) :
    PW d M_L_year Q rc rs 0 [vR (900, l0), vI l1, vI l2, vI l3, vR l4, vU] [] h := by
  refine P_aload (pc := 0) dL_year_0 rfl ?_
  refine P_iconst (v := (0 : Int32)) (pc := 2) dL_year_2 (by decide) ?_
  refine P_aload_n (pc := 3) dL_year_3 rfl ?_
  refine P_iload_n (pc := 4) dL_year_4 rfl ?_
  refine P_iload_n (pc := 5) dL_year_5 rfl ?_
  refine P_iload_n (pc := 6) dL_year_6 rfl ?_
  obtain ⟨⟨w9, e9⟩, d2, nc, ns, rc2, rs3, Qc, g1, rfl, rfl, g2, kk, kx⟩ := k
  refine P_callV (ci := 9) (k := 0) (id := l0) (q := (RX9, TX9, 18)) (As := [vI l1, vI l2, vI l3]) (st := [vI (0 : Int32), vR l4]) (pc := 7) dL_year_7 mk_X9_year l_L_108 im_X9_year se_X9_year ini_X9 rfl g1 (Nat.le_of_ble_eq_true rfl) rfl rfl (by decide) e9 rfl g2 (fun v9 h9 q9 => ?_) (fun E h9 q9 => kx E h9 q9)
  obtain ⟨x4, rfl, k⟩ := kk v9 h9 q9
  clear kk kx g1 g2 q9
  refine P_i2l (pc := 10) dL_year_10 ?_
  obtain ⟨n9, f9, e9, i9, k⟩ := k
  refine P_last (pc := 11) dL_year_11 e9 i9 ?_
  clear e9
  refine P_goto (tgt := 19) (pc := 12) dL_year_12 (by decide) ?_
  refine P_iconst (v := (0 : Int32)) (pc := 19) dL_year_19 (by decide) ?_
  exact R_ireturn (pc := 20) dL_year_20 rfl rfl k
-- L_span span(LFernHeirs;IIII[J)I
theorem dL_span_0 : decode cL_span 0 = .ok (.aload 5, 2) := by decide +kernel
theorem dL_span_2 : decode cL_span 2 = .ok (.iconst 0, 1) := by decide +kernel
theorem dL_span_3 : decode cL_span 3 = .ok (.aload_n 0, 1) := by decide +kernel
theorem dL_span_4 : decode cL_span 4 = .ok (.iload_n 1, 1) := by decide +kernel
theorem dL_span_5 : decode cL_span 5 = .ok (.iload_n 2, 1) := by decide +kernel
theorem dL_span_6 : decode cL_span 6 = .ok (.iload_n 3, 1) := by decide +kernel
theorem dL_span_7 : decode cL_span 7 = .ok (.iload 4, 2) := by decide +kernel
theorem dL_span_9 : decode cL_span 9 = .ok (.invokevirtual 111, 3) := by decide +kernel
theorem dL_span_12 : decode cL_span 12 = .ok (.i2l, 1) := by decide +kernel
theorem dL_span_13 : decode cL_span 13 = .ok (.lastore, 1) := by decide +kernel
theorem dL_span_14 : decode cL_span 14 = .ok (.goto 7, 3) := by decide +kernel
theorem dL_span_17 : decode cL_span 17 = .ok (.astore 6, 2) := by decide +kernel
theorem dL_span_21 : decode cL_span 21 = .ok (.iconst 0, 1) := by decide +kernel
theorem dL_span_22 : decode cL_span 22 = .ok (.ireturn, 1) := by decide +kernel
theorem r_L_span_0 {d rc rs : Nat} {Q : PO → PH → Prop} {h : PH} {l0 : Nat} {l1 : Int32} {l2 : Int32} {l3 : Int32} {l4 : Int32} {l5 : LA}
    (k : isO h 10900 l0 ∧ cl d rc rs M_X9_span [vR (900, l0), vI l1, vI l2, vI l3, vI l4] h (kI fun x4 h1 rc2 rs3 => yL h1 l5 (0 : Int32) (x4.toInt64) fun h5 => Q (.inl (some (vI (0 : Int32)))) h5) (fun E h1 rc2 rs3 => PX d M_L_span Q rc2 rs3 9 [vR (900, l0), vI l1, vI l2, vI l3, vI l4, vR l5, vU] h1 E)) :
    PW d M_L_span Q rc rs 0 [vR (900, l0), vI l1, vI l2, vI l3, vI l4, vR l5, vU] [] h := by
  refine P_aload (pc := 0) dL_span_0 rfl ?_
  refine P_iconst (v := (0 : Int32)) (pc := 2) dL_span_2 (by decide) ?_
  refine P_aload_n (pc := 3) dL_span_3 rfl ?_
  refine P_iload_n (pc := 4) dL_span_4 rfl ?_
  refine P_iload_n (pc := 5) dL_span_5 rfl ?_
  refine P_iload_n (pc := 6) dL_span_6 rfl ?_
  refine P_iload (pc := 7) dL_span_7 rfl ?_
  obtain ⟨⟨w9, e9⟩, d2, nc, ns, rc2, rs3, Qc, g1, rfl, rfl, g2, kk, kx⟩ := k
  refine P_callV (ci := 9) (k := 0) (id := l0) (q := (RX9, TX9, 18)) (As := [vI l1, vI l2, vI l3, vI l4]) (st := [vI (0 : Int32), vR l5]) (pc := 9) dL_span_9 mk_X9_span l_L_111 im_X9_span se_X9_span ini_X9 rfl g1 (Nat.le_of_ble_eq_true rfl) rfl rfl (by decide) e9 rfl g2 (fun v9 h9 q9 => ?_) (fun E h9 q9 => kx E h9 q9)
  obtain ⟨x4, rfl, k⟩ := kk v9 h9 q9
  clear kk kx g1 g2 q9
  refine P_i2l (pc := 12) dL_span_12 ?_
  obtain ⟨n9, f9, e9, i9, k⟩ := k
  refine P_last (pc := 13) dL_span_13 e9 i9 ?_
  clear e9
  refine P_goto (tgt := 21) (pc := 14) dL_span_14 (by decide) ?_
  refine P_iconst (v := (0 : Int32)) (pc := 21) dL_span_21 (by decide) ?_
  exact R_ireturn (pc := 22) dL_span_22 rfl rfl k
