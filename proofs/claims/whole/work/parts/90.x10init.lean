/-! the constructor of the model -/
def l_10a : List SP := [(11001, (1001, (0, 2)))]
def l_10b : List SP := [(11009, (1002, (0, 600))), (11010, (1003, (0, 7))), (11011, (1004, (0, 7))), (11012, (1005, (0, 24))), (11013, (1006, (0, 12))), (11014, (1007, (0, 7))), (11015, (1008, (0, 7))), (11016, (1009, (0, 24))), (11017, (1010, (0, 12))), (11026, (1011, (0, 150))), (11027, (1012, (0, 150))), (11028, (1013, (0, 150))), (11029, (1014, (0, 150))), (11030, (1015, (0, 150))), (11033, (1016, (0, 9))), (11034, (1017, (0, 150))), (11035, (1018, (0, 150))), (11042, (1019, (0, 57))), (11043, (1020, (0, 57))), (11044, (1021, (0, 912))), (11045, (1022, (0, 13))), (11046, (1023, (0, 13))), (11048, (1024, (0, 1024))), (11049, (1025, (0, 1170))), (11050, (1026, (2, 90))), (11051, (1027, (0, 100))), (11053, (1028, (0, 2910)))]
def v_10a : List (Nat × Int32) := [(11000, 0), (11002, 0), (11003, 0), (11004, 0), (11005, 0), (11006, 0), (11007, 0), (11008, 0), (11018, 0), (11019, 0), (11020, 0), (11021, 0), (11022, 0), (11023, 0), (11024, 0), (11025, 0), (11031, 0), (11032, 0), (11036, 0), (11037, 0), (11038, 0), (11039, 0), (11040, 0), (11041, 0), (11047, 0), (11052, 0), (11054, 0)]
def v_10b : List (Nat × Int32) := [(11000, 0), (11002, 0), (11003, 0), (11004, 0), (11005, 0), (11006, 0), (11007, 0), (11008, -1), (11018, 0), (11019, 0), (11020, 0), (11021, 0), (11022, 0), (11023, 0), (11024, 0), (11025, 0), (11031, 0), (11032, 0), (11036, 0), (11037, 0), (11038, 0), (11039, 0), (11040, 0), (11041, 0), (11047, 0), (11052, 0), (11054, 0)]
theorem okB_j : ∀ (l : List SP) (k : Nat), okB (k + 1) l = true → ∀ t ∈ l, 10000 ≤ t.1 ∧ t.2.1 < 1200 := fun l k h t ht => ⟨(okB_m l (k + 1) h t ht).1, (okB_m l (k + 1) h t ht).2.1⟩
theorem inS.of2 {h h' : PH} {id k : Nat} {l : List SP} {I : List (Nat × Int32)} (g : inS h id I) (hI : okI I = true) (ho : okB (k + 1) l = true) (hn : I.all (fun p => l.all (fun s => !(Nat.beq s.1 p.1))) = true) (f : ∀ b, b ≠ SZ → (∀ s ∈ l, b ≠ (s.1, id) ∧ b ≠ (s.2.1, id)) → h' b = h b) : inS h' id I := g.fr (fun p hp => by
  have hp1 := okI_m hI hp
  refine f _ (neSF hp1) (fun s hs => ?_)
  obtain ⟨m1, m2⟩ := okB_j l k ho s hs
  refine ⟨fun e => ?_, fun e => ?_⟩
  · have h1 := List.all_eq_true.mp (List.all_eq_true.mp hn p hp) s hs
    have h2 := (Prod.mk.inj e).1
    rw [h2, Nat.beq_refl] at h1
    cases h1
  · have := (Prod.mk.inj e).1
    omega)
def w10 : MEM := sS m00 (11008, 842) (-1)
theorem C0_wx : WFx C0 (fun _ => 0) := ⟨⟨by decide, by decide, fun k hk => absurd hk (Nat.not_lt_zero _), by decide, fun k hk => absurd hk (Nat.not_lt_zero _), usual_wf, fun k hk => absurd hk (Nat.not_lt_zero _), 12, by decide, rfl⟩, rfl, fun k hk => absurd hk (Nat.not_lt_zero _)⟩
def beg10 (w : MEM) : Prop := MOD w C0 ∧ (∀ x < 57, fA w (1019, 842) x = gK 0 (fun _ => 0) 7 x) ∧ (∀ x < 13, fA w (1023, 842) x = -1) ∧ rS w (11047, 842) = 0 ∧ rS w (11037, 842) = 0 ∧ rS w (11054, 842) = 0 ∧ rS w (11038, 842) = 0 ∧ rS w (11002, 842) = 0 ∧ rS w (11008, 842) = -1 ∧ fA w (1001, 842) = fun _ => 0
theorem i_X10 {h : PH} {g0 : PA} (hz : h SZ = pA 99 843 g0) (hf : ∀ j < 55, h (10000 + 100 * 10 + j, 842) = pF (dvT tyX10 j)) : CT 2 M_X10_init [vR (1000, 842)] h 28 8107 (fun r h' => r = .inl none ∧ (∃ hL w, WP (y1 10 842 hL) h' w ∧ (beg10 w ∧ (hL SZ = pA 99 871 g0 ∧ FI 842 871 h hL)))) := by
  have b1 : 28 = lenL l_10a + (lenL l_10b + 0) := by decide
  have b2 : 8107 = sumL l_10a + (sumL l_10b + 0) := by decide
  rw [b1, b2]
  clear b1 b2
  refine CT_of mk_X10_init (Nat.le_of_ble_eq_true rfl) rfl (r_X10_init_0 ⟨by decide, ?_⟩)
  have keyB : ∀ (u : PH) (rc rs : Nat), u SZ = pA 99 844 g0 → obS u 842 l_10a → inS u 842 v_10b → (∀ s ∈ l_10b, ∃ v, u (s.1, 842) = pF v) → FI 842 871 h u → nwL 842 l_10b u (lenL l_10b + 0) (sumL l_10b + 0) (fun h6 rc rs => (isO h6 11000 842 ∧ cl 2 rc rs M_X10_clears [vR (1000, 842)] h6 (kV fun h142 rc143 rs144 => isO h142 11000 842 ∧ cl 2 rc143 rs144 M_X10_sets [vR (1000, 842)] h142 (kV fun h145 rc146 rs147 => (Sum.inl none : PO) = .inl none ∧ (∃ hL w, WP (y1 10 842 hL) h145 w ∧ (beg10 w ∧ (hL SZ = pA 99 871 g0 ∧ FI 842 871 h hL)))) (fun E h145 rc146 rs147 => (Sum.inr E : PO) = .inl none ∧ (∃ hL w, WP (y1 10 842 hL) h145 w ∧ (beg10 w ∧ (hL SZ = pA 99 871 g0 ∧ FI 842 871 h hL))))) (fun E h142 rc143 rs144 => (Sum.inr E : PO) = .inl none ∧ (∃ hL w, WP (y1 10 842 hL) h142 w ∧ (beg10 w ∧ (hL SZ = pA 99 871 g0 ∧ FI 842 871 h hL)))))) := by
    intro u rc rs zu ou iu fu ffu
    refine nwL_ok 842 g0 l_10b 2 844 u 0 0 _ (by decide) rfl (by decide) zu fu (fun hL z1 z2 z3 => ?_)
    have z1 : hL SZ = pA 99 871 g0 := z1
    have iL : inS hL 842 v_10b := iu.of2 (k := 1) (l := l_10b) (by decide) (by decide) (by decide) z3
    have oL : obS hL 842 l_10a := ou.fr (fun s hs => by
      rcases List.mem_cons.mp hs with e | e
      · subst e
        refine ⟨z3 _ (neSA (by decide)) (fun t ht => ?_), z3 _ (neSF (by decide)) (fun t ht => ?_)⟩
        · obtain ⟨m1, m2, m3, m4⟩ := okB_m l_10b 2 (by decide) t ht
          refine ⟨fun e => ?_, fun e => ?_⟩
          · have e : (1001 : Nat) = t.1 := (Prod.mk.inj e).1
            omega
          · have e : (1001 : Nat) = t.2.1 := (Prod.mk.inj e).1
            omega
        · obtain ⟨m1, m2, m3, m4⟩ := okB_m l_10b 2 (by decide) t ht
          refine ⟨fun e => ?_, fun e => ?_⟩
          · have e : (11001 : Nat) = t.1 := (Prod.mk.inj e).1
            have q := List.all_eq_true.mp (show l_10b.all (fun s => !(Nat.beq s.1 11001)) = true by decide) t ht
            rw [← e] at q
            cases q
          · have e : (11001 : Nat) = t.2.1 := (Prod.mk.inj e).1
            omega
      · cases e)
    have fL : FI 842 871 h hL := ffu.tr (fun b h1 h2 => z3 b h1 (fun s hs => by
      obtain ⟨m1, m2, m3, m4⟩ := okB_m l_10b 2 (by decide) s hs
      have m4 : s.2.1 % 100 < 29 := m4
      refine ⟨fun e => ?_, fun e => ?_⟩
      · subst e
        rw [psF m1] at h2
        rcases h2 with h2 | h2 | h2
        · exact nspF m1 h2
        · omega
        · omega
      · subst e
        rw [psA m2] at h2
        rcases h2 with h2 | h2 | h2
        · exact nspA m2 h2
        · omega
        · omega))
    have wp : WP (y1 10 842 hL) hL w10 := by
      refine ⟨fun t i ht hv => ?_, fun t i ht hv => ?_, fun t i ht hv => ?_, fun b _ => rfl⟩
      · obtain ⟨a1, a2⟩ := y1_i hv
        subst a2
        have ht := kl1 ht
        have : t = 11000 ∨ t = 11002 ∨ t = 11003 ∨ t = 11004 ∨ t = 11005 ∨ t = 11006 ∨ t = 11007 ∨ t = 11008 ∨ t = 11018 ∨ t = 11019 ∨ t = 11020 ∨ t = 11021 ∨ t = 11022 ∨ t = 11023 ∨ t = 11024 ∨ t = 11025 ∨ t = 11031 ∨ t = 11032 ∨ t = 11036 ∨ t = 11037 ∨ t = 11038 ∨ t = 11039 ∨ t = 11040 ∨ t = 11041 ∨ t = 11047 ∨ t = 11052 ∨ t = 11054 := by omega
        rcases this with e | e | e | e | e | e | e | e | e | e | e | e | e | e | e | e | e | e | e | e | e | e | e | e | e | e | e
        · subst e; exact iL.1
        · subst e; exact iL.2.1
        · subst e; exact iL.2.2.1
        · subst e; exact iL.2.2.2.1
        · subst e; exact iL.2.2.2.2.1
        · subst e; exact iL.2.2.2.2.2.1
        · subst e; exact iL.2.2.2.2.2.2.1
        · subst e; exact iL.2.2.2.2.2.2.2.1
        · subst e; exact iL.2.2.2.2.2.2.2.2.1
        · subst e; exact iL.2.2.2.2.2.2.2.2.2.1
        · subst e; exact iL.2.2.2.2.2.2.2.2.2.2.1
        · subst e; exact iL.2.2.2.2.2.2.2.2.2.2.2.1
        · subst e; exact iL.2.2.2.2.2.2.2.2.2.2.2.2.1
        · subst e; exact iL.2.2.2.2.2.2.2.2.2.2.2.2.2.1
        · subst e; exact iL.2.2.2.2.2.2.2.2.2.2.2.2.2.2.1
        · subst e; exact iL.2.2.2.2.2.2.2.2.2.2.2.2.2.2.2.1
        · subst e; exact iL.2.2.2.2.2.2.2.2.2.2.2.2.2.2.2.2.1
        · subst e; exact iL.2.2.2.2.2.2.2.2.2.2.2.2.2.2.2.2.2.1
        · subst e; exact iL.2.2.2.2.2.2.2.2.2.2.2.2.2.2.2.2.2.2.1
        · subst e; exact iL.2.2.2.2.2.2.2.2.2.2.2.2.2.2.2.2.2.2.2.1
        · subst e; exact iL.2.2.2.2.2.2.2.2.2.2.2.2.2.2.2.2.2.2.2.2.1
        · subst e; exact iL.2.2.2.2.2.2.2.2.2.2.2.2.2.2.2.2.2.2.2.2.2.1
        · subst e; exact iL.2.2.2.2.2.2.2.2.2.2.2.2.2.2.2.2.2.2.2.2.2.2.1
        · subst e; exact iL.2.2.2.2.2.2.2.2.2.2.2.2.2.2.2.2.2.2.2.2.2.2.2.1
        · subst e; exact iL.2.2.2.2.2.2.2.2.2.2.2.2.2.2.2.2.2.2.2.2.2.2.2.2.1
        · subst e; exact iL.2.2.2.2.2.2.2.2.2.2.2.2.2.2.2.2.2.2.2.2.2.2.2.2.2.1
        · subst e; exact iL.2.2.2.2.2.2.2.2.2.2.2.2.2.2.2.2.2.2.2.2.2.2.2.2.2.2.1
      · obtain ⟨a1, a2⟩ := y1_i hv
        subst a2
        have ht := kl2 ht
        have : t = 11001 ∨ t = 11009 ∨ t = 11010 ∨ t = 11011 ∨ t = 11012 ∨ t = 11013 ∨ t = 11014 ∨ t = 11015 ∨ t = 11016 ∨ t = 11017 ∨ t = 11026 ∨ t = 11027 ∨ t = 11028 ∨ t = 11029 ∨ t = 11030 ∨ t = 11033 ∨ t = 11034 ∨ t = 11035 ∨ t = 11042 ∨ t = 11043 ∨ t = 11044 ∨ t = 11045 ∨ t = 11046 ∨ t = 11048 ∨ t = 11049 ∨ t = 11050 ∨ t = 11051 ∨ t = 11053 := by omega
        rcases this with e | e | e | e | e | e | e | e | e | e | e | e | e | e | e | e | e | e | e | e | e | e | e | e | e | e | e | e
        · subst e; exact oL.1.2
        · subst e; exact z2.1.2
        · subst e; exact z2.2.1.2
        · subst e; exact z2.2.2.1.2
        · subst e; exact z2.2.2.2.1.2
        · subst e; exact z2.2.2.2.2.1.2
        · subst e; exact z2.2.2.2.2.2.1.2
        · subst e; exact z2.2.2.2.2.2.2.1.2
        · subst e; exact z2.2.2.2.2.2.2.2.1.2
        · subst e; exact z2.2.2.2.2.2.2.2.2.1.2
        · subst e; exact z2.2.2.2.2.2.2.2.2.2.1.2
        · subst e; exact z2.2.2.2.2.2.2.2.2.2.2.1.2
        · subst e; exact z2.2.2.2.2.2.2.2.2.2.2.2.1.2
        · subst e; exact z2.2.2.2.2.2.2.2.2.2.2.2.2.1.2
        · subst e; exact z2.2.2.2.2.2.2.2.2.2.2.2.2.2.1.2
        · subst e; exact z2.2.2.2.2.2.2.2.2.2.2.2.2.2.2.1.2
        · subst e; exact z2.2.2.2.2.2.2.2.2.2.2.2.2.2.2.2.1.2
        · subst e; exact z2.2.2.2.2.2.2.2.2.2.2.2.2.2.2.2.2.1.2
        · subst e; exact z2.2.2.2.2.2.2.2.2.2.2.2.2.2.2.2.2.2.1.2
        · subst e; exact z2.2.2.2.2.2.2.2.2.2.2.2.2.2.2.2.2.2.2.1.2
        · subst e; exact z2.2.2.2.2.2.2.2.2.2.2.2.2.2.2.2.2.2.2.2.1.2
        · subst e; exact z2.2.2.2.2.2.2.2.2.2.2.2.2.2.2.2.2.2.2.2.2.1.2
        · subst e; exact z2.2.2.2.2.2.2.2.2.2.2.2.2.2.2.2.2.2.2.2.2.2.1.2
        · subst e; exact z2.2.2.2.2.2.2.2.2.2.2.2.2.2.2.2.2.2.2.2.2.2.2.1.2
        · subst e; exact z2.2.2.2.2.2.2.2.2.2.2.2.2.2.2.2.2.2.2.2.2.2.2.2.1.2
        · subst e; exact z2.2.2.2.2.2.2.2.2.2.2.2.2.2.2.2.2.2.2.2.2.2.2.2.2.1.2
        · subst e; exact z2.2.2.2.2.2.2.2.2.2.2.2.2.2.2.2.2.2.2.2.2.2.2.2.2.2.1.2
        · subst e; exact z2.2.2.2.2.2.2.2.2.2.2.2.2.2.2.2.2.2.2.2.2.2.2.2.2.2.2.1.2
      · obtain ⟨a1, a2⟩ := y1_i hv
        subst a2
        have ht := kl4 ht
        have : t = 1001 ∨ t = 1002 ∨ t = 1003 ∨ t = 1004 ∨ t = 1005 ∨ t = 1006 ∨ t = 1007 ∨ t = 1008 ∨ t = 1009 ∨ t = 1010 ∨ t = 1011 ∨ t = 1012 ∨ t = 1013 ∨ t = 1014 ∨ t = 1015 ∨ t = 1016 ∨ t = 1017 ∨ t = 1018 ∨ t = 1019 ∨ t = 1020 ∨ t = 1021 ∨ t = 1022 ∨ t = 1023 ∨ t = 1024 ∨ t = 1025 ∨ t = 1026 ∨ t = 1027 ∨ t = 1028 := by omega
        rcases this with e | e | e | e | e | e | e | e | e | e | e | e | e | e | e | e | e | e | e | e | e | e | e | e | e | e | e | e
        · subst e; exact oL.1.1
        · subst e; exact z2.1.1
        · subst e; exact z2.2.1.1
        · subst e; exact z2.2.2.1.1
        · subst e; exact z2.2.2.2.1.1
        · subst e; exact z2.2.2.2.2.1.1
        · subst e; exact z2.2.2.2.2.2.1.1
        · subst e; exact z2.2.2.2.2.2.2.1.1
        · subst e; exact z2.2.2.2.2.2.2.2.1.1
        · subst e; exact z2.2.2.2.2.2.2.2.2.1.1
        · subst e; exact z2.2.2.2.2.2.2.2.2.2.1.1
        · subst e; exact z2.2.2.2.2.2.2.2.2.2.2.1.1
        · subst e; exact z2.2.2.2.2.2.2.2.2.2.2.2.1.1
        · subst e; exact z2.2.2.2.2.2.2.2.2.2.2.2.2.1.1
        · subst e; exact z2.2.2.2.2.2.2.2.2.2.2.2.2.2.1.1
        · subst e; exact z2.2.2.2.2.2.2.2.2.2.2.2.2.2.2.1.1
        · subst e; exact z2.2.2.2.2.2.2.2.2.2.2.2.2.2.2.2.1.1
        · subst e; exact z2.2.2.2.2.2.2.2.2.2.2.2.2.2.2.2.2.1.1
        · subst e; exact z2.2.2.2.2.2.2.2.2.2.2.2.2.2.2.2.2.2.1.1
        · subst e; exact z2.2.2.2.2.2.2.2.2.2.2.2.2.2.2.2.2.2.2.1.1
        · subst e; exact z2.2.2.2.2.2.2.2.2.2.2.2.2.2.2.2.2.2.2.2.1.1
        · subst e; exact z2.2.2.2.2.2.2.2.2.2.2.2.2.2.2.2.2.2.2.2.2.1.1
        · subst e; exact z2.2.2.2.2.2.2.2.2.2.2.2.2.2.2.2.2.2.2.2.2.2.1.1
        · subst e; exact z2.2.2.2.2.2.2.2.2.2.2.2.2.2.2.2.2.2.2.2.2.2.2.1.1
        · subst e; exact z2.2.2.2.2.2.2.2.2.2.2.2.2.2.2.2.2.2.2.2.2.2.2.2.1.1
        · subst e; exact z2.2.2.2.2.2.2.2.2.2.2.2.2.2.2.2.2.2.2.2.2.2.2.2.2.1.1
        · subst e; exact z2.2.2.2.2.2.2.2.2.2.2.2.2.2.2.2.2.2.2.2.2.2.2.2.2.2.1.1
        · subst e; exact z2.2.2.2.2.2.2.2.2.2.2.2.2.2.2.2.2.2.2.2.2.2.2.2.2.2.2.1.1
    have ev := y1_s 10 842 hL
    refine ⟨⟨_, wp.1 11000 842 rfl ev⟩, ?_⟩
    have hC : f_X10_clears 3000 842 w10 = some ((), sS (sS (sS (sS w10 (11018, 842) 0) (11019, 842) 0) (11020, 842) 0) (11021, 842) 12) := by
      rw [E_X10_clears, lt_eq, lt_eq, lt_eq, lt_eq]
    refine cl_Vp (D := 0) (by decide) (cp_X10_clears (fu := 3000) wp ev hC) (fun h5 wp5 => ?_)
    generalize hwC : sS (sS (sS (sS w10 (11018, 842) 0) (11019, 842) 0) (11020, 842) 0) (11021, 842) 12 = wC at wp5
    have cm : CM wC C0 (fun _ => 0) := by
      rw [← hwC]
      exact ⟨rfl, rfl, rfl, rfl, fun k hk => absurd hk (Nat.not_lt_zero _), fun k hk => absurd hk (Nat.not_lt_zero _), fun k hk => absurd hk (Nat.not_lt_zero _)⟩
    obtain ⟨v1, s1, s2, s3, s4, s5, s6, s7, s8, s9⟩ := sets_M cm C0_wx
    refine ⟨⟨_, wp5.1 11000 842 rfl ev⟩, ?_⟩
    refine cl_Vp (D := 1) (by decide) (cp_X10_sets (fu := 3000) wp5 ev s1) (fun h6 wp6 => ?_)
    refine ⟨rfl, hL, v1, wp6, ⟨s3, s4, s5, s6, s7, s8, s9, ?_, ?_, ?_⟩, z1, fL⟩
    · rw [s2.2.1 _ rfl, ← hwC]
      rfl
    · rw [s2.2.1 _ rfl, ← hwC]
      rfl
    · rw [s2.1 _ rfl, ← hwC]
      rfl
  have keyA : nwL 842 l_10a h (lenL l_10a + (lenL l_10b + 0)) (sumL l_10a + (sumL l_10b + 0)) (fun h5 rc rs => sF h5 (11008, 842) (vI (-1 : Int32)) fun h6 => nwL 842 l_10b h6 rc rs (fun h6 rc rs => (isO h6 11000 842 ∧ cl 2 rc rs M_X10_clears [vR (1000, 842)] h6 (kV fun h142 rc143 rs144 => isO h142 11000 842 ∧ cl 2 rc143 rs144 M_X10_sets [vR (1000, 842)] h142 (kV fun h145 rc146 rs147 => (Sum.inl none : PO) = .inl none ∧ (∃ hL w, WP (y1 10 842 hL) h145 w ∧ (beg10 w ∧ (hL SZ = pA 99 871 g0 ∧ FI 842 871 h hL)))) (fun E h145 rc146 rs147 => (Sum.inr E : PO) = .inl none ∧ (∃ hL w, WP (y1 10 842 hL) h145 w ∧ (beg10 w ∧ (hL SZ = pA 99 871 g0 ∧ FI 842 871 h hL))))) (fun E h142 rc143 rs144 => (Sum.inr E : PO) = .inl none ∧ (∃ hL w, WP (y1 10 842 hL) h142 w ∧ (beg10 w ∧ (hL SZ = pA 99 871 g0 ∧ FI 842 871 h hL))))))) := by
    refine nwL_ok 842 g0 l_10a 1 843 h _ _ _ (by decide) rfl (Nat.le_refl 1) hz (fl_of (B := 10000 + 100 * 10) (N := 55) hf (by decide)) (fun h1 z1 z2 z3 => ?_)
    have z1 : h1 SZ = pA 99 844 g0 := z1
    have i0 : inS h 842 v_10a := ⟨hf 0 (by decide), hf 2 (by decide), hf 3 (by decide), hf 4 (by decide), hf 5 (by decide), hf 6 (by decide), hf 7 (by decide), hf 8 (by decide), hf 18 (by decide), hf 19 (by decide), hf 20 (by decide), hf 21 (by decide), hf 22 (by decide), hf 23 (by decide), hf 24 (by decide), hf 25 (by decide), hf 31 (by decide), hf 32 (by decide), hf 36 (by decide), hf 37 (by decide), hf 38 (by decide), hf 39 (by decide), hf 40 (by decide), hf 41 (by decide), hf 47 (by decide), hf 52 (by decide), hf 54 (by decide), trivial⟩
    have i1 : inS h1 842 v_10a := i0.ofL (l := l_10a) (by decide) (by decide) (by decide) z3
    have f1 : FI 842 871 h h1 := (FI_ofL (l := l_10a) (by decide) z3).w (Nat.le_refl _) (by decide)
    refine ⟨⟨_, i1.2.2.2.2.2.2.2.1⟩, ?_⟩
    refine keyB _ 0 0 ?_ (z2.upF (by decide) (by decide) (by decide)) ⟨up_F i1.1 (by decide), up_F i1.2.1 (by decide), up_F i1.2.2.1 (by decide), up_F i1.2.2.2.1 (by decide), up_F i1.2.2.2.2.1 (by decide), up_F i1.2.2.2.2.2.1 (by decide), up_F i1.2.2.2.2.2.2.1 (by decide), up_eq _ _ _, up_F i1.2.2.2.2.2.2.2.2.1 (by decide), up_F i1.2.2.2.2.2.2.2.2.2.1 (by decide), up_F i1.2.2.2.2.2.2.2.2.2.2.1 (by decide), up_F i1.2.2.2.2.2.2.2.2.2.2.2.1 (by decide), up_F i1.2.2.2.2.2.2.2.2.2.2.2.2.1 (by decide), up_F i1.2.2.2.2.2.2.2.2.2.2.2.2.2.1 (by decide), up_F i1.2.2.2.2.2.2.2.2.2.2.2.2.2.2.1 (by decide), up_F i1.2.2.2.2.2.2.2.2.2.2.2.2.2.2.2.1 (by decide), up_F i1.2.2.2.2.2.2.2.2.2.2.2.2.2.2.2.2.1 (by decide), up_F i1.2.2.2.2.2.2.2.2.2.2.2.2.2.2.2.2.2.1 (by decide), up_F i1.2.2.2.2.2.2.2.2.2.2.2.2.2.2.2.2.2.2.1 (by decide), up_F i1.2.2.2.2.2.2.2.2.2.2.2.2.2.2.2.2.2.2.2.1 (by decide), up_F i1.2.2.2.2.2.2.2.2.2.2.2.2.2.2.2.2.2.2.2.2.1 (by decide), up_F i1.2.2.2.2.2.2.2.2.2.2.2.2.2.2.2.2.2.2.2.2.2.1 (by decide), up_F i1.2.2.2.2.2.2.2.2.2.2.2.2.2.2.2.2.2.2.2.2.2.2.1 (by decide), up_F i1.2.2.2.2.2.2.2.2.2.2.2.2.2.2.2.2.2.2.2.2.2.2.2.1 (by decide), up_F i1.2.2.2.2.2.2.2.2.2.2.2.2.2.2.2.2.2.2.2.2.2.2.2.2.1 (by decide), up_F i1.2.2.2.2.2.2.2.2.2.2.2.2.2.2.2.2.2.2.2.2.2.2.2.2.2.1 (by decide), up_F i1.2.2.2.2.2.2.2.2.2.2.2.2.2.2.2.2.2.2.2.2.2.2.2.2.2.2.1 (by decide), trivial⟩ (fun s hs => ?_) (f1.up (nspF (by decide)) (by decide) (by decide))
    · rw [up_ne _ _ (neSF (by decide)).symm]
      exact z1
    · obtain ⟨v, hv⟩ := fl_of (B := 10000 + 100 * 10) (N := 55) (l := l_10b) hf (by decide) s hs
      obtain ⟨m1, m2, m3, m4⟩ := okB_m l_10b 2 (by decide) s hs
      refine ⟨v, ?_⟩
      have n1 := List.all_eq_true.mp (show l_10b.all (fun s => !(Nat.beq s.1 11008)) = true by decide) s hs
      have n2 := List.all_eq_true.mp (show l_10b.all (fun s => !(Nat.beq s.1 11001)) = true by decide) s hs
      rw [up_ne _ _ (fun e => by
        have e : s.1 = 11008 := (Prod.mk.inj e).1
        rw [e] at n1
        cases n1), z3 _ (neSF m1) (fun t ht => ?_)]
      · exact hv
      · rcases List.mem_cons.mp ht with e | e
        · subst e
          refine ⟨fun e => ?_, fun e => ?_⟩
          · have e : s.1 = 11001 := (Prod.mk.inj e).1
            rw [e] at n2
            cases n2
          · have e : s.1 = 1001 := (Prod.mk.inj e).1
            omega
        · cases e
  exact keyA
