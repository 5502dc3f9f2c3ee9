/-! the law's loop -/
def QL : PO → PH → Prop := fun r _ => r = .inl (some (vI 1))
def bR : Nat → Nat
  | 0 => 0
  | r + 1 => 9 + bR r
def bS : Nat → Nat
  | 0 => 0
  | r + 1 => 54 + bS r
theorem scI_of {X : SCR} {h : PH} {w : MEM} {k : Nat} {l : Int32} {K : Int32 → Prop} (wh : WH X h w) (e : l = nI k) (hk : k < X.1) (h31 : X.1 ≤ 5120) (kk : K (X.2.1 k)) : scI h l K := by
  subst e
  refine ⟨X.1, X.2.1, wh.2.2.2.2.2.2.2.2.1, bI_in (bI_nI hk (by omega)), ?_⟩
  rw [nI_clamp (by omega)]
  exact kk
theorem okK {K : Nat → Option Int32} {o : Int32 ⊕ Nat} {r t : Int32} (h : okO K o r t) : ∀ e, o = .inr e → ∃ t, K e = some t := fun e he => by
  subst he
  exact ⟨t, h⟩
theorem cl_LQ {d D nc ns rc rs L : Nat} {xs : Nat → Int32} {g : Nat → Int64} {M : MR} {av : List PV} {h : PH} {o : Int32 ⊕ Nat} {K : Nat → Option Int32} {w1 : MEM} {KK : Int32 → PH → Nat → Nat → Prop} {XX : String → PH → Nat → Nat → Prop} (hd : D + 1 ≤ d) {RC RS : Nat} (e1 : RC = nc + rc) (e2 : RS = ns + rs) (c : CT D M av h nc ns (LQ (L, (xs, g)) o K w1)) (k : ∀ x h1 g', WH (L, (xs, g')) h1 w1 → ((∃ v, o = .inl v ∧ x = 0 ∧ g' (0 : Int32).toNatClampNeg = v.toInt64) ∨ (∃ e, o = .inr e ∧ K e = some x)) → KK x h1 rc rs) : cl d RC RS M av h (kI KK) XX :=
  ⟨D, nc, ns, rc, rs, _, hd, e1, e2, c, fun v h1 q => by
    rcases q with ⟨x, e1, e2, e3⟩ | ⟨e, t, e1, e2, e3, e4⟩
    · injection e2 with e2
      exact ⟨0, e2, k 0 h1 _ e3 (Or.inl ⟨x, e1, rfl, by unfold vp_updL; simp⟩)⟩
    · injection e3 with e3
      exact ⟨t, e3, k t h1 _ e4 (Or.inr ⟨e, e1, e2⟩)⟩, fun E h1 q => by
    rcases q with ⟨x, e1, e2, e3⟩ | ⟨e, t, e1, e2, e3, e4⟩
    · cases e2
    · cases e3⟩
theorem lg_self (a : Int64) : lg_cmp a a = 0 := by
  unfold lg_cmp
  rw [if_neg (fun h => absurd (Int64.lt_iff_toInt_lt.mp h) (by omega)), if_pos rfl]
theorem K0_I : ∀ e, ¬ KI e = some 0
  | 0 => by decide
  | e + 1 => by
    intro h
    cases h
theorem K0_N : ∀ e, ¬ KN e = some 0
  | 0 => by decide
  | e + 1 => by
    intro h
    exact absurd (show (1 : Int32) = 0 from Option.some.inj h) (by decide)
theorem K0_B : ∀ e, ¬ KB e = some 0
  | 0 => by decide
  | e + 1 => by
    intro h
    exact absurd (show (1 : Int32) = 0 from Option.some.inj h) (by decide)
theorem endT {L : Nat} {xs : Nat → Int32} {g : Nat → Int64} {o : Int32 ⊕ Nat} {K : Nat → Option Int32} {x rr : Int32} {w2 : MEM} {h3 : PH} {P QQ : Prop} (hK : ∀ e, ¬ K e = some 0) (hx : (∃ v, o = .inl v ∧ x = 0 ∧ g (0 : Int32).toNatClampNeg = v.toInt64) ∨ (∃ e, o = .inr e ∧ K e = some x)) (hO : okO K o rr (rS w2 (11000, 842))) (wh : WH (L, (xs, g)) h3 w2) (hP : P) : br (rS w2 (11000, 842) = x) (br (x = 0) (xL h3 (1101, 870) (0 : Int32) fun x35 => br ((lg_cmp x35 rr.toInt64) = 0) P QQ) P) QQ := by
  rcases hx with ⟨v, e1, e2, e3⟩ | ⟨e, e1, e2⟩
  · subst e1
    obtain ⟨h1, h2⟩ := hO
    refine ⟨fun _ => ⟨fun _ => ⟨1, g, wh.2.2.2.2.2.2.2.1, bI_in (by decide), fun _ => hP, fun c => absurd ?_ c⟩, fun _ => hP⟩, fun c => absurd ?_ c⟩
    · rw [e3, h2]
      exact lg_self _
    · rw [h1, e2]
  · subst e1
    have hO : K e = some (rS w2 (11000, 842)) := hO
    rw [e2] at hO
    have := Option.some.inj hO
    exact ⟨fun _ => ⟨fun c => absurd (by rw [e2, c]) (hK e), fun _ => hP⟩, fun c => absurd this.symm c⟩
theorem exit_iff {L i : Nat} (hL : L ≤ 5120) (hi : i ≤ 6000) : (nI L - (10 : Int32) < nI i) = (L < i + 10) := by
  by_cases h : 10 ≤ L
  · rw [nsubL _ _ h, nlt _ _ (by show L - 10 < 2 ^ 31; omega) (by omega)]
    show (L - 10 < i) = (L < i + 10)
    exact propext ⟨fun q => by omega, fun q => by omega⟩
  · have h0 : ∀ L < 10, nI L - (10 : Int32) < 0 := by decide
    refine propext ⟨fun _ => by omega, fun _ => lt_tr (h0 L (by omega)) (nI_pos' (by omega))⟩
theorem loop23 {L : Nat} {xs : Nat → Int32} (hL : L ≤ 5120) : ∀ (r i : Nat) (g : Nat → Int64) (w : MEM) (h : PH), L < i + 10 * (r + 1) → i ≤ 5200 → WH (L, (xs, g)) h w → INV w → PW 60 M_L_law_ QL (bR r) (bS r) 23 [vR (1201, 0), vR (900, 0), vR (1000, 842), vR (1101, 870), vI (nI i), vU, vU] [] h := by
  intro r
  induction r with
  | zero =>
    intro i g w h h1 h2 wh hI
    refine r_L_law__23 ⟨L, _, wh.2.2.2.2.2.2.2.2.1, fun _ => rfl, fun c => ?_⟩
    exact absurd (by rw [exit_iff hL (by omega)]; omega) c
  | succ r ih =>
    intro i g w h h1 h2 wh hI
    refine r_L_law__23 ⟨L, _, wh.2.2.2.2.2.2.2.2.1, fun _ => rfl, fun c => ?_⟩
    have hi : i + 10 ≤ L := by
      rw [exit_iff hL (by omega)] at c
      omega
    clear c
    have go : ∀ (g : Nat → Int64) (w : MEM) (h : PH), WH (L, (xs, g)) h w → INV w → PW 60 M_L_law_ QL (bR r) (bS r) 23 [vR (1201, 0), vR (900, 0), vR (1000, 842), vR (1101, 870), vI (nI i + (10 : Int32)), vU, vU] [] h := by
      intro g w h wh hI
      rw [show nI i + (10 : Int32) = nI (i + 10) from nI_add i 10]
      exact ih (i + 10) g w h (by omega) (by omega) wh hI
    have go2 : ∀ (g : Nat → Int64) (w : MEM) (h : PH), WH (L, (xs, g)) h w → INV w → PW 60 M_L_law_ QL (bR (r + 1)) (bS (r + 1)) 23 [vR (1201, 0), vR (900, 0), vR (1000, 842), vR (1101, 870), vI (nI i + (10 : Int32)), vU, vU] [] h := fun g w h wh hI => P_more (Nat.le_add_left _ _) (Nat.le_add_left _ _) (go g w h wh hI)
    refine scI_of wh rfl (show i < L by omega) hL ?_
    refine ⟨fun _ => ?_, fun _ => ?_, fun _ => ?_, fun _ => ?_, fun _ => ?_, fun _ => ?_, fun _ => ?_, fun _ => ?_, fun _ => ?_, fun _ => ?_, fun _ => ?_, fun _ => ?_, fun _ => ?_, fun _ => ?_, fun _ => ?_, fun _ => ?_, fun _ => ?_, fun _ => ?_, fun _ => ?_, fun _ => ?_, fun _ => ?_, fun _ => ?_, fun _ => ?_, fun _ => ?_, fun _ => ?_, fun _ => ?_, fun _ => ?_, fun _ => ?_, fun _ => ?_, fun _ => ?_, fun _ => ?_, fun _ => ?_, fun _ => ?_, fun _ => ?_, fun _ => ?_, fun _ => ?_, fun _ => ?_, fun _ => ?_, fun _ => ?_, fun _ => ?_, fun _ => ?_, fun _ => ?_, fun _ => ?_⟩
    -- feed
    · obtain ⟨vv, w1, w2, e1, e2, hI2⟩ := S_feed (xs (i + 1)) (xs (i + 2)) (xs (i + 3)) (xs (i + 4)) (xs (i + 5)) hI
      refine scI_of wh (nI_add i 1) (show i + 1 < L by omega) hL ?_
      refine scI_of wh (nI_add i 2) (show i + 2 < L by omega) hL ?_
      refine scI_of wh (nI_add i 3) (show i + 3 < L by omega) hL ?_
      refine scI_of wh (nI_add i 4) (show i + 4 < L by omega) hL ?_
      refine scI_of wh (nI_add i 5) (show i + 5 < L by omega) hL ?_
      refine ⟨⟨_, wh.2.1 10900 0 rfl rfl⟩, ?_⟩
      refine cl_I (D := 1) (by decide) (c_X9_feed wh rfl e1) (fun h1 wh1 => ?_)
      refine scI_of wh1 (nI_add i 1) (show i + 1 < L by omega) hL ?_
      refine scI_of wh1 (nI_add i 2) (show i + 2 < L by omega) hL ?_
      refine scI_of wh1 (nI_add i 3) (show i + 3 < L by omega) hL ?_
      refine scI_of wh1 (nI_add i 4) (show i + 4 < L by omega) hL ?_
      refine scI_of wh1 (nI_add i 5) (show i + 5 < L by omega) hL ?_
      refine ⟨⟨_, wh1.1 11000 842 rfl rfl⟩, ?_⟩
      refine cl_I (D := 0) (by decide) (c_X10_feed wh1 rfl e2) (fun h2 wh2 => ?_)
      exact ⟨fun _ => go2 g w2 h2 wh2 hI2, fun c => absurd rfl c⟩
    -- court
    · obtain ⟨o, w1, rr, w2, e1, e2, hI2, hO⟩ := S_court (xs (i + 1)) hI
      refine scI_of wh (nI_add i 1) (show i + 1 < L by omega) hL ?_
      refine cl_LQ (D := 10) (nc := 1) (ns := 6) (rc := 8 + bR r) (rs := 48 + bS r) (by decide) (by show 9 + bR r = _; omega) (by show 54 + bS r = _; omega) (c_L_court wh e1 (okK hO)) (fun x h1 g1 wh1 hx => ?_)
      refine scI_of wh1 (nI_add i 1) (show i + 1 < L by omega) hL ?_
      refine ⟨⟨_, wh1.1 11000 842 rfl rfl⟩, ?_⟩
      refine cl_I (D := 8) (by decide) (c_X10_court wh1 rfl e2) (fun h2 wh2 => ?_)
      refine ⟨⟨_, wh2.1 11000 842 rfl rfl⟩, ?_⟩
      refine cl_I (D := 0) (by decide) (c_X10_thrown (fu := 3000) wh2 rfl rfl) (fun h3 wh3 => ?_)
      exact endT K0_I hx hO wh3 (P_more (Nat.le_add_left _ _) (Nat.le_add_left _ _) (go g1 w2 h3 wh3 hI2))
    -- law
    · obtain ⟨o, w1, rr, w2, e1, e2, hI2, hO⟩ := S_law (xs (i + 1)) hI
      refine scI_of wh (nI_add i 1) (show i + 1 < L by omega) hL ?_
      refine cl_LQ (D := 51) (nc := 1) (ns := 6) (rc := 8 + bR r) (rs := 48 + bS r) (by decide) (by show 9 + bR r = _; omega) (by show 54 + bS r = _; omega) (c_L_law wh e1 (okK hO)) (fun x h1 g1 wh1 hx => ?_)
      refine scI_of wh1 (nI_add i 1) (show i + 1 < L by omega) hL ?_
      refine ⟨⟨_, wh1.1 11000 842 rfl rfl⟩, ?_⟩
      refine cl_I (D := 49) (by decide) (c_X10_law wh1 rfl e2) (fun h2 wh2 => ?_)
      refine ⟨⟨_, wh2.1 11000 842 rfl rfl⟩, ?_⟩
      refine cl_I (D := 0) (by decide) (c_X10_thrown (fu := 3000) wh2 rfl rfl) (fun h3 wh3 => ?_)
      exact endT K0_I hx hO wh3 (P_more (Nat.le_add_left _ _) (Nat.le_add_left _ _) (go g1 w2 h3 wh3 hI2))
    -- work
    · obtain ⟨o, w1, rr, w2, e1, e2, hI2, hO⟩ := S_work (xs (i + 1)) hI
      refine scI_of wh (nI_add i 1) (show i + 1 < L by omega) hL ?_
      refine cl_LQ (D := 51) (nc := 1) (ns := 6) (rc := 8 + bR r) (rs := 48 + bS r) (by decide) (by show 9 + bR r = _; omega) (by show 54 + bS r = _; omega) (c_L_work wh e1 (okK hO)) (fun x h1 g1 wh1 hx => ?_)
      refine scI_of wh1 (nI_add i 1) (show i + 1 < L by omega) hL ?_
      refine ⟨⟨_, wh1.1 11000 842 rfl rfl⟩, ?_⟩
      refine cl_I (D := 49) (by decide) (c_X10_work wh1 rfl e2) (fun h2 wh2 => ?_)
      refine ⟨⟨_, wh2.1 11000 842 rfl rfl⟩, ?_⟩
      refine cl_I (D := 0) (by decide) (c_X10_thrown (fu := 3000) wh2 rfl rfl) (fun h3 wh3 => ?_)
      exact endT K0_I hx hO wh3 (P_more (Nat.le_add_left _ _) (Nat.le_add_left _ _) (go g1 w2 h3 wh3 hI2))
    -- book
    · obtain ⟨o, w1, rr, w2, e1, e2, hI2, hO⟩ := S_book (xs (i + 1)) hI
      refine scI_of wh (nI_add i 1) (show i + 1 < L by omega) hL ?_
      refine cl_LQ (D := 10) (nc := 1) (ns := 6) (rc := 8 + bR r) (rs := 48 + bS r) (by decide) (by show 9 + bR r = _; omega) (by show 54 + bS r = _; omega) (c_L_book wh e1 (okK hO)) (fun x h1 g1 wh1 hx => ?_)
      refine scI_of wh1 (nI_add i 1) (show i + 1 < L by omega) hL ?_
      refine ⟨⟨_, wh1.1 11000 842 rfl rfl⟩, ?_⟩
      refine cl_I (D := 2) (by decide) (c_X10_book wh1 rfl e2) (fun h2 wh2 => ?_)
      refine ⟨⟨_, wh2.1 11000 842 rfl rfl⟩, ?_⟩
      refine cl_I (D := 0) (by decide) (c_X10_thrown (fu := 3000) wh2 rfl rfl) (fun h3 wh3 => ?_)
      exact endT K0_I hx hO wh3 (P_more (Nat.le_add_left _ _) (Nat.le_add_left _ _) (go g1 w2 h3 wh3 hI2))
    -- fault
    · obtain ⟨vv, w1, w2, e1, e2, hI2⟩ := S_fault hI
      refine ⟨⟨_, wh.2.1 10900 0 rfl rfl⟩, ?_⟩
      refine cl_I (D := 0) (by decide) (c_X9_fault wh rfl e1) (fun h1 wh1 => ?_)
      refine ⟨⟨_, wh1.1 11000 842 rfl rfl⟩, ?_⟩
      refine cl_I (D := 0) (by decide) (c_X10_fault wh1 rfl e2) (fun h2 wh2 => ?_)
      exact ⟨fun _ => go2 g w2 h2 wh2 hI2, fun c => absurd rfl c⟩
    -- undo
    · obtain ⟨vv, w1, w2, e1, e2, hI2⟩ := S_undo hI
      refine ⟨⟨_, wh.2.1 10900 0 rfl rfl⟩, ?_⟩
      refine cl_I (D := 5) (by decide) (c_X9_undo wh rfl e1) (fun h1 wh1 => ?_)
      refine ⟨⟨_, wh1.1 11000 842 rfl rfl⟩, ?_⟩
      refine cl_I (D := 0) (by decide) (c_X10_undo wh1 rfl e2) (fun h2 wh2 => ?_)
      exact ⟨fun _ => go2 g w2 h2 wh2 hI2, fun c => absurd rfl c⟩
    -- told
    · obtain ⟨o, w1, rr, w2, e1, e2, hI2, hO⟩ := S_told (xs (i + 1)) hI
      refine scI_of wh (nI_add i 1) (show i + 1 < L by omega) hL ?_
      refine cl_LQ (D := 9) (nc := 1) (ns := 6) (rc := 8 + bR r) (rs := 48 + bS r) (by decide) (by show 9 + bR r = _; omega) (by show 54 + bS r = _; omega) (c_L_told wh e1 (okK hO)) (fun x h1 g1 wh1 hx => ?_)
      refine scI_of wh1 (nI_add i 1) (show i + 1 < L by omega) hL ?_
      refine ⟨⟨_, wh1.1 11000 842 rfl rfl⟩, ?_⟩
      refine cl_I (D := 2) (by decide) (c_X10_told wh1 rfl e2) (fun h2 wh2 => ?_)
      refine ⟨⟨_, wh2.1 11000 842 rfl rfl⟩, ?_⟩
      refine cl_I (D := 0) (by decide) (c_X10_thrown (fu := 3000) wh2 rfl rfl) (fun h3 wh3 => ?_)
      exact endT K0_I hx hO wh3 (P_more (Nat.le_add_left _ _) (Nat.le_add_left _ _) (go g1 w2 h3 wh3 hI2))
    -- heir
    · obtain ⟨o, w1, rr, w2, e1, e2, hI2, hO⟩ := S_heir (xs (i + 1)) (xs (i + 2)) hI
      refine scI_of wh (nI_add i 1) (show i + 1 < L by omega) hL ?_
      refine scI_of wh (nI_add i 2) (show i + 2 < L by omega) hL ?_
      refine cl_LQ (D := 9) (nc := 2) (ns := 12) (rc := 7 + bR r) (rs := 42 + bS r) (by decide) (by show 9 + bR r = _; omega) (by show 54 + bS r = _; omega) (c_L_heir wh e1 (okK hO)) (fun x h1 g1 wh1 hx => ?_)
      refine scI_of wh1 (nI_add i 1) (show i + 1 < L by omega) hL ?_
      refine scI_of wh1 (nI_add i 2) (show i + 2 < L by omega) hL ?_
      refine ⟨⟨_, wh1.1 11000 842 rfl rfl⟩, ?_⟩
      refine cl_I (D := 2) (by decide) (c_X10_heir wh1 rfl e2) (fun h2 wh2 => ?_)
      refine ⟨⟨_, wh2.1 11000 842 rfl rfl⟩, ?_⟩
      refine cl_I (D := 0) (by decide) (c_X10_thrown (fu := 3000) wh2 rfl rfl) (fun h3 wh3 => ?_)
      exact endT K0_B hx hO wh3 (P_more (Nat.le_add_left _ _) (Nat.le_add_left _ _) (go g1 w2 h3 wh3 hI2))
    -- two
    · obtain ⟨o, w1, rr, w2, e1, e2, hI2, hO⟩ := S_two (xs (i + 1)) (xs (i + 2)) hI
      refine scI_of wh (nI_add i 1) (show i + 1 < L by omega) hL ?_
      refine scI_of wh (nI_add i 2) (show i + 2 < L by omega) hL ?_
      refine cl_LQ (D := 9) (nc := 2) (ns := 12) (rc := 7 + bR r) (rs := 42 + bS r) (by decide) (by show 9 + bR r = _; omega) (by show 54 + bS r = _; omega) (c_L_two wh e1 (okK hO)) (fun x h1 g1 wh1 hx => ?_)
      refine scI_of wh1 (nI_add i 1) (show i + 1 < L by omega) hL ?_
      refine scI_of wh1 (nI_add i 2) (show i + 2 < L by omega) hL ?_
      refine ⟨⟨_, wh1.1 11000 842 rfl rfl⟩, ?_⟩
      refine cl_I (D := 1) (by decide) (c_X10_two wh1 rfl e2) (fun h2 wh2 => ?_)
      refine ⟨⟨_, wh2.1 11000 842 rfl rfl⟩, ?_⟩
      refine cl_I (D := 0) (by decide) (c_X10_thrown (fu := 3000) wh2 rfl rfl) (fun h3 wh3 => ?_)
      exact endT K0_B hx hO wh3 (P_more (Nat.le_add_left _ _) (Nat.le_add_left _ _) (go g1 w2 h3 wh3 hI2))
    -- keeper
    · obtain ⟨o, w1, rr, w2, e1, e2, hI2, hO⟩ := S_keeper (xs (i + 1)) (xs (i + 2)) hI
      refine scI_of wh (nI_add i 1) (show i + 1 < L by omega) hL ?_
      refine scI_of wh (nI_add i 2) (show i + 2 < L by omega) hL ?_
      refine cl_LQ (D := 9) (nc := 2) (ns := 12) (rc := 7 + bR r) (rs := 42 + bS r) (by decide) (by show 9 + bR r = _; omega) (by show 54 + bS r = _; omega) (c_L_keeper wh e1 (okK hO)) (fun x h1 g1 wh1 hx => ?_)
      refine scI_of wh1 (nI_add i 1) (show i + 1 < L by omega) hL ?_
      refine scI_of wh1 (nI_add i 2) (show i + 2 < L by omega) hL ?_
      refine ⟨⟨_, wh1.1 11000 842 rfl rfl⟩, ?_⟩
      refine cl_I (D := 1) (by decide) (c_X10_keeper wh1 rfl e2) (fun h2 wh2 => ?_)
      refine ⟨⟨_, wh2.1 11000 842 rfl rfl⟩, ?_⟩
      refine cl_I (D := 0) (by decide) (c_X10_thrown (fu := 3000) wh2 rfl rfl) (fun h3 wh3 => ?_)
      exact endT K0_B hx hO wh3 (P_more (Nat.le_add_left _ _) (Nat.le_add_left _ _) (go g1 w2 h3 wh3 hI2))
    -- cloud
    · obtain ⟨o, w1, rr, w2, e1, e2, hI2, hO⟩ := S_cloud (xs (i + 1)) hI
      refine scI_of wh (nI_add i 1) (show i + 1 < L by omega) hL ?_
      refine cl_LQ (D := 9) (nc := 1) (ns := 6) (rc := 8 + bR r) (rs := 48 + bS r) (by decide) (by show 9 + bR r = _; omega) (by show 54 + bS r = _; omega) (c_L_cloud wh e1 (okK hO)) (fun x h1 g1 wh1 hx => ?_)
      refine scI_of wh1 (nI_add i 1) (show i + 1 < L by omega) hL ?_
      refine ⟨⟨_, wh1.1 11000 842 rfl rfl⟩, ?_⟩
      refine cl_I (D := 5) (by decide) (c_X10_cloud wh1 rfl e2) (fun h2 wh2 => ?_)
      refine ⟨⟨_, wh2.1 11000 842 rfl rfl⟩, ?_⟩
      refine cl_I (D := 0) (by decide) (c_X10_thrown (fu := 3000) wh2 rfl rfl) (fun h3 wh3 => ?_)
      exact endT K0_N hx hO wh3 (P_more (Nat.le_add_left _ _) (Nat.le_add_left _ _) (go g1 w2 h3 wh3 hI2))
    -- would
    · obtain ⟨o, w1, rr, w2, e1, e2, hI2, hO⟩ := S_would (xs (i + 1)) (xs (i + 2)) (xs (i + 3)) (xs (i + 4)) (xs (i + 5)) (xs (i + 6)) (xs (i + 7)) (xs (i + 8)) (xs (i + 9)) hI
      refine scI_of wh (nI_add i 1) (show i + 1 < L by omega) hL ?_
      refine scI_of wh (nI_add i 2) (show i + 2 < L by omega) hL ?_
      refine scI_of wh (nI_add i 3) (show i + 3 < L by omega) hL ?_
      refine scI_of wh (nI_add i 4) (show i + 4 < L by omega) hL ?_
      refine scI_of wh (nI_add i 5) (show i + 5 < L by omega) hL ?_
      refine scI_of wh (nI_add i 6) (show i + 6 < L by omega) hL ?_
      refine scI_of wh (nI_add i 7) (show i + 7 < L by omega) hL ?_
      refine scI_of wh (nI_add i 8) (show i + 8 < L by omega) hL ?_
      refine scI_of wh (nI_add i 9) (show i + 9 < L by omega) hL ?_
      refine cl_LQ (D := 9) (nc := 9) (ns := 54) (rc := 0 + bR r) (rs := 0 + bS r) (by decide) (by show 9 + bR r = _; omega) (by show 54 + bS r = _; omega) (c_L_would wh e1 (okK hO)) (fun x h1 g1 wh1 hx => ?_)
      refine scI_of wh1 (nI_add i 1) (show i + 1 < L by omega) hL ?_
      refine scI_of wh1 (nI_add i 2) (show i + 2 < L by omega) hL ?_
      refine scI_of wh1 (nI_add i 3) (show i + 3 < L by omega) hL ?_
      refine scI_of wh1 (nI_add i 4) (show i + 4 < L by omega) hL ?_
      refine scI_of wh1 (nI_add i 5) (show i + 5 < L by omega) hL ?_
      refine scI_of wh1 (nI_add i 6) (show i + 6 < L by omega) hL ?_
      refine scI_of wh1 (nI_add i 7) (show i + 7 < L by omega) hL ?_
      refine scI_of wh1 (nI_add i 8) (show i + 8 < L by omega) hL ?_
      refine scI_of wh1 (nI_add i 9) (show i + 9 < L by omega) hL ?_
      refine ⟨⟨_, wh1.1 11000 842 rfl rfl⟩, ?_⟩
      refine cl_I (D := 4) (by decide) (c_X10_would wh1 rfl e2) (fun h2 wh2 => ?_)
      refine ⟨⟨_, wh2.1 11000 842 rfl rfl⟩, ?_⟩
      refine cl_I (D := 0) (by decide) (c_X10_thrown (fu := 3000) wh2 rfl rfl) (fun h3 wh3 => ?_)
      exact endT K0_I hx hO wh3 (P_more (Nat.le_add_left _ _) (Nat.le_add_left _ _) (go g1 w2 h3 wh3 hI2))
    -- rank
    · obtain ⟨o, w1, rr, w2, e1, e2, hI2, hO⟩ := S_rank (xs (i + 1)) hI
      refine scI_of wh (nI_add i 1) (show i + 1 < L by omega) hL ?_
      refine cl_LQ (D := 9) (nc := 1) (ns := 6) (rc := 8 + bR r) (rs := 48 + bS r) (by decide) (by show 9 + bR r = _; omega) (by show 54 + bS r = _; omega) (c_L_rank wh e1 (okK hO)) (fun x h1 g1 wh1 hx => ?_)
      refine scI_of wh1 (nI_add i 1) (show i + 1 < L by omega) hL ?_
      refine ⟨⟨_, wh1.1 11000 842 rfl rfl⟩, ?_⟩
      refine cl_I (D := 2) (by decide) (c_X10_rank wh1 rfl e2) (fun h2 wh2 => ?_)
      refine ⟨⟨_, wh2.1 11000 842 rfl rfl⟩, ?_⟩
      refine cl_I (D := 0) (by decide) (c_X10_thrown (fu := 3000) wh2 rfl rfl) (fun h3 wh3 => ?_)
      exact endT K0_I hx hO wh3 (P_more (Nat.le_add_left _ _) (Nat.le_add_left _ _) (go g1 w2 h3 wh3 hI2))
    -- ahead
    · obtain ⟨o, w1, rr, w2, e1, e2, hI2, hO⟩ := S_ahead (xs (i + 1)) (xs (i + 2)) hI
      refine scI_of wh (nI_add i 1) (show i + 1 < L by omega) hL ?_
      refine scI_of wh (nI_add i 2) (show i + 2 < L by omega) hL ?_
      refine cl_LQ (D := 9) (nc := 2) (ns := 12) (rc := 7 + bR r) (rs := 42 + bS r) (by decide) (by show 9 + bR r = _; omega) (by show 54 + bS r = _; omega) (c_L_ahead wh e1 (okK hO)) (fun x h1 g1 wh1 hx => ?_)
      refine scI_of wh1 (nI_add i 1) (show i + 1 < L by omega) hL ?_
      refine scI_of wh1 (nI_add i 2) (show i + 2 < L by omega) hL ?_
      refine ⟨⟨_, wh1.1 11000 842 rfl rfl⟩, ?_⟩
      refine cl_I (D := 6) (by decide) (c_X10_ahead wh1 rfl e2) (fun h2 wh2 => ?_)
      refine ⟨⟨_, wh2.1 11000 842 rfl rfl⟩, ?_⟩
      refine cl_I (D := 0) (by decide) (c_X10_thrown (fu := 3000) wh2 rfl rfl) (fun h3 wh3 => ?_)
      exact endT K0_I hx hO wh3 (P_more (Nat.le_add_left _ _) (Nat.le_add_left _ _) (go g1 w2 h3 wh3 hI2))
    -- clouds
    · obtain ⟨o, w1, rr, w2, e1, e2, hI2, hO⟩ := S_clouds (xs (i + 1)) hI
      refine scI_of wh (nI_add i 1) (show i + 1 < L by omega) hL ?_
      refine cl_LQ (D := 9) (nc := 1) (ns := 6) (rc := 8 + bR r) (rs := 48 + bS r) (by decide) (by show 9 + bR r = _; omega) (by show 54 + bS r = _; omega) (c_L_clouds wh e1 (okK hO)) (fun x h1 g1 wh1 hx => ?_)
      refine scI_of wh1 (nI_add i 1) (show i + 1 < L by omega) hL ?_
      refine ⟨⟨_, wh1.1 11000 842 rfl rfl⟩, ?_⟩
      refine cl_I (D := 6) (by decide) (c_X10_clouds wh1 rfl e2) (fun h2 wh2 => ?_)
      refine ⟨⟨_, wh2.1 11000 842 rfl rfl⟩, ?_⟩
      refine cl_I (D := 0) (by decide) (c_X10_thrown (fu := 3000) wh2 rfl rfl) (fun h3 wh3 => ?_)
      exact endT K0_N hx hO wh3 (P_more (Nat.le_add_left _ _) (Nat.le_add_left _ _) (go g1 w2 h3 wh3 hI2))
    -- wipes
    · obtain ⟨o, w1, rr, w2, e1, e2, hI2, hO⟩ := S_wipes (xs (i + 1)) hI
      refine scI_of wh (nI_add i 1) (show i + 1 < L by omega) hL ?_
      refine cl_LQ (D := 9) (nc := 1) (ns := 6) (rc := 8 + bR r) (rs := 48 + bS r) (by decide) (by show 9 + bR r = _; omega) (by show 54 + bS r = _; omega) (c_L_wipes wh e1 (okK hO)) (fun x h1 g1 wh1 hx => ?_)
      refine scI_of wh1 (nI_add i 1) (show i + 1 < L by omega) hL ?_
      refine ⟨⟨_, wh1.1 11000 842 rfl rfl⟩, ?_⟩
      refine cl_I (D := 6) (by decide) (c_X10_wipes wh1 rfl e2) (fun h2 wh2 => ?_)
      refine ⟨⟨_, wh2.1 11000 842 rfl rfl⟩, ?_⟩
      refine cl_I (D := 0) (by decide) (c_X10_thrown (fu := 3000) wh2 rfl rfl) (fun h3 wh3 => ?_)
      exact endT K0_N hx hO wh3 (P_more (Nat.le_add_left _ _) (Nat.le_add_left _ _) (go g1 w2 h3 wh3 hI2))
    -- gasp
    · obtain ⟨o, w1, rr, w2, e1, e2, hI2, hO⟩ := S_gasp (xs (i + 1)) hI
      refine scI_of wh (nI_add i 1) (show i + 1 < L by omega) hL ?_
      refine cl_LQ (D := 9) (nc := 1) (ns := 6) (rc := 8 + bR r) (rs := 48 + bS r) (by decide) (by show 9 + bR r = _; omega) (by show 54 + bS r = _; omega) (c_L_gasp wh e1 (okK hO)) (fun x h1 g1 wh1 hx => ?_)
      refine scI_of wh1 (nI_add i 1) (show i + 1 < L by omega) hL ?_
      refine ⟨⟨_, wh1.1 11000 842 rfl rfl⟩, ?_⟩
      refine cl_I (D := 6) (by decide) (c_X10_gasp wh1 rfl e2) (fun h2 wh2 => ?_)
      refine ⟨⟨_, wh2.1 11000 842 rfl rfl⟩, ?_⟩
      refine cl_I (D := 0) (by decide) (c_X10_thrown (fu := 3000) wh2 rfl rfl) (fun h3 wh3 => ?_)
      exact endT K0_N hx hO wh3 (P_more (Nat.le_add_left _ _) (Nat.le_add_left _ _) (go g1 w2 h3 wh3 hI2))
    -- way
    · obtain ⟨o, w1, rr, w2, e1, e2, hI2, hO⟩ := S_way (xs (i + 1)) (xs (i + 2)) hI
      refine scI_of wh (nI_add i 1) (show i + 1 < L by omega) hL ?_
      refine scI_of wh (nI_add i 2) (show i + 2 < L by omega) hL ?_
      refine cl_LQ (D := 9) (nc := 2) (ns := 12) (rc := 7 + bR r) (rs := 42 + bS r) (by decide) (by show 9 + bR r = _; omega) (by show 54 + bS r = _; omega) (c_L_way wh e1 (okK hO)) (fun x h1 g1 wh1 hx => ?_)
      refine scI_of wh1 (nI_add i 1) (show i + 1 < L by omega) hL ?_
      refine scI_of wh1 (nI_add i 2) (show i + 2 < L by omega) hL ?_
      refine ⟨⟨_, wh1.1 11000 842 rfl rfl⟩, ?_⟩
      refine cl_I (D := 2) (by decide) (c_X10_way wh1 rfl e2) (fun h2 wh2 => ?_)
      refine ⟨⟨_, wh2.1 11000 842 rfl rfl⟩, ?_⟩
      refine cl_I (D := 0) (by decide) (c_X10_thrown (fu := 3000) wh2 rfl rfl) (fun h3 wh3 => ?_)
      exact endT K0_N hx hO wh3 (P_more (Nat.le_add_left _ _) (Nat.le_add_left _ _) (go g1 w2 h3 wh3 hI2))
    -- hush
    · obtain ⟨o, w1, rr, w2, e1, e2, hI2, hO⟩ := S_hush (xs (i + 1)) (xs (i + 2)) hI
      refine scI_of wh (nI_add i 1) (show i + 1 < L by omega) hL ?_
      refine scI_of wh (nI_add i 2) (show i + 2 < L by omega) hL ?_
      refine cl_LQ (D := 9) (nc := 3) (ns := 18) (rc := 6 + bR r) (rs := 36 + bS r) (by decide) (by show 9 + bR r = _; omega) (by show 54 + bS r = _; omega) (c_L_hush wh e1 (okK hO)) (fun x h1 g1 wh1 hx => ?_)
      refine scI_of wh1 (nI_add i 1) (show i + 1 < L by omega) hL ?_
      refine scI_of wh1 (nI_add i 2) (show i + 2 < L by omega) hL ?_
      refine ⟨⟨_, wh1.1 11000 842 rfl rfl⟩, ?_⟩
      refine cl_I (D := 2) (by decide) (c_X10_hush wh1 rfl e2) (fun h2 wh2 => ?_)
      refine ⟨⟨_, wh2.1 11000 842 rfl rfl⟩, ?_⟩
      refine cl_I (D := 0) (by decide) (c_X10_thrown (fu := 3000) wh2 rfl rfl) (fun h3 wh3 => ?_)
      exact endT K0_B hx hO wh3 (P_more (Nat.le_add_left _ _) (Nat.le_add_left _ _) (go g1 w2 h3 wh3 hI2))
    -- still
    · obtain ⟨vv, w1, w2, e1, e2, hI2⟩ := S_still hI
      refine ⟨⟨_, wh.2.1 10900 0 rfl rfl⟩, ?_⟩
      refine cl_I (D := 1) (by decide) (c_X9_still wh rfl e1) (fun h1 wh1 => ?_)
      refine ⟨⟨_, wh1.1 11000 842 rfl rfl⟩, ?_⟩
      refine cl_I (D := 1) (by decide) (c_X10_still wh1 rfl e2) (fun h2 wh2 => ?_)
      exact ⟨fun _ => go2 g w2 h2 wh2 hI2, fun c => absurd rfl c⟩
    -- seats
    · obtain ⟨vv, w1, w2, e1, e2, hI2⟩ := S_seats hI
      refine ⟨⟨_, wh.2.1 10900 0 rfl rfl⟩, ?_⟩
      refine cl_I (D := 4) (by decide) (c_X9_seats wh rfl e1) (fun h1 wh1 => ?_)
      refine ⟨⟨_, wh1.1 11000 842 rfl rfl⟩, ?_⟩
      refine cl_I (D := 3) (by decide) (c_X10_seats wh1 rfl e2) (fun h2 wh2 => ?_)
      exact ⟨fun _ => go2 g w2 h2 wh2 hI2, fun c => absurd rfl c⟩
    -- seat
    · obtain ⟨o, w1, rr, w2, e1, e2, hI2, hO⟩ := S_seat (xs (i + 1)) hI
      refine scI_of wh (nI_add i 1) (show i + 1 < L by omega) hL ?_
      refine cl_LQ (D := 8) (nc := 1) (ns := 6) (rc := 8 + bR r) (rs := 48 + bS r) (by decide) (by show 9 + bR r = _; omega) (by show 54 + bS r = _; omega) (c_L_seat wh e1 (okK hO)) (fun x h1 g1 wh1 hx => ?_)
      refine scI_of wh1 (nI_add i 1) (show i + 1 < L by omega) hL ?_
      refine ⟨⟨_, wh1.1 11000 842 rfl rfl⟩, ?_⟩
      refine cl_I (D := 3) (by decide) (c_X10_seat wh1 rfl e2) (fun h2 wh2 => ?_)
      refine ⟨⟨_, wh2.1 11000 842 rfl rfl⟩, ?_⟩
      refine cl_I (D := 0) (by decide) (c_X10_thrown (fu := 3000) wh2 rfl rfl) (fun h3 wh3 => ?_)
      exact endT K0_I hx hO wh3 (P_more (Nat.le_add_left _ _) (Nat.le_add_left _ _) (go g1 w2 h3 wh3 hI2))
    -- fits
    · obtain ⟨o, w1, rr, w2, e1, e2, hI2, hO⟩ := S_fits (xs (i + 1)) (xs (i + 2)) hI
      refine scI_of wh (nI_add i 1) (show i + 1 < L by omega) hL ?_
      refine scI_of wh (nI_add i 2) (show i + 2 < L by omega) hL ?_
      refine cl_LQ (D := 9) (nc := 2) (ns := 12) (rc := 7 + bR r) (rs := 42 + bS r) (by decide) (by show 9 + bR r = _; omega) (by show 54 + bS r = _; omega) (c_L_fits wh e1 (okK hO)) (fun x h1 g1 wh1 hx => ?_)
      refine scI_of wh1 (nI_add i 1) (show i + 1 < L by omega) hL ?_
      refine scI_of wh1 (nI_add i 2) (show i + 2 < L by omega) hL ?_
      refine ⟨⟨_, wh1.1 11000 842 rfl rfl⟩, ?_⟩
      refine cl_I (D := 5) (by decide) (c_X10_fits wh1 rfl e2) (fun h2 wh2 => ?_)
      refine ⟨⟨_, wh2.1 11000 842 rfl rfl⟩, ?_⟩
      refine cl_I (D := 0) (by decide) (c_X10_thrown (fu := 3000) wh2 rfl rfl) (fun h3 wh3 => ?_)
      exact endT K0_B hx hO wh3 (P_more (Nat.le_add_left _ _) (Nat.le_add_left _ _) (go g1 w2 h3 wh3 hI2))
    -- look
    · obtain ⟨o, w1, rr, w2, e1, e2, hI2, hO⟩ := S_look (xs (i + 1)) (xs (i + 2)) hI
      refine scI_of wh (nI_add i 1) (show i + 1 < L by omega) hL ?_
      refine scI_of wh (nI_add i 2) (show i + 2 < L by omega) hL ?_
      refine cl_LQ (D := 9) (nc := 2) (ns := 12) (rc := 7 + bR r) (rs := 42 + bS r) (by decide) (by show 9 + bR r = _; omega) (by show 54 + bS r = _; omega) (c_L_look wh e1 (okK hO)) (fun x h1 g1 wh1 hx => ?_)
      refine scI_of wh1 (nI_add i 1) (show i + 1 < L by omega) hL ?_
      refine scI_of wh1 (nI_add i 2) (show i + 2 < L by omega) hL ?_
      refine ⟨⟨_, wh1.1 11000 842 rfl rfl⟩, ?_⟩
      refine cl_I (D := 5) (by decide) (c_X10_look wh1 rfl e2) (fun h2 wh2 => ?_)
      refine ⟨⟨_, wh2.1 11000 842 rfl rfl⟩, ?_⟩
      refine cl_I (D := 0) (by decide) (c_X10_thrown (fu := 3000) wh2 rfl rfl) (fun h3 wh3 => ?_)
      exact endT K0_B hx hO wh3 (P_more (Nat.le_add_left _ _) (Nat.le_add_left _ _) (go g1 w2 h3 wh3 hI2))
    -- lots
    · obtain ⟨o, w1, rr, w2, e1, e2, hI2, hO⟩ := S_lots (xs (i + 1)) (xs (i + 2)) (xs (i + 3)) (xs (i + 4)) hI
      refine scI_of wh (nI_add i 1) (show i + 1 < L by omega) hL ?_
      refine scI_of wh (nI_add i 2) (show i + 2 < L by omega) hL ?_
      refine scI_of wh (nI_add i 3) (show i + 3 < L by omega) hL ?_
      refine scI_of wh (nI_add i 4) (show i + 4 < L by omega) hL ?_
      refine cl_LQ (D := 9) (nc := 4) (ns := 24) (rc := 5 + bR r) (rs := 30 + bS r) (by decide) (by show 9 + bR r = _; omega) (by show 54 + bS r = _; omega) (c_L_lots wh e1 (okK hO)) (fun x h1 g1 wh1 hx => ?_)
      refine scI_of wh1 (nI_add i 1) (show i + 1 < L by omega) hL ?_
      refine scI_of wh1 (nI_add i 2) (show i + 2 < L by omega) hL ?_
      refine scI_of wh1 (nI_add i 3) (show i + 3 < L by omega) hL ?_
      refine scI_of wh1 (nI_add i 4) (show i + 4 < L by omega) hL ?_
      refine ⟨⟨_, wh1.1 11000 842 rfl rfl⟩, ?_⟩
      refine cl_I (D := 1) (by decide) (c_X10_lots wh1 rfl e2) (fun h2 wh2 => ?_)
      refine ⟨⟨_, wh2.1 11000 842 rfl rfl⟩, ?_⟩
      refine cl_I (D := 0) (by decide) (c_X10_thrown (fu := 3000) wh2 rfl rfl) (fun h3 wh3 => ?_)
      exact endT K0_I hx hO wh3 (P_more (Nat.le_add_left _ _) (Nat.le_add_left _ _) (go g1 w2 h3 wh3 hI2))
    -- regents
    · obtain ⟨o, w1, rr, w2, e1, e2, hI2, hO⟩ := S_regents (xs (i + 1)) (xs (i + 2)) (xs (i + 3)) hI
      refine scI_of wh (nI_add i 1) (show i + 1 < L by omega) hL ?_
      refine scI_of wh (nI_add i 2) (show i + 2 < L by omega) hL ?_
      refine scI_of wh (nI_add i 3) (show i + 3 < L by omega) hL ?_
      refine cl_LQ (D := 9) (nc := 3) (ns := 18) (rc := 6 + bR r) (rs := 36 + bS r) (by decide) (by show 9 + bR r = _; omega) (by show 54 + bS r = _; omega) (c_L_regents wh e1 (okK hO)) (fun x h1 g1 wh1 hx => ?_)
      refine scI_of wh1 (nI_add i 1) (show i + 1 < L by omega) hL ?_
      refine scI_of wh1 (nI_add i 2) (show i + 2 < L by omega) hL ?_
      refine scI_of wh1 (nI_add i 3) (show i + 3 < L by omega) hL ?_
      refine ⟨⟨_, wh1.1 11000 842 rfl rfl⟩, ?_⟩
      refine cl_I (D := 1) (by decide) (c_X10_regents wh1 rfl e2) (fun h2 wh2 => ?_)
      refine ⟨⟨_, wh2.1 11000 842 rfl rfl⟩, ?_⟩
      refine cl_I (D := 0) (by decide) (c_X10_thrown (fu := 3000) wh2 rfl rfl) (fun h3 wh3 => ?_)
      exact endT K0_I hx hO wh3 (P_more (Nat.le_add_left _ _) (Nat.le_add_left _ _) (go g1 w2 h3 wh3 hI2))
    -- moss
    · obtain ⟨o, w1, rr, w2, e1, e2, hI2, hO⟩ := S_moss (xs (i + 1)) (xs (i + 2)) (xs (i + 3)) hI
      refine scI_of wh (nI_add i 1) (show i + 1 < L by omega) hL ?_
      refine scI_of wh (nI_add i 2) (show i + 2 < L by omega) hL ?_
      refine scI_of wh (nI_add i 3) (show i + 3 < L by omega) hL ?_
      refine cl_LQ (D := 9) (nc := 3) (ns := 18) (rc := 6 + bR r) (rs := 36 + bS r) (by decide) (by show 9 + bR r = _; omega) (by show 54 + bS r = _; omega) (c_L_moss wh e1 (okK hO)) (fun x h1 g1 wh1 hx => ?_)
      refine scI_of wh1 (nI_add i 1) (show i + 1 < L by omega) hL ?_
      refine scI_of wh1 (nI_add i 2) (show i + 2 < L by omega) hL ?_
      refine scI_of wh1 (nI_add i 3) (show i + 3 < L by omega) hL ?_
      refine ⟨⟨_, wh1.1 11000 842 rfl rfl⟩, ?_⟩
      refine cl_I (D := 2) (by decide) (c_X10_moss wh1 rfl e2) (fun h2 wh2 => ?_)
      refine ⟨⟨_, wh2.1 11000 842 rfl rfl⟩, ?_⟩
      refine cl_I (D := 0) (by decide) (c_X10_thrown (fu := 3000) wh2 rfl rfl) (fun h3 wh3 => ?_)
      exact endT K0_B hx hO wh3 (P_more (Nat.le_add_left _ _) (Nat.le_add_left _ _) (go g1 w2 h3 wh3 hI2))
    -- backward
    · obtain ⟨o, w1, rr, w2, e1, e2, hI2, hO⟩ := S_backward (xs (i + 1)) hI
      refine scI_of wh (nI_add i 1) (show i + 1 < L by omega) hL ?_
      refine cl_LQ (D := 9) (nc := 1) (ns := 6) (rc := 8 + bR r) (rs := 48 + bS r) (by decide) (by show 9 + bR r = _; omega) (by show 54 + bS r = _; omega) (c_L_backward wh e1 (okK hO)) (fun x h1 g1 wh1 hx => ?_)
      refine scI_of wh1 (nI_add i 1) (show i + 1 < L by omega) hL ?_
      refine ⟨⟨_, wh1.1 11000 842 rfl rfl⟩, ?_⟩
      refine cl_I (D := 1) (by decide) (c_X10_backward wh1 rfl e2) (fun h2 wh2 => ?_)
      refine ⟨⟨_, wh2.1 11000 842 rfl rfl⟩, ?_⟩
      refine cl_I (D := 0) (by decide) (c_X10_thrown (fu := 3000) wh2 rfl rfl) (fun h3 wh3 => ?_)
      exact endT K0_I hx hO wh3 (P_more (Nat.le_add_left _ _) (Nat.le_add_left _ _) (go g1 w2 h3 wh3 hI2))
    -- greenest
    · obtain ⟨o, w1, rr, w2, e1, e2, hI2, hO⟩ := S_greenest (xs (i + 1)) hI
      refine scI_of wh (nI_add i 1) (show i + 1 < L by omega) hL ?_
      refine cl_LQ (D := 9) (nc := 1) (ns := 6) (rc := 8 + bR r) (rs := 48 + bS r) (by decide) (by show 9 + bR r = _; omega) (by show 54 + bS r = _; omega) (c_L_greenest wh e1 (okK hO)) (fun x h1 g1 wh1 hx => ?_)
      refine scI_of wh1 (nI_add i 1) (show i + 1 < L by omega) hL ?_
      refine ⟨⟨_, wh1.1 11000 842 rfl rfl⟩, ?_⟩
      refine cl_I (D := 1) (by decide) (c_X10_greenest wh1 rfl e2) (fun h2 wh2 => ?_)
      refine ⟨⟨_, wh2.1 11000 842 rfl rfl⟩, ?_⟩
      refine cl_I (D := 0) (by decide) (c_X10_thrown (fu := 3000) wh2 rfl rfl) (fun h3 wh3 => ?_)
      exact endT K0_I hx hO wh3 (P_more (Nat.le_add_left _ _) (Nat.le_add_left _ _) (go g1 w2 h3 wh3 hI2))
    -- ear
    · obtain ⟨o, w1, rr, w2, e1, e2, hI2, hO⟩ := S_ear (xs (i + 1)) hI
      refine scI_of wh (nI_add i 1) (show i + 1 < L by omega) hL ?_
      refine cl_LQ (D := 9) (nc := 1) (ns := 6) (rc := 8 + bR r) (rs := 48 + bS r) (by decide) (by show 9 + bR r = _; omega) (by show 54 + bS r = _; omega) (c_L_ear wh e1 (okK hO)) (fun x h1 g1 wh1 hx => ?_)
      refine scI_of wh1 (nI_add i 1) (show i + 1 < L by omega) hL ?_
      refine ⟨⟨_, wh1.1 11000 842 rfl rfl⟩, ?_⟩
      refine cl_I (D := 2) (by decide) (c_X10_ear wh1 rfl e2) (fun h2 wh2 => ?_)
      refine ⟨⟨_, wh2.1 11000 842 rfl rfl⟩, ?_⟩
      refine cl_I (D := 0) (by decide) (c_X10_thrown (fu := 3000) wh2 rfl rfl) (fun h3 wh3 => ?_)
      exact endT K0_N hx hO wh3 (P_more (Nat.le_add_left _ _) (Nat.le_add_left _ _) (go g1 w2 h3 wh3 hI2))
    -- stalest
    · obtain ⟨o, w1, rr, w2, e1, e2, hI2, hO⟩ := S_stalest (xs (i + 1)) hI
      refine scI_of wh (nI_add i 1) (show i + 1 < L by omega) hL ?_
      refine cl_LQ (D := 9) (nc := 1) (ns := 6) (rc := 8 + bR r) (rs := 48 + bS r) (by decide) (by show 9 + bR r = _; omega) (by show 54 + bS r = _; omega) (c_L_stalest wh e1 (okK hO)) (fun x h1 g1 wh1 hx => ?_)
      refine scI_of wh1 (nI_add i 1) (show i + 1 < L by omega) hL ?_
      refine ⟨⟨_, wh1.1 11000 842 rfl rfl⟩, ?_⟩
      refine cl_I (D := 1) (by decide) (c_X10_stalest wh1 rfl e2) (fun h2 wh2 => ?_)
      refine ⟨⟨_, wh2.1 11000 842 rfl rfl⟩, ?_⟩
      refine cl_I (D := 0) (by decide) (c_X10_thrown (fu := 3000) wh2 rfl rfl) (fun h3 wh3 => ?_)
      exact endT K0_I hx hO wh3 (P_more (Nat.le_add_left _ _) (Nat.le_add_left _ _) (go g1 w2 h3 wh3 hI2))
    -- coughs
    · obtain ⟨o, w1, rr, w2, e1, e2, hI2, hO⟩ := S_coughs (xs (i + 1)) (xs (i + 2)) hI
      refine scI_of wh (nI_add i 1) (show i + 1 < L by omega) hL ?_
      refine scI_of wh (nI_add i 2) (show i + 2 < L by omega) hL ?_
      refine cl_LQ (D := 9) (nc := 2) (ns := 12) (rc := 7 + bR r) (rs := 42 + bS r) (by decide) (by show 9 + bR r = _; omega) (by show 54 + bS r = _; omega) (c_L_coughs wh e1 (okK hO)) (fun x h1 g1 wh1 hx => ?_)
      refine scI_of wh1 (nI_add i 1) (show i + 1 < L by omega) hL ?_
      refine scI_of wh1 (nI_add i 2) (show i + 2 < L by omega) hL ?_
      refine ⟨⟨_, wh1.1 11000 842 rfl rfl⟩, ?_⟩
      refine cl_I (D := 2) (by decide) (c_X10_coughs wh1 rfl e2) (fun h2 wh2 => ?_)
      refine ⟨⟨_, wh2.1 11000 842 rfl rfl⟩, ?_⟩
      refine cl_I (D := 0) (by decide) (c_X10_thrown (fu := 3000) wh2 rfl rfl) (fun h3 wh3 => ?_)
      exact endT K0_B hx hO wh3 (P_more (Nat.le_add_left _ _) (Nat.le_add_left _ _) (go g1 w2 h3 wh3 hI2))
    -- twins
    · obtain ⟨o, w1, rr, w2, e1, e2, hI2, hO⟩ := S_twins (xs (i + 1)) hI
      refine scI_of wh (nI_add i 1) (show i + 1 < L by omega) hL ?_
      refine cl_LQ (D := 9) (nc := 1) (ns := 6) (rc := 8 + bR r) (rs := 48 + bS r) (by decide) (by show 9 + bR r = _; omega) (by show 54 + bS r = _; omega) (c_L_twins wh e1 (okK hO)) (fun x h1 g1 wh1 hx => ?_)
      refine scI_of wh1 (nI_add i 1) (show i + 1 < L by omega) hL ?_
      refine ⟨⟨_, wh1.1 11000 842 rfl rfl⟩, ?_⟩
      refine cl_I (D := 1) (by decide) (c_X10_twins wh1 rfl e2) (fun h2 wh2 => ?_)
      refine ⟨⟨_, wh2.1 11000 842 rfl rfl⟩, ?_⟩
      refine cl_I (D := 0) (by decide) (c_X10_thrown (fu := 3000) wh2 rfl rfl) (fun h3 wh3 => ?_)
      exact endT K0_I hx hO wh3 (P_more (Nat.le_add_left _ _) (Nat.le_add_left _ _) (go g1 w2 h3 wh3 hI2))
    -- sunny
    · obtain ⟨vv, w1, w2, e1, e2, hI2⟩ := S_sunny hI
      refine ⟨⟨_, wh.2.1 10900 0 rfl rfl⟩, ?_⟩
      refine cl_I (D := 1) (by decide) (c_X9_sunny wh rfl e1) (fun h1 wh1 => ?_)
      refine ⟨⟨_, wh1.1 11000 842 rfl rfl⟩, ?_⟩
      refine cl_I (D := 1) (by decide) (c_X10_sunny wh1 rfl e2) (fun h2 wh2 => ?_)
      exact ⟨fun _ => go2 g w2 h2 wh2 hI2, fun c => absurd rfl c⟩
    -- gossip
    · obtain ⟨o, w1, rr, w2, e1, e2, hI2, hO⟩ := S_gossip (xs (i + 1)) hI
      refine scI_of wh (nI_add i 1) (show i + 1 < L by omega) hL ?_
      refine cl_LQ (D := 9) (nc := 1) (ns := 6) (rc := 8 + bR r) (rs := 48 + bS r) (by decide) (by show 9 + bR r = _; omega) (by show 54 + bS r = _; omega) (c_L_gossip wh e1 (okK hO)) (fun x h1 g1 wh1 hx => ?_)
      refine scI_of wh1 (nI_add i 1) (show i + 1 < L by omega) hL ?_
      refine ⟨⟨_, wh1.1 11000 842 rfl rfl⟩, ?_⟩
      refine cl_I (D := 1) (by decide) (c_X10_gossip wh1 rfl e2) (fun h2 wh2 => ?_)
      refine ⟨⟨_, wh2.1 11000 842 rfl rfl⟩, ?_⟩
      refine cl_I (D := 0) (by decide) (c_X10_thrown (fu := 3000) wh2 rfl rfl) (fun h3 wh3 => ?_)
      exact endT K0_I hx hO wh3 (P_more (Nat.le_add_left _ _) (Nat.le_add_left _ _) (go g1 w2 h3 wh3 hI2))
    -- year
    · obtain ⟨o, w1, rr, w2, e1, e2, hI2, hO⟩ := S_year (xs (i + 1)) (xs (i + 2)) (xs (i + 3)) hI
      refine scI_of wh (nI_add i 1) (show i + 1 < L by omega) hL ?_
      refine scI_of wh (nI_add i 2) (show i + 2 < L by omega) hL ?_
      refine scI_of wh (nI_add i 3) (show i + 3 < L by omega) hL ?_
      refine cl_LQ (D := 9) (nc := 2) (ns := 12) (rc := 7 + bR r) (rs := 42 + bS r) (by decide) (by show 9 + bR r = _; omega) (by show 54 + bS r = _; omega) (c_L_year wh e1 (okK hO)) (fun x h1 g1 wh1 hx => ?_)
      refine scI_of wh1 (nI_add i 1) (show i + 1 < L by omega) hL ?_
      refine scI_of wh1 (nI_add i 2) (show i + 2 < L by omega) hL ?_
      refine scI_of wh1 (nI_add i 3) (show i + 3 < L by omega) hL ?_
      refine ⟨⟨_, wh1.1 11000 842 rfl rfl⟩, ?_⟩
      refine cl_I (D := 8) (by decide) (c_X10_year wh1 rfl e2) (fun h2 wh2 => ?_)
      refine ⟨⟨_, wh2.1 11000 842 rfl rfl⟩, ?_⟩
      refine cl_I (D := 0) (by decide) (c_X10_thrown (fu := 3000) wh2 rfl rfl) (fun h3 wh3 => ?_)
      exact endT K0_I hx hO wh3 (P_more (Nat.le_add_left _ _) (Nat.le_add_left _ _) (go g1 w2 h3 wh3 hI2))
    -- span
    · obtain ⟨o, w1, rr, w2, e1, e2, hI2, hO⟩ := S_span (xs (i + 1)) (xs (i + 2)) (xs (i + 3)) (xs (i + 4)) hI
      refine scI_of wh (nI_add i 1) (show i + 1 < L by omega) hL ?_
      refine scI_of wh (nI_add i 2) (show i + 2 < L by omega) hL ?_
      refine scI_of wh (nI_add i 3) (show i + 3 < L by omega) hL ?_
      refine scI_of wh (nI_add i 4) (show i + 4 < L by omega) hL ?_
      refine cl_LQ (D := 9) (nc := 3) (ns := 18) (rc := 6 + bR r) (rs := 36 + bS r) (by decide) (by show 9 + bR r = _; omega) (by show 54 + bS r = _; omega) (c_L_span wh e1 (okK hO)) (fun x h1 g1 wh1 hx => ?_)
      refine scI_of wh1 (nI_add i 1) (show i + 1 < L by omega) hL ?_
      refine scI_of wh1 (nI_add i 2) (show i + 2 < L by omega) hL ?_
      refine scI_of wh1 (nI_add i 3) (show i + 3 < L by omega) hL ?_
      refine scI_of wh1 (nI_add i 4) (show i + 4 < L by omega) hL ?_
      refine ⟨⟨_, wh1.1 11000 842 rfl rfl⟩, ?_⟩
      refine cl_I (D := 8) (by decide) (c_X10_span wh1 rfl e2) (fun h2 wh2 => ?_)
      refine ⟨⟨_, wh2.1 11000 842 rfl rfl⟩, ?_⟩
      refine cl_I (D := 0) (by decide) (c_X10_thrown (fu := 3000) wh2 rfl rfl) (fun h3 wh3 => ?_)
      exact endT K0_I hx hO wh3 (P_more (Nat.le_add_left _ _) (Nat.le_add_left _ _) (go g1 w2 h3 wh3 hI2))
    -- image
    · obtain ⟨vv, w1, w2, e1, e2, hI2⟩ := S_image hI
      refine ⟨⟨_, wh.2.1 10900 0 rfl rfl⟩, ?_⟩
      refine cl_I (D := 5) (by decide) (c_X9_image wh rfl e1) (fun h1 wh1 => ?_)
      refine ⟨⟨_, wh1.1 11000 842 rfl rfl⟩, ?_⟩
      refine cl_I (D := 2) (by decide) (c_X10_image wh1 rfl e2) (fun h2 wh2 => ?_)
      exact ⟨fun _ => go2 g w2 h2 wh2 hI2, fun c => absurd rfl c⟩
    -- restore
    · obtain ⟨vv, w1, w2, e1, e2, hI2⟩ := S_restore hI
      refine ⟨⟨_, wh.2.1 10900 0 rfl rfl⟩, ?_⟩
      refine cl_I (D := 5) (by decide) (c_X9_restore wh rfl e1) (fun h1 wh1 => ?_)
      refine ⟨⟨_, wh1.1 11000 842 rfl rfl⟩, ?_⟩
      refine cl_I (D := 2) (by decide) (c_X10_restore wh1 rfl e2) (fun h2 wh2 => ?_)
      exact ⟨fun _ => go2 g w2 h2 wh2 hI2, fun c => absurd rfl c⟩
    -- status
    · obtain ⟨vv, w1, w2, e1, e2, hI2⟩ := S_status (xs (i + 1)) hI
      refine scI_of wh (nI_add i 1) (show i + 1 < L by omega) hL ?_
      refine ⟨⟨_, wh.2.1 10900 0 rfl rfl⟩, ?_⟩
      refine cl_I (D := 0) (by decide) (c_X9_status wh rfl e1) (fun h1 wh1 => ?_)
      refine scI_of wh1 (nI_add i 1) (show i + 1 < L by omega) hL ?_
      refine ⟨⟨_, wh1.1 11000 842 rfl rfl⟩, ?_⟩
      refine cl_I (D := 1) (by decide) (c_X10_status wh1 rfl e2) (fun h2 wh2 => ?_)
      exact ⟨fun _ => go2 g w2 h2 wh2 hI2, fun c => absurd rfl c⟩
    -- count
    · obtain ⟨vv, w1, w2, e1, e2, hI2⟩ := S_count (xs (i + 1)) hI
      refine scI_of wh (nI_add i 1) (show i + 1 < L by omega) hL ?_
      refine ⟨⟨_, wh.2.1 10900 0 rfl rfl⟩, ?_⟩
      refine cl_I (D := 0) (by decide) (c_X9_count wh rfl e1) (fun h1 wh1 => ?_)
      refine scI_of wh1 (nI_add i 1) (show i + 1 < L by omega) hL ?_
      refine ⟨⟨_, wh1.1 11000 842 rfl rfl⟩, ?_⟩
      refine cl_I (D := 0) (by decide) (c_X10_count wh1 rfl e2) (fun h2 wh2 => ?_)
      exact ⟨fun _ => go2 g w2 h2 wh2 hI2, fun c => absurd rfl c⟩
    · exact go2 g w h wh hI
