/-! new int[n][k] -/
def mnaH (h : PH) (a0 : LA) (t id0 n k n0 : Nat) (g0 : PA) : Nat → PH
  | 0 => up (up h a0 (pA 6 n (.inr (.inr (fun i => if i < n then some (t, id0 + i) else none))))) SZ (pA 99 (n0 + 1) g0)
  | j + 1 => up (up (mnaH h a0 t id0 n k n0 g0 j) (t, id0 + j) (pA 0 k (.inl (fun _ => 0)))) SZ (pA 99 (n0 + 1 + j + 1) g0)
theorem ex_get (F : Heap) (n x : Nat) (hx : x < n) : (F.extract 0 n)[x]? = F[x]? := by
  rw [Array.getElem?_extract]
  simp
  intro h
  omega
theorem ex_size (F : Heap) (n : Nat) (h : n ≤ F.size) : (F.extract 0 n).size = n := by
  simp
  omega
theorem P_mna {d : Nat} {Y : MR} {Q : PO → PH → Prop} {rc rs pc : Nat} {ls st : List PV} {h : PH} {a0 : LA} {t id0 n0 n k idx : Nat} {x y : Int32} {g0 : PA} (hd : decode Y.2.1 pc = .ok (.multianewarray idx 2, 4)) (hcl : Cond.classLink Y.1.cls idx "[[I" ∈ TB) (hov : Cond.arrayOver (.array .int) ∈ NB) (harr : Cond.arrayClass .int ∈ TB) (hx : x = nI k) (hy : y = nI n) (hn : n ≤ 1000) (hk : k ≤ 1000) (hN : h SZ = pA 99 n0 g0) (ht : a0.1 < 1200) (ht2 : a0.1 % 100 ≠ 0) (hoff : off a0 = n0) (hu : t < 1200) (hu2 : t % 100 ≠ 0) (hid : id0 + t % 100 = n0 + 1)
    (k9 : PW d Y Q rc rs (pc + 4) ls (vR a0 :: st) (mnaH h a0 t id0 n k n0 g0 n)) : PW d Y Q ((1 + n) + rc) ((n + n * k) + rs) pc ls (vI x :: vI y :: st) h := by
  intro G D l p e R s m args below meth c mc ms C H locs cells slots lsr S
  have hts := C.2.2.2.2.2.2.1
  obtain ⟨f1, f2, f3, f4⟩ := C.2.2.2.2.2.2.2.2.2.2.2
  have b1 := S.2.2.2.1
  have b2 := S.2.2.2.2
  have hsz : H.size = G.1 + n0 := (S.1.2.2.2.2.2.1 _ _ _ hN).2
  subst hx
  subst hy
  have hcn : (nI n).toNatClampNeg = n := nI_clamp (by omega)
  have hck : (nI k).toNatClampNeg = k := nI_clamp (by omega)
  have hov2 : (Cond.arrayOver (.array .int)).before args s = true := isN_use (List.mem_filter.mp hov).2 (C.2.2.2.2.2.2.2.1.2.2.2.2.2.2.2.1 _ hov)
  intro T hT Xs
  obtain ⟨vm₁, cA, cy, -, fA, fC, hO, -, X', step⟩ := Xs.multianewarray2F (ty := .int) C.1 C.2.2.2.2.2.1 (hts _ hcl) hov2 (hts _ harr) (g := F0 m pc lsr ((vI (nI k) :: vI (nI n) :: st).map (emb G))) rfl (by rw [C.2.1]; exact hd) (rest := st.map (emb G)) rfl (nI_pos (by omega)) (nI_pos (by omega)) (by rw [hcn]; omega) (by rw [hck]; show k * 4 ≤ _; omega) (by rw [hck]; omega) rfl rfl (by rw [hcn]; omega) (by rw [hcn, hck]; omega)
  rw [hcn, hck] at X' step
  generalize hF : Jvm.Free.Multi.fill (T.setVm vm₁) cA cy n k (defaultValue .int) n = F at X' step
  have hTh : (T.setVm vm₁).heap = H := hT
  obtain ⟨z1, z2, -, -⟩ := Jvm.Free.Multi.fill_facts (T.setVm vm₁) cA cy n k (defaultValue .int) n
  rw [hF, hTh] at z1 z2
  have hold : ∀ x : Nat, x < H.size → F.heap[x]? = H[x]? := fun x hx => by
    have := Jvm.Free.Multi.fill_old (T.setVm vm₁) cA cy n k (defaultValue .int) (a := x) (by rw [hTh]; exact hx) n
    rw [hF, hTh] at this
    exact this
  have hrow : ∀ j : Nat, j < n → F.heap[H.size + 1 + j]? = some (arrV cy k (fun _ => .int 0)) := fun j hj => by
    have := Jvm.Free.Multi.fill_inner (T.setVm vm₁) cA cy n k (defaultValue .int) n j hj
    rw [hF, hTh] at this
    rw [this]
    show some ({ cls := cy, slots := Array.replicate k (defaultValue .int), vm := .none } : Cell) = _
    rw [arrV_new]
    rfl
  have hout : F.heap[H.size]? = some (arrV cA n (embA G (.inr (.inr (fun i => if i < n then some (t, id0 + i) else none))))) := by
    rw [z2, vr_outer]
    congr 1
    congr 1
    funext i
    unfold embA
    by_cases hi : i < n
    · simp only [hi, if_true]
      show Value.ref (H.size + 1 + i) = .ref (ra G (t, id0 + i))
      rw [ra_of (by exact hu), hsz]
      refine congrArg Value.ref ?_
      show G.1 + n0 + 1 + i = G.1 + (id0 + i + t % 100)
      omega
    · simp only [hi, if_false]
      rfl
  have hArO : ArrOfT s cA (tyK 6) := fun N9 z9 => by
    obtain ⟨-, k9, hk9, cm9, hkk9⟩ := (hO 0 0 0).1
    exact ⟨(fun q hq => by cases hq), k9, hk9, cm9, hkk9⟩
  have hRAO : va_RA s cA (tyK 6) := fA
  obtain ⟨cI, kI9, comp9, w1, w2, w3⟩ := Cond.arrayClass_spec (hts _ harr)
  have ecy : cI = cy := Option.some.inj (w1.symm.trans fC)
  subst ecy
  have hArI : ArrOfT s cI (tyK 0) := fun n z => ⟨fun q h => (by cases h), kI9, w2, comp9, w3⟩
  have hRAI : va_RA s cI (tyK 0) := w1
  have hR : ∀ j, j ≤ n → Rep G D (mnaH h a0 t id0 n k n0 g0 j) s (F.heap.extract 0 (H.size + 1 + j)) := by
    intro j
    induction j with
    | zero =>
      intro _
      exact Rep_newA S.1 hN ht ht2 hoff (by decide) hArO hRAO (by rw [ex_get _ _ _ (by omega)]; exact hout) (by rw [ex_size _ _ (by omega)]) (fun x hx => by rw [ex_get _ _ _ (by omega)]; exact hold x hx)
    | succ j ih =>
      intro hj
      have hNj : mnaH h a0 t id0 n k n0 g0 j SZ = pA 99 (n0 + 1 + j) g0 := by
        cases j with
        | zero => exact up_eq _ _ _
        | succ j => exact up_eq _ _ _
      have e0 : (F.heap.extract 0 (H.size + 1 + j)).size = H.size + 1 + j := ex_size _ _ (by omega)
      exact Rep_newA (ih (by omega)) (a0 := (t, id0 + j)) hNj hu hu2 (by show id0 + j + t % 100 = n0 + 1 + j; omega) (by decide) hArI hRAI (by rw [e0, ex_get _ _ _ (by omega)]; exact hrow j (by omega)) (by rw [e0, ex_size _ _ (by omega)]; omega) (fun x hx => by rw [e0] at hx; rw [ex_get _ _ _ (by omega), ex_get _ _ _ hx])
  have hRn := hR n (Nat.le_refl n)
  have eF : F.heap.extract 0 (H.size + 1 + n) = F.heap := by
    rw [← z1]
    simp
  rw [eF] at hRn
  have hra : ra G a0 = H.size := by rw [ra_of ht, hoff, hsz]
  have := k9 G D l p e R s m args below meth c mc ms C F.heap locs (cells + 1 + n) (slots + n + n * k) lsr ⟨hRn, S.2.1, ⟨Nat.le_trans S.2.2.1.1 (by omega), fun x h1 h2 => (hold x (Nat.lt_of_lt_of_le h1 S.2.2.1.1)).trans (S.2.2.1.2.1 x h1 h2), S.2.2.1.2.2⟩, by omega, by omega⟩
  rw [show ((vR a0 :: st).map (emb G)) = .ref (ra G a0) :: st.map (emb G) from rfl, hra] at this
  obtain ⟨tt, g1, g2⟩ := this F rfl X'
  refine ⟨tt, step tt ?_, g2⟩
  have eT : T.heap.size = H.size := by rw [hT]
  rw [eT]
  exact g1
def nwM (h : PH) (x y : Int32) (rc rs : Nat) (K : LA → PH → Nat → Nat → Prop) : Prop := ∃ a0 t id0 n0 n k g0 rc2 rs2, x = nI k ∧ y = nI n ∧ n ≤ 1000 ∧ k ≤ 1000 ∧ h SZ = pA 99 n0 g0 ∧ a0.1 < 1200 ∧ a0.1 % 100 ≠ 0 ∧ off a0 = n0 ∧ t < 1200 ∧ t % 100 ≠ 0 ∧ id0 + t % 100 = n0 + 1 ∧ rc = (1 + n) + rc2 ∧ rs = (n + n * k) + rs2 ∧ K a0 (mnaH h a0 t id0 n k n0 g0 n) rc2 rs2
