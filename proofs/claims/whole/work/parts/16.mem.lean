/-! MEMORY: scalars, arrays, the references that move, the long; the heap that holds it -/
abbrev MEM : Type := (LA → Int32) × ((LA → Nat → Int32) × ((LA → Nat) × (Nat → Int64)))
def rS (w : MEM) (a : LA) : Int32 := w.1 a
def fA (w : MEM) (a : LA) : Nat → Int32 := w.2.1 a
def rA (w : MEM) (a : LA) (i : Int32) : Int32 := fA w a i.toNatClampNeg
def rT (w : MEM) (a : LA) : Nat := w.2.2.1 a
def fL (w : MEM) : Nat → Int64 := w.2.2.2
def sS (w : MEM) (a : LA) (x : Int32) : MEM := (fun b => if b = a then x else w.1 b, w.2)
def tA (w : MEM) (a : LA) (f : Nat → Int32) : MEM := (w.1, (fun b => if b = a then f else w.2.1 b, w.2.2))
def sA (w : MEM) (a : LA) (i x : Int32) : MEM := tA w a (upd (fA w a) i.toNatClampNeg x)
def sT (w : MEM) (a : LA) (t : Nat) : MEM := (w.1, (w.2.1, (fun b => if b = a then t else w.2.2.1 b, w.2.2.2)))
def sL (w : MEM) (f : Nat → Int64) : MEM := (w.1, (w.2.1, (w.2.2.1, f)))
theorem rS_sS (w : MEM) (a b : LA) (x : Int32) : rS (sS w a x) b = if b = a then x else rS w b := rfl
theorem rS_tA (w : MEM) (a b : LA) (f : Nat → Int32) : rS (tA w a f) b = rS w b := rfl
theorem rS_sA (w : MEM) (a b : LA) (i x : Int32) : rS (sA w a i x) b = rS w b := rfl
theorem rS_sT (w : MEM) (a b : LA) (t : Nat) : rS (sT w a t) b = rS w b := rfl
theorem rS_sL (w : MEM) (b : LA) (f : Nat → Int64) : rS (sL w f) b = rS w b := rfl
theorem fA_sS (w : MEM) (a b : LA) (x : Int32) : fA (sS w a x) b = fA w b := rfl
theorem fA_tA (w : MEM) (a b : LA) (f : Nat → Int32) : fA (tA w a f) b = if b = a then f else fA w b := rfl
theorem fA_sA (w : MEM) (a b : LA) (i x : Int32) : fA (sA w a i x) b = if b = a then upd (fA w a) i.toNatClampNeg x else fA w b := rfl
theorem fA_sT (w : MEM) (a b : LA) (t : Nat) : fA (sT w a t) b = fA w b := rfl
theorem fA_sL (w : MEM) (b : LA) (f : Nat → Int64) : fA (sL w f) b = fA w b := rfl
theorem rT_sS (w : MEM) (a b : LA) (x : Int32) : rT (sS w a x) b = rT w b := rfl
theorem rT_tA (w : MEM) (a b : LA) (f : Nat → Int32) : rT (tA w a f) b = rT w b := rfl
theorem rT_sA (w : MEM) (a b : LA) (i x : Int32) : rT (sA w a i x) b = rT w b := rfl
theorem rT_sT (w : MEM) (a b : LA) (t : Nat) : rT (sT w a t) b = if b = a then t else rT w b := rfl
theorem rT_sL (w : MEM) (b : LA) (f : Nat → Int64) : rT (sL w f) b = rT w b := rfl
theorem fL_sS (w : MEM) (a : LA) (x : Int32) : fL (sS w a x) = fL w := rfl
theorem fL_tA (w : MEM) (a : LA) (f : Nat → Int32) : fL (tA w a f) = fL w := rfl
theorem fL_sA (w : MEM) (a : LA) (i x : Int32) : fL (sA w a i x) = fL w := rfl
theorem fL_sT (w : MEM) (a : LA) (t : Nat) : fL (sT w a t) = fL w := rfl
theorem fL_sL (w : MEM) (f : Nat → Int64) : fL (sL w f) = f := rfl
theorem rA_sS (w : MEM) (a b : LA) (x j : Int32) : rA (sS w a x) b j = rA w b j := rfl
theorem rA_sT (w : MEM) (a b : LA) (t : Nat) (j : Int32) : rA (sT w a t) b j = rA w b j := rfl
/-- which objects there are, by their class -/
def vo (c i : Nat) : Bool := match c with
  | 9 => i == 0
  | 8 => i == 1
  | 7 => i == 3
  | 2 => i == 8 || (i == 326 || (i == 498 || i == 670))
  | 4 => i == 9 || (i == 181 || (i == 191 || ((Nat.ble 20 i && (Nat.ble i 170 && i % 10 == 0)) || (i == 327 || (i == 499 || (i == 671 || ((Nat.ble 338 i && (Nat.ble i 488 && i % 10 == 8)) || ((Nat.ble 510 i && (Nat.ble i 660 && i % 10 == 0)) || (Nat.ble 682 i && (Nat.ble i 832 && i % 10 == 2))))))))))
  | 6 => i == 201
  | 5 => i == 203
  | 1 => i == 296 || i == 304
  | 3 => i == 312 || i == 317
  | 0 => i == 322 || i == 324
  | 10 => i == 842
  | _ => false
/-- what a logical address is: 1 an int of an object, 2 a reference that stays, 3 one that moves, 4 an array of ints, 5.. others -/
def kl (t : Nat) : Nat := match t with
  | 10001 => 1
  | 10107 => 1
  | 10108 => 1
  | 10109 => 1
  | 10110 => 1
  | 10202 => 1
  | 10304 => 1
  | 10409 => 1
  | 10502 => 1
  | 10503 => 1
  | 10704 => 1
  | 10705 => 1
  | 10706 => 1
  | 10707 => 1
  | 10801 => 1
  | 10802 => 1
  | 10803 => 1
  | 10804 => 1
  | 10805 => 1
  | 10806 => 1
  | 10914 => 1
  | 10915 => 1
  | 10916 => 1
  | 10917 => 1
  | 11000 => 1
  | 11002 => 1
  | 11003 => 1
  | 11004 => 1
  | 11005 => 1
  | 11006 => 1
  | 11007 => 1
  | 11008 => 1
  | 11018 => 1
  | 11019 => 1
  | 11020 => 1
  | 11021 => 1
  | 11022 => 1
  | 11023 => 1
  | 11024 => 1
  | 11025 => 1
  | 11031 => 1
  | 11032 => 1
  | 11036 => 1
  | 11037 => 1
  | 11038 => 1
  | 11039 => 1
  | 11040 => 1
  | 11041 => 1
  | 11047 => 1
  | 11052 => 1
  | 11054 => 1
  | 10000 => 2
  | 10100 => 2
  | 10101 => 2
  | 10102 => 2
  | 10103 => 2
  | 10104 => 2
  | 10105 => 2
  | 10106 => 2
  | 10200 => 2
  | 10201 => 2
  | 10300 => 2
  | 10301 => 2
  | 10302 => 2
  | 10303 => 2
  | 10400 => 2
  | 10401 => 2
  | 10402 => 2
  | 10403 => 2
  | 10404 => 2
  | 10405 => 2
  | 10406 => 2
  | 10407 => 2
  | 10408 => 2
  | 10500 => 2
  | 10501 => 2
  | 10600 => 2
  | 10700 => 2
  | 10701 => 2
  | 10702 => 2
  | 10703 => 2
  | 10800 => 2
  | 10900 => 2
  | 10901 => 2
  | 10902 => 2
  | 10903 => 2
  | 10904 => 2
  | 10905 => 2
  | 10906 => 2
  | 10907 => 2
  | 11001 => 2
  | 11009 => 2
  | 11010 => 2
  | 11011 => 2
  | 11012 => 2
  | 11013 => 2
  | 11014 => 2
  | 11015 => 2
  | 11016 => 2
  | 11017 => 2
  | 11026 => 2
  | 11027 => 2
  | 11028 => 2
  | 11029 => 2
  | 11030 => 2
  | 11033 => 2
  | 11034 => 2
  | 11035 => 2
  | 11042 => 2
  | 11043 => 2
  | 11044 => 2
  | 11045 => 2
  | 11046 => 2
  | 11048 => 2
  | 11049 => 2
  | 11050 => 2
  | 11051 => 2
  | 11053 => 2
  | 10908 => 3
  | 10909 => 3
  | 10910 => 3
  | 10911 => 3
  | 10912 => 3
  | 10913 => 3
  | 1 => 4
  | 101 => 4
  | 102 => 4
  | 103 => 4
  | 104 => 4
  | 105 => 4
  | 106 => 4
  | 107 => 4
  | 301 => 4
  | 302 => 4
  | 303 => 4
  | 304 => 4
  | 401 => 4
  | 402 => 4
  | 403 => 4
  | 404 => 4
  | 405 => 4
  | 406 => 4
  | 407 => 4
  | 408 => 4
  | 409 => 4
  | 503 => 4
  | 601 => 4
  | 701 => 4
  | 702 => 4
  | 703 => 4
  | 704 => 4
  | 801 => 4
  | 1001 => 4
  | 1002 => 4
  | 1003 => 4
  | 1004 => 4
  | 1005 => 4
  | 1006 => 4
  | 1007 => 4
  | 1008 => 4
  | 1009 => 4
  | 1010 => 4
  | 1011 => 4
  | 1012 => 4
  | 1013 => 4
  | 1014 => 4
  | 1015 => 4
  | 1016 => 4
  | 1017 => 4
  | 1018 => 4
  | 1019 => 4
  | 1020 => 4
  | 1021 => 4
  | 1022 => 4
  | 1023 => 4
  | 1024 => 4
  | 1025 => 4
  | 1026 => 4
  | 1027 => 4
  | 1028 => 4
  | 502 => 4
  | 201 => 5
  | 901 => 6
  | 501 => 7
  | 1101 => 8
  | 1201 => 9
  | _ => 0
def fR (t i : Nat) : LA := match t with
  | 10000 => (1, i)
  | 10100 => (101, i)
  | 10101 => (102, i)
  | 10102 => (103, i)
  | 10103 => (104, i)
  | 10104 => (105, i)
  | 10105 => (106, i)
  | 10106 => (107, i)
  | 10200 => (400, i + 1)
  | 10201 => (201, i + 10)
  | 10300 => (301, i)
  | 10301 => (302, i)
  | 10302 => (303, i)
  | 10303 => (304, i)
  | 10400 => (401, i)
  | 10401 => (402, i)
  | 10402 => (403, i)
  | 10403 => (404, i)
  | 10404 => (405, i)
  | 10405 => (406, i)
  | 10406 => (407, i)
  | 10407 => (408, i)
  | 10408 => (409, i)
  | 10500 => (501, 203)
  | 10501 => (503, 292)
  | 10600 => (601, i)
  | 10700 => (701, i)
  | 10701 => (702, i)
  | 10702 => (703, i)
  | 10703 => (704, i)
  | 10800 => (801, i)
  | 10900 => (800, 1)
  | 10901 => (700, 3)
  | 10902 => (200, 8)
  | 10903 => (901, 179)
  | 10904 => (400, 181)
  | 10905 => (400, 191)
  | 10906 => (600, 201)
  | 10907 => (500, 203)
  | 11001 => (1001, i)
  | 11009 => (1002, i)
  | 11010 => (1003, i)
  | 11011 => (1004, i)
  | 11012 => (1005, i)
  | 11013 => (1006, i)
  | 11014 => (1007, i)
  | 11015 => (1008, i)
  | 11016 => (1009, i)
  | 11017 => (1010, i)
  | 11026 => (1011, i)
  | 11027 => (1012, i)
  | 11028 => (1013, i)
  | 11029 => (1014, i)
  | 11030 => (1015, i)
  | 11033 => (1016, i)
  | 11034 => (1017, i)
  | 11035 => (1018, i)
  | 11042 => (1019, i)
  | 11043 => (1020, i)
  | 11044 => (1021, i)
  | 11045 => (1022, i)
  | 11046 => (1023, i)
  | 11048 => (1024, i)
  | 11049 => (1025, i)
  | 11050 => (1026, i)
  | 11051 => (1027, i)
  | 11053 => (1028, i)
  | _ => (0, 0)
def tT (t : Nat) : Nat := match t with
  | 10908 => 1
  | 10909 => 1
  | 10910 => 3
  | 10911 => 3
  | 10912 => 0
  | 10913 => 0
  | _ => 99
def aN (t : Nat) : Nat := match t with
  | 1 => 13
  | 101 => 7
  | 102 => 7
  | 103 => 7
  | 104 => 12
  | 105 => 12
  | 106 => 6
  | 107 => 6
  | 301 => 150
  | 302 => 150
  | 303 => 150
  | 304 => 9
  | 401 => 7
  | 402 => 7
  | 403 => 7
  | 404 => 7
  | 405 => 7
  | 406 => 7
  | 407 => 7
  | 408 => 7
  | 409 => 7
  | 503 => 100
  | 601 => 1024
  | 701 => 150
  | 702 => 150
  | 703 => 150
  | 704 => 150
  | 801 => 600
  | 1001 => 2
  | 1002 => 600
  | 1003 => 7
  | 1004 => 7
  | 1005 => 24
  | 1006 => 12
  | 1007 => 7
  | 1008 => 7
  | 1009 => 24
  | 1010 => 12
  | 1011 => 150
  | 1012 => 150
  | 1013 => 150
  | 1014 => 150
  | 1015 => 150
  | 1016 => 9
  | 1017 => 150
  | 1018 => 150
  | 1019 => 57
  | 1020 => 57
  | 1021 => 912
  | 1022 => 13
  | 1023 => 13
  | 1024 => 1024
  | 1025 => 1170
  | 1026 => 90
  | 1027 => 100
  | 1028 => 2910
  | 502 => 13
  | _ => 0
def aK (t : Nat) : Nat := match t with
  | 801 => 1
  | 1026 => 2
  | _ => 0
def vA (t i : Nat) : Bool := match t with
  | 502 => Nat.ble 203 i && Nat.ble i 292
  | 503 => i == 292
  | _ => vo (t / 100) i
abbrev SCR : Type := Nat × ((Nat → Int32) × (Nat → Int64))
def WH (X : SCR) (h : PH) (w : MEM) : Prop :=
  (∀ t i, kl t = 1 → vo ((t - 10000) / 100) i = true → h (t, i) = pF (vI (rS w (t, i)))) ∧
  (∀ t i, kl t = 2 → vo ((t - 10000) / 100) i = true → h (t, i) = pF (vR (fR t i))) ∧
  (∀ t i, kl t = 3 → vo ((t - 10000) / 100) i = true → h (t, i) = pF (vR (100 * tT t, rT w (t, i))) ∧ vo (tT t) (rT w (t, i)) = true) ∧
  (∀ t i, kl t = 4 → vA t i = true → h (t, i) = pA (aK t) (aN t) (.inl (fA w (t, i)))) ∧
  (∀ i, vo 2 i = true → h (201, i + 10) = pQ 4 16 (fun j => some (400, i + 12 + 10 * j))) ∧
  h (901, 179) = pQ 5 3 (fun j => some (200, 326 + 172 * j)) ∧
  h (501, 203) = pQ 6 90 (fun j => some (502, 203 + j)) ∧
  h (1101, 870) = pL 1 X.2.2 ∧
  h (1201, 0) = pA 98 X.1 (.inl X.2.1) ∧
  (∀ a n g, h a ≠ pA 99 n g)
theorem ne_kl {t i t1 i1 k k1 : Nat} (h : kl t = k) (h1 : kl t1 = k1) (hk : k1 ≠ k) : ((t1, i1) : LA) ≠ (t, i) := fun e => hk (by rw [← h1, ← h, (Prod.mk.inj e).1])
theorem up99 {h : PH} {a : LA} {c : Option PC} (k : ∀ a n g, h a ≠ pA 99 n g) (hc : ∀ n g, c ≠ pA 99 n g) : ∀ b n g, up h a c b ≠ pA 99 n g := by
  intro b n g
  unfold up
  split
  · exact hc n g
  · exact k b n g
theorem WH.S {X : SCR} {h : PH} {w : MEM} (wh : WH X h w) {t i : Nat} (ht : kl t = 1) (x : Int32) : WH X (up h (t, i) (pF (vI x))) (sS w (t, i) x) := by
  obtain ⟨g1, g2, g3, g4, g5, g6, g7, g8, g9, g10⟩ := wh
  refine ⟨fun t1 i1 h1 h2 => ?_, fun t1 i1 h1 h2 => ?_, fun t1 i1 h1 h2 => ?_, fun t1 i1 h1 h2 => ?_, fun i1 h2 => ?_, ?_, ?_, ?_, ?_, up99 g10 (fun n g e => by cases e)⟩
  · unfold up; rw [rS_sS]; split
    · rfl
    · exact g1 t1 i1 h1 h2
  · rw [up_ne h _ (ne_kl ht h1 (by decide))]; exact g2 t1 i1 h1 h2
  · rw [up_ne h _ (ne_kl ht h1 (by decide))]; exact g3 t1 i1 h1 h2
  · rw [up_ne h _ (ne_kl ht h1 (by decide))]; exact g4 t1 i1 h1 h2
  · rw [up_ne h _ (ne_kl (k1 := 5) ht rfl (by decide))]; exact g5 i1 h2
  · rw [up_ne h _ (ne_kl (k1 := 6) ht rfl (by decide))]; exact g6
  · rw [up_ne h _ (ne_kl (k1 := 7) ht rfl (by decide))]; exact g7
  · rw [up_ne h _ (ne_kl (k1 := 8) ht rfl (by decide))]; exact g8
  · rw [up_ne h _ (ne_kl (k1 := 9) ht rfl (by decide))]; exact g9
theorem WH.T {X : SCR} {h : PH} {w : MEM} (wh : WH X h w) {t i : Nat} (ht : kl t = 3) {x : Nat} (hx : vo (tT t) x = true) : WH X (up h (t, i) (pF (vR (100 * tT t, x)))) (sT w (t, i) x) := by
  obtain ⟨g1, g2, g3, g4, g5, g6, g7, g8, g9, g10⟩ := wh
  refine ⟨fun t1 i1 h1 h2 => ?_, fun t1 i1 h1 h2 => ?_, fun t1 i1 h1 h2 => ?_, fun t1 i1 h1 h2 => ?_, fun i1 h2 => ?_, ?_, ?_, ?_, ?_, up99 g10 (fun n g e => by cases e)⟩
  · rw [up_ne h _ (ne_kl ht h1 (by decide))]; exact g1 t1 i1 h1 h2
  · rw [up_ne h _ (ne_kl ht h1 (by decide))]; exact g2 t1 i1 h1 h2
  · unfold up; rw [rT_sT]; split
    · rename_i e
      obtain ⟨rfl, rfl⟩ := Prod.mk.inj e
      exact ⟨rfl, hx⟩
    · exact g3 t1 i1 h1 h2
  · rw [up_ne h _ (ne_kl ht h1 (by decide))]; exact g4 t1 i1 h1 h2
  · rw [up_ne h _ (ne_kl (k1 := 5) ht rfl (by decide))]; exact g5 i1 h2
  · rw [up_ne h _ (ne_kl (k1 := 6) ht rfl (by decide))]; exact g6
  · rw [up_ne h _ (ne_kl (k1 := 7) ht rfl (by decide))]; exact g7
  · rw [up_ne h _ (ne_kl (k1 := 8) ht rfl (by decide))]; exact g8
  · rw [up_ne h _ (ne_kl (k1 := 9) ht rfl (by decide))]; exact g9
theorem WH.A {X : SCR} {h : PH} {w : MEM} (wh : WH X h w) {t i : Nat} (ht : kl t = 4) (f : Nat → Int32) : WH X (up h (t, i) (pA (aK t) (aN t) (.inl f))) (tA w (t, i) f) := by
  have hk : aK t < 90 := by unfold aK; split <;> decide
  obtain ⟨g1, g2, g3, g4, g5, g6, g7, g8, g9, g10⟩ := wh
  refine ⟨fun t1 i1 h1 h2 => ?_, fun t1 i1 h1 h2 => ?_, fun t1 i1 h1 h2 => ?_, fun t1 i1 h1 h2 => ?_, fun i1 h2 => ?_, ?_, ?_, ?_, ?_, up99 g10 (fun n g e => ?_)⟩
  · rw [up_ne h _ (ne_kl ht h1 (by decide))]; exact g1 t1 i1 h1 h2
  · rw [up_ne h _ (ne_kl ht h1 (by decide))]; exact g2 t1 i1 h1 h2
  · rw [up_ne h _ (ne_kl ht h1 (by decide))]; exact g3 t1 i1 h1 h2
  · unfold up; rw [fA_tA]; split
    · rename_i e
      obtain ⟨rfl, rfl⟩ := Prod.mk.inj e
      rfl
    · exact g4 t1 i1 h1 h2
  · rw [up_ne h _ (ne_kl (k1 := 5) ht rfl (by decide))]; exact g5 i1 h2
  · rw [up_ne h _ (ne_kl (k1 := 6) ht rfl (by decide))]; exact g6
  · rw [up_ne h _ (ne_kl (k1 := 7) ht rfl (by decide))]; exact g7
  · rw [up_ne h _ (ne_kl (k1 := 8) ht rfl (by decide))]; exact g8
  · rw [up_ne h _ (ne_kl (k1 := 9) ht rfl (by decide))]; exact g9
  · injection e with e
    injection e with e
    injection e with e
    omega
theorem WH.L {X : SCR} {h : PH} {w : MEM} (wh : WH X h w) (f : Nat → Int64) : WH (X.1, (X.2.1, f)) (up h (1101, 870) (pL 1 f)) w := by
  obtain ⟨g1, g2, g3, g4, g5, g6, g7, g8, g9, g10⟩ := wh
  have ht : kl 1101 = 8 := rfl
  refine ⟨fun t1 i1 h1 h2 => ?_, fun t1 i1 h1 h2 => ?_, fun t1 i1 h1 h2 => ?_, fun t1 i1 h1 h2 => ?_, fun i1 h2 => ?_, ?_, ?_, ?_, ?_, up99 g10 (fun n g e => by cases e)⟩
  · rw [up_ne h _ (ne_kl ht h1 (by decide))]; exact g1 t1 i1 h1 h2
  · rw [up_ne h _ (ne_kl ht h1 (by decide))]; exact g2 t1 i1 h1 h2
  · rw [up_ne h _ (ne_kl ht h1 (by decide))]; exact g3 t1 i1 h1 h2
  · rw [up_ne h _ (ne_kl ht h1 (by decide))]; exact g4 t1 i1 h1 h2
  · rw [up_ne h _ (ne_kl (k1 := 5) ht rfl (by decide))]; exact g5 i1 h2
  · rw [up_ne h _ (ne_kl (k1 := 6) ht rfl (by decide))]; exact g6
  · rw [up_ne h _ (ne_kl (k1 := 7) ht rfl (by decide))]; exact g7
  · exact up_eq _ _ _
  · rw [up_ne h _ (ne_kl (k1 := 9) ht rfl (by decide))]; exact g9
-- words of the functions
def lt {α β : Type} (v : α) (k : α → β) : β := k v
theorem lt_of {α β : Type} {v : α} {k : α → β} {r : β} (h : lt v k = r) : k v = r := h
theorem lt_eq {α β : Type} (v : α) (k : α → β) : lt v k = k v := rfl
def ck {α : Type} (c : Bool) (k : Option α) : Option α := match c with
  | true => k
  | false => none
theorem ck_of {α : Type} {c : Bool} {k : Option α} {r : α} (h : ck c k = some r) : c = true ∧ k = some r := by
  cases c
  · cases h
  · exact ⟨rfl, h⟩
theorem ck_t {α : Type} {c : Bool} (k : Option α) (h : c = true) : ck c k = k := by rw [h]; rfl
def bnd {α β : Type} (o : Option (α × MEM)) (k : α → MEM → Option β) : Option β := match o with
  | some p => k p.1 p.2
  | none => none
theorem bnd_some {α β : Type} (x : α) (w : MEM) (k : α → MEM → Option β) : bnd (some (x, w)) k = k x w := rfl
theorem bnd_of {α β : Type} {o : Option (α × MEM)} {k : α → MEM → Option β} {r : β} (h : bnd o k = some r) : ∃ x w, o = some (x, w) ∧ k x w = some r := by
  cases o with
  | none => cases h
  | some p => exact ⟨p.1, p.2, rfl, h⟩
def bndT {α β : Type} (o : Option ((α ⊕ Nat) × MEM)) (k : α → MEM → Option ((β ⊕ Nat) × MEM)) : Option ((β ⊕ Nat) × MEM) := match o with
  | some (.inl x, w) => k x w
  | some (.inr e, w) => some (.inr e, w)
  | none => none
theorem bndT_inl {α β : Type} (x : α) (w : MEM) (k : α → MEM → Option ((β ⊕ Nat) × MEM)) : bndT (some (.inl x, w)) k = k x w := rfl
theorem bndT_inr {α β : Type} (e : Nat) (w : MEM) (k : α → MEM → Option ((β ⊕ Nat) × MEM)) : bndT (some (.inr e, w)) k = some (.inr e, w) := rfl
theorem bndT_of {α β : Type} {o : Option ((α ⊕ Nat) × MEM)} {k : α → MEM → Option ((β ⊕ Nat) × MEM)} {r : β ⊕ Nat} {w1 : MEM} (h : bndT o k = some (r, w1)) : (∃ x w, o = some (.inl x, w) ∧ k x w = some (r, w1)) ∨ (∃ e, o = some (.inr e, w1) ∧ r = .inr e) := by
  rcases o with _ | ⟨x | e, w⟩
  · cases h
  · exact Or.inl ⟨x, w, rfl, h⟩
  · right
    have h : some ((Sum.inr e : β ⊕ Nat), w) = some (r, w1) := h
    injection h with h
    injection h with h1 h2
    exact ⟨e, by rw [h2], h1.symm⟩
theorem if_ofT {α : Type} {c : Prop} [Decidable c] {a b r : α} (hc : c) (h : (if c then a else b) = r) : a = r := by rwa [if_pos hc] at h
theorem if_ofF {α : Type} {c : Prop} [Decidable c] {a b r : α} (hc : ¬ c) (h : (if c then a else b) = r) : b = r := by rwa [if_neg hc] at h
def bI (i : Int32) (n : Nat) : Bool := !(decide (i < 0)) && Nat.blt i.toNatClampNeg n
theorem bI_in {i : Int32} {n : Nat} (h : bI i n = true) : vp_in i n := by
  unfold bI at h
  simp only [Bool.and_eq_true, Bool.not_eq_true', decide_eq_false_iff_not, Nat.blt_eq] at h
  exact fun e => e.elim h.1 (fun e => Nat.not_le.mpr h.2 e)
theorem bI_lt {i : Int32} {n : Nat} (h : bI i n = true) : i.toNatClampNeg < n := by
  unfold bI at h
  simp only [Bool.and_eq_true, Nat.blt_eq] at h
  exact h.2
theorem bI_nI {k n : Nat} (h : k < n) (hn : k < 2 ^ 31) : bI (nI k) n = true := by
  unfold bI
  rw [nI_clamp hn]
  simp only [Bool.and_eq_true, Bool.not_eq_true', decide_eq_false_iff_not, Nat.blt_eq]
  refine ⟨fun e => ?_, h⟩
  have := Int32.lt_iff_toInt_lt.mp e
  rw [nI_toInt hn] at this
  have h0 : (0 : Int32).toInt = 0 := by decide
  omega
def cB (sp dp n : Int32) (a b : Nat) : Bool := !(decide (sp < 0)) && (!(decide (dp < 0)) && (!(decide (n < 0)) && (Nat.ble (sp.toNatClampNeg + n.toNatClampNeg) a && Nat.ble (dp.toNatClampNeg + n.toNatClampNeg) b)))
def b01 (x : Int32) : Bool := x == 0 || x == 1
theorem b01_nrw {x : Int32} (h : b01 x = true) : narrow .boolean (.int x) = .int x := by
  unfold b01 at h
  simp only [Bool.or_eq_true, beq_iff_eq] at h
  rcases h with e | e
  · subst e; decide
  · subst e; decide
-- steps of a stretch, over a memory
variable {X : SCR}
def oA (a : LA) (kd : Nat) : Prop := kl a.1 = 4 ∧ vA a.1 a.2 = true ∧ aK a.1 = kd
theorem gI_of {h : PH} {a : LA} {K : Int32 → Prop} {x : Int32} (e : h a = pF (vI x)) (k : K x) : gI h a K := ⟨x, e, k⟩
theorem gO_of {h : PH} {a : LA} {t : Nat} {K : Nat → Prop} {i : Nat} (e : h a = pF (vR (t, i))) (k : K i) : gO h a t K := ⟨i, e, k⟩
theorem gA_of {h : PH} {a : LA} {K : LA → Prop} {b : LA} (e : h a = pF (vR b)) (k : K b) : gA h a K := ⟨b, e, k⟩
theorem xI_of {h : PH} {w : MEM} (wh : WH X h w) {a : LA} {i : Int32} {K : Int32 → Prop} (ha : oA a 0) (hb : bI i (aN a.1) = true) (k : K (rA w a i)) : xI h a i K := by
  have e := wh.2.2.2.1 a.1 a.2 ha.1 ha.2.1
  rw [ha.2.2] at e
  exact ⟨_, _, e, bI_in hb, k⟩
theorem xB_of {h : PH} {w : MEM} (wh : WH X h w) {a : LA} {i : Int32} {K : Int32 → Prop} (ha : oA a 1) (hb : bI i (aN a.1) = true) (k : K (rA w a i)) : xB h a i K := by
  have e := wh.2.2.2.1 a.1 a.2 ha.1 ha.2.1
  rw [ha.2.2] at e
  exact ⟨_, _, e, bI_in hb, k⟩
theorem xZ_of {h : PH} {w : MEM} (wh : WH X h w) {a : LA} {i : Int32} {K : Int32 → Prop} (ha : oA a 2) (hb : bI i (aN a.1) = true) (k : K (rA w a i)) : xZ h a i K := by
  have e := wh.2.2.2.1 a.1 a.2 ha.1 ha.2.1
  rw [ha.2.2] at e
  exact ⟨_, _, e, bI_in hb, k⟩
theorem yI_of {h : PH} {w : MEM} (wh : WH X h w) {a : LA} {i x : Int32} {K : PH → Prop} (ha : oA a 0) (hb : bI i (aN a.1) = true) (k : ∀ h1, WH X h1 (sA w a i x) → K h1) : yI h a i x K := by
  have e := wh.2.2.2.1 a.1 a.2 ha.1 ha.2.1
  have g := wh.A (i := a.2) ha.1 (upd (fA w a) i.toNatClampNeg x)
  rw [ha.2.2] at e g
  exact ⟨_, _, e, bI_in hb, k _ g⟩
theorem yB_of {h : PH} {w : MEM} (wh : WH X h w) {a : LA} {i x : Int32} {K : PH → Prop} (ha : oA a 1) (hb : bI i (aN a.1) = true) (k : ∀ h1, WH X h1 (sA w a i (vp_nar .byte x)) → K h1) : yB h a i x K := by
  have e := wh.2.2.2.1 a.1 a.2 ha.1 ha.2.1
  have g := wh.A (i := a.2) ha.1 (upd (fA w a) i.toNatClampNeg (vp_nar .byte x))
  rw [ha.2.2] at e g
  exact ⟨_, _, e, bI_in hb, k _ g⟩
theorem yZ_of {h : PH} {w : MEM} (wh : WH X h w) {a : LA} {i x : Int32} {K : PH → Prop} (ha : oA a 2) (hb : bI i (aN a.1) = true) (k : ∀ h1, WH X h1 (sA w a i (vp_nar .boolean x)) → K h1) : yZ h a i x K := by
  have e := wh.2.2.2.1 a.1 a.2 ha.1 ha.2.1
  have g := wh.A (i := a.2) ha.1 (upd (fA w a) i.toNatClampNeg (vp_nar .boolean x))
  rw [ha.2.2] at e g
  exact ⟨_, _, e, bI_in hb, k _ g⟩
theorem sF_S {h : PH} {w : MEM} (wh : WH X h w) {t i : Nat} {x : Int32} {K : PH → Prop} (ht : kl t = 1) (hv : vo ((t - 10000) / 100) i = true) (k : ∀ h1, WH X h1 (sS w (t, i) x) → K h1) : sF h (t, i) (vI x) K := ⟨⟨_, wh.1 t i ht hv⟩, k _ (wh.S ht x)⟩
theorem sF_T {h : PH} {w : MEM} (wh : WH X h w) {t i c x : Nat} {K : PH → Prop} (ht : kl t = 3) (hc : 100 * tT t = c) (hv : vo ((t - 10000) / 100) i = true) (hx : vo (tT t) x = true) (k : ∀ h1, WH X h1 (sT w (t, i) x) → K h1) : sF h (t, i) (vR (c, x)) K := by
  subst hc
  exact ⟨⟨_, (wh.2.2.1 t i ht hv).1⟩, k _ (wh.T ht hx)⟩
theorem lnA_of {h : PH} {w : MEM} (wh : WH X h w) {a : LA} {kd : Nat} {K : Int32 → Prop} (ha : oA a kd) (k : K (nI (aN a.1))) : lnA h a K := by
  have hk : aK a.1 < 90 := by unfold aK; split <;> decide
  exact ⟨_, _, _, hk, wh.2.2.2.1 a.1 a.2 ha.1 ha.2.1, k⟩
theorem vo2 {i : Nat} (h : vo 2 i = true) : i = 8 ∨ (i = 326 ∨ (i = 498 ∨ i = 670)) := by
  have h : (i == 8 || (i == 326 || (i == 498 || i == 670))) = true := h
  simpa only [Bool.or_eq_true, beq_iff_eq] using h
theorem vH1 {i : Nat} (h : vo 2 i = true) : vo 4 (i + 1) = true := by
  rcases vo2 h with e | e | e | e <;> subst e <;> rfl
theorem vHB {i : Nat} {j : Int32} (h : vo 2 i = true) (hb : bI j 16 = true) : vo 4 (i + 12 + 10 * j.toNatClampNeg) = true := by
  have hj := bI_lt hb
  generalize j.toNatClampNeg = k at hj
  rcases vo2 h with e | e | e | e <;> subst e <;> revert k <;> decide
theorem vIM {j : Int32} (hb : bI j 3 = true) : vo 2 (326 + 172 * j.toNatClampNeg) = true := by
  have hj := bI_lt hb
  generalize j.toNatClampNeg = k at hj
  revert k; decide
theorem vMI {j : Int32} (hb : bI j 90 = true) : oA (502, 203 + j.toNatClampNeg) 0 := by
  have hj := bI_lt hb
  refine ⟨rfl, ?_, rfl⟩
  generalize j.toNatClampNeg = k at hj
  show (Nat.ble 203 (203 + k) && Nat.ble (203 + k) 292) = true
  simp only [Bool.and_eq_true, Nat.ble_eq]
  omega
theorem xO_B {h : PH} {w : MEM} (wh : WH X h w) {i : Nat} {j : Int32} {K : Nat → Prop} (hv : vo 2 i = true) (hb : bI j 16 = true) (k : K (i + 12 + 10 * j.toNatClampNeg)) : xO h (201, i + 10) j 4 400 K := ⟨_, _, _, wh.2.2.2.2.1 i hv, bI_in hb, rfl, k⟩
theorem xO_I {h : PH} {w : MEM} (wh : WH X h w) {j : Int32} {K : Nat → Prop} (hb : bI j 3 = true) (k : K (326 + 172 * j.toNatClampNeg)) : xO h (901, 179) j 5 200 K := ⟨_, _, _, wh.2.2.2.2.2.1, bI_in hb, rfl, k⟩
theorem xA_M {h : PH} {w : MEM} (wh : WH X h w) {j : Int32} {K : LA → Prop} (hb : bI j 90 = true) (k : K (502, 203 + j.toNatClampNeg)) : xA h (501, 203) j 6 K := ⟨_, _, _, wh.2.2.2.2.2.2.1, bI_in hb, rfl, k⟩
theorem cpy_of {d : Nat} {h : PH} {w : MEM} (wh : WH X h w) {a b : LA} {sp dp n : Int32} {K : PH → Prop} (ha : oA a 0) (hb : oA b 0) (hd : 3 ≤ d) (hc : cB sp dp n (aN a.1) (aN b.1) = true) (k : ∀ h1, WH X h1 (tA w b (va_cpy (fA w a) (fA w b) sp.toNatClampNeg dp.toNatClampNeg n.toNatClampNeg)) → K h1) : cpy d h a sp b dp n K := by
  have e := wh.2.2.2.1 a.1 a.2 ha.1 ha.2.1
  have e1 := wh.2.2.2.1 b.1 b.2 hb.1 hb.2.1
  have g := wh.A (i := b.2) hb.1 (va_cpy (fA w a) (fA w b) sp.toNatClampNeg dp.toNatClampNeg n.toNatClampNeg)
  rw [ha.2.2] at e
  rw [hb.2.2] at e1 g
  unfold cB at hc
  simp only [Bool.and_eq_true, Bool.not_eq_true', decide_eq_false_iff_not, Nat.ble_eq] at hc
  exact ⟨_, _, _, _, e, e1, hc.1, hc.2.1, hc.2.2.1, hc.2.2.2.1, hc.2.2.2.2, hd, k _ g⟩
def exn (e : Nat) : String := match e with
  | 0 => "java/lang/IllegalArgumentException"
  | _ => "java/util/NoSuchElementException"
def oI (o : Int32 ⊕ Nat) : PO := match o with
  | .inl x => .inl (some (vI x))
  | .inr e => .inr (exn e)
def oV (o : Unit ⊕ Nat) : PO := match o with
  | .inl _ => .inl none
  | .inr e => .inr (exn e)
def QP (X : SCR) (p : PO) (w1 : MEM) : PO → PH → Prop := fun r h1 => r = p ∧ WH X h1 w1
theorem cl_I {d D rc rs : Nat} {Y : MR} {av : List PV} {h : PH} {x : Int32} {w1 : MEM} {K : Int32 → PH → Nat → Nat → Prop} {XX : String → PH → Nat → Nat → Prop} (hd : D + 1 ≤ d) (c : CT D Y av h 0 0 (QP X (.inl (some (vI x))) w1)) (k : ∀ h1, WH X h1 w1 → K x h1 rc rs) : cl d rc rs Y av h (kI K) XX :=
  ⟨D, 0, 0, rc, rs, _, hd, (Nat.zero_add rc).symm, (Nat.zero_add rs).symm, c, fun v h1 q => by
    obtain ⟨e, q⟩ := q
    injection e with e
    exact ⟨x, e, k h1 q⟩, fun E h1 q => by cases q.1⟩
theorem cl_J {d D rc rs : Nat} {Y : MR} {av : List PV} {h : PH} {x : Int64} {w1 : MEM} {K : Int64 → PH → Nat → Nat → Prop} {XX : String → PH → Nat → Nat → Prop} (hd : D + 1 ≤ d) (c : CT D Y av h 0 0 (QP X (.inl (some (vL x))) w1)) (k : ∀ h1, WH X h1 w1 → K x h1 rc rs) : cl d rc rs Y av h (kL K) XX :=
  ⟨D, 0, 0, rc, rs, _, hd, (Nat.zero_add rc).symm, (Nat.zero_add rs).symm, c, fun v h1 q => by
    obtain ⟨e, q⟩ := q
    injection e with e
    exact ⟨x, e, k h1 q⟩, fun E h1 q => by cases q.1⟩
theorem cl_V {d D rc rs : Nat} {Y : MR} {av : List PV} {h : PH} {w1 : MEM} {K : PH → Nat → Nat → Prop} {XX : String → PH → Nat → Nat → Prop} (hd : D + 1 ≤ d) (c : CT D Y av h 0 0 (QP X (.inl none) w1)) (k : ∀ h1, WH X h1 w1 → K h1 rc rs) : cl d rc rs Y av h (kV K) XX :=
  ⟨D, 0, 0, rc, rs, _, hd, (Nat.zero_add rc).symm, (Nat.zero_add rs).symm, c, fun v h1 q => by
    obtain ⟨e, q⟩ := q
    injection e with e
    exact ⟨e, k h1 q⟩, fun E h1 q => by cases q.1⟩
theorem cl_TI {d D nc ns rc rs : Nat} {Y : MR} {av : List PV} {h : PH} {x : Int32} {w1 : MEM} {K : Int32 → PH → Nat → Nat → Prop} {XX : String → PH → Nat → Nat → Prop} (hd : D + 1 ≤ d) (c : CT D Y av h nc ns (QP X (oI (.inl x)) w1)) (k : ∀ h1, WH X h1 w1 → K x h1 rc rs) : cl d (nc + rc) (ns + rs) Y av h (kI K) XX :=
  ⟨D, nc, ns, rc, rs, _, hd, rfl, rfl, c, fun v h1 q => by
    obtain ⟨e, q⟩ := q
    injection e with e
    exact ⟨x, e, k h1 q⟩, fun E h1 q => by cases q.1⟩
theorem cl_TV {d D nc ns rc rs : Nat} {Y : MR} {av : List PV} {h : PH} {x : Unit} {w1 : MEM} {K : PH → Nat → Nat → Prop} {XX : String → PH → Nat → Nat → Prop} (hd : D + 1 ≤ d) (c : CT D Y av h nc ns (QP X (oV (.inl x)) w1)) (k : ∀ h1, WH X h1 w1 → K h1 rc rs) : cl d (nc + rc) (ns + rs) Y av h (kV K) XX :=
  ⟨D, nc, ns, rc, rs, _, hd, rfl, rfl, c, fun v h1 q => by
    obtain ⟨e, q⟩ := q
    injection e with e
    exact ⟨e, k h1 q⟩, fun E h1 q => by cases q.1⟩
theorem cl_TX {d D nc ns rc rs e : Nat} {Y : MR} {av : List PV} {h : PH} {w1 : MEM} {K : Option PV → PH → Nat → Nat → Prop} {XX : String → PH → Nat → Nat → Prop} (hd : D + 1 ≤ d) (c : CT D Y av h nc ns (QP X (.inr (exn e)) w1)) (k : ∀ h1, WH X h1 w1 → XX (exn e) h1 rc rs) : cl d (nc + rc) (ns + rs) Y av h K XX :=
  ⟨D, nc, ns, rc, rs, _, hd, rfl, rfl, c, fun v h1 q => (by cases q.1), fun E h1 q => by
    obtain ⟨e1, q⟩ := q
    injection e1 with e1
    subst e1
    exact k h1 q⟩
theorem some_of {α : Type} {x o : α} {w w1 : MEM} (h : some (x, w) = some (o, w1)) : x = o ∧ w = w1 := by
  injection h with h
  exact Prod.mk.inj h
theorem nzF_of {α : Type} {y : Int32} {a : Option α} {r : α} (h : (if y = 0 then none else a) = some r) : ¬ y = 0 ∧ a = some r := by
  by_cases c : y = 0
  · rw [if_pos c] at h; cases h
  · rw [if_neg c] at h; exact ⟨c, h⟩
theorem nzL_of {α : Type} {y : Int64} {a : Option α} {r : α} (h : (if y = 0 then none else a) = some r) : ¬ y = 0 ∧ a = some r := by
  by_cases c : y = 0
  · rw [if_pos c] at h; cases h
  · rw [if_neg c] at h; exact ⟨c, h⟩
theorem cl_eq {d rc rs rc2 rs2 : Nat} {Y : MR} {av : List PV} {h : PH} {K : Option PV → PH → Nat → Nat → Prop} {XX : String → PH → Nat → Nat → Prop} (e1 : rc = rc2) (e2 : rs = rs2) (k : cl d rc2 rs2 Y av h K XX) : cl d rc rs Y av h K XX := by
  subst e1 e2; exact k
theorem thr_of {d rc rs : Nat} {h : PH} {w : MEM} {K : Prop} (wh : WH X h w) (hd : 6 ≤ d) (k : K) : thr d (1 + rc) (6 + rs) h K := ⟨hd, Nat.le_add_right _ _, Nat.le_add_right _ _, wh.2.2.2.2.2.2.2.2.2, k⟩
