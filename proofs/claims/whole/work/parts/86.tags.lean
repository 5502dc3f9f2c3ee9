/-! what kind of cell a tag is: the table read backward -/
set_option maxRecDepth 100000 in
set_option maxHeartbeats 4000000 in
theorem kl1 {t : Nat} (h : kl t = 1) : (t = 10001) ∨ (10107 ≤ t ∧ t ≤ 10110) ∨ (t = 10202) ∨ (t = 10304) ∨ (t = 10409) ∨ (10502 ≤ t ∧ t ≤ 10503) ∨ (10704 ≤ t ∧ t ≤ 10707) ∨ (10801 ≤ t ∧ t ≤ 10806) ∨ (10914 ≤ t ∧ t ≤ 10917) ∨ (t = 11000) ∨ (11002 ≤ t ∧ t ≤ 11008) ∨ (11018 ≤ t ∧ t ≤ 11025) ∨ (11031 ≤ t ∧ t ≤ 11032) ∨ (11036 ≤ t ∧ t ≤ 11041) ∨ (t = 11047) ∨ (t = 11052) ∨ (t = 11054) := by
  unfold kl at h
  split at h <;> omega
set_option maxRecDepth 100000 in
set_option maxHeartbeats 4000000 in
theorem kl2 {t : Nat} (h : kl t = 2) : (t = 10000) ∨ (10100 ≤ t ∧ t ≤ 10106) ∨ (10200 ≤ t ∧ t ≤ 10201) ∨ (10300 ≤ t ∧ t ≤ 10303) ∨ (10400 ≤ t ∧ t ≤ 10408) ∨ (10500 ≤ t ∧ t ≤ 10501) ∨ (t = 10600) ∨ (10700 ≤ t ∧ t ≤ 10703) ∨ (t = 10800) ∨ (10900 ≤ t ∧ t ≤ 10907) ∨ (t = 11001) ∨ (11009 ≤ t ∧ t ≤ 11017) ∨ (11026 ≤ t ∧ t ≤ 11030) ∨ (11033 ≤ t ∧ t ≤ 11035) ∨ (11042 ≤ t ∧ t ≤ 11046) ∨ (11048 ≤ t ∧ t ≤ 11051) ∨ (t = 11053) := by
  unfold kl at h
  split at h <;> omega
set_option maxRecDepth 100000 in
set_option maxHeartbeats 4000000 in
theorem kl3 {t : Nat} (h : kl t = 3) : (10908 ≤ t ∧ t ≤ 10913) := by
  unfold kl at h
  split at h <;> omega
set_option maxRecDepth 100000 in
set_option maxHeartbeats 4000000 in
theorem kl4 {t : Nat} (h : kl t = 4) : (t = 1) ∨ (101 ≤ t ∧ t ≤ 107) ∨ (301 ≤ t ∧ t ≤ 304) ∨ (401 ≤ t ∧ t ≤ 409) ∨ (502 ≤ t ∧ t ≤ 503) ∨ (t = 601) ∨ (701 ≤ t ∧ t ≤ 704) ∨ (t = 801) ∨ (1001 ≤ t ∧ t ≤ 1028) := by
  unfold kl at h
  split at h <;> omega
