/-! The law's sixteen calls: each answers the same on both sides. -/
abbrev lw_Rt : jm_Rt := fun v _ nc ns => v = some (.int 1) ∧ nc ≤ 600000 ∧ ns ≤ 7302250
/-- X is closed under the law's instructions -/
abbrev lw_X (l : Launch) (D : va_G) (ca : Nat → ClassId) (b L : Nat) (xs : Nat → Int32) (X : jm_K) : Prop := ∀ cd : List jm_e, lw_ok cd → (∀ pc lv st m nc ns e, jm_at cd pc = some e → jm_step jm_ft jm_sz (600000, 7302250) (jm_C l D ca) lw_Rt (b, L, xs) e lv st m nc ns X → X pc lv st m nc ns) ∧ (∀ pc lv st m nc ns ks, X pc (jm_sel lv ks) st m nc ns → X pc lv st m nc ns)
theorem lg_same (x : Int64) : lg_cmp x x = 0 := by
  unfold lg_cmp
  split
  · next h => exact absurd (show x < x from h) (by rw [Int64.lt_iff_toInt_lt]; omega)
  · split
    · rfl
    · next h => exact absurd rfl h
section LW
variable {l : Launch} {D : va_G} {ca : Nat → ClassId} {b L : Nat} {xs : Nat → Int32} {X : jm_K} {m : jm_M} {ad rd : Nat → Nat} {n i nc ns : Nat}
abbrev lw_lv (b : Nat) (ad rd : Nat → Nat) (i : Nat) : jm_LV := [(0, .ref b), (1, .ref (ad 0)), (2, .ref (rd 0)), (3, .int (nI i))]
theorem lw_c0 (hX : lw_X l D ca b L xs X) (hnc : nc ≤ 600000) (hns : ns ≤ 7302250) (hv : ∀ k, k ≤ 7 → vp_in (nI i + nI k) L) (hn : n + 15 < 2 ^ 31) (h : JS m ad rd n) (hk : ∀ m2, JS m2 ad rd (n + 15) → X 1064 (lw_lv b ad rd i) [] m2 nc ns) : X 120 (lw_lv b ad rd i) [] m nc ns := by
  refine jm_run (hX _ ok_Lw_0) [(1064, [0, 1, 2, 3])] 18 ?_
  refine And.intro rfl (And.intro (hv 1 (by decide)) ?_)
  refine And.intro h.o5 (And.intro (Nat.le_of_ble_eq_true rfl) (And.intro (Nat.le_of_ble_eq_true rfl) ⟨0, 0, _, hnc, hns, j_machine h _, fun v m1 hq => ?_⟩))
  obtain ⟨r, rfl, o6, hq⟩ := hq
  refine And.intro rfl (And.intro (hv 1 (by decide)) ?_)
  refine And.intro o6 (And.intro (Nat.le_of_ble_eq_true rfl) (And.intro (Nat.le_of_ble_eq_true rfl) ⟨0, 0, _, hnc, hns, hq, fun v2 m2 hq2 => ?_⟩))
  obtain ⟨rfl, hJ⟩ := hq2
  exact And.intro (fun _ => hk m2 hJ) (fun g => absurd rfl g)
theorem lw_c1 (hX : lw_X l D ca b L xs X) (hnc : nc ≤ 600000) (hns : ns ≤ 7302250) (hv : ∀ k, k ≤ 7 → vp_in (nI i + nI k) L) (hn : n + 15 < 2 ^ 31) (h : JS m ad rd n) (hk : ∀ m2, JS m2 ad rd (n + 15) → X 1064 (lw_lv b ad rd i) [] m2 nc ns) : X 143 (lw_lv b ad rd i) [] m nc ns := by
  refine jm_run (hX _ ok_Lw_1) [(1064, [0, 1, 2, 3])] 8 ?_
  refine And.intro h.o5 (And.intro (Nat.le_of_ble_eq_true rfl) (And.intro (Nat.le_of_ble_eq_true rfl) ⟨0, 0, _, hnc, hns, j_port h, fun v m1 hq => ?_⟩))
  obtain ⟨r, rfl, o6, hq⟩ := hq
  refine And.intro o6 (And.intro (Nat.le_of_ble_eq_true rfl) (And.intro (Nat.le_of_ble_eq_true rfl) ⟨0, 0, _, hnc, hns, hq, fun v2 m2 hq2 => ?_⟩))
  obtain ⟨rfl, hJ⟩ := hq2
  exact And.intro (fun _ => hk m2 hJ) (fun g => absurd rfl g)
theorem lw_c2 (hX : lw_X l D ca b L xs X) (hnc : nc ≤ 600000) (hns : ns ≤ 7302250) (hv : ∀ k, k ≤ 7 → vp_in (nI i + nI k) L) (hn : n + 15 < 2 ^ 31) (h : JS m ad rd n) (hk : ∀ m2, JS m2 ad rd (n + 15) → X 1064 (lw_lv b ad rd i) [] m2 nc ns) : X 156 (lw_lv b ad rd i) [] m nc ns := by
  refine jm_run (hX _ ok_Lw_2) [(1064, [0, 1, 2, 3])] 38 ?_
  refine And.intro rfl (And.intro (hv 1 (by decide)) ?_)
  refine And.intro rfl (And.intro (hv 2 (by decide)) ?_)
  refine And.intro rfl (And.intro (hv 3 (by decide)) ?_)
  refine And.intro h.o5 (And.intro (Nat.le_of_ble_eq_true rfl) (And.intro (Nat.le_of_ble_eq_true rfl) ⟨0, 0, _, hnc, hns, j_joinOut h _ _ _, fun v m1 hq => ?_⟩))
  obtain ⟨r, rfl, o6, hq⟩ := hq
  refine And.intro rfl (And.intro (hv 1 (by decide)) ?_)
  refine And.intro rfl (And.intro (hv 2 (by decide)) ?_)
  refine And.intro rfl (And.intro (hv 3 (by decide)) ?_)
  refine And.intro o6 (And.intro (Nat.le_of_ble_eq_true rfl) (And.intro (Nat.le_of_ble_eq_true rfl) ⟨0, 0, _, hnc, hns, hq, fun v2 m2 hq2 => ?_⟩))
  obtain ⟨rfl, hJ⟩ := hq2
  exact And.intro (fun _ => hk m2 hJ) (fun g => absurd rfl g)
theorem lw_c3 (hX : lw_X l D ca b L xs X) (hnc : nc ≤ 600000) (hns : ns ≤ 7302250) (hv : ∀ k, k ≤ 7 → vp_in (nI i + nI k) L) (hn : n + 15 < 2 ^ 31) (h : JS m ad rd n) (hk : ∀ m2, JS m2 ad rd (n + 15) → X 1064 (lw_lv b ad rd i) [] m2 nc ns) : X 199 (lw_lv b ad rd i) [] m nc ns := by
  refine jm_run (hX _ ok_Lw_3) [(1064, [0, 1, 2, 3])] 106 ?_
  refine And.intro rfl (And.intro (hv 1 (by decide)) ?_)
  refine And.intro rfl (And.intro (hv 2 (by decide)) ?_)
  refine And.intro rfl (And.intro (hv 3 (by decide)) ?_)
  refine And.intro rfl (And.intro (hv 4 (by decide)) ?_)
  refine And.intro rfl (And.intro (hv 5 (by decide)) ?_)
  refine And.intro rfl (And.intro (hv 6 (by decide)) ?_)
  refine And.intro rfl (And.intro (hv 7 (by decide)) ?_)
  refine And.intro h.o5 (And.intro (Nat.le_of_ble_eq_true rfl) (And.intro (Nat.le_of_ble_eq_true rfl) ⟨0, 0, _, hnc, hns, j_share h _ _ _ _ _, fun v m1 hq => ?_⟩))
  obtain ⟨r, rfl, o6, hq⟩ := hq
  refine And.intro rfl (And.intro (hv 1 (by decide)) ?_)
  refine And.intro rfl (And.intro (hv 2 (by decide)) ?_)
  refine And.intro rfl (And.intro (hv 3 (by decide)) ?_)
  refine And.intro rfl (And.intro (hv 4 (by decide)) ?_)
  refine And.intro rfl (And.intro (hv 5 (by decide)) ?_)
  refine And.intro rfl (And.intro (hv 6 (by decide)) ?_)
  refine And.intro rfl (And.intro (hv 7 (by decide)) ?_)
  refine And.intro o6 (And.intro (Nat.le_of_ble_eq_true rfl) (And.intro (Nat.le_of_ble_eq_true rfl) ⟨0, 0, _, hnc, hns, hq, fun v2 m2 hq2 => ?_⟩))
  obtain ⟨rfl, hJ⟩ := hq2
  exact And.intro (fun _ => hk m2 hJ) (fun g => absurd rfl g)
theorem lw_c4 (hX : lw_X l D ca b L xs X) (hnc : nc ≤ 600000) (hns : ns ≤ 7302250) (hv : ∀ k, k ≤ 7 → vp_in (nI i + nI k) L) (hn : n + 15 < 2 ^ 31) (h : JS m ad rd n) (hk : ∀ m2, JS m2 ad rd (n + 15) → X 1064 (lw_lv b ad rd i) [] m2 nc ns) : X 326 (lw_lv b ad rd i) [] m nc ns := by
  refine jm_run (hX _ ok_Lw_4) [(1064, [0, 1, 2, 3])] 106 ?_
  refine And.intro rfl (And.intro (hv 1 (by decide)) ?_)
  refine And.intro rfl (And.intro (hv 2 (by decide)) ?_)
  refine And.intro rfl (And.intro (hv 3 (by decide)) ?_)
  refine And.intro rfl (And.intro (hv 4 (by decide)) ?_)
  refine And.intro rfl (And.intro (hv 5 (by decide)) ?_)
  refine And.intro rfl (And.intro (hv 6 (by decide)) ?_)
  refine And.intro rfl (And.intro (hv 7 (by decide)) ?_)
  refine And.intro h.o5 (And.intro (Nat.le_of_ble_eq_true rfl) (And.intro (Nat.le_of_ble_eq_true rfl) ⟨0, 0, _, hnc, hns, j_crush h _ _ _ _ _, fun v m1 hq => ?_⟩))
  obtain ⟨r, rfl, o6, hq⟩ := hq
  refine And.intro rfl (And.intro (hv 1 (by decide)) ?_)
  refine And.intro rfl (And.intro (hv 2 (by decide)) ?_)
  refine And.intro rfl (And.intro (hv 3 (by decide)) ?_)
  refine And.intro rfl (And.intro (hv 4 (by decide)) ?_)
  refine And.intro rfl (And.intro (hv 5 (by decide)) ?_)
  refine And.intro rfl (And.intro (hv 6 (by decide)) ?_)
  refine And.intro rfl (And.intro (hv 7 (by decide)) ?_)
  refine And.intro o6 (And.intro (Nat.le_of_ble_eq_true rfl) (And.intro (Nat.le_of_ble_eq_true rfl) ⟨0, 0, _, hnc, hns, hq, fun v2 m2 hq2 => ?_⟩))
  obtain ⟨rfl, hJ⟩ := hq2
  exact And.intro (fun _ => hk m2 hJ) (fun g => absurd rfl g)
theorem lw_c5 (hX : lw_X l D ca b L xs X) (hnc : nc ≤ 600000) (hns : ns ≤ 7302250) (hv : ∀ k, k ≤ 7 → vp_in (nI i + nI k) L) (hn : n + 15 < 2 ^ 31) (h : JS m ad rd n) (hk : ∀ m2, JS m2 ad rd (n + 15) → X 1064 (lw_lv b ad rd i) [] m2 nc ns) : X 453 (lw_lv b ad rd i) [] m nc ns := by
  refine jm_run (hX _ ok_Lw_5) [(1064, [0, 1, 2, 3])] 62 ?_
  refine And.intro rfl (And.intro (hv 1 (by decide)) ?_)
  refine And.intro rfl (And.intro (hv 2 (by decide)) ?_)
  refine And.intro rfl (And.intro (hv 3 (by decide)) ?_)
  refine And.intro rfl (And.intro (hv 4 (by decide)) ?_)
  refine And.intro h.o5 (And.intro (Nat.le_of_ble_eq_true rfl) (And.intro (Nat.le_of_ble_eq_true rfl) ⟨0, 0, _, hnc, hns, j_feed h _ _ _, fun v m1 hq => ?_⟩))
  obtain ⟨r, rfl, o6, hq⟩ := hq
  refine And.intro rfl (And.intro (hv 1 (by decide)) ?_)
  refine And.intro rfl (And.intro (hv 2 (by decide)) ?_)
  refine And.intro rfl (And.intro (hv 3 (by decide)) ?_)
  refine And.intro rfl (And.intro (hv 4 (by decide)) ?_)
  refine And.intro o6 (And.intro (Nat.le_of_ble_eq_true rfl) (And.intro (Nat.le_of_ble_eq_true rfl) ⟨0, 0, _, hnc, hns, hq, fun v2 m2 hq2 => ?_⟩))
  obtain ⟨rfl, hJ⟩ := hq2
  exact And.intro (fun _ => hk m2 hJ) (fun g => absurd rfl g)
theorem lw_c6 (hX : lw_X l D ca b L xs X) (hnc : nc ≤ 600000) (hns : ns ≤ 7302250) (hv : ∀ k, k ≤ 7 → vp_in (nI i + nI k) L) (hn : n + 15 < 2 ^ 31) (h : JS m ad rd n) (hk : ∀ m2, JS m2 ad rd (n + 15) → X 1064 (lw_lv b ad rd i) [] m2 nc ns) : X 526 (lw_lv b ad rd i) [] m nc ns := by
  refine jm_run (hX _ ok_Lw_6) [(1064, [0, 1, 2, 3])] 8 ?_
  refine And.intro h.o5 (And.intro (Nat.le_of_ble_eq_true rfl) (And.intro (Nat.le_of_ble_eq_true rfl) ⟨0, 0, _, hnc, hns, j_solve h, fun v m1 hq => ?_⟩))
  obtain ⟨r, rfl, o6, hq⟩ := hq
  refine And.intro o6 (And.intro (Nat.le_of_ble_eq_true rfl) (And.intro (Nat.le_of_ble_eq_true rfl) ⟨0, 0, _, hnc, hns, hq, fun v2 m2 hq2 => ?_⟩))
  obtain ⟨rfl, hJ⟩ := hq2
  exact And.intro (fun _ => hk m2 hJ) (fun g => absurd rfl g)
theorem lw_c7 (hX : lw_X l D ca b L xs X) (hnc : nc ≤ 600000) (hns : ns ≤ 7302250) (hv : ∀ k, k ≤ 7 → vp_in (nI i + nI k) L) (hn : n + 15 < 2 ^ 31) (h : JS m ad rd n) (hk : ∀ m2, JS m2 ad rd (n + 15) → X 1064 (lw_lv b ad rd i) [] m2 nc ns) : X 539 (lw_lv b ad rd i) [] m nc ns := by
  refine jm_run (hX _ ok_Lw_7) [(1064, [0, 1, 2, 3])] 39 ?_
  refine And.intro rfl (And.intro (hv 1 (by decide)) ?_)
  refine And.intro rfl (And.intro (hv 2 (by decide)) ?_)
  refine And.intro rfl (And.intro (hv 3 (by decide)) ?_)
  refine And.intro h.o5 (And.intro (Nat.le_of_ble_eq_true rfl) (And.intro (Nat.le_of_ble_eq_true rfl) ⟨0, 0, _, hnc, hns, j_out h hn _ _ _, fun v m1 hq => ?_⟩))
  obtain ⟨r, rfl, o6, hq⟩ := hq
  refine And.intro rfl (And.intro (hv 1 (by decide)) ?_)
  refine And.intro rfl (And.intro (hv 2 (by decide)) ?_)
  refine And.intro rfl (And.intro (hv 3 (by decide)) ?_)
  refine And.intro o6 (And.intro (Nat.le_of_ble_eq_true rfl) (And.intro (Nat.le_of_ble_eq_true rfl) ⟨0, 0, _, hnc, hns, hq, fun v2 m2 hq2 => ?_⟩))
  obtain ⟨rfl, hJ⟩ := hq2
  exact And.intro (fun _ => hk m2 hJ) (fun g => absurd (lg_same r) g)
theorem lw_c8 (hX : lw_X l D ca b L xs X) (hnc : nc ≤ 600000) (hns : ns ≤ 7302250) (hv : ∀ k, k ≤ 7 → vp_in (nI i + nI k) L) (hn : n + 15 < 2 ^ 31) (h : JS m ad rd n) (hk : ∀ m2, JS m2 ad rd (n + 15) → X 1064 (lw_lv b ad rd i) [] m2 nc ns) : X 583 (lw_lv b ad rd i) [] m nc ns := by
  refine jm_run (hX _ ok_Lw_8) [(1064, [0, 1, 2, 3])] 29 ?_
  refine And.intro rfl (And.intro (hv 1 (by decide)) ?_)
  refine And.intro rfl (And.intro (hv 2 (by decide)) ?_)
  refine And.intro h.o5 (And.intro (Nat.le_of_ble_eq_true rfl) (And.intro (Nat.le_of_ble_eq_true rfl) ⟨0, 0, _, hnc, hns, j_load h hn _ _, fun v m1 hq => ?_⟩))
  obtain ⟨r, rfl, o6, hq⟩ := hq
  refine And.intro rfl (And.intro (hv 1 (by decide)) ?_)
  refine And.intro rfl (And.intro (hv 2 (by decide)) ?_)
  refine And.intro o6 (And.intro (Nat.le_of_ble_eq_true rfl) (And.intro (Nat.le_of_ble_eq_true rfl) ⟨0, 0, _, hnc, hns, hq, fun v2 m2 hq2 => ?_⟩))
  obtain ⟨rfl, hJ⟩ := hq2
  exact And.intro (fun _ => hk m2 hJ) (fun g => absurd (lg_same r) g)
theorem lw_c9 (hX : lw_X l D ca b L xs X) (hnc : nc ≤ 600000) (hns : ns ≤ 7302250) (hv : ∀ k, k ≤ 7 → vp_in (nI i + nI k) L) (hn : n + 15 < 2 ^ 31) (h : JS m ad rd n) (hk : ∀ m2, JS m2 ad rd (n + 15) → X 1064 (lw_lv b ad rd i) [] m2 nc ns) : X 617 (lw_lv b ad rd i) [] m nc ns := by
  refine jm_run (hX _ ok_Lw_9) [(1064, [0, 1, 2, 3])] 86 ?_
  refine And.intro rfl (And.intro (hv 1 (by decide)) ?_)
  refine And.intro rfl (And.intro (hv 2 (by decide)) ?_)
  refine And.intro rfl (And.intro (hv 3 (by decide)) ?_)
  refine And.intro rfl (And.intro (hv 4 (by decide)) ?_)
  refine And.intro rfl (And.intro (hv 5 (by decide)) ?_)
  refine And.intro h.o5 (And.intro (Nat.le_of_ble_eq_true rfl) (And.intro (Nat.le_of_ble_eq_true rfl) ⟨0, 0, _, hnc, hns, j_span h _ _ _, fun v m1 hq => ?_⟩))
  obtain ⟨r, rfl, o6, hq⟩ := hq
  refine And.intro rfl (And.intro (hv 1 (by decide)) ?_)
  refine And.intro rfl (And.intro (hv 2 (by decide)) ?_)
  refine And.intro rfl (And.intro (hv 3 (by decide)) ?_)
  refine And.intro rfl (And.intro (hv 4 (by decide)) ?_)
  refine And.intro rfl (And.intro (hv 5 (by decide)) ?_)
  refine And.intro o6 (And.intro (Nat.le_of_ble_eq_true rfl) (And.intro (Nat.le_of_ble_eq_true rfl) ⟨0, 0, _, hnc, hns, hq, fun v2 m2 hq2 => ?_⟩))
  obtain ⟨rfl, hJ⟩ := hq2
  exact And.intro (fun _ => hk m2 hJ) (fun g => absurd rfl g)
theorem lw_c10 (hX : lw_X l D ca b L xs X) (hnc : nc ≤ 600000) (hns : ns ≤ 7302250) (hv : ∀ k, k ≤ 7 → vp_in (nI i + nI k) L) (hn : n + 15 < 2 ^ 31) (h : JS m ad rd n) (hk : ∀ m2, JS m2 ad rd (n + 15) → X 1064 (lw_lv b ad rd i) [] m2 nc ns) : X 720 (lw_lv b ad rd i) [] m nc ns := by
  refine jm_run (hX _ ok_Lw_10) [(1064, [0, 1, 2, 3])] 18 ?_
  refine And.intro rfl (And.intro (hv 1 (by decide)) ?_)
  refine And.intro h.o5 (And.intro (Nat.le_of_ble_eq_true rfl) (And.intro (Nat.le_of_ble_eq_true rfl) ⟨0, 0, _, hnc, hns, j_over h hn _, fun v m1 hq => ?_⟩))
  obtain ⟨r, rfl, o6, hq⟩ := hq
  refine And.intro rfl (And.intro (hv 1 (by decide)) ?_)
  refine And.intro o6 (And.intro (Nat.le_of_ble_eq_true rfl) (And.intro (Nat.le_of_ble_eq_true rfl) ⟨0, 0, _, hnc, hns, hq, fun v2 m2 hq2 => ?_⟩))
  obtain ⟨rfl, hJ⟩ := hq2
  exact And.intro (fun _ => hk m2 hJ) (fun g => absurd rfl g)
theorem lw_c11 (hX : lw_X l D ca b L xs X) (hnc : nc ≤ 600000) (hns : ns ≤ 7302250) (hv : ∀ k, k ≤ 7 → vp_in (nI i + nI k) L) (hn : n + 15 < 2 ^ 31) (h : JS m ad rd n) (hk : ∀ m2, JS m2 ad rd (n + 15) → X 1064 (lw_lv b ad rd i) [] m2 nc ns) : X 743 (lw_lv b ad rd i) [] m nc ns := by
  refine jm_run (hX _ ok_Lw_11) [(1064, [0, 1, 2, 3])] 59 ?_
  refine And.intro rfl (And.intro (hv 1 (by decide)) ?_)
  refine And.intro rfl (And.intro (hv 2 (by decide)) ?_)
  refine And.intro rfl (And.intro (hv 3 (by decide)) ?_)
  refine And.intro rfl (And.intro (hv 4 (by decide)) ?_)
  refine And.intro rfl (And.intro (hv 5 (by decide)) ?_)
  refine And.intro h.o5 (And.intro (Nat.le_of_ble_eq_true rfl) (And.intro (Nat.le_of_ble_eq_true rfl) ⟨0, 0, _, hnc, hns, j_slope h hn _ _ _ _ _, fun v m1 hq => ?_⟩))
  obtain ⟨r, rfl, o6, hq⟩ := hq
  refine And.intro rfl (And.intro (hv 1 (by decide)) ?_)
  refine And.intro rfl (And.intro (hv 2 (by decide)) ?_)
  refine And.intro rfl (And.intro (hv 3 (by decide)) ?_)
  refine And.intro rfl (And.intro (hv 4 (by decide)) ?_)
  refine And.intro rfl (And.intro (hv 5 (by decide)) ?_)
  refine And.intro o6 (And.intro (Nat.le_of_ble_eq_true rfl) (And.intro (Nat.le_of_ble_eq_true rfl) ⟨0, 0, _, hnc, hns, hq, fun v2 m2 hq2 => ?_⟩))
  obtain ⟨rfl, hJ⟩ := hq2
  exact And.intro (fun _ => hk m2 hJ) (fun g => absurd (lg_same r) g)
theorem lw_c12 (hX : lw_X l D ca b L xs X) (hnc : nc ≤ 600000) (hns : ns ≤ 7302250) (hv : ∀ k, k ≤ 7 → vp_in (nI i + nI k) L) (hn : n + 15 < 2 ^ 31) (h : JS m ad rd n) (hk : ∀ m2, JS m2 ad rd (n + 15) → X 1064 (lw_lv b ad rd i) [] m2 nc ns) : X 807 (lw_lv b ad rd i) [] m nc ns := by
  refine jm_run (hX _ ok_Lw_12) [(1064, [0, 1, 2, 3])] 39 ?_
  refine And.intro rfl (And.intro (hv 1 (by decide)) ?_)
  refine And.intro rfl (And.intro (hv 2 (by decide)) ?_)
  refine And.intro rfl (And.intro (hv 3 (by decide)) ?_)
  refine And.intro h.o5 (And.intro (Nat.le_of_ble_eq_true rfl) (And.intro (Nat.le_of_ble_eq_true rfl) ⟨0, 0, _, hnc, hns, j_purity h hn _ _ _, fun v m1 hq => ?_⟩))
  obtain ⟨r, rfl, o6, hq⟩ := hq
  refine And.intro rfl (And.intro (hv 1 (by decide)) ?_)
  refine And.intro rfl (And.intro (hv 2 (by decide)) ?_)
  refine And.intro rfl (And.intro (hv 3 (by decide)) ?_)
  refine And.intro o6 (And.intro (Nat.le_of_ble_eq_true rfl) (And.intro (Nat.le_of_ble_eq_true rfl) ⟨0, 0, _, hnc, hns, hq, fun v2 m2 hq2 => ?_⟩))
  obtain ⟨rfl, hJ⟩ := hq2
  exact And.intro (fun _ => hk m2 hJ) (fun g => absurd (lg_same r) g)
theorem lw_c13 (hX : lw_X l D ca b L xs X) (hnc : nc ≤ 600000) (hns : ns ≤ 7302250) (hv : ∀ k, k ≤ 7 → vp_in (nI i + nI k) L) (hn : n + 15 < 2 ^ 31) (h : JS m ad rd n) (hk : ∀ m2, JS m2 ad rd (n + 15) → X 1064 (lw_lv b ad rd i) [] m2 nc ns) : X 851 (lw_lv b ad rd i) [] m nc ns := by
  refine jm_run (hX _ ok_Lw_13) [(1064, [0, 1, 2, 3])] 106 ?_
  refine And.intro rfl (And.intro (hv 1 (by decide)) ?_)
  refine And.intro rfl (And.intro (hv 2 (by decide)) ?_)
  refine And.intro rfl (And.intro (hv 3 (by decide)) ?_)
  refine And.intro rfl (And.intro (hv 4 (by decide)) ?_)
  refine And.intro rfl (And.intro (hv 5 (by decide)) ?_)
  refine And.intro rfl (And.intro (hv 6 (by decide)) ?_)
  refine And.intro rfl (And.intro (hv 7 (by decide)) ?_)
  refine And.intro h.o5 (And.intro (Nat.le_of_ble_eq_true rfl) (And.intro (Nat.le_of_ble_eq_true rfl) ⟨0, 0, _, hnc, hns, j_change h _ _ _ _ _, fun v m1 hq => ?_⟩))
  obtain ⟨r, rfl, o6, hq⟩ := hq
  refine And.intro rfl (And.intro (hv 1 (by decide)) ?_)
  refine And.intro rfl (And.intro (hv 2 (by decide)) ?_)
  refine And.intro rfl (And.intro (hv 3 (by decide)) ?_)
  refine And.intro rfl (And.intro (hv 4 (by decide)) ?_)
  refine And.intro rfl (And.intro (hv 5 (by decide)) ?_)
  refine And.intro rfl (And.intro (hv 6 (by decide)) ?_)
  refine And.intro rfl (And.intro (hv 7 (by decide)) ?_)
  refine And.intro o6 (And.intro (Nat.le_of_ble_eq_true rfl) (And.intro (Nat.le_of_ble_eq_true rfl) ⟨0, 0, _, hnc, hns, hq, fun v2 m2 hq2 => ?_⟩))
  obtain ⟨rfl, hJ⟩ := hq2
  exact And.intro (fun _ => hk m2 hJ) (fun g => absurd rfl g)
theorem lw_c14 (hX : lw_X l D ca b L xs X) (hnc : nc ≤ 600000) (hns : ns ≤ 7302250) (hv : ∀ k, k ≤ 7 → vp_in (nI i + nI k) L) (hn : n + 15 < 2 ^ 31) (h : JS m ad rd n) (hk : ∀ m2, JS m2 ad rd (n + 15) → X 1064 (lw_lv b ad rd i) [] m2 nc ns) : X 978 (lw_lv b ad rd i) [] m nc ns := by
  refine jm_run (hX _ ok_Lw_14) [(1064, [0, 1, 2, 3])] 62 ?_
  refine And.intro rfl (And.intro (hv 1 (by decide)) ?_)
  refine And.intro rfl (And.intro (hv 2 (by decide)) ?_)
  refine And.intro rfl (And.intro (hv 3 (by decide)) ?_)
  refine And.intro rfl (And.intro (hv 4 (by decide)) ?_)
  refine And.intro h.o5 (And.intro (Nat.le_of_ble_eq_true rfl) (And.intro (Nat.le_of_ble_eq_true rfl) ⟨0, 0, _, hnc, hns, j_find h hn _ _ _, fun v m1 hq => ?_⟩))
  obtain ⟨r, rfl, o6, hq⟩ := hq
  refine And.intro rfl (And.intro (hv 1 (by decide)) ?_)
  refine And.intro rfl (And.intro (hv 2 (by decide)) ?_)
  refine And.intro rfl (And.intro (hv 3 (by decide)) ?_)
  refine And.intro rfl (And.intro (hv 4 (by decide)) ?_)
  refine And.intro o6 (And.intro (Nat.le_of_ble_eq_true rfl) (And.intro (Nat.le_of_ble_eq_true rfl) ⟨0, 0, _, hnc, hns, hq, fun v2 m2 hq2 => ?_⟩))
  obtain ⟨rfl, hJ⟩ := hq2
  exact And.intro (fun _ => hk m2 hJ) (fun g => absurd rfl g)
theorem lw_c15 (hX : lw_X l D ca b L xs X) (hnc : nc ≤ 600000) (hns : ns ≤ 7302250) (hv : ∀ k, k ≤ 7 → vp_in (nI i + nI k) L) (hn : n + 15 < 2 ^ 31) (h : JS m ad rd n) (hk : ∀ m2, JS m2 ad rd (n + 15) → X 1064 (lw_lv b ad rd i) [] m2 nc ns) : X 1051 (lw_lv b ad rd i) [] m nc ns := by
  refine jm_run (hX _ ok_Lw_15) [(1064, [0, 1, 2, 3])] 8 ?_
  refine And.intro h.o5 (And.intro (Nat.le_of_ble_eq_true rfl) (And.intro (Nat.le_of_ble_eq_true rfl) ⟨0, 0, _, hnc, hns, j_kept h, fun v m1 hq => ?_⟩))
  obtain ⟨r, rfl, o6, hq⟩ := hq
  refine And.intro o6 (And.intro (Nat.le_of_ble_eq_true rfl) (And.intro (Nat.le_of_ble_eq_true rfl) ⟨0, 0, _, hnc, hns, hq, fun v2 m2 hq2 => ?_⟩))
  obtain ⟨rfl, hJ⟩ := hq2
  exact And.intro (fun _ => hk m2 hJ) (fun g => absurd rfl g)
end LW
