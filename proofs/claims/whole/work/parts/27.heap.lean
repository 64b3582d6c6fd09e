/-! The class's things, by numbers: 0 ShareSolve, 1 Line, 2 Flow, 3 Solved, 4 Division; Line's arrays 5 outs, 6 joins, 7 shares, 8 crushed, 9 becomes, 10 feeds, 11 spanned, 12 lows, 13 highs, 14 getsAway; Flow's 15 scale, 16 moves (rows 17 ..), 26 leaves (27 ..), 36 turns (37 ..), 40 cells; Solved's 41 atPorts, 42 loads; the whole numbers i (0 .. 131): 100 + 2 i, their limbs 101 + 2 i. Numbers: 0 .. 107 cells, 108 below, 109 first, 110 second, 111 passing, 112 product, 113 square, 114 quotient, 115 rest, 116 shifted, 117 next, 118 Solved.below, 119 .. atPorts, 128 .. loads, 131 sum. -/
def kdL : List (Nat × Nat) := [(5, 0), (2, 0), (1, 0), (3, 0), (0, 0), (50, 3), (50, 9), (50, 27), (50, 9), (50, 9), (51, 9), (52, 3), (51, 3), (51, 3), (52, 9), (50, 9), (54, 9), (50, 9), (50, 9), (50, 9), (50, 9), (50, 9), (50, 9), (50, 9), (50, 9), (50, 9), (54, 9), (50, 9), (50, 9), (50, 9), (50, 9), (50, 9), (50, 9), (50, 9), (50, 9), (50, 9), (54, 3), (50, 9), (50, 9), (50, 9), (53, 108), (53, 9), (53, 3)]
def kd (k : Nat) : Nat × Nat := if k < 43 then kdL.getD k (0, 0) else if k % 2 = 0 then (4, 0) else (50, 13)
def kin (k : Nat) : Prop := k < 43 ∨ (100 ≤ k ∧ k < 364)
def rfL : List (Nat × Nat × Nat) := [(0, 0, 1), (0, 1, 2), (0, 2, 3), (1, 3, 5), (1, 4, 6), (1, 5, 7), (1, 6, 8), (1, 7, 9), (1, 8, 10), (1, 9, 11), (1, 10, 12), (1, 11, 13), (1, 12, 14), (2, 0, 4), (2, 1, 316), (2, 2, 1), (2, 4, 15), (2, 5, 16), (2, 6, 26), (2, 7, 36), (2, 8, 40), (2, 9, 318), (2, 10, 320), (2, 11, 322), (2, 12, 324), (2, 13, 326), (4, 0, 328), (4, 1, 330), (4, 2, 332), (4, 3, 334), (3, 3, 336), (3, 4, 41), (3, 5, 42), (3, 6, 362)]
/-- the addresses ad hold these things, apart, linked so -/
def SST (m : jm_M) (ad : Nat → Nat) : Prop :=
  (∀ k, kin k → ad k ∈ m.1 ∧ m.2.1 (ad k) = kd k) ∧ (∀ i j, kin i → kin j → ad i = ad j → i = j) ∧ (∀ q ∈ rfL, m.2.2.2.2 (ad q.1) q.2.1 = some (ad q.2.2)) ∧ (∀ i, i < 132 → m.2.2.2.2 (ad (100 + 2 * i)) 0 = some (ad (101 + 2 * i))) ∧
  (∀ i, i < 9 → m.2.2.2.2 (ad 16) i = some (ad (17 + i))) ∧ (∀ i, i < 9 → m.2.2.2.2 (ad 26) i = some (ad (27 + i))) ∧ (∀ i, i < 3 → m.2.2.2.2 (ad 36) i = some (ad (37 + i))) ∧ (∀ i, i < 108 → m.2.2.2.2 (ad 40) i = some (ad (100 + 2 * i))) ∧ (∀ i, i < 9 → m.2.2.2.2 (ad 41) i = some (ad (338 + 2 * i))) ∧ (∀ i, i < 3 → m.2.2.2.2 (ad 42) i = some (ad (356 + 2 * i)))
theorem SST.ok {m : jm_M} {ad : Nat → Nat} (h : SST m ad) (k : Nat) (hk : kin k) : jm_ok m (ad k) (kd k).1 := ⟨(h.1 k hk).1, by rw [(h.1 k hk).2]⟩
theorem SST.len {m : jm_M} {ad : Nat → Nat} (h : SST m ad) (k : Nat) (hk : kin k) : (m.2.1 (ad k)).2 = (kd k).2 := by rw [(h.1 k hk).2]
theorem SST.ne {m : jm_M} {ad : Nat → Nat} (h : SST m ad) {i j : Nat} (hi : kin i) (hj : kin j) (hij : i ≠ j) : ad i ≠ ad j := fun e => hij (h.2.1 i j hi hj e)
theorem kin_o {i : Nat} (h : i < 132) : kin (100 + 2 * i) := Or.inr (by omega)
theorem kin_p {i : Nat} (h : i < 132) : kin (101 + 2 * i) := Or.inr (by omega)
theorem kd_o (i : Nat) : kd (100 + 2 * i) = (4, 0) := by
  unfold kd
  rw [if_neg (by omega), if_pos (by omega)]
theorem kd_p (i : Nat) : kd (101 + 2 * i) = (50, 13) := by
  unfold kd
  rw [if_neg (by omega), if_neg (by omega)]
theorem SST.wh {m : jm_M} {ad : Nat → Nat} (h : SST m ad) (i : Nat) (hi : i < 132) : whT m (ad (100 + 2 * i)) (ad (101 + 2 * i)) := by
  have h1 := h.1 _ (kin_o hi)
  have h2 := h.1 _ (kin_p hi)
  rw [kd_o] at h1
  rw [kd_p] at h2
  exact ⟨⟨h1.1, by rw [h1.2]⟩, h.2.2.2.1 i hi, ⟨h2.1, by rw [h2.2]⟩, by rw [h2.2]⟩
/-- the whole numbers V, but perhaps number x -/
def WVx (m : jm_M) (ad : Nat → Nat) (x : Nat) (V : Nat → Nat) : Prop := ∀ i, i < 132 → i ≠ x → whV m (ad (100 + 2 * i)) (ad (101 + 2 * i)) (V i)
def WV (m : jm_M) (ad : Nat → Nat) (V : Nat → Nat) : Prop := ∀ i, i < 132 → whV m (ad (100 + 2 * i)) (ad (101 + 2 * i)) (V i)
/-- only whole numbers have changed -/
def FRW (ad : Nat → Nat) (m m' : jm_M) : Prop := m'.1 = m.1 ∧ m'.2.1 = m.2.1 ∧ m'.2.2.2.2 = m.2.2.2.2 ∧ m'.2.2.2.1 = m.2.2.2.1 ∧ ∀ b, (∀ k, 100 ≤ k → k < 364 → b ≠ ad k) → m'.2.2.1 b = m.2.2.1 b
theorem FRW.rf {ad : Nat → Nat} {m : jm_M} : FRW ad m m := ⟨rfl, rfl, rfl, rfl, fun _ _ => rfl⟩
theorem FRW.tr {ad : Nat → Nat} {m1 m2 m3 : jm_M} (h : FRW ad m1 m2) (g : FRW ad m2 m3) : FRW ad m1 m3 :=
  ⟨g.1.trans h.1, g.2.1.trans h.2.1, g.2.2.1.trans h.2.2.1, g.2.2.2.1.trans h.2.2.2.1, fun b hb => (g.2.2.2.2 b hb).trans (h.2.2.2.2 b hb)⟩
theorem FRW.S {ad : Nat → Nat} {m m' : jm_M} (h : FRW ad m m') (S : SST m ad) : SST m' ad := by
  obtain ⟨h1, h2, h3, h4, h5⟩ := h
  unfold SST at S ⊢
  rw [h1, h2, h3]
  exact S
theorem FRW.uA {ad : Nat → Nat} {m : jm_M} {i : Nat} {g : Nat → Int32} (hi : i < 132) : FRW ad m (uA m (ad (101 + 2 * i)) g) :=
  ⟨rfl, rfl, rfl, rfl, fun b hb => va_up_ne _ _ (hb (101 + 2 * i) (by omega) (by omega))⟩
theorem FRW.uI {ad : Nat → Nat} {m : jm_M} {i k : Nat} {x : Int32} (hi : i < 132) : FRW ad m (uI m (ad (100 + 2 * i)) k x) :=
  ⟨rfl, rfl, rfl, rfl, fun b hb => va_up_ne _ _ (hb (100 + 2 * i) (by omega) (by omega))⟩
theorem FRW.wS {ad : Nat → Nat} {m : jm_M} {i X : Nat} (hi : i < 132) : FRW ad m (whS m (ad (100 + 2 * i)) (ad (101 + 2 * i)) X) := (FRW.uA hi).tr (FRW.uI hi)
theorem WV.x {m : jm_M} {ad V : Nat → Nat} (h : WV m ad V) (x : Nat) : WVx m ad x V := fun i hi _ => h i hi
/-- number i becomes X -/
theorem WVx.set {m : jm_M} {ad V : Nat → Nat} {x i X : Nat} (S : SST m ad) (h : WVx m ad x V) (hi : i < 132) (hX : X < wB ^ 13) : WVx (whS m (ad (100 + 2 * i)) (ad (101 + 2 * i)) X) ad x (va_up V i X) := by
  intro j hj hjx
  by_cases e : j = i
  · subst e
    rw [va_up_self]
    exact whS_V (S.wh j hj) hX
  · rw [va_up_ne _ _ e]
    have hv := h j hj hjx
    refine ⟨hv.1, ?_, ?_⟩
    · show va_up (va_up m.2.2.1 (ad (101 + 2 * i)) _) (ad (100 + 2 * i)) _ (ad (101 + 2 * j)) = _
      rw [va_up_ne _ _ (S.ne (kin_p hj) (kin_o hi) (by omega)), va_up_ne _ _ (S.ne (kin_p hj) (kin_p hi) (by omega))]
      exact hv.2.1
    · show va_up (va_up m.2.2.1 (ad (101 + 2 * i)) _) (ad (100 + 2 * i)) _ (ad (100 + 2 * j)) 1 = _
      rw [va_up_ne _ _ (S.ne (kin_o hj) (kin_o hi) (by omega)), va_up_ne _ _ (S.ne (kin_o hj) (kin_p hi) (by omega))]
      exact hv.2.2
theorem WV.set {m : jm_M} {ad V : Nat → Nat} {i X : Nat} (S : SST m ad) (h : WV m ad V) (hi : i < 132) (hX : X < wB ^ 13) : WV (whS m (ad (100 + 2 * i)) (ad (101 + 2 * i)) X) ad (va_up V i X) := fun j hj => WVx.set (x := 132) S (h.x 132) hi hX j hj (by omega)
/-- number x has a value again -/
theorem WVx.fix {m : jm_M} {ad V : Nat → Nat} {x X : Nat} (S : SST m ad) (h : WVx m ad x V) (hx : x < 132) (hX : X < wB ^ 13) : WV (whS m (ad (100 + 2 * x)) (ad (101 + 2 * x)) X) ad (va_up V x X) := by
  intro j hj
  by_cases e : j = x
  · subst e
    rw [va_up_self]
    exact whS_V (S.wh j hj) hX
  · exact WVx.set S h hx hX j hj e
theorem WVx.row {m : jm_M} {ad V : Nat → Nat} {x : Nat} {g : Nat → Int32} (S : SST m ad) (h : WVx m ad x V) (hx : x < 132) : WVx (uA m (ad (101 + 2 * x)) g) ad x V := by
  intro j hj hjx
  have hv := h j hj hjx
  refine ⟨hv.1, ?_, ?_⟩
  · show va_up m.2.2.1 (ad (101 + 2 * x)) g (ad (101 + 2 * j)) = _
    rw [va_up_ne _ _ (S.ne (kin_p hj) (kin_p hx) (by omega))]
    exact hv.2.1
  · show va_up m.2.2.1 (ad (101 + 2 * x)) g (ad (100 + 2 * j)) 1 = _
    rw [va_up_ne _ _ (S.ne (kin_o hj) (kin_p hx) (by omega))]
    exact hv.2.2
