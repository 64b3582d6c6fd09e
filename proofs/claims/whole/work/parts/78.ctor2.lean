theorem ok_new {m : jm_M} {q k n : Nat} : jm_ok (aN m q k n) q k := ⟨List.mem_append_right _ (List.mem_singleton.mpr rfl), by show (va_up m.2.1 q (k, n) q).1 = k; rw [va_up_self]⟩
theorem IFr.aNN {m : jm_M} {q n k : Nat} {rw : Nat → Nat} (hq : q ∉ m.1) (hr : ∀ i, i < n → rw i ∉ m.1 ∧ rw i ≠ q) : IFr m (aNN m q rw n k) := fun a ha => by
  have e1 : a ≠ q := fun e => hq (e ▸ ha)
  have e2 : a ∉ (List.range n).map rw := fun w => by
    obtain ⟨i, hi, e⟩ := List.mem_map.mp w
    exact (hr i (List.mem_range.mp hi)).1 (e ▸ ha)
  refine ⟨List.mem_append_left _ ha, ?_, ?_⟩
  · show (if a = q ∨ a ∈ (List.range n).map rw then _ else _) = _
    rw [if_neg (fun w => w.elim e1 e2)]
  · show (if a = q then _ else if a ∈ (List.range n).map rw then _ else _) = _
    rw [if_neg e1, if_neg e2]
/-- an array of rows -/
theorem ST.mn {m : jm_M} {ad : Nat → Nat} {dm : Nat → Prop} {rf : Nat → Nat → Prop} {q k0 n : Nat} {rw : Nat → Nat} (h : ST m ad dm rf) (hq : q ∉ m.1) (hr : ∀ i, i < n → rw i ∉ m.1 ∧ rw i ≠ q) (hi : ∀ i j, i < n → j < n → rw i = rw j → i = j) (hk : ∀ k, k0 ≤ k → k ≤ k0 + n → ¬ dm k) (e0 : kd k0 = (54, n)) (e1 : ∀ i, i < n → kd (k0 + 1 + i) = (50, 9)) (e2 : ∀ f, f < n → RF k0 f = some (k0 + 1 + f)) :
    ∃ ad', (∀ k, dm k → ad' k = ad k) ∧ ad' k0 = q ∧ ST (aNN m q rw n 9) ad' (fun k => dm k ∨ (k0 ≤ k ∧ k ≤ k0 + n)) (fun k f => rf k f ∨ (k = k0 ∧ f < n)) := by
  have hm : ∀ i, dm i → ad i ∈ m.1 := fun i hi => (h.1 i hi).1
  have hne : ∀ i, dm i → ¬ (k0 ≤ i ∧ i ≤ k0 + n) := fun i hd w => hk i w.1 w.2 hd
  have nq : ∀ a, a ∈ m.1 → a ≠ q := fun a ha e => hq (e ▸ ha)
  have nr : ∀ a, a ∈ m.1 → a ∉ (List.range n).map rw := fun a ha w => by
    obtain ⟨i, hi, e⟩ := List.mem_map.mp w
    exact (hr i (List.mem_range.mp hi)).1 (e ▸ ha)
  have inr : ∀ i, i < n → rw i ∈ (List.range n).map rw := fun i hi => List.mem_map.mpr ⟨i, List.mem_range.mpr hi, rfl⟩
  generalize hadf : (fun k => if k = k0 then q else if k0 < k ∧ k ≤ k0 + n then rw (k - k0 - 1) else ad k) = ad'
  have f0 : ad' k0 = q := by rw [← hadf]; exact if_pos rfl
  have f1 : ∀ i, i < n → ad' (k0 + 1 + i) = rw i := fun i hi => by
    rw [← hadf]
    show (if k0 + 1 + i = k0 then _ else if k0 < k0 + 1 + i ∧ k0 + 1 + i ≤ k0 + n then _ else _) = _
    rw [if_neg (by omega), if_pos (by omega)]
    congr 1; omega
  have f2 : ∀ k, dm k → ad' k = ad k := fun k hd => by
    have := hne k hd
    rw [← hadf]
    show (if k = k0 then _ else if k0 < k ∧ k ≤ k0 + n then _ else _) = _
    rw [if_neg (by omega), if_neg (by omega)]
  have cs : ∀ k, (k0 ≤ k ∧ k ≤ k0 + n) → k = k0 ∨ ∃ i, i < n ∧ k = k0 + 1 + i := fun k hk => by
    by_cases w : k = k0
    · exact Or.inl w
    · exact Or.inr ⟨k - k0 - 1, by omega, by omega⟩
  refine ⟨ad', f2, f0, fun k hd => ?_, fun i j di dj e => ?_, fun k f hrf => ?_⟩
  · rcases hd with hd | hd
    · rw [f2 k hd]
      obtain ⟨a1, a2, a3, a4⟩ := h.1 k hd
      refine ⟨List.mem_append_left _ a1, ?_, fun w1 w2 => ?_, ?_⟩
      · show (if ad k = q then _ else if ad k ∈ (List.range n).map rw then _ else _) = _
        rw [if_neg (nq _ a1), if_neg (nr _ a1)]; exact a2
      · show (if ad k = q ∨ ad k ∈ (List.range n).map rw then _ else _) = _
        rw [if_neg (fun w => w.elim (nq _ a1) (nr _ a1))]; exact a3 w1 w2
      · show (if ad k = q ∨ ad k ∈ (List.range n).map rw then _ else _) = _
        rw [if_neg (fun w => w.elim (nq _ a1) (nr _ a1))]; exact a4
    · rcases cs k hd with w | ⟨i, hi, w⟩
      · subst w
        rw [f0]
        refine ⟨List.mem_append_right _ List.mem_cons_self, ?_, fun _ _ => ?_, ?_⟩
        · show (if q = q then _ else _) = _
          rw [if_pos rfl, e0]
        · show (if q = q ∨ _ then _ else _) = _
          rw [if_pos (Or.inl rfl)]
        · show (if q = q ∨ _ then _ else _) = _
          rw [if_pos (Or.inl rfl)]
      · subst w
        rw [f1 i hi]
        refine ⟨List.mem_append_right _ (List.mem_cons_of_mem _ (inr i hi)), ?_, fun _ _ => ?_, ?_⟩
        · show (if rw i = q then _ else if rw i ∈ (List.range n).map rw then _ else _) = _
          rw [if_neg (hr i hi).2, if_pos (inr i hi), e1 i hi]
        · show (if rw i = q ∨ rw i ∈ (List.range n).map rw then _ else _) = _
          rw [if_pos (Or.inr (inr i hi))]
        · show (if rw i = q ∨ rw i ∈ (List.range n).map rw then _ else _) = _
          rw [if_pos (Or.inr (inr i hi))]
  · rcases di with di | di <;> rcases dj with dj | dj
    · rw [f2 i di, f2 j dj] at e; exact h.2.1 i j di dj e
    · rw [f2 i di] at e
      rcases cs j dj with w | ⟨x, hx, w⟩
      · subst w; rw [f0] at e; exact absurd e (nq _ (hm i di))
      · subst w; rw [f1 x hx] at e; exact absurd (hm i di) (e ▸ (hr x hx).1)
    · rw [f2 j dj] at e
      rcases cs i di with w | ⟨x, hx, w⟩
      · subst w; rw [f0] at e; exact absurd e.symm (nq _ (hm j dj))
      · subst w; rw [f1 x hx] at e; exact absurd (hm j dj) (e ▸ (hr x hx).1)
    · rcases cs i di with w | ⟨x, hx, w⟩ <;> rcases cs j dj with w2 | ⟨y, hy, w2⟩
      · rw [w, w2]
      · subst w w2; rw [f0, f1 y hy] at e; exact absurd e.symm (hr y hy).2
      · subst w w2; rw [f0, f1 x hx] at e; exact absurd e (hr x hx).2
      · subst w w2; rw [f1 x hx, f1 y hy] at e; have := hi x y hx hy e; omega
  · rcases hrf with hrf | ⟨rfl, hf⟩
    · obtain ⟨a, k', b, c, d⟩ := h.2.2 k f hrf
      refine ⟨Or.inl a, k', b, Or.inl c, ?_⟩
      rw [f2 k a, f2 k' c]
      show (if ad k = q then (fun i => if i < n then some (rw i) else none) else if ad k ∈ (List.range n).map rw then (fun _ => none) else m.2.2.2.2 (ad k)) f = _
      rw [if_neg (nq _ (hm k a)), if_neg (nr _ (hm k a))]; exact d
    · refine ⟨Or.inr ⟨Nat.le_refl _, by omega⟩, k + 1 + f, e2 f hf, Or.inr ⟨by omega, by omega⟩, ?_⟩
      rw [f0, f1 f hf]
      show (if q = q then (fun i => if i < n then some (rw i) else none) else _) f = _
      rw [if_pos rfl]
      show (if f < n then some (rw f) else none) = _
      rw [if_pos hf]
/-! The sets, in the order of the making. -/
def cD0 : Nat → Prop := fun k => k = 0
def cR0 : Nat → Nat → Prop := fun _ _ => False
def cD1 : Nat → Prop := fun k => cD0 k ∨ k = 1
def cR1 : Nat → Nat → Prop := fun i g => cR0 i g
def cD2 : Nat → Prop := fun k => cD1 k ∨ k = 5
def cR2 : Nat → Nat → Prop := fun i g => cR1 i g ∨ (i = 1 ∧ g = 3)
def cD3 : Nat → Prop := fun k => cD2 k ∨ k = 6
def cR3 : Nat → Nat → Prop := fun i g => cR2 i g ∨ (i = 1 ∧ g = 4)
def cD4 : Nat → Prop := fun k => cD3 k ∨ k = 7
def cR4 : Nat → Nat → Prop := fun i g => cR3 i g ∨ (i = 1 ∧ g = 5)
def cD5 : Nat → Prop := fun k => cD4 k ∨ k = 8
def cR5 : Nat → Nat → Prop := fun i g => cR4 i g ∨ (i = 1 ∧ g = 6)
def cD6 : Nat → Prop := fun k => cD5 k ∨ k = 9
def cR6 : Nat → Nat → Prop := fun i g => cR5 i g ∨ (i = 1 ∧ g = 7)
def cD7 : Nat → Prop := fun k => cD6 k ∨ k = 10
def cR7 : Nat → Nat → Prop := fun i g => cR6 i g ∨ (i = 1 ∧ g = 8)
def cD8 : Nat → Prop := fun k => cD7 k ∨ k = 11
def cR8 : Nat → Nat → Prop := fun i g => cR7 i g ∨ (i = 1 ∧ g = 9)
def cD9 : Nat → Prop := fun k => cD8 k ∨ k = 12
def cR9 : Nat → Nat → Prop := fun i g => cR8 i g ∨ (i = 1 ∧ g = 10)
def cD10 : Nat → Prop := fun k => cD9 k ∨ k = 13
def cR10 : Nat → Nat → Prop := fun i g => cR9 i g ∨ (i = 1 ∧ g = 11)
def cD11 : Nat → Prop := fun k => cD10 k ∨ k = 14
def cR11 : Nat → Nat → Prop := fun i g => cR10 i g ∨ (i = 1 ∧ g = 12)
def cD12 : Nat → Prop := fun k => cD11 k
def cR12 : Nat → Nat → Prop := fun i g => cR11 i g ∨ (i = 0 ∧ g = 0)
def cD13 : Nat → Prop := fun k => cD12 k ∨ k = 2
def cR13 : Nat → Nat → Prop := fun i g => cR12 i g
def cD14 : Nat → Prop := fun k => cD13 k ∨ k = 4
def cR14 : Nat → Nat → Prop := fun i g => cR13 i g
def cD15 : Nat → Prop := fun k => cD14 k ∨ k = 100 + 2 * 114 ∨ k = 101 + 2 * 114
def cR15 : Nat → Nat → Prop := fun i g => (cR14 i g ∨ (i = 100 + 2 * 114 ∧ g = 0)) ∨ (i = 4 ∧ g = 0)
def cD16 : Nat → Prop := fun k => cD15 k ∨ k = 100 + 2 * 115 ∨ k = 101 + 2 * 115
def cR16 : Nat → Nat → Prop := fun i g => (cR15 i g ∨ (i = 100 + 2 * 115 ∧ g = 0)) ∨ (i = 4 ∧ g = 1)
def cD17 : Nat → Prop := fun k => cD16 k ∨ k = 100 + 2 * 116 ∨ k = 101 + 2 * 116
def cR17 : Nat → Nat → Prop := fun i g => (cR16 i g ∨ (i = 100 + 2 * 116 ∧ g = 0)) ∨ (i = 4 ∧ g = 2)
def cD18 : Nat → Prop := fun k => cD17 k ∨ k = 100 + 2 * 117 ∨ k = 101 + 2 * 117
def cR18 : Nat → Nat → Prop := fun i g => (cR17 i g ∨ (i = 100 + 2 * 117 ∧ g = 0)) ∨ (i = 4 ∧ g = 3)
def cD19 : Nat → Prop := fun k => cD18 k
def cR19 : Nat → Nat → Prop := fun i g => cR18 i g ∨ (i = 2 ∧ g = 0)
def cD20 : Nat → Prop := fun k => cD19 k ∨ k = 100 + 2 * 108 ∨ k = 101 + 2 * 108
def cR20 : Nat → Nat → Prop := fun i g => (cR19 i g ∨ (i = 100 + 2 * 108 ∧ g = 0)) ∨ (i = 2 ∧ g = 1)
def cD21 : Nat → Prop := fun k => cD20 k ∨ k = 15
def cR21 : Nat → Nat → Prop := fun i g => cR20 i g ∨ (i = 2 ∧ g = 4)
def cD22 : Nat → Prop := fun k => cD21 k ∨ (16 ≤ k ∧ k ≤ 16 + 9)
def cR22 : Nat → Nat → Prop := fun i g => (cR21 i g ∨ (i = 16 ∧ g < 9)) ∨ (i = 2 ∧ g = 5)
def cD23 : Nat → Prop := fun k => cD22 k ∨ (26 ≤ k ∧ k ≤ 26 + 9)
def cR23 : Nat → Nat → Prop := fun i g => (cR22 i g ∨ (i = 26 ∧ g < 9)) ∨ (i = 2 ∧ g = 6)
def cD24 : Nat → Prop := fun k => cD23 k ∨ (36 ≤ k ∧ k ≤ 36 + 3)
def cR24 : Nat → Nat → Prop := fun i g => (cR23 i g ∨ (i = 36 ∧ g < 3)) ∨ (i = 2 ∧ g = 7)
def cD25 : Nat → Prop := fun k => cD24 k ∨ k = 40
def cR25 : Nat → Nat → Prop := fun i g => cR24 i g ∨ (i = 2 ∧ g = 8)
def cD26 : Nat → Prop := fun k => cD25 k ∨ k = 100 + 2 * 109 ∨ k = 101 + 2 * 109
def cR26 : Nat → Nat → Prop := fun i g => (cR25 i g ∨ (i = 100 + 2 * 109 ∧ g = 0)) ∨ (i = 2 ∧ g = 9)
def cD27 : Nat → Prop := fun k => cD26 k ∨ k = 100 + 2 * 110 ∨ k = 101 + 2 * 110
def cR27 : Nat → Nat → Prop := fun i g => (cR26 i g ∨ (i = 100 + 2 * 110 ∧ g = 0)) ∨ (i = 2 ∧ g = 10)
def cD28 : Nat → Prop := fun k => cD27 k ∨ k = 100 + 2 * 111 ∨ k = 101 + 2 * 111
def cR28 : Nat → Nat → Prop := fun i g => (cR27 i g ∨ (i = 100 + 2 * 111 ∧ g = 0)) ∨ (i = 2 ∧ g = 11)
def cD29 : Nat → Prop := fun k => cD28 k ∨ k = 100 + 2 * 112 ∨ k = 101 + 2 * 112
def cR29 : Nat → Nat → Prop := fun i g => (cR28 i g ∨ (i = 100 + 2 * 112 ∧ g = 0)) ∨ (i = 2 ∧ g = 12)
def cD30 : Nat → Prop := fun k => cD29 k ∨ k = 100 + 2 * 113 ∨ k = 101 + 2 * 113
def cR30 : Nat → Nat → Prop := fun i g => (cR29 i g ∨ (i = 100 + 2 * 113 ∧ g = 0)) ∨ (i = 2 ∧ g = 13)
def cD31 : Nat → Prop := fun k => cD30 k
def cR31 : Nat → Nat → Prop := fun i g => cR30 i g ∨ (i = 2 ∧ g = 2)
def cD32 : Nat → Prop := fun k => cD31 k ∨ (100 ≤ k ∧ k < 100 + 2 * (0 + 108))
def cR32 : Nat → Nat → Prop := fun i g => (cR31 i g ∨ (100 ≤ i ∧ i < 100 + 2 * (0 + 108) ∧ i % 2 = 0 ∧ g = 0)) ∨ (i = 40 ∧ g < 108)
def cD33 : Nat → Prop := fun k => cD32 k
def cR33 : Nat → Nat → Prop := fun i g => cR32 i g ∨ (i = 0 ∧ g = 1)
def cD34 : Nat → Prop := fun k => cD33 k ∨ k = 3
def cR34 : Nat → Nat → Prop := fun i g => cR33 i g
def cD35 : Nat → Prop := fun k => cD34 k ∨ k = 100 + 2 * 118 ∨ k = 101 + 2 * 118
def cR35 : Nat → Nat → Prop := fun i g => (cR34 i g ∨ (i = 100 + 2 * 118 ∧ g = 0)) ∨ (i = 3 ∧ g = 3)
def cD36 : Nat → Prop := fun k => cD35 k ∨ k = 41
def cR36 : Nat → Nat → Prop := fun i g => cR35 i g ∨ (i = 3 ∧ g = 4)
def cD37 : Nat → Prop := fun k => cD36 k ∨ k = 42
def cR37 : Nat → Nat → Prop := fun i g => cR36 i g ∨ (i = 3 ∧ g = 5)
def cD38 : Nat → Prop := fun k => cD37 k ∨ k = 100 + 2 * 131 ∨ k = 101 + 2 * 131
def cR38 : Nat → Nat → Prop := fun i g => (cR37 i g ∨ (i = 100 + 2 * 131 ∧ g = 0)) ∨ (i = 3 ∧ g = 6)
def cD39 : Nat → Prop := fun k => cD38 k ∨ (338 ≤ k ∧ k < 100 + 2 * (119 + 9))
def cR39 : Nat → Nat → Prop := fun i g => (cR38 i g ∨ (338 ≤ i ∧ i < 100 + 2 * (119 + 9) ∧ i % 2 = 0 ∧ g = 0)) ∨ (i = 41 ∧ g < 9)
def cD40 : Nat → Prop := fun k => cD39 k ∨ (356 ≤ k ∧ k < 100 + 2 * (128 + 3))
def cR40 : Nat → Nat → Prop := fun i g => (cR39 i g ∨ (356 ≤ i ∧ i < 100 + 2 * (128 + 3) ∧ i % 2 = 0 ∧ g = 0)) ∨ (i = 42 ∧ g < 3)
def cD41 : Nat → Prop := fun k => cD40 k
def cR41 : Nat → Nat → Prop := fun i g => cR40 i g ∨ (i = 0 ∧ g = 2)
section CT2
variable {l : Launch} {D : va_G} {ca : Nat → ClassId}
theorem c_Dv_init {m0 : jm_M} {ad0 : Nat → Nat} (h0 : ST m0 ad0 cD14 cR14) : jm_C l D ca n_Dv_init [.ref (ad0 4)] m0 8 60 (fun v m' => v = none ∧ IFr m0 m' ∧ ∃ ad', (∀ k, cD14 k → ad' k = ad0 k) ∧ ST m' ad' cD18 cR18) := by
  refine jm_C_of (cd := cd_Dv_init) (ini := true) (by decide +kernel) ok_Dv_init (fun _ => rfl) (Nat.le_of_ble_eq_true rfl) ?_
  intro X hX
  generalize ho : ad0 4 = o
  have b48 : ∀ (m : jm_M) (ad : Nat → Nat), ST m ad cD18 cR18 → IFr m0 m → (∀ k, cD14 k → ad k = ad0 k) → X 48 [(0, .ref o)] [] m 8 60 := by
    intro m ad s fr ax
    have so : ad 4 = o := (ax 4 (by simp only [cD14, cD13, cD12, cD11, cD10, cD9, cD8, cD7, cD6, cD5, cD4, cD3, cD2, cD1, cD0]; first | decide | omega)).trans ho
    refine jm_run hX [] 5 ?_
    exact ⟨(Nat.le_of_ble_eq_true rfl), (Nat.le_of_ble_eq_true rfl), trivial, rfl, fr, ad, ax, s⟩
  have b37 : ∀ (m : jm_M) (ad : Nat → Nat), ST m ad cD17 cR17 → IFr m0 m → (∀ k, cD14 k → ad k = ad0 k) → X 37 [(0, .ref o)] [] m 6 45 := by
    intro m ad s fr ax
    have so : ad 4 = o := (ax 4 (by simp only [cD14, cD13, cD12, cD11, cD10, cD9, cD8, cD7, cD6, cD5, cD4, cD3, cD2, cD1, cD0]; first | decide | omega)).trans ho
    have ks : cD17 4 := (by simp only [cD17, cD16, cD15, cD14, cD13, cD12, cD11, cD10, cD9, cD8, cD7, cD6, cD5, cD4, cD3, cD2, cD1, cD0]; first | decide | omega)
    refine jm_run hX [(48, [0])] 20 ?_
    refine And.intro (Nat.le_of_ble_eq_true rfl) (And.intro (Nat.le_of_ble_eq_true rfl) (fun q hq => ?_))
    refine And.intro rfl ?_
    refine And.intro trivial (And.intro (Nat.le_of_ble_eq_true rfl) (And.intro (Nat.le_of_ble_eq_true rfl) ⟨1, 13, _, (Nat.le_of_ble_eq_true rfl), (Nat.le_of_ble_eq_true rfl), c_Wh_init (ok_new (k := 4) (n := 0)), fun v m1 hw => ?_⟩))
    obtain ⟨rfl, p, hp, em⟩ := hw
    obtain ⟨ad1, ex, eq, s1⟩ := ST.wh 117 s hq hp (by simp only [cD17, cD16, cD15, cD14, cD13, cD12, cD11, cD10, cD9, cD8, cD7, cD6, cD5, cD4, cD3, cD2, cD1, cD0]; first | decide | omega) (by simp only [cD17, cD16, cD15, cD14, cD13, cD12, cD11, cD10, cD9, cD8, cD7, cD6, cD5, cD4, cD3, cD2, cD1, cD0]; first | decide | omega)
    have fr1 : IFr m0 m1 := fr.tr (by rw [em]; exact ((IFr.aN hq).tr (IFr.aN hp)).tr IFr.uR)
    rw [← em] at s1
    have so1 : ad1 4 = o := (ex 4 ks).trans so
    refine And.intro (by rw [← so1]; exact s1.ok (Or.inl ks)) ?_
    have s2 := s1.ref (k := 4) (f := 3) (k' := 100 + 2 * 117) (Or.inl ks) (Or.inr (Or.inl rfl)) (by decide +kernel)
    rw [so1, eq] at s2
    exact b48 _ ad1 s2 (fr1.tr IFr.uR) (fun k hk => (ex k (Or.inl (Or.inl (Or.inl hk)))).trans (ax k hk))
  have b26 : ∀ (m : jm_M) (ad : Nat → Nat), ST m ad cD16 cR16 → IFr m0 m → (∀ k, cD14 k → ad k = ad0 k) → X 26 [(0, .ref o)] [] m 4 30 := by
    intro m ad s fr ax
    have so : ad 4 = o := (ax 4 (by simp only [cD14, cD13, cD12, cD11, cD10, cD9, cD8, cD7, cD6, cD5, cD4, cD3, cD2, cD1, cD0]; first | decide | omega)).trans ho
    have ks : cD16 4 := (by simp only [cD16, cD15, cD14, cD13, cD12, cD11, cD10, cD9, cD8, cD7, cD6, cD5, cD4, cD3, cD2, cD1, cD0]; first | decide | omega)
    refine jm_run hX [(37, [0])] 20 ?_
    refine And.intro (Nat.le_of_ble_eq_true rfl) (And.intro (Nat.le_of_ble_eq_true rfl) (fun q hq => ?_))
    refine And.intro rfl ?_
    refine And.intro trivial (And.intro (Nat.le_of_ble_eq_true rfl) (And.intro (Nat.le_of_ble_eq_true rfl) ⟨1, 13, _, (Nat.le_of_ble_eq_true rfl), (Nat.le_of_ble_eq_true rfl), c_Wh_init (ok_new (k := 4) (n := 0)), fun v m1 hw => ?_⟩))
    obtain ⟨rfl, p, hp, em⟩ := hw
    obtain ⟨ad1, ex, eq, s1⟩ := ST.wh 116 s hq hp (by simp only [cD16, cD15, cD14, cD13, cD12, cD11, cD10, cD9, cD8, cD7, cD6, cD5, cD4, cD3, cD2, cD1, cD0]; first | decide | omega) (by simp only [cD16, cD15, cD14, cD13, cD12, cD11, cD10, cD9, cD8, cD7, cD6, cD5, cD4, cD3, cD2, cD1, cD0]; first | decide | omega)
    have fr1 : IFr m0 m1 := fr.tr (by rw [em]; exact ((IFr.aN hq).tr (IFr.aN hp)).tr IFr.uR)
    rw [← em] at s1
    have so1 : ad1 4 = o := (ex 4 ks).trans so
    refine And.intro (by rw [← so1]; exact s1.ok (Or.inl ks)) ?_
    have s2 := s1.ref (k := 4) (f := 2) (k' := 100 + 2 * 116) (Or.inl ks) (Or.inr (Or.inl rfl)) (by decide +kernel)
    rw [so1, eq] at s2
    exact b37 _ ad1 s2 (fr1.tr IFr.uR) (fun k hk => (ex k (Or.inl (Or.inl hk))).trans (ax k hk))
  have b15 : ∀ (m : jm_M) (ad : Nat → Nat), ST m ad cD15 cR15 → IFr m0 m → (∀ k, cD14 k → ad k = ad0 k) → X 15 [(0, .ref o)] [] m 2 15 := by
    intro m ad s fr ax
    have so : ad 4 = o := (ax 4 (by simp only [cD14, cD13, cD12, cD11, cD10, cD9, cD8, cD7, cD6, cD5, cD4, cD3, cD2, cD1, cD0]; first | decide | omega)).trans ho
    have ks : cD15 4 := (by simp only [cD15, cD14, cD13, cD12, cD11, cD10, cD9, cD8, cD7, cD6, cD5, cD4, cD3, cD2, cD1, cD0]; first | decide | omega)
    refine jm_run hX [(26, [0])] 20 ?_
    refine And.intro (Nat.le_of_ble_eq_true rfl) (And.intro (Nat.le_of_ble_eq_true rfl) (fun q hq => ?_))
    refine And.intro rfl ?_
    refine And.intro trivial (And.intro (Nat.le_of_ble_eq_true rfl) (And.intro (Nat.le_of_ble_eq_true rfl) ⟨1, 13, _, (Nat.le_of_ble_eq_true rfl), (Nat.le_of_ble_eq_true rfl), c_Wh_init (ok_new (k := 4) (n := 0)), fun v m1 hw => ?_⟩))
    obtain ⟨rfl, p, hp, em⟩ := hw
    obtain ⟨ad1, ex, eq, s1⟩ := ST.wh 115 s hq hp (by simp only [cD15, cD14, cD13, cD12, cD11, cD10, cD9, cD8, cD7, cD6, cD5, cD4, cD3, cD2, cD1, cD0]; first | decide | omega) (by simp only [cD15, cD14, cD13, cD12, cD11, cD10, cD9, cD8, cD7, cD6, cD5, cD4, cD3, cD2, cD1, cD0]; first | decide | omega)
    have fr1 : IFr m0 m1 := fr.tr (by rw [em]; exact ((IFr.aN hq).tr (IFr.aN hp)).tr IFr.uR)
    rw [← em] at s1
    have so1 : ad1 4 = o := (ex 4 ks).trans so
    refine And.intro (by rw [← so1]; exact s1.ok (Or.inl ks)) ?_
    have s2 := s1.ref (k := 4) (f := 1) (k' := 100 + 2 * 115) (Or.inl ks) (Or.inr (Or.inl rfl)) (by decide +kernel)
    rw [so1, eq] at s2
    exact b26 _ ad1 s2 (fr1.tr IFr.uR) (fun k hk => (ex k (Or.inl hk)).trans (ax k hk))
  have b4 : ∀ (m : jm_M) (ad : Nat → Nat), ST m ad cD14 cR14 → IFr m0 m → (∀ k, cD14 k → ad k = ad0 k) → X 4 [(0, .ref o)] [] m 0 0 := by
    intro m ad s fr ax
    have so : ad 4 = o := (ax 4 (by simp only [cD14, cD13, cD12, cD11, cD10, cD9, cD8, cD7, cD6, cD5, cD4, cD3, cD2, cD1, cD0]; first | decide | omega)).trans ho
    have ks : cD14 4 := (by simp only [cD14, cD13, cD12, cD11, cD10, cD9, cD8, cD7, cD6, cD5, cD4, cD3, cD2, cD1, cD0]; first | decide | omega)
    refine jm_run hX [(15, [0])] 20 ?_
    refine And.intro (Nat.le_of_ble_eq_true rfl) (And.intro (Nat.le_of_ble_eq_true rfl) (fun q hq => ?_))
    refine And.intro rfl ?_
    refine And.intro trivial (And.intro (Nat.le_of_ble_eq_true rfl) (And.intro (Nat.le_of_ble_eq_true rfl) ⟨1, 13, _, (Nat.le_of_ble_eq_true rfl), (Nat.le_of_ble_eq_true rfl), c_Wh_init (ok_new (k := 4) (n := 0)), fun v m1 hw => ?_⟩))
    obtain ⟨rfl, p, hp, em⟩ := hw
    obtain ⟨ad1, ex, eq, s1⟩ := ST.wh 114 s hq hp (by simp only [cD14, cD13, cD12, cD11, cD10, cD9, cD8, cD7, cD6, cD5, cD4, cD3, cD2, cD1, cD0]; first | decide | omega) (by simp only [cD14, cD13, cD12, cD11, cD10, cD9, cD8, cD7, cD6, cD5, cD4, cD3, cD2, cD1, cD0]; first | decide | omega)
    have fr1 : IFr m0 m1 := fr.tr (by rw [em]; exact ((IFr.aN hq).tr (IFr.aN hp)).tr IFr.uR)
    rw [← em] at s1
    have so1 : ad1 4 = o := (ex 4 ks).trans so
    refine And.intro (by rw [← so1]; exact s1.ok (Or.inl ks)) ?_
    have s2 := s1.ref (k := 4) (f := 0) (k' := 100 + 2 * 114) (Or.inl ks) (Or.inr (Or.inl rfl)) (by decide +kernel)
    rw [so1, eq] at s2
    exact b15 _ ad1 s2 (fr1.tr IFr.uR) (fun k hk => (ex k hk).trans (ax k hk))
  refine jm_run hX [(4, [0])] 5 ?_
  refine And.intro (Nat.le_of_ble_eq_true rfl) ?_
  exact b4 m0 ad0 h0 IFr.rf (fun _ _ => rfl)
end CT2
