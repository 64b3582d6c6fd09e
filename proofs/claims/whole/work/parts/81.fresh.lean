/-- what was made is what the class holds -/
theorem ST.sst {m : jm_M} {ad : Nat → Nat} (h : ST m ad cD41 cR41) : SST m ad := by
  have hd : ∀ k, kin k → cD41 k := fun k hk => by
    unfold kin at hk
    simp only [cD41, cD40, cD39, cD38, cD37, cD36, cD35, cD34, cD33, cD32, cD31, cD30, cD29, cD28, cD27, cD26, cD25, cD24, cD23, cD22, cD21, cD20, cD19, cD18, cD17, cD16, cD15, cD14, cD13, cD12, cD11, cD10, cD9, cD8, cD7, cD6, cD5, cD4, cD3, cD2, cD1, cD0]
    omega
  have rr : ∀ k f k', cR41 k f → RF k f = some k' → m.2.2.2.2 (ad k) f = some (ad k') := fun k f k' hr e => by
    obtain ⟨-, k2, e2, -, e3⟩ := h.2.2 k f hr
    rw [e] at e2
    cases e2
    exact e3
  have w40 : ∀ k f, cR40 k f → cR41 k f := fun k f w => Or.inl w
  have w39 : ∀ k f, cR39 k f → cR41 k f := fun k f w => Or.inl (Or.inl (Or.inl w))
  have w38 : ∀ k f, cR38 k f → cR41 k f := fun k f w => w39 k f (Or.inl (Or.inl w))
  have w37 : ∀ k f, cR37 k f → cR41 k f := fun k f w => w38 k f (Or.inl (Or.inl w))
  have w36 : ∀ k f, cR36 k f → cR41 k f := fun k f w => w37 k f (Or.inl w)
  have w35 : ∀ k f, cR35 k f → cR41 k f := fun k f w => w36 k f (Or.inl w)
  have w34 : ∀ k f, cR34 k f → cR41 k f := fun k f w => w35 k f (Or.inl (Or.inl w))
  have w33 : ∀ k f, cR33 k f → cR41 k f := fun k f w => w34 k f w
  have w32 : ∀ k f, cR32 k f → cR41 k f := fun k f w => w33 k f (Or.inl w)
  have w31 : ∀ k f, cR31 k f → cR41 k f := fun k f w => w32 k f (Or.inl (Or.inl w))
  have w30 : ∀ k f, cR30 k f → cR41 k f := fun k f w => w31 k f (Or.inl w)
  have w29 : ∀ k f, cR29 k f → cR41 k f := fun k f w => w30 k f (Or.inl (Or.inl w))
  have w28 : ∀ k f, cR28 k f → cR41 k f := fun k f w => w29 k f (Or.inl (Or.inl w))
  have w27 : ∀ k f, cR27 k f → cR41 k f := fun k f w => w28 k f (Or.inl (Or.inl w))
  have w26 : ∀ k f, cR26 k f → cR41 k f := fun k f w => w27 k f (Or.inl (Or.inl w))
  have w25 : ∀ k f, cR25 k f → cR41 k f := fun k f w => w26 k f (Or.inl (Or.inl w))
  have w24 : ∀ k f, cR24 k f → cR41 k f := fun k f w => w25 k f (Or.inl w)
  have w23 : ∀ k f, cR23 k f → cR41 k f := fun k f w => w24 k f (Or.inl (Or.inl w))
  have w22 : ∀ k f, cR22 k f → cR41 k f := fun k f w => w23 k f (Or.inl (Or.inl w))
  have w21 : ∀ k f, cR21 k f → cR41 k f := fun k f w => w22 k f (Or.inl (Or.inl w))
  have w20 : ∀ k f, cR20 k f → cR41 k f := fun k f w => w21 k f (Or.inl w)
  have w19 : ∀ k f, cR19 k f → cR41 k f := fun k f w => w20 k f (Or.inl (Or.inl w))
  have w18 : ∀ k f, cR18 k f → cR41 k f := fun k f w => w19 k f (Or.inl w)
  have w17 : ∀ k f, cR17 k f → cR41 k f := fun k f w => w18 k f (Or.inl (Or.inl w))
  have w16 : ∀ k f, cR16 k f → cR41 k f := fun k f w => w17 k f (Or.inl (Or.inl w))
  have w15 : ∀ k f, cR15 k f → cR41 k f := fun k f w => w16 k f (Or.inl (Or.inl w))
  have w14 : ∀ k f, cR14 k f → cR41 k f := fun k f w => w15 k f (Or.inl (Or.inl w))
  have w12 : ∀ k f, cR12 k f → cR41 k f := fun k f w => w14 k f w
  have w11 : ∀ k f, cR11 k f → cR41 k f := fun k f w => w12 k f (Or.inl w)
  have w10 : ∀ k f, cR10 k f → cR41 k f := fun k f w => w11 k f (Or.inl w)
  have w9 : ∀ k f, cR9 k f → cR41 k f := fun k f w => w10 k f (Or.inl w)
  have w8 : ∀ k f, cR8 k f → cR41 k f := fun k f w => w9 k f (Or.inl w)
  have w7 : ∀ k f, cR7 k f → cR41 k f := fun k f w => w8 k f (Or.inl w)
  have w6 : ∀ k f, cR6 k f → cR41 k f := fun k f w => w7 k f (Or.inl w)
  have w5 : ∀ k f, cR5 k f → cR41 k f := fun k f w => w6 k f (Or.inl w)
  have w4 : ∀ k f, cR4 k f → cR41 k f := fun k f w => w5 k f (Or.inl w)
  have w3 : ∀ k f, cR3 k f → cR41 k f := fun k f w => w4 k f (Or.inl w)
  have w2 : ∀ k f, cR2 k f → cR41 k f := fun k f w => w3 k f (Or.inl w)
  have l1 : ∀ {k f : Nat}, k = k ∧ f = f := ⟨rfl, rfl⟩
  refine ⟨fun k hk => ⟨(h.1 k (hd k hk)).1, (h.1 k (hd k hk)).2.1⟩, fun i j hi hj => h.2.1 i j (hd i hi) (hd j hj), ?_, fun i hi => ?_, fun i hi => ?_, fun i hi => ?_, fun i hi => ?_, fun i hi => ?_, fun i hi => ?_, fun i hi => ?_⟩
  · have key : ∀ q ∈ rfL, cR41 q.1 q.2.1 := by
      intro q hq
      simp only [rfL, List.mem_cons, List.not_mem_nil, or_false] at hq
      rcases hq with rfl | rfl | rfl | rfl | rfl | rfl | rfl | rfl | rfl | rfl | rfl | rfl | rfl | rfl | rfl | rfl | rfl | rfl | rfl | rfl | rfl | rfl | rfl | rfl | rfl | rfl | rfl | rfl | rfl | rfl | rfl | rfl | rfl | rfl
      · exact w12 _ _ (Or.inr ⟨rfl, rfl⟩)
      · exact w33 _ _ (Or.inr ⟨rfl, rfl⟩)
      · exact Or.inr ⟨rfl, rfl⟩
      · exact w2 _ _ (Or.inr ⟨rfl, rfl⟩)
      · exact w3 _ _ (Or.inr ⟨rfl, rfl⟩)
      · exact w4 _ _ (Or.inr ⟨rfl, rfl⟩)
      · exact w5 _ _ (Or.inr ⟨rfl, rfl⟩)
      · exact w6 _ _ (Or.inr ⟨rfl, rfl⟩)
      · exact w7 _ _ (Or.inr ⟨rfl, rfl⟩)
      · exact w8 _ _ (Or.inr ⟨rfl, rfl⟩)
      · exact w9 _ _ (Or.inr ⟨rfl, rfl⟩)
      · exact w10 _ _ (Or.inr ⟨rfl, rfl⟩)
      · exact w11 _ _ (Or.inr ⟨rfl, rfl⟩)
      · exact w19 _ _ (Or.inr ⟨rfl, rfl⟩)
      · exact w20 _ _ (Or.inr ⟨rfl, rfl⟩)
      · exact w31 _ _ (Or.inr ⟨rfl, rfl⟩)
      · exact w21 _ _ (Or.inr ⟨rfl, rfl⟩)
      · exact w22 _ _ (Or.inr ⟨rfl, rfl⟩)
      · exact w23 _ _ (Or.inr ⟨rfl, rfl⟩)
      · exact w24 _ _ (Or.inr ⟨rfl, rfl⟩)
      · exact w25 _ _ (Or.inr ⟨rfl, rfl⟩)
      · exact w26 _ _ (Or.inr ⟨rfl, rfl⟩)
      · exact w27 _ _ (Or.inr ⟨rfl, rfl⟩)
      · exact w28 _ _ (Or.inr ⟨rfl, rfl⟩)
      · exact w29 _ _ (Or.inr ⟨rfl, rfl⟩)
      · exact w30 _ _ (Or.inr ⟨rfl, rfl⟩)
      · exact w15 _ _ (Or.inr ⟨rfl, rfl⟩)
      · exact w16 _ _ (Or.inr ⟨rfl, rfl⟩)
      · exact w17 _ _ (Or.inr ⟨rfl, rfl⟩)
      · exact w18 _ _ (Or.inr ⟨rfl, rfl⟩)
      · exact w35 _ _ (Or.inr ⟨rfl, rfl⟩)
      · exact w36 _ _ (Or.inr ⟨rfl, rfl⟩)
      · exact w37 _ _ (Or.inr ⟨rfl, rfl⟩)
      · exact w38 _ _ (Or.inr ⟨rfl, rfl⟩)
    have key2 : ∀ q ∈ rfL, RF q.1 q.2.1 = some q.2.2 := by decide +kernel
    intro q hq
    exact rr _ _ _ (key q hq) (key2 q hq)
  · refine rr _ _ _ ?_ RF_o
    rcases (show i < 108 ∨ i = 108 ∨ i = 109 ∨ i = 110 ∨ i = 111 ∨ i = 112 ∨ i = 113 ∨ i = 114 ∨ i = 115 ∨ i = 116 ∨ i = 117 ∨ i = 118 ∨ (119 ≤ i ∧ i < 128) ∨ (128 ≤ i ∧ i < 131) ∨ i = 131 by omega) with q | rfl | rfl | rfl | rfl | rfl | rfl | rfl | rfl | rfl | rfl | rfl | q | q | rfl
    · exact w32 _ _ (Or.inl (Or.inr ⟨by omega, by omega, by omega, rfl⟩))
    · exact w20 _ _ (Or.inl (Or.inr ⟨rfl, rfl⟩))
    · exact w26 _ _ (Or.inl (Or.inr ⟨rfl, rfl⟩))
    · exact w27 _ _ (Or.inl (Or.inr ⟨rfl, rfl⟩))
    · exact w28 _ _ (Or.inl (Or.inr ⟨rfl, rfl⟩))
    · exact w29 _ _ (Or.inl (Or.inr ⟨rfl, rfl⟩))
    · exact w30 _ _ (Or.inl (Or.inr ⟨rfl, rfl⟩))
    · exact w15 _ _ (Or.inl (Or.inr ⟨rfl, rfl⟩))
    · exact w16 _ _ (Or.inl (Or.inr ⟨rfl, rfl⟩))
    · exact w17 _ _ (Or.inl (Or.inr ⟨rfl, rfl⟩))
    · exact w18 _ _ (Or.inl (Or.inr ⟨rfl, rfl⟩))
    · exact w35 _ _ (Or.inl (Or.inr ⟨rfl, rfl⟩))
    · exact w39 _ _ (Or.inl (Or.inr ⟨by omega, by omega, by omega, rfl⟩))
    · exact w40 _ _ (Or.inl (Or.inr ⟨by omega, by omega, by omega, rfl⟩))
    · exact w38 _ _ (Or.inl (Or.inr ⟨rfl, rfl⟩))
  · exact rr _ _ _ (w22 _ _ (Or.inl (Or.inr ⟨rfl, hi⟩))) (by unfold RF; rw [if_pos (by decide), if_pos rfl, if_pos hi])
  · exact rr _ _ _ (w23 _ _ (Or.inl (Or.inr ⟨rfl, hi⟩))) (by unfold RF; rw [if_pos (by decide), if_neg (by decide), if_pos rfl, if_pos hi])
  · exact rr _ _ _ (w24 _ _ (Or.inl (Or.inr ⟨rfl, hi⟩))) (by unfold RF; rw [if_pos (by decide), if_neg (by decide), if_neg (by decide), if_pos rfl, if_pos hi])
  · exact rr _ _ _ (w32 _ _ (Or.inr ⟨rfl, hi⟩)) (by unfold RF; rw [if_pos (by decide), if_neg (by decide), if_neg (by decide), if_neg (by decide), if_pos rfl, if_pos hi])
  · exact rr _ _ _ (w39 _ _ (Or.inr ⟨rfl, hi⟩)) (by unfold RF; rw [if_pos (by decide), if_neg (by decide), if_neg (by decide), if_neg (by decide), if_neg (by decide), if_pos rfl, if_pos hi])
  · exact rr _ _ _ (w40 _ _ (Or.inr ⟨rfl, hi⟩)) (by unfold RF; rw [if_pos (by decide), if_neg (by decide), if_neg (by decide), if_neg (by decide), if_neg (by decide), if_neg (by decide), if_pos rfl, if_pos hi])
/-- a new line -/
def dNew (K : Nat) (J : Nat → Int32) : LD := ((K, 0, 0), fun _ => 0, J, fun _ => 0, fun _ => 0, fun _ => 0, fun _ => 0)
def cNew (K : Nat) (J : Nat → Int32) : CSt := (dNew K J, fun _ => false, fun _ => 0, fun _ => 0, false, false, dNew K J)
theorem newK_ok (x : Int32) : 1 ≤ newK x ∧ newK x ≤ 3 := by
  unfold newK
  by_cases w : 1 ≤ x.toInt ∧ x.toInt ≤ 3
  · rw [if_pos w]; omega
  · rw [if_neg w]; decide
theorem dNew_ok {K : Nat} {J : Nat → Int32} (hK : 1 ≤ K ∧ K ≤ 3) (hJ : ∀ i, i < 9 → J i = -1) : LOK (dNew K J) :=
  ⟨hK, by show 0 ≤ 3; omega, by show 0 ≤ 3; omega, fun j hj => absurd hj (by show ¬ j < 0; omega), fun i hi => Or.inr (Or.inl (by show (J i).toInt = -1; rw [hJ i hi]; decide)), fun _ _ _ _ => by show 0 ≤ 27720; omega, fun _ _ => by show 0 ≤ 27720; omega, fun _ _ => by show 0 < K; omega, fun _ _ => by show 0 ≤ 1000000; omega⟩
theorem ST.ci {m : jm_M} {ad : Nat → Nat} {K : Nat} (h : ST m ad cD41 cR41) (hK : 1 ≤ K ∧ K ≤ 3) (i1 : m.2.2.1 (ad 1) = va_up (fun _ => 0) 0 (nI K)) (i6 : ∀ i, i < 9 → m.2.2.1 (ad 6) i = -1) : CI m ad (cNew K (m.2.2.1 (ad 6))) := by
  have S := h.sst
  have hd : ∀ k, kin k → cD41 k := fun k hk => by
    unfold kin at hk
    simp only [cD41, cD40, cD39, cD38, cD37, cD36, cD35, cD34, cD33, cD32, cD31, cD30, cD29, cD28, cD27, cD26, cD25, cD24, cD23, cD22, cD21, cD20, cD19, cD18, cD17, cD16, cD15, cD14, cD13, cD12, cD11, cD10, cD9, cD8, cD7, cD6, cD5, cD4, cD3, cD2, cD1, cD0]
    omega
  have zi : ∀ k, kin k → k ≠ 1 → k ≠ 6 → m.2.2.1 (ad k) = fun _ => 0 := fun k hk => (h.1 k (hd k hk)).2.2.1
  have zj : ∀ k, kin k → m.2.2.2.1 (ad k) = fun _ => 0 := fun k hk => (h.1 k (hd k hk)).2.2.2
  have n0 : nI 0 = 0 := nI_0
  have l0 : lN 0 = 0 := rfl
  refine ⟨S, ⟨?_, ?_, ?_, ?_, rfl, ?_, ?_, ?_, ?_⟩, dNew_ok hK i6, fun i _ => ?_, ?_, ?_, ?_, ?_, ?_, fun _ => 0, fun i hi => ⟨?_, ?_, ?_⟩, fun q => by cases q⟩
  · rw [i1]; exact va_up_self _ _ _
  · rw [i1]; exact va_up_ne _ _ (by decide)
  · rw [i1]; exact va_up_ne _ _ (by decide)
  · exact zi 5 (Or.inl (by decide)) (by decide) (by decide)
  · exact zi 7 (Or.inl (by decide)) (by decide) (by decide)
  · exact zi 8 (Or.inl (by decide)) (by decide) (by decide)
  · exact zi 9 (Or.inl (by decide)) (by decide) (by decide)
  · exact zj 10 (Or.inl (by decide))
  · rw [zi 14 (Or.inl (by decide)) (by decide) (by decide)]
  · exact zi 11 (Or.inl (by decide)) (by decide) (by decide)
  · exact zj 12 (Or.inl (by decide))
  · exact zj 13 (Or.inl (by decide))
  · rw [zi 0 (Or.inl (by decide)) (by decide) (by decide)]; rfl
  · rw [zi 3 (Or.inl (by decide)) (by decide) (by decide)]; rfl
  · exact Nat.pow_pos (by decide)
  · rw [zi _ (kin_p hi) (by omega) (by omega)]
    funext j
    show (0 : Int32) = nI (wl 0 j)
    have : wl 0 j = 0 := wl_zero (X := 0) (n := 0) (by decide) (Nat.zero_le j)
    rw [this]; rfl
  · rw [zi _ (kin_o hi) (by omega) (by omega)]
    show (0 : Int32) = nI (wu 0)
    rw [(wu_zero (X := 0) (Nat.pow_pos (by decide))).mpr rfl]; rfl
