/-! Whole: a whole number X below wB ^ 13 in the limbs' array p of the object h. -/
abbrev wr (X : Nat) : Nat → Int32 := fun i => nI (wl X i)
def whT (m : jm_M) (h p : Nat) : Prop := jm_ok m h 4 ∧ m.2.2.2.2 h 0 = some p ∧ jm_ok m p 50 ∧ (m.2.1 p).2 = 13
def whV (m : jm_M) (h p X : Nat) : Prop := X < wB ^ 13 ∧ m.2.2.1 p = wr X ∧ m.2.2.1 h 1 = nI (wu X)
/-- the number becomes X -/
abbrev whS (m : jm_M) (h p X : Nat) : jm_M := uI (uA m p (wr X)) h 1 (nI (wu X))
theorem whT_ne {m : jm_M} {h p : Nat} (T : whT m h p) : p ≠ h := fun e => by
  have h1 := T.1.2
  have h2 := T.2.2.1.2
  rw [e, h1] at h2
  exact absurd h2 (by decide)
theorem wl_31 (X i : Nat) : wl X i < 2 ^ 31 := Nat.lt_trans (wl_lt X i) (by decide)
theorem wu_top {X e : Nat} (he : e ≤ 13) (h : X < wB ^ e) (h2 : e = 0 ∨ wl X (e - 1) ≠ 0) : wu X = e := by
  unfold wu
  rw [wuA_eq 13 e he h]
  rcases e with _ | e
  · rfl
  · have h2 := h2.resolve_left (by omega)
    unfold wuA
    rw [if_pos]
    rcases Nat.lt_or_ge X (wB ^ e) with q | q
    · exact absurd (wl_zero q (Nat.le_refl e)) h2
    · exact q
section WH
variable {l : Launch} {D : va_G} {ca : Nat → ClassId}
theorem c_Wh_isZero {m : jm_M} {h p X : Nat} (T : whT m h p) (V : whV m h p X) : jm_C l D ca n_Wh_isZero [.ref h] m 0 0 (fun v m' => m' = m ∧ v = some (.int (if X = 0 then 1 else 0))) := by
  refine jm_C_of (cd := cd_Wh_isZero) (ini := false) (by decide +kernel) ok_Wh_isZero (fun h => by cases h) (Nat.le_of_ble_eq_true rfl) ?_
  intro X0 hX
  have hu : nI (wu X) = 0 ↔ X = 0 := by
    rw [← wu_zero V.1, ← nI_0, nI_eq (by have := wu_le X; omega) (by omega)]
  refine jm_run hX [] 20 ?_
  refine And.intro T.1 ?_
  refine And.intro (fun h0 => ?_) (fun h0 => ?_)
  · rw [V.2.2, hu] at h0
    exact ⟨Nat.le_refl _, Nat.le_refl _, Or.inr rfl, rfl, by rw [if_pos h0]⟩
  · rw [V.2.2, hu] at h0
    exact ⟨Nat.le_refl _, Nat.le_refl _, Or.inl rfl, rfl, by rw [if_neg h0]⟩
/-- any row: the limb at a place of 0 .. 2^30, 0 beyond -/
theorem c_Wh_limb {m : jm_M} {h p i : Nat} {g : Nat → Int32} (T : whT m h p) (hg : m.2.2.1 p = g) (hi : i < 2 ^ 30) : jm_C l D ca n_Wh_limb [.ref h, .int (nI i)] m 0 0 (fun v m' => m' = m ∧ v = some (.int (if i < 13 then g i else 0))) := by
  refine jm_C_of (cd := cd_Wh_limb) (ini := false) (by decide +kernel) ok_Wh_limb (fun h => by cases h) (Nat.le_of_ble_eq_true rfl) ?_
  intro X hX
  refine jm_run hX [] 20 ?_
  refine And.intro (fun h0 => absurd h0 (nI_pos (by omega))) (fun _ => ?_)
  refine And.intro (fun h0 => ?_) (fun h0 => ?_)
  · refine ⟨Nat.le_refl _, Nat.le_refl _, trivial, rfl, ?_⟩
    have : ¬ i < 13 := fun q => nI_ge q (by omega) h0
    rw [if_neg this]
  · have hlt : i < 13 := by
      rcases Nat.lt_or_ge i 13 with q | q
      · exact q
      · exact absurd (nI_le q (by omega)) h0
    refine And.intro T.1 ⟨some p, T.2.1, ?_⟩
    refine And.intro T.2.2.1 (And.intro (by rw [T.2.2.2]; exact vp_in_nI hlt (by omega)) ?_)
    refine ⟨Nat.le_refl _, Nat.le_refl _, trivial, rfl, ?_⟩
    rw [if_pos hlt, nI_c (by omega), hg]
theorem c_Wh_limbN {m : jm_M} {h p : Nat} {i : Int32} (T : whT m h p) (hi : i < 0) : jm_C l D ca n_Wh_limb [.ref h, .int i] m 0 0 (fun v m' => m' = m ∧ v = some (.int 0)) := by
  refine jm_C_of (cd := cd_Wh_limb) (ini := false) (by decide +kernel) ok_Wh_limb (fun h => by cases h) (Nat.le_of_ble_eq_true rfl) ?_
  intro X hX
  refine jm_run hX [] 20 ?_
  exact And.intro (fun h0 => ⟨Nat.le_refl _, Nat.le_refl _, trivial, rfl, rfl⟩) (fun h0 => absurd hi h0)
theorem c_Wh_topLimb {m : jm_M} {h p X : Nat} (T : whT m h p) (V : whV m h p X) : jm_C l D ca n_Wh_topLimb [.ref h] m 0 0 (fun v m' => m' = m ∧ v = some (.int (nI (wl X (wu X - 1))))) := by
  refine jm_C_of (cd := cd_Wh_topLimb) (ini := false) (by decide +kernel) ok_Wh_topLimb (fun h => by cases h) (Nat.le_of_ble_eq_true rfl) ?_
  intro X0 hX
  have hu := wu_le X
  refine jm_run hX [] 30 ?_
  refine And.intro T.1 ?_
  refine And.intro (fun h0 => ?_) (fun h0 => ?_)
  · rw [V.2.2] at h0
    have h1 : wu X = 0 := by
      rcases Nat.eq_zero_or_pos (wu X) with q | q
      · exact q
      · exact absurd h0 (nI_nlt q (by omega))
    have h2 : X = 0 := (wu_zero V.1).mp h1
    refine ⟨Nat.le_refl _, Nat.le_refl _, trivial, rfl, ?_⟩
    rw [h1, h2]; rfl
  · rw [V.2.2] at h0
    have h1 : 1 ≤ wu X := by
      rcases Nat.eq_zero_or_pos (wu X) with q | q
      · rw [q] at h0; exact absurd (by decide) h0
      · exact q
    refine And.intro T.1 ?_
    refine And.intro (fun h0 => ?_) (fun h0 => ?_)
    · rw [V.2.2] at h0
      exact absurd h0 (nI_nlt hu (by decide))
    · refine And.intro T.1 ⟨some p, T.2.1, ?_⟩
      refine And.intro T.1 ?_
      have e : m.2.2.1 h 1 - 1 = nI (wu X - 1) := by
        rw [V.2.2, show wu X = (wu X - 1) + 1 by omega, nI_pred]; rfl
      refine And.intro T.2.2.1 (And.intro ?_ ?_)
      · rw [T.2.2.2]
        show vp_in (m.2.2.1 h 1 - 1) 13
        rw [e]; exact vp_in_nI (by omega) (by omega)
      · refine ⟨Nat.le_refl _, Nat.le_refl _, trivial, rfl, ?_⟩
        show some (Value.int (m.2.2.1 p (m.2.2.1 h 1 - 1).toNatClampNeg)) = _
        rw [e, nI_c (by omega), V.2.1]
theorem c_Wh_dropZeros {m : jm_M} {h p X f : Nat} (T : whT m h p) (hg : m.2.2.1 p = wr X) (hf : f < 2 ^ 30) (hX0 : X < wB ^ (min f 13)) : jm_C l D ca n_Wh_dropZeros [.ref h, .int (nI f)] m 0 0 (fun v m' => v = none ∧ m' = uI m h 1 (nI (wu X))) := by
  refine jm_C_of (cd := cd_Wh_dropZeros) (ini := false) (by decide +kernel) ok_Wh_dropZeros (fun h => by cases h) (Nat.le_of_ble_eq_true rfl) ?_
  intro X0 hX
  have loop : ∀ e : Nat, e ≤ 13 → X < wB ^ e → X0 13 [(0, .ref h), (2, .int (nI e))] [] m 0 0 := by
    intro e
    induction e with
    | zero =>
      intro _ hx
      refine jm_run hX [] 20 ?_
      refine And.intro (fun h0 => ?_) (fun h0 => absurd (by decide) h0)
      refine And.intro T.1 ?_
      refine ⟨Nat.le_refl _, Nat.le_refl _, trivial, rfl, ?_⟩
      rw [wu_top (e := 0) (by omega) hx (Or.inl rfl)]
    | succ e ih =>
      intro he hx
      refine jm_run hX [(13, [0, 2])] 20 ?_
      refine And.intro (fun h0 => absurd h0 (nI_nle (by omega) (by omega))) (fun _ => ?_)
      refine And.intro T.1 ⟨some p, T.2.1, ?_⟩
      have e1 : nI (e + 1) - 1 = nI e := nI_pred e
      refine And.intro T.2.2.1 (And.intro ?_ ?_)
      · rw [T.2.2.2]
        show vp_in (nI (e + 1) - 1) 13
        rw [e1]; exact vp_in_nI (by omega) (by omega)
      · have e2 : m.2.2.1 p (nI (e + 1) - 1).toNatClampNeg = nI (wl X e) := by rw [e1, nI_c (by omega), hg]
        refine And.intro (fun h0 => ?_) (fun h0 => ?_)
        · have h0 : m.2.2.1 p (nI (e + 1) - 1).toNatClampNeg = 0 := h0
          rw [e2, ← nI_0, nI_eq (wl_31 X e) (by omega)] at h0
          have h3 : X < wB ^ e := by
            rw [wl_top hx] at h0
            rcases Nat.lt_or_ge X (wB ^ e) with q | q
            · exact q
            · have := Nat.div_pos q (wB_pos e); omega
          have := ih (by omega) h3
          rw [show nI e = nI (e + 1) + (-1) from (pk_m1 e).symm] at this
          exact this
        · have h0 : ¬ m.2.2.1 p (nI (e + 1) - 1).toNatClampNeg = 0 := h0
          rw [e2, ← nI_0, nI_eq (wl_31 X e) (by omega)] at h0
          refine And.intro T.1 ?_
          refine ⟨Nat.le_refl _, Nat.le_refl _, trivial, rfl, ?_⟩
          rw [wu_top (e := e + 1) he hx (Or.inr h0)]
  refine jm_run hX [(13, [0, 2])] 20 ?_
  refine And.intro (fun h0 => ?_) (fun h0 => ?_)
  · have h1 : 13 ≤ f := by
      rcases Nat.lt_or_ge f 13 with q | q
      · exact absurd h0 (nI_ge q (by decide))
      · exact q
    exact loop 13 (Nat.le_refl _) (by rw [Nat.min_eq_right h1] at hX0; exact hX0)
  · have h1 : f < 13 := by
      rcases Nat.lt_or_ge f 13 with q | q
      · exact q
      · exact absurd (nI_le q (by omega)) h0
    exact loop f (by omega) (by rw [Nat.min_eq_left (by omega)] at hX0; exact hX0)
end WH
