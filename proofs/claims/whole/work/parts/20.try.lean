theorem c_Wh_isZero {l : Launch} {D : va_G} {ca : Nat → ClassId} {m : jm_M} {h : Nat} (ok : jm_ok m h 4) : jm_C l D ca n_Wh_isZero [.ref h] m 0 0 (fun v m' => m' = m ∧ v = some (.int (if m.2.2.1 h 1 = 0 then 1 else 0))) := by
  refine jm_C_of (cd := cd_Wh_isZero) (ini := false) (by decide +kernel) ok_Wh_isZero (fun h => by cases h) (Nat.le_of_ble_eq_true rfl) ?_
  intro X hX
  refine jm_run hX (stops := []) 20 0 _ _ _ _ _ ?_
  refine And.intro ok ?_
  refine And.intro (fun h0 => ?_) (fun h0 => ?_)
  · refine ⟨Nat.le_refl _, Nat.le_refl _, Or.inr rfl, rfl, ?_⟩
    rw [if_pos h0]
  · refine ⟨Nat.le_refl _, Nat.le_refl _, Or.inl rfl, rfl, ?_⟩
    rw [if_neg h0]
