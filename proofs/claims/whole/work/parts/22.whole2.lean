/-- a proper row of limbs -/
def whR (m : jm_M) (p : Nat) : Prop := ∃ Y, Y < wB ^ 13 ∧ m.2.2.1 p = wr Y
theorem whV.R {m : jm_M} {h p X : Nat} (V : whV m h p X) : whR m p := ⟨X, V.1, V.2.1⟩
theorem whR_hi {m : jm_M} {p j : Nat} (R : whR m p) (hj : 13 ≤ j) : m.2.2.1 p j = 0 := by
  obtain ⟨Y, h1, h2⟩ := R
  rw [h2]
  show nI (wl Y j) = 0
  rw [wl_zero h1 hj]; rfl
theorem whS_V {m : jm_M} {h p X : Nat} (T : whT m h p) (hX : X < wB ^ 13) : whV (whS m h p X) h p X := by
  refine ⟨hX, ?_, ?_⟩
  · show va_up (va_up m.2.2.1 p (wr X)) h _ p = wr X
    rw [va_up_ne _ _ (whT_ne T), va_up_self]
  · show va_up (va_up m.2.2.1 p (wr X)) h _ h 1 = _
    rw [va_up_self, va_up_self]
theorem lN_31 {n : Nat} (h : n < 2 ^ 31) : (lN n).toInt32 = nI n := lN_i n
section WH2
variable {l : Launch} {D : va_G} {ca : Nat → ClassId}
theorem c_Wh_become_2 {m : jm_M} {h p o q X : Nat} (T : whT m h p) (R : whR m p) (To : whT m o q) (Vo : whV m o q X) (hpo : p ≠ o) : jm_C l D ca n_Wh_become_2 [.ref h, .ref o] m 0 0 (fun v m' => v = none ∧ m' = whS m h p X) := by
  refine jm_C_of (cd := cd_Wh_become_2) (ini := false) (by decide +kernel) ok_Wh_become_2 (fun h => by cases h) (Nat.le_of_ble_eq_true rfl) ?_
  intro X0 hX
  have hcp : va_cpy (m.2.2.1 q) (m.2.2.1 p) 0 0 13 = wr X := by
    funext j
    unfold va_cpy
    by_cases hj : j < 13
    · rw [if_pos ⟨Nat.zero_le _, by omega⟩, Vo.2.1, Nat.zero_add, Nat.sub_zero]
    · rw [if_neg (fun z => hj (by omega)), whR_hi R (by omega)]
      show 0 = nI (wl X j)
      rw [wl_zero Vo.1 (by omega)]; rfl
  refine jm_run hX [] 20 ?_
  refine And.intro To.1 ⟨some q, To.2.1, ?_⟩
  refine And.intro T.1 ⟨some p, T.2.1, ?_⟩
  refine ⟨To.2.2.1, T.2.2.1, by decide, by decide, by decide, ?_, ?_, Nat.le_of_ble_eq_true rfl, ?_⟩
  · rw [To.2.2.2]; decide
  · rw [T.2.2.2]; decide
  refine And.intro To.1 ?_
  refine And.intro T.1 ?_
  refine ⟨Nat.le_refl _, Nat.le_refl _, trivial, rfl, ?_⟩
  show uI (uA m p (va_cpy (m.2.2.1 q) (m.2.2.1 p) 0 0 13)) h 1 (va_up m.2.2.1 p _ o 1) = _
  rw [hcp, va_up_ne _ _ (Ne.symm hpo), Vo.2.2]
theorem c_Wh_become_1 {m : jm_M} {h p V : Nat} (T : whT m h p) (R : whR m p) (hV : V < 2 ^ 63) : jm_C l D ca n_Wh_become_1 [.ref h, .long (lN V)] m 0 0 (fun v m' => v = none ∧ m' = whS m h p V) := by
  refine jm_C_of (cd := cd_Wh_become_1) (ini := false) (by decide +kernel) ok_Wh_become_1 (fun h => by cases h) (Nat.le_of_ble_eq_true rfl) ?_
  intro X0 hX
  have hV3 : V < wB ^ 3 := Nat.lt_trans hV (by decide)
  have hV13 : V < wB ^ 13 := Nat.lt_trans hV (by decide)
  have hfill : (fun i => if i < (m.2.1 p).2 then (0 : Int32) else m.2.2.1 p i) = fun _ => 0 := by
    funext i
    rw [T.2.2.2]
    by_cases hi : i < 13
    · rw [if_pos hi]
    · rw [if_neg hi, whR_hi R (by omega)]
  have e0 : (lN V &&& 1073741823).toInt32 = nI (wl V 0) := by
    rw [lm_mask (Nat.lt_trans hV (by decide))]
    unfold wl
    rw [Nat.pow_zero, Nat.div_one]
  have e1 : (((lN V).toUInt64 >>> ((30 : Int32).toInt64.toUInt64 &&& Int64.toUInt64 63)).toInt64 &&& 1073741823).toInt32 = nI (wl V 1) := by
    rw [lm_shr (Nat.lt_trans hV (by decide)), lm_mask (Nat.lt_of_le_of_lt (Nat.div_le_self _ _) (Nat.lt_trans hV (by decide)))]
    unfold wl
    rw [Nat.pow_one]
  have e2 : ((lN V).toUInt64 >>> ((60 : Int32).toInt64.toUInt64 &&& Int64.toUInt64 63)).toInt64.toInt32 = nI (wl V 2) := by
    have e : (60 : Int32) = nI 60 := rfl
    rw [e, wb_shr (Nat.lt_trans hV (by decide)) (by decide), lN_i, wl_top hV3]
    rfl
  have hrow : va_up (va_up (va_up (fun _ => (0 : Int32)) 0 (nI (wl V 0))) 1 (nI (wl V 1))) 2 (nI (wl V 2)) = wr V := by
    funext j
    show (if j = 2 then _ else if j = 1 then _ else if j = 0 then _ else 0) = nI (wl V j)
    by_cases j2 : j = 2
    · rw [if_pos j2, j2]
    · rw [if_neg j2]
      by_cases j1 : j = 1
      · rw [if_pos j1, j1]
      · rw [if_neg j1]
        by_cases j0 : j = 0
        · rw [if_pos j0, j0]
        · rw [if_neg j0, wl_zero hV3 (by omega)]; rfl
  have k : X0 46 [(0, .ref h)] [] (uA m p (wr V)) 0 0 := by
    refine jm_run hX [] 10 ?_
    refine And.intro T.1 (And.intro (Nat.le_of_ble_eq_true rfl) (And.intro (Nat.le_of_ble_eq_true rfl) ⟨0, 0, _, Nat.le_refl _, Nat.le_refl _, c_Wh_dropZeros (m := uA m p (wr V)) (p := p) (X := V) (f := 3) T (va_up_self _ _ _) (by decide) hV3, fun v m' hq => ?_⟩))
    obtain ⟨rfl, rfl⟩ := hq
    exact ⟨Nat.le_refl _, Nat.le_refl _, trivial, rfl, rfl⟩
  refine jm_run hX [(46, [0])] 60 ?_
  refine And.intro T.1 ⟨some p, T.2.1, ?_⟩
  refine ⟨Nat.le_of_ble_eq_true rfl, Nat.le_of_ble_eq_true rfl, 0, 0, _, Nat.le_refl _, Nat.le_refl _, c_Ar_fill T.2.2.1 (by rw [T.2.2.2]; decide), fun v m' hq => ?_⟩
  obtain ⟨rfl, rfl⟩ := hq
  rw [hfill]
  refine And.intro T.1 ⟨some p, T.2.1, ?_⟩
  refine And.intro T.2.2.1 (And.intro (vin13 (n := 0) T.2.2.2 (by decide)) ?_)
  refine And.intro T.1 ⟨some p, T.2.1, ?_⟩
  refine And.intro T.2.2.1 (And.intro (vin13 (n := 1) T.2.2.2 (by decide)) ?_)
  refine And.intro T.1 ⟨some p, T.2.1, ?_⟩
  refine And.intro T.2.2.1 (And.intro (vin13 (n := 2) T.2.2.2 (by decide)) ?_)
  have hm : uI (uI (uI (uA m p (fun _ => 0)) p 0 (lN V &&& 1073741823).toInt32) p 1 (((lN V).toUInt64 >>> ((30 : Int32).toInt64.toUInt64 &&& Int64.toUInt64 63)).toInt64 &&& 1073741823).toInt32) p 2 ((lN V).toUInt64 >>> ((60 : Int32).toInt64.toUInt64 &&& Int64.toUInt64 63)).toInt64.toInt32 = uA m p (wr V) := by
    rw [uI_uA, uI_uA, uI_uA, e0, e1, e2, hrow]
  rw [← hm] at k
  exact k
theorem c_Wh_lowestBits {m : jm_M} {h p X : Nat} (T : whT m h p) (V : whV m h p X) : jm_C l D ca n_Wh_lowestBits [.ref h] m 0 0 (fun v m' => m' = m ∧ v = some (.long (lN X))) := by
  refine jm_C_of (cd := cd_Wh_lowestBits) (ini := false) (by decide +kernel) ok_Wh_lowestBits (fun h => by cases h) (Nat.le_of_ble_eq_true rfl) ?_
  intro X0 hX
  have e30 : (30 : Int32) = nI 30 := rfl
  have e60 : (60 : Int32) = nI 60 := rfl
  have hv : ((nI (wl X 0)).toInt64 ||| ((nI (wl X 1)).toInt64 <<< ((30 : Int32).toInt64 &&& 63))) ||| ((nI (wl X 2)).toInt64 <<< ((60 : Int32).toInt64 &&& 63)) = lN X := by
    have b0 : wl X 0 < 1073741824 := wl_lt X 0
    have b1 : wl X 1 < 1073741824 := wl_lt X 1
    rw [lm_l b0, lm_l b1, lm_l (wl_lt X 2), e30, e60, wb_shl _ (by decide), wb_shl _ (by decide)]
    rw [g_or' (k := 30) rfl b0 (by omega)]
    have e3 : lN (wl X 2 * 2 ^ 60) = lN (wl X 2 % 16 * 2 ^ 60) := by
      have e4 : wl X 2 * 2 ^ 60 % 2 ^ 64 = wl X 2 % 16 * 2 ^ 60 % 2 ^ 64 := by omega
      rw [wb_mod, wb_mod (wl X 2 % 16 * 2 ^ 60), e4]
    rw [e3, g_or' (k := 60) rfl (by omega) (by omega)]
    have w0 : wl X 0 = X % 1073741824 := by unfold wl; rw [Nat.pow_zero, Nat.div_one]
    have w1 : wl X 1 = X / 1073741824 % 1073741824 := by unfold wl; rw [Nat.pow_one]
    have w2 : wl X 2 = X / 1152921504606846976 % 1073741824 := rfl
    have e5 : wl X 0 + wl X 1 * 2 ^ 30 + wl X 2 % 16 * 2 ^ 60 = X % 2 ^ 64 := by
      rw [w0, w1, w2]
      omega
    rw [e5, ← wb_mod X]
  refine jm_run hX [] 60 ?_
  refine And.intro T.1 ⟨some p, T.2.1, ?_⟩
  refine And.intro T.2.2.1 (And.intro (vin13 (n := 0) T.2.2.2 (by decide)) ?_)
  refine And.intro T.1 ⟨some p, T.2.1, ?_⟩
  refine And.intro T.2.2.1 (And.intro (vin13 (n := 1) T.2.2.2 (by decide)) ?_)
  refine And.intro T.1 ⟨some p, T.2.1, ?_⟩
  refine And.intro T.2.2.1 (And.intro (vin13 (n := 2) T.2.2.2 (by decide)) ?_)
  refine ⟨Nat.le_refl _, Nat.le_refl _, trivial, rfl, ?_⟩
  show some (Value.long (((m.2.2.1 p 0).toInt64 ||| ((m.2.2.1 p 1).toInt64 <<< ((30 : Int32).toInt64 &&& 63))) ||| ((m.2.2.1 p 2).toInt64 <<< ((60 : Int32).toInt64 &&& 63)))) = _
  rw [V.2.1]
  exact congrArg (fun z => some (Value.long z)) hv
end WH2
