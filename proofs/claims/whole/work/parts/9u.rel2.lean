section RELS2
variable {d : LD} {R : RD}
theorem REL.share (h : ROK R) (e : REL d R) {x y z a b : Nat} (hx : x < R.M) (hy : y < R.K) (hz : z + 1 < R.O x) (hu : rU a b ≤ d.2.2.2.1 (3 * (x * R.K + y) + (R.O x - 1)) + d.2.2.2.1 (3 * (x * R.K + y) + z)) : REL (dShare d x y z (rU a b)) (rShare R (2 * (3 * x + y) + z) a b) := by
  obtain ⟨eK, eM, eP⟩ := e.k
  have hK := h.1
  have hM := h.2.1
  have hou := h.2.2.2.1 x hx
  have h2 := sh_two h e hx hy hz
  have hs := sh_le h (j := x) (k := y) (by omega) (by omega)
  have hrow := row_lt2 hx hy
  have eO : d.2.1 x = R.O x := e.2.1 x hx
  obtain ⟨e1, e2, e3, e4, e5, e6, e7, e8, e9⟩ := e
  have hz2 : z < 2 := by omega
  -- the class's shares after
  have cl : (dShare d x y z (rU a b)).2.2.2.1 = va_up (va_up d.2.2.2.1 (3 * (x * R.K + y) + z) (rU a b)) (3 * (x * R.K + y) + (R.O x - 1)) (d.2.2.2.1 (3 * (x * R.K + y) + (R.O x - 1)) + d.2.2.2.1 (3 * (x * R.K + y) + z) - rU a b) := by
    show va_up (va_up d.2.2.2.1 (3 * (x * d.1.1 + y) + z) (rU a b)) (3 * (x * d.1.1 + y) + (d.2.1 x - 1)) _ = _
    rw [eK, eO]
  refine ⟨e1, e2, e3, fun j k o hj hk ho => ?_, e5, fun r hr hr9 => ⟨fun o ho => ?_, (e6 r hr hr9).2⟩, fun r hr hr9 => ⟨?_, (e7 r hr hr9).2⟩, fun j k hj hk => ?_, e9⟩
  · have hk : k < R.K := hk
    have ho : o < R.O j := ho
    have hj : j < R.M := hj
    have hoj := h.2.2.2.1 j hj
    show (dShare d x y z (rU a b)).2.2.2.1 (3 * (j * R.K + k) + o) = shU (rShare R (2 * (3 * x + y) + z) a b) j k o
    rw [cl]
    have eA : (rShare R (2 * (3 * x + y) + z) a b).A = va_up R.A (2 * (3 * x + y) + z) a := rfl
    have eB : (rShare R (2 * (3 * x + y) + z) a b).B = va_up R.B (2 * (3 * x + y) + z) b := rfl
    have eOO : (rShare R (2 * (3 * x + y) + z) a b).O = R.O := rfl
    unfold shU
    rw [eA, eB, eOO]
    by_cases w : j = x ∧ k = y
    · obtain ⟨rfl, rfl⟩ := w
      have v4 := e4 j k o hj hk ho
      unfold shU at v4
      unfold oth at h2
      rcases (show z = 0 ∨ z = 1 by omega) with q | q
      · subst q
        rw [show va_up R.A (2 * (3 * j + k) + 0) a (2 * (3 * j + k)) = a from va_up_self _ _ _, show va_up R.B (2 * (3 * j + k) + 0) b (2 * (3 * j + k)) = b from va_up_self _ _ _, va_up_ne _ _ (show 2 * (3 * j + k) + 1 ≠ 2 * (3 * j + k) + 0 by omega), va_up_ne _ _ (show 2 * (3 * j + k) + 1 ≠ 2 * (3 * j + k) + 0 by omega)]
        rw [show 2 * (3 * j + k) + (1 - 0) = 2 * (3 * j + k) + 1 by omega] at h2
        by_cases w1 : o + 1 = R.O j
        · rw [show 3 * (j * R.K + k) + o = 3 * (j * R.K + k) + (R.O j - 1) by omega, va_up_self, if_pos w1, if_pos (by omega)]
          by_cases w3 : 3 ≤ R.O j
          · rw [if_pos w3]; omega
          · rw [if_neg w3]
            have a1 := (e8 j k hj (by omega)).2 (by omega)
            rw [a1, rU0] at h2
            omega
        · rw [va_up_ne _ _ (show 3 * (j * R.K + k) + o ≠ 3 * (j * R.K + k) + (R.O j - 1) by omega), if_neg w1]
          rw [if_neg w1] at v4
          by_cases w3 : o = 0
          · subst w3; rw [va_up_self, if_pos rfl]
          · rw [va_up_ne _ _ (by omega), if_neg w3, v4, if_neg w3]
      · subst q
        have hO3 : R.O j = 3 := by omega
        rw [va_up_self, va_up_self, va_up_ne _ _ (show 2 * (3 * j + k) ≠ 2 * (3 * j + k) + 1 by omega), va_up_ne _ _ (show 2 * (3 * j + k) ≠ 2 * (3 * j + k) + 1 by omega)]
        rw [show 2 * (3 * j + k) + (1 - 1) = 2 * (3 * j + k) by omega] at h2
        by_cases w1 : o + 1 = R.O j
        · rw [show 3 * (j * R.K + k) + o = 3 * (j * R.K + k) + (R.O j - 1) by omega, va_up_self, if_pos w1, if_pos (by omega), if_pos (by omega)]
          omega
        · rw [va_up_ne _ _ (show 3 * (j * R.K + k) + o ≠ 3 * (j * R.K + k) + (R.O j - 1) by omega), if_neg w1]
          rw [if_neg w1] at v4
          by_cases w3 : o = 0
          · rw [va_up_ne _ _ (by omega), if_pos w3, v4, if_pos w3]
          · rw [if_neg w3, show o = 1 by omega, va_up_self]
    · have n1 : j * R.K + k ≠ x * R.K + y := fun q => w (row_ij hk hy q)
      rw [va_up_ne _ _ (by omega), va_up_ne _ _ (by omega), e4 j k o hj hk ho]
      have n2 : 3 * j + k ≠ 3 * x + y := fun q => w (by omega)
      rw [va_up_ne R.A a (show 2 * (3 * j + k) ≠ 2 * (3 * x + y) + z by omega), va_up_ne R.B b (show 2 * (3 * j + k) ≠ 2 * (3 * x + y) + z by omega), va_up_ne R.A a (show 2 * (3 * j + k) + 1 ≠ 2 * (3 * x + y) + z by omega), va_up_ne R.B b (show 2 * (3 * j + k) + 1 ≠ 2 * (3 * x + y) + z by omega)]
      rfl
  · have hr : R.M * R.K ≤ r := hr
    rw [cl, va_up_ne _ _ (by omega), va_up_ne _ _ (by omega)]
    exact (e6 r hr hr9).1 o ho
  · have hr : 3 * R.M ≤ r := hr
    show va_up R.A (2 * (3 * x + y) + z) a (2 * r) = 0 ∧ va_up R.A (2 * (3 * x + y) + z) a (2 * r + 1) = 0 ∧ va_up R.B (2 * (3 * x + y) + z) b (2 * r) = 1 ∧ va_up R.B (2 * (3 * x + y) + z) b (2 * r + 1) = 1
    rw [va_up_ne _ _ (by omega), va_up_ne _ _ (by omega), va_up_ne _ _ (by omega), va_up_ne _ _ (by omega)]
    exact (e7 r hr hr9).1
  · have hj : j < R.M := hj
    show (R.O j = 1 → va_up R.A (2 * (3 * x + y) + z) a (2 * (3 * j + k)) = 0) ∧ (R.O j ≤ 2 → va_up R.A (2 * (3 * x + y) + z) a (2 * (3 * j + k) + 1) = 0)
    have h8 := e8 j k hj hk
    refine ⟨fun q => ?_, fun q => ?_⟩
    · rw [va_up_ne _ _ (fun v => by
        have : 3 * j + k = 3 * x + y := by omega
        have : j = x := by omega
        subst this
        omega)]
      exact h8.1 q
    · rw [va_up_ne _ _ (fun v => by
        have : 3 * j + k = 3 * x + y := by omega
        have : j = x := by omega
        subst this
        omega)]
      exact h8.2 q
/-- class and reference refuse the same shares -/
theorem shT_x (h : ROK R) (e : REL d R) (x y z : Int32) (a b : Int64) : shT d x y z a b ↔ shR R x y z a b := by
  obtain ⟨eK, eM, eP⟩ := e.k
  unfold shT
  constructor
  · rintro ⟨⟨hx, hy, hz0, hz1⟩, hs, hu⟩
    rw [eM] at hx
    rw [eK] at hy hu
    have hxn : x.toInt.toNat < R.M := by omega
    have eO : d.2.1 x.toInt.toNat = R.O x.toInt.toNat := e.2.1 _ hxn
    rw [eO] at hz1 hu
    have hs2 := hs
    unfold isSh at hs2
    refine ⟨⟨⟨hx, hz0, by omega⟩, hy, hz1⟩, hs, ?_⟩
    exact (fit_c h e hxn (by omega) (by omega) (by omega)).mpr hu
  · rintro ⟨⟨⟨hx, hz0, hz2⟩, hy, hz1⟩, hs, hf⟩
    have hxn : x.toInt.toNat < R.M := by omega
    have eO : d.2.1 x.toInt.toNat = R.O x.toInt.toNat := e.2.1 _ hxn
    have hs2 := hs
    unfold isSh at hs2
    rw [eM, eK, eO]
    exact ⟨⟨hx, hy, hz0, hz1⟩, hs, (fit_c h e hxn (by omega) (by omega) (by omega)).mp hf⟩
theorem REL.sum (h : ROK R) (e : REL d R) : shSum d := fun j k o hj hk ho => by
  obtain ⟨eK, eM, eP⟩ := e.k
  have hjM : j < R.M := by omega
  have eO : d.2.1 j = R.O j := e.2.1 j hjM
  have := sh_two h e hjM (show k < R.K by omega) (show o + 1 < R.O j by omega)
  rw [eK, eO]
  omega
/-- a new object on both sides -/
def rNew (K : Nat) : RD := ((K, 0, 0), fun _ => 0, fun _ => -1, fun _ => 0, fun _ => 1, fun _ => 0, fun _ => 0, fun _ => 1, fun _ => 0)
theorem rNew_ok {K : Nat} (hK : 1 ≤ K ∧ K ≤ 3) : ROK (rNew K) :=
  ⟨hK, Nat.zero_le 3, Nat.zero_le 3, fun j hj => absurd hj (Nat.not_lt_zero j), fun i _ => Or.inr (Or.inl (show ((-1 : Int32)).toInt = -1 by decide)), fun q _ => ⟨⟨Nat.le_refl 1, by show 1 ≤ 12; decide⟩, Nat.zero_le 1⟩, fun r _ => by show 0 * 1 + 0 * 1 ≤ 1 * 1; decide, fun r _ => ⟨by show 0 < K; omega, ⟨Nat.le_refl 1, by show 1 ≤ 12; decide⟩, Nat.zero_le 1⟩, fun j k _ _ q => absurd q (Nat.lt_irrefl 0), fun r _ => Nat.zero_le _⟩
theorem rNew_rel {K : Nat} {J : Nat → Int32} (hJ : ∀ i, i < 9 → J i = -1) : REL (dNew K J) (rNew K) :=
  ⟨rfl, fun j hj => absurd hj (Nat.not_lt_zero j), fun i hi => hJ i hi, fun j k o hj => absurd hj (Nat.not_lt_zero j), fun j k hj => absurd hj (Nat.not_lt_zero j), fun r _ _ => ⟨fun _ _ => rfl, rfl, rfl, rfl⟩, fun r _ _ => ⟨⟨rfl, rfl, rfl, rfl⟩, rfl, rfl, rfl, rfl⟩, fun j k hj => absurd hj (Nat.not_lt_zero j), fun j k _ _ _ => rfl⟩
end RELS2
