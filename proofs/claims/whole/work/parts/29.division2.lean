theorem knuth {R S M t : Nat} (hM : 0 < M) (h1 : t * M ≤ S) (h2 : S < (t + 1) * M) (ht : 1073741824 ≤ 2 * t) (hR : R < S * 1073741824) : R / S ≤ min (R / M / t) 1073741823 ∧ min (R / M / t) 1073741823 ≤ R / S + 2 := by
  have hS : 0 < S := by
    rcases Nat.eq_zero_or_pos S with e | e
    · rw [e, Nat.zero_mul] at hR; omega
    · exact e
  have hq : R / S < 1073741824 := Nat.div_lt_of_lt_mul hR
  have htM : 0 < t * M := Nat.mul_pos (by omega) hM
  have a1 : R / S ≤ R / M / t := by
    rw [Nat.div_div_eq_div_mul, Nat.mul_comm M t]
    exact Nat.div_le_div_left h1 htM
  refine ⟨by omega, ?_⟩
  rcases Nat.lt_or_ge (R / S + 2) (min (R / M / t) 1073741823) with g | g
  · exfalso
    generalize hqv : R / S = q at *
    have g2 : q + 3 ≤ R / M / t := by omega
    have b1 : (q + 3) * (t * M) ≤ R := by
      have := Nat.mul_le_mul_right (t * M) g2
      rw [Nat.div_div_eq_div_mul, Nat.mul_comm M t] at this
      exact Nat.le_trans this (Nat.div_mul_le_self _ _)
    have b2 : R < (q + 1) * S := by
      have := Nat.lt_mul_div_succ R hS
      rw [hqv, Nat.mul_comm] at this
      exact this
    have b3 : (q + 1) * S ≤ (q + 1) * ((t + 1) * M) := Nat.mul_le_mul_left _ (Nat.le_of_lt h2)
    have b4 : (q + 3) * t * M < (q + 1) * (t + 1) * M := by
      rw [Nat.mul_assoc, Nat.mul_assoc]; omega
    have b5 : (q + 3) * t < (q + 1) * (t + 1) := Nat.lt_of_mul_lt_mul_right b4
    have b6 : (q + 3) * t = q * t + 3 * t := Nat.add_mul _ _ _
    have b7 : (q + 1) * (t + 1) = q * t + t + q + 1 := by
      rw [Nat.add_mul, Nat.mul_add]; omega
    generalize q * t = z at *
    omega
  · exact g
section DV2
variable {l : Launch} {D : va_G} {ca : Nat → ClassId}
theorem c_Dv_nextDigit {m : jm_M} {ad V : Nat → Nat} {R a : Nat} (S : SST m ad) (hV : WVx m ad 115 V) (hrow : m.2.2.1 (ad 331) = wr R) (hR : R < wB ^ 13) (hs1 : 1 ≤ wu (V 116)) (ht : 1073741824 ≤ 2 * wl (V 116) (wu (V 116) - 1)) (ha : a + wu (V 116) ≤ 13) (hR1 : R / wB ^ a < V 116 * wB) : jm_C l D ca n_Dv_nextDigit [.ref (ad 4), .int (nI a)] m 0 0 (fun v m' => v = some (.int (nI (R / wB ^ a / V 116))) ∧ m' = uA m (ad 331) (wr (R % wB ^ a + R / wB ^ a % V 116 * wB ^ a))) := by
  refine jm_C_of (cd := cd_Dv_nextDigit) (ini := false) (by decide +kernel) ok_Dv_nextDigit (fun h => by cases h) (Nat.le_of_ble_eq_true rfl) ?_
  intro X0 hX
  have od : jm_ok m (ad 4) 0 := S.ok 4 (Or.inl (by decide))
  have rs : m.2.2.2.2 (ad 4) 2 = some (ad 332) := S.2.2.1 (4, 2, 332) (by decide)
  have rr : m.2.2.2.2 (ad 4) 1 = some (ad 330) := S.2.2.1 (4, 1, 330) (by decide)
  have Ts := S.wh 116 (by decide)
  have Tr := S.wh 115 (by decide)
  have Vs := hV 116 (by decide) (by decide)
  have hne1 : ad 331 ≠ ad 333 := S.ne (i := 331) (j := 333) (Or.inr (by decide)) (Or.inr (by decide)) (by decide)
  have hne2 : ad 331 ≠ ad 332 := S.ne (i := 331) (j := 332) (Or.inr (by decide)) (Or.inr (by decide)) (by decide)
  have hu1 := wu_lt Vs.1
  have hu2 := wu_le (V 116)
  have key0 := c_Dv_guessDigit (l := l) (D := D) (ca := ca) (a := a) S hV hrow hR hs1 (by omega) ha (by
    refine Nat.lt_of_lt_of_le hR1 ?_
    rw [Nat.pow_succ]
    exact Nat.mul_le_mul_right _ (Nat.le_of_lt hu1))
  generalize hS : V 116 = Sv at *
  generalize hu : wu Sv = u at *
  -- the divisor's top limb
  have hu1' : Sv < wB ^ ((u - 1) + 1) := by rw [show u - 1 + 1 = u by omega]; exact hu1
  have htp := wl_top hu1'
  generalize htv : wl Sv (u - 1) = t at *
  have hk := knuth (R := R / wB ^ a) (S := Sv) (M := wB ^ (u - 1)) (t := t) (wB_pos _) (by rw [htp]; exact Nat.div_mul_le_self _ _) (by
    rw [htp, Nat.mul_comm]
    exact Nat.lt_mul_div_succ _ (wB_pos _)) ht hR1
  generalize hg : min (R / wB ^ a / wB ^ (u - 1) / t) 1073741823 = gd at *
  have hgB : gd < wB := by
    have : gd ≤ 1073741823 := by omega
    show gd < 1073741824
    omega
  generalize hn : min (u + 1) (13 - a) = n
  generalize hR1v : R / wB ^ a = R1 at *
  have hRn : R1 < wB ^ n := by
    rcases Nat.lt_or_ge (u + 1) (13 - a) with g | g
    · rw [show n = u + 1 by omega, Nat.pow_succ]
      exact Nat.lt_of_lt_of_le hR1 (Nat.mul_le_mul_right _ (Nat.le_of_lt hu1))
    · rw [show n = 13 - a by omega, ← hR1v]
      refine Nat.div_lt_of_lt_mul ?_
      rw [← Nat.pow_add, show a + (13 - a) = 13 by omega]
      exact hR
  have hSpos : 0 < Sv := by
    rcases Nat.eq_zero_or_pos Sv with e | e
    · rw [e, Nat.zero_mul] at hR1; omega
    · exact e
  have hdm := Nat.div_add_mod R1 Sv
  have hmod := Nat.mod_lt R1 hSpos
  generalize hq : R1 / Sv = q at *
  generalize hr : R1 % Sv = r at *
  have fin : X0 58 [(2, .int (nI q))] [] (uA m (ad 331) (wr (R % wB ^ a + r * wB ^ a))) 0 0 := by
    refine jm_run hX [] 10 ?_
    exact ⟨Nat.le_refl _, Nat.le_refl _, trivial, rfl, rfl⟩
  have hexit : ∀ dg W, W + dg * Sv = R1 + 0 * wB ^ n → q ≤ dg → dg = q ∧ W = r := by
    intro dg W hW hqd
    rw [Nat.zero_mul, Nat.add_zero] at hW
    have h1 : dg ≤ q := by
      rcases Nat.lt_or_ge q dg with g | g
      · have := Nat.mul_le_mul_right Sv (show q + 1 ≤ dg from g)
        rw [Nat.add_mul, Nat.mul_comm q Sv] at this
        omega
      · exact g
    have e : dg = q := by omega
    subst e
    rw [Nat.mul_comm] at hW
    exact ⟨rfl, by omega⟩
  have hlt13 : ∀ W, W < wB ^ n → R % wB ^ a + W * wB ^ a < wB ^ 13 := by
    intro W hW
    have h1 : R % wB ^ a < wB ^ a := Nat.mod_lt _ (wB_pos a)
    have h2 : (W + 1) * wB ^ a ≤ wB ^ n * wB ^ a := Nat.mul_le_mul_right _ hW
    rw [← Nat.pow_add, Nat.add_mul, Nat.one_mul] at h2
    have h3 : wB ^ (n + a) ≤ wB ^ 13 := Nat.pow_le_pow_right (by decide) (by omega)
    omega
  have loop : ∀ (e dg ow W : Nat), e ≤ 2 → W + dg * Sv = R1 + ow * wB ^ n → W < wB ^ n → ow ≤ 1073741824 → q ≤ dg → dg ≤ q + e → dg < 1073741824 → X0 24 [(0, .ref (ad 4)), (1, .int (nI a)), (2, .int (nI dg)), (3, .int (nI ow)), (4, .int (nI (2 - e)))] [] (uA m (ad 331) (wr (R % wB ^ a + W * wB ^ a))) 0 0 := by
    intro e
    induction e with
    | zero =>
      intro dg ow W _ hW hWn how hqd hde hdB
      have edq : dg = q := by omega
      have how0 : ow = 0 := by
        rcases Nat.eq_zero_or_pos ow with g | g
        · exact g
        · have h5 : 1 * wB ^ n ≤ ow * wB ^ n := Nat.mul_le_mul_right _ g
          rw [edq, Nat.mul_comm q Sv] at hW
          omega
      rw [how0] at hW
      obtain ⟨e1, e2⟩ := hexit dg W hW hqd
      rw [e1, e2]
      refine jm_run hX [(58, [2])] 10 ?_
      exact And.intro (fun _ => fin) (fun g => absurd (by decide) g)
    | succ e ih =>
      intro dg ow W he hW hWn how hqd hde hdB
      refine jm_run hX [(24, [0, 1, 2, 3, 4]), (58, [2])] 40 ?_
      refine And.intro (fun g => absurd g (nI_ge (show 2 - (e + 1) < 2 by omega) (by decide))) (fun _ => ?_)
      refine And.intro (fun g => ?_) (fun g => ?_)
      · have g : nI ow = 0 := g
        rw [← nI_0, nI_eq (by omega) (by omega)] at g
        rw [g] at hW
        obtain ⟨e1, e2⟩ := hexit dg W hW hqd
        rw [e1, e2]
        exact fin
      · have g : ¬ nI ow = 0 := g
        rw [← nI_0, nI_eq (by omega) (by omega)] at g
        have hdq : q + 1 ≤ dg := by
          rcases Nat.lt_or_ge q dg with g2 | g2
          · exact g2
          · exfalso
            have edq : dg = q := by omega
            have h5 : 1 * wB ^ n ≤ ow * wB ^ n := Nat.mul_le_mul_right _ (by omega)
            rw [edq, Nat.mul_comm q Sv] at hW
            omega
        have hRc := hlt13 W hWn
        have key := c_Wh_addAt (l := l) (D := D) (ca := ca) (m := uA m (ad 331) (wr (R % wB ^ a + W * wB ^ a))) (h := ad 330) (p := ad 331) (o := ad 332) (q := ad 333) (R := R % wB ^ a + W * wB ^ a) (S := Sv) (a := a) (n := n) Tr (va_up_self _ _ _) hRc Ts (by
          refine ⟨Vs.1, ?_, ?_⟩
          · show va_up m.2.2.1 (ad 331) _ (ad 333) = _
            rw [va_up_ne _ _ (Ne.symm hne1)]; exact Vs.2.1
          · show va_up m.2.2.1 (ad 331) _ (ad 332) 1 = _
            rw [va_up_ne _ _ (Ne.symm hne2)]; exact Vs.2.2) hne1 hne2 (by rw [hu]; exact hn.symm) (by rw [hu]; exact ha) (by rw [wj_div]; exact hWn)
        rw [wj_div, uA_uA, Nat.add_mul_mod_self_right, Nat.mod_mod] at key
        refine And.intro od ⟨some (ad 330), rr, ?_⟩
        refine And.intro od ⟨some (ad 332), rs, ?_⟩
        refine And.intro Tr.1 (And.intro (Nat.le_of_ble_eq_true rfl) (And.intro (Nat.le_of_ble_eq_true rfl) ⟨0, 0, _, Nat.le_refl _, Nat.le_refl _, key, fun v m' hq => ?_⟩))
        obtain ⟨rfl, rfl⟩ := hq
        have hWS := Nat.div_add_mod (W + Sv) (wB ^ n)
        have hWSm := Nat.mod_lt (W + Sv) (wB_pos n)
        have hSn : Sv < wB ^ n := Nat.lt_of_lt_of_le hu1 (Nat.pow_le_pow_right (by decide) (by omega))
        have hc1 : (W + Sv) / wB ^ n ≤ 1 := by
          have := Nat.div_lt_of_lt_mul (show W + Sv < wB ^ n * 2 by omega)
          omega
        generalize (W + Sv) / wB ^ n = cc at *
        generalize (W + Sv) % wB ^ n = W' at *
        have k := ih (dg - 1) (ow - cc) W' (by omega) (by
          have h6 : ow * wB ^ n = (ow - cc) * wB ^ n + cc * wB ^ n := by
            rw [← Nat.add_mul]; congr 1; omega
          have h7 : dg * Sv = (dg - 1) * Sv + Sv := by
            rw [show dg = (dg - 1) + 1 by omega, Nat.add_mul, Nat.one_mul, Nat.add_sub_cancel]
          rw [Nat.mul_comm (wB ^ n) cc] at hWS
          omega) hWSm (by omega) (by omega) (by omega) (by omega)
        have e7 : nI (dg - 1) = nI dg + (-1) := (nI_less (k := 1) (show 1 ≤ dg by omega)).symm
        have e8 : nI (2 - e) = nI (2 - (e + 1)) + 1 := by rw [nI_1]; congr 1; omega
        rw [← pk_sub (show cc ≤ ow by omega), e7, e8] at k
        exact k
  have key1 := c_Wh_subtractTimes (l := l) (D := D) (ca := ca) (m := m) (h := ad 330) (p := ad 331) (o := ad 332) (q := ad 333) (R := R) (S := Sv) (F := gd) (a := a) (n := n) Tr hrow hR Ts Vs hne1 hne2 hgB (by rw [hu]; exact hn.symm) (by rw [hu]; exact ha) (by rw [hR1v]; exact hRn)
  refine jm_run hX [(24, [0, 1, 2, 3, 4])] 40 ?_
  refine And.intro od (And.intro (Nat.le_of_ble_eq_true rfl) (And.intro (Nat.le_of_ble_eq_true rfl) ⟨0, 0, _, Nat.le_refl _, Nat.le_refl _, key0, fun v m' hq => ?_⟩))
  obtain ⟨rfl, rfl⟩ := hq
  refine And.intro od ⟨some (ad 330), rr, ?_⟩
  refine And.intro od ⟨some (ad 332), rs, ?_⟩
  have e6 : (nI gd).toInt64 = lN gd := nI_l (Nat.lt_trans hgB (by decide))
  rw [← e6] at key1
  refine And.intro Tr.1 (And.intro (Nat.le_of_ble_eq_true rfl) (And.intro (Nat.le_of_ble_eq_true rfl) ⟨0, 0, _, Nat.le_refl _, Nat.le_refl _, key1, fun v m2 hq => ?_⟩))
  obtain ⟨W, ow, hW, hWn, how, rfl, rfl⟩ := hq
  rw [hR1v] at hW
  exact loop 2 gd ow W (Nat.le_refl _) hW hWn how hk.1 hk.2 hgB
end DV2
