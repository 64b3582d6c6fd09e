/-! The calls that ask, of both. -/
theorem overR_c {B B' : Nat → Bool} {x : Int32} : ∀ {e j f : Nat}, (∀ i, j ≤ i → i < j + e → B i = B' i) → overR B x e j f = overR B' x e j f
  | 0, _, _, _ => rfl
  | e + 1, j, f, h => by
    unfold overR
    rw [h j (Nat.le_refl _) (by omega), overR_c (e := e) (j := j + 1) (f := f + 1) (fun i h1 h2 => h i (by omega) (by omega)), overR_c (e := e) (j := j + 1) (f := f) (fun i h1 h2 => h i (by omega) (by omega))]
theorem x_lt {a b a' b' c : Nat} (hb : 0 < b) (hb' : 0 < b') (h : a * b' = a' * b) : a < c * b ↔ a' < c * b' := by
  rw [← Nat.mul_lt_mul_right hb' (b := a), h, show c * b * b' = c * b' * b by rw [Nat.mul_assoc, Nat.mul_comm b b', ← Nat.mul_assoc], Nat.mul_lt_mul_right hb]
theorem x_gt {a b a' b' c : Nat} (hb : 0 < b) (hb' : 0 < b') (h : a * b' = a' * b) : c * b < a ↔ c * b' < a' := by
  rw [← Nat.mul_lt_mul_right hb' (b := c * b) (c := a), h, show c * b * b' = c * b' * b by rw [Nat.mul_assoc, Nat.mul_comm b b', ← Nat.mul_assoc], Nat.mul_lt_mul_right hb]
section JT2
variable {l : Launch} {D : va_G} {ca : Nat → ClassId} {m : jm_M} {ad rd : Nat → Nat} {n : Nat}
theorem CI.lk {c : CSt} (h : CI m ad c) (hk : c.2.2.2.2.2.1 = true) : LOK c.2.2.2.2.2.2 ∧ ∃ F V, svN c.2.2.2.2.2.2 F V := by
  obtain ⟨V, hW, hK⟩ := h.2.2.2.2.2.2.2.2.2
  obtain ⟨k1, k2, k3, k4, F, hF⟩ := hK hk
  exact ⟨k4, F, V, hF⟩
theorem TIE.std {c : CSt} {A : RSt} (hT : TIE c A) (hC : CI m ad c) (hM : MI m rd A n) (hk : A.2.2.2.2.2.1 = true) : STD A.2.1 := by
  have hk' : c.2.2.2.2.2.1 = true := hT.2.2.2.1.trans hk
  obtain ⟨h1, F, V, h2⟩ := hC.lk hk'
  exact h2.std h1 hM.r1 (hT.2.2.2.2 hk')
theorem slv_two {c : CSt} {A : RSt} {ma mb mc md : jm_M} {v v2 : Option Value} (hO : LOK c.1) (hR : ROK A.1) (hT : TIE c A) (hs : SEP ad rd) (q : slvQ ad ma c v mb) (p : rslvQ rd mc A n v2 md) (hF : FMa rd mb md) : v2 = v ∧ JS md ad rd (n + 1) := by
  obtain ⟨eK, eM, eP⟩ := hT.1.k
  rcases q with ⟨hv, q1, q2, q3⟩ | ⟨j, hj, hv, q1, q2, q3, q4⟩
  · rcases p with ⟨hv2, p1, p2, p3⟩ | ⟨i, hi, hv2, p1, p2, p3, p4⟩
    · exact ⟨hv2.trans hv.symm, hs, _, _, q3.fm hs hF, p3, hT.1, hT.2.1, rfl, rfl, fun _ => hT.1⟩
    · exact absurd ((stk_same hO hR hT.1 hi).mpr p1) (q1 i (by omega))
  · rcases p with ⟨hv2, p1, p2, p3⟩ | ⟨i, hi, hv2, p1, p2, p3, p4⟩
    · exact absurd ((stk_same hO hR hT.1 (by omega)).mp q1) (p1 j (by omega))
    · have e : i = j := by
        rcases Nat.lt_trichotomy i j with w | w | w
        · exact absurd ((stk_same hO hR hT.1 hi).mpr p1) (q2 i w)
        · exact w
        · exact absurd ((stk_same hO hR hT.1 (by omega)).mp q1) (p2 j w)
      subst e
      exact ⟨hv2.trans hv.symm, hs, _, _, q4.fm hs hF, p4, hT.1, hT.2.1, rfl, rfl, fun w => by cases w⟩
theorem slvQ.r {c : CSt} {m' : jm_M} {v : Option Value} (q : slvQ ad m c v m') : (∃ r, v = some (.int r)) ∧ FRa ad m m' := by
  rcases q with ⟨hv, q1, q2, q3⟩ | ⟨j, hj, hv, q1, q2, q3, q4⟩
  · exact ⟨⟨_, hv⟩, q2⟩
  · exact ⟨⟨_, hv⟩, q3⟩
theorem rslvQ.r {A : RSt} {m' : jm_M} {v : Option Value} (q : rslvQ rd m A n v m') : FMa rd m m' := by
  rcases q with ⟨hv, q1, q2, q3⟩ | ⟨j, hj, hv, q1, q2, q3, q4⟩
  · exact q2
  · exact q3
theorem j_solve (h : JS m ad rd n) : jC l D ca Value.int n_Sh_solve n_Mo_solve [] m ad rd n := by
  obtain ⟨hs, c, A, hC, hM, hT⟩ := h
  have hR := hM.r0
  have hO := hC.2.2.1
  refine jm_C_mo (c_Sh_solve hC (LB_of hO (hT.1.shs hR)) (fun hst F hA => FG_of hO hR hT.1 hst hA)) (fun v m1 hq => ?_)
  obtain ⟨⟨r, hv⟩, hF⟩ := hq.r
  refine ⟨_, hv, (hM.fr hs hF).o6, jm_C_mo (c_Mo_solve (hM.fr hs hF)) (fun v2 m2 hq2 => ?_)⟩
  have := slv_two hO hR hT hs hq hq2 hq2.r
  exact ⟨this.1.trans hv, this.2.mono (by omega)⟩
theorem j_change (h : JS m ad rd n) (x y z : Int32) (a b : Int64) : jC l D ca Value.int n_Sh_change n_Mo_change [.int x, .int y, .int z, .long a, .long b] m ad rd n := by
  obtain ⟨hs, c, A, hC, hM, hT⟩ := h
  have hR := hM.r0
  have hO := hC.2.2.1
  have iff := shT_x hR hT.1 x y z a b
  have hsum := hT.1.sum hR
  obtain ⟨eK, eM, eP⟩ := hT.1.k
  have hlok : shT c.1 x y z a b → LOK (dShare c.1 x.toInt.toNat y.toInt.toNat z.toInt.toNat (unS a b)) := fun w => by
    have := hsum x.toInt.toNat y.toInt.toNat z.toInt.toNat (by have := w.1.1; omega) (by have := w.1.2.1; omega) (by have := w.1.2.2; omega)
    exact hO.shr (unS_le w.2.1) (by omega)
  have hrok : shR A.1 x y z a b → ROK (rShare A.1 (2 * (3 * x.toInt.toNat + y.toInt.toNat) + z.toInt.toNat) a.toInt.toNat b.toInt.toNat) := fun w => by
    have w1 := w.1.1.1
    have w2 := w.1.2.1
    have w3 := w.1.2.2
    have w4 := w.2.1
    unfold isSh at w4
    have b1 := hR.1
    have b2 := hR.2.1
    have b3 := hR.2.2.2.1 x.toInt.toNat (by omega)
    exact hR.share (by omega) (by omega) (by omega) (by omega) w.2.2
  refine jm_C_mo (c_Sh_change hC hsum x y z a b (fun w => LB_of (hlok w) ((hT.1.tell hR w).shs (hrok (iff.mp w)))) (fun w hst F hA => FG_of (hlok w) (hrok (iff.mp w)) (hT.1.tell hR w) hst hA)) (fun v m1 hq => ?_)
  rcases hq with ⟨hv, q1, ma, v1, q3, q4⟩ | ⟨hv, q1, q2⟩
  · refine ⟨_, hv, (hM.fr hs (q3.tr q4.r.2)).o6, jm_C_mo (c_Mo_change (hM.fr hs (q3.tr q4.r.2)) x y z a b) (fun v2 m2 hq2 => ?_)⟩
    rcases hq2 with ⟨hv2, p1, p2, mc, v3, p3⟩ | ⟨hv2, p1, p2⟩
    · have := slv_two (hlok q1) (hrok (iff.mp q1)) (hT.told (hT.1.tell hR q1)) hs q4 p3 p2
      exact ⟨hv2, this.2.mono (by omega)⟩
    · exact absurd (iff.mp q1) p1
  · rw [q2]
    refine ⟨_, hv, hM.o6, jm_C_mo (c_Mo_change hM x y z a b) (fun v2 m2 hq2 => ?_)⟩
    rcases hq2 with ⟨hv2, p1, p2⟩ | ⟨hv2, p1, p2⟩
    · exact absurd (iff.mpr p1) q1
    · rw [p2]
      exact ⟨hv2, hs, c, A, hC, hM.mono (by omega), hT⟩
theorem routC_x {c : CSt} {A : RSt} (hT : TIE c A) (x y z : Int32) : (c.2.2.2.2.2.1 = true ∧ (0 ≤ x.toInt ∧ x.toInt < (c.2.2.2.2.2.2.1.2.2 : Int)) ∧ (0 ≤ y.toInt ∧ y.toInt < (c.1.1.1 : Int)) ∧ 0 ≤ z.toInt ∧ z.toInt ≤ 6) ↔ routC A x y z := by
  unfold routC
  rw [← hT.2.2.2.1]
  refine and_congr_right (fun hk => ?_)
  rw [(hT.2.2.2.2 hk).k.2.2, hT.1.k.1]
theorem j_out (h : JS m ad rd n) (hn : n + 15 < 2 ^ 31) (x y z : Int32) : jC l D ca Value.long n_Sh_out n_Mo_out [.int x, .int y, .int z] m ad rd n := by
  obtain ⟨hs, c, A, hC, hM, hT⟩ := h
  have iff := routC_x hT x y z
  refine jm_C_mo (c_Sh_out hC x y z) (fun v m1 hq => ?_)
  obtain ⟨hF, hC1, r, hv, hr⟩ := hq
  have hM1 := hM.fr hs hF
  refine ⟨_, hv, hM1.o6, jm_C_mo (c_Mo_out hM1 (by omega) (fun k => hT.std hC1 hM1 k) x y z) (fun v2 m2 hq2 => ?_)⟩
  obtain ⟨pF, pM, pv⟩ := hq2
  refine ⟨?_, hs, c, A, hC1.fm hs pF, pM.mono (by omega), hT⟩
  unfold outQ at hr
  rcases pv with ⟨p1, p2⟩ | ⟨p1, p2⟩
  · rw [if_pos (iff.mpr p1)] at hr
    obtain ⟨F, V, s, er⟩ := hr
    have hk : c.2.2.2.2.2.1 = true := (iff.mpr p1).1
    have e := hT.2.2.2.2 hk
    have hOs := (hC.lk hk).1
    have ek : c.1.1.1 = A.2.1.K := by rw [hT.1.k.1, hM.k01]
    have hx : x.toInt.toNat < A.2.1.P := by have := p1.2.1; omega
    have hy : y.toInt.toNat < A.2.1.K := by have := p1.2.2.1; rw [hM.k01]; omega
    have ey : y = nI y.toInt.toNat := i_of p1.2.2.1.1
    rw [p2, er]
    unfold amtA
    rw [ek, ppart_x (s.dp hOs) ((s.std hOs hM.r1 e).d (rfd A.2.1)).2 (s.o hOs hM.r1 e hx hy) z.toInt.toNat, ← ey]
  · rw [if_neg (fun q => p1 (iff.mp q))] at hr
    rw [p2, hr]
theorem j_purity (h : JS m ad rd n) (hn : n + 15 < 2 ^ 31) (x y z : Int32) : jC l D ca Value.long n_Sh_purity n_Mo_purity [.int x, .int y, .int z] m ad rd n := by
  obtain ⟨hs, c, A, hC, hM, hT⟩ := h
  have iff := routC_x hT x y z
  refine jm_C_mo (c_Sh_purity hC x y z) (fun v m1 hq => ?_)
  obtain ⟨hF, hC1, r, hv, hr⟩ := hq
  have hM1 := hM.fr hs hF
  refine ⟨_, hv, hM1.o6, jm_C_mo (c_Mo_purity hM1 (by omega) (fun k => hT.std hC1 hM1 k) x y z) (fun v2 m2 hq2 => ?_)⟩
  obtain ⟨pF, pM, pv⟩ := hq2
  refine ⟨?_, hs, c, A, hC1.fm hs pF, pM.mono (by omega), hT⟩
  unfold purityQ at hr
  rcases pv with ⟨p1, p2⟩ | ⟨p1, p2⟩
  · rw [if_pos (iff.mpr p1)] at hr
    obtain ⟨F, V, s, er⟩ := hr
    have hk : c.2.2.2.2.2.1 = true := (iff.mpr p1).1
    have e := hT.2.2.2.2 hk
    have hOs := (hC.lk hk).1
    have ek : c.1.1.1 = A.2.1.K := by rw [hT.1.k.1, hM.k01]
    have hx : x.toInt.toNat < A.2.1.P := by have := p1.2.1; omega
    have hy : y.toInt.toNat < A.2.1.K := by have := p1.2.2.1; rw [hM.k01]; omega
    have ey : y = nI y.toInt.toNat := i_of p1.2.2.1.1
    rw [p2, er, ek, s.pu hOs hM.r1 e hx hy z.toInt.toNat, ← ey]
  · rw [if_neg (fun q => p1 (iff.mp q))] at hr
    rw [p2, hr]
theorem j_load (h : JS m ad rd n) (hn : n + 15 < 2 ^ 31) (x z : Int32) : jC l D ca Value.long n_Sh_load n_Mo_load [.int x, .int z] m ad rd n := by
  obtain ⟨hs, c, A, hC, hM, hT⟩ := h
  have iff : (c.2.2.2.2.2.1 = true ∧ (0 ≤ x.toInt ∧ x.toInt < (c.2.2.2.2.2.2.1.2.1 : Int)) ∧ 0 ≤ z.toInt ∧ z.toInt ≤ 6) ↔ rloadC A x z := by
    unfold rloadC
    rw [← hT.2.2.2.1]
    refine and_congr_right (fun hk => ?_)
    rw [(hT.2.2.2.2 hk).k.2.1]
  refine jm_C_mo (c_Sh_load hC x z) (fun v m1 hq => ?_)
  obtain ⟨hF, hC1, r, hv, hr⟩ := hq
  have hM1 := hM.fr hs hF
  refine ⟨_, hv, hM1.o6, jm_C_mo (c_Mo_load hM1 (by omega) (fun k => hT.std hC1 hM1 k) x z) (fun v2 m2 hq2 => ?_)⟩
  obtain ⟨pF, pM, pv⟩ := hq2
  refine ⟨?_, hs, c, A, hC1.fm hs pF, pM.mono (by omega), hT⟩
  unfold loadQ at hr
  rcases pv with ⟨p1, p2⟩ | ⟨p1, p2⟩
  · rw [if_pos (iff.mpr p1)] at hr
    obtain ⟨F, V, s, er⟩ := hr
    have hk : c.2.2.2.2.2.1 = true := (iff.mpr p1).1
    have e := hT.2.2.2.2 hk
    have hOs := (hC.lk hk).1
    have hx : x.toInt.toNat < A.2.1.M := by have := p1.2.1; omega
    rw [p2, er]
    unfold amtA
    rw [ppart_x (s.dp hOs) ((s.std hOs hM.r1 e).d (rfd A.2.1)).2 (s.l hOs hM.r1 e hx) z.toInt.toNat]
  · rw [if_neg (fun q => p1 (iff.mp q))] at hr
    rw [p2, hr]
theorem j_over (h : JS m ad rd n) (hn : n + 15 < 2 ^ 31) (x : Int32) : jC l D ca Value.int n_Sh_over n_Mo_over [.int x] m ad rd n := by
  obtain ⟨hs, c, A, hC, hM, hT⟩ := h
  have hSp : spOK c := fun i hi => by
    have a := hT.2.1 i hi
    have b := hM.2.2.2.2.1 i hi
    rw [a.2.1, a.2.2]
    exact b.2.2.2
  refine jm_C_mo (c_Sh_over hC hSp x) (fun v m1 hq => ?_)
  obtain ⟨hF, hC1, r, hv, V, hk, er⟩ := hq
  have hM1 := hM.fr hs hF
  refine ⟨_, hv, hM1.o6, jm_C_mo (c_Mo_over hM1 (by omega) (fun k => hT.std hC1 hM1 k) x) (fun v2 m2 hq2 => ?_)⟩
  obtain ⟨pF, pM, pv⟩ := hq2
  refine ⟨?_, hs, c, A, hC1.fm hs pF, pM.mono (by omega), hT⟩
  rw [pv, er]
  refine congrArg (fun q => some (Value.int q)) (overR_c (fun i _ hi => ?_))
  unfold rovK outB rovB
  rw [hT.2.2.2.1]
  cases ek : A.2.2.2.2.2.1 with
  | false => rfl
  | true =>
    have hk' : c.2.2.2.2.2.1 = true := hT.2.2.2.1.trans ek
    obtain ⟨F, s⟩ := hk hk'
    have e := hT.2.2.2.2 hk'
    have hOs := (hC.lk hk').1
    rw [e.k.2.1, (hT.2.1 i (by omega)).1, (hT.2.1 i (by omega)).2.1, (hT.2.1 i (by omega)).2.2]
    by_cases hi2 : i < A.2.1.M
    · have dp := s.dp hOs
      have rp := ((s.std hOs hM.r1 e).d (rfd A.2.1)).2
      have cr := s.l hOs hM.r1 e hi2
      rw [decide_eq_decide.mpr (x_lt dp rp cr), decide_eq_decide.mpr (x_gt dp rp cr)]
    · rw [decide_eq_false hi2]; rfl
theorem j_slope (h : JS m ad rd n) (hn : n + 15 < 2 ^ 31) (x y z p t : Int32) : jC l D ca Value.long n_Sh_slope n_Mo_slope [.int x, .int y, .int z, .int p, .int t] m ad rd n := by
  obtain ⟨hs, c, A, hC, hM, hT⟩ := h
  have hR := hM.r0
  have hO := hC.2.2.1
  obtain ⟨eK, eM, eP⟩ := hT.1.k
  have iff : slT c.1 x y z p t ↔ rslC A.1 x y z p t := by
    unfold slT
    rw [eM, eK, eP]
    constructor
    · rintro ⟨⟨w1, w2, w3, w4⟩, w5⟩
      rw [hT.1.2.1 _ (by omega)] at w4
      exact ⟨⟨⟨w1, w3, by omega⟩, w2, w4⟩, w5⟩
    · rintro ⟨⟨⟨w1, w3, _⟩, w2, w4⟩, w5⟩
      exact ⟨⟨w1, w2, w3, by rw [hT.1.2.1 _ (by omega)]; exact w4⟩, w5⟩
  have iff2 := rStd_iff hO hR hT.1
  refine jm_C_mo (c_Sh_slope hC (LB_of hO (hT.1.shs hR)) (fun hst F hA => FG_of hO hR hT.1 hst hA) x y z p t) (fun v m1 hq => ?_)
  obtain ⟨hF, hC1, r, hv, hr⟩ := hq
  have hM1 := hM.fr hs hF
  refine ⟨_, hv, hM1.o6, jm_C_mo (c_Mo_slope hM1 (by omega) x y z p t (fun _ w => STD_of hO hR hT.1 (iff2.mp w))) (fun v2 m2 hq2 => ?_)⟩
  obtain ⟨pF, pM, pv⟩ := hq2
  refine ⟨?_, hs, c, A, hC1.fm hs pF, pM.mono (by omega), hT⟩
  rcases pv with ⟨p1, p2⟩ | ⟨p1, p2⟩
  · rcases hr with ⟨q1, q2, F, hA, er⟩ | ⟨q1, er⟩
    · obtain ⟨⟨⟨w1, w3, _⟩, w2, w4⟩, w5, w6⟩ := p1.1
      rw [p2, er, slp_x hO hR hT.1 hA (FG_of hO hR hT.1 q2 hA) (by omega) (by omega) (by omega) (by omega)]
    · exact absurd ⟨iff.mpr p1.1, iff2.mp p1.2⟩ q1
  · rcases hr with ⟨q1, q2, F, hA, er⟩ | ⟨q1, er⟩
    · exact absurd ⟨iff.mp q1, iff2.mpr q2⟩ p1
    · rw [p2, er]
theorem j_find (h : JS m ad rd n) (hn : n + 15 < 2 ^ 31) (x y : Int32) (g : Int64) : jC l D ca Value.int n_Sh_find n_Mo_find [.int x, .int y, .long g] m ad rd n := by
  obtain ⟨hs, c, A, hC, hM, hT⟩ := h
  have hR := hM.r0
  have hO := hC.2.2.1
  obtain ⟨eK, eM, eP⟩ := hT.1.k
  have hsum := hT.1.sum hR
  have iff : fiT c.1 x y g ↔ rfiT A.1 x y g := by
    unfold fiT rfiT
    rw [eM, eK, eP]
    refine and_congr_left (fun _ => ?_)
    refine and_congr_right (fun w => ?_)
    rw [hT.1.2.1 _ (by omega)]
  have fit : fiT c.1 x y g → ∀ t, (t * 2310 ≤ sh2 c.1 x.toInt.toNat y.toInt.toNat ↔ fitR A.1 (3 * x.toInt.toNat + y.toInt.toNat) 0 t 12) := fun w t => by
    obtain ⟨⟨w1, w2, w3⟩, w4⟩ := w
    have hx : x.toInt.toNat < A.1.M := by omega
    have hy : y.toInt.toNat < A.1.K := by omega
    rw [hT.1.2.1 _ hx] at w3
    rw [fit_c hR hT.1 hx hy (by omega) (by decide), show rU t 12 = t * 2310 from rfl]
    unfold sh2
    rw [eK, hT.1.2.1 _ hx]
  have lok : fiT c.1 x y g → ∀ t, t ≤ 12 → LOK (dShare c.1 x.toInt.toNat y.toInt.toNat 0 (t * 2310)) := fun w t ht => by
    have := hsum x.toInt.toNat y.toInt.toNat 0 (by have := w.1.1; omega) (by have := w.1.2.1; omega) (by have := w.1.2.2; omega)
    exact hO.shr (by omega) (by omega)
  have rok : fiT c.1 x y g → ∀ t, t ≤ 12 → fitR A.1 (3 * x.toInt.toNat + y.toInt.toNat) 0 t 12 → ROK (rTry A.1 x.toInt.toNat y.toInt.toNat t) := fun w t ht hf => by
    have w1 := w.1.1
    have w2 := w.1.2.1
    have b1 := hR.1
    have b2 := hR.2.1
    exact hR.share (r := 3 * x.toInt.toNat + y.toInt.toNat) (o := 0) (by omega) (by decide) (by decide) ht hf
  have rel : fiT c.1 x y g → ∀ t, fitR A.1 (3 * x.toInt.toNat + y.toInt.toNat) 0 t 12 → REL (dShare c.1 x.toInt.toNat y.toInt.toNat 0 (t * 2310)) (rTry A.1 x.toInt.toNat y.toInt.toNat t) := fun w t hf => by
    have w1 := w.1.1
    have w2 := w.1.2.1
    have w3 := w.1.2.2
    have hx : x.toInt.toNat < A.1.M := by omega
    have hy : y.toInt.toNat < A.1.K := by omega
    rw [hT.1.2.1 _ hx] at w3
    exact hT.1.share hR (z := 0) (a := t) (b := 12) hx hy (by omega) ((fit_c hR hT.1 hx hy (by omega) (by decide)).mp hf)
  refine jm_C_mo (c_Sh_find hC hsum x y g (fun w t ht hf => LB_of (lok w t ht) ((rel w t ((fit w t).mp hf)).shs (rok w t ht ((fit w t).mp hf)))) (fun w t ht hf hst F hA => FG_of (lok w t ht) (rok w t ht ((fit w t).mp hf)) (rel w t ((fit w t).mp hf)) hst hA)) (fun v m1 hq => ?_)
  have hS : rfiT A.1 x y g → ∀ t, t ≤ 12 → fitR A.1 (3 * x.toInt.toNat + y.toInt.toNat) 0 t 12 → rStd (rTry A.1 x.toInt.toNat y.toInt.toNat t) → STD (rTry A.1 x.toInt.toNat y.toInt.toNat t) := fun w t ht hf hst => by
    have w := iff.mpr w
    exact STD_of (lok w t ht) (rok w t ht hf) (rel w t hf) ((rStd_iff (lok w t ht) (rok w t ht hf) (rel w t hf)).mp hst)
  rcases hq with ⟨q1, hv, q2⟩ | ⟨q1, hF, hq⟩
  · rw [q2]
    refine ⟨_, hv, hM.o6, jm_C_mo (c_Mo_find hM hn x y g hS) (fun v2 m2 hq2 => ?_)⟩
    rcases hq2 with ⟨p1, hv2, p2⟩ | ⟨p1, p2⟩
    · rw [p2]
      exact ⟨hv2, hs, c, A, hC, hM.mono (by omega), hT⟩
    · exact absurd (iff.mpr p1) q1
  · have hM1 := hM.fr hs hF
    have hx : x.toInt.toNat < A.1.M := by have := q1.1.1; omega
    have hy : y.toInt.toNat < A.1.K := by have := q1.1.2.1; omega
    have hP : 1 ≤ A.1.P := by have := q1.2.1; omega
    have kO : ∀ t, t ≤ 12 → okF c.1 x.toInt.toNat y.toInt.toNat g.toInt.toNat t → ¬ rnok A.1 x.toInt.toNat y.toInt.toNat g.toInt.toNat t := fun t ht w => by
      have hf := (fit q1 t).mp w.1
      exact fun q => q hf ((brg_x (lok q1 t ht) (rok q1 t ht hf) (rel q1 t hf) hy hP).1 w.2)
    have kN : ∀ t, t ≤ 12 → nokF c.1 x.toInt.toNat y.toInt.toNat g.toInt.toNat t → ¬ rokF A.1 x.toInt.toNat y.toInt.toNat g.toInt.toNat t := fun t ht w q => by
      have hf := q.1
      exact (brg_x (lok q1 t ht) (rok q1 t ht hf) (rel q1 t hf) hy hP).2 (w ((fit q1 t).mpr hf)) q.2
    have fin : ∀ v2 m2, rfindQ rd m1 A n x y g v2 m2 → v2 = v ∧ JS m2 ad rd (n + 15) := fun v2 m2 hq2 => by
      rcases hq2 with ⟨p1, hv2, p2⟩ | ⟨p1, pF, p2⟩
      · exact absurd (iff.mp q1) p1
      · rcases hq with ⟨t, ht, hv, o1, o2, o3⟩ | ⟨hv, o2, o3⟩
        · rcases p2 with ⟨s, hs2, hv2, r1, r2, r3⟩ | ⟨hv2, r2, r3⟩
          · have e : s = t := by
              rcases Nat.lt_trichotomy s t with w | w | w
              · exact absurd r1 (kN s hs2 (o2 s w))
              · exact w
              · exact absurd (r2 t w) (kO t ht o1)
            subst e
            have hr := rel q1 s ((fit q1 s).mp o1.1)
            exact ⟨hv2.trans hv.symm, hs, _, _, o3.fm hs pF, r3, hr, hT.2.1, rfl, rfl, fun _ => hr⟩
          · exact absurd (r2 t ht) (kO t ht o1)
        · rcases p2 with ⟨s, hs2, hv2, r1, r2, r3⟩ | ⟨hv2, r2, r3⟩
          · exact absurd r1 (kN s hs2 (o2 s hs2))
          · exact ⟨hv2.trans hv.symm, hs, _, _, o3.fm hs pF, r3, hT⟩
    have hv : ∃ r, v = some (.int r) := by
      rcases hq with ⟨t, ht, hv, _⟩ | ⟨hv, _⟩
      · exact ⟨_, hv⟩
      · exact ⟨_, hv⟩
    obtain ⟨r, hv⟩ := hv
    refine ⟨_, hv, hM1.o6, jm_C_mo (c_Mo_find hM1 hn x y g hS) (fun v2 m2 hq2 => ?_)⟩
    have := fin v2 m2 hq2
    exact ⟨this.1.trans hv, this.2⟩
end JT2
