/-! The calls that tell, of both. -/
section JT1
variable {l : Launch} {D : va_G} {ca : Nat → ClassId} {m : jm_M} {ad rd : Nat → Nat} {n : Nat}
theorem TIE.told {c : CSt} {A : RSt} {d : LD} {R : RD} (h : TIE c A) (e : REL d R) : TIE (d, c.2.1, c.2.2.1, c.2.2.2.1, false, c.2.2.2.2.2.1, c.2.2.2.2.2.2) (rTold A R) :=
  ⟨e, h.2.1, rfl, h.2.2.2.1, h.2.2.2.2⟩
theorem j_machine (h : JS m ad rd n) (x : Int32) : jC l D ca Value.int n_Sh_machine n_Mo_machine [.int x] m ad rd n := by
  obtain ⟨hs, c, A, hC, hM, hT⟩ := h
  have hR := hM.r0
  obtain ⟨eK, eM, eP⟩ := hT.1.k
  refine jm_C_mo (c_Sh_machine hC x) (fun v m1 hq => ?_)
  rcases hq with ⟨hv, q1, q2, q3, q4⟩ | ⟨hv, q1, q2⟩
  · refine ⟨_, hv, (hM.fr hs q3).o6, jm_C_mo (c_Mo_machine (hM.fr hs q3) x) (fun v2 m2 hq2 => ?_)⟩
    rcases hq2 with ⟨hv2, p1, p2, p3, p4⟩ | ⟨hv2, p1, p2⟩
    · refine ⟨by rw [hv2, eM], hs, _, _, q4.fm hs p3, p4.mono (by omega), hT.told (hT.1.mach hR p1 (by omega))⟩
    · exact absurd ⟨by omega, q2⟩ p1
  · rw [q2]
    refine ⟨_, hv, hM.o6, jm_C_mo (c_Mo_machine hM x) (fun v2 m2 hq2 => ?_)⟩
    rcases hq2 with ⟨hv2, p1, p2, p3, p4⟩ | ⟨hv2, p1, p2⟩
    · exact absurd ⟨by omega, p2⟩ q1
    · rw [p2]
      exact ⟨hv2, hs, c, A, hC, hM.mono (by omega), hT⟩
theorem j_port (h : JS m ad rd n) : jC l D ca Value.int n_Sh_port n_Mo_port [] m ad rd n := by
  obtain ⟨hs, c, A, hC, hM, hT⟩ := h
  obtain ⟨eK, eM, eP⟩ := hT.1.k
  refine jm_C_mo (c_Sh_port hC) (fun v m1 hq => ?_)
  rcases hq with ⟨hv, q1, q3, q4⟩ | ⟨hv, q1, q2⟩
  · refine ⟨_, hv, (hM.fr hs q3).o6, jm_C_mo (c_Mo_port (hM.fr hs q3)) (fun v2 m2 hq2 => ?_)⟩
    rcases hq2 with ⟨hv2, p1, p3, p4⟩ | ⟨hv2, p1, p2⟩
    · refine ⟨by rw [hv2, eP], hs, _, _, q4.fm hs p3, p4.mono (by omega), hT.told hT.1.port⟩
    · exact absurd (by omega) p1
  · rw [q2]
    refine ⟨_, hv, hM.o6, jm_C_mo (c_Mo_port hM) (fun v2 m2 hq2 => ?_)⟩
    rcases hq2 with ⟨hv2, p1, p3, p4⟩ | ⟨hv2, p1, p2⟩
    · exact absurd (by omega) q1
    · rw [p2]
      exact ⟨hv2, hs, c, A, hC, hM.mono (by omega), hT⟩
theorem j_joinOut (h : JS m ad rd n) (x y t : Int32) : jC l D ca Value.int n_Sh_joinOut n_Mo_joinOut [.int x, .int y, .int t] m ad rd n := by
  obtain ⟨hs, c, A, hC, hM, hT⟩ := h
  obtain ⟨eK, eM, eP⟩ := hT.1.k
  have iff : (((0 ≤ x.toInt ∧ x.toInt < (c.1.1.2.1 : Int)) ∧ 0 ≤ y.toInt ∧ y.toInt < (c.1.2.1 x.toInt.toNat : Int)) ∧ jOK c.1.1.2.1 c.1.1.2.2 t) ↔ (isO A.1 x y ∧ jOK A.1.M A.1.P t) := by
    rw [eM, eP]
    refine and_congr_left (fun _ => ?_)
    refine and_congr_right (fun w => ?_)
    rw [hT.1.2.1 _ (by omega)]
  refine jm_C_mo (c_Sh_joinOut hC x y t) (fun v m1 hq => ?_)
  rcases hq with ⟨hv, q1, q2, q3, q4⟩ | ⟨hv, q1, q2⟩
  · refine ⟨_, hv, (hM.fr hs q3).o6, jm_C_mo (c_Mo_joinOut (hM.fr hs q3) x y t) (fun v2 m2 hq2 => ?_)⟩
    rcases hq2 with ⟨hv2, p1, p2, p3, p4⟩ | ⟨hv2, p1, p2⟩
    · exact ⟨hv2, hs, _, _, q4.fm hs p3, p4.mono (by omega), hT.told (hT.1.join _ _)⟩
    · exact absurd (iff.mp ⟨q1, q2⟩) p1
  · rw [q2]
    refine ⟨_, hv, hM.o6, jm_C_mo (c_Mo_joinOut hM x y t) (fun v2 m2 hq2 => ?_)⟩
    rcases hq2 with ⟨hv2, p1, p2, p3, p4⟩ | ⟨hv2, p1, p2⟩
    · exact absurd (iff.mpr ⟨p1, p2⟩) q1
    · rw [p2]
      exact ⟨hv2, hs, c, A, hC, hM.mono (by omega), hT⟩
theorem j_feed (h : JS m ad rd n) (x y : Int32) (g : Int64) : jC l D ca Value.int n_Sh_feed n_Mo_feed [.int x, .int y, .long g] m ad rd n := by
  obtain ⟨hs, c, A, hC, hM, hT⟩ := h
  have hR := hM.r0
  obtain ⟨eK, eM, eP⟩ := hT.1.k
  have iff : (((0 ≤ x.toInt ∧ x.toInt < (c.1.1.2.1 : Int)) ∧ 0 ≤ y.toInt ∧ y.toInt < (c.1.1.1 : Int)) ∧ 0 ≤ g.toInt ∧ g.toInt ≤ 1000000) ↔ ((isM A.1 x ∧ isK A.1 y) ∧ 0 ≤ g.toInt ∧ g.toInt ≤ 1000000) := by
    rw [eM, eK]
  refine jm_C_mo (c_Sh_feed hC x y g) (fun v m1 hq => ?_)
  rcases hq with ⟨hv, q1, q3, q4⟩ | ⟨hv, q1, q2⟩
  · refine ⟨_, hv, (hM.fr hs q3).o6, jm_C_mo (c_Mo_feed (hM.fr hs q3) x y g) (fun v2 m2 hq2 => ?_)⟩
    rcases hq2 with ⟨hv2, p1, p3, p4⟩ | ⟨hv2, p1, p2⟩
    · exact ⟨hv2, hs, _, _, q4.fm hs p3, p4.mono (by omega), hT.told (hT.1.feed hR (by have := p1.1.1; omega) (by have := p1.1.2; omega))⟩
    · exact absurd (iff.mp q1) p1
  · rw [q2]
    refine ⟨_, hv, hM.o6, jm_C_mo (c_Mo_feed hM x y g) (fun v2 m2 hq2 => ?_)⟩
    rcases hq2 with ⟨hv2, p1, p3, p4⟩ | ⟨hv2, p1, p2⟩
    · exact absurd (iff.mpr p1) q1
    · rw [p2]
      exact ⟨hv2, hs, c, A, hC, hM.mono (by omega), hT⟩
theorem j_crush (h : JS m ad rd n) (x y t : Int32) (a b : Int64) : jC l D ca Value.int n_Sh_crush n_Mo_crush [.int x, .int y, .int t, .long a, .long b] m ad rd n := by
  obtain ⟨hs, c, A, hC, hM, hT⟩ := h
  have hR := hM.r0
  obtain ⟨eK, eM, eP⟩ := hT.1.k
  have iff : (((0 ≤ x.toInt ∧ x.toInt < (c.1.1.2.1 : Int)) ∧ 0 ≤ y.toInt ∧ y.toInt < (c.1.1.1 : Int)) ∧ (0 ≤ t.toInt ∧ t.toInt < (c.1.1.1 : Int)) ∧ y ≠ t ∧ isSh a b) ↔ crR A.1 x y t a b := by
    rw [eM, eK]
  refine jm_C_mo (c_Sh_crush hC x y t a b) (fun v m1 hq => ?_)
  rcases hq with ⟨hv, q1, q3, q4⟩ | ⟨hv, q1, q2⟩
  · refine ⟨_, hv, (hM.fr hs q3).o6, jm_C_mo (c_Mo_crush (hM.fr hs q3) x y t a b) (fun v2 m2 hq2 => ?_)⟩
    rcases hq2 with ⟨hv2, p1, p3, p4⟩ | ⟨hv2, p1, p2⟩
    · exact ⟨hv2, hs, _, _, q4.fm hs p3, p4.mono (by omega), hT.told (hT.1.crush hR (by have := p1.1.1; omega) (by have := p1.1.2; omega))⟩
    · exact absurd (iff.mp q1) p1
  · rw [q2]
    refine ⟨_, hv, hM.o6, jm_C_mo (c_Mo_crush hM x y t a b) (fun v2 m2 hq2 => ?_)⟩
    rcases hq2 with ⟨hv2, p1, p3, p4⟩ | ⟨hv2, p1, p2⟩
    · exact absurd (iff.mpr p1) q1
    · rw [p2]
      exact ⟨hv2, hs, c, A, hC, hM.mono (by omega), hT⟩
/-- a told share, of both -/
theorem REL.tell {d : LD} {R : RD} (hR : ROK R) (e : REL d R) {x y z : Int32} {a b : Int64} (w : shT d x y z a b) : REL (dShare d x.toInt.toNat y.toInt.toNat z.toInt.toNat (unS a b)) (rShare R (2 * (3 * x.toInt.toNat + y.toInt.toNat) + z.toInt.toNat) a.toInt.toNat b.toInt.toNat) := by
  obtain ⟨eK, eM, eP⟩ := e.k
  obtain ⟨⟨w1, w2, w3⟩, w4, w5⟩ := w
  have hx : x.toInt.toNat < R.M := by omega
  have hy : y.toInt.toNat < R.K := by omega
  rw [e.2.1 _ hx] at w3 w5
  rw [eK] at w5
  exact e.share hR hx hy (by omega) w5
theorem j_share (h : JS m ad rd n) (x y z : Int32) (a b : Int64) : jC l D ca Value.int n_Sh_share n_Mo_share [.int x, .int y, .int z, .long a, .long b] m ad rd n := by
  obtain ⟨hs, c, A, hC, hM, hT⟩ := h
  have hR := hM.r0
  have iff := shT_x hR hT.1 x y z a b
  refine jm_C_mo (c_Sh_share hC (hT.1.sum hR) x y z a b) (fun v m1 hq => ?_)
  rcases hq with ⟨hv, q1, q3, q4⟩ | ⟨hv, q1, q2⟩
  · refine ⟨_, hv, (hM.fr hs q3).o6, jm_C_mo (c_Mo_share (hM.fr hs q3) x y z a b) (fun v2 m2 hq2 => ?_)⟩
    rcases hq2 with ⟨hv2, p1, p3, p4⟩ | ⟨hv2, p1, p2⟩
    · exact ⟨hv2, hs, _, _, q4.fm hs p3, p4.mono (by omega), hT.told (hT.1.tell hR q1)⟩
    · exact absurd (iff.mp q1) p1
  · rw [q2]
    refine ⟨_, hv, hM.o6, jm_C_mo (c_Mo_share hM x y z a b) (fun v2 m2 hq2 => ?_)⟩
    rcases hq2 with ⟨hv2, p1, p3, p4⟩ | ⟨hv2, p1, p2⟩
    · exact absurd (iff.mpr p1) q1
    · rw [p2]
      exact ⟨hv2, hs, c, A, hC, hM.mono (by omega), hT⟩
theorem j_span (h : JS m ad rd n) (x : Int32) (a b : Int64) : jC l D ca Value.int n_Sh_span n_Mo_span [.int x, .long a, .long b] m ad rd n := by
  obtain ⟨hs, c, A, hC, hM, hT⟩ := h
  obtain ⟨eK, eM, eP⟩ := hT.1.k
  have iff : ((0 ≤ x.toInt ∧ x.toInt < (c.1.1.2.1 : Int)) ∧ 0 ≤ a.toInt ∧ a.toInt ≤ b.toInt ∧ b.toInt ≤ 1000000000) ↔ spR A.1 x a b := by
    rw [eM]
  refine jm_C_mo (c_Sh_span hC x a b) (fun v m1 hq => ?_)
  rcases hq with ⟨hv, q1, q3, q4⟩ | ⟨hv, q1, q2⟩
  · refine ⟨_, hv, (hM.fr hs q3).o6, jm_C_mo (c_Mo_span (hM.fr hs q3) x a b) (fun v2 m2 hq2 => ?_)⟩
    rcases hq2 with ⟨hv2, p1, p3, p4⟩ | ⟨hv2, p1, p2⟩
    · refine ⟨hv2, hs, _, _, q4.fm hs p3, p4.mono (by omega), hT.1, fun j hj => ?_, hT.2.2⟩
      have := hT.2.1 j hj
      by_cases e : j = x.toInt.toNat
      · subst e
        dsimp only
        rw [va_up_self, va_up_self, va_up_self, va_up_self, va_up_self, va_up_self]
        exact ⟨rfl, rfl, rfl⟩
      · dsimp only
        rw [va_up_ne _ _ e, va_up_ne _ _ e, va_up_ne _ _ e, va_up_ne _ _ e, va_up_ne _ _ e, va_up_ne _ _ e]
        exact this
    · exact absurd (iff.mp q1) p1
  · rw [q2]
    refine ⟨_, hv, hM.o6, jm_C_mo (c_Mo_span hM x a b) (fun v2 m2 hq2 => ?_)⟩
    rcases hq2 with ⟨hv2, p1, p3, p4⟩ | ⟨hv2, p1, p2⟩
    · exact absurd (iff.mpr p1) q1
    · rw [p2]
      exact ⟨hv2, hs, c, A, hC, hM.mono (by omega), hT⟩
theorem j_kept (h : JS m ad rd n) : jC l D ca Value.int n_Sh_kept n_Mo_kept [] m ad rd n := by
  obtain ⟨hs, c, A, hC, hM, hT⟩ := h
  refine jm_C_mo (c_Sh_kept hC) (fun v m1 hq => ?_)
  rw [hq.1]
  refine ⟨_, hq.2, hM.o6, jm_C_mo (c_Mo_kept hM) (fun v2 m2 hq2 => ?_)⟩
  rw [hq2.1]
  exact ⟨by rw [hq2.2, hT.2.2.1], hs, c, A, hC, hM.mono (by omega), hT⟩
end JT1
