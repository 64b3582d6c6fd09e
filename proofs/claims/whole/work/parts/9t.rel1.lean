/-! What is told keeps class and reference together. -/
theorem row_ij {K j k x y : Nat} (hk : k < K) (hy : y < K) (h : j * K + k = x * K + y) : j = x ∧ k = y := by
  have hK : 0 < K := by omega
  have a : (j * K + k) / K = (x * K + y) / K := by rw [h]
  have b : (j * K + k) % K = (x * K + y) % K := by rw [h]
  rw [Nat.mul_comm j, Nat.mul_comm x, Nat.mul_add_div hK, Nat.mul_add_div hK, Nat.div_eq_of_lt hk, Nat.div_eq_of_lt hy] at a
  rw [Nat.mul_comm j, Nat.mul_comm x, Nat.mul_add_mod, Nat.mul_add_mod, Nat.mod_eq_of_lt hk, Nat.mod_eq_of_lt hy] at b
  exact ⟨by omega, b⟩
theorem row_lt2 {K M j k : Nat} (hj : j < M) (hk : k < K) : j * K + k < M * K := by
  have := Nat.mul_le_mul_right K (show j + 1 ≤ M by omega)
  rw [Nat.add_mul, Nat.one_mul] at this
  omega
theorem shM_at (sh : Nat → Nat) (r0 : Nat) {n : Nat} (hn : 1 ≤ n ∧ n ≤ 3) {r o : Nat} (ho : o < 3) : ∀ K : Nat, shM sh r0 n K (3 * r + o) = if (r0 ≤ r ∧ r < r0 + K) ∧ o + 1 = n then 27720 else sh (3 * r + o)
  | 0 => by
    rw [if_neg (by omega)]; rfl
  | K + 1 => by
    show va_up (shM sh r0 n K) (3 * (r0 + K) + n - 1) 27720 (3 * r + o) = _
    by_cases w : 3 * r + o = 3 * (r0 + K) + n - 1
    · rw [w, va_up_self, if_pos (by omega)]
    · rw [va_up_ne _ _ w, shM_at sh r0 hn ho K]
      by_cases w2 : (r0 ≤ r ∧ r < r0 + K) ∧ o + 1 = n
      · rw [if_pos w2, if_pos (by omega)]
      · rw [if_neg w2, if_neg (by omega)]
section RELS
variable {d : LD} {R : RD}
theorem REL.k (e : REL d R) : d.1.1 = R.K ∧ d.1.2.1 = R.M ∧ d.1.2.2 = R.P := by rw [e.1]; exact ⟨rfl, rfl, rfl⟩
theorem rU0 (b : Nat) : rU 0 b = 0 := by unfold rU; exact Nat.zero_mul _
theorem REL.mach (h : ROK R) (e : REL d R) {n : Nat} (hM : R.M < 3) (hn : 1 ≤ n ∧ n ≤ 3) : REL (dMach d n) (rMach R n) := by
  obtain ⟨eK, eM, eP⟩ := e.k
  have hK := h.1
  obtain ⟨e1, e2, e3, e4, e5, e6, e7, e8, e9⟩ := e
  have row : ∀ k, k < R.K → R.M * R.K + k < 9 := fun k hk => by
    have := Nat.mul_le_mul (show R.M + 1 ≤ 3 by omega) hK.2
    rw [Nat.add_mul, Nat.one_mul] at this
    omega
  refine ⟨?_, fun j hj => ?_, e3, fun j k o hj hk ho => ?_, fun j k hj hk => ?_, fun r hr hr9 => ?_, fun r hr hr9 => e7 r (by have : 3 * (R.M + 1) ≤ r := hr; omega) hr9, fun j k hj hk => ?_, e9⟩
  · show (d.1.1, d.1.2.1 + 1, d.1.2.2) = (R.K, R.M + 1, R.P)
    rw [eK, eM, eP]
  · show va_up d.2.1 d.1.2.1 n j = va_up R.O R.M n j
    rw [eM]
    by_cases w : j = R.M
    · subst w; rw [va_up_self, va_up_self]
    · rw [va_up_ne _ _ w, va_up_ne _ _ w]; exact e2 j (by have : j < R.M + 1 := hj; omega)
  · have hj : j < R.M + 1 := hj
    have hk : k < R.K := hk
    have ho : o < va_up R.O R.M n j := ho
    show shM d.2.2.2.1 (d.1.2.1 * d.1.1) n d.1.1 (3 * (j * R.K + k) + o) = shU (rMach R n) j k o
    rw [eK, eM]
    by_cases w : j = R.M
    · subst w
      rw [va_up_self] at ho
      obtain ⟨⟨a1, a2, -⟩, -⟩ := e7 (3 * R.M + k) (by omega) (by omega)
      rw [shM_at _ _ hn (by omega)]
      unfold shU
      show _ = if o + 1 = va_up R.O R.M n R.M then 27720 - (if 2 ≤ va_up R.O R.M n R.M then rU (R.A (2 * (3 * R.M + k))) (R.B (2 * (3 * R.M + k))) else 0) - (if 3 ≤ va_up R.O R.M n R.M then rU (R.A (2 * (3 * R.M + k) + 1)) (R.B (2 * (3 * R.M + k) + 1)) else 0) else if o = 0 then rU (R.A (2 * (3 * R.M + k))) (R.B (2 * (3 * R.M + k))) else rU (R.A (2 * (3 * R.M + k) + 1)) (R.B (2 * (3 * R.M + k) + 1))
      rw [va_up_self, a1, a2, rU0, rU0]
      by_cases w2 : o + 1 = n
      · rw [if_pos ⟨⟨by omega, by omega⟩, w2⟩, if_pos w2]
        split <;> split <;> rfl
      · rw [if_neg (fun z => w2 z.2), if_neg w2, (e6 _ (Nat.le_add_right _ _) (row k hk)).1 o (by omega)]
        split <;> rfl
    · have hjM : j < R.M := by omega
      rw [va_up_ne _ _ w] at ho
      have hou := h.2.2.2.1 j hjM
      have := row_lt2 hjM hk
      rw [shM_at _ _ hn (by omega), if_neg (by omega), e4 j k o hjM hk ho]
      unfold shU
      show _ = if o + 1 = va_up R.O R.M n j then 27720 - (if 2 ≤ va_up R.O R.M n j then rU (R.A (2 * (3 * j + k))) (R.B (2 * (3 * j + k))) else 0) - (if 3 ≤ va_up R.O R.M n j then rU (R.A (2 * (3 * j + k) + 1)) (R.B (2 * (3 * j + k) + 1)) else 0) else if o = 0 then rU (R.A (2 * (3 * j + k))) (R.B (2 * (3 * j + k))) else rU (R.A (2 * (3 * j + k) + 1)) (R.B (2 * (3 * j + k) + 1))
      rw [va_up_ne _ _ w]
  · have hj : j < R.M + 1 := hj
    have hk : k < R.K := hk
    by_cases w : j = R.M
    · subst w
      obtain ⟨-, c1, c2, c3, c4⟩ := e7 (3 * R.M + k) (by omega) (by omega)
      obtain ⟨-, b1, b2, b3⟩ := e6 _ (Nat.le_add_right _ _) (row k hk)
      show d.2.2.2.2.1 (R.M * R.K + k) = rU (R.C (3 * R.M + k)) (R.E (3 * R.M + k)) ∧ d.2.2.2.2.2.1 (R.M * R.K + k) = R.T (3 * R.M + k) ∧ d.2.2.2.2.2.2 (R.M * R.K + k) = R.F (3 * R.M + k)
      rw [b1, b2, b3, c1, c3, c4, rU0]
      exact ⟨rfl, rfl, rfl⟩
    · exact e5 j k (by omega) hk
  · have hr : (R.M + 1) * R.K ≤ r := hr
    rw [Nat.add_mul, Nat.one_mul] at hr
    obtain ⟨b0, b1⟩ := e6 r (by omega) hr9
    refine ⟨fun o ho => ?_, b1⟩
    show shM d.2.2.2.1 (d.1.2.1 * d.1.1) n d.1.1 (3 * r + o) = 0
    rw [eK, eM, shM_at _ _ hn ho, if_neg (by omega)]
    exact b0 o ho
  · have hj : j < R.M + 1 := hj
    show (va_up R.O R.M n j = 1 → _) ∧ (va_up R.O R.M n j ≤ 2 → _)
    by_cases w : j = R.M
    · subst w
      obtain ⟨⟨a1, a2, -⟩, -⟩ := e7 (3 * R.M + k) (by omega) (by omega)
      exact ⟨fun _ => a1, fun _ => a2⟩
    · rw [va_up_ne _ _ w]; exact e8 j k (by omega) hk
theorem REL.port (e : REL d R) : REL (dPort d) (rPort R) := by
  obtain ⟨eK, eM, eP⟩ := e.k
  obtain ⟨e1, e2⟩ := e
  refine ⟨?_, e2⟩
  show (d.1.1, d.1.2.1, d.1.2.2 + 1) = (R.K, R.M, R.P + 1)
  rw [eK, eM, eP]
theorem REL.join (e : REL d R) (i : Nat) (t : Int32) : REL (dJoin d i t) (rJoin R i t) := by
  obtain ⟨e1, e2, e3, e4⟩ := e
  refine ⟨e1, e2, fun j hj => ?_, e4⟩
  show va_up d.2.2.1 i t j = va_up R.J i t j
  by_cases w : j = i
  · subst w; rw [va_up_self, va_up_self]
  · rw [va_up_ne _ _ w, va_up_ne _ _ w]; exact e3 j hj
theorem REL.feed (h : ROK R) (e : REL d R) {x y g : Nat} (hx : x < R.M) (hy : y < R.K) : REL (dFeed d (x * d.1.1 + y) g) (rFee R (3 * x + y) g) := by
  obtain ⟨eK, eM, eP⟩ := e.k
  have hK := h.1
  obtain ⟨e1, e2, e3, e4, e5, e6, e7, e8, e9⟩ := e
  have hrow := row_lt2 hx hy
  rw [eK]
  refine ⟨e1, e2, e3, e4, fun j k hj hk => ⟨(e5 j k hj hk).1, (e5 j k hj hk).2.1, ?_⟩, fun r hr hr9 => ⟨(e6 r hr hr9).1, (e6 r hr hr9).2.1, (e6 r hr hr9).2.2.1, ?_⟩, fun r hr hr9 => ⟨(e7 r hr hr9).1, (e7 r hr hr9).2.1, (e7 r hr hr9).2.2.1, (e7 r hr hr9).2.2.2.1, ?_⟩, e8, fun j k hj hk hk3 => ?_⟩
  · have hk : k < R.K := hk
    show va_up d.2.2.2.2.2.2 (x * R.K + y) g (j * R.K + k) = va_up R.F (3 * x + y) g (3 * j + k)
    by_cases w : j = x ∧ k = y
    · rw [w.1, w.2, va_up_self, va_up_self]
    · rw [va_up_ne _ _ (fun z => w (row_ij hk hy z)), va_up_ne _ _ (fun z => w (by omega))]
      exact (e5 j k hj hk).2.2
  · have hr : R.M * R.K ≤ r := hr
    show va_up d.2.2.2.2.2.2 (x * R.K + y) g r = 0
    rw [va_up_ne _ _ (by omega)]; exact (e6 r hr hr9).2.2.2
  · have hr : 3 * R.M ≤ r := hr
    show va_up R.F (3 * x + y) g r = 0
    rw [va_up_ne _ _ (by omega)]; exact (e7 r hr hr9).2.2.2.2
  · have hk : R.K ≤ k := hk
    show va_up R.F (3 * x + y) g (3 * j + k) = 0
    rw [va_up_ne _ _ (by omega)]; exact e9 j k hj hk hk3
theorem REL.crush (h : ROK R) (e : REL d R) {x y t a b : Nat} (hx : x < R.M) (hy : y < R.K) : REL (dCrush d (x * d.1.1 + y) (rU a b) t) (rCrush R (3 * x + y) t a b) := by
  obtain ⟨eK, eM, eP⟩ := e.k
  have hK := h.1
  obtain ⟨e1, e2, e3, e4, e5, e6, e7, e8, e9⟩ := e
  have hrow := row_lt2 hx hy
  rw [eK]
  refine ⟨e1, e2, e3, e4, fun j k hj hk => ⟨?_, ?_, (e5 j k hj hk).2.2⟩, fun r hr hr9 => ⟨(e6 r hr hr9).1, ?_, ?_, (e6 r hr hr9).2.2.2⟩, fun r hr hr9 => ⟨(e7 r hr hr9).1, ?_, ?_, ?_, (e7 r hr hr9).2.2.2.2⟩, e8, e9⟩
  · have hk : k < R.K := hk
    show va_up d.2.2.2.2.1 (x * R.K + y) (rU a b) (j * R.K + k) = rU (va_up R.C (3 * x + y) a (3 * j + k)) (va_up R.E (3 * x + y) b (3 * j + k))
    by_cases w : j = x ∧ k = y
    · rw [w.1, w.2, va_up_self, va_up_self, va_up_self]
    · rw [va_up_ne _ _ (fun z => w (row_ij hk hy z)), va_up_ne _ _ (fun z => w (by omega)), va_up_ne _ _ (fun z => w (by omega))]
      exact (e5 j k hj hk).1
  · have hk : k < R.K := hk
    show va_up d.2.2.2.2.2.1 (x * R.K + y) t (j * R.K + k) = va_up R.T (3 * x + y) t (3 * j + k)
    by_cases w : j = x ∧ k = y
    · rw [w.1, w.2, va_up_self, va_up_self]
    · rw [va_up_ne _ _ (fun z => w (row_ij hk hy z)), va_up_ne _ _ (fun z => w (by omega))]
      exact (e5 j k hj hk).2.1
  · have hr : R.M * R.K ≤ r := hr
    show va_up d.2.2.2.2.1 (x * R.K + y) (rU a b) r = 0
    rw [va_up_ne _ _ (by omega)]; exact (e6 r hr hr9).2.1
  · have hr : R.M * R.K ≤ r := hr
    show va_up d.2.2.2.2.2.1 (x * R.K + y) t r = 0
    rw [va_up_ne _ _ (by omega)]; exact (e6 r hr hr9).2.2.1
  · have hr : 3 * R.M ≤ r := hr
    show va_up R.C (3 * x + y) a r = 0
    rw [va_up_ne _ _ (by omega)]; exact (e7 r hr hr9).2.1
  · have hr : 3 * R.M ≤ r := hr
    show va_up R.E (3 * x + y) b r = 1
    rw [va_up_ne _ _ (by omega)]; exact (e7 r hr hr9).2.2.1
  · have hr : 3 * R.M ≤ r := hr
    show va_up R.T (3 * x + y) t r = 0
    rw [va_up_ne _ _ (by omega)]; exact (e7 r hr hr9).2.2.2.1
/-- last and this out together -/
theorem sh_two (h : ROK R) (e : REL d R) {x y z : Nat} (hx : x < R.M) (hy : y < R.K) (hz : z + 1 < R.O x) : d.2.2.2.1 (3 * (x * R.K + y) + (R.O x - 1)) + d.2.2.2.1 (3 * (x * R.K + y) + z) + rU (R.A (oth (3 * x + y) z)) (R.B (oth (3 * x + y) z)) = 27720 := by
  have hM := h.2.1
  have hK := h.1
  have hou := h.2.2.2.1 x hx
  have hs := sh_le h (j := x) (k := y) (by omega) (by omega)
  have h8 := e.2.2.2.2.2.2.2.1 x y hx (by omega)
  rw [e.2.2.2.1 x y _ hx hy (show R.O x - 1 < R.O x by omega), e.2.2.2.1 x y z hx hy (by omega)]
  unfold shU oth
  rcases (show R.O x = 2 ∨ R.O x = 3 by omega) with w | w
  · have z0 : z = 0 := by omega
    subst z0
    have a1 := h8.2 (by omega)
    rw [w]
    rw [show 2 * (3 * x + y) + (1 - 0) = 2 * (3 * x + y) + 1 by omega, a1, rU0] at *
    simp
    omega
  · rw [w]
    rcases (show z = 0 ∨ z = 1 by omega) with q | q
    · subst q
      rw [show 2 * (3 * x + y) + (1 - 0) = 2 * (3 * x + y) + 1 by omega]
      simp
      omega
    · subst q
      rw [show 2 * (3 * x + y) + (1 - 1) = 2 * (3 * x + y) by omega]
      simp
      omega
theorem fit_u (h : ROK R) {r o a b : Nat} (hr : r < 9) (ho : o < 2) (hb : 1 ≤ b ∧ b ≤ 12) : fitR R r o a b ↔ rU a b + rU (R.A (oth r o)) (R.B (oth r o)) ≤ 27720 := by
  have hq : oth r o < 18 := by unfold oth; omega
  have hB := (h.2.2.2.2.2.1 (oth r o) hq).1
  have e0 := u_b hb
  have e1 := u_b hB
  unfold fitR rU
  generalize R.A (oth r o) = A1 at *
  generalize R.B (oth r o) = B1 at *
  generalize 27720 / b = c0 at *
  generalize 27720 / B1 = c1 at *
  have hc0 : 0 < c0 := by
    rcases Nat.eq_zero_or_pos c0 with z | z
    · rw [z, Nat.mul_zero] at e0; omega
    · exact z
  have hc1 : 0 < c1 := by
    rcases Nat.eq_zero_or_pos c1 with z | z
    · rw [z, Nat.mul_zero] at e1; omega
    · exact z
  have k1 : (a * B1 + A1 * b) * (c0 * c1) = 27720 * (a * c0 + A1 * c1) := by
    calc (a * B1 + A1 * b) * (c0 * c1) = (B1 * c1) * (a * c0) + (b * c0) * (A1 * c1) := by grind
      _ = _ := by rw [e0, e1]; grind
  have k2 : b * B1 * (c0 * c1) = 27720 * 27720 := by
    calc b * B1 * (c0 * c1) = (b * c0) * (B1 * c1) := by grind
      _ = _ := by rw [e0, e1]
  constructor
  · intro q
    have := Nat.mul_le_mul_right (c0 * c1) q
    rw [k1, k2] at this
    exact Nat.le_of_mul_le_mul_left this (by decide)
  · intro q
    have := Nat.mul_le_mul_left 27720 q
    rw [← k1, ← k2] at this
    exact Nat.le_of_mul_le_mul_right this (Nat.mul_pos hc0 hc1)
theorem fit_c (h : ROK R) (e : REL d R) {x y z a b : Nat} (hx : x < R.M) (hy : y < R.K) (hz : z + 1 < R.O x) (hb : 1 ≤ b ∧ b ≤ 12) : fitR R (3 * x + y) z a b ↔ rU a b ≤ d.2.2.2.1 (3 * (x * R.K + y) + (R.O x - 1)) + d.2.2.2.1 (3 * (x * R.K + y) + z) := by
  have hM := h.2.1
  have hK := h.1
  have hou := h.2.2.2.1 x hx
  have s := sh_two h e hx hy hz
  rw [fit_u h (by omega) (by omega) hb]
  omega
end RELS
