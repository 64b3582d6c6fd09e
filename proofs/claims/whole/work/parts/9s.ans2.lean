theorem npart_x {a b a' b' : Nat} (hb : 0 < b) (hb' : 0 < b') (h : a * b' = a' * b) (z : Nat) : npart a b z = npart a' b' z := by
  obtain ⟨h1, h2⟩ := pp_div hb hb' h
  have h3 : a % b = 0 ↔ a' % b' = 0 := by
    constructor
    · intro q
      rw [q, Nat.zero_mul] at h2
      rcases Nat.mul_eq_zero.mp h2.symm with w | w
      · exact w
      · omega
    · intro q
      rw [q, Nat.zero_mul] at h2
      rcases Nat.mul_eq_zero.mp h2 with w | w
      · exact w
      · omega
  unfold npart
  rw [h1]
  by_cases w : a % b = 0
  · rw [if_pos w, if_pos (h3.mp w)]
  · rw [if_neg w, if_neg (fun q => w (h3.mpr q))]
    by_cases w2 : z = 0
    · rw [if_pos w2, if_pos w2]
    · rw [if_neg w2, if_neg w2]
      congr 1
      refine ppart_x hb hb' ?_ z
      have m1 := Nat.mod_lt a hb
      have m2 := Nat.mod_lt a' hb'
      rw [Nat.sub_mul, Nat.sub_mul, h2, Nat.mul_comm b b']
/-- the slope's fraction, when what is reached and what passes are the same fractions -/
theorem sgd_x {fi se ps dd fi' se' ps' dd' : Nat} (hd : 0 < dd) (hd' : 0 < dd') (h1 : fi * dd' = fi' * dd) (h2 : se * dd' = se' * dd) (h3 : ps * dd' = ps' * dd) (pt : Nat) : sgd fi se ps dd pt = sgd fi' se' ps' dd' pt := by
  have hlt : fi < se ↔ fi' < se' := by
    constructor
    · intro q
      have := (Nat.mul_lt_mul_right hd').mpr q
      rw [h1, h2] at this
      exact (Nat.mul_lt_mul_right hd).mp this
    · intro q
      have := (Nat.mul_lt_mul_right hd).mpr q
      rw [← h1, ← h2] at this
      exact (Nat.mul_lt_mul_right hd').mp this
  have key : ∀ x x' : Nat, x * dd' = x' * dd → x * ps * (dd' * dd') = x' * ps' * (dd * dd) := fun x x' hx => by
    calc x * ps * (dd' * dd') = (x * dd') * (ps * dd') := by grind
      _ = (x' * dd) * (ps' * dd) := by rw [hx, h3]
      _ = _ := by grind
  unfold sgd
  by_cases w : fi < se
  · rw [if_pos w, if_pos (hlt.mp w)]
    exact npart_x (Nat.mul_pos hd hd) (Nat.mul_pos hd' hd') (key _ _ (by rw [Nat.sub_mul, Nat.sub_mul, h1, h2])) pt
  · rw [if_neg w, if_neg (fun q => w (hlt.mpr q))]
    congr 1
    exact ppart_x (Nat.mul_pos hd hd) (Nat.mul_pos hd' hd') (key _ _ (by rw [Nat.sub_mul, Nat.sub_mul, h1, h2])) pt
section AN2
variable {d : LD} {R : RD} {F : Nat → Nat → Nat} {V : Nat → Nat}
theorem svN.std (hO : LOK d) (h : ROK R) (e : REL d R) (s : svN d F V) : STD R := ⟨h, d, F, hO, e, s.1, s.2.1⟩
theorem svN.dp (hO : LOK d) (s : svN d F V) : 0 < V 118 := by
  have hn9 : d.1.2.1 * d.1.1 ≤ 9 := Nat.mul_le_mul hO.2.1 hO.1.2
  have := am_d (f := f0 d) s.2.1 hn9
  rw [s.2.2.1]
  unfold dt
  omega
theorem svN.o (hO : LOK d) (h : ROK R) (e : REL d R) (s : svN d F V) {p k : Nat} (hp : p < R.P) (hk : k < R.K) : V (119 + (p * R.K + k)) * rDT R = rAm R (wpt R p (nI k)) * V 118 := by
  have eK : d.1.1 = R.K := by rw [e.1]
  have eM : d.1.2.1 = R.M := by rw [e.1]
  have eP : d.1.2.2 = R.P := by rw [e.1]
  obtain ⟨s1, s2, s3, s4, s5⟩ := s
  have := s4 p k (by omega) (by omega)
  rw [eK, eM] at this s3
  rw [this, s3]
  exact an_out hO h e s1 s2 hp hk
theorem svN.l (hO : LOK d) (h : ROK R) (e : REL d R) (s : svN d F V) {j : Nat} (hj : j < R.M) : V (128 + j) * rDT R = rAm R (lwt R j) * V 118 := by
  have eK : d.1.1 = R.K := by rw [e.1]
  have eM : d.1.2.1 = R.M := by rw [e.1]
  obtain ⟨s1, s2, s3, s4, s5⟩ := s
  have := s5 j (by omega)
  rw [eK, eM] at this s3
  rw [this, s3]
  exact an_ld hO h e s1 s2 hj
/-- all kinds at a port -/
theorem rAm_all (h : STD R) {p : Nat} (hp : p < 3) : rAm R (wpt R p (-1)) = ds_nS (fun k => rAm R (wpt R p (nI k))) R.K := by
  have hR := h.1
  have hM := hR.2.1
  have hK := hR.1
  unfold rAm
  rw [ds_nS_swap]
  refine ds_nS_congr fun q hq => ?_
  rw [ds_nS_mul]
  congr 1
  by_cases w : inN R q
  · have e3 : q = 3 * (q / 3) + q % 3 := by omega
    have a := wpt_all hR hp w.1 w.2
    rw [← e3] at a
    rw [a]
    refine ds_nS_congr fun k hk => ?_
    have b := wpt_one hR hp w.1 w.2 (show k < 3 by omega)
    rw [← e3] at b
    exact b.symm
  · rw [wpt_out hR w]
    have : ds_nS (fun k => wpt R p (nI k) q) R.K ≤ R.K * 0 := ds_nS_bd (fun k _ => by rw [wpt_out hR w]; exact Nat.le_refl 0)
    omega
theorem svN.s (hO : LOK d) (h : ROK R) (e : REL d R) (s : svN d F V) {p : Nat} (hp : p < R.P) : ds_nS (fun k => V (119 + (p * R.K + k))) R.K * rDT R = rAm R (wpt R p (-1)) * V 118 := by
  have hP := h.2.2.1
  rw [rAm_all (s.std hO h e) (by omega), ← ds_nS_mul, ← ds_nS_mul]
  exact ds_nS_congr fun k hk => s.o hO h e hp hk
theorem svN.pu (hO : LOK d) (h : ROK R) (e : REL d R) (s : svN d F V) {p k : Nat} (hp : p < R.P) (hk : k < R.K) (pt : Nat) : (if ds_nS (fun k => V (119 + (p * R.K + k))) R.K = 0 then (-1 : Int64) else lN (ppart (V (119 + (p * R.K + k))) (ds_nS (fun k => V (119 + (p * R.K + k))) R.K) pt)) = rpuV R p (nI k) pt := by
  have hd := s.dp hO
  have hD := ((s.std hO h e).d (rfd R)).2
  have a := s.o hO h e hp hk
  have b := s.s hO h e hp
  unfold rpuV
  generalize ds_nS (fun k => V (119 + (p * R.K + k))) R.K = vs at *
  generalize V (119 + (p * R.K + k)) = vk at *
  generalize rAm R (wpt R p (nI k)) = ak at *
  generalize rAm R (wpt R p (-1)) = as at *
  generalize rDT R = D at *
  generalize V 118 = dd at *
  have hz : vs = 0 ↔ as = 0 := by
    constructor
    · intro q
      rw [q, Nat.zero_mul] at b
      rcases Nat.mul_eq_zero.mp b.symm with w | w <;> omega
    · intro q
      rw [q, Nat.zero_mul] at b
      rcases Nat.mul_eq_zero.mp b with w | w <;> omega
  by_cases w : vs = 0
  · rw [if_pos w, if_pos (hz.mp w)]
  · rw [if_neg w, if_neg (fun q => w (hz.mpr q))]
    congr 1
    refine ppart_x (by omega) (by have := fun q => w (hz.mpr q); omega) ?_ pt
    refine Nat.eq_of_mul_eq_mul_right (Nat.mul_pos hD hd) ?_
    calc vk * as * (D * dd) = (vk * D) * (as * dd) := by grind
      _ = (ak * dd) * (vs * D) := by rw [a, b]
      _ = ak * vs * (D * dd) := by grind
theorem slp_x (hO : LOK d) (h : ROK R) (e : REL d R) (hA : RA d F (d.1.2.1 * d.1.1)) (hG : FG (d.1.2.1 * d.1.1) F) {j k o p : Nat} (hj : j < R.M) (hk : k < R.K) (ho : o + 1 < R.O j) (hp : p < R.P) (pt : Nat) : slp d F j k o p pt = rslV R j k o p pt := by
  have eK : d.1.1 = R.K := by rw [e.1]
  have eM : d.1.2.1 = R.M := by rw [e.1]
  have hM := h.2.1
  have hK := h.1
  have hP := h.2.2.1
  have hou := h.2.2.2.1 j hj
  have eO : d.2.1 j = R.O j := e.2.1 j hj
  have eJ : ∀ i, i < 9 → d.2.2.1 i = R.J i := e.2.2.1
  have hS : STD R := ⟨h, d, F, hO, e, hA, hG⟩
  have hD := (hS.d (rfd R)).2
  unfold slp slG rslV
  rw [eO, eJ _ (by omega), eJ _ (by omega), eK, eM]
  have hn9 : R.M * R.K ≤ 9 := Nat.mul_le_mul hM hK.2
  have hG' := hG
  rw [eK, eM] at hG'
  have hj1 := h.2.2.2.2.1 (3 * j + o) (by omega)
  have hj2 := h.2.2.2.2.1 (3 * j + (R.O j - 1)) (by omega)
  generalize R.J (3 * j + o) = g1 at *
  generalize R.J (3 * j + (R.O j - 1)) = g2 at *
  have hf0 : ∀ r, r < R.M * R.K → rhsS d g1 g2 k r (R.M * R.K + 0) = d.2.2.2.2.2.2 r := fun r _ => by
    unfold rhsS
    rw [eK, eM, if_pos (by omega)]
  have hf1 : ∀ to, to = g1.toInt.toNat → 0 ≤ g1.toInt → ∀ r, r < R.M * R.K → rhsS d g1 g2 k r (R.M * R.K + 1) = if r = to * R.K + k then 1 else 0 := fun to hto hg r _ => by
    unfold rhsS gramF
    rw [eK, eM, if_neg (by omega), if_pos rfl, ← hto]
    by_cases w : r = to * R.K + k
    · rw [if_pos ⟨hg, w⟩, if_pos w]
    · rw [if_neg (fun z => w z.2), if_neg w]
  have hf2 : ∀ to, to = g2.toInt.toNat → 0 ≤ g2.toInt → ∀ r, r < R.M * R.K → rhsS d g1 g2 k r (R.M * R.K + 2) = if r = to * R.K + k then 1 else 0 := fun to hto hg r _ => by
    unfold rhsS gramF
    rw [eK, eM, if_neg (by omega), if_neg (by omega), ← hto]
    by_cases w : r = to * R.K + k
    · rw [if_pos ⟨hg, w⟩, if_pos w]
    · rw [if_neg (fun z => w z.2), if_neg w]
  generalize rhsS d g1 g2 k = f at *
  have hdp := am_d (f := f) hG' hn9
  have hdt : 0 < dt F (R.M * R.K) f := by unfold dt; omega
  have reach : ∀ (g : Int32) (q : Nat), jOK R.M R.P g → (0 ≤ g.toInt → ∀ r, r < R.M * R.K → f r (R.M * R.K + q) = if r = g.toInt.toNat * R.K + k then 1 else 0) → rchz d F (dt F (R.M * R.K) f) (zs F (R.M * R.K) f q) g p (R.M * R.K) * rDT R = rRch R g k p * dt F (R.M * R.K) f := fun g q hg hf => by
    unfold rchz rRch
    rw [eK]
    by_cases w : 0 ≤ g.toInt
    · have hto := (j_nn hg hM w).1
      rw [if_neg (by omega), if_pos w, if_pos w]
      exact an_re hO h e hA hG hto hk hp (hf w)
    · rw [if_neg w, if_neg w]
      by_cases w2 : g.toInt = -2 - (p : Int)
      · rw [if_pos w2, if_pos w2]; exact Nat.mul_comm _ _
      · rw [if_neg w2, if_neg w2, Nat.zero_mul, Nat.zero_mul]
  exact sgd_x hdt hD (reach g1 1 hj1 (fun w => hf1 _ rfl w)) (reach g2 2 hj2 (fun w => hf2 _ rfl w)) (an_ps hO h e hA hG hf0 hj hk) pt
/-- does it bring so many grams: the class's way and the reference's -/
theorem brg_x (hO : LOK d) (h : ROK R) (e : REL d R) {k g : Nat} (hk : k < R.K) (hP : 1 ≤ R.P) : (brg d k g → rbr R k g) ∧ (nbrg d k g → ¬ rbr R k g) := by
  have eK : d.1.1 = R.K := by rw [e.1]
  have eM : d.1.2.1 = R.M := by rw [e.1]
  have key : ∀ F, RA d F (d.1.2.1 * d.1.1) → FG (d.1.2.1 * d.1.1) F → (shortF d F k g ↔ rAm R (wpt R 0 (nI k)) / rDT R < g) := fun F hA hG => by
    have hS : STD R := ⟨h, d, F, hO, e, hA, hG⟩
    have hD := (hS.d (rfd R)).2
    have a := an_out hO h e hA hG (show 0 < R.P by omega) hk
    have hn9 : R.M * R.K ≤ 9 := Nat.mul_le_mul h.2.1 h.1.2
    have hG' := hG
    rw [eK, eM] at hG'
    have hdp := am_d (f := f0 d) hG' hn9
    have hdt : 0 < dt F (R.M * R.K) (f0 d) := by unfold dt; omega
    unfold shortF
    rw [eK, eM]
    have b := (pp_div hdt hD a).1
    rw [← b]
    exact (Nat.div_lt_iff_lt_mul hdt).symm
  constructor
  · rintro ⟨hs, F, hA, hG, hn⟩
    refine ⟨(rStd_iff hO h e).mpr hs, ?_⟩
    have := (key F hA hG).mpr
    rcases Nat.lt_or_ge (rAm R (wpt R 0 (nI k)) / rDT R) g with w | w
    · exact absurd (this w) hn
    · exact w
  · rintro (hs | ⟨F, hA, hG, hn⟩) hr
    · exact hs ((rStd_iff hO h e).mp hr.1)
    · have := (key F hA hG).mp hn
      have := hr.2
      omega
end AN2
