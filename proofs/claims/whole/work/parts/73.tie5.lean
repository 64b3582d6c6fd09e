/-! The reference's way to see what gets away. -/
def rgoK (R : RD) (st : Nat → Bool) (j k o : Nat) : Nat → Bool
  | 0 => false
  | n + 1 => rgoK R st j k o n || (decide (0 < wy R j k o n) && (decide ((R.J (3 * j + o)).toInt < 0) || st (3 * (R.J (3 * j + o)).toInt.toNat + n)))
def rgo (R : RD) (st : Nat → Bool) (j k : Nat) : Nat → Bool
  | 0 => false
  | n + 1 => rgo R st j k n || rgoK R st j k n R.K
def rsp1 (R : RD) (st : Nat → Bool) (j k : Nat) : Nat → Bool := if rgo R st j k (R.O j) = true then va_up st (3 * j + k) true else st
def rspK (R : RD) (st : Nat → Bool) (j : Nat) : Nat → Nat → Bool
  | 0 => st
  | k + 1 => rsp1 R (rspK R st j k) j k
def rspM (R : RD) (st : Nat → Bool) : Nat → Nat → Bool
  | 0 => st
  | j + 1 => rspK R (rspM R st j) j R.K
def rrn (R : RD) : Nat → Nat → Bool
  | 0 => fun _ => false
  | n + 1 => rspM R (rrn R n) R.M
def rstk (R : RD) (j : Nat) : Prop := ∃ k, k < R.K ∧ rrn R 9 (3 * j + k) = false
theorem lvas_iff {d : LD} {st : Nat → Bool} {j k : Nat} : ∀ {n : Nat}, lvas d st j k n = true ↔ ∃ o, o < n ∧ 0 < d.2.2.2.1 (3 * (j * d.1.1 + k) + o) ∧ ((d.2.2.1 (3 * j + o)).toInt < 0 ∨ st ((d.2.2.1 (3 * j + o)).toInt.toNat * d.1.1 + k) = true)
  | 0 => ⟨(fun h => by cases h), (fun ⟨o, h, _⟩ => absurd h (by omega))⟩
  | n + 1 => ⟨lvas_ex, fun ⟨o, h1, h2, h3⟩ => by
    show (lvas d st j k n || (decide (0 < d.2.2.2.1 (3 * (j * d.1.1 + k) + n)) && (decide ((d.2.2.1 (3 * j + n)).toInt < 0) || st ((d.2.2.1 (3 * j + n)).toInt.toNat * d.1.1 + k)))) = true
    rcases Nat.lt_or_ge o n with q | q
    · rw [lvas_iff.mpr ⟨o, q, h2, h3⟩]; rfl
    · rw [show o = n by omega] at h2 h3
      rw [decide_eq_true h2, Bool.true_and]
      rcases h3 with w | w
      · rw [decide_eq_true w, Bool.true_or, Bool.or_true]
      · rw [w, Bool.or_true, Bool.or_true]⟩
theorem rgoK_iff {R : RD} {st : Nat → Bool} {j k o : Nat} : ∀ {n : Nat}, rgoK R st j k o n = true ↔ ∃ k2, k2 < n ∧ 0 < wy R j k o k2 ∧ ((R.J (3 * j + o)).toInt < 0 ∨ st (3 * (R.J (3 * j + o)).toInt.toNat + k2) = true)
  | 0 => ⟨(fun h => by cases h), (fun ⟨o, h, _⟩ => absurd h (by omega))⟩
  | n + 1 => by
    show (rgoK R st j k o n || (decide (0 < wy R j k o n) && (decide ((R.J (3 * j + o)).toInt < 0) || st (3 * (R.J (3 * j + o)).toInt.toNat + n)))) = true ↔ _
    rw [Bool.or_eq_true, Bool.and_eq_true, Bool.or_eq_true, decide_eq_true_iff, decide_eq_true_iff, rgoK_iff]
    constructor
    · rintro (⟨k2, h1, h2⟩ | ⟨h1, h2⟩)
      · exact ⟨k2, by omega, h2⟩
      · exact ⟨n, by omega, h1, h2⟩
    · rintro ⟨k2, h1, h2, h3⟩
      rcases Nat.lt_or_ge k2 n with q | q
      · exact Or.inl ⟨k2, q, h2, h3⟩
      · rw [show k2 = n by omega] at h2 h3
        exact Or.inr ⟨h2, h3⟩
theorem rgo_iff {R : RD} {st : Nat → Bool} {j k : Nat} : ∀ {n : Nat}, rgo R st j k n = true ↔ ∃ o k2, o < n ∧ k2 < R.K ∧ 0 < wy R j k o k2 ∧ ((R.J (3 * j + o)).toInt < 0 ∨ st (3 * (R.J (3 * j + o)).toInt.toNat + k2) = true)
  | 0 => ⟨(fun h => by cases h), (fun ⟨o, _, h, _⟩ => absurd h (by omega))⟩
  | n + 1 => by
    show (rgo R st j k n || rgoK R st j k n R.K) = true ↔ _
    rw [Bool.or_eq_true, rgo_iff, rgoK_iff]
    constructor
    · rintro (⟨o, k2, h1, h2⟩ | ⟨k2, h1, h2⟩)
      · exact ⟨o, k2, by omega, h2⟩
      · exact ⟨n, k2, by omega, h1, h2⟩
    · rintro ⟨o, k2, h0, h1, h2, h3⟩
      rcases Nat.lt_or_ge o n with q | q
      · exact Or.inl ⟨o, k2, q, h1, h2, h3⟩
      · rw [show o = n by omega] at h2 h3
        exact Or.inr ⟨k2, h1, h2, h3⟩
theorem rwh_pos {R : RD} (h : ROK R) {j k : Nat} (hj : j < 3) (hk : k < 3) : 0 < rwh R j k := by
  have hc := h.2.2.2.2.2.2.2.1 (3 * j + k) (by omega)
  have hK := h.1
  have com : ∀ k, k < 3 → 0 < rcom R j k := fun k hk => by
    have b0 := (h.2.2.2.2.2.1 (2 * (3 * j + k)) (by omega)).1
    have b1 := (h.2.2.2.2.2.1 (2 * (3 * j + k) + 1) (by omega)).1
    exact Nat.mul_pos (by omega) (by omega)
  unfold rwh
  refine Nat.mul_pos (Nat.mul_pos (by omega) (com k hk)) ?_
  unfold roth
  by_cases w : 0 < R.C (3 * j + k)
  · rw [if_pos w]; exact com _ (by omega)
  · rw [if_neg w]; decide
theorem wy_pos {d : LD} {R : RD} (h : ROK R) (e : REL d R) {j k o k2 : Nat} (hj : j < R.M) (hk : k < R.K) (ho : o < R.O j) (hk2 : k2 < R.K) : 0 < wy R j k o k2 ↔ 0 < cU d j k o k2 := by
  have h1 := wy_eq h e hj hk ho hk2
  have h2 := rwh_pos h (j := j) (k := k) (by have := h.2.1; omega) (by have := h.1; omega)
  constructor
  · intro q
    rcases Nat.eq_zero_or_pos (cU d j k o k2) with w | w
    · rw [w, Nat.mul_zero] at h1; omega
    · exact w
  · intro q
    rcases Nat.eq_zero_or_pos (wy R j k o k2) with w | w
    · rw [w, Nat.mul_zero] at h1
      have := Nat.mul_pos h2 q
      omega
    · exact w
/-- the same rows are marked -/
def sameS (R : RD) (s t : Nat → Bool) : Prop := ∀ j k, j < R.M → k < R.K → s (j * R.K + k) = t (3 * j + k)
theorem spr_same {d : LD} {R : RD} (hO : LOK d) (h : ROK R) (e : REL d R) {s t : Nat → Bool} (hs : sameS R s t) {j k : Nat} (hj : j < R.M) (hk : k < R.K) : sameS R (spr1 d s j k) (rsp1 R t j k) := by
  obtain ⟨e1, e2, e3, e4, e5, -⟩ := id e
  have eK : d.1.1 = R.K := by rw [e1]
  have eM : d.1.2.1 = R.M := by rw [e1]
  have hM3 := h.2.1
  have hK3 := h.1
  have hrow := row_lt hK3.2 hM3 hj hk
  have hbe := hO.2.2.2.2.2.2.2.1 _ hrow
  obtain ⟨c1, c2, -⟩ := e5 j k hj hk
  have hc := h.2.2.2.2.2.2.2.1 (3 * j + k) (by omega)
  have eo := e2 j hj
  have hou := h.2.2.2.1 j hj
  -- when it is crushed it becomes another kind
  have hne : 0 < d.2.2.2.2.1 (j * R.K + k) → d.2.2.2.2.2.1 (j * R.K + k) ≠ k := fun q => by
    rw [c2]
    refine h.2.2.2.2.2.2.2.2.1 j k (by omega) (by omega) ?_
    rcases Nat.eq_zero_or_pos (R.C (3 * j + k)) with w | w
    · rw [c1, w] at q
      unfold rU at q
      omega
    · exact w
  have jb : ∀ o, o < R.O j → ¬ (R.J (3 * j + o)).toInt < 0 → (R.J (3 * j + o)).toInt.toNat < R.M := fun o ho q => by
    have := h.2.2.2.2.1 (3 * j + o) (by omega)
    unfold jOK at this
    omega
  -- the condition of the class
  have hcond : (spr1 d s j k = va_up s (j * R.K + k) true ∨ spr1 d s j k = va_up (va_up s (j * R.K + k) true) (j * R.K + k) true) ∧ ((d.2.2.2.2.1 (j * R.K + k) < 27720 ∧ lvas d s j k (d.2.1 j) = true) ∨ (0 < d.2.2.2.2.1 (j * R.K + k) ∧ lvas d s j (d.2.2.2.2.2.1 (j * R.K + k)) (d.2.1 j) = true)) ∨ spr1 d s j k = s ∧ ¬ ((d.2.2.2.2.1 (j * R.K + k) < 27720 ∧ lvas d s j k (d.2.1 j) = true) ∨ (0 < d.2.2.2.2.1 (j * R.K + k) ∧ lvas d s j (d.2.2.2.2.2.1 (j * R.K + k)) (d.2.1 j) = true)) := by
    unfold spr1 spr1a
    rw [eK]
    by_cases w : d.2.2.2.2.1 (j * R.K + k) < 27720 ∧ lvas d s j k (d.2.1 j) = true
    · rw [if_pos w]
      by_cases w2 : 0 < d.2.2.2.2.1 (j * R.K + k) ∧ lvas d (va_up s (j * R.K + k) true) j (d.2.2.2.2.2.1 (j * R.K + k)) (d.2.1 j) = true
      · rw [if_pos w2]; exact Or.inl ⟨Or.inr rfl, Or.inl w⟩
      · rw [if_neg w2]; exact Or.inl ⟨Or.inl rfl, Or.inl w⟩
    · rw [if_neg w]
      by_cases w2 : 0 < d.2.2.2.2.1 (j * R.K + k) ∧ lvas d s j (d.2.2.2.2.2.1 (j * R.K + k)) (d.2.1 j) = true
      · rw [if_pos w2]; exact Or.inl ⟨Or.inl rfl, Or.inr w2⟩
      · rw [if_neg w2]; exact Or.inr ⟨rfl, fun q => q.elim w w2⟩
  have hgo : rgo R t j k (R.O j) = true ↔ ((d.2.2.2.2.1 (j * R.K + k) < 27720 ∧ lvas d s j k (d.2.1 j) = true) ∨ (0 < d.2.2.2.2.1 (j * R.K + k) ∧ lvas d s j (d.2.2.2.2.2.1 (j * R.K + k)) (d.2.1 j) = true)) := by
    rw [rgo_iff, lvas_iff, lvas_iff, eo]
    rw [eK]
    constructor
    · rintro ⟨o, k2, ho, hk2, hw, hto⟩
      rw [wy_pos h e hj hk ho hk2] at hw
      have hj9 := e3 (3 * j + o) (by omega)
      have hto2 : (d.2.2.1 (3 * j + o)).toInt < 0 ∨ s ((d.2.2.1 (3 * j + o)).toInt.toNat * R.K + k2) = true := by
        rw [hj9]
        by_cases q : (R.J (3 * j + o)).toInt < 0
        · exact Or.inl q
        · rcases hto with w | w
          · exact Or.inl w
          · exact Or.inr (by rw [hs _ _ (jb o ho q) hk2]; exact w)
      unfold cU at hw
      rw [eK] at hw
      by_cases w1 : k2 = k
      · by_cases w2 : 0 < (27720 - d.2.2.2.2.1 (j * R.K + k)) * d.2.2.2.1 (3 * (j * R.K + k) + o)
        · refine Or.inl ⟨?_, o, ho, Nat.pos_of_mul_pos_left w2, by rw [← w1]; exact hto2⟩
          have := Nat.pos_of_mul_pos_right w2
          omega
        · rw [if_pos w1] at hw
          by_cases w3 : k2 = d.2.2.2.2.2.1 (j * R.K + k)
          · rw [if_pos w3] at hw
            have w4 : 0 < d.2.2.2.2.1 (j * R.K + k) * d.2.2.2.1 (3 * (j * R.K + k2) + o) := by omega
            exact absurd (w3.symm.trans w1) (hne (Nat.pos_of_mul_pos_right w4))
          · rw [if_neg w3] at hw; omega
      · rw [if_neg w1] at hw
        by_cases w3 : k2 = d.2.2.2.2.2.1 (j * R.K + k)
        · rw [if_pos w3] at hw
          have w4 : 0 < d.2.2.2.2.1 (j * R.K + k) * d.2.2.2.1 (3 * (j * R.K + k2) + o) := by omega
          exact Or.inr ⟨Nat.pos_of_mul_pos_right w4, o, ho, by rw [← w3]; exact Nat.pos_of_mul_pos_left w4, by rw [← w3]; exact hto2⟩
        · rw [if_neg w3] at hw; omega
    · have back : ∀ o k2, o < R.O j → k2 < R.K → ((d.2.2.1 (3 * j + o)).toInt < 0 ∨ s ((d.2.2.1 (3 * j + o)).toInt.toNat * R.K + k2) = true) → ((R.J (3 * j + o)).toInt < 0 ∨ t (3 * (R.J (3 * j + o)).toInt.toNat + k2) = true) := fun o k2 ho hk2 q => by
        rw [e3 (3 * j + o) (by omega)] at q
        by_cases w : (R.J (3 * j + o)).toInt < 0
        · exact Or.inl w
        · rcases q with q | q
          · exact Or.inl q
          · exact Or.inr (by rw [← hs _ _ (jb o ho w) hk2]; exact q)
      rintro (⟨hcr, o, ho, hsh, hto⟩ | ⟨hcr, o, ho, hsh, hto⟩)
      · refine ⟨o, k, ho, hk, ?_, back o k ho hk hto⟩
        rw [wy_pos h e hj hk ho hk]
        unfold cU
        rw [if_pos rfl, eK]
        exact Nat.lt_of_lt_of_le (Nat.mul_pos (by omega) hsh) (Nat.le_add_right _ _)
      · have hb2 : d.2.2.2.2.2.1 (j * R.K + k) < R.K := by rw [eK] at hbe; exact hbe
        refine ⟨o, _, ho, hb2, ?_, back o _ ho hb2 hto⟩
        rw [wy_pos h e hj hk ho hb2]
        unfold cU
        rw [eK, if_pos (rfl : d.2.2.2.2.2.1 (j * R.K + k) = d.2.2.2.2.2.1 (j * R.K + k))]
        exact Nat.lt_of_lt_of_le (Nat.mul_pos hcr hsh) (Nat.le_add_left _ _)
  have upd : ∀ u : Nat → Bool, (u = va_up s (j * R.K + k) true ∨ u = va_up (va_up s (j * R.K + k) true) (j * R.K + k) true) → sameS R u (va_up t (3 * j + k) true) := fun u hu j' k' hj' hk' => by
    have e1 : u (j' * R.K + k') = va_up s (j * R.K + k) true (j' * R.K + k') := by
      rcases hu with q | q
      · rw [q]
      · rw [q]
        by_cases w : j' * R.K + k' = j * R.K + k
        · rw [w, va_up_self, va_up_self]
        · rw [va_up_ne _ _ w]
    rw [e1]
    by_cases w : j' * R.K + k' = j * R.K + k
    · obtain ⟨q1, q2⟩ := row_inj (K := R.K) hk hk' w
      rw [q1, q2, va_up_self, va_up_self]
    · have w2 : 3 * j' + k' ≠ 3 * j + k := fun q => w (by
        have a1 : j' = j := by omega
        have a2 : k' = k := by omega
        rw [a1, a2])
      rw [va_up_ne _ _ w, va_up_ne _ _ w2]
      exact hs j' k' hj' hk'
  unfold rsp1
  rcases hcond with ⟨hu, hq⟩ | ⟨hu, hq⟩
  · rw [if_pos (hgo.mpr hq)]
    exact upd _ hu
  · rw [if_neg (fun q => hq (hgo.mp q)), hu]
    exact hs
theorem sprK_same {d : LD} {R : RD} (hO : LOK d) (h : ROK R) (e : REL d R) {s t : Nat → Bool} (hs : sameS R s t) {j : Nat} (hj : j < R.M) : ∀ n, n ≤ R.K → sameS R (sprK d s j n) (rspK R t j n)
  | 0, _ => hs
  | n + 1, hn => spr_same hO h e (sprK_same hO h e hs hj n (by omega)) hj (by omega)
theorem sprM_same {d : LD} {R : RD} (hO : LOK d) (h : ROK R) (e : REL d R) {s t : Nat → Bool} (hs : sameS R s t) : ∀ n, n ≤ R.M → sameS R (sprM d s n) (rspM R t n)
  | 0, _ => hs
  | n + 1, hn => by
    have eK : d.1.1 = R.K := by rw [e.1]
    show sameS R (sprK d (sprM d s n) n d.1.1) (rspK R (rspM R t n) n R.K)
    rw [eK]
    exact sprK_same hO h e (sprM_same hO h e hs n (by omega)) (by omega) R.K (Nat.le_refl _)
theorem rnds_same {d : LD} {R : RD} (hO : LOK d) (h : ROK R) (e : REL d R) : ∀ n, sameS R (rnds d n) (rrn R n)
  | 0 => fun _ _ _ _ => rfl
  | n + 1 => by
    have eM : d.1.2.1 = R.M := by rw [e.1]
    show sameS R (sprM d (rnds d n) d.1.2.1) (rspM R (rrn R n) R.M)
    rw [eM]
    exact sprM_same hO h e (rnds_same hO h e n) R.M (Nat.le_refl _)
theorem stk_same {d : LD} {R : RD} (hO : LOK d) (h : ROK R) (e : REL d R) {j : Nat} (hj : j < R.M) : stk d j ↔ rstk R j := by
  have eK : d.1.1 = R.K := by rw [e.1]
  have hs := rnds_same hO h e 9
  unfold stk rstk
  rw [eK]
  constructor
  · rintro ⟨k, hk, q⟩
    exact ⟨k, hk, by rw [← hs j k hj hk]; exact q⟩
  · rintro ⟨k, hk, q⟩
    exact ⟨k, hk, by rw [hs j k hj hk]; exact q⟩
