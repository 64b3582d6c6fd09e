section RB12
variable {l : Launch} {D : va_G} {ca : Nat → ClassId}
theorem ix93 (o k q : Nat) : (9 : Int32) * ((3 : Int32) * nI o + nI k) + nI q = nI (9 * (3 * o + k) + q) := by
  have e1 : (3 : Int32) * nI o = nI (3 * o) := pk_mul 3 o
  rw [e1, nI_add]
  have e2 : (9 : Int32) * nI (3 * o + k) = nI (9 * (3 * o + k)) := pk_mul 9 _
  rw [e2, nI_add]
abbrev pL (k : Nat) : Prop := 17 ≤ k ∧ k ≤ 19
def wcg (R : RD) (j k o : Nat) (h : Nat → Nat) (t : Nat) : Nat := if t / 27 < o then wy R j k (t / 27) (t / 9 % 3) else if t / 27 = o then h (t / 9 % 3) else 0
def tcg (R : RD) (j k o s : Nat) (t : Nat) : Nat := ds_nS (fun o => if (R.J (3 * j + o)).toInt = ((t / 27 : Nat) : Int) then wy R j k o (t / 9 % 3) else 0) o + if (R.J (3 * j + o)).toInt = ((t / 27 : Nat) : Int) ∧ t / 9 % 3 < s then wy R j k o (t / 9 % 3) else 0
def LN (R : RD) (rd : Nat → Nat) (m0 : jm_M) (j k : Nat) (W T : Nat → Nat) (m : jm_M) : Prop :=
  FM rd pL m0 m ∧ m.2.2.2.1 (rd 17) = va_up (m0.2.2.2.1 (rd 17)) (3 * j + k) (lN (rwh R j k)) ∧ (∀ t, t < 81 → m.2.2.2.1 (rd 19) t = if t % 9 = 3 * j + k then lN (W t) else m0.2.2.2.1 (rd 19) t) ∧ ∀ t, t < 81 → m.2.2.2.1 (rd 18) t = if t % 9 = 3 * j + k then lN (T t) else m0.2.2.2.1 (rd 18) t
theorem LN.w {R : RD} {rd : Nat → Nat} {m0 m : jm_M} {j k : Nat} {W T W' : Nat → Nat} (S : MST m rd) (h : LN R rd m0 j k W T m) {i : Nat} (hi : i < 81) (hq : i % 9 = 3 * j + k) {x : Int64} (hx : x = lN (W' i)) (hW : ∀ t, t < 81 → t % 9 = 3 * j + k → t ≠ i → W' t = W t) : LN R rd m0 j k W' T (uJ m (rd 19) i x) := by
  have k19 : mkin 19 := Or.inr (Or.inl (by decide))
  have k18 : mkin 18 := Or.inr (Or.inl (by decide))
  have k17 : mkin 17 := Or.inr (Or.inl (by decide))
  obtain ⟨h1, h2, h3, h4⟩ := h
  refine ⟨h1.tr (FM.uJ k19 (by decide)), ?_, fun t ht => ?_, fun t ht => ?_⟩
  · show va_up m.2.2.2.1 (rd 19) _ (rd 17) = _
    rw [va_up_ne _ _ (S.ne k17 k19 (by decide))]; exact h2
  · show va_up m.2.2.2.1 (rd 19) (va_up (m.2.2.2.1 (rd 19)) i x) (rd 19) t = _
    rw [va_up_self]
    by_cases e : t = i
    · subst e; rw [va_up_self, if_pos hq, hx]
    · rw [va_up_ne _ _ e, h3 t ht]
      by_cases q : t % 9 = 3 * j + k
      · rw [if_pos q, if_pos q, hW t ht q e]
      · rw [if_neg q, if_neg q]
  · show va_up m.2.2.2.1 (rd 19) _ (rd 18) t = _
    rw [va_up_ne _ _ (S.ne k18 k19 (by decide))]; exact h4 t ht
theorem LN.t {R : RD} {rd : Nat → Nat} {m0 m : jm_M} {j k : Nat} {W T T' : Nat → Nat} (S : MST m rd) (h : LN R rd m0 j k W T m) {i : Nat} (hi : i < 81) (hq : i % 9 = 3 * j + k) {x : Int64} (hx : x = lN (T' i)) (hT : ∀ t, t < 81 → t % 9 = 3 * j + k → t ≠ i → T' t = T t) : LN R rd m0 j k W T' (uJ m (rd 18) i x) := by
  have k19 : mkin 19 := Or.inr (Or.inl (by decide))
  have k18 : mkin 18 := Or.inr (Or.inl (by decide))
  have k17 : mkin 17 := Or.inr (Or.inl (by decide))
  obtain ⟨h1, h2, h3, h4⟩ := h
  refine ⟨h1.tr (FM.uJ k18 (by decide)), ?_, fun t ht => ?_, fun t ht => ?_⟩
  · show va_up m.2.2.2.1 (rd 18) _ (rd 17) = _
    rw [va_up_ne _ _ (S.ne k17 k18 (by decide))]; exact h2
  · show va_up m.2.2.2.1 (rd 18) _ (rd 19) t = _
    rw [va_up_ne _ _ (S.ne k19 k18 (by decide))]; exact h3 t ht
  · show va_up m.2.2.2.1 (rd 18) (va_up (m.2.2.2.1 (rd 18)) i x) (rd 18) t = _
    rw [va_up_self]
    by_cases e : t = i
    · subst e; rw [va_up_self, if_pos hq, hx]
    · rw [va_up_ne _ _ e, h4 t ht]
      by_cases q : t % 9 = 3 * j + k
      · rw [if_pos q, if_pos q, hT t ht q e]
      · rw [if_neg q, if_neg q]
theorem LN.cg {R : RD} {rd : Nat → Nat} {m0 m : jm_M} {j k : Nat} {W T W' T' : Nat → Nat} (h : LN R rd m0 j k W T m) (hW : ∀ t, t < 81 → t % 9 = 3 * j + k → W' t = W t) (hT : ∀ t, t < 81 → t % 9 = 3 * j + k → T' t = T t) : LN R rd m0 j k W' T' m := by
  obtain ⟨h1, h2, h3, h4⟩ := h
  refine ⟨h1, h2, fun t ht => ?_, fun t ht => ?_⟩
  · rw [h3 t ht]
    by_cases q : t % 9 = 3 * j + k
    · rw [if_pos q, if_pos q, hW t ht q]
    · rw [if_neg q, if_neg q]
  · rw [h4 t ht]
    by_cases q : t % 9 = 3 * j + k
    · rw [if_pos q, if_pos q, hT t ht q]
    · rw [if_neg q, if_neg q]
theorem ix93n {o k q : Nat} (hk : k < 3) (hq : q < 9) : (9 * (3 * o + k) + q) / 27 = o ∧ (9 * (3 * o + k) + q) / 9 % 3 = k ∧ (9 * (3 * o + k) + q) % 9 = q := by omega
theorem ix93x {t o k q : Nat} (hk : k < 3) (hq : q < 9) (h1 : t / 27 = o) (h2 : t / 9 % 3 = k) (h3 : t % 9 = q) : t = 9 * (3 * o + k) + q := by omega
theorem j_nn {M P : Nat} {x : Int32} (h : jOK M P x) (hM : M ≤ 3) : 0 ≤ x.toInt → x.toInt.toNat < M ∧ x = nI x.toInt.toNat := fun g => ⟨by
  unfold jOK at h; omega, i_of g⟩
theorem c_Mo_layNode {m0 : jm_M} {rd : Nat → Nat} {f j k : Nat} {R : RD} (S0 : MST m0 rd) (hV0 : MV m0 rd f R) (hf : f < 2) (hj : j < R.M) (hk : k < R.K) (hR : ROK R) (hw0 : ∀ t, t < 81 → t % 9 = 3 * j + k → m0.2.2.2.1 (rd 19) t = lN 0) (ht0 : ∀ t, t < 81 → t % 9 = 3 * j + k → m0.2.2.2.1 (rd 18) t = lN 0) : jm_C l D ca n_Mo_layNode [.ref (rd 0), .int (nI f), .int (nI j), .int (nI k)] m0 0 0 (fun v m' => v = none ∧ LN R rd m0 j k (wcg R j k (R.O j) (fun _ => 0)) (fun t => rtb R j k (t / 27) (t / 9 % 3)) m') := by
  refine jm_C_of (cd := cd_Mo_layNode) (ini := false) (by decide +kernel) ok_Mo_layNode (fun h => by cases h) (Nat.le_of_ble_eq_true rfl) ?_
  intro X hX
  have hM := hR.2.1
  have hK := hR.1
  have hou := hR.2.2.2.1 j hj
  have hq9 : 3 * j + k < 9 := by omega
  have o0 : ∀ {m : jm_M}, MST m rd → jm_ok m (rd 0) 6 := fun S => S.ok (Or.inl (by decide))
  have k3 : mkin 3 := Or.inl (by decide)
  have k4 : mkin 4 := Or.inl (by decide)
  have k7 : mkin 7 := Or.inl (by decide)
  have k8 : mkin 8 := Or.inl (by decide)
  have k9 : mkin 9 := Or.inl (by decide)
  have k19 : mkin 19 := Or.inr (Or.inl (by decide))
  have k18 : mkin 18 := Or.inr (Or.inl (by decide))
  have k17 : mkin 17 := Or.inr (Or.inl (by decide))
  have hcr := hR.2.2.2.2.2.2.2.1 (3 * j + k) (by omega)
  have hne := hR.2.2.2.2.2.2.2.2.1 j k (by omega) (by omega)
  have hV : ∀ {m : jm_M} {W T : Nat → Nat}, LN R rd m0 j k W T m → MV m rd f R := fun h => hV0.fm S0 h.1 (fun k w => by omega)
  have ix3 : (3 : Int32) * nI f + nI j = nI (3 * f + j) := by
    have : (3 : Int32) * nI f = nI (3 * f) := pk_mul 3 f
    rw [this, nI_add]
  have ix9f : ∀ r, (9 : Int32) * nI f + nI r = nI (9 * f + r) := fun r => ix9 f r
  have ix9j : ∀ o, (9 : Int32) * nI f + (3 : Int32) * nI j + nI o = nI (9 * f + (3 * j + o)) := fun o => by
    have e1 : (3 : Int32) * nI j = nI (3 * j) := pk_mul 3 j
    rw [e1, ix9 f (3 * j), nI_add, Nat.add_assoc]
  generalize hq : 3 * j + k = q at *
  -- the inner loop
  have inner : ∀ (m : jm_M) (o : Nat), o < R.O j → 0 ≤ (R.J (3 * j + o)).toInt → ∀ (e s : Nat), s + e = 3 → LN R rd m0 j k (wcg R j k (o + 1) (fun _ => 0)) (tcg R j k o s) m →
      (∀ m', LN R rd m0 j k (wcg R j k (o + 1) (fun _ => 0)) (tcg R j k o 3) m' → X 273 [(0, .ref (rd 0)), (1, .int (nI f)), (2, .int (nI j)), (3, .int (nI k)), (4, .int (nI q)), (5, .long (lN (R.C q))), (7, .long (lN (R.E q))), (9, .int (nI (R.T q))), (10, .long (lN (rcom R j k))), (12, .long (lN (roth R j k))), (14, .int (nI o))] [] m' 0 0) →
      X 217 [(0, .ref (rd 0)), (1, .int (nI f)), (2, .int (nI j)), (3, .int (nI k)), (4, .int (nI q)), (5, .long (lN (R.C q))), (7, .long (lN (R.E q))), (9, .int (nI (R.T q))), (10, .long (lN (rcom R j k))), (12, .long (lN (roth R j k))), (14, .int (nI o)), (15, .int (R.J (3 * j + o))), (16, .int (nI s))] [] m 0 0 := by
    intro m o ho hJ e
    have hjj := j_nn (hR.2.2.2.2.1 (3 * j + o) (by omega)) hM hJ
    generalize hto : (R.J (3 * j + o)).toInt.toNat = to at *
    have hJn : (R.J (3 * j + o)).toInt = (to : Int) := by omega
    rw [hjj.2]
    revert m
    induction e with
    | zero =>
      intro m s hs h hnx
      have : s = 3 := by omega
      subst this
      refine jm_run hX [(273, [0, 1, 2, 3, 4, 5, 7, 9, 10, 12, 14])] 5 ?_
      refine And.intro (fun _ => hnx m h) (fun g => absurd (nI_le (Nat.le_refl 3) (by decide)) g)
    | succ e ih =>
      intro m s hs h hnx
      have S := h.1.S S0
      have hit := ix93n (o := to) (k := s) (q := q) (by omega) hq9
      have hiw := ix93n (o := o) (k := s) (q := q) (by omega) hq9
      have i1 : 9 * (3 * to + s) + q < 81 := by omega
      have i2 : 9 * (3 * o + s) + q < 81 := by omega
      refine jm_run hX [(217, [0, 1, 2, 3, 4, 5, 7, 9, 10, 12, 14, 15, 16])] 40 ?_
      refine And.intro (fun g => absurd (show nI 3 ≤ nI s from g) (nI_ge (by omega) (by omega))) (fun _ => ?_)
      refine And.intro (fun g => absurd (show nI to < 0 from g) (nI_pos (by omega))) (fun _ => ?_)
      have hin1 : ∀ {m : jm_M}, MST m rd → vp_in ((9 : Int32) * ((3 : Int32) * nI to + nI s) + nI q) (m.2.1 (rd 18)).2 := fun S => by rw [ix93]; exact vin_of (S.len k18) i1 (by decide)
      have hin2 : ∀ {m : jm_M}, MST m rd → vp_in ((9 : Int32) * ((3 : Int32) * nI o + nI s) + nI q) (m.2.1 (rd 19)).2 := fun S => by rw [ix93]; exact vin_of (S.len k19) i2 (by decide)
      refine And.intro (o0 S) ⟨some (rd 18), S.2.2 18 k18 (by decide), And.intro rfl (And.intro rfl (And.intro (S.ok k18) (And.intro (hin1 S) (And.intro (o0 S) ⟨some (rd 19), S.2.2 19 k19 (by decide), And.intro (S.ok k19) (And.intro (hin2 S) (And.intro (S.ok k18) (And.intro (hin1 S) ?_)))⟩))))⟩
      have ex : m.2.2.2.1 (rd 18) ((9 : Int32) * ((3 : Int32) * nI to + nI s) + nI q).toNatClampNeg + m.2.2.2.1 (rd 19) ((9 : Int32) * ((3 : Int32) * nI o + nI s) + nI q).toNatClampNeg = lN (tcg R j k o (s + 1) (9 * (3 * to + s) + q)) := by
        rw [ix93, ix93, nI_c (by omega), nI_c (by omega), h.2.2.2 _ i1, h.2.2.1 _ i2, hq, if_pos hit.2.2, if_pos hiw.2.2, lN_add]
        have w1 : wcg R j k (o + 1) (fun _ => 0) (9 * (3 * o + s) + q) = wy R j k o s := by
          unfold wcg; rw [hiw.1, hiw.2.1, if_pos (Nat.lt_succ_self o)]
        rw [w1]
        unfold tcg
        rw [hit.1, hit.2.1, if_neg (c := (R.J (3 * j + o)).toInt = (to : Int) ∧ s < s) (fun z => absurd z.2 (by omega)), if_pos (c := (R.J (3 * j + o)).toInt = (to : Int) ∧ s < s + 1) ⟨hJn, by omega⟩, Nat.add_zero]
      have h2 : LN R rd m0 j k (wcg R j k (o + 1) (fun _ => 0)) (tcg R j k o (s + 1)) (uJ m (rd 18) ((9 : Int32) * ((3 : Int32) * nI to + nI s) + nI q).toNatClampNeg (m.2.2.2.1 (rd 18) ((9 : Int32) * ((3 : Int32) * nI to + nI s) + nI q).toNatClampNeg + m.2.2.2.1 (rd 19) ((9 : Int32) * ((3 : Int32) * nI o + nI s) + nI q).toNatClampNeg)) := by
        rw [ex, ix93, nI_c (by omega)]
        refine h.t S i1 (by rw [hq]; exact hit.2.2) rfl (fun t ht g1 g2 => ?_)
        unfold tcg
        congr 1
        by_cases w : (R.J (3 * j + o)).toInt = ((t / 27 : Nat) : Int)
        · have : t / 9 % 3 ≠ s := fun w2 => g2 (ix93x (by omega) hq9 (by omega) w2 (by omega))
          by_cases w3 : t / 9 % 3 < s
          · rw [if_pos ⟨w, by omega⟩, if_pos ⟨w, w3⟩]
          · rw [if_neg (fun z => absurd z.2 (by omega)), if_neg (fun z => w3 z.2)]
        · rw [if_neg (fun z => w z.1), if_neg (fun z => w z.1)]
      have kk := ih _ (s + 1) (by omega) h2 hnx
      rw [← nI_1] at kk
      exact kk
  -- the outs
  have outer : ∀ (e o : Nat), o + e = R.O j → ∀ m, LN R rd m0 j k (wcg R j k o (fun _ => 0)) (tcg R j k o 0) m → X 99 [(0, .ref (rd 0)), (1, .int (nI f)), (2, .int (nI j)), (3, .int (nI k)), (4, .int (nI q)), (5, .long (lN (R.C q))), (7, .long (lN (R.E q))), (9, .int (nI (R.T q))), (10, .long (lN (rcom R j k))), (12, .long (lN (roth R j k))), (14, .int (nI o))] [] m 0 0 := by
    intro e
    induction e with
    | zero =>
      intro o hoe m h
      have S := h.1.S S0
      have hin3 : vp_in ((3 : Int32) * nI f + nI j) (m.2.1 (rd 3)).2 := by rw [ix3]; exact vin_of (S.len k3) (show 3 * f + j < 6 by omega) (by decide)
      have eo : m.2.2.1 (rd 3) ((3 : Int32) * nI f + nI j).toNatClampNeg = nI (R.O j) := by rw [ix3, nI_c (by omega), (hV h).2.2.2.1 j (by omega)]
      refine jm_run hX [] 20 ?_
      refine And.intro (o0 S) ⟨some (rd 3), S.2.2 3 k3 (by decide), And.intro (S.ok k3) (And.intro hin3 ?_)⟩
      refine And.intro (fun _ => ?_) (fun g => absurd (show m.2.2.1 (rd 3) ((3 : Int32) * nI f + nI j).toNatClampNeg ≤ nI o from by rw [eo]; exact nI_le (by omega) (by omega)) g)
      refine ⟨Nat.le_refl _, Nat.le_refl _, trivial, rfl, ?_⟩
      have ho : o = R.O j := by omega
      subst ho
      refine h.cg (fun t ht g => rfl) (fun t ht g => ?_)
      unfold tcg rtb
      rw [if_neg (c := _ ∧ t / 9 % 3 < 0) (fun z => absurd z.2 (by omega)), Nat.add_zero]
    | succ e ih =>
      intro o hoe m h
      have S := h.1.S S0
      have ho : o < R.O j := by omega
      have hin3 : vp_in ((3 : Int32) * nI f + nI j) (m.2.1 (rd 3)).2 := by rw [ix3]; exact vin_of (S.len k3) (show 3 * f + j < 6 by omega) (by decide)
      have eo : m.2.2.1 (rd 3) ((3 : Int32) * nI f + nI j).toNatClampNeg = nI (R.O j) := by rw [ix3, nI_c (by omega), (hV h).2.2.2.1 j (by omega)]
      -- from 273 on
      have k273 : ∀ m', LN R rd m0 j k (wcg R j k (o + 1) (fun _ => 0)) (tcg R j k (o + 1) 0) m' → X 273 [(0, .ref (rd 0)), (1, .int (nI f)), (2, .int (nI j)), (3, .int (nI k)), (4, .int (nI q)), (5, .long (lN (R.C q))), (7, .long (lN (R.E q))), (9, .int (nI (R.T q))), (10, .long (lN (rcom R j k))), (12, .long (lN (roth R j k))), (14, .int (nI o))] [] m' 0 0 := fun m' h' => by
        have kk := ih (o + 1) (by omega) m' h'
        rw [← nI_1] at kk
        refine jm_run hX [(99, [0, 1, 2, 3, 4, 5, 7, 9, 10, 12, 14])] 5 ?_
        exact kk
      -- from 196 on
      have k196 : ∀ m1, LN R rd m0 j k (wcg R j k (o + 1) (fun _ => 0)) (tcg R j k o 0) m1 → X 196 [(0, .ref (rd 0)), (1, .int (nI f)), (2, .int (nI j)), (3, .int (nI k)), (4, .int (nI q)), (5, .long (lN (R.C q))), (7, .long (lN (R.E q))), (9, .int (nI (R.T q))), (10, .long (lN (rcom R j k))), (12, .long (lN (roth R j k))), (14, .int (nI o))] [] m1 0 0 := fun m1 h1 => by
        have S1 := h1.1.S S0
        have hin4 : vp_in ((9 : Int32) * nI f + (3 : Int32) * nI j + nI o) (m1.2.1 (rd 4)).2 := by rw [ix9j]; exact vin_of (S1.len k4) (show 9 * f + (3 * j + o) < 18 by omega) (by decide)
        have ej : m1.2.2.1 (rd 4) ((9 : Int32) * nI f + (3 : Int32) * nI j + nI o).toNatClampNeg = R.J (3 * j + o) := by rw [ix9j, nI_c (by omega), (hV h1).2.2.2.2.1 _ (by omega)]
        have fin : ∀ m', LN R rd m0 j k (wcg R j k (o + 1) (fun _ => 0)) (tcg R j k o 3) m' → LN R rd m0 j k (wcg R j k (o + 1) (fun _ => 0)) (tcg R j k (o + 1) 0) m' := fun m' h' => h'.cg (fun t ht g => rfl) (fun t ht g => by
          unfold tcg
          rw [if_neg (c := _ ∧ t / 9 % 3 < 0) (fun z => absurd z.2 (by omega)), Nat.add_zero]
          show _ + _ = _
          congr 1
          dsimp only
          by_cases w : (R.J (3 * j + o)).toInt = ((t / 27 : Nat) : Int)
          · rw [if_pos w, if_pos ⟨w, Nat.mod_lt _ (by decide)⟩]
          · rw [if_neg w, if_neg (fun z => w z.1)])
        refine jm_run hX [(217, [0, 1, 2, 3, 4, 5, 7, 9, 10, 12, 14, 15, 16])] 20 ?_
        refine And.intro (o0 S1) ⟨some (rd 4), S1.2.2 4 k4 (by decide), And.intro (S1.ok k4) (And.intro hin4 ?_)⟩
        by_cases hJ : 0 ≤ (R.J (3 * j + o)).toInt
        · have kk := inner m1 o ho hJ 3 0 (by omega) h1 (fun m' h' => k273 m' (fin m' h'))
          rw [← ej] at kk
          exact kk
        · have hJ2 : R.J (3 * j + o) < 0 := by rw [Int32.lt_iff_toInt_lt]; exact Int.not_le.mp hJ
          have kk : X 217 [(0, .ref (rd 0)), (1, .int (nI f)), (2, .int (nI j)), (3, .int (nI k)), (4, .int (nI q)), (5, .long (lN (R.C q))), (7, .long (lN (R.E q))), (9, .int (nI (R.T q))), (10, .long (lN (rcom R j k))), (12, .long (lN (roth R j k))), (14, .int (nI o)), (15, .int (R.J (3 * j + o))), (16, .int (nI 0))] [] m1 0 0 := by
            refine jm_run hX [(273, [0, 1, 2, 3, 4, 5, 7, 9, 10, 12, 14])] 20 ?_
            refine And.intro (fun g => absurd (show nI 3 ≤ nI 0 from g) (nI_ge (by omega) (by omega))) (fun _ => ?_)
            refine And.intro (fun _ => ?_) (fun g => absurd hJ2 g)
            refine k273 m1 (fin m1 (h1.cg (fun t ht g => rfl) (fun t ht g => ?_)))
            unfold tcg
            rw [if_neg (c := _ ∧ t / 9 % 3 < 0) (fun z => absurd z.2 (by omega)), if_neg (c := _ ∧ t / 9 % 3 < 3) (fun z => hJ (by rw [z.1]; omega))]
          rw [← ej] at kk
          exact kk
      -- the first store
      have hlast : ∀ t, wcg R j k (o + 1) (fun _ => 0) t = wcg R j k o (fun k2 => wy R j k o k2) t := fun t => by
        unfold wcg
        by_cases w : t / 27 < o
        · rw [if_pos w, if_pos (by omega)]
        · by_cases w2 : t / 27 = o
          · rw [if_neg w, if_pos w2, if_pos (by omega), w2]
          · rw [if_neg w, if_neg w2, if_neg (by omega)]; split <;> rfl
      have k152 : ∀ m1, LN R rd m0 j k (wcg R j k o (fun k2 => if k2 = k then (R.E q - R.C q) * roth R j k * rpart R j k o else 0)) (tcg R j k o 0) m1 → X 152 [(0, .ref (rd 0)), (1, .int (nI f)), (2, .int (nI j)), (3, .int (nI k)), (4, .int (nI q)), (5, .long (lN (R.C q))), (7, .long (lN (R.E q))), (9, .int (nI (R.T q))), (10, .long (lN (rcom R j k))), (12, .long (lN (roth R j k))), (14, .int (nI o))] [] m1 0 0 := fun m1 h1 => by
        have S1 := h1.1.S S0
        refine jm_run hX [(196, [0, 1, 2, 3, 4, 5, 7, 9, 10, 12, 14])] 60 ?_
        refine And.intro (fun g => ?_) (fun g => ?_)
        · have g : lg_cmp (lN (R.C q)) (lN 0) ≤ 0 := g
          rw [lg_cmp_le, pk_lLE (by omega) (by decide)] at g
          refine k196 m1 (h1.cg (fun t ht gt => ?_) (fun t ht gt => rfl))
          rw [hlast]
          have wyC : (fun k2 => wy R j k o k2) = fun k2 => if k2 = k then (R.E q - R.C q) * roth R j k * rpart R j k o else 0 := by
            funext k2
            unfold wy
            rw [hq, if_neg (c := 0 < R.C q ∧ _) (fun z => by omega), Nat.add_zero]
          rw [wyC]
        · have g : ¬ lg_cmp (lN (R.C q)) (lN 0) ≤ 0 := g
          rw [lg_cmp_le, pk_lLE (by omega) (by decide)] at g
          have gC : 0 < R.C q := by omega
          have hit := ix93n (o := o) (k := R.T q) (q := q) (by omega) hq9
          have i1 : 9 * (3 * o + R.T q) + q < 81 := by omega
          have hin1 : ∀ {m : jm_M}, MST m rd → vp_in ((9 : Int32) * ((3 : Int32) * nI o + nI (R.T q)) + nI q) (m.2.1 (rd 19)).2 := fun S => by rw [ix93]; exact vin_of (S.len k19) i1 (by decide)
          have kp := c_Mo_part (l := l) (D := D) (ca := ca) S1 (hV h1) hf hj (show R.T q < 3 by omega) ho hR
          refine And.intro (o0 S1) ⟨some (rd 19), S1.2.2 19 k19 (by decide), And.intro rfl (And.intro rfl (And.intro (S1.ok k19) (And.intro (hin1 S1) ?_)))⟩
          refine And.intro (o0 S1) (And.intro (Nat.le_of_ble_eq_true rfl) (And.intro (Nat.le_of_ble_eq_true rfl) ⟨0, 0, _, Nat.le_refl _, Nat.le_refl _, kp, fun v m' hqq => ?_⟩))
          obtain ⟨ee, rfl⟩ := hqq
          have ee := ee.symm
          subst ee
          refine And.intro (S1.ok k19) (And.intro (hin1 S1) ?_)
          have ex : m1.2.2.2.1 (rd 19) ((9 : Int32) * ((3 : Int32) * nI o + nI (R.T q)) + nI q).toNatClampNeg + lN (R.C q) * lN (rcom R j k) * lN (rpart R j (R.T q) o) = lN (wcg R j k o (fun k2 => wy R j k o k2) (9 * (3 * o + R.T q) + q)) := by
            rw [ix93, nI_c (by omega), h1.2.2.1 _ i1, hq, if_pos hit.2.2, lN_mul, lN_mul, lN_add]
            unfold wcg
            rw [hit.1, hit.2.1, if_neg (Nat.lt_irrefl o), if_neg (Nat.lt_irrefl o), if_pos rfl, if_pos rfl]
            unfold wy
            dsimp only
            rw [hq, if_pos (c := 0 < R.C q ∧ R.T q = R.T q) ⟨gC, rfl⟩]
          have h2 : LN R rd m0 j k (wcg R j k (o + 1) (fun _ => 0)) (tcg R j k o 0) (uJ m1 (rd 19) ((9 : Int32) * ((3 : Int32) * nI o + nI (R.T q)) + nI q).toNatClampNeg (m1.2.2.2.1 (rd 19) ((9 : Int32) * ((3 : Int32) * nI o + nI (R.T q)) + nI q).toNatClampNeg + lN (R.C q) * lN (rcom R j k) * lN (rpart R j (R.T q) o))) := by
            rw [ex, ix93, nI_c (by omega)]
            refine h1.w S1 i1 (by rw [hq]; exact hit.2.2) (by rw [hlast]) (fun t ht g1 g2 => ?_)
            rw [hlast]
            unfold wcg
            by_cases w : t / 27 < o
            · rw [if_pos w, if_pos w]
            · rw [if_neg w, if_neg w]
              by_cases w2 : t / 27 = o
              · rw [if_pos w2, if_pos w2]
                have : t / 9 % 3 ≠ R.T q := fun w2 => g2 (ix93x (by omega) hq9 (by omega) w2 (by omega))
                unfold wy
                dsimp only
                rw [hq, if_neg (c := 0 < R.C q ∧ _) (fun z => this z.2), Nat.add_zero]
              · rw [if_neg w2, if_neg w2]
          exact k196 _ h2
      have hit := ix93n (o := o) (k := k) (q := q) (by omega) hq9
      have i1 : 9 * (3 * o + k) + q < 81 := by omega
      have hin1 : ∀ {m : jm_M}, MST m rd → vp_in ((9 : Int32) * ((3 : Int32) * nI o + nI k) + nI q) (m.2.1 (rd 19)).2 := fun S => by rw [ix93]; exact vin_of (S.len k19) i1 (by decide)
      have kp := c_Mo_part (l := l) (D := D) (ca := ca) S (hV h) hf hj (show k < 3 by omega) ho hR
      refine jm_run hX [(152, [0, 1, 2, 3, 4, 5, 7, 9, 10, 12, 14])] 60 ?_
      refine And.intro (o0 S) ⟨some (rd 3), S.2.2 3 k3 (by decide), And.intro (S.ok k3) (And.intro hin3 ?_)⟩
      refine And.intro (fun g => absurd (show m.2.2.1 (rd 3) ((3 : Int32) * nI f + nI j).toNatClampNeg ≤ nI o from g) (by rw [eo]; exact nI_ge (by omega) (by omega))) (fun _ => ?_)
      refine And.intro (o0 S) ⟨some (rd 19), S.2.2 19 k19 (by decide), And.intro rfl (And.intro rfl (And.intro (S.ok k19) (And.intro (hin1 S) ?_)))⟩
      refine And.intro (o0 S) (And.intro (Nat.le_of_ble_eq_true rfl) (And.intro (Nat.le_of_ble_eq_true rfl) ⟨0, 0, _, Nat.le_refl _, Nat.le_refl _, kp, fun v m' hqq => ?_⟩))
      obtain ⟨ee, rfl⟩ := hqq
      have ee := ee.symm
      subst ee
      refine And.intro (S.ok k19) (And.intro (hin1 S) ?_)
      have ex : m.2.2.2.1 (rd 19) ((9 : Int32) * ((3 : Int32) * nI o + nI k) + nI q).toNatClampNeg + (lN (R.E q) - lN (R.C q)) * lN (roth R j k) * lN (rpart R j k o) = lN (wcg R j k o (fun k2 => if k2 = k then (R.E q - R.C q) * roth R j k * rpart R j k o else 0) (9 * (3 * o + k) + q)) := by
        rw [ix93, nI_c (by omega), h.2.2.1 _ i1, hq, if_pos hit.2.2, lN_sub hcr.2.2, lN_mul, lN_mul, lN_add]
        unfold wcg
        rw [hit.1, hit.2.1, if_neg (Nat.lt_irrefl o), if_neg (Nat.lt_irrefl o), if_pos rfl, if_pos rfl]
        dsimp only
        rw [if_pos rfl, Nat.zero_add]
      have h2 : LN R rd m0 j k (wcg R j k o (fun k2 => if k2 = k then (R.E q - R.C q) * roth R j k * rpart R j k o else 0)) (tcg R j k o 0) (uJ m (rd 19) ((9 : Int32) * ((3 : Int32) * nI o + nI k) + nI q).toNatClampNeg (m.2.2.2.1 (rd 19) ((9 : Int32) * ((3 : Int32) * nI o + nI k) + nI q).toNatClampNeg + (lN (R.E q) - lN (R.C q)) * lN (roth R j k) * lN (rpart R j k o))) := by
        rw [ex, ix93, nI_c (by omega)]
        refine h.w S i1 (by rw [hq]; exact hit.2.2) rfl (fun t ht g1 g2 => ?_)
        unfold wcg
        by_cases w : t / 27 < o
        · rw [if_pos w, if_pos w]
        · rw [if_neg w, if_neg w]
          by_cases w2 : t / 27 = o
          · rw [if_pos w2, if_pos w2]
            have : t / 9 % 3 ≠ k := fun w2 => g2 (ix93x (by omega) hq9 (by omega) w2 (by omega))
            dsimp only
            rw [if_neg this]
          · rw [if_neg w2, if_neg w2]
      exact k152 _ h2
  -- the start
  have hin7 : ∀ i, i = 7 ∨ i = 8 ∨ i = 9 → vp_in ((9 : Int32) * nI f + nI q) (m0.2.1 (rd i)).2 := fun i hi => by
    rw [ix9f]
    rcases hi with rfl | rfl | rfl
    · exact vin_of (S0.len k7) (show 9 * f + q < 18 by omega) (by decide)
    · exact vin_of (S0.len k8) (show 9 * f + q < 18 by omega) (by decide)
    · exact vin_of (S0.len k9) (show 9 * f + q < 18 by omega) (by decide)
  have hv := hV0.2.2.2.2.2.2 q hq9
  have e7 : m0.2.2.1 (rd 7) ((9 : Int32) * nI f + nI q).toNatClampNeg = nI (R.T q) := by rw [ix9f, nI_c (by omega)]; exact hv.1
  have e8 : (m0.2.2.1 (rd 8) ((9 : Int32) * nI f + nI q).toNatClampNeg).toInt64 = lN (R.C q) := by rw [ix9f, nI_c (by omega), hv.2.1]; exact nI_l (by omega)
  have e9 : (m0.2.2.1 (rd 9) ((9 : Int32) * nI f + nI q).toNatClampNeg).toInt64 = lN (R.E q) := by rw [ix9f, nI_c (by omega), hv.2.2.1]; exact nI_l (by omega)
  have eq3 : (3 : Int32) * nI j + nI k = nI q := by
    have : (3 : Int32) * nI j = nI (3 * j) := pk_mul 3 j
    rw [this, nI_add, hq]
  have k79 : X 79 [(0, .ref (rd 0)), (1, .int (nI f)), (2, .int (nI j)), (3, .int (nI k)), (4, .int (nI q)), (5, .long (lN (R.C q))), (7, .long (lN (R.E q))), (9, .int (nI (R.T q))), (10, .long (lN (rcom R j k)))] [.long (lN (roth R j k))] m0 0 0 := by
    refine jm_run hX [(99, [0, 1, 2, 3, 4, 5, 7, 9, 10, 12, 14])] 30 ?_
    refine And.intro (o0 S0) ⟨some (rd 17), S0.2.2 17 k17 (by decide), And.intro (S0.ok k17) (And.intro (vin_of (S0.len k17) (show q < 9 from hq9) (by decide)) ?_)⟩
    have h : LN R rd m0 j k (wcg R j k 0 (fun _ => 0)) (tcg R j k 0 0) (uJ m0 (rd 17) (nI q).toNatClampNeg (lN (R.E q) * lN (rcom R j k) * lN (roth R j k))) := by
      refine ⟨FM.uJ k17 (by decide), ?_, fun t ht => ?_, fun t ht => ?_⟩
      · show va_up m0.2.2.2.1 (rd 17) _ (rd 17) = _
        rw [va_up_self, nI_c (by omega), lN_mul, lN_mul, hq]
        unfold rwh
        rw [hq]
      · show va_up m0.2.2.2.1 (rd 17) _ (rd 19) t = _
        rw [va_up_ne _ _ (S0.ne k19 k17 (by decide))]
        by_cases w : t % 9 = 3 * j + k
        · rw [if_pos w, hw0 t ht (by omega)]
          unfold wcg
          rw [if_neg (by omega)]; split <;> rfl
        · rw [if_neg w]
      · show va_up m0.2.2.2.1 (rd 17) _ (rd 18) t = _
        rw [va_up_ne _ _ (S0.ne k18 k17 (by decide))]
        by_cases w : t % 9 = 3 * j + k
        · rw [if_pos w, ht0 t ht (by omega)]
          unfold tcg
          rw [if_neg (c := _ ∧ t / 9 % 3 < 0) (fun z => absurd z.2 (by omega))]; rfl
        · rw [if_neg w]
    exact outer (R.O j) 0 (by omega) _ h
  have kc := c_Mo_common (l := l) (D := D) (ca := ca) S0 hV0 hf (show j < 3 by omega) (show k < 3 by omega) hR
  have kc2 := c_Mo_common (l := l) (D := D) (ca := ca) S0 hV0 hf (show j < 3 by omega) (show R.T q < 3 by omega) hR
  have k60 : X 60 [(0, .ref (rd 0)), (1, .int (nI f)), (2, .int (nI j)), (3, .int (nI k)), (4, .int (nI q)), (5, .long (lN (R.C q))), (7, .long (lN (R.E q))), (9, .int (nI (R.T q))), (10, .long (lN (rcom R j k)))] [] m0 0 0 := by
    refine jm_run hX [(79, [0, 1, 2, 3, 4, 5, 7, 9, 10])] 30 ?_
    refine And.intro (fun g => ?_) (fun g => ?_)
    · have g : lg_cmp (lN (R.C q)) (lN 0) ≤ 0 := g
      rw [lg_cmp_le, pk_lLE (by omega) (by decide)] at g
      have : roth R j k = 1 := by unfold roth; rw [hq, if_neg (by omega)]
      rw [this] at k79
      exact k79
    · have g : ¬ lg_cmp (lN (R.C q)) (lN 0) ≤ 0 := g
      rw [lg_cmp_le, pk_lLE (by omega) (by decide)] at g
      refine And.intro (o0 S0) (And.intro (Nat.le_of_ble_eq_true rfl) (And.intro (Nat.le_of_ble_eq_true rfl) ⟨0, 0, _, Nat.le_refl _, Nat.le_refl _, kc2, fun v m' hqq => ?_⟩))
      obtain ⟨ee, rfl⟩ := hqq
      have ee := ee.symm
      subst ee
      have : roth R j k = rcom R j (R.T q) := by unfold roth; rw [hq, if_pos (by omega)]
      rw [this] at k79
      exact k79
  refine jm_run hX [(60, [0, 1, 2, 3, 4, 5, 7, 9, 10])] 60 ?_
  refine And.intro (o0 S0) ⟨some (rd 8), S0.2.2 8 k8 (by decide), And.intro (S0.ok k8) (And.intro (by have := hin7 8 (Or.inr (Or.inl rfl)); rw [← eq3] at this; exact this) ?_)⟩
  refine And.intro (o0 S0) ⟨some (rd 9), S0.2.2 9 k9 (by decide), And.intro (S0.ok k9) (And.intro (by have := hin7 9 (Or.inr (Or.inr rfl)); rw [← eq3] at this; exact this) ?_)⟩
  refine And.intro (o0 S0) ⟨some (rd 7), S0.2.2 7 k7 (by decide), And.intro (S0.ok k7) (And.intro (by have := hin7 7 (Or.inl rfl); rw [← eq3] at this; exact this) ?_)⟩
  refine And.intro (o0 S0) (And.intro (Nat.le_of_ble_eq_true rfl) (And.intro (Nat.le_of_ble_eq_true rfl) ⟨0, 0, _, Nat.le_refl _, Nat.le_refl _, kc, fun v m' hqq => ?_⟩))
  obtain ⟨ee, rfl⟩ := hqq
  have ee := ee.symm
  subst ee
  rw [← e7, ← e8, ← e9, ← eq3] at k60
  exact k60
end RB12
