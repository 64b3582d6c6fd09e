theorem ix10 (i : Nat) : (10 : Int32) * nI i = nI (10 * i) := pk_mul 10 i
theorem ix81 (q i : Nat) : (81 : Int32) * nI q + nI i = nI (81 * q + i) := by
  have : (81 : Int32) * nI q = nI (81 * q) := pk_mul 81 q
  rw [this, nI_add]
abbrev pT (k : Nat) : Prop := 20 ≤ k ∧ k ≤ 24
/-- a stretch of a row -/
def lset (g : Nat → Int64) (a : Nat) (f : Nat → Nat) (k : Nat) : Nat → Int64 := fun t => if a ≤ t ∧ t < a + k then lN (f (t - a)) else g t
theorem lset_0 (g : Nat → Int64) (a : Nat) (f : Nat → Nat) : lset g a f 0 = g := by
  funext t
  unfold lset
  rw [if_neg (by omega)]
theorem lset_s (g : Nat → Int64) (a : Nat) (f : Nat → Nat) (k : Nat) : va_up (lset g a f k) (a + k) (lN (f k)) = lset g a f (k + 1) := by
  funext t
  by_cases e : t = a + k
  · subst e
    rw [va_up_self]
    unfold lset
    rw [if_pos (by omega), show a + k - a = k by omega]
  · rw [va_up_ne _ _ e]
    unfold lset
    by_cases w : a ≤ t ∧ t < a + k
    · rw [if_pos w, if_pos (by omega)]
    · rw [if_neg w, if_neg (by omega)]
/-- what turnBy leaves -/
def tbQ (m0 : jm_M) (rd : Nat → Nat) (q p : Nat) (Wv Tb : Nat → Nat) (m' : jm_M) : Prop := FM rd pT m0 m' ∧ ∃ ov T, trn Wv Tb p ov T ∧ m'.2.2.2.1 (rd 24) = va_up (m0.2.2.2.1 (rd 24)) q (lN ov) ∧ m'.2.2.2.1 (rd 23) = lset (m0.2.2.2.1 (rd 23)) (81 * q) T 81
theorem iLk : ∀ k, k < 64 → (nI k).toInt64 = lN k := by decide +kernel
section RB8
variable {l : Launch} {D : va_G} {ca : Nat → ClassId}
set_option maxHeartbeats 4000000 in
theorem c_Mo_turnBy {m0 : jm_M} {rd Wv Tb : Nat → Nat} {q p : Nat} (S0 : MST m0 rd) (hW : lrow (m0.2.2.2.1 (rd 17)) Wv 9) (hT : lrow (m0.2.2.2.1 (rd 18)) Tb 81) (hWp : ∀ i, i < 9 → Wv i < p) (hTp : ∀ t, t < 81 → Tb t < p) (hp : 10 < p) (hp2 : p < 2 ^ 31) (hq : q < 8) (hiv : ∀ k, 1 ≤ k → k ≤ 9 → ivz k p * k % p = 1) : jm_C l D ca n_Mo_turnBy [.ref (rd 0), .int (nI q), .long (lN p)] m0 0 0 (fun v m' => v = none ∧ tbQ m0 rd q p Wv Tb m') := by
  refine jm_C_of (cd := cd_Mo_turnBy) (ini := false) (by decide +kernel) ok_Mo_turnBy (fun h => by cases h) (Nat.le_of_ble_eq_true rfl) ?_
  intro X hX
  obtain ⟨Pc, N, f1, f2, f3, f4, f5, f6, f7⟩ := fl_main (btz Wv Tb) 9
  have o0 : ∀ {m : jm_M}, MST m rd → jm_ok m (rd 0) 6 := fun S => S.ok (Or.inl (by decide))
  have ki : ∀ k, 16 ≤ k → k ≤ 27 → mkin k := fun k h1 h2 => Or.inr (Or.inl ⟨h1, h2⟩)
  have rr : ∀ {m : jm_M}, MST m rd → ∀ k, 16 ≤ k → k ≤ 27 → m.2.2.2.2 (rd 0) k = some (rd k) := fun S k h1 h2 => S.2.2 k (ki k h1 h2) (by omega)
  have ok51 : ∀ {m : jm_M}, MST m rd → ∀ k, 16 ≤ k → k ≤ 27 → jm_ok m (rd k) 51 := fun S k h1 h2 => by
    have := S.ok (ki k h1 h2)
    have e : (mkd k).1 = 51 := by
      have : ∀ k, k < 28 → 16 ≤ k → (mkd k).1 = 51 := by decide
      exact this k (by omega) h1
    rw [e] at this
    exact this
  have ln : ∀ {m : jm_M}, MST m rd → ∀ k, 16 ≤ k → k ≤ 27 → (m.2.1 (rd k)).2 = (mkd k).2 := fun S k h1 h2 => S.len (ki k h1 h2)
  have nn : ∀ i j, 16 ≤ i → i ≤ 27 → 16 ≤ j → j ≤ 27 → i ≠ j → rd i ≠ rd j := fun i j a b c d e => S0.ne (ki i a b) (ki j c d) e
  have hnp : ¬ lN p = lN 0 := by rw [pk_lEQ (by omega) (by decide)]; omega
  have Mlt : ∀ t, mtz Wv Tb p t < p := fun t => Nat.mod_lt _ (by omega)
  -- the end: turned
  have loopF : ∀ (P : Nat → Nat) (m1 : jm_M), MST m1 rd → lrow (m1.2.2.2.1 (rd 21)) P 81 → (∀ m', m' = uJA m1 (rd 23) (lset (m1.2.2.2.1 (rd 23)) (81 * q) P 81) → tbQ m0 rd q p Wv Tb m') → ∀ (e i : Nat), i + e = 81 → X 270 [(0, .ref (rd 0)), (1, .int (nI q)), (6, .int (nI i))] [] (uJA m1 (rd 23) (lset (m1.2.2.2.1 (rd 23)) (81 * q) P i)) 0 0 := by
    intro P m1 S1 hP hfin e
    induction e with
    | zero =>
      intro i hi
      have hi2 : i = 81 := by omega
      subst hi2
      refine jm_run hX [] 20 ?_
      refine And.intro (fun _ => ?_) (fun g => absurd (nI_le (Nat.le_refl 81) (by decide)) (show ¬ nI 81 ≤ nI 81 from g))
      exact ⟨Nat.le_refl _, Nat.le_refl _, trivial, rfl, hfin _ rfl⟩
    | succ e ih =>
      intro i hi
      have ei : (81 : Int32) * nI q + nI i = nI (81 * q + i) := ix81 q i
      have hin : vp_in ((81 : Int32) * nI q + nI i) (m1.2.1 (rd 23)).2 := by rw [ei]; exact vin_of (ln S1 23 (by decide) (by decide)) (show 81 * q + i < 648 by omega) (by decide)
      have hi21 : vp_in (nI i) (m1.2.1 (rd 21)).2 := vin_of (ln S1 21 (by decide) (by decide)) (show i < 81 by omega) (by decide)
      have ev : va_up m1.2.2.2.1 (rd 23) (lset (m1.2.2.2.1 (rd 23)) (81 * q) P i) (rd 21) (nI i).toNatClampNeg = lN (P i) := by
        rw [nI_c (by omega), va_up_ne _ _ (nn 21 23 (by decide) (by decide) (by decide) (by decide) (by decide))]; exact hP i (by omega)
      refine jm_run hX [(270, [0, 1, 6])] 30 ?_
      refine And.intro (fun g => absurd (show nI 81 ≤ nI i from g) (nI_ge (by omega) (by omega))) (fun _ => ?_)
      refine And.intro (o0 S1) ⟨some (rd 23), rr S1 23 (by decide) (by decide), And.intro (o0 S1) ⟨some (rd 21), rr S1 21 (by decide) (by decide), And.intro (ok51 S1 21 (by decide) (by decide)) (And.intro hi21 (And.intro (ok51 S1 23 (by decide) (by decide)) (And.intro hin ?_)))⟩⟩
      have kk := ih (i + 1) (by omega)
      rw [← lset_s, ← uJ_uJA, ← nI_1, ← ev] at kk
      have e2 : ((81 : Int32) * nI q + nI i).toNatClampNeg = 81 * q + i := by rw [ei, nI_c (by omega)]
      have kk2 : X 270 [(0, .ref (rd 0)), (1, .int (nI q)), (6, .int (nI i + 1))] [] (uJ (uJA m1 (rd 23) (lset (m1.2.2.2.1 (rd 23)) (81 * q) P i)) (rd 23) ((81 : Int32) * nI q + nI i).toNatClampNeg (va_up m1.2.2.2.1 (rd 23) (lset (m1.2.2.2.1 (rd 23)) (81 * q) P i) (rd 21) (nI i).toNatClampNeg)) 0 0 := by
        rw [e2]; exact kk
      exact kk2
  have FJ : ∀ {m : jm_M} {k : Nat} {g : Nat → Int64}, 20 ≤ k → k ≤ 24 → FM rd pT m (uJA m (rd k) g) := fun h1 h2 => FM.uJA (ki _ (by omega) (by omega)) ⟨h1, h2⟩
  -- the end
  have k255 : ∀ (P : Nat → Nat) (c : Nat) (m : jm_M), FM rd pT m0 m → m.2.2.2.1 (rd 23) = m0.2.2.2.1 (rd 23) → m.2.2.2.1 (rd 24) = m0.2.2.2.1 (rd 24) → lrow (m.2.2.2.1 (rd 21)) P 81 → (∀ t, t < 81 → P t < p) → c < p → (∀ i j, i < 9 → j < 9 → (p : Int) ∣ (P (9 * i + j) : Int) - N 0 i j) → (p : Int) ∣ (c : Int) - Pc 0 → X 255 [(0, .ref (rd 0)), (1, .int (nI q)), (2, .long (lN p)), (4, .long (lN c))] [] m 0 0 := by
    intro P c m hF h23 h24 hP hPp hc hN hPc
    have S := hF.S S0
    have e1 : (lN p - lN c) - (lN p - lN c) / lN p * lN p = lN ((p - c) % p) := by
      rw [lN_sub (by omega)]; exact pk_lRem (by omega) (by omega) (by omega)
    have hi24 : vp_in (nI q) (m.2.1 (rd 24)).2 := vin_of (ln S 24 (by decide) (by decide)) (show q < 8 by omega) (by decide)
    generalize hm1 : uJ m (rd 24) (nI q).toNatClampNeg ((lN p - lN c) - (lN p - lN c) / lN p * lN p) = m1
    have hF1 : FM rd pT m0 m1 := by rw [← hm1]; exact hF.tr (FM.uJ (ki 24 (by decide) (by decide)) ⟨by decide, by decide⟩)
    have S1 := hF1.S S0
    have j24 : m1.2.2.2.1 (rd 24) = va_up (m0.2.2.2.1 (rd 24)) q (lN ((p - c) % p)) := by
      rw [← hm1, ← h24, ← e1]
      show va_up m.2.2.2.1 (rd 24) (va_up (m.2.2.2.1 (rd 24)) (nI q).toNatClampNeg _) (rd 24) = _
      rw [va_up_self, nI_c (by omega)]
    have jo : ∀ k, 16 ≤ k → k ≤ 27 → k ≠ 24 → m1.2.2.2.1 (rd k) = m.2.2.2.1 (rd k) := fun k a b cc => by
      rw [← hm1]
      exact va_up_ne _ _ (nn k 24 a b (by decide) (by decide) cc)
    have kk := loopF P m1 S1 (by rw [jo 21 (by decide) (by decide) (by decide)]; exact hP) (fun m' em => by
      refine ⟨by rw [em]; exact hF1.tr (FJ (by decide) (by decide)), (p - c) % p, P, ⟨Nat.mod_lt _ (by omega), hPp, ?_, fun j i hj hi => ?_⟩, ?_, ?_⟩
      · have h1 := fl_d9 (btz Wv Tb) 9
        rw [← f6] at h1
        have h2 : ds_G 9 = -1 := rfl
        rw [h2] at h1
        have h3 := nmod_dv (p - c) p
        obtain ⟨x, hx⟩ := h3
        obtain ⟨y, hy⟩ := hPc
        refine ⟨x - y + 1, ?_⟩
        rw [Int.mul_add, Int.mul_sub, ← hx, ← hy]
        omega
      · have h1 := fl_C9 (btz Wv Tb) 9 j i hj
        rw [← f7 j i hj hi] at h1
        have h2 : ds_G (9 + 1) = 1 := rfl
        rw [h2, Int.one_mul] at h1
        rw [← h1]
        exact hN j i hj hi
      · rw [em]
        show va_up m1.2.2.2.1 (rd 23) _ (rd 24) = _
        rw [va_up_ne _ _ (nn 24 23 (by decide) (by decide) (by decide) (by decide) (by decide))]; exact j24
      · rw [em]
        show va_up m1.2.2.2.1 (rd 23) _ (rd 23) = _
        rw [va_up_self, jo 23 (by decide) (by decide) (by decide), h23]) 81 0 (by omega)
    rw [lset_0, uJA_id] at kk
    refine jm_run hX [(270, [0, 1, 6])] 20 ?_
    refine And.intro (o0 S) ⟨some (rd 24), rr S 24 (by decide) (by decide), And.intro hnp (And.intro (ok51 S 24 (by decide) (by decide)) (And.intro hi24 ?_))⟩
    rw [← hm1] at kk
    exact kk
  -- the steps
  have loopB : ∀ (e k : Nat) (P : Nat → Nat) (c : Nat) (m : jm_M), k + e = 10 → 1 ≤ k → FM rd pT m0 m → m.2.2.2.1 (rd 23) = m0.2.2.2.1 (rd 23) → m.2.2.2.1 (rd 24) = m0.2.2.2.1 (rd 24) → lrow (m.2.2.2.1 (rd 20)) (mtz Wv Tb p) 81 → lrow (m.2.2.2.1 (rd 21)) P 81 → (∀ t, t < 81 → P t < p) → c < p → (∀ i j, i < 9 → j < 9 → (p : Int) ∣ (P (9 * i + j) : Int) - N (9 - (k - 1)) i j) → (p : Int) ∣ (c : Int) - Pc (9 - (k - 1)) → X 107 [(0, .ref (rd 0)), (1, .int (nI q)), (2, .long (lN p)), (4, .long (lN c)), (6, .int (nI k))] [] m 0 0 := by
    intro e
    induction e with
    | zero =>
      intro k P c m hk hk1 hF h23 h24 hM hP hPp hc hN hPc
      have hk2 : k = 10 := by omega
      subst hk2
      refine jm_run hX [(255, [0, 1, 2, 4])] 20 ?_
      refine And.intro (fun _ => k255 P c m hF h23 h24 hP hPp hc hN hPc) (fun g => ?_)
      have g : ¬ nI 9 < nI 10 := g
      exact absurd (by decide) g
    | succ e ih =>
      intro k P c m hk hk1 hF h23 h24 hM hP hPp hc hN hPc
      have S := hF.S S0
      generalize hQ : mlM (mtz Wv Tb p) P p = Q
      have hQp : ∀ t, Q t < p := fun t => by rw [← hQ]; exact mlS_lt (by omega) 9
      have kmu := c_Mo_multiply_1 (l := l) (D := D) (ca := ca) S hM hP (by omega) hp2 (fun i _ => Mlt i) hPp
      rw [hQ] at kmu
      generalize hQ' : dgl Q c p 9 = Q'
      have hQ'p : ∀ t, Q' t < p := fun t => by
        rw [← hQ']
        unfold dgl
        by_cases w : t % 10 = 0 ∧ t / 10 < 9
        · rw [if_pos w]; exact Nat.mod_lt _ (by omega)
        · rw [if_neg w]; exact hQp t
      generalize hQ2 : mlM (mtz Wv Tb p) Q' p = Q2
      have hQ2p : ∀ t, Q2 t < p := fun t => by rw [← hQ2]; exact mlS_lt (by omega) 9
      -- the new numbers
      have hQcg : ∀ i j, i < 9 → j < 9 → (p : Int) ∣ (Q (9 * i + j) : Int) - ds_S (fun s => btz Wv Tb i s * (P (9 * s + j) : Int)) 9 := fun i j hi hj => by
        have e1 : Q (9 * i + j) = mlS (mtz Wv Tb p) P p i j 9 := by
          rw [← hQ]; unfold mlM
          rw [show (9 * i + j) / 9 = i by omega, show (9 * i + j) % 9 = j by omega]
        rw [e1]
        refine dv_tr (mlS_cg (mtz Wv Tb p) P p i j 9) (dv_S2 fun s hs => ?_)
        rw [← Int.sub_mul, Int.mul_comm]
        exact dv_mul (mtz_cg hi hs (hTp _ (by omega))) _
      have hQ2cg : ∀ i j, i < 9 → j < 9 → (p : Int) ∣ (Q2 (9 * i + j) : Int) - ds_S (fun s => btz Wv Tb i s * (Q' (9 * s + j) : Int)) 9 := fun i j hi hj => by
        have e1 : Q2 (9 * i + j) = mlS (mtz Wv Tb p) Q' p i j 9 := by
          rw [← hQ2]; unfold mlM
          rw [show (9 * i + j) / 9 = i by omega, show (9 * i + j) % 9 = j by omega]
        rw [e1]
        refine dv_tr (mlS_cg (mtz Wv Tb p) Q' p i j 9) (dv_S2 fun s hs => ?_)
        rw [← Int.sub_mul, Int.mul_comm]
        exact dv_mul (mtz_cg hi hs (hTp _ (by omega))) _
      have hm1 : ∀ i j, i < 9 → j < 9 → (p : Int) ∣ (Q' (9 * i + j) : Int) - (ds_S (fun s => btz Wv Tb i s * (P (9 * s + j) : Int)) 9 + if i = j then (c : Int) else 0) := fun i j hi hj => by
        have h1 := hQcg i j hi hj
        rw [← hQ']
        unfold dgl
        by_cases w : i = j
        · subst w
          rw [if_pos (by omega), if_pos rfl]
          have h2 := nmod_dv (Q (9 * i + i) + c) p
          rw [Int.natCast_add] at h2
          have := Int.dvd_add h2 h1
          generalize (((Q (9 * i + i) + c) % p : Nat) : Int) = u1 at *
          generalize (Q (9 * i + i) : Int) = u2 at *
          generalize ds_S (fun s => btz Wv Tb i s * (P (9 * s + i) : Int)) 9 = u3 at *
          rw [show u1 - (u2 + (c : Int)) + (u2 - u3) = u1 - (u3 + (c : Int)) by omega] at this
          exact this
        · rw [if_neg (by omega), if_neg w, Int.add_zero]
          exact h1
      generalize hsum : sm10 Q2 9 = sum
      have hsumb : sum < 9 * p := by
        rw [← hsum]
        have h1 : sm10 Q2 9 ≤ 9 * (p - 1) := ds_nS_bd (fun i hi => by have := hQ2p (10 * i); omega)
        omega
      have hc1 : ∀ c', c' = (p - sum % p) % p * ivz k p % p → (p : Int) ∣ (c' : Int) - (- ((ivz k p : Int) * ds_S (fun i => ds_S (fun s => btz Wv Tb i s * (Q' (9 * s + i) : Int)) 9) 9)) := fun c' hc' => by
        have g1 : (p : Int) ∣ (sum : Int) - ds_S (fun i => ds_S (fun s => btz Wv Tb i s * (Q' (9 * s + i) : Int)) 9) 9 := by
          have e1 : (sum : Int) = ds_S (fun i => (Q2 (10 * i) : Int)) 9 := by rw [← hsum]; exact (ds_S_nat (fun i => Q2 (10 * i)) 9).symm
          rw [e1]
          refine dv_S2 fun i hi => ?_
          have := hQ2cg i i hi hi
          rw [show 9 * i + i = 10 * i by omega] at this
          exact this
        have g2 := nmod_dv sum p
        have g3 := nmod_dv (p - sum % p) p
        have g4 := nmod_dv ((p - sum % p) % p * ivz k p) p
        rw [← hc'] at g4
        rw [Int.natCast_mul] at g4
        have hle : sum % p < p := Nat.mod_lt _ (by omega)
        rw [Int.natCast_sub (by omega)] at g3
        obtain ⟨x1, y1⟩ := g1
        obtain ⟨x2, y2⟩ := g2
        obtain ⟨x3, y3⟩ := g3
        obtain ⟨x4, y4⟩ := g4
        generalize ds_S (fun i => ds_S (fun s => btz Wv Tb i s * (Q' (9 * s + i) : Int)) 9) 9 = U at *
        generalize (((p - sum % p) % p : Nat) : Int) = a3 at *
        generalize ((sum % p : Nat) : Int) = a2 at *
        generalize (sum : Int) = a1 at *
        generalize (ivz k p : Int) = a4 at *
        generalize (p : Int) = P0 at *
        refine ⟨x4 + (x3 + 1 - x2 - x1) * a4, ?_⟩
        have z1 : a1 = U + P0 * x1 := by omega
        have z2 : a2 = a1 + P0 * x2 := by omega
        have z3 : a3 = P0 - a2 + P0 * x3 := by omega
        have z4 : (c' : Int) = a3 * a4 + P0 * x4 := by omega
        rw [z4, z3, z2, z1]
        grind
      have hvk : (p : Int) ∣ (ivz k p : Int) * ((k - 1 + 1 : Nat) : Int) - 1 := by
        rw [show k - 1 + 1 = k by omega, ← Int.natCast_mul]
        have h1 := hiv k hk1 (by omega)
        have h2 := nmod_dv (ivz k p * k) p
        rw [h1] at h2
        obtain ⟨x, hx⟩ := h2
        exact ⟨-x, by rw [Int.mul_neg, ← hx]; omega⟩
      -- and so they are the next
      have hnext := fun (c' : Nat) hc' => fl_step (p := (p : Int)) (b := btz Wv Tb) (n := 9) (P := Pc) (N := N) f2 f3 f5 (k := k - 1) (by omega) (M := fun i j => (P (9 * i + j) : Int)) (M' := fun i j => (Q' (9 * i + j) : Int)) (c := (c : Int)) (c' := (c' : Int)) (iv := (ivz k p : Int)) hN hPc hm1 (hc1 c' hc') hvk
      have loopE : ∀ (m4 : jm_M), FM rd pT m0 m4 → m4.2.2.2.1 (rd 23) = m0.2.2.2.1 (rd 23) → m4.2.2.2.1 (rd 24) = m0.2.2.2.1 (rd 24) → lrow (m4.2.2.2.1 (rd 20)) (mtz Wv Tb p) 81 → lrow (m4.2.2.2.1 (rd 21)) Q' 81 → lrow (m4.2.2.2.1 (rd 22)) Q2 81 → ∀ (f i : Nat), i + f = 9 → X 201 [(0, .ref (rd 0)), (1, .int (nI q)), (2, .long (lN p)), (6, .int (nI k)), (7, .long (lN (sm10 Q2 i))), (9, .int (nI i))] [] m4 0 0 := by
        intro m4 hF4 h234 h244 hM4 hP4 hQ4 f
        have S4 := hF4.S S0
        induction f with
        | zero =>
          intro i hi
          have hi2 : i = 9 := by omega
          subst hi2
          rw [hsum]
          have kin := c_Mo_inverse (l := l) (D := D) (ca := ca) (m := m4) (v := k) (p := p) (by omega) (by omega) hp2
          have es : lN sum - lN sum / lN p * lN p = lN (sum % p) := pk_lRem (by omega) (by omega) (by omega)
          have hsp : sum % p < p := Nat.mod_lt _ (by omega)
          have ed : (lN p - (lN sum - lN sum / lN p * lN p)) - (lN p - (lN sum - lN sum / lN p * lN p)) / lN p * lN p = lN ((p - sum % p) % p) := by
            rw [es, lN_sub (by omega)]; exact pk_lRem (by omega) (by omega) (by omega)
          have hiz : ivz k p < p := rz_lt (by omega) _ _ _ _ (by omega)
          have hxp : (p - sum % p) % p < p := Nat.mod_lt _ (by omega)
          have hprod : (p - sum % p) % p * ivz k p < 2 ^ 62 := Nat.lt_of_lt_of_le (Nat.mul_lt_mul'' (show (p - sum % p) % p < 2 ^ 31 by omega) (show ivz k p < 2 ^ 31 by omega)) (by decide)
          have ec : lN ((p - sum % p) % p) * lN (ivz k p) - lN ((p - sum % p) % p) * lN (ivz k p) / lN p * lN p = lN ((p - sum % p) % p * ivz k p % p) := by
            rw [lN_mul]; exact pk_lRem (by omega) (by omega) (by omega)
          rw [← iLk k (by omega)] at kin
          refine jm_run hX [(107, [0, 1, 2, 4, 6])] 40 ?_
          refine And.intro (fun _ => ?_) (fun g => absurd (nI_le (Nat.le_refl 9) (by decide)) (show ¬ nI 9 ≤ nI 9 from g))
          refine And.intro hnp (And.intro hnp ?_)
          refine ⟨Nat.le_of_ble_eq_true rfl, Nat.le_of_ble_eq_true rfl, 0, 0, _, Nat.le_refl _, Nat.le_refl _, kin, fun v m' hq => ?_⟩
          obtain ⟨ee, rfl⟩ := hq
          have ee := ee.symm
          subst ee
          refine And.intro hnp ?_
          obtain ⟨n1, n2⟩ := hnext _ rfl
          have kk := ih (k + 1) Q' ((p - sum % p) % p * ivz k p % p) m4 (by omega) (by omega) hF4 h234 h244 hM4 hP4 (fun t _ => hQ'p t) (Nat.mod_lt _ (by omega)) (by rw [show 9 - (k + 1 - 1) = 9 - (k - 1 + 1) by omega]; exact n1) (by rw [show 9 - (k + 1 - 1) = 9 - (k - 1 + 1) by omega]; exact n2)
          rw [← ec, ← ed, ← nI_1] at kk
          exact kk
        | succ f ihf =>
          intro i hi
          have ei := ix10 i
          have hin : vp_in ((10 : Int32) * nI i) (m4.2.1 (rd 22)).2 := by rw [ei]; exact vin_of (ln S4 22 (by decide) (by decide)) (show 10 * i < 81 by omega) (by decide)
          have ev : m4.2.2.2.1 (rd 22) ((10 : Int32) * nI i).toNatClampNeg = lN (Q2 (10 * i)) := by rw [ei, nI_c (by omega)]; exact hQ4 _ (by omega)
          have es : lN (sm10 Q2 i) + m4.2.2.2.1 (rd 22) ((10 : Int32) * nI i).toNatClampNeg = lN (sm10 Q2 (i + 1)) := by rw [ev, lN_add]; rfl
          refine jm_run hX [(201, [0, 1, 2, 6, 7, 9])] 30 ?_
          refine And.intro (fun g => absurd (show nI 9 ≤ nI i from g) (nI_ge (by omega) (by omega))) (fun _ => ?_)
          refine And.intro (o0 S4) ⟨some (rd 22), rr S4 22 (by decide) (by decide), And.intro (ok51 S4 22 (by decide) (by decide)) (And.intro hin ?_)⟩
          have kk := ihf (i + 1) (by omega)
          rw [← es, ← nI_1] at kk
          exact kk
      have k190 : ∀ (m3 : jm_M), FM rd pT m0 m3 → m3.2.2.2.1 (rd 23) = m0.2.2.2.1 (rd 23) → m3.2.2.2.1 (rd 24) = m0.2.2.2.1 (rd 24) → lrow (m3.2.2.2.1 (rd 20)) (mtz Wv Tb p) 81 → lrow (m3.2.2.2.1 (rd 21)) Q' 81 → X 190 [(0, .ref (rd 0)), (1, .int (nI q)), (2, .long (lN p)), (6, .int (nI k))] [] m3 0 0 := by
        intro m3 hF3 h233 h243 hM3 hP3
        have S3 := hF3.S S0
        have km2 := c_Mo_multiply_1 (l := l) (D := D) (ca := ca) S3 hM3 hP3 (by omega) hp2 (fun i _ => Mlt i) (fun t _ => hQ'p t)
        rw [hQ2] at km2
        refine jm_run hX [(201, [0, 1, 2, 6, 7, 9])] 20 ?_
        refine And.intro (o0 S3) (And.intro (Nat.le_of_ble_eq_true rfl) (And.intro (Nat.le_of_ble_eq_true rfl) ⟨0, 0, _, Nat.le_refl _, Nat.le_refl _, km2, fun v m4 hq => ?_⟩))
        obtain ⟨rfl, em4⟩ := hq
        have jo : ∀ k, 16 ≤ k → k ≤ 27 → k ≠ 22 → m4.2.2.2.1 (rd k) = m3.2.2.2.1 (rd k) := fun k a b cc => by
          rw [em4]
          exact va_up_ne _ _ (nn k 22 a b (by decide) (by decide) cc)
        refine loopE m4 (by rw [em4]; exact hF3.tr (FJ (by decide) (by decide))) (by rw [jo 23 (by decide) (by decide) (by decide)]; exact h233) (by rw [jo 24 (by decide) (by decide) (by decide)]; exact h243) (by rw [jo 20 (by decide) (by decide) (by decide)]; exact hM3) (by rw [jo 21 (by decide) (by decide) (by decide)]; exact hP3) (by
          rw [em4]
          show lrow (va_up m3.2.2.2.1 (rd 22) _ (rd 22)) _ _
          rw [va_up_self]; exact lfil_row) 9 0 (by omega)
      have loopD : ∀ (m2 : jm_M), FM rd pT m0 m2 → m2.2.2.2.1 (rd 23) = m0.2.2.2.1 (rd 23) → m2.2.2.2.1 (rd 24) = m0.2.2.2.1 (rd 24) → lrow (m2.2.2.2.1 (rd 20)) (mtz Wv Tb p) 81 → lrow (m2.2.2.2.1 (rd 22)) Q' 81 → ∀ (f i : Nat), i + f = 81 → X 163 [(0, .ref (rd 0)), (1, .int (nI q)), (2, .long (lN p)), (6, .int (nI k)), (7, .int (nI i))] [] (uJA m2 (rd 21) (lfil (m2.2.2.2.1 (rd 21)) Q' i)) 0 0 := by
        intro m2 hF2 h232 h242 hM2 hQ22 f
        have S2 := hF2.S S0
        induction f with
        | zero =>
          intro i hi
          have hi2 : i = 81 := by omega
          subst hi2
          refine jm_run hX [(190, [0, 1, 2, 6])] 20 ?_
          refine And.intro (fun _ => ?_) (fun g => absurd (nI_le (Nat.le_refl 81) (by decide)) (show ¬ nI 81 ≤ nI 81 from g))
          have jo : ∀ k, 16 ≤ k → k ≤ 27 → k ≠ 21 → (uJA m2 (rd 21) (lfil (m2.2.2.2.1 (rd 21)) Q' 81)).2.2.2.1 (rd k) = m2.2.2.2.1 (rd k) := fun k a b cc => va_up_ne _ _ (nn k 21 a b (by decide) (by decide) cc)
          refine k190 _ (hF2.tr (FJ (by decide) (by decide))) (by rw [jo 23 (by decide) (by decide) (by decide)]; exact h232) (by rw [jo 24 (by decide) (by decide) (by decide)]; exact h242) (by rw [jo 20 (by decide) (by decide) (by decide)]; exact hM2) ?_
          show lrow (va_up m2.2.2.2.1 (rd 21) _ (rd 21)) _ _
          rw [va_up_self]; exact lfil_row
        | succ f ihf =>
          intro i hi
          have hi22 : vp_in (nI i) (m2.2.1 (rd 22)).2 := vin_of (ln S2 22 (by decide) (by decide)) (show i < 81 by omega) (by decide)
          have hi21 : vp_in (nI i) (m2.2.1 (rd 21)).2 := vin_of (ln S2 21 (by decide) (by decide)) (show i < 81 by omega) (by decide)
          have ev : va_up m2.2.2.2.1 (rd 21) (lfil (m2.2.2.2.1 (rd 21)) Q' i) (rd 22) (nI i).toNatClampNeg = lN (Q' i) := by
            rw [nI_c (by omega), va_up_ne _ _ (nn 22 21 (by decide) (by decide) (by decide) (by decide) (by decide))]; exact hQ22 i (by omega)
          refine jm_run hX [(163, [0, 1, 2, 6, 7])] 30 ?_
          refine And.intro (fun g => absurd (show nI 81 ≤ nI i from g) (nI_ge (by omega) (by omega))) (fun _ => ?_)
          refine And.intro (o0 S2) ⟨some (rd 21), rr S2 21 (by decide) (by decide), And.intro (o0 S2) ⟨some (rd 22), rr S2 22 (by decide) (by decide), And.intro (ok51 S2 22 (by decide) (by decide)) (And.intro hi22 (And.intro (ok51 S2 21 (by decide) (by decide)) (And.intro hi21 ?_)))⟩⟩
          have kk := ihf (i + 1) (by omega)
          rw [← lfil_s, ← uJ_uJA, ← nI_1, ← ev] at kk
          have e2 : (nI i).toNatClampNeg = i := nI_c (by omega)
          have kk2 : X 163 [(0, .ref (rd 0)), (1, .int (nI q)), (2, .long (lN p)), (6, .int (nI k)), (7, .int (nI i + 1))] [] (uJ (uJA m2 (rd 21) (lfil (m2.2.2.2.1 (rd 21)) Q' i)) (rd 21) (nI i).toNatClampNeg (va_up m2.2.2.2.1 (rd 21) (lfil (m2.2.2.2.1 (rd 21)) Q' i) (rd 22) (nI i).toNatClampNeg)) 0 0 := by
            rw [e2] at kk ⊢; exact kk
          exact kk2
      have loopC : ∀ (f i : Nat), i + f = 9 → X 122 [(0, .ref (rd 0)), (1, .int (nI q)), (2, .long (lN p)), (4, .long (lN c)), (6, .int (nI k)), (7, .int (nI i))] [] (uJA m (rd 22) (lfil (m.2.2.2.1 (rd 22)) (dgl Q c p i) 81)) 0 0 := by
        intro f
        induction f with
        | zero =>
          intro i hi
          have hi2 : i = 9 := by omega
          subst hi2
          rw [hQ']
          refine jm_run hX [(163, [0, 1, 2, 6, 7])] 20 ?_
          refine And.intro (fun _ => ?_) (fun g => absurd (nI_le (Nat.le_refl 9) (by decide)) (show ¬ nI 9 ≤ nI 9 from g))
          have jo : ∀ k, 16 ≤ k → k ≤ 27 → k ≠ 22 → (uJA m (rd 22) (lfil (m.2.2.2.1 (rd 22)) Q' 81)).2.2.2.1 (rd k) = m.2.2.2.1 (rd k) := fun k a b cc => va_up_ne _ _ (nn k 22 a b (by decide) (by decide) cc)
          have kk := loopD (uJA m (rd 22) (lfil (m.2.2.2.1 (rd 22)) Q' 81)) (hF.tr (FJ (by decide) (by decide))) (by rw [jo 23 (by decide) (by decide) (by decide)]; exact h23) (by rw [jo 24 (by decide) (by decide) (by decide)]; exact h24) (by rw [jo 20 (by decide) (by decide) (by decide)]; exact hM) (by
            show lrow (va_up m.2.2.2.1 (rd 22) _ (rd 22)) _ _
            rw [va_up_self]; exact lfil_row) 81 0 (by omega)
          rw [lfil_0, uJA_id] at kk
          exact kk
        | succ f ihf =>
          intro i hi
          have ei := ix10 i
          have hin : vp_in ((10 : Int32) * nI i) (m.2.1 (rd 22)).2 := by rw [ei]; exact vin_of (ln S 22 (by decide) (by decide)) (show 10 * i < 81 by omega) (by decide)
          have eold : dgl Q c p i (10 * i) = Q (10 * i) := by unfold dgl; rw [if_neg (by omega)]
          have ev : va_up m.2.2.2.1 (rd 22) (lfil (m.2.2.2.1 (rd 22)) (dgl Q c p i) 81) (rd 22) ((10 : Int32) * nI i).toNatClampNeg = lN (Q (10 * i)) := by
            rw [ei, nI_c (by omega), va_up_self]
            unfold lfil
            rw [if_pos (by omega), eold]
          have hq9 := hQp (10 * i)
          have es : (va_up m.2.2.2.1 (rd 22) (lfil (m.2.2.2.1 (rd 22)) (dgl Q c p i) 81) (rd 22) ((10 : Int32) * nI i).toNatClampNeg + lN c) - (va_up m.2.2.2.1 (rd 22) (lfil (m.2.2.2.1 (rd 22)) (dgl Q c p i) 81) (rd 22) ((10 : Int32) * nI i).toNatClampNeg + lN c) / lN p * lN p = lN (dgl Q c p (i + 1) (10 * i)) := by
            rw [ev, lN_add, pk_lRem (by omega) (by omega) (by omega)]
            congr 1
            unfold dgl
            rw [if_pos (by omega)]
          refine jm_run hX [(122, [0, 1, 2, 4, 6, 7])] 30 ?_
          refine And.intro (fun g => absurd (show nI 9 ≤ nI i from g) (nI_ge (by omega) (by omega))) (fun _ => ?_)
          refine And.intro (o0 S) ⟨some (rd 22), rr S 22 (by decide) (by decide), And.intro (o0 S) ⟨some (rd 22), rr S 22 (by decide) (by decide), And.intro (ok51 S 22 (by decide) (by decide)) (And.intro hin (And.intro hnp (And.intro (ok51 S 22 (by decide) (by decide)) (And.intro hin ?_))))⟩⟩
          have kk := ihf (i + 1) (by omega)
          rw [← lfil_up (f := dgl Q c p i) (f' := dgl Q c p (i + 1)) (k := 10 * i) (by omega) (fun t ht => by
            unfold dgl
            by_cases w : t % 10 = 0 ∧ t / 10 < i
            · rw [if_pos w, if_pos (by omega)]
            · rw [if_neg w, if_neg (by omega)]), ← uJ_uJA, ← nI_1, ← es] at kk
          have e2 : ((10 : Int32) * nI i).toNatClampNeg = 10 * i := by rw [ei, nI_c (by omega)]
          rw [← e2] at kk
          exact kk
      refine jm_run hX [(122, [0, 1, 2, 4, 6, 7])] 20 ?_
      refine And.intro (fun g => ?_) (fun _ => ?_)
      · have g : nI 9 < nI k := g
        rw [iNlt (by decide), nI_toInt (by omega)] at g
        omega
      refine And.intro (o0 S) (And.intro (Nat.le_of_ble_eq_true rfl) (And.intro (Nat.le_of_ble_eq_true rfl) ⟨0, 0, _, Nat.le_refl _, Nat.le_refl _, kmu, fun v m1 hq => ?_⟩))
      obtain ⟨rfl, em1⟩ := hq
      have kk := loopC 9 0 (by omega)
      have e0 : dgl Q c p 0 = Q := by
        funext t
        unfold dgl
        rw [if_neg (by omega)]
      rw [e0, ← em1] at kk
      exact kk
  -- the beginning
  have n2021 : rd 20 ≠ rd 21 := nn 20 21 (by decide) (by decide) (by decide) (by decide) (by decide)
  have k101 : X 101 [(0, .ref (rd 0)), (1, .int (nI q)), (2, .long (lN p))] [] (uJA (uJA m0 (rd 20) (lfil (m0.2.2.2.1 (rd 20)) (mtz Wv Tb p) 81)) (rd 21) (lfil (m0.2.2.2.1 (rd 21)) (fun _ => 0) 81)) 0 0 := by
    refine jm_run hX [(107, [0, 1, 2, 4, 6])] 10 ?_
    have jo : ∀ k, 16 ≤ k → k ≤ 27 → k ≠ 20 → k ≠ 21 → (uJA (uJA m0 (rd 20) (lfil (m0.2.2.2.1 (rd 20)) (mtz Wv Tb p) 81)) (rd 21) (lfil (m0.2.2.2.1 (rd 21)) (fun _ => 0) 81)).2.2.2.1 (rd k) = m0.2.2.2.1 (rd k) := fun k a b c1 c2 => by
      show va_up (va_up m0.2.2.2.1 (rd 20) _) (rd 21) _ (rd k) = _
      rw [va_up_ne _ _ (nn k 21 a b (by decide) (by decide) c2), va_up_ne _ _ (nn k 20 a b (by decide) (by decide) c1)]
    refine loopB 9 1 (fun _ => 0) 1 _ (by omega) (by omega) ((FJ (by decide) (by decide)).tr (FJ (by decide) (by decide))) (jo 23 (by decide) (by decide) (by decide) (by decide)) (jo 24 (by decide) (by decide) (by decide) (by decide)) ?_ ?_ (fun _ _ => by omega) (by omega) (fun i j hi hj => ?_) ?_
    · show lrow (va_up (va_up m0.2.2.2.1 (rd 20) _) (rd 21) _ (rd 20)) _ _
      rw [va_up_ne _ _ n2021, va_up_self]; exact lfil_row
    · show lrow (va_up (va_up m0.2.2.2.1 (rd 20) _) (rd 21) _ (rd 21)) _ _
      rw [va_up_self]; exact lfil_row
    · rw [show 9 - (1 - 1) = 9 from rfl, f4 i j hi hj]
      exact ⟨0, by omega⟩
    · rw [show 9 - (1 - 1) = 9 from rfl, f1]
      exact ⟨0, by omega⟩
  have loopA : ∀ (e i : Nat), i + e = 9 → X 3 [(0, .ref (rd 0)), (1, .int (nI q)), (2, .long (lN p)), (4, .int (nI i))] [] (uJA (uJA m0 (rd 20) (lfil (m0.2.2.2.1 (rd 20)) (mtz Wv Tb p) (9 * i))) (rd 21) (lfil (m0.2.2.2.1 (rd 21)) (fun _ => 0) (9 * i))) 0 0 := by
    intro e
    induction e with
    | zero =>
      intro i hi
      have hi2 : i = 9 := by omega
      subst hi2
      refine jm_run hX [(101, [0, 1, 2])] 20 ?_
      refine And.intro (fun _ => k101) (fun g => absurd (nI_le (Nat.le_refl 9) (by decide)) (show ¬ nI 9 ≤ nI 9 from g))
    | succ e ih =>
      intro i hi
      have cols : ∀ (f j : Nat), j + f = 9 → X 13 [(0, .ref (rd 0)), (1, .int (nI q)), (2, .long (lN p)), (4, .int (nI i)), (5, .int (nI j))] [] (uJA (uJA m0 (rd 20) (lfil (m0.2.2.2.1 (rd 20)) (mtz Wv Tb p) (9 * i + j))) (rd 21) (lfil (m0.2.2.2.1 (rd 21)) (fun _ => 0) (9 * i + j))) 0 0 := by
        intro f
        induction f with
        | zero =>
          intro j hj
          have hj2 : j = 9 := by omega
          subst hj2
          refine jm_run hX [(3, [0, 1, 2, 4])] 20 ?_
          refine And.intro (fun _ => ?_) (fun g => absurd (nI_le (Nat.le_refl 9) (by decide)) (show ¬ nI 9 ≤ nI 9 from g))
          have kk := ih (i + 1) (by omega)
          rw [← nI_1, show 9 * (i + 1) = 9 * i + 9 by omega] at kk
          exact kk
        | succ f ihf =>
          intro j hj
          have ei : (9 : Int32) * nI i + nI j = nI (9 * i + j) := ix9 i j
          have e2 : ((9 : Int32) * nI i + nI j).toNatClampNeg = 9 * i + j := by rw [ei, nI_c (by omega)]
          generalize hmm : uJA (uJA m0 (rd 20) (lfil (m0.2.2.2.1 (rd 20)) (mtz Wv Tb p) (9 * i + j))) (rd 21) (lfil (m0.2.2.2.1 (rd 21)) (fun _ => 0) (9 * i + j)) = m
          have hF : FM rd pT m0 m := by rw [← hmm]; exact (FJ (by decide) (by decide)).tr (FJ (by decide) (by decide))
          have S := hF.S S0
          have jo : ∀ k, 16 ≤ k → k ≤ 27 → k ≠ 20 → k ≠ 21 → m.2.2.2.1 (rd k) = m0.2.2.2.1 (rd k) := fun k a b c1 c2 => by
            rw [← hmm]
            show va_up (va_up m0.2.2.2.1 (rd 20) _) (rd 21) _ (rd k) = _
            rw [va_up_ne _ _ (nn k 21 a b (by decide) (by decide) c2), va_up_ne _ _ (nn k 20 a b (by decide) (by decide) c1)]
          have hin : ∀ k, k = 18 ∨ k = 20 ∨ k = 21 → vp_in ((9 : Int32) * nI i + nI j) (m.2.1 (rd k)).2 := fun k hk => by
            rw [ei]
            rcases hk with rfl | rfl | rfl
            · exact vin_of (ln S 18 (by decide) (by decide)) (show 9 * i + j < 81 by omega) (by decide)
            · exact vin_of (ln S 20 (by decide) (by decide)) (show 9 * i + j < 81 by omega) (by decide)
            · exact vin_of (ln S 21 (by decide) (by decide)) (show 9 * i + j < 81 by omega) (by decide)
          have ev : m.2.2.2.1 (rd 18) ((9 : Int32) * nI i + nI j).toNatClampNeg = lN (Tb (9 * i + j)) := by rw [e2, jo 18 (by decide) (by decide) (by decide) (by decide)]; exact hT _ (by omega)
          have k38 : ∀ wv, wv = (if i = j then Wv j else 0) → X 38 [(0, .ref (rd 0)), (1, .int (nI q)), (2, .long (lN p)), (4, .int (nI i)), (5, .int (nI j))] [.long (lN wv)] m 0 0 := by
            intro wv hwv
            have hwp : wv < p := by
              rw [hwv]
              by_cases w : i = j
              · rw [if_pos w]; exact hWp j (by omega)
              · rw [if_neg w]; omega
            have er := rem_sub2 (a := wv) (b := Tb (9 * i + j)) hwp (hTp _ (by omega)) hp2
            have em : (wv + p - Tb (9 * i + j)) % p = mtz Wv Tb p (9 * i + j) := by
              unfold mtz
              rw [show (9 * i + j) / 9 = i by omega, show (9 * i + j) % 9 = j by omega, ← hwv]
            rw [em, ← ev] at er
            refine jm_run hX [(13, [0, 1, 2, 4, 5])] 60 ?_
            refine And.intro (o0 S) ⟨some (rd 18), rr S 18 (by decide) (by decide), And.intro (ok51 S 18 (by decide) (by decide)) (And.intro (hin 18 (by omega)) ?_)⟩
            refine And.intro (o0 S) ⟨some (rd 20), rr S 20 (by decide) (by decide), And.intro hnp (And.intro hnp (And.intro (ok51 S 20 (by decide) (by decide)) (And.intro (hin 20 (by omega)) ?_)))⟩
            refine And.intro (o0 S) ⟨some (rd 21), rr S 21 (by decide) (by decide), And.intro (ok51 S 21 (by decide) (by decide)) (And.intro (hin 21 (by omega)) ?_)⟩
            have kk := ihf (j + 1) (by omega)
            have emem : uJA (uJA m0 (rd 20) (lfil (m0.2.2.2.1 (rd 20)) (mtz Wv Tb p) (9 * i + (j + 1)))) (rd 21) (lfil (m0.2.2.2.1 (rd 21)) (fun _ => 0) (9 * i + (j + 1))) = uJ (uJ m (rd 20) (9 * i + j) (lN (mtz Wv Tb p (9 * i + j)))) (rd 21) (9 * i + j) 0 := by
              rw [← hmm, show 9 * i + (j + 1) = (9 * i + j) + 1 from rfl, ← lfil_s, ← lfil_s]
              unfold uJ uJA
              simp only [va_up_self, va_up_ne _ _ n2021, va_up_ne _ _ (Ne.symm n2021)]
              congr 1
              congr 1
              congr 1
              congr 1
              funext b
              by_cases w1 : b = rd 21
              · subst w1; rw [va_up_self, va_up_self]; rfl
              · rw [va_up_ne _ _ w1, va_up_ne _ _ w1]
                by_cases w2 : b = rd 20
                · subst w2; rw [va_up_self, va_up_self]
                · rw [va_up_ne _ _ w2, va_up_ne _ _ w2, va_up_ne _ _ w1, va_up_ne _ _ w2]
            rw [emem, ← er, ← nI_1, ← e2] at kk
            exact kk
          refine jm_run hX [(38, [0, 1, 2, 4, 5])] 30 ?_
          refine And.intro (fun g => absurd (show nI 9 ≤ nI j from g) (nI_ge (by omega) (by omega))) (fun _ => ?_)
          refine And.intro (fun g => ?_) (fun g => ?_)
          · have g : nI i = nI j := g
            rw [nI_eq (by omega) (by omega)] at g
            have hi17 : vp_in (nI j) (m.2.1 (rd 17)).2 := vin_of (ln S 17 (by decide) (by decide)) (show j < 9 by omega) (by decide)
            have ew : m.2.2.2.1 (rd 17) (nI j).toNatClampNeg = lN (Wv j) := by rw [nI_c (by omega), jo 17 (by decide) (by decide) (by decide) (by decide)]; exact hW j (by omega)
            refine And.intro (o0 S) ⟨some (rd 17), rr S 17 (by decide) (by decide), And.intro (ok51 S 17 (by decide) (by decide)) (And.intro hi17 ?_)⟩
            have kk := k38 (Wv j) (by rw [if_pos g])
            rw [← ew] at kk
            exact kk
          · have g : ¬ nI i = nI j := g
            rw [nI_eq (by omega) (by omega)] at g
            exact k38 0 (by rw [if_neg g])
      refine jm_run hX [(13, [0, 1, 2, 4, 5])] 20 ?_
      refine And.intro (fun g => absurd (show nI 9 ≤ nI i from g) (nI_ge (by omega) (by omega))) (fun _ => ?_)
      exact cols 9 0 (by omega)
  refine jm_run hX [(3, [0, 1, 2, 4])] 10 ?_
  have kk := loopA 9 0 (by omega)
  rw [Nat.mul_zero, lfil_0, lfil_0, uJA_id] at kk
  have e1 := uJA_id m0 (rd 21)
  rw [e1] at kk
  exact kk
end RB8
