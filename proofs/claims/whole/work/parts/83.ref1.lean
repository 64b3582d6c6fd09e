/-! The reference's things, by numbers: 0 the object, k the array of its field k. -/
def mkd (k : Nat) : Nat × Nat := [(6, 0), (50, 2), (50, 2), (50, 6), (50, 18), (50, 36), (50, 36), (50, 18), (50, 18), (50, 18), (50, 18), (52, 3), (51, 3), (51, 3), (0, 0), (0, 0), (51, 8), (51, 9), (51, 81), (51, 81), (51, 81), (51, 81), (51, 81), (51, 648), (51, 8), (51, 144), (51, 8), (51, 8), (0, 0), (0, 0), (51, 9), (0, 0), (0, 0), (50, 2)].getD k (0, 0)
def mkin (k : Nat) : Prop := k ≤ 13 ∨ (16 ≤ k ∧ k ≤ 27) ∨ k = 30 ∨ k = 33
def MST (m : jm_M) (rd : Nat → Nat) : Prop := (∀ k, mkin k → rd k ∈ m.1 ∧ m.2.1 (rd k) = mkd k) ∧ (∀ i j, mkin i → mkin j → rd i = rd j → i = j) ∧ ∀ k, mkin k → k ≠ 0 → m.2.2.2.2 (rd 0) k = some (rd k)
theorem MST.ok {m : jm_M} {rd : Nat → Nat} (h : MST m rd) {k : Nat} (hk : mkin k) : jm_ok m (rd k) (mkd k).1 := ⟨(h.1 k hk).1, by rw [(h.1 k hk).2]⟩
theorem MST.len {m : jm_M} {rd : Nat → Nat} (h : MST m rd) {k : Nat} (hk : mkin k) : (m.2.1 (rd k)).2 = (mkd k).2 := by rw [(h.1 k hk).2]
theorem MST.ne {m : jm_M} {rd : Nat → Nat} (h : MST m rd) {i j : Nat} (hi : mkin i) (hj : mkin j) (hij : i ≠ j) : rd i ≠ rd j := fun e => hij (h.2.1 i j hi hj e)
/-- only these of the reference's things have changed -/
def FM (rd : Nat → Nat) (p : Nat → Prop) (m m' : jm_M) : Prop := m'.1 = m.1 ∧ m'.2.1 = m.2.1 ∧ m'.2.2.2.2 = m.2.2.2.2 ∧ ∀ b, (∀ k, mkin k → p k → b ≠ rd k) → m'.2.2.1 b = m.2.2.1 b ∧ m'.2.2.2.1 b = m.2.2.2.1 b
theorem FM.rf {rd : Nat → Nat} {p : Nat → Prop} {m : jm_M} : FM rd p m m := ⟨rfl, rfl, rfl, fun _ _ => ⟨rfl, rfl⟩⟩
theorem FM.tr {rd : Nat → Nat} {p : Nat → Prop} {m1 m2 m3 : jm_M} (h : FM rd p m1 m2) (g : FM rd p m2 m3) : FM rd p m1 m3 :=
  ⟨g.1.trans h.1, g.2.1.trans h.2.1, g.2.2.1.trans h.2.2.1, fun b hb => ⟨(g.2.2.2 b hb).1.trans (h.2.2.2 b hb).1, (g.2.2.2 b hb).2.trans (h.2.2.2 b hb).2⟩⟩
theorem FM.mo {rd : Nat → Nat} {p q : Nat → Prop} {m m' : jm_M} (h : FM rd p m m') (hpq : ∀ k, p k → q k) : FM rd q m m' :=
  ⟨h.1, h.2.1, h.2.2.1, fun b hb => h.2.2.2 b (fun k hk hp => hb k hk (hpq k hp))⟩
theorem FM.S {rd : Nat → Nat} {p : Nat → Prop} {m m' : jm_M} (h : FM rd p m m') (S : MST m rd) : MST m' rd := by
  obtain ⟨h1, h2, h3, h5⟩ := h
  unfold MST at S ⊢
  rw [h1, h2, h3]
  exact S
theorem FM.at {rd : Nat → Nat} {p : Nat → Prop} {m m' : jm_M} (h : FM rd p m m') (S : MST m rd) {k : Nat} (hk : mkin k) (hp : ¬ p k) : m'.2.2.1 (rd k) = m.2.2.1 (rd k) ∧ m'.2.2.2.1 (rd k) = m.2.2.2.1 (rd k) :=
  h.2.2.2 (rd k) (fun i hi hpi e => by
    have := S.2.1 k i hk hi e
    subst this
    exact hp hpi)
theorem FM.uJA {rd : Nat → Nat} {p : Nat → Prop} {m : jm_M} {i : Nat} {g : Nat → Int64} (hi : mkin i) (hp : p i) : FM rd p m (uJA m (rd i) g) := ⟨rfl, rfl, rfl, fun b hb => ⟨rfl, va_up_ne _ _ (hb i hi hp)⟩⟩
theorem FM.uA {rd : Nat → Nat} {p : Nat → Prop} {m : jm_M} {i : Nat} {g : Nat → Int32} (hi : mkin i) (hp : p i) : FM rd p m (uA m (rd i) g) := ⟨rfl, rfl, rfl, fun b hb => ⟨va_up_ne _ _ (hb i hi hp), rfl⟩⟩
theorem FM.uI {rd : Nat → Nat} {p : Nat → Prop} {m : jm_M} {i k : Nat} {x : Int32} (hi : mkin i) (hp : p i) : FM rd p m (uI m (rd i) k x) := FM.uA hi hp
theorem FM.uJ {rd : Nat → Nat} {p : Nat → Prop} {m : jm_M} {i k : Nat} {x : Int64} (hi : mkin i) (hp : p i) : FM rd p m (uJ m (rd i) k x) := FM.uJA hi hp
theorem uJ_uJA (m : jm_M) (a : Nat) (g : Nat → Int64) (k : Nat) (x : Int64) : uJ (uJA m a g) a k x = uJA m a (va_up g k x) := by
  unfold uJ uJA
  simp only [va_up_self]
  have : va_up (va_up m.2.2.2.1 a g) a (va_up g k x) = va_up m.2.2.2.1 a (va_up g k x) := by
    funext b
    by_cases h : b = a
    · subst h; rw [va_up_self, va_up_self]
    · rw [va_up_ne _ _ h, va_up_ne _ _ h, va_up_ne _ _ h]
  rw [this]
theorem uJA_id (m : jm_M) (a : Nat) : uJA m a (m.2.2.2.1 a) = m := by
  unfold uJA
  have : va_up m.2.2.2.1 a (m.2.2.2.1 a) = m.2.2.2.1 := by
    funext b
    by_cases h : b = a
    · subst h; rw [va_up_self]
    · rw [va_up_ne _ _ h]
  rw [this]
theorem uJA_2 (m : jm_M) (a : Nat) (g h : Nat → Int64) : uJA (uJA m a g) a h = uJA m a h := by
  unfold uJA
  have : va_up (va_up m.2.2.2.1 a g) a h = va_up m.2.2.2.1 a h := by
    funext b
    by_cases e : b = a
    · subst e; rw [va_up_self, va_up_self]
    · rw [va_up_ne _ _ e, va_up_ne _ _ e, va_up_ne _ _ e]
  rw [this]
theorem MST.uJA {m : jm_M} {rd : Nat → Nat} {a : Nat} {g : Nat → Int64} (h : MST m rd) : MST (uJA m a g) rd := h
/-! Words in longs. -/
theorem sh_k : ∀ k, k < 64 → ((lN k).toBitVec.smod 64).toNat = k := by decide +kernel
theorem sh_r {v k : Nat} (hv : v < 2 ^ 63) (hk : k < 64) : lN v >>> ((nI k).toInt64 &&& 63) = lN (v / 2 ^ k) := by
  rw [wb_c k hk]
  apply Int64.toInt_inj.mp
  have e : (lN v >>> lN k).toInt = ((lN v).toBitVec.sshiftRight' ((lN k).toBitVec.smod 64)).toInt := rfl
  rw [e, BitVec.toInt_sshiftRight', sh_k k hk, Int.shiftRight_eq_div_pow]
  have e2 : (lN v).toBitVec.toInt = (v : Int) := pk_lT hv
  rw [e2, pk_lT (Nat.lt_of_le_of_lt (Nat.div_le_self _ _) hv)]
  exact (Int.natCast_ediv v (2 ^ k)).symm
theorem bb_s {v : Nat} (hv : v < 2 ^ 63) : lN v >>> ((28 : Int32).toInt64 &&& 63) = lN (v / bB) := sh_r (k := 28) hv (by decide)
theorem bb_a {v : Nat} (hv : v < 2 ^ 63) : lN v &&& 268435455 = lN (v % bB) := wb_mask (k := 28) (by omega) (by decide)
theorem ix24 (n k : Nat) : (24 : Int32) * nI n + nI k = nI (24 * n + k) := by
  have : (24 : Int32) * nI n = nI (24 * n) := pk_mul 24 n
  rw [this, nI_add]
/-- number n becomes X, in its first k words -/
def bup (g : Nat → Int64) (n X k : Nat) : Nat → Int64 := fun i => if 24 * n ≤ i ∧ i < 24 * n + k then lN (dg X (i - 24 * n)) else g i
theorem bup_0 (g : Nat → Int64) (n X : Nat) : bup g n X 0 = g := by
  funext i
  unfold bup
  rw [if_neg (by omega)]
theorem bup_s (g : Nat → Int64) (n X k : Nat) : va_up (bup g n X k) (24 * n + k) (lN (dg X k)) = bup g n X (k + 1) := by
  funext i
  by_cases e : i = 24 * n + k
  · subst e
    rw [va_up_self]
    unfold bup
    rw [if_pos (by omega), show 24 * n + k - 24 * n = k by omega]
  · rw [va_up_ne _ _ e]
    unfold bup
    by_cases w : 24 * n ≤ i ∧ i < 24 * n + k
    · rw [if_pos w, if_pos (by omega)]
    · rw [if_neg w, if_neg (by omega)]
theorem bup_hi {g : Nat → Int64} {n X k i : Nat} (h : ¬ (24 * n ≤ i ∧ i < 24 * n + k)) : bup g n X k i = g i := if_neg h
theorem bup_lo {g : Nat → Int64} {n X k j : Nat} (h : j < k) : bup g n X k (24 * n + j) = lN (dg X j) := by
  unfold bup
  rw [if_pos (by omega), show 24 * n + j - 24 * n = j by omega]
/-- the six numbers -/
def bgv (g : Nat → Int64) (V : Nat → Nat) : Prop := ∀ n, n < 6 → V n < bB ^ 24 ∧ ∀ k, k < 24 → g (24 * n + k) = lN (dg (V n) k)
theorem bgv.set {g : Nat → Int64} {V : Nat → Nat} {n X : Nat} (h : bgv g V) (hX : X < bB ^ 24) : bgv (bup g n X 24) (va_up V n X) := fun i hi => by
  by_cases e : i = n
  · subst e
    rw [va_up_self]
    exact ⟨hX, fun k hk => bup_lo hk⟩
  · rw [va_up_ne _ _ e]
    refine ⟨(h i hi).1, fun k hk => ?_⟩
    rw [bup_hi (by omega)]
    exact (h i hi).2 k hk
section RB
variable {l : Launch} {D : va_G} {ca : Nat → ClassId}
theorem c_Mo_clear {m : jm_M} {rd : Nat → Nat} {n : Nat} (S : MST m rd) (hn : n < 6) : jm_C l D ca n_Mo_clear [.ref (rd 0), .int (nI n)] m 0 0 (fun v m' => v = none ∧ m' = uJA m (rd 25) (bup (m.2.2.2.1 (rd 25)) n 0 24)) := by
  refine jm_C_of (cd := cd_Mo_clear) (ini := false) (by decide +kernel) ok_Mo_clear (fun h => by cases h) (Nat.le_of_ble_eq_true rfl) ?_
  intro X hX
  have o0 : jm_ok m (rd 0) 6 := S.ok (Or.inl (by decide))
  have r25 : m.2.2.2.2 (rd 0) 25 = some (rd 25) := S.2.2 25 (Or.inr (Or.inl (by decide))) (by decide)
  have o25 : jm_ok m (rd 25) 51 := S.ok (k := 25) (Or.inr (Or.inl (by decide)))
  have l25 : (m.2.1 (rd 25)).2 = 144 := S.len (k := 25) (Or.inr (Or.inl (by decide)))
  have loop : ∀ (e k : Nat), k + e = 24 → X 2 [(0, .ref (rd 0)), (1, .int (nI n)), (2, .int (nI k))] [] (uJA m (rd 25) (bup (m.2.2.2.1 (rd 25)) n 0 k)) 0 0 := by
    intro e
    induction e with
    | zero =>
      intro k hk
      have hk2 : k = 24 := by omega
      subst hk2
      refine jm_run hX [] 20 ?_
      refine And.intro (fun _ => ?_) (fun g => ?_)
      · exact ⟨Nat.le_refl _, Nat.le_refl _, trivial, rfl, rfl⟩
      · exact absurd (nI_le (Nat.le_refl 24) (by decide)) (show ¬ nI 24 ≤ nI 24 from g)
    | succ e ih =>
      intro k hk
      refine jm_run hX [(2, [0, 1, 2])] 20 ?_
      refine And.intro (fun g => absurd (show nI 24 ≤ nI k from g) (nI_ge (by omega) (by omega))) (fun _ => ?_)
      have ei : (24 : Int32) * nI n + nI k = nI (24 * n + k) := ix24 n k
      refine And.intro o0 ⟨some (rd 25), r25, And.intro o25 (And.intro ?_ ?_)⟩
      · show vp_in ((24 : Int32) * nI n + nI k) (m.2.1 (rd 25)).2
        rw [ei]; exact vin_of l25 (by omega) (by decide)
      · have kk := ih (k + 1) (by omega)
        rw [← bup_s, ← uJ_uJA, dg_z, ← nI_1] at kk
        show X 2 [(0, .ref (rd 0)), (1, .int (nI n)), (2, .int (nI k + 1))] [] (uJ (uJA m (rd 25) (bup (m.2.2.2.1 (rd 25)) n 0 k)) (rd 25) ((24 : Int32) * nI n + nI k).toNatClampNeg 0) 0 0
        rw [ei, nI_c (by omega)]
        exact kk
  refine jm_run hX [(2, [0, 1, 2])] 10 ?_
  have := loop 24 0 (by omega)
  rw [bup_0, uJA_id] at this
  exact this
theorem c_Mo_copy {m : jm_M} {rd V : Nat → Nat} {a b : Nat} (S : MST m rd) (hg : bgv (m.2.2.2.1 (rd 25)) V) (ha : a < 6) (hb : b < 6) : jm_C l D ca n_Mo_copy [.ref (rd 0), .int (nI a), .int (nI b)] m 0 0 (fun v m' => v = none ∧ m' = uJA m (rd 25) (bup (m.2.2.2.1 (rd 25)) b (V a) 24)) := by
  refine jm_C_of (cd := cd_Mo_copy) (ini := false) (by decide +kernel) ok_Mo_copy (fun h => by cases h) (Nat.le_of_ble_eq_true rfl) ?_
  intro X hX
  have o0 : jm_ok m (rd 0) 6 := S.ok (Or.inl (by decide))
  have r25 : m.2.2.2.2 (rd 0) 25 = some (rd 25) := S.2.2 25 (Or.inr (Or.inl (by decide))) (by decide)
  have o25 : jm_ok m (rd 25) 51 := S.ok (k := 25) (Or.inr (Or.inl (by decide)))
  have l25 : (m.2.1 (rd 25)).2 = 144 := S.len (k := 25) (Or.inr (Or.inl (by decide)))
  have loop : ∀ (e k : Nat), k + e = 24 → X 2 [(0, .ref (rd 0)), (1, .int (nI a)), (2, .int (nI b)), (3, .int (nI k))] [] (uJA m (rd 25) (bup (m.2.2.2.1 (rd 25)) b (V a) k)) 0 0 := by
    intro e
    induction e with
    | zero =>
      intro k hk
      have hk2 : k = 24 := by omega
      subst hk2
      refine jm_run hX [] 20 ?_
      refine And.intro (fun _ => ?_) (fun g => ?_)
      · exact ⟨Nat.le_refl _, Nat.le_refl _, trivial, rfl, rfl⟩
      · exact absurd (nI_le (Nat.le_refl 24) (by decide)) (show ¬ nI 24 ≤ nI 24 from g)
    | succ e ih =>
      intro k hk
      refine jm_run hX [(2, [0, 1, 2, 3])] 30 ?_
      refine And.intro (fun g => absurd (show nI 24 ≤ nI k from g) (nI_ge (by omega) (by omega))) (fun _ => ?_)
      have ea : (24 : Int32) * nI a + nI k = nI (24 * a + k) := ix24 a k
      have eb : (24 : Int32) * nI b + nI k = nI (24 * b + k) := ix24 b k
      have ev : bup (m.2.2.2.1 (rd 25)) b (V a) k (24 * a + k) = lN (dg (V a) k) := by
        rw [bup_hi (by omega)]; exact (hg a ha).2 k (by omega)
      refine And.intro o0 ⟨some (rd 25), r25, And.intro o0 ⟨some (rd 25), r25, And.intro o25 (And.intro ?_ (And.intro o25 (And.intro ?_ ?_)))⟩⟩
      · show vp_in ((24 : Int32) * nI a + nI k) (m.2.1 (rd 25)).2
        rw [ea]; exact vin_of l25 (by omega) (by decide)
      · show vp_in ((24 : Int32) * nI b + nI k) (m.2.1 (rd 25)).2
        rw [eb]; exact vin_of l25 (by omega) (by decide)
      · have kk := ih (k + 1) (by omega)
        rw [← bup_s, ← uJ_uJA, ← nI_1] at kk
        show X 2 [(0, .ref (rd 0)), (1, .int (nI a)), (2, .int (nI b)), (3, .int (nI k + 1))] [] (uJ (uJA m (rd 25) (bup (m.2.2.2.1 (rd 25)) b (V a) k)) (rd 25) ((24 : Int32) * nI b + nI k).toNatClampNeg (va_up m.2.2.2.1 (rd 25) (bup (m.2.2.2.1 (rd 25)) b (V a) k) (rd 25) ((24 : Int32) * nI a + nI k).toNatClampNeg)) 0 0
        rw [ea, eb, nI_c (by omega), nI_c (by omega), va_up_self, ev]
        exact kk
  refine jm_run hX [(2, [0, 1, 2, 3])] 10 ?_
  have := loop 24 0 (by omega)
  rw [bup_0, uJA_id] at this
  exact this
theorem c_Mo_grow {m : jm_M} {rd V : Nat → Nat} {n b c : Nat} (S : MST m rd) (hg : bgv (m.2.2.2.1 (rd 25)) V) (hn : n < 6) (hb : b ≤ 2 ^ 31) (hc : c < 2 ^ 31) : jm_C l D ca n_Mo_grow [.ref (rd 0), .int (nI n), .long (lN b), .long (lN c)] m 0 0 (fun v m' => v = none ∧ m' = uJA m (rd 25) (bup (m.2.2.2.1 (rd 25)) n (V n * b + c) 24)) := by
  refine jm_C_of (cd := cd_Mo_grow) (ini := false) (by decide +kernel) ok_Mo_grow (fun h => by cases h) (Nat.le_of_ble_eq_true rfl) ?_
  intro X hX
  have o0 : jm_ok m (rd 0) 6 := S.ok (Or.inl (by decide))
  have r25 : m.2.2.2.2 (rd 0) 25 = some (rd 25) := S.2.2 25 (Or.inr (Or.inl (by decide))) (by decide)
  have o25 : jm_ok m (rd 25) 51 := S.ok (k := 25) (Or.inr (Or.inl (by decide)))
  have l25 : (m.2.1 (rd 25)).2 = 144 := S.len (k := 25) (Or.inr (Or.inl (by decide)))
  have loop : ∀ (e k : Nat), k + e = 24 → X 7 [(0, .ref (rd 0)), (1, .int (nI n)), (2, .long (lN b)), (6, .long (lN (cs (V n) b c k))), (8, .int (nI k))] [] (uJA m (rd 25) (bup (m.2.2.2.1 (rd 25)) n (V n * b + c) k)) 0 0 := by
    intro e
    induction e with
    | zero =>
      intro k hk
      have hk2 : k = 24 := by omega
      subst hk2
      refine jm_run hX [] 20 ?_
      refine And.intro (fun _ => ?_) (fun g => ?_)
      · exact ⟨Nat.le_refl _, Nat.le_refl _, trivial, rfl, rfl⟩
      · exact absurd (nI_le (Nat.le_refl 24) (by decide)) (show ¬ nI 24 ≤ nI 24 from g)
    | succ e ih =>
      intro k hk
      refine jm_run hX [(7, [0, 1, 2, 6, 8])] 40 ?_
      refine And.intro (fun g => absurd (show nI 24 ≤ nI k from g) (nI_ge (by omega) (by omega))) (fun _ => ?_)
      have ei : (24 : Int32) * nI n + nI k = nI (24 * n + k) := ix24 n k
      have ev : bup (m.2.2.2.1 (rd 25)) n (V n * b + c) k (24 * n + k) = lN (dg (V n) k) := by
        rw [bup_hi (by omega)]; exact (hg n hn).2 k (by omega)
      have hcs : cs (V n) b c k ≤ 2 ^ 31 := cs_lt hb hc
      have hd := dg_lt (V n) k
      have hv : dg (V n) k * b + cs (V n) b c k < 2 ^ 63 := by
        have : dg (V n) k * b ≤ 268435456 * 2 ^ 31 := Nat.mul_le_mul (Nat.le_of_lt hd) hb
        omega
      have hvv : va_up m.2.2.2.1 (rd 25) (bup (m.2.2.2.1 (rd 25)) n (V n * b + c) k) (rd 25) ((24 : Int32) * nI n + nI k).toNatClampNeg * lN b + lN (cs (V n) b c k) = lN (dg (V n) k * b + cs (V n) b c k) := by
        rw [ei, nI_c (by omega), va_up_self, ev, lN_mul, lN_add]
      have hin : vp_in ((24 : Int32) * nI n + nI k) (m.2.1 (rd 25)).2 := by rw [ei]; exact vin_of l25 (by omega) (by decide)
      refine And.intro o0 ⟨some (rd 25), r25, And.intro o25 (And.intro hin (And.intro o0 ⟨some (rd 25), r25, And.intro o25 (And.intro hin ?_)⟩))⟩
      have kk := ih (k + 1) (by omega)
      rw [← bup_s, ← uJ_uJA, ← nI_1, ← cs_s, ← cs_d, ← bb_s hv, ← bb_a hv, ← hvv] at kk
      have e2 : ((24 : Int32) * nI n + nI k).toNatClampNeg = 24 * n + k := by rw [ei, nI_c (by omega)]
      show X 7 [(0, .ref (rd 0)), (1, .int (nI n)), (2, .long (lN b)), (6, .long ((va_up m.2.2.2.1 (rd 25) (bup (m.2.2.2.1 (rd 25)) n (V n * b + c) k) (rd 25) ((24 : Int32) * nI n + nI k).toNatClampNeg * lN b + lN (cs (V n) b c k)) >>> ((28 : Int32).toInt64 &&& 63))), (8, .int (nI k + 1))] [] (uJ (uJA m (rd 25) (bup (m.2.2.2.1 (rd 25)) n (V n * b + c) k)) (rd 25) ((24 : Int32) * nI n + nI k).toNatClampNeg ((va_up m.2.2.2.1 (rd 25) (bup (m.2.2.2.1 (rd 25)) n (V n * b + c) k) (rd 25) ((24 : Int32) * nI n + nI k).toNatClampNeg * lN b + lN (cs (V n) b c k)) &&& 268435455)) 0 0
      rw [e2] at kk ⊢
      exact kk
  refine jm_run hX [(7, [0, 1, 2, 6, 8])] 10 ?_
  have := loop 24 0 (by omega)
  rw [bup_0, uJA_id, cs_0] at this
  exact this
end RB
