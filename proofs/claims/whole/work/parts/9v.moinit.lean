/-! The reference's constructor. L: which of its arrays are made; g: the object's ints. -/
def AGR (m m' : jm_M) (a : Nat) : Prop := m'.2.1 a = m.2.1 a ∧ m'.2.2.1 a = m.2.2.1 a ∧ m'.2.2.2.1 a = m.2.2.2.1 a ∧ m'.2.2.2.2 a = m.2.2.2.2 a
theorem AGR.tr {m1 m2 m3 : jm_M} {a : Nat} (h : AGR m1 m2 a) (g : AGR m2 m3 a) : AGR m1 m3 a := ⟨g.1.trans h.1, g.2.1.trans h.2.1, g.2.2.1.trans h.2.2.1, g.2.2.2.trans h.2.2.2⟩
def MK (m0 : jm_M) (g : Nat → Int32) (m : jm_M) (rd : Nat → Nat) (L : List Nat) : Prop :=
  (rd 0 ∈ m.1 ∧ m.2.1 (rd 0) = (6, 0) ∧ m.2.2.1 (rd 0) = g) ∧
  (∀ k, k ∈ L → (mkin k ∧ k ≠ 0) ∧ rd k ∈ m.1 ∧ m.2.1 (rd k) = mkd k ∧ m.2.2.1 (rd k) = (fun _ => 0) ∧ m.2.2.2.1 (rd k) = (fun _ => 0) ∧ m.2.2.2.2 (rd 0) k = some (rd k) ∧ rd k ≠ rd 0 ∧ rd k ∉ m0.1) ∧
  (∀ i j, i ∈ L → j ∈ L → rd i = rd j → i = j) ∧ ∀ a, a ∈ m0.1 → a ∈ m.1 ∧ (a ≠ rd 0 → AGR m0 m a)
theorem MK.new {m0 m : jm_M} {g : Nat → Int32} {rd : Nat → Nat} {L : List Nat} {q k c n : Nat} (h : MK m0 g m rd L) (hq : q ∉ m.1) (hk : k ∉ L) (hm : mkin k) (h0 : k ≠ 0) (e : mkd k = (c, n)) : MK m0 g (uR (aN m q c n) (rd 0) k (some q)) (va_up rd k q) (k :: L) := by
  obtain ⟨⟨a1, a2, a3⟩, b, c', f⟩ := h
  have n0 : rd 0 ≠ q := fun w => hq (w ▸ a1)
  have v0 : va_up rd k q 0 = rd 0 := va_up_ne _ _ (fun w => h0 w.symm)
  have hne : ∀ i, i ∈ L → i ≠ k := fun i hi w => hk (w ▸ hi)
  have hnq : ∀ i, i ∈ L → rd i ≠ q := fun i hi w => hq (w ▸ (b i hi).2.1)
  refine ⟨?_, fun i hi => ?_, fun i j hi hj w => ?_, fun a ha => ?_⟩
  · rw [v0]
    exact ⟨List.mem_append_left _ a1, (va_up_ne _ _ n0).trans a2, (va_up_ne _ _ n0).trans a3⟩
  · rw [v0]
    rcases List.mem_cons.mp hi with hi | hi
    · subst hi
      rw [va_up_self]
      refine ⟨⟨hm, h0⟩, List.mem_append_right _ (List.mem_singleton.mpr rfl), (va_up_self _ _ _).trans e.symm, va_up_self _ _ _, va_up_self _ _ _, ?_, fun w => n0 w.symm, fun w => hq (f q w).1⟩
      show va_up (aN m q c n).2.2.2.2 (rd 0) (va_up ((aN m q c n).2.2.2.2 (rd 0)) i (some q)) (rd 0) i = _
      rw [va_up_self, va_up_self]
    · rw [va_up_ne _ _ (hne i hi)]
      obtain ⟨b0, b1, b2, b3, b4, b5, b6, b7⟩ := b i hi
      refine ⟨b0, List.mem_append_left _ b1, (va_up_ne _ _ (hnq i hi)).trans b2, (va_up_ne _ _ (hnq i hi)).trans b3, (va_up_ne _ _ (hnq i hi)).trans b4, ?_, b6, b7⟩
      show va_up (aN m q c n).2.2.2.2 (rd 0) (va_up ((aN m q c n).2.2.2.2 (rd 0)) k (some q)) (rd 0) i = _
      rw [va_up_self, va_up_ne _ _ (hne i hi)]
      exact (congrFun (va_up_ne m.2.2.2.2 _ n0) i).trans b5
  · rcases List.mem_cons.mp hi with hi | hi <;> rcases List.mem_cons.mp hj with hj | hj
    · rw [hi, hj]
    · rw [hi, va_up_self, va_up_ne _ _ (hne j hj)] at w
      exact absurd w.symm (hnq j hj)
    · rw [hj, va_up_self, va_up_ne _ _ (hne i hi)] at w
      exact absurd w (hnq i hi)
    · rw [va_up_ne _ _ (hne i hi), va_up_ne _ _ (hne j hj)] at w
      exact c' i j hi hj w
  · rw [v0]
    have nq : a ≠ q := fun w => hq (w ▸ (f a ha).1)
    refine ⟨List.mem_append_left _ (f a ha).1, fun w => ((f a ha).2 w).tr ⟨va_up_ne _ _ nq, va_up_ne _ _ nq, va_up_ne _ _ nq, ?_⟩⟩
    show va_up (aN m q c n).2.2.2.2 (rd 0) _ a = _
    rw [va_up_ne _ _ w]
    exact va_up_ne _ _ nq
theorem MK.int {m0 m : jm_M} {g : Nat → Int32} {rd : Nat → Nat} {L : List Nat} {j : Nat} {x : Int32} (h : MK m0 g m rd L) : MK m0 (va_up g j x) (uI m (rd 0) j x) rd L := by
  obtain ⟨⟨a1, a2, a3⟩, b, c', f⟩ := h
  refine ⟨⟨a1, a2, ?_⟩, fun i hi => ?_, c', fun a ha => ⟨(f a ha).1, fun w => ((f a ha).2 w).tr ⟨rfl, va_up_ne _ _ w, rfl, rfl⟩⟩⟩
  · show va_up m.2.2.1 (rd 0) (va_up (m.2.2.1 (rd 0)) j x) (rd 0) = _
    rw [va_up_self, a3]
  · obtain ⟨b0, b1, b2, b3, b4, b5, b6, b7⟩ := b i hi
    exact ⟨b0, b1, b2, (va_up_ne _ _ b6).trans b3, b4, b5, b6, b7⟩
theorem MK.ok {m0 m : jm_M} {g : Nat → Int32} {rd : Nat → Nat} {L : List Nat} (h : MK m0 g m rd L) : jm_ok m (rd 0) 6 := ⟨h.1.1, by rw [h.1.2.1]⟩
theorem MK.okn {m0 m : jm_M} {g : Nat → Int32} {rd : Nat → Nat} {L : List Nat} {q c n : Nat} (h : MK m0 g m rd L) (hq : q ∉ m.1) : jm_ok (aN m q c n) (rd 0) 6 := by
  have n0 : rd 0 ≠ q := fun w => hq (w ▸ h.1.1)
  refine ⟨List.mem_append_left _ h.1.1, ?_⟩
  show (va_up m.2.1 q (c, n) (rd 0)).1 = 6
  rw [va_up_ne _ _ n0, h.1.2.1]
def mLs : List Nat := [33, 30, 27, 26, 25, 24, 23, 22, 21, 20, 19, 18, 17, 16, 13, 12, 11, 10, 9, 8, 7, 6, 5, 4, 3, 2, 1]
theorem mLs_in {k : Nat} (h : mkin k) (h0 : k ≠ 0) : k ∈ mLs := by
  unfold mkin at h
  have : ∀ k, k < 34 → (k ≤ 13 ∨ (16 ≤ k ∧ k ≤ 27) ∨ k = 30 ∨ k = 33) → k ≠ 0 → k ∈ mLs := by decide
  exact this k (by omega) h h0
theorem MK.S {m0 m : jm_M} {g : Nat → Int32} {rd : Nat → Nat} (h : MK m0 g m rd mLs) : MST m rd := by
  obtain ⟨⟨a1, a2, a3⟩, b, c', f⟩ := h
  refine ⟨fun k hk => ?_, fun i j hi hj w => ?_, fun k hk h0 => (b k (mLs_in hk h0)).2.2.2.2.2.1⟩
  · by_cases w : k = 0
    · subst w; exact ⟨a1, a2⟩
    · exact ⟨(b k (mLs_in hk w)).2.1, (b k (mLs_in hk w)).2.2.1⟩
  · by_cases wi : i = 0
    · subst wi
      by_cases wj : j = 0
      · exact wj.symm
      · exact absurd w.symm (b j (mLs_in hj wj)).2.2.2.2.2.2.1
    · by_cases wj : j = 0
      · subst wj
        exact absurd w (b i (mLs_in hi wi)).2.2.2.2.2.2.1
      · exact c' i j (mLs_in hi wi) (mLs_in hj wj) w
abbrev mA0 (K : Nat) : RSt := (rNew K, rNew K, fun _ => false, fun _ => 0, fun _ => 0, false, false)
def moiQ (m0 : jm_M) (o : Nat) (x : Int32) (m' : jm_M) : Prop := ∃ rd : Nat → Nat, rd 0 = o ∧ (∀ k, mkin k → k ≠ 0 → rd k ∉ m0.1) ∧ MI m' rd (mA0 (newK x)) 0 ∧ ∀ a, a ∈ m0.1 → a ∈ m'.1 ∧ (a ≠ o → AGR m0 m' a)
section CTM
variable {l : Launch} {D : va_G} {ca : Nat → ClassId}
theorem c_Mo_init {m0 : jm_M} {o : Nat} (x : Int32) (ok : o ∈ m0.1 ∧ m0.2.1 o = (6, 0)) (hz : m0.2.2.1 o = fun _ => 0) : jm_C l D ca n_Mo_init [.ref o, .int x] m0 27 1430 (fun v m' => v = none ∧ moiQ m0 o x m') := by
  refine jm_C_of (cd := cd_Mo_init) (ini := true) (by decide +kernel) ok_Mo_init (fun _ => rfl) (Nat.le_of_ble_eq_true rfl) ?_
  intro X hX
  have bEnd : ∀ (m : jm_M) (rd : Nat → Nat), rd 0 = o → MK m0 (va_up (fun _ => 0) 31 (-1)) m rd mLs → X 221 [(0, .ref o), (1, .int x)] [] m 27 1430 := by
    intro m rd ho h
    subst ho
    have key : ∀ K, K = newK x → X 237 [(0, .ref (rd 0)), (1, .int x)] [.int (nI K), .ref (rd 0)] m 27 1430 := fun K hK => by
      have h1 := h.int (j := 0) (x := nI K)
      have hm1 := h1
      have S1 := h1.S
      refine jm_run hX [(242, [0, 1, 2])] 10 ?_
      refine And.intro h.ok ?_
      generalize uI m (rd 0) 0 (nI K) = m1 at h1 hm1 S1 ⊢
      have o0 : ∀ {m : jm_M}, MST m rd → jm_ok m (rd 0) 6 := fun S => S.ok (Or.inl (by decide))
      have k4 : mkin 4 := Or.inl (by decide)
      have k6 : mkin 6 := Or.inl (by decide)
      have k9 : mkin 9 := Or.inl (by decide)
      have k16 : mkin 16 := Or.inr (Or.inl (by decide))
      have zi : ∀ k, mkin k → k ≠ 0 → m1.2.2.1 (rd k) = fun _ => 0 := fun k hk w => (h1.2.1 k (mLs_in hk w)).2.2.2.1
      have zj : ∀ k, mkin k → k ≠ 0 → m1.2.2.2.1 (rd k) = fun _ => 0 := fun k hk w => (h1.2.1 k (mLs_in hk w)).2.2.2.2.1
      have fin : ∀ m2, FM rd (fun k => k = 4 ∨ k = 6 ∨ k = 9 ∨ k = 16) m1 m2 → (∀ i, i < 36 → m2.2.2.1 (rd 6) i = 1) → (∀ i, i < 18 → m2.2.2.1 (rd 9) i = 1 ∧ m2.2.2.1 (rd 4) i = -1) → lrow (m2.2.2.2.1 (rd 16)) prm 8 → moiQ m0 (rd 0) x m2 := fun m2 hF h6 h9 h16 => by
        have at' : ∀ k, mkin k → k ≠ 4 → k ≠ 6 → k ≠ 9 → k ≠ 16 → m2.2.2.1 (rd k) = m1.2.2.1 (rd k) ∧ m2.2.2.2.1 (rd k) = m1.2.2.2.1 (rd k) := fun k hk w1 w2 w3 w4 => hF.at S1 hk (by omega)
        have a0 : m2.2.2.1 (rd 0) = va_up (va_up (fun _ => 0) 31 (-1)) 0 (nI K) := (at' 0 (Or.inl (by decide)) (by decide) (by decide) (by decide) (by decide)).1.trans h1.1.2.2
        have z : ∀ k, mkin k → k ≠ 0 → k ≠ 4 → k ≠ 6 → k ≠ 9 → k ≠ 16 → m2.2.2.1 (rd k) = fun _ => 0 := fun k hk w0 w1 w2 w3 w4 => (at' k hk w1 w2 w3 w4).1.trans (zi k hk w0)
        have zl : ∀ k, mkin k → k ≠ 0 → k ≠ 4 → k ≠ 6 → k ≠ 9 → k ≠ 16 → m2.2.2.2.1 (rd k) = fun _ => 0 := fun k hk w0 w1 w2 w3 w4 => (at' k hk w1 w2 w3 w4).2.trans (zj k hk w0)
        have n0 : nI 0 = 0 := nI_0
        have zz : ∀ k, k ≤ 10 → k ≠ 0 → k ≠ 4 → k ≠ 6 → k ≠ 9 → ∀ i, m2.2.2.1 (rd k) i = nI 0 := fun k hk w0 w1 w2 w3 i => by rw [z k (Or.inl (by omega)) w0 w1 w2 w3 (by omega)]; exact n0.symm
        have hKo := newK_ok x
        rw [← hK] at hKo
        refine ⟨rd, rfl, fun k hk w => (h1.2.1 k (mLs_in hk w)).2.2.2.2.2.2.2, ?_, fun a ha => ⟨by rw [hF.1]; exact (h1.2.2.2 a ha).1, fun w => ((h1.2.2.2 a ha).2 w).tr ?_⟩⟩
        · rw [← hK]
          have hv : ∀ f, f < 2 → MV m2 rd f (rNew K) := fun f hf => by
            refine ⟨?_, zz 1 (by decide) (by decide) (by decide) (by decide) (by decide) f, zz 2 (by decide) (by decide) (by decide) (by decide) (by decide) f, fun j _ => zz 3 (by decide) (by decide) (by decide) (by decide) (by decide) _, fun i hi => (h9 (9 * f + i) (by omega)).2, fun q hq => ⟨zz 5 (by decide) (by decide) (by decide) (by decide) (by decide) _, h6 (18 * f + q) (by omega)⟩, fun r hr => ⟨zz 7 (by decide) (by decide) (by decide) (by decide) (by decide) _, zz 8 (by decide) (by decide) (by decide) (by decide) (by decide) _, (h9 (9 * f + r) (by omega)).1, zz 10 (by decide) (by decide) (by decide) (by decide) (by decide) _⟩⟩
            rw [a0]; exact va_up_self _ _ _
          refine ⟨hF.S S1, fun f hf => ?_, h16, ⟨fun _ => 0, fun n _ => ⟨Nat.pow_pos (by decide), fun k _ => ?_⟩⟩, fun j _ => ⟨?_, ?_, ?_, Nat.zero_le _, Nat.zero_le _⟩, ?_, ?_, fun _ => 0, 0, fun f hf => ⟨Nat.le_refl 0, ?_⟩, Nat.le_refl 0, ?_, Or.inl ?_⟩
          · rcases (show f = 0 ∨ f = 1 by omega) with w | w
            · subst w; exact ⟨hv 0 (by decide), rNew_ok hKo⟩
            · subst w; exact ⟨hv 1 (by decide), rNew_ok hKo⟩
          · rw [zl 25 (Or.inr (Or.inl (by decide))) (by decide) (by decide) (by decide) (by decide) (by decide), dg_z]; rfl
          · rw [z 11 (Or.inl (by decide)) (by decide) (by decide) (by decide) (by decide) (by decide)]; rfl
          · rw [zl 12 (Or.inl (by decide)) (by decide) (by decide) (by decide) (by decide) (by decide)]; rfl
          · rw [zl 13 (Or.inl (by decide)) (by decide) (by decide) (by decide) (by decide) (by decide)]; rfl
          · rw [a0, va_up_ne _ _ (by decide), va_up_ne _ _ (by decide)]; rfl
          · rw [a0, va_up_ne _ _ (by decide), va_up_ne _ _ (by decide)]; rfl
          · rw [z 33 (Or.inr (Or.inr (Or.inr rfl))) (by decide) (by decide) (by decide) (by decide) (by decide)]; exact n0.symm
          · rw [a0, va_up_ne _ _ (by decide), va_up_ne _ _ (by decide)]; exact n0.symm
          · rw [a0, va_up_ne _ _ (by decide), va_up_self]
        · have hb := hF.2.2.2 a (fun k hk hp e => (h1.2.1 k (mLs_in hk (by omega))).2.2.2.2.2.2.2 (e ▸ ha))
          exact ⟨by rw [hF.2.1], hb.1, hb.2, by rw [hF.2.2.1]⟩
      -- the primes
      have k289 : ∀ m2, FM rd (fun k => k = 4 ∨ k = 6 ∨ k = 9 ∨ k = 16) m1 m2 → (∀ i, i < 36 → m2.2.2.1 (rd 6) i = 1) → (∀ i, i < 18 → m2.2.2.1 (rd 9) i = 1 ∧ m2.2.2.1 (rd 4) i = -1) → X 289 [(0, .ref (rd 0))] [] m2 27 1430 := fun m2 hF h6 h9 => by
        have S2 := hF.S S1
        have hin : ∀ i, i < 8 → vp_in (nI i) (m2.2.1 (rd 16)).2 := fun i hi => vin_of (S2.len k16) hi (by decide)
        have r16 := S2.2.2 16 k16 (by decide)
        have o16 := S2.ok k16
        refine jm_run hX [] 60 ?_
        refine And.intro (o0 S2) ⟨some (rd 16), r16, And.intro o16 (And.intro (hin 0 (by decide)) ?_)⟩
        refine And.intro (o0 S2) ⟨some (rd 16), r16, And.intro o16 (And.intro (hin 1 (by decide)) ?_)⟩
        refine And.intro (o0 S2) ⟨some (rd 16), r16, And.intro o16 (And.intro (hin 2 (by decide)) ?_)⟩
        refine And.intro (o0 S2) ⟨some (rd 16), r16, And.intro o16 (And.intro (hin 3 (by decide)) ?_)⟩
        refine And.intro (o0 S2) ⟨some (rd 16), r16, And.intro o16 (And.intro (hin 4 (by decide)) ?_)⟩
        refine And.intro (o0 S2) ⟨some (rd 16), r16, And.intro o16 (And.intro (hin 5 (by decide)) ?_)⟩
        refine And.intro (o0 S2) ⟨some (rd 16), r16, And.intro o16 (And.intro (hin 6 (by decide)) ?_)⟩
        refine And.intro (o0 S2) ⟨some (rd 16), r16, And.intro o16 (And.intro (hin 7 (by decide)) ?_)⟩
        refine ⟨Nat.le_refl _, Nat.le_refl _, trivial, rfl, ?_⟩
        have pu : ∀ {m3 : jm_M} (i : Nat) (v : Int64), FM rd (fun k => k = 16) m2 m3 → FM rd (fun k => k = 16) m2 (uJ m3 (rd 16) i v) := fun i v h => h.tr (FM.uJ k16 rfl)
        have hFp : FM rd (fun k => k = 16) m2 (uJ (uJ (uJ (uJ (uJ (uJ (uJ (uJ m2 (rd 16) 0 2147483647) (rd 16) 1 2147483629) (rd 16) 2 2147483587) (rd 16) 3 2147483579) (rd 16) 4 2147483563) (rd 16) 5 2147483549) (rd 16) 6 2147483543) (rd 16) 7 2147483497) := pu 7 _ (pu 6 _ (pu 5 _ (pu 4 _ (pu 3 _ (pu 2 _ (pu 1 _ (pu 0 _ FM.rf)))))))
        have row : lrow ((uJ (uJ (uJ (uJ (uJ (uJ (uJ (uJ m2 (rd 16) 0 2147483647) (rd 16) 1 2147483629) (rd 16) 2 2147483587) (rd 16) 3 2147483579) (rd 16) 4 2147483563) (rd 16) 5 2147483549) (rd 16) 6 2147483543) (rd 16) 7 2147483497).2.2.2.1 (rd 16)) prm 8 := fun i hi => by
          have uj : ∀ (m3 : jm_M) (i : Nat) (v : Int64), (uJ m3 (rd 16) i v).2.2.2.1 (rd 16) = va_up (m3.2.2.2.1 (rd 16)) i v := fun m3 i v => va_up_self _ _ _
          rw [uj, uj, uj, uj, uj, uj, uj, uj]
          rcases (show i = 0 ∨ i = 1 ∨ i = 2 ∨ i = 3 ∨ i = 4 ∨ i = 5 ∨ i = 6 ∨ i = 7 by omega) with w | w | w | w | w | w | w | w <;> subst w <;> rfl
        have hF3 := hF.tr (hFp.mo (fun k w => Or.inr (Or.inr (Or.inr w))))
        refine fin _ hF3 (fun i hi => ?_) (fun i hi => ?_) row
        · exact (congrFun (hFp.at S2 k6 (by decide)).1 i).trans (h6 i hi)
        · exact ⟨(congrFun (hFp.at S2 k9 (by decide)).1 i).trans (h9 i hi).1, (congrFun (hFp.at S2 k4 (by decide)).1 i).trans (h9 i hi).2⟩
      have loop2 : ∀ (e j : Nat), j + e = 18 → ∀ m2, FM rd (fun k => k = 4 ∨ k = 6 ∨ k = 9 ∨ k = 16) m1 m2 → (∀ i, i < 36 → m2.2.2.1 (rd 6) i = 1) → (∀ i, i < j → m2.2.2.1 (rd 9) i = 1 ∧ m2.2.2.1 (rd 4) i = -1) → X 263 [(0, .ref (rd 0)), (2, .int (nI j))] [] m2 27 1430 := by
        intro e
        induction e with
        | zero =>
          intro j hj m2 hF h6 h9
          have : j = 18 := by omega
          subst this
          refine jm_run hX [(289, [0])] 6 ?_
          exact And.intro (fun _ => k289 m2 hF h6 h9) (fun g => absurd (nI_le (Nat.le_refl 18) (by decide)) g)
        | succ e ih =>
          intro j hj m2 hF h6 h9
          have S2 := hF.S S1
          refine jm_run hX [(263, [0, 2])] 30 ?_
          refine And.intro (fun g => absurd (show nI 18 ≤ nI j from g) (nI_ge (by omega) (by omega))) (fun _ => ?_)
          refine And.intro (o0 S2) ⟨some (rd 9), S2.2.2 9 k9 (by decide), And.intro (S2.ok k9) (And.intro (vin_of (S2.len k9) (show j < 18 by omega) (by decide)) ?_)⟩
          refine And.intro (o0 S2) ⟨some (rd 4), S2.2.2 4 k4 (by decide), And.intro (S2.ok k4) (And.intro (vin_of (S2.len k4) (show j < 18 by omega) (by decide)) ?_)⟩
          have kk := ih (j + 1) (by omega) (uI (uI m2 (rd 9) (nI j).toNatClampNeg 1) (rd 4) (nI j).toNatClampNeg (-1)) (hF.tr ((FM.uI (p := fun k => k = 4 ∨ k = 6 ∨ k = 9 ∨ k = 16) k9 (by decide)).tr (FM.uI k4 (by decide)))) (fun i hi => by
            rw [uI_ne (m := uI m2 (rd 9) (nI j).toNatClampNeg 1) S2 k4 k6 (Or.inl (by decide)), uI_ne S2 k9 k6 (Or.inl (by decide))]; exact h6 i hi) (fun i hi => by
            rw [uI_ne (m := uI m2 (rd 9) (nI j).toNatClampNeg 1) S2 k4 k9 (Or.inl (by decide))]
            have e2 : (nI j).toNatClampNeg = j := nI_c (by omega)
            rw [e2]
            by_cases w : i = j
            · subst w; rw [uI_eq, uI_eq]; exact ⟨rfl, rfl⟩
            · rw [uI_ne S2 k9 k9 (Or.inr w), uI_ne (m := uI m2 (rd 9) j 1) S2 k4 k4 (Or.inr w), uI_ne S2 k9 k4 (Or.inl (by decide))]; exact h9 i (by omega))
          rw [← nI_1] at kk
          exact kk
      have loop1 : ∀ (e j : Nat), j + e = 36 → ∀ m2, FM rd (fun k => k = 4 ∨ k = 6 ∨ k = 9 ∨ k = 16) m1 m2 → (∀ i, i < j → m2.2.2.1 (rd 6) i = 1) → X 242 [(0, .ref (rd 0)), (1, .int x), (2, .int (nI j))] [] m2 27 1430 := by
        intro e
        induction e with
        | zero =>
          intro j hj m2 hF h6
          have : j = 36 := by omega
          subst this
          refine jm_run hX [(263, [0, 2])] 8 ?_
          exact And.intro (fun _ => loop2 18 0 (by omega) m2 hF h6 (fun i hi => absurd hi (by omega))) (fun g => absurd (nI_le (Nat.le_refl 36) (by decide)) g)
        | succ e ih =>
          intro j hj m2 hF h6
          have S2 := hF.S S1
          refine jm_run hX [(242, [0, 1, 2])] 30 ?_
          refine And.intro (fun g => absurd (show nI 36 ≤ nI j from g) (nI_ge (by omega) (by omega))) (fun _ => ?_)
          refine And.intro (o0 S2) ⟨some (rd 6), S2.2.2 6 k6 (by decide), And.intro (S2.ok k6) (And.intro (vin_of (S2.len k6) (show j < 36 by omega) (by decide)) ?_)⟩
          have kk := ih (j + 1) (by omega) (uI m2 (rd 6) (nI j).toNatClampNeg 1) (hF.tr (FM.uI k6 (by decide))) (fun i hi => by
            have e2 : (nI j).toNatClampNeg = j := nI_c (by omega)
            rw [e2]
            by_cases w : i = j
            · subst w; rw [uI_eq]
            · rw [uI_ne S2 k6 k6 (Or.inr w)]; exact h6 i (by omega))
          rw [← nI_1] at kk
          exact kk
      exact loop1 36 0 (by omega) m1 FM.rf (fun i hi => absurd hi (by omega))
    refine jm_run hX [(237, [0, 1])] 20 ?_
    refine And.intro (fun g => ?_) (fun g => ?_)
    · have g : x < nI 1 := g
      rw [← Int32.not_le, ileN (by decide)] at g
      exact key 1 (by unfold newK; rw [if_neg (by omega)])
    · have g : ¬ x < nI 1 := g
      rw [← Int32.not_le, Decidable.not_not, ileN (by decide)] at g
      refine And.intro (fun g2 => ?_) (fun g2 => ?_)
      · have g2 : nI 3 < x := g2
        rw [iNlt (by decide)] at g2
        exact key 1 (by unfold newK; rw [if_neg (by omega)])
      · have g2 : ¬ nI 3 < x := g2
        rw [iNlt (by decide)] at g2
        have kk := key x.toInt.toNat (by unfold newK; rw [if_pos (by omega)])
        rw [← i_of (x := x) (by omega)] at kk
        exact kk
  have b214 : ∀ (m : jm_M) (rd : Nat → Nat), rd 0 = o → MK m0 (va_up (fun _ => 0) 31 (-1)) m rd [30, 27, 26, 25, 24, 23, 22, 21, 20, 19, 18, 17, 16, 13, 12, 11, 10, 9, 8, 7, 6, 5, 4, 3, 2, 1] → X 214 [(0, .ref o), (1, .int x)] [] m 26 1428 := by
    intro m rd ho h
    subst ho
    refine jm_run hX [(221, [0, 1])] 20 ?_
    refine And.intro (by decide) (And.intro (by decide) (And.intro (Nat.le_of_ble_eq_true rfl) (And.intro (Nat.le_of_ble_eq_true rfl) (fun q hq => ?_))))
    have h1 := h.new (q := q) (k := 33) (c := 50) (n := 2) hq (by decide) (Or.inr (Or.inr (Or.inr rfl))) (by decide) rfl
    have v0 : va_up rd 33 q 0 = rd 0 := va_up_ne _ _ (by decide)
    refine And.intro (h.okn hq) ?_
    exact bEnd _ _ v0 h1
  have b201 : ∀ (m : jm_M) (rd : Nat → Nat), rd 0 = o → MK m0 (fun _ => 0) m rd [27, 26, 25, 24, 23, 22, 21, 20, 19, 18, 17, 16, 13, 12, 11, 10, 9, 8, 7, 6, 5, 4, 3, 2, 1] → X 201 [(0, .ref o), (1, .int x)] [] m 25 1419 := by
    intro m rd ho h
    subst ho
    refine jm_run hX [(214, [0, 1])] 20 ?_
    refine And.intro (by decide) (And.intro (by decide) (And.intro (Nat.le_of_ble_eq_true rfl) (And.intro (Nat.le_of_ble_eq_true rfl) (fun q hq => ?_))))
    have h1 := h.new (q := q) (k := 30) (c := 51) (n := 9) hq (by decide) (Or.inr (Or.inr (Or.inl rfl))) (by decide) rfl
    have v0 : va_up rd 30 q 0 = rd 0 := va_up_ne _ _ (by decide)
    refine And.intro (h.okn hq) ?_
    have o1 : jm_ok (uR (aN m q 51 9) (rd 0) 30 (some q)) (rd 0) 6 := by have := h1.ok; rw [v0] at this; exact this
    refine And.intro o1 ?_
    have h2 := h1.int (j := 31) (x := -1)
    rw [v0] at h2
    exact b214 _ _ v0 h2
  have b193 : ∀ (m : jm_M) (rd : Nat → Nat), rd 0 = o → MK m0 (fun _ => 0) m rd [26, 25, 24, 23, 22, 21, 20, 19, 18, 17, 16, 13, 12, 11, 10, 9, 8, 7, 6, 5, 4, 3, 2, 1] → X 193 [(0, .ref o), (1, .int x)] [] m 24 1411 := by
    intro m rd ho h
    subst ho
    refine jm_run hX [(201, [0, 1])] 20 ?_
    refine And.intro (by decide) (And.intro (by decide) (And.intro (Nat.le_of_ble_eq_true rfl) (And.intro (Nat.le_of_ble_eq_true rfl) (fun q hq => ?_))))
    have h1 := h.new (q := q) (k := 27) (c := 51) (n := 8) hq (by decide) (Or.inr (Or.inl (by decide))) (by decide) rfl
    have v0 : va_up rd 27 q 0 = rd 0 := va_up_ne _ _ (by decide)
    refine And.intro (h.okn hq) ?_
    exact b201 _ _ v0 h1
  have b185 : ∀ (m : jm_M) (rd : Nat → Nat), rd 0 = o → MK m0 (fun _ => 0) m rd [25, 24, 23, 22, 21, 20, 19, 18, 17, 16, 13, 12, 11, 10, 9, 8, 7, 6, 5, 4, 3, 2, 1] → X 185 [(0, .ref o), (1, .int x)] [] m 23 1403 := by
    intro m rd ho h
    subst ho
    refine jm_run hX [(193, [0, 1])] 20 ?_
    refine And.intro (by decide) (And.intro (by decide) (And.intro (Nat.le_of_ble_eq_true rfl) (And.intro (Nat.le_of_ble_eq_true rfl) (fun q hq => ?_))))
    have h1 := h.new (q := q) (k := 26) (c := 51) (n := 8) hq (by decide) (Or.inr (Or.inl (by decide))) (by decide) rfl
    have v0 : va_up rd 26 q 0 = rd 0 := va_up_ne _ _ (by decide)
    refine And.intro (h.okn hq) ?_
    exact b193 _ _ v0 h1
  have b176 : ∀ (m : jm_M) (rd : Nat → Nat), rd 0 = o → MK m0 (fun _ => 0) m rd [24, 23, 22, 21, 20, 19, 18, 17, 16, 13, 12, 11, 10, 9, 8, 7, 6, 5, 4, 3, 2, 1] → X 176 [(0, .ref o), (1, .int x)] [] m 22 1259 := by
    intro m rd ho h
    subst ho
    refine jm_run hX [(185, [0, 1])] 20 ?_
    refine And.intro (by decide) (And.intro (by decide) (And.intro (Nat.le_of_ble_eq_true rfl) (And.intro (Nat.le_of_ble_eq_true rfl) (fun q hq => ?_))))
    have h1 := h.new (q := q) (k := 25) (c := 51) (n := 144) hq (by decide) (Or.inr (Or.inl (by decide))) (by decide) rfl
    have v0 : va_up rd 25 q 0 = rd 0 := va_up_ne _ _ (by decide)
    refine And.intro (h.okn hq) ?_
    exact b185 _ _ v0 h1
  have b168 : ∀ (m : jm_M) (rd : Nat → Nat), rd 0 = o → MK m0 (fun _ => 0) m rd [23, 22, 21, 20, 19, 18, 17, 16, 13, 12, 11, 10, 9, 8, 7, 6, 5, 4, 3, 2, 1] → X 168 [(0, .ref o), (1, .int x)] [] m 21 1251 := by
    intro m rd ho h
    subst ho
    refine jm_run hX [(176, [0, 1])] 20 ?_
    refine And.intro (by decide) (And.intro (by decide) (And.intro (Nat.le_of_ble_eq_true rfl) (And.intro (Nat.le_of_ble_eq_true rfl) (fun q hq => ?_))))
    have h1 := h.new (q := q) (k := 24) (c := 51) (n := 8) hq (by decide) (Or.inr (Or.inl (by decide))) (by decide) rfl
    have v0 : va_up rd 24 q 0 = rd 0 := va_up_ne _ _ (by decide)
    refine And.intro (h.okn hq) ?_
    exact b176 _ _ v0 h1
  have b159 : ∀ (m : jm_M) (rd : Nat → Nat), rd 0 = o → MK m0 (fun _ => 0) m rd [22, 21, 20, 19, 18, 17, 16, 13, 12, 11, 10, 9, 8, 7, 6, 5, 4, 3, 2, 1] → X 159 [(0, .ref o), (1, .int x)] [] m 20 603 := by
    intro m rd ho h
    subst ho
    refine jm_run hX [(168, [0, 1])] 20 ?_
    refine And.intro (by decide) (And.intro (by decide) (And.intro (Nat.le_of_ble_eq_true rfl) (And.intro (Nat.le_of_ble_eq_true rfl) (fun q hq => ?_))))
    have h1 := h.new (q := q) (k := 23) (c := 51) (n := 648) hq (by decide) (Or.inr (Or.inl (by decide))) (by decide) rfl
    have v0 : va_up rd 23 q 0 = rd 0 := va_up_ne _ _ (by decide)
    refine And.intro (h.okn hq) ?_
    exact b168 _ _ v0 h1
  have b151 : ∀ (m : jm_M) (rd : Nat → Nat), rd 0 = o → MK m0 (fun _ => 0) m rd [21, 20, 19, 18, 17, 16, 13, 12, 11, 10, 9, 8, 7, 6, 5, 4, 3, 2, 1] → X 151 [(0, .ref o), (1, .int x)] [] m 19 522 := by
    intro m rd ho h
    subst ho
    refine jm_run hX [(159, [0, 1])] 20 ?_
    refine And.intro (by decide) (And.intro (by decide) (And.intro (Nat.le_of_ble_eq_true rfl) (And.intro (Nat.le_of_ble_eq_true rfl) (fun q hq => ?_))))
    have h1 := h.new (q := q) (k := 22) (c := 51) (n := 81) hq (by decide) (Or.inr (Or.inl (by decide))) (by decide) rfl
    have v0 : va_up rd 22 q 0 = rd 0 := va_up_ne _ _ (by decide)
    refine And.intro (h.okn hq) ?_
    exact b159 _ _ v0 h1
  have b143 : ∀ (m : jm_M) (rd : Nat → Nat), rd 0 = o → MK m0 (fun _ => 0) m rd [20, 19, 18, 17, 16, 13, 12, 11, 10, 9, 8, 7, 6, 5, 4, 3, 2, 1] → X 143 [(0, .ref o), (1, .int x)] [] m 18 441 := by
    intro m rd ho h
    subst ho
    refine jm_run hX [(151, [0, 1])] 20 ?_
    refine And.intro (by decide) (And.intro (by decide) (And.intro (Nat.le_of_ble_eq_true rfl) (And.intro (Nat.le_of_ble_eq_true rfl) (fun q hq => ?_))))
    have h1 := h.new (q := q) (k := 21) (c := 51) (n := 81) hq (by decide) (Or.inr (Or.inl (by decide))) (by decide) rfl
    have v0 : va_up rd 21 q 0 = rd 0 := va_up_ne _ _ (by decide)
    refine And.intro (h.okn hq) ?_
    exact b151 _ _ v0 h1
  have b135 : ∀ (m : jm_M) (rd : Nat → Nat), rd 0 = o → MK m0 (fun _ => 0) m rd [19, 18, 17, 16, 13, 12, 11, 10, 9, 8, 7, 6, 5, 4, 3, 2, 1] → X 135 [(0, .ref o), (1, .int x)] [] m 17 360 := by
    intro m rd ho h
    subst ho
    refine jm_run hX [(143, [0, 1])] 20 ?_
    refine And.intro (by decide) (And.intro (by decide) (And.intro (Nat.le_of_ble_eq_true rfl) (And.intro (Nat.le_of_ble_eq_true rfl) (fun q hq => ?_))))
    have h1 := h.new (q := q) (k := 20) (c := 51) (n := 81) hq (by decide) (Or.inr (Or.inl (by decide))) (by decide) rfl
    have v0 : va_up rd 20 q 0 = rd 0 := va_up_ne _ _ (by decide)
    refine And.intro (h.okn hq) ?_
    exact b143 _ _ v0 h1
  have b127 : ∀ (m : jm_M) (rd : Nat → Nat), rd 0 = o → MK m0 (fun _ => 0) m rd [18, 17, 16, 13, 12, 11, 10, 9, 8, 7, 6, 5, 4, 3, 2, 1] → X 127 [(0, .ref o), (1, .int x)] [] m 16 279 := by
    intro m rd ho h
    subst ho
    refine jm_run hX [(135, [0, 1])] 20 ?_
    refine And.intro (by decide) (And.intro (by decide) (And.intro (Nat.le_of_ble_eq_true rfl) (And.intro (Nat.le_of_ble_eq_true rfl) (fun q hq => ?_))))
    have h1 := h.new (q := q) (k := 19) (c := 51) (n := 81) hq (by decide) (Or.inr (Or.inl (by decide))) (by decide) rfl
    have v0 : va_up rd 19 q 0 = rd 0 := va_up_ne _ _ (by decide)
    refine And.intro (h.okn hq) ?_
    exact b135 _ _ v0 h1
  have b119 : ∀ (m : jm_M) (rd : Nat → Nat), rd 0 = o → MK m0 (fun _ => 0) m rd [17, 16, 13, 12, 11, 10, 9, 8, 7, 6, 5, 4, 3, 2, 1] → X 119 [(0, .ref o), (1, .int x)] [] m 15 198 := by
    intro m rd ho h
    subst ho
    refine jm_run hX [(127, [0, 1])] 20 ?_
    refine And.intro (by decide) (And.intro (by decide) (And.intro (Nat.le_of_ble_eq_true rfl) (And.intro (Nat.le_of_ble_eq_true rfl) (fun q hq => ?_))))
    have h1 := h.new (q := q) (k := 18) (c := 51) (n := 81) hq (by decide) (Or.inr (Or.inl (by decide))) (by decide) rfl
    have v0 : va_up rd 18 q 0 = rd 0 := va_up_ne _ _ (by decide)
    refine And.intro (h.okn hq) ?_
    exact b127 _ _ v0 h1
  have b111 : ∀ (m : jm_M) (rd : Nat → Nat), rd 0 = o → MK m0 (fun _ => 0) m rd [16, 13, 12, 11, 10, 9, 8, 7, 6, 5, 4, 3, 2, 1] → X 111 [(0, .ref o), (1, .int x)] [] m 14 189 := by
    intro m rd ho h
    subst ho
    refine jm_run hX [(119, [0, 1])] 20 ?_
    refine And.intro (by decide) (And.intro (by decide) (And.intro (Nat.le_of_ble_eq_true rfl) (And.intro (Nat.le_of_ble_eq_true rfl) (fun q hq => ?_))))
    have h1 := h.new (q := q) (k := 17) (c := 51) (n := 9) hq (by decide) (Or.inr (Or.inl (by decide))) (by decide) rfl
    have v0 : va_up rd 17 q 0 = rd 0 := va_up_ne _ _ (by decide)
    refine And.intro (h.okn hq) ?_
    exact b119 _ _ v0 h1
  have b103 : ∀ (m : jm_M) (rd : Nat → Nat), rd 0 = o → MK m0 (fun _ => 0) m rd [13, 12, 11, 10, 9, 8, 7, 6, 5, 4, 3, 2, 1] → X 103 [(0, .ref o), (1, .int x)] [] m 13 181 := by
    intro m rd ho h
    subst ho
    refine jm_run hX [(111, [0, 1])] 20 ?_
    refine And.intro (by decide) (And.intro (by decide) (And.intro (Nat.le_of_ble_eq_true rfl) (And.intro (Nat.le_of_ble_eq_true rfl) (fun q hq => ?_))))
    have h1 := h.new (q := q) (k := 16) (c := 51) (n := 8) hq (by decide) (Or.inr (Or.inl (by decide))) (by decide) rfl
    have v0 : va_up rd 16 q 0 = rd 0 := va_up_ne _ _ (by decide)
    refine And.intro (h.okn hq) ?_
    exact b111 _ _ v0 h1
  have b96 : ∀ (m : jm_M) (rd : Nat → Nat), rd 0 = o → MK m0 (fun _ => 0) m rd [12, 11, 10, 9, 8, 7, 6, 5, 4, 3, 2, 1] → X 96 [(0, .ref o), (1, .int x)] [] m 12 178 := by
    intro m rd ho h
    subst ho
    refine jm_run hX [(103, [0, 1])] 20 ?_
    refine And.intro (by decide) (And.intro (by decide) (And.intro (Nat.le_of_ble_eq_true rfl) (And.intro (Nat.le_of_ble_eq_true rfl) (fun q hq => ?_))))
    have h1 := h.new (q := q) (k := 13) (c := 51) (n := 3) hq (by decide) (Or.inl (by decide)) (by decide) rfl
    have v0 : va_up rd 13 q 0 = rd 0 := va_up_ne _ _ (by decide)
    refine And.intro (h.okn hq) ?_
    exact b103 _ _ v0 h1
  have b89 : ∀ (m : jm_M) (rd : Nat → Nat), rd 0 = o → MK m0 (fun _ => 0) m rd [11, 10, 9, 8, 7, 6, 5, 4, 3, 2, 1] → X 89 [(0, .ref o), (1, .int x)] [] m 11 175 := by
    intro m rd ho h
    subst ho
    refine jm_run hX [(96, [0, 1])] 20 ?_
    refine And.intro (by decide) (And.intro (by decide) (And.intro (Nat.le_of_ble_eq_true rfl) (And.intro (Nat.le_of_ble_eq_true rfl) (fun q hq => ?_))))
    have h1 := h.new (q := q) (k := 12) (c := 51) (n := 3) hq (by decide) (Or.inl (by decide)) (by decide) rfl
    have v0 : va_up rd 12 q 0 = rd 0 := va_up_ne _ _ (by decide)
    refine And.intro (h.okn hq) ?_
    exact b96 _ _ v0 h1
  have b82 : ∀ (m : jm_M) (rd : Nat → Nat), rd 0 = o → MK m0 (fun _ => 0) m rd [10, 9, 8, 7, 6, 5, 4, 3, 2, 1] → X 82 [(0, .ref o), (1, .int x)] [] m 10 172 := by
    intro m rd ho h
    subst ho
    refine jm_run hX [(89, [0, 1])] 20 ?_
    refine And.intro (by decide) (And.intro (by decide) (And.intro (Nat.le_of_ble_eq_true rfl) (And.intro (Nat.le_of_ble_eq_true rfl) (fun q hq => ?_))))
    have h1 := h.new (q := q) (k := 11) (c := 52) (n := 3) hq (by decide) (Or.inl (by decide)) (by decide) rfl
    have v0 : va_up rd 11 q 0 = rd 0 := va_up_ne _ _ (by decide)
    refine And.intro (h.okn hq) ?_
    exact b89 _ _ v0 h1
  have b74 : ∀ (m : jm_M) (rd : Nat → Nat), rd 0 = o → MK m0 (fun _ => 0) m rd [9, 8, 7, 6, 5, 4, 3, 2, 1] → X 74 [(0, .ref o), (1, .int x)] [] m 9 154 := by
    intro m rd ho h
    subst ho
    refine jm_run hX [(82, [0, 1])] 20 ?_
    refine And.intro (by decide) (And.intro (by decide) (And.intro (Nat.le_of_ble_eq_true rfl) (And.intro (Nat.le_of_ble_eq_true rfl) (fun q hq => ?_))))
    have h1 := h.new (q := q) (k := 10) (c := 50) (n := 18) hq (by decide) (Or.inl (by decide)) (by decide) rfl
    have v0 : va_up rd 10 q 0 = rd 0 := va_up_ne _ _ (by decide)
    refine And.intro (h.okn hq) ?_
    exact b82 _ _ v0 h1
  have b66 : ∀ (m : jm_M) (rd : Nat → Nat), rd 0 = o → MK m0 (fun _ => 0) m rd [8, 7, 6, 5, 4, 3, 2, 1] → X 66 [(0, .ref o), (1, .int x)] [] m 8 136 := by
    intro m rd ho h
    subst ho
    refine jm_run hX [(74, [0, 1])] 20 ?_
    refine And.intro (by decide) (And.intro (by decide) (And.intro (Nat.le_of_ble_eq_true rfl) (And.intro (Nat.le_of_ble_eq_true rfl) (fun q hq => ?_))))
    have h1 := h.new (q := q) (k := 9) (c := 50) (n := 18) hq (by decide) (Or.inl (by decide)) (by decide) rfl
    have v0 : va_up rd 9 q 0 = rd 0 := va_up_ne _ _ (by decide)
    refine And.intro (h.okn hq) ?_
    exact b74 _ _ v0 h1
  have b58 : ∀ (m : jm_M) (rd : Nat → Nat), rd 0 = o → MK m0 (fun _ => 0) m rd [7, 6, 5, 4, 3, 2, 1] → X 58 [(0, .ref o), (1, .int x)] [] m 7 118 := by
    intro m rd ho h
    subst ho
    refine jm_run hX [(66, [0, 1])] 20 ?_
    refine And.intro (by decide) (And.intro (by decide) (And.intro (Nat.le_of_ble_eq_true rfl) (And.intro (Nat.le_of_ble_eq_true rfl) (fun q hq => ?_))))
    have h1 := h.new (q := q) (k := 8) (c := 50) (n := 18) hq (by decide) (Or.inl (by decide)) (by decide) rfl
    have v0 : va_up rd 8 q 0 = rd 0 := va_up_ne _ _ (by decide)
    refine And.intro (h.okn hq) ?_
    exact b66 _ _ v0 h1
  have b50 : ∀ (m : jm_M) (rd : Nat → Nat), rd 0 = o → MK m0 (fun _ => 0) m rd [6, 5, 4, 3, 2, 1] → X 50 [(0, .ref o), (1, .int x)] [] m 6 100 := by
    intro m rd ho h
    subst ho
    refine jm_run hX [(58, [0, 1])] 20 ?_
    refine And.intro (by decide) (And.intro (by decide) (And.intro (Nat.le_of_ble_eq_true rfl) (And.intro (Nat.le_of_ble_eq_true rfl) (fun q hq => ?_))))
    have h1 := h.new (q := q) (k := 7) (c := 50) (n := 18) hq (by decide) (Or.inl (by decide)) (by decide) rfl
    have v0 : va_up rd 7 q 0 = rd 0 := va_up_ne _ _ (by decide)
    refine And.intro (h.okn hq) ?_
    exact b58 _ _ v0 h1
  have b42 : ∀ (m : jm_M) (rd : Nat → Nat), rd 0 = o → MK m0 (fun _ => 0) m rd [5, 4, 3, 2, 1] → X 42 [(0, .ref o), (1, .int x)] [] m 5 64 := by
    intro m rd ho h
    subst ho
    refine jm_run hX [(50, [0, 1])] 20 ?_
    refine And.intro (by decide) (And.intro (by decide) (And.intro (Nat.le_of_ble_eq_true rfl) (And.intro (Nat.le_of_ble_eq_true rfl) (fun q hq => ?_))))
    have h1 := h.new (q := q) (k := 6) (c := 50) (n := 36) hq (by decide) (Or.inl (by decide)) (by decide) rfl
    have v0 : va_up rd 6 q 0 = rd 0 := va_up_ne _ _ (by decide)
    refine And.intro (h.okn hq) ?_
    exact b50 _ _ v0 h1
  have b34 : ∀ (m : jm_M) (rd : Nat → Nat), rd 0 = o → MK m0 (fun _ => 0) m rd [4, 3, 2, 1] → X 34 [(0, .ref o), (1, .int x)] [] m 4 28 := by
    intro m rd ho h
    subst ho
    refine jm_run hX [(42, [0, 1])] 20 ?_
    refine And.intro (by decide) (And.intro (by decide) (And.intro (Nat.le_of_ble_eq_true rfl) (And.intro (Nat.le_of_ble_eq_true rfl) (fun q hq => ?_))))
    have h1 := h.new (q := q) (k := 5) (c := 50) (n := 36) hq (by decide) (Or.inl (by decide)) (by decide) rfl
    have v0 : va_up rd 5 q 0 = rd 0 := va_up_ne _ _ (by decide)
    refine And.intro (h.okn hq) ?_
    exact b42 _ _ v0 h1
  have b26 : ∀ (m : jm_M) (rd : Nat → Nat), rd 0 = o → MK m0 (fun _ => 0) m rd [3, 2, 1] → X 26 [(0, .ref o), (1, .int x)] [] m 3 10 := by
    intro m rd ho h
    subst ho
    refine jm_run hX [(34, [0, 1])] 20 ?_
    refine And.intro (by decide) (And.intro (by decide) (And.intro (Nat.le_of_ble_eq_true rfl) (And.intro (Nat.le_of_ble_eq_true rfl) (fun q hq => ?_))))
    have h1 := h.new (q := q) (k := 4) (c := 50) (n := 18) hq (by decide) (Or.inl (by decide)) (by decide) rfl
    have v0 : va_up rd 4 q 0 = rd 0 := va_up_ne _ _ (by decide)
    refine And.intro (h.okn hq) ?_
    exact b34 _ _ v0 h1
  have b18 : ∀ (m : jm_M) (rd : Nat → Nat), rd 0 = o → MK m0 (fun _ => 0) m rd [2, 1] → X 18 [(0, .ref o), (1, .int x)] [] m 2 4 := by
    intro m rd ho h
    subst ho
    refine jm_run hX [(26, [0, 1])] 20 ?_
    refine And.intro (by decide) (And.intro (by decide) (And.intro (Nat.le_of_ble_eq_true rfl) (And.intro (Nat.le_of_ble_eq_true rfl) (fun q hq => ?_))))
    have h1 := h.new (q := q) (k := 3) (c := 50) (n := 6) hq (by decide) (Or.inl (by decide)) (by decide) rfl
    have v0 : va_up rd 3 q 0 = rd 0 := va_up_ne _ _ (by decide)
    refine And.intro (h.okn hq) ?_
    exact b26 _ _ v0 h1
  have b11 : ∀ (m : jm_M) (rd : Nat → Nat), rd 0 = o → MK m0 (fun _ => 0) m rd [1] → X 11 [(0, .ref o), (1, .int x)] [] m 1 2 := by
    intro m rd ho h
    subst ho
    refine jm_run hX [(18, [0, 1])] 20 ?_
    refine And.intro (by decide) (And.intro (by decide) (And.intro (Nat.le_of_ble_eq_true rfl) (And.intro (Nat.le_of_ble_eq_true rfl) (fun q hq => ?_))))
    have h1 := h.new (q := q) (k := 2) (c := 50) (n := 2) hq (by decide) (Or.inl (by decide)) (by decide) rfl
    have v0 : va_up rd 2 q 0 = rd 0 := va_up_ne _ _ (by decide)
    refine And.intro (h.okn hq) ?_
    exact b18 _ _ v0 h1
  have b4 : ∀ (m : jm_M) (rd : Nat → Nat), rd 0 = o → MK m0 (fun _ => 0) m rd [] → X 4 [(0, .ref o), (1, .int x)] [] m 0 0 := by
    intro m rd ho h
    subst ho
    refine jm_run hX [(11, [0, 1])] 20 ?_
    refine And.intro (by decide) (And.intro (by decide) (And.intro (Nat.le_of_ble_eq_true rfl) (And.intro (Nat.le_of_ble_eq_true rfl) (fun q hq => ?_))))
    have h1 := h.new (q := q) (k := 1) (c := 50) (n := 2) hq (by decide) (Or.inl (by decide)) (by decide) rfl
    have v0 : va_up rd 1 q 0 = rd 0 := va_up_ne _ _ (by decide)
    refine And.intro (h.okn hq) ?_
    exact b11 _ _ v0 h1
  refine jm_run hX [(4, [0, 1])] 5 ?_
  refine And.intro (Nat.le_of_ble_eq_true rfl) ?_
  exact b4 m0 (fun _ => o) rfl ⟨⟨ok.1, ok.2, hz⟩, fun k hk => absurd hk (List.not_mem_nil), fun i j hi => absurd hi (List.not_mem_nil), fun a ha => ⟨ha, fun _ => ⟨rfl, rfl, rfl, rfl⟩⟩⟩
end CTM
