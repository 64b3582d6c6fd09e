/-! Class and reference side by side: what one of them does leaves the other's state. -/
theorem CI.ag {m m' : jm_M} {ad : Nat → Nat} {c : CSt} (h : CI m ad c) (ha : ∀ k, kin k → ad k ∈ m'.1 ∧ AGR m m' (ad k)) : CI m' ad c := by
  obtain ⟨S, L, hO, G, h11, h12, h13, h0, h3, V, hW, hK⟩ := h
  have kk : ∀ k, k < 43 → kin k := fun k hk => Or.inl hk
  have ai : ∀ k, kin k → m'.2.2.1 (ad k) = m.2.2.1 (ad k) := fun k hk => (ha k hk).2.2.1
  have aj : ∀ k, kin k → m'.2.2.2.1 (ad k) = m.2.2.2.1 (ad k) := fun k hk => (ha k hk).2.2.2.1
  have ar : ∀ k, kin k → m'.2.2.2.2 (ad k) = m.2.2.2.2 (ad k) := fun k hk => (ha k hk).2.2.2.2
  have hr : ∀ q ∈ rfL, kin q.1 := by
    intro q hq
    have : ∀ q ∈ rfL, q.1 < 43 := by decide
    exact kk _ (this q hq)
  refine ⟨⟨fun k hk => ⟨(ha k hk).1, by rw [(ha k hk).2.1]; exact (S.1 k hk).2⟩, S.2.1, fun q hq => ?_, fun i hi => ?_, fun i hi => ?_, fun i hi => ?_, fun i hi => ?_, fun i hi => ?_, fun i hi => ?_, fun i hi => ?_⟩, ?_, hO, fun i hi => ?_, ?_, ?_, ?_, ?_, ?_, V, fun i hi => ⟨(hW i hi).1, ?_, ?_⟩, fun hk => ?_⟩
  · rw [ar _ (hr q hq)]; exact S.2.2.1 q hq
  · rw [ar _ (kin_o hi)]; exact S.2.2.2.1 i hi
  · rw [ar _ (kk 16 (by decide))]; exact S.2.2.2.2.1 i hi
  · rw [ar _ (kk 26 (by decide))]; exact S.2.2.2.2.2.1 i hi
  · rw [ar _ (kk 36 (by decide))]; exact S.2.2.2.2.2.2.1 i hi
  · rw [ar _ (kk 40 (by decide))]; exact S.2.2.2.2.2.2.2.1 i hi
  · rw [ar _ (kk 41 (by decide))]; exact S.2.2.2.2.2.2.2.2.1 i hi
  · rw [ar _ (kk 42 (by decide))]; exact S.2.2.2.2.2.2.2.2.2 i hi
  · unfold LnV
    rw [ai 1 (kk 1 (by decide)), ai 5 (kk 5 (by decide)), ai 6 (kk 6 (by decide)), ai 7 (kk 7 (by decide)), ai 8 (kk 8 (by decide)), ai 9 (kk 9 (by decide)), aj 10 (kk 10 (by decide))]
    exact L
  · rw [ai 14 (kk 14 (by decide))]; exact G i hi
  · rw [ai 11 (kk 11 (by decide))]; exact h11
  · rw [aj 12 (kk 12 (by decide))]; exact h12
  · rw [aj 13 (kk 13 (by decide))]; exact h13
  · rw [ai 0 (kk 0 (by decide))]; exact h0
  · rw [ai 3 (kk 3 (by decide))]; exact h3
  · rw [ai _ (kin_p hi)]; exact (hW i hi).2.1
  · rw [ai _ (kin_o hi)]; exact (hW i hi).2.2
  · obtain ⟨k1, k2, k3⟩ := hK hk
    exact ⟨by rw [ai 3 (kk 3 (by decide))]; exact k1, by rw [ai 3 (kk 3 (by decide))]; exact k2, k3⟩
theorem MI.ag {m m' : jm_M} {rd : Nat → Nat} {A : RSt} {n : Nat} (h : MI m rd A n) (ha : ∀ k, mkin k → rd k ∈ m'.1 ∧ AGR m m' (rd k)) : MI m' rd A n := by
  obtain ⟨S, h1, h2, h3, h4, h5, h6, t, hh, c1, c2, c3, c4⟩ := h
  have ai : ∀ k, mkin k → m'.2.2.1 (rd k) = m.2.2.1 (rd k) := fun k hk => (ha k hk).2.2.1
  have aj : ∀ k, mkin k → m'.2.2.2.1 (rd k) = m.2.2.2.1 (rd k) := fun k hk => (ha k hk).2.2.2.1
  have k0 : mkin 0 := Or.inl (by decide)
  have k11 : mkin 11 := Or.inl (by decide)
  have k12 : mkin 12 := Or.inl (by decide)
  have k13 : mkin 13 := Or.inl (by decide)
  have k16 : mkin 16 := Or.inr (Or.inl (by decide))
  have k23 : mkin 23 := Or.inr (Or.inl (by decide))
  have k24 : mkin 24 := Or.inr (Or.inl (by decide))
  have k25 : mkin 25 := Or.inr (Or.inl (by decide))
  have k33 : mkin 33 := Or.inr (Or.inr (Or.inr rfl))
  refine ⟨⟨fun k hk => ⟨(ha k hk).1, by rw [(ha k hk).2.1]; exact (S.1 k hk).2⟩, S.2.1, fun k hk hk0 => by rw [(ha 0 k0).2.2.2.2]; exact S.2.2 k hk hk0⟩, fun f hf => ⟨(h1 f hf).1.mv (by rw [ai 0 k0]) (fun k q1 q2 => ai k (Or.inl (by omega))), (h1 f hf).2⟩, ?_, ?_, fun j hj => ?_, ?_, ?_, t, hh, fun f hf => ?_, c2, ?_, ?_⟩
  · rw [aj 16 k16]; exact h2
  · rw [aj 25 k25]; exact h3
  · rw [ai 11 k11, aj 12 k12, aj 13 k13]; exact h4 j hj
  · rw [ai 0 k0]; exact h5
  · rw [ai 0 k0]; exact h6
  · rw [ai 33 k33]; exact c1 f hf
  · rw [ai 0 k0]; exact c3
  · rw [ai 0 k0]
    rcases c4 with q | ⟨f, q1, q2, q3, q4⟩
    · exact Or.inl q
    · exact Or.inr ⟨f, q1, q2, q3, fun z => (q4 z).mv (aj 23 k23) (aj 24 k24)⟩
/-- no thing of the class is one of the reference's -/
def SEP (ad rd : Nat → Nat) : Prop := ∀ k j, kin k → mkin j → ad k ≠ rd j
theorem CI.fm {m m' : jm_M} {ad rd : Nat → Nat} {c : CSt} (h : CI m ad c) (hs : SEP ad rd) (hF : FMa rd m m') : CI m' ad c :=
  h.ag (fun k hk => by
    have := hF.2.2.2 (ad k) (fun j hj _ => hs k j hk hj)
    exact ⟨by rw [hF.1]; exact (h.1.1 k hk).1, by rw [hF.2.1], this.1, this.2, by rw [hF.2.2.1]⟩)
theorem MI.fr {m m' : jm_M} {ad rd : Nat → Nat} {A : RSt} {n : Nat} (h : MI m rd A n) (hs : SEP ad rd) (hF : FRa ad m m') : MI m' rd A n :=
  h.ag (fun k hk => by
    have := hF.2.2.2 (rd k) (fun j hj _ e => hs j k hj hk e.symm)
    exact ⟨by rw [hF.1]; exact (h.1.1 k hk).1, by rw [hF.2.1], this.1, this.2, by rw [hF.2.2.1]⟩)
/-- both have been told the same -/
def TIE (c : CSt) (A : RSt) : Prop := REL c.1 A.1 ∧ (∀ j, j < 3 → c.2.1 j = A.2.2.1 j ∧ c.2.2.1 j = A.2.2.2.1 j ∧ c.2.2.2.1 j = A.2.2.2.2.1 j) ∧ c.2.2.2.2.1 = A.2.2.2.2.2.2 ∧ c.2.2.2.2.2.1 = A.2.2.2.2.2.1 ∧ (c.2.2.2.2.2.1 = true → REL c.2.2.2.2.2.2 A.2.1)
def JS (m : jm_M) (ad rd : Nat → Nat) (n : Nat) : Prop := SEP ad rd ∧ ∃ c A, CI m ad c ∧ MI m rd A n ∧ TIE c A
theorem JS.mono {m : jm_M} {ad rd : Nat → Nat} {n n' : Nat} (h : JS m ad rd n) (hn : n ≤ n') : JS m ad rd n' := by
  obtain ⟨hs, c, A, h1, h2, h3⟩ := h
  exact ⟨hs, c, A, h1, h2.mono hn, h3⟩
theorem MI.r0 {m : jm_M} {rd : Nat → Nat} {A : RSt} {n : Nat} (h : MI m rd A n) : ROK A.1 := (h.2.1 0 (by decide)).2
theorem MI.r1 {m : jm_M} {rd : Nat → Nat} {A : RSt} {n : Nat} (h : MI m rd A n) : ROK A.2.1 := (h.2.1 1 (by decide)).2
theorem MI.k01 {m : jm_M} {rd : Nat → Nat} {A : RSt} {n : Nat} (h : MI m rd A n) : A.2.1.K = A.1.K := by
  have h0 : MV m rd 0 A.1 := (h.2.1 0 (by decide)).1
  have h1 : MV m rd 1 A.2.1 := (h.2.1 1 (by decide)).1
  have b0 := h.r0.1
  have b1 := h.r1.1
  have := h1.1.symm.trans h0.1
  rw [nI_eq (by omega) (by omega)] at this; exact this
theorem MI.o6 {m : jm_M} {rd : Nat → Nat} {A : RSt} {n : Nat} (h : MI m rd A n) : jm_ok m (rd 0) 6 := h.1.ok (k := 0) (Or.inl (by decide))
theorem JS.o5 {m : jm_M} {ad rd : Nat → Nat} {n : Nat} (h : JS m ad rd n) : jm_ok m (ad 0) 5 := by
  obtain ⟨_, c, A, h1, _⟩ := h
  exact h1.1.ok 0 (Or.inl (by decide))
/-- what a call of both does: the same answer, the same state -/
abbrev jC (l : Launch) (D : va_G) (ca : Nat → ClassId) {α : Type} (mk : α → Value) (kS kM : Nat) (args : List Value) (m : jm_M) (ad rd : Nat → Nat) (n : Nat) : Prop :=
  jm_C l D ca kS (.ref (ad 0) :: args) m 0 0 (fun v m1 => ∃ r, v = some (mk r) ∧ jm_ok m1 (rd 0) 6 ∧ jm_C l D ca kM (.ref (rd 0) :: args) m1 0 0 (fun v2 m2 => v2 = some (mk r) ∧ JS m2 ad rd (n + 15)))
