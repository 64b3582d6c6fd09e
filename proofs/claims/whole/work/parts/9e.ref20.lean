theorem uI_ne {m : jm_M} {rd : Nat → Nat} (S : MST m rd) {a i k j : Nat} {x : Int32} (ha : mkin a) (hk : mkin k) (h : k ≠ a ∨ j ≠ i) : (uI m (rd a) i x).2.2.1 (rd k) j = m.2.2.1 (rd k) j := by
  show va_up m.2.2.1 (rd a) (va_up (m.2.2.1 (rd a)) i x) (rd k) j = _
  by_cases w : k = a
  · subst w
    rw [va_up_self, va_up_ne _ _ (by omega)]
  · rw [va_up_ne _ _ (S.ne hk ha w)]
theorem uI_eq {m : jm_M} {rd : Nat → Nat} {a i : Nat} {x : Int32} : (uI m (rd a) i x).2.2.1 (rd a) i = x := by
  show va_up m.2.2.1 (rd a) (va_up (m.2.2.1 (rd a)) i x) (rd a) i = _
  rw [va_up_self, va_up_self]
def hlf (a : Nat) : Nat := [0, 1, 1, 3, 9, 18, 18, 9, 9, 9, 9].getD a 0
/-- the line as solved isn't touched -/
theorem MV.x {m : jm_M} {rd : Nat → Nat} (S : MST m rd) {a i : Nat} {x : Int32} {R : RD} (h : MV m rd 1 R) (ha : 1 ≤ a ∧ a ≤ 10) (hi : i < hlf a) : MV (uI m (rd a) i x) rd 1 R := by
  have ka : mkin a := Or.inl (by omega)
  have key : ∀ k j, k ≤ 10 → (k = 0 ∨ (k ≠ a ∨ hlf a ≤ j)) → (uI m (rd a) i x).2.2.1 (rd k) j = m.2.2.1 (rd k) j := fun k j hk hj => uI_ne S ka (Or.inl (by omega)) (by omega)
  have hh : ∀ k, k ≤ 10 → k = a → hlf k = hlf a := fun k _ e => by rw [e]
  have l1 : hlf 1 = 1 := rfl
  have l2 : hlf 2 = 1 := rfl
  have l3 : hlf 3 = 3 := rfl
  have l4 : hlf 4 = 9 := rfl
  have l5 : hlf 5 = 18 := rfl
  have l6 : hlf 6 = 18 := rfl
  have l7 : hlf 7 = 9 := rfl
  have l8 : hlf 8 = 9 := rfl
  have l9 : hlf 9 = 9 := rfl
  have l10 : hlf 10 = 9 := rfl
  have kk : ∀ k j, 1 ≤ k → k ≤ 10 → hlf k ≤ j → (uI m (rd a) i x).2.2.1 (rd k) j = m.2.2.1 (rd k) j := fun k j h1 hk hj => key k j hk (by
    by_cases w : k = a
    · have := hh k hk w; omega
    · omega)
  obtain ⟨h0, h1, h2, h3, h4, h5, h6⟩ := h
  refine ⟨?_, ?_, ?_, fun j hj => ?_, fun j hj => ?_, fun q hq => ⟨?_, ?_⟩, fun r hr => ⟨?_, ?_, ?_, ?_⟩⟩
  · rw [key 0 0 (by omega) (Or.inl rfl)]; exact h0
  · rw [kk 1 1 (by omega) (by omega) (by omega)]; exact h1
  · rw [kk 2 1 (by omega) (by omega) (by omega)]; exact h2
  · rw [kk 3 _ (by omega) (by omega) (by omega)]; exact h3 j hj
  · rw [kk 4 _ (by omega) (by omega) (by omega)]; exact h4 j hj
  · rw [kk 5 _ (by omega) (by omega) (by omega)]; exact (h5 q hq).1
  · rw [kk 6 _ (by omega) (by omega) (by omega)]; exact (h5 q hq).2
  · rw [kk 7 _ (by omega) (by omega) (by omega)]; exact (h6 r hr).1
  · rw [kk 8 _ (by omega) (by omega) (by omega)]; exact (h6 r hr).2.1
  · rw [kk 9 _ (by omega) (by omega) (by omega)]; exact (h6 r hr).2.2.1
  · rw [kk 10 _ (by omega) (by omega) (by omega)]; exact (h6 r hr).2.2.2
/-- one place of the line now is told anew -/
theorem MV.n {m : jm_M} {rd : Nat → Nat} (S : MST m rd) {a i : Nat} {x : Int32} {R R' : RD} (h : MV m rd 0 R) (ha : 1 ≤ a ∧ a ≤ 10) (eK : R'.K = R.K)
    (e1 : nI R'.M = if a = 1 ∧ i = 0 then x else nI R.M) (e2 : nI R'.P = if a = 2 ∧ i = 0 then x else nI R.P)
    (e3 : ∀ j, j < 3 → nI (R'.O j) = if a = 3 ∧ i = j then x else nI (R.O j)) (e4 : ∀ j, j < 9 → R'.J j = if a = 4 ∧ i = j then x else R.J j)
    (e5 : ∀ j, j < 18 → nI (R'.A j) = if a = 5 ∧ i = j then x else nI (R.A j)) (e6 : ∀ j, j < 18 → nI (R'.B j) = if a = 6 ∧ i = j then x else nI (R.B j))
    (e7 : ∀ j, j < 9 → nI (R'.T j) = if a = 7 ∧ i = j then x else nI (R.T j)) (e8 : ∀ j, j < 9 → nI (R'.C j) = if a = 8 ∧ i = j then x else nI (R.C j))
    (e9 : ∀ j, j < 9 → nI (R'.E j) = if a = 9 ∧ i = j then x else nI (R.E j)) (e10 : ∀ j, j < 9 → nI (R'.F j) = if a = 10 ∧ i = j then x else nI (R.F j)) : MV (uI m (rd a) i x) rd 0 R' := by
  have ka : mkin a := Or.inl (by omega)
  have key : ∀ k j, k ≤ 10 → (uI m (rd a) i x).2.2.1 (rd k) j = if a = k ∧ i = j then x else m.2.2.1 (rd k) j := fun k j hk => by
    by_cases w : a = k ∧ i = j
    · obtain ⟨rfl, rfl⟩ := w
      rw [if_pos ⟨rfl, rfl⟩]; exact uI_eq
    · rw [if_neg w]; exact uI_ne S ka (Or.inl (by omega)) (by omega)
  obtain ⟨h0, h1, h2, h3, h4, h5, h6⟩ := h
  refine ⟨?_, ?_, ?_, fun j hj => ?_, fun j hj => ?_, fun q hq => ⟨?_, ?_⟩, fun r hr => ⟨?_, ?_, ?_, ?_⟩⟩
  · rw [key 0 0 (by omega), if_neg (by omega), eK]; exact h0
  · rw [key 1 0 (by omega), e1, h1]
  · rw [key 2 0 (by omega), e2, h2]
  · rw [Nat.mul_zero, Nat.zero_add, key 3 _ (by omega), e3 j hj]
    have := h3 j hj
    rw [Nat.mul_zero, Nat.zero_add] at this
    rw [this]
  · rw [Nat.mul_zero, Nat.zero_add, key 4 _ (by omega), e4 j hj]
    have := h4 j hj
    rw [Nat.mul_zero, Nat.zero_add] at this
    rw [this]
  · rw [Nat.mul_zero, Nat.zero_add, key 5 _ (by omega), e5 q hq]
    have := (h5 q hq).1
    rw [Nat.mul_zero, Nat.zero_add] at this
    rw [this]
  · rw [Nat.mul_zero, Nat.zero_add, key 6 _ (by omega), e6 q hq]
    have := (h5 q hq).2
    rw [Nat.mul_zero, Nat.zero_add] at this
    rw [this]
  · rw [Nat.mul_zero, Nat.zero_add, key 7 _ (by omega), e7 r hr]
    have := (h6 r hr).1
    rw [Nat.mul_zero, Nat.zero_add] at this
    rw [this]
  · rw [Nat.mul_zero, Nat.zero_add, key 8 _ (by omega), e8 r hr]
    have := (h6 r hr).2.1
    rw [Nat.mul_zero, Nat.zero_add] at this
    rw [this]
  · rw [Nat.mul_zero, Nat.zero_add, key 9 _ (by omega), e9 r hr]
    have := (h6 r hr).2.2.1
    rw [Nat.mul_zero, Nat.zero_add] at this
    rw [this]
  · rw [Nat.mul_zero, Nat.zero_add, key 10 _ (by omega), e10 r hr]
    have := (h6 r hr).2.2.2
    rw [Nat.mul_zero, Nat.zero_add] at this
    rw [this]
theorem vi_if {f : Nat → Nat} {i j v : Nat} : nI (va_up f i v j) = if i = j then nI v else nI (f j) := by
  by_cases w : i = j
  · subst w; rw [if_pos rfl, va_up_self]
  · rw [if_neg w, va_up_ne _ _ (fun z => w z.symm)]
theorem ite_t {α : Type} {a : Nat} {p : Prop} [Decidable p] {x y : α} : (if a = a ∧ p then x else y) = if p then x else y := by
  by_cases h : p
  · rw [if_pos h, if_pos ⟨rfl, h⟩]
  · rw [if_neg h, if_neg (fun z => h z.2)]
def rOut (R : RD) (i v : Nat) : RD := (R.1, va_up R.O i v, R.2.2)
def rMM (R : RD) : RD := ((R.K, R.M + 1, R.P), R.2)
def rMach (R : RD) (v : Nat) : RD := rMM (rOut R R.M v)
def rPort (R : RD) : RD := ((R.K, R.M, R.P + 1), R.2)
def rJoin (R : RD) (i : Nat) (t : Int32) : RD := (R.1, R.O, va_up R.J i t, R.2.2.2)
def rShA (R : RD) (i v : Nat) : RD := (R.1, R.O, R.J, va_up R.A i v, R.2.2.2.2)
def rShB (R : RD) (i v : Nat) : RD := (R.1, R.O, R.J, R.A, va_up R.B i v, R.2.2.2.2.2)
def rCrT (R : RD) (i v : Nat) : RD := (R.1, R.O, R.J, R.A, R.B, va_up R.T i v, R.2.2.2.2.2.2)
def rCrC (R : RD) (i v : Nat) : RD := (R.1, R.O, R.J, R.A, R.B, R.T, va_up R.C i v, R.2.2.2.2.2.2.2)
def rCrE (R : RD) (i v : Nat) : RD := (R.1, R.O, R.J, R.A, R.B, R.T, R.C, va_up R.E i v, R.F)
def rFee (R : RD) (i v : Nat) : RD := (R.1, R.O, R.J, R.A, R.B, R.T, R.C, R.E, va_up R.F i v)
section MVS
variable {m : jm_M} {rd : Nat → Nat} {R : RD}
theorem ifn {α : Type} {p q : Prop} [Decidable p] [Decidable q] {x y : α} (h : ¬ p) : y = if p ∧ q then x else y := (if_neg (fun z => h z.1)).symm
theorem MV.o (S : MST m rd) (h : MV m rd 0 R) {i v : Nat} : MV (uI m (rd 3) i (nI v)) rd 0 (rOut R i v) :=
  h.n S (by decide) rfl (ifn (by decide)) (ifn (by decide)) (fun j _ => by rw [show (rOut R i v).O = va_up R.O i v from rfl, vi_if, ite_t]) (fun j _ => ifn (by decide)) (fun j _ => ifn (by decide)) (fun j _ => ifn (by decide)) (fun j _ => ifn (by decide)) (fun j _ => ifn (by decide)) (fun j _ => ifn (by decide)) (fun j _ => ifn (by decide))
theorem MV.mm (S : MST m rd) (h : MV m rd 0 R) : MV (uI m (rd 1) 0 (nI (R.M + 1))) rd 0 (rMM R) :=
  h.n S (by decide) rfl (by rw [if_pos ⟨rfl, rfl⟩]; rfl) (ifn (by decide)) (fun j _ => ifn (by decide)) (fun j _ => ifn (by decide)) (fun j _ => ifn (by decide)) (fun j _ => ifn (by decide)) (fun j _ => ifn (by decide)) (fun j _ => ifn (by decide)) (fun j _ => ifn (by decide)) (fun j _ => ifn (by decide))
theorem MV.pp (S : MST m rd) (h : MV m rd 0 R) : MV (uI m (rd 2) 0 (nI (R.P + 1))) rd 0 (rPort R) :=
  h.n S (by decide) rfl (ifn (by decide)) (by rw [if_pos ⟨rfl, rfl⟩]; rfl) (fun j _ => ifn (by decide)) (fun j _ => ifn (by decide)) (fun j _ => ifn (by decide)) (fun j _ => ifn (by decide)) (fun j _ => ifn (by decide)) (fun j _ => ifn (by decide)) (fun j _ => ifn (by decide)) (fun j _ => ifn (by decide))
theorem MV.j (S : MST m rd) (h : MV m rd 0 R) {i : Nat} {t : Int32} : MV (uI m (rd 4) i t) rd 0 (rJoin R i t) :=
  h.n S (by decide) rfl (ifn (by decide)) (ifn (by decide)) (fun j _ => ifn (by decide)) (fun j _ => by
    rw [show (rJoin R i t).J = va_up R.J i t from rfl, ite_t]
    by_cases w : i = j
    · subst w; rw [if_pos rfl, va_up_self]
    · rw [if_neg w, va_up_ne _ _ (fun z => w z.symm)]) (fun j _ => ifn (by decide)) (fun j _ => ifn (by decide)) (fun j _ => ifn (by decide)) (fun j _ => ifn (by decide)) (fun j _ => ifn (by decide)) (fun j _ => ifn (by decide))
theorem MV.a (S : MST m rd) (h : MV m rd 0 R) {i v : Nat} : MV (uI m (rd 5) i (nI v)) rd 0 (rShA R i v) :=
  h.n S (by decide) rfl (ifn (by decide)) (ifn (by decide)) (fun j _ => ifn (by decide)) (fun j _ => ifn (by decide)) (fun j _ => by rw [show (rShA R i v).A = va_up R.A i v from rfl, vi_if, ite_t]) (fun j _ => ifn (by decide)) (fun j _ => ifn (by decide)) (fun j _ => ifn (by decide)) (fun j _ => ifn (by decide)) (fun j _ => ifn (by decide))
theorem MV.b (S : MST m rd) (h : MV m rd 0 R) {i v : Nat} : MV (uI m (rd 6) i (nI v)) rd 0 (rShB R i v) :=
  h.n S (by decide) rfl (ifn (by decide)) (ifn (by decide)) (fun j _ => ifn (by decide)) (fun j _ => ifn (by decide)) (fun j _ => ifn (by decide)) (fun j _ => by rw [show (rShB R i v).B = va_up R.B i v from rfl, vi_if, ite_t]) (fun j _ => ifn (by decide)) (fun j _ => ifn (by decide)) (fun j _ => ifn (by decide)) (fun j _ => ifn (by decide))
theorem MV.t (S : MST m rd) (h : MV m rd 0 R) {i v : Nat} : MV (uI m (rd 7) i (nI v)) rd 0 (rCrT R i v) :=
  h.n S (by decide) rfl (ifn (by decide)) (ifn (by decide)) (fun j _ => ifn (by decide)) (fun j _ => ifn (by decide)) (fun j _ => ifn (by decide)) (fun j _ => ifn (by decide)) (fun j _ => by rw [show (rCrT R i v).T = va_up R.T i v from rfl, vi_if, ite_t]) (fun j _ => ifn (by decide)) (fun j _ => ifn (by decide)) (fun j _ => ifn (by decide))
theorem MV.c (S : MST m rd) (h : MV m rd 0 R) {i v : Nat} : MV (uI m (rd 8) i (nI v)) rd 0 (rCrC R i v) :=
  h.n S (by decide) rfl (ifn (by decide)) (ifn (by decide)) (fun j _ => ifn (by decide)) (fun j _ => ifn (by decide)) (fun j _ => ifn (by decide)) (fun j _ => ifn (by decide)) (fun j _ => ifn (by decide)) (fun j _ => by rw [show (rCrC R i v).C = va_up R.C i v from rfl, vi_if, ite_t]) (fun j _ => ifn (by decide)) (fun j _ => ifn (by decide))
theorem MV.e (S : MST m rd) (h : MV m rd 0 R) {i v : Nat} : MV (uI m (rd 9) i (nI v)) rd 0 (rCrE R i v) :=
  h.n S (by decide) rfl (ifn (by decide)) (ifn (by decide)) (fun j _ => ifn (by decide)) (fun j _ => ifn (by decide)) (fun j _ => ifn (by decide)) (fun j _ => ifn (by decide)) (fun j _ => ifn (by decide)) (fun j _ => ifn (by decide)) (fun j _ => by rw [show (rCrE R i v).E = va_up R.E i v from rfl, vi_if, ite_t]) (fun j _ => ifn (by decide))
theorem MV.f (S : MST m rd) (h : MV m rd 0 R) {i v : Nat} : MV (uI m (rd 10) i (nI v)) rd 0 (rFee R i v) :=
  h.n S (by decide) rfl (ifn (by decide)) (ifn (by decide)) (fun j _ => ifn (by decide)) (fun j _ => ifn (by decide)) (fun j _ => ifn (by decide)) (fun j _ => ifn (by decide)) (fun j _ => ifn (by decide)) (fun j _ => ifn (by decide)) (fun j _ => ifn (by decide)) (fun j _ => by rw [show (rFee R i v).F = va_up R.F i v from rfl, vi_if, ite_t])
end MVS
