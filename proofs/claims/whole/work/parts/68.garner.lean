/-! Garner: a number out of its residues. -/
def ga_d (p : Nat → Nat) : Nat → Nat → Nat
  | 0, X => X
  | i + 1, X => ga_d p i X / p i
def ga_P (p : Nat → Nat) : Nat → Nat
  | 0 => 1
  | i + 1 => ga_P p i * p i
theorem ga_S (p : Nat → Nat) (X i : Nat) : ga_d p (i + 1) X * p i + ga_d p i X % p i = ga_d p i X := by
  show ga_d p i X / p i * p i + _ = _
  have := Nat.div_add_mod (ga_d p i X) (p i)
  rw [Nat.mul_comm] at this
  exact this
theorem ga_eq (p : Nat → Nat) (X : Nat) : ∀ i, ga_d p i X = X / ga_P p i
  | 0 => (Nat.div_one X).symm
  | i + 1 => by
    show ga_d p i X / p i = X / (ga_P p i * p i)
    rw [ga_eq p X i, Nat.div_div_eq_div_mul]
theorem ga_0 (p : Nat → Nat) {X i : Nat} (h : X < ga_P p i) : ga_d p i X = 0 := by
  rw [ga_eq]; exact Nat.div_eq_of_lt h
/-- one step of a digit -/
theorem ga_step {p : Nat → Nat} {X i j : Nat} {v v' iv : Int} (hv : (p i : Int) ∣ v - (ga_d p j X : Int)) (hiv : (p i : Int) ∣ (p j : Int) * iv - 1) (h : (p i : Int) ∣ v' - (v - ((ga_d p j X % p j : Nat) : Int)) * iv) : (p i : Int) ∣ v' - (ga_d p (j + 1) X : Int) := by
  have e := ga_S p X j
  have e : (ga_d p (j + 1) X : Int) * (p j : Int) + ((ga_d p j X % p j : Nat) : Int) = (ga_d p j X : Int) := by
    rw [← Int.natCast_mul, ← Int.natCast_add, e]
  obtain ⟨x, hx⟩ := hv
  obtain ⟨y, hy⟩ := hiv
  obtain ⟨z, hz⟩ := h
  refine ⟨z + x * iv + (ga_d p (j + 1) X : Int) * y, ?_⟩
  generalize (ga_d p (j + 1) X : Int) = a at *
  generalize ((ga_d p j X % p j : Nat) : Int) = b at *
  generalize (ga_d p j X : Int) = c at *
  generalize (p j : Int) = q at *
  generalize (p i : Int) = r at *
  subst e
  have e1 : v = a * q + b + r * x := by omega
  subst e1
  have e2 : q * iv = 1 + r * y := by omega
  have e3 : v' = r * z + (a * q + b + r * x - b) * iv := by omega
  subst e3
  grind
theorem ga_res {p X v : Nat} (hv : v < p) (h : (p : Int) ∣ (v : Int) - (X : Int)) : v = X % p := by
  have h2 : (v : Int) % p = (X : Int) % p := Int.emod_eq_emod_iff_emod_sub_eq_zero.mpr (Int.emod_eq_zero_of_dvd h)
  have h3 : ((v % p : Nat) : Int) = ((X % p : Nat) : Int) := by rw [Int.natCast_emod, Int.natCast_emod]; exact h2
  have h4 : v % p = X % p := Int.ofNat.inj h3
  rw [Nat.mod_eq_of_lt hv] at h4
  exact h4
