/-! Rows of the pure memory. -/
theorem uI_uA {m : jm_M} {a k : Nat} {g : Nat → Int32} {x : Int32} : uI (uA m a g) a k x = uA m a (va_up g k x) := by
  simp only [uI, uA, va_up_self, bx_uu]
theorem uA_uA {m : jm_M} {a : Nat} {g g' : Nat → Int32} : uA (uA m a g) a g' = uA m a g' := by
  simp only [uA, bx_uu]
theorem va_up_id {α : Type} (f : Nat → α) (a : Nat) : va_up f a (f a) = f := by
  funext b
  by_cases hb : b = a
  · subst hb; rw [va_up_self]
  · rw [va_up_ne _ _ hb]
theorem uA_id {m : jm_M} {a : Nat} : uA m a (m.2.2.1 a) = m := by
  unfold uA
  rw [va_up_id]
theorem uA_id' {m : jm_M} {a : Nat} {g : Nat → Int32} (h : m.2.2.1 a = g) : uA m a g = m := by
  rw [← h, uA_id]
theorem va_up_comm {α : Type} (f : Nat → α) {a b : Nat} (x y : α) (h : a ≠ b) : va_up (va_up f a x) b y = va_up (va_up f b y) a x := by
  funext c
  by_cases h1 : c = a
  · subst h1; rw [va_up_ne _ _ h, va_up_self, va_up_self]
  · by_cases h2 : c = b
    · subst h2; rw [va_up_self, va_up_ne _ _ h1, va_up_self]
    · rw [va_up_ne _ _ h2, va_up_ne _ _ h1, va_up_ne _ _ h1, va_up_ne _ _ h2]
theorem nI_c {i : Nat} (h : i < 2 ^ 31) : (nI i).toNatClampNeg = i := nI_clamp h
theorem vin_of {n k N : Nat} (h : k = N) (hn : n < N) (hN : N < 2 ^ 31) : vp_in (nI n) k := by
  rw [h]; exact vp_in_nI hn hN
theorem vin13 {n k : Nat} (h : k = 13) (hn : n < 13) : vp_in (nI n) k := vin_of h hn (by decide)
