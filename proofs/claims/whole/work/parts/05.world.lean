/-! The kit's world out of the pure memory. -/
theorem jm_fs_get (ts : List FieldType) (m : jm_M) (a : Nat) {k : Nat} (h : k < ts.length) : (jm_fs ts m a)[k]? = some (jm_val (ts.getD k .int) m a k) := by
  unfold jm_fs
  simp [h]
theorem jm_fs_len (ts : List FieldType) (m : jm_M) (a : Nat) : (jm_fs ts m a).length = ts.length := by simp [jm_fs]
theorem jm_fs_set {ts : List FieldType} {m m' : jm_M} {a j : Nat} {v : Value} (h1 : jm_val (ts.getD j .int) m' a j = v) (h2 : ∀ k, k ≠ j → jm_val (ts.getD k .int) m' a k = jm_val (ts.getD k .int) m a k) : (jm_fs ts m a).set j v = jm_fs ts m' a := by
  apply List.ext_getElem?
  intro k
  by_cases hk : k = j
  · subst hk
    by_cases hl : k < ts.length
    · rw [List.getElem?_set_self (by rw [jm_fs_len]; exact hl), jm_fs_get ts m' a hl, h1]
    · rw [List.getElem?_eq_none (by rw [List.length_set, jm_fs_len]; omega), List.getElem?_eq_none (by rw [jm_fs_len]; omega)]
  · rw [List.getElem?_set_ne (Ne.symm hk)]
    by_cases hl : k < ts.length
    · rw [jm_fs_get ts m a hl, jm_fs_get ts m' a hl, h2 k hk]
    · rw [List.getElem?_eq_none (by rw [jm_fs_len]; omega), List.getElem?_eq_none (by rw [jm_fs_len]; omega)]
theorem jm_fs_congr {ts : List FieldType} {m m' : jm_M} {a : Nat} (h : ∀ k, jm_val (ts.getD k .int) m' a k = jm_val (ts.getD k .int) m a k) : jm_fs ts m' a = jm_fs ts m a := by
  unfold jm_fs
  exact List.map_congr_left fun k _ => h k
def jm_cell (FT : Nat → List FieldType) (ca : Nat → ClassId) (m : jm_M) (a : Nat) : va_E :=
  if (m.2.1 a).1 < 50 then .inr ((m.2.1 a).1, jm_fs (FT (m.2.1 a).1) m a) else .inl (ca (m.2.1 a).1, (m.2.1 a).2, jm_con (m.2.1 a).1 m a)
def jm_w (FT : Nat → List FieldType) (ca : Nat → ClassId) (m : jm_M) : va_W := va_pl m.1 (jm_cell FT ca m)
theorem jm_w_get {FT : Nat → List FieldType} {ca : Nat → ClassId} {m : jm_M} {a : Nat} (h : a ∈ m.1) : ∃ k : Nat, (jm_w FT ca m)[k]? = some (a, jm_cell FT ca m a) := va_pl_get (X := []) h
theorem jm_cell_o {FT : Nat → List FieldType} {ca : Nat → ClassId} {m : jm_M} {a k : Nat} (h : (m.2.1 a).1 = k) (hk : k < 50) : jm_cell FT ca m a = .inr (k, jm_fs (FT k) m a) := by
  unfold jm_cell
  rw [h, if_pos hk]
theorem jm_cell_a {FT : Nat → List FieldType} {ca : Nat → ClassId} {m : jm_M} {a k : Nat} (h : (m.2.1 a).1 = k) (hk : 50 ≤ k) : jm_cell FT ca m a = .inl (ca k, (m.2.1 a).2, jm_con k m a) := by
  unfold jm_cell
  rw [h, if_neg (by omega)]
theorem jm_w_set {FT : Nat → List FieldType} {ca : Nat → ClassId} {A : Nat → Prop} {m m' : jm_M} {a k : Nat} {e : va_E} (hD : va_D A (jm_w FT ca m)) (h : a ∈ m.1) (hk : (jm_w FT ca m)[k]? = some (a, jm_cell FT ca m a)) (hL : m'.1 = m.1) (hT : m'.2.1 = m.2.1)
    (he : jm_cell FT ca m' a = e) (ho : ∀ b, b ≠ a → jm_cell FT ca m' b = jm_cell FT ca m b) : (jm_w FT ca m).set k (a, e) = jm_w FT ca m' := by
  have h1 := va_pl_set (X := []) (f := jm_cell FT ca m) (e := e) hD h hk
  simp only [List.nil_append] at h1
  show (va_pl m.1 (jm_cell FT ca m)).set k (a, e) = va_pl m'.1 (jm_cell FT ca m')
  rw [h1, hL]
  refine va_pl_congr fun b => ?_
  by_cases hb : b = a
  · subst hb
    rw [va_up_self, he]
  · rw [va_up_ne _ _ hb, ho b hb]
theorem jm_cell_uA {FT : Nat → List FieldType} {ca : Nat → ClassId} {m : jm_M} {a b : Nat} {g : Nat → Int32} (h : b ≠ a) : jm_cell FT ca (uA m a g) b = jm_cell FT ca m b := by
  unfold jm_cell jm_fs jm_con jm_val
  simp only [uA, va_up_ne _ _ h]
  try rfl
theorem jm_cell_uJA {FT : Nat → List FieldType} {ca : Nat → ClassId} {m : jm_M} {a b : Nat} {g : Nat → Int64} (h : b ≠ a) : jm_cell FT ca (uJA m a g) b = jm_cell FT ca m b := by
  unfold jm_cell jm_fs jm_con jm_val
  simp only [uJA, va_up_ne _ _ h]
  try rfl
theorem jm_cell_uRA {FT : Nat → List FieldType} {ca : Nat → ClassId} {m : jm_M} {a b : Nat} {g : Nat → Option Nat} (h : b ≠ a) : jm_cell FT ca (uRA m a g) b = jm_cell FT ca m b := by
  unfold jm_cell jm_fs jm_con jm_val
  simp only [uRA, va_up_ne _ _ h]
  try rfl
/-- a new thing -/
theorem jm_w_new {FT : Nat → List FieldType} {ca : Nat → ClassId} {m : jm_M} {q k n : Nat} (h : q ∉ m.1) : jm_w FT ca m ++ [(q, jm_cell FT ca (aN m q k n) q)] = jm_w FT ca (aN m q k n) := by
  have h1 := va_pl_push (f := jm_cell FT ca m) (e := jm_cell FT ca (aN m q k n) q) h
  show va_pl m.1 (jm_cell FT ca m) ++ _ = va_pl (m.1 ++ [q]) (jm_cell FT ca (aN m q k n))
  rw [h1]
  refine va_pl_congr fun b => ?_
  by_cases hb : b = q
  · subst hb
    rw [va_up_self]
  · rw [va_up_ne _ _ hb]
    unfold jm_cell jm_fs jm_con jm_val
    simp only [aN, va_up_ne _ _ hb]
theorem jm_lv_at {ls : Array Slot} {nL : Nat} : ∀ {lv : jm_LV} {k : Nat} {v : Value}, lv_has ls nL lv → jm_get lv k = some v → ls[k]? = some (.val v)
  | [], _, _, _, h => by cases h
  | q :: r, k, v, hl, h => by
    unfold jm_get at h
    cases hb : Nat.beq q.1 k with
    | true =>
      rw [hb] at h
      have e1 : q.1 = k := Nat.eq_of_beq_eq_true hb
      have e2 : q.2 = v := Option.some.inj h
      have := hl.2.2 q List.mem_cons_self
      rw [e1, e2] at this
      exact this
    | false =>
      rw [hb] at h
      exact jm_lv_at (lv := r) ⟨hl.1, hl.2.1, fun z hz => hl.2.2 z (List.mem_cons_of_mem _ hz)⟩ h
theorem jm_at_mem : ∀ {cd : List jm_e} {pc : Nat} {e : jm_e}, jm_at cd pc = some e → e ∈ cd ∧ e.1 = pc
  | [], _, _, h => by cases h
  | q :: r, pc, e, h => by
    unfold jm_at at h
    cases hb : Nat.beq q.1 pc with
    | true =>
      rw [hb] at h
      have : q = e := Option.some.inj h
      subst this
      exact ⟨List.mem_cons_self, Nat.eq_of_beq_eq_true hb⟩
    | false =>
      rw [hb] at h
      have := jm_at_mem (cd := r) h
      exact ⟨List.mem_cons_of_mem _ this.1, this.2⟩
