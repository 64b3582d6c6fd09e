/-! The pure words are sound: what they say of an instruction holds on the machine. -/
abbrev jm_tys (ca : Nat → ClassId) : List (ClassId × FieldType) := [(ca 50, .int), (ca 51, .long), (ca 52, .boolean), (ca 53, .object "ShareSolve$Whole"), (ca 54, .array .int)]
def jm_W (p : Program) (l : Launch) (en : Env) (R : Room) (s : State) (mi : MethodId) (args : Array Value) (below : List Frame) (meth : Method) (c : Code) (Qw : State → Prop) (nL : Nat) (D : va_G) (ca : Nat → ClassId) (A : Nat → Prop) : jm_K := fun pc lv st m nc ns =>
  ∀ (H : Heap) (locs : List Loc) (ls : Array Slot), va_P D jm_cl (jm_w jm_FT ca m) H → va_D A (jm_w jm_FT ca m) → va_S A s.heap H locs → lv_has ls nL lv → W p l en R s mi args below meth c H locs nc ns Qw (F0 mi pc ls st)
/-- a method's words: its own code, then all good ones -/
def jm_ws (y : jm_I) : List Cond := Cond.code y.1 y.2.1 y.2.2.1 y.2.2.2.1 :: jm_Tb
def jm_rm (y : jm_I) (a b : Nat) : Room := { frames := y.2.2.2.2.1, cells := a, slots := b, locals := y.2.2.2.2.2 }
def jm_AOA (U : State) : Prop := (Cond.arrayOver (.array .int)).before #[] U = true
theorem jm_AOA.moved {u U : State} (hal : u.vm.Alike U.vm) (h : jm_AOA u) : jm_AOA U := Jvm.Stand.arrayOver_alikeB hal h
def jm_N (U : State) : Prop := (∀ w ∈ jm_nest, va_Nw w U) ∧ va_AO "ShareSolve$Whole" U ∧ jm_AOA U
def jm_B (D : va_G) (ca : Nat → ClassId) (m : jm_M) (sz : Nat) (U : State) : Prop := U.heap.size = sz ∧ va_P D jm_cl (jm_w jm_FT ca m) U.heap ∧ va_K D jm_cl (jm_tys ca) U ∧ jm_N U ∧ va_D (fun _ => True) (jm_w jm_FT ca m)
def jm_Qc (D : va_G) (ca : Nat → ClassId) (m : jm_M) (sz : Nat) (Q : Option Value → jm_M → Prop) : Array Value → State → Outcome → State → Prop := fun _ st oc t =>
  (∃ (v : Option Value) (m' : jm_M), oc = .returned v ∧ Q v m' ∧ va_P D jm_cl (jm_w jm_FT ca m') t.heap ∧ va_D (va_A (jm_w jm_FT ca m) sz) (jm_w jm_FT ca m')) ∧ va_F (va_A (jm_w jm_FT ca m) sz) st t
/-- THE CONTRACT of method k: from the memory m with these arguments it answers v and leaves m', as Q says, and makes at most a cells of b places -/
def jm_C (l : Launch) (D : va_G) (ca : Nat → ClassId) : jm_Ct := fun k args m a b Q =>
  ∀ sz : Nat, Met l (jm_mt k).1 (jm_ws (jm_mt k)) (jm_rm (jm_mt k) a b) (va_Pc args (jm_B D ca m sz)) (jm_Qc D ca m sz Q) a b (va_A (jm_w jm_FT ca m) sz)
def jm_H (p : Program) (R : Room) (s : State) (mi : MethodId) (args : Array Value) (meth : Method) (c : Code) (own : String) (cc : ByteArray) (nL fr lo : Nat) (law ini : Bool) (D : va_G) (ca : Nat → ClassId) (A : Nat → Prop) (S : Nat × Nat × (Nat → Int32)) : Prop :=
  p.tables.exec = Jvm.exec ∧ c.code = cc ∧ c.maxLocals = nL ∧ s.vm.findClass own = some mi.cls ∧ (∀ w ∈ jm_Tb, w.before args s = true) ∧ jm_N s ∧ va_K D jm_cl (jm_tys ca) s ∧ (∀ q, s.heap.size ≤ q → A q) ∧ fr ≤ R.frames ∧ lo ≤ R.locals ∧ (ini = true → meth.name = "<init>") ∧ (law = true → va_X S.1 S.2.1 S.2.2 s s.heap ∧ S.1 < s.heap.size ∧ ¬ A S.1)
theorem jm_rest {rest : List Value} (h : (rest.map fun v => v.category).sum ≤ 8) {n lo x : Nat} (h1 : n ≤ lo) (h2 : lo ≤ x) (h3 : 38 ≤ n) : (rest.map fun v => v.category).sum + 30 ≤ x := by omega
theorem jm_fix {C : String} {T : u_T} {N i : Nat} (h : jm_cl[i]? = some (C, T, N)) : jm_cls i C T N := jm_cls_all i C T N h
theorem jm_i50 {i : Nat} {q : vw_C} (h : jm_cl[i]? = some q) : i < 50 := by
  have := (List.getElem?_eq_some_iff.mp h).1
  simp [jm_cl] at this
  omega
section JS
variable {p : Program} {l : Launch} {en : Env} {R : Room} {s : State} {mi : MethodId} {args : Array Value} {below : List Frame} {meth : Method} {c : Code} {Qw : State → Prop} {own : String} {cc : ByteArray} {nL fr lo : Nat} {law ini : Bool} {ret : Option FieldType} {D : va_G} {ca : Nat → ClassId} {A : Nat → Prop} {S : Nat × Nat × (Nat → Int32)} {Rt : jm_Rt}
theorem jm_sget (h : jm_H p R s mi args meth c own cc nL fr lo law ini D ca A S) {pc i k q : Nat} {st : List Value} {lv : jm_LV} {m : jm_M} {nc ns a : Nat} {v : Value} {z : vw_C} (hc : jm_cl[q]? = some z) (hk : k < z.2.2) (hl0 : Cond.fieldLink own i z.1 (z.2.1 k).2.1 (z.2.1 k).2.2.1 ∈ jm_Tb) (hd : decode cc pc = .ok (.getfield i, 3)) (ho : jm_ok m a q) (hv : jm_val (jm_ft q k) m a k = v)
    (hs : jm_W p l en R s mi args below meth c Qw nL D ca A (pc + 3) lv (v :: st) m nc ns) : jm_W p l en R s mi args below meth c Qw nL D ca A pc lv (.ref a :: st) m nc ns := by
  obtain ⟨hx, hb, hml, hown, hts, hN, hK, hA, hfr, hlo, hin, hlaw⟩ := h
  obtain ⟨C, T, N⟩ := z
  obtain ⟨c1, c2, c3, c4, c5, c6, c7⟩ := jm_fix hc
  intro H locs ls hP hD hS hl
  obtain ⟨q0, hq⟩ := jm_w_get (FT := jm_FT) (ca := ca) ho.1
  rw [jm_cell_o ho.2 (jm_i50 hc)] at hq
  refine va_get (v := v) hx hb hts c1 hown hK hP q0 hq hc k hk (hts _ hl0) ?_ ?_ hd (hs H locs ls hP hD hS hl)
  · rw [c4 k hk]; exact fun _ h9 => h9
  · rw [jm_fs_get _ _ _ (by rw [c7]; exact hk), hv]
theorem jm_sput (h : jm_H p R s mi args meth c own cc nL fr lo law ini D ca A S) {pc i k q : Nat} {st : List Value} {lv : jm_LV} {m m' : jm_M} {nc ns a : Nat} {v : Value} {z : vw_C} (hc : jm_cl[q]? = some z) (hk : k < z.2.2) (hl0 : Cond.fieldLink own i z.1 (z.2.1 k).2.1 (z.2.1 k).2.2.1 ∈ jm_Tb) (hf : (z.2.1 k).2.2.2 = false ∨ (ini = true ∧ own = z.1)) (hd : decode cc pc = .ok (.putfield i, 3)) (ho : jm_ok m a q)
    (hn : narrow (jm_ft q k) v = v) (hfit : fits (jm_ft q k) v = true) (hL : m'.1 = m.1) (hT : m'.2.1 = m.2.1) (h1 : jm_val (jm_ft q k) m' a k = v) (h2 : ∀ j, j ≠ k → jm_val (jm_ft q j) m' a j = jm_val (jm_ft q j) m a j) (h3 : ∀ b, b ≠ a → jm_cell jm_FT ca m' b = jm_cell jm_FT ca m b)
    (hs : jm_W p l en R s mi args below meth c Qw nL D ca A (pc + 3) lv st m' nc ns) : jm_W p l en R s mi args below meth c Qw nL D ca A pc lv (v :: .ref a :: st) m nc ns := by
  obtain ⟨hx, hb, hml, hown, hts, hN, hK, hA, hfr, hlo, hin, hlaw⟩ := h
  obtain ⟨C, T, N⟩ := z
  obtain ⟨c1, c2, c3, c4, c5, c6, c7⟩ := jm_fix hc
  intro H locs ls hP hD hS hl
  obtain ⟨q0, hq⟩ := jm_w_get (FT := jm_FT) (ca := ca) ho.1
  have hset : (jm_w jm_FT ca m).set q0 (a, .inr (q, (jm_fs (jm_FT q) m a).set k v)) = jm_w jm_FT ca m' := by
    refine jm_w_set hD ho.1 hq hL hT ?_ h3
    rw [jm_cell_o (by rw [hT]; exact ho.2) (jm_i50 hc), jm_fs_set h1 h2]
  rw [jm_cell_o ho.2 (jm_i50 hc)] at hq
  by_cases hfin : (T k).2.2.2 = false
  · refine va_put (v := v) hx hb hts c1 (jm_ft q) c2 c3 hown hK hP hD hS q0 hq hc k hk (hts _ hl0) ?_ hfin (c2 k hk) hn hfit (by rw [jm_fs_len, c7]; exact hk) hd (fun H1 locs1 hP1 hD1 hS1 => ?_)
    · rw [c4 k hk]; exact fun _ h9 => h9
    · rw [hset] at hP1 hD1
      exact hs H1 locs1 ls hP1 hD1 hS1 hl
  · rcases hf with hf | ⟨hf1, hf2⟩
    · exact absurd hf hfin
    · have hfin' : (T k).2.2.2 = true := by
        cases hz : (T k).2.2.2
        · exact absurd hz hfin
        · rfl
      refine va_putF (v := v) hx hb hts c1 (jm_ft q) c2 c3 hown hK hP hD hS q0 hq hc k hk (hts _ hl0) ?_ hfin' (hin hf1) ?_ (c2 k hk) hn hfit (by rw [jm_fs_len, c7]; exact hk) hd (fun H1 locs1 hP1 hD1 hS1 => ?_)
      · rw [c4 k hk]; exact fun _ h9 => h9
      · rw [c4 k hk]; exact hf2.symm
      · rw [hset] at hP1 hD1
        exact hs H1 locs1 ls hP1 hD1 hS1 hl
theorem jm_val_uI {t : FieldType} {m : jm_M} {a j k : Nat} {x : Int32} (h : j ≠ k) : jm_val t (uI m a k x) a j = jm_val t m a j := by
  unfold jm_val
  simp only [uI, uA, va_up_self, va_up_ne _ _ h]
theorem jm_val_uJ {t : FieldType} {m : jm_M} {a j k : Nat} {x : Int64} (h : j ≠ k) : jm_val t (uJ m a k x) a j = jm_val t m a j := by
  unfold jm_val
  simp only [uJ, uJA, va_up_self, va_up_ne _ _ h]
theorem jm_val_uR {t : FieldType} {m : jm_M} {a j k : Nat} {x : Option Nat} (h : j ≠ k) : jm_val t (uR m a k x) a j = jm_val t m a j := by
  unfold jm_val
  simp only [uR, uRA, va_up_self, va_up_ne _ _ h]
/-- where an array is laid anew, and nothing else -/
theorem jm_wset {m m' : jm_M} {a k q0 : Nat} (hD : va_D A (jm_w jm_FT ca m)) (ho : jm_ok m a k) (hk : 50 ≤ k) (hq : (jm_w jm_FT ca m)[q0]? = some (a, jm_cell jm_FT ca m a)) (hL : m'.1 = m.1) (hT : m'.2.1 = m.2.1) (h3 : ∀ b, b ≠ a → jm_cell jm_FT ca m' b = jm_cell jm_FT ca m b) {n : Nat} {z : (Nat → Int32) ⊕ (Nat → Int64) ⊕ (Nat → UInt32) ⊕ (Nat → UInt64) ⊕ (Nat → Option Nat)} (hn : (m.2.1 a).2 = n) (hz : jm_con k m' a = z) : (jm_w jm_FT ca m).set q0 (a, .inl (ca k, n, z)) = jm_w jm_FT ca m' := by
  refine jm_w_set hD ho.1 hq hL hT ?_ h3
  rw [jm_cell_a (by rw [hT]; exact ho.2) hk, hT, hn, hz]
theorem jm_siald (h : jm_H p R s mi args meth c own cc nL fr lo law ini D ca A S) {pc : Nat} {st : List Value} {lv : jm_LV} {m : jm_M} {nc ns a : Nat} {i : Int32} (hd : decode cc pc = .ok (.iaload, 1)) (ho : jm_ok m a 50) (hi : vp_in i (m.2.1 a).2)
    (hs : jm_W p l en R s mi args below meth c Qw nL D ca A (pc + 1) lv (.int (m.2.2.1 a i.toNatClampNeg) :: st) m nc ns) : jm_W p l en R s mi args below meth c Qw nL D ca A pc lv (.int i :: .ref a :: st) m nc ns := by
  obtain ⟨hx, hb, hml, hown, hts, hN, hK, hA, hfr, hlo, hin, hlaw⟩ := h
  intro H locs ls hP hD hS hl
  obtain ⟨q0, hq⟩ := jm_w_get (FT := jm_FT) (ca := ca) ho.1
  rw [jm_cell_a ho.2 (by decide)] at hq
  exact va_iald hx hb hK hP q0 0 hq rfl hi hd (hs H locs ls hP hD hS hl)
theorem jm_slald (h : jm_H p R s mi args meth c own cc nL fr lo law ini D ca A S) {pc : Nat} {st : List Value} {lv : jm_LV} {m : jm_M} {nc ns a : Nat} {i : Int32} (hd : decode cc pc = .ok (.laload, 1)) (ho : jm_ok m a 51) (hi : vp_in i (m.2.1 a).2)
    (hs : jm_W p l en R s mi args below meth c Qw nL D ca A (pc + 1) lv (.long (m.2.2.2.1 a i.toNatClampNeg) :: st) m nc ns) : jm_W p l en R s mi args below meth c Qw nL D ca A pc lv (.int i :: .ref a :: st) m nc ns := by
  obtain ⟨hx, hb, hml, hown, hts, hN, hK, hA, hfr, hlo, hin, hlaw⟩ := h
  intro H locs ls hP hD hS hl
  obtain ⟨q0, hq⟩ := jm_w_get (FT := jm_FT) (ca := ca) ho.1
  rw [jm_cell_a ho.2 (by decide)] at hq
  exact va_lald hx hb hK hP q0 1 hq rfl hi hd (hs H locs ls hP hD hS hl)
theorem jm_szald (h : jm_H p R s mi args meth c own cc nL fr lo law ini D ca A S) {pc : Nat} {st : List Value} {lv : jm_LV} {m : jm_M} {nc ns a : Nat} {i : Int32} (hd : decode cc pc = .ok (.baload, 1)) (ho : jm_ok m a 52) (hi : vp_in i (m.2.1 a).2)
    (hs : jm_W p l en R s mi args below meth c Qw nL D ca A (pc + 1) lv (.int (m.2.2.1 a i.toNatClampNeg) :: st) m nc ns) : jm_W p l en R s mi args below meth c Qw nL D ca A pc lv (.int i :: .ref a :: st) m nc ns := by
  obtain ⟨hx, hb, hml, hown, hts, hN, hK, hA, hfr, hlo, hin, hlaw⟩ := h
  intro H locs ls hP hD hS hl
  obtain ⟨q0, hq⟩ := jm_w_get (FT := jm_FT) (ca := ca) ho.1
  rw [jm_cell_a ho.2 (by decide)] at hq
  exact va_zald hx hb hK hP q0 2 hq rfl hi hd (hs H locs ls hP hD hS hl)
theorem jm_siast (h : jm_H p R s mi args meth c own cc nL fr lo law ini D ca A S) {pc : Nat} {st : List Value} {lv : jm_LV} {m : jm_M} {nc ns a : Nat} {i : Int32} {x : Int32} (hd : decode cc pc = .ok (.iastore, 1)) (ho : jm_ok m a 50) (hi : vp_in i (m.2.1 a).2)
    (hs : jm_W p l en R s mi args below meth c Qw nL D ca A (pc + 1) lv st (uI m a i.toNatClampNeg x) nc ns) : jm_W p l en R s mi args below meth c Qw nL D ca A pc lv (.int x :: .int i :: .ref a :: st) m nc ns := by
  obtain ⟨hx, hb, hml, hown, hts, hN, hK, hA, hfr, hlo, hin, hlaw⟩ := h
  intro H locs ls hP hD hS hl
  obtain ⟨q0, hq⟩ := jm_w_get (FT := jm_FT) (ca := ca) ho.1
  have hset := jm_wset (m' := uI m a i.toNatClampNeg x) hD ho (by decide) hq rfl rfl (fun b hb => jm_cell_uA hb) rfl rfl
  rw [jm_cell_a ho.2 (by decide)] at hq
  refine va_iast hx hb hK hP hD hS q0 0 hq rfl hi hd (fun H1 locs1 hP1 hD1 hS1 => ?_)
  have e : (upd (m.2.2.1 a) i.toNatClampNeg x) = va_up (m.2.2.1 a) i.toNatClampNeg x := by
    funext j
    skip
    skip
    by_cases hj : j = i.toNatClampNeg
    · subst hj; simp [upd, va_up]
    · simp [upd, va_up, hj]
  rw [e] at hP1 hD1
  have e2 : jm_con 50 (uI m a i.toNatClampNeg x) a = .inl (va_up (m.2.2.1 a) i.toNatClampNeg x) := by
    unfold jm_con
    simp [uI, uJ, uA, uJA, va_up_self]
  rw [e2] at hset
  rw [hset] at hP1 hD1
  exact hs H1 locs1 ls hP1 hD1 hS1 hl
theorem jm_slast (h : jm_H p R s mi args meth c own cc nL fr lo law ini D ca A S) {pc : Nat} {st : List Value} {lv : jm_LV} {m : jm_M} {nc ns a : Nat} {i : Int32} {x : Int64} (hd : decode cc pc = .ok (.lastore, 1)) (ho : jm_ok m a 51) (hi : vp_in i (m.2.1 a).2)
    (hs : jm_W p l en R s mi args below meth c Qw nL D ca A (pc + 1) lv st (uJ m a i.toNatClampNeg x) nc ns) : jm_W p l en R s mi args below meth c Qw nL D ca A pc lv (.long x :: .int i :: .ref a :: st) m nc ns := by
  obtain ⟨hx, hb, hml, hown, hts, hN, hK, hA, hfr, hlo, hin, hlaw⟩ := h
  intro H locs ls hP hD hS hl
  obtain ⟨q0, hq⟩ := jm_w_get (FT := jm_FT) (ca := ca) ho.1
  have hset := jm_wset (m' := uJ m a i.toNatClampNeg x) hD ho (by decide) hq rfl rfl (fun b hb => jm_cell_uJA hb) rfl rfl
  rw [jm_cell_a ho.2 (by decide)] at hq
  refine va_last hx hb hK hP hD hS q0 1 hq rfl hi hd (fun H1 locs1 hP1 hD1 hS1 => ?_)
  have e : (vp_updL (m.2.2.2.1 a) i.toNatClampNeg x) = va_up (m.2.2.2.1 a) i.toNatClampNeg x := by
    funext j
    skip
    skip
    by_cases hj : j = i.toNatClampNeg
    · subst hj; simp [vp_updL, va_up]
    · simp [vp_updL, va_up, hj]
  rw [e] at hP1 hD1
  have e2 : jm_con 51 (uJ m a i.toNatClampNeg x) a = .inr (.inl (va_up (m.2.2.2.1 a) i.toNatClampNeg x)) := by
    unfold jm_con
    simp [uI, uJ, uA, uJA, va_up_self]
  rw [e2] at hset
  rw [hset] at hP1 hD1
  exact hs H1 locs1 ls hP1 hD1 hS1 hl
theorem jm_szast (h : jm_H p R s mi args meth c own cc nL fr lo law ini D ca A S) {pc : Nat} {st : List Value} {lv : jm_LV} {m : jm_M} {nc ns a : Nat} {i : Int32} {x : Int32} (hd : decode cc pc = .ok (.bastore, 1)) (ho : jm_ok m a 52) (hi : vp_in i (m.2.1 a).2) (hx01 : x = 0 ∨ x = 1)
    (hs : jm_W p l en R s mi args below meth c Qw nL D ca A (pc + 1) lv st (uI m a i.toNatClampNeg x) nc ns) : jm_W p l en R s mi args below meth c Qw nL D ca A pc lv (.int x :: .int i :: .ref a :: st) m nc ns := by
  obtain ⟨hx, hb, hml, hown, hts, hN, hK, hA, hfr, hlo, hin, hlaw⟩ := h
  intro H locs ls hP hD hS hl
  obtain ⟨q0, hq⟩ := jm_w_get (FT := jm_FT) (ca := ca) ho.1
  have hset := jm_wset (m' := uI m a i.toNatClampNeg x) hD ho (by decide) hq rfl rfl (fun b hb => jm_cell_uA hb) rfl rfl
  rw [jm_cell_a ho.2 (by decide)] at hq
  refine va_zast hx hb hK hP hD hS q0 2 hq rfl hi hd (fun H1 locs1 hP1 hD1 hS1 => ?_)
  have e : (upd (m.2.2.1 a) i.toNatClampNeg (vp_nar .boolean x)) = va_up (m.2.2.1 a) i.toNatClampNeg x := by
    funext j
    have e0 : vp_nar .boolean x = x := by rcases hx01 with rfl | rfl <;> rfl
    rw [e0]
    by_cases hj : j = i.toNatClampNeg
    · subst hj; simp [upd, va_up]
    · simp [upd, va_up, hj]
  rw [e] at hP1 hD1
  have e2 : jm_con 52 (uI m a i.toNatClampNeg x) a = .inl (va_up (m.2.2.1 a) i.toNatClampNeg x) := by
    unfold jm_con
    simp [uI, uJ, uA, uJA, va_up_self]
  rw [e2] at hset
  rw [hset] at hP1 hD1
  exact hs H1 locs1 ls hP1 hD1 hS1 hl
end JS
