section JS2
variable {p : Program} {l : Launch} {en : Env} {R : Room} {s : State} {mi : MethodId} {args : Array Value} {below : List Frame} {meth : Method} {c : Code} {Qw : State → Prop} {own : String} {cc : ByteArray} {nL fr lo : Nat} {law ini : Bool} {ret : Option FieldType} {D : va_G} {ca : Nat → ClassId} {A : Nat → Prop} {S : Nat × Nat × (Nat → Int32)} {Rt : jm_Rt}
theorem jm_con_r {k : Nat} (h : 53 ≤ k) (m : jm_M) (a : Nat) : jm_con k m a = .inr (.inr (.inr (.inr (m.2.2.2.2 a)))) := by
  unfold jm_con
  rw [if_neg (by omega), if_neg (by omega)]
theorem jm_saald (h : jm_H p R s mi args meth c own cc nL fr lo law ini D ca A S) {pc k : Nat} {st : List Value} {lv : jm_LV} {m : jm_M} {nc ns a : Nat} {i : Int32} (hd : decode cc pc = .ok (.aaload, 1)) (hk : k = 53 ∨ k = 54) (ho : jm_ok m a k) (hi : vp_in i (m.2.1 a).2)
    (hs : jm_W p l en R s mi args below meth c Qw nL D ca A (pc + 1) lv (va_rf (m.2.2.2.2 a i.toNatClampNeg) :: st) m nc ns) : jm_W p l en R s mi args below meth c Qw nL D ca A pc lv (.int i :: .ref a :: st) m nc ns := by
  obtain ⟨hx, hb, hml, hown, hts, hN, hK, hA, hfr, hlo, hin, hlaw⟩ := h
  intro H locs ls hP hD hS hl
  obtain ⟨q0, hq⟩ := jm_w_get (FT := jm_FT) (ca := ca) ho.1
  rw [jm_cell_a ho.2 (by omega), jm_con_r (by omega)] at hq
  have hlt : i.toNatClampNeg < (m.2.1 a).2 := Nat.not_le.mp fun q => hi (Or.inr q)
  have hcell : H[a]? = some (vp_cell (ca k) ((m.2.1 a).2, .inr (.inr (.inr (.inr (m.2.2.2.2 a)))))) := hP q0 _ hq
  rcases hk with rfl | rfl
  · exact W.aald (v := va_rf (m.2.2.2.2 a i.toNatClampNeg)) (ty := .object "ShareSolve$Whole") hx hb hcell ((hK.2 3 _ rfl).1 (m.2.1 a).2 (fun j => va_rf (m.2.2.2.2 a j))) rfl (fun q => by cases q) (by show ¬ (i < 0 ∨ (arrV _ _ _).slots.size ≤ _); rw [arrV_size]; exact hi) (by show (arrV _ _ _).slots[_]? = _; rw [arrV_read _ _ hlt]) rfl rfl hd (hs H locs ls hP hD hS hl)
  · exact W.aald (v := va_rf (m.2.2.2.2 a i.toNatClampNeg)) (ty := .array .int) hx hb hcell ((hK.2 4 _ rfl).1 (m.2.1 a).2 (fun j => va_rf (m.2.2.2.2 a j))) rfl (fun q => by cases q) (by show ¬ (i < 0 ∨ (arrV _ _ _).slots.size ≤ _); rw [arrV_size]; exact hi) (by show (arrV _ _ _).slots[_]? = _; rw [arrV_read _ _ hlt]) rfl rfl hd (hs H locs ls hP hD hS hl)
theorem jm_saast (h : jm_H p R s mi args meth c own cc nL fr lo law ini D ca A S) {pc : Nat} {st : List Value} {lv : jm_LV} {m : jm_M} {nc ns a x : Nat} {i : Int32} (hd : decode cc pc = .ok (.aastore, 1)) (ho : jm_ok m a 53) (hi : vp_in i (m.2.1 a).2) (hxo : jm_ok m x 4)
    (hs : jm_W p l en R s mi args below meth c Qw nL D ca A (pc + 1) lv st (uR m a i.toNatClampNeg (some x)) nc ns) : jm_W p l en R s mi args below meth c Qw nL D ca A pc lv (.ref x :: .int i :: .ref a :: st) m nc ns := by
  obtain ⟨hx, hb, hml, hown, hts, hN, hK, hA, hfr, hlo, hin, hlaw⟩ := h
  intro H locs ls hP hD hS hl
  obtain ⟨q0, hq⟩ := jm_w_get (FT := jm_FT) (ca := ca) ho.1
  obtain ⟨q1, hq1⟩ := jm_w_get (FT := jm_FT) (ca := ca) hxo.1
  have hset := jm_wset (m' := uR m a i.toNatClampNeg (some x)) hD ho (by decide) hq rfl rfl (fun b hb => jm_cell_uRA hb) rfl rfl
  rw [jm_cell_a ho.2 (by decide), jm_con_r (by decide)] at hq
  rw [jm_cell_o hxo.2 (by decide)] at hq1
  refine va_astq hx hb hK hP hD hS q0 3 q1 4 hq rfl hq1 rfl hi hd (fun H1 locs1 hP1 hD1 hS1 => ?_)
  rw [jm_con_r (by decide)] at hset
  have e : (uR m a i.toNatClampNeg (some x)).2.2.2.2 a = va_up (m.2.2.2.2 a) i.toNatClampNeg (some x) := va_up_self _ _ _
  rw [e] at hset
  rw [hset] at hP1 hD1
  exact hs H1 locs1 ls hP1 hD1 hS1 hl
theorem jm_slen (h : jm_H p R s mi args meth c own cc nL fr lo law ini D ca A S) {pc : Nat} {st : List Value} {lv : jm_LV} {m : jm_M} {nc ns a : Nat} (hd : decode cc pc = .ok (.arraylength, 1)) (ho : a ∈ m.1) (hk : 50 ≤ (m.2.1 a).1) (hk2 : (m.2.1 a).1 ≤ 54)
    (hs : jm_W p l en R s mi args below meth c Qw nL D ca A (pc + 1) lv (.int (Int32.ofNat (m.2.1 a).2) :: st) m nc ns) : jm_W p l en R s mi args below meth c Qw nL D ca A pc lv (.ref a :: st) m nc ns := by
  obtain ⟨hx, hb, hml, hown, hts, hN, hK, hA, hfr, hlo, hin, hlaw⟩ := h
  intro H locs ls hP hD hS hl
  obtain ⟨q0, hq⟩ := jm_w_get (FT := jm_FT) (ca := ca) ho
  rw [jm_cell_a rfl hk] at hq
  have key : ∃ (t0 : Nat) (ty : FieldType), (jm_tys ca)[t0]? = some (ca (m.2.1 a).1, ty) := by
    rcases (show (m.2.1 a).1 = 50 ∨ (m.2.1 a).1 = 51 ∨ (m.2.1 a).1 = 52 ∨ (m.2.1 a).1 = 53 ∨ (m.2.1 a).1 = 54 by omega) with e | e | e | e | e <;> rw [e]
    · exact ⟨0, _, rfl⟩
    · exact ⟨1, _, rfl⟩
    · exact ⟨2, _, rfl⟩
    · exact ⟨3, _, rfl⟩
    · exact ⟨4, _, rfl⟩
  obtain ⟨t0, ty, ht⟩ := key
  exact va_alen hx hb hK hP q0 t0 hq ht rfl hd (hs H locs ls hP hD hS hl)
theorem jm_fs_new {ts : List FieldType} {m : jm_M} {q k n : Nat} : ∀ j, jm_val (ts.getD j .int) (aN m q k n) q j = jm_val (ts.getD j .int) (([], fun _ => (0, 0), fun _ _ => 0, fun _ _ => 0, fun _ _ => none) : jm_M) q j := by
  intro j
  unfold jm_val
  simp only [aN, va_up_self]
theorem jm_def (t : FieldType) (ht : t = .int ∨ t = .long ∨ t = .boolean ∨ (∃ x, t = .object x) ∨ ∃ x, t = .array x) (m : jm_M) (q k n j : Nat) : jm_val t (aN m q k n) q j = defaultValue t := by
  unfold jm_val
  rcases ht with rfl | rfl | rfl | ⟨x, rfl⟩ | ⟨x, rfl⟩ <;> simp only [aN, va_up_self] <;> rfl
def jm_tok (t : FieldType) : Bool := match t with | .int => true | .long => true | .boolean => true | .object _ => true | .array _ => true | _ => false
theorem jm_tok_of {t : FieldType} (h : jm_tok t = true) : t = .int ∨ t = .long ∨ t = .boolean ∨ (∃ x, t = .object x) ∨ ∃ x, t = .array x := by
  cases t <;> simp [jm_tok] at h ⊢
theorem jm_tok_all : ∀ q, q < 7 → ∀ k, k < (jm_FT q).length → jm_tok (jm_ft q k) = true := by decide +kernel
theorem jm_snew (h : jm_H p R s mi args meth c own cc nL fr lo law ini D ca A S) {pc i q : Nat} {st : List Value} {lv : jm_LV} {m : jm_M} {nc ns : Nat} {z : vw_C} (hc : jm_cl[q]? = some z) (hl0 : Cond.classLink own i z.1 ∈ jm_Tb) (hd : decode cc pc = .ok (.new i, 3)) (h1 : nc + 1 ≤ R.cells) (h2 : ns + jm_sz q ≤ R.slots)
    (hs : ∀ a : Nat, a ∉ m.1 → jm_W p l en R s mi args below meth c Qw nL D ca A (pc + 3) lv (.ref a :: st) (aN m a q 0) (nc + 1) (ns + jm_sz q)) : jm_W p l en R s mi args below meth c Qw nL D ca A pc lv st m nc ns := by
  obtain ⟨hx, hb, hml, hown, hts, hN, hK, hA, hfr, hlo, hin, hlaw⟩ := h
  obtain ⟨C, T, N⟩ := z
  obtain ⟨c1, c2, c3, c4, c5, c6, c7⟩ := jm_fix hc
  have hq7 : q < 7 := (List.getElem?_eq_some_iff.mp hc).1
  intro H locs ls hP hD hS hl
  have e7 : jm_sz q = N := c7
  rw [e7] at h2
  refine va_new (fs := jm_fs (jm_FT q) (([], fun _ => (0, 0), fun _ _ => 0, fun _ _ => 0, fun _ _ => none) : jm_M) 0) hx hb hts c1 (jm_ft q) c2 hown (hts _ hl0) (hts _ c6) (hts _ c5) hK hP hD hS hA hc (fun j hj => ?_) h1 h2 hd (fun a H1 hP1 hD1 hS1 => ?_)
  · unfold vp_V
    rw [List.getD_eq_getElem?_getD, jm_fs_get _ _ _ (by rw [c7]; exact hj)]
    have := jm_tok_of (jm_tok_all q hq7 j (by rw [c7]; exact hj))
    show defaultValue (jm_ft q j) = jm_val (jm_ft q j) _ 0 j
    unfold jm_val
    rcases this with e | e | e | ⟨x, e⟩ | ⟨x, e⟩ <;> rw [e] <;> rfl
  · have hfresh : a ∉ m.1 := fun hm => by
      obtain ⟨k, hk⟩ := jm_w_get (FT := jm_FT) (ca := ca) hm
      have e1 : (jm_w jm_FT ca m ++ [(a, .inr (q, jm_fs (jm_FT q) (([], fun _ => (0, 0), fun _ _ => 0, fun _ _ => 0, fun _ _ => none) : jm_M) 0))])[k]? = some (a, jm_cell jm_FT ca m a) := by
        rw [List.getElem?_append_left (List.getElem?_eq_some_iff.mp hk).1]; exact hk
      have e2 : (jm_w jm_FT ca m ++ [(a, Sum.inr (q, jm_fs (jm_FT q) (([], fun _ => (0, 0), fun _ _ => 0, fun _ _ => 0, fun _ _ => none) : jm_M) 0))])[(jm_w jm_FT ca m).length]? = some (a, .inr (q, jm_fs (jm_FT q) (([], fun _ => (0, 0), fun _ _ => 0, fun _ _ => 0, fun _ _ => none) : jm_M) 0)) := by simp
      have := hD1.1 _ _ _ _ e1 e2 rfl
      have := (List.getElem?_eq_some_iff.mp hk).1
      omega
    have hcell : jm_cell jm_FT ca (aN m a q 0) a = .inr (q, jm_fs (jm_FT q) (([], fun _ => (0, 0), fun _ _ => 0, fun _ _ => 0, fun _ _ => none) : jm_M) 0) := by
      rw [jm_cell_o (k := q) (by simp only [aN, va_up_self]) (by omega)]
      congr 2
      unfold jm_fs
      refine List.map_congr_left fun j _ => ?_
      unfold jm_val
      simp only [aN, va_up_self]
    rw [← hcell, jm_w_new hfresh] at hP1 hD1
    rw [← e7]
    exact hs a hfresh H1 locs ls hP1 hD1 hS1 hl
theorem jm_fresh {m : jm_M} {a : Nat} {e : va_E} (hD1 : va_D A (jm_w jm_FT ca m ++ [(a, e)])) : a ∉ m.1 := fun hm => by
  obtain ⟨k, hk⟩ := jm_w_get (FT := jm_FT) (ca := ca) hm
  have e1 : (jm_w jm_FT ca m ++ [(a, e)])[k]? = some (a, jm_cell jm_FT ca m a) := by
    rw [List.getElem?_append_left (List.getElem?_eq_some_iff.mp hk).1]; exact hk
  have e2 : (jm_w jm_FT ca m ++ [(a, e)])[(jm_w jm_FT ca m).length]? = some (a, e) := by simp
  have := hD1.1 _ _ _ _ e1 e2 rfl
  have := (List.getElem?_eq_some_iff.mp hk).1
  omega
theorem jm_snewa (h : jm_H p R s mi args meth c own cc nL fr lo law ini D ca A S) {pc k : Nat} {t : ArrayType} {st : List Value} {lv : jm_LV} {m : jm_M} {nc ns : Nat} {i : Int32} (hk : 50 ≤ k) (hk2 : k ≤ 52) (ht : jm_AT k = newarray.typeOf t) (hd : decode cc pc = .ok (.newarray t, 2)) (hi : ¬ i < 0) (hi2 : i.toNatClampNeg ≤ 1000000) (h1 : nc + 1 ≤ R.cells) (h2 : ns + i.toNatClampNeg ≤ R.slots)
    (hs : ∀ a : Nat, a ∉ m.1 → jm_W p l en R s mi args below meth c Qw nL D ca A (pc + 2) lv (.ref a :: st) (aN m a k i.toNatClampNeg) (nc + 1) (ns + i.toNatClampNeg)) : jm_W p l en R s mi args below meth c Qw nL D ca A pc lv (.int i :: st) m nc ns := by
  obtain ⟨hx, hb, hml, hown, hts, hN, hK, hA, hfr, hlo, hin, hlaw⟩ := h
  intro H locs ls hP hD hS hl
  have hword : (Cond.arrayClass (newarray.typeOf t)).before args s = true := by
    rcases (show k = 50 ∨ k = 51 ∨ k = 52 by omega) with e | e | e <;> subst e <;> rw [← ht]
    · exact hts _ (jm_wd_in jm_arr50)
    · exact hts _ (jm_wd_in jm_arr51)
    · exact hts _ (jm_wd_in jm_arr52)
  have fin : ∀ (ty : FieldType) (z : vp_A), newarray.typeOf t = ty → (jm_tys ca)[k - 50]? = some (ca k, ty) → (∀ (U : State) (x y : ClassId), va_RA U x ty → va_RA U y ty → x = y) → i.toNatClampNeg * componentBytes ty ≤ 536870912 → (∀ cA : ClassId, vp_cell cA z = arrV cA i.toNatClampNeg (fun _ => defaultValue ty)) → (∀ a, jm_cell jm_FT ca (aN m a k i.toNatClampNeg) a = .inl (ca k, z)) → W p l en R s mi args below meth c H locs nc ns Qw (F0 mi pc ls (.int i :: st)) := by
    intro ty z hty htys hRA hby hz hcell
    refine va_newa (ty := ty) (a0 := z) hx hb hword hty hK hP hD hS hA hz hi rfl hby h1 h2 hd (fun a cA H1 hK1 hP1 hD1 hS1 => ?_)
    have hcA : cA = ca k := by
      have r1 := (hK1.2 5 (cA, ty) rfl).2
      have r2 := (hK.2 (k - 50) _ htys).2
      exact hRA s _ _ r1 r2
    subst hcA
    have hf := jm_fresh hD1
    rw [← hcell a, jm_w_new hf] at hP1 hD1
    exact hs a hf H1 locs ls hP1 hD1 hS1 hl
  rcases (show k = 50 ∨ k = 51 ∨ k = 52 by omega) with e | e | e <;> subst e
  · refine fin .int (i.toNatClampNeg, .inl (fun _ => 0)) ht.symm rfl (fun U x y a b => Option.some.inj (a.symm.trans b)) (by show _ * 4 ≤ _; omega) (fun cA => rfl) (fun a => ?_)
    rw [jm_cell_a (k := 50) (by simp only [aN, va_up_self]) (by decide)]
    simp only [aN, va_up_self, jm_con]
    rfl
  · refine fin .long (i.toNatClampNeg, .inr (.inl (fun _ => 0))) ht.symm rfl (fun U x y a b => Option.some.inj (a.symm.trans b)) (by show _ * 8 ≤ _; omega) (fun cA => rfl) (fun a => ?_)
    rw [jm_cell_a (k := 51) (by simp only [aN, va_up_self]) (by decide)]
    simp only [aN, va_up_self, jm_con]
    rfl
  · refine fin .boolean (i.toNatClampNeg, .inl (fun _ => 0)) ht.symm rfl (fun U x y a b => Option.some.inj (a.symm.trans b)) (by show _ * 1 ≤ _; omega) (fun cA => rfl) (fun a => ?_)
    rw [jm_cell_a (k := 52) (by simp only [aN, va_up_self]) (by decide)]
    simp only [aN, va_up_self, jm_con]
    rfl
theorem jm_sanew (h : jm_H p R s mi args meth c own cc nL fr lo law ini D ca A S) {pc j : Nat} {st : List Value} {lv : jm_LV} {m : jm_M} {nc ns : Nat} {i : Int32} (hl0 : Cond.classLink own j "ShareSolve$Whole" ∈ jm_Tb) (hd : decode cc pc = .ok (.anewarray j, 3)) (hi : ¬ i < 0) (hi2 : i.toNatClampNeg ≤ 1000000) (h1 : nc + 1 ≤ R.cells) (h2 : ns + i.toNatClampNeg ≤ R.slots)
    (hs : ∀ a : Nat, a ∉ m.1 → jm_W p l en R s mi args below meth c Qw nL D ca A (pc + 3) lv (.ref a :: st) (aN m a 53 i.toNatClampNeg) (nc + 1) (ns + i.toNatClampNeg)) : jm_W p l en R s mi args below meth c Qw nL D ca A pc lv (.int i :: st) m nc ns := by
  obtain ⟨hx, hb, hml, hown, hts, hN, hK, hA, hfr, hlo, hin, hlaw⟩ := h
  intro H locs ls hP hD hS hl
  refine va_newq hx hb hown (hts _ hl0) hN.2.1 hK hP hD hS hA hi rfl (by omega) h1 h2 hd (fun a cA H1 hK1 hP1 hD1 hS1 => ?_)
  have hcA : cA = ca 53 := by
    obtain ⟨_, _, -, -, -, r1⟩ := (hK1.2 5 (cA, .object "ShareSolve$Whole") rfl).2
    obtain ⟨_, _, -, -, -, r2⟩ := (hK.2 3 _ rfl).2
    exact Option.some.inj (r1.symm.trans r2)
  subst hcA
  have hf := jm_fresh hD1
  have hcell : jm_cell jm_FT ca (aN m a 53 i.toNatClampNeg) a = .inl (ca 53, i.toNatClampNeg, .inr (.inr (.inr (.inr (fun _ => none))))) := by
    rw [jm_cell_a (k := 53) (by simp only [aN, va_up_self]) (by decide)]
    simp only [aN, va_up_self, jm_con]
    rfl
  rw [← hcell, jm_w_new hf] at hP1 hD1
  exact hs a hf H1 locs ls hP1 hD1 hS1 hl
end JS2
theorem mn_outer (c : ClassId) (N h0 : Nat) : ∀ i : Nat, Jvm.Free.Multi.outerC c N h0 i = arrV c N (fun j => va_rf (if j < i then some (h0 + 1 + j) else none))
  | 0 => by
    show ({ cls := c, slots := Array.replicate N .null, vm := .none } : Cell) = _
    rw [arrV_new]
    congr 1
  | i + 1 => by
    show (Jvm.Free.Multi.outerC c N h0 i).setSlot i (.ref (h0 + 1 + i)) = _
    rw [mn_outer c N h0 i, arrV_store]
    congr 1
    funext j
    unfold updV
    by_cases e : j = i
    · subst e
      rw [if_pos rfl, if_pos (by omega)]; rfl
    · rw [if_neg e]
      show va_rf (if j < i then some (h0 + 1 + j) else none) = _
      by_cases h : j < i
      · rw [if_pos h, if_pos (by omega)]
      · rw [if_neg h, if_neg (by omega)]
/-- the world in words of its addresses -/
theorem jm_P_iff {D : va_G} {ca : Nat → ClassId} {m : jm_M} {H : Heap} : va_P D jm_cl (jm_w jm_FT ca m) H ↔ ∀ a, a ∈ m.1 → va_at D jm_cl (a, jm_cell jm_FT ca m a) H := by
  constructor
  · intro h a ha
    obtain ⟨k, hk⟩ := jm_w_get (FT := jm_FT) (ca := ca) ha
    exact h k _ hk
  · intro h k q hk
    have hm : q ∈ jm_w jm_FT ca m := List.mem_of_getElem? hk
    obtain ⟨a, ha, e⟩ := List.mem_map.mp hm
    rw [← e]; exact h a ha
theorem jm_D_iff {A : Nat → Prop} {ca : Nat → ClassId} {m : jm_M} : va_D A (jm_w jm_FT ca m) ↔ m.1.Nodup ∧ ∀ a, a ∈ m.1 → A a := by
  have hget : ∀ (k : Nat) (q : Nat × va_E), (jm_w jm_FT ca m)[k]? = some q → m.1[k]? = some q.1 := fun k q hk => by
    unfold jm_w va_pl at hk
    rw [List.getElem?_map] at hk
    cases h : m.1[k]? with
    | none => rw [h] at hk; cases hk
    | some a => rw [h] at hk; cases hk; rfl
  have hget2 : ∀ (k a : Nat), m.1[k]? = some a → (jm_w jm_FT ca m)[k]? = some (a, jm_cell jm_FT ca m a) := fun k a hk => by
    unfold jm_w va_pl
    rw [List.getElem?_map, hk]; rfl
  constructor
  · rintro ⟨h1, h2⟩
    refine ⟨?_, fun a ha => ?_⟩
    · refine List.pairwise_iff_getElem.mpr fun i j hi hj hij e => ?_
      have e1 : m.1[i]? = some m.1[i] := List.getElem?_eq_getElem hi
      have e2 : m.1[j]? = some m.1[j] := List.getElem?_eq_getElem hj
      have := h1 i j _ _ (hget2 _ _ e1) (hget2 _ _ e2) e
      omega
    · obtain ⟨k, hk⟩ := List.getElem?_of_mem ha
      exact h2 k _ (hget2 _ _ hk)
  · rintro ⟨h1, h2⟩
    refine ⟨fun i j p q hi hj e => ?_, fun k q hk => h2 _ (List.mem_of_getElem? (hget _ _ hk))⟩
    have a1 := hget _ _ hi
    have a2 := hget _ _ hj
    have h1 := List.pairwise_iff_getElem.mp h1
    obtain ⟨l1, b1⟩ := List.getElem?_eq_some_iff.mp a1
    obtain ⟨l2, b2⟩ := List.getElem?_eq_some_iff.mp a2
    rcases Nat.lt_trichotomy i j with w | w | w
    · exact absurd (b1.trans (e.trans b2.symm)) (h1 i j l1 l2 w)
    · exact w
    · exact absurd (b2.trans (e.symm.trans b1.symm)) (h1 j i l2 l1 w)
section JS3
variable {p : Program} {l : Launch} {en : Env} {R : Room} {s : State} {mi : MethodId} {args : Array Value} {below : List Frame} {meth : Method} {c : Code} {Qw : State → Prop} {own : String} {cc : ByteArray} {nL fr lo : Nat} {law ini : Bool} {ret : Option FieldType} {D : va_G} {ca : Nat → ClassId} {A : Nat → Prop} {S : Nat × Nat × (Nat → Int32)} {Rt : jm_Rt}
theorem jm_smna (h : jm_H p R s mi args meth c own cc nL fr lo law ini D ca A S) {pc j : Nat} {st : List Value} {lv : jm_LV} {m : jm_M} {nc ns : Nat} {n k : Int32} (hl0 : Cond.classLink own j "[[I" ∈ jm_Tb) (hd : decode cc pc = .ok (.multianewarray j 2, 4)) (hn : ¬ n < 0) (hk : ¬ k < 0) (hn2 : n.toNatClampNeg ≤ 1000) (hk2 : k.toNatClampNeg ≤ 1000) (h1 : nc + (1 + n.toNatClampNeg) ≤ R.cells) (h2 : ns + (n.toNatClampNeg + n.toNatClampNeg * k.toNatClampNeg) ≤ R.slots)
    (hs : ∀ (q : Nat) (rw : Nat → Nat), q ∉ m.1 → (∀ i, i < n.toNatClampNeg → rw i ∉ m.1 ∧ rw i ≠ q) → (∀ i j, i < n.toNatClampNeg → j < n.toNatClampNeg → rw i = rw j → i = j) → jm_W p l en R s mi args below meth c Qw nL D ca A (pc + 4) lv (.ref q :: st) (aNN m q rw n.toNatClampNeg k.toNatClampNeg) (nc + 1 + n.toNatClampNeg) (ns + n.toNatClampNeg + n.toNatClampNeg * k.toNatClampNeg)) : jm_W p l en R s mi args below meth c Qw nL D ca A pc lv (.int k :: .int n :: st) m nc ns := by
  obtain ⟨hx, hb, hml, hown, hts, hN, hK, hA, hfr, hlo, hin, hlaw⟩ := h
  intro H locs ls hP hD hS hl T hT Xs
  have hw50 : (Cond.arrayClass .int).before args s = true := hts _ (jm_wd_in jm_arr50)
  have hover : (Cond.arrayOver (.array .int)).before args s = true := hN.2.2
  have e54 : "[" ++ (FieldType.array .int).toString = "[[I" := by decide
  obtain ⟨vm₁, cA, comp, -, fA, fC, hO, -, X', step⟩ := Xs.multianewarray2F (ty := .int) hx hown (by rw [e54]; exact hts _ hl0) hover hw50 (g := F0 mi pc ls (.int k :: .int n :: st)) rfl (by rw [hb]; exact hd) rfl hn hk (by omega) (by show _ * 4 ≤ _; omega) (by omega) rfl rfl h1 h2
  have hc50 : comp = ca 50 := by
    have r2 : s.vm.findClass ("[" ++ FieldType.int.toString) = some (ca 50) := (hK.2 0 _ rfl).2
    exact Option.some.inj (fC.symm.trans r2)
  have hc54 : cA = ca 54 := by
    have r2 : s.vm.findClass ("[" ++ (FieldType.array .int).toString) = some (ca 54) := (hK.2 4 _ rfl).2
    exact Option.some.inj (fA.symm.trans r2)
  subst hc50 hc54
  generalize hNe : n.toNatClampNeg = N at *
  generalize hKe : k.toNatClampNeg = K at *
  generalize hF : Jvm.Free.Multi.fill (T.setVm vm₁) (ca 54) (ca 50) N K (defaultValue .int) N = F at X' step
  have hTh : (T.setVm vm₁).heap = H := hT
  obtain ⟨f1, f2, -, -⟩ := Jvm.Free.Multi.fill_facts (T.setVm vm₁) (ca 54) (ca 50) N K (defaultValue .int) N
  rw [hF, hTh] at f1 f2
  have hold : ∀ x : Nat, x < H.size → F.heap[x]? = H[x]? := fun x hx => by
    have := Jvm.Free.Multi.fill_old (T.setVm vm₁) (ca 54) (ca 50) N K (defaultValue .int) (a := x) (by rw [hTh]; exact hx) N
    rw [hF, hTh] at this
    exact this
  have hrow : ∀ i : Nat, i < N → F.heap[H.size + 1 + i]? = some (Jvm.Free.Multi.innerC (ca 50) K (defaultValue .int)) := fun i hi => by
    have := Jvm.Free.Multi.fill_inner (T.setVm vm₁) (ca 54) (ca 50) N K (defaultValue .int) N i hi
    rw [hF, hTh] at this
    exact this
  have hin0 : Jvm.Free.Multi.innerC (ca 50) K (defaultValue .int) = vp_cell (ca 50) (K, .inl (fun _ => 0)) := by
    rw [vp_cell_i]
    exact arrV_new _ _ _
  rw [mn_outer] at f2
  have hD2 := jm_D_iff.mp hD
  have hlt : ∀ a, a ∈ m.1 → a < H.size := fun a ha => by
    obtain ⟨k9, hk9⟩ := jm_w_get (FT := jm_FT) (ca := ca) ha
    exact (hP k9 _ hk9).lt
  have q0 : H.size ∉ m.1 := fun q => by have := hlt _ q; omega
  have r0 : ∀ i, i < N → H.size + 1 + i ∉ m.1 ∧ H.size + 1 + i ≠ H.size := fun i _ => ⟨fun q => by have := hlt _ q; omega, by omega⟩
  have hmem : ∀ a, a ∈ (List.range N).map (fun i => H.size + 1 + i) ↔ ∃ i, i < N ∧ a = H.size + 1 + i := fun a => by
    rw [List.mem_map]
    constructor
    · rintro ⟨i, hi, e⟩; exact ⟨i, List.mem_range.mp hi, e.symm⟩
    · rintro ⟨i, hi, e⟩; exact ⟨i, List.mem_range.mpr hi, e.symm⟩
  have kk := hs H.size (fun i => H.size + 1 + i) q0 r0 (fun i j _ _ e => by omega)
  have hPn : va_P D jm_cl (jm_w jm_FT ca (aNN m H.size (fun i => H.size + 1 + i) N K)) F.heap := by
    rw [jm_P_iff]
    intro a ha
    have ha : a ∈ m.1 ++ (H.size :: (List.range N).map (fun i => H.size + 1 + i)) := ha
    rcases List.mem_append.mp ha with ha | ha
    · have e1 : a ≠ H.size := fun q => q0 (q ▸ ha)
      have e2 : a ∉ (List.range N).map (fun i => H.size + 1 + i) := fun q => by
        obtain ⟨i, hi, e⟩ := (hmem a).mp q
        have := hlt a ha
        omega
      have e3 : jm_cell jm_FT ca (aNN m H.size (fun i => H.size + 1 + i) N K) a = jm_cell jm_FT ca m a := by
        unfold jm_cell jm_fs jm_con jm_val
        simp only [aNN, if_neg e1, if_neg e2, if_neg (show ¬ (a = H.size ∨ a ∈ (List.range N).map (fun i => H.size + 1 + i)) from fun q => q.elim e1 e2)]
      rw [e3]
      exact (jm_P_iff.mp hP a ha).kept (hold a (hlt a ha))
    · rcases List.mem_cons.mp ha with e | ha
      · subst e
        have e3 : jm_cell jm_FT ca (aNN m H.size (fun i => H.size + 1 + i) N K) H.size = .inl (ca 54, N, .inr (.inr (.inr (.inr (fun i => if i < N then some (H.size + 1 + i) else none))))) := by
          rw [jm_cell_a (k := 54) (by simp only [aNN, if_pos]) (by decide)]
          simp only [aNN, if_pos, jm_con]
          rfl
        rw [e3]
        show F.heap[H.size]? = some (vp_cell _ _)
        rw [vp_cell_q]
        exact f2
      · obtain ⟨i, hi, e⟩ := (hmem a).mp ha
        have e1 : a ≠ H.size := by omega
        have e3 : jm_cell jm_FT ca (aNN m H.size (fun i => H.size + 1 + i) N K) a = .inl (ca 50, K, .inl (fun _ => 0)) := by
          rw [jm_cell_a (k := 50) (by simp only [aNN, if_neg e1, if_pos ha]) (by decide)]
          simp only [aNN, if_neg e1, if_pos ha, jm_con, if_pos (show a = H.size ∨ a ∈ (List.range N).map (fun i => H.size + 1 + i) from Or.inr ha)]
          rfl
        rw [e3, e]
        show F.heap[H.size + 1 + i]? = some (vp_cell _ _)
        rw [hrow i hi, hin0]
  have hDn : va_D A (jm_w jm_FT ca (aNN m H.size (fun i => H.size + 1 + i) N K)) := by
    rw [jm_D_iff]
    refine ⟨?_, fun a ha => ?_⟩
    · show (m.1 ++ (H.size :: (List.range N).map (fun i => H.size + 1 + i))).Nodup
      rw [List.nodup_append]
      refine ⟨hD2.1, ?_, fun a ha b hb e => ?_⟩
      · rw [List.nodup_cons]
        refine ⟨fun q => ?_, ?_⟩
        · obtain ⟨i, hi, e⟩ := (hmem _).mp q
          omega
        · have : ∀ n, ((List.range n).map (fun i => H.size + 1 + i)).Nodup := by
            intro n
            induction n with
            | zero => exact List.nodup_nil
            | succ n ih =>
              rw [List.range_succ, List.map_append, List.nodup_append]
              refine ⟨ih, by simp, fun a ha b hb e => ?_⟩
              obtain ⟨i, hi, e1⟩ := List.mem_map.mp ha
              have := List.mem_range.mp hi
              simp at hb
              omega
          exact this N
      · subst e
        rcases List.mem_cons.mp hb with w | w
        · exact q0 (w ▸ ha)
        · obtain ⟨i, hi, e⟩ := (hmem _).mp w
          exact (r0 i hi).1 (e ▸ ha)
    · have ha : a ∈ m.1 ++ (H.size :: (List.range N).map (fun i => H.size + 1 + i)) := ha
      rcases List.mem_append.mp ha with ha | ha
      · exact hD2.2 a ha
      · rcases List.mem_cons.mp ha with e | ha
        · subst e; exact hA _ hS.1
        · obtain ⟨i, hi, e⟩ := (hmem a).mp ha
          exact hA _ (by have := hS.1; omega)
  have hSn : va_S A s.heap F.heap locs := ⟨by have := hS.1; omega, fun x h1 h2 => (hold x (Nat.lt_of_lt_of_le h1 hS.1)).trans (hS.2.1 x h1 h2), hS.2.2⟩
  obtain ⟨t2, a1, b1⟩ := kk F.heap locs ls hPn hDn hSn hl F rfl X'
  refine ⟨t2, step t2 ?_, b1⟩
  rw [hT]
  exact a1
end JS3
