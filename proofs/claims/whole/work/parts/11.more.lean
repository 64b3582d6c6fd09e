section JMO
variable {p : Program} {l : Launch} {en : Env} {R : Room} {s : State} {mi : MethodId} {args : Array Value} {below : List Frame} {meth : Method} {c : Code} {Qw : State → Prop} {own : String} {cc : ByteArray} {nL fr lo : Nat} {law ini : Bool} {ret : Option FieldType} {D : va_G} {ca : Nat → ClassId} {A : Nat → Prop} {S : Nat × Nat × (Nat → Int32)} {Rt : jm_Rt}
theorem jm_iinc {H : Heap} {locs : List Loc} {cells slots pc i : Nat} {ls : Array Slot} {rest : List Value} {n : Int} {x v : Int32} {lv : jm_LV} (hexec : p.tables.exec = Jvm.exec) (hb : c.code = cc) (hdg : decode cc pc = .ok (.iinc i n, 3)) (h : lv_has ls nL lv) (hg : ls[i]? = some (.val (.int x))) (hv : x + Int32.ofInt n = v) (hn : i < nL)
    (kk : ∀ ls' : Array Slot, lv_has ls' nL (jm_put1 lv i (.int v)) → W p l en R s mi args below meth c H locs cells slots Qw (F0 mi (pc + 3) ls' rest)) : W p l en R s mi args below meth c H locs cells slots Qw (F0 mi pc ls rest) := by
  have h2 : lv_has ls nL ((i, .int x) :: lv) := ⟨h.1, h.2.1, fun q hq => by
    rcases List.mem_cons.mp hq with e | hq
    · rw [e]; exact hg
    · exact h.2.2 q hq⟩
  refine lv_iinc (k := 0) hexec hb hdg h2 rfl hv hn rfl (fun ls' hl' => kk ls' ⟨hl'.1, hl'.2.1, fun q hq => hl'.2.2 q ?_⟩)
  rcases List.mem_cons.mp hq with e | hq
  · rw [e]; exact List.mem_cons_self
  · refine List.mem_cons_of_mem _ (List.mem_filter.mpr ?_)
    have := List.mem_filter.mp hq
    exact ⟨List.mem_cons_of_mem _ this.1, this.2⟩
theorem jm_scopy (h : jm_H p R s mi args meth c own cc nL fr lo law ini D ca A S) {pc i : Nat} {r : List Value} {lv : jm_LV} {m : jm_M} {nc ns a a0 : Nat} {n dp sp : Int32} (hlk : Cond.methodLink own i arraycopyName ∈ jm_Tb) (hf1 : 1 ≤ fr) (hf2 : 38 ≤ lo) (hd : decode cc pc = .ok (.invokestatic i, 3)) (o0 : jm_ok m a0 50) (o1 : jm_ok m a 50) (h1 : ¬ sp < 0) (h2 : ¬ dp < 0) (h3 : ¬ n < 0) (h4 : sp.toNatClampNeg + n.toNatClampNeg ≤ (m.2.1 a0).2) (h5 : dp.toNatClampNeg + n.toNatClampNeg ≤ (m.2.1 a).2) (hW : (r.map fun v => v.category).sum ≤ 8)
    (hs : jm_W p l en R s mi args below meth c Qw nL D ca A (pc + 3) lv r (uA m a (va_cpy (m.2.2.1 a0) (m.2.2.1 a) sp.toNatClampNeg dp.toNatClampNeg n.toNatClampNeg)) nc ns) : jm_W p l en R s mi args below meth c Qw nL D ca A pc lv (.int n :: .int dp :: .ref a :: .int sp :: .ref a0 :: r) m nc ns := by
  obtain ⟨hx, hb, hml, hown, hts, hN, hK, hA, hfr, hlo, hin, hlaw⟩ := h
  intro H locs ls hP hD hS hl
  obtain ⟨q0, hq0⟩ := jm_w_get (FT := jm_FT) (ca := ca) o0.1
  obtain ⟨q1, hq1⟩ := jm_w_get (FT := jm_FT) (ca := ca) o1.1
  have hset := jm_wset (m' := uA m a (va_cpy (m.2.2.1 a0) (m.2.2.1 a) sp.toNatClampNeg dp.toNatClampNeg n.toNatClampNeg)) hD o1 (by decide) hq1 rfl rfl (fun b hb => jm_cell_uA hb) rfl rfl
  rw [jm_cell_a o0.2 (by decide)] at hq0
  rw [jm_cell_a o1.2 (by decide)] at hq1
  have hw := jm_ac1
  refine va_copyi hx hb (by rw [hml]; exact hl.1.symm) hown (hts _ hlk) (hts _ (jm_wd_in hw.2.1)) (hts _ (jm_wd_in hw.1)) (hts _ (jm_wd_in hw.2.2)) hK hP hD hS q0 q1 0 0 hq0 hq1 rfl rfl rfl h1 h2 h3 h4 h5 (fun _ _ => rfl) (Nat.le_trans hf1 hfr) (by
    have e : nativeFrameWords "java/lang/System" "arraycopy" 5 = 7 := by decide +kernel
    rw [e]; omega) hd (fun H1 locs1 hP1 hD1 hS1 => ?_)
  have e2 : jm_con 50 (uA m a (va_cpy (m.2.2.1 a0) (m.2.2.1 a) sp.toNatClampNeg dp.toNatClampNeg n.toNatClampNeg)) a = .inl (va_cpy (m.2.2.1 a0) (m.2.2.1 a) sp.toNatClampNeg dp.toNatClampNeg n.toNatClampNeg) := by
    unfold jm_con
    simp [uA, va_up_self]
  rw [e2] at hset
  rw [hset] at hP1 hD1
  exact hs H1 locs1 ls hP1 hD1 hS1 hl
end JMO
