/-! The law's own method cell: a contract that knows the script. -/
theorem jm_w_mem {FT : Nat → List FieldType} {ca : Nat → ClassId} {m : jm_M} {k a : Nat} {e : va_E} (h : (jm_w FT ca m)[k]? = some (a, e)) : a ∈ m.1 := by
  have h1 := List.mem_of_getElem? h
  obtain ⟨z, hz, he⟩ := List.mem_map.mp h1
  have : z = a := congrArg Prod.fst he
  rw [← this]; exact hz
/-- the memory, and the script beside it -/
abbrev lw_BX (D : va_G) (ca : Nat → ClassId) (m : jm_M) (sz : Nat) (S : Nat × Nat × (Nat → Int32)) (U : State) : Prop := jm_B D ca m sz U ∧ va_X S.1 S.2.1 S.2.2 U U.heap ∧ S.1 < U.heap.size ∧ S.1 ∉ m.1
theorem jm_C_ofS {l : Launch} {D : va_G} {ca : Nat → ClassId} {k : Nat} {cd : List jm_e} {args : List Value} {m : jm_M} {a b : Nat} {Q : Option Value → jm_M → Prop} {S : Nat × Nat × (Nat → Int32)} (hk : k < jm_mtL.length) (hok : cd.all (jm_okE (jm_mt k).1.cls (jm_mt k).2.1 (jm_mt k).2.2.1 (jm_mt k).2.2.2.2.1 (jm_mt k).2.2.2.2.2 true false (jm_mt k).2.2.2.1) = true) (hlen : (lg_sl args).length ≤ (jm_mt k).2.2.1)
    (hV : ∀ X : jm_K, (∀ pc lv st m nc ns e, jm_at cd pc = some e → jm_step jm_ft jm_sz (a, b) (jm_C l D ca) (jm_rt (jm_mt k).2.2.2.1 a b Q) S e lv st m nc ns X → X pc lv st m nc ns) ∧ (∀ pc lv st m nc ns ks, X pc (jm_sel lv ks) st m nc ns → X pc lv st m nc ns) → X 0 (lv_args 0 args) [] m 0 0) : ∀ sz : Nat, Met l (jm_mt k).1 (jm_ws (jm_mt k)) (jm_rm (jm_mt k) a b) (va_Pc args (lw_BX D ca m sz S)) (jm_Qc D ca m sz Q) a b (va_A (jm_w jm_FT ca m) sz) := by
  obtain ⟨f1, f2, f3, f4, f5, f6⟩ := jm_mf_all k hk
  intro sz
  refine Met.ofW (cc := (jm_mt k).2.1) (maxL := (jm_mt k).2.2.1) (ret := (jm_mt k).2.2.2.1) f3 rfl ?_
  intro p e s mi args0 below meth c s₁ B hml hv
  obtain ⟨rfl, ⟨hsz, hP, hK, hN, hD0⟩, hX0, hX1, hX2⟩ := hv
  have hx := B.exec
  have hb := B.bytes
  have hr := B.returns
  have hts : ∀ w ∈ jm_Tb, w.before args.toArray s = true := fun w hw => atoms_spec (ws := jm_ws (jm_mt k)) B.pre w (List.mem_cons_of_mem _ hw)
  have hown : s.vm.findClass (jm_mt k).1.cls = some mi.cls := findClass_of_methodNamed B.named
  have hlocks := B.notSynchronized
  have hnm : meth.name = (jm_mt k).1.name := (name_of_methodNamed B.named B.method).1
  subst hsz
  have hD := hD0.self (sz := s.heap.size)
  have hA : ∀ q : Nat, s.heap.size ≤ q → va_A (jm_w jm_FT ca m) s.heap.size q := fun q h => Or.inr h
  have hS : va_S (va_A (jm_w jm_FT ca m) s.heap.size) s.heap s.heap [] := va_S.rf
  have hnA : ¬ va_A (jm_w jm_FT ca m) s.heap.size S.1 := fun w => by
    rcases w with ⟨z, e, w⟩ | w
    · exact hX2 (jm_w_mem w)
    · omega
  have hl := lv_entry args (n := (jm_mt k).2.2.1) hlen
  rw [lg_entry_eq]
  generalize (lg_sl args ++ List.replicate ((jm_mt k).2.2.1 - (lg_sl args).length) Slot.unset).toArray = ls at hl ⊢
  have hH : jm_H p (jm_rm (jm_mt k) a b) s mi args.toArray meth c (jm_mt k).1.cls (jm_mt k).2.1 (jm_mt k).2.2.1 (jm_mt k).2.2.2.2.1 (jm_mt k).2.2.2.2.2 true false D ca (va_A (jm_w jm_FT ca m) s.heap.size) S :=
    ⟨hx, hb, hml, hown, hts, hN, hK, hA, Nat.le_refl _, Nat.le_refl _, fun h => by (cases h), fun _ => ⟨hX0, hX1, hnA⟩⟩
  refine hV (jm_W p l e (jm_rm (jm_mt k) a b) s mi args.toArray below meth c (MQ below (jm_Qc D ca m s.heap.size Q) args.toArray s a b (va_A (jm_w jm_FT ca m) s.heap.size)) (jm_mt k).2.2.1 D ca (va_A (jm_w jm_FT ca m) s.heap.size)) ⟨?_, fun pc lv st m nc ns ks h H locs ls hP hD hS hl => h H locs ls hP hD hS (jm_sel_has hl ks)⟩ s.heap [] ls hP hD hS hl
  intro pc lv st m1 nc ns en he hs
  obtain ⟨h1, h2⟩ := jm_at_mem he
  have hok1 := List.all_eq_true.mp hok en h1
  rw [← h2]
  refine jm_sound hH ?_ ?_ ?_ ?_ hok1 hs
  · intro pc lv m2 nc ns x hd hret hq H locs ls hP hD hS hl
    obtain ⟨q1, q2, q3, q4⟩ := hq
    refine W.widen q1 q2 ?_
    rcases hret with hret | hret
    · exact W.iret hx hb (by rw [hr]; exact hret) (fun t ht hW => ⟨⟨some (.int x), m2, rfl, q4, by rw [ht]; exact hP, hD⟩, hS.F ht⟩) hS.2.2 hd
    · rw [hret] at q3
      exact W.zret (ty := .boolean) hx hb (by rw [hr]; exact hret) (by rcases q3 with rfl | rfl <;> rfl) (fun t ht hW => ⟨⟨some (.int x), m2, rfl, q4, by rw [ht]; exact hP, hD⟩, hS.F ht⟩) hS.2.2 hd
  · intro pc lv m2 nc ns x hd hret hq H locs ls hP hD hS hl
    obtain ⟨q1, q2, q3, q4⟩ := hq
    refine W.widen q1 q2 ?_
    exact W.lret hx hb (by rw [hr]; exact hret) (fun t ht hW => ⟨⟨some (.long x), m2, rfl, q4, by rw [ht]; exact hP, hD⟩, hS.F ht⟩) hS.2.2 hd
  · intro pc lv m2 nc ns x hd hret hq H locs ls hP hD hS hl
    obtain ⟨q1, q2, q3, q4⟩ := hq
    refine W.widen q1 q2 ?_
    rcases hret with ⟨z, hret⟩ | ⟨z, hret⟩
    · exact W.aret (rt := .object z) hx hb (by rw [hr]; exact hret) (Or.inl ⟨z, rfl⟩) (Or.inr ⟨x, rfl⟩) (fun t ht hW => ⟨⟨some (.ref x), m2, rfl, q4, by rw [ht]; exact hP, hD⟩, hS.F ht⟩) hS.2.2 hd
    · exact W.aret (rt := .array z) hx hb (by rw [hr]; exact hret) (Or.inr ⟨z, rfl⟩) (Or.inr ⟨x, rfl⟩) (fun t ht hW => ⟨⟨some (.ref x), m2, rfl, q4, by rw [ht]; exact hP, hD⟩, hS.F ht⟩) hS.2.2 hd
  · intro pc lv m2 nc ns hd hret hq H locs ls hP hD hS hl
    obtain ⟨q1, q2, q3, q4⟩ := hq
    refine W.widen q1 q2 ?_
    exact W.vret hx hb (by rw [hr]; exact hret) (fun t ht hW => ⟨⟨none, m2, rfl, q4, by rw [ht]; exact hP, hD⟩, hS.F ht⟩) hS.2.2 hd
theorem lw_blind {D : va_G} {ca : Nat → ClassId} {m : jm_M} {sz : Nat} {S : Nat × Nat × (Nat → Int32)} {av : List Value} : FrameBlind (va_Pc av (lw_BX D ca m sz S)) := fun a U g mk q => by
  obtain ⟨q0, ⟨q1, qP, qK, qN, qD⟩, x0, x1, x2⟩ := q
  exact ⟨q0, ⟨q1, qP, va_K.moved (u := U) (U := U.calling g mk a) (Vm.Alike.refl U.vm) qK, jm_N_same (u := U) (U := U.calling g mk a) rfl qN, qD⟩, va_X.moved (u := U) (U := U.calling g mk a) (Vm.Alike.refl U.vm) x0, x1, x2⟩
/-- what cell answers for place 0 -/
abbrev lw_k0 (L : Nat) (xs : Nat → Int32) : Int32 := if 0 < L then xs 0 else 0
theorem c_Lw_cell {l : Launch} {D : va_G} {ca : Nat → ClassId} {m : jm_M} {b L : Nat} {xs : Nat → Int32} (hL : L ≤ 4097) : ∀ sz : Nat, Met l (jm_mt n_Lw_cell).1 (jm_ws (jm_mt n_Lw_cell)) (jm_rm (jm_mt n_Lw_cell) 0 0) (va_Pc [.ref b, .int 0] (lw_BX D ca m sz (b, L, xs))) (jm_Qc D ca m sz (fun v m' => v = some (.int (lw_k0 L xs)) ∧ m' = m)) 0 0 (va_A (jm_w jm_FT ca m) sz) := by
  refine jm_C_ofS (cd := cd_Lw_cell) (by decide +kernel) ok_Lw_cell (Nat.le_of_ble_eq_true rfl) ?_
  intro X hX
  refine jm_run hX [] 20 ?_
  refine And.intro rfl (And.intro (fun g => ?_) (fun g => ?_))
  · have g : nI L ≤ nI 0 := g
    rw [iNle (by decide), nI_toInt (by omega)] at g
    exact ⟨Nat.le_refl _, Nat.le_refl _, trivial, by unfold lw_k0; rw [if_neg (by omega)], rfl⟩
  · have g : ¬ nI L ≤ nI 0 := g
    rw [iNle (by decide), nI_toInt (by omega)] at g
    refine And.intro rfl (And.intro (vin_of (n := 0) rfl (by show 0 < L; omega) (by show L < 2 ^ 31; omega)) ?_)
    exact ⟨Nat.le_refl _, Nat.le_refl _, trivial, by unfold lw_k0; rw [if_pos (by omega)]; rfl, rfl⟩
section JX
variable {p : Program} {l : Launch} {en : Env} {R : Room} {s : State} {mi : MethodId} {args : Array Value} {below : List Frame} {meth : Method} {c : Code} {Qw : State → Prop} {own : String} {cc : ByteArray} {nL fr lo : Nat} {ini : Bool} {D : va_G} {ca : Nat → ClassId} {A : Nat → Prop} {S : Nat × Nat × (Nat → Int32)}
theorem lw_pre {H : Heap} {locs : List Loc} {m : jm_M} {av : List Value} (hK : va_K D jm_cl (jm_tys ca) s) (hN : jm_N s) (hP : va_P D jm_cl (jm_w jm_FT ca m) H) (hD : va_D A (jm_w jm_FT ca m)) (hS : va_S A s.heap H locs) (hl : va_X S.1 S.2.1 S.2.2 s s.heap ∧ S.1 < s.heap.size ∧ ¬ A S.1) : ∀ U : State, U.heap = H → s.WarmedH U.vm → va_Pc av (lw_BX D ca m H.size S) av.toArray U := fun U hU hW => by
  obtain ⟨l1, l2, l3⟩ := hl
  have h1 := jm_pre (av := av) hK hN hP hD U hU hW
  refine ⟨h1.1, h1.2, ?_, ?_, fun w => ?_⟩
  · rw [hU]
    exact va_X.moved hW.alike (l1.kept (hS.2.1 _ l2 l3))
  · rw [hU]; exact Nat.lt_of_lt_of_le l2 hS.1
  · obtain ⟨k, hk⟩ := jm_w_get (FT := jm_FT) (ca := ca) w
    exact l3 (hD.2 k _ hk)
theorem jm_scallX (h : jm_H p R s mi args meth c own cc nL fr lo true ini D ca A S) {pc i k : Nat} {As rest : List Value} {lv : jm_LV} {m : jm_M} {nc ns a b : Nat} {Q : Option Value → jm_M → Prop} (hk : k < jm_mtL.length) (h1 : (jm_mt k).2.2.2.2.1 + 1 ≤ fr) (h2 : 8 + ((jm_mt k).2.2.1 + 11) + (jm_mt k).2.2.2.2.2 ≤ lo) (hlk : Cond.methodLink own i (jm_mt k).1 ∈ jm_Tb) (hst : (jm_st k).1 = true) (hn : (parseMethodDescriptor (jm_mt k).1.desc).map (fun d => d.parameters.length) = some As.length) (hd : decode cc pc = .ok (.invokestatic i, 3))
    (hW : (rest.map fun v => v.category).sum ≤ 8) (ha : nc + a ≤ R.cells) (hb2 : ns + b ≤ R.slots) (hC : ∀ sz : Nat, Met l (jm_mt k).1 (jm_ws (jm_mt k)) (jm_rm (jm_mt k) a b) (va_Pc As (lw_BX D ca m sz S)) (jm_Qc D ca m sz Q) a b (va_A (jm_w jm_FT ca m) sz))
    (kk : ∀ v m', Q v m' → jm_W p l en R s mi args below meth c Qw nL D ca A (pc + 3) lv (v.toList ++ rest) m' (nc + a) (ns + b)) : jm_W p l en R s mi args below meth c Qw nL D ca A pc lv (As.reverse ++ rest) m nc ns := by
  obtain ⟨hx, hb, hml, hown, hts, hN, hK, hA, hfr, hlo, hin, hlaw⟩ := h
  have hf := jm_mf_all k hk
  obtain ⟨f1, f2, f3, f4, f5, f6⟩ := hf
  have g1 := f5 hst
  intro H locs ls hP hD hS hl
  have hR : (jm_rm (jm_mt k) a b).frames + 1 ≤ R.frames ∧ 8 + ((jm_mt k).2.2.1 + 11) + (jm_rm (jm_mt k) a b).locals ≤ R.locals := ⟨Nat.le_trans h1 hfr, Nat.le_trans h2 hlo⟩
  have cw : CallB R s args own i (jm_mt k).1 (jm_mt k).2.1 (jm_mt k).2.2.1 (jm_mt k).2.2.2.1 (jm_ws (jm_mt k)) (jm_rm (jm_mt k) a b) a b As.length := callB_of As.length hts (jm_gd ⟨f1, f2, f3, f4, f5, f6⟩) rfl rfl rfl (hts _ f4) (hts _ hlk) ⟨f2.1, f2.2, hn⟩ hR
  exact jm_back hA hD hS hl (va_runS (As := As) (rest := rest) ⟨hx, hb, hml, hown, hts⟩ (hC H.size) ⟨cw, hts _ g1⟩ ⟨lw_blind, lw_pre hK hN hP hD hS (hlaw rfl)⟩ rfl rfl hl.1 rfl (lv_room hW) hd ⟨ha, hb2⟩) kk
end JX
