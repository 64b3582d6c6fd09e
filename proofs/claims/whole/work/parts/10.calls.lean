/-! Calls: a contract at a call, of an object's method, a constructor, a static method; plain or of a nest mate. -/
theorem jm_N_moved {u U : State} (hW : u.WarmedH U.vm) (h : jm_N u) : jm_N U := by
  refine ⟨fun w hw => ?_, h.2.1.moved hW.alike, h.2.2.moved hW.alike⟩
  have h1 := h.1 w hw
  have h2 := (List.mem_filter.mp hw).2
  cases w with
  | methodLinkNest a i x hst => exact va_Nw.warmM hW h1
  | _ => simp [jm_isN] at h2
theorem jm_N_same {u U : State} (hv : u.vm = U.vm) (h : jm_N u) : jm_N U := by
  refine ⟨fun w hw => ?_, h.2.1.moved (by rw [hv]; exact Vm.Alike.refl _), h.2.2.moved (by rw [hv]; exact Vm.Alike.refl _)⟩
  have h1 := h.1 w hw
  have h2 := (List.mem_filter.mp hw).2
  cases w with
  | methodLinkNest a i x hst => exact va_Nw.same rfl hv h1
  | _ => simp [jm_isN] at h2
theorem jm_blind {D : va_G} {ca : Nat → ClassId} {m : jm_M} {sz : Nat} {av : List Value} : FrameBlind (va_Pc av (jm_B D ca m sz)) := fun a U g mk q => by
  obtain ⟨q0, q1, qP, qK, qN, qD⟩ := q
  exact ⟨q0, q1, qP, va_K.moved (u := U) (U := U.calling g mk a) (Vm.Alike.refl U.vm) qK, jm_N_same (u := U) (U := U.calling g mk a) rfl qN, qD⟩
section JC
variable {p : Program} {l : Launch} {en : Env} {R : Room} {s : State} {mi : MethodId} {args : Array Value} {below : List Frame} {meth : Method} {c : Code} {Qw : State → Prop} {own : String} {cc : ByteArray} {nL fr lo : Nat} {law ini : Bool} {ret : Option FieldType} {D : va_G} {ca : Nat → ClassId} {A : Nat → Prop} {S : Nat × Nat × (Nat → Int32)} {Rt : jm_Rt}
theorem jm_back {H : Heap} {locs : List Loc} {ls : Array Slot} {pc nc ns a b : Nat} {st0 rest : List Value} {lv : jm_LV} {m : jm_M} {Q : Option Value → jm_M → Prop} {xx : Array Value} (hA : ∀ q, s.heap.size ≤ q → A q) (hD : va_D A (jm_w jm_FT ca m)) (hS : va_S A s.heap H locs) (hl : lv_has ls nL lv)
    (hr : va_Run p l en R s mi args below meth c H locs nc ns a b (F0 mi pc ls st0) rest (jm_Qc D ca m H.size Q xx) (va_A (jm_w jm_FT ca m) H.size))
    (kk : ∀ v m', Q v m' → jm_W p l en R s mi args below meth c Qw nL D ca A (pc + 3) lv (v.toList ++ rest) m' (nc + a) (ns + b)) : W p l en R s mi args below meth c H locs nc ns Qw (F0 mi pc ls st0) := by
  intro T hT X
  obtain ⟨v, st₀, t, T', L, h0, X', hL, e1, e2, ⟨⟨v', m', hv, hq, hP', hD'⟩, hz, hk⟩, st⟩ := hr T hT X
  cases hv
  rw [h0] at hz hk
  have hAA : ∀ q, va_A (jm_w jm_FT ca m) H.size q → A q := fun q hq => by
    rcases hq with ⟨k, e, hk⟩ | hq
    · exact hD.2 k _ hk
    · exact hA q (Nat.le_trans hS.1 hq)
  have hD2 : va_D A (jm_w jm_FT ca m') := hD'.weaken (fun k q _ h => hAA _ h)
  have hS2 : va_S A s.heap T'.heap (locs ++ L) := by
    refine ⟨Nat.le_trans hS.1 (by rw [e1]; exact hz), fun q h1 h2 => ?_, fun q hq => ?_⟩
    · rw [e1, hk q (Nat.lt_of_lt_of_le h1 hS.1) (fun z => h2 (hAA q z))]
      exact hS.2.1 q h1 h2
    · rcases List.mem_append.mp hq with h | h
      · exact hS.2.2 q h
      · exact hAA _ (hL q h)
  obtain ⟨t2, a1, b1⟩ := kk v m' hq T'.heap (locs ++ L) ls (by rw [e1]; exact hP') hD2 hS2 hl T' rfl X'
  exact ⟨t2, st t2 a1, b1⟩
theorem jm_pre {H : Heap} {m : jm_M} {av : List Value} (hK : va_K D jm_cl (jm_tys ca) s) (hN : jm_N s) (hP : va_P D jm_cl (jm_w jm_FT ca m) H) (hD : va_D A (jm_w jm_FT ca m)) : ∀ U : State, U.heap = H → s.WarmedH U.vm → va_Pc av (jm_B D ca m H.size) av.toArray U := fun U hU hW =>
  ⟨rfl, by rw [hU], by rw [hU]; exact hP, va_K.moved hW.alike hK, jm_N_moved hW hN, hD.weaken (fun _ _ _ _ => trivial)⟩
theorem jm_gd {k : Nat} (hf : jm_mf k) : GoodIn jm_Tb (jm_ws (jm_mt k)) := fun w hw => by
  rcases List.mem_cons.mp hw with e | h
  · subst e; exact jm_good _ hf.1
  · exact jm_good _ h
/-- the link of a call, plain or of a nest mate -/
def jm_lk (own : String) (i : Nat) (y : MethodName) : Prop := Cond.methodLink own i y ∈ jm_Tb ∨ Cond.methodLinkNest own i y "ShareSolve" ∈ jm_nest
theorem jm_scallV (h : jm_H p R s mi args meth c own cc nL fr lo law ini D ca A S) {pc i k o q : Nat} {As rest : List Value} {lv : jm_LV} {m : jm_M} {nc ns a b : Nat} {Q : Option Value → jm_M → Prop} (hk : k < jm_mtL.length) (h1 : (jm_mt k).2.2.2.2.1 + 1 ≤ fr) (h2 : 8 + ((jm_mt k).2.2.1 + 11) + (jm_mt k).2.2.2.2.2 ≤ lo) (hlk : jm_lk own i (jm_mt k).1) (hst : (jm_st k).1 = false) (hnn : (jm_mt k).1.name ≠ "<init>") (hcl : (jm_cl[q]?).map (fun z => z.1) = some (jm_mt k).1.cls) (hn : (parseMethodDescriptor (jm_mt k).1.desc).map (fun d => d.parameters.length) = some As.length) (hd : decode cc pc = .ok (.invokevirtual i, 3))
    (ho : jm_ok m o q) (hW : (rest.map fun v => v.category).sum ≤ 8) (ha : nc + a ≤ R.cells) (hb2 : ns + b ≤ R.slots) (hC : jm_C l D ca k (.ref o :: As) m a b Q)
    (kk : ∀ v m', Q v m' → jm_W p l en R s mi args below meth c Qw nL D ca A (pc + 3) lv (v.toList ++ rest) m' (nc + a) (ns + b)) : jm_W p l en R s mi args below meth c Qw nL D ca A pc lv (As.reverse ++ .ref o :: rest) m nc ns := by
  obtain ⟨hx, hb, hml, hown, hts, hN, hK, hA, hfr, hlo, hin, hlaw⟩ := h
  have hf := jm_mf_all k hk
  obtain ⟨f1, f2, f3, f4, f5, f6⟩ := hf
  obtain ⟨g1, g2⟩ := f6 hst
  have g2 := g2.resolve_left hnn
  intro H locs ls hP hD hS hl
  obtain ⟨q0, hq⟩ := jm_w_get (FT := jm_FT) (ca := ca) ho.1
  cases hz : jm_cl[q]? with
  | none => rw [hz] at hcl; cases hcl
  | some z =>
    rw [hz] at hcl
    have hcl : z.1 = (jm_mt k).1.cls := Option.some.inj hcl
    rw [jm_cell_o ho.2 (jm_i50 hz)] at hq
    have hrecv := va_recv (q0 := q0) hK hP hz hq
    rw [hcl] at hrecv
    have hR : (jm_rm (jm_mt k) a b).frames + 1 ≤ R.frames ∧ 8 + ((jm_mt k).2.2.1 + 11) + (jm_rm (jm_mt k) a b).locals ≤ R.locals := ⟨Nat.le_trans h1 hfr, Nat.le_trans h2 hlo⟩
    rcases hlk with hlk | hlk
    · have cw : CallW R s args own (jm_mt k).1.cls i (jm_mt k).1 (jm_mt k).2.1 (jm_mt k).2.2.1 (jm_mt k).2.2.2.1 (jm_ws (jm_mt k)) (jm_rm (jm_mt k) a b) a b As.length := ⟨callB_of As.length hts (jm_gd ⟨f1, f2, f3, f4, f5, f6⟩) rfl rfl rfl (hts _ f4) (hts _ hlk) ⟨f2.1, f2.2, hn⟩ hR, hts _ g1, hts _ g2⟩
      exact jm_back hA hD hS hl (va_runV (As := As) (rest := rest) ⟨hx, hb, hml, hown, hts⟩ (hC H.size) cw ⟨jm_blind, hrecv, jm_pre hK hN hP hD⟩ rfl rfl hl.1 rfl (lv_room hW) hd ⟨ha, hb2⟩) kk
    · have cw := va_cnB (rm := jm_rm (jm_mt k) a b) As.length hts (jm_gd ⟨f1, f2, f3, f4, f5, f6⟩) rfl rfl rfl (hN.1 _ hlk) (hts _ f4) ⟨f2.1, f2.2, hn⟩ hR
      exact jm_back hA hD hS hl (va_runVN (As := As) (rest := rest) ⟨hx, hb, hml, hown, hts⟩ (hC H.size) ⟨cw, hts _ g1, hts _ g2⟩ ⟨jm_blind, hrecv, jm_pre hK hN hP hD⟩ rfl rfl hl.1 rfl (lv_room hW) hd ⟨ha, hb2⟩) kk
theorem jm_scallI (h : jm_H p R s mi args meth c own cc nL fr lo law ini D ca A S) {pc i k o : Nat} {As rest : List Value} {lv : jm_LV} {m : jm_M} {nc ns a b : Nat} {Q : Option Value → jm_M → Prop} (hk : k < jm_mtL.length) (h1 : (jm_mt k).2.2.2.2.1 + 1 ≤ fr) (h2 : 8 + ((jm_mt k).2.2.1 + 11) + (jm_mt k).2.2.2.2.2 ≤ lo) (hlk : jm_lk own i (jm_mt k).1) (hst : (jm_st k).1 = false) (hnn : (jm_mt k).1.name = "<init>") (hret : (jm_mt k).2.2.2.1 = none) (hn : (parseMethodDescriptor (jm_mt k).1.desc).map (fun d => d.parameters.length) = some As.length) (hd : decode cc pc = .ok (.invokespecial i, 3))
    (hW : (rest.map fun v => v.category).sum ≤ 8) (ha : nc + a ≤ R.cells) (hb2 : ns + b ≤ R.slots) (hC : jm_C l D ca k (.ref o :: As) m a b Q)
    (kk : ∀ v m', Q v m' → jm_W p l en R s mi args below meth c Qw nL D ca A (pc + 3) lv (v.toList ++ rest) m' (nc + a) (ns + b)) : jm_W p l en R s mi args below meth c Qw nL D ca A pc lv (As.reverse ++ .ref o :: rest) m nc ns := by
  obtain ⟨hx, hb, hml, hown, hts, hN, hK, hA, hfr, hlo, hin, hlaw⟩ := h
  have hf := jm_mf_all k hk
  obtain ⟨f1, f2, f3, f4, f5, f6⟩ := hf
  obtain ⟨g1, g2⟩ := f6 hst
  intro H locs ls hP hD hS hl
  have hR : (jm_rm (jm_mt k) a b).frames + 1 ≤ R.frames ∧ 8 + ((jm_mt k).2.2.1 + 11) + (jm_rm (jm_mt k) a b).locals ≤ R.locals := ⟨Nat.le_trans h1 hfr, Nat.le_trans h2 hlo⟩
  have hws : jm_ws (jm_mt k) = Cond.code (jm_mt k).1 (jm_mt k).2.1 (jm_mt k).2.2.1 none :: jm_Tb := by unfold jm_ws; rw [hret]
  rcases hlk with hlk | hlk
  · have cw := cwI (rm := jm_rm (jm_mt k) a b) As.length hts (jm_gd ⟨f1, f2, f3, f4, f5, f6⟩) hws rfl rfl (hts _ f4) (hts _ hlk) (hts _ g1) hnn ⟨f2.1, f2.2, hn⟩ hR
    exact jm_back hA hD hS hl (va_runI (As := As) (rest := rest) ⟨hx, hb, hml, hown, hts⟩ (hC H.size) cw ⟨jm_blind, jm_pre hK hN hP hD⟩ rfl rfl hl.1 rfl (lv_room hW) hd ⟨ha, hb2⟩) kk
  · have cw := va_cnB (rm := jm_rm (jm_mt k) a b) As.length hts (jm_gd ⟨f1, f2, f3, f4, f5, f6⟩) hws rfl rfl (hN.1 _ hlk) (hts _ f4) ⟨f2.1, f2.2, hn⟩ hR
    exact jm_back hA hD hS hl (va_runIN (As := As) (rest := rest) ⟨hx, hb, hml, hown, hts⟩ (hC H.size) ⟨cw, hnn, hts _ g1⟩ ⟨jm_blind, jm_pre hK hN hP hD⟩ rfl rfl hl.1 rfl (lv_room hW) hd ⟨ha, hb2⟩) kk
theorem jm_scallS (h : jm_H p R s mi args meth c own cc nL fr lo law ini D ca A S) {pc i k : Nat} {As rest : List Value} {lv : jm_LV} {m : jm_M} {nc ns a b : Nat} {Q : Option Value → jm_M → Prop} (hk : k < jm_mtL.length) (h1 : (jm_mt k).2.2.2.2.1 + 1 ≤ fr) (h2 : 8 + ((jm_mt k).2.2.1 + 11) + (jm_mt k).2.2.2.2.2 ≤ lo) (hlk : jm_lk own i (jm_mt k).1) (hst : (jm_st k).1 = true) (hn : (parseMethodDescriptor (jm_mt k).1.desc).map (fun d => d.parameters.length) = some As.length) (hd : decode cc pc = .ok (.invokestatic i, 3))
    (hW : (rest.map fun v => v.category).sum ≤ 8) (ha : nc + a ≤ R.cells) (hb2 : ns + b ≤ R.slots) (hC : jm_C l D ca k As m a b Q)
    (kk : ∀ v m', Q v m' → jm_W p l en R s mi args below meth c Qw nL D ca A (pc + 3) lv (v.toList ++ rest) m' (nc + a) (ns + b)) : jm_W p l en R s mi args below meth c Qw nL D ca A pc lv (As.reverse ++ rest) m nc ns := by
  obtain ⟨hx, hb, hml, hown, hts, hN, hK, hA, hfr, hlo, hin, hlaw⟩ := h
  have hf := jm_mf_all k hk
  obtain ⟨f1, f2, f3, f4, f5, f6⟩ := hf
  have g1 := f5 hst
  intro H locs ls hP hD hS hl
  have hR : (jm_rm (jm_mt k) a b).frames + 1 ≤ R.frames ∧ 8 + ((jm_mt k).2.2.1 + 11) + (jm_rm (jm_mt k) a b).locals ≤ R.locals := ⟨Nat.le_trans h1 hfr, Nat.le_trans h2 hlo⟩
  rcases hlk with hlk | hlk
  · have cw : CallB R s args own i (jm_mt k).1 (jm_mt k).2.1 (jm_mt k).2.2.1 (jm_mt k).2.2.2.1 (jm_ws (jm_mt k)) (jm_rm (jm_mt k) a b) a b As.length := callB_of As.length hts (jm_gd ⟨f1, f2, f3, f4, f5, f6⟩) rfl rfl rfl (hts _ f4) (hts _ hlk) ⟨f2.1, f2.2, hn⟩ hR
    exact jm_back hA hD hS hl (va_runS (As := As) (rest := rest) ⟨hx, hb, hml, hown, hts⟩ (hC H.size) ⟨cw, hts _ g1⟩ ⟨jm_blind, jm_pre hK hN hP hD⟩ rfl rfl hl.1 rfl (lv_room hW) hd ⟨ha, hb2⟩) kk
  · have cw := va_cnB (rm := jm_rm (jm_mt k) a b) As.length hts (jm_gd ⟨f1, f2, f3, f4, f5, f6⟩) rfl rfl rfl (hN.1 _ hlk) (hts _ f4) ⟨f2.1, f2.2, hn⟩ hR
    exact jm_back hA hD hS hl (va_runSN (As := As) (rest := rest) ⟨hx, hb, hml, hown, hts⟩ (hC H.size) ⟨cw, hts _ g1, trivial⟩ ⟨jm_blind, jm_pre hK hN hP hD⟩ rfl rfl hl.1 rfl (lv_room hW) hd ⟨ha, hb2⟩) kk
end JC
