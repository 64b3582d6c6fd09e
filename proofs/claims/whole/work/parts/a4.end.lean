/-! THE CLAIM OUT OF ONE WALK OF THE LAW'S BODY. Your part is whole_start (and what it stands on); all else here is the same for every law, but numbers. -/
def R_law : String := "ShareSolveLaw"
def lw_P (b : Addr) (xs : List Int32) (args : Array Value) (s : State) : Prop := args = #[.ref b] ∧ s.IntsAt b xs ∧ xs.length ≤ 4097 ∧ (Jvm.Cond.and given_1 narrow_1).before args s = true
def lw_Q (_ : Array Value) (s : State) (o : Outcome) (t : State) : Prop := o = .returned (some (.int 1)) ∧ Framed s o t [] 600000 7302250
def lw_Z (below : List Frame) (a : Array Value) (s : State) : State → Prop := fun t => ∃ o, t.status = .running ∧ Ended t below o ∧ lw_Q a s o t
/-- the law's own end, with 1 on the stack, nothing written that was there before, its room as the claim has it -/
theorem lw_ret {p : Program} {l : Launch} {e : Env} {s : State} {m : MethodId} {below : List Frame} {meth : Method} {c : Code} {b : Nat} (hx : p.tables.exec = Jvm.exec) (hb : c.code = code) (hr : meth.sig.returnType = ret) (hlocks : meth.locks = false) {pc : Nat} {H : Heap} {ls : Array Slot} (hdg : decode code pc = .ok (.ireturn, 1)) : W p l e room_1 s m #[Value.ref b] below meth c H [] 600000 7302250 (lw_Z below #[Value.ref b] s) (F0 m pc ls [.int 1]) := by
  intro T hT X
  obtain ⟨fs, hret, hrun, hended, hW, hframe⟩ := X.leave (v := some (.int 1)) (hlocks := hlocks) (fun h => by rw [hr] at h; cases h)
  have hmeth' : T.vm.method? m = some meth := X.method'
  refine ⟨T.setFrames fs, ?_, .returned (some (.int 1)), hrun, hended, rfl, ⟨_, rfl⟩, hW, hframe⟩
  jvm_step X.here [X.here.top, hx, hb, hdg, hmeth', hr, ret, narrow_b1]
  (try refine ⟨rfl, ?_⟩); (try refine ⟨rfl, ?_⟩)
  first | (intro acts; rw [hret _ acts rfl rfl rfl]) | rw [hret _ _ rfl rfl rfl]
  exact Steps.refl _
/-- what holds at the law's entry: the machine, the code, the tables' words (any of lw_tbl by 'hts w (by decide +kernel)'), the script of L ints xs at the cell b, what the Statement gives of the start (any of its parts by flat_of_before) -/
def lw_At (p : Program) (s : State) (m : MethodId) (meth : Method) (c : Code) (b L : Nat) (xs : Nat → Int32) : Prop :=
  p.tables.exec = Jvm.exec ∧ c.code = code ∧ meth.sig.returnType = ret ∧ c.maxLocals = 4 ∧ s.vm.findClass R_law = some m.cls ∧ (∀ w ∈ lw_tbl, w.before #[Value.ref b] s = true) ∧ va_X b L xs s s.heap ∧ b < s.heap.size ∧ meth.locks = false ∧ (Jvm.Cond.and given_1 narrow_1).before #[Value.ref b] s = true
/-! The world at the law's entry. -/
theorem lw_world {s : State} {args : Array Value} (hts : ∀ w ∈ lw_tbl, w.before args s = true) : ∃ (D : va_G) (ca : Nat → ClassId), va_K D jm_cl (jm_tys ca) s ∧ jm_N s := by
  have hT : ∀ w ∈ jm_Tb, w.before args s = true := fun w hw => hts w (List.mem_filter.mp hw).1
  obtain ⟨a50, k50, p50, e50, f50, g50⟩ := Cond.arrayClass_spec (hT _ (jm_wd_in jm_arr50))
  obtain ⟨a51, k51, p51, e51, f51, g51⟩ := Cond.arrayClass_spec (hT _ (jm_wd_in jm_arr51))
  obtain ⟨a52, k52, p52, e52, f52, g52⟩ := Cond.arrayClass_spec (hT _ (jm_wd_in jm_arr52))
  obtain ⟨p53, a53, k53, e53, -, f53, g53, h53⟩ := Cond.arrayOver_spec (hts _ lw_ao_obj)
  obtain ⟨p54, a54, k54, e54, f54, g54, h54⟩ := Cond.arrayOver_specA (hts _ lw_ao_arr)
  have hcl : ∀ i : Nat, ∃ z : ClassId × (Nat → Nat), ∀ q : vw_C, jm_cl[i]? = some q → u_Kn s q.1 q.2.1 q.2.2 z.1 z.2 := fun i => by
    cases hz : jm_cl[i]? with
    | none => exact ⟨(a50, fun _ => 0), fun q hq => by cases hq⟩
    | some z =>
      obtain ⟨C, T, N⟩ := z
      obtain ⟨c1, c2, c3, c4, c5, c6, c7⟩ := jm_cls_all i C T N hz
      obtain ⟨cC, iS, hK⟩ := u_known hT c1 (hT _ c6)
      exact ⟨(cC, iS), fun q hq => by cases hq; exact hK⟩
  refine ⟨(fun i => (Classical.choose (hcl i)).1, fun i => (Classical.choose (hcl i)).2), fun k => if k = 50 then a50 else if k = 51 then a51 else if k = 52 then a52 else if k = 53 then a53 else a54, ⟨fun c q hq => Classical.choose_spec (hcl c) q hq, fun k q hq => ?_⟩, fun w hw => ?_, va_AO.of (hts _ lw_ao_obj), hts _ lw_ao_arr⟩
  · match k, hq with
    | 0, hq => cases hq; exact ⟨fun n z => ⟨fun k h => (by cases h), k50, f50, p50, g50⟩, e50⟩
    | 1, hq => cases hq; exact ⟨fun n z => ⟨fun k h => (by cases h), k51, f51, p51, g51⟩, e51⟩
    | 2, hq => cases hq; exact ⟨fun n z => ⟨fun k h => (by cases h), k52, f52, p52, g52⟩, e52⟩
    | 3, hq => cases hq; exact ⟨fun n z => ⟨fun k h => (by cases h), k53, f53, p53, g53⟩, k53, p53, f53, g53, e53, h53⟩
    | 4, hq => cases hq; exact ⟨fun n z => ⟨fun k h => (by cases h), k54, f54, p54, g54⟩, h54⟩
    | k + 5, hq => simp [jm_tys] at hq
  · obtain ⟨h1, h2⟩ := List.mem_filter.mp hw
    have h3 := hts w h1
    cases w with
    | methodLinkNest a i x hst => exact va_Nw.of rfl h3
    | _ => simp [jm_isN] at h2
theorem whole_start {p : Program} {e : Env} {s : State} {m : MethodId} {below : List Frame} {meth : Method} {c : Code} (l : Launch) {b L : Nat} {xs : Nat → Int32} (hL : L ≤ 4097) (C0 : lw_At p s m meth c b L xs) : W p l e room_1 s m #[Value.ref b] below meth c s.heap [] 0 0 (lw_Z below #[Value.ref b] s) (entryFrame m ([Value.ref b] : List Value).toArray 4) := by
  obtain ⟨hx, hb, hr, hml, hown, hts, hX, hbl, hlocks, hgv⟩ := id C0
  obtain ⟨D, ca, hK, hN⟩ := lw_world hts
  have hT : ∀ w ∈ jm_Tb, w.before #[Value.ref b] s = true := fun w hw => hts w (List.mem_filter.mp hw).1
  have hH : jm_H p room_1 s m #[Value.ref b] meth c "ShareSolveLaw" code 4 9 227 true false D ca (fun q => s.heap.size ≤ q) (b, L, xs) :=
    ⟨hx, hb, hml, hown, hT, hN, hK, fun _ h => h, Nat.le_of_ble_eq_true rfl, Nat.le_of_ble_eq_true rfl, fun h => (by cases h), fun _ => ⟨hX, hbl, Nat.not_le.mpr hbl⟩⟩
  have hl := lv_entry [Value.ref b] (n := 4) (Nat.le_of_ble_eq_true rfl)
  rw [lg_entry_eq]
  generalize (lg_sl [Value.ref b] ++ List.replicate (4 - (lg_sl [Value.ref b]).length) Slot.unset).toArray = ls at hl ⊢
  have hP : va_P D jm_cl (jm_w jm_FT ca mE) s.heap := fun k q h => by
    have h : ([] : va_W)[k]? = some q := h
    simp at h
  have hD : va_D (fun q : Nat => s.heap.size ≤ q) (jm_w jm_FT ca mE) := ⟨fun i j p q h => by
    have h : ([] : va_W)[i]? = some p := h
    simp at h, fun k q h => by
    have h : ([] : va_W)[k]? = some q := h
    simp at h⟩
  refine lw_begin (l := l) (D := D) (ca := ca) (b := b) (L := L) (xs := xs) (X := jm_W p l e room_1 s m #[Value.ref b] below meth c (lw_Z below #[Value.ref b] s) 4 D ca (fun q => s.heap.size ≤ q)) ?_ hL ?_ s.heap [] ls hP hD va_S.rf hl
  · intro cd hok
    refine ⟨fun pc lv st m1 nc ns en he hs => ?_, fun pc lv st m nc ns ks h H locs ls hP hD hS hl => h H locs ls hP hD hS (jm_sel_has hl ks)⟩
    obtain ⟨h1, h2⟩ := jm_at_mem he
    have hok1 := List.all_eq_true.mp hok en h1
    rw [← h2]
    refine jm_sound (ret := some .boolean) (Rt := lw_Rt) hH ?_ ?_ ?_ ?_ hok1 hs
    · intro pc lv m2 nc ns x hd hret hq H locs ls hP hD hS hl
      obtain ⟨q1, q2, q3⟩ := hq
      cases q1
      exact W.widen q2 q3 (va_forget hS.2.2 (lw_ret hx hb hr hlocks hd))
    · intro pc lv m2 nc ns x hd hret
      cases hret
    · intro pc lv m2 nc ns x hd hret
      rcases hret with ⟨z, hret⟩ | ⟨z, hret⟩ <;> cases hret
    · intro pc lv m2 nc ns hd hret
      cases hret
  · intro pc lv st m1 nc ns hpc hst hnc hns hk
    have hlk : Cond.methodLink "ShareSolveLaw" 9 (jm_mt n_Lw_cell).1 ∈ jm_Tb := jm_wd_in (i := 675) (by decide +kernel)
    have hd : decode code pc = .ok (.invokestatic 9, 3) := by
      rcases hpc with rfl | rfl
      · decide +kernel
      · decide +kernel
    exact jm_scallX (k := n_Lw_cell) (i := 9) (As := [.ref b, .int 0]) (rest := st) (a := 0) (b := 0) hH (by decide +kernel) (by decide +kernel) (by decide +kernel) hlk (by decide +kernel) (show (parseMethodDescriptor (jm_mt n_Lw_cell).1.desc).map (fun d => d.parameters.length) = some 2 from by decide +kernel) hd hst hnc hns (c_Lw_cell hL) (fun v m' hq => by
      obtain ⟨rfl, rfl⟩ := hq
      exact hk)
set_option maxHeartbeats 4000000 in
theorem lw_walk (l : Launch) (b : Addr) (xs : List Int32) : MetFree l x (headSpec (Jvm.Cond.code x code maxLocals ret :: tables_1) room_1) (lw_P b xs) (fun _ _ _ _ _ => True) lw_Q := by
  refine MetFree.of_bodyS (code := code) (maxLocals := maxLocals) (ret := ret) (by decide) ?_ ?_
  · intro args s m h hn
    obtain ⟨meth, c, h1, h2, h3, h4, h5, h6, -, -⟩ := Cond.code_spec hn (atoms_spec (ws := Jvm.Cond.code x code maxLocals ret :: tables_1) h _ List.mem_cons_self)
    exact ⟨meth, c, h1, h2, h3, h4, h5, h6⟩
  · intro p e s m args below meth c s₁ B hml0 hP _
    obtain ⟨rfl, hx, hbd, hgv⟩ := hP
    obtain ⟨scr, harrAt, hlist, hof, hsmall⟩ := hx
    obtain ⟨hcb, hkn, -, -⟩ := State.arrayAt?_spec harrAt
    have hown : s.vm.findClass R_law = some m.cls := findClass_of_methodNamed B.named
    have hts0 : ∀ c ∈ (Jvm.Cond.code x code maxLocals ret :: tables_1), c.before #[Value.ref b] s = true := atoms_spec (ws := Jvm.Cond.code x code maxLocals ret :: tables_1) B.pre
    have hts : ∀ w ∈ lw_tbl, w.before #[Value.ref b] s = true := k2_hts_sels lw_privs (fun w hw => hts0 w (List.mem_cons_of_mem _ hw)) lw_privs_ok
    have hml : c.maxLocals = 4 := B.maxLocals_eq (hts0 _ List.mem_cons_self)
    have X₀ : Stand p l e room_1 s m #[Value.ref b] below meth c s₁ [] 0 0 := Stand.of_body B
    have hh0 : s₁.heap = s.heap := by rw [B.state]; rfl
    have hsz : scr.slots.size = xs.length := by rw [← Array.length_toList, hlist, List.length_map]
    have hval : ∀ j : Nat, j < xs.length → scr.slots[j]? = some (.int (xs.getD j 0)) := fun j hj => by
      rw [← Array.getElem?_toList, hlist]
      simp [hj]
    have hbl : b < s.heap.size := (Array.getElem?_eq_some_iff.mp hcb).1
    have hX : va_X b xs.length (fun j => xs.getD j 0) s s.heap := ⟨scr, hcb, hof, hkn, hsz, hval⟩
    have K : W p l e room_1 s m #[Value.ref b] below meth c s₁.heap [] 0 0 (lw_Z below #[Value.ref b] s) (entryFrame m ([Value.ref b] : List Value).toArray 4) := by
      rw [hh0]
      exact whole_start l hbd ⟨B.exec, B.bytes, B.returns, hml, hown, hts, hX, hbl, B.notSynchronized, hgv⟩
    obtain ⟨t, a1, o, b1, b2, b3⟩ := K s₁ rfl X₀
    exact ⟨t, o, a1, b1, b2, b3⟩
theorem lw_pre_spec {args : Array Value} {s : State} (h : (Jvm.Cond.and given_1 narrow_1).before args s = true) (hr : rest_1_c.before args s = true) : ∃ (b : Addr) (xs : List Int32), lw_P b xs args s := by
  have hs := flat_of_before _ h
  have hq := flat_of_before _ hr
  have hc : (Cond.count 1).before args s = true := hs _ (by decide +kernel)
  have harr : (Cond.arrayOf (.arg 0) .int).before args s = true := hs _ (by decide +kernel)
  have hle : (Cond.le (.length (.arg 0)) (.int 4097)).before args s = true := hs _ (by decide +kernel)
  have hlen : (Cond.isInt (.length (.arg 0))).before args s = true := hq _ (by decide +kernel)
  have hall : (Cond.all (.arg 0) (.isInt (.elem (.arg 0) (.index 0)))).before args s = true := hq _ (by decide +kernel)
  obtain ⟨b, xs, hb, hx⟩ := State.ints_of_pre rfl harr hlen hall
  have hsm : xs.length < 2 ^ 31 := hx.choose_spec.2.2.2
  have hev : (Term.length (.arg 0)).eval args s none [] s = some (.int xs.length.toInt32) := hx.length_eval hb
  have hv := Cond.le_ints hev (show (Term.int 4097).eval args s none [] s = some (.int 4097) from rfl)
  have hd : xs.length.toInt32 ≤ 4097 := by
    simpa [Cond.before, Cond.holds, hv] using hle
  have hN : xs.length ≤ 4097 := (Int32.ofNat_le_ofNat hsm (by decide)).mp (show Int32.ofNat xs.length ≤ Int32.ofNat 4097 from hd)
  exact ⟨b, xs, Cond.one_arg hc (show args[0]? = some (.ref b) from hb), hx, hN, h⟩
theorem lw_comes (l : Launch) : Comes l x (Jvm.Cond.code x code maxLocals ret :: tables_1) room_1 (fun tb e args s => Calls_1 tb e args s ∧ rest_1 tb e args s ∧ Pre_1 tb e args s)
    (fun _ _ args s o t => lw_Q args s o t) := by
  intro p e ha hc hk s m args below hf hfit hheap happ hpre
  obtain ⟨b, xs, hP⟩ := lw_pre_spec hpre.2.2 hpre.2.1
  obtain ⟨k, o, h1, h2, h3, hQ⟩ := lw_walk l b xs p e ha hc hk s m args below hf ((Spec.applies_iff_loose hf).mp happ).1 hP trivial
  exact ⟨k, o, h1, h2, h3, hQ⟩
theorem lw_frame {s t : State} {o : Outcome} {args : Array Value} (h : Framed s o t [] 600000 7302250) :
    Framed s o t (fieldLocs frame_1_writes args s ++ arrayLocs frame_1_arrays args s ++ staticLocs frame_1_statics s) 600000 7302250 := h
theorem lw_limb (L : Cond) (hL : ∀ (args : Array Value) (s t : State), L.after args s (.returned (some (.int 1))) t = true) :
    ArmFor flags0 classFile x code maxLocals ret World_1 tables_1 room_1 Calls_1 rest_1 Pre_1
      (fun tb e a s o t => postC L tb e a s o t ∧ Framed s o t (fieldLocs frame_1_writes a s ++ arrayLocs frame_1_arrays a s ++ staticLocs frame_1_statics s) 600000 7302250) := by
  intro l _ _ _ p e ha hc hk s m args below hf hfit hheap happ hpre
  obtain ⟨k, o, h1, h2, h3, rfl, hF⟩ := lw_comes l p e ha hc hk s m args below hf hfit hheap happ hpre
  exact ⟨k, _, h1, h2, h3, hL args s _, lw_frame hF⟩
theorem i_vc : Claimed_1_1 ∧ Claimed_1_2 := ⟨lw_limb limb_1_1 (fun args s t => by simp [limb_1_1, Cond.after, Cond.holds, Cond.value]), lw_limb limb_1_2 (fun args s t => Cond.after_iff.mpr (by
  first | (rw [show limb_1_2 = Cond.eq .result (.int 1) from rfl, Cond.eq_ints (x := 1) (y := 1) rfl rfl]; simp; done) | (simp [limb_1_2, Cond.value, Term.eval]; done)))⟩
