/-! A method's contract out of its pure words alone. -/
def jm_rb (ret : Option FieldType) (v : Option Value) : Prop := match ret with
  | some .boolean => (match v with | some (.int x) => x = 0 ∨ x = 1 | _ => True)
  | _ => True
abbrev jm_rt (ret : Option FieldType) (a b : Nat) (Q : Option Value → jm_M → Prop) : jm_Rt := fun v m nc ns => nc ≤ a ∧ ns ≤ b ∧ jm_rb ret v ∧ Q v m
/-- the locals with these numbers, in this order -/
def jm_sel (lv : jm_LV) : List Nat → jm_LV
  | [] => []
  | k :: r => match jm_get lv k with
    | some v => (k, v) :: jm_sel lv r
    | none => jm_sel lv r
theorem jm_sel_has {ls : Array Slot} {nL : Nat} {lv : jm_LV} (h : lv_has ls nL lv) : ∀ ks : List Nat, lv_has ls nL (jm_sel lv ks)
  | [] => ⟨h.1, h.2.1, fun q hq => by cases hq⟩
  | k :: r => by
    have ih := jm_sel_has h r
    unfold jm_sel
    split
    · rename_i v hv
      refine ⟨h.1, h.2.1, fun q hq => ?_⟩
      rcases List.mem_cons.mp hq with e | hq
      · rw [e]; exact jm_lv_at h hv
      · exact ih.2.2 q hq
    · exact ih
abbrev jm_cl0 (l : Launch) (D : va_G) (ca : Nat → ClassId) (cd : List jm_e) (ret : Option FieldType) (a b : Nat) (Q : Option Value → jm_M → Prop) (X : jm_K) : Prop :=
  (∀ pc lv st m nc ns e, jm_at cd pc = some e → jm_step jm_ft jm_sz (a, b) (jm_C l D ca) (jm_rt ret a b Q) (0, 0, fun _ => 0) e lv st m nc ns X → X pc lv st m nc ns) ∧ (∀ pc lv st m nc ns ks, X pc (jm_sel lv ks) st m nc ns → X pc lv st m nc ns)
/-- the pure words lead from the method's start to its end -/
def jm_V (l : Launch) (D : va_G) (ca : Nat → ClassId) (cd : List jm_e) (ret : Option FieldType) (a b : Nat) (Q : Option Value → jm_M → Prop) (lv : jm_LV) (m : jm_M) : Prop :=
  ∀ X : jm_K, jm_cl0 l D ca cd ret a b Q X → X 0 lv [] m 0 0
theorem jm_C_of {l : Launch} {D : va_G} {ca : Nat → ClassId} {k : Nat} {cd : List jm_e} {args : List Value} {m : jm_M} {a b : Nat} {Q : Option Value → jm_M → Prop} {ini : Bool} (hk : k < jm_mtL.length) (hok : cd.all (jm_okE (jm_mt k).1.cls (jm_mt k).2.1 (jm_mt k).2.2.1 (jm_mt k).2.2.2.2.1 (jm_mt k).2.2.2.2.2 false ini (jm_mt k).2.2.2.1) = true) (hini : ini = true → (jm_mt k).1.name = "<init>") (hlen : (lg_sl args).length ≤ (jm_mt k).2.2.1)
    (hV : jm_V l D ca cd (jm_mt k).2.2.2.1 a b Q (lv_args 0 args) m) : jm_C l D ca k args m a b Q := by
  obtain ⟨f1, f2, f3, f4, f5, f6⟩ := jm_mf_all k hk
  intro sz
  refine Met.ofW (cc := (jm_mt k).2.1) (maxL := (jm_mt k).2.2.1) (ret := (jm_mt k).2.2.2.1) f3 rfl ?_
  intro p e s mi args0 below meth c s₁ B hml hv
  obtain ⟨rfl, hsz, hP, hK, hN, hD0⟩ := hv
  have hx := B.exec
  have hb := B.bytes
  have hr := B.returns
  have hts : ∀ w ∈ jm_Tb, w.before args.toArray s = true := fun w hw => atoms_spec (ws := jm_ws (jm_mt k)) B.pre w (List.mem_cons_of_mem _ hw)
  have hown : s.vm.findClass (jm_mt k).1.cls = some mi.cls := findClass_of_methodNamed B.named
  have hlocks := B.notSynchronized
  have hnm : meth.name = (jm_mt k).1.name := (name_of_methodNamed B.named B.method).1
  subst hsz
  have hD := hD0.self (sz := s.heap.size)
  have hA : ∀ q : Nat, s.heap.size ≤ q → va_A (jm_w jm_FT ca m) s.heap.size q := fun q h => Or.inr h
  have hS : va_S (va_A (jm_w jm_FT ca m) s.heap.size) s.heap s.heap [] := va_S.rf
  have hl := lv_entry args (n := (jm_mt k).2.2.1) hlen
  rw [lg_entry_eq]
  generalize (lg_sl args ++ List.replicate ((jm_mt k).2.2.1 - (lg_sl args).length) Slot.unset).toArray = ls at hl ⊢
  have hH : jm_H p (jm_rm (jm_mt k) a b) s mi args.toArray meth c (jm_mt k).1.cls (jm_mt k).2.1 (jm_mt k).2.2.1 (jm_mt k).2.2.2.2.1 (jm_mt k).2.2.2.2.2 false ini D ca (va_A (jm_w jm_FT ca m) s.heap.size) (0, 0, fun _ => 0) :=
    ⟨hx, hb, hml, hown, hts, hN, hK, hA, Nat.le_refl _, Nat.le_refl _, fun h => by rw [hnm]; exact hini h, fun h => by cases h⟩
  refine hV (jm_W p l e (jm_rm (jm_mt k) a b) s mi args.toArray below meth c (MQ below (jm_Qc D ca m s.heap.size Q) args.toArray s a b (va_A (jm_w jm_FT ca m) s.heap.size)) (jm_mt k).2.2.1 D ca (va_A (jm_w jm_FT ca m) s.heap.size)) ⟨?_, fun pc lv st m nc ns ks h H locs ls hP hD hS hl => h H locs ls hP hD hS (jm_sel_has hl ks)⟩ s.heap [] ls hP hD hS hl
  intro pc lv st m1 nc ns en he hs
  obtain ⟨h1, h2⟩ := jm_at_mem he
  have hok1 := List.all_eq_true.mp hok en h1
  rw [← h2]
  refine jm_sound hH ?_ ?_ ?_ ?_ hok1 hs
  · intro pc lv m2 nc ns x hd hret hq H locs ls hP hD hS hl
    obtain ⟨q1, q2, q3, q4⟩ := hq
    refine W.widen q1 q2 ?_
    rcases hret with hret | hret
    · exact W.iret hx hb (by rw [hr]; exact hret) (fun t ht hW => ⟨⟨some (.int x), m2, rfl, q4, by rw [ht]; exact hP, hD⟩, hS.F ht⟩) hS.2.2 hd
    · rw [hret] at q3
      exact W.zret (ty := .boolean) hx hb (by rw [hr]; exact hret) (by rcases q3 with rfl | rfl <;> rfl) (fun t ht hW => ⟨⟨some (.int x), m2, rfl, q4, by rw [ht]; exact hP, hD⟩, hS.F ht⟩) hS.2.2 hd
  · intro pc lv m2 nc ns x hd hret hq H locs ls hP hD hS hl
    obtain ⟨q1, q2, q3, q4⟩ := hq
    refine W.widen q1 q2 ?_
    exact W.lret hx hb (by rw [hr]; exact hret) (fun t ht hW => ⟨⟨some (.long x), m2, rfl, q4, by rw [ht]; exact hP, hD⟩, hS.F ht⟩) hS.2.2 hd
  · intro pc lv m2 nc ns x hd hret hq H locs ls hP hD hS hl
    obtain ⟨q1, q2, q3, q4⟩ := hq
    refine W.widen q1 q2 ?_
    rcases hret with ⟨z, hret⟩ | ⟨z, hret⟩
    · exact W.aret (rt := .object z) hx hb (by rw [hr]; exact hret) (Or.inl ⟨z, rfl⟩) (Or.inr ⟨x, rfl⟩) (fun t ht hW => ⟨⟨some (.ref x), m2, rfl, q4, by rw [ht]; exact hP, hD⟩, hS.F ht⟩) hS.2.2 hd
    · exact W.aret (rt := .array z) hx hb (by rw [hr]; exact hret) (Or.inr ⟨z, rfl⟩) (Or.inr ⟨x, rfl⟩) (fun t ht hW => ⟨⟨some (.ref x), m2, rfl, q4, by rw [ht]; exact hP, hD⟩, hS.F ht⟩) hS.2.2 hd
  · intro pc lv m2 nc ns hd hret hq H locs ls hP hD hS hl
    obtain ⟨q1, q2, q3, q4⟩ := hq
    refine W.widen q1 q2 ?_
    exact W.vret hx hb (by rw [hr]; exact hret) (fun t ht hW => ⟨⟨none, m2, rfl, q4, by rw [ht]; exact hP, hD⟩, hS.F ht⟩) hS.2.2 hd
/-- a stretch of instructions, up to the places in 'stops', each with the locals that are kept there -/
def jm_stop : List (Nat × List Nat) → Nat → Option (List Nat)
  | [], _ => none
  | q :: r, pc => bif Nat.beq q.1 pc then some q.2 else jm_stop r pc
def jm_go (cd : List jm_e) (cap : Nat × Nat) (Ct : jm_Ct) (Rt : jm_Rt) (S : Nat × Nat × (Nat → Int32)) (stops : List (Nat × List Nat)) (X : jm_K) : Nat → jm_K
  | 0 => X
  | n + 1 => fun pc lv st m nc ns => match jm_at cd pc with
    | none => False
    | some e => jm_step jm_ft jm_sz cap Ct Rt S e lv st m nc ns (fun pc' lv' st' m' nc' ns' => match jm_stop stops pc' with | some ks => X pc' (jm_sel lv' ks) st' m' nc' ns' | none => jm_go cd cap Ct Rt S stops X n pc' lv' st' m' nc' ns')
set_option maxHeartbeats 4000000 in
theorem jm_mono {cap : Nat × Nat} {Ct : jm_Ct} {Rt : jm_Rt} {S : Nat × Nat × (Nat → Int32)} {e : jm_e} {lv : jm_LV} {st : List Value} {m : jm_M} {nc ns : Nat} {X Y : jm_K} (h : ∀ pc lv st m nc ns, X pc lv st m nc ns → Y pc lv st m nc ns) (hs : jm_step jm_ft jm_sz cap Ct Rt S e lv st m nc ns X) : jm_step jm_ft jm_sz cap Ct Rt S e lv st m nc ns Y := by
  obtain ⟨pc, i, nx, a1, a2, a3, k32, k64, ix⟩ := e
  cases i
  case ifCond cd off => cases cd <;> (dsimp only [jm_step] at hs ⊢; split at hs <;> first | exact hs.elim | exact ⟨fun q => h _ _ _ _ _ _ (hs.1 q), fun q => h _ _ _ _ _ _ (hs.2 q)⟩)
  case if_icmp cd off => cases cd <;> (dsimp only [jm_step] at hs ⊢; split at hs <;> first | exact hs.elim | exact ⟨fun q => h _ _ _ _ _ _ (hs.1 q), fun q => h _ _ _ _ _ _ (hs.2 q)⟩)
  case invokevirtual i =>
    obtain ⟨q0, q1, q2, a, b, Q, q3, q4, q5, q6⟩ := hs
    exact ⟨q0, q1, q2, a, b, Q, q3, q4, q5, fun v m' hq => h _ _ _ _ _ _ (q6 v m' hq)⟩
  case invokespecial i =>
    dsimp only [jm_step] at hs ⊢
    cases hb : Nat.beq a1 999 <;> rw [hb] at hs <;> dsimp only [cond] at hs ⊢
    · obtain ⟨q0, q1, q2, a, b, Q, q3, q4, q5, q6⟩ := hs
      exact ⟨q0, q1, q2, a, b, Q, q3, q4, q5, fun v m' hq => h _ _ _ _ _ _ (q6 v m' hq)⟩
    · split at hs
      · exact ⟨hs.1, h _ _ _ _ _ _ hs.2⟩
      · exact hs.elim
  case invokestatic i =>
    dsimp only [jm_step] at hs ⊢
    cases hb0 : Nat.blt a1 900 <;> rw [hb0] at hs <;> dsimp only [cond] at hs ⊢
    · cases hb1 : Nat.beq a1 900 <;> rw [hb1] at hs <;> dsimp only [cond] at hs ⊢
      · cases hb2 : Nat.beq a1 901 <;> rw [hb2] at hs <;> dsimp only [cond] at hs ⊢
        · cases hb3 : Nat.beq a1 903 <;> rw [hb3] at hs <;> dsimp only [cond] at hs ⊢
          · cases hb4 : Nat.beq a1 904 <;> rw [hb4] at hs <;> dsimp only [cond] at hs ⊢
            · split at hs
              · obtain ⟨o0, o1, h1, h2, h3, h4, h5, hW, hs⟩ := hs
                exact ⟨o0, o1, h1, h2, h3, h4, h5, hW, h _ _ _ _ _ _ hs⟩
              · exact hs.elim
          · split at hs
            · exact ⟨hs.1, hs.2.1, hs.2.2.1, h _ _ _ _ _ _ hs.2.2.2⟩
            · exact hs.elim
        · split at hs
          · exact ⟨hs.1, hs.2.1, hs.2.2.1, h _ _ _ _ _ _ hs.2.2.2⟩
          · exact hs.elim
      · split at hs
        · exact ⟨hs.1, hs.2.1, hs.2.2.1, h _ _ _ _ _ _ hs.2.2.2⟩
        · exact hs.elim
    · obtain ⟨q1, q2, a, b, Q, q3, q4, q5, q6⟩ := hs
      exact ⟨q1, q2, a, b, Q, q3, q4, q5, fun v m' hq => h _ _ _ _ _ _ (q6 v m' hq)⟩
  case getfield i =>
    dsimp only [jm_step] at hs ⊢
    split at hs
    · refine ⟨hs.1, ?_⟩
      have hs := hs.2
      split at hs
      · exact h _ _ _ _ _ _ hs
      · obtain ⟨z, hz, hs⟩ := hs; exact ⟨z, hz, h _ _ _ _ _ _ hs⟩
      · obtain ⟨z, hz, hs⟩ := hs; exact ⟨z, hz, h _ _ _ _ _ _ hs⟩
      · exact h _ _ _ _ _ _ hs
      · exact h _ _ _ _ _ _ hs
      · exact hs
    · exact hs.elim
  case putfield i =>
    dsimp only [jm_step] at hs ⊢
    split at hs
    · split at hs
      · exact ⟨hs.1, h _ _ _ _ _ _ hs.2⟩
      · exact hs.elim
    · split at hs
      · exact ⟨hs.1, h _ _ _ _ _ _ hs.2⟩
      · exact ⟨hs.1, h _ _ _ _ _ _ hs.2⟩
      · exact hs.elim
    · split at hs
      · exact ⟨hs.1, h _ _ _ _ _ _ hs.2⟩
      · exact ⟨hs.1, h _ _ _ _ _ _ hs.2⟩
      · exact hs.elim
    · split at hs
      · exact ⟨hs.1, h _ _ _ _ _ _ hs.2⟩
      · exact hs.elim
    · split at hs
      · exact ⟨hs.1, hs.2.1, h _ _ _ _ _ _ hs.2.2⟩
      · exact hs.elim
    · exact hs.elim
  case iaload =>
    dsimp only [jm_step] at hs ⊢
    split at hs
    · cases hb : Nat.beq a1 1 <;> rw [hb] at hs <;> exact ⟨hs.1, hs.2.1, h _ _ _ _ _ _ hs.2.2⟩
    · exact hs.elim
  case arraylength =>
    dsimp only [jm_step] at hs ⊢
    split at hs
    · cases hb : Nat.beq a1 1 <;> rw [hb] at hs
      · exact ⟨hs.1, hs.2.1, hs.2.2.1, h _ _ _ _ _ _ hs.2.2.2⟩
      · exact ⟨hs.1, h _ _ _ _ _ _ hs.2⟩
    · exact hs.elim
  case new i => exact ⟨hs.1, hs.2.1, fun q hq => h _ _ _ _ _ _ (hs.2.2 q hq)⟩
  case multianewarray i d =>
    dsimp only [jm_step] at hs ⊢
    split at hs
    · obtain ⟨q1, q2, q3, q4, q5, q6, q7⟩ := hs
      exact ⟨q1, q2, q3, q4, q5, q6, fun q rw a b c => h _ _ _ _ _ _ (q7 q rw a b c)⟩
    · exact hs.elim
  all_goals first
    | exact h _ _ _ _ _ _ hs
    | exact hs
    | (dsimp only [jm_step] at hs ⊢
       split at hs <;> first
        | exact hs.elim
        | exact h _ _ _ _ _ _ hs
        | exact ⟨hs.1, h _ _ _ _ _ _ hs.2⟩
        | exact ⟨hs.1, hs.2.1, h _ _ _ _ _ _ hs.2.2⟩
        | exact ⟨hs.1, hs.2.1, hs.2.2.1, h _ _ _ _ _ _ hs.2.2.2⟩
        | (obtain ⟨z, hz, hs⟩ := hs; exact ⟨z, hz, h _ _ _ _ _ _ hs⟩)
        | (obtain ⟨o, i, z, hz, hs⟩ := hs; exact ⟨o, i, z, hz, h _ _ _ _ _ _ hs⟩)
        | (obtain ⟨q1, q2, q3, q4, q5⟩ := hs; exact ⟨q1, q2, q3, q4, fun q hq => h _ _ _ _ _ _ (q5 q hq)⟩)
        | exact hs)
theorem jm_run {cd : List jm_e} {cap : Nat × Nat} {Ct : jm_Ct} {Rt : jm_Rt} {S : Nat × Nat × (Nat → Int32)} {X : jm_K} (hX : (∀ pc lv st m nc ns e, jm_at cd pc = some e → jm_step jm_ft jm_sz cap Ct Rt S e lv st m nc ns X → X pc lv st m nc ns) ∧ (∀ pc lv st m nc ns ks, X pc (jm_sel lv ks) st m nc ns → X pc lv st m nc ns)) (stops : List (Nat × List Nat)) : ∀ (n : Nat) {pc : Nat} {lv : jm_LV} {st : List Value} {m : jm_M} {nc ns : Nat}, jm_go cd cap Ct Rt S stops X n pc lv st m nc ns → X pc lv st m nc ns
  | 0, _, _, _, _, _, _, h => h
  | n + 1, pc, lv, st, m, nc, ns, h => by
    unfold jm_go at h
    split at h
    · exact h.elim
    · rename_i e he
      refine hX.1 _ _ _ _ _ _ e he (jm_mono (fun pc' lv' st' m' nc' ns' hq => ?_) h)
      split at hq
      · exact hX.2 _ _ _ _ _ _ _ hq
      · exact jm_run hX stops n hq
