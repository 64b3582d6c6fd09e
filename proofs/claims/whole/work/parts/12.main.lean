/-! All instructions together. -/
section JM
variable {p : Program} {l : Launch} {en : Env} {R : Room} {s : State} {mi : MethodId} {args : Array Value} {below : List Frame} {meth : Method} {c : Code} {Qw : State → Prop} {own : String} {cc : ByteArray} {nL fr lo : Nat} {law ini : Bool} {ret : Option FieldType} {D : va_G} {ca : Nat → ClassId} {A : Nat → Prop} {S : Nat × Nat × (Nat → Int32)} {Rt : jm_Rt}
def jm_ck3 (k : Nat) (e : jm_e) : Prop := match k with | 0 => (jm_st e.2.2.2.1).1 = false ∧ (jm_mt e.2.2.2.1).1.name ≠ "<init>" ∧ (jm_cl[e.2.2.2.2.2.1]?).map (fun q => q.1) = some (jm_mt e.2.2.2.1).1.cls ∧ (parseMethodDescriptor (jm_mt e.2.2.2.1).1.desc).map (fun d => d.parameters.length + 1) = some e.2.2.2.2.1 | 1 => (jm_st e.2.2.2.1).1 = false ∧ (jm_mt e.2.2.2.1).1.name = "<init>" ∧ (jm_mt e.2.2.2.1).2.2.2.1 = none ∧ (parseMethodDescriptor (jm_mt e.2.2.2.1).1.desc).map (fun d => d.parameters.length + 1) = some e.2.2.2.2.1 | _ => (jm_st e.2.2.2.1).1 = true ∧ (parseMethodDescriptor (jm_mt e.2.2.2.1).1.desc).map (fun d => d.parameters.length) = some e.2.2.2.2.1
set_option maxRecDepth 100000 in
theorem jm_call_of {k i fr' lo' : Nat} {own' : String} {e : jm_e} (h : jm_call own' fr' lo' k i e = true) : e.2.2.2.1 < jm_mtL.length ∧ (jm_mt e.2.2.2.1).2.2.2.2.1 + 1 ≤ fr' ∧ 8 + ((jm_mt e.2.2.2.1).2.2.1 + 11) + (jm_mt e.2.2.2.1).2.2.2.2.2 ≤ lo' ∧ jm_lk own' i (jm_mt e.2.2.2.1).1 ∧ jm_ck3 k e := by
  unfold jm_call at h
  simp only [Bool.and_eq_true, Bool.or_eq_true, decide_eq_true_eq] at h
  obtain ⟨⟨⟨⟨h1, h2⟩, h3⟩, h4⟩, h5⟩ := h
  refine ⟨h1, h2, h3, h4.elim (fun z => Or.inl (jm_wd_in z)) (fun z => Or.inr (jm_nw_in z)), ?_⟩
  clear h1 h2 h3 h4
  match k with
  | 0 =>
    simp only [Bool.and_eq_true, decide_eq_true_eq] at h5
    exact ⟨h5.1.1.1, h5.1.1.2, h5.1.2, h5.2⟩
  | 1 =>
    simp only [Bool.and_eq_true, decide_eq_true_eq] at h5
    exact ⟨h5.1.1.1, h5.1.1.2, h5.1.2, h5.2⟩
  | k + 2 =>
    simp only [Bool.and_eq_true, decide_eq_true_eq] at h5
    exact h5
theorem jm_take {st : List Value} {n : Nat} : ((st.take n).reverse).reverse ++ st.drop n = st := by
  rw [List.reverse_reverse, List.take_append_drop]
theorem jm_narg {d : Option MethodDescriptor} {n : Nat} (h : d.map (fun x => x.parameters.length + 1) = some (n + 1)) : d.map (fun x => x.parameters.length) = some n := by
  cases d with
  | none => cases h
  | some z =>
    have : z.parameters.length + 1 = n + 1 := Option.some.inj h
    simp only [Option.map_some, Option.some.injEq]
    omega
set_option maxHeartbeats 4000000 in
theorem jm_sound (h : jm_H p R s mi args meth c own cc nL fr lo law ini D ca A S)
    (hri : ∀ pc lv m nc ns x, decode cc pc = .ok (.ireturn, 1) → (ret = some .int ∨ ret = some .boolean) → Rt (some (.int x)) m nc ns → jm_W p l en R s mi args below meth c Qw nL D ca A pc lv [.int x] m nc ns)
    (hrl : ∀ pc lv m nc ns x, decode cc pc = .ok (.lreturn, 1) → ret = some .long → Rt (some (.long x)) m nc ns → jm_W p l en R s mi args below meth c Qw nL D ca A pc lv [.long x] m nc ns)
    (hra : ∀ pc lv m nc ns x, decode cc pc = .ok (.areturn, 1) → ((∃ n, ret = some (.object n)) ∨ ∃ t, ret = some (.array t)) → Rt (some (.ref x)) m nc ns → jm_W p l en R s mi args below meth c Qw nL D ca A pc lv [.ref x] m nc ns)
    (hrv : ∀ pc lv m nc ns, decode cc pc = .ok (.return_, 1) → ret = none → Rt none m nc ns → jm_W p l en R s mi args below meth c Qw nL D ca A pc lv [] m nc ns)
    {e : jm_e} {lv : jm_LV} {st : List Value} {m : jm_M} {nc ns : Nat} (he : jm_okE own cc nL fr lo law ini ret e = true)
    (hs : jm_step jm_ft jm_sz (R.cells, R.slots) (jm_C l D ca) Rt S e lv st m nc ns (jm_W p l en R s mi args below meth c Qw nL D ca A)) : jm_W p l en R s mi args below meth c Qw nL D ca A e.1 lv st m nc ns := by
  have h0 := h
  obtain ⟨hx, hb, hml, hown, hts, hN, hK, hA, hfr, hlo, hin, hlaw⟩ := h0
  obtain ⟨pc, i, nx, a1, a2, a3, k32, k64, ix⟩ := e
  cases i
  case iconst n =>
    dsimp only [jm_okE, jm_dec] at he
    simp only [Bool.and_eq_true, decide_eq_true_eq] at he
    dsimp only [jm_step] at hs
    obtain ⟨⟨hd, rfl⟩, hv⟩ := he
    intro H locs ls hP hD hS hl
    exact lv_iconst hx hb hd hv (hs H locs ls hP hD hS hl)
  case bipush n =>
    dsimp only [jm_okE, jm_dec] at he
    simp only [Bool.and_eq_true, decide_eq_true_eq] at he
    dsimp only [jm_step] at hs
    obtain ⟨⟨hd, rfl⟩, hv⟩ := he
    intro H locs ls hP hD hS hl
    exact lv_bipush hx hb hd hv (hs H locs ls hP hD hS hl)
  case sipush n =>
    dsimp only [jm_okE, jm_dec] at he
    simp only [Bool.and_eq_true, decide_eq_true_eq] at he
    dsimp only [jm_step] at hs
    obtain ⟨⟨hd, rfl⟩, hv⟩ := he
    intro H locs ls hP hD hS hl
    exact lv_sipush hx hb hd hv (hs H locs ls hP hD hS hl)
  case lconst n =>
    dsimp only [jm_okE, jm_dec] at he
    simp only [Bool.and_eq_true, decide_eq_true_eq] at he
    dsimp only [jm_step] at hs
    obtain ⟨⟨hd, rfl⟩, hv⟩ := he
    intro H locs ls hP hD hS hl
    exact lv_lconst hx hb hd hv (hs H locs ls hP hD hS hl)
  case ldc n =>
    dsimp only [jm_okE, jm_dec] at he
    simp only [Bool.and_eq_true, decide_eq_true_eq] at he
    dsimp only [jm_step] at hs
    obtain ⟨⟨hd, rfl⟩, hv⟩ := he
    intro H locs ls hP hD hS hl
    exact lv_ldc hx hb hown (hts _ (jm_wd_in hv)) hd (hs H locs ls hP hD hS hl)
  case ldc_w n =>
    dsimp only [jm_okE, jm_dec] at he
    simp only [Bool.and_eq_true, decide_eq_true_eq] at he
    dsimp only [jm_step] at hs
    obtain ⟨⟨hd, rfl⟩, hv⟩ := he
    intro H locs ls hP hD hS hl
    exact lv_ldcw hx hb hown (hts _ (jm_wd_in hv)) hd (hs H locs ls hP hD hS hl)
  case ldc2_w n =>
    dsimp only [jm_okE, jm_dec] at he
    simp only [Bool.and_eq_true, decide_eq_true_eq] at he
    dsimp only [jm_step] at hs
    obtain ⟨⟨hd, rfl⟩, hv⟩ := he
    intro H locs ls hP hD hS hl
    exact lv_ldc2 hx hb hown (hts _ (jm_wd_in hv)) hd (hs H locs ls hP hD hS hl)
  case aconst_null  =>
    dsimp only [jm_okE, jm_dec] at he
    simp only [Bool.and_eq_true, decide_eq_true_eq] at he
    dsimp only [jm_step] at hs
    obtain ⟨hd, rfl⟩ := he
    intro H locs ls hP hD hS hl
    exact lv_null hx hb hd (hs H locs ls hP hD hS hl)
  case iload n =>
    dsimp only [jm_okE, jm_dec] at he
    simp only [Bool.and_eq_true, decide_eq_true_eq] at he
    dsimp only [jm_step] at hs
    obtain ⟨⟨hd, rfl⟩, rfl⟩ := he
    split at hs
    · rename_i x hg
      intro H locs ls hP hD hS hl
      exact lv_iload hx hb hd (jm_lv_at hl hg) (hs H locs ls hP hD hS hl)
    · exact hs.elim
  case iload_n n =>
    dsimp only [jm_okE, jm_dec] at he
    simp only [Bool.and_eq_true, decide_eq_true_eq] at he
    dsimp only [jm_step] at hs
    obtain ⟨⟨hd, rfl⟩, hn⟩ := he
    split at hs
    · rename_i x hg
      intro H locs ls hP hD hS hl
      exact lv_iload_n hx hb hd hn (jm_lv_at hl hg) (hs H locs ls hP hD hS hl)
    · exact hs.elim
  case lload n =>
    dsimp only [jm_okE, jm_dec] at he
    simp only [Bool.and_eq_true, decide_eq_true_eq] at he
    dsimp only [jm_step] at hs
    obtain ⟨⟨hd, rfl⟩, rfl⟩ := he
    split at hs
    · rename_i x hg
      intro H locs ls hP hD hS hl
      exact lv_lload hx hb hd (jm_lv_at hl hg) (hs H locs ls hP hD hS hl)
    · exact hs.elim
  case lload_n n =>
    dsimp only [jm_okE, jm_dec] at he
    simp only [Bool.and_eq_true, decide_eq_true_eq] at he
    dsimp only [jm_step] at hs
    obtain ⟨⟨hd, rfl⟩, hn⟩ := he
    split at hs
    · rename_i x hg
      intro H locs ls hP hD hS hl
      exact lv_lload_n hx hb hd hn (jm_lv_at hl hg) (hs H locs ls hP hD hS hl)
    · exact hs.elim
  case aload n =>
    dsimp only [jm_okE, jm_dec] at he
    simp only [Bool.and_eq_true, decide_eq_true_eq] at he
    dsimp only [jm_step] at hs
    obtain ⟨⟨hd, rfl⟩, rfl⟩ := he
    split at hs
    · rename_i x hg
      intro H locs ls hP hD hS hl
      exact lv_aload hx hb hd (jm_lv_at hl hg) (hs H locs ls hP hD hS hl)
    · rename_i hg
      intro H locs ls hP hD hS hl
      exact lv_aloadN hx hb hd (jm_lv_at hl hg) (hs H locs ls hP hD hS hl)
    · exact hs.elim
  case aload_n n =>
    dsimp only [jm_okE, jm_dec] at he
    simp only [Bool.and_eq_true, decide_eq_true_eq] at he
    dsimp only [jm_step] at hs
    obtain ⟨⟨hd, rfl⟩, hn⟩ := he
    split at hs
    · rename_i x hg
      intro H locs ls hP hD hS hl
      exact lv_aload_n hx hb hd hn (jm_lv_at hl hg) (hs H locs ls hP hD hS hl)
    · rename_i hg
      intro H locs ls hP hD hS hl
      exact lv_aload_nN hx hb hd hn (jm_lv_at hl hg) (hs H locs ls hP hD hS hl)
    · exact hs.elim
  case istore n =>
    dsimp only [jm_okE, jm_dec] at he
    simp only [Bool.and_eq_true, decide_eq_true_eq] at he
    dsimp only [jm_step] at hs
    obtain ⟨⟨⟨hd, rfl⟩, rfl⟩, hn⟩ := he
    split at hs
    · intro H locs ls hP hD hS hl
      exact lv_istore hx hb hd hl hn rfl (fun ls hl => (hs H locs ls hP hD hS hl))
    · exact hs.elim
  case istore_n n =>
    dsimp only [jm_okE, jm_dec] at he
    simp only [Bool.and_eq_true, decide_eq_true_eq] at he
    dsimp only [jm_step] at hs
    obtain ⟨⟨⟨hd, rfl⟩, hi⟩, hn⟩ := he
    split at hs
    · intro H locs ls hP hD hS hl
      exact lv_istore_n hx hb hd hi hl hn rfl (fun ls hl => (hs H locs ls hP hD hS hl))
    · exact hs.elim
  case lstore n =>
    dsimp only [jm_okE, jm_dec] at he
    simp only [Bool.and_eq_true, decide_eq_true_eq] at he
    dsimp only [jm_step] at hs
    obtain ⟨⟨⟨hd, rfl⟩, rfl⟩, hn⟩ := he
    split at hs
    · intro H locs ls hP hD hS hl
      exact lv_lstore hx hb hd hl hn rfl (fun ls hl => (hs H locs ls hP hD hS hl))
    · exact hs.elim
  case lstore_n n =>
    dsimp only [jm_okE, jm_dec] at he
    simp only [Bool.and_eq_true, decide_eq_true_eq] at he
    dsimp only [jm_step] at hs
    obtain ⟨⟨⟨hd, rfl⟩, hi⟩, hn⟩ := he
    split at hs
    · intro H locs ls hP hD hS hl
      exact lv_lstore_n hx hb hd hi hl hn rfl (fun ls hl => (hs H locs ls hP hD hS hl))
    · exact hs.elim
  case astore n =>
    dsimp only [jm_okE, jm_dec] at he
    simp only [Bool.and_eq_true, decide_eq_true_eq] at he
    dsimp only [jm_step] at hs
    obtain ⟨⟨⟨hd, rfl⟩, rfl⟩, hn⟩ := he
    split at hs
    · intro H locs ls hP hD hS hl
      exact lv_astore hx hb hd hl hn rfl (fun ls hl => (hs H locs ls hP hD hS hl))
    · intro H locs ls hP hD hS hl
      exact lv_astoreN hx hb hd hl hn rfl (fun ls hl => (hs H locs ls hP hD hS hl))
    · exact hs.elim
  case astore_n n =>
    dsimp only [jm_okE, jm_dec] at he
    simp only [Bool.and_eq_true, decide_eq_true_eq] at he
    dsimp only [jm_step] at hs
    obtain ⟨⟨⟨hd, rfl⟩, hi⟩, hn⟩ := he
    split at hs
    · intro H locs ls hP hD hS hl
      exact lv_astore_n hx hb hd hi hl hn rfl (fun ls hl => (hs H locs ls hP hD hS hl))
    · intro H locs ls hP hD hS hl
      exact lv_astore_nN hx hb hd hi hl hn rfl (fun ls hl => (hs H locs ls hP hD hS hl))
    · exact hs.elim
  case iinc n k =>
    dsimp only [jm_okE, jm_dec] at he
    simp only [Bool.and_eq_true, decide_eq_true_eq] at he
    dsimp only [jm_step] at hs
    obtain ⟨⟨⟨⟨hd, rfl⟩, rfl⟩, hn⟩, hv⟩ := he
    split at hs
    · rename_i x hg
      intro H locs ls hP hD hS hl
      exact jm_iinc hx hb hd hl (jm_lv_at hl hg) (by rw [hv]) hn (fun ls hl => (hs H locs ls hP hD hS hl))
    · exact hs.elim
  case iadd  =>
    dsimp only [jm_okE, jm_dec] at he
    simp only [Bool.and_eq_true, decide_eq_true_eq] at he
    dsimp only [jm_step] at hs
    obtain ⟨hd, rfl⟩ := he
    split at hs
    · intro H locs ls hP hD hS hl
      exact lv_iadd hx hb hd (hs H locs ls hP hD hS hl)
    · exact hs.elim
  case isub  =>
    dsimp only [jm_okE, jm_dec] at he
    simp only [Bool.and_eq_true, decide_eq_true_eq] at he
    dsimp only [jm_step] at hs
    obtain ⟨hd, rfl⟩ := he
    split at hs
    · intro H locs ls hP hD hS hl
      exact lv_isub hx hb hd (hs H locs ls hP hD hS hl)
    · exact hs.elim
  case imul  =>
    dsimp only [jm_okE, jm_dec] at he
    simp only [Bool.and_eq_true, decide_eq_true_eq] at he
    dsimp only [jm_step] at hs
    obtain ⟨hd, rfl⟩ := he
    split at hs
    · intro H locs ls hP hD hS hl
      exact lv_imul hx hb hd (hs H locs ls hP hD hS hl)
    · exact hs.elim
  case iand  =>
    dsimp only [jm_okE, jm_dec] at he
    simp only [Bool.and_eq_true, decide_eq_true_eq] at he
    dsimp only [jm_step] at hs
    obtain ⟨hd, rfl⟩ := he
    split at hs
    · intro H locs ls hP hD hS hl
      exact lv_iand hx hb hd (hs H locs ls hP hD hS hl)
    · exact hs.elim
  case ior  =>
    dsimp only [jm_okE, jm_dec] at he
    simp only [Bool.and_eq_true, decide_eq_true_eq] at he
    dsimp only [jm_step] at hs
    obtain ⟨hd, rfl⟩ := he
    split at hs
    · intro H locs ls hP hD hS hl
      exact lv_ior hx hb hd (hs H locs ls hP hD hS hl)
    · exact hs.elim
  case ixor  =>
    dsimp only [jm_okE, jm_dec] at he
    simp only [Bool.and_eq_true, decide_eq_true_eq] at he
    dsimp only [jm_step] at hs
    obtain ⟨hd, rfl⟩ := he
    split at hs
    · intro H locs ls hP hD hS hl
      exact lv_ixor hx hb hd (hs H locs ls hP hD hS hl)
    · exact hs.elim
  case ishl  =>
    dsimp only [jm_okE, jm_dec] at he
    simp only [Bool.and_eq_true, decide_eq_true_eq] at he
    dsimp only [jm_step] at hs
    obtain ⟨hd, rfl⟩ := he
    split at hs
    · intro H locs ls hP hD hS hl
      exact lv_ishl hx hb hd (hs H locs ls hP hD hS hl)
    · exact hs.elim
  case ishr  =>
    dsimp only [jm_okE, jm_dec] at he
    simp only [Bool.and_eq_true, decide_eq_true_eq] at he
    dsimp only [jm_step] at hs
    obtain ⟨hd, rfl⟩ := he
    split at hs
    · intro H locs ls hP hD hS hl
      exact lv_ishr hx hb hd (hs H locs ls hP hD hS hl)
    · exact hs.elim
  case ineg  =>
    dsimp only [jm_okE, jm_dec] at he
    simp only [Bool.and_eq_true, decide_eq_true_eq] at he
    dsimp only [jm_step] at hs
    obtain ⟨hd, rfl⟩ := he
    split at hs
    · intro H locs ls hP hD hS hl
      exact lv_ineg hx hb hd (hs H locs ls hP hD hS hl)
    · exact hs.elim
  case ladd  =>
    dsimp only [jm_okE, jm_dec] at he
    simp only [Bool.and_eq_true, decide_eq_true_eq] at he
    dsimp only [jm_step] at hs
    obtain ⟨hd, rfl⟩ := he
    split at hs
    · intro H locs ls hP hD hS hl
      exact lv_ladd hx hb hd (hs H locs ls hP hD hS hl)
    · exact hs.elim
  case lsub  =>
    dsimp only [jm_okE, jm_dec] at he
    simp only [Bool.and_eq_true, decide_eq_true_eq] at he
    dsimp only [jm_step] at hs
    obtain ⟨hd, rfl⟩ := he
    split at hs
    · intro H locs ls hP hD hS hl
      exact lv_lsub hx hb hd (hs H locs ls hP hD hS hl)
    · exact hs.elim
  case lmul  =>
    dsimp only [jm_okE, jm_dec] at he
    simp only [Bool.and_eq_true, decide_eq_true_eq] at he
    dsimp only [jm_step] at hs
    obtain ⟨hd, rfl⟩ := he
    split at hs
    · intro H locs ls hP hD hS hl
      exact lv_lmul hx hb hd (hs H locs ls hP hD hS hl)
    · exact hs.elim
  case land  =>
    dsimp only [jm_okE, jm_dec] at he
    simp only [Bool.and_eq_true, decide_eq_true_eq] at he
    dsimp only [jm_step] at hs
    obtain ⟨hd, rfl⟩ := he
    split at hs
    · intro H locs ls hP hD hS hl
      exact lv_land hx hb hd (hs H locs ls hP hD hS hl)
    · exact hs.elim
  case lor  =>
    dsimp only [jm_okE, jm_dec] at he
    simp only [Bool.and_eq_true, decide_eq_true_eq] at he
    dsimp only [jm_step] at hs
    obtain ⟨hd, rfl⟩ := he
    split at hs
    · intro H locs ls hP hD hS hl
      exact lv_lor hx hb hd (hs H locs ls hP hD hS hl)
    · exact hs.elim
  case lxor  =>
    dsimp only [jm_okE, jm_dec] at he
    simp only [Bool.and_eq_true, decide_eq_true_eq] at he
    dsimp only [jm_step] at hs
    obtain ⟨hd, rfl⟩ := he
    split at hs
    · intro H locs ls hP hD hS hl
      exact lv_lxor hx hb hd (hs H locs ls hP hD hS hl)
    · exact hs.elim
  case lneg  =>
    dsimp only [jm_okE, jm_dec] at he
    simp only [Bool.and_eq_true, decide_eq_true_eq] at he
    dsimp only [jm_step] at hs
    obtain ⟨hd, rfl⟩ := he
    split at hs
    · intro H locs ls hP hD hS hl
      exact lv_lneg hx hb hd (hs H locs ls hP hD hS hl)
    · exact hs.elim
  case iushr  =>
    dsimp only [jm_okE, jm_dec] at he
    simp only [Bool.and_eq_true, decide_eq_true_eq] at he
    dsimp only [jm_step] at hs
    obtain ⟨hd, rfl⟩ := he
    split at hs
    · intro H locs ls hP hD hS hl
      exact lv_iushr hx hb hd rfl (hs H locs ls hP hD hS hl)
    · exact hs.elim
  case lushr  =>
    dsimp only [jm_okE, jm_dec] at he
    simp only [Bool.and_eq_true, decide_eq_true_eq] at he
    dsimp only [jm_step] at hs
    obtain ⟨hd, rfl⟩ := he
    split at hs
    · intro H locs ls hP hD hS hl
      exact lv_lushr hx hb hd rfl (hs H locs ls hP hD hS hl)
    · exact hs.elim
  case lshl  =>
    dsimp only [jm_okE, jm_dec] at he
    simp only [Bool.and_eq_true, decide_eq_true_eq] at he
    dsimp only [jm_step] at hs
    obtain ⟨hd, rfl⟩ := he
    split at hs
    · intro H locs ls hP hD hS hl
      exact lv_lshl hx hb hd rfl (hs H locs ls hP hD hS hl)
    · exact hs.elim
  case lshr  =>
    dsimp only [jm_okE, jm_dec] at he
    simp only [Bool.and_eq_true, decide_eq_true_eq] at he
    dsimp only [jm_step] at hs
    obtain ⟨hd, rfl⟩ := he
    split at hs
    · intro H locs ls hP hD hS hl
      exact lv_lshr hx hb hd rfl (hs H locs ls hP hD hS hl)
    · exact hs.elim
  case i2l  =>
    dsimp only [jm_okE, jm_dec] at he
    simp only [Bool.and_eq_true, decide_eq_true_eq] at he
    dsimp only [jm_step] at hs
    obtain ⟨hd, rfl⟩ := he
    split at hs
    · intro H locs ls hP hD hS hl
      exact lv_i2l hx hb hd rfl (hs H locs ls hP hD hS hl)
    · exact hs.elim
  case l2i  =>
    dsimp only [jm_okE, jm_dec] at he
    simp only [Bool.and_eq_true, decide_eq_true_eq] at he
    dsimp only [jm_step] at hs
    obtain ⟨hd, rfl⟩ := he
    split at hs
    · intro H locs ls hP hD hS hl
      exact lv_l2i hx hb hd rfl (hs H locs ls hP hD hS hl)
    · exact hs.elim
  case lcmp  =>
    dsimp only [jm_okE, jm_dec] at he
    simp only [Bool.and_eq_true, decide_eq_true_eq] at he
    dsimp only [jm_step] at hs
    obtain ⟨hd, rfl⟩ := he
    split at hs
    · intro H locs ls hP hD hS hl
      exact W.lcmp hx hb hd (hs H locs ls hP hD hS hl)
    · exact hs.elim
  case idiv  =>
    dsimp only [jm_okE, jm_dec] at he
    simp only [Bool.and_eq_true, decide_eq_true_eq] at he
    dsimp only [jm_step] at hs
    obtain ⟨hd, rfl⟩ := he
    split at hs
    · obtain ⟨hne, hs⟩ := hs
      intro H locs ls hP hD hS hl
      exact lv_idiv hx hb hd hne (hs H locs ls hP hD hS hl)
    · exact hs.elim
  case irem  =>
    dsimp only [jm_okE, jm_dec] at he
    simp only [Bool.and_eq_true, decide_eq_true_eq] at he
    dsimp only [jm_step] at hs
    obtain ⟨hd, rfl⟩ := he
    split at hs
    · obtain ⟨hne, hs⟩ := hs
      intro H locs ls hP hD hS hl
      exact lv_irem hx hb hd hne (hs H locs ls hP hD hS hl)
    · exact hs.elim
  case ldiv  =>
    dsimp only [jm_okE, jm_dec] at he
    simp only [Bool.and_eq_true, decide_eq_true_eq] at he
    dsimp only [jm_step] at hs
    obtain ⟨hd, rfl⟩ := he
    split at hs
    · obtain ⟨hne, hs⟩ := hs
      intro H locs ls hP hD hS hl
      exact lv_ldiv hx hb hd hne (hs H locs ls hP hD hS hl)
    · exact hs.elim
  case lrem  =>
    dsimp only [jm_okE, jm_dec] at he
    simp only [Bool.and_eq_true, decide_eq_true_eq] at he
    dsimp only [jm_step] at hs
    obtain ⟨hd, rfl⟩ := he
    split at hs
    · obtain ⟨hne, hs⟩ := hs
      intro H locs ls hP hD hS hl
      exact lv_lrem hx hb hd hne (hs H locs ls hP hD hS hl)
    · exact hs.elim
  case dup  =>
    dsimp only [jm_okE, jm_dec] at he
    simp only [Bool.and_eq_true, decide_eq_true_eq] at he
    dsimp only [jm_step] at hs
    obtain ⟨hd, rfl⟩ := he
    split at hs
    · obtain ⟨h1, hs⟩ := hs
      intro H locs ls hP hD hS hl
      exact lv_dup hx hb hd h1 (hs H locs ls hP hD hS hl)
    · exact hs.elim
  case pop  =>
    dsimp only [jm_okE, jm_dec] at he
    simp only [Bool.and_eq_true, decide_eq_true_eq] at he
    dsimp only [jm_step] at hs
    obtain ⟨hd, rfl⟩ := he
    split at hs
    · obtain ⟨h1, hs⟩ := hs
      intro H locs ls hP hD hS hl
      exact lv_pop hx hb hd h1 (hs H locs ls hP hD hS hl)
    · exact hs.elim
  case dup_x1  =>
    dsimp only [jm_okE, jm_dec] at he
    simp only [Bool.and_eq_true, decide_eq_true_eq] at he
    dsimp only [jm_step] at hs
    obtain ⟨hd, rfl⟩ := he
    split at hs
    · obtain ⟨h1, h2, hs⟩ := hs
      intro H locs ls hP hD hS hl
      exact lv_dup_x1 hx hb hd h1 h2 (hs H locs ls hP hD hS hl)
    · exact hs.elim
  case dup_x2  =>
    dsimp only [jm_okE, jm_dec] at he
    simp only [Bool.and_eq_true, decide_eq_true_eq] at he
    dsimp only [jm_step] at hs
    obtain ⟨hd, rfl⟩ := he
    split at hs
    · obtain ⟨h1, h2, h3, hs⟩ := hs
      intro H locs ls hP hD hS hl
      exact lv_dup_x2 hx hb hd h1 h2 h3 (hs H locs ls hP hD hS hl)
    · exact hs.elim
  case dup2  =>
    dsimp only [jm_okE, jm_dec] at he
    simp only [Bool.and_eq_true, decide_eq_true_eq] at he
    dsimp only [jm_step] at hs
    obtain ⟨hd, rfl⟩ := he
    split at hs
    · intro H locs ls hP hD hS hl
      exact lv_dup2_2 hx hb hd rfl (hs H locs ls hP hD hS hl)
    · obtain ⟨h1, h2, hs⟩ := hs
      intro H locs ls hP hD hS hl
      exact lv_dup2_11 hx hb hd h1 h2 (hs H locs ls hP hD hS hl)
    · exact hs.elim
  case pop2  =>
    dsimp only [jm_okE, jm_dec] at he
    simp only [Bool.and_eq_true, decide_eq_true_eq] at he
    dsimp only [jm_step] at hs
    obtain ⟨hd, rfl⟩ := he
    split at hs
    · intro H locs ls hP hD hS hl
      exact lv_pop2_2 hx hb hd rfl (hs H locs ls hP hD hS hl)
    · obtain ⟨h1, h2, hs⟩ := hs
      intro H locs ls hP hD hS hl
      exact lv_pop2_11 hx hb hd h1 h2 (hs H locs ls hP hD hS hl)
    · exact hs.elim
  case goto off =>
    dsimp only [jm_okE, jm_dec] at he
    simp only [Bool.and_eq_true, decide_eq_true_eq] at he
    dsimp only [jm_step] at hs
    obtain ⟨⟨hd, rfl⟩, ht⟩ := he
    intro H locs ls hP hD hS hl
    exact lv_goto hx hb hd ht (hs H locs ls hP hD hS hl)
  case ifCond cd off =>
    dsimp only [jm_okE, jm_dec] at he
    simp only [Bool.and_eq_true, decide_eq_true_eq] at he
    obtain ⟨⟨hd, rfl⟩, ht⟩ := he
    cases cd
    · dsimp only [jm_step] at hs
      split at hs
      · intro H locs ls hP hD hS hl
        exact lv_if_eq hx hb hd ht (fun q => hs.1 q H locs ls hP hD hS hl) (fun q => hs.2 q H locs ls hP hD hS hl)
      · exact hs.elim
    · dsimp only [jm_step] at hs
      split at hs
      · intro H locs ls hP hD hS hl
        exact lv_if_ne hx hb hd ht (fun q => hs.2 q H locs ls hP hD hS hl) (fun q => hs.1 q H locs ls hP hD hS hl)
      · exact hs.elim
    · dsimp only [jm_step] at hs
      split at hs
      · intro H locs ls hP hD hS hl
        exact lv_if_lt hx hb hd ht (fun q => hs.1 q H locs ls hP hD hS hl) (fun q => hs.2 q H locs ls hP hD hS hl)
      · exact hs.elim
    · dsimp only [jm_step] at hs
      split at hs
      · intro H locs ls hP hD hS hl
        exact lv_if_ge hx hb hd ht (fun q => hs.1 q H locs ls hP hD hS hl) (fun q => hs.2 q H locs ls hP hD hS hl)
      · exact hs.elim
    · dsimp only [jm_step] at hs
      split at hs
      · intro H locs ls hP hD hS hl
        exact lv_if_gt hx hb hd ht (fun q => hs.1 q H locs ls hP hD hS hl) (fun q => hs.2 q H locs ls hP hD hS hl)
      · exact hs.elim
    · dsimp only [jm_step] at hs
      split at hs
      · intro H locs ls hP hD hS hl
        exact lv_if_le hx hb hd ht (fun q => hs.1 q H locs ls hP hD hS hl) (fun q => hs.2 q H locs ls hP hD hS hl)
      · exact hs.elim
  case if_icmp cd off =>
    dsimp only [jm_okE, jm_dec] at he
    simp only [Bool.and_eq_true, decide_eq_true_eq] at he
    obtain ⟨⟨hd, rfl⟩, ht⟩ := he
    cases cd
    · dsimp only [jm_step] at hs
      split at hs
      · intro H locs ls hP hD hS hl
        exact lv_icmp_eq hx hb hd ht (fun q => hs.1 q H locs ls hP hD hS hl) (fun q => hs.2 q H locs ls hP hD hS hl)
      · exact hs.elim
    · dsimp only [jm_step] at hs
      split at hs
      · intro H locs ls hP hD hS hl
        exact lv_icmp_ne hx hb hd ht (fun q => hs.2 q H locs ls hP hD hS hl) (fun q => hs.1 q H locs ls hP hD hS hl)
      · exact hs.elim
    · dsimp only [jm_step] at hs
      split at hs
      · intro H locs ls hP hD hS hl
        exact lv_icmp_lt hx hb hd ht (fun q => hs.1 q H locs ls hP hD hS hl) (fun q => hs.2 q H locs ls hP hD hS hl)
      · exact hs.elim
    · dsimp only [jm_step] at hs
      split at hs
      · intro H locs ls hP hD hS hl
        exact lv_icmp_ge hx hb hd ht (fun q => hs.1 q H locs ls hP hD hS hl) (fun q => hs.2 q H locs ls hP hD hS hl)
      · exact hs.elim
    · dsimp only [jm_step] at hs
      split at hs
      · intro H locs ls hP hD hS hl
        exact lv_icmp_gt hx hb hd ht (fun q => hs.1 q H locs ls hP hD hS hl) (fun q => hs.2 q H locs ls hP hD hS hl)
      · exact hs.elim
    · dsimp only [jm_step] at hs
      split at hs
      · intro H locs ls hP hD hS hl
        exact lv_icmp_le hx hb hd ht (fun q => hs.1 q H locs ls hP hD hS hl) (fun q => hs.2 q H locs ls hP hD hS hl)
      · exact hs.elim
  case ifnull off =>
    dsimp only [jm_okE, jm_dec] at he
    simp only [Bool.and_eq_true, decide_eq_true_eq] at he
    dsimp only [jm_step] at hs
    obtain ⟨⟨hd, rfl⟩, ht⟩ := he
    split at hs
    · intro H locs ls hP hD hS hl
      exact lv_ifnull hx hb hd (hs H locs ls hP hD hS hl)
    · intro H locs ls hP hD hS hl
      exact lv_ifnullN hx hb hd ht (hs H locs ls hP hD hS hl)
    · exact hs.elim
  case ifnonnull off =>
    dsimp only [jm_okE, jm_dec] at he
    simp only [Bool.and_eq_true, decide_eq_true_eq] at he
    dsimp only [jm_step] at hs
    obtain ⟨⟨hd, rfl⟩, ht⟩ := he
    split at hs
    · intro H locs ls hP hD hS hl
      exact lv_ifnonnull hx hb hd ht (hs H locs ls hP hD hS hl)
    · intro H locs ls hP hD hS hl
      exact lv_ifnonnullN hx hb hd (hs H locs ls hP hD hS hl)
    · exact hs.elim
  case tableswitch d lo2 hi offs =>
    dsimp only [jm_okE, jm_dec] at he
    simp only [Bool.and_eq_true, decide_eq_true_eq] at he
    dsimp only [jm_step] at hs
    obtain ⟨hd, -⟩ := he
    split at hs
    · obtain ⟨tgt, hq, hs⟩ := hs
      intro H locs ls hP hD hS hl
      rcases hq with ⟨q1, q2⟩ | ⟨q1, q2, off, q3, q4⟩
      · exact lv_tableOut hx hb hd q1 q2 (hs H locs ls hP hD hS hl)
      · exact lv_tableIn hx hb hd q1 q2 q3 q4 (hs H locs ls hP hD hS hl)
    · exact hs.elim
  case getfield i =>
    dsimp only [jm_okE, jm_dec] at he
    simp only [Bool.and_eq_true, decide_eq_true_eq] at he
    dsimp only [jm_step] at hs
    obtain ⟨⟨hd, rfl⟩, hf⟩ := he
    cases hc : jm_cl[a1]? with
    | none => rw [hc] at hf; exact absurd hf (by simp)
    | some z =>
      rw [hc] at hf
      simp only [Bool.and_eq_true, decide_eq_true_eq] at hf
      split at hs
      · obtain ⟨ho, hs⟩ := hs
        split at hs
        · rename_i ht; exact jm_sget h hc hf.1 (jm_wd_in hf.2) hd ho (by rw [ht]; rfl) hs
        · rename_i ht; obtain ⟨z, hz, hs⟩ := hs; exact jm_sget h hc hf.1 (jm_wd_in hf.2) hd ho (by rw [ht, ← hz]; rfl) hs
        · rename_i ht; obtain ⟨z, hz, hs⟩ := hs; exact jm_sget h hc hf.1 (jm_wd_in hf.2) hd ho (by rw [ht, ← hz]; rfl) hs
        · rename_i ht; exact jm_sget h hc hf.1 (jm_wd_in hf.2) hd ho (by rw [ht]; rfl) hs
        · rename_i ht; exact jm_sget h hc hf.1 (jm_wd_in hf.2) hd ho (by rw [ht]; rfl) hs
        · exact hs.elim
      · exact hs.elim
  case putfield i =>
    dsimp only [jm_okE, jm_dec] at he
    simp only [Bool.and_eq_true, decide_eq_true_eq] at he
    dsimp only [jm_step] at hs
    obtain ⟨⟨hd, rfl⟩, hf⟩ := he
    cases hc : jm_cl[a1]? with
    | none => rw [hc] at hf; exact absurd hf (by simp)
    | some z =>
      rw [hc] at hf
      simp only [Bool.and_eq_true, Bool.or_eq_true, decide_eq_true_eq] at hf
      have hf2 := hf.2
      split at hs
      · rename_i ht
        split at hs
        · obtain ⟨ho, hs⟩ := hs
          exact jm_sput (m' := uJ m _ a2 _) h hc hf.1.1 (jm_wd_in hf.1.2) hf2 hd ho (by rw [ht]; rfl) (by rw [ht]; rfl) rfl rfl (by rw [ht]; simp [jm_val, uJ, uJA, va_up_self]) (fun j hj => jm_val_uJ hj) (fun b hb => jm_cell_uJA hb) hs
        · exact hs.elim
      · rename_i ht
        split at hs
        · obtain ⟨ho, hs⟩ := hs
          exact jm_sput (m' := uR m _ a2 _) h hc hf.1.1 (jm_wd_in hf.1.2) hf2 hd ho (by rw [ht]; rfl) (by rw [ht]; rfl) rfl rfl (by rw [ht]; simp [jm_val, uR, uRA, va_up_self, va_rf]) (fun j hj => jm_val_uR hj) (fun b hb => jm_cell_uRA hb) hs
        · obtain ⟨ho, hs⟩ := hs
          exact jm_sput (m' := uR m _ a2 _) h hc hf.1.1 (jm_wd_in hf.1.2) hf2 hd ho (by rw [ht]; rfl) (by rw [ht]; rfl) rfl rfl (by rw [ht]; simp [jm_val, uR, uRA, va_up_self, va_rf]) (fun j hj => jm_val_uR hj) (fun b hb => jm_cell_uRA hb) hs
        · exact hs.elim
      · rename_i ht
        split at hs
        · obtain ⟨ho, hs⟩ := hs
          exact jm_sput (m' := uR m _ a2 _) h hc hf.1.1 (jm_wd_in hf.1.2) hf2 hd ho (by rw [ht]; rfl) (by rw [ht]; rfl) rfl rfl (by rw [ht]; simp [jm_val, uR, uRA, va_up_self, va_rf]) (fun j hj => jm_val_uR hj) (fun b hb => jm_cell_uRA hb) hs
        · obtain ⟨ho, hs⟩ := hs
          exact jm_sput (m' := uR m _ a2 _) h hc hf.1.1 (jm_wd_in hf.1.2) hf2 hd ho (by rw [ht]; rfl) (by rw [ht]; rfl) rfl rfl (by rw [ht]; simp [jm_val, uR, uRA, va_up_self, va_rf]) (fun j hj => jm_val_uR hj) (fun b hb => jm_cell_uRA hb) hs
        · exact hs.elim
      · rename_i ht
        split at hs
        · obtain ⟨ho, hs⟩ := hs
          exact jm_sput (m' := uI m _ a2 _) h hc hf.1.1 (jm_wd_in hf.1.2) hf2 hd ho (by rw [ht]; rfl) (by rw [ht]; rfl) rfl rfl (by rw [ht]; simp [jm_val, uI, uA, va_up_self]) (fun j hj => jm_val_uI hj) (fun b hb => jm_cell_uA hb) hs
        · exact hs.elim
      · rename_i ht
        split at hs
        · obtain ⟨ho, h01, hs⟩ := hs
          exact jm_sput (m' := uI m _ a2 _) h hc hf.1.1 (jm_wd_in hf.1.2) hf2 hd ho (by rw [ht]; rcases h01 with rfl | rfl <;> rfl) (by rw [ht]; rcases h01 with rfl | rfl <;> rfl) rfl rfl (by rw [ht]; simp [jm_val, uI, uA, va_up_self]) (fun j hj => jm_val_uI hj) (fun b hb => jm_cell_uA hb) hs
        · exact hs.elim
      · exact hs.elim
  case iaload  =>
    dsimp only [jm_okE, jm_dec] at he
    simp only [Bool.and_eq_true, decide_eq_true_eq] at he
    dsimp only [jm_step] at hs
    obtain ⟨⟨hd, rfl⟩, hq⟩ := he
    split at hs
    · cases hb1 : Nat.beq a1 1 with
      | true =>
        rw [hb1] at hs
        obtain ⟨rfl, hi, hs⟩ := hs
        have hlw : law = true := by
          simp only [Bool.or_eq_true, decide_eq_true_eq] at hq
          rcases hq with q | q
          · rw [q] at hb1; exact absurd hb1 (by decide)
          · exact q
        obtain ⟨w1, w2, w3⟩ := hlaw hlw
        intro H locs ls hP hD hS hl
        exact va_sld hx hb w1 w2 w3 hS hi hd (hs H locs ls hP hD hS hl)
      | false =>
        rw [hb1] at hs
        obtain ⟨ho, hi, hs⟩ := hs
        exact jm_siald h hd ho hi hs
    · exact hs.elim
  case arraylength  =>
    dsimp only [jm_okE, jm_dec] at he
    simp only [Bool.and_eq_true, decide_eq_true_eq] at he
    dsimp only [jm_step] at hs
    obtain ⟨⟨hd, rfl⟩, hq⟩ := he
    split at hs
    · cases hb1 : Nat.beq a1 1 with
      | true =>
        rw [hb1] at hs
        obtain ⟨rfl, hs⟩ := hs
        have hlw : law = true := by
          simp only [Bool.or_eq_true, decide_eq_true_eq] at hq
          rcases hq with q | q
          · rw [q] at hb1; exact absurd hb1 (by decide)
          · exact q
        obtain ⟨w1, w2, w3⟩ := hlaw hlw
        intro H locs ls hP hD hS hl
        exact va_slen hx hb w1 w2 w3 hS hd (hs H locs ls hP hD hS hl)
      | false =>
        rw [hb1] at hs
        obtain ⟨ho, h1, h2, hs⟩ := hs
        exact jm_slen h hd ho h1 h2 hs
    · exact hs.elim
  case laload  =>
    dsimp only [jm_okE, jm_dec] at he
    simp only [Bool.and_eq_true, decide_eq_true_eq] at he
    dsimp only [jm_step] at hs
    obtain ⟨hd, rfl⟩ := he
    split at hs
    · obtain ⟨ho, hi, hs⟩ := hs
      exact jm_slald h hd ho hi hs
    · exact hs.elim
  case baload  =>
    dsimp only [jm_okE, jm_dec] at he
    simp only [Bool.and_eq_true, decide_eq_true_eq] at he
    dsimp only [jm_step] at hs
    obtain ⟨hd, rfl⟩ := he
    split at hs
    · obtain ⟨ho, hi, hs⟩ := hs
      exact jm_szald h hd ho hi hs
    · exact hs.elim
  case iastore  =>
    dsimp only [jm_okE, jm_dec] at he
    simp only [Bool.and_eq_true, decide_eq_true_eq] at he
    dsimp only [jm_step] at hs
    obtain ⟨hd, rfl⟩ := he
    split at hs
    · obtain ⟨ho, hi, hs⟩ := hs
      exact jm_siast h hd ho hi hs
    · exact hs.elim
  case lastore  =>
    dsimp only [jm_okE, jm_dec] at he
    simp only [Bool.and_eq_true, decide_eq_true_eq] at he
    dsimp only [jm_step] at hs
    obtain ⟨hd, rfl⟩ := he
    split at hs
    · obtain ⟨ho, hi, hs⟩ := hs
      exact jm_slast h hd ho hi hs
    · exact hs.elim
  case bastore  =>
    dsimp only [jm_okE, jm_dec] at he
    simp only [Bool.and_eq_true, decide_eq_true_eq] at he
    dsimp only [jm_step] at hs
    obtain ⟨hd, rfl⟩ := he
    split at hs
    · obtain ⟨ho, hi, h01, hs⟩ := hs
      exact jm_szast h hd ho hi h01 hs
    · exact hs.elim
  case aaload  =>
    dsimp only [jm_okE, jm_dec] at he
    simp only [Bool.and_eq_true, decide_eq_true_eq] at he
    dsimp only [jm_step] at hs
    obtain ⟨⟨hd, rfl⟩, hk⟩ := he
    split at hs
    · obtain ⟨ho, hi, z, hz, hs⟩ := hs
      exact jm_saald h hd hk ho hi (by rw [hz]; exact hs)
    · exact hs.elim
  case aastore  =>
    dsimp only [jm_okE, jm_dec] at he
    simp only [Bool.and_eq_true, decide_eq_true_eq] at he
    dsimp only [jm_step] at hs
    obtain ⟨⟨⟨hd, rfl⟩, rfl⟩, rfl⟩ := he
    split at hs
    · obtain ⟨ho, hi, hxo, hs⟩ := hs
      exact jm_saast h hd ho hi hxo hs
    · exact hs.elim
  case new i =>
    dsimp only [jm_okE, jm_dec] at he
    simp only [Bool.and_eq_true, decide_eq_true_eq] at he
    dsimp only [jm_step] at hs
    obtain ⟨⟨hd, rfl⟩, hf⟩ := he
    cases hc : jm_cl[a1]? with
    | none => rw [hc] at hf; exact absurd hf (by simp)
    | some z =>
      rw [hc] at hf
      exact jm_snew h hc (jm_wd_in hf) hd hs.1 hs.2.1 hs.2.2
  case newarray t =>
    dsimp only [jm_okE, jm_dec] at he
    simp only [Bool.and_eq_true, decide_eq_true_eq] at he
    dsimp only [jm_step] at hs
    obtain ⟨⟨⟨⟨hd, rfl⟩, h1⟩, h2⟩, h3⟩ := he
    split at hs
    · obtain ⟨q1, q2, q3, q4, q5⟩ := hs
      exact jm_snewa h h1 h2 h3 hd q1 q2 q3 q4 q5
    · exact hs.elim
  case anewarray i =>
    dsimp only [jm_okE, jm_dec] at he
    simp only [Bool.and_eq_true, decide_eq_true_eq] at he
    dsimp only [jm_step] at hs
    obtain ⟨⟨⟨hd, rfl⟩, rfl⟩, h3⟩ := he
    split at hs
    · obtain ⟨q1, q2, q3, q4, q5⟩ := hs
      exact jm_sanew h (jm_wd_in h3) hd q1 q2 q3 q4 q5
    · exact hs.elim
  case multianewarray i d =>
    dsimp only [jm_okE, jm_dec] at he
    simp only [Bool.and_eq_true, decide_eq_true_eq] at he
    dsimp only [jm_step] at hs
    obtain ⟨⟨⟨hd, rfl⟩, rfl⟩, h3⟩ := he
    split at hs
    · obtain ⟨q1, q2, q3, q4, q5, q6, q7⟩ := hs
      exact jm_smna h (jm_wd_in h3) hd q1 q2 q3 q4 q5 q6 q7
    · exact hs.elim
  case invokevirtual i =>
    dsimp only [jm_okE, jm_dec] at he
    simp only [Bool.and_eq_true, decide_eq_true_eq] at he
    dsimp only [jm_step] at hs
    obtain ⟨⟨hd, rfl⟩, hcl⟩ := he
    obtain ⟨c1, c2, c3, c4, c5, c6, c7, c8⟩ := jm_call_of hcl
    obtain ⟨ho, hW, hln, a, b, Q, q1, q2, hC, kk⟩ := hs
    split at ho
    · rename_i o As heq
      rw [heq] at hC
      have hlen : As.length + 1 = a2 := by
        have := congrArg List.length heq
        simp only [List.length_reverse, List.length_take, List.length_cons] at this
        omega
      have e : st = As.reverse ++ .ref o :: st.drop a2 := by
        have := jm_take (st := st) (n := a2)
        rw [heq] at this
        rw [List.reverse_cons, List.append_assoc] at this
        exact this.symm
      dsimp only at c8
      rw [← hlen] at c8
      rw [e]
      exact jm_scallV h c1 c2 c3 c4 c5 c6 c7 (jm_narg c8) hd ho hW q1 q2 hC kk
    · exact ho.elim
  case invokespecial i =>
    dsimp only [jm_okE, jm_dec] at he
    simp only [Bool.and_eq_true, decide_eq_true_eq] at he
    dsimp only [jm_step] at hs
    obtain ⟨⟨hd, rfl⟩, hcl⟩ := he
    cases hb1 : Nat.beq a1 999 with
    | true =>
      rw [hb1] at hs hcl
      dsimp only [cond] at hs hcl
      simp only [Bool.and_eq_true, decide_eq_true_eq] at hcl
      split at hs
      · obtain ⟨hW, hs⟩ := hs
        intro H locs ls hP hD hS hl
        refine W.objInit hx hb hown (hts _ (jm_wd_in hcl.1.1)) (hts _ (jm_wd_in jm_obj1)) (hts _ jm_obj2) rfl (by rw [hml]; exact hl.1) rfl hd (Nat.le_trans hcl.1.2 hfr) (by show 2 * 0 + _ + 12 ≤ _; have := hcl.2; omega) ?_
        exact (hs H locs ls hP hD hS hl)
      · exact hs.elim
    | false =>
      rw [hb1] at hs hcl
      dsimp only [cond] at hs hcl
      obtain ⟨c1, c2, c3, c4, c5, c6, c7, c8⟩ := jm_call_of hcl
      obtain ⟨ho, hW, hln, a, b, Q, q1, q2, hC, kk⟩ := hs
      dsimp only at c8
      split at ho
      · rename_i o As heq
        rw [heq] at hC
        have hlen : As.length + 1 = a2 := by
          have := congrArg List.length heq
          simp only [List.length_reverse, List.length_take, List.length_cons] at this
          omega
        have e : st = As.reverse ++ .ref o :: st.drop a2 := by
          have := jm_take (st := st) (n := a2)
          rw [heq] at this
          rw [List.reverse_cons, List.append_assoc] at this
          exact this.symm
        rw [← hlen] at c8
        rw [e]
        exact jm_scallI h c1 c2 c3 c4 c5 c6 c7 (jm_narg c8) hd hW q1 q2 hC kk
      · exact ho.elim
  case invokestatic i =>
    dsimp only [jm_okE, jm_dec] at he
    simp only [Bool.and_eq_true, decide_eq_true_eq] at he
    dsimp only [jm_step] at hs
    obtain ⟨⟨hd, rfl⟩, hcl⟩ := he
    cases hb0 : Nat.blt a1 900 with
    | true =>
      rw [hb0] at hs hcl
      dsimp only [cond] at hs hcl
      obtain ⟨c1, c2, c3, c4, c5, c8⟩ := jm_call_of hcl
      obtain ⟨hW, hln, a, b, Q, q1, q2, hC, kk⟩ := hs
      have hlen : ((st.take a2).reverse).length = a2 := by
        simp only [List.length_reverse, List.length_take]
        omega
      have e : st = ((st.take a2).reverse).reverse ++ st.drop a2 := jm_take.symm
      rw [e]
      exact jm_scallS h c1 c2 c3 c4 c5 (by rw [hlen]; exact c8) hd hW q1 q2 hC kk
    | false =>
      rw [hb0] at hs hcl
      dsimp only [cond] at hs hcl
      simp only [Bool.and_eq_true, decide_eq_true_eq] at hcl
      obtain ⟨⟨hf1, hf2⟩, hcl⟩ := hcl
      have hlo2 : 38 ≤ R.locals := Nat.le_trans hf2 hlo
      cases hb1 : Nat.beq a1 900 with
      | true =>
        rw [hb1] at hs hcl
        dsimp only [cond] at hs hcl
        split at hs
        · obtain ⟨hW, hn1, hn2, hs⟩ := hs
          intro H locs ls hP hD hS hl
          exact va_mmax hx hb (by rw [hml]; exact hl.1.symm) hown (hts _ (jm_wd_in hcl)) (hts _ (jm_wd_in jm_mx1)) (hts _ (jm_wd_in jm_mth)) (hts _ jm_mx2) (Nat.le_trans hf1 hfr) (by omega) hn1 hn2 hd (hs H locs ls hP hD hS hl)
        · exact hs.elim
      | false =>
       rw [hb1] at hs hcl
       dsimp only [cond] at hs hcl
       cases hb2 : Nat.beq a1 901 with
       | true =>
        rw [hb2] at hs hcl
        dsimp only [cond] at hs hcl
        split at hs
        · obtain ⟨hW, hn1, hn2, hs⟩ := hs
          intro H locs ls hP hD hS hl
          exact va_mmin hx hb (by rw [hml]; exact hl.1.symm) hown (hts _ (jm_wd_in hcl)) (hts _ (jm_wd_in jm_mn1)) (hts _ (jm_wd_in jm_mth)) (hts _ jm_mn2) (Nat.le_trans hf1 hfr) (by omega) hn1 hn2 hd (hs H locs ls hP hD hS hl)
        · exact hs.elim
       | false =>
        rw [hb2] at hs hcl
        dsimp only [cond] at hs hcl
        cases hb4 : Nat.beq a1 903 with
        | true =>
         rw [hb4] at hs hcl
         dsimp only [cond] at hs hcl
         split at hs
         · obtain ⟨hW, hn1, hn2, hs⟩ := hs
           intro H locs ls hP hD hS hl
           exact va_mmin_long hx hb (by rw [hml]; exact hl.1.symm) hown (hts _ (jm_wd_in hcl)) (hts _ (jm_wd_in jm_ml1)) (hts _ (jm_wd_in jm_mth)) (hts _ jm_ml2) (Nat.le_trans hf1 hfr) (by omega) hn1 hn2 hd (hs H locs ls hP hD hS hl)
         · exact hs.elim
        | false =>
         rw [hb4] at hs hcl
         dsimp only [cond] at hs hcl
         cases hb5 : Nat.beq a1 904 with
         | true =>
          rw [hb5] at hs hcl
          dsimp only [cond] at hs hcl
          split at hs
          · obtain ⟨o0, o1, h1, h2, h3, h4, h5, hW, hs⟩ := hs
            exact jm_scopy h (jm_wd_in hcl) hf1 hf2 hd o0 o1 h1 h2 h3 h4 h5 hW hs
          · exact hs.elim
         | false =>
          rw [hb5] at hs
          exact hs.elim
  case ireturn  =>
    dsimp only [jm_okE, jm_dec] at he
    simp only [Bool.and_eq_true, decide_eq_true_eq] at he
    dsimp only [jm_step] at hs
    obtain ⟨⟨hd, rfl⟩, hr⟩ := he
    split at hs
    · exact hri _ _ _ _ _ _ hd hr hs
    · exact hs.elim
  case lreturn  =>
    dsimp only [jm_okE, jm_dec] at he
    simp only [Bool.and_eq_true, decide_eq_true_eq] at he
    dsimp only [jm_step] at hs
    obtain ⟨⟨hd, rfl⟩, hr⟩ := he
    split at hs
    · exact hrl _ _ _ _ _ _ hd hr hs
    · exact hs.elim
  case areturn  =>
    dsimp only [jm_okE, jm_dec] at he
    simp only [Bool.and_eq_true, decide_eq_true_eq] at he
    dsimp only [jm_step] at hs
    obtain ⟨⟨hd, rfl⟩, hr⟩ := he
    split at hs
    · refine hra _ _ _ _ _ _ hd ?_ hs
      split at hr
      · exact Or.inl ⟨_, rfl⟩
      · exact Or.inr ⟨_, rfl⟩
      · exact absurd hr (by decide)
    · exact hs.elim
  case return_  =>
    dsimp only [jm_okE, jm_dec] at he
    simp only [Bool.and_eq_true, decide_eq_true_eq] at he
    dsimp only [jm_step] at hs
    obtain ⟨⟨hd, rfl⟩, hr⟩ := he
    split at hs
    · exact hrv _ _ _ _ _ hd hr hs
    · exact hs.elim
  all_goals exact False.elim hs
end JM
