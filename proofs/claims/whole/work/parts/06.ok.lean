/-! A program that looks an instruction of a method over: it is the one that the code has, what it links is in the tables, it fits the room. -/
def jm_dec (cc : ByteArray) (e : jm_e) (n : Nat) : Bool := decide (decode cc e.1 = .ok (e.2.1, n)) && decide (e.2.2.1 = e.1 + n)
def jm_isN : Cond → Bool
  | .methodLinkNest .. => true
  | _ => false
def jm_nest : List Cond := lw_tbl.filter jm_isN
def jm_nw (q : Cond) (i : Nat) : Bool := decide (lw_tbl[i]? = some q) && jm_isN q
theorem jm_nw_in {q : Cond} {i : Nat} (h : jm_nw q i = true) : q ∈ jm_nest := by
  simp only [jm_nw, Bool.and_eq_true, decide_eq_true_eq] at h
  exact List.mem_filter.mpr ⟨List.mem_of_getElem? h.1, h.2⟩
/-- a call: what it links (k: 0 of an object, 1 a constructor, 2 static), its arguments, the room below it -/
def jm_call (own : String) (fr lo k i : Nat) (e : jm_e) : Bool :=
  decide (e.2.2.2.1 < jm_mtL.length) && decide ((jm_mt e.2.2.2.1).2.2.2.2.1 + 1 ≤ fr) && decide (8 + ((jm_mt e.2.2.2.1).2.2.1 + 11) + (jm_mt e.2.2.2.1).2.2.2.2.2 ≤ lo) && (jm_wd (.methodLink own i (jm_mt e.2.2.2.1).1) e.2.2.2.2.2.2.2.2 || jm_nw (.methodLinkNest own i (jm_mt e.2.2.2.1).1 "ShareSolve") e.2.2.2.2.2.2.2.2) && (match k with | 0 => decide ((jm_st e.2.2.2.1).1 = false) && decide ((jm_mt e.2.2.2.1).1.name ≠ "<init>") && decide ((jm_cl[e.2.2.2.2.2.1]?).map (fun q => q.1) = some (jm_mt e.2.2.2.1).1.cls) && decide ((parseMethodDescriptor (jm_mt e.2.2.2.1).1.desc).map (fun d => d.parameters.length + 1) = some e.2.2.2.2.1) | 1 => decide ((jm_st e.2.2.2.1).1 = false) && decide ((jm_mt e.2.2.2.1).1.name = "<init>") && decide ((jm_mt e.2.2.2.1).2.2.2.1 = none) && decide ((parseMethodDescriptor (jm_mt e.2.2.2.1).1.desc).map (fun d => d.parameters.length + 1) = some e.2.2.2.2.1) | _ => decide ((jm_st e.2.2.2.1).1 = true) && decide ((parseMethodDescriptor (jm_mt e.2.2.2.1).1.desc).map (fun d => d.parameters.length) = some e.2.2.2.2.1))
def jm_okE (own : String) (cc : ByteArray) (nL fr lo : Nat) (law ini : Bool) (ret : Option FieldType) (e : jm_e) : Bool :=
  match e.2.1 with
  | .iconst n => jm_dec cc e 1 && decide (Int32.ofInt n = e.2.2.2.2.2.2.1)
  | .bipush n => jm_dec cc e 2 && decide ((Int8.ofInt n).toInt32 = e.2.2.2.2.2.2.1)
  | .sipush n => jm_dec cc e 3 && decide ((Int16.ofInt n).toInt32 = e.2.2.2.2.2.2.1)
  | .lconst n => jm_dec cc e 1 && decide (Int64.ofNat (n : Nat) = e.2.2.2.2.2.2.2.1)
  | .ldc i => jm_dec cc e 2 && jm_wd (.constant own i e.2.2.2.2.2.2.1) e.2.2.2.2.2.2.2.2
  | .ldc_w i => jm_dec cc e 3 && jm_wd (.constant own i e.2.2.2.2.2.2.1) e.2.2.2.2.2.2.2.2
  | .ldc2_w i => jm_dec cc e 3 && jm_wd (.constantLong own i e.2.2.2.2.2.2.2.1) e.2.2.2.2.2.2.2.2
  | .iload i => jm_dec cc e 2 && decide (i = e.2.2.2.1)
  | .iload_n k => jm_dec cc e 1 && decide ((k : Nat) = e.2.2.2.1)
  | .istore i => jm_dec cc e 2 && decide (i = e.2.2.2.1) && decide (e.2.2.2.1 < nL)
  | .istore_n k => jm_dec cc e 1 && decide ((k : Nat) = e.2.2.2.1) && decide (e.2.2.2.1 < nL)
  | .lload i => jm_dec cc e 2 && decide (i = e.2.2.2.1)
  | .lload_n k => jm_dec cc e 1 && decide ((k : Nat) = e.2.2.2.1)
  | .lstore i => jm_dec cc e 2 && decide (i = e.2.2.2.1) && decide (e.2.2.2.1 + 1 < nL)
  | .lstore_n k => jm_dec cc e 1 && decide ((k : Nat) = e.2.2.2.1) && decide (e.2.2.2.1 + 1 < nL)
  | .aload i => jm_dec cc e 2 && decide (i = e.2.2.2.1)
  | .aload_n k => jm_dec cc e 1 && decide ((k : Nat) = e.2.2.2.1)
  | .astore i => jm_dec cc e 2 && decide (i = e.2.2.2.1) && decide (e.2.2.2.1 < nL)
  | .astore_n k => jm_dec cc e 1 && decide ((k : Nat) = e.2.2.2.1) && decide (e.2.2.2.1 < nL)
  | .iinc i n => jm_dec cc e 3 && decide (i = e.2.2.2.1) && decide (e.2.2.2.1 < nL) && decide (Int32.ofInt n = e.2.2.2.2.2.2.1)
  | .aconst_null => jm_dec cc e 1
  | .iadd => jm_dec cc e 1
  | .isub => jm_dec cc e 1
  | .imul => jm_dec cc e 1
  | .iand => jm_dec cc e 1
  | .ior => jm_dec cc e 1
  | .ixor => jm_dec cc e 1
  | .ishl => jm_dec cc e 1
  | .ishr => jm_dec cc e 1
  | .iushr => jm_dec cc e 1
  | .idiv => jm_dec cc e 1
  | .irem => jm_dec cc e 1
  | .ineg => jm_dec cc e 1
  | .ladd => jm_dec cc e 1
  | .lsub => jm_dec cc e 1
  | .lmul => jm_dec cc e 1
  | .land => jm_dec cc e 1
  | .lor => jm_dec cc e 1
  | .lxor => jm_dec cc e 1
  | .ldiv => jm_dec cc e 1
  | .lrem => jm_dec cc e 1
  | .lneg => jm_dec cc e 1
  | .lshl => jm_dec cc e 1
  | .lshr => jm_dec cc e 1
  | .lushr => jm_dec cc e 1
  | .i2l => jm_dec cc e 1
  | .l2i => jm_dec cc e 1
  | .lcmp => jm_dec cc e 1
  | .dup => jm_dec cc e 1
  | .pop => jm_dec cc e 1
  | .dup_x1 => jm_dec cc e 1
  | .dup_x2 => jm_dec cc e 1
  | .dup2 => jm_dec cc e 1
  | .pop2 => jm_dec cc e 1
  | .laload => jm_dec cc e 1
  | .baload => jm_dec cc e 1
  | .iastore => jm_dec cc e 1
  | .lastore => jm_dec cc e 1
  | .bastore => jm_dec cc e 1
  | .goto off => jm_dec cc e 3 && decide ((e.1 : Int) + off = ((e.2.2.2.1 : Nat) : Int))
  | .ifCond _ off => jm_dec cc e 3 && decide ((e.1 : Int) + off = ((e.2.2.2.1 : Nat) : Int))
  | .if_icmp _ off => jm_dec cc e 3 && decide ((e.1 : Int) + off = ((e.2.2.2.1 : Nat) : Int))
  | .ifnull off => jm_dec cc e 3 && decide ((e.1 : Int) + off = ((e.2.2.2.1 : Nat) : Int))
  | .ifnonnull off => jm_dec cc e 3 && decide ((e.1 : Int) + off = ((e.2.2.2.1 : Nat) : Int))
  | .tableswitch _ _ _ _ => jm_dec cc e (e.2.2.1 - e.1)
  | .getfield i => jm_dec cc e 3 && (match jm_cl[e.2.2.2.1]? with | some q => decide (e.2.2.2.2.1 < q.2.2) && jm_wd (.fieldLink own i q.1 (q.2.1 e.2.2.2.2.1).2.1 (q.2.1 e.2.2.2.2.1).2.2.1) e.2.2.2.2.2.2.2.2 | none => false)
  | .putfield i => jm_dec cc e 3 && (match jm_cl[e.2.2.2.1]? with | some q => decide (e.2.2.2.2.1 < q.2.2) && jm_wd (.fieldLink own i q.1 (q.2.1 e.2.2.2.2.1).2.1 (q.2.1 e.2.2.2.2.1).2.2.1) e.2.2.2.2.2.2.2.2 && (decide ((q.2.1 e.2.2.2.2.1).2.2.2 = false) || (ini && decide (own = q.1))) | none => false)
  | .new i => jm_dec cc e 3 && (match jm_cl[e.2.2.2.1]? with | some q => jm_wd (.classLink own i q.1) e.2.2.2.2.2.2.2.2 | none => false)
  | .newarray t => jm_dec cc e 2 && decide (50 ≤ e.2.2.2.1) && decide (e.2.2.2.1 ≤ 52) && decide (jm_AT e.2.2.2.1 = newarray.typeOf t)
  | .anewarray i => jm_dec cc e 3 && decide (e.2.2.2.1 = 53) && jm_wd (.classLink own i "ShareSolve$Whole") e.2.2.2.2.2.2.2.2
  | .multianewarray i d => jm_dec cc e 4 && decide (d = 2) && jm_wd (.classLink own i "[[I") e.2.2.2.2.2.2.2.2
  | .aaload => jm_dec cc e 1 && decide (e.2.2.2.1 = 53 ∨ e.2.2.2.1 = 54)
  | .aastore => jm_dec cc e 1 && decide (e.2.2.2.1 = 53) && decide (e.2.2.2.2.1 = 4)
  | .iaload => jm_dec cc e 1 && (decide (e.2.2.2.1 = 0) || law)
  | .arraylength => jm_dec cc e 1 && (decide (e.2.2.2.1 = 0) || law)
  | .invokevirtual i => jm_dec cc e 3 && jm_call own fr lo 0 i e
  | .invokespecial i => jm_dec cc e 3 && (bif Nat.beq e.2.2.2.1 999 then jm_wd (.methodLink own i objectInit) e.2.2.2.2.2.2.2.2 && decide (1 ≤ fr) && decide (20 ≤ lo) else jm_call own fr lo 1 i e)
  | .invokestatic i => jm_dec cc e 3 && (bif Nat.blt e.2.2.2.1 900 then jm_call own fr lo 2 i e else decide (1 ≤ fr) && decide (38 ≤ lo) && (bif Nat.beq e.2.2.2.1 900 then jm_wd (.methodLink own i Lib.Math.max.name) e.2.2.2.2.2.2.2.2 else bif Nat.beq e.2.2.2.1 901 then jm_wd (.methodLink own i Lib.Math.min.name) e.2.2.2.2.2.2.2.2 else bif Nat.beq e.2.2.2.1 903 then jm_wd (.methodLink own i Lib.MathLoose.min_long.x) e.2.2.2.2.2.2.2.2 else bif Nat.beq e.2.2.2.1 904 then jm_wd (.methodLink own i arraycopyName) e.2.2.2.2.2.2.2.2 else false))
  | .ireturn => jm_dec cc e 1 && decide (ret = some .int ∨ ret = some .boolean)
  | .lreturn => jm_dec cc e 1 && decide (ret = some .long)
  | .areturn => jm_dec cc e 1 && (match ret with | some (.object _) => true | some (.array _) => true | _ => false)
  | .return_ => jm_dec cc e 1 && decide (ret = none)
  | _ => false
