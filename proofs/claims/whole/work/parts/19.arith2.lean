/-! Borrows: numbers below 0 in ints and longs. -/
theorem sz_sub {a b : Nat} (ha : a < 2 ^ 31) (hb : b < 2 ^ 31) : (nI a - nI b).toInt = (a : Int) - b := by
  rw [Int32.toInt_sub, nI_toInt ha, nI_toInt hb]
  exact Int.bmod_eq_of_le (by omega) (by omega)
theorem sz_sub3 (a b c : Nat) : nI a - nI b - nI c = nI a - nI (b + c) := by
  rw [← nI_add]
  apply Int32.toBitVec_inj.mp
  simp only [Int32.toBitVec_sub, Int32.toBitVec_add, BitVec.sub_sub]
theorem sz_tn32 {x : Int32} {n k : Nat} (h : x.toInt = (n : Int) - k * 1073741824) : x.toBitVec.toNat % wB = n % wB := by
  have h1 : x.toInt = x.toBitVec.toInt := rfl
  rw [h1, BitVec.toInt_eq_toNat_cond] at h
  have h2 := x.toBitVec.isLt
  generalize x.toBitVec.toNat = z at *
  show z % 1073741824 = n % 1073741824
  split at h <;> omega
theorem sz_mask32 (x : Int32) : (x.toInt64 &&& 1073741823).toInt32 = nI (x.toBitVec.toNat % wB) := by
  have e : (x.toInt64 &&& 1073741823).toInt32 = x &&& 1073741823 := by
    apply Int32.toBitVec_inj.mp
    simp
  rw [e, pk_and x 30 (by decide)]
theorem lz_sub {a b : Nat} (ha : a < 2 ^ 62) (hb : b < 2 ^ 62) : (lN a - lN b).toInt = (a : Int) - b := by
  rw [Int64.toInt_sub, pk_lT (by omega), pk_lT (by omega)]
  exact Int.bmod_eq_of_le (by omega) (by omega)
theorem lz_sub3 (a b c : Nat) : lN a - lN b - lN c = lN a - lN (b + c) := by
  rw [← lN_add]
  apply Int64.toBitVec_inj.mp
  simp only [Int64.toBitVec_sub, Int64.toBitVec_add, BitVec.sub_sub]
theorem lz_mask {x : Int64} {n k : Nat} (hn : n < wB) (h : x.toInt = (n : Int) - k * 1073741824) : (x &&& 1073741823).toInt32 = nI n := by
  have h1 : x.toInt = x.toBitVec.toInt := rfl
  have h3 : x = lN x.toBitVec.toNat := by
    apply wb_inj
    rw [wb_tb]; simp
  rw [h1, BitVec.toInt_eq_toNat_cond] at h
  have h2 := x.toBitVec.isLt
  rw [h3, lm_mask h2]
  generalize x.toBitVec.toNat = z at *
  have hn : n < 1073741824 := hn
  have : z % 1073741824 = n := by
    split at h <;> omega
  rw [show z % wB = n from this]
theorem lz_shr {x : Int64} {n k : Nat} (hn : n < wB) (hk : k < 2 ^ 62) (h : x.toInt = (n : Int) - k * 1073741824) : -(x >>> ((30 : Int32).toInt64 &&& 63)) = lN k := by
  have hn : n < 1073741824 := hn
  have e : (x >>> ((30 : Int32).toInt64 &&& 63)).toInt = -(k : Int) := by
    have e0 : (x >>> ((30 : Int32).toInt64 &&& 63)).toInt = x.toInt >>> 30 := by
      have hD : (((30 : Int32).toInt64 &&& 63).toBitVec.smod 64).toNat = 30 := by decide
      rw [← hD]
      exact BitVec.toInt_sshiftRight ..
    rw [e0, h, Int.shiftRight_eq_div_pow]
    show ((n : Int) - k * 1073741824) / 1073741824 = -k
    omega
  apply Int64.toInt_inj.mp
  rw [Int64.toInt_neg, e, pk_lT (by omega)]
  have e2 : - -(k : Int) = k := by omega
  rw [e2]
  exact Int.bmod_eq_of_le (by omega) (by omega)
/-- the difference modulo M -/
theorem sub_modM {X Y M : Nat} (hM : 0 < M) (h : Y ≤ X) : (X - Y) % M + Y % M = X % M + (if X % M < Y % M then M else 0) := by
  have h1 := Nat.div_add_mod X M
  have h2 := Nat.div_add_mod Y M
  have h3 := Nat.mod_lt X hM
  have h4 := Nat.mod_lt Y hM
  generalize X % M = x at *
  generalize Y % M = y at *
  generalize X / M = q at *
  generalize Y / M = r at *
  by_cases hxy : x < y
  · rw [if_pos hxy]
    have hqr : r < q := by
      rcases Nat.lt_or_ge r q with g | g
      · exact g
      · have := Nat.mul_le_mul_left M g
        omega
    have e : X - Y = (M + x - y) + M * (q - r - 1) := by
      have e1 : M * q = M * (q - r - 1) + M * r + M := by
        rw [← Nat.mul_add, ← Nat.mul_succ]
        congr 1
        omega
      omega
    rw [e, Nat.add_mul_mod_self_left, Nat.mod_eq_of_lt (by omega)]
    omega
  · rw [if_neg hxy]
    have hqr : r ≤ q := by
      rcases Nat.lt_or_ge q r with g | g
      · have := Nat.mul_le_mul_left M (show q + 1 ≤ r from g)
        rw [Nat.mul_add, Nat.mul_one] at this
        omega
      · exact g
    have e : X - Y = (x - y) + M * (q - r) := by
      have e1 : M * q = M * (q - r) + M * r := by
        rw [← Nat.mul_add]
        congr 1
        omega
      omega
    rw [e, Nat.add_mul_mod_self_left, Nat.mod_eq_of_lt (by omega)]
    omega
/-- what is owed by the first i limbs -/
def wo (X Y i : Nat) : Nat := if X % wB ^ i < Y % wB ^ i then 1 else 0
theorem wo_le (X Y i : Nat) : wo X Y i ≤ 1 := by unfold wo; split <;> omega
/-- limb i of X - Y, and what is owed then -/
theorem wo_step {X Y : Nat} (h : Y ≤ X) (i : Nat) : wl X i + wo X Y (i + 1) * wB = wl (X - Y) i + (wl Y i + wo X Y i) := by
  have a1 := sub_modM (wB_pos i) h
  have a2 := sub_modM (wB_pos (i + 1)) h
  rw [wl_div (X - Y) i, wl_div X i, wl_div Y i] at a2
  have b1 : (if X % wB ^ i < Y % wB ^ i then wB ^ i else 0) = wo X Y i * wB ^ i := by
    unfold wo; split <;> simp
  have b2 : (if X % wB ^ i + wl X i * wB ^ i < Y % wB ^ i + wl Y i * wB ^ i then wB ^ (i + 1) else 0) = wo X Y (i + 1) * wB * wB ^ i := by
    unfold wo
    rw [wl_div X i, wl_div Y i]
    split
    · rw [Nat.one_mul, Nat.pow_succ, Nat.mul_comm]
    · simp
  rw [b1] at a1
  rw [b2] at a2
  have hpos := wB_pos i
  have key : (wl X i + wo X Y (i + 1) * wB) * wB ^ i = (wl (X - Y) i + (wl Y i + wo X Y i)) * wB ^ i := by
    rw [Nat.add_mul, Nat.add_mul, Nat.add_mul]
    omega
  exact Nat.eq_of_mul_eq_mul_right hpos key
theorem wo_next {X Y : Nat} (h : Y ≤ X) (i : Nat) : wo X Y (i + 1) = if wl X i < wl Y i + wo X Y i then 1 else 0 := by
  have h1 := wo_step h i
  have h2 := wo_le X Y (i + 1)
  have h3 : wl (X - Y) i < 1073741824 := wl_lt _ i
  have h4 : wl X i < 1073741824 := wl_lt _ i
  have h5 : wo X Y (i + 1) * wB = wo X Y (i + 1) * 1073741824 := rfl
  rw [h5] at h1
  split <;> omega
