/-! The law in pure words: its loop and its beginning. -/
theorem and15 (x : Int32) : ∃ c, c < 16 ∧ x &&& nI 15 = nI c := by
  refine ⟨(x &&& nI 15).toBitVec.toNat, ?_, ?_⟩
  · show (x.toBitVec &&& (nI 15).toBitVec).toNat < 16
    rw [BitVec.toNat_and]
    exact Nat.and_lt_two_pow (n := 4) _ (by decide)
  · apply Int32.toBitVec_inj.mp
    show (x &&& nI 15).toBitVec = BitVec.ofNat 32 (x &&& nI 15).toBitVec.toNat
    exact (BitVec.eq_of_toNat_eq (by rw [BitVec.toNat_ofNat]; exact Nat.mod_eq_of_lt (x &&& nI 15).toBitVec.isLt)).symm
theorem sub8 {L : Nat} (h : L ≤ 4097) : (nI L - nI 8).toInt = (L : Int) - 8 := by
  rw [Int32.toInt_sub, nI_toInt (by omega), nI_toInt (by decide)]
  exact Int.bmod_eq_of_le (by omega) (by omega)
theorem ts16 {Y : Nat → Prop} {x : Int32} {q : Nat} (hq : q < 16) (ex : x = nI q) (h : ∀ t, t = [120, 143, 156, 199, 326, 453, 526, 539, 583, 617, 720, 743, 807, 851, 978, 1051].getD q 0 → Y t) : ∃ tgt : Nat, (((x.toInt < 0 ∨ 15 < x.toInt) ∧ ((43 : Nat) : Int) + 1021 = (tgt : Int)) ∨ (¬ x.toInt < 0 ∧ ¬ 15 < x.toInt ∧ ∃ off : Int, (#[77, 100, 113, 156, 283, 410, 483, 496, 540, 574, 677, 700, 764, 808, 935, 1008] : Array Int)[(x.toInt - 0).toNat]? = some off ∧ ((43 : Nat) : Int) + off = (tgt : Int))) ∧ Y tgt := by
  subst ex
  match q, hq, h with
  | 0, _, h => exact ⟨120, Or.inr ⟨by decide, by decide, 77, rfl, rfl⟩, h _ rfl⟩
  | 1, _, h => exact ⟨143, Or.inr ⟨by decide, by decide, 100, rfl, rfl⟩, h _ rfl⟩
  | 2, _, h => exact ⟨156, Or.inr ⟨by decide, by decide, 113, rfl, rfl⟩, h _ rfl⟩
  | 3, _, h => exact ⟨199, Or.inr ⟨by decide, by decide, 156, rfl, rfl⟩, h _ rfl⟩
  | 4, _, h => exact ⟨326, Or.inr ⟨by decide, by decide, 283, rfl, rfl⟩, h _ rfl⟩
  | 5, _, h => exact ⟨453, Or.inr ⟨by decide, by decide, 410, rfl, rfl⟩, h _ rfl⟩
  | 6, _, h => exact ⟨526, Or.inr ⟨by decide, by decide, 483, rfl, rfl⟩, h _ rfl⟩
  | 7, _, h => exact ⟨539, Or.inr ⟨by decide, by decide, 496, rfl, rfl⟩, h _ rfl⟩
  | 8, _, h => exact ⟨583, Or.inr ⟨by decide, by decide, 540, rfl, rfl⟩, h _ rfl⟩
  | 9, _, h => exact ⟨617, Or.inr ⟨by decide, by decide, 574, rfl, rfl⟩, h _ rfl⟩
  | 10, _, h => exact ⟨720, Or.inr ⟨by decide, by decide, 677, rfl, rfl⟩, h _ rfl⟩
  | 11, _, h => exact ⟨743, Or.inr ⟨by decide, by decide, 700, rfl, rfl⟩, h _ rfl⟩
  | 12, _, h => exact ⟨807, Or.inr ⟨by decide, by decide, 764, rfl, rfl⟩, h _ rfl⟩
  | 13, _, h => exact ⟨851, Or.inr ⟨by decide, by decide, 808, rfl, rfl⟩, h _ rfl⟩
  | 14, _, h => exact ⟨978, Or.inr ⟨by decide, by decide, 935, rfl, rfl⟩, h _ rfl⟩
  | 15, _, h => exact ⟨1051, Or.inr ⟨by decide, by decide, 1008, rfl, rfl⟩, h _ rfl⟩
  | q + 16, hq, _ => omega
section LW2
variable {l : Launch} {D : va_G} {ca : Nat → ClassId} {b L : Nat} {xs : Nat → Int32} {X : jm_K} {ad rd : Nat → Nat} {nc ns : Nat}
theorem lw_loop (hX : lw_X l D ca b L xs X) (hL : L ≤ 4097) (hnc : nc ≤ 600000) (hns : ns ≤ 7302250) : ∀ (e i n : Nat) (m : jm_M), L ≤ i + 8 * e → 8 * n ≤ 15 * i → i ≤ 4105 → JS m ad rd n → X 28 (lw_lv b ad rd i) [] m nc ns := by
  intro e
  induction e with
  | zero =>
    intro i n m h1 h2 h3 h
    refine jm_run (hX _ ok_Lw_h) [] 10 ?_
    refine And.intro rfl (And.intro (fun _ => ⟨rfl, hnc, hns⟩) (fun g => ?_))
    have g : ¬ nI L - nI 8 < nI i := g
    rw [iltN (by omega), sub8 hL] at g
    omega
  | succ e ih =>
    intro i n m h1 h2 h3 h
    refine jm_run (hX _ ok_Lw_h) [(120, [0, 1, 2, 3]), (143, [0, 1, 2, 3]), (156, [0, 1, 2, 3]), (199, [0, 1, 2, 3]), (326, [0, 1, 2, 3]), (453, [0, 1, 2, 3]), (526, [0, 1, 2, 3]), (539, [0, 1, 2, 3]), (583, [0, 1, 2, 3]), (617, [0, 1, 2, 3]), (720, [0, 1, 2, 3]), (743, [0, 1, 2, 3]), (807, [0, 1, 2, 3]), (851, [0, 1, 2, 3]), (978, [0, 1, 2, 3]), (1051, [0, 1, 2, 3])] 20 ?_
    refine And.intro rfl (And.intro (fun _ => ⟨rfl, hnc, hns⟩) (fun g => ?_))
    have g : ¬ nI L - nI 8 < nI i := g
    rw [iltN (by omega), sub8 hL] at g
    have hv : ∀ k, k ≤ 7 → vp_in (nI i + nI k) L := fun k hk => by
      rw [nI_add]
      exact vin_of (N := L) rfl (by omega) (by omega)
    have hn : n + 15 < 2 ^ 31 := by omega
    have next : ∀ m2, JS m2 ad rd (n + 15) → X 1064 (lw_lv b ad rd i) [] m2 nc ns := fun m2 hJ => by
      refine jm_run (hX _ ok_Lw_h) [(28, [0, 1, 2, 3])] 5 ?_
      have := ih (i + 8) (n + 15) m2 (by omega) (by omega) (by omega) hJ
      have e8 : nI i + nI 8 = nI (i + 8) := nI_add i 8
      unfold lw_lv at this
      rw [← e8] at this
      exact this
    refine And.intro rfl (And.intro (by have := hv 0 (by decide); rw [nI_add] at this; exact this) ?_)
    obtain ⟨q, hq, eq⟩ := and15 (xs (nI i).toNatClampNeg)
    refine ts16 hq eq ?_
    intro t et
    match q, hq, et with
    | 0, hq, et => have et : t = 120 := et; subst et; exact lw_c0 hX hnc hns hv hn h next
    | 1, hq, et => have et : t = 143 := et; subst et; exact lw_c1 hX hnc hns hv hn h next
    | 2, hq, et => have et : t = 156 := et; subst et; exact lw_c2 hX hnc hns hv hn h next
    | 3, hq, et => have et : t = 199 := et; subst et; exact lw_c3 hX hnc hns hv hn h next
    | 4, hq, et => have et : t = 326 := et; subst et; exact lw_c4 hX hnc hns hv hn h next
    | 5, hq, et => have et : t = 453 := et; subst et; exact lw_c5 hX hnc hns hv hn h next
    | 6, hq, et => have et : t = 526 := et; subst et; exact lw_c6 hX hnc hns hv hn h next
    | 7, hq, et => have et : t = 539 := et; subst et; exact lw_c7 hX hnc hns hv hn h next
    | 8, hq, et => have et : t = 583 := et; subst et; exact lw_c8 hX hnc hns hv hn h next
    | 9, hq, et => have et : t = 617 := et; subst et; exact lw_c9 hX hnc hns hv hn h next
    | 10, hq, et => have et : t = 720 := et; subst et; exact lw_c10 hX hnc hns hv hn h next
    | 11, hq, et => have et : t = 743 := et; subst et; exact lw_c11 hX hnc hns hv hn h next
    | 12, hq, et => have et : t = 807 := et; subst et; exact lw_c12 hX hnc hns hv hn h next
    | 13, hq, et => have et : t = 851 := et; subst et; exact lw_c13 hX hnc hns hv hn h next
    | 14, hq, et => have et : t = 978 := et; subst et; exact lw_c14 hX hnc hns hv hn h next
    | 15, hq, et => have et : t = 1051 := et; subst et; exact lw_c15 hX hnc hns hv hn h next
    | q + 16, hq, _ => omega
end LW2
