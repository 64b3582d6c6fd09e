/-! Flow: its rows of ints, by the numbers of the things: 15 scale, 17 .. moves, 27 .. leaves, 37 .. turns. -/
def fk (t : Nat) : Prop := t = 15 ∨ (17 ≤ t ∧ t < 26) ∨ (27 ≤ t ∧ t < 36) ∨ (37 ≤ t ∧ t < 40)
theorem fk.kin {t : Nat} (h : fk t) : kin t := Or.inl (by unfold fk at h; omega)
def FlV (m : jm_M) (ad : Nat → Nat) (F : Nat → Nat → Nat) : Prop := ∀ t, fk t → ∀ c, c < 9 → m.2.2.1 (ad t) c = nI (F t c)
theorem FlV.put {m : jm_M} {ad : Nat → Nat} {F G : Nat → Nat → Nat} {t c x : Nat} (S : SST m ad) (h : FlV m ad F) (ht : fk t) (hG1 : G t c = x) (hG2 : ∀ t' c', fk t' → c' < 9 → (t' ≠ t ∨ c' ≠ c) → G t' c' = F t' c') : FlV (uI m (ad t) c (nI x)) ad G := by
  intro t' ht' c' hc'
  show va_up m.2.2.1 (ad t) (va_up (m.2.2.1 (ad t)) c (nI x)) (ad t') c' = _
  by_cases e : t' = t
  · subst e
    rw [va_up_self]
    by_cases e2 : c' = c
    · subst e2; rw [va_up_self, hG1]
    · rw [va_up_ne _ _ e2, hG2 t' c' ht' hc' (Or.inr e2)]
      exact h t' ht c' hc'
  · rw [va_up_ne _ _ (S.ne ht'.kin ht.kin e), hG2 t' c' ht' hc' (Or.inl e)]
    exact h t' ht' c' hc'
theorem FlV.cg {m : jm_M} {ad : Nat → Nat} {F G : Nat → Nat → Nat} (h : FlV m ad F) (hG : ∀ t c, fk t → c < 9 → G t c = F t c) : FlV m ad G := fun t ht c hc => by rw [hG t c ht hc]; exact h t ht c hc
theorem FlV.get {m : jm_M} {ad : Nat → Nat} {F : Nat → Nat → Nat} {t c x : Nat} (h : FlV m ad F) (ht : fk t) (hc : c < 9) (e : F t c = x) : m.2.2.1 (ad t) c = nI x := by rw [← e]; exact h t ht c hc
theorem ite_iff {α : Type} {A B : Prop} [Decidable A] [Decidable B] {x y : α} (h : A ↔ B) : (if A then x else y) = if B then x else y := by
  by_cases ha : A
  · rw [if_pos ha, if_pos (h.mp ha)]
  · rw [if_neg ha, if_neg (fun q => ha (h.mpr q))]
theorem fkok {m : jm_M} {ad : Nat → Nat} (S : SST m ad) {t : Nat} (h : fk t) : jm_ok m (ad t) 50 ∧ (m.2.1 (ad t)).2 = 9 := by
  have hk : kd t = (50, 9) := by
    unfold fk at h
    have : ∀ t : Nat, t < 40 → (t = 15 ∨ (17 ≤ t ∧ t < 26) ∨ (27 ≤ t ∧ t < 36) ∨ (37 ≤ t ∧ t < 40)) → kd t = (50, 9) := by decide
    exact this t (by omega) h
  have h1 := S.ok t h.kin
  have h2 := S.len t h.kin
  rw [hk] at h1 h2
  exact ⟨h1, h2⟩
theorem fk_m {i : Nat} (h : i < 9) : fk (17 + i) := Or.inr (Or.inl (by omega))
theorem fk_l {i : Nat} (h : i < 9) : fk (27 + i) := Or.inr (Or.inr (Or.inl (by omega)))
theorem fk_t {i : Nat} (h : i < 3) : fk (37 + i) := Or.inr (Or.inr (Or.inr (by omega)))
/-! Euclid's steps -/
def eud : Nat → Nat → Nat → Nat
  | 0, a, _ => a
  | n + 1, a, b => if b = 0 then a else eud n b (a % b)
theorem eud_gcd : ∀ (k a b n : Nat), b < 2 ^ k → 2 * k ≤ n → eud n a b = Nat.gcd a b
  | 0, a, b, n, hb, _ => by
    have : b = 0 := by simpa using hb
    subst this
    rw [Nat.gcd_zero_right]
    cases n <;> simp [eud]
  | k + 1, a, b, n, hb, hn => by
    obtain ⟨n, rfl⟩ : ∃ n', n = n' + 2 := ⟨n - 2, by omega⟩
    by_cases h0 : b = 0
    · subst h0; rw [Nat.gcd_zero_right]; simp [eud]
    · have e1 : eud (n + 2) a b = eud (n + 1) b (a % b) := by rw [eud, if_neg h0]
      have g1 : Nat.gcd a b = Nat.gcd b (a % b) := by rw [Nat.gcd_comm a b, Nat.gcd_rec b a, Nat.gcd_comm]
      rw [e1, g1]
      by_cases h1 : a % b = 0
      · rw [h1, Nat.gcd_zero_right]; simp [eud]
      · have e2 : eud (n + 1) b (a % b) = eud n (a % b) (b % (a % b)) := by rw [eud, if_neg h1]
        have g2 : Nat.gcd b (a % b) = Nat.gcd (a % b) (b % (a % b)) := by rw [Nat.gcd_comm b, Nat.gcd_rec (a % b) b, Nat.gcd_comm]
        rw [e2, g2]
        have hr : a % b < b := Nat.mod_lt _ (by omega)
        have hs : b % (a % b) < a % b := Nat.mod_lt _ (by omega)
        have hd := Nat.div_add_mod b (a % b)
        have hq : 1 ≤ b / (a % b) := (Nat.one_le_div_iff (by omega)).mpr (by omega)
        have : a % b ≤ a % b * (b / (a % b)) := Nat.le_mul_of_pos_right _ hq
        refine eud_gcd k _ _ n ?_ (by omega)
        rw [Nat.pow_succ] at hb
        omega
section FL1
variable {l : Launch} {D : va_G} {ca : Nat → ClassId}
theorem c_Fl_cell {m : jm_M} {ad : Nat → Nat} {r c : Nat} (S : SST m ad) (h : 12 * r + c < 108) : jm_C l D ca n_Fl_cell [.ref (ad 2), .int (nI r), .int (nI c)] m 0 0 (fun v m' => m' = m ∧ v = some (.ref (ad (100 + 2 * (12 * r + c))))) := by
  refine jm_C_of (cd := cd_Fl_cell) (ini := false) (by decide +kernel) ok_Fl_cell (fun h => by cases h) (Nat.le_of_ble_eq_true rfl) ?_
  intro X hX
  have o2 : jm_ok m (ad 2) 1 := S.ok 2 (Or.inl (by decide))
  have o40 : jm_ok m (ad 40) 53 := S.ok 40 (Or.inl (by decide))
  have r40 : m.2.2.2.2 (ad 2) 8 = some (ad 40) := S.2.2.1 (2, 8, 40) (by decide)
  have l40 : (m.2.1 (ad 40)).2 = 108 := S.len 40 (Or.inl (by decide))
  have e : nI r * 12 + nI c = nI (12 * r + c) := by
    have e3 : (12 : Int32) = nI 12 := rfl
    rw [e3, pk_mul, nI_add, Nat.mul_comm]
  refine jm_run hX [] 20 ?_
  refine And.intro o2 ⟨some (ad 40), r40, And.intro o40 (And.intro ?_ ⟨some (ad (100 + 2 * (12 * r + c))), ?_, ?_⟩)⟩
  · show vp_in (nI r * 12 + nI c) (m.2.1 (ad 40)).2
    rw [e]; exact vin_of l40 h (by decide)
  · show m.2.2.2.2 (ad 40) (nI r * 12 + nI c).toNatClampNeg = _
    rw [e, nI_c (by omega)]
    exact S.2.2.2.2.2.2.2.1 _ h
  exact ⟨Nat.le_refl _, Nat.le_refl _, trivial, rfl, rfl⟩
theorem c_Fl_commonDivisor {m : jm_M} {a b : Nat} (ha : a < 2 ^ 31) (hb : b < 2 ^ 31) : jm_C l D ca n_Fl_commonDivisor [.int (nI a), .int (nI b)] m 0 0 (fun v m' => m' = m ∧ v = some (.int (nI (Nat.gcd a b)))) := by
  refine jm_C_of (cd := cd_Fl_commonDivisor) (ini := false) (by decide +kernel) ok_Fl_commonDivisor (fun h => by cases h) (Nat.le_of_ble_eq_true rfl) ?_
  intro X hX
  have loop : ∀ (e s x y : Nat), s + e = 64 → x < 2 ^ 31 → y < 2 ^ 31 → eud e x y = Nat.gcd a b → X 7 [(2, .int (nI x)), (3, .int (nI y)), (4, .int (nI s))] [] m 0 0 := by
    intro e
    induction e with
    | zero =>
      intro s x y hs hx hy he
      refine jm_run hX [] 20 ?_
      refine And.intro (fun _ => ?_) (fun g => ?_)
      · have he : x = Nat.gcd a b := he
        exact ⟨Nat.le_refl _, Nat.le_refl _, trivial, rfl, by rw [he]⟩
      · exact absurd (nI_le (show 64 ≤ s by omega) (by omega)) g
    | succ e ih =>
      intro s x y hs hx hy he
      refine jm_run hX [(7, [2, 3, 4])] 20 ?_
      refine And.intro (fun g => absurd g (nI_ge (show s < 64 by omega) (by decide))) (fun _ => ?_)
      rcases Nat.eq_zero_or_pos y with q | q
      · subst q
        refine And.intro (fun _ => ?_) (fun g => absurd nI_0 g)
        have he : x = Nat.gcd a b := by rw [eud, if_pos rfl] at he; exact he
        exact ⟨Nat.le_refl _, Nat.le_refl _, trivial, rfl, by rw [he]⟩
      · refine And.intro (fun g => absurd g (nI_ne0 q hy)) (fun _ => ?_)
        rw [eud, if_neg (by omega)] at he
        have hr := Nat.mod_lt x q
        have kk := ih (s + 1) y (x % y) (by omega) hy (by omega) he
        rw [← nI_1, ← pk_rem hx q hy] at kk
        exact And.intro (nI_ne0 q hy) kk
  refine jm_run hX [(7, [2, 3, 4])] 20 ?_
  exact loop 64 0 a b (by omega) ha hb (eud_gcd 31 a b 64 hb (by decide))
/-- a column of Flow's rows divided -/
theorem c_Fl_divideColumn {m0 : jm_M} {ad : Nat → Nat} {F : Nat → Nat → Nat} {f g : Nat} (S : SST m0 ad) (hF : FlV m0 ad F) (hf : f < 9) (hg1 : 1 ≤ g) (hg : g < 2 ^ 31) (hF31 : ∀ t, fk t → F t f < 2 ^ 31) : jm_C l D ca n_Fl_divideColumn [.ref (ad 2), .int (nI f), .int (nI g)] m0 0 0 (fun v m' => v = none ∧ FRs ad fk m0 m' ∧ FlV m' ad (fun t c => if c = f then F t c / g else F t c)) := by
  refine jm_C_of (cd := cd_Fl_divideColumn) (ini := false) (by decide +kernel) ok_Fl_divideColumn (fun h => by cases h) (Nat.le_of_ble_eq_true rfl) ?_
  intro X hX
  have ecf : (nI f).toNatClampNeg = f := nI_c (by omega)
  have third : ∀ (e i : Nat) (m : jm_M), i + e = 3 → FRs ad fk m0 m → FlV m ad (fun t c => if c = f ∧ t < 37 + i then F t c / g else F t c) → X 56 [(0, .ref (ad 2)), (1, .int (nI f)), (2, .int (nI g)), (3, .int (nI i))] [] m 0 0 := by
    intro e
    induction e with
    | zero =>
      intro i m hi hR hV
      refine jm_run hX [] 20 ?_
      refine And.intro (fun _ => ?_) (fun g => absurd (nI_le (show 3 ≤ i by omega) (by omega)) g)
      refine ⟨Nat.le_refl _, Nat.le_refl _, trivial, rfl, hR, hV.cg (fun t c ht hc => ite_iff ?_)⟩
      unfold fk at ht
      omega
    | succ e ih =>
      intro i m hi hR hV
      have Sm := hR.S S
      have ht : fk (37 + i) := fk_t (by omega)
      have o2 : jm_ok m (ad 2) 1 := Sm.ok 2 (Or.inl (by decide))
      have o36 : jm_ok m (ad 36) 54 := Sm.ok 36 (Or.inl (by decide))
      have r36 : m.2.2.2.2 (ad 2) 7 = some (ad 36) := Sm.2.2.1 (2, 7, 36) (by decide)
      have l36 : (m.2.1 (ad 36)).2 = 3 := Sm.len 36 (Or.inl (by decide))
      have q := fkok Sm ht
      have ev : m.2.2.1 (ad (37 + i)) (nI f).toNatClampNeg / nI g = nI (F (37 + i) f / g) := by
        rw [ecf, hV.get ht hf (if_neg (by omega)), pk_div (hF31 _ ht) hg1 hg]
      have kk := ih (i + 1) (uI m (ad (37 + i)) f (nI (F (37 + i) f / g))) (by omega) (hR.tr (FRs.uI ht.kin ht)) (hV.put Sm ht (if_pos ⟨rfl, by omega⟩) (fun t' c' h1 h2 h3 => ite_iff (by omega)))
      rw [← nI_1, ← ev] at kk
      refine jm_run hX [(56, [0, 1, 2, 3])] 20 ?_
      refine And.intro (fun g => absurd g (nI_ge (show i < 3 by omega) (by decide))) (fun _ => ?_)
      refine And.intro o2 ⟨some (ad 36), r36, And.intro o36 (And.intro (vin_of l36 (by omega) (by decide)) ⟨some (ad (37 + i)), ?_, ?_⟩)⟩
      · rw [nI_c (by omega)]; exact Sm.2.2.2.2.2.2.1 i (by omega)
      refine And.intro rfl (And.intro rfl (And.intro q.1 (And.intro (vin_of q.2 hf (by decide)) ?_)))
      refine And.intro (nI_ne0 hg1 hg) (And.intro q.1 (And.intro (vin_of q.2 hf (by decide)) ?_))
      have k2 : X 56 [(0, .ref (ad 2)), (1, .int (nI f)), (2, .int (nI g)), (3, .int (nI i + 1))] [] (uI m (ad (37 + i)) (nI f).toNatClampNeg (m.2.2.1 (ad (37 + i)) (nI f).toNatClampNeg / nI g)) 0 0 := by
        rw [ecf] at kk ⊢; exact kk
      exact k2
  have second : ∀ (e i : Nat) (m : jm_M), i + e = 9 → FRs ad fk m0 m → FlV m ad (fun t c => if c = f ∧ (t = 15 ∨ (17 ≤ t ∧ t < 17 + i) ∨ (27 ≤ t ∧ t < 27 + i)) then F t c / g else F t c) → X 18 [(0, .ref (ad 2)), (1, .int (nI f)), (2, .int (nI g)), (3, .int (nI i))] [] m 0 0 := by
    intro e
    induction e with
    | zero =>
      intro i m hi hR hV
      refine jm_run hX [(56, [0, 1, 2, 3])] 20 ?_
      refine And.intro (fun _ => ?_) (fun g => absurd (nI_le (show 9 ≤ i by omega) (by omega)) g)
      refine third 3 0 m (by omega) hR (hV.cg (fun t c ht hc => ite_iff ?_))
      unfold fk at ht
      omega
    | succ e ih =>
      intro i m hi hR hV
      have Sm := hR.S S
      have ht : fk (17 + i) := fk_m (by omega)
      have ht2 : fk (27 + i) := fk_l (by omega)
      have o2 : jm_ok m (ad 2) 1 := Sm.ok 2 (Or.inl (by decide))
      have o16 : jm_ok m (ad 16) 54 := Sm.ok 16 (Or.inl (by decide))
      have r16 : m.2.2.2.2 (ad 2) 5 = some (ad 16) := Sm.2.2.1 (2, 5, 16) (by decide)
      have l16 : (m.2.1 (ad 16)).2 = 9 := Sm.len 16 (Or.inl (by decide))
      have o26 : jm_ok m (ad 26) 54 := Sm.ok 26 (Or.inl (by decide))
      have r26 : m.2.2.2.2 (ad 2) 6 = some (ad 26) := Sm.2.2.1 (2, 6, 26) (by decide)
      have l26 : (m.2.1 (ad 26)).2 = 9 := Sm.len 26 (Or.inl (by decide))
      have q := fkok Sm ht
      have q2 := fkok Sm ht2
      have ev : m.2.2.1 (ad (17 + i)) f / nI g = nI (F (17 + i) f / g) := by
        rw [hV.get ht hf (if_neg (by omega)), pk_div (hF31 _ ht) hg1 hg]
      have hV1 : FlV (uI m (ad (17 + i)) f (nI (F (17 + i) f / g))) ad (fun t c => if c = f ∧ (t = 15 ∨ (17 ≤ t ∧ t < 17 + (i + 1)) ∨ (27 ≤ t ∧ t < 27 + i)) then F t c / g else F t c) := hV.put Sm ht (if_pos ⟨rfl, by omega⟩) (fun t' c' h1 h2 h3 => ite_iff (by omega))
      have hR1 : FRs ad fk m0 (uI m (ad (17 + i)) f (nI (F (17 + i) f / g))) := hR.tr (FRs.uI ht.kin ht)
      rw [← ev] at hV1 hR1
      generalize hm1 : uI m (ad (17 + i)) f (m.2.2.1 (ad (17 + i)) f / nI g) = m1 at hV1 hR1
      have ev2 : m1.2.2.1 (ad (27 + i)) f / nI g = nI (F (27 + i) f / g) := by
        rw [hV1.get ht2 hf (if_neg (by omega)), pk_div (hF31 _ ht2) hg1 hg]
      have kk := ih (i + 1) (uI m1 (ad (27 + i)) f (nI (F (27 + i) f / g))) (by omega) (hR1.tr (FRs.uI ht2.kin ht2)) (hV1.put (hR1.S S) ht2 (if_pos ⟨rfl, by omega⟩) (fun t' c' h1 h2 h3 => ite_iff (by omega)))
      rw [← nI_1, ← ev2, ← hm1] at kk
      refine jm_run hX [(18, [0, 1, 2, 3])] 40 ?_
      refine And.intro (fun g => absurd g (nI_ge (show i < 9 by omega) (by decide))) (fun _ => ?_)
      refine And.intro o2 ⟨some (ad 16), r16, And.intro o16 (And.intro (vin_of l16 (by omega) (by decide)) ⟨some (ad (17 + i)), ?_, ?_⟩)⟩
      · rw [nI_c (by omega)]; exact Sm.2.2.2.2.1 i (by omega)
      refine And.intro rfl (And.intro rfl (And.intro q.1 (And.intro (vin_of q.2 hf (by decide)) ?_)))
      refine And.intro (nI_ne0 hg1 hg) (And.intro q.1 (And.intro (vin_of q.2 hf (by decide)) ?_))
      refine And.intro o2 ⟨some (ad 26), r26, And.intro o26 (And.intro (vin_of l26 (by omega) (by decide)) ⟨some (ad (27 + i)), ?_, ?_⟩)⟩
      · show m.2.2.2.2 (ad 26) (nI i).toNatClampNeg = _
        rw [nI_c (by omega)]; exact Sm.2.2.2.2.2.1 i (by omega)
      refine And.intro rfl (And.intro rfl (And.intro q2.1 (And.intro (vin_of q2.2 hf (by decide)) ?_)))
      refine And.intro (nI_ne0 hg1 hg) (And.intro q2.1 (And.intro (vin_of q2.2 hf (by decide)) ?_))
      rw [← ecf] at kk
      rw [ecf] at kk
      have k2 : X 18 [(0, .ref (ad 2)), (1, .int (nI f)), (2, .int (nI g)), (3, .int (nI i + 1))] [] (uI (uI m (ad (17 + i)) (nI f).toNatClampNeg (m.2.2.1 (ad (17 + i)) (nI f).toNatClampNeg / nI g)) (ad (27 + i)) (nI f).toNatClampNeg ((uI m (ad (17 + i)) (nI f).toNatClampNeg (m.2.2.1 (ad (17 + i)) (nI f).toNatClampNeg / nI g)).2.2.1 (ad (27 + i)) (nI f).toNatClampNeg / nI g)) 0 0 := by
        rw [ecf]; exact kk
      exact k2
  refine jm_run hX [(18, [0, 1, 2, 3])] 30 ?_
  have o2 : jm_ok m0 (ad 2) 1 := S.ok 2 (Or.inl (by decide))
  have r15 : m0.2.2.2.2 (ad 2) 4 = some (ad 15) := S.2.2.1 (2, 4, 15) (by decide)
  have ht : fk 15 := Or.inl rfl
  have q := fkok S ht
  refine And.intro (fun h => ?_) (fun h => ?_)
  · refine And.intro o2 ⟨some (ad 15), r15, ?_⟩
    refine And.intro rfl (And.intro rfl (And.intro q.1 (And.intro (vin_of q.2 hf (by decide)) ?_)))
    refine And.intro (nI_ne0 hg1 hg) (And.intro q.1 (And.intro (vin_of q.2 hf (by decide)) ?_))
    have ev : m0.2.2.1 (ad 15) f / nI g = nI (F 15 f / g) := by
      rw [hF _ ht f hf, pk_div (hF31 _ ht) hg1 hg]
    have kk := second 9 0 (uI m0 (ad 15) f (nI (F 15 f / g))) (by omega) (FRs.uI ht.kin ht) (hF.put S ht (if_pos ⟨rfl, by omega⟩) (fun t' c' h1 h2 h3 => if_neg (by omega)))
    rw [← ev] at kk
    have k2 : X 18 [(0, .ref (ad 2)), (1, .int (nI f)), (2, .int (nI g)), (3, .int (nI 0))] [] (uI m0 (ad 15) (nI f).toNatClampNeg (m0.2.2.1 (ad 15) (nI f).toNatClampNeg / nI g)) 0 0 := by
      rw [ecf]; exact kk
    exact k2
  · have h1 : g = 1 := by
      rcases Nat.lt_or_ge 1 g with q | q
      · exact absurd (nI_lt q hg) h
      · omega
    refine ⟨Nat.le_refl _, Nat.le_refl _, trivial, rfl, FRs.rf, hF.cg (fun t c ht hc => ?_)⟩
    subst h1
    split
    · exact Nat.div_one _
    · rfl
end FL1
