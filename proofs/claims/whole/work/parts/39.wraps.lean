theorem jm_C_mo {l : Launch} {D : va_G} {ca : Nat → ClassId} {k : Nat} {args : List Value} {m : jm_M} {a b : Nat} {Q Q' : Option Value → jm_M → Prop} (h : jm_C l D ca k args m a b Q) (hq : ∀ v m', Q v m' → Q' v m') : jm_C l D ca k args m a b Q' := by
  intro sz p e h1 h2 h3 s mi ar below hf hS hP hK
  obtain ⟨n, o, x1, x2, x3, ⟨⟨⟨v, m', y1, y2, y3⟩, y4⟩, x5⟩⟩ := h sz p e h1 h2 h3 s mi ar below hf hS hP hK
  exact ⟨n, o, x1, x2, x3, ⟨⟨v, m', y1, hq v m' y2, y3⟩, y4⟩, x5⟩
theorem lN_wB {x : Nat} (h : x < 2 ^ 63) : x < wB ^ 13 := Nat.lt_of_lt_of_le h (by decide)
section WW
variable {l : Launch} {D : va_G} {ca : Nat → ClassId}
theorem w_set {m : jm_M} {ad V : Nat → Nat} {i X : Nat} (S : SST m ad) (hV : WV m ad V) (hi : i < 132) (hX : X < wB ^ 13) : FRW ad m (whS m (ad (100 + 2 * i)) (ad (101 + 2 * i)) X) ∧ WV (whS m (ad (100 + 2 * i)) (ad (101 + 2 * i)) X) ad (va_up V i X) := ⟨FRW.wS hi, WV.set S hV hi hX⟩
theorem w_b1 {m : jm_M} {ad V : Nat → Nat} {i x : Nat} (S : SST m ad) (hV : WV m ad V) (hi : i < 132) (hx : x < 2 ^ 63) : jm_C l D ca n_Wh_become_1 [.ref (ad (100 + 2 * i)), .long (lN x)] m 0 0 (fun v m' => v = none ∧ FRW ad m m' ∧ WV m' ad (va_up V i x)) :=
  jm_C_mo (c_Wh_become_1 (S.wh i hi) (hV i hi).R hx) (fun v m' hq => by
    obtain ⟨rfl, rfl⟩ := hq
    exact ⟨rfl, w_set S hV hi (lN_wB hx)⟩)
theorem w_b2 {m : jm_M} {ad V : Nat → Nat} {i j : Nat} (S : SST m ad) (hV : WV m ad V) (hi : i < 132) (hj : j < 132) : jm_C l D ca n_Wh_become_2 [.ref (ad (100 + 2 * i)), .ref (ad (100 + 2 * j))] m 0 0 (fun v m' => v = none ∧ FRW ad m m' ∧ WV m' ad (va_up V i (V j))) :=
  jm_C_mo (c_Wh_become_2 (S.wh i hi) (hV i hi).R (S.wh j hj) (hV j hj) (S.ne (kin_p hi) (kin_o hj) (by omega))) (fun v m' hq => by
    obtain ⟨rfl, rfl⟩ := hq
    exact ⟨rfl, w_set S hV hi (hV j hj).1⟩)
theorem w_add {m : jm_M} {ad V : Nat → Nat} {i j F : Nat} (S : SST m ad) (hV : WV m ad V) (hi : i < 132) (hj : j < 132) (hij : i ≠ j) (hF : F < 1073741824) (hZ : V i + F * V j < wB ^ 13) : jm_C l D ca n_Wh_addTimes [.ref (ad (100 + 2 * i)), .ref (ad (100 + 2 * j)), .long (lN F)] m 0 0 (fun v m' => v = none ∧ FRW ad m m' ∧ WV m' ad (va_up V i (V i + F * V j))) :=
  jm_C_mo (c_Wh_addTimes (S.wh i hi) (hV i hi) (S.wh j hj) (hV j hj) (S.ne (kin_p hi) (kin_p hj) (by omega)) hF hZ) (fun v m' hq => by
    obtain ⟨rfl, rfl⟩ := hq
    exact ⟨rfl, w_set S hV hi hZ⟩)
theorem w_sub {m : jm_M} {ad V : Nat → Nat} {i j : Nat} (S : SST m ad) (hV : WV m ad V) (hi : i < 132) (hj : j < 132) (hij : i ≠ j) (hZ : V j ≤ V i) : jm_C l D ca n_Wh_subtract [.ref (ad (100 + 2 * i)), .ref (ad (100 + 2 * j))] m 0 0 (fun v m' => v = none ∧ FRW ad m m' ∧ WV m' ad (va_up V i (V i - V j))) :=
  jm_C_mo (c_Wh_subtract (S.wh i hi) (hV i hi) (S.wh j hj) (hV j hj) (S.ne (kin_p hi) (kin_p hj) (by omega)) hZ) (fun v m' hq => by
    obtain ⟨rfl, rfl⟩ := hq
    exact ⟨rfl, w_set S hV hi (Nat.lt_of_le_of_lt (Nat.sub_le _ _) (hV i hi).1)⟩)
theorem w_mul {m : jm_M} {ad V : Nat → Nat} {i j k : Nat} (S : SST m ad) (hV : WV m ad V) (hi : i < 132) (hj : j < 132) (hk : k < 132) (hij : i ≠ j) (hik : i ≠ k) (hZ : V j * V k < wB ^ 13) : jm_C l D ca n_Wh_becomeProduct [.ref (ad (100 + 2 * i)), .ref (ad (100 + 2 * j)), .ref (ad (100 + 2 * k))] m 0 0 (fun v m' => v = none ∧ FRW ad m m' ∧ WV m' ad (va_up V i (V j * V k))) :=
  jm_C_mo (c_Wh_becomeProduct (S.wh i hi) (hV i hi).R (S.wh j hj) (hV j hj) (S.wh k hk) (hV k hk) (S.ne (kin_p hi) (kin_p hj) (by omega)) (S.ne (kin_p hi) (kin_p hk) (by omega)) (S.ne (kin_p hi) (kin_o hj) (by omega)) (S.ne (kin_p hi) (kin_o hk) (by omega)) hZ) (fun v m' hq => by
    obtain ⟨rfl, rfl⟩ := hq
    exact ⟨rfl, w_set S hV hi hZ⟩)
theorem w_zero {m : jm_M} {ad V : Nat → Nat} {i : Nat} (S : SST m ad) (hV : WV m ad V) (hi : i < 132) : jm_C l D ca n_Wh_isZero [.ref (ad (100 + 2 * i))] m 0 0 (fun v m' => m' = m ∧ v = some (.int (if V i = 0 then 1 else 0))) := c_Wh_isZero (S.wh i hi) (hV i hi)
theorem w_cmp {m : jm_M} {ad V : Nat → Nat} {i j : Nat} (S : SST m ad) (hV : WV m ad V) (hi : i < 132) (hj : j < 132) : jm_C l D ca n_Wh_compareWith [.ref (ad (100 + 2 * i)), .ref (ad (100 + 2 * j))] m 0 0 (fun v m' => m' = m ∧ v = some (.int (cmpI (V i) (V j)))) := c_Wh_compareWith (S.wh i hi) (hV i hi) (S.wh j hj) (hV j hj)
end WW
theorem FRW.L {ad : Nat → Nat} {m m' : jm_M} {d : LD} (h : FRW ad m m') (S : SST m ad) (L : LnV m ad d) : LnV m' ad d := (FRs.W (p := fun k => 100 ≤ k) (fun k h1 _ => h1) h).L S (fun k hk h1 => by omega) L
theorem FRW.F {ad : Nat → Nat} {m m' : jm_M} {F : Nat → Nat → Nat} (h : FRW ad m m') (S : SST m ad) (hF : FlV m ad F) : FlV m' ad F := fun t ht c hc => by
  rw [((FRs.W (p := fun k => 100 ≤ k) (fun k h1 _ => h1) h).at S ht.kin (by unfold fk at ht; omega)).1]
  exact hF t ht c hc
theorem FRW.I {ad : Nat → Nat} {m m' : jm_M} (h : FRW ad m m') (S : SST m ad) {k : Nat} (hk : k < 43) : m'.2.2.1 (ad k) = m.2.2.1 (ad k) := ((FRs.W (p := fun k => 100 ≤ k) (fun k h1 _ => h1) h).at S (Or.inl hk) (by omega)).1
theorem FRs.V {ad V : Nat → Nat} {p : Nat → Prop} {m m' : jm_M} (h : FRs ad p m m') (S : SST m ad) (hp : ∀ k, p k → k < 100) (hV : WV m ad V) : WV m' ad V := fun i hi => by
  have h1 := (h.at S (kin_o hi) (fun q => by have := hp _ q; omega)).1
  have h2 := (h.at S (kin_p hi) (fun q => by have := hp _ q; omega)).1
  have hv := hV i hi
  exact ⟨hv.1, by rw [h2]; exact hv.2.1, by rw [h1]; exact hv.2.2⟩
