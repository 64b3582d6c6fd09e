/-! Making the class's things, one by one: dm says which numbers are made, rf which references are set. -/
def RF (k f : Nat) : Option Nat :=
  if k < 100 then
    (if k = 16 then (if f < 9 then some (17 + f) else none) else if k = 26 then (if f < 9 then some (27 + f) else none) else if k = 36 then (if f < 3 then some (37 + f) else none) else if k = 40 then (if f < 108 then some (100 + 2 * f) else none) else if k = 41 then (if f < 9 then some (338 + 2 * f) else none) else if k = 42 then (if f < 3 then some (356 + 2 * f) else none)
     else (rfL.find? (fun q => q.1 == k && q.2.1 == f)).map (fun q => q.2.2))
  else if k % 2 = 0 ∧ f = 0 then some (k + 1) else none
def ST (m : jm_M) (ad : Nat → Nat) (dm : Nat → Prop) (rf : Nat → Nat → Prop) : Prop :=
  (∀ k, dm k → ad k ∈ m.1 ∧ m.2.1 (ad k) = kd k ∧ (k ≠ 1 → k ≠ 6 → m.2.2.1 (ad k) = fun _ => 0) ∧ m.2.2.2.1 (ad k) = fun _ => 0) ∧ (∀ i j, dm i → dm j → ad i = ad j → i = j) ∧ ∀ k f, rf k f → dm k ∧ ∃ k', RF k f = some k' ∧ dm k' ∧ m.2.2.2.2 (ad k) f = some (ad k')
/-- the ints and kinds of what was there -/
def IFr (m m' : jm_M) : Prop := ∀ a, a ∈ m.1 → a ∈ m'.1 ∧ m'.2.2.1 a = m.2.2.1 a ∧ m'.2.1 a = m.2.1 a
theorem IFr.rf {m : jm_M} : IFr m m := fun _ h => ⟨h, rfl, rfl⟩
theorem IFr.tr {m1 m2 m3 : jm_M} (h : IFr m1 m2) (g : IFr m2 m3) : IFr m1 m3 := fun a ha => ⟨(g a (h a ha).1).1, (g a (h a ha).1).2.1.trans (h a ha).2.1, (g a (h a ha).1).2.2.trans (h a ha).2.2⟩
theorem IFr.aN {m : jm_M} {q k n : Nat} (hq : q ∉ m.1) : IFr m (aN m q k n) := fun a ha => by
  have : a ≠ q := fun e => hq (e ▸ ha)
  exact ⟨List.mem_append_left _ ha, va_up_ne _ _ this, va_up_ne _ _ this⟩
theorem IFr.uR {m : jm_M} {a f : Nat} {x : Option Nat} : IFr m (uR m a f x) := fun _ h => ⟨h, rfl, rfl⟩
theorem IFr.ok {m m' : jm_M} {a c : Nat} (h : IFr m m') (o : jm_ok m a c) : jm_ok m' a c := ⟨(h a o.1).1, by rw [(h a o.1).2.2]; exact o.2⟩
theorem ST.ok {m : jm_M} {ad : Nat → Nat} {dm : Nat → Prop} {rf : Nat → Nat → Prop} (h : ST m ad dm rf) {k : Nat} (hk : dm k) : jm_ok m (ad k) (kd k).1 := ⟨(h.1 k hk).1, by rw [(h.1 k hk).2.1]⟩
theorem ST.mo {m : jm_M} {ad : Nat → Nat} {dm dm' : Nat → Prop} {rf rf' : Nat → Nat → Prop} (h : ST m ad dm rf) (h1 : ∀ k, dm' k ↔ dm k) (h2 : ∀ k f, rf' k f → rf k f) : ST m ad dm' rf' :=
  ⟨fun k hk => h.1 k ((h1 k).mp hk), fun i j hi hj => h.2.1 i j ((h1 i).mp hi) ((h1 j).mp hj), fun k f hr => by
    obtain ⟨a, k', b, c, d⟩ := h.2.2 k f (h2 k f hr)
    exact ⟨(h1 k).mpr a, k', b, (h1 k').mpr c, d⟩⟩
theorem ST.new {m : jm_M} {ad : Nat → Nat} {dm : Nat → Prop} {rf : Nat → Nat → Prop} {q k c n : Nat} (h : ST m ad dm rf) (hq : q ∉ m.1) (hk : ¬ dm k) (e : kd k = (c, n)) : ST (aN m q c n) (va_up ad k q) (fun i => dm i ∨ i = k) rf := by
  have hne : ∀ i, dm i → i ≠ k := fun i hi e => hk (e ▸ hi)
  have hnq : ∀ i, dm i → ad i ≠ q := fun i hi e => hq (e ▸ (h.1 i hi).1)
  refine ⟨fun i hi => ?_, fun i j hi hj eq => ?_, fun i f hr => ?_⟩
  · rcases hi with hi | hi
    · rw [va_up_ne _ _ (hne i hi)]
      obtain ⟨a1, a2, a3, a4⟩ := h.1 i hi
      exact ⟨List.mem_append_left _ a1, (va_up_ne _ _ (hnq i hi)).trans a2, fun w1 w2 => (va_up_ne _ _ (hnq i hi)).trans (a3 w1 w2), (va_up_ne _ _ (hnq i hi)).trans a4⟩
    · subst hi
      rw [va_up_self]
      exact ⟨List.mem_append_right _ (List.mem_singleton.mpr rfl), by rw [e]; exact va_up_self _ _ _, fun _ _ => va_up_self _ _ _, va_up_self _ _ _⟩
  · rcases hi with hi | hi <;> rcases hj with hj | hj
    · rw [va_up_ne _ _ (hne i hi), va_up_ne _ _ (hne j hj)] at eq
      exact h.2.1 i j hi hj eq
    · subst hj
      rw [va_up_ne _ _ (hne i hi), va_up_self] at eq
      exact absurd eq (hnq i hi)
    · subst hi
      rw [va_up_ne _ _ (hne j hj), va_up_self] at eq
      exact absurd eq.symm (hnq j hj)
    · rw [hi, hj]
  · obtain ⟨a, k', b, c, d⟩ := h.2.2 i f hr
    refine ⟨Or.inl a, k', b, Or.inl c, ?_⟩
    rw [va_up_ne _ _ (hne i a), va_up_ne _ _ (hne k' c)]
    show va_up m.2.2.2.2 q _ (ad i) f = _
    rw [va_up_ne _ _ (hnq i a)]; exact d
theorem ST.ref {m : jm_M} {ad : Nat → Nat} {dm : Nat → Prop} {rf : Nat → Nat → Prop} {k f k' : Nat} (h : ST m ad dm rf) (hk : dm k) (hk' : dm k') (e : RF k f = some k') : ST (uR m (ad k) f (some (ad k'))) ad dm (fun i g => rf i g ∨ (i = k ∧ g = f)) := by
  refine ⟨h.1, h.2.1, fun i g hr => ?_⟩
  show dm i ∧ ∃ k'', RF i g = some k'' ∧ dm k'' ∧ va_up m.2.2.2.2 (ad k) (va_up (m.2.2.2.2 (ad k)) f (some (ad k'))) (ad i) g = some (ad k'')
  rcases hr with hr | ⟨rfl, rfl⟩
  · obtain ⟨a, k'', b, c, d⟩ := h.2.2 i g hr
    refine ⟨a, k'', b, c, ?_⟩
    by_cases w : ad i = ad k
    · have wi := h.2.1 i k a hk w
      subst wi
      rw [va_up_self]
      by_cases w2 : g = f
      · subst w2
        rw [va_up_self]
        rw [e] at b
        cases b
        rfl
      · rw [va_up_ne _ _ w2]; exact d
    · rw [va_up_ne _ _ w]; exact d
  · exact ⟨hk, k', e, hk', by rw [va_up_self, va_up_self]⟩
theorem RF_o {i : Nat} : RF (100 + 2 * i) 0 = some (101 + 2 * i) := by
  unfold RF
  rw [if_neg (by omega), if_pos (by omega)]
  congr 1; omega
/-- a whole number with its limbs -/
theorem ST.wh {m : jm_M} {ad : Nat → Nat} {dm : Nat → Prop} {rf : Nat → Nat → Prop} {q p : Nat} (i : Nat) (h : ST m ad dm rf) (hq : q ∉ m.1) (hp : p ∉ (aN m q 4 0).1) (h1 : ¬ dm (100 + 2 * i)) (h2 : ¬ dm (101 + 2 * i)) : ∃ ad', (∀ k, dm k → ad' k = ad k) ∧ ad' (100 + 2 * i) = q ∧ ST (uR (aN (aN m q 4 0) p 50 13) q 0 (some p)) ad' (fun k => dm k ∨ k = 100 + 2 * i ∨ k = 101 + 2 * i) (fun k f => rf k f ∨ (k = 100 + 2 * i ∧ f = 0)) := by
  have s1 := h.new hq h1 (kd_o i)
  have s2 := s1.new (q := p) (k := 101 + 2 * i) hp (fun w => w.elim h2 (by omega)) (kd_p i)
  have s3 := s2.ref (k := 100 + 2 * i) (f := 0) (k' := 101 + 2 * i) (Or.inl (Or.inr rfl)) (Or.inr rfl) RF_o
  refine ⟨va_up (va_up ad (100 + 2 * i) q) (101 + 2 * i) p, fun k hk => ?_, ?_, ?_⟩
  · have w1 : k ≠ 101 + 2 * i := fun e => h2 (e ▸ hk)
    have w2 : k ≠ 100 + 2 * i := fun e => h1 (e ▸ hk)
    rw [va_up_ne _ _ w1, va_up_ne _ _ w2]
  · rw [va_up_ne _ _ (by omega), va_up_self]
  · rw [va_up_self, va_up_ne (va_up ad (100 + 2 * i) q) p (show 100 + 2 * i ≠ 101 + 2 * i by omega), va_up_self] at s3
    exact s3.mo (fun k => by constructor <;> intro w <;> (rcases w with w | w) <;> (try rcases w with w | w) <;> simp_all) (fun k f w => w)
theorem i13 : (13 : Int32).toNatClampNeg = 13 := by decide
section CT1
variable {l : Launch} {D : va_G} {ca : Nat → ClassId}
theorem c_Wh_init {m : jm_M} {h : Nat} (ok : jm_ok m h 4) : jm_C l D ca n_Wh_init [.ref h] m 1 13 (fun v m' => v = none ∧ ∃ p, p ∉ m.1 ∧ m' = uR (aN m p 50 13) h 0 (some p)) := by
  refine jm_C_of (cd := cd_Wh_init) (ini := true) (by decide +kernel) ok_Wh_init (fun _ => rfl) (Nat.le_of_ble_eq_true rfl) ?_
  intro X hX
  refine jm_run hX [] 20 ?_
  refine And.intro (Nat.le_of_ble_eq_true rfl) ?_
  refine And.intro (by decide) (And.intro (by decide) (And.intro (Nat.le_of_ble_eq_true rfl) (And.intro (by decide) (fun q hq => ?_))))
  refine And.intro (IFr.ok (IFr.aN hq) ok) ?_
  exact ⟨Nat.le_refl _, (by decide : 0 + (13 : Int32).toNatClampNeg ≤ 13), trivial, rfl, q, hq, rfl⟩
end CT1
