/-- the lower half laid over the upper, k places of it -/
def cpH (g : Nat → Int32) (b k : Nat) : Nat → Int32 := fun i => if b ≤ i ∧ i < b + k then g (i - b) else g i
theorem cpH_0 (g : Nat → Int32) (b : Nat) : cpH g b 0 = g := by
  funext i
  unfold cpH
  rw [if_neg (by omega)]
theorem cpH_lo {g : Nat → Int32} {b k i : Nat} (hi : i < b) : cpH g b k i = g i := by
  unfold cpH
  rw [if_neg (by omega)]
theorem cpH_hi {g : Nat → Int32} {b k i : Nat} (hi : i < k) : cpH g b k (b + i) = g i := by
  unfold cpH
  rw [if_pos (by omega), Nat.add_sub_cancel_left]
theorem cpH_s (g : Nat → Int32) {b k : Nat} (hk : k < b) : va_up (cpH g b k) (b + k) (cpH g b k k) = cpH g b (k + 1) := by
  rw [cpH_lo hk]
  funext i
  by_cases w : i = b + k
  · subst w
    rw [va_up_self, cpH_hi (by omega)]
  · rw [va_up_ne _ _ w]
    unfold cpH
    by_cases w2 : b ≤ i ∧ i < b + k
    · rw [if_pos w2, if_pos (by omega)]
    · rw [if_neg w2, if_neg (by omega)]
section RB25
variable {l : Launch} {D : va_G} {ca : Nat → ClassId}
abbrev pF (k : Nat) : Prop := (1 ≤ k ∧ k ≤ 10) ∨ k = 33
/-- where freeze stands: these of the rows are laid so far -/
def FZ (m0 : jm_M) (rd : Nat → Nat) (c : Nat → Nat) (m : jm_M) : Prop := FM rd pF m0 m ∧ m.2.2.1 (rd 33) = va_up (m0.2.2.1 (rd 33)) 1 (m0.2.2.1 (rd 33) 1 + 1) ∧ ∀ k, 1 ≤ k → k ≤ 10 → m.2.2.1 (rd k) = cpH (m0.2.2.1 (rd k)) (hlf k) (c k)
theorem FZ.up {m0 m : jm_M} {rd : Nat → Nat} {c : Nat → Nat} {a i : Nat} {x : Int32} (S0 : MST m0 rd) (h : FZ m0 rd c m) (ha : 1 ≤ a ∧ a ≤ 10) (hc : c a < hlf a) (hi : i = hlf a + c a) (hx : x = m.2.2.1 (rd a) (c a)) : FZ m0 rd (va_up c a (c a + 1)) (uI m (rd a) i x) := by
  have S := h.1.S S0
  have ka : mkin a := Or.inl (by omega)
  obtain ⟨h1, h2, h3⟩ := h
  refine ⟨h1.tr (FM.uI ka (Or.inl ha)), ?_, fun k q1 q2 => ?_⟩
  · show va_up m.2.2.1 (rd a) _ (rd 33) = _
    rw [va_up_ne _ _ (S.ne (Or.inr (Or.inr (Or.inr rfl))) ka (by omega))]; exact h2
  · show va_up m.2.2.1 (rd a) (va_up (m.2.2.1 (rd a)) i x) (rd k) = _
    by_cases w : k = a
    · subst w
      rw [va_up_self, hx, h3 k q1 q2, hi, cpH_s _ hc, va_up_self]
    · rw [va_up_ne _ _ (S.ne (Or.inl (by omega)) ka w), h3 k q1 q2, va_up_ne _ _ w]
theorem FZ.cg {m0 m : jm_M} {rd : Nat → Nat} {c c' : Nat → Nat} (h : FZ m0 rd c m) (hc : ∀ k, 1 ≤ k → k ≤ 10 → c' k = c k) : FZ m0 rd c' m := ⟨h.1, h.2.1, fun k q1 q2 => by rw [h.2.2 k q1 q2, hc k q1 q2]⟩
theorem ten {k : Nat} {p : Nat → Prop} (h1 : 1 ≤ k) (h2 : k ≤ 10) (a1 : p 1) (a2 : p 2) (a3 : p 3) (a4 : p 4) (a5 : p 5) (a6 : p 6) (a7 : p 7) (a8 : p 8) (a9 : p 9) (a10 : p 10) : p k := by
  rcases (show k = 1 ∨ k = 2 ∨ k = 3 ∨ k = 4 ∨ k = 5 ∨ k = 6 ∨ k = 7 ∨ k = 8 ∨ k = 9 ∨ k = 10 by omega) with z | z | z | z | z | z | z | z | z | z <;> subst z <;> assumption
def fzc (a b d e : Nat) (k : Nat) : Nat := [0, a, a, e, d, b, b, d, d, d, d].getD k 0
theorem c_Mo_freeze {m0 : jm_M} {rd : Nat → Nat} (S0 : MST m0 rd) : jm_C l D ca n_Mo_freeze [.ref (rd 0)] m0 0 0 (fun v m' => v = none ∧ FZ m0 rd hlf m') := by
  refine jm_C_of (cd := cd_Mo_freeze) (ini := false) (by decide +kernel) ok_Mo_freeze (fun h => by cases h) (Nat.le_of_ble_eq_true rfl) ?_
  intro X hX
  have o0 : ∀ {m : jm_M}, MST m rd → jm_ok m (rd 0) 6 := fun S => S.ok (Or.inl (by decide))
  have kk : ∀ k, k ≤ 10 → mkin k := fun k hk => Or.inl (by omega)
  have k33 : mkin 33 := Or.inr (Or.inr (Or.inr rfl))
  have hin : ∀ {m : jm_M} (k i N : Nat), MST m rd → k ≤ 10 → (mkd k).2 = N → i < N → N < 100 → vp_in (nI i) (m.2.1 (rd k)).2 := fun k i N S hk h1 h2 h3 => vin_of ((S.len (kk k hk)).trans h1) h2 (by omega)
  have loop3 : ∀ (e j : Nat), j + e = 3 → ∀ m, FZ m0 rd (fzc 1 18 9 j) m → X 169 [(0, .ref (rd 0)), (1, .int (nI j))] [] m 0 0 := by
    intro e
    induction e with
    | zero =>
      intro j hj m h
      have : j = 3 := by omega
      subst this
      refine jm_run hX [] 6 ?_
      exact And.intro (fun _ => ⟨Nat.le_refl _, Nat.le_refl _, trivial, rfl, h⟩) (fun g => absurd (nI_le (Nat.le_refl 3) (by decide)) g)
    | succ e ih =>
      intro j hj m h
      have S := h.1.S S0
      have e3 : (3 : Int32) + nI j = nI (3 + j) := nI_add 3 j
      refine jm_run hX [(169, [0, 1])] 30 ?_
      refine And.intro (fun g => absurd (show nI 3 ≤ nI j from g) (nI_ge (by omega) (by omega))) (fun _ => ?_)
      refine And.intro (o0 S) ⟨some (rd 3), S.2.2 3 (kk 3 (by decide)) (by decide), And.intro (o0 S) ⟨some (rd 3), S.2.2 3 (kk 3 (by decide)) (by decide), And.intro (S.ok (kk 3 (by decide))) (And.intro (hin 3 j 6 S (by decide) rfl (by omega) (by decide)) (And.intro (S.ok (kk 3 (by decide))) (And.intro ?_ ?_)))⟩⟩
      · show vp_in ((3 : Int32) + nI j) (m.2.1 (rd 3)).2
        rw [e3]; exact hin 3 _ 6 S (by decide) rfl (by omega) (by decide)
      · have h2 := h.up (a := 3) (i := ((3 : Int32) + nI j).toNatClampNeg) (x := m.2.2.1 (rd 3) (nI j).toNatClampNeg) S0 (by decide) (show j < 3 by omega) (by rw [e3, nI_c (by omega)]; rfl) (by rw [nI_c (by omega)]; rfl)
        have k9 := ih (j + 1) (by omega) _ (h2.cg (fun k q1 q2 => ten (p := fun k => fzc 1 18 9 (j + 1) k = va_up (fzc 1 18 9 j) 3 (fzc 1 18 9 j 3 + 1) k) q1 q2 rfl rfl rfl rfl rfl rfl rfl rfl rfl rfl))
        rw [← nI_1] at k9
        exact k9
  have loop2 : ∀ (e j : Nat), j + e = 9 → ∀ m, FZ m0 rd (fzc 1 18 j 0) m → X 80 [(0, .ref (rd 0)), (1, .int (nI j))] [] m 0 0 := by
    intro e
    induction e with
    | zero =>
      intro j hj m h
      have : j = 9 := by omega
      subst this
      refine jm_run hX [(169, [0, 1])] 8 ?_
      exact And.intro (fun _ => loop3 3 0 (by omega) m h) (fun g => absurd (nI_le (Nat.le_refl 9) (by decide)) g)
    | succ e ih =>
      intro j hj m h
      have S := h.1.S S0
      have e9 : (9 : Int32) + nI j = nI (9 + j) := nI_add 9 j
      have hinR : ∀ (k : Nat), k ≤ 10 → (mkd k).2 = 18 → vp_in (nI j) (m.2.1 (rd k)).2 := fun k hk h1 => hin k j 18 S hk h1 (by omega) (by decide)
      have hinW : ∀ (k : Nat), k ≤ 10 → (mkd k).2 = 18 → vp_in ((9 : Int32) + nI j) (m.2.1 (rd k)).2 := fun k hk h1 => by rw [e9]; exact hin k _ 18 S hk h1 (by omega) (by decide)
      have ok : ∀ k, k ≤ 10 → (mkd k).1 = 50 → jm_ok m (rd k) 50 := fun k hk h1 => by have := S.ok (kk k hk); rw [h1] at this; exact this
      have rf : ∀ k, 1 ≤ k → k ≤ 10 → m.2.2.2.2 (rd 0) k = some (rd k) := fun k h1 h2 => S.2.2 k (kk k h2) (by omega)
      have up : ∀ {m : jm_M} {c : Nat → Nat} (a : Nat), FZ m0 rd c m → (1 ≤ a ∧ a ≤ 10) → hlf a = 9 → c a = j → FZ m0 rd (va_up c a (c a + 1)) (uI m (rd a) ((9 : Int32) + nI j).toNatClampNeg (m.2.2.1 (rd a) (nI j).toNatClampNeg)) := fun a h q1 q2 q3 => h.up S0 q1 (by omega) (by rw [e9, nI_c (by omega)]; omega) (by rw [nI_c (by omega), q3])
      refine jm_run hX [(80, [0, 1])] 90 ?_
      refine And.intro (fun g => absurd (show nI 9 ≤ nI j from g) (nI_ge (by omega) (by omega))) (fun _ => ?_)
      refine And.intro (o0 S) ⟨some (rd 4), rf 4 (by decide) (by decide), And.intro (o0 S) ⟨some (rd 4), rf 4 (by decide) (by decide), And.intro (ok 4 (by decide) rfl) (And.intro (hinR 4 (by decide) rfl) (And.intro (ok 4 (by decide) rfl) (And.intro (hinW 4 (by decide) rfl) ?_)))⟩⟩
      refine And.intro (o0 S) ⟨some (rd 7), rf 7 (by decide) (by decide), And.intro (o0 S) ⟨some (rd 7), rf 7 (by decide) (by decide), And.intro (ok 7 (by decide) rfl) (And.intro (hinR 7 (by decide) rfl) (And.intro (ok 7 (by decide) rfl) (And.intro (hinW 7 (by decide) rfl) ?_)))⟩⟩
      refine And.intro (o0 S) ⟨some (rd 8), rf 8 (by decide) (by decide), And.intro (o0 S) ⟨some (rd 8), rf 8 (by decide) (by decide), And.intro (ok 8 (by decide) rfl) (And.intro (hinR 8 (by decide) rfl) (And.intro (ok 8 (by decide) rfl) (And.intro (hinW 8 (by decide) rfl) ?_)))⟩⟩
      refine And.intro (o0 S) ⟨some (rd 9), rf 9 (by decide) (by decide), And.intro (o0 S) ⟨some (rd 9), rf 9 (by decide) (by decide), And.intro (ok 9 (by decide) rfl) (And.intro (hinR 9 (by decide) rfl) (And.intro (ok 9 (by decide) rfl) (And.intro (hinW 9 (by decide) rfl) ?_)))⟩⟩
      refine And.intro (o0 S) ⟨some (rd 10), rf 10 (by decide) (by decide), And.intro (o0 S) ⟨some (rd 10), rf 10 (by decide) (by decide), And.intro (ok 10 (by decide) rfl) (And.intro (hinR 10 (by decide) rfl) (And.intro (ok 10 (by decide) rfl) (And.intro (hinW 10 (by decide) rfl) ?_)))⟩⟩
      have h1 := up 4 h (by decide) rfl rfl
      have h2 := up 7 h1 (by decide) rfl rfl
      have h3 := up 8 h2 (by decide) rfl rfl
      have h4 := up 9 h3 (by decide) rfl rfl
      have h5 := up 10 h4 (by decide) rfl rfl
      have k9 := ih (j + 1) (by omega) _ (h5.cg (c' := fzc 1 18 (j + 1) 0) (fun k q1 q2 => by
        rcases (show k = 1 ∨ k = 2 ∨ k = 3 ∨ k = 4 ∨ k = 5 ∨ k = 6 ∨ k = 7 ∨ k = 8 ∨ k = 9 ∨ k = 10 by omega) with z | z | z | z | z | z | z | z | z | z <;> subst z <;> rfl))
      rw [← nI_1] at k9
      exact k9
  have loop1 : ∀ (e j : Nat), j + e = 18 → ∀ m, FZ m0 rd (fzc 1 j 0 0) m → X 36 [(0, .ref (rd 0)), (1, .int (nI j))] [] m 0 0 := by
    intro e
    induction e with
    | zero =>
      intro j hj m h
      have : j = 18 := by omega
      subst this
      refine jm_run hX [(80, [0, 1])] 8 ?_
      exact And.intro (fun _ => loop2 9 0 (by omega) m h) (fun g => absurd (nI_le (Nat.le_refl 18) (by decide)) g)
    | succ e ih =>
      intro j hj m h
      have S := h.1.S S0
      have e9 : (18 : Int32) + nI j = nI (18 + j) := nI_add 18 j
      have hinR : ∀ (k : Nat), k ≤ 10 → (mkd k).2 = 36 → vp_in (nI j) (m.2.1 (rd k)).2 := fun k hk h1 => hin k j 36 S hk h1 (by omega) (by decide)
      have hinW : ∀ (k : Nat), k ≤ 10 → (mkd k).2 = 36 → vp_in ((18 : Int32) + nI j) (m.2.1 (rd k)).2 := fun k hk h1 => by rw [e9]; exact hin k _ 36 S hk h1 (by omega) (by decide)
      have ok : ∀ k, k ≤ 10 → (mkd k).1 = 50 → jm_ok m (rd k) 50 := fun k hk h1 => by have := S.ok (kk k hk); rw [h1] at this; exact this
      have rf : ∀ k, 1 ≤ k → k ≤ 10 → m.2.2.2.2 (rd 0) k = some (rd k) := fun k h1 h2 => S.2.2 k (kk k h2) (by omega)
      have up : ∀ {m : jm_M} {c : Nat → Nat} (a : Nat), FZ m0 rd c m → (1 ≤ a ∧ a ≤ 10) → hlf a = 18 → c a = j → FZ m0 rd (va_up c a (c a + 1)) (uI m (rd a) ((18 : Int32) + nI j).toNatClampNeg (m.2.2.1 (rd a) (nI j).toNatClampNeg)) := fun a h q1 q2 q3 => h.up S0 q1 (by omega) (by rw [e9, nI_c (by omega)]; omega) (by rw [nI_c (by omega), q3])
      refine jm_run hX [(36, [0, 1])] 90 ?_
      refine And.intro (fun g => absurd (show nI 18 ≤ nI j from g) (nI_ge (by omega) (by omega))) (fun _ => ?_)
      refine And.intro (o0 S) ⟨some (rd 5), rf 5 (by decide) (by decide), And.intro (o0 S) ⟨some (rd 5), rf 5 (by decide) (by decide), And.intro (ok 5 (by decide) rfl) (And.intro (hinR 5 (by decide) rfl) (And.intro (ok 5 (by decide) rfl) (And.intro (hinW 5 (by decide) rfl) ?_)))⟩⟩
      refine And.intro (o0 S) ⟨some (rd 6), rf 6 (by decide) (by decide), And.intro (o0 S) ⟨some (rd 6), rf 6 (by decide) (by decide), And.intro (ok 6 (by decide) rfl) (And.intro (hinR 6 (by decide) rfl) (And.intro (ok 6 (by decide) rfl) (And.intro (hinW 6 (by decide) rfl) ?_)))⟩⟩
      have h1 := up 5 h (by decide) rfl rfl
      have h2 := up 6 h1 (by decide) rfl rfl
      have k9 := ih (j + 1) (by omega) _ (h2.cg (c' := fzc 1 (j + 1) 0 0) (fun k q1 q2 => by
        rcases (show k = 1 ∨ k = 2 ∨ k = 3 ∨ k = 4 ∨ k = 5 ∨ k = 6 ∨ k = 7 ∨ k = 8 ∨ k = 9 ∨ k = 10 by omega) with z | z | z | z | z | z | z | z | z | z <;> subst z <;> rfl))
      rw [← nI_1] at k9
      exact k9
  -- the start
  have hin33 : vp_in (nI 1) (m0.2.1 (rd 33)).2 := vin_of (S0.len k33) (by decide) (by decide)
  refine jm_run hX [(36, [0, 1])] 60 ?_
  refine And.intro (o0 S0) ⟨some (rd 33), S0.2.2 33 k33 (by decide), And.intro rfl (And.intro rfl (And.intro (S0.ok k33) (And.intro hin33 (And.intro (S0.ok k33) (And.intro hin33 ?_)))))⟩
  have z0 : FZ m0 rd (fzc 0 0 0 0) (uI m0 (rd 33) 1 (m0.2.2.1 (rd 33) 1 + 1)) := by
    refine ⟨FM.uI k33 (Or.inr rfl), ?_, fun k q1 q2 => ?_⟩
    · show va_up m0.2.2.1 (rd 33) _ (rd 33) = _
      rw [va_up_self]
    · show va_up m0.2.2.1 (rd 33) _ (rd k) = _
      rw [va_up_ne _ _ (S0.ne (kk k q2) k33 (by omega))]
      have : fzc 0 0 0 0 k = 0 := ten (p := fun k => fzc 0 0 0 0 k = 0) q1 q2 rfl rfl rfl rfl rfl rfl rfl rfl rfl rfl
      rw [this, cpH_0]
  have hink : ∀ k i, k ≤ 10 → (mkd k).2 = 2 → i < 2 → vp_in (nI i) (m0.2.1 (rd k)).2 := fun k i hk h1 h2 => hin k i 2 S0 hk h1 h2 (by decide)
  refine And.intro (o0 S0) ⟨some (rd 1), S0.2.2 1 (kk 1 (by decide)) (by decide), And.intro (o0 S0) ⟨some (rd 1), S0.2.2 1 (kk 1 (by decide)) (by decide), And.intro (S0.ok (kk 1 (by decide))) (And.intro (hink 1 0 (by decide) rfl (by decide)) (And.intro (S0.ok (kk 1 (by decide))) (And.intro (hink 1 1 (by decide) rfl (by decide)) ?_)))⟩⟩
  refine And.intro (o0 S0) ⟨some (rd 2), S0.2.2 2 (kk 2 (by decide)) (by decide), And.intro (o0 S0) ⟨some (rd 2), S0.2.2 2 (kk 2 (by decide)) (by decide), And.intro (S0.ok (kk 2 (by decide))) (And.intro (hink 2 0 (by decide) rfl (by decide)) (And.intro (S0.ok (kk 2 (by decide))) (And.intro (hink 2 1 (by decide) rfl (by decide)) ?_)))⟩⟩
  have z1 := z0.up (a := 1) (i := 1) (x := (uI m0 (rd 33) 1 (m0.2.2.1 (rd 33) 1 + 1)).2.2.1 (rd 1) 0) S0 (by decide) (by decide) rfl rfl
  have z2 := z1.up (a := 2) (i := 1) (x := (uI (uI m0 (rd 33) 1 (m0.2.2.1 (rd 33) 1 + 1)) (rd 1) 1 ((uI m0 (rd 33) 1 (m0.2.2.1 (rd 33) 1 + 1)).2.2.1 (rd 1) 0)).2.2.1 (rd 2) 0) S0 (by decide) (by decide) rfl rfl
  exact loop1 18 0 (by omega) _ (z2.cg (c' := fzc 1 0 0 0) (fun k q1 q2 => by
    rcases (show k = 1 ∨ k = 2 ∨ k = 3 ∨ k = 4 ∨ k = 5 ∨ k = 6 ∨ k = 7 ∨ k = 8 ∨ k = 9 ∨ k = 10 by omega) with z | z | z | z | z | z | z | z | z | z <;> subst z <;> rfl))
end RB25
/-- after freeze the line as solved is the line now -/
theorem FZ.mv {m0 m : jm_M} {rd : Nat → Nat} {R : RD} (S0 : MST m0 rd) (h : FZ m0 rd hlf m) (hV : MV m0 rd 0 R) : MV m rd 0 R ∧ MV m rd 1 R := by
  obtain ⟨hF, -, h3⟩ := h
  have e0 : m.2.2.1 (rd 0) = m0.2.2.1 (rd 0) := (hF.at S0 (Or.inl (by decide)) (by decide)).1
  obtain ⟨a0, a1, a2, a3, a4, a5, a6⟩ := hV
  have lo : ∀ k i, 1 ≤ k → k ≤ 10 → i < hlf k → m.2.2.1 (rd k) i = m0.2.2.1 (rd k) i := fun k i q1 q2 q3 => by rw [h3 k q1 q2, cpH_lo q3]
  have hi : ∀ k i, 1 ≤ k → k ≤ 10 → i < hlf k → m.2.2.1 (rd k) (hlf k + i) = m0.2.2.1 (rd k) i := fun k i q1 q2 q3 => by rw [h3 k q1 q2, cpH_hi q3]
  simp only [Nat.mul_zero, Nat.zero_add] at a3 a4 a5 a6
  constructor
  · refine ⟨by rw [e0]; exact a0, by rw [lo 1 0 (by decide) (by decide) (by decide)]; exact a1, by rw [lo 2 0 (by decide) (by decide) (by decide)]; exact a2, fun j hj => ?_, fun j hj => ?_, fun q hq => ⟨?_, ?_⟩, fun r hr => ⟨?_, ?_, ?_, ?_⟩⟩ <;> rw [Nat.mul_zero, Nat.zero_add]
    · rw [lo 3 j (by decide) (by decide) hj]; exact a3 j hj
    · rw [lo 4 j (by decide) (by decide) hj]; exact a4 j hj
    · rw [lo 5 q (by decide) (by decide) hq]; exact (a5 q hq).1
    · rw [lo 6 q (by decide) (by decide) hq]; exact (a5 q hq).2
    · rw [lo 7 r (by decide) (by decide) hr]; exact (a6 r hr).1
    · rw [lo 8 r (by decide) (by decide) hr]; exact (a6 r hr).2.1
    · rw [lo 9 r (by decide) (by decide) hr]; exact (a6 r hr).2.2.1
    · rw [lo 10 r (by decide) (by decide) hr]; exact (a6 r hr).2.2.2
  · refine ⟨by rw [e0]; exact a0, (hi 1 0 (by decide) (by decide) (by decide)).trans a1, (hi 2 0 (by decide) (by decide) (by decide)).trans a2, fun j hj => ?_, fun j hj => ?_, fun q hq => ⟨?_, ?_⟩, fun r hr => ⟨?_, ?_, ?_, ?_⟩⟩ <;> rw [Nat.mul_one]
    · exact (hi 3 j (by decide) (by decide) hj).trans (a3 j hj)
    · exact (hi 4 j (by decide) (by decide) hj).trans (a4 j hj)
    · exact (hi 5 q (by decide) (by decide) hq).trans (a5 q hq).1
    · exact (hi 6 q (by decide) (by decide) hq).trans (a5 q hq).2
    · exact (hi 7 r (by decide) (by decide) hr).trans (a6 r hr).1
    · exact (hi 8 r (by decide) (by decide) hr).trans (a6 r hr).2.1
    · exact (hi 9 r (by decide) (by decide) hr).trans (a6 r hr).2.2.1
    · exact (hi 10 r (by decide) (by decide) hr).trans (a6 r hr).2.2.2
theorem FZ.mi {m0 m : jm_M} {rd : Nat → Nat} {A : RSt} {n : Nat} (hI : MI m0 rd A n) (h : FZ m0 rd hlf m) : MI m rd (A.1, A.1, A.2.2) (n + 1) := by
  have S := hI.1
  obtain ⟨v0, v1⟩ := h.mv S (hI.2.1 0 (by decide)).1
  obtain ⟨hF, h33, -⟩ := h
  obtain ⟨-, h1, h2, h3, h4, h5, h6, t, hh, c1, c2, c3, c4⟩ := hI
  have at' : ∀ k, mkin k → k = 0 ∨ (11 ≤ k ∧ k ≠ 33) → m.2.2.1 (rd k) = m0.2.2.1 (rd k) ∧ m.2.2.2.1 (rd k) = m0.2.2.2.1 (rd k) := fun k hk hr => hF.at S hk (fun q => by omega)
  have a0 := (at' 0 (Or.inl (by decide)) (by omega)).1
  refine ⟨hF.S S, fun f hf => ?_, ?_, ?_, fun j hj => ?_, ?_, ?_, fun f => if f = 1 then t 1 + 1 else t f, hh, fun f hf => ?_, by omega, ?_, ?_⟩
  · rcases (show f = 0 ∨ f = 1 by omega) with w | w
    · subst w; exact ⟨v0, (h1 0 (by decide)).2⟩
    · subst w; exact ⟨v1, (h1 0 (by decide)).2⟩
  · rw [(at' 16 (Or.inr (Or.inl (by decide))) (by omega)).2]; exact h2
  · rw [(at' 25 (Or.inr (Or.inl (by decide))) (by omega)).2]; exact h3
  · rw [(at' 11 (Or.inl (by decide)) (by omega)).1, (at' 12 (Or.inl (by decide)) (by omega)).2, (at' 13 (Or.inl (by decide)) (by omega)).2]; exact h4 j hj
  · rw [a0]; exact h5
  · rw [a0]; exact h6
  · rw [h33]
    rcases (show f = 0 ∨ f = 1 by omega) with w | w
    · subst w
      show t 0 ≤ n + 1 ∧ _ = nI (t 0)
      rw [va_up_ne _ _ (by decide)]
      exact ⟨by have := (c1 0 (by decide)).1; omega, (c1 0 (by decide)).2⟩
    · subst w
      show t 1 + 1 ≤ n + 1 ∧ _ = nI (t 1 + 1)
      rw [va_up_self, (c1 1 (by decide)).2, nI_1]
      exact ⟨by have := (c1 1 (by decide)).1; omega, rfl⟩
  · rw [a0]; exact c3
  · rw [a0]
    rcases c4 with q | ⟨f, q1, q2, q3, q4⟩
    · exact Or.inl q
    · refine Or.inr ⟨f, q1, q2, ?_⟩
      rcases (show f = 0 ∨ f = 1 by omega) with w | w
      · subst w
        exact ⟨q3, fun z => (q4 z).mv (at' 23 (Or.inr (Or.inl (by decide))) (by omega)).2 (at' 24 (Or.inr (Or.inl (by decide))) (by omega)).2⟩
      · subst w
        show hh ≤ t 1 + 1 ∧ (hh = t 1 + 1 → _)
        exact ⟨by omega, fun z => absurd z (by omega)⟩
theorem MI.mono {m : jm_M} {rd : Nat → Nat} {A : RSt} {n n' : Nat} (h : MI m rd A n) (hn : n ≤ n') : MI m rd A n' := by
  obtain ⟨S, h1, h2, h3, h4, h5, h6, t, hh, c1, c2, c3, c4⟩ := h
  exact ⟨S, h1, h2, h3, h4, h5, h6, t, hh, fun f hf => ⟨Nat.le_trans (c1 f hf).1 hn, (c1 f hf).2⟩, Nat.le_trans c2 hn, c3, c4⟩
theorem MI.kk {m : jm_M} {rd : Nat → Nat} {A : RSt} {n : Nat} {b b2 : Bool} (h : MI m rd A n) : MI (uI (uI m (rd 0) 14 (bI b)) (rd 0) 15 (bI b2)) rd (A.1, A.2.1, A.2.2.1, A.2.2.2.1, A.2.2.2.2.1, b, b2) n ∧ FMa rd m (uI (uI m (rd 0) 14 (bI b)) (rd 0) 15 (bI b2)) := by
  have S := h.1
  have k0 : mkin 0 := Or.inl (by decide)
  have hF : FM rd (fun k => k = 0) m (uI (uI m (rd 0) 14 (bI b)) (rd 0) 15 (bI b2)) := FM.tr (m2 := uI m (rd 0) 14 (bI b)) (FM.uI (p := fun k => k = 0) k0 rfl) (FM.uI (p := fun k => k = 0) k0 rfl)
  have f0 : (uI (uI m (rd 0) 14 (bI b)) (rd 0) 15 (bI b2)).2.2.1 (rd 0) = va_up (va_up (m.2.2.1 (rd 0)) 14 (bI b)) 15 (bI b2) := by
    show va_up (va_up m.2.2.1 (rd 0) _) (rd 0) (va_up (va_up m.2.2.1 (rd 0) (va_up (m.2.2.1 (rd 0)) 14 (bI b)) (rd 0)) 15 (bI b2)) (rd 0) = _
    rw [va_up_self, va_up_self]
  refine ⟨?_, hF.a⟩
  generalize uI (uI m (rd 0) 14 (bI b)) (rd 0) 15 (bI b2) = m' at hF f0
  have at' : ∀ k, mkin k → k ≠ 0 → m'.2.2.1 (rd k) = m.2.2.1 (rd k) ∧ m'.2.2.2.1 (rd k) = m.2.2.2.1 (rd k) := fun k hk hr => hF.at S hk hr
  have fn : ∀ j, j ≠ 14 → j ≠ 15 → m'.2.2.1 (rd 0) j = m.2.2.1 (rd 0) j := fun j q1 q2 => by rw [f0, va_up_ne _ _ q2, va_up_ne _ _ q1]
  obtain ⟨-, h1, h2, h3, h4, h5, h6, t, hh, c1, c2, c3, c4⟩ := h
  refine ⟨hF.S S, fun f hf => ⟨(h1 f hf).1.mv (fn 0 (by decide) (by decide)) (fun k q1 q2 => (at' k (Or.inl (by omega)) (by omega)).1), (h1 f hf).2⟩, ?_, ?_, fun j hj => ?_, ?_, ?_, t, hh, fun f hf => ?_, c2, ?_, ?_⟩
  · rw [(at' 16 (Or.inr (Or.inl (by decide))) (by decide)).2]; exact h2
  · rw [(at' 25 (Or.inr (Or.inl (by decide))) (by decide)).2]; exact h3
  · rw [(at' 11 (Or.inl (by decide)) (by decide)).1, (at' 12 (Or.inl (by decide)) (by decide)).2, (at' 13 (Or.inl (by decide)) (by decide)).2]; exact h4 j hj
  · rw [f0, va_up_ne _ _ (by decide), va_up_self]
  · rw [f0, va_up_self]
  · rw [(at' 33 (Or.inr (Or.inr (Or.inr rfl))) (by decide)).1]; exact c1 f hf
  · rw [fn 32 (by decide) (by decide)]; exact c3
  · rw [fn 31 (by decide) (by decide)]
    rcases c4 with q | ⟨f, q1, q2, q3, q4⟩
    · exact Or.inl q
    · exact Or.inr ⟨f, q1, q2, q3, fun z => (q4 z).mv (at' 23 (Or.inr (Or.inl (by decide))) (by decide)).2 (at' 24 (Or.inr (Or.inl (by decide))) (by decide)).2⟩
section RB26
variable {l : Launch} {D : va_G} {ca : Nat → ClassId}
def rslvQ (rd : Nat → Nat) (m : jm_M) (A : RSt) (n : Nat) (v : Option Value) (m' : jm_M) : Prop :=
  (v = some (.int 0) ∧ (∀ j, j < A.1.M → ¬ rstk A.1 j) ∧ FMa rd m m' ∧ MI m' rd (A.1, A.1, A.2.2.1, A.2.2.2.1, A.2.2.2.2.1, true, true) (n + 1)) ∨
  (∃ j, j < A.1.M ∧ v = some (.int (nI (1 + j))) ∧ rstk A.1 j ∧ (∀ i, i < j → ¬ rstk A.1 i) ∧ FMa rd m m' ∧ MI m' rd (A.1, A.2.1, A.2.2.1, A.2.2.2.1, A.2.2.2.2.1, false, false) (n + 1))
theorem c_Mo_solve {m : jm_M} {rd : Nat → Nat} {A : RSt} {n : Nat} (h : MI m rd A n) : jm_C l D ca n_Mo_solve [.ref (rd 0)] m 0 0 (rslvQ rd m A n) := by
  refine jm_C_of (cd := cd_Mo_solve) (ini := false) (by decide +kernel) ok_Mo_solve (fun h => by cases h) (Nat.le_of_ble_eq_true rfl) ?_
  intro X hX
  have S := h.1
  have hV : MV m rd 0 A.1 := (h.2.1 0 (by decide)).1
  have hR : ROK A.1 := (h.2.1 0 (by decide)).2
  have hM : A.1.M ≤ 3 := hR.2.1
  have o0 : ∀ {m : jm_M}, MST m rd → jm_ok m (rd 0) 6 := fun S => S.ok (Or.inl (by decide))
  have k0 : mkin 0 := Or.inl (by decide)
  have k25 : mkin 25 := Or.inr (Or.inl (by decide))
  refine jm_run hX [(21, [0, 1])] 60 ?_
  refine And.intro (o0 S) (And.intro (Nat.le_of_ble_eq_true rfl) (And.intro (Nat.le_of_ble_eq_true rfl) ⟨0, 0, _, Nat.le_refl _, Nat.le_refl _, c_Mo_layOut S hV (by decide) hR, fun v m1 hq => ?_⟩))
  obtain ⟨rfl, hF1, hL1⟩ := hq
  have S1 := hF1.S S
  have hI1 : MI m1 rd A n := by
    obtain ⟨V, hb⟩ := h.2.2.2.1
    exact h.mv hF1 (fun k w => by omega) (fun j _ _ => by rw [(hF1.at S k0 (by decide)).1]) ⟨V, by rw [(hF1.at S k25 (by decide)).2]; exact hb⟩
  refine And.intro (o0 S1) (And.intro (Nat.le_of_ble_eq_true rfl) (And.intro (Nat.le_of_ble_eq_true rfl) ⟨0, 0, _, Nat.le_refl _, Nat.le_refl _, c_Mo_stuck S1 (hI1.2.1 0 (by decide)).1 hL1 (by decide) hR, fun v m2 hq => ?_⟩))
  obtain ⟨ee, x, rfl, hx⟩ := hq
  have ee := ee.symm
  subst ee
  rcases hx with ⟨j, hj, hs, hn, rfl⟩ | ⟨hn, rfl⟩
  · have hj3 : j < A.1.M := hj
    have key : X 21 [(0, .ref (rd 0)), (1, .int (nI j))] [.int (bI false), .ref (rd 0)] m1 0 0 := by
      have hkk := hI1.kk (b := false) (b2 := false)
      have e14 : (uI m1 (rd 0) 14 (bI false)).2.2.1 (rd 0) 14 = bI false := uI_eq
      have eK14 : (uI (uI m1 (rd 0) 14 (bI false)) (rd 0) 15 (bI false)).2.2.1 (rd 0) 14 = bI false := hkk.1.2.2.2.2.2.1
      refine jm_run hX [] 60 ?_
      refine And.intro (o0 S1) (And.intro (Or.inl rfl) ?_)
      refine And.intro (o0 S1) (And.intro (o0 S1) (And.intro ?_ ?_))
      · show (uI m1 (rd 0) 14 (bI false)).2.2.1 (rd 0) 14 = 0 ∨ (uI m1 (rd 0) 14 (bI false)).2.2.1 (rd 0) 14 = 1
        rw [e14]; exact bI01 _
      have em : uI (uI m1 (rd 0) 14 (bI false)) (rd 0) 15 ((uI m1 (rd 0) 14 (bI false)).2.2.1 (rd 0) 14) = uI (uI m1 (rd 0) 14 (bI false)) (rd 0) 15 (bI false) := by rw [e14]
      refine And.intro (o0 S1) ?_
      refine And.intro (fun g => ?_) (fun g => ?_)
      · refine And.intro (fun g2 => ?_) (fun g2 => absurd (nI_pos' (show j < 2 ^ 31 by omega)) g2)
        refine ⟨Nat.le_refl _, Nat.le_refl _, trivial, Or.inr ⟨j, hj, ?_, hs, hn, ?_, ?_⟩⟩
        · show some (Value.int (nI 1 + nI j)) = _
          rw [nI_add]
        · show FMa rd m (uI (uI m1 (rd 0) 14 (bI false)) (rd 0) 15 ((uI m1 (rd 0) 14 (bI false)).2.2.1 (rd 0) 14))
          rw [em]; exact hF1.a.tr hkk.2
        · show MI (uI (uI m1 (rd 0) 14 (bI false)) (rd 0) 15 ((uI m1 (rd 0) 14 (bI false)).2.2.1 (rd 0) 14)) rd _ _
          rw [em]; exact hkk.1.mono (by omega)
      · have g : ¬ (uI (uI m1 (rd 0) 14 (bI false)) (rd 0) 15 ((uI m1 (rd 0) 14 (bI false)).2.2.1 (rd 0) 14)).2.2.1 (rd 0) 14 = 0 := g
        rw [em, eK14] at g
        exact absurd rfl g
    exact And.intro (fun _ => key) (fun g2 => absurd (nI_pos' (show j < 2 ^ 31 by omega)) g2)
  · have key : X 21 [(0, .ref (rd 0)), (1, .int (-1))] [.int (bI true), .ref (rd 0)] m1 0 0 := by
      have hkk := hI1.kk (b := true) (b2 := true)
      have e14 : (uI m1 (rd 0) 14 (bI true)).2.2.1 (rd 0) 14 = bI true := uI_eq
      have em : uI (uI m1 (rd 0) 14 (bI true)) (rd 0) 15 ((uI m1 (rd 0) 14 (bI true)).2.2.1 (rd 0) 14) = uI (uI m1 (rd 0) 14 (bI true)) (rd 0) 15 (bI true) := by rw [e14]
      have k32 : X 32 [(0, .ref (rd 0)), (1, .int (-1))] [] (uI (uI m1 (rd 0) 14 (bI true)) (rd 0) 15 (bI true)) 0 0 := by
        generalize uI (uI m1 (rd 0) 14 (bI true)) (rd 0) 15 (bI true) = m2 at hkk
        have S2 := hkk.1.1
        have eK14 : m2.2.2.1 (rd 0) 14 = bI true := hkk.1.2.2.2.2.2.1
        refine jm_run hX [] 60 ?_
        refine And.intro (o0 S2) ?_
        refine And.intro (fun g => ?_) (fun g => ?_)
        · have g : m2.2.2.1 (rd 0) 14 = 0 := g
          rw [eK14] at g
          exact absurd g (by decide)
        · refine And.intro (o0 S2) (And.intro (Nat.le_of_ble_eq_true rfl) (And.intro (Nat.le_of_ble_eq_true rfl) ⟨0, 0, _, Nat.le_refl _, Nat.le_refl _, c_Mo_freeze S2, fun v m3 hq => ?_⟩))
          obtain ⟨rfl, hz⟩ := hq
          refine And.intro (fun g2 => absurd g2 (by decide)) (fun _ => ?_)
          exact ⟨Nat.le_refl _, Nat.le_refl _, trivial, Or.inl ⟨rfl, hn, (hF1.a.tr hkk.2).tr hz.1.a, hz.mi hkk.1⟩⟩
      rw [← em] at k32
      refine jm_run hX [(32, [0, 1])] 60 ?_
      refine And.intro (o0 S1) (And.intro (Or.inr rfl) ?_)
      refine And.intro (o0 S1) (And.intro (o0 S1) (And.intro ?_ ?_))
      · show (uI m1 (rd 0) 14 (bI true)).2.2.1 (rd 0) 14 = 0 ∨ (uI m1 (rd 0) 14 (bI true)).2.2.1 (rd 0) 14 = 1
        rw [e14]; exact bI01 _
      exact k32
    exact And.intro (fun g2 => absurd g2 (by decide)) (fun _ => key)
end RB26
