theorem c_Ar_fill {l : Launch} {D : va_G} {ca : Nat → ClassId} {m : jm_M} {a : Nat} {x : Int32} (ok : jm_ok m a 50) (hn : (m.2.1 a).2 < 2 ^ 31) : jm_C l D ca n_Ar_fill [.ref a, .int x] m 0 0 (fun v m' => v = none ∧ m' = uA m a (fun i => if i < (m.2.1 a).2 then x else m.2.2.1 a i)) := by
  refine jm_C_of (cd := cd_Ar_fill) (ini := false) (by decide +kernel) ok_Ar_fill (fun h => by cases h) (Nat.le_of_ble_eq_true rfl) ?_
  intro X hX
  generalize hN : (m.2.1 a).2 = n at hn ⊢
  have loop : ∀ (d i : Nat) (g : Nat → Int32), i + d = n → g = (fun j => if j < i then x else m.2.2.1 a j) → X 5 [(0, .ref a), (1, .int x), (2, .int (nI i)), (3, .int (nI n))] [] (uA m a g) 0 0 := by
    intro d
    induction d with
    | zero =>
      intro i g hi hg
      refine jm_run hX [] 20 ?_
      refine And.intro (fun h0 => ?_) (fun h0 => ?_)
      · refine ⟨Nat.le_refl _, Nat.le_refl _, trivial, rfl, ?_⟩
        rw [hg, show i = n by omega, ← hN]
      · exact absurd (nI_le (show n ≤ i by omega) (by omega)) h0
    | succ d ih =>
      intro i g hi hg
      refine jm_run hX [(5, [0, 1, 2, 3])] 20 ?_
      refine And.intro (fun h0 => ?_) (fun h0 => ?_)
      · exact absurd h0 (nI_ge (show i < n by omega) (by omega))
      · refine And.intro ok (And.intro ?_ ?_)
        · show vp_in (nI i) (m.2.1 a).2
          rw [hN]; exact vp_in_nI (by omega) (by omega)
        · have := ih (i + 1) (va_up g i x) (by omega) (by
            rw [hg]; funext j
            by_cases hj : j = i
            · subst hj; rw [va_up_self, if_pos (by omega)]
            · rw [va_up_ne _ _ hj]
              by_cases h2 : j < i
              · rw [if_pos h2, if_pos (by omega)]
              · rw [if_neg h2, if_neg (by omega)])
          rw [← uI_uA] at this
          rw [← nI_1] at this
          have e : (nI i).toNatClampNeg = i := nI_clamp (by omega)
          show X 5 [(0, .ref a), (1, .int x), (2, .int (nI i + 1)), (3, .int (nI n))] [] (uI (uA m a g) a (nI i).toNatClampNeg x) 0 0
          rw [e]
          exact this
  refine jm_run hX [(5, [0, 1, 2, 3])] 20 ?_
  refine And.intro ok.1 (And.intro (by rw [ok.2]; decide) (And.intro (by rw [ok.2]; decide) ?_))
  have := loop n 0 (m.2.2.1 a) (by omega) (by funext j; rw [if_neg (by omega)])
  rw [← hN] at this
  have e : uA m a (m.2.2.1 a) = m := by
    unfold uA
    rw [show va_up m.2.2.1 a (m.2.2.1 a) = m.2.2.1 from by
      funext b
      by_cases hb : b = a
      · subst hb; rw [va_up_self]
      · rw [va_up_ne _ _ hb]]
  rw [e] at this
  exact this
