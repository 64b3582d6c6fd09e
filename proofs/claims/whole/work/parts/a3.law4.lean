/-! The law's beginning: the class's object, the reference's, and then its loop. -/
def mE : jm_M := ([], fun _ => (0, 0), fun _ _ => 0, fun _ _ => 0, fun _ _ => none)
theorem JS_new {m1 m2 : jm_M} {ad rd : Nat → Nat} {q2 : Nat} {x : Int32} (hC : CI m1 ad (cNew (newK x) (m1.2.2.1 (ad 6)))) (i6 : ∀ i, i < 9 → m1.2.2.1 (ad 6) i = -1) (hq2 : q2 ∉ m1.1) (hr0 : rd 0 = q2) (hnew : ∀ k, mkin k → k ≠ 0 → rd k ∉ (aN m1 q2 6 0).1) (hM : MI m2 rd (mA0 (newK x)) 0) (hold : ∀ a, a ∈ (aN m1 q2 6 0).1 → a ∈ m2.1 ∧ (a ≠ q2 → AGR (aN m1 q2 6 0) m2 a)) : JS m2 ad rd 0 := by
  have hne : ∀ k, kin k → ad k ≠ q2 := fun k hk w => hq2 (w ▸ (hC.1.1 k hk).1)
  have hin : ∀ k, kin k → ad k ∈ (aN m1 q2 6 0).1 := fun k hk => List.mem_append_left _ (hC.1.1 k hk).1
  refine ⟨fun k j hk hj w => ?_, _, _, hC.ag (fun k hk => ⟨(hold _ (hin k hk)).1, ?_⟩), hM, rNew_rel i6, fun j hj => ⟨rfl, rfl, rfl⟩, rfl, rfl, fun w => by cases w⟩
  · by_cases e : j = 0
    · subst e
      exact hne k hk (w.trans hr0)
    · exact hnew j hj e (w ▸ hin k hk)
  · have h1 := (hold _ (hin k hk)).2 (hne k hk)
    refine AGR.tr ?_ h1
    exact ⟨va_up_ne _ _ (hne k hk), va_up_ne _ _ (hne k hk), va_up_ne _ _ (hne k hk), va_up_ne _ _ (hne k hk)⟩
section LW3
variable {l : Launch} {D : va_G} {ca : Nat → ClassId} {b L : Nat} {xs : Nat → Int32} {X : jm_K}
theorem lw_begin (hX : lw_X l D ca b L xs X) (hL : L ≤ 4097) (hcell : ∀ pc lv st m nc ns, pc = 6 ∨ pc = 19 → (st.map fun v => v.category).sum ≤ 8 → nc ≤ 600000 → ns ≤ 7302250 → X (pc + 3) lv (.int (lw_k0 L xs) :: st) m nc ns → X pc lv (.int 0 :: .ref b :: st) m nc ns) : X 0 [(0, .ref b)] [] mE 0 0 := by
  refine jm_run (hX _ ok_Lw_h) [(6, [0])] 10 ?_
  refine And.intro (Nat.le_of_ble_eq_true rfl) (And.intro (Nat.le_of_ble_eq_true rfl) (fun q hq => ?_))
  refine And.intro rfl ?_
  show X 6 [(0, .ref b)] [.int 0, .ref b, .ref q, .ref q] (aN mE q 5 0) 1 4
  refine hcell 6 _ _ _ _ _ (Or.inl rfl) ?_ ?_ ?_ ?_
  · exact Nat.le_of_ble_eq_true rfl
  · exact Nat.le_of_ble_eq_true rfl
  · exact Nat.le_of_ble_eq_true rfl
  refine jm_run (hX _ ok_Lw_h) [(19, [0, 1])] 20 ?_
  refine And.intro trivial (And.intro (Nat.le_of_ble_eq_true rfl) (And.intro (Nat.le_of_ble_eq_true rfl) ⟨306, 2441, _, Nat.le_of_ble_eq_true rfl, Nat.le_of_ble_eq_true rfl, c_Sh_init (o := q) rfl (va_up_self _ _ _) ⟨va_up_self _ _ _, va_up_self _ _ _⟩ (lw_k0 L xs), fun v m1 hq1 => ?_⟩))
  obtain ⟨rfl, ad, ha0, hST, i1, i6⟩ := hq1
  have hC := hST.ci (newK_ok (lw_k0 L xs)) i1 i6
  refine And.intro (Nat.le_of_ble_eq_true rfl) (And.intro (Nat.le_of_ble_eq_true rfl) (fun q2 hq2 => ?_))
  refine And.intro rfl ?_
  show X 19 [(0, .ref b), (1, .ref q)] [.int 0, .ref b, .ref q2, .ref q2] (aN m1 q2 6 0) (0 + 1 + 306 + 1) (0 + 4 + 2441 + 34)
  refine hcell 19 _ _ _ _ _ (Or.inr rfl) ?_ ?_ ?_ ?_
  · exact Nat.le_of_ble_eq_true rfl
  · exact Nat.le_of_ble_eq_true rfl
  · exact Nat.le_of_ble_eq_true rfl
  refine jm_run (hX _ ok_Lw_h) [(28, [0, 1, 2, 3])] 20 ?_
  refine And.intro trivial (And.intro (Nat.le_of_ble_eq_true rfl) (And.intro (Nat.le_of_ble_eq_true rfl) ⟨27, 1430, _, Nat.le_of_ble_eq_true rfl, Nat.le_of_ble_eq_true rfl, c_Mo_init (o := q2) (lw_k0 L xs) ⟨List.mem_append_right _ List.mem_cons_self, va_up_self _ _ _⟩ (va_up_self _ _ _), fun v m2 hq3 => ?_⟩))
  obtain ⟨rfl, rd, hr0, hnew, hMI, hold⟩ := hq3
  have hJ := JS_new hC i6 hq2 hr0 hnew hMI hold
  have key := lw_loop (nc := 0 + 1 + 306 + 1 + 27) (ns := 0 + 4 + 2441 + 34 + 1430) hX hL (by decide) (by decide) 513 1 0 m2 (by omega) (by decide) (by decide) hJ
  unfold lw_lv at key
  rw [ha0, hr0] at key
  exact key
end LW3
