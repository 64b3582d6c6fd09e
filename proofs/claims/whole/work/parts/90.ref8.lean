/-- one step of Faddeev and LeVerrier, modulo p -/
theorem fl_step {p : Int} {b : Nat → Nat → Int} {n : Nat} {P : Nat → Int} {N : Nat → Nat → Nat → Int} (h2 : ∀ e i k, e < n → i < n → k < n → N e i k = ds_S (fun s => b i s * N (e + 1) s k) n + if i = k then P (e + 1) else 0)
    (h3 : ∀ i k, i < n → k < n → ds_S (fun s => b i s * N 0 s k) n + (if i = k then P 0 else 0) = 0) (h5 : ∀ e, e < n → ((e : Int) + 1) * P (e + 1) = ds_S (fun i => N e i i) n)
    {k : Nat} (hk : k < n) {M M' : Nat → Nat → Int} {c c' iv : Int} (a1 : ∀ i j, i < n → j < n → p ∣ M i j - N (n - k) i j) (a2 : p ∣ c - P (n - k)) (m1 : ∀ i j, i < n → j < n → p ∣ M' i j - (ds_S (fun s => b i s * M s j) n + if i = j then c else 0))
    (c1 : p ∣ c' - (- (iv * ds_S (fun i => ds_S (fun s => b i s * M' s i) n) n))) (hv : p ∣ iv * ((k + 1 : Nat) : Int) - 1) : (∀ i j, i < n → j < n → p ∣ M' i j - N (n - (k + 1)) i j) ∧ p ∣ c' - P (n - (k + 1)) := by
  have hM : ∀ i j, i < n → j < n → p ∣ M' i j - N (n - (k + 1)) i j := fun i j hi hj => by
    refine dv_tr (m1 i j hi hj) ?_
    rw [h2 (n - (k + 1)) i j (by omega) hi hj, show n - (k + 1) + 1 = n - k by omega]
    have q1 : p ∣ ds_S (fun s => b i s * M s j) n - ds_S (fun s => b i s * N (n - k) s j) n := dv_S2 fun s hs => by
      rw [← Int.mul_sub]; exact dv_mul (a1 s j hs hj) _
    by_cases w : i = j
    · rw [if_pos w, if_pos w]
      have := Int.dvd_add q1 a2
      rw [show ds_S (fun s => b i s * M s j) n - ds_S (fun s => b i s * N (n - k) s j) n + (c - P (n - k)) = ds_S (fun s => b i s * M s j) n + c - (ds_S (fun s => b i s * N (n - k) s j) n + P (n - k)) by omega] at this
      exact this
    · rw [if_neg w, if_neg w, Int.add_zero, Int.add_zero]; exact q1
  refine ⟨hM, dv_tr c1 ?_⟩
  have hT : ds_S (fun i => ds_S (fun s => b i s * N (n - (k + 1)) s i) n) n = - (((k : Int) + 1) * P (n - (k + 1))) := by
    have hn : ∀ x : Int, ds_S (fun _ => x) n = (n : Int) * x := fun x => by
      have : ∀ m : Nat, ds_S (fun _ => x) m = (m : Int) * x := by
        intro m
        induction m with
        | zero => show (0 : Int) = 0 * x; omega
        | succ m ih =>
          show ds_S (fun _ => x) m + x = ((m + 1 : Nat) : Int) * x
          rw [ih, show ((m + 1 : Nat) : Int) = (m : Int) + 1 by omega, Int.add_mul]; omega
      exact this n
    rcases Nat.eq_zero_or_pos (n - (k + 1)) with q | q
    · rw [q]
      have e : ds_S (fun i => ds_S (fun s => b i s * N 0 s i) n) n = ds_S (fun _ => - P 0) n := ds_S_congr fun i hi => by
        have := h3 i i hi hi
        rw [if_pos rfl] at this
        show ds_S (fun s => b i s * N 0 s i) n = - P 0
        omega
      rw [e, hn, show (n : Int) = (k : Int) + 1 by omega, Int.mul_neg]
    · have e : ds_S (fun i => ds_S (fun s => b i s * N (n - (k + 1)) s i) n) n = ds_S (fun i => N (n - (k + 1) - 1) i i - P (n - (k + 1))) n := ds_S_congr fun i hi => by
        have := h2 (n - (k + 1) - 1) i i (by omega) hi hi
        rw [if_pos rfl, show n - (k + 1) - 1 + 1 = n - (k + 1) by omega] at this
        show ds_S (fun s => b i s * N (n - (k + 1)) s i) n = N (n - (k + 1) - 1) i i - P (n - (k + 1))
        omega
      have h6 := h5 (n - (k + 1) - 1) (by omega)
      rw [show n - (k + 1) - 1 + 1 = n - (k + 1) by omega] at h6
      rw [e, ds_S_sub, ← h6, hn, show ((n - (k + 1) - 1 : Nat) : Int) = (n : Int) - k - 2 by omega]
      generalize P (n - (k + 1)) = x
      generalize (n : Int) = y
      generalize (k : Int) = z
      grind
  have hD : p ∣ ds_S (fun i => ds_S (fun s => b i s * M' s i) n) n - ds_S (fun i => ds_S (fun s => b i s * N (n - (k + 1)) s i) n) n := dv_S2 fun i hi => dv_S2 fun s hs => by
    rw [← Int.mul_sub]; exact dv_mul (hM s i hs hi) _
  rw [hT] at hD
  obtain ⟨x, hx⟩ := hD
  obtain ⟨y, hy⟩ := hv
  refine ⟨- (iv * x) + y * P (n - (k + 1)), ?_⟩
  generalize ds_S (fun i => ds_S (fun s => b i s * M' s i) n) n = T at hx ⊢
  generalize P (n - (k + 1)) = u at hx ⊢
  rw [show ((k + 1 : Nat) : Int) = (k : Int) + 1 by omega] at hy
  generalize (k : Int) + 1 = z at hx hy
  have e1 : T = p * x - z * u := by omega
  subst e1
  have e2 : iv * z = 1 + p * y := by omega
  grind
theorem nmod_dv (x p : Nat) : (p : Int) ∣ ((x % p : Nat) : Int) - (x : Int) := by
  have h := Nat.div_add_mod x p
  refine ⟨-((x / p : Nat) : Int), ?_⟩
  have : ((p * (x / p) + x % p : Nat) : Int) = (x : Int) := by rw [h]
  rw [Int.natCast_add, Int.natCast_mul] at this
  rw [Int.mul_neg]
  omega
theorem mlS_cg (M P : Nat → Nat) (p i j : Nat) : ∀ k, (p : Int) ∣ (mlS M P p i j k : Int) - ds_S (fun s => (M (9 * i + s) : Int) * (P (9 * s + j) : Int)) k
  | 0 => by show (p : Int) ∣ ((0 : Nat) : Int) - 0; exact ⟨0, by omega⟩
  | k + 1 => by
    have ih := mlS_cg M P p i j k
    have h := nmod_dv (mlS M P p i j k + M (9 * i + k) * P (9 * k + j)) p
    show (p : Int) ∣ (((mlS M P p i j k + M (9 * i + k) * P (9 * k + j)) % p : Nat) : Int) - (ds_S (fun s => (M (9 * i + s) : Int) * (P (9 * s + j) : Int)) k + (M (9 * i + k) : Int) * (P (9 * k + j) : Int))
    rw [Int.natCast_add, Int.natCast_mul] at h
    have := Int.dvd_add h ih
    generalize (((mlS M P p i j k + M (9 * i + k) * P (9 * k + j)) % p : Nat) : Int) = a at *
    generalize (mlS M P p i j k : Int) = bb at *
    generalize (M (9 * i + k) : Int) * (P (9 * k + j) : Int) = cc at *
    generalize ds_S (fun s => (M (9 * i + s) : Int) * (P (9 * s + j) : Int)) k = d at *
    rw [show a - (bb + cc) + (bb - d) = a - (d + cc) by omega] at this
    exact this
theorem rem_sub2 {a b p : Nat} (ha : a < p) (hb : b < p) (hp2 : p < 2 ^ 31) : ((lN a - lN b) - (lN a - lN b) / lN p * lN p + lN p) - ((lN a - lN b) - (lN a - lN b) / lN p * lN p + lN p) / lN p * lN p = lN ((a + p - b) % p) := by
  obtain ⟨w, h1, h2, h3⟩ := rem_sub (a := a) (b := b) (p := p) (by omega) (by omega) (by omega) hp2
  rw [h2]
  congr 1
  refine ga_res h1 ?_
  obtain ⟨x, hx⟩ := h3
  exact ⟨x - 1, by rw [Int.mul_sub]; omega⟩
/-- the diagonal and c more, for the first i -/
def dgl (Q : Nat → Nat) (c p i : Nat) : Nat → Nat := fun t => if t % 10 = 0 ∧ t / 10 < i then (Q t + c) % p else Q t
theorem lfil_up {g : Nat → Int64} {f f' : Nat → Nat} {n k : Nat} (hk : k < n) (h : ∀ i, i ≠ k → f' i = f i) : va_up (lfil g f n) k (lN (f' k)) = lfil g f' n := by
  funext i
  by_cases e : i = k
  · subst e
    rw [va_up_self]
    unfold lfil
    rw [if_pos hk]
  · rw [va_up_ne _ _ e]
    unfold lfil
    rw [h i e]
def sm10 (Q : Nat → Nat) (k : Nat) : Nat := ds_nS (fun i => Q (10 * i)) k
/-- what turnBy has before and after -/
def mtz (Wv Tb : Nat → Nat) (p : Nat) : Nat → Nat := fun t => ((if t / 9 = t % 9 then Wv (t % 9) else 0) + p - Tb t) % p
def btz (Wv Tb : Nat → Nat) (i j : Nat) : Int := (if i = j then (Wv j : Int) else 0) - (Tb (9 * i + j) : Int)
theorem mtz_cg {Wv Tb : Nat → Nat} {p i j : Nat} (hi : i < 9) (hj : j < 9) (hT : Tb (9 * i + j) < p) : (p : Int) ∣ (mtz Wv Tb p (9 * i + j) : Int) - btz Wv Tb i j := by
  unfold mtz btz
  rw [show (9 * i + j) / 9 = i by omega, show (9 * i + j) % 9 = j by omega]
  have h := nmod_dv ((if i = j then Wv j else 0) + p - Tb (9 * i + j)) p
  obtain ⟨x, hx⟩ := h
  refine ⟨x + 1, ?_⟩
  rw [Int.mul_add, Int.mul_one, ← hx]
  by_cases w : i = j
  · rw [if_pos w, if_pos w]; omega
  · rw [if_neg w, if_neg w]; omega
/-- the results of one prime -/
def trn (Wv Tb : Nat → Nat) (p ov : Nat) (T : Nat → Nat) : Prop := ov < p ∧ (∀ t, t < 81 → T t < p) ∧ (p : Int) ∣ (ov : Int) - ds_d (fl_b (btz Wv Tb) 9) 9 ∧ ∀ j i, j < 9 → i < 9 → (p : Int) ∣ (T (9 * j + i) : Int) - ds_C (fl_b (btz Wv Tb) 9) 9 j (9 + i)
