/-! The memory in pure words: the addresses that are held, what stands at each (a class below 50, or an array type from 50 on with its length), its ints, longs and references. -/
abbrev jm_M : Type := List Nat × (Nat → Nat × Nat) × (Nat → Nat → Int32) × (Nat → Nat → Int64) × (Nat → Nat → Option Nat)
abbrev jL (m : jm_M) : List Nat := m.1
abbrev jT (m : jm_M) : Nat → Nat × Nat := m.2.1
abbrev jI (m : jm_M) : Nat → Nat → Int32 := m.2.2.1
abbrev jJ (m : jm_M) : Nat → Nat → Int64 := m.2.2.2.1
abbrev jR (m : jm_M) : Nat → Nat → Option Nat := m.2.2.2.2
/-- a row of ints, of longs, of references is another -/
def uA (m : jm_M) (a : Nat) (g : Nat → Int32) : jm_M := (m.1, m.2.1, va_up m.2.2.1 a g, m.2.2.2.1, m.2.2.2.2)
def uJA (m : jm_M) (a : Nat) (g : Nat → Int64) : jm_M := (m.1, m.2.1, m.2.2.1, va_up m.2.2.2.1 a g, m.2.2.2.2)
def uRA (m : jm_M) (a : Nat) (g : Nat → Option Nat) : jm_M := (m.1, m.2.1, m.2.2.1, m.2.2.2.1, va_up m.2.2.2.2 a g)
def uI (m : jm_M) (a k : Nat) (x : Int32) : jm_M := uA m a (va_up (m.2.2.1 a) k x)
def uJ (m : jm_M) (a k : Nat) (x : Int64) : jm_M := uJA m a (va_up (m.2.2.2.1 a) k x)
def uR (m : jm_M) (a k : Nat) (x : Option Nat) : jm_M := uRA m a (va_up (m.2.2.2.2 a) k x)
/-- a new thing at q, all its places as they are at first -/
def aN (m : jm_M) (q k n : Nat) : jm_M := (m.1 ++ [q], va_up m.2.1 q (k, n), va_up m.2.2.1 q (fun _ => 0), va_up m.2.2.2.1 q (fun _ => 0), va_up m.2.2.2.2 q (fun _ => none))
/-- an array of n rows of k ints at q, the rows at rw -/
def aNN (m : jm_M) (q : Nat) (rw : Nat → Nat) (n k : Nat) : jm_M :=
  (m.1 ++ (q :: (List.range n).map rw), (fun a => if a = q then (54, n) else if a ∈ (List.range n).map rw then (50, k) else m.2.1 a), (fun a => if a = q ∨ a ∈ (List.range n).map rw then (fun _ => 0) else m.2.2.1 a), (fun a => if a = q ∨ a ∈ (List.range n).map rw then (fun _ => 0) else m.2.2.2.1 a), (fun a => if a = q then (fun i => if i < n then some (rw i) else none) else if a ∈ (List.range n).map rw then (fun _ => none) else m.2.2.2.2 a))
abbrev jm_ok (m : jm_M) (a k : Nat) : Prop := a ∈ m.1 ∧ (m.2.1 a).1 = k
def jm_val (t : FieldType) (m : jm_M) (a k : Nat) : Value := match t with
  | .long => .long (m.2.2.2.1 a k)
  | .object _ => va_rf (m.2.2.2.2 a k)
  | .array _ => va_rf (m.2.2.2.2 a k)
  | _ => .int (m.2.2.1 a k)
def jm_fs (ts : List FieldType) (m : jm_M) (a : Nat) : List Value := (List.range ts.length).map (fun k => jm_val (ts.getD k .int) m a k)
def jm_con (k : Nat) (m : jm_M) (a : Nat) : (Nat → Int32) ⊕ (Nat → Int64) ⊕ (Nat → UInt32) ⊕ (Nat → UInt64) ⊕ (Nat → Option Nat) :=
  if k = 51 then .inr (.inl (m.2.2.2.1 a)) else if k < 53 then .inl (m.2.2.1 a) else .inr (.inr (.inr (.inr (m.2.2.2.2 a))))
abbrev jm_LV : Type := List (Nat × Value)
abbrev jm_K : Type := Nat → jm_LV → List Value → jm_M → Nat → Nat → Prop
/-- an instruction: its place, itself, the next place, two numbers (a local; a branch's end; a class and a field; a method and its arguments), a constant -/
abbrev jm_e : Type := Nat × Instr × Nat × Nat × Nat × Nat × Int32 × Int64 × Nat
def jm_at : List jm_e → Nat → Option jm_e
  | [], _ => none
  | e :: r, pc => bif Nat.beq e.1 pc then some e else jm_at r pc
def jm_get : jm_LV → Nat → Option Value
  | [], _ => none
  | q :: r, k => bif Nat.beq q.1 k then some q.2 else jm_get r k
abbrev jm_put1 (lv : jm_LV) (i : Nat) (v : Value) : jm_LV := (i, v) :: lv.filter (fun q => !(q.1 == i) && !(q.1 + 1 == i && q.2.category == 2))
abbrev jm_put2 (lv : jm_LV) (i : Nat) (v : Value) : jm_LV := (i, v) :: lv.filter (fun q => !(q.1 == i) && (!(q.1 == i + 1) && !(q.1 + 1 == i && q.2.category == 2)))
