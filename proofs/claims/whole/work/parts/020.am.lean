/-! THE ABSTRACT MACHINE, first half: its types and its memory. (Goes behind the names: fkT, ofT, kqT.)
An interpreter of the decoded instructions over a small memory. The kernel runs it where all is known (constructors); rfl unfolds it where values are variables (stretches). Its soundness turns a result of it into a contract over the machine.
Memory: (shapes, ints, references). An address is the number of the cell in the order in which the law makes them; the machine's own address is base + it. -/
def zI (n : Int) : Int32 := Int32.ofInt n
/-- a cell's shape: an object of class c (its place in the class list), or an array of kind t (0 int, 1 boolean, 2 + c: of class c) and length n -/
abbrev Sh_ : Type := Nat ⊕ (Nat × Nat)
abbrev Mm_ : Type := List Sh_ × (Nat → Nat → Int32) × (Nat → Nat → Option Nat)
/-- an instruction with what it links: pc, instruction, length, three numbers, a list (switches: key and target; ldc: the constant; calls: nest or not, class) -/
abbrev En_ : Type := Nat × Instr × Nat × Nat × Nat × Nat × List (Int × Nat)
/-- a method: code, how it returns (0 nothing, 1 int, 2 boolean) -/
abbrev Mt_ : Type := List En_ × Nat
abbrev Out_ : Type := Option Value × Mm_
def up2 {α : Type} (f : Nat → Nat → α) (a j : Nat) (x : α) : Nat → Nat → α := fun b i => if b = a then (if i = j then x else f b i) else f b i
def rw1 {α : Type} (f : Nat → Nat → α) (a : Nat) (r : Nat → α) : Nat → Nat → α := fun b i => if b = a then r i else f b i
def am_fd (pc : Nat) : List En_ → Option En_
  | [] => none
  | e :: r => cond (Nat.beq e.1 pc) (some e) (am_fd pc r)
def am_ushr (x y : Int32) : Int32 := (x.toUInt32 >>> (y.toUInt32 &&& Int32.toUInt32 31)).toInt32
def am_bit (x : Int32) : Bool := decide (x = 0) || decide (x = 1)
def am_in (i : Int32) (n : Nat) : Bool := decide (0 ≤ i.toInt ∧ i.toInt < (n : Int))
def am_okO (M : Mm_) (a c : Nat) : Bool := decide (M.1[a]? = some (.inl c))
def am_okF (M : Mm_) (a c s : Nat) : Bool := am_okO M a c && (!(Nat.beq (fkT c s) 1) || decide (M.2.2 a s = some (a + ofT c s)))
/-- a slot takes an int (w = 0) or a reference (w = 1) -/
def am_okP (M : Mm_) (a c s w : Nat) : Bool := am_okO M a c && Nat.beq (min (fkT c s) 1) w
def am_okA (M : Mm_) (a t : Nat) (i : Int32) : Bool := match M.1[a]? with
  | some (.inr (t', n)) => Nat.beq t' t && am_in i n
  | _ => false
def am_okQ (M : Mm_) (a : Nat) (i : Int32) : Bool := match M.1[a]? with
  | some (.inr (t', n)) => (kqT t').isSome && am_in i n
  | _ => false
def am_okS (M : Mm_) (a v : Nat) (i : Int32) : Bool := match M.1[a]?, M.1[v]? with
  | some (.inr (t', n)), some (.inl c) => Nat.beq t' (c + 2) && (kqT t').isSome && am_in i n
  | _, _ => false
def am_okC (M : Mm_) (a b : Nat) (sp dp n : Int32) : Bool := match M.1[a]?, M.1[b]? with
  | some (.inr (0, x)), some (.inr (0, y)) => decide (0 ≤ sp.toInt ∧ 0 ≤ dp.toInt ∧ 0 ≤ n.toInt ∧ sp.toInt + n.toInt ≤ (x : Int) ∧ dp.toInt + n.toInt ≤ (y : Int))
  | _, _ => false
def am_len (M : Mm_) (a : Nat) : Option Nat := match M.1[a]? with
  | some (.inr (t, n)) => cond (Nat.ble t 1 || (kqT t).isSome) (some n) none
  | _ => none
def am_setI (M : Mm_) (a j : Nat) (x : Int32) : Mm_ := (M.1, up2 M.2.1 a j x, M.2.2)
def am_setR (M : Mm_) (a j b : Nat) : Mm_ := (M.1, M.2.1, up2 M.2.2 a j (some b))
def am_new (M : Mm_) (h : Sh_) : Mm_ := (M.1 ++ [h], rw1 M.2.1 M.1.length (fun _ => 0), rw1 M.2.2 M.1.length (fun _ => none))
def am_copy (M : Mm_) (a b sp dp n : Nat) : Mm_ := (M.1, rw1 M.2.1 b (va_cpy (M.2.1 a) (M.2.1 b) sp dp n), M.2.2)
def am_get (M : Mm_) (a c s : Nat) (k : Value → Option Out_) : Option Out_ := match fkT c s with
  | 0 => k (.int (M.2.1 a s))
  | 1 => k (.ref (a + ofT c s))
  | _ => cond (M.2.2 a s).isSome (k (.ref ((M.2.2 a s).getD 0))) none
/-! what lies on top of the stack -/
def sI (st : List Value) (f : Int32 → List Value → Option Out_) : Option Out_ := match st with
  | .int x :: q => f x q
  | _ => none
def sII (st : List Value) (f : Int32 → Int32 → List Value → Option Out_) : Option Out_ := match st with
  | .int y :: .int x :: q => f x y q
  | _ => none
def sR (st : List Value) (f : Nat → List Value → Option Out_) : Option Out_ := match st with
  | .ref a :: q => f a q
  | _ => none
def sIR (st : List Value) (f : Int32 → Nat → List Value → Option Out_) : Option Out_ := match st with
  | .int i :: .ref a :: q => f i a q
  | _ => none
def sIIR (st : List Value) (f : Int32 → Int32 → Nat → List Value → Option Out_) : Option Out_ := match st with
  | .int x :: .int i :: .ref a :: q => f x i a q
  | _ => none
def sRIR (st : List Value) (f : Nat → Int32 → Nat → List Value → Option Out_) : Option Out_ := match st with
  | .ref v :: .int i :: .ref a :: q => f v i a q
  | _ => none
theorem sI_inv {st : List Value} {f : Int32 → List Value → Option Out_} {o : Out_} (h : sI st f = some o) : ∃ x q, st = .int x :: q ∧ f x q = some o := by
  unfold sI at h
  split at h
  · exact ⟨_, _, rfl, h⟩
  · cases h
theorem sII_inv {st : List Value} {f : Int32 → Int32 → List Value → Option Out_} {o : Out_} (h : sII st f = some o) : ∃ x y q, st = .int y :: .int x :: q ∧ f x y q = some o := by
  unfold sII at h
  split at h
  · exact ⟨_, _, _, rfl, h⟩
  · cases h
theorem sR_inv {st : List Value} {f : Nat → List Value → Option Out_} {o : Out_} (h : sR st f = some o) : ∃ a q, st = .ref a :: q ∧ f a q = some o := by
  unfold sR at h
  split at h
  · exact ⟨_, _, rfl, h⟩
  · cases h
theorem sIR_inv {st : List Value} {f : Int32 → Nat → List Value → Option Out_} {o : Out_} (h : sIR st f = some o) : ∃ i a q, st = .int i :: .ref a :: q ∧ f i a q = some o := by
  unfold sIR at h
  split at h
  · exact ⟨_, _, _, rfl, h⟩
  · cases h
theorem sIIR_inv {st : List Value} {f : Int32 → Int32 → Nat → List Value → Option Out_} {o : Out_} (h : sIIR st f = some o) : ∃ x i a q, st = .int x :: .int i :: .ref a :: q ∧ f x i a q = some o := by
  unfold sIIR at h
  split at h
  · exact ⟨_, _, _, _, rfl, h⟩
  · cases h
theorem sRIR_inv {st : List Value} {f : Nat → Int32 → Nat → List Value → Option Out_} {o : Out_} (h : sRIR st f = some o) : ∃ v i a q, st = .ref v :: .int i :: .ref a :: q ∧ f v i a q = some o := by
  unfold sRIR at h
  split at h
  · exact ⟨_, _, _, _, rfl, h⟩
  · cases h
theorem cond_inv {α : Type} {c : Bool} {x : Option α} {o : α} (h : cond c x none = some o) : c = true ∧ x = some o := by
  cases c
  · cases h
  · exact ⟨rfl, h⟩
