/-! INT32 NUMBERS AS INTEGERS -/
/-- in the range of an int -/
def rg (a : Int) : Prop := -2147483648 ≤ a ∧ a < 2147483648
theorem zI_toInt {a : Int} (h : rg a) : (zI a).toInt = a := Int32.toInt_ofInt_of_le (by have := h.1; omega) (by have := h.2; omega)
theorem zI_of (x : Int32) : zI x.toInt = x := Int32.ofInt_toInt x
theorem rg_toInt (x : Int32) : rg x.toInt := ⟨x.le_toInt, x.toInt_lt⟩
theorem zI_eq {a b : Int} (ha : rg a) (hb : rg b) : (zI a = zI b) ↔ a = b := by
  constructor
  · intro h
    have := congrArg Int32.toInt h
    rwa [zI_toInt ha, zI_toInt hb] at this
  · exact congrArg zI
theorem zI_lt {a b : Int} (ha : rg a) (hb : rg b) : (zI a < zI b) ↔ a < b := by
  rw [Int32.lt_iff_toInt_lt, zI_toInt ha, zI_toInt hb]
theorem zI_le {a b : Int} (ha : rg a) (hb : rg b) : (zI a ≤ zI b) ↔ a ≤ b := by
  rw [Int32.le_iff_toInt_le, zI_toInt ha, zI_toInt hb]
theorem zI_0 : (0 : Int32) = zI 0 := by decide +kernel
theorem zI_1 : (1 : Int32) = zI 1 := by decide +kernel
theorem zI_31 : (31 : Int32) = zI 31 := by decide +kernel
theorem zI_ext {x : Int32} {a : Int} (ha : rg a) (h : x.toInt = a) : x = zI a := by
  rw [← h, zI_of]
theorem zI_add (a b : Int) : zI a + zI b = zI (a + b) := (Int32.ofInt_add a b).symm
theorem zI_sub (a b : Int) : zI a - zI b = zI (a - b) := (Int32.ofInt_sub a b).symm
theorem zI_mul (a b : Int) : zI a * zI b = zI (a * b) := (Int32.ofInt_mul a b).symm
theorem zI_clamp {a : Int} (h : rg a) : (zI a).toNatClampNeg = a.toNat := by
  show (zI a).toInt.toNat = a.toNat
  rw [zI_toInt h]
theorem zI_nat {n : Nat} (h : n < 2147483648) : (zI (n : Int)).toNatClampNeg = n := by
  rw [zI_clamp ⟨by omega, by omega⟩]; omega
theorem zI_in {a : Int} {n : Nat} (h : 0 ≤ a) (h2 : a < (n : Int)) (h3 : a < 2147483648) : am_in (zI a) n = true := by
  unfold am_in
  rw [zI_toInt ⟨by omega, h3⟩]
  exact decide_eq_true ⟨h, h2⟩
/-! memory: the shapes stay, one cell changes -/
theorem up2_self {α : Type} (f : Nat → Nat → α) (a j : Nat) (x : α) : up2 f a j x a j = x := by simp [up2]
theorem up2_idx {α : Type} (f : Nat → Nat → α) {a j i : Nat} (x : α) (h : i ≠ j) : up2 f a j x a i = f a i := by simp [up2, h]
theorem up2_cell {α : Type} (f : Nat → Nat → α) {a b : Nat} (j i : Nat) (x : α) (h : b ≠ a) : up2 f a j x b i = f b i := by simp [up2, h]
