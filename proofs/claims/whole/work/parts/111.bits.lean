/-! BITS: bytes of an int, names of letters, two bytes as a number -/
theorem ti_cond (y : Int32) : y.toInt = (y.toBitVec.toNat : Int) ∨ y.toInt = (y.toBitVec.toNat : Int) - 4294967296 := by
  have h : y.toInt = y.toBitVec.toInt := rfl
  rw [h, BitVec.toInt_eq_toNat_cond]
  split
  · exact Or.inl rfl
  · exact Or.inr rfl
theorem bv_lt (y : Int32) : y.toBitVec.toNat < 4294967296 := y.toBitVec.isLt
theorem z_of_nat {x : Int32} {n : Nat} (h : x.toBitVec.toNat = n) (hn : n < 2147483648) : x = zI n := by
  apply Int32.toInt_inj.mp
  rw [zI_toInt ⟨by omega, by omega⟩]
  have := Int32.toInt_lt x
  have h1 := Int32.le_toInt x
  rcases ti_cond x with e | e <;> omega
theorem bv_z {a : Int} (h0 : 0 ≤ a) (h1 : a < 2147483648) : (zI a).toBitVec.toNat = a.toNat := by
  have h := zI_toInt (a := a) ⟨by omega, h1⟩
  have hl := bv_lt (zI a)
  rcases ti_cond (zI a) with e | e <;> omega
def bt (x : Int32) (k : Nat) : Int := ((x.toBitVec.toNat / 256 ^ k % 256 : Nat) : Int)
theorem bt_rg (x : Int32) (k : Nat) : 0 ≤ bt x k ∧ bt x k ≤ 255 := by
  unfold bt
  have := Nat.mod_lt (x.toBitVec.toNat / 256 ^ k) (show 256 > 0 by decide)
  omega
theorem and255 (y : Int32) : y &&& zI 255 = zI ((y.toBitVec.toNat % 256 : Nat) : Int) := by
  refine z_of_nat ?_ (by omega)
  show (y.toBitVec &&& (zI 255).toBitVec).toNat = _
  rw [BitVec.toNat_and, show (zI 255).toBitVec.toNat = 2 ^ 8 - 1 from by decide +kernel, Nat.and_two_pow_sub_one_eq_mod]
theorem ushr_nat (x : Int32) (s : UInt32) : ((x.toUInt32 >>> s).toInt32).toBitVec.toNat = x.toBitVec.toNat >>> (s.toNat % 32) := UInt32.toNat_shiftRight _ _
theorem ushr_bt (x : Int32) {k : Nat} (hk : k < 4) : am_ushr x (zI (8 * (k : Int))) &&& zI 255 = zI (bt x k) := by
  rw [and255]
  congr 2
  unfold am_ushr
  rw [ushr_nat]
  have hk : k = 0 ∨ k = 1 ∨ k = 2 ∨ k = 3 := by omega
  rcases hk with rfl | rfl | rfl | rfl
  · rw [show ((zI (8 * ((0 : Nat) : Int))).toUInt32 &&& Int32.toUInt32 31).toNat % 32 = 0 from by decide +kernel, Nat.shiftRight_eq_div_pow]
  · rw [show ((zI (8 * ((1 : Nat) : Int))).toUInt32 &&& Int32.toUInt32 31).toNat % 32 = 8 from by decide +kernel, Nat.shiftRight_eq_div_pow]
  · rw [show ((zI (8 * ((2 : Nat) : Int))).toUInt32 &&& Int32.toUInt32 31).toNat % 32 = 16 from by decide +kernel, Nat.shiftRight_eq_div_pow]
  · rw [show ((zI (8 * ((3 : Nat) : Int))).toUInt32 &&& Int32.toUInt32 31).toNat % 32 = 24 from by decide +kernel, Nat.shiftRight_eq_div_pow]
theorem sshr_int (x y : Int32) : (x >>> y).toInt = x.toInt >>> (y.toBitVec.smod 32).toNat := BitVec.toInt_sshiftRight'
theorem sshr_bt (x : Int32) {k : Nat} (hk : k < 4) : (x >>> (zI (8 * (k : Int)) &&& 31)) &&& zI 255 = zI (bt x k) := by
  rw [and255]
  congr 2
  have h1 := ti_cond (x >>> (zI (8 * (k : Int)) &&& 31))
  have h2 := ti_cond x
  have l1 := bv_lt (x >>> (zI (8 * (k : Int)) &&& 31))
  have l2 := bv_lt x
  rw [sshr_int] at h1
  have hk : k = 0 ∨ k = 1 ∨ k = 2 ∨ k = 3 := by omega
  rcases hk with rfl | rfl | rfl | rfl
  · rw [show ((zI (8 * ((0 : Nat) : Int)) &&& 31).toBitVec.smod 32).toNat = 0 from by decide +kernel, Int.shiftRight_eq_div_pow] at h1
    simp only [Nat.pow_zero, Nat.div_one] at h1 ⊢
    omega
  · rw [show ((zI (8 * ((1 : Nat) : Int)) &&& 31).toBitVec.smod 32).toNat = 8 from by decide +kernel, Int.shiftRight_eq_div_pow] at h1
    simp only [Nat.pow_one, show (2 : Nat) ^ 8 = 256 from rfl] at h1 ⊢
    omega
  · rw [show ((zI (8 * ((2 : Nat) : Int)) &&& 31).toBitVec.smod 32).toNat = 16 from by decide +kernel, Int.shiftRight_eq_div_pow] at h1
    simp only [show (256 : Nat) ^ 2 = 65536 from rfl, show (2 : Nat) ^ 16 = 65536 from rfl] at h1 ⊢
    omega
  · rw [show ((zI (8 * ((3 : Nat) : Int)) &&& 31).toBitVec.smod 32).toNat = 24 from by decide +kernel, Int.shiftRight_eq_div_pow] at h1
    simp only [show (256 : Nat) ^ 3 = 16777216 from rfl, show (2 : Nat) ^ 24 = 16777216 from rfl] at h1 ⊢
    omega
theorem shl_or {a b : Int} (ha : 0 ≤ a) (ha2 : a < 8388608) (hb : 0 ≤ b) (hb2 : b < 256) : (zI a <<< (zI 8 &&& 31)) ||| zI b = zI (a * 256 + b) := by
  have e : a * 256 + b = ((a.toNat * 256 + b.toNat : Nat) : Int) := by omega
  rw [e]
  refine z_of_nat ?_ (by omega)
  show ((zI a).toBitVec <<< ((zI 8 &&& 31).toBitVec.smod 32) ||| (zI b).toBitVec).toNat = _
  rw [BitVec.toNat_or, show (zI 8 &&& 31).toBitVec.smod 32 = 8#32 from by decide +kernel, bv_z hb (by omega)]
  have e2 : ((zI a).toBitVec <<< (8#32)).toNat = a.toNat <<< 8 := by
    rw [BitVec.shiftLeft_eq', BitVec.toNat_shiftLeft, bv_z ha (by omega), show (8#32).toNat = 8 from rfl, Nat.shiftLeft_eq]
    omega
  rw [e2, ← Nat.shiftLeft_add_eq_or_of_lt (show b.toNat < 2 ^ 8 by omega), Nat.shiftLeft_eq]
/-- a number of two bytes -/
def sg16 (v : Int) : Int := if v < 32768 then v else v - 65536
theorem short_z {v : Int} (h0 : 0 ≤ v) (h1 : v < 65536) : (zI v).toInt16.toInt32 = zI (sg16 v) := by
  apply Int32.toInt_inj.mp
  rw [Int16.toInt_toInt32, Int32.toInt_toInt16, zI_toInt ⟨by omega, by omega⟩]
  unfold sg16
  split
  · rw [zI_toInt ⟨by omega, by omega⟩]
    unfold Int.bmod
    simp only
    split <;> omega
  · rw [zI_toInt ⟨by omega, by omega⟩]
    unfold Int.bmod
    simp only
    split <;> omega
