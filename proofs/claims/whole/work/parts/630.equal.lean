/-! VALUES: type and bytes; THE REFERENCE: equal, value, compare -/
def val (B : List Int) (t : Int) (v : Nat) : Int × List Int := (t, sl B v (bh B t v))
theorem bh_ge {B : List Int} {t : Int} {v : Nat} : v ≤ bh B t v := by
  unfold bh
  split
  · omega
  · split
    · omega
    · split
      · omega
      · split <;> omega
theorem sl_eq {B C : List Int} {v w n m : Nat} (hB : v + n ≤ B.length) (hC : w + m ≤ C.length) : sl B v (v + n) = sl C w (w + m) ↔ n = m ∧ ∀ i, i < n → by_ B (v + i) = by_ C (w + i) := by
  have l1 : (sl B v (v + n)).length = n := by rw [sl_len hB]; omega
  have l2 : (sl C w (w + m)).length = m := by rw [sl_len hC]; omega
  constructor
  · intro h
    have hn : n = m := by rw [← l1, ← l2, h]
    refine ⟨hn, fun i hi => ?_⟩
    rw [← sl_by (C := B) (i := v) (j := v + n) (k := i) (by omega), ← sl_by (C := C) (i := w) (j := w + m) (k := i) (by omega), h]
  · rintro ⟨hn, h⟩
    apply List.ext_getElem (by omega)
    intro i h1 h2
    have e := h i (by omega)
    rw [← sl_by (C := B) (i := v) (j := v + n) (k := i) (by omega), ← sl_by (C := C) (i := w) (j := w + m) (k := i) (by omega)] at e
    unfold by_ at e
    rw [List.getD_eq_getElem?_getD, List.getElem?_eq_getElem h1, List.getD_eq_getElem?_getD, List.getElem?_eq_getElem h2] at e
    exact e
theorem val_eq {B C : List Int} {t u : Int} {v w : Nat} (hB : bh B t v ≤ B.length) (hC : bh C u w ≤ C.length) : val B t v = val C u w ↔ t = u ∧ bh B t v - v = bh C u w - w ∧ ∀ i, i < bh B t v - v → by_ B (v + i) = by_ C (w + i) := by
  have g1 := bh_ge (B := B) (t := t) (v := v)
  have g2 := bh_ge (B := C) (t := u) (v := w)
  have e1 : bh B t v = v + (bh B t v - v) := by omega
  have e2 : bh C u w = w + (bh C u w - w) := by omega
  have key : sl B v (bh B t v) = sl C w (bh C u w) ↔ bh B t v - v = bh C u w - w ∧ ∀ i, i < bh B t v - v → by_ B (v + i) = by_ C (w + i) := by
    have := sl_eq (B := B) (C := C) (v := v) (w := w) (n := bh B t v - v) (m := bh C u w - w) (by omega) (by omega)
    rw [← e1, ← e2] at this
    exact this
  unfold val
  rw [Prod.mk.injEq, key]
section EQUAL
variable {G : Nat × (Nat → Int32)} {d o o' : Nat} {B C : List Int}
theorem bit_z {x : Int} (h : x = 0 ∨ x = 1) : am_bit (zI x) = true := by
  rcases h with rfl | rfl <;> decide +kernel
theorem eq_0 {M : Mm_} {x1 x2 x3 x4 x5 x7 : Int32} : EvC G d m_M_equal 40 [some (.ref 91), some (.int x1), some (.int x2), some (.int x3), some (.int x4), some (.int x5), some (.int (zI 0)), some (.int x7)] [] M (some (.int (zI 0)), M) := by
  refine ev_M_equal_40 ?_
  split
  · rw [zI_0, if_pos rfl]
    exact ⟨by decide +kernel, rfl⟩
  · exact ⟨by decide +kernel, rfl⟩
theorem eq_l {M : Mm_} {x1 x3 : Int32} {v w n : Nat} (h : mIn M o B) (h' : mIn M o' C) (hv : v + n ≤ B.length) (hw : w + n ≤ C.length) : ∀ (m k : Nat), k + m = n → (∀ i, i < k → by_ B (v + i) = by_ C (w + i)) → EvC G d m_M_equal 40 [some (.ref 91), some (.int x1), some (.int (zI ((o : Int) + (v : Int)))), some (.int x3), some (.int (zI ((o' : Int) + (w : Int)))), some (.int (zI (n : Int))), some (.int (zI 1)), some (.int (zI (k : Int)))] [] M (some (.int (zI (if ∀ i, i < n → by_ B (v + i) = by_ C (w + i) then 1 else 0))), M)
  | 0, k, hk, he => by
    have hq := h.2.2.2
    have hk : k = n := by omega
    subst hk
    refine ev_M_equal_40 ?_
    rw [if_neg (fun q => by rw [zI_lt ⟨by omega, by omega⟩ ⟨by omega, by omega⟩] at q; omega), if_pos he]
    exact ⟨by decide +kernel, rfl⟩
  | m + 1, k, hk, he => by
    have hq := h.2.2.2
    have hq' := h'.2.2.2
    have b1 := h.2.1 (v + k) (by omega)
    have b2 := h'.2.1 (w + k) (by omega)
    refine ev_M_equal_40 ?_
    rw [if_pos ((zI_lt ⟨by omega, by omega⟩ ⟨by omega, by omega⟩).mpr (by omega)), zI_0, if_neg z10, zI_add, zI_add, zI_add, show (o : Int) + (v : Int) + (k : Int) = (o : Int) + ((v + k : Nat) : Int) by omega, show (o' : Int) + (w : Int) + (k : Int) = (o' : Int) + ((w + k : Nat) : Int) by omega, mI h (i := v + k) (by omega), mI h' (i := w + k) (by omega), show (k : Int) + 1 = ((k + 1 : Nat) : Int) by omega]
    refine ⟨okF_W h.1 rfl, mOk h (by omega), okF_W h.1 rfl, mOk h' (by omega), ?_⟩
    by_cases c : by_ B (v + k) = by_ C (w + k)
    · rw [if_pos (by rw [c])]
      exact eq_l h h' hv hw m (k + 1) (by omega) (fun i hi => by
        by_cases e : i = k
        · rw [e]; exact c
        · exact he i (by omega))
    · rw [if_neg (zI_ne ⟨by omega, by omega⟩ ⟨by omega, by omega⟩ c), if_neg (fun q => c (q k (by omega)))]
      exact eq_0
theorem e_M_equal {M : Mm_} {t u : Int} {v w : Nat} (h : mIn M o B) (h' : mIn M o' C) (ht : 1 ≤ t ∧ t ≤ 6) (hu : 1 ≤ u ∧ u ≤ 6) (hv : t = 1 ∨ t = 5 ∨ t = 6 ∨ v < B.length) (hw : u = 1 ∨ u = 5 ∨ u = 6 ∨ w < C.length) (hB : bh B t v ≤ B.length) (hC : bh C u w ≤ C.length) :
    Ev G (d + 1) 121 [.ref 91, .int (zI t), .int (zI ((o : Int) + (v : Int))), .int (zI u), .int (zI ((o' : Int) + (w : Int)))] M (some (.int (zI (if val B t v = val C u w then 1 else 0))), M) := by
  have hq := h.2.2.2
  have hq' := h'.2.2.2
  have g1 := bh_ge (B := B) (t := t) (v := v)
  have g2 := bh_ge (B := C) (t := u) (v := w)
  refine ev_of (q := mt_M_equal) rfl (ev_M_equal_0 ⟨okO_W h.1 rfl, _, _, e_M_behind h ht hv, ev_M_equal_6 ?_⟩)
  rw [zI_sub, show (o : Int) + ((bh B t v : Nat) : Int) - ((o : Int) + (v : Int)) = ((bh B t v - v : Nat) : Int) by omega]
  by_cases c : t = u
  · rw [if_pos (by rw [c])]
    refine ⟨okO_W h.1 rfl, _, _, e_M_behind h' hu hw, ev_M_equal_22 ?_⟩
    rw [zI_sub, show (o' : Int) + ((bh C u w : Nat) : Int) - ((o' : Int) + (w : Int)) = ((bh C u w - w : Nat) : Int) by omega]
    by_cases cl : bh C u w - w = bh B t v - v
    · rw [if_pos (by rw [cl])]
      have hh := eq_l (G := G) (d := d + 1) (x1 := zI t) (x3 := zI u) (v := v) (w := w) (n := bh B t v - v) h h' (by omega) (by omega) _ 0 (Nat.zero_add _) (fun i hi => absurd hi (by omega))
      have e : (∀ i, i < bh B t v - v → by_ B (v + i) = by_ C (w + i)) ↔ val B t v = val C u w := by
        rw [val_eq hB hC]
        exact ⟨fun q => ⟨c, cl.symm, q⟩, fun q => q.2.2⟩
      simp only [e] at hh
      exact hh
    · rw [if_neg (zI_ne ⟨by omega, by omega⟩ ⟨by omega, by omega⟩ (by omega)), if_neg (fun q => by rw [val_eq hB hC] at q; omega)]
      exact eq_0
  · rw [if_neg (zI_ne ⟨by omega, by omega⟩ ⟨by omega, by omega⟩ c), if_neg (fun q => c ((val_eq hB hC).mp q).1)]
    exact eq_0
/-- two bytes as a number -/
def sgn (B : List Int) (p : Nat) : Int := if 256 * by_ B p + by_ B (p + 1) < 32768 then 256 * by_ B p + by_ B (p + 1) else 256 * by_ B p + by_ B (p + 1) - 65536
theorem sgn_rg (h : okB B) {p : Nat} (hp : p + 1 < B.length) : -32768 ≤ sgn B p ∧ sgn B p ≤ 32767 := by
  have b1 := h p (by omega)
  have b2 := h (p + 1) hp
  unfold sgn
  split <;> omega
theorem e_M_value {M : Mm_} {p : Nat} (h : mIn M o B) (hp : p + 1 < B.length) : Ev G d 105 [.ref 91, .int (zI ((o : Int) + (p : Int)))] M (some (.int (zI (sgn B p))), M) := by
  have hq := h.2.2.2
  have b1 := h.2.1 p (by omega)
  have b2 := h.2.1 (p + 1) hp
  refine ev_of (q := mt_M_value) rfl (ev_M_value_0 ?_)
  rw [zI_add, show (o : Int) + (p : Int) + 1 = (o : Int) + ((p + 1 : Nat) : Int) by omega, mI h (i := p) (by omega), mI h hp, zI_mul, zI_add, zI_sub]
  refine ⟨okF_W h.1 rfl, mOk h (by omega), okF_W h.1 rfl, mOk h hp, ?_⟩
  unfold sgn
  by_cases c : 256 * by_ B p + by_ B (p + 1) < 32768
  · rw [if_pos c, if_pos ((zI_lt ⟨by omega, by omega⟩ ⟨by omega, by omega⟩).mpr c)]
  · rw [if_neg c, if_neg (fun q => by rw [zI_lt ⟨by omega, by omega⟩ ⟨by omega, by omega⟩] at q; omega)]
end EQUAL
