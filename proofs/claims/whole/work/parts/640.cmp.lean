/-! COMPARISONS, of both -/
def cmpL (B C : List Int) : Nat → Nat → Nat → Int
  | 0, _, _ => 0
  | r + 1, a, b => if by_ B a - by_ C b = 0 then cmpL B C r (a + 1) (b + 1) else by_ B a - by_ C b
def cmpR (B C : List Int) (s n w m : Nat) : Int := if cmpL B C (min n m) s w = 0 then (n : Int) - (m : Int) else cmpL B C (min n m) s w
theorem cmpL_zero {B C : List Int} : ∀ (r a b : Nat), cmpL B C r a b = 0 ↔ ∀ i, i < r → by_ B (a + i) = by_ C (b + i)
  | 0, a, b => ⟨fun _ i hi => absurd hi (by omega), fun _ => rfl⟩
  | r + 1, a, b => by
    have ih := cmpL_zero (B := B) (C := C) r (a + 1) (b + 1)
    unfold cmpL
    by_cases c : by_ B a - by_ C b = 0
    · rw [if_pos c, ih]
      constructor
      · intro h i hi
        rcases Nat.eq_zero_or_pos i with rfl | h0
        · show by_ B a = by_ C b; omega
        · have := h (i - 1) (by omega)
          rw [show a + 1 + (i - 1) = a + i by omega, show b + 1 + (i - 1) = b + i by omega] at this
          exact this
      · intro h i hi
        have := h (i + 1) (by omega)
        rw [show a + (i + 1) = a + 1 + i by omega, show b + (i + 1) = b + 1 + i by omega] at this
        exact this
    · rw [if_neg c]
      refine ⟨fun q => absurd q c, fun q => ?_⟩
      have h0 : by_ B a = by_ C b := q 0 (by omega)
      omega
theorem cmpR_zero {B C : List Int} {s n w m : Nat} : cmpR B C s n w m = 0 ↔ n = m ∧ ∀ i, i < n → by_ B (s + i) = by_ C (w + i) := by
  unfold cmpR
  by_cases c : cmpL B C (min n m) s w = 0
  · rw [if_pos c]
    have hc := (cmpL_zero _ _ _).mp c
    exact ⟨fun q => ⟨by omega, fun i hi => hc i (by omega)⟩, fun q => by omega⟩
  · rw [if_neg c]
    refine ⟨fun q => absurd q c, fun q => absurd ((cmpL_zero _ _ _).mpr (fun i hi => q.2 i (by omega))) c⟩
theorem cmpL_rg {B C : List Int} (hB : okB B) (hC : okB C) : ∀ (r a b : Nat), a + r ≤ B.length → b + r ≤ C.length → -255 ≤ cmpL B C r a b ∧ cmpL B C r a b ≤ 255
  | 0, a, b, _, _ => ⟨by show (-255 : Int) ≤ 0; omega, by show (0 : Int) ≤ 255; omega⟩
  | r + 1, a, b, h1, h2 => by
    have ih := cmpL_rg hB hC r (a + 1) (b + 1) (by omega) (by omega)
    have b1 := hB a (by omega)
    have b2 := hC b (by omega)
    unfold cmpL
    split
    · exact ih
    · omega
section CMP
variable {G : Nat × (Nat → Int32)} {d o o' : Nat} {B C : List Int} {M : Mm_}
theorem rowIs.okB {r cap : Nat} (h : rowIs M r cap B) : okB B := h.2.2.2.2.2
theorem cB_nat {B : List Int} {p : Nat} : cB B (p : Int) = by_ B p := by
  unfold cB
  rw [if_pos (by omega), Int.toNat_natCast]
theorem e_R_cell' {r cap p : Nat} (hW : WM M) (h : rowIs M r cap B) (hp : p < 100000) : Ev G d 14 [.ref r, .int (zI (p : Int))] M (some (.int (zI (by_ B p))), M) := by
  have := e_R_cell (G := G) (d := d) (p := (p : Int)) hW h ⟨by omega, by omega⟩
  rw [cB_nat] at this
  exact this
theorem e_R_signedNumber {r cap p : Nat} (hW : WM M) (h : rowIs M r cap B) (hp : p + 1 < B.length) : Ev G (d + 1) 32 [.ref r, .int (zI (p : Int))] M (some (.int (zI (sgn B p))), M) := by
  have hc := cap_le h.2.1
  have hl := h.2.2.1
  have b1 := h.okB p (by omega)
  have b2 := h.okB (p + 1) hp
  refine ev_of (q := mt_R_signedNumber) rfl (ev_R_signedNumber_0 ⟨okO_W hW h.1, _, _, e_R_cell' hW h (by omega), ev_R_signedNumber_5 ?_⟩)
  rw [zI_add, show (p : Int) + 1 = ((p + 1 : Nat) : Int) by omega]
  refine ⟨okO_W hW h.1, _, _, e_R_cell' hW h (by omega), ev_R_signedNumber_15 ?_⟩
  rw [shl_or b1.1 (by omega) b2.1 (by omega), short_z (by omega) (by omega), show by_ B p * 256 + by_ B (p + 1) = 256 * by_ B p + by_ B (p + 1) by omega]
  rfl
theorem rcmp_l {a b cap cap' s e w : Nat} {x2 : Int32} (hW : WM M) (h : rowIs M a cap B) (h' : rowIs M b cap' C) (hs : s + e ≤ B.length) (hw : w ≤ C.length) : ∀ (r k : Nat) (u8 : Option Value), k + r = min e (C.length - w) → cmpL B C (min e (C.length - w)) s w = cmpL B C r (s + k) (w + k) →
    EvC G (d + 1) m_R_compare 17 [some (.ref a), some (.int (zI (s : Int))), some (.int x2), some (.ref b), some (.int (zI (w : Int))), some (.int (zI (e : Int))), some (.int (zI ((C.length - w : Nat) : Int))), some (.int (zI (k : Int))), u8] [] M (some (.int (zI (cmpR B C s e w (C.length - w)))), M)
  | 0, k, u8, hk, hr => by
    have hc := cap_le h.2.1
    have hc' := cap_le h'.2.1
    have hl := h.2.2.1
    have hl' := h'.2.2.1
    have e0 : cmpL B C (min e (C.length - w)) s w = 0 := by rw [hr]; rfl
    refine ev_R_compare_17 ?_
    unfold cmpR
    rw [if_pos e0, zI_sub]
    by_cases c : k < e
    · rw [if_pos ((zI_lt ⟨by omega, by omega⟩ ⟨by omega, by omega⟩).mpr (by omega)), if_neg (fun q => by rw [zI_lt ⟨by omega, by omega⟩ ⟨by omega, by omega⟩] at q; omega)]
    · rw [if_neg (fun q => by rw [zI_lt ⟨by omega, by omega⟩ ⟨by omega, by omega⟩] at q; omega)]
  | r + 1, k, u8, hk, hr => by
    have hc := cap_le h.2.1
    have hc' := cap_le h'.2.1
    have hl := h.2.2.1
    have hl' := h'.2.2.1
    have b1 := h.okB (s + k) (by omega)
    have b2 := h'.okB (w + k) (by omega)
    have hcm : cmpL B C (r + 1) (s + k) (w + k) = if by_ B (s + k) - by_ C (w + k) = 0 then cmpL B C r (s + k + 1) (w + k + 1) else by_ B (s + k) - by_ C (w + k) := rfl
    refine ev_R_compare_17 ?_
    rw [if_pos ((zI_lt ⟨by omega, by omega⟩ ⟨by omega, by omega⟩).mpr (by omega)), if_pos ((zI_lt ⟨by omega, by omega⟩ ⟨by omega, by omega⟩).mpr (by omega)), zI_add, show (s : Int) + (k : Int) = ((s + k : Nat) : Int) by omega]
    refine ⟨okO_W hW h.1, _, _, e_R_cell' hW h (by omega), ev_R_compare_39 ?_⟩
    rw [zI_add, show (w : Int) + (k : Int) = ((w + k : Nat) : Int) by omega]
    refine ⟨okO_W hW h'.1, _, _, e_R_cell' hW h' (by omega), ev_R_compare_48 ?_⟩
    rw [zI_sub, zI_0]
    by_cases c : by_ B (s + k) - by_ C (w + k) = 0
    · rw [if_pos (by rw [c]), zI_add, show (k : Int) + 1 = ((k + 1 : Nat) : Int) by omega]
      rw [if_pos c] at hcm
      exact rcmp_l hW h h' hs hw r (k + 1) _ (by omega) (by rw [hr, hcm]; rfl)
    · rw [if_neg (zI_ne ⟨by omega, by omega⟩ ⟨by omega, by omega⟩ c)]
      rw [if_neg c] at hcm
      unfold cmpR
      rw [hr, hcm, if_neg c]
theorem e_R_compare {a b cap cap' s e w : Nat} (hW : WM M) (h : rowIs M a cap B) (h' : rowIs M b cap' C) (hse : s ≤ e) (hs : e ≤ B.length) (hw : w ≤ C.length) : Ev G (d + 1) 63 [.ref a, .int (zI (s : Int)), .int (zI (e : Int)), .ref b, .int (zI (w : Int))] M (some (.int (zI (cmpR B C s (e - s) w (C.length - w)))), M) := by
  refine ev_of (q := mt_R_compare) rfl (ev_R_compare_0 ⟨okF_W hW h'.1, ?_⟩)
  rw [h'.2.2.2.1, zI_sub, zI_sub, show (e : Int) - (s : Int) = ((e - s : Nat) : Int) by omega, show (C.length : Int) - (w : Int) = ((C.length - w : Nat) : Int) by omega]
  exact rcmp_l hW h h' (by omega) hw _ 0 none (Nat.zero_add _) rfl
/-- the same for the reference -/
theorem mcmp_94 {x1 x4 x6 : Int32} {v w : Nat} {x : Int} (h : mIn M o B) (h' : mIn M o' C) (hv : v < B.length) (hw : w < C.length) (hx : rg x) : EvC G d m_M_compare 94 [some (.ref 91), some (.int x1), some (.int (zI ((o : Int) + (v : Int)))), some (.int (zI ((o' : Int) + (w : Int)))), some (.int x4), some (.int (zI x)), some (.int x6)] [] M (some (.int (zI (if x = 0 then by_ B v - by_ C w else x))), M) := by
  refine ev_M_compare_94 ?_
  by_cases c : x = 0
  · rw [if_pos c, c, zI_0, if_pos rfl, mI h hv, mI h' hw, zI_sub]
    exact ⟨okF_W h.1 rfl, mOk h hv, okF_W h.1 rfl, mOk h' hw, rfl⟩
  · rw [if_neg c, zI_0, if_neg (zI_ne hx ⟨by omega, by omega⟩ c)]
theorem mcmp_l {x1 : Int32} {v w n : Nat} (h : mIn M o B) (h' : mIn M o' C) (hv : v + 1 + n ≤ B.length) (hw : w + 1 + n ≤ C.length) : ∀ (r k : Nat), k + r = n → cmpL B C n (v + 1) (w + 1) = cmpL B C r (v + 1 + k) (w + 1 + k) →
    EvC G d m_M_compare 55 [some (.ref 91), some (.int x1), some (.int (zI ((o : Int) + (v : Int)))), some (.int (zI ((o' : Int) + (w : Int)))), some (.int (zI (n : Int))), some (.int (zI 0)), some (.int (zI ((k + 1 : Nat) : Int)))] [] M (some (.int (zI (if cmpL B C n (v + 1) (w + 1) = 0 then by_ B v - by_ C w else cmpL B C n (v + 1) (w + 1)))), M)
  | 0, k, hk, hr => by
    have hq := h.2.2.2
    have e0 : cmpL B C n (v + 1) (w + 1) = 0 := by rw [hr]; rfl
    refine ev_M_compare_55 ?_
    rw [if_pos ((zI_lt ⟨by omega, by omega⟩ ⟨by omega, by omega⟩).mpr (by omega)), e0]
    exact mcmp_94 h h' (by omega) (by omega) ⟨by omega, by omega⟩
  | r + 1, k, hk, hr => by
    have hq := h.2.2.2
    have hq' := h'.2.2.2
    have b1 := h.2.1 (v + 1 + k) (by omega)
    have b2 := h'.2.1 (w + 1 + k) (by omega)
    have hcm : cmpL B C (r + 1) (v + 1 + k) (w + 1 + k) = if by_ B (v + 1 + k) - by_ C (w + 1 + k) = 0 then cmpL B C r (v + 1 + k + 1) (w + 1 + k + 1) else by_ B (v + 1 + k) - by_ C (w + 1 + k) := rfl
    refine ev_M_compare_55 ?_
    rw [if_neg (fun q => by rw [zI_lt ⟨by omega, by omega⟩ ⟨by omega, by omega⟩] at q; omega), zI_0, if_pos rfl, zI_add, zI_add, zI_add, show (o : Int) + (v : Int) + ((k + 1 : Nat) : Int) = (o : Int) + ((v + 1 + k : Nat) : Int) by omega, show (o' : Int) + (w : Int) + ((k + 1 : Nat) : Int) = (o' : Int) + ((w + 1 + k : Nat) : Int) by omega, mI h (i := v + 1 + k) (by omega), mI h' (i := w + 1 + k) (by omega), zI_sub, show ((k + 1 : Nat) : Int) + 1 = ((k + 1 + 1 : Nat) : Int) by omega]
    refine ⟨okF_W h.1 rfl, mOk h (by omega), okF_W h.1 rfl, mOk h' (by omega), ?_⟩
    by_cases c : by_ B (v + 1 + k) - by_ C (w + 1 + k) = 0
    · rw [if_pos c] at hcm
      rw [c]
      exact mcmp_l h h' hv hw r (k + 1) (by omega) (by rw [hr, hcm]; rfl)
    · rw [if_neg c] at hcm
      have e1 : cmpL B C n (v + 1) (w + 1) = by_ B (v + 1 + k) - by_ C (w + 1 + k) := by rw [hr, hcm]
      rw [e1]
      refine ev_M_compare_55 ?_
      have m94 := mcmp_94 (G := G) (d := d) (x1 := x1) (x4 := zI (n : Int)) (x6 := zI ((k + 1 + 1 : Nat) : Int)) (x := by_ B (v + 1 + k) - by_ C (w + 1 + k)) h h' (show v < B.length by omega) (show w < C.length by omega) ⟨by omega, by omega⟩
      rw [zI_0, if_neg (show ¬ zI (by_ B (v + 1 + k) - by_ C (w + 1 + k)) = zI 0 from zI_ne ⟨by omega, by omega⟩ ⟨by omega, by omega⟩ c), if_neg c]
      rw [if_neg c] at m94
      split
      · exact m94
      · exact m94
theorem e_M_compare_t {v w n m : Nat} (h : mIn M o B) (h' : mIn M o' C) (hv : v + 1 + n ≤ B.length) (hw : w + 1 + m ≤ C.length) (en : by_ B v = (n : Int)) (em : by_ C w = (m : Int)) : Ev G (d + 1) 131 [.ref 91, .int (zI 2), .int (zI ((o : Int) + (v : Int))), .int (zI ((o' : Int) + (w : Int)))] M (some (.int (zI (cmpR B C (v + 1) n (w + 1) m))), M) := by
  have b1 := h.2.1 v (by omega)
  have b2 := h'.2.1 w (by omega)
  have hq := h.2.2.2
  refine ev_of (q := mt_M_compare) rfl (ev_M_compare_0 ?_)
  rw [if_neg (by decide +kernel), mI h (i := v) (by omega), mI h' (i := w) (by omega), en, em]
  refine ⟨okF_W h.1 rfl, mOk h (by omega), okF_W h.1 rfl, mOk h' (by omega), ?_⟩
  unfold cmpR
  rw [← en, ← em, show (1 : Int) = ((0 + 1 : Nat) : Int) by omega]
  by_cases c : n < m
  · rw [if_pos ((zI_lt ⟨by omega, by omega⟩ ⟨by omega, by omega⟩).mpr (by omega)), show min n m = n by omega]
    have := mcmp_l (G := G) (d := d + 1) (x1 := zI 2) (v := v) (w := w) (n := n) h h' hv (by omega) n 0 (by omega) rfl
    rw [← en] at this
    exact ⟨okF_W h.1 rfl, mOk h (by omega), this⟩
  · rw [if_neg (fun q => by rw [zI_lt ⟨by omega, by omega⟩ ⟨by omega, by omega⟩] at q; omega), show min n m = m by omega]
    have := mcmp_l (G := G) (d := d + 1) (x1 := zI 2) (v := v) (w := w) (n := m) h h' (by omega) hw m 0 (by omega) rfl
    rw [← em] at this
    exact ⟨okF_W h.1 rfl, mOk h' (by omega), this⟩
theorem e_M_compare_i {v w : Nat} (h : mIn M o B) (h' : mIn M o' C) (hv : v + 1 < B.length) (hw : w + 1 < C.length) : Ev G (d + 1) 131 [.ref 91, .int (zI 1), .int (zI ((o : Int) + (v : Int))), .int (zI ((o' : Int) + (w : Int)))] M (some (.int (zI (sgn B v - sgn C w))), M) := by
  refine ev_of (q := mt_M_compare) rfl (ev_M_compare_0 ?_)
  rw [if_pos rfl]
  refine ⟨okO_W h.1 rfl, _, _, e_M_value h hv, ev_M_compare_10 ⟨okO_W h.1 rfl, _, _, e_M_value h' hw, ev_M_compare_15 ?_⟩⟩
  rw [zI_sub]
end CMP
