/-! THE REFERENCE's conditions: isEqual -/
/-- the reference's condition -/
def mcn (M : Mm_) (c : Nat) (P : List (List Int)) (f : Int) (Q : List Int) : Prop := mPth M (3 + c) P ∧ mIn M (1120 + 96 * c) Q ∧ M.2.1 97 c = zI f ∧ (0 ≤ f ∧ f ≤ 7) ∧ okQ Q ∧ 0 < P.length ∧ c < 3 ∧ (isC (by_ Q 0) → 0 ≤ by_ Q 1)
theorem okC_of {Q : List Int} {N : List Nd} (h : rdQ Q = .inr N) : isC (by_ Q 0) → 0 ≤ by_ Q 1 := by
  have hA := rdQ_acc h
  have hr := hA.1.2.1
  have e1 : rTy N 0 = by_ Q 0 := by unfold rTy; rw [hr]
  have e2 : rPl N 0 = 1 := by unfold rPl; rw [hr]
  have hn := (hA.2.2.1 0 hA.1.1).2.2.2.2.2
  rw [e1, e2] at hn
  exact hn
section MCOND
variable {G : Nat × (Nat → Int32)} {d o : Nat} {M : Mm_} {B : List Int} {N : List Nd} {P : List (List Int)} {f : Int} {Q : List Int} {c : Nat}
theorem mcn.cm {M' : Mm_} (h : mcn M c P f Q) (F : Fp pCm M M') : mcn M' c P f Q := by
  obtain ⟨h1, h2, h3, h4⟩ := h
  exact ⟨h1.cm F, h2.cm F, by rw [F.2.2 _ _ (by unfold pCm; omega)]; exact h3, h4⟩
theorem q_w (h : mcn M c P f Q) : by_ Q 0 = 1 ∨ by_ Q 0 = 5 ∨ by_ Q 0 = 6 ∨ 1 < Q.length := by
  obtain ⟨-, -, -, -, h5, -, -, h8⟩ := h
  have q1 := h5.2.1
  have q2 := h5.2.2.1
  by_cases c2 : by_ Q 0 = 2
  · exact Or.inr (Or.inr (Or.inr (by_lt (h5.2.2.2.1 c2))))
  · by_cases c3 : isC (by_ Q 0)
    · exact Or.inr (Or.inr (Or.inr (by_lt (h8 c3))))
    · unfold isC at c3
      omega
/-- a node as the reference needs it -/
theorem nd_w {k : Nat} (hA : Acc B 3 0 N) (hk : k < N.length) : (1 ≤ rTy N k ∧ rTy N k ≤ 6) ∧ (rTy N k = 1 ∨ rTy N k = 5 ∨ rTy N k = 6 ∨ rPl N k < B.length) ∧ rEn B N k ≤ B.length := by
  obtain ⟨h1, h2, h3, h4, h5, h6⟩ := hA.2.2.1 k hk
  refine ⟨⟨h1, h2⟩, ?_, (hA.2.2.2.1 k hk (by simp)).1⟩
  by_cases c2 : rTy N k = 2
  · exact Or.inr (Or.inr (Or.inr (by_lt (h5 c2).1)))
  · by_cases c3 : isC (rTy N k)
    · exact Or.inr (Or.inr (Or.inr (by_lt (h6 c3))))
    · unfold isC at c3
      omega
theorem getD_memN {L : List Nat} {i : Nat} (hi : i < L.length) : L.getD i 0 ∈ L := by
  rw [List.getD_eq_getElem?_getD, List.getElem?_eq_getElem hi]
  exact List.getElem_mem hi
theorem ex_idxN {L : List Nat} {p : Nat → Prop} : (∃ i, 0 ≤ i ∧ i < L.length ∧ p (L.getD i 0)) ↔ ∃ z ∈ L, p z := by
  constructor
  · rintro ⟨i, -, h2, h3⟩
    exact ⟨_, getD_memN h2, h3⟩
  · rintro ⟨z, hz, h⟩
    obtain ⟨i, hi, e⟩ := List.getElem_of_mem hz
    refine ⟨i, by omega, hi, ?_⟩
    rw [List.getD_eq_getElem?_getD, List.getElem?_eq_getElem hi, Option.getD_some, e]
    exact h
theorem mis_1 {x1 x2 x3 : Int32} {n : Nat} (hn : n ≤ 1000) : ∀ (m k : Nat), k + m = n → EvC G (d + 1) m_M_isEqual 48 [some (.ref 91), some (.int x1), some (.int x2), some (.int x3), some (.int (zI (n : Int))), some (.int (zI 1)), some (.int (zI (k : Int)))] [] M (some (.int (zI 1)), M)
  | 0, k, hk => by
    refine ev_M_isEqual_48 ?_
    rw [if_neg (fun q => by rw [zI_lt ⟨by omega, by omega⟩ ⟨by omega, by omega⟩] at q; omega)]
    exact ⟨by decide +kernel, rfl⟩
  | m + 1, k, hk => by
    refine ev_M_isEqual_48 ?_
    rw [if_pos ((zI_lt ⟨by omega, by omega⟩ ⟨by omega, by omega⟩).mpr (by omega)), zI_0, if_neg z10, zI_add, show (k : Int) + 1 = ((k + 1 : Nat) : Int) by omega]
    exact mis_1 hn m (k + 1) (by omega)
theorem mis_l {L : List Nat} {x1 x2 : Int32} (h : mIn M o B) (hA : Acc B 3 0 N) (hC : mcn M c P f Q) (hL : cur M o N L) (hl : L.length ≤ 128) (hLN : ∀ z ∈ L, z < N.length) : ∀ (m k : Nat), k + m = L.length → ∃ x, EvC G (d + 2) m_M_isEqual 48 [some (.ref 91), some (.int x1), some (.int x2), some (.int (zI ((1120 + 96 * c : Nat) : Int))), some (.int (zI (L.length : Int))), some (.int (zI 0)), some (.int (zI (k : Int)))] [] M (some (.int x), M) ∧ b01 (∃ i, k ≤ i ∧ i < L.length ∧ val B (rTy N (L.getD i 0)) (rPl N (L.getD i 0)) = val Q (by_ Q 0) 1) x
  | 0, k, hk => by
    refine ⟨zI 0, ev_M_isEqual_48 ?_, b01_f (fun ⟨i, h1, h2, _⟩ => by omega)⟩
    rw [if_neg (fun q => by rw [zI_lt ⟨by omega, by omega⟩ ⟨by omega, by omega⟩] at q; omega)]
    exact ⟨by decide +kernel, rfl⟩
  | m + 1, k, hk => by
    have qw := q_w hC
    obtain ⟨c1, c2, c3, c4, c5, c6, c7, c8⟩ := hC
    have hkN := hLN _ (getD_memN (L := L) (i := k) (by omega))
    obtain ⟨w1, w2, w3⟩ := nd_w hA hkN
    obtain ⟨x, e, w⟩ := mis_l (x1 := x1) (x2 := x2) h hA ⟨c1, c2, c3, c4, c5, c6, c7, c8⟩ hL hl hLN m (k + 1) (by omega)
    have hq0 : 0 < Q.length := by_lt (by have := c5.2.1; omega)
    have i0 := mI c2 hq0
    have o0 := mOk c2 hq0
    rw [← zI_o0] at i0 o0
    obtain ⟨l1, l2⟩ := hL k (by omega)
    have ee := e_M_equal (G := G) (d := d) (v := rPl N (L.getD k 0)) (w := 1) h c2 w1 ⟨c5.2.1, c5.2.2.1⟩ w2 qw w3 (by rw [c5.1]; exact Nat.le_refl _)
    have e1 : zI ((1120 + 96 * c : Nat) : Int) + zI 1 = zI (((1120 + 96 * c : Nat) : Int) + ((1 : Nat) : Int)) := by rw [zI_add]; rfl
    have pre : ∀ y, EvC G (d + 2) m_M_isEqual 87 [some (.ref 91), some (.int x1), some (.int x2), some (.int (zI ((1120 + 96 * c : Nat) : Int))), some (.int (zI (L.length : Int))), some (.int (zI 0)), some (.int (zI (k : Int)))] [.int (zI (if val B (rTy N (L.getD k 0)) (rPl N (L.getD k 0)) = val Q (by_ Q 0) 1 then 1 else 0))] M (some (.int y), M) → EvC G (d + 2) m_M_isEqual 48 [some (.ref 91), some (.int x1), some (.int x2), some (.int (zI ((1120 + 96 * c : Nat) : Int))), some (.int (zI (L.length : Int))), some (.int (zI 0)), some (.int (zI (k : Int)))] [] M (some (.int y), M) := fun y hy => by
      refine ev_M_isEqual_48 ?_
      rw [if_pos ((zI_lt ⟨by omega, by omega⟩ ⟨by omega, by omega⟩).mpr (by omega)), zI_0, if_pos rfl, zI_nat (by omega), show M.2.1 (91 + 9) k = zI (rTy N (L.getD k 0)) from l1, show M.2.1 (91 + 10) k = zI ((o : Int) + ((rPl N (L.getD k 0) : Nat) : Int)) from l2, i0, e1]
      exact ⟨okF_W h.1 rfl, okA_z h.1 (show sg0[91 + 9]? = some (.inr (0, 128)) from rfl) (by omega) (by omega), okF_W h.1 rfl, okA_z h.1 (show sg0[91 + 10]? = some (.inr (0, 128)) from rfl) (by omega) (by omega), okF_W h.1 rfl, o0, okO_W h.1 rfl, _, _, ee, hy⟩
    have e2 : zI (k : Int) + zI 1 = zI ((k + 1 : Nat) : Int) := by rw [zI_add, show (k : Int) + 1 = ((k + 1 : Nat) : Int) by omega]
    by_cases cc : val B (rTy N (L.getD k 0)) (rPl N (L.getD k 0)) = val Q (by_ Q 0) 1
    · refine ⟨zI 1, pre _ (ev_M_isEqual_87 ?_), b01_t ⟨k, Nat.le_refl _, by omega, cc⟩⟩
      rw [if_pos cc, zI_0, if_neg z10, e2]
      exact mis_1 (by omega) m (k + 1) (by omega)
    · refine ⟨x, pre _ (ev_M_isEqual_87 ?_), b01_iff w ⟨fun ⟨i, h1, h2, h3⟩ => ⟨i, by omega, h2, h3⟩, fun ⟨i, h1, h2, h3⟩ => ⟨i, ?_, h2, h3⟩⟩⟩
      · rw [if_neg cc, zI_0, if_pos rfl, e2]
        exact e
      · rcases Nat.lt_or_ge k i with h4 | h4
        · omega
        · have : i = k := by omega
          subst this
          exact absurd h3 cc
theorem gath_lt (hA : Acc B 3 0 N) {p : List Int} {k : Nat} (h : k ∈ gathN N p) : k < N.length := by
  rw [gath_eq] at h
  rcases List.mem_append.mp h with h | h
  · have := mem_come (p := p) hA p.length (Nat.le_refl _) k
    rw [List.take_length] at this
    exact (this.mp h).1
  · obtain ⟨z, _, h⟩ := List.mem_flatMap.mp h
    unfold itK at h
    split at h
    · exact (kids_lt h).1
    · cases h
theorem gath_len (hA : Acc B 3 0 N) (hB : B.length ≤ 64) {p : List Int} : (gathN N p).length ≤ 128 := by
  have hl := hA.2.1
  have b1 := come_len (p := p) hA (i := p.length) (Nat.le_refl _)
  rw [List.take_length] at b1
  have b2 := itK_len (p := p) hA
  rw [gath_eq, List.length_append]
  omega
theorem e_M_isEqual {di : Nat} (h : mIn M (64 * di) B) (hA : Acc B 3 0 N) (hB : B.length ≤ 64) (hC : mcn M c P f Q) : ∃ M' x, Ev G (d + 7) 129 [.ref 91, .int (zI (di : Int)), .int (zI (c : Int))] M (some (.int x), M') ∧ b01 (hEq B N P Q) x ∧ Fp pCm M M' := by
  obtain ⟨M1, e1, c1, f1⟩ := e_M_gather (G := G) (d := d) h hA hB hC.1 (by have := hC.2.2.2.2.2.2.1; omega)
  have hC1 := hC.cm f1
  have h1 := h.cm f1
  have gl := gath_len hA hB (p := pks P)
  have pre : ∀ y, EvC G (d + 7) m_M_isEqual 20 [some (.ref 91), some (.int (zI (di : Int))), some (.int (zI (c : Int))), some (.int (zI ((1120 + 96 * c : Nat) : Int))), none, none, none] [.int (zI ((gathN N (pks P)).length : Int))] M1 (some (.int y), M1) → Ev G (d + 7) 129 [.ref 91, .int (zI (di : Int)), .int (zI (c : Int))] M (some (.int y), M1) := fun y hy => by
    refine ev_of (q := mt_M_isEqual) rfl (ev_M_isEqual_0 ?_)
    rw [zI_mul, zI_mul, zI_add, zI_add, show (64 : Int) * (di : Int) = ((64 * di : Nat) : Int) by omega, show (3 : Int) + (c : Int) = ((3 + c : Nat) : Int) by omega, show (1120 : Int) + 96 * (c : Int) = ((1120 + 96 * c : Nat) : Int) by omega]
    exact ⟨okO_W h.1 rfl, _, _, e1, hy⟩
  obtain ⟨d1, d2, d3, d4, d5, d6, d7, d8⟩ := hC1
  have hq0 : 0 < Q.length := by_lt (by have := d5.2.1; omega)
  have i0 := mI d2 hq0
  have o0 := mOk d2 hq0
  rw [← zI_o0] at i0 o0
  have q1 := d5.2.1
  have q2 := d5.2.2.1
  by_cases c0 : (gathN N (pks P)).length = 0
  · have g0 : gathN N (pks P) = [] := List.length_eq_zero_iff.mp c0
    have fin : ∀ y : Int, (y = 0 ∨ y = 1) → EvC G (d + 7) m_M_isEqual 48 [some (.ref 91), some (.int (zI (di : Int))), some (.int (zI (c : Int))), some (.int (zI ((1120 + 96 * c : Nat) : Int))), some (.int (zI ((gathN N (pks P)).length : Int))), some (.int (zI y)), some (.int (zI 0))] [] M1 (some (.int (zI y)), M1) := fun y hy => by
      refine ev_M_isEqual_48 ?_
      rw [if_neg (fun q => by rw [zI_lt ⟨by omega, by omega⟩ ⟨by omega, by omega⟩] at q; omega)]
      exact ⟨bit_z hy, rfl⟩
    have pre0 : ∀ y, (if zI (by_ Q 0) = zI 6 then EvC G (d + 7) m_M_isEqual 48 [some (.ref 91), some (.int (zI (di : Int))), some (.int (zI (c : Int))), some (.int (zI ((1120 + 96 * c : Nat) : Int))), some (.int (zI ((gathN N (pks P)).length : Int))), some (.int (zI 1)), some (.int (zI 0))] [] M1 (some (.int y), M1) else EvC G (d + 7) m_M_isEqual 48 [some (.ref 91), some (.int (zI (di : Int))), some (.int (zI (c : Int))), some (.int (zI ((1120 + 96 * c : Nat) : Int))), some (.int (zI ((gathN N (pks P)).length : Int))), some (.int (zI 0)), some (.int (zI 0))] [] M1 (some (.int y), M1)) → Ev G (d + 7) 129 [.ref 91, .int (zI (di : Int)), .int (zI (c : Int))] M (some (.int y), M1) := fun y hy => by
      refine pre _ (ev_M_isEqual_20 ?_)
      rw [i0, if_pos (by rw [c0, zI_0]; rfl)]
      exact ⟨okF_W h1.1 rfl, o0, hy⟩
    by_cases c6 : by_ Q 0 = 6
    · refine ⟨M1, zI 1, pre0 _ ?_, b01_t (Or.inl ⟨g0, c6⟩), f1⟩
      rw [if_pos (by rw [c6])]
      exact fin 1 (Or.inr rfl)
    · refine ⟨M1, zI 0, pre0 _ ?_, b01_f (fun hh => ?_), f1⟩
      · rw [if_neg (zI_ne ⟨by omega, by omega⟩ ⟨by omega, by omega⟩ c6)]
        exact fin 0 (Or.inl rfl)
      · rcases hh with hh | ⟨k, hk, -⟩
        · exact c6 hh.2
        · rw [g0] at hk
          cases hk
  · obtain ⟨x, e, w⟩ := mis_l (G := G) (d := d + 5) (x1 := zI (di : Int)) (x2 := zI (c : Int)) h1 hA ⟨d1, d2, d3, d4, d5, d6, d7, d8⟩ c1 gl (fun z hz => gath_lt hA hz) _ 0 (Nat.zero_add _)
    refine ⟨M1, x, pre _ (ev_M_isEqual_20 ?_), b01_iff w ?_, f1⟩
    · rw [zI_0, if_neg (zI_ne ⟨by omega, by omega⟩ ⟨by omega, by omega⟩ (by omega))]
      exact e
    · rw [ex_idxN (L := gathN N (pks P)) (p := fun z => val B (rTy N z) (rPl N z) = val Q (by_ Q 0) 1)]
      constructor
      · exact fun hh => Or.inr hh
      · rintro (⟨h1, -⟩ | hh)
        · exact absurd (by rw [h1]; rfl) c0
        · exact hh
end MCOND
