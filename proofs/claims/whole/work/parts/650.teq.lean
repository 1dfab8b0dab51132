/-! THE CLASS's TREE: areEqual, isEqual, itemTotal -/
def icnt (N : List Nd) (c : Int) : Nat → Nat → Nat
  | 0, _ => 0
  | r + 1, k => (if rPa N k = c then 1 else 0) + icnt N c r (k + 1)
theorem icnt_add {N : List Nd} {c : Nat} : ∀ (r k : Nat), ((List.range k).filter (fun k => decide (rPa N k = (c : Int)))).length + icnt N (c : Int) r k = ((List.range (k + r)).filter (fun k => decide (rPa N k = (c : Int)))).length
  | 0, k => rfl
  | r + 1, k => by
    have ih := icnt_add (N := N) (c := c) r (k + 1)
    rw [show k + (r + 1) = k + 1 + r by omega, ← ih, List.range_succ, List.filter_append, List.length_append]
    have ei : icnt N (c : Int) (r + 1) k = (if rPa N k = (c : Int) then 1 else 0) + icnt N (c : Int) r (k + 1) := rfl
    rw [ei]
    by_cases e : rPa N k = (c : Int)
    · rw [if_pos e, List.filter_cons_of_pos (by simp [e]), List.filter_nil, List.length_singleton]
      omega
    · rw [if_neg e, List.filter_cons_of_neg (by simp [e]), List.filter_nil, List.length_nil]
      omega
theorem icnt_kids {B : List Int} {N : List Nd} {c : Nat} (hN : ∀ k, k < N.length → NdOk B N k) (hc : c < N.length) : icnt N (c : Int) (N.length - (c + 1)) (c + 1) = (kids N c).length := by
  have h := icnt_add (N := N) (c := c) (N.length - (c + 1)) (c + 1)
  rw [show c + 1 + (N.length - (c + 1)) = N.length by omega] at h
  have h0 : (List.range (c + 1)).filter (fun k => decide (rPa N k = (c : Int))) = [] := by
    rw [List.filter_eq_nil_iff]
    intro k hk q
    have hk := List.mem_range.mp hk
    have := hold_lt hN (k := k) (by omega) (of_decide_eq_true q)
    omega
  rw [h0] at h
  simp only [List.length_nil, Nat.zero_add] at h
  exact h
theorem icnt_le {N : List Nd} {c : Int} : ∀ (r k : Nat), icnt N c r k ≤ r
  | 0, k => Nat.le_refl _
  | r + 1, k => by
    have := icnt_le (N := N) (c := c) r (k + 1)
    unfold icnt
    split <;> omega
section TEQ
variable {G : Nat × (Nat → Int32)} {d : Nat} {M : Mm_} {q cap : Nat} {B : List Int} {N : List Nd}
/-- what the tree's cells say of a node -/
theorem dT.at {k : Nat} (h : dT M q cap B N) (hk : k < N.length) : M.2.1 (42 + 1) k = zI (rTy N k) ∧ M.2.1 (42 + 2) k = zI (rNm N k) ∧ M.2.1 (42 + 3) k = zI (rSt N k) ∧ M.2.1 (42 + 4) k = zI (rPl N k) ∧ M.2.1 (42 + 6) k = zI (rPa N k) ∧ M.2.1 (42 + 5) k = zI (rEn B N k) ∧ rPl N k ≤ rEn B N k ∧ rEn B N k ≤ B.length ∧ 1 ≤ rTy N k ∧ rTy N k ≤ 6 ∧ k < 80 ∧ B.length ≤ 80 := by
  obtain ⟨hE, ⟨hn, hN, hEd⟩, hA⟩ := h
  have hN : tN M 42 N := hN
  have hEd : tEd M 42 B N [] := hEd
  obtain ⟨a1, a2, a3, a4, a5⟩ := hN k hk
  have hl := hA.2.1
  have hB := hE.2.2.2.2.2
  have hc := (hA.2.2.2.1 k hk (by simp)).1
  exact ⟨a1, a2, a3, a4, a5, hEd k hk (by simp), bh_ge, hc, (hA.2.2.1 k hk).1, (hA.2.2.1 k hk).2.1, by omega, hB⟩
theorem are_l {i j n : Nat} (h : dT M q cap B N) (hi : i < N.length) (hj : j < N.length) (hni : rPl N i + n ≤ B.length) (hnj : rPl N j + n ≤ B.length) : ∀ (m k : Nat), k + m = n → (∀ l, l < k → by_ B (rPl N i + l) = by_ B (rPl N j + l)) →
    EvC G (d + 1) m_T_areEqual 51 [some (.ref 42), some (.int (zI (i : Int))), some (.int (zI (j : Int))), some (.int (zI (n : Int))), some (.int (zI (k : Int)))] [] M (some (.int (zI (if ∀ l, l < n → by_ B (rPl N i + l) = by_ B (rPl N j + l) then 1 else 0))), M)
  | 0, k, hk, he => by
    obtain ⟨-, -, -, i4, -, i6, i7, i8, -, -, i11, i12⟩ := h.at hi
    have hk : k = n := by omega
    subst hk
    refine ev_T_areEqual_51 ?_
    rw [if_neg (fun q => by rw [zI_lt ⟨by omega, by omega⟩ ⟨by omega, by omega⟩] at q; omega), if_pos he]
  | m + 1, k, hk, he => by
    obtain ⟨-, -, -, i4, -, i6, i7, i8, -, -, i11, i12⟩ := h.at hi
    obtain ⟨-, -, -, j4, -, j6, j7, j8, -, -, j11, j12⟩ := h.at hj
    have hE := h.1
    have hW := hE.1
    have hT := hE.2.1
    have hR := hE.2.2.2.1
    have b1 := hR.okB (rPl N i + k) (by omega)
    have b2 := hR.okB (rPl N j + k) (by omega)
    refine ev_T_areEqual_51 ?_
    rw [if_pos ((zI_lt ⟨by omega, by omega⟩ ⟨by omega, by omega⟩).mpr (by omega)), zI_nat (by omega), i4, zI_add, show ((rPl N i : Nat) : Int) + (k : Int) = ((rPl N i + k : Nat) : Int) by omega, hE.2.2.1, Option.getD_some]
    refine ⟨okF_W hW hT.1, rfl, okF_W hW hT.1, okA_z hW (hT.2 4 (by omega) (by omega)) (by omega) (by omega), okO_W hW hR.1, _, _, e_R_cell' hW hR (by omega), ev_T_areEqual_73 ?_⟩
    rw [zI_nat (by omega), j4, zI_add, show ((rPl N j : Nat) : Int) + (k : Int) = ((rPl N j + k : Nat) : Int) by omega, hE.2.2.1, Option.getD_some]
    refine ⟨okF_W hW hT.1, rfl, okF_W hW hT.1, okA_z hW (hT.2 4 (by omega) (by omega)) (by omega) (by omega), okO_W hW hR.1, _, _, e_R_cell' hW hR (by omega), ev_T_areEqual_89 ?_⟩
    by_cases c : by_ B (rPl N i + k) = by_ B (rPl N j + k)
    · rw [if_pos (by rw [c]), zI_add, show (k : Int) + 1 = ((k + 1 : Nat) : Int) by omega]
      exact are_l h hi hj hni hnj m (k + 1) (by omega) (fun l hl => by
        by_cases e : l = k
        · rw [e]; exact c
        · exact he l (by omega))
    · rw [if_neg (zI_ne ⟨by omega, by omega⟩ ⟨by omega, by omega⟩ c), if_neg (fun q => c (q k (by omega)))]
theorem e_T_areEqual {i j : Nat} (h : dT M q cap B N) (hi : i < N.length) (hj : j < N.length) : Ev G (d + 1) 49 [.ref 42, .int (zI (i : Int)), .int (zI (j : Int))] M (some (.int (zI (if val B (rTy N i) (rPl N i) = val B (rTy N j) (rPl N j) then 1 else 0))), M) := by
  obtain ⟨i1, -, -, i4, -, i6, i7, i8, i9, i10, i11, i12⟩ := h.at hi
  obtain ⟨j1, -, -, j4, -, j6, j7, j8, j9, j10, j11, j12⟩ := h.at hj
  have hW := h.1.1
  have hT := h.1.2.1
  have ve := val_eq (B := B) (C := B) (t := rTy N i) (u := rTy N j) (v := rPl N i) (w := rPl N j) i8 j8
  rw [show bh B (rTy N i) (rPl N i) = rEn B N i from rfl, show bh B (rTy N j) (rPl N j) = rEn B N j from rfl] at ve
  have o1 : ∀ m, 1 ≤ m → m ≤ 6 → am_okA M (42 + m) 0 (zI (i : Int)) = true := fun m h1 h2 => okA_z hW (hT.2 m h1 h2) (by omega) (by omega)
  have o2 : ∀ m, 1 ≤ m → m ≤ 6 → am_okA M (42 + m) 0 (zI (j : Int)) = true := fun m h1 h2 => okA_z hW (hT.2 m h1 h2) (by omega) (by omega)
  refine ev_of (q := mt_T_areEqual) rfl (ev_T_areEqual_0 ?_)
  rw [zI_nat (by omega), zI_nat (by omega), i1, j1, i4, j4, i6, j6, zI_sub, zI_sub]
  refine ⟨okF_W hW hT.1, o1 5 (by omega) (by omega), okF_W hW hT.1, o1 4 (by omega) (by omega), okF_W hW hT.1, o1 1 (by omega) (by omega), okF_W hW hT.1, o2 1 (by omega) (by omega), ?_⟩
  by_cases c1 : rTy N i = rTy N j
  · rw [if_pos (by rw [c1])]
    refine ⟨okF_W hW hT.1, o2 5 (by omega) (by omega), okF_W hW hT.1, o2 4 (by omega) (by omega), ?_⟩
    by_cases c2 : rEn B N j - rPl N j = rEn B N i - rPl N i
    · rw [if_pos (by congr 1; omega), show ((rEn B N i : Nat) : Int) - ((rPl N i : Nat) : Int) = ((rEn B N i - rPl N i : Nat) : Int) by omega]
      have hh := are_l (G := G) (d := d) (n := rEn B N i - rPl N i) h hi hj (by omega) (by omega) _ 0 (Nat.zero_add _) (fun l hl => absurd hl (by omega))
      have e : (∀ l, l < rEn B N i - rPl N i → by_ B (rPl N i + l) = by_ B (rPl N j + l)) ↔ val B (rTy N i) (rPl N i) = val B (rTy N j) (rPl N j) := by
        rw [ve]
        exact ⟨fun q => ⟨c1, c2.symm, q⟩, fun q => q.2.2⟩
      simp only [e] at hh
      exact hh
    · rw [if_neg (zI_ne ⟨by omega, by omega⟩ ⟨by omega, by omega⟩ (by omega)), if_neg (fun q => by rw [ve] at q; omega)]
  · rw [if_neg (zI_ne ⟨by omega, by omega⟩ ⟨by omega, by omega⟩ c1), if_neg (fun q => c1 (ve.mp q).1)]
theorem e_T_isEqual {k b cap' : Nat} {Q : List Int} (h : dT M q cap B N) (hk : k < N.length) (hQ : rowIs M b cap' Q) (hq : bh Q (by_ Q 0) 1 = Q.length) (hQ0 : 1 ≤ by_ Q 0 ∧ by_ Q 0 ≤ 6) : Ev G (d + 2) 62 [.ref 42, .int (zI (k : Int)), .ref b] M (some (.int (zI (if val B (rTy N k) (rPl N k) = val Q (by_ Q 0) 1 then 1 else 0))), M) := by
  obtain ⟨i1, -, -, i4, -, i6, i7, i8, i9, i10, i11, i12⟩ := h.at hk
  have hE := h.1
  have hW := hE.1
  have hT := hE.2.1
  have hR := hE.2.2.2.1
  have hql : 1 ≤ Q.length := by rw [← hq]; exact bh_ge
  have ve := val_eq (B := B) (C := Q) (t := rTy N k) (u := by_ Q 0) (v := rPl N k) (w := 1) i8 (by omega)
  rw [show bh B (rTy N k) (rPl N k) = rEn B N k from rfl, hq] at ve
  refine ev_of (q := mt_T_isEqual) rfl (ev_T_isEqual_0 ?_)
  rw [zI_nat (by omega), i1]
  refine ⟨okF_W hW hT.1, okA_z hW (hT.2 1 (by omega) (by omega)) (by omega) (by omega), okO_W hW hQ.1, _, _, e_R_cell' (p := 0) hW hQ (by omega), ev_T_isEqual_11 ?_⟩
  by_cases c1 : rTy N k = by_ Q 0
  · rw [if_pos (by rw [c1]), zI_nat (by omega), i4, i6, hE.2.2.1, Option.getD_some]
    refine ⟨okF_W hW hT.1, rfl, okF_W hW hT.1, okA_z hW (hT.2 4 (by omega) (by omega)) (by omega) (by omega), okF_W hW hT.1, okA_z hW (hT.2 5 (by omega) (by omega)) (by omega) (by omega), okO_W hW hR.1, _, _, e_R_compare (w := 1) hW hR hQ i7 i8 hql, ev_T_isEqual_35 ?_⟩
    have hc := hQ.2.2.1
    have hc' := cap_le hQ.2.1
    have hrg : rg (cmpR B Q (rPl N k) (rEn B N k - rPl N k) 1 (Q.length - 1)) := by
      unfold cmpR
      have := cmpL_rg hR.okB hQ.okB (min (rEn B N k - rPl N k) (Q.length - 1)) (rPl N k) 1 (by omega) (by omega)
      split
      · exact ⟨by omega, by omega⟩
      · exact ⟨by omega, by omega⟩
    have e : cmpR B Q (rPl N k) (rEn B N k - rPl N k) 1 (Q.length - 1) = 0 ↔ val B (rTy N k) (rPl N k) = val Q (by_ Q 0) 1 := by
      rw [ve, cmpR_zero]
      exact ⟨fun q => ⟨c1, q.1, q.2⟩, fun q => q.2⟩
    rw [zI_0]
    by_cases c2 : cmpR B Q (rPl N k) (rEn B N k - rPl N k) 1 (Q.length - 1) = 0
    · rw [if_pos (e.mp c2), if_pos (by rw [c2])]
    · rw [if_neg (fun q => c2 (e.mpr q)), if_neg (zI_ne hrg ⟨by omega, by omega⟩ c2)]
  · rw [if_neg (zI_ne ⟨by omega, by omega⟩ ⟨by omega, by omega⟩ c1), if_neg (fun q => c1 (ve.mp q).1)]
theorem itot_l {c : Nat} (h : dT M q cap B N) (hc : c < N.length) : ∀ (r k a : Nat), k + r = N.length → a ≤ k → EvC G d m_T_itemTotal 6 [some (.ref 42), some (.int (zI (c : Int))), some (.int (zI (a : Int))), some (.int (zI (k : Int)))] [] M (some (.int (zI ((a + icnt N (c : Int) r k : Nat) : Int))), M)
  | 0, k, a, hk, ha => by
    have hNl := h.2.2.2.1
    have hB := h.1.2.2.2.2.2
    have hW := h.1.1
    have hT := h.1.2.1
    have a2 : M.2.1 42 6 = zI N.length := h.2.1.1.2.1
    refine ev_T_itemTotal_6 ?_
    rw [a2, if_neg (fun q => by rw [zI_lt ⟨by omega, by omega⟩ ⟨by omega, by omega⟩] at q; omega)]
    exact ⟨okF_W hW hT.1, rfl⟩
  | r + 1, k, a, hk, ha => by
    have hNl := h.2.2.2.1
    have hB := h.1.2.2.2.2.2
    have hW := h.1.1
    have hT := h.1.2.1
    have a2 : M.2.1 42 6 = zI N.length := h.2.1.1.2.1
    have hkN : k < N.length := by omega
    obtain ⟨-, -, -, -, k5, -⟩ := h.at hkN
    have hpa := pa_rg h.2.2.2.2.1 (by omega) hkN
    refine ev_T_itemTotal_6 ?_
    rw [a2, if_pos ((zI_lt ⟨by omega, by omega⟩ ⟨by omega, by omega⟩).mpr (by omega)), zI_nat (by omega), k5, zI_add, zI_add, show (k : Int) + 1 = ((k + 1 : Nat) : Int) by omega, show (a : Int) + 1 = ((a + 1 : Nat) : Int) by omega]
    refine ⟨okF_W hW hT.1, okF_W hW hT.1, okA_z hW (hT.2 6 (by omega) (by omega)) (by omega) (by omega), ?_⟩
    unfold icnt
    by_cases e : rPa N k = (c : Int)
    · rw [if_pos e, if_pos (by rw [e]), show a + (1 + icnt N (c : Int) r (k + 1)) = a + 1 + icnt N (c : Int) r (k + 1) by omega]
      exact itot_l h hc r (k + 1) (a + 1) (by omega) (by omega)
    · rw [if_neg e, if_neg (zI_ne hpa ⟨by omega, by omega⟩ e), Nat.zero_add]
      exact itot_l h hc r (k + 1) a (by omega) (by omega)
theorem e_T_itemTotal {c : Nat} (h : dT M q cap B N) (hc : c < N.length) : Ev G d 65 [.ref 42, .int (zI (c : Int))] M (some (.int (zI ((kids N c).length : Int))), M) := by
  refine ev_of (q := mt_T_itemTotal) rfl (ev_T_itemTotal_0 ?_)
  have := itot_l (G := G) (d := d) h hc (N.length - (c + 1)) (c + 1) 0 (by omega) (by omega)
  rw [Nat.zero_add, icnt_kids h.2.2.2.2.1 hc] at this
  rw [zI_add, show (c : Int) + 1 = ((c + 1 : Nat) : Int) by omega]
  exact this
end TEQ
