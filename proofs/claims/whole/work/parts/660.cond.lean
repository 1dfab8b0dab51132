/-! CONDITIONS: what they say; THE CLASS's Condition -/
def hEq (B : List Int) (N : List Nd) (P : List (List Int)) (Q : List Int) : Prop := (gathN N (pks P) = [] ∧ by_ Q 0 = 6) ∨ ∃ k ∈ gathN N (pks P), val B (rTy N k) (rPl N k) = val Q (by_ Q 0) 1
def difV (B : List Int) (N : List Nd) (Q : List Int) (k : Nat) : Int := if by_ Q 0 = 1 then sgn B (rPl N k) - sgn Q 1 else cmpR B Q (rPl N k + 1) (by_ B (rPl N k)).toNat 2 (Q.length - 2)
def isSo (f x : Int) : Prop := if f = 2 then x < 0 else if f = 3 then x ≤ 0 else if f = 4 then 0 < x else 0 ≤ x
def hCmp (B : List Int) (N : List Nd) (P : List (List Int)) (f : Int) (Q : List Int) : Prop := (by_ Q 0 = 1 ∨ by_ Q 0 = 2) ∧ ∃ k ∈ gathN N (pks P), rTy N k = by_ Q 0 ∧ isSo f (difV B N Q k)
def hSize (N : List Nd) (P : List (List Int)) (Q : List Int) : Prop := by_ Q 0 = 1 ∧ ∃ k ∈ comeN N (pks P), rTy N k = 4 ∧ ((kids N k).length : Int) = sgn Q 1
def hThere (N : List Nd) (P : List (List Int)) (Q : List Int) : Prop := (comeN N (pks P) = []) ↔ (by_ Q 0 = 5 ∧ by_ Q 1 = 0)
def hHolds (B : List Int) (N : List Nd) (P : List (List Int)) (f : Int) (Q : List Int) : Prop := if f = 0 then hEq B N P Q else if f = 1 then ¬ hEq B N P Q else if f = 6 then hThere N P Q else if f = 7 then hSize N P Q else hCmp B N P f Q
/-- an accepted operand -/
def okQ (Q : List Int) : Prop := bh Q (by_ Q 0) 1 = Q.length ∧ 1 ≤ by_ Q 0 ∧ by_ Q 0 ≤ 6 ∧ (by_ Q 0 = 2 → 0 ≤ by_ Q 1) ∧ Q.length ≤ 80
theorem okQ_of {Q : List Int} {N : List Nd} (h : rdQ Q = .inr N) (hl : Q.length ≤ 80) : okQ Q := by
  have hA := rdQ_acc h
  have hr := hA.1.2.1
  have e1 : rTy N 0 = by_ Q 0 := by unfold rTy; rw [hr]
  have e2 : rPl N 0 = 1 := by unfold rPl; rw [hr]
  have hn := hA.2.2.1 0 hA.1.1
  obtain ⟨h1, h2, -, -, h5, -⟩ := hn
  rw [e1] at h1 h2 h5
  rw [e2] at h5
  exact ⟨rdQ_end h, h1, h2, fun q => (h5 q).1, hl⟩
/-- the class's condition at a cell -/
def cnIs (M : Mm_) (a : Nat) (P : List (List Int)) (f : Int) (Q : List Int) : Prop := sg0[a]? = some (.inl 1) ∧ pthIs M (a + 1) P ∧ rowIs M (a + 3) 80 Q ∧ M.2.1 a 2 = zI f ∧ (0 ≤ f ∧ f ≤ 7) ∧ okQ Q ∧ 0 < P.length
theorem b01_t {p : Prop} (h : p) : b01 p (zI 1) := Or.inl ⟨h, rfl⟩
theorem b01_f {p : Prop} (h : ¬ p) : b01 p (zI 0) := Or.inr ⟨h, rfl⟩
theorem b01_iff {p q : Prop} {x : Int32} (h : b01 p x) (e : p ↔ q) : b01 q x := by
  rcases h with ⟨h1, h2⟩ | ⟨h1, h2⟩
  · exact Or.inl ⟨e.mp h1, h2⟩
  · exact Or.inr ⟨fun c => h1 (e.mpr c), h2⟩
theorem b01_bit {p : Prop} {x : Int32} (h : b01 p x) : am_bit x = true := by
  rcases h with ⟨_, h2⟩ | ⟨_, h2⟩ <;> rw [h2] <;> decide +kernel
section COND
variable {G : Nat × (Nat → Int32)} {d : Nat} {M : Mm_} {q cap a : Nat} {B : List Int} {N : List Nd} {P : List (List Int)} {f : Int} {Q : List Int}
theorem trl_at {L : List (Nat × Bool)} {i : Nat} (h : trl M L) (hi : i < L.length) : M.2.1 (51 + 2) i = zI (((L.getD i (0, false)).1 : Nat) : Int) := (h.2 i hi).1
theorem getD_mem {L : List (Nat × Bool)} {i : Nat} (hi : i < L.length) : L.getD i (0, false) ∈ L := by
  rw [List.getD_eq_getElem?_getD, List.getElem?_eq_getElem hi]
  exact List.getElem_mem hi
theorem some_l {L : List (Nat × Bool)} (h : dT M q cap B N) (hC : cnIs M a P f Q) (hL : trl M L) (hl : L.length ≤ 80) (hLN : ∀ z ∈ L, z.1 < N.length) : ∀ (m k : Nat), k + m = L.length → ∃ x, EvC G (d + 3) m_C_someIsEqual 28 [some (.ref a), some (.ref 42), some (.ref 51), some (.int (zI (k : Int)))] [] M (some (.int x), M) ∧ b01 (∃ i, k ≤ i ∧ i < L.length ∧ val B (rTy N (L.getD i (0, false)).1) (rPl N (L.getD i (0, false)).1) = val Q (by_ Q 0) 1) x
  | 0, k, hk => by
    refine ⟨zI 0, ev_C_someIsEqual_28 ?_, b01_f (fun ⟨i, h1, h2, _⟩ => by omega)⟩
    rw [hL.1, if_neg (fun q => by rw [zI_lt ⟨by omega, by omega⟩ ⟨by omega, by omega⟩] at q; omega)]
    exact ⟨okF_W h.1.1 rfl, rfl⟩
  | m + 1, k, hk => by
    obtain ⟨c1, c2, c3, c4, c5, c6, c7⟩ := hC
    have hW := h.1.1
    have hkN := hLN _ (getD_mem (L := L) (i := k) (by omega))
    obtain ⟨x, e, w⟩ := some_l h ⟨c1, c2, c3, c4, c5, c6, c7⟩ hL hl hLN m (k + 1) (by omega)
    have ee := e_T_isEqual (G := G) (d := d) h hkN c3 c6.1 ⟨c6.2.1, c6.2.2.1⟩
    have pre : ∀ y, EvC G (d + 3) m_C_someIsEqual 50 [some (.ref a), some (.ref 42), some (.ref 51), some (.int (zI (k : Int)))] [.int (zI (if val B (rTy N (L.getD k (0, false)).1) (rPl N (L.getD k (0, false)).1) = val Q (by_ Q 0) 1 then 1 else 0))] M (some (.int y), M) → EvC G (d + 3) m_C_someIsEqual 28 [some (.ref a), some (.ref 42), some (.ref 51), some (.int (zI (k : Int)))] [] M (some (.int y), M) := fun y hy => by
      refine ev_C_someIsEqual_28 ?_
      rw [hL.1, if_pos ((zI_lt ⟨by omega, by omega⟩ ⟨by omega, by omega⟩).mpr (by omega)), zI_nat (by omega), trl_at hL (by omega)]
      exact ⟨okF_W hW rfl, okF_W hW rfl, okA_z hW (show sg0[51 + 2]? = some (.inr (0, 80)) from rfl) (by omega) (by omega), okF_W hW c1, okO_W hW h.1.2.1.1, _, _, ee, hy⟩
    by_cases c : val B (rTy N (L.getD k (0, false)).1) (rPl N (L.getD k (0, false)).1) = val Q (by_ Q 0) 1
    · refine ⟨zI 1, pre _ (ev_C_someIsEqual_50 ?_), b01_t ⟨k, Nat.le_refl _, by omega, c⟩⟩
      rw [if_pos c, zI_0, if_neg z10]
    · refine ⟨x, pre _ (ev_C_someIsEqual_50 ?_), b01_iff w ⟨fun ⟨i, h1, h2, h3⟩ => ⟨i, by omega, h2, h3⟩, fun ⟨i, h1, h2, h3⟩ => ⟨i, ?_, h2, h3⟩⟩⟩
      · rw [if_neg c, zI_0, if_pos rfl, zI_add, show (k : Int) + 1 = ((k + 1 : Nat) : Int) by omega]
        exact e
      · rcases Nat.lt_or_ge k i with h4 | h4
        · omega
        · have : i = k := by omega
          subst this
          exact absurd h3 c
theorem ex_idx {L : List (Nat × Bool)} {p : Nat × Bool → Prop} : (∃ i, 0 ≤ i ∧ i < L.length ∧ p (L.getD i (0, false))) ↔ ∃ z ∈ L, p z := by
  constructor
  · rintro ⟨i, -, h2, h3⟩
    exact ⟨_, getD_mem h2, h3⟩
  · rintro ⟨z, hz, h⟩
    obtain ⟨i, hi, e⟩ := List.getElem_of_mem hz
    refine ⟨i, by omega, hi, ?_⟩
    rw [List.getD_eq_getElem?_getD, List.getElem?_eq_getElem hi, Option.getD_some, e]
    exact h
theorem foll_lt {p : List Int} {z : Nat × Bool} (h : z ∈ follN N p) : z.1 < N.length := (mem_foll.mp (show (z.1, z.2) ∈ follN N p from h)).1
theorem foll_len {p : List Int} : (follN N p).length ≤ N.length := flk_len
theorem foll_nil (hA : Acc B 3 0 N) {p : List Int} (hp : 0 < p.length) : follN N p = [] ↔ gathN N p = [] := by
  constructor
  · intro e
    apply List.eq_nil_iff_forall_not_mem.mpr
    intro k hk
    obtain ⟨f, hf⟩ := (foll_any hA hp k).mpr hk
    rw [e] at hf
    cases hf
  · intro e
    apply List.eq_nil_iff_forall_not_mem.mpr
    intro z hz
    have := (foll_any hA hp z.1).mp ⟨z.2, hz⟩
    rw [e] at this
    cases this
theorem gath_nil {p : List Int} : gathN N p = [] ↔ comeN N p = [] := by
  rw [gath_eq]
  constructor
  · exact fun e => (List.append_eq_nil_iff.mp e).1
  · intro e
    rw [e]
    rfl
theorem e_C_someIsEqual (h : dT M q cap B N) (hC : cnIs M a P f Q) (hL : trl M (follN N (pks P))) : ∃ x, Ev G (d + 3) 61 [.ref a, .ref 42, .ref 51] M (some (.int x), M) ∧ b01 (hEq B N P Q) x := by
  have hC' := hC
  obtain ⟨c1, c2, c3, c4, c5, c6, c7⟩ := hC
  have hW := h.1.1
  have hA := h.2.2
  have hl := hA.2.1
  have hB := h.1.2.2.2.2.2
  have fl := foll_len (N := N) (p := pks P)
  have hp : 0 < (pks P).length := by rw [pks_len]; exact c7
  have fn := foll_nil hA hp
  by_cases c0 : (follN N (pks P)).length = 0
  · have e0 : follN N (pks P) = [] := List.length_eq_zero_iff.mp c0
    have g0 := fn.mp e0
    have hq6 := c6.2.1
    have hq7 := c6.2.2.1
    have pre : ∀ y, EvC G (d + 3) m_C_someIsEqual 15 [some (.ref a), some (.ref 42), some (.ref 51), none] [.int (zI (by_ Q 0))] M (some (.int y), M) → Ev G (d + 3) 61 [.ref a, .ref 42, .ref 51] M (some (.int y), M) := fun y hy => by
      refine ev_of (q := mt_C_someIsEqual) rfl (ev_C_someIsEqual_0 ?_)
      rw [hL.1, c0, zI_0, if_pos (show zI ((0 : Nat) : Int) = zI 0 from rfl)]
      exact ⟨okF_W hW rfl, okF_W hW c1, okO_W hW c3.1, _, _, e_R_cell' (p := 0) hW c3 (by omega), hy⟩
    by_cases c : by_ Q 0 = 6
    · refine ⟨zI 1, pre _ (ev_C_someIsEqual_15 ?_), b01_t (Or.inl ⟨g0, c⟩)⟩
      rw [if_pos (by rw [c])]
    · refine ⟨zI 0, pre _ (ev_C_someIsEqual_15 ?_), b01_f (fun hh => ?_)⟩
      · rw [if_neg (zI_ne ⟨by omega, by omega⟩ ⟨by omega, by omega⟩ c)]
      · rcases hh with hh | ⟨k, hk, -⟩
        · exact c hh.2
        · rw [g0] at hk
          cases hk
  · obtain ⟨x, e, w⟩ := some_l (G := G) (d := d) h hC' hL (by omega) (fun z hz => foll_lt hz) _ 0 (Nat.zero_add _)
    refine ⟨x, ev_of (q := mt_C_someIsEqual) rfl (ev_C_someIsEqual_0 ?_), b01_iff w ?_⟩
    · rw [hL.1, zI_0, if_neg (zI_ne ⟨by omega, by omega⟩ ⟨by omega, by omega⟩ (by omega))]
      exact ⟨okF_W hW rfl, e⟩
    · rw [ex_idx (L := follN N (pks P)) (p := fun z => val B (rTy N z.1) (rPl N z.1) = val Q (by_ Q 0) 1)]
      constructor
      · rintro ⟨z, hz, h3⟩
        exact Or.inr ⟨z.1, (foll_any hA hp z.1).mp ⟨z.2, hz⟩, h3⟩
      · rintro (⟨h1, -⟩ | ⟨k, hk, h3⟩)
        · exact absurd (fn.mpr h1) (fun e => c0 (by rw [e]; rfl))
        · obtain ⟨b, hb⟩ := (foll_any hA hp k).mpr hk
          exact ⟨(k, b), hb, h3⟩
end COND
