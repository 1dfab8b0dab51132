/-! THE CLASS's TRAIL: name, goOn, note, follow -/
/-- the shelf's tree holds a read document -/
def dT (M : Mm_) (q cap : Nat) (B : List Int) (N : List Nd) : Prop := tEn M 42 q cap B ∧ trIs M 42 B (B.length, N, []) ∧ Acc B 3 0 N
/-- a path's names, packed -/
def pks (P : List (List Int)) : List Int := P.map pk
theorem pks_len {P : List (List Int)} : (pks P).length = P.length := by simp [pks]
theorem pks_get {P : List (List Int)} {i : Nat} : (pks P).getD i 0 = pk (P.getD i []) := by
  unfold pks
  rw [List.getD_eq_getElem?_getD, List.getD_eq_getElem?_getD, List.getElem?_map]
  cases P[i]? <;> rfl
theorem pks_rg {P : List (List Int)} (h : ∀ ls ∈ P, isN ls) (i : Nat) : 0 ≤ (pks P).getD i 0 ∧ (pks P).getD i 0 < 2147483648 := by
  rw [pks_get, List.getD_eq_getElem?_getD]
  by_cases c : i < P.length
  · rw [List.getElem?_eq_getElem c]
    have := pk_rg (h _ (List.getElem_mem c))
    simp only [Option.getD_some]
    omega
  · rw [List.getElem?_eq_none (by omega)]
    exact ⟨Int.le_refl _, by decide⟩
/-- the trail's entries -/
def trl (M : Mm_) (L : List (Nat × Bool)) : Prop := M.2.1 51 3 = zI L.length ∧ ∀ i, i < L.length → M.2.1 53 i = zI ((L.getD i (0, false)).1 : Nat) ∧ M.2.1 54 i = zI (if (L.getD i (0, false)).2 = true then 1 else 0)
def pNt (a j : Nat) : Prop := (a = 51 ∧ j = 3) ∨ a = 53 ∨ a = 54
def pTr (a _j : Nat) : Prop := 51 ≤ a ∧ a ≤ 54
def fk (N : List Nd) (p : List Int) (k : Nat) : List (Nat × Bool) := (List.range k).filterMap (fun k => (isFd N p k).map (fun b => (k, b)))
theorem fk_succ {N : List Nd} {p : List Int} {k : Nat} : fk N p (k + 1) = fk N p k ++ (match isFd N p k with
    | none => []
    | some b => [(k, b)]) := by
  unfold fk
  rw [List.range_succ, List.filterMap_append]
  cases h : isFd N p k with
  | none => simp [h]
  | some b => simp [h]
theorem flk_len {N : List Nd} {p : List Int} {k : Nat} : (fk N p k).length ≤ k := by
  have := List.length_filterMap_le (fun k => (isFd N p k).map (fun b => (k, b))) (List.range k)
  rw [List.length_range] at this
  exact this
theorem gone_rg {B : List Int} {N : List Nd} {p : List Int} (hA : Acc B 3 0 N) : ∀ k, k < N.length → -1 ≤ gone N p k ∧ gone N p k ≤ (p.length : Int) := by
  intro k
  induction k using Nat.strongRecOn with
  | ind k ih =>
    intro hk
    rcases Nat.eq_zero_or_pos k with rfl | h0
    · rw [gone_zero]; omega
    · obtain ⟨c, hc⟩ := hold_ex hA hk h0
      have hlt := hold_lt hA.2.2.1 hk hc
      have := ih c hlt (by omega)
      rw [gone_step hA.2.2.1 hk h0 hc]
      unfold goOn
      split
      · omega
      · split
        · split <;> omega
        · split <;> omega
section TRAIL
variable {G : Nat × (Nat → Int32)} {d : Nat}
theorem e_H_name {M : Mm_} {a k : Nat} {P : List (List Int)} (hW : WM M) (h : pthIs M a P) (hk : k < 1000) : Ev G d 45 [.ref a, .int (zI k)] M (some (.int (zI ((pks P).getD k 0))), M) := by
  obtain ⟨h1, h2, h3, h4, h5, h6⟩ := h
  refine ev_of (q := mt_H_name) rfl (ev_H_name_0 ?_)
  rw [zI_0, if_neg (fun q => by rw [zI_lt ⟨by omega, by omega⟩ ⟨by omega, by omega⟩] at q; omega), h4]
  refine ⟨okF_W hW h1, ?_⟩
  by_cases c : k < P.length
  · rw [if_pos ((zI_lt ⟨by omega, by omega⟩ ⟨by omega, by omega⟩).mpr (by omega)), zI_nat (by omega), h5 k c, pks_get]
    exact ⟨okF_W hW h1, okA_z hW h2 (by omega) (by omega), rfl⟩
  · rw [if_neg (fun q => by rw [zI_lt ⟨by omega, by omega⟩ ⟨by omega, by omega⟩] at q; omega), pks_get, List.getD_eq_getElem?_getD, List.getElem?_eq_none (by omega)]
    rfl
theorem e_L_goOn {M : Mm_} {q cap a k c : Nat} {b : Int} {B : List Int} {N : List Nd} {P : List (List Int)} (h : dT M q cap B N) (hP : pthIs M a P) (hk : k < N.length) (hc : rPa N k = (c : Int)) (hb : -1 ≤ b ∧ b ≤ 100) : Ev G (d + 1) 44 [.ref 42, .ref a, .int (zI k), .int (zI b)] M (some (.int (zI (goOn N (pks P) k b))), M) := by
  obtain ⟨hE, ⟨⟨a1, a2, a3, a4, a5⟩, hN, hEd⟩, hA⟩ := h
  have hN : tN M 42 N := hN
  have hW := hE.1
  have hT := hE.2.1
  have hB := hE.2.2.2.2.2
  have hl := hA.2.1
  obtain ⟨p1, p2, p3, p4, p5, p6⟩ := hP
  have hlt := hold_lt hA.2.2.1 hk hc
  obtain ⟨k1, k2, k3, k4, k5⟩ := hN k hk
  obtain ⟨c1, c2, c3, c4, c5⟩ := hN c (by omega)
  have tk := hA.2.2.1 k hk
  have tc := hA.2.2.1 c (by omega)
  have tk1 := tk.1
  have tk2 := tk.2.1
  have tc1 := tc.1
  have tc2 := tc.2.1
  refine ev_of (q := mt_L_goOn) rfl (ev_L_goOn_0 ?_)
  unfold goOn
  rw [pks_len]
  by_cases b1 : b = -1
  · rw [if_pos (Or.inl b1), if_pos (by rw [b1])]
  · rw [if_neg (zI_ne ⟨by omega, by omega⟩ ⟨by omega, by omega⟩ b1), p4]
    refine ⟨okF_W hW p1, ?_⟩
    by_cases b2 : (P.length : Int) ≤ b
    · rw [if_pos (Or.inr b2), if_neg (fun q => by rw [zI_lt ⟨by omega, by omega⟩ ⟨by omega, by omega⟩] at q; omega)]
    · rw [if_neg (show ¬ (b = -1 ∨ (P.length : Int) ≤ b) by omega), if_pos ((zI_lt ⟨by omega, by omega⟩ ⟨by omega, by omega⟩).mpr (by omega)), zI_nat (by omega), show M.2.1 (42 + 6) k = zI (c : Int) by rw [k5, hc], zI_nat (by omega), c1, k2, k1, hc, Int.toNat_natCast]
      refine ⟨okF_W hW hT.1, okF_W hW hT.1, okA_z hW (hT.2 6 (by omega) (by omega)) (by omega) (by omega), okA_z hW (hT.2 1 (by omega) (by omega)) (by omega) (by omega), ?_⟩
      by_cases t3 : rTy N c = 3
      · rw [if_pos t3, if_pos (by rw [t3])]
        have hnm := nm_rg hA.2.2.1 t3 hk hc
        obtain ⟨ls, hn1, hn2⟩ := hnm
        have hn3 := pk_rg hn1
        have hn4 := pks_rg p6 b.toNat
        have eb : zI b = zI ((b.toNat : Nat) : Int) := by rw [show ((b.toNat : Nat) : Int) = b by omega]
        have en := e_H_name (G := G) (d := d) (k := b.toNat) hW ⟨p1, p2, p3, p4, p5, p6⟩ (by omega)
        rw [← eb] at en
        refine ⟨okF_W hW hT.1, okA_z hW (hT.2 2 (by omega) (by omega)) (by omega) (by omega), okO_W hW p1, _, _, en, ev_L_goOn_41 ?_⟩
        by_cases ce : rNm N k = (pks P).getD b.toNat 0
        · rw [if_pos ce, if_pos (by rw [ce]), zI_add]
        · rw [if_neg ce, if_neg (zI_ne ⟨by omega, by omega⟩ ⟨by omega, by omega⟩ ce)]
      · rw [if_neg t3, if_neg (zI_ne ⟨by omega, by omega⟩ ⟨by omega, by omega⟩ t3)]
        refine ⟨okF_W hW hT.1, okA_z hW (hT.2 1 (by omega) (by omega)) (by omega) (by omega), ?_⟩
        by_cases tk3 : rTy N k = 3
        · rw [if_pos tk3, if_pos (by rw [tk3])]
        · rw [if_neg tk3, if_neg (zI_ne ⟨by omega, by omega⟩ ⟨by omega, by omega⟩ tk3)]
theorem e_L_note {M : Mm_} {k : Nat} {f : Bool} {L : List (Nat × Bool)} (hW : WM M) (h : trl M L) (hl : L.length < 80) : ∃ M', Ev G d 46 [.ref 51, .int (zI (k : Nat)), .int (zI (if f = true then 1 else 0))] M (none, M') ∧ trl M' (L ++ [(k, f)]) ∧ Fp pNt M M' := by
  obtain ⟨h1, h2⟩ := h
  have ef : zI (if f = true then 1 else 0) &&& 1 = zI (if f = true then 1 else 0) := by cases f <;> decide +kernel
  let M1 := am_setI M 53 L.length (zI (k : Nat))
  let M2 := am_setI M1 54 L.length (zI (if f = true then 1 else 0))
  let M3 := am_setI M2 51 3 (zI ((L.length + 1 : Nat) : Int))
  have f3 : Fp pNt M M3 := Fp.tr (Fp.tr (Fp.set (Or.inr (Or.inl rfl))) (Fp.set (Or.inr (Or.inr rfl)))) (Fp.set (Or.inl ⟨rfl, rfl⟩))
  refine ⟨M3, ev_of (q := mt_L_note) rfl (ev_L_note_0 ?_), ⟨?_, fun i hi => ?_⟩, f3⟩
  · rw [h1, zI_nat (by omega), ef, setI_cell (show (51 : Nat) ≠ 51 + 2 by decide), h1, zI_nat (by omega), setI_cell (show (51 : Nat) ≠ 51 + 3 by decide), setI_cell (show (51 : Nat) ≠ 51 + 2 by decide), h1, zI_add, show (L.length : Int) + 1 = ((L.length + 1 : Nat) : Int) by omega]
    exact ⟨okF_W hW rfl, okF_W hW rfl, okA_z hW (show sg0[51 + 2]? = some (.inr (0, 80)) from rfl) hl (by omega), okF_W (WM_setI hW) rfl, okF_W (WM_setI hW) rfl, okA_z (WM_setI hW) (show sg0[51 + 3]? = some (.inr (1, 80)) from rfl) hl (by omega), okF_W (WM_setI (WM_setI hW)) rfl, okP_W (WM_setI (WM_setI hW)) rfl rfl, ev_L_note_30 rfl⟩
  · rw [setI_self, List.length_append, List.length_singleton]
  · rw [List.length_append, List.length_singleton] at hi
    show M3.2.1 53 i = _ ∧ M3.2.1 54 i = _
    have e1 : M3.2.1 53 i = M1.2.1 53 i := by
      show (am_setI M2 51 3 _).2.1 53 i = _
      rw [setI_cell (by decide)]
      show (am_setI M1 54 _ _).2.1 53 i = _
      rw [setI_cell (by decide)]
    have e2 : M3.2.1 54 i = M2.2.1 54 i := by
      show (am_setI M2 51 3 _).2.1 54 i = _
      rw [setI_cell (by decide)]
    rw [e1, e2]
    by_cases c : i = L.length
    · subst c
      have e3 : (L ++ [(k, f)]).getD L.length (0, false) = (k, f) := by
        rw [List.getD_eq_getElem?_getD, List.getElem?_append_right (Nat.le_refl _), Nat.sub_self]
        rfl
      rw [e3]
      exact ⟨setI_self, setI_self⟩
    · have e3 : (L ++ [(k, f)]).getD i (0, false) = L.getD i (0, false) := by
        rw [List.getD_eq_getElem?_getD, List.getElem?_append_left (by omega), List.getD_eq_getElem?_getD]
      rw [e3]
      have h3 := h2 i (by omega)
      constructor
      · show (am_setI M 53 _ _).2.1 53 i = _
        rw [setI_idx c]
        exact h3.1
      · show (am_setI M1 54 _ _).2.1 54 i = _
        rw [setI_idx c]
        show (am_setI M 53 _ _).2.1 54 i = _
        rw [setI_cell (by decide)]
        exact h3.2
theorem dT.kept {M M' : Mm_} {q cap : Nat} {B : List Int} {N : List Nd} (h : dT M q cap B N) (f : Fp pTr M M') (hq : q + 1 < 51 ∨ 54 < q) : dT M' q cap B N := by
  obtain ⟨⟨e1, e2, e3, ⟨r1, r2, r3, r4, r5, r6⟩, e5, e6⟩, ⟨⟨a1, a2, a3, a4, a5⟩, hN, hEd⟩, hA⟩ := h
  have g : ∀ a j, ¬ (51 ≤ a ∧ a ≤ 54) → M'.2.1 a j = M.2.1 a j := fun a j hn => f.2.2 a j hn
  refine ⟨⟨f.WM e1, e2, by rw [f.2.1]; exact e3, ⟨r1, r2, r3, by rw [g _ _ (by omega)]; exact r4, fun i hi => by rw [g _ _ (by omega)]; exact r5 i hi, r6⟩, e5, e6⟩, ⟨⟨?_, ?_, ?_, ?_, ?_⟩, fun k hk => ?_, fun k hk hS => ?_⟩, hA⟩
  · rw [g _ _ (by omega)]; exact a1
  · rw [g _ _ (by omega)]; exact a2
  · rw [g _ _ (by omega)]; exact a3
  · rw [g _ _ (by omega)]; exact a4
  · rw [g _ _ (by omega)]; exact a5
  · rw [g _ _ (by omega), g _ _ (by omega), g _ _ (by omega), g _ _ (by omega), g _ _ (by omega)]; exact hN k hk
  · rw [g _ _ (by omega)]; exact hEd k hk hS
theorem foll_loop {q cap a : Nat} {B : List Int} {N : List Nd} {P : List (List Int)} (hq : q + 1 < 51 ∨ 54 < q) (ha : a + 1 < 51 ∨ 54 < a) : ∀ (m k : Nat) (M : Mm_) (u4 u5 : Option Value), k + m = N.length → 0 < k → dT M q cap B N → pthIs M a P → trl M (fk N (pks P) k) → (∀ j, j < k → M.2.1 52 j = zI (gone N (pks P) j)) →
    ∃ M', EvC G (d + 2) m_L_follow 14 [some (.ref 51), some (.ref 42), some (.ref a), some (.int (zI (k : Int))), u4, u5] [] M (none, M') ∧ trl M' (follN N (pks P)) ∧ Fp pTr M M'
  | 0, k, M, u4, u5, hk, h0, h, hP, hL, hg => by
    have hk : k = N.length := by omega
    have hW := h.1.1
    have hT := h.1.2.1
    have hB := h.1.2.2.2.2.2
    have hl := h.2.2.2.1
    have a2 : M.2.1 42 6 = zI N.length := h.2.1.1.2.1
    subst hk
    refine ⟨M, ev_L_follow_14 ?_, hL, Fp.rf⟩
    rw [a2, if_neg (fun q => by rw [zI_lt ⟨by omega, by omega⟩ ⟨by omega, by omega⟩] at q; omega)]
    exact ⟨okF_W hW hT.1, rfl⟩
  | m + 1, k, M, u4, u5, hk, h0, h, hP, hL, hg => by
    have hkN : k < N.length := by omega
    have hW := h.1.1
    have hT := h.1.2.1
    have hB := h.1.2.2.2.2.2
    have hA := h.2.2
    have hl := hA.2.1
    have a2 : M.2.1 42 6 = zI N.length := h.2.1.1.2.1
    obtain ⟨c, hc⟩ := hold_ex hA hkN h0
    have hlt := hold_lt hA.2.2.1 hkN hc
    have k5 : M.2.1 (42 + 6) k = zI (c : Int) := by rw [← hc]; exact (h.2.1.2.1 k hkN).2.2.2.2
    have gc := gone_rg (p := pks P) hA c (by omega)
    have gk := gone_rg (p := pks P) hA k hkN
    rw [pks_len] at gc gk
    have hPl := hP.2.2.1
    have hPn := hP.2.2.2.1
    have tc := hA.2.2.1 c (by omega)
    have tc1 := tc.1
    have tc2 := tc.2.1
    have egoon := e_L_goOn (G := G) (d := d) (b := gone N (pks P) c) h hP hkN hc ⟨by omega, by omega⟩
    rw [← gone_step hA.2.2.1 hkN h0 hc] at egoon
    let M1 := am_setI M 52 k (zI (gone N (pks P) k))
    have f1 : Fp pTr M M1 := Fp.set ⟨by omega, by omega⟩
    have hW1 : WM M1 := f1.WM hW
    have hd1 : dT M1 q cap B N := h.kept f1 hq
    have hP1 : pthIs M1 a P := hP.keptp f1 (fun j => by unfold pTr; omega) (fun j => by unfold pTr; omega)
    have hL1 : trl M1 (fk N (pks P) k) := by
      have e : ∀ b j, b ≠ 52 → M1.2.1 b j = M.2.1 b j := fun b j hb => by
        show (am_setI M 52 k _).2.1 b j = _
        rw [setI_cell hb]
      exact ⟨by rw [e _ _ (by decide)]; exact hL.1, fun i hi => by rw [e _ _ (by decide), e _ _ (by decide)]; exact hL.2 i hi⟩
    have hg1 : ∀ j, j < k + 1 → M1.2.1 52 j = zI (gone N (pks P) j) := fun j hj => by
      show (am_setI M 52 k _).2.1 52 j = _
      by_cases e : j = k
      · subst e; exact setI_self
      · rw [setI_idx e]; exact hg j (by omega)
    have flen := flk_len (N := N) (p := pks P) (k := k)
    have to52 : ∀ R, EvC G (d + 2) m_L_follow 52 [some (.ref 51), some (.ref 42), some (.ref a), some (.int (zI (k : Int))), some (.int (zI (c : Int))), some (.int (zI (gone N (pks P) c)))] [.int (zI (gone N (pks P) k)), .int (zI (k : Int)), .ref (51 + 1)] M R → EvC G (d + 2) m_L_follow 14 [some (.ref 51), some (.ref 42), some (.ref a), some (.int (zI (k : Int))), u4, u5] [] M R := fun R kk => by
      refine ev_L_follow_14 ?_
      rw [a2, if_pos ((zI_lt ⟨by omega, by omega⟩ ⟨by omega, by omega⟩).mpr (by omega)), zI_nat (by omega), k5, zI_nat (by omega), show M.2.1 (51 + 1) c = zI (gone N (pks P) c) from hg c hlt]
      exact ⟨okF_W hW hT.1, okF_W hW hT.1, okA_z hW (hT.2 6 (by omega) (by omega)) (by omega) (by omega), okF_W hW rfl, okA_z hW (show sg0[51 + 1]? = some (.inr (0, 80)) from rfl) (by omega) (by omega), okF_W hW rfl, _, _, egoon, kk⟩
    -- the round's end
    have fin : ∀ (M2 : Mm_) (u4 u5 : Option Value), Fp pNt M1 M2 → trl M2 (fk N (pks P) (k + 1)) → ∃ M', EvC G (d + 2) m_L_follow 14 [some (.ref 51), some (.ref 42), some (.ref a), some (.int (zI ((k + 1 : Nat) : Int))), u4, u5] [] M2 (none, M') ∧ trl M' (follN N (pks P)) ∧ Fp pTr M M' := fun M2 u4 u5 f2 l2 => by
      have f2' : Fp pTr M1 M2 := f2.up (fun b j hb => by unfold pNt at hb; unfold pTr; omega)
      obtain ⟨M', e, w1, w2⟩ := foll_loop hq ha m (k + 1) M2 u4 u5 (by omega) (by omega) (hd1.kept f2' hq) (hP1.keptp f2' (fun j => by unfold pTr; omega) (fun j => by unfold pTr; omega)) l2 (fun j hj => by
        rw [f2.2.2 52 j (by unfold pNt; omega)]
        exact hg1 j hj)
      exact ⟨M', e, w1, (f1.tr f2').tr w2⟩
    have e101 : zI (k : Int) + zI 1 = zI ((k + 1 : Nat) : Int) := by rw [zI_add, show (k : Int) + 1 = ((k + 1 : Nat) : Int) by omega]
    have m52 : M1.2.1 (51 + 1) k = zI (gone N (pks P) k) := hg1 k (by omega)
    have fd : isFd N (pks P) k = if gone N (pks P) k = ((pks P).length : Int) then some true else if gone N (pks P) c = ((pks P).length : Int) ∧ rTy N c = 4 then some false else none := by
      unfold isFd
      rw [if_neg (by omega), hc, Int.toNat_natCast]
    rw [pks_len] at fd
    have c1 : M1.2.1 (42 + 1) c = zI (rTy N c) := ((show tN M1 42 N from hd1.2.1.2.1) c (by omega)).1
    by_cases g1 : gone N (pks P) k = (P.length : Int)
    · rw [if_pos g1] at fd
      obtain ⟨M2, e2, l2, f2⟩ := e_L_note (G := G) (d := d + 1) (k := k) (f := true) hW1 hL1 (by omega)
      obtain ⟨M', e, w1, w2⟩ := fin M2 (some (.int (zI (c : Int)))) (some (.int (zI (gone N (pks P) c)))) f2 (by rw [fk_succ, fd]; exact l2)
      refine ⟨M', to52 _ (ev_L_follow_52 ?_), w1, w2⟩
      rw [zI_nat (by omega), show (am_setI M (51 + 1) k (zI (gone N (pks P) k))) = M1 from rfl, m52, hP1.2.2.2.1, if_pos (by rw [g1])]
      refine ⟨okA_z hW (show sg0[51 + 1]? = some (.inr (0, 80)) from rfl) (by omega) (by omega), okF_W hW1 rfl, okA_z hW1 (show sg0[51 + 1]? = some (.inr (0, 80)) from rfl) (by omega) (by omega), okF_W hW1 hP.1, okO_W hW1 rfl, _, e2, ev_L_follow_72 (ev_L_follow_101 ?_)⟩
      rw [e101]
      exact e
    · rw [if_neg g1] at fd
      by_cases g2 : gone N (pks P) c = (P.length : Int)
      · by_cases t4 : rTy N c = 4
        · rw [if_pos ⟨g2, t4⟩] at fd
          obtain ⟨M2, e2, l2, f2⟩ := e_L_note (G := G) (d := d + 1) (k := k) (f := false) hW1 hL1 (by omega)
          obtain ⟨M', e, w1, w2⟩ := fin M2 (some (.int (zI (c : Int)))) (some (.int (zI (gone N (pks P) c)))) f2 (by rw [fk_succ, fd]; exact l2)
          refine ⟨M', to52 _ (ev_L_follow_52 ?_), w1, w2⟩
          rw [zI_nat (by omega), show (am_setI M (51 + 1) k (zI (gone N (pks P) k))) = M1 from rfl, m52, hP1.2.2.2.1, if_neg (zI_ne ⟨by omega, by omega⟩ ⟨by omega, by omega⟩ g1), if_pos (by rw [g2]), zI_nat (by omega), c1, if_pos (by rw [t4])]
          refine ⟨okA_z hW (show sg0[51 + 1]? = some (.inr (0, 80)) from rfl) (by omega) (by omega), okF_W hW1 rfl, okA_z hW1 (show sg0[51 + 1]? = some (.inr (0, 80)) from rfl) (by omega) (by omega), okF_W hW1 hP.1, okF_W hW1 hP.1, okF_W hW1 hT.1, okA_z hW1 (hT.2 1 (by omega) (by omega)) (by omega) (by omega), okO_W hW1 rfl, _, e2, ev_L_follow_101 ?_⟩
          rw [e101]
          exact e
        · rw [if_neg (fun q => t4 q.2)] at fd
          obtain ⟨M', e, w1, w2⟩ := fin M1 (some (.int (zI (c : Int)))) (some (.int (zI (gone N (pks P) c)))) Fp.rf (by rw [fk_succ, fd, List.append_nil]; exact hL1)
          refine ⟨M', to52 _ (ev_L_follow_52 ?_), w1, w2⟩
          rw [zI_nat (by omega), show (am_setI M (51 + 1) k (zI (gone N (pks P) k))) = M1 from rfl, m52, hP1.2.2.2.1, if_neg (zI_ne ⟨by omega, by omega⟩ ⟨by omega, by omega⟩ g1), if_pos (by rw [g2]), zI_nat (by omega), c1, if_neg (zI_ne ⟨by omega, by omega⟩ ⟨by omega, by omega⟩ t4)]
          refine ⟨okA_z hW (show sg0[51 + 1]? = some (.inr (0, 80)) from rfl) (by omega) (by omega), okF_W hW1 rfl, okA_z hW1 (show sg0[51 + 1]? = some (.inr (0, 80)) from rfl) (by omega) (by omega), okF_W hW1 hP.1, okF_W hW1 hP.1, okF_W hW1 hT.1, okA_z hW1 (hT.2 1 (by omega) (by omega)) (by omega) (by omega), ev_L_follow_101 ?_⟩
          rw [e101]
          exact e
      · rw [if_neg (fun q => g2 q.1)] at fd
        obtain ⟨M', e, w1, w2⟩ := fin M1 (some (.int (zI (c : Int)))) (some (.int (zI (gone N (pks P) c)))) Fp.rf (by rw [fk_succ, fd, List.append_nil]; exact hL1)
        refine ⟨M', to52 _ (ev_L_follow_52 ?_), w1, w2⟩
        rw [zI_nat (by omega), show (am_setI M (51 + 1) k (zI (gone N (pks P) k))) = M1 from rfl, m52, hP1.2.2.2.1, if_neg (zI_ne ⟨by omega, by omega⟩ ⟨by omega, by omega⟩ g1), if_neg (zI_ne ⟨by omega, by omega⟩ ⟨by omega, by omega⟩ g2)]
        refine ⟨okA_z hW (show sg0[51 + 1]? = some (.inr (0, 80)) from rfl) (by omega) (by omega), okF_W hW1 rfl, okA_z hW1 (show sg0[51 + 1]? = some (.inr (0, 80)) from rfl) (by omega) (by omega), okF_W hW1 hP.1, okF_W hW1 hP.1, ev_L_follow_101 ?_⟩
        rw [e101]
        exact e
theorem e_L_follow {M : Mm_} {q cap a : Nat} {B : List Int} {N : List Nd} {P : List (List Int)} (hq : q + 1 < 51 ∨ 54 < q) (ha : a + 1 < 51 ∨ 54 < a) (h : dT M q cap B N) (hP : pthIs M a P) : ∃ M', Ev G (d + 2) 43 [.ref 51, .ref 42, .ref a] M (none, M') ∧ trl M' (follN N (pks P)) ∧ Fp pTr M M' := by
  have hW := h.1.1
  have f1 : Fp pTr M (am_setI (am_setI M 51 3 (zI 0)) (51 + 1) (zI 0).toNatClampNeg (zI 0)) := Fp.tr (Fp.set ⟨by omega, by omega⟩) (Fp.set ⟨by omega, by omega⟩)
  have hN0 : 0 < N.length := h.2.2.1.1
  have e0 : (zI 0).toNatClampNeg = 0 := by decide +kernel
  obtain ⟨M', e, w1, w2⟩ := foll_loop (G := G) (d := d) hq ha (N.length - 1) 1 _ none none (by omega) (by omega) (h.kept f1 hq) (hP.keptp f1 (fun j => by unfold pTr; omega) (fun j => by unfold pTr; omega)) (by
    have ef : fk N (pks P) 1 = [] := rfl
    rw [ef]
    refine ⟨?_, fun i hi => by cases hi⟩
    rw [setI_cell (by decide), setI_self]
    rfl) (fun j hj => by
    have : j = 0 := by omega
    subst this
    rw [e0, gone_zero]
    exact setI_self)
  refine ⟨M', ev_of (q := mt_L_follow) rfl (ev_L_follow_0 ⟨okP_W hW rfl rfl, okF_W (WM_setI hW) rfl, okA_W (WM_setI hW) (show sg0[51 + 1]? = some (.inr (0, 80)) from rfl) (zI_in (by omega) (by omega) (by omega)), e⟩), w1, f1.tr w2⟩
end TRAIL
