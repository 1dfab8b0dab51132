/-! THE EDITOR of the class: what it writes -/
theorem l4 {a b c d a' b' c' d' : Int} (h1 : a = a') (h2 : b = b') (h3 : c = c') (h4 : d = d') : [a, b, c, d] = [a', b', c', d'] := by rw [h1, h2, h3, h4]
theorem nm_bts : ∀ ls : List Int, isN ls → (bts (zI (pk ls)) 4).filter (fun y => decide (¬ y = 0)) = ls
  | [], h => absurd h.1 (by decide)
  | [a], h => by
    have ha := h.2.2 a (by simp)
    have e : (zI (pk [a])).toBitVec.toNat = a.toNat := by
      rw [show pk [a] = a by simp [pk]]
      exact bv_z (by omega) (by omega)
    have b : bts (zI (pk [a])) 4 = [0, 0, 0, a] := by
      show [bt (zI (pk [a])) 3, bt (zI (pk [a])) 2, bt (zI (pk [a])) 1, bt (zI (pk [a])) 0] = _
      unfold bt
      rw [e, show (256 : Nat) ^ 3 = 16777216 from rfl, show (256 : Nat) ^ 2 = 65536 from rfl, show (256 : Nat) ^ 1 = 256 from rfl, show (256 : Nat) ^ 0 = 1 from rfl]
      exact l4 (by omega) (by omega) (by omega) (by omega)
    rw [b]
    simp
    omega
  | [a, a2], h => by
    have ha := h.2.2 a (by simp)
    have ha2 := h.2.2 a2 (by simp)
    have e : (zI (pk [a, a2])).toBitVec.toNat = (a * 256 + a2).toNat := by
      rw [show pk [a, a2] = a * 256 + a2 by simp [pk]]
      exact bv_z (by omega) (by omega)
    have b : bts (zI (pk [a, a2])) 4 = [0, 0, a, a2] := by
      show [bt (zI (pk [a, a2])) 3, bt (zI (pk [a, a2])) 2, bt (zI (pk [a, a2])) 1, bt (zI (pk [a, a2])) 0] = _
      unfold bt
      rw [e, show (256 : Nat) ^ 3 = 16777216 from rfl, show (256 : Nat) ^ 2 = 65536 from rfl, show (256 : Nat) ^ 1 = 256 from rfl, show (256 : Nat) ^ 0 = 1 from rfl]
      exact l4 (by omega) (by omega) (by omega) (by omega)
    rw [b]
    simp
    omega
  | [a, a2, a3], h => by
    have ha := h.2.2 a (by simp)
    have ha2 := h.2.2 a2 (by simp)
    have ha3 := h.2.2 a3 (by simp)
    have e : (zI (pk [a, a2, a3])).toBitVec.toNat = ((a * 256 + a2) * 256 + a3).toNat := by
      rw [show pk [a, a2, a3] = (a * 256 + a2) * 256 + a3 by simp [pk]]
      exact bv_z (by omega) (by omega)
    have b : bts (zI (pk [a, a2, a3])) 4 = [0, a, a2, a3] := by
      show [bt (zI (pk [a, a2, a3])) 3, bt (zI (pk [a, a2, a3])) 2, bt (zI (pk [a, a2, a3])) 1, bt (zI (pk [a, a2, a3])) 0] = _
      unfold bt
      rw [e, show (256 : Nat) ^ 3 = 16777216 from rfl, show (256 : Nat) ^ 2 = 65536 from rfl, show (256 : Nat) ^ 1 = 256 from rfl, show (256 : Nat) ^ 0 = 1 from rfl]
      exact l4 (by omega) (by omega) (by omega) (by omega)
    rw [b]
    simp
    omega
  | [a, a2, a3, a4], h => by
    have ha := h.2.2 a (by simp)
    have ha2 := h.2.2 a2 (by simp)
    have ha3 := h.2.2 a3 (by simp)
    have ha4 := h.2.2 a4 (by simp)
    have e : (zI (pk [a, a2, a3, a4])).toBitVec.toNat = (((a * 256 + a2) * 256 + a3) * 256 + a4).toNat := by
      rw [show pk [a, a2, a3, a4] = ((a * 256 + a2) * 256 + a3) * 256 + a4 by simp [pk]]
      exact bv_z (by omega) (by omega)
    have b : bts (zI (pk [a, a2, a3, a4])) 4 = [a, a2, a3, a4] := by
      show [bt (zI (pk [a, a2, a3, a4])) 3, bt (zI (pk [a, a2, a3, a4])) 2, bt (zI (pk [a, a2, a3, a4])) 1, bt (zI (pk [a, a2, a3, a4])) 0] = _
      unfold bt
      rw [e, show (256 : Nat) ^ 3 = 16777216 from rfl, show (256 : Nat) ^ 2 = 65536 from rfl, show (256 : Nat) ^ 1 = 256 from rfl, show (256 : Nat) ^ 0 = 1 from rfl]
      exact l4 (by omega) (by omega) (by omega) (by omega)
    rw [b]
    simp
    omega
  | _ :: _ :: _ :: _ :: _ :: _, h => absurd h.2.1 (by simp)
theorem row_set {M : Mm_} {r cap o : Nat} {X : List Int} {v : Int} (h : rowIs M r cap X) (ho : o < X.length) (hv : 0 ≤ v ∧ v ≤ 255) : rowIs (am_setI M (r + 1) o (zI v)) r cap (X.set o v) := by
  obtain ⟨h1, h2, h3, h4, h5, h6⟩ := h
  refine ⟨h1, h2, by rw [List.length_set]; exact h3, by rw [List.length_set, setI_cell (by omega)]; exact h4, fun i hi => ?_, fun i hi => ?_⟩
  · rw [List.length_set] at hi
    rw [by_set (by omega)]
    by_cases e : i = o
    · rw [if_pos e, e]; exact setI_self
    · rw [if_neg e]; exact (setI_idx e).trans (h5 i hi)
  · rw [List.length_set] at hi
    rw [by_set (by omega)]
    by_cases e : i = o
    · rw [if_pos e]; exact hv
    · rw [if_neg e]; exact h6 i hi
section WRITE
variable {G : Nat × (Nat → Int32)} {d : Nat}
theorem adn_l {r cap : Nat} {w : Int32} : ∀ (k : Nat) (M : Mm_) (X : List Int) (u3 : Option Value), k ≤ 4 → WM M → rowIs M r cap X → X.length + ((bts w k).filter (fun y => decide (¬ y = 0))).length + 1 ≤ cap →
    ∃ M', EvC G (d + 1) m_R_addName 2 [some (.ref r), some (.int w), some (.int (zI ((k : Int) - 1))), u3] [] M (none, M') ∧ rowIs M' r cap (X ++ ((bts w k).filter (fun y => decide (¬ y = 0)) ++ [0])) ∧ Fr [r, r + 1] M M'
  | 0, M, X, u3, hk, hW, h, hl => by
    obtain ⟨M1, e1, r1, f1⟩ := e_R_add (G := G) (d := d) (x := 0) hW h (by simp only [bts, List.filter_nil, List.length_nil] at hl; omega) ⟨by omega, by omega⟩
    refine ⟨M1, ev_R_addName_2 ?_, r1, f1⟩
    rw [zI_0, if_pos ((zI_lt ⟨by omega, by omega⟩ ⟨by omega, by omega⟩).mpr (by omega))]
    exact ⟨okO_W hW h.1, _, e1, ev_R_addName_37 rfl⟩
  | k + 1, M, X, u3, hk, hW, h, hl => by
    have hb := bt_rg w k
    have e8 : am_ushr w (zI 8 * zI (((k + 1 : Nat) : Int) - 1)) &&& zI 255 = zI (bt w k) := by
      rw [zI_mul, show (8 : Int) * (((k + 1 : Nat) : Int) - 1) = 8 * (k : Int) by omega]
      exact ushr_bt w (by omega)
    have em : zI (((k + 1 : Nat) : Int) - 1) + zI (-1) = zI ((k : Int) - 1) := by rw [zI_add, show ((k + 1 : Nat) : Int) - 1 + -1 = (k : Int) - 1 by omega]
    have eb : bts w (k + 1) = bt w k :: bts w k := rfl
    by_cases c : bt w k = 0
    · have ef : (bts w (k + 1)).filter (fun y => decide (¬ y = 0)) = (bts w k).filter (fun y => decide (¬ y = 0)) := by rw [eb, List.filter_cons_of_neg (by simp [c])]
      rw [ef] at hl ⊢
      obtain ⟨M1, e1, r1, f1⟩ := adn_l (w := w) k M X (some (.int (zI (bt w k)))) (by omega) hW h hl
      refine ⟨M1, ev_R_addName_2 ?_, r1, f1⟩
      rw [e8, zI_0, if_neg (fun q => by rw [zI_lt ⟨by omega, by omega⟩ ⟨by omega, by omega⟩] at q; omega), if_pos (by rw [c])]
      refine ev_R_addName_26 ?_
      rw [em]
      exact e1
    · have ef : (bts w (k + 1)).filter (fun y => decide (¬ y = 0)) = bt w k :: (bts w k).filter (fun y => decide (¬ y = 0)) := by rw [eb, List.filter_cons_of_pos (by simp [c])]
      rw [ef, List.length_cons] at hl
      obtain ⟨M0, e0, r0, f0⟩ := e_R_add (G := G) (d := d) (x := bt w k) hW h (by omega) hb
      obtain ⟨M1, e1, r1, f1⟩ := adn_l (w := w) k M0 (X ++ [bt w k]) (some (.int (zI (bt w k)))) (by omega) (f0.WM hW) r0 (by rw [List.length_append, List.length_singleton]; omega)
      rw [ef]
      refine ⟨M1, ev_R_addName_2 ?_, by rw [List.append_assoc] at r1; exact r1, f0.tr f1⟩
      rw [e8, zI_0, if_neg (fun q => by rw [zI_lt ⟨by omega, by omega⟩ ⟨by omega, by omega⟩] at q; omega), if_neg (zI_ne ⟨by omega, by omega⟩ ⟨by omega, by omega⟩ c)]
      refine ⟨okO_W hW h.1, _, e0, ev_R_addName_26 ?_⟩
      rw [em]
      exact e1
theorem e_R_addName {M : Mm_} {r cap : Nat} {X ls : List Int} (hW : WM M) (h : rowIs M r cap X) (hls : isN ls) (hl : X.length + ls.length + 1 ≤ cap) : ∃ M', Ev G (d + 1) 77 [.ref r, .int (zI (pk ls))] M (none, M') ∧ rowIs M' r cap (X ++ (ls ++ [0])) ∧ Fr [r, r + 1] M M' := by
  have eb := nm_bts ls hls
  obtain ⟨M1, e1, r1, f1⟩ := adn_l (G := G) (d := d) (w := zI (pk ls)) 4 M X none (by omega) hW h (by rw [eb]; exact hl)
  rw [eb] at r1
  exact ⟨M1, ev_of (q := mt_R_addName) rfl (ev_R_addName_0 e1), r1, f1⟩
/-- the piece is X -/
def pcI (M : Mm_) (X : List Int) : Prop := WM M ∧ rowIs M 56 160 X
def p567 (a _j : Nat) : Prop := a = 56 ∨ a = 57
theorem drop_1 {Q : List Int} : sl Q 1 Q.length = Q.drop 1 := by
  unfold sl
  rw [List.take_of_length_le (by rw [List.length_drop]; omega)]
theorem e_E_writeElement {M : Mm_} {X ls Q : List Int} (h : pcI M X) (hls : isN ls) (hQ : rowIs M 1 80 Q) (hq : 0 < Q.length) (hl : X.length ≤ 60) : ∃ M', Ev G (d + 2) 79 [.ref 55, .int (zI (pk ls)), .ref 1] M (none, M') ∧ pcI M' (X ++ elm ls Q) ∧ Fx p567 M M' := by
  obtain ⟨hW, h⟩ := h
  have hql := hQ.2.2.1
  have hl4 := hls.2.1
  obtain ⟨M1, e1, r1, f1⟩ := e_R_add (G := G) (d := d + 1) (r := 56) (x := by_ Q 0) hW h (by omega) (hQ.2.2.2.2.2 0 hq)
  have f1x := f1.x hW
  obtain ⟨M2, e2, r2, f2⟩ := e_R_addName (G := G) (d := d) f1x.1 r1 hls (by rw [List.length_append, List.length_singleton]; omega)
  have f2x := f2.x f1x.1
  have Q2 : rowIs M2 1 80 Q := (hQ.kx f1x (fun j q => by have := mem2 q; omega) (fun j q => by have := mem2 q; omega)).kx f2x (fun j q => by have := mem2 q; omega) (fun j q => by have := mem2 q; omega)
  obtain ⟨M3, e3, r3, f3⟩ := e_R_addPart (G := G) (d := d) (r := 56) (r2 := 1) (i := 1) (j := Q.length) (by omega) (by omega) (by omega) (by omega) f2x.1 r2 Q2 (Nat.le_refl _) (by simp only [List.length_append, List.length_singleton]; omega)
  have f3x := f3.x f2x.1
  refine ⟨M3, ev_of (q := mt_E_writeElement) rfl (ev_E_writeElement_0 ⟨okF_W hW rfl, okO_W hW rfl, _, _, e_R_cell' (p := 0) hW hQ (by omega), ev_E_writeElement_9 ⟨okO_W hW rfl, _, e1, ev_E_writeElement_12 ⟨okF_W f1x.1 rfl, okO_W f1x.1 rfl, _, e2, ev_E_writeElement_20 ?_⟩⟩⟩), ⟨f3x.1, ?_⟩, ?_⟩
  · rw [Q2.2.2.2.1]
    exact ⟨okF_W f2x.1 rfl, okF_W f2x.1 rfl, okO_W f2x.1 rfl, _, e3, ev_E_writeElement_33 rfl⟩
  · rw [drop_1] at r3
    unfold elm
    simp only [List.append_assoc, List.cons_append, List.nil_append, List.singleton_append] at r3 ⊢
    exact r3
  · exact ((f1x.up (fun a j q => mem2 q)).tr (f2x.up (fun a j q => mem2 q))).tr (f3x.up (fun a j q => mem2 q))
/-- the places of the lengths that are still to be written -/
def eOp (M : Mm_) (O : List Nat) : Prop := O.length ≤ 3 ∧ M.2.1 55 4 = zI (O.length : Int) ∧ ∀ i, i < O.length → M.2.1 69 i = zI ((O.getD i 0 : Nat) : Int)
def pEd (a j : Nat) : Prop := a = 56 ∨ a = 57 ∨ a = 69 ∨ (a = 55 ∧ j = 4)
theorem p567_Ed {a j : Nat} (h : p567 a j) : pEd a j := by unfold p567 at h; unfold pEd; omega
theorem eOp.kx {P : Nat → Nat → Prop} {M M' : Mm_} {O : List Nat} (h : eOp M O) (f : Fx P M M') (hp : ∀ a j, P a j → ¬ (a = 69 ∨ (a = 55 ∧ j = 4))) : eOp M' O := ⟨h.1, by rw [f.2.2 _ _ (fun q => hp _ _ q (by omega))]; exact h.2.1, fun i hi => by rw [f.2.2 _ _ (fun q => hp _ _ q (by omega))]; exact h.2.2 i hi⟩
theorem e_E_openNest {M : Mm_} {X ls : List Int} {O : List Nat} {t : Int} (h : pcI M X) (hO : eOp M O) (hls : isN ls) (ht : 0 ≤ t ∧ t ≤ 255) (hl : X.length ≤ 60) (ho : O.length < 3) : ∃ M', Ev G (d + 2) 76 [.ref 55, .int (zI t), .int (zI (pk ls))] M (none, M') ∧ pcI M' (X ++ (t :: (ls ++ [0, 0]))) ∧ eOp M' (O ++ [X.length + ls.length + 2]) ∧ Fx pEd M M' := by
  obtain ⟨hW, h⟩ := h
  have hl4 := hls.2.1
  obtain ⟨M1, e1, r1, f1⟩ := e_R_add (G := G) (d := d + 1) (r := 56) (x := t) hW h (by omega) ht
  have f1x := f1.x hW
  obtain ⟨M2, e2, r2, f2⟩ := e_R_addName (G := G) (d := d) f1x.1 r1 hls (by rw [List.length_append, List.length_singleton]; omega)
  have f2x := f2.x f1x.1
  have F2 : Fx p567 M M2 := (f1x.up (fun a j q => mem2 q)).tr (f2x.up (fun a j q => mem2 q))
  have O2 : eOp M2 O := hO.kx F2 (fun a j q => by unfold p567 at q; omega)
  have hx2 : (X ++ [t] ++ (ls ++ [0])).length = X.length + ls.length + 2 := by simp only [List.length_append, List.length_singleton]; omega
  have l2 : M2.2.1 (55 + 1) 1 = zI ((X.length + ls.length + 2 : Nat) : Int) := by
    have := r2.2.2.2.1
    rw [hx2] at this
    exact this
  have f3 : Fp pEd M2 (am_setI (am_setI M2 69 O.length (zI ((X.length + ls.length + 2 : Nat) : Int))) 55 4 (zI ((O.length + 1 : Nat) : Int))) := Fp.tr (Fp.set (Or.inr (Or.inr (Or.inl rfl)))) (Fp.set (Or.inr (Or.inr (Or.inr ⟨rfl, rfl⟩))))
  have f3x := f3.x F2.1
  have r3 : rowIs (am_setI (am_setI M2 69 O.length (zI ((X.length + ls.length + 2 : Nat) : Int))) 55 4 (zI ((O.length + 1 : Nat) : Int))) 56 160 (X ++ [t] ++ (ls ++ [0])) := by
    obtain ⟨a1, a2, a3, a4, a5, a6⟩ := r2
    exact ⟨a1, a2, a3, by rw [setI_cell (by decide), setI_cell (by decide)]; exact a4, fun i hi => by rw [setI_cell (by decide), setI_cell (by decide)]; exact a5 i hi, a6⟩
  obtain ⟨M4, e4, r4, f4⟩ := e_R_add (G := G) (d := d + 1) (r := 56) (x := 0) f3x.1 r3 (by rw [hx2]; omega) ⟨by omega, by omega⟩
  have f4x := f4.x f3x.1
  refine ⟨M4, ev_of (q := mt_E_openNest) rfl (ev_E_openNest_0 ⟨okF_W hW rfl, okO_W hW rfl, _, e1, ev_E_openNest_8 ⟨okF_W f1x.1 rfl, okO_W f1x.1 rfl, _, e2, ev_E_openNest_16 ?_⟩⟩), ⟨f4x.1, ?_⟩, ?_, ((F2.up (fun a j q => p567_Ed q)).tr f3x).tr (f4x.up (fun a j q => by have := mem2 q; unfold pEd; omega))⟩
  · have W2 := F2.1
    have e5 : zI (O.length : Int) + zI 1 = zI ((O.length + 1 : Nat) : Int) := by rw [zI_add, show (O.length : Int) + 1 = ((O.length + 1 : Nat) : Int) by omega]
    rw [O2.2.1, zI_nat (show O.length < 2147483648 by omega), l2, setI_cell (show (55 : Nat) ≠ 55 + 14 by decide), O2.2.1, e5]
    exact ⟨okF_W W2 rfl, okF_W W2 rfl, okF_W W2 rfl, okF_W W2 rfl, okA_z W2 (show sg0[55 + 14]? = some (.inr (0, 3)) from rfl) (by omega) (by omega), okF_W (WM_setI W2) rfl, okP_W (WM_setI W2) rfl rfl, okF_W (WM_setI (WM_setI W2)) rfl, okO_W (WM_setI (WM_setI W2)) rfl, _, e4, ev_E_openNest_50 rfl⟩
  · simp only [List.append_assoc, List.cons_append, List.nil_append, List.singleton_append] at r4 ⊢
    exact r4
  · have f4p : Fx (fun a _ => a ∈ [56, 56 + 1]) _ M4 := f4x
    refine ⟨by rw [List.length_append, List.length_singleton]; omega, ?_, fun i hi => ?_⟩
    · rw [f4x.2.2 _ _ (by simp), setI_self, List.length_append, List.length_singleton]
    · rw [List.length_append, List.length_singleton] at hi
      rw [f4x.2.2 _ _ (by simp), setI_cell (by decide)]
      by_cases e : i = O.length
      · rw [e, setI_self, getD_last]
      · rw [setI_idx e, getD_snoc (by omega)]
        exact O2.2.2 i (by omega)
/-! closing -/
def clX : List Nat → List Int → List Int
  | [], X => X
  | o :: r, X => clX r ((X ++ [0]).set o (((X.length : Int) + 1) - (o : Int)))
def opX : List (List Int) → List Int → List Nat → List Int × List Nat
  | [], X, O => (X, O)
  | ls :: r, X, O => opX r (X ++ (3 :: (ls ++ [0, 0]))) (O ++ [X.length + ls.length + 2])
theorem set_mid {Z : List Int} {a v : Int} : ∀ A : List Int, (A ++ a :: Z).set A.length v = A ++ v :: Z
  | [] => rfl
  | b :: A => by
    show b :: (A ++ a :: Z).set A.length v = b :: (A ++ v :: Z)
    rw [set_mid A]
/-- one level closed -/
theorem cl_one {X ls D : List Int} {t : Int} : (((X ++ (t :: (ls ++ [0, 0]))) ++ D) ++ [0]).set (X.length + ls.length + 2) ((((X ++ (t :: (ls ++ [0, 0]))) ++ D).length : Int) + 1 - ((X.length + ls.length + 2 : Nat) : Int)) = X ++ wrap t ls D := by
  have e1 : ((X ++ (t :: (ls ++ [0, 0]))) ++ D) ++ [0] = (X ++ (t :: (ls ++ [0]))) ++ 0 :: (D ++ [0]) := by simp
  have e2 : X.length + ls.length + 2 = (X ++ (t :: (ls ++ [0]))).length := by simp; omega
  have e3 : (((X ++ (t :: (ls ++ [0, 0]))) ++ D).length : Int) + 1 - ((X.length + ls.length + 2 : Nat) : Int) = (D.length : Int) + 2 := by
    have : ((X ++ (t :: (ls ++ [0, 0]))) ++ D).length = X.length + (ls.length + 3) + D.length := by simp; omega
    omega
  rw [e3, e1, e2, set_mid]
  unfold wrap
  simp
theorem newP_two {op : Int} {Q ls : List Int} {r : List (List Int)} (h : r ≠ []) : newP op Q (ls :: r) = wrap 3 ls (newP op Q r) := by
  cases r with
  | nil => exact absurd rfl h
  | cons a b => rfl
theorem cl_op {op : Int} {Q last : List Int} : ∀ (r : List (List Int)) (X : List Int) (O : List Nat), clX (if op = 3 then ((opX r X O).2 ++ [(opX r X O).1.length + last.length + 2]).reverse else (opX r X O).2.reverse) (if op = 3 then ((opX r X O).1 ++ (4 :: (last ++ [0, 0]))) ++ Q else (opX r X O).1 ++ elm last Q) = clX O.reverse (X ++ newP op Q (r ++ [last]))
  | [], X, O => by
    show clX (if op = 3 then (O ++ [X.length + last.length + 2]).reverse else O.reverse) (if op = 3 then (X ++ (4 :: (last ++ [0, 0]))) ++ Q else X ++ elm last Q) = clX O.reverse (X ++ (if op = 3 then wrap 4 last Q else elm last Q))
    by_cases c : op = 3
    · rw [if_pos c, if_pos c, if_pos c, List.reverse_append, List.reverse_singleton, List.singleton_append]
      unfold clX
      rw [cl_one]
      cases O.reverse <;> rfl
    · rw [if_neg c, if_neg c, if_neg c]
  | ls :: r, X, O => by
    have ih := cl_op (op := op) (Q := Q) (last := last) r (X ++ (3 :: (ls ++ [0, 0]))) (O ++ [X.length + ls.length + 2])
    have e : opX (ls :: r) X O = opX r (X ++ (3 :: (ls ++ [0, 0]))) (O ++ [X.length + ls.length + 2]) := rfl
    rw [e, ih, List.reverse_append, List.reverse_singleton, List.singleton_append, List.cons_append, newP_two (by simp)]
    show clX O.reverse (((X ++ (3 :: (ls ++ [0, 0])) ++ newP op Q (r ++ [last])) ++ [0]).set (X.length + ls.length + 2) ((((X ++ (3 :: (ls ++ [0, 0])) ++ newP op Q (r ++ [last])).length : Nat) : Int) + 1 - ((X.length + ls.length + 2 : Nat) : Int))) = _
    rw [cl_one]
theorem opX_facts : ∀ (r : List (List Int)) (X : List Int) (O : List Nat), (∀ ls ∈ r, isN ls) → (opX r X O).1.length ≤ X.length + 7 * r.length ∧ X.length ≤ (opX r X O).1.length ∧ (opX r X O).2.length = O.length + r.length ∧ ((∀ o ∈ O, o < X.length) → ∀ o ∈ (opX r X O).2, o < (opX r X O).1.length)
  | [], X, O, h => ⟨by show X.length ≤ X.length + 7 * 0; omega, Nat.le_refl _, rfl, fun q => q⟩
  | ls :: r, X, O, h => by
    have hls := h ls List.mem_cons_self
    have hl4 := hls.2.1
    obtain ⟨i1, i2, i3, i4⟩ := opX_facts r (X ++ (3 :: (ls ++ [0, 0]))) (O ++ [X.length + ls.length + 2]) (fun l hl => h l (List.mem_cons_of_mem _ hl))
    have e : opX (ls :: r) X O = opX r (X ++ (3 :: (ls ++ [0, 0]))) (O ++ [X.length + ls.length + 2]) := rfl
    have el : (X ++ (3 :: (ls ++ [0, 0]))).length = X.length + ls.length + 3 := by simp; omega
    rw [el] at i1 i2 i4
    rw [List.length_append, List.length_singleton] at i3
    rw [e, List.length_cons]
    refine ⟨by omega, by omega, by omega, fun q => i4 (fun o ho => ?_)⟩
    rcases List.mem_append.mp ho with ho | ho
    · have := q o ho; omega
    · have := List.mem_singleton.mp ho; omega
theorem wcl_l {x2 x3 : Int32} : ∀ (O : List Nat) (X : List Int) (M : Mm_), pcI M X → (∀ i, i < O.length → M.2.1 69 i = zI ((O.getD i 0 : Nat) : Int)) → O.length ≤ 3 → (∀ o ∈ O, o < X.length) → X.length + O.length ≤ 160 → ∃ M', EvC G (d + 1) m_E_writeNew 86 [some (.ref 55), some (.ref 3), some (.int x2), some (.int x3), some (.ref 1), some (.int (zI ((O.length : Int) - 1)))] [] M (none, M') ∧ pcI M' (clX O.reverse X) ∧ Fx p567 M M' := by
  intro O
  induction hn : O.length generalizing O with
  | zero =>
    intro X M h hO h3 ho hl
    have : O = [] := List.length_eq_zero_iff.mp hn
    subst this
    refine ⟨M, ev_E_writeNew_86 ?_, h, Fx.rf h.1⟩
    rw [zI_0, if_pos ((zI_lt ⟨by omega, by omega⟩ ⟨by omega, by omega⟩).mpr (by omega))]
  | succ n ih =>
    intro X M h hO h3 ho hl
    obtain ⟨O', o, rfl⟩ : ∃ O' o, O = O' ++ [o] := by
      rcases List.eq_nil_or_concat O with h | ⟨O', o, h⟩
      · rw [h] at hn; cases hn
      · exact ⟨O', o, by rw [h, List.concat_eq_append]⟩
    rw [List.length_append, List.length_singleton] at hn
    have hol := ho o (by simp)
    obtain ⟨hW, hr⟩ := h
    obtain ⟨M1, e1, r1, f1⟩ := e_R_add (G := G) (d := d) (r := 56) (x := 0) hW hr (by omega) ⟨by omega, by omega⟩
    have f1x := f1.x hW
    have o1 : M1.2.1 (55 + 14) n = zI (o : Int) := by
      rw [show (55 : Nat) + 14 = 69 from rfl, f1x.2.2 _ _ (by simp), hO n (by omega), show n = O'.length by omega, getD_last]
    have l1 : M1.2.1 (55 + 1) 1 = zI ((X.length + 1 : Nat) : Int) := by
      have := r1.2.2.2.1
      rw [List.length_append, List.length_singleton] at this
      exact this
    have r2 := row_set (o := o) (v := ((X.length : Int) + 1) - (o : Int)) r1 (by rw [List.length_append]; omega) ⟨by omega, by omega⟩
    have f2 : Fx p567 M1 (am_setI M1 (56 + 1) o (zI (((X.length : Int) + 1) - (o : Int)))) := Fx.setI f1x.1 (Or.inr rfl)
    have F : Fx p567 M (am_setI M1 (56 + 1) o (zI (((X.length : Int) + 1) - (o : Int)))) := (f1x.up (fun a j q => mem2 q)).tr f2
    obtain ⟨M3, e3, r3, f3⟩ := ih O' (by omega) ((X ++ [0]).set o (((X.length : Int) + 1) - (o : Int))) _ ⟨f2.1, r2⟩ (fun i hi => by rw [F.2.2 _ _ (fun q => by unfold p567 at q; omega), hO i (by omega), getD_snoc (by omega)]) (by omega) (fun p hp => by rw [List.length_set, List.length_append]; have := ho p (by simp [hp]); omega) (by rw [List.length_set, List.length_append, List.length_singleton]; omega)
    refine ⟨M3, ev_E_writeNew_86 ?_, by rw [List.reverse_append, List.reverse_singleton, List.singleton_append]; exact r3, F.tr f3⟩
    rw [zI_0, if_neg (fun q => by rw [zI_lt ⟨by omega, by omega⟩ ⟨by omega, by omega⟩] at q; omega), show ((n + 1 : Nat) : Int) - 1 = (n : Int) by omega]
    refine ⟨okF_W hW rfl, okO_W hW rfl, _, e1, ev_E_writeNew_99 ?_⟩
    have W1 := f1x.1
    rw [zI_nat (show n < 2147483648 by omega), o1, l1, zI_nat (show o < 2147483648 by omega), zI_sub, zI_add, show (n : Int) + -1 = (n : Int) - 1 by omega, show ((X.length + 1 : Nat) : Int) - (o : Int) = ((X.length : Int) + 1) - (o : Int) by omega]
    refine ⟨okF_W W1 rfl, okF_W W1 rfl, okF_W W1 rfl, okA_z W1 (show sg0[55 + 14]? = some (.inr (0, 3)) from rfl) (by omega) (by omega), okF_W W1 rfl, okF_W W1 rfl, okF_W W1 rfl, okA_z W1 (show sg0[55 + 14]? = some (.inr (0, 3)) from rfl) (by omega) (by omega), okA_z W1 (show sg0[55 + 1 + 1]? = some (.inr (0, 160)) from rfl) (by omega) (by omega), e3⟩
/-- the names that lie ahead -/
theorem wno_l {P : List (List Int)} {x2 x3 : Int32} {k : Nat} : ∀ (m j : Nat) (X : List Int) (O : List Nat) (M : Mm_), j + m + 1 = P.length → pcI M X → eOp M O → pthIs M 3 P → X.length + 7 * m ≤ 60 → O.length + m ≤ 3 → ∃ M', pcI M' (opX ((P.drop j).take m) X O).1 ∧ eOp M' (opX ((P.drop j).take m) X O).2 ∧ Fx pEd M M' ∧ ∀ r, EvC G (d + 3) m_E_writeNew 8 [some (.ref 55), some (.ref 3), some (.int x2), some (.int x3), some (.ref 1), some (.int (zI ((j + m : Nat) : Int)))] [] M' r → EvC G (d + 3) m_E_writeNew 8 [some (.ref 55), some (.ref 3), some (.int x2), some (.int x3), some (.ref 1), some (.int (zI (j : Int)))] [] M r
  | 0, j, X, O, M, hj, h, hO, hP, hl, ho => ⟨M, by rw [List.take_zero]; exact h, by rw [List.take_zero]; exact hO, Fx.rf h.1, fun r hr => hr⟩
  | m + 1, j, X, O, M, hj, h, hO, hP, hl, ho => by
    have hW := h.1
    have hpl := hP.2.2.1
    have hls := getN hP.2.2.2.2.2 (show j < P.length by omega)
    have hl4 := hls.2.1
    have en := e_H_name (G := G) (d := d + 2) (k := j) hW hP (by omega)
    rw [pks_get] at en
    obtain ⟨M1, e1, r1, o1, f1⟩ := e_E_openNest (G := G) (d := d) (t := 3) h hO hls ⟨by omega, by omega⟩ (by omega) (by omega)
    have P1 : pthIs M1 3 P := hP.kx f1 (fun j q => by unfold pEd at q; omega) (fun j q => by unfold pEd at q; omega)
    have ed : (P.drop j).take (m + 1) = P.getD j [] :: (P.drop (j + 1)).take m := by
      have hj' : j < P.length := by omega
      rw [List.drop_eq_getElem_cons hj', List.take_succ_cons, List.getD_eq_getElem?_getD, List.getElem?_eq_getElem hj', Option.getD_some]
    have eo : opX ((P.drop j).take (m + 1)) X O = opX ((P.drop (j + 1)).take m) (X ++ (3 :: (P.getD j [] ++ [0, 0]))) (O ++ [X.length + (P.getD j []).length + 2]) := by rw [ed]; rfl
    obtain ⟨M2, g1, g2, g3, g4⟩ := wno_l (x2 := x2) (x3 := x3) (k := k) m (j + 1) _ _ M1 (by omega) r1 o1 P1 (by simp only [List.length_append, List.length_cons, List.length_nil]; omega) (by simp only [List.length_append, List.length_cons, List.length_nil]; omega)
    rw [eo]
    refine ⟨M2, g1, g2, f1.tr g3, fun r hr => ev_E_writeNew_8 ?_⟩
    rw [show j + (m + 1) = j + 1 + m by omega] at hr
    rw [hP.2.2.2.1, zI_sub, if_pos ((zI_lt ⟨by omega, by omega⟩ ⟨by omega, by omega⟩).mpr (by omega))]
    refine ⟨okF_W hW rfl, okO_W hW rfl, _, _, en, ev_E_writeNew_27 ⟨okO_W hW rfl, _, e1, ev_E_writeNew_30 ?_⟩⟩
    rw [zI_add, show (j : Int) + 1 = ((j + 1 : Nat) : Int) by omega]
    exact g4 r hr
theorem e_H_lastName {M : Mm_} {P : List (List Int)} (hW : WM M) (hP : pthIs M 3 P) (hp : 0 < P.length) : Ev G (d + 1) 78 [.ref 3] M (some (.int (zI (pk (P.getD (P.length - 1) [])))), M) := by
  have hpl := hP.2.2.1
  have en := e_H_name (G := G) (d := d) (k := P.length - 1) hW hP (by omega)
  rw [pks_get] at en
  refine ev_of (q := mt_H_lastName) rfl (ev_H_lastName_0 ?_)
  rw [hP.2.2.2.1, zI_sub, show (P.length : Int) - 1 = ((P.length - 1 : Nat) : Int) by omega]
  exact ⟨okF_W hW rfl, okO_W hW rfl, _, _, en, ev_H_lastName_10 rfl⟩
theorem drop_last {P : List (List Int)} {k : Nat} (hk : k < P.length) : P.drop k = (P.drop k).take (P.length - 1 - k) ++ [P.getD (P.length - 1) []] := by
  have h1 := List.take_append_drop (P.length - 1 - k) (P.drop k)
  have hl : P.length - 1 < P.length := by omega
  have h2 : (P.drop k).drop (P.length - 1 - k) = [P.getD (P.length - 1) []] := by
    rw [List.drop_drop, show k + (P.length - 1 - k) = P.length - 1 by omega, List.drop_eq_getElem_cons hl, List.drop_eq_nil_of_le (by omega), List.getD_eq_getElem?_getD, List.getElem?_eq_getElem hl, Option.getD_some]
  rw [h2] at h1
  exact h1.symm
theorem e_E_writeNew {M : Mm_} {P : List (List Int)} {Q : List Int} {op : Int} {k : Nat} (h : pcI M []) (hP : pthIs M 3 P) (hQ : rowIs M 1 80 Q) (hq : 0 < Q.length) (hop : 0 ≤ op ∧ op ≤ 4) (hk : k < P.length) : ∃ M', Ev G (d + 3) 75 [.ref 55, .ref 3, .int (zI (k : Int)), .int (zI op), .ref 1] M (none, M') ∧ pcI M' (newP op Q (P.drop k)) ∧ Fx pEd M M' := by
  have hW := h.1
  have hpl := hP.2.2.1
  have hql := hQ.2.2.1
  have f0 : Fx (fun a j => a = 55 ∧ j = 4) M (am_setI M 55 4 (zI 0)) := Fx.setI hW ⟨rfl, rfl⟩
  have F0 : Fx pEd M (am_setI M 55 4 (zI 0)) := f0.up (fun a j q => Or.inr (Or.inr (Or.inr q)))
  have h0 : pcI (am_setI M 55 4 (zI 0)) [] := ⟨f0.1, h.2.kx f0 (fun j q => by omega) (fun j q => by omega)⟩
  have P0 : pthIs (am_setI M 55 4 (zI 0)) 3 P := hP.kx f0 (fun j q => by omega) (fun j q => by omega)
  have ha : ∀ ls ∈ (P.drop k).take (P.length - 1 - k), isN ls := fun ls hl => hP.2.2.2.2.2 ls (List.mem_of_mem_drop (List.mem_of_mem_take hl))
  obtain ⟨M1, g1, g2, g3, g4⟩ := wno_l (G := G) (d := d) (x2 := zI (k : Int)) (x3 := zI op) (k := k) (P.length - 1 - k) k [] [] (am_setI M 55 4 (zI 0)) (by omega) h0 ⟨by simp, setI_self, fun i hi => by cases hi⟩ P0 (by simp only [List.length_nil]; omega) (by simp only [List.length_nil]; omega)
  obtain ⟨o1, o2, o3, o4⟩ := opX_facts ((P.drop k).take (P.length - 1 - k)) [] [] ha
  have o4 := o4 (fun o ho => by cases ho)
  have tl : ((P.drop k).take (P.length - 1 - k)).length = P.length - 1 - k := by rw [List.length_take, List.length_drop]; omega
  rw [tl, List.length_nil] at o1 o3
  have key := cl_op (op := op) (Q := Q) (last := P.getD (P.length - 1) []) ((P.drop k).take (P.length - 1 - k)) [] []
  rw [← drop_last hk] at key
  have key : _ = newP op Q (P.drop k) := key
  have W1 := g1.1
  have F1 := F0.tr g3
  have P1 : pthIs M1 3 P := P0.kx g3 (fun j q => by unfold pEd at q; omega) (fun j q => by unfold pEd at q; omega)
  have Q1 : rowIs M1 1 80 Q := hQ.kx F1 (fun j q => by unfold pEd at q; omega) (fun j q => by unfold pEd at q; omega)
  have hls := getN hP.2.2.2.2.2 (show P.length - 1 < P.length by omega)
  have hl4 := hls.2.1
  have el := e_H_lastName (G := G) (d := d + 1) W1 P1 (by omega)
  have st : ∀ r, EvC G (d + 3) m_E_writeNew 8 [some (.ref 55), some (.ref 3), some (.int (zI (k : Int))), some (.int (zI op)), some (.ref 1), some (.int (zI ((P.length - 1 : Nat) : Int)))] [] M1 r → Ev G (d + 3) 75 [.ref 55, .ref 3, .int (zI (k : Int)), .int (zI op), .ref 1] M r := fun r hr => by
    refine ev_of (q := mt_E_writeNew) rfl (ev_E_writeNew_0 ⟨okP_W hW rfl rfl, g4 r ?_⟩)
    rw [show k + (P.length - 1 - k) = P.length - 1 by omega]
    exact hr
  by_cases c : op = 3
  · obtain ⟨M2, e2, r2, q2, f2⟩ := e_E_openNest (G := G) (d := d) (t := 4) g1 g2 hls ⟨by omega, by omega⟩ (by omega) (by rw [o3]; omega)
    have Q2 : rowIs M2 1 80 Q := Q1.kx f2 (fun j q => by unfold pEd at q; omega) (fun j q => by unfold pEd at q; omega)
    have xl : ((opX ((P.drop k).take (P.length - 1 - k)) [] []).1 ++ (4 :: (P.getD (P.length - 1) [] ++ [0, 0]))).length = (opX ((P.drop k).take (P.length - 1 - k)) [] []).1.length + (P.getD (P.length - 1) []).length + 3 := by simp only [List.length_append, List.length_cons, List.length_nil]; omega
    obtain ⟨M3, e3, r3, f3⟩ := e_R_addPart (G := G) (d := d + 1) (r := 56) (r2 := 1) (i := 0) (j := Q.length) (by omega) (by omega) (by omega) (by omega) r2.1 r2.2 Q2 (Nat.le_refl _) (by rw [xl]; omega)
    rw [sl_all] at r3
    have f3x := f3.x r2.1
    have F3 : Fx p567 M2 M3 := f3x.up (fun a j q => mem2 q)
    have q3 := q2.kx F3 (fun a j q => by unfold p567 at q; omega)
    obtain ⟨M4, e4, r4, f4⟩ := wcl_l (G := G) (d := d + 2) (x2 := zI (k : Int)) (x3 := zI op) _ _ M3 ⟨F3.1, r3⟩ q3.2.2 q3.1 (fun o ho => by
      rw [List.length_append, xl]
      rcases List.mem_append.mp ho with ho | ho
      · have := o4 o ho; omega
      · have := List.mem_singleton.mp ho; omega) (by simp only [List.length_append, xl, List.length_singleton]; omega)
    rw [if_pos c, if_pos c] at key
    rw [key] at r4
    refine ⟨M4, st _ (ev_E_writeNew_8 ?_), r4, ((F1.tr f2).tr (F3.up (fun a j q => p567_Ed q))).tr (f4.up (fun a j q => p567_Ed q))⟩
    rw [P1.2.2.2.1, zI_sub, if_neg (fun q => by rw [zI_lt ⟨by omega, by omega⟩ ⟨by omega, by omega⟩] at q; omega), if_pos (by rw [c])]
    refine ⟨okF_W W1 rfl, okO_W W1 rfl, _, _, el, ev_E_writeNew_47 ⟨okO_W W1 rfl, _, e2, ev_E_writeNew_50 ?_⟩⟩
    rw [Q2.2.2.2.1]
    refine ⟨okF_W r2.1 rfl, okF_W r2.1 rfl, okO_W r2.1 rfl, _, e3, ev_E_writeNew_65 (ev_E_writeNew_78 ⟨okF_W F3.1 rfl, ?_⟩)⟩
    rw [q3.2.1, zI_sub]
    exact e4
  · obtain ⟨M2, e2, r2, f2⟩ := e_E_writeElement (G := G) (d := d) g1 hls Q1 hq (by omega)
    have q2 := g2.kx f2 (fun a j q => by unfold p567 at q; omega)
    have el' : (elm (P.getD (P.length - 1) []) Q).length = (P.getD (P.length - 1) []).length + 2 + (Q.length - 1) := by unfold elm; simp only [List.length_append, List.length_cons, List.length_drop]; omega
    obtain ⟨M4, e4, r4, f4⟩ := wcl_l (G := G) (d := d + 2) (x2 := zI (k : Int)) (x3 := zI op) _ _ M2 r2 q2.2.2 q2.1 (fun o ho => by rw [List.length_append]; have := o4 o ho; omega) (by rw [List.length_append, el', o3]; omega)
    rw [if_neg c, if_neg c] at key
    rw [key] at r4
    refine ⟨M4, st _ (ev_E_writeNew_8 ?_), r4, (F1.tr (f2.up (fun a j q => p567_Ed q))).tr (f4.up (fun a j q => p567_Ed q))⟩
    rw [P1.2.2.2.1, zI_sub, if_neg (fun q => by rw [zI_lt ⟨by omega, by omega⟩ ⟨by omega, by omega⟩] at q; omega), if_neg (zI_ne ⟨by omega, by omega⟩ ⟨by omega, by omega⟩ c)]
    refine ⟨okF_W W1 rfl, okO_W W1 rfl, _, _, el, ev_E_writeNew_73 ⟨okO_W W1 rfl, _, e2, ev_E_writeNew_78 ⟨okF_W r2.1 rfl, ?_⟩⟩⟩
    rw [q2.2.1, zI_sub]
    exact e4
end WRITE
