/-! WHICH CONDITION USES AN INDEX -/
def suits (f t : Int) : Prop := (f = 0 ∧ (t = 1 ∨ t = 2 ∨ t = 5)) ∨ ((2 ≤ f ∧ f ≤ 5) ∧ (t = 1 ∨ t = 2))
def usesC (I : Nat → List (List Int)) (x : Cn) : Prop := suits x.2.1 (by_ x.2.2 0) ∧ (I 0 = x.1 ∨ I 1 = x.1)
/-- a proposition as a truth value -/
noncomputable def dcd (p : Prop) : Bool := @decide p (Classical.propDecidable p)
theorem dcd_t {p : Prop} (h : p) : dcd p = true := @decide_eq_true p (Classical.propDecidable p) h
theorem dcd_f {p : Prop} (h : ¬ p) : ¬ dcd p = true := fun q => h (@of_decide_eq_true p (Classical.propDecidable p) q)
/-- the first of the m conditions from c on that uses an index -/
noncomputable def ldG (I : Nat → List (List Int)) (C : List Cn) : Nat → Nat → Int
  | 0, _ => -1
  | m + 1, c => if dcd (usesC I (cD C c)) = true then (c : Int) else ldG I C m (c + 1)
noncomputable def ldr (S : St_) : Int := ldG S.ix S.cnd S.cnd.length 0
theorem ldG_rg {I : Nat → List (List Int)} {C : List Cn} : ∀ (m c : Nat), ldG I C m c = -1 ∨ ((c : Int) ≤ ldG I C m c ∧ ldG I C m c < (c : Int) + (m : Int))
  | 0, c => Or.inl rfl
  | m + 1, c => by
    unfold ldG
    split
    · exact Or.inr ⟨Int.le_refl _, by omega⟩
    · rcases ldG_rg (I := I) (C := C) m (c + 1) with h | h
      · exact Or.inl h
      · exact Or.inr ⟨by omega, by omega⟩
theorem ldr_rg {S : St_} : ldr S = -1 ∨ (0 ≤ ldr S ∧ ldr S < (S.cnd.length : Int)) := by
  rcases ldG_rg (I := S.ix) (C := S.cnd) S.cnd.length 0 with h | h
  · exact Or.inl h
  · exact Or.inr ⟨h.1, by have := h.2; unfold ldr; omega⟩
theorem pth_eq {P Q : List (List Int)} (hP : ∀ ls ∈ P, isN ls) (hQ : ∀ ls ∈ Q, isN ls) : P = Q ↔ P.length = Q.length ∧ ∀ i, i < P.length → pk (P.getD i []) = pk (Q.getD i []) := by
  constructor
  · rintro rfl
    exact ⟨rfl, fun _ _ => rfl⟩
  · rintro ⟨h1, h2⟩
    apply List.ext_getElem h1
    intro i hi hi'
    have := h2 i hi
    rw [List.getD_eq_getElem?_getD, List.getElem?_eq_getElem hi, Option.getD_some, List.getD_eq_getElem?_getD, List.getElem?_eq_getElem hi', Option.getD_some] at this
    exact pk_inj (hP _ (List.getElem_mem hi)).2.2 (hQ _ (List.getElem_mem hi')).2.2 this
theorem getN {P : List (List Int)} {i : Nat} (h : ∀ ls ∈ P, isN ls) (hi : i < P.length) : isN (P.getD i []) := by
  rw [List.getD_eq_getElem?_getD, List.getElem?_eq_getElem hi]
  exact h _ (List.getElem_mem hi)
section USES
variable {G : Nat × (Nat → Int32)} {d : Nat} {S : St_} {M : Mm_}
theorem same_l {a b : Nat} {P Q : List (List Int)} (hW : WM M) (hP : pthIs M a P) (hQ : pthIs M b Q) (hl : P.length = Q.length) : ∀ (m k : Nat), k + m = P.length → ∃ x, EvC G d m_H_isSame 15 [some (.ref a), some (.ref b), some (.int (zI (k : Int)))] [] M (some (.int x), M) ∧ b01 (∀ i, k ≤ i → i < P.length → pk (P.getD i []) = pk (Q.getD i [])) x
  | 0, k, hk => by
    obtain ⟨p1, p2, p3, p4, p5, p6⟩ := hP
    refine ⟨zI 1, ev_H_isSame_15 ?_, b01_t (fun i h1 h2 => by omega)⟩
    rw [p4, if_neg (fun q => by rw [zI_lt ⟨by omega, by omega⟩ ⟨by omega, by omega⟩] at q; omega)]
    exact ⟨okF_W hW p1, rfl⟩
  | m + 1, k, hk => by
    obtain ⟨x, e, w⟩ := same_l hW hP hQ hl m (k + 1) (by omega)
    obtain ⟨p1, p2, p3, p4, p5, p6⟩ := hP
    obtain ⟨q1, q2, q3, q4, q5, q6⟩ := hQ
    have r1 := pk_rg (getN p6 (show k < P.length by omega))
    have r2 := pk_rg (getN q6 (show k < Q.length by omega))
    have pre : ∀ y, (if zI (pk (P.getD k [])) = zI (pk (Q.getD k [])) then EvC G d m_H_isSame 15 [some (.ref a), some (.ref b), some (.int (zI (k : Int) + zI 1))] [] M (some (.int y), M) else (some (.int y), M) = ((some (.int (zI 0)), M) : Out_)) → EvC G d m_H_isSame 15 [some (.ref a), some (.ref b), some (.int (zI (k : Int)))] [] M (some (.int y), M) := fun y hy => by
      refine ev_H_isSame_15 ?_
      rw [p4, if_pos ((zI_lt ⟨by omega, by omega⟩ ⟨by omega, by omega⟩).mpr (by omega)), zI_nat (show k < 2147483648 by omega), p5 k (by omega), q5 k (by omega)]
      exact ⟨okF_W hW p1, okF_W hW p1, okA_z hW p2 (by omega) (by omega), okF_W hW q1, okA_z hW q2 (by omega) (by omega), hy⟩
    by_cases c : pk (P.getD k []) = pk (Q.getD k [])
    · refine ⟨x, pre _ ?_, b01_iff w ⟨fun hh i h1 h2 => ?_, fun hh i h1 h2 => hh i (by omega) h2⟩⟩
      · rw [if_pos (by rw [c]), zI_add, show (k : Int) + 1 = ((k + 1 : Nat) : Int) by omega]
        exact e
      · rcases Nat.lt_or_ge k i with h4 | h4
        · exact hh i (by omega) h2
        · have : i = k := by omega
          subst this
          exact c
    · refine ⟨zI 0, pre _ ?_, b01_f (fun hh => c (hh k (Nat.le_refl _) (by omega)))⟩
      rw [if_neg (zI_ne ⟨by omega, by omega⟩ ⟨by omega, by omega⟩ c)]
theorem e_H_isSame {a b : Nat} {P Q : List (List Int)} (hW : WM M) (hP : pthIs M a P) (hQ : pthIs M b Q) : ∃ x, Ev G d 59 [.ref a, .ref b] M (some (.int x), M) ∧ b01 (P = Q) x := by
  have h3 := hP.2.2.1
  have h3' := hQ.2.2.1
  have key := pth_eq hP.2.2.2.2.2 hQ.2.2.2.2.2
  by_cases c : P.length = Q.length
  · obtain ⟨x, e, w⟩ := same_l (G := G) (d := d) hW hP hQ c P.length 0 (Nat.zero_add _)
    refine ⟨x, ev_of (q := mt_H_isSame) rfl (ev_H_isSame_0 ?_), b01_iff w ⟨fun hh => key.mpr ⟨c, fun i hi => hh i (Nat.zero_le _) hi⟩, fun hh i _ hi => (key.mp hh).2 i hi⟩⟩
    rw [hP.2.2.2.1, hQ.2.2.2.1, if_pos (by rw [c])]
    exact ⟨okF_W hW hP.1, okF_W hW hQ.1, e⟩
  · refine ⟨zI 0, ev_of (q := mt_H_isSame) rfl (ev_H_isSame_0 ?_), b01_f (fun hh => c (key.mp hh).1)⟩
    rw [hP.2.2.2.1, hQ.2.2.2.1, if_neg (zI_ne ⟨by omega, by omega⟩ ⟨by omega, by omega⟩ (by omega))]
    exact ⟨okF_W hW hP.1, okF_W hW hQ.1, rfl⟩
theorem e_P_hasIndex {a : Nat} {P : List (List Int)} (h : RepC M S) (hP : pthIs M a P) : ∃ x, Ev G (d + 1) 58 [.ref 0, .ref a] M (some (.int x), M) ∧ b01 (S.ix 0 = P ∨ S.ix 1 = P) x := by
  have hW := h.1
  obtain ⟨y0, w0⟩ := h.2.2.2.2.1 0 (by omega)
  obtain ⟨y1, w1⟩ := h.2.2.2.2.1 1 (by omega)
  obtain ⟨x0, e0, b0⟩ := e_H_isSame (G := G) (d := d) hW w0 hP
  obtain ⟨x1, e1, b1⟩ := e_H_isSame (G := G) (d := d) hW w1 hP
  have s : ∀ (i : Nat) (r : Out_), i < 2 → (∃ x', Ev G d 59 [.ref (72 + 2 * i), .ref a] M (some (.int x'), M) ∧ EvC G (d + 1) m_P_hasIndex 17 [some (.ref 0), some (.ref a), some (.int (zI (i : Int)))] [.int x'] M r) → EvC G (d + 1) m_P_hasIndex 2 [some (.ref 0), some (.ref a), some (.int (zI (i : Int)))] [] M r := fun i r hi hr => by
    obtain ⟨x', r1, r2⟩ := hr
    refine ev_P_hasIndex_2 ?_
    obtain ⟨y, w⟩ := h.2.2.2.2.1 i hi
    rw [if_pos ((zI_lt ⟨by omega, by omega⟩ ⟨by omega, by omega⟩).mpr (by omega)), zI_nat (show i < 2147483648 by omega), show M.2.2 (0 + 40) i = some (72 + 2 * i) from y, Option.getD_some]
    exact ⟨okF_W hW rfl, okQ_40 hW hi, rfl, okO_W hW w.1, _, _, r1, r2⟩
  have fin : EvC G (d + 1) m_P_hasIndex 2 [some (.ref 0), some (.ref a), some (.int (zI ((2 : Nat) : Int)))] [] M (some (.int (zI 0)), M) := by
    refine ev_P_hasIndex_2 ?_
    rw [if_neg (fun q => by rw [zI_lt ⟨by omega, by omega⟩ ⟨by omega, by omega⟩] at q; omega)]
  have st : ∀ y, EvC G (d + 1) m_P_hasIndex 2 [some (.ref 0), some (.ref a), some (.int (zI ((0 : Nat) : Int)))] [] M (some (.int y), M) → Ev G (d + 1) 58 [.ref 0, .ref a] M (some (.int y), M) := fun y hy => ev_of (q := mt_P_hasIndex) rfl (ev_P_hasIndex_0 hy)
  rcases b0 with ⟨c0, r0⟩ | ⟨c0, r0⟩
  · refine ⟨zI 1, st _ (s 0 _ (by omega) ⟨x0, e0, ev_P_hasIndex_17 ?_⟩), b01_t (Or.inl c0)⟩
    rw [r0, zI_0, if_neg z10]
  · rcases b1 with ⟨c1, r1⟩ | ⟨c1, r1⟩
    · refine ⟨zI 1, st _ (s 0 _ (by omega) ⟨x0, e0, ev_P_hasIndex_17 ?_⟩), b01_t (Or.inr c1)⟩
      rw [r0, zI_0, if_pos rfl, zI_add]
      refine s 1 _ (by omega) ⟨x1, e1, ev_P_hasIndex_17 ?_⟩
      rw [r1, zI_0, if_neg z10]
    · refine ⟨zI 0, st _ (s 0 _ (by omega) ⟨x0, e0, ev_P_hasIndex_17 ?_⟩), b01_f (fun q => q.elim (fun q => c0 q) (fun q => c1 q))⟩
      rw [r0, zI_0, if_pos rfl, zI_add]
      refine s 1 _ (by omega) ⟨x1, e1, ev_P_hasIndex_17 ?_⟩
      rw [r1, zI_0, if_pos rfl, zI_add]
      exact fin
theorem e_C_suitsIndex {a : Nat} {P : List (List Int)} {f : Int} {Q : List Int} (hW : WM M) (h : cnIs M a P f Q) : ∃ x, Ev G (d + 1) 57 [.ref a] M (some (.int x), M) ∧ b01 (suits f (by_ Q 0)) x := by
  obtain ⟨c1, c2, c3, c4, c5, c6, c7⟩ := h
  have q1 := c6.2.1
  have q2 := c6.2.2.1
  have rf : rg f := ⟨by omega, by omega⟩
  have rq : rg (by_ Q 0) := ⟨by omega, by omega⟩
  have n : ∀ v : Int, rg v → (¬ by_ Q 0 = v) → ¬ zI (by_ Q 0) = zI v := fun v hv hn => zI_ne rq hv hn
  have pre : ∀ y, (if zI f = zI 0 then (if zI (by_ Q 0) = (zI 1) then ((some (.int y), M) = ((some (.int (zI 1)), M) : Out_)) else (if zI (by_ Q 0) = (zI 2) then ((some (.int y), M) = ((some (.int (zI 1)), M) : Out_)) else (if zI (by_ Q 0) = (zI 5) then ((some (.int y), M) = ((some (.int (zI 1)), M) : Out_)) else ((some (.int y), M) = ((some (.int (zI 0)), M) : Out_))))) else (if zI f < (zI 2) then ((some (.int y), M) = ((some (.int (zI 0)), M) : Out_)) else (if (zI 5) < zI f then ((some (.int y), M) = ((some (.int (zI 0)), M) : Out_)) else (if zI (by_ Q 0) = (zI 1) then ((some (.int y), M) = ((some (.int (zI 1)), M) : Out_)) else (if zI (by_ Q 0) = (zI 2) then ((some (.int y), M) = ((some (.int (zI 1)), M) : Out_)) else ((some (.int y), M) = ((some (.int (zI 0)), M) : Out_))))))) → Ev G (d + 1) 57 [.ref a] M (some (.int y), M) := fun y hy => by
    refine ev_of (q := mt_C_suitsIndex) rfl (ev_C_suitsIndex_0 ⟨okF_W hW c1, okO_W hW c3.1, _, _, e_R_cell' (p := 0) hW c3 (by omega), ev_C_suitsIndex_8 ?_⟩)
    rw [c4, zI_0]
    refine ⟨okF_W hW c1, ?_⟩
    by_cases f0 : zI f = zI 0
    · rw [if_pos f0]; rw [if_pos f0] at hy; exact hy
    · rw [if_neg f0]; rw [if_neg f0] at hy
      refine ⟨okF_W hW c1, ?_⟩
      by_cases f2 : zI f < zI 2
      · rw [if_pos f2]; rw [if_pos f2] at hy; exact hy
      · rw [if_neg f2]; rw [if_neg f2] at hy
        exact ⟨okF_W hW c1, hy⟩
  have yes : (if zI f = zI 0 then (if zI (by_ Q 0) = (zI 1) then True else (if zI (by_ Q 0) = (zI 2) then True else (if zI (by_ Q 0) = (zI 5) then True else False))) else False) → True := fun _ => trivial
  by_cases f0 : f = 0
  · by_cases t1 : by_ Q 0 = 1
    · exact ⟨zI 1, pre _ (by rw [if_pos (by rw [f0]), if_pos (by rw [t1])]), b01_t (Or.inl ⟨f0, Or.inl t1⟩)⟩
    · by_cases t2 : by_ Q 0 = 2
      · exact ⟨zI 1, pre _ (by rw [if_pos (by rw [f0]), if_neg (n 1 ⟨by omega, by omega⟩ t1), if_pos (by rw [t2])]), b01_t (Or.inl ⟨f0, Or.inr (Or.inl t2)⟩)⟩
      · by_cases t5 : by_ Q 0 = 5
        · exact ⟨zI 1, pre _ (by rw [if_pos (by rw [f0]), if_neg (n 1 ⟨by omega, by omega⟩ t1), if_neg (n 2 ⟨by omega, by omega⟩ t2), if_pos (by rw [t5])]), b01_t (Or.inl ⟨f0, Or.inr (Or.inr t5)⟩)⟩
        · exact ⟨zI 0, pre _ (by rw [if_pos (by rw [f0]), if_neg (n 1 ⟨by omega, by omega⟩ t1), if_neg (n 2 ⟨by omega, by omega⟩ t2), if_neg (n 5 ⟨by omega, by omega⟩ t5)]), b01_f (by unfold suits; omega)⟩
  · have nf := zI_ne rf (show rg 0 from ⟨by omega, by omega⟩) f0
    by_cases f2 : f < 2
    · exact ⟨zI 0, pre _ (by rw [if_neg nf, if_pos ((zI_lt rf ⟨by omega, by omega⟩).mpr f2)]), b01_f (by unfold suits; omega)⟩
    · have n2 : ¬ zI f < zI 2 := fun q => f2 ((zI_lt rf ⟨by omega, by omega⟩).mp q)
      by_cases f5 : 5 < f
      · exact ⟨zI 0, pre _ (by rw [if_neg nf, if_neg n2, if_pos ((zI_lt ⟨by omega, by omega⟩ rf).mpr f5)]), b01_f (by unfold suits; omega)⟩
      · have n5 : ¬ zI 5 < zI f := fun q => f5 ((zI_lt ⟨by omega, by omega⟩ rf).mp q)
        by_cases t1 : by_ Q 0 = 1
        · exact ⟨zI 1, pre _ (by rw [if_neg nf, if_neg n2, if_neg n5, if_pos (by rw [t1])]), b01_t (by unfold suits; omega)⟩
        · by_cases t2 : by_ Q 0 = 2
          · exact ⟨zI 1, pre _ (by rw [if_neg nf, if_neg n2, if_neg n5, if_neg (n 1 ⟨by omega, by omega⟩ t1), if_pos (by rw [t2])]), b01_t (by unfold suits; omega)⟩
          · exact ⟨zI 0, pre _ (by rw [if_neg nf, if_neg n2, if_neg n5, if_neg (n 1 ⟨by omega, by omega⟩ t1), if_neg (n 2 ⟨by omega, by omega⟩ t2)]), b01_f (by unfold suits; omega)⟩
theorem lead_l (h : RepC M S) : ∀ (m c : Nat), c + m = S.cnd.length → EvC G (d + 2) m_P_leadingCondition 2 [some (.ref 0), some (.int (zI (c : Int)))] [] M (some (.int (zI (ldG S.ix S.cnd m c))), M)
  | 0, c, hc => by
    obtain ⟨k1, k2, k3, k4⟩ := h.2.2.2.2.2.1
    refine ev_P_leadingCondition_2 ?_
    rw [k2, if_neg (fun q => by rw [zI_lt ⟨by omega, by omega⟩ ⟨by omega, by omega⟩] at q; omega)]
    exact ⟨okF_W h.1 rfl, rfl⟩
  | m + 1, c, hc => by
    have hW := h.1
    obtain ⟨k1, k2, k3, k4⟩ := h.2.2.2.2.2.1
    have kc := k4 c (by omega)
    obtain ⟨x, e, w⟩ := e_C_suitsIndex (G := G) (d := d) hW kc
    obtain ⟨y, e', w'⟩ := e_P_hasIndex (G := G) (d := d) h kc.2.1
    have ih := lead_l h m (c + 1) (by omega)
    have ec : zI (c : Int) + zI 1 = zI ((c + 1 : Nat) : Int) := by rw [zI_add, show (c : Int) + 1 = ((c + 1 : Nat) : Int) by omega]
    have g41 : M.2.2 (0 + 41) c = some (76 + 5 * c) := k3 c (by omega)
    unfold ldG
    refine ev_P_leadingCondition_2 ?_
    rw [k2, if_pos ((zI_lt ⟨by omega, by omega⟩ ⟨by omega, by omega⟩).mpr (by omega)), zI_nat (show c < 2147483648 by omega), g41, Option.getD_some]
    refine ⟨okF_W hW rfl, okF_W hW rfl, okQ_41 hW (by omega), rfl, okO_W hW kc.1, _, _, e, ev_P_leadingCondition_19 ?_⟩
    rcases w with ⟨w1, w2⟩ | ⟨w1, w2⟩
    · rw [w2, zI_0, if_neg z10, zI_nat (show c < 2147483648 by omega), g41, Option.getD_some]
      refine ⟨okF_W hW rfl, okQ_41 hW (by omega), rfl, okF_W hW kc.1, okO_W hW rfl, _, _, e', ev_P_leadingCondition_35 ?_⟩
      rcases w' with ⟨v1, v2⟩ | ⟨v1, v2⟩
      · rw [v2, zI_0, if_neg z10, if_pos (dcd_t (show usesC S.ix (cD S.cnd c) from ⟨w1, v1⟩))]
      · rw [v2, zI_0, if_pos rfl, ec, if_neg (dcd_f (show ¬ usesC S.ix (cD S.cnd c) from fun q => v1 q.2))]
        exact ih
    · rw [w2, zI_0, if_pos rfl, ec, if_neg (dcd_f (show ¬ usesC S.ix (cD S.cnd c) from fun q => w1 q.1))]
      exact ih
theorem e_P_leadingCondition (h : RepC M S) : Ev G (d + 2) 56 [.ref 0] M (some (.int (zI (ldr S))), M) := ev_of (q := mt_P_leadingCondition) rfl (ev_P_leadingCondition_0 (lead_l h S.cnd.length 0 (Nat.zero_add _)))
/-! the reference -/
theorem spa_l {a b : Nat} {P Q : List (List Int)} (hW : WM M) (ha : a < 6) (hb : b < 6) (hP : mPth M a P) (hQ : mPth M b Q) (hl : P.length = Q.length) : ∀ (m k : Nat) (s : Int), k + m = 4 * P.length → (s = 0 ∨ s = 1) → ∃ x, EvC G d m_M_samePath 24 [some (.ref 91), some (.int (zI (a : Int))), some (.int (zI (b : Int))), some (.int (zI s)), some (.int (zI (k : Int)))] [] M (some (.int x), M) ∧ b01 (s = 1 ∧ ∀ i, k ≤ i → i < 4 * P.length → (P.getD (i / 4) []).getD (i % 4) 0 = (Q.getD (i / 4) []).getD (i % 4) 0) x
  | 0, k, s, hk, hs => by
    obtain ⟨p1, p2, p3, p4⟩ := hP
    refine ⟨zI s, ev_M_samePath_24 ?_, ?_⟩
    · rw [zI_nat (show a < 2147483648 by omega), show M.2.1 (91 + 4) a = zI (P.length : Int) from p2, zI_mul, if_neg (fun q => by rw [zI_lt ⟨by omega, by omega⟩ ⟨by omega, by omega⟩] at q; omega)]
      exact ⟨okF_W hW rfl, okA_z hW (show sg0[91 + 4]? = some (.inr (0, 6)) from rfl) (by omega) (by omega), bit_z hs, rfl⟩
    · rcases hs with rfl | rfl
      · exact b01_f (fun q => absurd q.1 (by decide))
      · exact b01_t ⟨rfl, fun i h1 h2 => by omega⟩
  | m + 1, k, s, hk, hs => by
    have hP' := hP
    have hQ' := hQ
    obtain ⟨p1, p2, p3, p4⟩ := hP
    obtain ⟨q1, q2, q3, q4⟩ := hQ
    have a4 : am_okA M (91 + 4) 0 (zI (a : Int)) = true := okA_z hW (show sg0[91 + 4]? = some (.inr (0, 6)) from rfl) (by omega) (by omega)
    rcases hs with rfl | rfl
    · refine ⟨zI 0, ev_M_samePath_24 ?_, b01_f (fun q => absurd q.1 (by decide))⟩
      rw [zI_nat (show a < 2147483648 by omega), show M.2.1 (91 + 4) a = zI (P.length : Int) from p2, zI_mul, if_pos ((zI_lt ⟨by omega, by omega⟩ ⟨by omega, by omega⟩).mpr (by omega)), zI_0, if_pos rfl]
      exact ⟨okF_W hW rfl, a4, by decide +kernel, rfl⟩
    · have ea : zI 12 * zI (a : Int) + zI (k : Int) = zI (((12 * a : Nat) : Int) + (k : Int)) := by rw [zI_mul, zI_add, show (12 : Int) * (a : Int) = ((12 * a : Nat) : Int) by omega]
      have eb : zI 12 * zI (b : Int) + zI (k : Int) = zI (((12 * b : Nat) : Int) + (k : Int)) := by rw [zI_mul, zI_add, show (12 : Int) * (b : Int) = ((12 * b : Nat) : Int) by omega]
      have ek : zI (k : Int) + zI 1 = zI ((k + 1 : Nat) : Int) := by rw [zI_add, show (k : Int) + 1 = ((k + 1 : Nat) : Int) by omega]
      have va : M.2.1 (91 + 5) (12 * a + k) = zI ((P.getD (k / 4) []).getD (k % 4) 0) := by
        have := p3 (k / 4) (by omega) (k % 4) (by omega)
        rw [show 12 * a + k = 12 * a + 4 * (k / 4) + k % 4 by omega]
        exact this
      have vb : M.2.1 (91 + 5) (12 * b + k) = zI ((Q.getD (k / 4) []).getD (k % 4) 0) := by
        have := q3 (k / 4) (by omega) (k % 4) (by omega)
        rw [show 12 * b + k = 12 * b + 4 * (k / 4) + k % 4 by omega]
        exact this
      have lr : ∀ ls : List Int, isN ls → ∀ j : Nat, rg (ls.getD j 0) := fun ls hls j => by
        rw [List.getD_eq_getElem?_getD]
        cases e : ls[j]? with
        | none => exact ⟨by decide, by decide⟩
        | some y =>
          have := hls.2.2 y (List.mem_of_getElem? e)
          exact ⟨by rw [Option.getD_some]; omega, by rw [Option.getD_some]; omega⟩
      have r1 := lr _ (getN p4 (show k / 4 < P.length by omega)) (k % 4)
      have r2 := lr _ (getN q4 (show k / 4 < Q.length by omega)) (k % 4)
      have pre : ∀ y, (if zI ((P.getD (k / 4) []).getD (k % 4) 0) = zI ((Q.getD (k / 4) []).getD (k % 4) 0) then EvC G d m_M_samePath 24 [some (.ref 91), some (.int (zI (a : Int))), some (.int (zI (b : Int))), some (.int (zI 1)), some (.int (zI ((k + 1 : Nat) : Int)))] [] M (some (.int y), M) else EvC G d m_M_samePath 24 [some (.ref 91), some (.int (zI (a : Int))), some (.int (zI (b : Int))), some (.int (zI 0)), some (.int (zI ((k + 1 : Nat) : Int)))] [] M (some (.int y), M)) → EvC G d m_M_samePath 24 [some (.ref 91), some (.int (zI (a : Int))), some (.int (zI (b : Int))), some (.int (zI 1)), some (.int (zI (k : Int)))] [] M (some (.int y), M) := fun y hy => by
        refine ev_M_samePath_24 ?_
        rw [zI_nat (show a < 2147483648 by omega), show M.2.1 (91 + 4) a = zI (P.length : Int) from p2, zI_mul, if_pos ((zI_lt ⟨by omega, by omega⟩ ⟨by omega, by omega⟩).mpr (by omega)), zI_0, if_neg z10, ea, eb, cl2 (by omega), cl2 (by omega), va, vb, ek]
        exact ⟨okF_W hW rfl, a4, okF_W hW rfl, okA_W hW (show sg0[91 + 5]? = some (.inr (0, 72)) from rfl) (zI_in (by omega) (by omega) (by omega)), okF_W hW rfl, okA_W hW (show sg0[91 + 5]? = some (.inr (0, 72)) from rfl) (zI_in (by omega) (by omega) (by omega)), hy⟩
      by_cases c : (P.getD (k / 4) []).getD (k % 4) 0 = (Q.getD (k / 4) []).getD (k % 4) 0
      · obtain ⟨x, e, w⟩ := spa_l hW ha hb hP' hQ' hl m (k + 1) 1 (by omega) (Or.inr rfl)
        refine ⟨x, pre _ ?_, b01_iff w ⟨fun hh => ⟨rfl, fun i h1 h2 => ?_⟩, fun hh => ⟨rfl, fun i h1 h2 => hh.2 i (by omega) h2⟩⟩⟩
        · rw [if_pos (by rw [c])]; exact e
        · rcases Nat.lt_or_ge k i with h4 | h4
          · exact hh.2 i (by omega) h2
          · have : i = k := by omega
            subst this
            exact c
      · obtain ⟨x, e, w⟩ := spa_l hW ha hb hP' hQ' hl m (k + 1) 0 (by omega) (Or.inl rfl)
        refine ⟨x, pre _ ?_, b01_iff w ⟨fun hh => absurd hh.1 (by decide), fun hh => absurd (hh.2 k (Nat.le_refl _) (by omega)) c⟩⟩
        rw [if_neg (zI_ne r1 r2 c)]
        exact e
theorem spa_0 {a b : Nat} {P : List (List Int)} (hW : WM M) (ha : a < 6) (hP : mPth M a P) {k : Nat} (hk : k < 1000) : EvC G d m_M_samePath 24 [some (.ref 91), some (.int (zI (a : Int))), some (.int (zI (b : Int))), some (.int (zI 0)), some (.int (zI (k : Int)))] [] M (some (.int (zI 0)), M) := by
  obtain ⟨p1, p2, p3, p4⟩ := hP
  refine ev_M_samePath_24 ?_
  rw [zI_nat (show a < 2147483648 by omega), show M.2.1 (91 + 4) a = zI (P.length : Int) from p2, zI_mul, zI_0, if_pos rfl]
  refine ⟨okF_W hW rfl, okA_z hW (show sg0[91 + 4]? = some (.inr (0, 6)) from rfl) (by omega) (by omega), ?_⟩
  split <;> exact ⟨by decide +kernel, rfl⟩
theorem e_M_samePath {a b : Nat} {P Q : List (List Int)} (hW : WM M) (ha : a < 6) (hb : b < 6) (hP : mPth M a P) (hQ : mPth M b Q) : ∃ x, Ev G d 127 [.ref 91, .int (zI (a : Int)), .int (zI (b : Int))] M (some (.int x), M) ∧ b01 (P = Q) x := by
  have key := pth_eq hP.2.2.2 hQ.2.2.2
  have l1 := hP.1
  have l2 := hQ.1
  have pre : ∀ y, (if zI (P.length : Int) = zI (Q.length : Int) then EvC G d m_M_samePath 24 [some (.ref 91), some (.int (zI (a : Int))), some (.int (zI (b : Int))), some (.int (zI 1)), some (.int (zI 0))] [] M (some (.int y), M) else EvC G d m_M_samePath 24 [some (.ref 91), some (.int (zI (a : Int))), some (.int (zI (b : Int))), some (.int (zI 0)), some (.int (zI 0))] [] M (some (.int y), M)) → Ev G d 127 [.ref 91, .int (zI (a : Int)), .int (zI (b : Int))] M (some (.int y), M) := fun y hy => by
    refine ev_of (q := mt_M_samePath) rfl (ev_M_samePath_0 ?_)
    rw [zI_nat (show a < 2147483648 by omega), zI_nat (show b < 2147483648 by omega), show M.2.1 (91 + 4) a = _ from hP.2.1, show M.2.1 (91 + 4) b = _ from hQ.2.1]
    exact ⟨okF_W hW rfl, okA_z hW (show sg0[91 + 4]? = some (.inr (0, 6)) from rfl) (by omega) (by omega), okF_W hW rfl, okA_z hW (show sg0[91 + 4]? = some (.inr (0, 6)) from rfl) (by omega) (by omega), hy⟩
  by_cases c : P.length = Q.length
  · obtain ⟨x, e, w⟩ := spa_l (G := G) (d := d) hW ha hb hP hQ c (4 * P.length) 0 1 (Nat.zero_add _) (Or.inr rfl)
    refine ⟨x, pre _ (by rw [if_pos (by rw [c])]; exact e), b01_iff w ⟨fun hh => key.mpr ⟨c, fun i hi => ?_⟩, fun hh => ⟨rfl, fun i _ hi => by rw [hh]⟩⟩⟩
    refine (ls_same (getN hQ.2.2.2 (show i < Q.length by omega)) (getN hP.2.2.2 hi)).mp (fun k hk => ?_)
    have := hh.2 (4 * i + k) (Nat.zero_le _) (by omega)
    rw [show (4 * i + k) / 4 = i by omega, show (4 * i + k) % 4 = k by omega] at this
    exact this.symm
  · refine ⟨zI 0, pre _ ?_, b01_f (fun hh => c (key.mp hh).1)⟩
    rw [if_neg (zI_ne ⟨by omega, by omega⟩ ⟨by omega, by omega⟩ (by omega))]
    exact spa_0 (k := 0) hW ha hP (by omega)
theorem e_M_uses {c : Nat} (h : RepM M S) (hc : c < S.cnd.length) : ∃ x, Ev G (d + 1) 126 [.ref 91, .int (zI (c : Int))] M (some (.int x), M) ∧ b01 (usesC S.ix (cD S.cnd c)) x := by
  have hW := h.1
  obtain ⟨k1, k2, k3⟩ := h.2.2.2.2.2.1
  obtain ⟨c1, c2, c3, c4, c5, c6, c7, c8⟩ := k3 c hc
  have hq0 : 0 < (cD S.cnd c).2.2.length := by_lt (by have := c5.2.1; omega)
  have i0 := mI c2 hq0
  have o0 := mOk c2 hq0
  rw [← zI_o0] at i0 o0
  have q1 := c5.2.1
  have q2 := c5.2.2.1
  have eq : (zI 1120) + ((zI 96) * (zI (c : Int))) = zI ((1120 + 96 * c : Nat) : Int) := by rw [zI_mul, zI_add, show (1120 : Int) + 96 * (c : Int) = ((1120 + 96 * c : Nat) : Int) by omega]
  have e3 : zI 3 + zI (c : Int) = zI ((3 + c : Nat) : Int) := by rw [zI_add, show (3 : Int) + (c : Int) = ((3 + c : Nat) : Int) by omega]
  have z0 : (zI 0).toNatClampNeg = 0 := by decide +kernel
  have z1 : (zI 1).toNatClampNeg = 1 := by decide +kernel
  have m0 := h.2.2.2.2.1 0 (by omega)
  have m1 := h.2.2.2.2.1 1 (by omega)
  have l0 := m0.1
  have l1 := m1.1
  obtain ⟨x0, e0, b0⟩ := e_M_samePath (G := G) (d := d) hW (by omega) (show 3 + c < 6 by omega) m0 c1
  obtain ⟨x1, e1, b1⟩ := e_M_samePath (G := G) (d := d) hW (by omega) (show 3 + c < 6 by omega) m1 c1
  have rf : rg (cD S.cnd c).2.1 := ⟨by omega, by omega⟩
  have f' : M.2.1 (91 + 6) c = zI (cD S.cnd c).2.1 := c3
  have a6 : am_okA M (91 + 6) 0 (zI (c : Int)) = true := okA_z hW (show sg0[91 + 6]? = some (.inr (0, 3)) from rfl) (by omega) (by omega)
  have rt : rg (by_ (cD S.cnd c).2.2 0) := ⟨by omega, by omega⟩
  -- the end, once the path is known
  have fin : ∀ (z : Int) (u3 : Option Value), (z = 0 ∨ z = 1) → ∃ x, EvC G (d + 1) m_M_uses 59 [some (.ref 91), some (.int (zI (c : Int))), some (.int (zI (by_ (cD S.cnd c).2.2 0))), u3] [.int (zI z)] M (some (.int x), M) ∧ b01 (suits (cD S.cnd c).2.1 (by_ (cD S.cnd c).2.2 0) ∧ z = 1) x := fun z u3 hz => by
    rcases hz with rfl | rfl
    · refine ⟨zI 0, ev_M_uses_59 ?_, b01_f (fun q => absurd q.2 (by decide))⟩
      rw [zI_0, if_pos rfl]
    · have s87 : ¬ (2 ≤ (cD S.cnd c).2.1 ∧ (cD S.cnd c).2.1 ≤ 5 ∧ (by_ (cD S.cnd c).2.2 0 = 1 ∨ by_ (cD S.cnd c).2.2 0 = 2)) → ∃ x, EvC G (d + 1) m_M_uses 87 [some (.ref 91), some (.int (zI (c : Int))), some (.int (zI (by_ (cD S.cnd c).2.2 0))), some (.int (zI 1))] [] M (some (.int x), M) ∧ b01 (suits (cD S.cnd c).2.1 (by_ (cD S.cnd c).2.2 0) ∧ (1 : Int) = 1) x := fun hn => by
        have pre : ∀ y, (if zI (cD S.cnd c).2.1 = zI 0 then (∃ x', Ev G d 87 [.int (zI (by_ (cD S.cnd c).2.2 0)), .int (zI 1), .int (zI 2)] M (some (.int x'), M) ∧ EvC G (d + 1) m_M_uses 102 [some (.ref 91), some (.int (zI (c : Int))), some (.int (zI (by_ (cD S.cnd c).2.2 0))), some (.int (zI 1))] [.int x'] M (some (.int y), M)) else ((some (.int y), M) = ((some (.int (zI 0)), M) : Out_))) → EvC G (d + 1) m_M_uses 87 [some (.ref 91), some (.int (zI (c : Int))), some (.int (zI (by_ (cD S.cnd c).2.2 0))), some (.int (zI 1))] [] M (some (.int y), M) := fun y hy => by
          refine ev_M_uses_87 ?_
          rw [zI_nat (show c < 2147483648 by omega), f', zI_0]
          refine ⟨okF_W hW rfl, a6, ?_⟩
          by_cases f0 : zI (cD S.cnd c).2.1 = zI 0
          · rw [if_pos f0]; rw [if_pos f0] at hy
            obtain ⟨x', y1, y2⟩ := hy
            exact ⟨x', M, y1, y2⟩
          · rw [if_neg f0]; rw [if_neg f0] at hy; exact hy
        by_cases f0 : (cD S.cnd c).2.1 = 0
        · by_cases t : 1 ≤ by_ (cD S.cnd c).2.2 0 ∧ by_ (cD S.cnd c).2.2 0 ≤ 2
          · refine ⟨zI 1, pre _ ?_, b01_t ⟨by unfold suits; omega, rfl⟩⟩
            rw [if_pos (by rw [f0])]
            refine ⟨_, e_M_in_t rt ⟨by omega, by omega⟩ ⟨by omega, by omega⟩ t, ev_M_uses_102 ?_⟩
            rw [zI_0, if_neg z10]
          · by_cases t5 : by_ (cD S.cnd c).2.2 0 = 5
            · refine ⟨zI 1, pre _ ?_, b01_t ⟨by unfold suits; omega, rfl⟩⟩
              rw [if_pos (by rw [f0])]
              refine ⟨_, e_M_in_f rt ⟨by omega, by omega⟩ ⟨by omega, by omega⟩ t, ev_M_uses_102 ?_⟩
              rw [zI_0, if_pos rfl, if_pos (by rw [t5])]
            · refine ⟨zI 0, pre _ ?_, b01_f (fun q => by have := q.1; unfold suits at this; omega)⟩
              rw [if_pos (by rw [f0])]
              refine ⟨_, e_M_in_f rt ⟨by omega, by omega⟩ ⟨by omega, by omega⟩ t, ev_M_uses_102 ?_⟩
              rw [zI_0, if_pos rfl, if_neg (zI_ne rt ⟨by omega, by omega⟩ t5)]
        · refine ⟨zI 0, pre _ ?_, b01_f (fun q => by have := q.1; unfold suits at this; omega)⟩
          rw [if_neg (zI_ne rf ⟨by omega, by omega⟩ f0)]
      have pre : ∀ y, (∃ x', Ev G d 87 [.int (zI (cD S.cnd c).2.1), .int (zI 2), .int (zI 5)] M (some (.int x'), M) ∧ EvC G (d + 1) m_M_uses 75 [some (.ref 91), some (.int (zI (c : Int))), some (.int (zI (by_ (cD S.cnd c).2.2 0))), some (.int (zI 1))] [.int x'] M (some (.int y), M)) → EvC G (d + 1) m_M_uses 59 [some (.ref 91), some (.int (zI (c : Int))), some (.int (zI (by_ (cD S.cnd c).2.2 0))), u3] [.int (zI 1)] M (some (.int y), M) := fun y hy => by
        obtain ⟨x', y1, y2⟩ := hy
        refine ev_M_uses_59 ?_
        rw [zI_0, if_neg z10, zI_nat (show c < 2147483648 by omega), f']
        exact ⟨okF_W hW rfl, a6, x', M, y1, y2⟩
      by_cases f25 : 2 ≤ (cD S.cnd c).2.1 ∧ (cD S.cnd c).2.1 ≤ 5
      · by_cases t : 1 ≤ by_ (cD S.cnd c).2.2 0 ∧ by_ (cD S.cnd c).2.2 0 ≤ 2
        · refine ⟨zI 1, pre _ ⟨_, e_M_in_t rf ⟨by omega, by omega⟩ ⟨by omega, by omega⟩ f25, ev_M_uses_75 ?_⟩, b01_t ⟨by unfold suits; omega, rfl⟩⟩
          rw [zI_0, if_neg z10]
          refine ⟨_, _, e_M_in_t rt ⟨by omega, by omega⟩ ⟨by omega, by omega⟩ t, ev_M_uses_84 ?_⟩
          rw [zI_0, if_neg z10]
        · obtain ⟨x, e, w⟩ := s87 (by omega)
          refine ⟨x, pre _ ⟨_, e_M_in_t rf ⟨by omega, by omega⟩ ⟨by omega, by omega⟩ f25, ev_M_uses_75 ?_⟩, w⟩
          rw [zI_0, if_neg z10]
          refine ⟨_, _, e_M_in_f rt ⟨by omega, by omega⟩ ⟨by omega, by omega⟩ t, ev_M_uses_84 ?_⟩
          rw [zI_0, if_pos rfl]
          exact e
      · obtain ⟨x, e, w⟩ := s87 (by omega)
        refine ⟨x, pre _ ⟨_, e_M_in_f rf ⟨by omega, by omega⟩ ⟨by omega, by omega⟩ f25, ev_M_uses_75 ?_⟩, w⟩
        rw [zI_0, if_pos rfl]
        exact e
  obtain ⟨y1, f1, v1⟩ := fin 1 none (Or.inr rfl)
  obtain ⟨y0, f0, v0⟩ := fin 0 none (Or.inl rfl)
  have s54 : EvC G (d + 1) m_M_uses 54 [some (.ref 91), some (.int (zI (c : Int))), some (.int (zI (by_ (cD S.cnd c).2.2 0))), none] [] M (some (.int y1), M) := ev_M_uses_54 f1
  have s58 : EvC G (d + 1) m_M_uses 58 [some (.ref 91), some (.int (zI (c : Int))), some (.int (zI (by_ (cD S.cnd c).2.2 0))), none] [] M (some (.int y0), M) := ev_M_uses_58 f0
  have n1 : M.2.1 (91 + 4) 1 = zI ((S.ix 1).length : Int) := m1.2.1
  have n0 : M.2.1 (91 + 4) 0 = zI ((S.ix 0).length : Int) := m0.2.1
  have a4 : ∀ z : Nat, z < 6 → am_okA M (91 + 4) 0 (zI (z : Int)) = true := fun z hz => okA_z hW (show sg0[91 + 4]? = some (.inr (0, 6)) from rfl) hz (by omega)
  have s34t : S.ix 1 = (cD S.cnd c).1 → EvC G (d + 1) m_M_uses 34 [some (.ref 91), some (.int (zI (c : Int))), some (.int (zI (by_ (cD S.cnd c).2.2 0))), none] [] M (some (.int y1), M) := fun hh => by
    refine ev_M_uses_34 ?_
    have : 0 < (S.ix 1).length := by rw [hh]; exact c6
    rw [z1, n1, zI_0, if_pos ((zI_lt ⟨by omega, by omega⟩ ⟨by omega, by omega⟩).mpr (by omega)), e3]
    refine ⟨okF_W hW rfl, a4 1 (by omega), okO_W hW rfl, _, _, e1, ev_M_uses_51 ?_⟩
    rcases b1 with ⟨_, w⟩ | ⟨w, _⟩
    · rw [w, zI_0, if_neg z10]; exact s54
    · exact absurd hh w
  have s34f : ¬ S.ix 1 = (cD S.cnd c).1 → EvC G (d + 1) m_M_uses 34 [some (.ref 91), some (.int (zI (c : Int))), some (.int (zI (by_ (cD S.cnd c).2.2 0))), none] [] M (some (.int y0), M) := fun hh => by
    refine ev_M_uses_34 ?_
    rw [z1, n1, zI_0, e3]
    refine ⟨okF_W hW rfl, a4 1 (by omega), ?_⟩
    split
    · refine ⟨okO_W hW rfl, _, _, e1, ev_M_uses_51 ?_⟩
      rcases b1 with ⟨w, _⟩ | ⟨_, w⟩
      · exact absurd w hh
      · rw [w, zI_0, if_pos rfl]; exact s58
    · exact s58
  by_cases p0 : S.ix 0 = (cD S.cnd c).1
  · refine ⟨y1, ev_of (q := mt_M_uses) rfl (ev_M_uses_0 ?_), b01_iff v1 ⟨fun q => ⟨q.1, Or.inl p0⟩, fun q => ⟨q.1, rfl⟩⟩⟩
    have : 0 < (S.ix 0).length := by rw [p0]; exact c6
    rw [z0, n0, zI_0, if_pos ((zI_lt ⟨by omega, by omega⟩ ⟨by omega, by omega⟩).mpr (by omega)), e3, eq, i0]
    refine ⟨okF_W hW rfl, o0, okF_W hW rfl, a4 0 (by omega), okO_W hW rfl, _, _, e0, ev_M_uses_31 ?_⟩
    rcases b0 with ⟨_, w⟩ | ⟨w, _⟩
    · rw [w, zI_0, if_neg z10]; exact s54
    · exact absurd p0 w
  · have to : ∀ y, EvC G (d + 1) m_M_uses 34 [some (.ref 91), some (.int (zI (c : Int))), some (.int (zI (by_ (cD S.cnd c).2.2 0))), none] [] M (some (.int y), M) → Ev G (d + 1) 126 [.ref 91, .int (zI (c : Int))] M (some (.int y), M) := fun y hy => by
      refine ev_of (q := mt_M_uses) rfl (ev_M_uses_0 ?_)
      rw [z0, n0, zI_0, e3, eq, i0]
      refine ⟨okF_W hW rfl, o0, okF_W hW rfl, a4 0 (by omega), ?_⟩
      split
      · refine ⟨okO_W hW rfl, _, _, e0, ev_M_uses_31 ?_⟩
        rcases b0 with ⟨w, _⟩ | ⟨_, w⟩
        · exact absurd w p0
        · rw [w, zI_0, if_pos rfl]; exact hy
      · exact hy
    by_cases p1 : S.ix 1 = (cD S.cnd c).1
    · exact ⟨y1, to _ (s34t p1), b01_iff v1 ⟨fun q => ⟨q.1, Or.inr p1⟩, fun q => ⟨q.1, rfl⟩⟩⟩
    · refine ⟨y0, to _ (s34f p1), b01_iff v0 ⟨fun q => absurd q.2 (by decide), fun q => ?_⟩⟩
      rcases q.2 with w | w
      · exact absurd w p0
      · exact absurd w p1
end USES
