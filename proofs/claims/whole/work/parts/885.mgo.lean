/-! THE REFERENCE's operators: go; the new element -/
def wayI (M : Mm_) (N : List Nd) (A : List Nat) : Prop := ∀ i, i < A.length → M.2.1 106 i = zI (1408 + ((rPl N (A.reverse.getD i 0) : Nat) : Int))
theorem rev_last {c : Nat} {W : List Nat} : (c :: W).reverse.getD W.length 0 = c := by
  rw [List.reverse_cons, ← List.length_reverse]
  exact getD_last
theorem rev_low {c i : Nat} {W : List Nat} (hi : i < W.length) : (c :: W).reverse.getD i 0 = W.reverse.getD i 0 := by
  rw [List.reverse_cons]
  exact getD_snoc (by rw [List.length_reverse]; exact hi)
def p106 (a _j : Nat) : Prop := a = 106
section MGO
variable {G : Nat × (Nat → Int32)} {d : Nat} {B : List Int} {N : List Nd} {P : List (List Int)}
/-- how the going ends -/
def goP (G : Nat × (Nat → Int32)) (d : Nat) (N : List Nd) (M M' : Mm_) (W : List Nat) : Option (List Nat × Nat × Int) → Prop
  | none => ∀ u4 : Option Value, EvC G (d + 3) m_M_go 15 [some (.ref 91), some (.int (zI ((W.length + 1 : Nat) : Int))), some (.int (zI 1)), some (.int (zI (W.length : Int))), u4] [] M (some (.int (zI 0)), M')
  | some z => wayI M' N (z.2.1 :: z.1) ∧ ∀ u4 : Option Value, EvC G (d + 3) m_M_go 15 [some (.ref 91), some (.int (zI ((W.length + 1 : Nat) : Int))), some (.int (zI 1)), some (.int (zI (W.length : Int))), u4] [] M (some (.int (zI ((z.1.length + 1 : Nat) : Int))), M')
theorem go_l (hA : Acc B 3 0 N) : ∀ (xs : List Int) (x : Int) (c : Nat) (W : List Nat) (M : Mm_), (pks P).drop W.length = x :: xs → isWy N W c → mIn M 1408 B → mPth M 2 P → wayI M N (c :: W) → ∃ M', Fp p106 M M' ∧ goP G d N M M' W (wkR N (x :: xs) c W) := by
  intro xs
  induction xs with
  | nil =>
    intro x c W M hd hw h hP hy
    have hpl := hP.1
    have hl : (pks P).length = W.length + 1 := by
      have := congrArg List.length hd
      rw [List.length_drop, List.length_singleton] at this
      omega
    rw [pks_len] at hl
    have z2 : (zI 2).toNatClampNeg = 2 := by decide +kernel
    have t1 : M.2.1 (91 + 4) 2 = zI (P.length : Int) := hP.2.1
    have key : ∀ e : Int, goP G d N M M W (some (W, c, e)) := fun e => ⟨hy, fun u4 => ev_M_go_15 (by
      rw [z2, t1, zI_sub, if_neg (fun q => by rw [zI_lt ⟨by omega, by omega⟩ ⟨by omega, by omega⟩] at q; omega)]
      exact ⟨okF_W h.1 rfl, okA_W h.1 (show sg0[91 + 4]? = some (.inr (0, 6)) from rfl) (zI_in (by omega) (by omega) (by omega)), rfl⟩)⟩
    refine ⟨M, Fp.rf, ?_⟩
    unfold wkR
    by_cases c1 : elV N c x = -1
    · rw [if_pos c1]; exact key _
    · rw [if_neg c1, if_pos rfl]; exact key _
  | cons y ys ih =>
    intro x c W M hd hw h hP hy
    have hW := h.1
    have hpl := hP.1
    have hl : (pks P).length = W.length + (ys.length + 2) := by
      have := congrArg List.length hd
      rw [List.length_drop, List.length_cons, List.length_cons] at this
      omega
    have hd2 : (pks P).drop (W.length + 1) = y :: ys := by
      rw [← List.drop_drop, hd]
      rfl
    have hx : (pks P).getD W.length 0 = x := by
      have e : ((pks P).drop W.length)[0]? = some x := by rw [hd]; rfl
      rw [List.getElem?_drop, Nat.add_zero] at e
      rw [List.getD_eq_getElem?_getD, e]
      rfl
    rw [pks_len] at hl
    have hcf := isWy_fact hA W c hw
    have z2 : (zI 2).toNatClampNeg = 2 := by decide +kernel
    have t1 : M.2.1 (91 + 4) 2 = zI (P.length : Int) := hP.2.1
    have w1 : M.2.1 (91 + 15) W.length = zI (1408 + ((rPl N c : Nat) : Int)) := by have := hy W.length (by rw [List.length_cons]; omega); rw [rev_last] at this; exact this
    have es := e_M_seek (G := G) (d := d) (i := W.length) h hA hP (by omega) (by omega) hcf.1 hcf.2.1
    rw [hx, skF_V hA hcf.2.1] at es
    have a4 : am_okA M (91 + 4) 0 (zI 2) = true := okA_W hW (show sg0[91 + 4]? = some (.inr (0, 6)) from rfl) (zI_in (by omega) (by omega) (by omega))
    have pre : ∀ r (u4 : Option Value), EvC G (d + 3) m_M_go 43 [some (.ref 91), some (.int (zI ((W.length + 1 : Nat) : Int))), some (.int (zI 1)), some (.int (zI (W.length : Int))), u4] [.int (zI (if elV N c x = -1 then -1 else (1408 : Nat) + ((rSt N (elV N c x).toNat : Nat) : Int)))] M r → EvC G (d + 3) m_M_go 15 [some (.ref 91), some (.int (zI ((W.length + 1 : Nat) : Int))), some (.int (zI 1)), some (.int (zI (W.length : Int))), u4] [] M r := fun r u4 hr => by
      refine ev_M_go_15 ?_
      rw [z2, t1, zI_sub, if_pos ((zI_lt ⟨by omega, by omega⟩ ⟨by omega, by omega⟩).mpr (by omega)), zI_0, if_neg z10, zI_nat (show W.length < 2147483648 by omega), w1]
      exact ⟨okF_W hW rfl, a4, okF_W hW rfl, okA_z hW (show sg0[91 + 15]? = some (.inr (0, 5)) from rfl) (by omega) (by omega), okO_W hW rfl, _, _, es, hr⟩
    have e1 : zI (W.length : Int) + zI 1 = zI ((W.length + 1 : Nat) : Int) := by rw [zI_add, show (W.length : Int) + 1 = ((W.length + 1 : Nat) : Int) by omega]
    unfold wkR
    by_cases c1 : elV N c x = -1
    · rw [if_pos c1]
      refine ⟨M, Fp.rf, hy, fun u4 => pre _ u4 (ev_M_go_43 ?_)⟩
      rw [if_pos c1, zI_0, if_pos ((zI_lt ⟨by omega, by omega⟩ ⟨by omega, by omega⟩).mpr (by omega))]
      refine ev_M_go_63 ?_
      rw [zI_0, if_pos ((zI_lt ⟨by omega, by omega⟩ ⟨by omega, by omega⟩).mpr (by omega))]
      refine ev_M_go_73 ?_
      rw [zI_0, if_pos rfl, e1]
      refine ev_M_go_15 ?_
      rw [z2, t1, zI_sub, zI_0, if_pos rfl]
      refine ⟨okF_W hW rfl, a4, ?_⟩
      split <;> rfl
    · have ef := elV_fact c1
      have em := (elV_mem c1).2
      have g := withn hA ef.1 ef.2.1
      obtain ⟨s1, s2, s3, s4, s5⟩ := rSt_rEn (hA.2.2.1 _ ef.1) ef.2.1 hcf.2.1
      have hb := h.2.2.2
      have il := mI h (i := rSt N (elV N c x).toNat) (by omega)
      have ol := mOk h (i := rSt N (elV N c x).toNat) (by omega)
      have tr := hA.2.2.1 _ ef.1
      have tr1 := tr.1
      have tr2 := tr.2.1
      rw [if_neg c1, if_neg (show ¬ y :: ys = [] by simp)]
      have pre2 : ∀ r (u4 : Option Value), (if zI (rTy N (elV N c x).toNat) = zI 3 then EvC G (d + 3) m_M_go 63 [some (.ref 91), some (.int (zI ((W.length + 1 : Nat) : Int))), some (.int (zI 1)), some (.int (zI (W.length : Int))), some (.int (zI ((1408 : Nat) + ((rSt N (elV N c x).toNat : Nat) : Int))))] [] M r else r = ((some (.int (zI 0)), M) : Out_)) → EvC G (d + 3) m_M_go 15 [some (.ref 91), some (.int (zI ((W.length + 1 : Nat) : Int))), some (.int (zI 1)), some (.int (zI (W.length : Int))), u4] [] M r := fun r u4 hr => by
        refine pre r u4 (ev_M_go_43 ?_)
        rw [if_neg c1, zI_0, if_neg (fun q => by rw [zI_lt ⟨by omega, by omega⟩ ⟨by omega, by omega⟩] at q; omega), il, s3]
        exact ⟨okF_W hW rfl, ol, hr⟩
      by_cases c3 : rTy N (elV N c x).toNat = 3
      · rw [if_pos c3]
        have e2 : zI ((1408 : Nat) + ((rSt N (elV N c x).toNat : Nat) : Int)) + zI 1 = zI (((1408 : Nat) : Int) + ((rSt N (elV N c x).toNat + 1 : Nat) : Int)) := by rw [zI_add, show ((1408 : Nat) : Int) + ((rSt N (elV N c x).toNat : Nat) : Int) + 1 = ((1408 : Nat) : Int) + ((rSt N (elV N c x).toNat + 1 : Nat) : Int) by omega]
        have f1 : Fp p106 M (am_setI M 106 (W.length + 1) (zI (((1408 : Nat) : Int) + ((rPl N (elV N c x).toNat : Nat) : Int)))) := Fp.set rfl
        have f1x := f1.x hW
        have y1 : wayI (am_setI M 106 (W.length + 1) (zI (((1408 : Nat) : Int) + ((rPl N (elV N c x).toNat : Nat) : Int)))) N ((elV N c x).toNat :: c :: W) := fun i hi => by
          rw [List.length_cons, List.length_cons] at hi
          by_cases e : i = W.length + 1
          · have rl := rev_last (c := (elV N c x).toNat) (W := c :: W)
            rw [List.length_cons] at rl
            rw [e, setI_self, rl]
            rfl
          · rw [setI_idx e, rev_low (by rw [List.length_cons]; omega)]
            exact hy i (by rw [List.length_cons]; omega)
        obtain ⟨M2, f2, g2⟩ := ih y (elV N c x).toNat (c :: W) _ hd2 ⟨hw, ef.2.1, c3, ef.1⟩ (h.kx f1x (fun i hi q => by unfold p106 at q; omega)) (hP.kx f1x (fun q => by unfold p106 at q; omega) (fun i _ _ q => by unfold p106 at q; omega)) y1
        have st : ∀ r (u4 : Option Value), (∀ u4 : Option Value, EvC G (d + 3) m_M_go 15 [some (.ref 91), some (.int (zI (((c :: W).length + 1 : Nat) : Int))), some (.int (zI 1)), some (.int (zI ((c :: W).length : Int))), u4] [] (am_setI M 106 (W.length + 1) (zI (((1408 : Nat) : Int) + ((rPl N (elV N c x).toNat : Nat) : Int)))) r) → EvC G (d + 3) m_M_go 15 [some (.ref 91), some (.int (zI ((W.length + 1 : Nat) : Int))), some (.int (zI 1)), some (.int (zI (W.length : Int))), u4] [] M r := fun r u4 hr => by
          refine pre2 r u4 ?_
          rw [if_pos (by rw [c3])]
          refine ev_M_go_63 ?_
          rw [zI_0, if_neg (fun q => by rw [zI_lt ⟨by omega, by omega⟩ ⟨by omega, by omega⟩] at q; omega)]
          refine ev_M_go_73 ?_
          rw [zI_0, if_neg z10, e2]
          refine ⟨okF_W hW rfl, okO_W hW rfl, _, _, e_M_nameEnd_at h s4, ev_M_go_91 ?_⟩
          rw [zI_nat (show W.length + 1 < 2147483648 by omega), zI_add, zI_add, show ((W.length + 1 : Nat) : Int) + 1 = (((c :: W).length + 1 : Nat) : Int) by rw [List.length_cons]; omega, show (W.length : Int) + 1 = (((c :: W).length : Nat) : Int) by rw [List.length_cons]; omega]
          exact ⟨okA_z hW (show sg0[91 + 15]? = some (.inr (0, 5)) from rfl) (by omega) (by omega), hr _⟩
        refine ⟨M2, f1.tr f2, ?_⟩
        cases hk : wkR N (y :: ys) (elV N c x).toNat (c :: W) with
        | none =>
          rw [hk] at g2
          exact fun u4 => st _ u4 (fun u4 => g2 u4)
        | some z =>
          rw [hk] at g2
          exact ⟨g2.1, fun u4 => st _ u4 (fun u4 => g2.2 u4)⟩
      · rw [if_neg c3]
        refine ⟨M, Fp.rf, fun u4 => pre2 _ u4 ?_⟩
        rw [if_neg (zI_ne ⟨by omega, by omega⟩ ⟨by omega, by omega⟩ c3)]
theorem e_M_go {M : Mm_} (hA : Acc B 3 0 N) (h : mIn M 1408 B) (hP : mPth M 2 P) (hp : 0 < P.length) : ∃ M', Fp p106 M M' ∧ (match wkR N (pks P) 0 [] with
    | none => Ev G (d + 3) 137 [.ref 91] M (some (.int (zI 0)), M')
    | some z => wayI M' N (z.2.1 :: z.1) ∧ Ev G (d + 3) 137 [.ref 91] M (some (.int (zI ((z.1.length + 1 : Nat) : Int))), M')) := by
  have hW := h.1
  obtain ⟨x, xs, ex⟩ : ∃ x xs, pks P = x :: xs := by
    cases e : pks P with
    | nil => have := congrArg List.length e; rw [pks_len, List.length_nil] at this; omega
    | cons x xs => exact ⟨x, xs, rfl⟩
  have f0 : Fp p106 M (am_setI M 106 0 (zI 1408)) := Fp.set rfl
  have f0x := f0.x hW
  have z0 : (zI 0).toNatClampNeg = 0 := by decide +kernel
  obtain ⟨M1, f1, g1⟩ := go_l (G := G) (d := d) (P := P) hA xs x 0 [] (am_setI M 106 0 (zI 1408)) (by rw [List.length_nil, List.drop_zero]; exact ex) rfl (h.kx f0x (fun i hi q => by unfold p106 at q; omega)) (hP.kx f0x (fun q => by unfold p106 at q; omega) (fun i _ _ q => by unfold p106 at q; omega)) (fun i hi => by
    have hi : i < 1 := hi
    have : i = 0 := by omega
    subst this
    show (am_setI M 106 0 (zI 1408)).2.1 106 0 = zI (1408 + ((rPl N 0 : Nat) : Int))
    rw [setI_self, (root_0 hA).2.1]
    rfl)
  rw [← ex] at g1
  have st : ∀ r, (∀ u4 : Option Value, EvC G (d + 3) m_M_go 15 [some (.ref 91), some (.int (zI ((([] : List Nat).length + 1 : Nat) : Int))), some (.int (zI 1)), some (.int (zI (([] : List Nat).length : Int))), u4] [] (am_setI M 106 0 (zI 1408)) r) → Ev G (d + 3) 137 [.ref 91] M r := fun r hr => by
    refine ev_of (q := mt_M_go) rfl (ev_M_go_0 ?_)
    rw [z0]
    exact ⟨okF_W hW rfl, okA_W hW (show sg0[91 + 15]? = some (.inr (0, 5)) from rfl) (zI_in (by omega) (by omega) (by omega)), hr none⟩
  refine ⟨M1, f0.tr f1, ?_⟩
  cases hk : wkR N (pks P) 0 [] with
  | none =>
    rw [hk] at g1
    exact st _ g1
  | some z =>
    rw [hk] at g1
    exact ⟨g1.1, st _ g1.2⟩
end MGO
theorem wkR_last {N : List Nd} : ∀ (xs : List Int) (c : Nat) (W W' : List Nat) (c' : Nat) (e' : Int), wkR N xs c W = some (W', c', e') → W'.length + 1 = W.length + xs.length → e' = elV N c' (xs.getD (xs.length - 1) 0)
  | [], c, W, W', c', e', h, hl => by
    have h : some (W, c, (-1 : Int)) = some (W', c', e') := h
    obtain ⟨h1, h2⟩ := Prod.mk.inj (Option.some.inj h)
    subst h1
    rw [List.length_nil] at hl
    omega
  | x :: xs, c, W, W', c', e', h, hl => by
    unfold wkR at h
    rw [List.length_cons] at hl
    by_cases c1 : elV N c x = -1
    · rw [if_pos c1] at h
      obtain ⟨h1, h2⟩ := Prod.mk.inj (Option.some.inj h)
      obtain ⟨h2, h3⟩ := Prod.mk.inj h2
      subst h1; subst h2
      have : xs = [] := List.length_eq_zero_iff.mp (by omega)
      subst this
      rw [← h3]
      exact c1.symm
    · rw [if_neg c1] at h
      by_cases c2 : xs = []
      · rw [if_pos c2] at h
        obtain ⟨h1, h2⟩ := Prod.mk.inj (Option.some.inj h)
        obtain ⟨h2, h3⟩ := Prod.mk.inj h2
        subst c2
        rw [← h3, ← h2]
        rfl
      · rw [if_neg c2] at h
        by_cases c3 : rTy N (elV N c x).toNat = 3
        · rw [if_pos c3] at h
          have ih := wkR_last xs _ (c :: W) W' c' e' h (by rw [List.length_cons]; omega)
          rw [ih, List.length_cons]
          obtain ⟨n, hn⟩ : ∃ n, xs.length = n + 1 := ⟨xs.length - 1, by have : xs.length ≠ 0 := fun q => c2 (List.length_eq_zero_iff.mp q); omega⟩
          rw [hn, show n + 1 + 1 - 1 = n + 1 by omega, show n + 1 - 1 = n by omega]
          rfl
        · rw [if_neg c3] at h
          cases h
/-! the new element -/
def sumL (P : List (List Int)) : Nat → Nat → Nat
  | 0, _ => 0
  | m + 1, h => ((P.getD h []).length + 4) + sumL P m (h + 1)
theorem drop_get {P : List (List Int)} {j : Nat} (hj : j < P.length) : P.drop j = P.getD j [] :: P.drop (j + 1) := by rw [List.drop_eq_getElem_cons hj, List.getD_eq_getElem?_getD, List.getElem?_eq_getElem hj, Option.getD_some]
/-- without what closes -/
def core (op : Int) (Q ls : List Int) : List Int := if op = 3 then 4 :: (ls ++ (0 :: ((Q.length : Int) + 2) :: Q)) else by_ Q 0 :: (ls ++ (0 :: Q.drop 1))
def pX (op : Int) (Q : List Int) (P : List (List Int)) : Nat → Nat → List Int
  | 0, _ => []
  | m + 1, j => 3 :: (P.getD j [] ++ (0 :: (((newP op Q (P.drop (j + 1))).length : Int) + 2) :: pX op Q P m (j + 1)))
theorem newP_X {op : Int} {Q : List Int} {P : List (List Int)} : ∀ (m j : Nat), j + m + 1 = P.length → newP op Q (P.drop j) = pX op Q P m j ++ (core op Q (P.getD (P.length - 1) []) ++ List.replicate (m + if op = 3 then 1 else 0) 0) ∧ (newP op Q (P.drop j)).length = (newP op Q [P.getD (P.length - 1) []]).length + sumL P m j
  | 0, j, hj => by
    have e : P.drop j = [P.getD (P.length - 1) []] := by
      rw [drop_get (by omega), List.drop_eq_nil_of_le (by omega), show j = P.length - 1 by omega]
    rw [e]
    refine ⟨?_, rfl⟩
    show (if op = 3 then wrap 4 (P.getD (P.length - 1) []) Q else elm (P.getD (P.length - 1) []) Q) = [] ++ (core op Q (P.getD (P.length - 1) []) ++ List.replicate (0 + if op = 3 then 1 else 0) 0)
    unfold core
    by_cases c : op = 3
    · rw [if_pos c, if_pos c, if_pos c]
      unfold wrap
      simp
    · rw [if_neg c, if_neg c, if_neg c]
      unfold elm
      simp
  | m + 1, j, hj => by
    obtain ⟨i1, i2⟩ := newP_X (op := op) (Q := Q) (P := P) m (j + 1) (by omega)
    have e : newP op Q (P.drop j) = wrap 3 (P.getD j []) (newP op Q (P.drop (j + 1))) := by
      rw [drop_get (show j < P.length by omega)]
      exact newP_two (fun q => by have := congrArg List.length q; rw [List.length_drop, List.length_nil] at this; omega)
    constructor
    · rw [e]
      unfold wrap pX
      rw [i1]
      rw [show m + 1 + (if op = 3 then 1 else 0) = (m + if op = 3 then 1 else 0) + 1 by omega, List.replicate_succ']
      simp
    · rw [e]
      unfold wrap sumL
      simp only [List.length_cons, List.length_append, List.length_nil]
      rw [i2]
      omega
