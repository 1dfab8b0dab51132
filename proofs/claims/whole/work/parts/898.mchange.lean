/-! CHANGE: the reference's method -/
def pIt (n a j : Nat) : Prop := gU a j ∨ (a = 92 ∧ 64 * n ≤ j ∧ j < 64 * n + 64) ∨ (a = 93 ∧ j = n)
theorem opE_len {B : List Int} {N : List Nd} {P : List (List Int)} {Q : List Int} {op : Int} {R : List Int} (hrd : rdD B = .inr N) (hB : B.length ≤ 60) (hP : ∀ ls ∈ P, isN ls) (hpl : P.length ≤ 3) (hp : 0 < P.length) (hop : 0 ≤ op ∧ op ≤ 4) (hql : Q.length ≤ 80) (h : opE B P Q op = some (some R)) : R.length ≤ 300 := by
  have hA := rdD_acc hrd
  have hn := nds_of hrd
  unfold opE at h
  rw [hn] at h
  cases hk : wkR N (pks P) 0 [] with
  | none => rw [hk] at h; cases h
  | some z =>
    obtain ⟨W, c, e⟩ := z
    rw [hk] at h
    have h : opF B N P Q op W c e = some (some R) := h
    have hw0 : isWy N [] 0 := rfl
    obtain ⟨k1, k2, k3, k4⟩ := wkR_fact _ _ _ _ _ _ hk hw0
    have k3 := k3 (fun q => by have := congrArg List.length q; rw [pks_len, List.length_nil] at this; omega)
    rw [pks_len, List.length_nil, Nat.zero_add] at k3
    by_cases c2 : op = 2 ∧ ¬ by_ Q 0 = 1
    · unfold opF at h
      rw [if_pos c2] at h
      cases h
    · have h2 : op = 2 → by_ Q 0 = 1 := fun q => Classical.byContradiction (fun w => c2 ⟨q, w⟩)
      rcases k4 with rfl | ⟨e', rfl, q2, q3, q4⟩
      · unfold opF at h
        rw [if_neg c2, if_pos rfl] at h
        by_cases o14 : op = 1 ∨ op = 4
        · rw [if_pos o14] at h; cases h
        · rw [if_neg o14] at h
          have e := Option.some.inj (Option.some.inj h)
          obtain ⟨n1, n2, n3, n4, n5⟩ := new_fact hA k1 (by omega)
          have pl := newP_len (op := op) (Q := Q) (P.drop W.length) (fun ls hl => hP ls (List.mem_of_mem_drop hl))
          rw [List.length_drop] at pl
          rw [← e, edB_len]
          omega
      · have g := withn hA q2 q3
        rw [opF_alt hop h2 q3 (by omega)] at h
        cases ha : alt B N Q op e' with
        | none => rw [ha] at h; cases h
        | some z =>
          obtain ⟨n, f, t, X⟩ := z
          rw [ha] at h
          have e := Option.some.inj (Option.some.inj h)
          obtain ⟨a1, a2, a3, A, a4, a5, a6, a7, a8, a9⟩ := alt_fact hA hB k1 (by omega) q2 q3 hql ha
          rw [← e, edB_len]
          omega
section MCHG
variable {G : Nat × (Nat → Int32)} {d : Nat} {S : St_}
theorem ci_l {B : List Int} {n : Nat} {x1 x2 x3 x4 : Int32} (hn : n < 16) (hB : B.length ≤ 60) : ∀ (m k : Nat) (M : Mm_), k + m = B.length → WM M → M.2.1 91 23 = zI (B.length : Int) → mAt M (64 * n) B → (∀ i, i < k → M.2.1 92 (1408 + i) = zI (by_ B i)) → ∃ M1, mAt M1 1408 B ∧ Fp (fun a j => a = 92 ∧ 1408 ≤ j) M M1 ∧ ∀ (u7 : Option Value) r, EvC G (d + 1) m_M_change 147 [some (.ref 91), some (.int x1), some (.int x2), some (.int x3), some (.int x4), some (.int (zI (n : Int))), some (.int (zI (B.length : Int))), u7] [] M1 r → EvC G (d + 1) m_M_change 147 [some (.ref 91), some (.int x1), some (.int x2), some (.int x3), some (.int x4), some (.int (zI (n : Int))), some (.int (zI (k : Int))), u7] [] M r
  | 0, k, M, hk, hW, h1, h2, h3 => ⟨M, fun i hi => h3 i (by omega), Fp.rf, fun u7 r hr => by rw [show k = B.length by omega]; exact hr⟩
  | m + 1, k, M, hk, hW, h1, h2, h3 => by
    have ek : zI (k : Int) + zI 1 = zI ((k + 1 : Nat) : Int) := by rw [zI_add, show (k : Int) + 1 = ((k + 1 : Nat) : Int) by omega]
    have ep : zI 64 * zI (n : Int) + zI (k : Int) = zI (((64 * n : Nat) : Int) + (k : Int)) := by rw [zI_mul, zI_add, show (64 : Int) * (n : Int) = ((64 * n : Nat) : Int) by omega]
    have eb : zI 1408 + zI (k : Int) = zI (((1408 : Nat) : Int) + (k : Int)) := zI_add _ _
    have fp : Fp (fun a j => a = 92 ∧ 1408 ≤ j) M (am_setI M 92 (1408 + k) (zI (by_ B k))) := Fp.set ⟨rfl, by omega⟩
    obtain ⟨M1, g1, g2, g3⟩ := ci_l (x1 := x1) (x2 := x2) (x3 := x3) (x4 := x4) hn hB m (k + 1) (am_setI M 92 (1408 + k) (zI (by_ B k))) (by omega) (WM_setI hW) (by rw [setI_cell (by decide)]; exact h1) (fun i hi => by rw [setI_idx (by omega)]; exact h2 i hi) (fun i hi => by
      by_cases e : i = k
      · rw [e, setI_self]
      · rw [setI_idx (by omega)]; exact h3 i (by omega))
    refine ⟨M1, g1, fp.tr g2, fun u7 r hr => ev_M_change_147 ?_⟩
    rw [h1, if_pos ((zI_lt ⟨by omega, by omega⟩ ⟨by omega, by omega⟩).mpr (by omega)), ek, ep, eb, cl2 (by omega), cl2 (by omega), show M.2.1 (91 + 1) (64 * n + k) = zI (by_ B k) from h2 k (by omega)]
    exact ⟨okF_W hW rfl, okF_W hW rfl, okF_W hW rfl, okA_W hW (show sg0[91 + 1]? = some (.inr (0, 1728)) from rfl) (zI_in (by omega) (by omega) (by omega)), okA_W hW (show sg0[91 + 1]? = some (.inr (0, 1728)) from rfl) (zI_in (by omega) (by omega) (by omega)), g3 u7 r hr⟩
theorem co_l {C : List Int} {n : Nat} {x1 x2 x3 x4 : Int32} (hn : n < 16) (hC : C.length ≤ 60) : ∀ (m k : Nat) (M : Mm_), k + m = C.length → WM M → wkI M C → (∀ i, i < k → M.2.1 92 (64 * n + i) = zI (by_ C i)) → ∃ M1, mAt M1 (64 * n) C ∧ wkI M1 C ∧ Fp (fun a j => a = 92 ∧ 64 * n ≤ j ∧ j < 64 * n + 64) M M1 ∧ ∀ r, EvC G d m_M_change 286 [some (.ref 91), some (.int x1), some (.int x2), some (.int x3), some (.int x4), some (.int (zI (n : Int))), some (.int (zI 1)), some (.int (zI (C.length : Int)))] [] M1 r → EvC G d m_M_change 242 [some (.ref 91), some (.int x1), some (.int x2), some (.int x3), some (.int x4), some (.int (zI (n : Int))), some (.int (zI 1)), some (.int (zI (k : Int)))] [] M r
  | 0, k, M, hk, hW, h1, h3 => by
    refine ⟨M, fun i hi => h3 i (by omega), h1, Fp.rf, fun r hr => ev_M_change_242 ?_⟩
    rw [h1.1, if_neg (fun q => by rw [zI_lt ⟨by omega, by omega⟩ ⟨by omega, by omega⟩] at q; omega), show k = C.length by omega]
    exact ⟨okF_W hW rfl, hr⟩
  | m + 1, k, M, hk, hW, h1, h3 => by
    have ek : zI (k : Int) + zI 1 = zI ((k + 1 : Nat) : Int) := by rw [zI_add, show (k : Int) + 1 = ((k + 1 : Nat) : Int) by omega]
    have ep : zI 64 * zI (n : Int) + zI (k : Int) = zI (((64 * n : Nat) : Int) + (k : Int)) := by rw [zI_mul, zI_add, show (64 : Int) * (n : Int) = ((64 * n : Nat) : Int) by omega]
    have eb : zI 1408 + zI (k : Int) = zI (((1408 : Nat) : Int) + (k : Int)) := zI_add _ _
    have fp : Fp (fun a j => a = 92 ∧ 64 * n ≤ j ∧ j < 64 * n + 64) M (am_setI M 92 (64 * n + k) (zI (by_ C k))) := Fp.set ⟨rfl, by omega, by omega⟩
    obtain ⟨M1, g0, g1, g2, g3⟩ := co_l (x1 := x1) (x2 := x2) (x3 := x3) (x4 := x4) hn hC m (k + 1) (am_setI M 92 (64 * n + k) (zI (by_ C k))) (by omega) (WM_setI hW) (h1.kp fp (fun a j q w => by unfold pSp at w; omega)) (fun i hi => by
      by_cases e : i = k
      · rw [e, setI_self]
      · rw [setI_idx (by omega)]; exact h3 i (by omega))
    refine ⟨M1, g0, g1, fp.tr g2, fun r hr => ev_M_change_242 ?_⟩
    rw [h1.1, if_pos ((zI_lt ⟨by omega, by omega⟩ ⟨by omega, by omega⟩).mpr (by omega)), zI_0, if_neg z10, ek, ep, eb, cl2 (by omega), cl2 (by omega), show M.2.1 (91 + 1) (1408 + k) = zI (by_ C k) from h1.2 k (by omega)]
    exact ⟨okF_W hW rfl, okF_W hW rfl, okF_W hW rfl, okA_W hW (show sg0[91 + 1]? = some (.inr (0, 1728)) from rfl) (zI_in (by omega) (by omega) (by omega)), okA_W hW (show sg0[91 + 1]? = some (.inr (0, 1728)) from rfl) (zI_in (by omega) (by omega) (by omega)), g3 r hr⟩
/-- one document -/
theorem ch_it {op : Int} {D : List Dc} {n t : Nat} {x2 x3 : Int32} {M : Mm_} (hH : okH S op) (hq : op = 1 ∨ (okQ S.buf ∧ (isC (by_ S.buf 0) → 0 ≤ by_ S.buf 1))) (hD : okD D) (hn : n < D.length) (hDl : D.length = S.docs.length) (h : RepM M ((sk S).sD D)) (hM : mMt M S S.docs.length) :
    ∃ (M' : Mm_) (C : List Int) (g : Nat), ((mtc S n ∧ C = (newD (dB D n) S.typ S.buf op).2 ∧ g = if (newD (dB D n) S.typ S.buf op).1 = true then 1 else 0) ∨ (¬ mtc S n ∧ C = dB D n ∧ g = 0)) ∧ mAt M' (64 * n) C ∧ M'.2.1 93 n = zI (C.length : Int) ∧ Fp (pIt n) M M' ∧ ∀ r, (∀ u6 u7 : Option Value, EvC G (d + 10) m_M_change 124 [some (.ref 91), some (.int (zI op)), some (.int x2), some (.int x3), some (.int (zI ((t + g : Nat) : Int))), some (.int (zI ((n + 1 : Nat) : Int))), u6, u7] [] M' r) → ∀ u6 u7 : Option Value, EvC G (d + 10) m_M_change 124 [some (.ref 91), some (.int (zI op)), some (.int x2), some (.int x3), some (.int (zI (t : Int))), some (.int (zI (n : Int))), u6, u7] [] M r := by
  have hW := h.1
  have hl : D.length ≤ 16 := h.2.2.2.1.1
  have d2 : M.2.1 91 2 = zI (D.length : Int) := h.2.2.2.1.2.1
  obtain ⟨w1, w2, w3⟩ := h.2.2.2.1.2.2 n hn
  have w1 : mAt M (64 * n) (dB D n) := w1
  have w2 : M.2.1 93 n = zI ((dB D n).length : Int) := w2
  obtain ⟨o1, o2, o3, o4⟩ := hD.1 n hn
  have hrd := hD.rd hn
  have hA := hD.acc hn
  have f0 : Fp (pIt n) M (am_setI M 91 23 (zI ((dB D n).length : Int))) := Fp.set (Or.inl (Or.inl ⟨rfl, by omega⟩))
  obtain ⟨M1, b1, f1, k1⟩ := ci_l (G := G) (d := d + 9) (n := n) (B := dB D n) (x1 := zI op) (x2 := x2) (x3 := x3) (x4 := zI (t : Int)) (by omega) o2 (dB D n).length 0 (am_setI M 91 23 (zI ((dB D n).length : Int))) (Nat.zero_add _) (WM_setI hW) setI_self (fun i hi => by rw [setI_cell (by decide)]; exact w1 i hi) (fun i hi => by omega)
  have F1 : Fp (pIt n) M M1 := f0.tr (f1.up (fun a j q => Or.inl (Or.inr (Or.inl q))))
  have W1 := F1.WM hW
  have k1' : M1.2.1 91 23 = zI ((dB D n).length : Int) := by rw [f1.2.2 _ _ (fun q => by omega), setI_self]
  have wk1 : wkI M1 (dB D n) := ⟨k1', b1⟩
  have in1 : mIn M1 1408 (dB D n) := ⟨W1, o3, b1, by omega⟩
  have fU : Fp gU M M1 := ⟨F1.1, F1.2.1, fun a j hn' => by
    rw [f1.2.2 _ _ (fun q => hn' (Or.inr (Or.inl q)))]
    by_cases e : a = 91
    · subst e
      by_cases ej : j = 23
      · exact absurd (show gU 91 j from Or.inl ⟨rfl, by omega⟩) hn'
      · exact setI_idx ej
    · exact congrFun (setI_cell e) j⟩
  have mm : b01 (mtc S n) (M1.2.1 99 n) := by rw [fU.2.2 _ _ (fun q => by unfold gU at q; omega)]; exact hM n (by omega)
  have st : ∀ r, (∀ u7 : Option Value, EvC G (d + 10) m_M_change 147 [some (.ref 91), some (.int (zI op)), some (.int x2), some (.int x3), some (.int (zI (t : Int))), some (.int (zI (n : Int))), some (.int (zI ((dB D n).length : Int))), u7] [] M1 r) → ∀ u6 u7 : Option Value, EvC G (d + 10) m_M_change 124 [some (.ref 91), some (.int (zI op)), some (.int x2), some (.int x3), some (.int (zI (t : Int))), some (.int (zI (n : Int))), u6, u7] [] M r := fun r hr u6 u7 => by
    refine ev_M_change_124 ?_
    rw [d2, if_pos ((zI_lt ⟨by omega, by omega⟩ ⟨by omega, by omega⟩).mpr (by omega)), zI_nat (show n < 2147483648 by omega), show M.2.1 (91 + 2) n = _ from w2]
    exact ⟨okF_W hW rfl, okF_W hW rfl, okA_z hW (show sg0[91 + 2]? = some (.inr (0, 16)) from rfl) (by omega) (by omega), okP_W hW rfl rfl, k1 u7 r (hr u7)⟩
  have e1 : zI (n : Int) + zI 1 = zI ((n + 1 : Nat) : Int) := by rw [zI_add, show (n : Int) + 1 = ((n + 1 : Nat) : Int) by omega]
  -- the end where nothing changes
  have no : ∀ M2, WM M2 → M2.2.1 93 n = zI ((dB D n).length : Int) → ∀ r, (∀ u6 u7 : Option Value, EvC G (d + 10) m_M_change 124 [some (.ref 91), some (.int (zI op)), some (.int x2), some (.int x3), some (.int (zI ((t + 0 : Nat) : Int))), some (.int (zI ((n + 1 : Nat) : Int))), u6, u7] [] (am_setI M2 93 n (zI ((dB D n).length : Int))) r) → EvC G (d + 10) m_M_change 242 [some (.ref 91), some (.int (zI op)), some (.int x2), some (.int x3), some (.int (zI (t : Int))), some (.int (zI (n : Int))), some (.int (zI 0)), some (.int (zI 0))] [] M2 r := fun M2 W2 h93 r hr => by
    have s286 : EvC G (d + 10) m_M_change 286 [some (.ref 91), some (.int (zI op)), some (.int x2), some (.int x3), some (.int (zI (t : Int))), some (.int (zI (n : Int))), some (.int (zI 0)), some (.int (zI 0))] [] M2 r := by
      refine ev_M_change_286 ?_
      rw [zI_0, if_pos rfl, zI_nat (show n < 2147483648 by omega), show M2.2.1 (91 + 2) n = _ from h93]
      refine ⟨okF_W W2 rfl, okF_W W2 rfl, okA_z W2 (show sg0[91 + 2]? = some (.inr (0, 16)) from rfl) (by omega) (by omega), ev_M_change_311 ?_⟩
      rw [zI_0, if_pos rfl, zI_nat (show n < 2147483648 by omega), e1]
      exact ⟨okA_z W2 (show sg0[91 + 2]? = some (.inr (0, 16)) from rfl) (by omega) (by omega), hr _ _⟩
    refine ev_M_change_242 ?_
    rw [zI_0, if_pos rfl]
    refine ⟨okF_W W2 rfl, ?_⟩
    split <;> exact s286
  have stay : ∀ M2, Fp gU M M2 → mAt (am_setI M2 93 n (zI ((dB D n).length : Int))) (64 * n) (dB D n) ∧ (am_setI M2 93 n (zI ((dB D n).length : Int))).2.1 93 n = zI ((dB D n).length : Int) ∧ Fp (pIt n) M (am_setI M2 93 n (zI ((dB D n).length : Int))) ∧ WM M2 ∧ M2.2.1 93 n = zI ((dB D n).length : Int) := fun M2 F2 => by
    refine ⟨fun i hi => ?_, setI_self, (F2.up (fun a j q => Or.inl q)).tr (Fp.set (Or.inr (Or.inr ⟨rfl, rfl⟩))), F2.WM hW, by rw [F2.2.2 _ _ (fun q => by unfold gU at q; omega)]; exact w2⟩
    rw [setI_cell (by decide), F2.2.2 _ _ (fun q => by unfold gU at q; omega)]
    exact w1 i hi
  have a8 : am_okA M1 (91 + 8) 1 (zI (n : Int)) = true := okA_z W1 (show sg0[91 + 8]? = some (.inr (1, 16)) from rfl) (by omega) (by omega)
  rcases mm with ⟨mt, mv⟩ | ⟨mt, mv⟩
  · -- it matches
    have H1 : opH M1 (dB D n) (nds (dB D n)) S.typ S.buf := ⟨in1, wk1, h.2.2.1.kx (fU.x hW) (fun q => by unfold gU at q; omega) (fun i _ _ q => by unfold gU at q; omega), h.2.1.kx (fU.x hW) (fun a j q => by unfold gU at q; omega)⟩
    obtain ⟨x, M2, m2, r2, f2⟩ := e_M_operate (G := G) (d := d + 5) (op := op) hrd o2 H1 hH.2.2.1 hH.2.2.2.1 hq
    have F2 := fU.tr f2
    have W2 := F2.WM hW
    have st2 : ∀ r, EvC G (d + 10) m_M_change 201 [some (.ref 91), some (.int (zI op)), some (.int x2), some (.int x3), some (.int (zI (t : Int))), some (.int (zI (n : Int))), some (.int (zI ((dB D n).length : Int))), none] [.int x] M2 r → True := fun _ _ => trivial
    have st2 : ∀ r, (∀ u7 : Option Value, EvC G (d + 10) m_M_change 201 [some (.ref 91), some (.int (zI op)), some (.int x2), some (.int x3), some (.int (zI (t : Int))), some (.int (zI (n : Int))), some (.int (zI ((dB D n).length : Int))), u7] [.int x] M2 r) → ∀ u6 u7 : Option Value, EvC G (d + 10) m_M_change 124 [some (.ref 91), some (.int (zI op)), some (.int x2), some (.int x3), some (.int (zI (t : Int))), some (.int (zI (n : Int))), u6, u7] [] M r := fun r hr => st r (fun u7 => by
      refine ev_M_change_147 ?_
      rw [k1', if_neg (fun q => by rw [zI_lt ⟨by omega, by omega⟩ ⟨by omega, by omega⟩] at q; omega), zI_nat (show n < 2147483648 by omega), show M1.2.1 (91 + 8) n = _ from mv, zI_0, if_neg z10]
      exact ⟨okF_W W1 rfl, okF_W W1 rfl, a8, okO_W W1 rfl, _, _, m2, hr u7⟩)
    -- where the operator has done its work, but the result may be refused
    have tail : ∀ C : List Int, x = zI 1 → wkI M2 C → C.length ≤ 300 → (C.length ≤ 60 → okB C) → (∀ g', rdD C = .inl g' → newD (dB D n) S.typ S.buf op = (false, dB D n)) → (¬ C.length ≤ 60 → newD (dB D n) S.typ S.buf op = (false, dB D n)) → (∀ N', rdD C = .inr N' → C.length ≤ 60 → newD (dB D n) S.typ S.buf op = (true, C)) →
        ∃ (M' : Mm_) (C : List Int) (g : Nat), ((mtc S n ∧ C = (newD (dB D n) S.typ S.buf op).2 ∧ g = if (newD (dB D n) S.typ S.buf op).1 = true then 1 else 0) ∨ (¬ mtc S n ∧ C = dB D n ∧ g = 0)) ∧ mAt M' (64 * n) C ∧ M'.2.1 93 n = zI (C.length : Int) ∧ Fp (pIt n) M M' ∧ ∀ r, (∀ u6 u7 : Option Value, EvC G (d + 10) m_M_change 124 [some (.ref 91), some (.int (zI op)), some (.int x2), some (.int x3), some (.int (zI ((t + g : Nat) : Int))), some (.int (zI ((n + 1 : Nat) : Int))), u6, u7] [] M' r) → ∀ u6 u7 : Option Value, EvC G (d + 10) m_M_change 124 [some (.ref 91), some (.int (zI op)), some (.int x2), some (.int x3), some (.int (zI (t : Int))), some (.int (zI (n : Int))), u6, u7] [] M r := fun C hx hC h200 hok c1 c2 c3 => by
      by_cases cl : C.length ≤ 60
      · have in2 : mIn M2 1408 C := ⟨W2, hok cl, hC.2, by omega⟩
        obtain ⟨M3, e3, f3⟩ := e_M_read_doc (G := G) (d := d + 6) in2
        have F3 : Fp gU M M3 := F2.tr (f3.up (fun a j q => by unfold pRd at q; unfold gU; omega))
        have pre : ∀ r, EvC G (d + 10) m_M_change 229 [some (.ref 91), some (.int (zI op)), some (.int x2), some (.int x3), some (.int (zI (t : Int))), some (.int (zI (n : Int))), some (.int (zI ((dB D n).length : Int))), none] [.int (zI (fo 1408 (rdD C)))] M3 r → True := fun _ _ => trivial
        have pre : ∀ r, (∀ u7 : Option Value, EvC G (d + 10) m_M_change 229 [some (.ref 91), some (.int (zI op)), some (.int x2), some (.int x3), some (.int (zI (t : Int))), some (.int (zI (n : Int))), some (.int (zI ((dB D n).length : Int))), u7] [.int (zI (fo 1408 (rdD C)))] M3 r) → ∀ u6 u7 : Option Value, EvC G (d + 10) m_M_change 124 [some (.ref 91), some (.int (zI op)), some (.int x2), some (.int x3), some (.int (zI (t : Int))), some (.int (zI (n : Int))), u6, u7] [] M r := fun r hr => st2 r (fun u7 => by
          refine ev_M_change_201 ?_
          rw [hx, zI_0, if_neg z10, hC.1, if_neg (fun q => by rw [zI_lt ⟨by omega, by omega⟩ ⟨by omega, by omega⟩] at q; omega), zI_add]
          exact ⟨okF_W W2 rfl, okF_W W2 rfl, okO_W W2 rfl, _, _, e3, hr u7⟩)
        cases hr : rdD C with
        | inl g' =>
          have gl := rdD_fl hr
          have en := c1 g' hr
          obtain ⟨s1, s2, s3, s4, s5⟩ := stay M3 F3
          refine ⟨_, dB D n, 0, Or.inl ⟨mt, by rw [en], by rw [en]; rfl⟩, s1, s2, s3, fun r hr' => pre r (fun u7 => ev_M_change_229 ?_)⟩
          have e0 : fo 1408 (.inl g') = ((1408 : Nat) : Int) + (g' : Int) := rfl
          rw [hr, e0, zI_0, if_neg (fun q => by rw [zI_lt ⟨by omega, by omega⟩ ⟨by omega, by omega⟩] at q; omega)]
          exact no M3 s4 s5 r hr'
        | inr N' =>
          have en := c3 N' hr cl
          have wk3 : wkI M3 C := hC.kp f3 (fun a j q w => by unfold pRd at q; unfold pSp at w; omega)
          have W3 := F3.WM hW
          obtain ⟨M4, b4, wk4, f4, k4⟩ := co_l (G := G) (d := d + 10) (x1 := zI op) (x2 := x2) (x3 := x3) (x4 := zI (t : Int)) (n := n) (by omega) cl C.length 0 M3 (Nat.zero_add _) W3 wk3 (fun i hi => by omega)
          have W4 := f4.WM W3
          have F4 : Fp (pIt n) M M4 := (F3.up (fun a j q => Or.inl q)).tr (f4.up (fun a j q => Or.inr (Or.inl q)))
          refine ⟨am_setI M4 93 n (zI (C.length : Int)), C, 1, Or.inl ⟨mt, by rw [en], by rw [en]; rfl⟩, fun i hi => by rw [setI_cell (by decide)]; exact b4 i hi, setI_self, F4.tr (Fp.set (Or.inr (Or.inr ⟨rfl, rfl⟩))), fun r hr' => pre r (fun u7 => ev_M_change_229 ?_)⟩
          rw [hr, show zI (fo 1408 (.inr N')) = zI (-1) from rfl, zI_0, if_pos ((zI_lt ⟨by omega, by omega⟩ ⟨by omega, by omega⟩).mpr (by omega)), ← zI_0]
          refine k4 r (ev_M_change_286 ?_)
          rw [zI_0, if_neg z10, wk4.1]
          refine ⟨okF_W W4 rfl, okF_W W4 rfl, ev_M_change_311 ?_⟩
          rw [zI_0, if_neg z10, zI_nat (show n < 2147483648 by omega), e1, zI_add, show (t : Int) + 1 = ((t + 1 : Nat) : Int) by omega]
          exact ⟨okA_z W4 (show sg0[91 + 2]? = some (.inr (0, 16)) from rfl) (by omega) (by omega), hr' _ _⟩
      · have en := c2 cl
        obtain ⟨s1, s2, s3, s4, s5⟩ := stay M2 F2
        refine ⟨_, dB D n, 0, Or.inl ⟨mt, by rw [en], by rw [en]; rfl⟩, s1, s2, s3, fun r hr' => st2 r (fun u7 => ev_M_change_201 ?_)⟩
        rw [hx, zI_0, if_neg z10, hC.1, if_pos ((zI_lt ⟨by omega, by omega⟩ ⟨by omega, by omega⟩).mpr (by omega))]
        exact ⟨okF_W W2 rfl, no M2 s4 s5 r hr'⟩
    cases ho : opE (dB D n) S.typ S.buf op with
    | none =>
      rw [ho] at r2
      have r2 : x = zI 0 := r2
      have en : newD (dB D n) S.typ S.buf op = (false, dB D n) := by unfold newD; rw [ho]; rfl
      obtain ⟨s1, s2, s3, s4, s5⟩ := stay M2 F2
      refine ⟨_, dB D n, 0, Or.inl ⟨mt, by rw [en], by rw [en]; rfl⟩, s1, s2, s3, fun r hr' => st2 r (fun u7 => ev_M_change_201 ?_)⟩
      rw [r2, zI_0, if_pos rfl, ← zI_0]
      exact no M2 s4 s5 r hr'
    | some o =>
      cases o with
      | none =>
        rw [ho] at r2
        have r2 : x = zI 1 ∧ wkI M2 (dB D n) := r2
        have en : newD (dB D n) S.typ S.buf op = (true, dB D n) := by unfold newD; rw [ho]; rfl
        exact tail (dB D n) r2.1 r2.2 (by omega) (fun _ => o3) (fun g' hg => by rw [hrd] at hg; cases hg) (fun q => absurd o2 q) (fun _ _ _ => en)
      | some R =>
        rw [ho] at r2
        have r2 : x = zI 1 ∧ wkI M2 R := r2
        have en : newD (dB D n) S.typ S.buf op = match rdD R with
            | .inl _ => (false, dB D n)
            | .inr _ => if R.length ≤ 60 then (true, R) else (false, dB D n) := by unfold newD; rw [ho]; rfl
        refine tail R r2.1 r2.2 ?_ (fun cl => opE_ok hrd o2 o3 hH.1 hH.2.1 hH.2.2.1 hH.2.2.2.1 hH.2.2.2.2.1 hH.2.2.2.2.2 ho cl) (fun g' hg => by rw [en, hg]) (fun q => ?_) (fun N' hN cl => by rw [en, hN]; exact if_pos cl)
        · exact opE_len hrd o2 hH.1 hH.2.1 hH.2.2.1 hH.2.2.2.1 hH.2.2.2.2.2 ho
        · rw [en]
          cases rdD R with
          | inl g => rfl
          | inr N' => exact if_neg q
  · obtain ⟨s1, s2, s3, s4, s5⟩ := stay M1 fU
    refine ⟨_, dB D n, 0, Or.inr ⟨mt, rfl, rfl⟩, s1, s2, s3, fun r hr' => st r (fun u7 => ev_M_change_147 ?_)⟩
    rw [k1', if_neg (fun q => by rw [zI_lt ⟨by omega, by omega⟩ ⟨by omega, by omega⟩] at q; omega), zI_nat (show n < 2147483648 by omega), show M1.2.1 (91 + 8) n = _ from mv, zI_0, if_pos rfl, ← zI_0]
    exact ⟨okF_W W1 rfl, okF_W W1 rfl, a8, no M1 s4 s5 r hr'⟩
theorem mst_up {D D' : List Dc} {C : List Int} {n : Nat} {M M' : Mm_} (h : mSto M D) (hD : okD D) (hn : n < D.length) (F : Fp (pIt n) M M') (b : mAt M' (64 * n) C) (l : M'.2.1 93 n = zI (C.length : Int)) (e1 : D'.length = D.length) (e2 : ∀ k, dN D' k = dN D k) (e3 : ∀ k, dB D' k = if k = n then C else dB D k) : mSto M' D' := by
  obtain ⟨h1, h2, h3⟩ := h
  refine ⟨by omega, by rw [e1, F.2.2 _ _ (fun q => by unfold pIt gU at q; omega)]; exact h2, fun k hk => ?_⟩
  rw [e1] at hk
  obtain ⟨w1, w2, w3⟩ := h3 k hk
  have o2 := (hD.1 k hk).2.1
  rw [e2, e3]
  by_cases c : k = n
  · rw [if_pos c, c]
    rw [c] at w3
    exact ⟨b, l, by rw [F.2.2 _ _ (fun q => by unfold pIt gU at q; omega)]; exact w3⟩
  · rw [if_neg c]
    exact ⟨fun i hi => by rw [F.2.2 _ _ (fun q => by unfold pIt gU at q; omega)]; exact w1 i hi, by rw [F.2.2 _ _ (fun q => by unfold pIt gU at q; omega)]; exact w2, by rw [F.2.2 _ _ (fun q => by unfold pIt gU at q; omega)]; exact w3⟩
theorem mch_l {op : Int} {x2 x3 : Int32} (hH : okH S op) (hq : op = 1 ∨ (okQ S.buf ∧ (isC (by_ S.buf 0) → 0 ≤ by_ S.buf 1))) (hl : S.docs.length ≤ 16) : ∀ (m n : Nat) (M : Mm_), n + m = S.docs.length → okD ((mL S n).foldl (stC S op) (S.docs, 0)).1 → ((mL S n).foldl (stC S op) (S.docs, 0)).1.length = S.docs.length → RepM M ((sk S).sD ((mL S n).foldl (stC S op) (S.docs, 0)).1) → mMt M S S.docs.length → ∃ M', (∀ u6 u7 : Option Value, EvC G (d + 10) m_M_change 124 [some (.ref 91), some (.int (zI op)), some (.int x2), some (.int x3), some (.int (zI ((((mL S n).foldl (stC S op) (S.docs, 0)).2 : Nat) : Int))), some (.int (zI (n : Int))), u6, u7] [] M (some (.int (zI ((chZ S op).2 : Int))), M')) ∧ RepM M' (((sk S).sD (chZ S op).1).sB []) ∧ Fx gM M M'
  | 0, n, M, hn, hD, hDl, h, hM => by
    have hW := h.1
    have en : S.docs.length = n := by omega
    have ez : (mL S n).foldl (stC S op) (S.docs, 0) = chZ S op := by unfold chZ; rw [en]
    rw [ez] at h hD hDl ⊢
    have f : Fx (fun a j => a = 91 ∧ j = 1) M (am_setI M 91 1 (zI 0)) := Fx.setI hW ⟨rfl, rfl⟩
    have d2 : M.2.1 91 2 = zI ((chZ S op).1.length : Int) := h.2.2.2.1.2.1
    refine ⟨am_setI M 91 1 (zI 0), fun u6 u7 => ev_M_change_124 ?_, ?_, f.up (fun a j q => by unfold gM; omega)⟩
    · rw [d2, if_neg (fun q => by rw [zI_lt ⟨by omega, by omega⟩ ⟨by omega, by omega⟩] at q; omega)]
      exact ⟨okF_W hW rfl, okP_W hW rfl rfl, rfl⟩
    · obtain ⟨g0, g1, g2, g3, g4, g5, g6, g7⟩ := h
      exact ⟨f.1, ⟨Nat.zero_le _, setI_self, fun i hi => (by cases hi), fun i hi => (by cases hi)⟩, g2.kx f (fun q => by omega) (fun i _ _ q => by omega), g3.kx hD f (fun a j q => by omega), g4.kx f (fun a j q => by omega), g5.kx f (fun a j q => by omega), g6.kx f (fun a j q => by omega), by rw [f.2.2 _ _ (fun q => by omega)]; exact g7⟩
  | m + 1, n, M, hn, hD, hDl, h, hM => by
    have hW := h.1
    obtain ⟨M1, C, g, cs, b1, l1, F1, k1⟩ := ch_it (G := G) (d := d) (t := ((mL S n).foldl (stC S op) (S.docs, 0)).2) (x2 := x2) (x3 := x3) (n := n) hH hq hD (by omega) hDl h hM
    have F1x := F1.x hW
    have hnn : n < ((mL S n).foldl (stC S op) (S.docs, 0)).1.length := by omega
    -- the next fold
    have nx : ((mL S (n + 1)).foldl (stC S op) (S.docs, 0)).2 = ((mL S n).foldl (stC S op) (S.docs, 0)).2 + g ∧ ((mL S (n + 1)).foldl (stC S op) (S.docs, 0)).1.length = ((mL S n).foldl (stC S op) (S.docs, 0)).1.length ∧ (∀ k, dN ((mL S (n + 1)).foldl (stC S op) (S.docs, 0)).1 k = dN ((mL S n).foldl (stC S op) (S.docs, 0)).1 k) ∧ (∀ k, dB ((mL S (n + 1)).foldl (stC S op) (S.docs, 0)).1 k = if k = n then C else dB ((mL S n).foldl (stC S op) (S.docs, 0)).1 k) ∧ okD ((mL S (n + 1)).foldl (stC S op) (S.docs, 0)).1 := by
      rcases cs with ⟨mt, hC, hg⟩ | ⟨mt, hC, hg⟩
      · have e : (mL S (n + 1)).foldl (stC S op) (S.docs, 0) = stC S op ((mL S n).foldl (stC S op) (S.docs, 0)) n := by
          rw [(mL_succ (S := S) (k := n)).1 mt, List.foldl_append]
          rfl
        rw [e]
        refine ⟨by rw [hg]; rfl, stD_len, fun k => stD_N hnn, fun k => ?_, stD_ok hH hD hnn⟩
        rw [hC]
        exact stD_B hnn
      · have e : mL S (n + 1) = mL S n := (mL_succ (S := S) (k := n)).2 mt
        rw [e]
        refine ⟨by rw [hg]; rfl, rfl, fun k => rfl, fun k => ?_, hD⟩
        by_cases c : k = n
        · rw [if_pos c, hC, c]
        · rw [if_neg c]
    obtain ⟨n1, n2, n3, n4, n5⟩ := nx
    have s1 : mSto M1 ((mL S (n + 1)).foldl (stC S op) (S.docs, 0)).1 := mst_up h.2.2.2.1 hD hnn F1 b1 l1 n2 n3 n4
    have h1 : RepM M1 ((sk S).sD ((mL S (n + 1)).foldl (stC S op) (S.docs, 0)).1) := by
      have b : mBuf M1 S.buf := h.2.1.kx F1x (fun a j q => by unfold pIt gU at q; omega)
      exact RepM.sb (S := (sk S).sD ((mL S n).foldl (stC S op) (S.docs, 0)).1) h F1x (fun a j q => by unfold pIt gU at q; unfold gV; omega) s1 b
    have m1 : mMt M1 S S.docs.length := fun i hi => by rw [F1.2.2 _ _ (fun q => by unfold pIt gU at q; omega)]; exact hM i hi
    obtain ⟨M2, e2, h2, f2⟩ := mch_l (x2 := x2) (x3 := x3) hH hq hl m (n + 1) M1 (by omega) n5 (by rw [n2]; exact hDl) h1 m1
    rw [n1] at e2
    exact ⟨M2, fun u6 u7 => k1 _ e2 u6 u7, h2, (F1x.up (fun a j q => by unfold pIt gU at q; unfold gM; omega)).tr f2⟩
theorem id_let {ls : List Int} (h : isN ls) : (ls.getD 0 0 = 105 ∧ ls.getD 1 0 = 100 ∧ ls.getD 2 0 = 0) ↔ pk ls = 26980 := by
  constructor
  · rintro ⟨h0, h1, h2⟩
    have e : ls = [105, 100] := by
      match ls, h, h0, h1, h2 with
      | [], h, h0, _, _ => exact absurd h0 (by decide)
      | [a], h, h0, h1, _ => exact absurd h1 (by show ¬ (0 : Int) = 100; decide)
      | [a, b], h, h0, h1, _ =>
        have h0 : a = 105 := h0
        have h1 : b = 100 := h1
        rw [h0, h1]
      | a :: b :: c :: r, h, h0, h1, h2 =>
        have h2 : c = 0 := h2
        have := h.2.2 c (by simp)
        omega
    rw [e]
    decide
  · intro hp
    have e : ls = [105, 100] := pk_inj h.2.2 (by decide) (hp.trans (by decide))
    rw [e]
    decide
theorem e_M_change {M : Mm_} {op : Int} (h : RepM M S) (hO : Ok S) (hop : rg op) : ∃ M', Ev G (d + 10) 135 [.ref 91, .int (zI op)] M (some (.int (zI (sp_change S op).1)), M') ∧ RepM M' (sp_change S op).2 ∧ Fx gM M M' := by
  have hW := h.1
  have hb := h.2.1
  have hbl := hb.1
  have hpl := h.2.2.1.1
  have hdl : S.docs.length ≤ 16 := h.2.2.2.1.1
  have z2 : (zI 2).toNatClampNeg = 2 := by decide +kernel
  have z24 : (zI 24).toNatClampNeg = 24 := by decide +kernel
  have z25 : (zI 25).toNatClampNeg = 25 := by decide +kernel
  have z26 : (zI 26).toNatClampNeg = 26 := by decide +kernel
  have core : ∀ (M1 : Mm_) (y0 : Int), RepM M1 S → y0 = -1 → (op = 1 ∨ (okQ S.buf ∧ (isC (by_ S.buf 0) → 0 ≤ by_ S.buf 1))) → ∃ M', EvC G (d + 10) m_M_change 25 [some (.ref 91), some (.int (zI op)), none, none, none, none, none, none] [.int (zI y0)] M1 (some (.int (zI (chK S op).1)), M') ∧ RepM M' (chK S op).2 ∧ Fx gM M1 M' := fun M1 y0 h1 hy hq => by
    subst hy
    have W1 := h1.1
    have t1 : M1.2.1 (91 + 4) 2 = zI (S.typ.length : Int) := h1.2.2.1.2.1
    have a4 : am_okA M1 (91 + 4) 0 (zI 2) = true := okA_W W1 (show sg0[91 + 4]? = some (.inr (0, 6)) from rfl) (zI_in (by omega) (by omega) (by omega))
    -- from 94 on
    have s94 : ∀ (x3 : Int), (x3 = 1 ∧ isId S) ∨ (x3 = 0 ∧ ¬ isId S) → ∃ M', (∃ x', Ev G (d + 9) 87 [.int (zI op), .int (zI 0), .int (zI 4)] M1 (some (.int x'), M1) ∧ EvC G (d + 10) m_M_change 94 [some (.ref 91), some (.int (zI op)), some (.int (zI (-1))), some (.int (zI x3)), none, none, none, none] [.int x'] M1 (some (.int (zI (chK S op).1)), M')) ∧ RepM M' (chK S op).2 ∧ Fx gM M1 M' := fun x3 hx => by
      unfold chK
      by_cases co : 0 ≤ op ∧ op ≤ 4
      · have pre : ∀ r, (if zI (S.typ.length : Int) = zI 0 then r = ((some (.int (zI (-1000))), M1) : Out_) else (if zI x3 = zI 0 then (am_okO M1 91 8 = true ∧ (∃ M', Ev G (d + 9) 125 [.ref 91] M1 (none, M') ∧ EvC G (d + 10) m_M_change 118 [some (.ref 91), some (.int (zI op)), some (.int (zI (-1))), some (.int (zI x3)), none, none, none, none] [] M' r)) else r = ((some (.int (zI (-1000))), M1) : Out_))) → ∃ x', Ev G (d + 9) 87 [.int (zI op), .int (zI 0), .int (zI 4)] M1 (some (.int x'), M1) ∧ EvC G (d + 10) m_M_change 94 [some (.ref 91), some (.int (zI op)), some (.int (zI (-1))), some (.int (zI x3)), none, none, none, none] [.int x'] M1 r := fun r hr => by
          refine ⟨_, e_M_in_t hop ⟨by omega, by omega⟩ ⟨by omega, by omega⟩ co, ev_M_change_94 ?_⟩
          rw [zI_0, if_neg z10, z2, t1]
          exact ⟨okF_W W1 rfl, a4, hr⟩
        by_cases ct : S.typ.length = 0
        · rw [if_neg (dcd_f (show ¬ (0 ≤ op ∧ op ≤ 4 ∧ 0 < S.typ.length ∧ ¬ isId S) from fun q => by omega))]
          refine ⟨M1, pre _ ?_, h1, Fx.rf W1⟩
          rw [ct, if_pos (show zI ((0 : Nat) : Int) = zI 0 from rfl)]
        · have nt := zI_ne (a := (S.typ.length : Int)) (b := 0) ⟨by omega, by omega⟩ ⟨by omega, by omega⟩ (by omega)
          rcases hx with ⟨rfl, hi⟩ | ⟨rfl, hi⟩
          · rw [if_neg (dcd_f (show ¬ (0 ≤ op ∧ op ≤ 4 ∧ 0 < S.typ.length ∧ ¬ isId S) from fun q => q.2.2.2 hi))]
            refine ⟨M1, pre _ ?_, h1, Fx.rf W1⟩
            rw [if_neg nt, if_neg z10]
          · rw [if_pos (dcd_t (show 0 ≤ op ∧ op ≤ 4 ∧ 0 < S.typ.length ∧ ¬ isId S from ⟨co.1, co.2, by omega, hi⟩))]
            have hH : okH S op := ⟨h1.2.2.1.2.2.2, hpl, by omega, co, by
              rcases hq with q | q
              · exact Or.inl q
              · exact Or.inr ⟨hb.2.2.2, by_lt (by have := q.1.2.1; omega)⟩, hbl⟩
            obtain ⟨M2, e2, h2, m2, f2⟩ := e_M_match (G := G) (d := d) h1 hO
            have f2c : Fx gM M1 M2 := f2.up (fun a j q => by unfold pMx gV at q; unfold gM; omega)
            obtain ⟨M3, e3, h3, f3⟩ := mch_l (G := G) (d := d) (x2 := zI (-1)) (x3 := zI 0) hH hq hdl S.docs.length 0 M2 (Nat.zero_add _) hO.1 rfl h2 m2
            refine ⟨M3, pre _ ?_, h3, f2c.tr f3⟩
            rw [if_neg nt, if_pos rfl]
            exact ⟨okO_W W1 rfl, _, e2, ev_M_change_118 (e3 _ _)⟩
      · rw [if_neg (dcd_f (show ¬ (0 ≤ op ∧ op ≤ 4 ∧ 0 < S.typ.length ∧ ¬ isId S) from fun q => co ⟨q.1, q.2.1⟩))]
        refine ⟨M1, ⟨_, e_M_in_f hop ⟨by omega, by omega⟩ ⟨by omega, by omega⟩ co, ev_M_change_94 ?_⟩, h1, Fx.rf W1⟩
        rw [zI_0, if_pos rfl]
    have pre25 : ∀ r, (if zI (S.typ.length : Int) = zI 1 then ((am_okF M1 91 8 6) = true ∧ ((am_okA M1 (91 + 5) 0 (zI 24)) = true ∧ (if (M1.2.1 (91 + 5) 24) = (zI 105) then ((am_okF M1 91 8 6) = true ∧ ((am_okA M1 (91 + 5) 0 (zI 25)) = true ∧ (if (M1.2.1 (91 + 5) 25) = (zI 100) then ((am_okF M1 91 8 6) = true ∧ ((am_okA M1 (91 + 5) 0 (zI 26)) = true ∧ (if (M1.2.1 (91 + 5) 26) = zI 0 then (∃ x' M', Ev G (d + 9) 87 [.int (zI op), .int (zI 0), .int (zI 4)] M1 (some (.int x'), M') ∧ EvC G (d + 9 + 1) m_M_change 94 [some (.ref 91), some (.int (zI op)), some (.int (zI (-1))), some (.int (zI 1)), none, none, none, none] (.int x' :: []) M' r) else (EvC G (d + 9 + 1) m_M_change 86 [some (.ref 91), some (.int (zI op)), some (.int (zI (-1))), none, none, none, none, none] [] M1 r)))) else (EvC G (d + 9 + 1) m_M_change 86 [some (.ref 91), some (.int (zI op)), some (.int (zI (-1))), none, none, none, none, none] [] M1 r)))) else (EvC G (d + 9 + 1) m_M_change 86 [some (.ref 91), some (.int (zI op)), some (.int (zI (-1))), none, none, none, none, none] [] M1 r)))) else (EvC G (d + 9 + 1) m_M_change 86 [some (.ref 91), some (.int (zI op)), some (.int (zI (-1))), none, none, none, none, none] [] M1 r)) → EvC G (d + 10) m_M_change 25 [some (.ref 91), some (.int (zI op)), none, none, none, none, none, none] [.int (zI (-1))] M1 r := fun r hr => by
      refine ev_M_change_25 ?_
      rw [zI_0, if_pos ((zI_lt ⟨by omega, by omega⟩ ⟨by omega, by omega⟩).mpr (by omega)), z2, t1, z24, z25, z26]
      exact ⟨okF_W W1 rfl, a4, hr⟩
    have a5 : ∀ v : Int, 0 ≤ v → v < 72 → am_okA M1 (91 + 5) 0 (zI v) = true := fun v h1 h2 => okA_W W1 (show sg0[91 + 5]? = some (.inr (0, 72)) from rfl) (zI_in h1 (by omega) (by omega))
    by_cases t1' : S.typ.length = 1
    · have hls := getN h1.2.2.1.2.2.2 (show 0 < S.typ.length by omega)
      have lt := mPth_let h1.2.2.1 (show 0 < S.typ.length by omega)
      have v0 : M1.2.1 (91 + 5) 24 = zI ((S.typ.getD 0 []).getD 0 0) := lt 0 (by omega)
      have v1 : M1.2.1 (91 + 5) 25 = zI ((S.typ.getD 0 []).getD 1 0) := lt 1 (by omega)
      have v2 : M1.2.1 (91 + 5) 26 = zI ((S.typ.getD 0 []).getD 2 0) := lt 2 (by omega)
      have lr : ∀ j : Nat, rg ((S.typ.getD 0 []).getD j 0) := fun j => by
        rw [List.getD_eq_getElem?_getD (l := S.typ.getD 0 [])]
        cases e : (S.typ.getD 0 [])[j]? with
        | none => exact ⟨by decide, by decide⟩
        | some y =>
          have := hls.2.2 y (List.mem_of_getElem? e)
          exact ⟨by rw [Option.getD_some]; omega, by rw [Option.getD_some]; omega⟩
      have idl := id_let hls
      have no : ¬ isId S → ∃ M', EvC G (d + 10) m_M_change 86 [some (.ref 91), some (.int (zI op)), some (.int (zI (-1))), none, none, none, none, none] [] M1 (some (.int (zI (chK S op).1)), M') ∧ RepM M' (chK S op).2 ∧ Fx gM M1 M' := fun hi => by
        obtain ⟨M', ⟨x', w1, w2⟩, h', f'⟩ := s94 0 (Or.inr ⟨rfl, hi⟩)
        exact ⟨M', ev_M_change_86 ⟨x', M1, w1, w2⟩, h', f'⟩
      by_cases i0 : (S.typ.getD 0 []).getD 0 0 = 105
      · by_cases i1 : (S.typ.getD 0 []).getD 1 0 = 100
        · by_cases i2 : (S.typ.getD 0 []).getD 2 0 = 0
          · obtain ⟨M', ⟨x', w1, w2⟩, h', f'⟩ := s94 1 (Or.inl ⟨rfl, t1', idl.mp ⟨i0, i1, i2⟩⟩)
            refine ⟨M', pre25 _ ?_, h', f'⟩
            rw [t1', if_pos (show zI ((1 : Nat) : Int) = zI 1 from rfl), v0, v1, v2, if_pos (by rw [i0]), if_pos (by rw [i1]), if_pos (by rw [i2])]
            exact ⟨okF_W W1 rfl, a5 24 (by omega) (by omega), okF_W W1 rfl, a5 25 (by omega) (by omega), okF_W W1 rfl, a5 26 (by omega) (by omega), x', M1, w1, w2⟩
          · obtain ⟨M', e', h', f'⟩ := no (fun q => i2 (idl.mpr q.2).2.2)
            refine ⟨M', pre25 _ ?_, h', f'⟩
            rw [t1', if_pos (show zI ((1 : Nat) : Int) = zI 1 from rfl), v0, v1, v2, if_pos (by rw [i0]), if_pos (by rw [i1]), if_neg (zI_ne (lr 2) ⟨by omega, by omega⟩ i2)]
            exact ⟨okF_W W1 rfl, a5 24 (by omega) (by omega), okF_W W1 rfl, a5 25 (by omega) (by omega), okF_W W1 rfl, a5 26 (by omega) (by omega), e'⟩
        · obtain ⟨M', e', h', f'⟩ := no (fun q => i1 (idl.mpr q.2).2.1)
          refine ⟨M', pre25 _ ?_, h', f'⟩
          rw [t1', if_pos (show zI ((1 : Nat) : Int) = zI 1 from rfl), v0, v1, if_pos (by rw [i0]), if_neg (zI_ne (lr 1) ⟨by omega, by omega⟩ i1)]
          exact ⟨okF_W W1 rfl, a5 24 (by omega) (by omega), okF_W W1 rfl, a5 25 (by omega) (by omega), e'⟩
      · obtain ⟨M', e', h', f'⟩ := no (fun q => i0 (idl.mpr q.2).1)
        refine ⟨M', pre25 _ ?_, h', f'⟩
        rw [t1', if_pos (show zI ((1 : Nat) : Int) = zI 1 from rfl), v0, if_neg (zI_ne (lr 0) ⟨by omega, by omega⟩ i0)]
        exact ⟨okF_W W1 rfl, a5 24 (by omega) (by omega), e'⟩
    · obtain ⟨M', ⟨x', w1, w2⟩, h', f'⟩ := s94 0 (Or.inr ⟨rfl, fun q => t1' q.1⟩)
      refine ⟨M', pre25 _ ?_, h', f'⟩
      rw [if_neg (zI_ne ⟨by omega, by omega⟩ ⟨by omega, by omega⟩ (by omega))]
      exact ev_M_change_86 ⟨x', M1, w1, w2⟩
  unfold sp_change
  by_cases o1 : op = 1
  · rw [if_pos o1]
    obtain ⟨M', e, h', f⟩ := core M (-1) h rfl (Or.inl o1)
    refine ⟨M', ev_of (q := mt_M_change) rfl (ev_M_change_0 ?_), h', f⟩
    rw [if_pos (by rw [o1])]
    exact e
  · rw [if_neg o1]
    obtain ⟨M1, e1, f1⟩ := e_M_read_opd (G := G) (d := d + 6) (hb.in_ hW)
    have f1x := (f1.x hW).up (fun a j q => pRd_gV q)
    have h1 := h.k hO f1x (fun a j q => Or.inl q)
    have F1 : Fx gM M M1 := f1x.up (fun a j q => gV_M q)
    have pre : ∀ r, EvC G (d + 10) m_M_change 25 [some (.ref 91), some (.int (zI op)), none, none, none, none, none, none] [.int (zI (fo 1024 (rdQ S.buf)))] M1 r → Ev G (d + 10) 135 [.ref 91, .int (zI op)] M r := fun r hr => by
      refine ev_of (q := mt_M_change) rfl (ev_M_change_0 ?_)
      rw [if_neg (zI_ne hop ⟨by omega, by omega⟩ o1), hb.2.1, zI_add]
      exact ⟨okF_W hW rfl, okO_W hW rfl, _, _, e1, hr⟩
    cases hrd : rdQ S.buf with
    | inl g =>
      have gl := rdQ_fl hrd
      refine ⟨M1, pre _ (ev_M_change_25 ?_), h1, F1⟩
      have e0 : fo 1024 (.inl g) = ((1024 : Nat) : Int) + (g : Int) := rfl
      rw [hrd, zI_0, e0, if_neg (fun q => by rw [zI_lt ⟨by omega, by omega⟩ ⟨by omega, by omega⟩] at q; omega), zI_sub, zI_sub, show (-1 : Int) - (((1024 : Nat) : Int) + (g : Int) - 1024) = -1 - (g : Int) by omega]
    | inr N =>
      obtain ⟨M', e, h', f⟩ := core M1 (-1) h1 rfl (Or.inr ⟨okQ_of hrd hbl, okC_of hrd⟩)
      refine ⟨M', pre _ ?_, h', F1.tr f⟩
      rw [hrd]
      exact e
end MCHG
