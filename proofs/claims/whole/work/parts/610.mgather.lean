/-! THE REFERENCE: come, gather -/
def pCm (a j : Nat) : Prop := (a = 91 ∧ j = 13) ∨ (100 ≤ a ∧ a ≤ 103)
theorem pNx_Cm {a j : Nat} (h : pNx a j) : pCm a j := by unfold pNx at h; unfold pCm; omega
theorem pTn_Cm {a j : Nat} (h : pTn a j) : pCm a j := by unfold pTn at h; unfold pCm; omega
theorem flat_sing : ∀ l : List Nat, l.flatMap (fun j => [j]) = l
  | [] => rfl
  | a :: r => by rw [List.flatMap_cons, flat_sing r]; rfl
theorem getD_mid {L done rest : List Nat} {k : Nat} (h : L = done ++ k :: rest) : L.getD done.length 0 = k := by
  subst h
  rw [List.getD_eq_getElem?_getD, List.getElem?_append_right (Nat.le_refl _), Nat.sub_self]
  rfl
section MGATHER
variable {G : Nat × (Nat → Int32)} {d o : Nat} {B : List Int} {N : List Nd}
theorem mIn.cm {M M' : Mm_} (h : mIn M o B) (f : Fp pCm M M') : mIn M' o B := h.keptp f (fun i _ => by unfold pCm; omega)
theorem mPth.cm {M M' : Mm_} {j : Nat} {P : List (List Int)} (h : mPth M j P) (f : Fp pCm M M') : mPth M' j P := h.keptp f (by unfold pCm; omega) (fun i _ _ => by unfold pCm; omega)
theorem come_in {i j : Nat} {P : List (List Int)} {x1 : Int32} {L : List Nat} (hA : Acc B 3 0 N) (hj : j < 6) (hi : i < P.length) (hLN : ∀ k ∈ L, k < N.length) (hLl : L.length ≤ 128) (hl : (L.flatMap (stepN N ((pks P).getD i 0))).length ≤ 128) : ∀ (rest done : List Nat) (M : Mm_), L = done ++ rest → mIn M o B → mPth M j P → cur M o N L → nxt M o N (done.flatMap (stepN N ((pks P).getD i 0))) →
    ∃ M1, (∀ R, EvC G (d + 5) m_M_come 111 [some (.ref 91), some (.int x1), some (.int (zI (j : Int))), some (.int (zI (L.length : Int))), some (.int (zI (i : Int))), some (.int (zI (L.length : Int)))] [] M1 R → EvC G (d + 5) m_M_come 38 [some (.ref 91), some (.int x1), some (.int (zI (j : Int))), some (.int (zI (L.length : Int))), some (.int (zI (i : Int))), some (.int (zI (done.length : Int)))] [] M R) ∧ cur M1 o N (L.flatMap (stepN N ((pks P).getD i 0))) ∧ nxt M1 o N (L.flatMap (stepN N ((pks P).getD i 0))) ∧ Fp pCm M M1
  | [], done, M, hL, h, hP, hc, hn => by
    rw [List.append_nil] at hL
    subst hL
    obtain ⟨M1, e1, c1, f1⟩ := e_M_turn (G := G) (d := d + 4) hl h.1 hn
    refine ⟨M1, fun R kk => ev_M_come_38 ?_, c1, hn.keptp f1 (by unfold pTn; omega) (fun j => by unfold pTn; omega) (fun j => by unfold pTn; omega), f1.up (fun _ _ => pTn_Cm)⟩
    rw [if_neg (fun q => by rw [zI_lt ⟨by omega, by omega⟩ ⟨by omega, by omega⟩] at q; omega)]
    exact ⟨okO_W h.1 rfl, _, e1, kk⟩
  | k :: rest, done, M, hL, h, hP, hc, hn => by
    have hPl := hP.1
    have hlen : L.length = done.length + (rest.length + 1) := by rw [hL]; simp
    have hk : k < N.length := hLN k (by rw [hL]; simp)
    have gk := getD_mid hL
    obtain ⟨c1, c2⟩ := hc done.length (by omega)
    rw [gk] at c1 c2
    have hty : 1 ≤ rTy N k ∧ rTy N k ≤ 6 := ⟨(hA.2.2.1 k hk).1, (hA.2.2.1 k hk).2.1⟩
    have hL' : L = (done ++ [k]) ++ rest := by rw [hL]; simp
    have hfl : (done.flatMap (stepN N ((pks P).getD i 0))).length + (stepN N ((pks P).getD i 0) k).length ≤ 128 := by
      have := hl
      rw [hL, List.flatMap_append, List.flatMap_cons] at this
      simp only [List.length_append] at this
      omega
    have efl : (done ++ [k]).flatMap (stepN N ((pks P).getD i 0)) = done.flatMap (stepN N ((pks P).getD i 0)) ++ stepN N ((pks P).getD i 0) k := by
      rw [List.flatMap_append, List.flatMap_cons, List.flatMap_nil, List.append_nil]
    -- the round's end
    have fin : ∀ M2 : Mm_, Fp pNx M M2 → nxt M2 o N (done.flatMap (stepN N ((pks P).getD i 0)) ++ stepN N ((pks P).getD i 0) k) → ∃ M1, (∀ R, EvC G (d + 5) m_M_come 111 [some (.ref 91), some (.int x1), some (.int (zI (j : Int))), some (.int (zI (L.length : Int))), some (.int (zI (i : Int))), some (.int (zI (L.length : Int)))] [] M1 R → EvC G (d + 5) m_M_come 101 [some (.ref 91), some (.int x1), some (.int (zI (j : Int))), some (.int (zI (L.length : Int))), some (.int (zI (i : Int))), some (.int (zI (done.length : Int)))] [] M2 R) ∧ cur M1 o N (L.flatMap (stepN N ((pks P).getD i 0))) ∧ nxt M1 o N (L.flatMap (stepN N ((pks P).getD i 0))) ∧ Fp pCm M M1 := fun M2 f2 n2 => by
      have f2' : Fp pCm M M2 := f2.up (fun _ _ => pNx_Cm)
      obtain ⟨M1, e1, w1, w2, w3⟩ := come_in hA hj hi hLN hLl hl rest (done ++ [k]) M2 hL' (h.cm f2') (hP.cm f2') (hc.keptp f2 (fun j => by unfold pNx; omega) (fun j => by unfold pNx; omega)) (by rw [efl]; exact n2)
      refine ⟨M1, fun R kk => ev_M_come_101 ?_, w1, w2, f2'.tr w3⟩
      have := e1 R kk
      rw [List.length_append, List.length_singleton] at this
      rw [zI_add, show (done.length : Int) + 1 = ((done.length + 1 : Nat) : Int) by omega]
      exact this
    have hn13 : M.2.1 91 13 = zI ((done.flatMap (stepN N ((pks P).getD i 0))).length : Int) := hn.1
    by_cases t3 : rTy N k = 3
    · have es : stepN N ((pks P).getD i 0) k = leadN N ((pks P).getD i 0) k := by rw [step_eq, if_pos t3]
      rw [es] at fin hfl
      obtain ⟨M2, e2, n2, f2⟩ := e_M_lead (G := G) (d := d + 1) h hA hP hj hi hk t3 hn hfl
      obtain ⟨M1, e1, w1, w2, w3⟩ := fin M2 f2 n2
      refine ⟨M1, fun R kk => ev_M_come_38 ?_, w1, w2, w3⟩
      rw [if_pos ((zI_lt ⟨by omega, by omega⟩ ⟨by omega, by omega⟩).mpr (by omega)), zI_nat (by omega), show M.2.1 (91 + 9) done.length = zI (rTy N k) from c1, if_pos (by rw [t3]), show M.2.1 (91 + 10) done.length = zI ((o : Int) + ((rPl N k : Nat) : Int)) from c2, hn13]
      exact ⟨okF_W h.1 rfl, okA_z h.1 (show sg0[91 + 9]? = some (.inr (0, 128)) from rfl) (by omega) (by omega), okF_W h.1 rfl, okA_z h.1 (show sg0[91 + 10]? = some (.inr (0, 128)) from rfl) (by omega) (by omega), okF_W h.1 rfl, okO_W h.1 rfl, _, e2, ev_M_come_73 (e1 R kk)⟩
    · by_cases t4 : rTy N k = 4
      · have es : stepN N ((pks P).getD i 0) k = (kids N k).flatMap (itG N (some ((pks P).getD i 0))) := by rw [step_eq, if_neg t3, if_pos t4]; rfl
        rw [es] at fin hfl
        obtain ⟨M2, e2, n2, f2⟩ := e_M_items (G := G) (d := d) (i := (i : Int)) h hA hP hj (Or.inr ⟨by omega, by omega, by rw [Int.toNat_natCast]⟩) hk t4 hn hfl
        obtain ⟨M1, e1, w1, w2, w3⟩ := fin M2 f2 n2
        refine ⟨M1, fun R kk => ev_M_come_38 ?_, w1, w2, w3⟩
        rw [if_pos ((zI_lt ⟨by omega, by omega⟩ ⟨by omega, by omega⟩).mpr (by omega)), zI_nat (by omega), show M.2.1 (91 + 9) done.length = zI (rTy N k) from c1, if_neg (zI_ne ⟨by omega, by omega⟩ ⟨by omega, by omega⟩ t3), if_pos (by rw [t4]), show M.2.1 (91 + 10) done.length = zI ((o : Int) + ((rPl N k : Nat) : Int)) from c2]
        exact ⟨okF_W h.1 rfl, okA_z h.1 (show sg0[91 + 9]? = some (.inr (0, 128)) from rfl) (by omega) (by omega), okF_W h.1 rfl, okA_z h.1 (show sg0[91 + 9]? = some (.inr (0, 128)) from rfl) (by omega) (by omega), okF_W h.1 rfl, okA_z h.1 (show sg0[91 + 10]? = some (.inr (0, 128)) from rfl) (by omega) (by omega), okO_W h.1 rfl, _, e2, e1 R kk⟩
      · have es : stepN N ((pks P).getD i 0) k = [] := by rw [step_eq, if_neg t3, if_neg t4]
        rw [es, List.append_nil] at fin
        obtain ⟨M1, e1, w1, w2, w3⟩ := fin M Fp.rf hn
        refine ⟨M1, fun R kk => ev_M_come_38 ?_, w1, w2, w3⟩
        rw [if_pos ((zI_lt ⟨by omega, by omega⟩ ⟨by omega, by omega⟩).mpr (by omega)), zI_nat (by omega), show M.2.1 (91 + 9) done.length = zI (rTy N k) from c1, if_neg (zI_ne ⟨by omega, by omega⟩ ⟨by omega, by omega⟩ t3), if_neg (zI_ne ⟨by omega, by omega⟩ ⟨by omega, by omega⟩ t4)]
        exact ⟨okF_W h.1 rfl, okA_z h.1 (show sg0[91 + 9]? = some (.inr (0, 128)) from rfl) (by omega) (by omega), okF_W h.1 rfl, okA_z h.1 (show sg0[91 + 9]? = some (.inr (0, 128)) from rfl) (by omega) (by omega), e1 R kk⟩
theorem come_out {j : Nat} {P : List (List Int)} {x1 : Int32} (hA : Acc B 3 0 N) (hB : B.length ≤ 64) (hj : j < 6) : ∀ (m i : Nat) (M : Mm_) (u5 : Option Value), i + m = P.length → mIn M o B → mPth M j P → cur M o N (comeN N ((pks P).take i)) →
    ∃ M', EvC G (d + 5) m_M_come 19 [some (.ref 91), some (.int x1), some (.int (zI (j : Int))), some (.int (zI ((comeN N ((pks P).take i)).length : Int))), some (.int (zI (i : Int))), u5] [] M (some (.int (zI ((comeN N (pks P)).length : Int))), M') ∧ cur M' o N (comeN N (pks P)) ∧ Fp pCm M M'
  | 0, i, M, u5, hi, h, hP, hc => by
    have hPl := hP.1
    have ei : (pks P).take i = pks P := by rw [List.take_of_length_le (by rw [pks_len]; omega)]
    rw [ei] at hc ⊢
    refine ⟨M, ev_M_come_19 ?_, hc, Fp.rf⟩
    rw [zI_nat (by omega), show M.2.1 (91 + 4) j = zI (P.length : Int) from hP.2.1, if_neg (fun q => by rw [zI_lt ⟨by omega, by omega⟩ ⟨by omega, by omega⟩] at q; omega)]
    exact ⟨okF_W h.1 rfl, okA_z h.1 (show sg0[91 + 4]? = some (.inr (0, 6)) from rfl) (by omega) (by omega), rfl⟩
  | m + 1, i, M, u5, hi, h, hP, hc => by
    have hPl := hP.1
    have hip : i < P.length := by omega
    have hip' : i < (pks P).length := by rw [pks_len]; omega
    have hNl := hA.2.1
    have b1 := come_len (p := pks P) hA (i := i) (by omega)
    have b2 := come_len (p := pks P) hA (i := i + 1) (by omega)
    have e : (pks P).take (i + 1) = (pks P).take i ++ [(pks P).getD i 0] := by
      rw [List.take_succ, List.getD_eq_getElem?_getD, List.getElem?_eq_getElem hip']
      rfl
    have ec : comeN N ((pks P).take (i + 1)) = (comeN N ((pks P).take i)).flatMap (stepN N ((pks P).getD i 0)) := by rw [e, come_succ]
    have f0 : Fp pCm M (am_setI M 91 13 (zI 0)) := Fp.set (Or.inl ⟨rfl, rfl⟩)
    have hc0 : cur (am_setI M 91 13 (zI 0)) o N (comeN N ((pks P).take i)) := fun k hk => by rw [setI_cell (by decide), setI_cell (by decide)]; exact hc k hk
    obtain ⟨M1, e1, c1, n1, f1⟩ := come_in (G := G) (d := d) (x1 := x1) hA hj hip (fun k hk => ((mem_come hA i (by omega) k).mp hk).1) (by omega) (by rw [← ec]; omega) _ [] _ rfl (h.cm f0) (hP.cm f0) hc0 ⟨setI_self, fun i hi => (by cases hi)⟩
    rw [← ec] at c1 n1
    obtain ⟨M', e2, w1, w2⟩ := come_out hA hB hj m (i + 1) M1 (some (.int (zI ((comeN N ((pks P).take i)).length : Int)))) (by omega) ((h.cm f0).cm f1) ((hP.cm f0).cm f1) c1
    refine ⟨M', ev_M_come_19 ?_, w1, (f0.tr f1).tr w2⟩
    rw [zI_nat (by omega), show M.2.1 (91 + 4) j = zI (P.length : Int) from hP.2.1, if_pos ((zI_lt ⟨by omega, by omega⟩ ⟨by omega, by omega⟩).mpr (by omega))]
    refine ⟨okF_W h.1 rfl, okA_z h.1 (show sg0[91 + 4]? = some (.inr (0, 6)) from rfl) (by omega) (by omega), okP_W h.1 rfl rfl, e1 _ (ev_M_come_111 ?_)⟩
    rw [n1.1, zI_add, show (i : Int) + 1 = ((i + 1 : Nat) : Int) by omega]
    exact ⟨okF_W ((h.cm f0).cm f1).1 rfl, e2⟩
theorem e_M_come {M : Mm_} {j : Nat} {P : List (List Int)} (h : mIn M o B) (hA : Acc B 3 0 N) (hB : B.length ≤ 64) (hP : mPth M j P) (hj : j < 6) :
    ∃ M', Ev G (d + 5) 115 [.ref 91, .int (zI (o : Int)), .int (zI (j : Int))] M (some (.int (zI ((comeN N (pks P)).length : Int))), M') ∧ cur M' o N (comeN N (pks P)) ∧ Fp pCm M M' := by
  have e0 : (zI 0).toNatClampNeg = 0 := by decide +kernel
  have f0 : Fp pCm M (am_setI (am_setI M 100 0 (zI 3)) 101 0 (zI (o : Int))) := Fp.tr (Fp.set (Or.inr ⟨by omega, by omega⟩)) (Fp.set (Or.inr ⟨by omega, by omega⟩))
  have hr := root_ty hA
  have c0 : cur (am_setI (am_setI M 100 0 (zI 3)) 101 0 (zI (o : Int))) o N (comeN N ((pks P).take 0)) := fun i hi => by
    have hi : i < 1 := hi
    have : i = 0 := by omega
    subst this
    show (am_setI (am_setI M 100 0 (zI 3)) 101 0 (zI (o : Int))).2.1 100 0 = zI (rTy N 0) ∧ (am_setI (am_setI M 100 0 (zI 3)) 101 0 (zI (o : Int))).2.1 101 0 = zI ((o : Int) + ((rPl N 0 : Nat) : Int))
    rw [setI_cell (by decide), setI_self, setI_self, hr.1, hr.2.1, ← zI_o0]
    exact ⟨rfl, rfl⟩
  obtain ⟨M', e, w1, w2⟩ := come_out (G := G) (d := d) (x1 := zI (o : Int)) hA hB hj P.length 0 _ none (by omega) (h.cm f0) (hP.cm f0) c0
  refine ⟨M', ev_of (q := mt_M_come) rfl (ev_M_come_0 ?_), w1, f0.tr w2⟩
  rw [e0]
  exact ⟨okF_W h.1 rfl, okA_W h.1 (show sg0[91 + 9]? = some (.inr (0, 128)) from rfl) (zI_in (by omega) (by omega) (by omega)), okF_W (WM_setI h.1) rfl, okA_W (WM_setI h.1) (show sg0[91 + 10]? = some (.inr (0, 128)) from rfl) (zI_in (by omega) (by omega) (by omega)), e⟩
/-! gather -/
theorem gat_copy {x1 x2 : Int32} {L : List Nat} (hl : L.length ≤ 128) : ∀ (m k : Nat) (M : Mm_), k + m = L.length → WM M → cur M o N L → (∀ i, i < k → M.2.1 102 i = zI (rTy N (L.getD i 0)) ∧ M.2.1 103 i = zI ((o : Int) + ((rPl N (L.getD i 0) : Nat) : Int))) →
    ∃ M1, (∀ R, EvC G d m_M_gather 58 [some (.ref 91), some (.int x1), some (.int x2), some (.int (zI (L.length : Int))), some (.int (zI 0))] [] M1 R → EvC G d m_M_gather 10 [some (.ref 91), some (.int x1), some (.int x2), some (.int (zI (L.length : Int))), some (.int (zI (k : Int)))] [] M R) ∧ nxt M1 o N L ∧ Fp pNx M M1
  | 0, k, M, hk, hW, hc, hn => by
    refine ⟨am_setI M 91 13 (zI (L.length : Int)), fun R kk => ev_M_gather_10 ?_, ⟨setI_self, fun i hi => by rw [setI_cell (by decide), setI_cell (by decide)]; exact hn i (by omega)⟩, Fp.set (Or.inl ⟨rfl, rfl⟩)⟩
    rw [if_neg (fun q => by rw [zI_lt ⟨by omega, by omega⟩ ⟨by omega, by omega⟩] at q; omega)]
    exact ⟨okP_W hW rfl rfl, kk⟩
  | m + 1, k, M, hk, hW, hc, hn => by
    obtain ⟨h1, h2⟩ := hc k (by omega)
    let M1 := am_setI M 102 k (zI (rTy N (L.getD k 0)))
    let M2 := am_setI M1 103 k (zI ((o : Int) + ((rPl N (L.getD k 0) : Nat) : Int)))
    have f2 : Fp pNx M M2 := Fp.tr (Fp.set (Or.inr (Or.inl rfl))) (Fp.set (Or.inr (Or.inr rfl)))
    have hW1 : WM M1 := WM_setI hW
    obtain ⟨M', e, w1, w2⟩ := gat_copy (x1 := x1) (x2 := x2) hl m (k + 1) M2 (by omega) (f2.WM hW) (hc.keptp f2 (fun j => by unfold pNx; omega) (fun j => by unfold pNx; omega)) (fun i hi => by
      by_cases c : i = k
      · subst c
        constructor
        · show (am_setI M1 103 _ _).2.1 102 i = _
          rw [setI_cell (by decide)]
          exact setI_self
        · exact setI_self
      · have := hn i (by omega)
        constructor
        · show (am_setI M1 103 _ _).2.1 102 i = _
          rw [setI_cell (by decide)]
          show (am_setI M 102 _ _).2.1 102 i = _
          rw [setI_idx c]
          exact this.1
        · show (am_setI M1 103 _ _).2.1 103 i = _
          rw [setI_idx c]
          show (am_setI M 102 _ _).2.1 103 i = _
          rw [setI_cell (by decide)]
          exact this.2)
    refine ⟨M', fun R kk => ev_M_gather_10 ?_, w1, f2.tr w2⟩
    rw [if_pos ((zI_lt ⟨by omega, by omega⟩ ⟨by omega, by omega⟩).mpr (by omega)), zI_nat (by omega), show M.2.1 (91 + 9) k = zI (rTy N (L.getD k 0)) from h1, setI_cell (show (91 + 10 : Nat) ≠ 91 + 11 by decide), show M.2.1 (91 + 10) k = zI ((o : Int) + ((rPl N (L.getD k 0) : Nat) : Int)) from h2, zI_add, show (k : Int) + 1 = ((k + 1 : Nat) : Int) by omega]
    exact ⟨okF_W hW rfl, okF_W hW rfl, okA_z hW (show sg0[91 + 9]? = some (.inr (0, 128)) from rfl) (by omega) (by omega), okA_z hW (show sg0[91 + 11]? = some (.inr (0, 128)) from rfl) (by omega) (by omega), okF_W hW1 rfl, okF_W hW1 rfl, okA_z hW1 (show sg0[91 + 10]? = some (.inr (0, 128)) from rfl) (by omega) (by omega), okA_z hW1 (show sg0[91 + 12]? = some (.inr (0, 128)) from rfl) (by omega) (by omega), e R kk⟩
theorem gat_items {j : Nat} {P : List (List Int)} {x1 : Int32} {L : List Nat} (hA : Acc B 3 0 N) (hj : j < 6) (hLN : ∀ k ∈ L, k < N.length) (hl : L.length + (L.flatMap (itK N)).length ≤ 128) : ∀ (rest done : List Nat) (M : Mm_), L = done ++ rest → mIn M o B → mPth M j P → cur M o N L → nxt M o N (L ++ done.flatMap (itK N)) →
    ∃ M1, EvC G (d + 5) m_M_gather 58 [some (.ref 91), some (.int x1), some (.int (zI (j : Int))), some (.int (zI (L.length : Int))), some (.int (zI (done.length : Int)))] [] M (some (.int (zI ((L ++ L.flatMap (itK N)).length : Int))), M1) ∧ cur M1 o N (L ++ L.flatMap (itK N)) ∧ Fp pCm M M1
  | [], done, M, hL, h, hP, hc, hn => by
    rw [List.append_nil] at hL
    subst hL
    obtain ⟨M1, e1, c1, f1⟩ := e_M_turn (G := G) (d := d + 4) (by rw [List.length_append]; omega) h.1 hn
    refine ⟨M1, ev_M_gather_58 ?_, c1, f1.up (fun _ _ => pTn_Cm)⟩
    rw [if_neg (fun q => by rw [zI_lt ⟨by omega, by omega⟩ ⟨by omega, by omega⟩] at q; omega)]
    refine ⟨okO_W h.1 rfl, _, e1, ev_M_gather_98 ⟨okF_W (f1.WM h.1) rfl, ?_⟩⟩
    rw [f1.2.2 91 13 (by unfold pTn; omega), hn.1]
  | k :: rest, done, M, hL, h, hP, hc, hn => by
    have hlen : L.length = done.length + (rest.length + 1) := by rw [hL]; simp
    have hk : k < N.length := hLN k (by rw [hL]; simp)
    have gk := getD_mid hL
    obtain ⟨c1, c2⟩ := hc done.length (by omega)
    rw [gk] at c1 c2
    have hty : 1 ≤ rTy N k ∧ rTy N k ≤ 6 := ⟨(hA.2.2.1 k hk).1, (hA.2.2.1 k hk).2.1⟩
    have hL' : L = (done ++ [k]) ++ rest := by rw [hL]; simp
    have hfl : (L ++ done.flatMap (itK N)).length + (itK N k).length ≤ 128 := by
      have := hl
      have e : L.flatMap (itK N) = done.flatMap (itK N) ++ (itK N k ++ rest.flatMap (itK N)) := by rw [hL, List.flatMap_append, List.flatMap_cons]
      rw [e] at this
      simp only [List.length_append] at this ⊢
      omega
    have efl : L ++ (done ++ [k]).flatMap (itK N) = (L ++ done.flatMap (itK N)) ++ itK N k := by
      rw [List.flatMap_append, List.flatMap_cons, List.flatMap_nil, List.append_nil, List.append_assoc]
    have fin : ∀ M2 : Mm_, Fp pNx M M2 → nxt M2 o N ((L ++ done.flatMap (itK N)) ++ itK N k) → ∃ M1, EvC G (d + 5) m_M_gather 88 [some (.ref 91), some (.int x1), some (.int (zI (j : Int))), some (.int (zI (L.length : Int))), some (.int (zI (done.length : Int)))] [] M2 (some (.int (zI ((L ++ L.flatMap (itK N)).length : Int))), M1) ∧ cur M1 o N (L ++ L.flatMap (itK N)) ∧ Fp pCm M M1 := fun M2 f2 n2 => by
      have f2' : Fp pCm M M2 := f2.up (fun _ _ => pNx_Cm)
      obtain ⟨M1, e1, w1, w3⟩ := gat_items (x1 := x1) hA hj hLN hl rest (done ++ [k]) M2 hL' (h.cm f2') (hP.cm f2') (hc.keptp f2 (fun j => by unfold pNx; omega) (fun j => by unfold pNx; omega)) (by rw [efl]; exact n2)
      refine ⟨M1, ev_M_gather_88 ?_, w1, f2'.tr w3⟩
      rw [List.length_append, List.length_singleton] at e1
      rw [zI_add, show (done.length : Int) + 1 = ((done.length + 1 : Nat) : Int) by omega]
      exact e1
    by_cases t4 : rTy N k = 4
    · have es : itK N k = (kids N k).flatMap (itG N none) := by
        unfold itK
        rw [if_pos t4]
        exact (flat_sing _).symm
      rw [es] at fin hfl
      obtain ⟨M2, e2, n2, f2⟩ := e_M_items (G := G) (d := d) (i := -1) (ox := none) h hA hP hj (Or.inl ⟨rfl, rfl⟩) hk t4 hn hfl
      obtain ⟨M1, e1, w1, w3⟩ := fin M2 f2 n2
      refine ⟨M1, ev_M_gather_58 ?_, w1, w3⟩
      rw [if_pos ((zI_lt ⟨by omega, by omega⟩ ⟨by omega, by omega⟩).mpr (by omega)), zI_nat (by omega), show M.2.1 (91 + 9) done.length = zI (rTy N k) from c1, if_pos (by rw [t4]), show M.2.1 (91 + 10) done.length = zI ((o : Int) + ((rPl N k : Nat) : Int)) from c2]
      exact ⟨okF_W h.1 rfl, okA_z h.1 (show sg0[91 + 9]? = some (.inr (0, 128)) from rfl) (by omega) (by omega), okF_W h.1 rfl, okA_z h.1 (show sg0[91 + 10]? = some (.inr (0, 128)) from rfl) (by omega) (by omega), okO_W h.1 rfl, _, e2, e1⟩
    · have es : itK N k = [] := by unfold itK; rw [if_neg t4]
      rw [es, List.append_nil] at fin
      obtain ⟨M1, e1, w1, w3⟩ := fin M Fp.rf hn
      refine ⟨M1, ev_M_gather_58 ?_, w1, w3⟩
      rw [if_pos ((zI_lt ⟨by omega, by omega⟩ ⟨by omega, by omega⟩).mpr (by omega)), zI_nat (by omega), show M.2.1 (91 + 9) done.length = zI (rTy N k) from c1, if_neg (zI_ne ⟨by omega, by omega⟩ ⟨by omega, by omega⟩ t4)]
      exact ⟨okF_W h.1 rfl, okA_z h.1 (show sg0[91 + 9]? = some (.inr (0, 128)) from rfl) (by omega) (by omega), e1⟩
theorem e_M_gather {M : Mm_} {j : Nat} {P : List (List Int)} (h : mIn M o B) (hA : Acc B 3 0 N) (hB : B.length ≤ 64) (hP : mPth M j P) (hj : j < 6) :
    ∃ M', Ev G (d + 6) 114 [.ref 91, .int (zI (o : Int)), .int (zI (j : Int))] M (some (.int (zI ((gathN N (pks P)).length : Int))), M') ∧ cur M' o N (gathN N (pks P)) ∧ Fp pCm M M' := by
  have hNl := hA.2.1
  have b1 := come_len (p := pks P) hA (i := (pks P).length) (Nat.le_refl _)
  rw [List.take_length] at b1
  have b2 := itK_len (p := pks P) hA
  have hm : ∀ k ∈ comeN N (pks P), k < N.length := fun k hk => by
    have := mem_come (p := pks P) hA (pks P).length (Nat.le_refl _) k
    rw [List.take_length] at this
    exact (this.mp hk).1
  obtain ⟨M1, e1, c1, f1⟩ := e_M_come (G := G) (d := d) h hA hB hP hj
  obtain ⟨M2, e2, n2, f2⟩ := gat_copy (G := G) (d := d + 6) (x1 := zI (o : Int)) (x2 := zI (j : Int)) (L := comeN N (pks P)) (by omega) (comeN N (pks P)).length 0 M1 (by omega) (h.cm f1).1 c1 (fun i hi => absurd hi (by omega))
  have f2' : Fp pCm M1 M2 := f2.up (fun _ _ => pNx_Cm)
  obtain ⟨M3, e3, c3, f3⟩ := gat_items (G := G) (d := d + 1) (x1 := zI (o : Int)) hA hj hm (by omega) _ [] M2 rfl ((h.cm f1).cm f2') ((hP.cm f1).cm f2') (c1.keptp f2 (fun j => by unfold pNx; omega) (fun j => by unfold pNx; omega)) (by rw [List.flatMap_nil, List.append_nil]; exact n2)
  exact ⟨M3, ev_of (q := mt_M_gather) rfl (ev_M_gather_0 ⟨okO_W h.1 rfl, _, _, e1, ev_M_gather_6 (e2 _ e3)⟩), c3, (f1.tr f2').tr f3⟩
end MGATHER
