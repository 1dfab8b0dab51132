/-! THE REFERENCE's operators: arrive -/
/-- the reference's work cells but for what matches -/
def gU (a j : Nat) : Prop := (a = 91 ∧ 13 ≤ j) ∨ (a = 92 ∧ 1408 ≤ j) ∨ 100 ≤ a
theorem gU_V {a j : Nat} (h : gU a j) : gV a j := by unfold gU at h; unfold gV; omega
section MARR
variable {G : Nat × (Nat → Int32)} {d : Nat} {B : List Int} {N : List Nd} {P : List (List Int)} {Q : List Int} {op : Int}
theorem map_get {A : List Nat} {i : Nat} (hi : i < A.length) : (A.map (rPl N)).getD i 0 = rPl N (A.getD i 0) := by
  rw [List.getD_eq_getElem?_getD, List.getElem?_map, List.getElem?_eq_getElem hi, List.getD_eq_getElem?_getD, List.getElem?_eq_getElem hi]
  rfl
theorem spl_way {M : Mm_} {Y X : List Int} {f t : Nat} {A : List Nat} {ls : Option Nat} (hW : WM M) (hY : wkI M Y) (hX : rwI M X) (hxl : X.length ≤ 160) (hyl : Y.length ≤ 100) (hft : f ≤ t) (ht : t ≤ Y.length) (hAl : A.length ≤ 5) (hy : wayI M N A) (hp : ∀ a ∈ A, rPl N a < f) (hls : ∀ v, ls = some v → v < f ∧ v ∉ A.map (rPl N)) (hn : (A.map (rPl N)).Nodup) :
    ∃ M', Ev G d 143 [.ref 91, .int (zI (1408 + (f : Int))), .int (zI (1408 + (t : Int))), .int (zI (A.length : Int)), .int (zI (lsV ls))] M (none, M') ∧ wkI M' (edB Y f t X (ls.toList ++ A.map (rPl N))) ∧ Fp pSp M M' := by
  have hl : (A.reverse.map (rPl N)).length = A.length := by rw [List.length_map, List.length_reverse]
  have hm : ∀ p, p ∈ A.reverse.map (rPl N) ↔ p ∈ A.map (rPl N) := fun p => by rw [List.mem_map, List.mem_map]; simp only [List.mem_reverse]
  have hm2 : ∀ p, p ∈ A.reverse.map (rPl N) ++ ls.toList ↔ p ∈ ls.toList ++ A.map (rPl N) := fun p => by rw [List.mem_append, List.mem_append, hm p]; exact Or.comm
  have nd : (A.reverse.map (rPl N)).Nodup := by rw [List.map_reverse]; exact List.pairwise_reverse.mpr (List.Pairwise.imp (fun h => Ne.symm h) hn)
  obtain ⟨M', e, w, F⟩ := e_M_splice (G := G) (d := d) (ws := A.reverse.map (rPl N)) (ls := ls) hW hY hX hxl hyl hft ht (by omega) (fun i hi => by
    rw [hl] at hi
    rw [hy i hi, map_get (by rw [List.length_reverse]; exact hi)]) (fun p hp' => by
    rcases List.mem_append.mp ((hm2 p).mp hp') with q | q
    · cases ls with
      | none => cases q
      | some v => have := List.mem_singleton.mp q; rw [this]; exact (hls v rfl).1
    · obtain ⟨a, ha, rfl⟩ := List.mem_map.mp q
      exact hp a ha) (by
    cases ls with
    | none =>
      rw [show (none : Option Nat).toList = [] from rfl, List.append_nil]
      exact nd
    | some v =>
      rw [show (some v : Option Nat).toList = [v] from rfl]
      refine List.nodup_append.mpr ⟨nd, by simp, fun a ha b hb => ?_⟩
      have := List.mem_singleton.mp hb
      subst this
      exact fun q => (hls b rfl).2 (by rw [← q]; exact (hm a).mp ha))
  rw [hl] at e
  rw [edB_congr hm2] at w
  exact ⟨M', e, w, F⟩
theorem nz_l {M : Mm_} {x1 x2 x4 x5 : Int32} {j : Nat} (hW : WM M) (hP : mPth M 2 P) : ∀ (m h acc : Nat), h + m + 1 = P.length → ∀ r, (am_okO M 91 8 = true ∧ ∃ M', Ev G (d + 1) 140 [.ref 91, .int (zI 3), .int (zI (j : Int))] M (none, M') ∧ EvC G (d + 2) m_M_arrive 105 [some (.ref 91), some (.int x1), some (.int x2), some (.int (zI ((P.length - 1 : Nat) : Int))), some (.int x4), some (.int x5), some (.int (zI (j : Int))), some (.int (zI ((acc + sumL P m h : Nat) : Int))), some (.int (zI ((P.length - 1 : Nat) : Int)))] [] M' r) →
    EvC G (d + 2) m_M_arrive 73 [some (.ref 91), some (.int x1), some (.int x2), some (.int (zI ((P.length - 1 : Nat) : Int))), some (.int x4), some (.int x5), some (.int (zI (j : Int))), some (.int (zI (acc : Int))), some (.int (zI (h : Int)))] [] M r
  | 0, h, acc, hh, r, hr => by
    have := hP.1
    refine ev_M_arrive_73 ?_
    rw [if_neg (fun q => by rw [zI_lt ⟨by omega, by omega⟩ ⟨by omega, by omega⟩] at q; omega)]
    rw [show P.length - 1 = h by omega] at hr ⊢
    exact hr
  | m + 1, h, acc, hh, r, hr => by
    have hpl := hP.1
    refine ev_M_arrive_73 ?_
    rw [if_pos ((zI_lt ⟨by omega, by omega⟩ ⟨by omega, by omega⟩).mpr (by omega))]
    refine ⟨okO_W hW rfl, _, _, e_M_nameSize hW hP (by omega), ev_M_arrive_87 ?_⟩
    rw [zI_add, zI_add, zI_add, show (acc : Int) + (((P.getD h []).length + 2 : Nat) : Int) + 2 = ((acc + ((P.getD h []).length + 4) : Nat) : Int) by omega, show (h : Int) + 1 = ((h + 1 : Nat) : Int) by omega]
    refine nz_l hW hP m (h + 1) _ (by omega) r ?_
    rw [show acc + ((P.getD h []).length + 4) + sumL P m (h + 1) = acc + sumL P (m + 1) h by rw [sumL]; omega]
    exact hr
theorem arr_l {x1 x2 x4 : Int32} : ∀ (m j : Nat) (X : List Int) (M : Mm_), j + m + 1 = P.length → WM M → mPth M 2 P → rwI M X → X.length + 7 * m ≤ 40 → ∃ M', rwI M' (X ++ pX op Q P m j) ∧ Fp pRw M M' ∧ ∀ r, (∀ u7 u8 : Option Value, EvC G (d + 2) m_M_arrive 57 [some (.ref 91), some (.int x1), some (.int x2), some (.int (zI ((P.length - 1 : Nat) : Int))), some (.int x4), some (.int (zI ((newP op Q [P.getD (P.length - 1) []]).length : Int))), some (.int (zI ((P.length - 1 : Nat) : Int))), u7, u8] [] M' r) → ∀ u7 u8 : Option Value, EvC G (d + 2) m_M_arrive 57 [some (.ref 91), some (.int x1), some (.int x2), some (.int (zI ((P.length - 1 : Nat) : Int))), some (.int x4), some (.int (zI ((newP op Q [P.getD (P.length - 1) []]).length : Int))), some (.int (zI (j : Int))), u7, u8] [] M r
  | 0, j, X, M, hj, hW, hP, h, hl => ⟨M, by show rwI M (X ++ []); rw [List.append_nil]; exact h, Fp.rf, fun r hr u7 u8 => by rw [show P.length - 1 = j by omega] at hr ⊢; exact hr u7 u8⟩
  | m + 1, j, X, M, hj, hW, hP, h, hl => by
    have hpl := hP.1
    have hls := getN hP.2.2.2 (show j < P.length by omega)
    have hl4 := hls.2.1
    obtain ⟨n1, n2⟩ := newP_X (op := op) (Q := Q) (P := P) m (j + 1) (by omega)
    obtain ⟨M1, e1, r1, f1⟩ := e_M_addName (G := G) (d := d) (i := j) (t := 3) hW hP (by omega) h (by omega)
    have W1 := f1.WM hW
    obtain ⟨M2, e2, r2, f2⟩ := e_M_add (G := G) (d := d + 1) (b := ((newP op Q (P.drop (j + 1))).length : Int) + 2) W1 r1 (by simp only [List.length_append, List.length_cons, List.length_nil]; omega)
    have F2 := f1.tr f2
    have W2 := f2.WM W1
    have P2 : mPth M2 2 P := hP.kx (F2.x hW) (fun q => by unfold pRw at q; omega) (fun i _ _ q => by unfold pRw at q; omega)
    obtain ⟨M3, r3, f3, k3⟩ := arr_l (x1 := x1) (x2 := x2) (x4 := x4) m (j + 1) _ M2 (by omega) W2 P2 r2 (by simp only [List.length_append, List.length_cons, List.length_nil]; omega)
    refine ⟨M3, ?_, F2.tr f3, fun r hr u7 u8 => ev_M_arrive_57 ?_⟩
    · unfold pX
      simp only [List.append_assoc, List.cons_append, List.nil_append, List.singleton_append] at r3 ⊢
      exact r3
    · rw [if_pos ((zI_lt ⟨by omega, by omega⟩ ⟨by omega, by omega⟩).mpr (by omega)), zI_add, show (j : Int) + 1 = ((j + 1 : Nat) : Int) by omega]
      refine nz_l (j := j) hW hP m (j + 1) (newP op Q [P.getD (P.length - 1) []]).length (by omega) r ⟨okO_W hW rfl, _, e1, ev_M_arrive_105 ?_⟩
      rw [← n2, zI_add]
      refine ⟨okO_W W1 rfl, _, e2, ev_M_arrive_113 ?_⟩
      rw [zI_add, show (j : Int) + 1 = ((j + 1 : Nat) : Int) by omega]
      exact k3 r hr _ _
theorem zr_l {x1 x2 x4 x5 : Int32} (hpl : P.length ≤ 3) : ∀ (m : Nat) (k : Int) (X : List Int) (M : Mm_), k + (m : Int) = ((P.length - 1 : Nat) : Int) → -1 ≤ k → WM M → rwI M X → X.length + m ≤ 160 → ∃ M', rwI M' (X ++ List.replicate m 0) ∧ Fp pRw M M' ∧ ∀ (u7 u8 : Option Value) r, EvC G (d + 1) m_M_arrive 176 [some (.ref 91), some (.int x1), some (.int x2), some (.int (zI ((P.length - 1 : Nat) : Int))), some (.int x4), some (.int x5), some (.int (zI ((P.length - 1 : Nat) : Int))), u7, u8] [] M' r → EvC G (d + 1) m_M_arrive 176 [some (.ref 91), some (.int x1), some (.int x2), some (.int (zI ((P.length - 1 : Nat) : Int))), some (.int x4), some (.int x5), some (.int (zI k)), u7, u8] [] M r
  | 0, k, X, M, hk, hk1, hW, h, hl => ⟨M, by show rwI M (X ++ []); rw [List.append_nil]; exact h, Fp.rf, fun u7 u8 r hr => by rw [show k = ((P.length - 1 : Nat) : Int) by omega]; exact hr⟩
  | m + 1, k, X, M, hk, hk1, hW, h, hl => by
    obtain ⟨M1, e1, r1, f1⟩ := e_M_add (G := G) (d := d) (b := 0) hW h (by omega)
    obtain ⟨M2, r2, f2, k2⟩ := zr_l (x1 := x1) (x2 := x2) (x4 := x4) (x5 := x5) hpl m (k + 1) (X ++ [0]) M1 (by omega) (by omega) (f1.WM hW) r1 (by rw [List.length_append, List.length_singleton]; omega)
    refine ⟨M2, by rw [List.replicate_succ, ← List.singleton_append, ← List.append_assoc]; exact r2, f1.tr f2, fun u7 u8 r hr => ev_M_arrive_176 ?_⟩
    rw [if_pos ((zI_lt ⟨by omega, by omega⟩ ⟨by omega, by omega⟩).mpr (by omega))]
    refine ⟨okO_W hW rfl, _, e1, ev_M_arrive_187 ?_⟩
    rw [zI_add]
    exact k2 u7 u8 r hr
theorem pRw_V {a j : Nat} (h : pRw a j) : gU a j := by unfold pRw at h; unfold gU; omega
theorem pSp_V {a j : Nat} (h : pSp a j) : gU a j := by unfold pSp at h; unfold gU; omega
theorem e_M_arrive {M : Mm_} {c : Nat} {W : List Nat} (hA : Acc B 3 0 N) (hB : B.length ≤ 60) (h : mIn M 1408 B) (hk : wkI M B) (hP : mPth M 2 P) (hb : mBuf M Q) (hq : 0 < Q.length) (hop : op = 0 ∨ op = 2 ∨ op = 3) (hw : isWy N W c) (hwl : W.length < P.length) (hy : wayI M N (c :: W)) : ∃ M', Ev G (d + 2) 138 [.ref 91, .int (zI (W.length : Int)), .int (zI op)] M (none, M') ∧ wkI M' (edB B (rEn B N c - 1) (rEn B N c - 1) (newP op Q (P.drop W.length)) ((c :: W).map (rPl N))) ∧ Fp gU M M' := by
  have hW := h.1
  have hpl := hP.1
  have hbl := hb.1
  have hcf := isWy_fact hA W c hw
  have lt := len_T hA hcf.1 (Or.inl hcf.2.1)
  obtain ⟨q1, q2, q3, q4, q5⟩ := new_fact hA hw (by omega)
  have z2 : (zI 2).toNatClampNeg = 2 := by decide +kernel
  have t1 : M.2.1 (91 + 4) 2 = zI (P.length : Int) := hP.2.1
  have hls := getN hP.2.2.2 (show P.length - 1 < P.length by omega)
  have hl4 := hls.2.1
  have a4 : ∀ {M' : Mm_}, WM M' → am_okA M' (91 + 4) 0 (zI 2) = true := fun hW' => okA_W hW' (show sg0[91 + 4]? = some (.inr (0, 6)) from rfl) (zI_in (by omega) (by omega) (by omega))
  have z1024 : (zI 1024).toNatClampNeg = 1024 := by decide +kernel
  have a1 : ∀ {M' : Mm_}, WM M' → am_okA M' (91 + 1) 0 (zI 1024) = true := fun hW' => okA_W hW' (show sg0[91 + 1]? = some (.inr (0, 1728)) from rfl) (zI_in (by omega) (by omega) (by omega))
  have f0 : Fp pRw M (am_setI M 91 25 (zI 0)) := Fp.set (Or.inl ⟨rfl, rfl⟩)
  have f0x := f0.x hW
  have P0 := hP.kx f0x (fun q => by unfold pRw at q; omega) (fun i _ _ q => by unfold pRw at q; omega)
  obtain ⟨nx1, nx2⟩ := newP_X (op := op) (Q := Q) (P := P) (P.length - 1 - W.length) W.length (by omega)
  have ns := e_M_nameSize (G := G) (d := d + 1) (i := P.length - 1) hW hP (by omega)
  -- the row's end, by cases of the operator
  have fin : ∀ (l : Int), (l = 0 ∧ ¬ op = 3) ∨ (l = 1 ∧ op = 3) → ∃ M', rwI M' (newP op Q (P.drop W.length)) ∧ Fp pRw M M' ∧ ∀ r, (∀ u7 u8 : Option Value, EvC G (d + 2) m_M_arrive 176 [some (.ref 91), some (.int (zI (W.length : Int))), some (.int (zI op)), some (.int (zI ((P.length - 1 : Nat) : Int))), some (.int (zI l)), some (.int (zI ((newP op Q [P.getD (P.length - 1) []]).length : Int))), some (.int (zI ((P.length - 1 : Nat) : Int))), u7, u8] [] M' r) → Ev G (d + 2) 138 [.ref 91, .int (zI (W.length : Int)), .int (zI op)] M r := fun l hl => by
    obtain ⟨M1, r1, f1, k1⟩ := arr_l (G := G) (d := d) (op := op) (Q := Q) (x1 := zI (W.length : Int)) (x2 := zI op) (x4 := zI l) (P.length - 1 - W.length) W.length [] (am_setI M 91 25 (zI 0)) (by omega) f0x.1 P0 ⟨setI_self, fun i hi => by cases hi⟩ (by rw [List.length_nil]; omega)
    rw [List.nil_append] at r1
    have F1 := f0.tr f1
    have W1 := F1.WM hW
    have P1 := hP.kx (F1.x hW) (fun q => by unfold pRw at q; omega) (fun i _ _ q => by unfold pRw at q; omega)
    have b1 : mBuf M1 Q := hb.kx (F1.x hW) (fun a j q => by unfold pRw at q; omega)
    have pl := newP_len (op := op) (Q := Q) (P.drop W.length) (fun ls hl => hP.2.2.2 ls (List.mem_of_mem_drop hl))
    rw [List.length_drop] at pl
    have tot : (pX op Q P (P.length - 1 - W.length) W.length).length + (core op Q (P.getD (P.length - 1) [])).length + ((P.length - 1 - W.length) + if op = 3 then 1 else 0) = (newP op Q (P.drop W.length)).length := by
      rw [nx1, List.length_append, List.length_append, List.length_replicate]
      omega
    have cl : (core op Q (P.getD (P.length - 1) [])).length = (P.getD (P.length - 1) []).length + Q.length + (if op = 3 then 3 else 1) := by
      unfold core
      split
      · simp only [List.length_append, List.length_cons]; omega
      · simp only [List.length_append, List.length_cons, List.length_drop]; omega
    have st : ∀ r, (∀ u7 u8 : Option Value, EvC G (d + 2) m_M_arrive 57 [some (.ref 91), some (.int (zI (W.length : Int))), some (.int (zI op)), some (.int (zI ((P.length - 1 : Nat) : Int))), some (.int (zI l)), some (.int (zI ((newP op Q [P.getD (P.length - 1) []]).length : Int))), some (.int (zI (W.length : Int))), u7, u8] [] (am_setI M 91 25 (zI 0)) r) → Ev G (d + 2) 138 [.ref 91, .int (zI (W.length : Int)), .int (zI op)] M r := fun r hr => by
      refine ev_of (q := mt_M_arrive) rfl (ev_M_arrive_0 ?_)
      rw [z2, t1, zI_sub, show (P.length : Int) - 1 = ((P.length - 1 : Nat) : Int) by omega]
      refine ⟨okF_W hW rfl, a4 hW, ?_⟩
      rcases hl with ⟨rfl, h3⟩ | ⟨rfl, h3⟩
      · rw [if_neg (zI_ne ⟨by omega, by omega⟩ ⟨by omega, by omega⟩ h3)]
        refine ⟨okO_W hW rfl, _, _, ns, ev_M_arrive_26 ?_⟩
        rw [zI_0, if_pos rfl, hb.2.1, zI_sub]
        refine ⟨okF_W hW rfl, ev_M_arrive_46 ?_⟩
        have en : (((P.getD (P.length - 1) []).length + 2 : Nat) : Int) + ((Q.length : Int) - 1) = ((newP op Q [P.getD (P.length - 1) []]).length : Int) := by
          show _ = ((if op = 3 then wrap 4 (P.getD (P.length - 1) []) Q else elm (P.getD (P.length - 1) []) Q).length : Int)
          rw [if_neg h3]
          unfold elm
          simp only [List.length_append, List.length_cons, List.length_drop]
          omega
        rw [zI_add, en]
        exact ⟨okP_W hW rfl rfl, hr _ _⟩
      · rw [if_pos (by rw [h3])]
        refine ⟨okO_W hW rfl, _, _, ns, ev_M_arrive_26 ?_⟩
        rw [zI_0, if_neg z10, hb.2.1, zI_add]
        refine ⟨okF_W hW rfl, ev_M_arrive_46 ?_⟩
        have en : (((P.getD (P.length - 1) []).length + 2 : Nat) : Int) + ((Q.length : Int) + 2) = ((newP op Q [P.getD (P.length - 1) []]).length : Int) := by
          show _ = ((if op = 3 then wrap 4 (P.getD (P.length - 1) []) Q else elm (P.getD (P.length - 1) []) Q).length : Int)
          rw [if_pos h3]
          unfold wrap
          simp only [List.length_append, List.length_cons, List.length_nil]
          omega
        rw [zI_add, en]
        exact ⟨okP_W hW rfl rfl, hr _ _⟩
    rcases hl with ⟨rfl, h3⟩ | ⟨rfl, h3⟩
    · rw [if_neg h3] at cl tot
      obtain ⟨M2, e2, r2, f2⟩ := e_M_addName (G := G) (d := d) (i := P.length - 1) (t := by_ Q 0) W1 P1 (by omega) r1 (by omega)
      have W2 := f2.WM W1
      have b2 : mBuf M2 Q := b1.kx (f2.x W1) (fun a j q => by unfold pRw at q; omega)
      obtain ⟨M3, e3, r3, f3⟩ := e_M_addOperand (G := G) (d := d) (w := 0) (Or.inl rfl) W2 b2 hq r2 (by simp only [List.length_append, List.length_cons, List.length_nil]; omega)
      rw [if_neg (by decide)] at r3
      have W3 := f3.WM W2
      obtain ⟨M4, r4, f4, k4⟩ := zr_l (G := G) (d := d + 1) (x1 := zI (W.length : Int)) (x2 := zI op) (x4 := zI 0) (x5 := zI ((newP op Q [P.getD (P.length - 1) []]).length : Int)) hpl (P.length - 1 - W.length) (W.length : Int) _ M3 (by omega) (by omega) W3 r3 (by simp only [List.length_append, List.length_cons, List.length_drop, List.length_nil]; omega)
      refine ⟨M4, ?_, ((F1.tr f2).tr f3).tr f4, fun r hr => st r (k1 r (fun u7 u8 => ev_M_arrive_57 ?_))⟩
      · rw [nx1]
        unfold core
        rw [if_neg h3, if_neg h3, Nat.add_zero]
        simp only [List.append_assoc, List.cons_append, List.nil_append] at r4 ⊢
        exact r4
      · rw [if_neg (fun q => by rw [zI_lt ⟨by omega, by omega⟩ ⟨by omega, by omega⟩] at q; omega), zI_0, if_pos rfl, z1024, show M1.2.1 (91 + 1) 1024 = zI (by_ Q 0) from b1.2.2.1 0 hq]
        refine ⟨okF_W W1 rfl, a1 W1, okO_W W1 rfl, _, e2, ev_M_arrive_141 ?_⟩
        rw [zI_0, if_pos rfl]
        refine ev_M_arrive_156 ⟨okO_W W2 rfl, _, e3, ev_M_arrive_162 ?_⟩
        rw [zI_0, if_pos rfl]
        exact k4 u7 u8 r (hr u7 u8)
    · rw [if_pos h3] at cl tot
      obtain ⟨M2, e2, r2, f2⟩ := e_M_addName (G := G) (d := d) (i := P.length - 1) (t := 4) W1 P1 (by omega) r1 (by omega)
      have W2 := f2.WM W1
      have b2 : mBuf M2 Q := b1.kx (f2.x W1) (fun a j q => by unfold pRw at q; omega)
      obtain ⟨M5, e5, r5, f5⟩ := e_M_add (G := G) (d := d + 1) (b := (Q.length : Int) + 2) W2 r2 (by simp only [List.length_append, List.length_cons, List.length_nil]; omega)
      have W5 := f5.WM W2
      have b5 : mBuf M5 Q := b2.kx (f5.x W2) (fun a j q => by unfold pRw at q; omega)
      obtain ⟨M3, e3, r3, f3⟩ := e_M_addOperand (G := G) (d := d) (w := 1) (Or.inr rfl) W5 b5 hq r5 (by simp only [List.length_append, List.length_cons, List.length_nil]; omega)
      rw [if_pos rfl] at r3
      have W3 := f3.WM W5
      obtain ⟨M4, r4, f4, k4⟩ := zr_l (G := G) (d := d + 1) (x1 := zI (W.length : Int)) (x2 := zI op) (x4 := zI 1) (x5 := zI ((newP op Q [P.getD (P.length - 1) []]).length : Int)) hpl (P.length - 1 - W.length + 1) ((W.length : Int) - 1) _ M3 (by omega) (by omega) W3 r3 (by simp only [List.length_append, List.length_cons, List.length_nil]; omega)
      refine ⟨M4, ?_, (((F1.tr f2).tr f5).tr f3).tr f4, fun r hr => st r (k1 r (fun u7 u8 => ev_M_arrive_57 ?_))⟩
      · rw [nx1]
        unfold core
        rw [if_pos h3, if_pos h3]
        simp only [List.append_assoc, List.cons_append, List.nil_append] at r4 ⊢
        exact r4
      · rw [if_neg (fun q => by rw [zI_lt ⟨by omega, by omega⟩ ⟨by omega, by omega⟩] at q; omega), zI_0, if_neg z10]
        refine ⟨okO_W W1 rfl, _, e2, ev_M_arrive_141 ?_⟩
        rw [zI_0, if_neg z10, b2.2.1, zI_add]
        refine ⟨okF_W W2 rfl, okO_W W2 rfl, _, e5, ev_M_arrive_156 ⟨okO_W W5 rfl, _, e3, ev_M_arrive_162 ?_⟩⟩
        rw [zI_0, if_neg z10, zI_sub]
        exact k4 u7 u8 r (hr u7 u8)
  obtain ⟨l, hl⟩ : ∃ l : Int, (l = 0 ∧ ¬ op = 3) ∨ (l = 1 ∧ op = 3) := by
    by_cases h3 : op = 3
    · exact ⟨1, Or.inr ⟨rfl, h3⟩⟩
    · exact ⟨0, Or.inl ⟨rfl, h3⟩⟩
  obtain ⟨M1, r1, f1, k1⟩ := fin l hl
  have W1 := f1.WM hW
  have pl := newP_len (op := op) (Q := Q) (P.drop W.length) (fun ls hl => hP.2.2.2 ls (List.mem_of_mem_drop hl))
  rw [List.length_drop] at pl
  have h1 : mIn M1 1408 B := h.kx (f1.x hW) (fun i hi q => by unfold pRw at q; omega)
  have hk1 : wkI M1 B := hk.kp f1 (fun a j q w => by unfold pRw at q; unfold pSp at w; omega)
  have y1 : wayI M1 N (c :: W) := fun i hi => by rw [f1.2.2 _ _ (fun q => by unfold pRw at q; omega)]; exact hy i hi
  obtain ⟨M2, e2, w2, f2⟩ := spl_way (G := G) (d := d + 1) (A := c :: W) (ls := none) (f := rEn B N c - 1) (t := rEn B N c - 1) W1 hk1 r1 (by omega) (by omega) (Nat.le_refl _) (by omega) (by omega) y1 (fun a ha => (q3 a ha).2.1) (fun v hv => by cases hv) q4
  refine ⟨M2, k1 _ (fun u7 u8 => ev_M_arrive_176 ?_), w2, (f1.up (fun a j q => pRw_V q)).tr (f2.up (fun a j q => pSp_V q))⟩
  have wl : M1.2.1 (91 + 15) W.length = zI (1408 + ((rPl N c : Nat) : Int)) := by have := y1 W.length (by rw [List.length_cons]; omega); rw [rev_last] at this; exact this
  have ic := mI h1 (i := rPl N c) (by omega)
  have oc := mOk h1 (i := rPl N c) (by omega)
  have ee : zI (1408 + ((rPl N c : Nat) : Int)) + zI (by_ B (rPl N c)) - zI 1 = zI (1408 + ((rEn B N c - 1 : Nat) : Int)) := by
    rw [zI_add, zI_sub, lt.1, show 1408 + ((rPl N c : Nat) : Int) + ((rEn B N c : Int) - (rPl N c : Int)) - 1 = 1408 + ((rEn B N c - 1 : Nat) : Int) by omega]
  rw [if_neg (fun q => by rw [zI_lt ⟨by omega, by omega⟩ ⟨by omega, by omega⟩] at q; omega), zI_nat (show W.length < 2147483648 by omega), wl, show M1.2.1 (91 + 1) (zI (1408 + ((rPl N c : Nat) : Int))).toNatClampNeg = zI (by_ B (rPl N c)) from ic, ee, zI_add, show (W.length : Int) + 1 = (((c :: W).length : Nat) : Int) by rw [List.length_cons]; omega]
  exact ⟨okF_W W1 rfl, okA_z W1 (show sg0[91 + 15]? = some (.inr (0, 5)) from rfl) (by omega) (by omega), okF_W W1 rfl, okF_W W1 rfl, okA_z W1 (show sg0[91 + 15]? = some (.inr (0, 5)) from rfl) (by omega) (by omega), oc, okO_W W1 rfl, _, e2, ev_M_arrive_227 rfl⟩
end MARR
