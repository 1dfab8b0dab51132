/-! THE EDITOR of the class: alter, splice -/
section ALTER
variable {G : Nat × (Nat → Int32)} {d : Nat}
theorem dT.kx {P : Nat → Nat → Prop} {M M' : Mm_} {q cap : Nat} {B : List Int} {N : List Nd} (h : dT M q cap B N) (f : Fx P M M') (hp : ∀ a j, P a j → ¬ (42 ≤ a ∧ a ≤ 48) ∧ a ≠ q ∧ a ≠ q + 1) : dT M' q cap B N := by
  obtain ⟨⟨e1, e2, e3, hr, e5, e6⟩, ⟨⟨a1, a2, a3, a4, a5⟩, hN, hEd⟩, hA⟩ := h
  have g : ∀ a j, 42 ≤ a ∧ a ≤ 48 → M'.2.1 a j = M.2.1 a j := fun a j hn => f.2.2 a j (fun q => (hp a j q).1 hn)
  refine ⟨⟨f.1, e2, by rw [f.2.1 _ _ (fun q => (hp _ _ q).1 (by omega))]; exact e3, hr.kx f (fun j q => (hp _ _ q).2.1 rfl) (fun j q => (hp _ _ q).2.2 rfl), e5, e6⟩, ⟨⟨?_, ?_, ?_, ?_, ?_⟩, fun k hk => ?_, fun k hk hS => ?_⟩, hA⟩
  · rw [g _ _ (by omega)]; exact a1
  · rw [g _ _ (by omega)]; exact a2
  · rw [g _ _ (by omega)]; exact a3
  · rw [g _ _ (by omega)]; exact a4
  · rw [g _ _ (by omega)]; exact a5
  · rw [g _ _ (by omega), g _ _ (by omega), g _ _ (by omega), g _ _ (by omega), g _ _ (by omega)]; exact hN k hk
  · rw [g _ _ (by omega)]; exact hEd k hk hS
/-- where the piece is to go -/
def eAim (M : Mm_) (n : Int) (f t : Nat) : Prop := M.2.1 55 5 = zI n ∧ M.2.1 55 6 = zI (f : Int) ∧ M.2.1 55 7 = zI (t : Int)
def pAm (a j : Nat) : Prop := a = 55 ∧ 5 ≤ j
theorem e_E_aim {M : Mm_} {n : Int} {f t : Nat} (hW : WM M) : ∃ M', Ev G d 74 [.ref 55, .int (zI n), .int (zI (f : Int)), .int (zI (t : Int))] M (none, M') ∧ eAim M' n f t ∧ Fx pAm M M' := by
  refine ⟨am_setI (am_setI (am_setI M 55 5 (zI n)) 55 6 (zI (f : Int))) 55 7 (zI (t : Int)), ev_of (q := mt_E_aim) rfl (ev_E_aim_0 ⟨okP_W hW rfl rfl, okP_W (WM_setI hW) rfl rfl, okP_W (WM_setI (WM_setI hW)) rfl rfl, rfl⟩), ⟨?_, ?_, setI_self⟩, ?_⟩
  · rw [setI_idx (by decide), setI_idx (by decide), setI_self]
  · rw [setI_idx (by decide), setI_self]
  · exact ((Fx.setI hW (show pAm 55 5 from ⟨rfl, by omega⟩)).tr (Fx.setI (WM_setI hW) (show pAm 55 6 from ⟨rfl, by omega⟩))).tr (Fx.setI (WM_setI (WM_setI hW)) (show pAm 55 7 from ⟨rfl, by omega⟩))
theorem eAim.kx {P : Nat → Nat → Prop} {M M' : Mm_} {n : Int} {f t : Nat} (h : eAim M n f t) (F : Fx P M M') (hp : ∀ a j, P a j → ¬ pAm a j) : eAim M' n f t := ⟨by rw [F.2.2 _ _ (fun q => hp _ _ q ⟨rfl, by omega⟩)]; exact h.1, by rw [F.2.2 _ _ (fun q => hp _ _ q ⟨rfl, by omega⟩)]; exact h.2.1, by rw [F.2.2 _ _ (fun q => hp _ _ q ⟨rfl, by omega⟩)]; exact h.2.2⟩
/-- the editor's cells -/
def pEe (a _j : Nat) : Prop := 55 ≤ a ∧ a ≤ 69
theorem p567_Ee {a j : Nat} (h : p567 a j) : pEe a j := by unfold p567 at h; unfold pEe; omega
theorem pAm_Ee {a j : Nat} (h : pAm a j) : pEe a j := by unfold pAm at h; unfold pEe; omega
theorem pEd_Ee {a j : Nat} (h : pEd a j) : pEe a j := by unfold pEd at h; unfold pEe; omega
theorem lo8_z {s : Int} (h : -65536 ≤ s ∧ s ≤ 65536) : zI s &&& zI 255 = zI (lo8 s) := by
  rw [and255]
  have h1 := zI_toInt (a := s) ⟨by omega, by omega⟩
  have hl := bv_lt (zI s)
  congr 1
  unfold lo8
  rcases ti_cond (zI s) with e | e <;> omega
theorem hi8_z {s : Int} (h : -65536 ≤ s ∧ s ≤ 65536) : (zI s >>> (zI 8 &&& 31)) &&& zI 255 = zI (hi8 s) := by
  have h1 := zI_toInt (a := s) ⟨by omega, by omega⟩
  have hl := bv_lt (zI s)
  rw [show zI 8 = zI (8 * ((1 : Nat) : Int)) from rfl, sshr_bt (zI s) (by omega)]
  congr 1
  unfold bt hi8
  rw [show (256 : Nat) ^ 1 = 256 from rfl]
  rcases ti_cond (zI s) with e | e <;> omega
theorem e_E_writeSum {M : Mm_} {Q : List Int} {n : Int} (h : pcI M []) (hQ : rowIs M 1 80 Q) (hq : Q.length = 3) (hn : -32768 ≤ n ∧ n ≤ 32767) : ∃ M', Ev G (d + 2) 81 [.ref 55, .int (zI n), .ref 1] M (some (.int (zI (if -32768 ≤ n + sgn Q 1 ∧ n + sgn Q 1 ≤ 32767 then 1 else 0))), M') ∧ pcI M' [hi8 (n + sgn Q 1), lo8 (n + sgn Q 1)] ∧ Fx p567 M M' := by
  obtain ⟨hW, h⟩ := h
  have sr := sgn_rg hQ.okB (p := 1) (by omega)
  have r1 : -65536 ≤ n + sgn Q 1 ∧ n + sgn Q 1 ≤ 65536 := ⟨by omega, by omega⟩
  obtain ⟨M1, e1, x1, f1⟩ := e_R_add (G := G) (d := d + 1) (r := 56) (x := hi8 (n + sgn Q 1)) hW h (by simp) ⟨by unfold hi8; omega, by unfold hi8; omega⟩
  have f1x := f1.x hW
  obtain ⟨M2, e2, x2, f2⟩ := e_R_add (G := G) (d := d + 1) (r := 56) (x := lo8 (n + sgn Q 1)) f1x.1 x1 (by simp) ⟨by unfold lo8; omega, by unfold lo8; omega⟩
  have f2x := f2.x f1x.1
  refine ⟨M2, ev_of (q := mt_E_writeSum) rfl (ev_E_writeSum_0 ⟨okO_W hW rfl, _, _, e_R_signedNumber (p := 1) hW hQ (by omega), ev_E_writeSum_6 ?_⟩), ⟨f2x.1, x2⟩, (f1x.up (fun a j q => mem2 q)).tr (f2x.up (fun a j q => mem2 q))⟩
  rw [zI_add, hi8_z r1]
  refine ⟨okF_W hW rfl, okO_W hW rfl, _, e1, ev_E_writeSum_23 ?_⟩
  rw [lo8_z r1]
  refine ⟨okF_W f1x.1 rfl, okO_W f1x.1 rfl, _, e2, ev_E_writeSum_35 ?_⟩
  by_cases c1 : n + sgn Q 1 < -32768
  · rw [if_pos ((zI_lt ⟨by omega, by omega⟩ ⟨by omega, by omega⟩).mpr c1), if_neg (show ¬ (-32768 ≤ n + sgn Q 1 ∧ n + sgn Q 1 ≤ 32767) by omega)]
  · rw [if_neg (fun q => c1 ((zI_lt ⟨by omega, by omega⟩ ⟨by omega, by omega⟩).mp q))]
    by_cases c2 : 32767 < n + sgn Q 1
    · rw [if_pos ((zI_lt ⟨by omega, by omega⟩ ⟨by omega, by omega⟩).mpr c2), if_neg (show ¬ (-32768 ≤ n + sgn Q 1 ∧ n + sgn Q 1 ≤ 32767) by omega)]
    · rw [if_neg (fun q => c2 ((zI_lt ⟨by omega, by omega⟩ ⟨by omega, by omega⟩).mp q)), if_pos (show -32768 ≤ n + sgn Q 1 ∧ n + sgn Q 1 ≤ 32767 by omega)]
theorem oth_le {B : List Int} {N : List Nd} {Q : List Int} (hA : Acc B 3 0 N) {c k : Nat} (hc : c < N.length) (hk : k ≤ N.length) : (othL B N Q (kidT N c k)).length ≤ B.length := by
  obtain ⟨r, hr⟩ := kidT_pre (N := N) (c := c) hk
  have hl : (othL B N Q (kidT N c k)).length ≤ (othL B N Q (kids N c)).length := by rw [hr, oth_app, List.length_append]; omega
  by_cases ht : isC (rTy N c)
  · obtain ⟨w1, w2⟩ := hA.2.2.2.1 c hc (by simp)
    have := (oth_len (Q := Q) hA (kids N c) _ _ (fun j hj => kids_lt hj) (w2 ht).1).2
    omega
  · have e : kids N c = [] := kids_none (fun j hj q => ht ((hA.2.2.1 j hj).2.2.2.1 c q).2.1)
    rw [e] at hl
    have : (othL B N Q []).length = 0 := rfl
    omega
theorem oth_l {R : Nat} {B Q : List Int} {N : List Nd} {e : Nat} (hR : isRw R) (hB : B.length ≤ 60) (he : e < N.length) (hq : okQ Q) : ∀ (m k : Nat) (M : Mm_), k + m = N.length → dT M R 60 B N → rowIs M 1 80 Q → pcI M (othL B N Q (kidT N e k)) → ∃ M', EvC G (d + 3) m_E_writeOthers 5 [some (.ref 55), some (.ref 42), some (.int (zI (e : Int))), some (.ref 1), some (.int (zI (k : Int)))] [] M (none, M') ∧ pcI M' (othL B N Q (kids N e)) ∧ Fx p567 M M'
  | 0, k, M, hk, h, hQ, hX => by
    have hN := h.2.2.2.1
    have h6 : M.2.1 42 6 = zI (N.length : Int) := h.2.1.1.2.1
    refine ⟨M, ev_E_writeOthers_5 ?_, by rw [← kidT_all, show N.length = k by omega]; exact hX, Fx.rf h.1.1⟩
    rw [h6, if_neg (fun q => by rw [zI_lt ⟨by omega, by omega⟩ ⟨by omega, by omega⟩] at q; omega)]
    exact ⟨okF_W h.1.1 rfl, rfl⟩
  | m + 1, k, M, hk, h, hQ, hX => by
    have hW := h.1.1
    have hA := h.2.2
    have hN := hA.2.1
    have h6 : M.2.1 42 6 = zI (N.length : Int) := h.2.1.1.2.1
    have r3 := hR
    unfold isRw at r3
    obtain ⟨i1, -, i3, i4, i5, i6, i7, i8, i9, i10, i11, i12⟩ := h.at (show k < N.length by omega)
    have ek : zI (k : Int) + zI 1 = zI ((k + 1 : Nat) : Int) := by rw [zI_add, show (k : Int) + 1 = ((k + 1 : Nat) : Int) by omega]
    have pr := (hA.2.2.1 k (by omega)).2.2.1
    have pr2 : rPa N k < 1000 := by
      by_cases q : rPa N k < 0
      · omega
      · have := hold_lt hA.2.2.1 (show k < N.length by omega) (show rPa N k = (((rPa N k).toNat : Nat) : Int) by omega); omega
    have a6 : am_okA M (42 + 6) 0 (zI (k : Int)) = true := okA_z hW (show sg0[42 + 6]? = some (.inr (0, 80)) from rfl) (by omega) (by omega)
    by_cases c : rPa N k = (e : Int)
    · have g := withn hA (show k < N.length by omega) c
      have ee := e_T_isEqual (G := G) (d := d) h (show k < N.length by omega) hQ hq.1 ⟨hq.2.1, hq.2.2.1⟩
      have pre : ∀ r, EvC G (d + 3) m_E_writeOthers 32 [some (.ref 55), some (.ref 42), some (.int (zI (e : Int))), some (.ref 1), some (.int (zI (k : Int)))] [.int (zI (if val B (rTy N k) (rPl N k) = val Q (by_ Q 0) 1 then 1 else 0))] M r → EvC G (d + 3) m_E_writeOthers 5 [some (.ref 55), some (.ref 42), some (.int (zI (e : Int))), some (.ref 1), some (.int (zI (k : Int)))] [] M r := fun r hr => by
        refine ev_E_writeOthers_5 ?_
        rw [h6, if_pos ((zI_lt ⟨by omega, by omega⟩ ⟨by omega, by omega⟩).mpr (by omega)), zI_nat (show k < 2147483648 by omega), i5, if_pos (by rw [c])]
        exact ⟨okF_W hW rfl, okF_W hW rfl, a6, okO_W hW rfl, _, _, ee, hr⟩
      by_cases cv : val B (rTy N k) (rPl N k) = val Q (by_ Q 0) 1
      · have ex : othL B N Q (kidT N e (k + 1)) = othL B N Q (kidT N e k) := by
          rw [kidT_succ, if_pos c, oth_app, oth_cons, if_pos cv]
          show _ ++ ([] ++ []) = _
          rw [List.append_nil, List.append_nil]
        obtain ⟨M1, e1, x1, f1⟩ := oth_l hR hB he hq m (k + 1) M (by omega) h hQ (by rw [ex]; exact hX)
        refine ⟨M1, pre _ (ev_E_writeOthers_32 ?_), x1, f1⟩
        rw [if_pos cv, zI_0, if_neg z10]
        refine ev_E_writeOthers_60 ?_
        rw [ek]
        exact e1
      · have ex : othL B N Q (kidT N e (k + 1)) = othL B N Q (kidT N e k) ++ sl B (rSt N k) (rEn B N k) := by
          rw [kidT_succ, if_pos c, oth_app, oth_cons, if_neg cv]
          show _ ++ (itm B N k ++ []) = _
          rw [List.append_nil]
          rfl
        have ol := oth_le (Q := Q) hA he (show k ≤ N.length by omega)
        obtain ⟨M0, e0, x0, f0⟩ := e_R_addPart (G := G) (d := d + 1) (r := 56) (r2 := R) (i := rSt N k) (j := rEn B N k) (by omega) (by omega) (by omega) (by omega) hW hX.2 h.1.2.2.2.1 i8 (by omega)
        rw [← ex] at x0
        have f0x := (f0.x hW).up (P' := p567) (fun a j q => mem2 q)
        obtain ⟨M1, e1, x1, f1⟩ := oth_l hR hB he hq m (k + 1) M0 (by omega) (h.kx f0x (fun a j q => by unfold p567 at q; omega)) (hQ.kx f0x (fun j q => by unfold p567 at q; omega) (fun j q => by unfold p567 at q; omega)) ⟨f0x.1, x0⟩
        refine ⟨M1, pre _ (ev_E_writeOthers_32 ?_), x1, f0x.tr f1⟩
        rw [if_neg cv, zI_0, if_pos rfl, zI_nat (show k < 2147483648 by omega), i3, i6, h.1.2.2.1, Option.getD_some]
        refine ⟨okF_W hW rfl, okF_W hW rfl, rfl, okF_W hW rfl, okA_z hW (show sg0[42 + 3]? = some (.inr (0, 80)) from rfl) (by omega) (by omega), okF_W hW rfl, okA_z hW (show sg0[42 + 5]? = some (.inr (0, 80)) from rfl) (by omega) (by omega), okO_W hW rfl, _, e0, ev_E_writeOthers_60 ?_⟩
        rw [ek]
        exact e1
    · obtain ⟨M1, e1, x1, f1⟩ := oth_l hR hB he hq m (k + 1) M (by omega) h hQ (by rw [kidT_succ, if_neg c]; exact hX)
      refine ⟨M1, ev_E_writeOthers_5 ?_, x1, f1⟩
      rw [h6, if_pos ((zI_lt ⟨by omega, by omega⟩ ⟨by omega, by omega⟩).mpr (by omega)), zI_nat (show k < 2147483648 by omega), i5, if_neg (zI_ne ⟨by omega, by omega⟩ ⟨by omega, by omega⟩ c)]
      refine ⟨okF_W hW rfl, okF_W hW rfl, a6, ev_E_writeOthers_60 ?_⟩
      rw [ek]
      exact e1
theorem e_E_writeOthers {M : Mm_} {R : Nat} {B Q : List Int} {N : List Nd} {e : Nat} (hR : isRw R) (hB : B.length ≤ 60) (he : e < N.length) (hq : okQ Q) (h : dT M R 60 B N) (hQ : rowIs M 1 80 Q) (hX : pcI M []) : ∃ M', Ev G (d + 3) 82 [.ref 55, .ref 42, .int (zI (e : Int)), .ref 1] M (none, M') ∧ pcI M' (othL B N Q (kids N e)) ∧ Fx p567 M M' := by
  have e0 : othL B N Q (kidT N e (e + 1)) = [] := by rw [kidT_low h.2.2 (e + 1) (Nat.le_refl _) (by omega)]; rfl
  obtain ⟨M1, e1, x1, f1⟩ := oth_l (G := G) (d := d) hR hB he hq (N.length - (e + 1)) (e + 1) M (by omega) h hQ (by rw [e0]; exact hX)
  refine ⟨M1, ev_of (q := mt_E_writeOthers) rfl (ev_E_writeOthers_0 ?_), x1, f1⟩
  rw [zI_add, show (e : Int) + 1 = ((e + 1 : Nat) : Int) by omega]
  exact e1
/-- what alter makes of an element: nest, from, to, piece; none: it fails -/
def alt (B : List Int) (N : List Nd) (Q : List Int) (op : Int) (e : Nat) : Option (Int × Nat × Nat × List Int) :=
  if op = 0 then some (rPa N e, rSt N e, rEn B N e, by_ Q 0 :: (nmB B N e ++ Q.drop 1))
  else if op = 1 then some (rPa N e, rSt N e, rEn B N e, [])
  else if op = 2 then (if rTy N e = 1 ∧ -32768 ≤ sgn B (rPl N e) + sgn Q 1 ∧ sgn B (rPl N e) + sgn Q 1 ≤ 32767 then some (rPa N e, rPl N e, rEn B N e, [hi8 (sgn B (rPl N e) + sgn Q 1), lo8 (sgn B (rPl N e) + sgn Q 1)]) else none)
  else if ¬ rTy N e = 4 then none
  else if op = 3 then some ((e : Int), rEn B N e - 1, rEn B N e - 1, Q)
  else some ((e : Int), rPl N e + 1, rEn B N e - 1, othL B N Q (kids N e))
theorem e_E_alter {M : Mm_} {R : Nat} {B Q : List Int} {N : List Nd} {e c : Nat} {op : Int} (hR : isRw R) (hB : B.length ≤ 60) (he : e < N.length) (hc : rPa N e = (c : Int)) (ht : rTy N c = 3) (hop : 0 ≤ op ∧ op ≤ 4) (hq : op = 1 ∨ okQ Q) (hq2 : op = 2 → by_ Q 0 = 1) (h : dT M R 60 B N) (hQ : rowIs M 1 80 Q) (hX : pcI M []) :
    ∃ x M', Ev G (d + 4) 80 [.ref 55, .ref 42, .int (zI (e : Int)), .int (zI op), .ref 1] M (some (.int x), M') ∧ Fx pEe M M' ∧ ((x = zI 0 ∧ alt B N Q op e = none) ∨ (x = zI 1 ∧ ∃ n f t X, alt B N Q op e = some (n, f, t, X) ∧ eAim M' n f t ∧ pcI M' X)) := by
  have hW := h.1.1
  have hA := h.2.2
  have hN := hA.2.1
  have r3 := hR
  unfold isRw at r3
  have g := withn hA he hc
  obtain ⟨i1, i2, i3, i4, i5, i6, i7, i8, i9, i10, i11, i12⟩ := h.at he
  obtain ⟨ls, l1, l2, l3, l4, l5⟩ := nm_of hA he hc ht
  have ro : rg op := ⟨by omega, by omega⟩
  have aA : ∀ k, 1 ≤ k → k ≤ 6 → am_okA M (42 + k) 0 (zI (e : Int)) = true := fun k h1 h2 => okA_z hW (tsh42.2 k h1 h2) (by omega) (by omega)
  have ne : ∀ v : Int, rg v → ¬ op = v → ¬ zI op = zI v := fun v hv hn => zI_ne ro hv hn
  have ze : (zI (e : Int)).toNatClampNeg = e := zI_nat (by omega)
  unfold alt
  by_cases o0 : op = 0
  · have hq := hq.resolve_left (by omega)
    have hq0 : 0 < Q.length := by_lt (by have := hq.2.1; omega)
    obtain ⟨M1, e1, m1, f1⟩ := e_E_aim (G := G) (d := d + 3) (n := rPa N e) (f := rSt N e) (t := rEn B N e) hW
    have Q1 : rowIs M1 1 80 Q := hQ.kx f1 (fun j q => by unfold pAm at q; omega) (fun j q => by unfold pAm at q; omega)
    have X1 : pcI M1 [] := ⟨f1.1, hX.2.kx f1 (fun j q => by unfold pAm at q; omega) (fun j q => by unfold pAm at q; omega)⟩
    have h1 := h.kx f1 (fun a j q => by unfold pAm at q; omega)
    obtain ⟨M2, e2, x2, f2⟩ := e_E_writeElement (G := G) (d := d + 1) X1 l1 Q1 hq0 (by simp)
    refine ⟨zI 1, M2, ev_of (q := mt_E_alter) rfl (ev_E_alter_0 ?_), (f1.up (fun a j q => pAm_Ee q)).tr (f2.up (fun a j q => p567_Ee q)), Or.inr ⟨rfl, _, _, _, _, by rw [if_pos o0], m1.kx f2 (fun a j q w => by unfold p567 at q; unfold pAm at w; omega), ?_⟩⟩
    · rw [ze, i1, i4, i6, if_pos (by rw [o0]), i5, i3]
      refine ⟨okF_W hW rfl, aA 1 (by omega) (by omega), okF_W hW rfl, aA 4 (by omega) (by omega), okF_W hW rfl, aA 5 (by omega) (by omega), okF_W hW rfl, aA 6 (by omega) (by omega), okF_W hW rfl, aA 3 (by omega) (by omega), okO_W hW rfl, _, e1, ev_E_alter_74 ?_⟩
      rw [ze, (h1.at he).2.1, l2]
      exact ⟨okF_W f1.1 rfl, okA_z f1.1 (tsh42.2 2 (by omega) (by omega)) (by omega) (by omega), okO_W f1.1 rfl, _, e2, ev_E_alter_86 rfl⟩
    · have ex : by_ Q 0 :: (nmB B N e ++ Q.drop 1) = elm ls Q := by
        rw [l3]
        unfold elm
        rw [List.append_assoc]
        rfl
      rw [ex]
      exact x2
  · rw [if_neg o0]
    by_cases o1 : op = 1
    · obtain ⟨M1, e1, m1, f1⟩ := e_E_aim (G := G) (d := d + 3) (n := rPa N e) (f := rSt N e) (t := rEn B N e) hW
      have X1 : pcI M1 [] := ⟨f1.1, hX.2.kx f1 (fun j q => by unfold pAm at q; omega) (fun j q => by unfold pAm at q; omega)⟩
      refine ⟨zI 1, M1, ev_of (q := mt_E_alter) rfl (ev_E_alter_0 ?_), f1.up (fun a j q => pAm_Ee q), Or.inr ⟨rfl, _, _, _, _, by rw [if_pos o1], m1, X1⟩⟩
      rw [ze, i1, i4, i6, if_neg (ne 0 ⟨by omega, by omega⟩ o0), if_pos (by rw [o1]), i5, i3]
      exact ⟨okF_W hW rfl, aA 1 (by omega) (by omega), okF_W hW rfl, aA 4 (by omega) (by omega), okF_W hW rfl, aA 5 (by omega) (by omega), okF_W hW rfl, aA 6 (by omega) (by omega), okF_W hW rfl, aA 3 (by omega) (by omega), okO_W hW rfl, _, e1, ev_E_alter_106 rfl⟩
    · have hq := hq.resolve_left o1
      have hq0 : 0 < Q.length := by_lt (by have := hq.2.1; omega)
      rw [if_neg o1]
      by_cases o2 : op = 2
      · rw [if_pos o2]
        have q3 := okQ_1 hq (hq2 o2)
        obtain ⟨M1, e1, m1, f1⟩ := e_E_aim (G := G) (d := d + 3) (n := rPa N e) (f := rPl N e) (t := rEn B N e) hW
        have Q1 : rowIs M1 1 80 Q := hQ.kx f1 (fun j q => by unfold pAm at q; omega) (fun j q => by unfold pAm at q; omega)
        have X1 : pcI M1 [] := ⟨f1.1, hX.2.kx f1 (fun j q => by unfold pAm at q; omega) (fun j q => by unfold pAm at q; omega)⟩
        have h1 := h.kx f1 (fun a j q => by unfold pAm at q; omega)
        have pre : ∀ r, EvC G (d + 4) m_E_alter 122 [some (.ref 55), some (.ref 42), some (.int (zI (e : Int))), some (.int (zI op)), some (.ref 1), some (.int (zI (rTy N e))), some (.int (zI (rPl N e : Int))), some (.int (zI (rEn B N e : Int)))] [] M1 r → Ev G (d + 4) 80 [.ref 55, .ref 42, .int (zI (e : Int)), .int (zI op), .ref 1] M r := fun r hr => by
          refine ev_of (q := mt_E_alter) rfl (ev_E_alter_0 ?_)
          rw [ze, i1, i4, i6, if_neg (ne 0 ⟨by omega, by omega⟩ o0), if_neg (ne 1 ⟨by omega, by omega⟩ o1), if_pos (by rw [o2]), i5]
          exact ⟨okF_W hW rfl, aA 1 (by omega) (by omega), okF_W hW rfl, aA 4 (by omega) (by omega), okF_W hW rfl, aA 5 (by omega) (by omega), okF_W hW rfl, aA 6 (by omega) (by omega), okO_W hW rfl, _, e1, hr⟩
        by_cases t1 : rTy N e = 1
        · have n1 := nd_1 hA he t1
          have sb := sgn_rg h.1.2.2.2.1.okB (p := rPl N e) (by omega)
          obtain ⟨M2, e2, x2, f2⟩ := e_E_writeSum (G := G) (d := d + 1) (n := sgn B (rPl N e)) X1 Q1 q3 sb
          have F := (f1.up (fun a j q => pAm_Ee q)).tr (f2.up (fun a j q => p567_Ee q))
          have W1 := f1.1
          have go : ∀ y, (if zI (if -32768 ≤ sgn B (rPl N e) + sgn Q 1 ∧ sgn B (rPl N e) + sgn Q 1 ≤ 32767 then 1 else 0) = zI 0 then ((some (.int y), M2) = ((some (.int (zI 0)), M2) : Out_)) else ((some (.int y), M2) = ((some (.int (zI 1)), M2) : Out_))) → Ev G (d + 4) 80 [.ref 55, .ref 42, .int (zI (e : Int)), .int (zI op), .ref 1] M (some (.int y), M2) := fun y hy => by
            refine pre _ (ev_E_alter_122 ?_)
            rw [if_pos (by rw [t1]), h1.1.2.2.1, Option.getD_some]
            refine ⟨okF_W W1 rfl, rfl, okO_W W1 h1.1.2.2.2.1.1, _, _, e_R_signedNumber W1 h1.1.2.2.2.1 (by omega), ev_E_alter_138 ⟨okO_W W1 rfl, _, _, e2, ev_E_alter_143 ?_⟩⟩
            rw [zI_0]
            exact hy
          by_cases cr : -32768 ≤ sgn B (rPl N e) + sgn Q 1 ∧ sgn B (rPl N e) + sgn Q 1 ≤ 32767
          · refine ⟨zI 1, M2, go _ (by rw [if_pos cr, if_neg z10]), F, Or.inr ⟨rfl, _, _, _, _, by rw [if_pos ⟨t1, cr⟩], m1.kx f2 (fun a j q w => by unfold p567 at q; unfold pAm at w; omega), x2⟩⟩
          · refine ⟨zI 0, M2, go _ (by rw [if_neg cr, if_pos rfl]), F, Or.inl ⟨rfl, by rw [if_neg (fun q => cr q.2)]⟩⟩
        · refine ⟨zI 0, M1, pre _ (ev_E_alter_122 ?_), f1.up (fun a j q => pAm_Ee q), Or.inl ⟨rfl, by rw [if_neg (fun q => t1 q.1)]⟩⟩
          rw [if_neg (zI_ne ⟨by omega, by omega⟩ ⟨by omega, by omega⟩ t1)]
      · rw [if_neg o2]
        by_cases o3 : op = 3
        · obtain ⟨M1, e1, m1, f1⟩ := e_E_aim (G := G) (d := d + 3) (n := (e : Int)) (f := rEn B N e - 1) (t := rEn B N e - 1) hW
          have Q1 : rowIs M1 1 80 Q := hQ.kx f1 (fun j q => by unfold pAm at q; omega) (fun j q => by unfold pAm at q; omega)
          have X1 : pcI M1 [] := ⟨f1.1, hX.2.kx f1 (fun j q => by unfold pAm at q; omega) (fun j q => by unfold pAm at q; omega)⟩
          have ql := hQ.2.2.1
          obtain ⟨M2, e2, x2, f2⟩ := e_R_addPart (G := G) (d := d + 2) (r := 56) (r2 := 1) (i := 0) (j := Q.length) (by omega) (by omega) (by omega) (by omega) f1.1 X1.2 Q1 (Nat.le_refl _) (by rw [List.length_nil]; omega)
          rw [sl_all, List.nil_append] at x2
          have f2x := (f2.x f1.1).up (P' := p567) (fun a j q => mem2 q)
          have F := (f1.up (fun a j q => pAm_Ee q)).tr (f2x.up (fun a j q => p567_Ee q))
          have go : ∀ y, (if zI (rTy N e) = zI 4 then ((some (.int y), M2) = ((some (.int (zI 1)), M2) : Out_)) else ((some (.int y), M2) = ((some (.int (zI 0)), M2) : Out_))) → Ev G (d + 4) 80 [.ref 55, .ref 42, .int (zI (e : Int)), .int (zI op), .ref 1] M (some (.int y), M2) := fun y hy => by
            refine ev_of (q := mt_E_alter) rfl (ev_E_alter_0 ?_)
            rw [ze, i1, i4, i6, if_neg (ne 0 ⟨by omega, by omega⟩ o0), if_neg (ne 1 ⟨by omega, by omega⟩ o1), if_neg (ne 2 ⟨by omega, by omega⟩ o2), if_pos (by rw [o3]), zI_sub, show (rEn B N e : Int) - 1 = ((rEn B N e - 1 : Nat) : Int) by omega]
            refine ⟨okF_W hW rfl, aA 1 (by omega) (by omega), okF_W hW rfl, aA 4 (by omega) (by omega), okF_W hW rfl, aA 5 (by omega) (by omega), okO_W hW rfl, _, e1, ev_E_alter_165 ?_⟩
            rw [Q1.2.2.2.1]
            exact ⟨okF_W f1.1 rfl, okF_W f1.1 rfl, okO_W f1.1 rfl, _, e2, ev_E_alter_180 hy⟩
          by_cases t4 : rTy N e = 4
          · rw [if_neg (fun q => q t4), if_pos o3]
            exact ⟨zI 1, M2, go _ (by rw [if_pos (by rw [t4])]), F, Or.inr ⟨rfl, _, _, _, _, rfl, m1.kx f2x (fun a j q w => by unfold p567 at q; unfold pAm at w; omega), ⟨f2x.1, x2⟩⟩⟩
          · rw [if_pos t4]
            exact ⟨zI 0, M2, go _ (by rw [if_neg (zI_ne ⟨by omega, by omega⟩ ⟨by omega, by omega⟩ t4)]), F, Or.inl ⟨rfl, rfl⟩⟩
        · obtain ⟨M1, e1, m1, f1⟩ := e_E_aim (G := G) (d := d + 3) (n := (e : Int)) (f := rPl N e + 1) (t := rEn B N e - 1) hW
          have Q1 : rowIs M1 1 80 Q := hQ.kx f1 (fun j q => by unfold pAm at q; omega) (fun j q => by unfold pAm at q; omega)
          have X1 : pcI M1 [] := ⟨f1.1, hX.2.kx f1 (fun j q => by unfold pAm at q; omega) (fun j q => by unfold pAm at q; omega)⟩
          have h1 := h.kx f1 (fun a j q => by unfold pAm at q; omega)
          obtain ⟨M2, e2, x2, f2⟩ := e_E_writeOthers (G := G) (d := d) hR hB he hq h1 Q1 X1
          have F := (f1.up (fun a j q => pAm_Ee q)).tr (f2.up (fun a j q => p567_Ee q))
          have go : ∀ y, (if zI (rTy N e) = zI 4 then ((some (.int y), M2) = ((some (.int (zI 1)), M2) : Out_)) else ((some (.int y), M2) = ((some (.int (zI 0)), M2) : Out_))) → Ev G (d + 4) 80 [.ref 55, .ref 42, .int (zI (e : Int)), .int (zI op), .ref 1] M (some (.int y), M2) := fun y hy => by
            refine ev_of (q := mt_E_alter) rfl (ev_E_alter_0 ?_)
            rw [ze, i1, i4, i6, if_neg (ne 0 ⟨by omega, by omega⟩ o0), if_neg (ne 1 ⟨by omega, by omega⟩ o1), if_neg (ne 2 ⟨by omega, by omega⟩ o2), if_neg (ne 3 ⟨by omega, by omega⟩ o3), zI_sub, zI_add, show (rEn B N e : Int) - 1 = ((rEn B N e - 1 : Nat) : Int) by omega, show (rPl N e : Int) + 1 = ((rPl N e + 1 : Nat) : Int) by omega]
            exact ⟨okF_W hW rfl, aA 1 (by omega) (by omega), okF_W hW rfl, aA 4 (by omega) (by omega), okF_W hW rfl, aA 5 (by omega) (by omega), okO_W hW rfl, _, e1, ev_E_alter_205 ⟨okO_W f1.1 rfl, _, e2, ev_E_alter_213 hy⟩⟩
          by_cases t4 : rTy N e = 4
          · rw [if_neg (fun q => q t4), if_neg o3]
            exact ⟨zI 1, M2, go _ (by rw [if_pos (by rw [t4])]), F, Or.inr ⟨rfl, _, _, _, _, rfl, m1.kx f2 (fun a j q w => by unfold p567 at q; unfold pAm at w; omega), x2⟩⟩
          · rw [if_pos t4]
            exact ⟨zI 0, M2, go _ (by rw [if_neg (zI_ne ⟨by omega, by omega⟩ ⟨by omega, by omega⟩ t4)]), F, Or.inl ⟨rfl, rfl⟩⟩
/-! splice -/
theorem spl_l {R : Nat} {B : List Int} {N : List Nd} {g : Int} {a2 : Nat} (hR : isRw R) : ∀ (A : List Nat) (k : Nat) (Y : List Int) (M : Mm_), dT M R 60 B N → rowIs M 58 60 Y → chA N A → (∀ a ∈ A, a < N.length ∧ rPl N a < Y.length ∧ 0 ≤ by_ Y (rPl N a) + g ∧ by_ Y (rPl N a) + g ≤ 255) → (A.map (rPl N)).Nodup → k + A.length ≤ 4 → ∃ M', EvC G (d + 2) m_E_splice 101 [some (.ref 55), some (.ref 42), some (.ref a2), some (.int (zI g)), some (.int (zI (hdI A))), some (.int (zI (k : Int)))] [] M (some (.int (zI 1)), M') ∧ rowIs M' 58 60 (upT Y (A.map (rPl N)) g) ∧ Fx (fun a _ => a = 58 ∨ a = 59) M M'
  | [], k, Y, M, h, hY, _, _, _, hk => by
    refine ⟨M, ev_E_splice_101 ?_, hY, Fx.rf h.1.1⟩
    by_cases c : k < 4
    · rw [if_pos ((zI_lt ⟨by omega, by omega⟩ ⟨by omega, by omega⟩).mpr (by omega)), show hdI [] = -1 from rfl, if_pos rfl]
    · rw [if_neg (fun q => by rw [zI_lt ⟨by omega, by omega⟩ ⟨by omega, by omega⟩] at q; omega)]
  | a :: A, k, Y, M, h, hY, hch, hA, hn, hk => by
    have hW := h.1.1
    have r3 := hR
    unfold isRw at r3
    rw [List.length_cons] at hk
    obtain ⟨g1, g2, g3, g4⟩ := hA a List.mem_cons_self
    obtain ⟨-, -, -, i4, i5, -, -, -, -, -, i11, i12⟩ := h.at g1
    have f1 : Fx (fun a _ => a = 58 ∨ a = 59) M (am_setI M (58 + 1) (rPl N a) (zI (by_ Y (rPl N a) + g))) := Fx.setI hW (Or.inr rfl)
    have Y1 := row_set hY g2 ⟨g3, g4⟩
    have h1 := h.kx f1 (fun a j q => by omega)
    rw [List.map_cons] at hn
    obtain ⟨n1, n2⟩ := List.nodup_cons.mp hn
    have nx : rPa N a = hdI A ∧ chA N A := by
      cases A with
      | nil => exact ⟨hch, trivial⟩
      | cons b r => exact ⟨hch.1, hch.2⟩
    obtain ⟨M2, e2, r2, f2⟩ := spl_l (a2 := a2) (g := g) hR A (k + 1) (Y.set (rPl N a) (by_ Y (rPl N a) + g)) _ h1 Y1 nx.2 (fun b hb => by
      obtain ⟨q1, q2, q3, q4⟩ := hA b (List.mem_cons_of_mem _ hb)
      have ne : rPl N b ≠ rPl N a := fun q => n1 (by rw [← q]; exact List.mem_map.mpr ⟨b, hb, rfl⟩)
      refine ⟨q1, by rw [List.length_set]; exact q2, ?_, ?_⟩
      · rw [by_set g2, if_neg ne]; exact q3
      · rw [by_set g2, if_neg ne]; exact q4) n2 (by omega)
    refine ⟨M2, ev_E_splice_101 ?_, r2, f1.tr f2⟩
    have yc := hY.2.2.1
    have v : M.2.1 (55 + 3 + 1) (rPl N a) = zI (by_ Y (rPl N a)) := hY.2.2.2.2.1 _ g2
    have ec : zI (by_ Y (rPl N a)) + zI g = zI (by_ Y (rPl N a) + g) := zI_add _ _
    rw [if_pos ((zI_lt ⟨by omega, by omega⟩ ⟨by omega, by omega⟩).mpr (by omega)), show hdI (a :: A) = ((a : Nat) : Int) from rfl, if_neg (show ¬ zI ((a : Nat) : Int) = zI (-1) from zI_ne ⟨by omega, by omega⟩ ⟨by omega, by omega⟩ (by omega)), show (zI ((a : Nat) : Int)).toNatClampNeg = a from zI_nat (by omega), i4, zI_nat (show rPl N a < 2147483648 by omega), v, ec]
    have ei : (am_setI M (55 + 3 + 1) (rPl N a) (zI (by_ Y (rPl N a) + g))).2.1 (42 + 6) a = zI (hdI A) := by
      rw [setI_cell (by decide), i5, nx.1]
    rw [ei, zI_add, show (k : Int) + 1 = ((k + 1 : Nat) : Int) by omega]
    exact ⟨okF_W hW rfl, okF_W hW rfl, okF_W hW rfl, okA_z hW (tsh42.2 4 (by omega) (by omega)) (by omega) (by omega), okA_z hW (show sg0[55 + 3 + 1]? = some (.inr (0, 60)) from rfl) (by omega) (by omega), okA_z hW (show sg0[55 + 3 + 1]? = some (.inr (0, 60)) from rfl) (by omega) (by omega), okF_W (WM_setI hW) rfl, okA_z (WM_setI hW) (tsh42.2 6 (by omega) (by omega)) (by omega) (by omega), e2⟩
theorem e_E_splice {M : Mm_} {R : Nat} {B X : List Int} {N : List Nd} {A : List Nat} {n : Int} {f t : Nat} (hR : isRw R) (h : dT M R 60 B N) (hX : pcI M X) (hxl : X.length ≤ 160) (hm : eAim M n f t) (hft : f ≤ t) (ht : t ≤ B.length) (hn : n = hdI A) (hch : chA N A) (hA : ∀ a ∈ A, a < N.length ∧ rPl N a < f ∧ isC (rTy N a) ∧ t ≤ rEn B N a) (hnd : (A.map (rPl N)).Nodup) (h4 : A.length ≤ 4) :
    ∃ M', Ev G (d + 3) 83 [.ref 55, .ref 42] M (some (.int (zI (if (edB B f t X (A.map (rPl N))).length ≤ 60 then 1 else 0))), M') ∧ ((edB B f t X (A.map (rPl N))).length ≤ 60 → rowIs M' 58 60 (edB B f t X (A.map (rPl N)))) ∧ Fx (fun a _ => a = 58 ∨ a = 59) M M' := by
  have hW := h.1.1
  have hR' := h.1.2.2.2.1
  have hbl := hR'.2.2.1
  have r3 := hR
  unfold isRw at r3
  have el := edB_len (B := B) (f := f) (t := t) (pc := X) (ps := A.map (rPl N))
  have x1 : M.2.1 (55 + 1) 1 = zI (X.length : Int) := hX.2.2.2.2.1
  have b1 : M.2.1 R 1 = zI (B.length : Int) := hR'.2.2.2.1
  have e7 : M.2.1 55 7 - M.2.1 55 6 = zI ((t : Int) - (f : Int)) := by rw [hm.2.2, hm.2.1, zI_sub]
  by_cases c : (edB B f t X (A.map (rPl N))).length ≤ 60
  · rw [if_pos c]
    have f0 : Fx (fun a _ => a = 58 ∨ a = 59) M (am_setI M 58 1 (zI 0)) := Fx.setI hW (Or.inl rfl)
    have y0 : rowIs (am_setI M 58 1 (zI 0)) 58 60 [] := row_clr rfl rfl
    have h0 := h.kx f0 (fun a j q => by omega)
    have X0 : rowIs (am_setI M 58 1 (zI 0)) 56 160 X := hX.2.kx f0 (fun j q => by omega) (fun j q => by omega)
    obtain ⟨M1, e1, y1, f1⟩ := e_R_addPart (G := G) (d := d + 1) (r := 58) (r2 := R) (i := 0) (j := f) (by omega) (by omega) (by omega) (by omega) f0.1 y0 h0.1.2.2.2.1 (by omega) (by rw [List.length_nil]; omega)
    have f1x := (f1.x f0.1).up (P' := fun a _ => a = 58 ∨ a = 59) (fun a j q => mem2 q)
    have h1 := h0.kx f1x (fun a j q => by omega)
    have X1 := X0.kx f1x (fun j q => by omega) (fun j q => by omega)
    rw [List.nil_append] at y1
    have l1 : (sl B 0 f).length = f := by rw [sl_len (by omega)]; omega
    obtain ⟨M2, e2, y2, f2⟩ := e_R_addPart (G := G) (d := d + 1) (r := 58) (r2 := 56) (i := 0) (j := X.length) (by omega) (by omega) (by omega) (by omega) f1x.1 y1 X1 (Nat.le_refl _) (by rw [l1]; omega)
    rw [sl_all] at y2
    have f2x := (f2.x f1x.1).up (P' := fun a _ => a = 58 ∨ a = 59) (fun a j q => mem2 q)
    have h2 := h1.kx f2x (fun a j q => by omega)
    obtain ⟨M3, e3, y3, f3⟩ := e_R_addPart (G := G) (d := d + 1) (r := 58) (r2 := R) (i := t) (j := B.length) (by omega) (by omega) (by omega) ht f2x.1 y2 h2.1.2.2.2.1 (Nat.le_refl _) (by rw [List.length_append, l1]; omega)
    have f3x := (f3.x f2x.1).up (P' := fun a _ => a = 58 ∨ a = 59) (fun a j q => mem2 q)
    have h3 := h2.kx f3x (fun a j q => by omega)
    have F3 := ((f0.tr f1x).tr f2x).tr f3x
    have m3 := hm.kx F3 (fun a j q w => by unfold pAm at w; omega)
    have m2 := hm.kx ((f0.tr f1x).tr f2x) (fun a j q w => by unfold pAm at w; omega)
    have l3 : (sl B 0 f ++ X ++ sl B t B.length).length = f + X.length + (B.length - t) := by rw [List.length_append, List.length_append, l1, sl_len (Nat.le_refl _)]
    obtain ⟨M4, e4, y4, f4⟩ := spl_l (G := G) (d := d + 1) (g := (X.length : Int) - ((t : Int) - (f : Int))) (a2 := R) hR A 0 _ M3 h3 y3 hch (fun a ha => by
      obtain ⟨q1, q2, q3, q4⟩ := hA a ha
      obtain ⟨w1, w2, w3⟩ := len_T h.2.2 q1 q3
      have eb : by_ (sl B 0 f ++ X ++ sl B t B.length) (rPl N a) = by_ B (rPl N a) := by rw [List.append_assoc, by_app (by omega), sl_by (by omega), Nat.zero_add]
      rw [eb]
      exact ⟨q1, by rw [l3]; omega, by omega, by omega⟩) hnd (by omega)
    rw [upT_ed hnd (fun p hp => by obtain ⟨a, ha, rfl⟩ := List.mem_map.mp hp; exact (hA a ha).2.1) hft ht rfl] at y4
    refine ⟨M4, ev_of (q := mt_E_splice) rfl (ev_E_splice_0 ?_), fun _ => y4, F3.tr f4⟩
    rw [h.1.2.2.1, Option.getD_some, x1, b1, e7, zI_sub, zI_add, if_neg (fun q => by rw [zI_lt ⟨by omega, by omega⟩ ⟨by omega, by omega⟩] at q; omega), setI_cell (show (55 : Nat) ≠ 55 + 3 by decide), hm.2.1]
    refine ⟨okF_W hW rfl, rfl, okF_W hW rfl, okF_W hW rfl, okF_W hW rfl, okF_W hW rfl, okF_W hW hR'.1, okF_W hW rfl, okP_W hW rfl rfl, okF_W f0.1 rfl, okF_W f0.1 rfl, okO_W f0.1 rfl, _, e1, ev_E_splice_57 ?_⟩
    have x1' : M1.2.1 (55 + 1) 1 = zI (X.length : Int) := X1.2.2.2.1
    rw [x1']
    refine ⟨okF_W f1x.1 rfl, okF_W f1x.1 rfl, okF_W f1x.1 rfl, okF_W f1x.1 rfl, okO_W f1x.1 rfl, _, e2, ev_E_splice_76 ?_⟩
    rw [m2.2.2, h2.1.2.2.2.1.2.2.2.1]
    refine ⟨okF_W f2x.1 rfl, okF_W f2x.1 rfl, okF_W f2x.1 h2.1.2.2.2.1.1, okO_W f2x.1 rfl, _, e3, ev_E_splice_92 ?_⟩
    rw [m3.1, hn]
    exact ⟨okF_W f3x.1 rfl, e4⟩
  · rw [if_neg c]
    refine ⟨M, ev_of (q := mt_E_splice) rfl (ev_E_splice_0 ?_), fun q => absurd q c, Fx.rf hW⟩
    rw [h.1.2.2.1, Option.getD_some, x1, b1, e7, zI_sub, zI_add, if_pos ((zI_lt ⟨by omega, by omega⟩ ⟨by omega, by omega⟩).mpr (by omega))]
    exact ⟨okF_W hW rfl, rfl, okF_W hW rfl, okF_W hW rfl, okF_W hW rfl, okF_W hW rfl, okF_W hW hR'.1, rfl⟩
end ALTER
