/-! THE CLASS's TREE: readName, closeNest, readPart -/
section TPART
variable {G : Nat × (Nat → Int32)} {d : Nat} {t q cap : Nat} {B : List Int} {N : List Nd}
theorem rn_loop {c p0 : Nat} (hp0 : p0 ≤ 200) : ∀ (r k p : Nat) (acc : Int) (M : Mm_), k + r = 4 → p ≤ 200 + k → tSt M t q cap B N c → M.2.1 t 8 = zI p → 0 ≤ acc → 255 * acc ≤ 122 * (lim r - 1) →
    ∃ M', EvC G (d + 1) m_T_readName 9 [some (.ref t), some (.int (zI p0)), some (.int (zI acc)), some (.int (zI k))] [] M (some (.int (zI (nv (rdN' B N c p0 (rdL B r (decide (k = 0)) acc p))))), M') ∧ Fp (pPF t) M M' ∧ nmO M M' t (rdN' B N c p0 (rdL B r (decide (k = 0)) acc p))
  | 0, k, p, acc, M, hk, hp, h, h8, ha, hb => by
    have hl : lim 0 = 4294967296 := rfl
    obtain ⟨M1, M', e1, e2, f, o⟩ := name_tail (G := G) (d := d) (p0 := p0) (k := k) (acc := acc) h h8 (by omega) (by omega) ⟨by omega, by omega⟩
    refine ⟨M', ev_T_readName_9 ?_, f, o⟩
    rw [if_neg (fun c => by rw [zI_lt ⟨by omega, by omega⟩ ⟨by omega, by omega⟩] at c; omega)]
    exact ⟨okO_W h.1.1 h.1.2.1.1, _, _, e1, e2⟩
  | r + 1, k, p, acc, M, hk, hp, h, h8, ha, hb => by
    have hE := h.1
    have hW := hE.1
    have hT := hE.2.1
    have hby := by_rg hE.2.2.2.1 p
    obtain ⟨s1, s2, s3⟩ := lim_step (show r < 4 by omega)
    -- a letter
    have letter : ∃ M1 M', Ev G d 25 [.ref t, .int (zI 1), .int (zI 97), .int (zI 122)] M (some (.int (zI (okI (rb B 97 122 1 p)))), M1) ∧ EvC G (d + 1) m_T_readName 41 [some (.ref t), some (.int (zI p0)), some (.int (zI acc)), some (.int (zI k))] [.int (zI (okI (rb B 97 122 1 p)))] M1 (some (.int (zI (nv (rdN' B N c p0 (if 97 ≤ by_ B p ∧ by_ B p ≤ 122 then rdL B r false (acc * 256 + by_ B p) (p + 1) else .inl p))))), M') ∧ Fp (pPF t) M M' ∧ nmO M M' t (rdN' B N c p0 (if 97 ≤ by_ B p ∧ by_ B p ≤ 122 then rdL B r false (acc * 256 + by_ B p) (p + 1) else .inl p)) := by
      obtain ⟨M1, e1, f1, o1⟩ := e_T_readBytes (G := G) (d := d) (k := 1) (p := p) (lo := 97) (hi := 122) ⟨by omega, by omega⟩ ⟨by omega, by omega⟩ (by omega) (by omega) hE h8
      have h1 := h.kept f1
      have hW1 := h1.1.1
      by_cases c1 : 97 ≤ by_ B p ∧ by_ B p ≤ 122
      · have hr : rb B 97 122 1 p = .inr (p + 1) := by rw [rb1, if_pos c1]
        rw [hr] at e1 o1 ⊢
        rw [if_pos c1]
        obtain ⟨M', e2, f2, o2⟩ := rn_loop hp0 r (k + 1) (p + 1) (acc * 256 + by_ B p) M1 (by omega) (by omega) h1 o1.1 (by omega) (by omega)
        rw [show decide (k + 1 = 0) = false from by simp] at e2 o2
        refine ⟨M1, M', e1, ev_T_readName_41 ?_, f1.tr f2, ?_⟩
        · show if zI 1 = 0 then _ else _
          rw [zI_0, if_neg z10, h1.1.2.2.1, Option.getD_some, o1.1, zI_sub, show ((p + 1 : Nat) : Int) - 1 = (p : Int) by omega]
          refine ⟨okF_W hW1 hT.1, rfl, okF_W hW1 hT.1, okO_W hW1 h1.1.2.2.2.1.1, _, _, e_R_cell hW1 h1.1.2.2.2.1 ⟨by omega, by omega⟩, ev_T_readName_63 ?_⟩
          have ec : cB B (p : Int) = by_ B p := by unfold cB; rw [if_pos (by omega), Int.toNat_natCast]
          rw [ec, shl_or ha (by omega) (by omega) (by omega), zI_add, show (k : Int) + 1 = ((k + 1 : Nat) : Int) by omega]
          exact e2
        · cases hR : rdN' B N c p0 (rdL B r false (acc * 256 + by_ B p) (p + 1)) with
          | inl g => rw [hR] at o2; exact o2
          | inr z => rw [hR] at o2; exact ⟨o2.1, o2.2.trans o1.2⟩
      · have hr : rb B 97 122 1 p = .inl p := by rw [rb1, if_neg c1]
        rw [hr] at e1 o1 ⊢
        rw [if_neg c1]
        refine ⟨M1, M1, e1, ev_T_readName_41 ?_, f1, o1⟩
        show if zI 0 = 0 then _ else _
        rw [zI_0, if_pos rfl]
        rfl
    unfold rdL
    by_cases k0 : k = 0
    · subst k0
      rw [if_neg (by simp)]
      obtain ⟨M1, M', e1, e2, f, o⟩ := letter
      refine ⟨M', ev_T_readName_9 ?_, f, o⟩
      rw [if_pos (by decide +kernel), if_pos (by decide +kernel)]
      exact ⟨okO_W hW hT.1, _, _, e1, e2⟩
    · rw [show decide (k = 0) = false from by simp [k0]]
      have pre : ∀ {M' : Mm_} {v : Int32}, EvC G (d + 1) m_T_readName 29 [some (.ref t), some (.int (zI p0)), some (.int (zI acc)), some (.int (zI k))] [.int (zI (by_ B p))] M (some (.int v), M') → EvC G (d + 1) m_T_readName 9 [some (.ref t), some (.int (zI p0)), some (.int (zI acc)), some (.int (zI k))] [] M (some (.int v), M') := fun hh => by
        refine ev_T_readName_9 ?_
        rw [if_pos ((zI_lt ⟨by omega, by omega⟩ ⟨by omega, by omega⟩).mpr (by omega)), zI_0, if_neg (zI_ne ⟨by omega, by omega⟩ ⟨by omega, by omega⟩ (by omega)), hE.2.2.1, Option.getD_some, h8]
        have ec : cB B (p : Int) = by_ B p := by unfold cB; rw [if_pos (by omega), Int.toNat_natCast]
        have := e_R_cell (G := G) (d := d) (p := (p : Int)) hW hE.2.2.2.1 ⟨by omega, by omega⟩
        rw [ec] at this
        exact ⟨okF_W hW hT.1, rfl, okF_W hW hT.1, okO_W hW hE.2.2.2.1.1, _, _, this, hh⟩
      by_cases b0 : by_ B p = 0
      · rw [if_pos ⟨rfl, b0⟩]
        obtain ⟨M1, M', e1, e2, f, o⟩ := name_tail (G := G) (d := d) (p0 := p0) (k := k) (acc := acc) h h8 (by omega) (by omega) ⟨by omega, by omega⟩
        refine ⟨M', pre (ev_T_readName_29 ?_), f, o⟩
        rw [b0, zI_0, if_pos rfl]
        exact ⟨okO_W hW hT.1, _, _, e1, e2⟩
      · rw [if_neg (fun c => b0 c.2)]
        obtain ⟨M1, M', e1, e2, f, o⟩ := letter
        refine ⟨M', pre (ev_T_readName_29 ?_), f, o⟩
        rw [zI_0, if_neg (zI_ne ⟨by omega, by omega⟩ ⟨by omega, by omega⟩ b0)]
        exact ⟨okO_W hW hT.1, _, _, e1, e2⟩
theorem e_T_readName {M : Mm_} {c p : Nat} (h : tSt M t q cap B N c) (h8 : M.2.1 t 8 = zI p) (hp : p ≤ 200) : ∃ M', Ev G (d + 1) 29 [.ref t] M (some (.int (zI (nv (rdN B N c p)))), M') ∧ Fp (pPF t) M M' ∧ nmO M M' t (rdN B N c p) := by
  obtain ⟨M', e, f, o⟩ := rn_loop (G := G) (d := d) (p0 := p) hp 4 0 p 0 M (by omega) (by omega) h h8 (Int.le_refl _) (by decide)
  rw [rdN_eq]
  refine ⟨M', ev_of (q := mt_T_readName) rfl (ev_T_readName_0 ⟨okF_W h.1.1 h.1.2.1.1, ?_⟩), f, o⟩
  rw [h8]
  exact e
theorem e_T_closeNest {M : Mm_} {z c : Nat} {r : List Nat} (hE : tEn M t q cap B) (h : trIs M t B (z, N, c :: r)) (hI : RInv B (z, N, c :: r)) : ∃ M', Ev G (d + 1) 27 [.ref t] M (some (.int (zI (okI (rdX B (z, N, c :: r) c r)))), M') ∧ Fp (pT t) M M' ∧ tOut M' t B (rdX B (z, N, c :: r) c r) := by
  obtain ⟨i1, i2, i3, ⟨j1, j2, j3, j4, -, -⟩, i5, i6, i7, i8⟩ := hI
  dsimp only at i1 i2 i3 j1 j2 j3 j4 i5 i6 i7 i8
  obtain ⟨⟨a1, a2, a3, a4, a5⟩, hN, hEd⟩ := h
  dsimp only at a1 a2 a3 a4 a5 hN hEd
  have hW := hE.1
  have hT := hE.2.1
  have hB := hE.2.2.2.2.2
  obtain ⟨-, -, -, n4, n5⟩ := hN c j1
  have a3' : M.2.1 t 10 = zI c := a3
  have hz : (zI (c : Int)).toNatClampNeg = c := zI_nat (by omega)
  have fa : Fp (pT t) M (am_setI M t 8 (zI ((z : Int) + 1))) := Fp.set ⟨by omega, by omega⟩
  have hEa := hE.kept fa
  have g : ∀ j, j ≠ 8 → (am_setI M t 8 (zI ((z : Int) + 1))).2.1 t j = M.2.1 t j := fun j hj => setI_idx hj
  have gi : ∀ i, 1 ≤ i → (am_setI M t 8 (zI ((z : Int) + 1))).2.1 (t + i) = M.2.1 (t + i) := fun i hi => setI_cell (by omega)
  have ec : cB B ((rPl N c : Nat) : Int) = by_ B (rPl N c) := by unfold cB; rw [if_pos (by omega), Int.toNat_natCast]
  have hcell := e_R_cell (G := G) (d := d) (p := ((rPl N c : Nat) : Int)) hEa.1 hEa.2.2.2.1 ⟨by omega, by omega⟩
  rw [ec] at hcell
  have hby := by_rg hE.2.2.2.1 (rPl N c)
  have pre : ∀ {M' : Mm_} {v : Int32}, EvC G (d + 1) m_T_closeNest 28 [some (.ref t), some (.int (zI (rPl N c)))] [.int (zI (by_ B (rPl N c)))] (am_setI M t 8 (zI ((z : Int) + 1))) (some (.int v), M') → Ev G (d + 1) 27 [.ref t] M (some (.int v), M') := fun hh => by
    refine ev_of (q := mt_T_closeNest) rfl (ev_T_closeNest_0 ?_)
    rw [a3', a1, hz, n4, zI_add, show (am_setI M t 8 (zI ((z : Int) + 1))).2.2 t 7 = some q from hEa.2.2.1, Option.getD_some]
    exact ⟨okF_W hW hT.1, okF_W hW hT.1, okA_z hW (hT.2 4 (by omega) (by omega)) (by omega) (by omega), okF_W hW hT.1, okP_W hW hT.1 rfl, okF_W hEa.1 hT.1, rfl, okO_W hEa.1 hE.2.2.2.1.1, _, _, hcell, hh⟩
  unfold rdX
  dsimp only
  by_cases cT : by_ B (rPl N c) = (z : Int) + 1 - (rPl N c : Int)
  · rw [if_pos cT]
    have hen : rEn B N c = z + 1 := by
      unfold rEn bh
      have q1 : ¬ rTy N c = 1 := by unfold isC at j2; omega
      have q2 : ¬ rTy N c = 2 := by unfold isC at j2; omega
      have q5 : ¬ rTy N c = 5 := by unfold isC at j2; omega
      have q6 : ¬ rTy N c = 6 := by unfold isC at j2; omega
      rw [if_neg q1, if_neg q2, if_neg q5, if_neg q6, cT]
      omega
    let Ma := am_setI M t 8 (zI ((z : Int) + 1))
    let Mb := am_setI Ma (t + 5) c (zI ((z : Int) + 1))
    let Mc := am_setI Mb t 10 (zI (opn r))
    let Md := am_setI Mc t 11 (zI (r.length : Int))
    have b0 : Mb.2.1 t = Ma.2.1 t := setI_cell (by omega)
    have b6 : Mb.2.1 (t + 6) = M.2.1 (t + 6) := (setI_cell (by omega)).trans (gi 6 (by omega))
    have m0 : Md.2.1 t = up1 (up1 (up1 (M.2.1 t) 8 (zI ((z : Int) + 1))) 10 (zI (opn r))) 11 (zI (r.length : Int)) := by
      refine setI_up.trans ?_
      rw [show Mc.2.1 t = up1 (Mb.2.1 t) 10 (zI (opn r)) from setI_up, b0, show Ma.2.1 t = up1 (M.2.1 t) 8 (zI ((z : Int) + 1)) from setI_up]
    have mi : ∀ i, 1 ≤ i → i ≠ 5 → Md.2.1 (t + i) = M.2.1 (t + i) := fun i h1 h2 => (setI_cell (by omega)).trans ((setI_cell (by omega)).trans ((setI_cell (by omega)).trans (gi i h1)))
    have m5 : Md.2.1 (t + 5) = up1 (M.2.1 (t + 5)) c (zI ((z : Int) + 1)) := by
      refine (setI_cell (by omega)).trans ((setI_cell (by omega)).trans (setI_up.trans ?_))
      rw [gi 5 (by omega)]
    refine ⟨Md, pre (ev_T_closeNest_28 ⟨okF_W hEa.1 hT.1, ?_⟩), ((fa.tr (Fp.set ⟨by omega, by omega⟩)).tr (Fp.set ⟨by omega, by omega⟩)).tr (Fp.set ⟨by omega, by omega⟩), ?_⟩
    · rw [show (am_setI M t 8 (zI ((z : Int) + 1))).2.1 t 8 = zI ((z : Int) + 1) from setI_self, g 10 (by decide), a3', hz, zI_sub, if_pos (by rw [cT])]
      have hWb : WM Mb := hW
      have hWc : WM Mc := hW
      refine ⟨okF_W hEa.1 hT.1, okF_W hEa.1 hT.1, okF_W hEa.1 hT.1, okA_z hEa.1 (hT.2 5 (by omega) (by omega)) (by omega) (by omega), okF_W hWb hT.1, okF_W hWb hT.1, ?_⟩
      have q10 : (am_setI (am_setI M t 8 (zI ((z : Int) + 1))) (t + 5) c (zI ((z : Int) + 1))).2.1 t 10 = zI c := by
        rw [show (am_setI (am_setI M t 8 (zI ((z : Int) + 1))) (t + 5) c (zI ((z : Int) + 1))).2.1 t = _ from b0, g 10 (by decide)]
        exact a3'
      rw [q10, hz, show (am_setI (am_setI M t 8 (zI ((z : Int) + 1))) (t + 5) c (zI ((z : Int) + 1))).2.1 (t + 6) = _ from b6, n5, j3]
      have q11 : (am_setI (am_setI (am_setI M t 8 (zI ((z : Int) + 1))) (t + 5) c (zI ((z : Int) + 1))) t 10 (zI (opn r))).2.1 t 11 = zI ((r.length : Int) + 1) := by
        rw [setI_idx (by decide), show (am_setI (am_setI M t 8 (zI ((z : Int) + 1))) (t + 5) c (zI ((z : Int) + 1))).2.1 t = _ from b0, g 11 (by decide), a4, List.length_cons]
        rfl
      rw [q11, zI_sub, show (r.length : Int) + 1 - 1 = (r.length : Int) by omega]
      exact ⟨okA_z hWb (hT.2 6 (by omega) (by omega)) (by omega) (by omega), okP_W hWb hT.1 rfl, okF_W hWc hT.1, okP_W hWc hT.1 rfl, ev_T_closeNest_79 rfl⟩
    · refine ⟨⟨?_, ?_, ?_, ?_, ?_⟩, fun k hk => ?_, fun k hk hS => ?_⟩
      · rw [m0, up1_ne (by decide), up1_ne (by decide), up1_self]; rfl
      · rw [m0, up1_ne (by decide), up1_ne (by decide), up1_ne (by decide)]; exact a2
      · rw [m0, up1_ne (by decide), up1_self]
      · rw [m0, up1_self]
      · rw [m0, up1_ne (by decide), up1_ne (by decide), up1_ne (by decide)]; exact a5
      · rw [mi 1 (by decide) (by decide), mi 2 (by decide) (by decide), mi 3 (by decide) (by decide), mi 4 (by decide) (by decide), mi 6 (by decide) (by decide)]
        exact hN k hk
      · rw [m5]
        by_cases ek : k = c
        · subst ek
          rw [up1_self]
          show _ = zI ((rEn B N k : Nat) : Int)
          rw [hen]
          rfl
        · rw [up1_ne ek]
          exact hEd k hk (fun hm => by
            rcases List.mem_cons.mp hm with e | e
            · exact ek e
            · exact hS e)
  · rw [if_neg cT]
    refine ⟨am_setI (am_setI M t 8 (zI ((z : Int) + 1))) t 9 (zI (rPl N c)), pre (ev_T_closeNest_28 ⟨okF_W hEa.1 hT.1, ?_⟩), fa.tr (Fp.set ⟨by omega, by omega⟩), setI_self⟩
    rw [show (am_setI M t 8 (zI ((z : Int) + 1))).2.1 t 8 = zI ((z : Int) + 1) from setI_self, zI_sub, if_neg (zI_ne ⟨by omega, by omega⟩ ⟨by omega, by omega⟩ cT)]
    exact ⟨okO_W hEa.1 hT.1, _, _, e_T_faultAt hEa.1 hT, ev_T_closeNest_42 ⟨by decide +kernel, rfl⟩⟩
end TPART
