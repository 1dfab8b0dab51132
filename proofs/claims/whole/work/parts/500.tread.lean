/-! THE CLASS's TREE: readPart, readOn, readDocument, readOperand -/
section TREAD
variable {G : Nat × (Nat → Int32)} {d : Nat} {t q cap : Nat} {B : List Int}
theorem trQ.place {M M1 : Mm_} {N : List Nd} {S : List Nat} {z p : Nat} (h : trQ M t B N S z) (f : Fp (pPF t) M M1) (h8 : M1.2.1 t 8 = zI p) (h9 : M1.2.1 t 9 = M.2.1 t 9) : trQ M1 t B N S p := by
  obtain ⟨⟨a1, a2, a3, a4, a5⟩, hN, hEd⟩ := h
  have g : ∀ j, j ≠ 8 → j ≠ 9 → M1.2.1 t j = M.2.1 t j := fun j h1 h2 => f.2.2 t j (fun c => by unfold pPF at c; omega)
  exact ⟨⟨h8, by rw [g 6 (by decide) (by decide)]; exact a2, by rw [g 10 (by decide) (by decide)]; exact a3, by rw [g 11 (by decide) (by decide)]; exact a4, by rw [h9]; exact a5⟩, hN.keptp f (fun i j h1 h2 _ c => by unfold pPF at c; omega), fun k hk hS => by rw [f.2.2 _ k (fun c => by unfold pPF at c; omega)]; exact hEd k hk hS⟩
theorem okI_bit {α β : Type} (R : α ⊕ β) : am_bit (zI (okI R)) = true := by
  rcases okI_rg R with e | e <;> rw [e] <;> decide +kernel
set_option maxHeartbeats 1000000 in
theorem e_T_readPart {M : Mm_} {z : Nat} {N : List Nd} {S : List Nat} (hE : tEn M t q cap B) (h : trIs M t B (z, N, S)) (hI : RInv B (z, N, S)) : ∃ M', Ev G (d + 2) 28 [.ref t] M (some (.int (zI (okI (rdP B (z, N, S))))), M') ∧ Fp (pT t) M M' ∧ tOut M' t B (rdP B (z, N, S)) := by
  have hW := hE.1
  have hT := hE.2.1
  have hB := hE.2.2.2.2.2
  have hR := hE.2.2.2.1
  obtain ⟨i1, i2, i3, i4, i5, i6, i7, i8⟩ := hI
  dsimp only at i1 i2 i3 i4 i5 i6 i7 i8
  have h' : trQ M t B N S z := h
  obtain ⟨⟨a1, a2, a3, a4, a5⟩, hN, hEd⟩ := h'
  have hby := by_rg hR z
  have ec : cB B (z : Int) = by_ B z := by unfold cB; rw [if_pos (by omega), Int.toNat_natCast]
  have hcell := e_R_cell (G := G) (d := d + 1) (p := (z : Int)) hW hR ⟨by omega, by omega⟩
  rw [ec] at hcell
  have pre : ∀ {M' : Mm_} {v : Int32}, EvC G (d + 2) m_T_readPart 16 [some (.ref t), some (.int (zI z)), none, none, none] [.int (zI (by_ B z))] M (some (.int v), M') → Ev G (d + 2) 28 [.ref t] M (some (.int v), M') := fun hh => by
    refine ev_of (q := mt_T_readPart) rfl (ev_T_readPart_0 ?_)
    rw [hE.2.2.1, Option.getD_some, a1]
    exact ⟨okF_W hW hT.1, okF_W hW hT.1, rfl, okF_W hW hT.1, okO_W hW hR.1, _, _, hcell, hh⟩
  have z1 : ∀ k : Int, rg k → (¬ by_ B z = k) → ¬ zI (by_ B z) = zI k := fun k hk hne => zI_ne ⟨by omega, by omega⟩ hk hne
  by_cases deep : (by_ B z = 3 ∨ by_ B z = 4) ∧ 4 ≤ S.length
  · have hP : rdP B (z, N, S) = .inl z := by
      unfold rdP rdH
      dsimp only
      rw [if_pos deep]
    rw [hP]
    have m27 : EvC G (d + 2) m_T_readPart 27 [some (.ref t), some (.int (zI z)), some (.int (zI (by_ B z))), none, none] [] M (some (.int (zI 0)), am_setI M t 9 (zI z)) := by
      refine ev_T_readPart_27 ⟨okF_W hW hT.1, ?_⟩
      rw [a4, if_neg (fun c => by rw [zI_lt ⟨by omega, by omega⟩ ⟨by omega, by omega⟩] at c; omega)]
      refine ev_T_readPart_40 ?_
      rw [zI_0, if_neg z10]
      exact ⟨okO_W hW hT.1, _, _, e_T_faultAt hW hT, ev_T_readPart_61 ⟨by decide +kernel, rfl⟩⟩
    refine ⟨am_setI M t 9 (zI z), pre (ev_T_readPart_16 ?_), Fp.set ⟨by omega, by omega⟩, setI_self⟩
    rcases deep.1 with e | e
    · rw [e, if_pos rfl, ← e]
      exact m27
    · rw [e, if_neg (by decide +kernel), if_pos rfl, ← e]
      exact m27
  · -- on to the type's byte
    have to40 : ∀ (M' : Mm_) (v : Int32), EvC G (d + 2) m_T_readPart 40 [some (.ref t), some (.int (zI z)), some (.int (zI (by_ B z))), none, none] [.int (zI 0)] M (some (.int v), M') → Ev G (d + 2) 28 [.ref t] M (some (.int v), M') := fun M' v hh => by
      refine pre (ev_T_readPart_16 ?_)
      have m27 : S.length < 4 → EvC G (d + 2) m_T_readPart 27 [some (.ref t), some (.int (zI z)), some (.int (zI (by_ B z))), none, none] [] M (some (.int v), M') := fun hs => by
        refine ev_T_readPart_27 ⟨okF_W hW hT.1, ?_⟩
        rw [a4, if_pos ((zI_lt ⟨by omega, by omega⟩ ⟨by omega, by omega⟩).mpr (by omega))]
        exact ev_T_readPart_39 hh
      by_cases e3 : by_ B z = 3
      · rw [if_pos (by rw [e3])]
        exact m27 (Nat.lt_of_not_le fun c => deep ⟨Or.inl e3, c⟩)
      · rw [if_neg (z1 3 ⟨by omega, by omega⟩ e3)]
        by_cases e4 : by_ B z = 4
        · rw [if_pos (by rw [e4])]
          exact m27 (Nat.lt_of_not_le fun c => deep ⟨Or.inr e4, c⟩)
        · rw [if_neg (z1 4 ⟨by omega, by omega⟩ e4)]
          exact ev_T_readPart_39 hh
    obtain ⟨M1, e1, f1, o1⟩ := e_T_readBytes (G := G) (d := d + 1) (k := 1) (p := z) (lo := 1) (hi := 6) ⟨by omega, by omega⟩ ⟨by omega, by omega⟩ (by omega) (by omega) hE a1
    have hE1 := hE.kept (f1.up fun _ _ => pPF_T)
    have hW1 := hE1.1
    by_cases ty : 1 ≤ by_ B z ∧ by_ B z ≤ 6
    · have hr : rb B 1 6 1 z = .inr (z + 1) := by rw [rb1, if_pos ty]
      rw [hr] at e1 o1
      obtain ⟨o8, o9⟩ := o1
      have hlz := by_lt (B := B) (p := z) (by omega)
      have hn : N.length < 80 := by omega
      have hq1 := trQ.place (show trQ M t B N S z from h) f1 o8 o9
      have to53 : ∀ {M' : Mm_} {v : Int32}, EvC G (d + 2) m_T_readPart 53 [some (.ref t), some (.int (zI z)), some (.int (zI (by_ B z))), some (.int (zI 0)), none] [.int (zI 1)] M1 (some (.int v), M') → Ev G (d + 2) 28 [.ref t] M (some (.int v), M') := fun hh => by
        refine to40 _ _ (ev_T_readPart_40 ?_)
        rw [zI_0, if_pos rfl]
        exact ⟨okO_W hW hT.1, _, _, e1, hh⟩
      -- the node and its content
      have fin : ∀ (M2 : Mm_) (x : Int) (p : Nat), tEn M2 t q cap B → trQ M2 t B N S p → p ≤ 200 → ∃ M', EvC G (d + 2) m_T_readPart 99 [some (.ref t), some (.int (zI z)), some (.int (zI (by_ B z))), some (.int (zI 0)), some (.int (zI x))] [] M2 (some (.int (zI (okI (rdV B (z, N, S) (by_ B z) x z p)))), M') ∧ Fp (pT t) M2 M' ∧ tOut M' t B (rdV B (z, N, S) (by_ B z) x z p) := fun M2 x p hE2 hQ hp => by
        obtain ⟨M3, e3, f3, h3⟩ := e_addN (G := G) (d := d + 1) (tt := by_ B z) (x := x) (s := z) hE2 hQ hn
        obtain ⟨M4, e4, f4, h4⟩ := e_T_readContent (G := G) (d := d) (hE2.kept f3) h3 ty hp hn i7
        refine ⟨M4, ev_T_readPart_99 ⟨okO_W hE2.1 hT.1, _, _, e3, ev_T_readPart_108 ⟨okO_W (f3.WM hE2.1) hT.1, _, _, e4, ev_T_readPart_111 ⟨okI_bit _, ?_⟩⟩⟩, f3.tr f4, h4 z⟩
        rw [okV]
      cases S with
      | nil =>
        have hH : rdH B (z, N, []) = .inr (by_ B z, 0, z + 1) := by
          unfold rdH
          dsimp only
          rw [if_neg deep, if_pos ty]
        have hP : rdP B (z, N, []) = rdV B (z, N, []) (by_ B z) 0 z (z + 1) := by
          unfold rdP
          rw [hH]
        rw [hP]
        obtain ⟨M', e2, f2, o2⟩ := fin M1 0 (z + 1) hE1 hq1 (by omega)
        refine ⟨M', to53 (ev_T_readPart_53 ?_), (f1.up fun _ _ => pPF_T).tr f2, o2⟩
        rw [zI_0, if_neg z10]
        refine ⟨okF_W hW1 hT.1, ?_⟩
        rw [hq1.1.2.2.1, show opn [] = -1 from rfl, if_pos rfl, ← zI_0]
        exact e2
      | cons c r =>
        obtain ⟨j1, j2, -⟩ := i4
        have hopn : M1.2.1 t 10 = zI c := hq1.1.2.2.1
        have hzc : (zI (c : Int)).toNatClampNeg = c := zI_nat (by omega)
        have hty : M1.2.1 (t + 1) c = zI (rTy N c) := (hq1.2.1 c j1).1
        have hA : am_okA M1 (t + 1) 0 (zI c) = true := okA_z hW1 (hT.2 1 (by omega) (by omega)) (by omega) (by omega)
        have nm1 : ¬ zI (c : Int) = zI (-1) := zI_ne ⟨by omega, by omega⟩ ⟨by omega, by omega⟩ (by omega)
        by_cases t3 : rTy N c = 3
        · have hSt : tSt M1 t q cap B N c := ⟨hE1, hq1.1.2.1, hopn, hq1.2.1, by omega, i3, j1, t3⟩
          obtain ⟨M2, e2, f2, o2⟩ := e_T_readName (G := G) (d := d) hSt o8 (by omega)
          have to90 : ∀ {M' : Mm_} {v : Int32}, EvC G (d + 2) m_T_readPart 90 [some (.ref t), some (.int (zI z)), some (.int (zI (by_ B z))), some (.int (zI 0)), some (.int (zI 0))] [.int (zI (nv (rdN B N c (z + 1))))] M2 (some (.int v), M') → Ev G (d + 2) 28 [.ref t] M (some (.int v), M') := fun hh => by
            refine to53 (ev_T_readPart_53 ?_)
            rw [zI_0, if_neg z10]
            refine ⟨okF_W hW1 hT.1, ?_⟩
            rw [hopn, if_neg nm1, hzc, hty, t3, if_pos rfl]
            exact ⟨okF_W hW1 hT.1, okF_W hW1 hT.1, hA, okO_W hW1 hT.1, _, _, e2, hh⟩
          cases hNm : rdN B N c (z + 1) with
          | inl f =>
            have hP : rdP B (z, N, c :: r) = .inl f := by
              unfold rdP rdH
              dsimp only
              rw [if_neg deep, if_pos ty, if_pos t3, hNm]
            rw [hP]
            rw [hNm] at o2 to90
            refine ⟨M2, to90 (ev_T_readPart_90 ?_), (f1.tr f2).up fun _ _ => pPF_T, o2⟩
            show if zI 0 = 0 then _ else _
            rw [zI_0, if_pos rfl]
            rfl
          | inr w =>
            obtain ⟨x, p⟩ := w
            have hP : rdP B (z, N, c :: r) = rdV B (z, N, c :: r) (by_ B z) x z p := by
              unfold rdP rdH
              dsimp only
              rw [if_neg deep, if_pos ty, if_pos t3, hNm]
            rw [hP]
            rw [hNm] at o2 to90
            obtain ⟨⟨ls, l1, l2, l3, -, -, -, l7⟩, -, -, l8⟩ := rdN_ok hNm
            have hpk := pk_rg ⟨l1, l2, l3⟩
            have hE2 := hE1.kept (f2.up fun _ _ => pPF_T)
            obtain ⟨M', e5, f5, o5⟩ := fin M2 x p hE2 (hq1.place f2 o2.1 o2.2) (by omega)
            refine ⟨M', to90 (ev_T_readPart_90 ?_), ((f1.tr f2).up fun _ _ => pPF_T).tr f5, o5⟩
            show if zI x = 0 then _ else _
            rw [zI_0, if_neg (zI_ne ⟨by omega, by omega⟩ ⟨by omega, by omega⟩ (by omega))]
            exact e5
        · have hP : rdP B (z, N, c :: r) = rdV B (z, N, c :: r) (by_ B z) 0 z (z + 1) := by
            unfold rdP rdH
            dsimp only
            rw [if_neg deep, if_pos ty, if_neg t3]
          rw [hP]
          obtain ⟨M', e2, f2, o2⟩ := fin M1 0 (z + 1) hE1 hq1 (by omega)
          refine ⟨M', to53 (ev_T_readPart_53 ?_), (f1.up fun _ _ => pPF_T).tr f2, o2⟩
          have hrt := i3 c j1
          rw [zI_0, if_neg z10]
          refine ⟨okF_W hW1 hT.1, ?_⟩
          rw [hopn, if_neg nm1, hzc, hty, if_neg (zI_ne ⟨by have := hrt.1; omega, by have := hrt.2.1; omega⟩ ⟨by omega, by omega⟩ t3), ← zI_0]
          exact ⟨okF_W hW1 hT.1, okF_W hW1 hT.1, hA, e2⟩
    · have hP : rdP B (z, N, S) = .inl z := by
        unfold rdP rdH
        dsimp only
        rw [if_neg deep, if_neg ty]
      have hr : rb B 1 6 1 z = .inl z := by rw [rb1, if_neg ty]
      rw [hr] at e1 o1
      rw [hP]
      refine ⟨am_setI M1 t 9 (zI z), to40 _ _ (ev_T_readPart_40 ?_), (f1.up fun _ _ => pPF_T).tr (Fp.set ⟨by omega, by omega⟩), setI_self⟩
      rw [zI_0, if_pos rfl]
      refine ⟨okO_W hW hT.1, _, _, e1, ev_T_readPart_53 ?_⟩
      show if zI 0 = 0 then _ else _
      rw [zI_0, if_pos rfl]
      exact ⟨okO_W hW1 hT.1, _, _, e_T_faultAt hW1 hT, ev_T_readPart_61 ⟨by decide +kernel, rfl⟩⟩
end TREAD
