/-! THE CLASS's TREE: readOn, readDocument, readOperand -/
def fv : Nat ⊕ List Nd → Int
  | .inl f => f
  | .inr _ => -1
/-- the tree's own cells and its row -/
def FT (t : Nat) (M M' : Mm_) : Prop := M'.1 = M.1 ∧ (∀ a j, ¬ (a = t ∧ j = 7) → M'.2.2 a j = M.2.2 a j) ∧ ∀ a j, ¬ pT t a j → M'.2.1 a j = M.2.1 a j
theorem FT.of {t : Nat} {M M' : Mm_} (f : Fp (pT t) M M') : FT t M M' := ⟨f.1, fun a j _ => by rw [f.2.1], f.2.2⟩
theorem FT.tr {t : Nat} {M M' M'' : Mm_} (h : FT t M M') (h' : FT t M' M'') : FT t M M'' := ⟨h'.1.trans h.1, fun a j hn => (h'.2.1 a j hn).trans (h.2.1 a j hn), fun a j hn => (h'.2.2 a j hn).trans (h.2.2 a j hn)⟩
theorem FT.WM {t : Nat} {M M' : Mm_} (h : FT t M M') (hT : sg0[t]? = some (.inl 7)) (hM : WM M) : WM M' := by
  refine ⟨h.1.trans hM.1, fun a c s ha hf => ?_⟩
  rw [h.2.1 a s (fun c' => ?_)]
  · exact hM.2 a c s ha hf
  · obtain ⟨rfl, rfl⟩ := c'
    rw [hT] at ha
    cases ha
    revert hf
    decide
def rOut (M : Mm_) (t : Nat) (B : List Int) : Nat ⊕ Rs → Prop
  | .inl _ => True
  | .inr P => P.1 < B.length ∨ trIs M t B P
section TDOC
variable {G : Nat × (Nat → Int32)} {d : Nat} {t q cap : Nat} {B : List Int}
theorem rdS_eq {z c : Nat} {N : List Nd} {r : List Nat} : rdS B (z, N, c :: r) = if by_ B z = 0 then rdX B (z, N, c :: r) c r else rdP B (z, N, c :: r) := rfl
/-- out with a fault -/
theorem on_fault {M : Mm_} {x1 x3 : Int32} (hE : tEn M t q cap B) : EvC G (d + 1) m_T_readOn 4 [some (.ref t), some (.int x1), some (.int (zI 0)), some (.int x3)] [] M (some (.int (M.2.1 t 9)), M) := by
  have hW := hE.1
  have hT := hE.2.1
  have m59 : EvC G (d + 1) m_T_readOn 59 [some (.ref t), some (.int x1), some (.int (zI 0)), some (.int x3)] [] M (some (.int (M.2.1 t 9)), M) := by
    refine ev_T_readOn_59 ?_
    rw [zI_0, if_pos rfl]
    exact ⟨okF_W hW hT.1, rfl⟩
  refine ev_T_readOn_4 ?_
  rw [hE.2.2.1, Option.getD_some]
  refine ⟨okF_W hW hT.1, rfl, okF_W hW hE.2.2.2.1.1, ?_⟩
  split
  · rw [zI_0, if_pos rfl]
    exact m59
  · exact m59
/-- out without one: what is left behind the value -/
theorem on_well {M : Mm_} {x1 x3 : Int32} {P : Rs} (hE : tEn M t q cap B) (h : trIs M t B P) (hz : P.1 ≤ 1000) : ∃ M', EvC G d m_T_readOn 59 [some (.ref t), some (.int x1), some (.int (zI 1)), some (.int x3)] [] M (some (.int (zI (fv (rdE B (.inr P))))), M') ∧ Fp (pT t) M M' ∧ rOut M' t B (.inr P) := by
  have hW := hE.1
  have hT := hE.2.1
  have hB := hE.2.2.2.2.2
  obtain ⟨⟨a1, a2, a3, a4, a5⟩, hN, hEd⟩ := h
  unfold rdE
  dsimp only
  by_cases c : P.1 < B.length
  · rw [if_pos c]
    refine ⟨am_setI M t 9 (zI P.1), ev_T_readOn_59 ?_, Fp.set ⟨by omega, by omega⟩, Or.inl c⟩
    rw [zI_0, if_neg z10, hE.2.2.1, Option.getD_some, a1, hE.2.2.2.1.2.2.2.1, if_pos ((zI_lt ⟨by omega, by omega⟩ ⟨by omega, by omega⟩).mpr (by omega)), setI_self]
    exact ⟨okF_W hW hT.1, okF_W hW hT.1, rfl, okF_W hW hE.2.2.2.1.1, okF_W hW hT.1, okP_W hW hT.1 rfl, okF_W (WM_setI hW) hT.1, rfl⟩
  · rw [if_neg c]
    refine ⟨M, ev_T_readOn_59 ?_, Fp.rf, Or.inr ⟨⟨a1, a2, a3, a4, a5⟩, hN, hEd⟩⟩
    rw [zI_0, if_neg z10, hE.2.2.1, Option.getD_some, a1, hE.2.2.2.1.2.2.2.1, if_neg (fun c' => by rw [zI_lt ⟨by omega, by omega⟩ ⟨by omega, by omega⟩] at c'; omega), a5]
    exact ⟨okF_W hW hT.1, okF_W hW hT.1, rfl, okF_W hW hE.2.2.2.1.1, okF_W hW hT.1, rfl⟩
theorem on_loop {x1 : Int32} : ∀ (f k : Nat) (P : Rs) (M : Mm_), k + f = B.length → tEn M t q cap B → trIs M t B P → RInv B P →
    ∃ M', EvC G (d + 3) m_T_readOn 4 [some (.ref t), some (.int x1), some (.int (zI 1)), some (.int (zI k))] [] M (some (.int (zI (fv (rdE B (rdO B f P))))), M') ∧ Fp (pT t) M M' ∧ rOut M' t B (rdO B f P)
  | 0, k, P, M, hk, hE, h, hI => by
    have hW := hE.1
    have hT := hE.2.1
    have hB := hE.2.2.2.2.2
    have hi1 := hI.1
    obtain ⟨M', e, f, o⟩ := on_well (G := G) (d := d + 3) (x1 := x1) (x3 := zI k) hE h (by omega)
    refine ⟨M', ev_T_readOn_4 ?_, f, o⟩
    rw [hE.2.2.1, Option.getD_some, hE.2.2.2.1.2.2.2.1, if_neg (fun c' => by rw [zI_lt ⟨by omega, by omega⟩ ⟨by omega, by omega⟩] at c'; omega)]
    exact ⟨okF_W hW hT.1, rfl, okF_W hW hE.2.2.2.1.1, e⟩
  | f + 1, k, (z, N, S), M, hk, hE, h, hI => by
    have hW := hE.1
    have hT := hE.2.1
    have hB := hE.2.2.2.2.2
    have hi1 : z ≤ B.length := hI.1
    have hR := hE.2.2.2.1
    have a1 : M.2.1 t 8 = zI z := h.1.1
    have a3 : M.2.1 t 10 = zI (opn S) := h.1.2.2.1
    cases S with
    | nil =>
      obtain ⟨M', e, f', o⟩ := on_well (G := G) (d := d + 3) (x1 := x1) (x3 := zI k) hE h (by show z ≤ 1000; omega)
      refine ⟨M', ev_T_readOn_4 ?_, f', o⟩
      rw [hE.2.2.1, Option.getD_some, hR.2.2.2.1, if_pos ((zI_lt ⟨by omega, by omega⟩ ⟨by omega, by omega⟩).mpr (by omega)), zI_0, if_neg z10, a3, show opn [] = -1 from rfl, if_pos rfl]
      exact ⟨okF_W hW hT.1, rfl, okF_W hW hR.1, okF_W hW hT.1, e⟩
    | cons c r =>
      have hby := by_rg hR z
      have hlen : c < N.length := (Ost_lt (c :: r) [] z hI.2.2.2.1) c List.mem_cons_self
      have hNl : N.length ≤ z := hI.2.1
      have ec : cB B (z : Int) = by_ B z := by unfold cB; rw [if_pos (by omega), Int.toNat_natCast]
      have hcell := e_R_cell (G := G) (d := d + 2) (p := (z : Int)) hW hR ⟨by omega, by omega⟩
      rw [ec] at hcell
      have pre : ∀ (M' : Mm_) (v : Int32), EvC G (d + 3) m_T_readOn 38 [some (.ref t), some (.int x1), some (.int (zI 1)), some (.int (zI k))] [.int (zI (by_ B z))] M (some (.int v), M') → EvC G (d + 3) m_T_readOn 4 [some (.ref t), some (.int x1), some (.int (zI 1)), some (.int (zI k))] [] M (some (.int v), M') := fun M' v hh => by
        refine ev_T_readOn_4 ?_
        rw [hE.2.2.1, Option.getD_some, hR.2.2.2.1, if_pos ((zI_lt ⟨by omega, by omega⟩ ⟨by omega, by omega⟩).mpr (by omega)), zI_0, if_neg z10, a3, show opn (c :: r) = (c : Int) from rfl, if_neg (zI_ne ⟨by omega, by omega⟩ ⟨by omega, by omega⟩ (by omega)), a1]
        exact ⟨okF_W hW hT.1, rfl, okF_W hW hR.1, okF_W hW hT.1, okF_W hW hT.1, rfl, okF_W hW hT.1, okO_W hW hR.1, _, _, hcell, hh⟩
      -- behind the round
      have rest : ∀ (M1 : Mm_) (R : Nat ⊕ Rs), rdS B (z, N, c :: r) = R → Fp (pT t) M M1 → tOut M1 t B R → ∃ M', EvC G (d + 3) m_T_readOn 52 [some (.ref t), some (.int x1), some (.int (zI 1)), some (.int (zI k))] [.int (zI (okI R))] M1 (some (.int (zI (fv (rdE B (rdO B (f + 1) (z, N, c :: r)))))), M') ∧ Fp (pT t) M1 M' ∧ rOut M' t B (rdO B (f + 1) (z, N, c :: r)) := fun M1 R hS f1 o1 => by
        have hE1 := hE.kept f1
        unfold rdO
        dsimp only
        rw [hS]
        cases R with
        | inl g =>
          refine ⟨M1, ev_T_readOn_52 ?_, Fp.rf, trivial⟩
          have := on_fault (G := G) (d := d + 2) (x1 := x1) (x3 := zI k + zI 1) hE1
          rw [show M1.2.1 t 9 = zI g from o1] at this
          exact this
        | inr P1 =>
          obtain ⟨i1, i2⟩ := rdS_inv hI rfl hS
          obtain ⟨M', e, f', o⟩ := on_loop f (k + 1) P1 M1 (by omega) hE1 o1 i1
          refine ⟨M', ev_T_readOn_52 ?_, f', o⟩
          rw [zI_add, show (k : Int) + 1 = ((k + 1 : Nat) : Int) by omega]
          exact e
      by_cases b0 : by_ B z = 0
      · obtain ⟨M1, e1, f1, o1⟩ := e_T_closeNest (G := G) (d := d + 1) hE h hI
        obtain ⟨M', e2, f2, o2⟩ := rest M1 _ (by rw [rdS_eq, if_pos b0]) f1 o1
        refine ⟨M', pre _ _ (ev_T_readOn_38 ?_), f1.tr f2, o2⟩
        rw [b0, zI_0, if_pos rfl]
        exact ⟨okO_W hW hT.1, _, _, e1, ev_T_readOn_45 e2⟩
      · obtain ⟨M1, e1, f1, o1⟩ := e_T_readPart (G := G) (d := d) hE h hI
        obtain ⟨M', e2, f2, o2⟩ := rest M1 _ (by rw [rdS_eq, if_neg b0]) f1 o1
        refine ⟨M', pre _ _ (ev_T_readOn_38 ?_), f1.tr f2, o2⟩
        rw [zI_0, if_neg (zI_ne ⟨by omega, by omega⟩ ⟨by omega, by omega⟩ b0)]
        exact ⟨okO_W hW hT.1, _, _, e1, e2⟩
/-- the beginning -/
theorem e_T_begin {M : Mm_} (hW : WM M) (hT : treeSh t) (hR : rowIs M q cap B) (hO : q + 1 < t ∨ t + 6 < q) (hB : B.length ≤ 80) : ∃ M', Ev G d 21 [.ref t, .ref q] M (none, M') ∧ FT t M M' ∧ tEn M' t q cap B ∧ trQ M' t B [] [] 0 := by
  have hf : ∀ c, sg0[t]? = some (.inl c) → ¬ fkT c 7 = 1 := fun c hc => by
    rw [hT.1] at hc
    cases hc
    decide
  have w0 : WM (am_setR M t 7 q) := WM_setR hW hf
  let M1 := am_setI (am_setI (am_setI (am_setI (am_setI (am_setR M t 7 q) t 8 (zI 0)) t 9 (zI (-1))) t 6 (zI 0)) t 10 (zI (-1))) t 11 (zI 0)
  have m0 : M1.2.1 t = up1 (up1 (up1 (up1 (up1 (M.2.1 t) 8 (zI 0)) 9 (zI (-1))) 6 (zI 0)) 10 (zI (-1))) 11 (zI 0) := by
    show (am_setI _ t 11 (zI 0)).2.1 t = _
    rw [setI_up, setI_up, setI_up, setI_up, setI_up]
    rfl
  have fq : ∀ a j, ¬ pT t a j → M1.2.1 a j = M.2.1 a j := fun a j hn => by
    have ha : a ≠ t := fun e => hn ⟨by omega, by omega⟩
    show (am_setI _ t 11 (zI 0)).2.1 a j = _
    rw [setI_cell ha, setI_cell ha, setI_cell ha, setI_cell ha, setI_cell ha]
    rfl
  have hrow : rowIs M1 q cap B := by
    obtain ⟨b1, b2, b3, b4, b5, b6⟩ := hR
    exact ⟨b1, b2, b3, by rw [fq q 1 (fun c => by unfold pT at c; omega)]; exact b4, fun i hi => by rw [fq (q + 1) i (fun c => by unfold pT at c; omega)]; exact b5 i hi, b6⟩
  refine ⟨M1, ev_of (q := mt_T_begin) rfl (ev_T_begin_0 ⟨okP_W hW hT.1 rfl, okP_W w0 hT.1 rfl, okP_W (WM_setI w0) hT.1 rfl, okP_W (WM_setI (WM_setI w0)) hT.1 rfl, okP_W (WM_setI (WM_setI (WM_setI w0))) hT.1 rfl, okP_W (WM_setI (WM_setI (WM_setI (WM_setI w0)))) hT.1 rfl, rfl⟩), ⟨rfl, fun a j hn => ?_, fq⟩, ⟨w0, hT, ?_, hrow, hO, hB⟩, ⟨?_, ?_, ?_, ?_, ?_⟩, fun k hk => (by cases hk), fun k hk => (by cases hk)⟩
  · show up2 M.2.2 t 7 (some q) a j = M.2.2 a j
    unfold up2
    by_cases e : a = t
    · rw [if_pos e, if_neg (fun e2 => hn ⟨e, e2⟩)]
    · rw [if_neg e]
  · show up2 M.2.2 t 7 (some q) t 7 = some q
    exact up2_self _ _ _ _
  · rw [m0]; rfl
  · rw [m0]; rfl
  · rw [m0]; rfl
  · rw [m0]; rfl
  · rw [m0]; rfl
theorem e_T_readDocument {M : Mm_} (hW : WM M) (hT : treeSh t) (hR : rowIs M q cap B) (hO : q + 1 < t ∨ t + 6 < q) (hB : B.length ≤ 80) :
    ∃ M', Ev G (d + 4) 20 [.ref t, .ref q] M (some (.int (zI (fv (rdD B)))), M') ∧ FT t M M' ∧ tEn M' t q cap B ∧ ∀ N, rdD B = .inr N → trIs M' t B (B.length, N, []) := by
  obtain ⟨M1, e1, f1, hE1, h1⟩ := e_T_begin (G := G) (d := d + 3) hW hT hR hO hB
  obtain ⟨M2, e2, f2, h2⟩ := e_addN (G := G) (d := d + 3) (tt := 3) (x := 0) (s := 0) hE1 h1 (by simp)
  have hE2 := hE1.kept f2
  obtain ⟨M3, e3, f3, h3⟩ := e_T_readContent (G := G) (d := d + 2) hE2 h2 ⟨by omega, by omega⟩ (by omega) (by simp) (by simp)
  have hE3 := hE2.kept f3
  have h3 := h3 0
  have pre : ∀ (M' : Mm_) (v : Int32), Ev G (d + 3) 26 [.ref t, .int (zI (okI (rdC B 3 0)))] M3 (some (.int v), M') → Ev G (d + 4) 20 [.ref t, .ref q] M (some (.int v), M') := fun M' v hh =>
    ev_of (q := mt_T_readDocument) rfl (ev_T_readDocument_0 ⟨okO_W hW hT.1, _, e1, ev_T_readDocument_5 ⟨okO_W hE1.1 hT.1, _, _, e2, ev_T_readDocument_14 ⟨okO_W hE2.1 hT.1, _, _, e3, ev_T_readDocument_17 ⟨okO_W hE3.1 hT.1, _, _, hh, ev_T_readDocument_20 rfl⟩⟩⟩⟩)
  unfold rdD
  have eV : okI (rdC B 3 0) = okI (rdV B (0, [], []) 3 0 0 0) := okV.symm
  rw [eV] at pre
  cases hV : rdV B (0, [], []) 3 0 0 0 with
  | inl g =>
    rw [hV] at h3 pre
    refine ⟨M3, pre _ _ (ev_of (q := mt_T_readOn) rfl (ev_T_readOn_0 ?_)), (f1.tr (FT.of f2)).tr (FT.of f3), hE3, fun N hN => by cases hN⟩
    have := on_fault (G := G) (d := d + 2) (x1 := zI 0) (x3 := zI 0) hE3
    rw [show M3.2.1 t 9 = zI g from h3] at this
    exact this
  | inr P =>
    rw [hV] at h3 pre
    dsimp only
    obtain ⟨i1, i2⟩ := rdV_inv (rInv0 B) (t := 3) (x := 0) (s := 0) (q := 0) (by decide) (fun _ => by decide) (Nat.zero_le _) (Or.inr ⟨Or.inl rfl, Nat.le_refl _⟩) (Nat.le_refl _) (fun c r e => by cases e) (fun _ => rfl) hV
    obtain ⟨M4, e4, f4, o4⟩ := on_loop (G := G) (d := d) (x1 := zI 1) B.length 0 P M3 (by omega) hE3 h3 i1
    refine ⟨M4, pre _ _ (ev_of (q := mt_T_readOn) rfl (ev_T_readOn_0 e4)), ((f1.tr (FT.of f2)).tr (FT.of f3)).tr (FT.of f4), hE3.kept f4, fun N hN => ?_⟩
    cases hO' : rdO B B.length P with
    | inl g => rw [hO'] at hN; cases hN
    | inr P' =>
      rw [hO'] at hN o4
      unfold rdE at hN
      dsimp only at hN
      split at hN
      · cases hN
      · next hn =>
        have hN := Sum.inr.inj hN
        subst hN
        obtain ⟨k1, k2⟩ := rdO_inv _ _ _ i1 hO'
        have hp0 : 0 < P.1 := by
          unfold rdV at hV
          split at hV
          · cases hV
          · next q' hq' =>
            obtain ⟨e5, -, -⟩ := rdC_cont (Or.inl rfl) hq'
            have hV := Sum.inr.inj hV
            subst hV
            show 0 < q'
            omega
        have k3 := k1.1
        have hS : P'.2.2 = [] := by
          rcases k2 with k2 | k2
          · exact k2
          · omega
        rcases o4 with o4 | o4
        · omega
        · have e6 : P' = (B.length, P'.2.1, []) := by
            obtain ⟨p1, p2, p3⟩ := P'
            dsimp only at hS hn k3
            subst hS
            have : p1 = B.length := by omega
            subst this
            rfl
          rw [e6] at o4
          exact o4
theorem e_T_readOperand {M : Mm_} (hW : WM M) (hT : treeSh t) (hR : rowIs M q cap B) (hO : q + 1 < t ∨ t + 6 < q) (hB : B.length ≤ 80) :
    ∃ M', Ev G (d + 4) 51 [.ref t, .ref q] M (some (.int (zI (fv (rdQ B)))), M') ∧ FT t M M' := by
  obtain ⟨M1, e1, f1, hE1, h1⟩ := e_T_begin (G := G) (d := d + 3) hW hT hR hO hB
  obtain ⟨M3, e3, f3, h3⟩ := e_T_readPart (G := G) (d := d + 1) hE1 h1 (rInv0 B)
  have hE3 := hE1.kept f3
  have pre : ∀ (M' : Mm_) (v : Int32), Ev G (d + 3) 26 [.ref t, .int (zI (okI (rdP B (0, [], []))))] M3 (some (.int v), M') → Ev G (d + 4) 51 [.ref t, .ref q] M (some (.int v), M') := fun M' v hh =>
    ev_of (q := mt_T_readOperand) rfl (ev_T_readOperand_0 ⟨okO_W hW hT.1, _, e1, ev_T_readOperand_5 ⟨okO_W hE1.1 hT.1, _, _, e3, ev_T_readOperand_10 ⟨okO_W hE3.1 hT.1, _, _, hh, ev_T_readOperand_13 rfl⟩⟩⟩)
  unfold rdQ
  cases hV : rdP B (0, [], []) with
  | inl g =>
    rw [hV] at h3 pre
    refine ⟨M3, pre _ _ (ev_of (q := mt_T_readOn) rfl (ev_T_readOn_0 ?_)), f1.tr (FT.of f3)⟩
    have := on_fault (G := G) (d := d + 2) (x1 := zI 0) (x3 := zI 0) hE3
    rw [show M3.2.1 t 9 = zI g from h3] at this
    exact this
  | inr P =>
    rw [hV] at h3 pre
    dsimp only
    obtain ⟨i1, i2⟩ := rdP_inv (rInv0 B) (fun _ => rfl) hV
    obtain ⟨M4, e4, f4, o4⟩ := on_loop (G := G) (d := d) (x1 := zI 1) B.length 0 P M3 (by omega) hE3 h3 i1
    exact ⟨M4, pre _ _ (ev_of (q := mt_T_readOn) rfl (ev_T_readOn_0 e4)), (f1.tr (FT.of f3)).tr (FT.of f4)⟩
end TDOC
