/-! THE REFERENCE: index, where, anywhere, found, examined -/
section MWHERE
variable {G : Nat × (Nat → Int32)} {d : Nat} {S : St_} {M : Mm_}
theorem cpp_l {f t : Nat} {c : Nat → Int32} (hf : f < 6) (ht : t < 6) (hft : f ≠ t) : ∀ (m j : Nat) (M : Mm_), j + m = 12 → WM M → (∀ i, i < 12 → M.2.1 96 (12 * f + i) = c i) → (∀ i, i < j → M.2.1 96 (12 * t + i) = c i) → ∃ M', EvC G d m_M_copyPath 14 [some (.ref 91), some (.int (zI (f : Int))), some (.int (zI (t : Int))), some (.int (zI (j : Int)))] [] M (none, M') ∧ (∀ i, i < 12 → M'.2.1 96 (12 * t + i) = c i) ∧ Fp (fun a j => a = 96 ∧ 12 * t ≤ j ∧ j < 12 * t + 12) M M'
  | 0, j, M, hj, hW, h1, h2 => by
    refine ⟨M, ev_M_copyPath_14 ?_, fun i hi => h2 i (by omega), Fp.rf⟩
    rw [if_neg (fun q => by rw [zI_lt ⟨by omega, by omega⟩ ⟨by omega, by omega⟩] at q; omega)]
  | m + 1, j, M, hj, hW, h1, h2 => by
    have ej : zI (j : Int) + zI 1 = zI ((j + 1 : Nat) : Int) := by rw [zI_add, show (j : Int) + 1 = ((j + 1 : Nat) : Int) by omega]
    have ef : zI 12 * zI (f : Int) + zI (j : Int) = zI (((12 * f : Nat) : Int) + (j : Int)) := by rw [zI_mul, zI_add, show (12 : Int) * (f : Int) = ((12 * f : Nat) : Int) by omega]
    have et : zI 12 * zI (t : Int) + zI (j : Int) = zI (((12 * t : Nat) : Int) + (j : Int)) := by rw [zI_mul, zI_add, show (12 : Int) * (t : Int) = ((12 * t : Nat) : Int) by omega]
    have fp : Fp (fun a j => a = 96 ∧ 12 * t ≤ j ∧ j < 12 * t + 12) M (am_setI M 96 (12 * t + j) (c j)) := Fp.set ⟨rfl, by omega, by omega⟩
    obtain ⟨M', e, g1, g2⟩ := cpp_l (c := c) hf ht hft m (j + 1) (am_setI M 96 (12 * t + j) (c j)) (by omega) (WM_setI hW) (fun i hi => by rw [setI_idx (by omega)]; exact h1 i hi) (fun i hi => by
      by_cases e : i = j
      · rw [e, setI_self]
      · rw [setI_idx (by omega)]; exact h2 i (by omega))
    refine ⟨M', ev_M_copyPath_14 ?_, g1, fp.tr g2⟩
    rw [if_pos ((zI_lt ⟨by omega, by omega⟩ ⟨by omega, by omega⟩).mpr (by omega)), ej, ef, et, cl2 (by omega), cl2 (by omega), show M.2.1 (91 + 5) (12 * f + j) = c j from h1 j (by omega)]
    exact ⟨okF_W hW rfl, okF_W hW rfl, okA_W hW (show sg0[91 + 5]? = some (.inr (0, 72)) from rfl) (zI_in (by omega) (by omega) (by omega)), okA_W hW (show sg0[91 + 5]? = some (.inr (0, 72)) from rfl) (zI_in (by omega) (by omega) (by omega)), e⟩
theorem e_M_copyPath {f t : Nat} {P : List (List Int)} (hf : f < 6) (ht : t < 6) (hft : f ≠ t) (hW : WM M) (h : mPth M f P) : ∃ M', Ev G d 112 [.ref 91, .int (zI (f : Int)), .int (zI (t : Int))] M (none, M') ∧ mPth M' t P ∧ Fp (pPth t) M M' := by
  obtain ⟨h1, h2, h3, h4⟩ := h
  have f1 : Fp (pPth t) M (am_setI M 95 t (zI (P.length : Int))) := Fp.set (Or.inl ⟨rfl, rfl⟩)
  obtain ⟨M', e, g1, g2⟩ := cpp_l (G := G) (d := d) (c := fun i => M.2.1 96 (12 * f + i)) hf ht hft 12 0 (am_setI M 95 t (zI (P.length : Int))) rfl (WM_setI hW) (fun i hi => by rw [setI_cell (by decide)]) (fun i hi => by omega)
  have g2' : Fp (pPth t) _ _ := g2.up (fun a j q => Or.inr q)
  refine ⟨M', ev_of (q := mt_M_copyPath) rfl (ev_M_copyPath_0 ?_), ⟨h1, ?_, fun i hi k hk => ?_, h4⟩, f1.tr g2'⟩
  · rw [zI_nat (show f < 2147483648 by omega), zI_nat (show t < 2147483648 by omega), show M.2.1 (91 + 4) f = zI (P.length : Int) from h2]
    exact ⟨okF_W hW rfl, okF_W hW rfl, okA_z hW (show sg0[91 + 4]? = some (.inr (0, 6)) from rfl) (by omega) (by omega), okA_z hW (show sg0[91 + 4]? = some (.inr (0, 6)) from rfl) (by omega) (by omega), e⟩
  · rw [g2.2.2 _ _ (fun q => by omega), setI_self]
  · rw [show 12 * t + 4 * i + k = 12 * t + (4 * i + k) by omega, g1 (4 * i + k) (by omega), show 12 * f + (4 * i + k) = 12 * f + 4 * i + k by omega]
    exact h3 i hi k hk
theorem e_M_index {i : Int} (h : RepM M S) (hO : Ok S) (hi : rg i) : ∃ M', Ev G (d + 1) 111 [.ref 91, .int (zI i)] M (some (.int (zI (sp_index S i).1)), M') ∧ RepM M' (sp_index S i).2 ∧ Fx gM M M' := by
  have hW := h.1
  have z2 : (zI 2).toNatClampNeg = 2 := by decide +kernel
  have t1 : M.2.1 (91 + 4) 2 = zI (S.typ.length : Int) := h.2.2.1.2.1
  have tl := h.2.2.1.1
  unfold sp_index
  by_cases c : 0 ≤ i ∧ i ≤ 1
  · obtain ⟨n, rfl⟩ : ∃ n : Nat, i = (n : Int) := ⟨i.toNat, by omega⟩
    rw [Int.toNat_natCast]
    have pre : ∀ r, (if zI (S.typ.length : Int) = zI 0 then (r = ((some (.int (zI 0)), M) : Out_)) else ∃ M', Ev G d 112 [.ref 91, .int (zI 2), .int (zI (n : Int))] M (none, M') ∧ r = ((some (.int (zI 1)), M') : Out_)) → Ev G (d + 1) 111 [.ref 91, .int (zI (n : Int))] M r := fun r hr => by
      refine ev_of (q := mt_M_index) rfl (ev_M_index_0 ⟨_, _, e_M_in_t hi ⟨by omega, by omega⟩ ⟨by omega, by omega⟩ c, ev_M_index_6 ?_⟩)
      rw [zI_0, if_neg z10, z2, t1]
      refine ⟨okF_W hW rfl, okA_W hW (show sg0[91 + 4]? = some (.inr (0, 6)) from rfl) (zI_in (by omega) (by omega) (by omega)), ?_⟩
      by_cases ct : zI (S.typ.length : Int) = zI 0
      · rw [if_pos ct]; rw [if_pos ct] at hr; exact hr
      · rw [if_neg ct]; rw [if_neg ct] at hr
        obtain ⟨M', w1, w2⟩ := hr
        exact ⟨okO_W hW rfl, M', w1, ev_M_index_26 w2⟩
    by_cases cl : S.typ.length = 0
    · rw [if_neg (show ¬ (0 ≤ (n : Int) ∧ (n : Int) < 2 ∧ 0 < S.typ.length) by omega)]
      refine ⟨M, pre _ ?_, h, Fx.rf hW⟩
      rw [cl, if_pos (show zI ((0 : Nat) : Int) = zI 0 from rfl)]
    · rw [if_pos (show 0 ≤ (n : Int) ∧ (n : Int) < 2 ∧ 0 < S.typ.length by omega)]
      obtain ⟨M1, e1, p1, f1⟩ := e_M_copyPath (G := G) (d := d) (f := 2) (t := n) (by omega) (by omega) (by omega) hW h.2.2.1
      have f1x := f1.x hW
      have F : Fx (fun a j => (a = 95 ∧ j < 2) ∨ (a = 96 ∧ j < 24)) M M1 := f1x.up (fun a j q => by unfold pPth at q; omega)
      refine ⟨M1, pre _ ?_, ?_, F.up (fun a j q => by unfold gM; omega)⟩
      · rw [if_neg (zI_ne ⟨by omega, by omega⟩ ⟨by omega, by omega⟩ (by omega))]
        exact ⟨M1, e1, rfl⟩
      · obtain ⟨g0, g1, g2, g3, g4, g5, g6, g7⟩ := h
        refine ⟨F.1, g1.kx F (fun a j q => by omega), g2.kx F (fun q => by omega) (fun i _ _ q => by omega), g3.kx hO.1 F (fun a j q => by omega), fun j hj => ?_, g5.kx F (fun a j q => by omega), g6.kx F (fun a j q => by omega), by rw [F.2.2 _ _ (fun q => by omega)]; exact g7⟩
        show mPth M1 j (if j = n then S.typ else S.ix j)
        by_cases e : j = n
        · rw [if_pos e, e]; exact p1
        · rw [if_neg e]
          exact (g4 j hj).kx f1x (fun q => by unfold pPth at q; omega) (fun i _ _ q => by unfold pPth at q; omega)
  · rw [if_neg (show ¬ (0 ≤ i ∧ i < 2 ∧ 0 < S.typ.length) by omega)]
    refine ⟨M, ev_of (q := mt_M_index) rfl (ev_M_index_0 ⟨_, _, e_M_in_f hi ⟨by omega, by omega⟩ ⟨by omega, by omega⟩ c, ev_M_index_6 ?_⟩), h, Fx.rf hW⟩
    rw [zI_0, if_pos rfl]
theorem mwh_l {c : Nat} {w : Nat → Int32} {x1 x2 : Int32} (hc : c < 3) : ∀ (m j : Nat) (M : Mm_), j + m = 96 → WM M → M.2.1 91 7 = zI (c : Int) → (∀ i, i < 96 → M.2.1 92 (1024 + i) = w i) → (∀ i, i < j → M.2.1 92 (1120 + 96 * c + i) = w i) → ∃ M1, (∀ i, i < 96 → M1.2.1 92 (1120 + 96 * c + i) = w i) ∧ Fp (fun a j => a = 92 ∧ 1120 + 96 * c ≤ j ∧ j < 1120 + 96 * c + 96) M M1 ∧
    EvC G d m_M_where 83 [some (.ref 91), some (.int x1), some (.int x2), some (.int (zI (j : Int)))] [] M (some (.int (zI (c : Int))), am_setI (am_setI M1 91 7 (zI ((c + 1 : Nat) : Int))) 91 1 (zI 0))
  | 0, j, M, hj, hW, h0, h1, h2 => by
    refine ⟨M, fun i hi => h2 i (by omega), Fp.rf, ev_M_where_83 ?_⟩
    have e5 : zI (c : Int) + zI 1 = zI ((c + 1 : Nat) : Int) := by rw [zI_add, show (c : Int) + 1 = ((c + 1 : Nat) : Int) by omega]
    rw [if_neg (fun q => by rw [zI_lt ⟨by omega, by omega⟩ ⟨by omega, by omega⟩] at q; omega), h0, e5, setI_idx (show (7 : Nat) ≠ 1 by decide), setI_self, zI_sub, show ((c + 1 : Nat) : Int) - 1 = (c : Int) by omega]
    exact ⟨okF_W hW rfl, okP_W hW rfl rfl, okP_W (WM_setI hW) rfl rfl, okF_W (WM_setI (WM_setI hW)) rfl, rfl⟩
  | m + 1, j, M, hj, hW, h0, h1, h2 => by
    have ej : zI (j : Int) + zI 1 = zI ((j + 1 : Nat) : Int) := by rw [zI_add, show (j : Int) + 1 = ((j + 1 : Nat) : Int) by omega]
    have ep : zI 1120 + zI 96 * zI (c : Int) + zI (j : Int) = zI (((1120 + 96 * c : Nat) : Int) + (j : Int)) := by rw [zI_mul, zI_add, zI_add, show (1120 : Int) + 96 * (c : Int) = ((1120 + 96 * c : Nat) : Int) by omega]
    have eb : zI 1024 + zI (j : Int) = zI (((1024 : Nat) : Int) + (j : Int)) := zI_add _ _
    have fp : Fp (fun a j => a = 92 ∧ 1120 + 96 * c ≤ j ∧ j < 1120 + 96 * c + 96) M (am_setI M 92 (1120 + 96 * c + j) (w j)) := Fp.set ⟨rfl, by omega, by omega⟩
    obtain ⟨M1, g1, g2, g3⟩ := mwh_l (w := w) (x1 := x1) (x2 := x2) hc m (j + 1) (am_setI M 92 (1120 + 96 * c + j) (w j)) (by omega) (WM_setI hW) (by rw [setI_cell (by decide)]; exact h0) (fun i hi => by rw [setI_idx (by omega)]; exact h1 i hi) (fun i hi => by
      by_cases e : i = j
      · rw [e, setI_self]
      · rw [setI_idx (by omega)]; exact h2 i (by omega))
    refine ⟨M1, g1, fp.tr g2, ev_M_where_83 ?_⟩
    rw [if_pos ((zI_lt ⟨by omega, by omega⟩ ⟨by omega, by omega⟩).mpr (by omega)), h0, ej, ep, eb, cl2 (by omega), cl2 (by omega), show M.2.1 (91 + 1) (1024 + j) = w j from h1 j (by omega)]
    exact ⟨okF_W hW rfl, okF_W hW rfl, okF_W hW rfl, okA_W hW (show sg0[91 + 1]? = some (.inr (0, 1728)) from rfl) (zI_in (by omega) (by omega) (by omega)), okA_W hW (show sg0[91 + 1]? = some (.inr (0, 1728)) from rfl) (zI_in (by omega) (by omega) (by omega)), g3⟩
theorem e_M_where {f : Int} (h : RepM M S) (hO : Ok S) (hfr : rg f) (hg : ∀ g, rdQ S.buf = .inl g → g < 1000) : ∃ M', Ev G (d + 4) 122 [.ref 91, .int (zI f)] M (some (.int (zI (sp_where S f).1)), M') ∧ RepM M' (sp_where S f).2 ∧ Fx gM M M' := by
  have hW := h.1
  have hb := h.2.1
  have hbl := hb.1
  have z2 : (zI 2).toNatClampNeg = 2 := by decide +kernel
  obtain ⟨M1, e1, f1⟩ := e_M_read_opd (G := G) (d := d) (hb.in_ hW)
  have f1x := (f1.x hW).up (fun a j q => pRd_gV q)
  have h1 := h.k hO f1x (fun a j q => Or.inl q)
  have F1 : Fx gM M M1 := f1x.up (fun a j q => gV_M q)
  have W1 := h1.1
  have pre : ∀ r, EvC G (d + 4) m_M_where 16 [some (.ref 91), some (.int (zI f)), none, none] [.int (zI (fo 1024 (rdQ S.buf)))] M1 r → Ev G (d + 4) 122 [.ref 91, .int (zI f)] M r := fun r hr => by
    refine ev_of (q := mt_M_where) rfl (ev_M_where_0 ?_)
    rw [hb.2.1, zI_add]
    exact ⟨okF_W hW rfl, okO_W hW rfl, _, _, e1, hr⟩
  unfold sp_where
  cases hrd : rdQ S.buf with
  | inl g =>
    have hg' := hg g hrd
    refine ⟨M1, pre _ (ev_M_where_16 ?_), h1, F1⟩
    have e0 : fo 1024 (.inl g) = ((1024 : Nat) : Int) + (g : Int) := rfl
    rw [hrd, zI_0, e0, if_neg (fun q => by rw [zI_lt ⟨by omega, by omega⟩ ⟨by omega, by omega⟩] at q; omega), zI_sub, zI_sub, show (-1 : Int) - (((1024 : Nat) : Int) + (g : Int) - 1024) = -1 - (g : Int) by omega]
  | inr N =>
    have hq := okQ_of hrd hbl
    have t1 : M1.2.1 (91 + 4) 2 = zI (S.typ.length : Int) := h1.2.2.1.2.1
    have tl := h1.2.2.1.1
    obtain ⟨k1, k2, k3⟩ := h1.2.2.2.2.2.1
    show ∃ M', Ev G (d + 4) 122 [.ref 91, .int (zI f)] M (some (.int (zI (if 0 ≤ f ∧ f ≤ 7 ∧ 0 < S.typ.length ∧ S.cnd.length < 3 then ((S.cnd.length : Int), ((S.sC (S.cnd ++ [(S.typ, f, S.buf)])).sB ([]))) else (-1000, S) : Int × St_).1)), M') ∧ RepM M' (if 0 ≤ f ∧ f ≤ 7 ∧ 0 < S.typ.length ∧ S.cnd.length < 3 then ((S.cnd.length : Int), ((S.sC (S.cnd ++ [(S.typ, f, S.buf)])).sB ([]))) else (-1000, S) : Int × St_).2 ∧ Fx gM M M'
    have pre1 : ∀ r, (∃ x', Ev G (d + 3) 87 [.int (zI f), .int (zI 0), .int (zI 7)] M1 (some (.int x'), M1) ∧ EvC G (d + 4) m_M_where 36 [some (.ref 91), some (.int (zI f)), some (.int (zI (-1))), none] [.int x'] M1 r) → Ev G (d + 4) 122 [.ref 91, .int (zI f)] M r := fun r hr => by
      obtain ⟨x', w1, w2⟩ := hr
      refine pre _ (ev_M_where_16 ?_)
      rw [hrd, show zI (fo 1024 (.inr N)) = zI (-1) from rfl, zI_0, if_pos ((zI_lt ⟨by omega, by omega⟩ ⟨by omega, by omega⟩).mpr (by omega))]
      exact ⟨x', _, w1, w2⟩
    by_cases cf : 0 ≤ f ∧ f ≤ 7
    · have pre2 : ∀ r, (if zI (S.typ.length : Int) = zI 0 then (r = ((some (.int (zI (-1000))), M1) : Out_)) else (if zI (S.cnd.length : Int) < zI 3 then ∃ M', Ev G (d + 3) 112 [.ref 91, .int (zI 2), .int (zI ((3 + S.cnd.length : Nat) : Int))] M1 (none, M') ∧ EvC G (d + 4) m_M_where 71 [some (.ref 91), some (.int (zI f)), some (.int (zI (-1))), none] [] M' r else (r = ((some (.int (zI (-1000))), M1) : Out_)))) → Ev G (d + 4) 122 [.ref 91, .int (zI f)] M r := fun r hr => by
        refine pre1 _ ⟨_, e_M_in_t hfr ⟨by omega, by omega⟩ ⟨by omega, by omega⟩ cf, ev_M_where_36 ?_⟩
        rw [zI_0, if_neg z10, z2, t1, k2]
        refine ⟨okF_W W1 rfl, okA_W W1 (show sg0[91 + 4]? = some (.inr (0, 6)) from rfl) (zI_in (by omega) (by omega) (by omega)), ?_⟩
        by_cases ct : zI (S.typ.length : Int) = zI 0
        · rw [if_pos ct]; rw [if_pos ct] at hr; exact hr
        · rw [if_neg ct]; rw [if_neg ct] at hr
          refine ⟨okF_W W1 rfl, ?_⟩
          by_cases c3 : zI (S.cnd.length : Int) < zI 3
          · rw [if_pos c3, zI_add, show (3 : Int) + (S.cnd.length : Int) = ((3 + S.cnd.length : Nat) : Int) by omega]; rw [if_pos c3] at hr
            obtain ⟨M', w1, w2⟩ := hr
            exact ⟨okF_W W1 rfl, okO_W W1 rfl, M', w1, w2⟩
          · rw [if_neg c3]; rw [if_neg c3] at hr; exact hr
      by_cases c : 0 < S.typ.length ∧ S.cnd.length < 3
      · rw [if_pos (show 0 ≤ f ∧ f ≤ 7 ∧ 0 < S.typ.length ∧ S.cnd.length < 3 from ⟨cf.1, cf.2, c⟩)]
        obtain ⟨M2, e2, p2, f2⟩ := e_M_copyPath (G := G) (d := d + 3) (f := 2) (t := 3 + S.cnd.length) (by omega) (by omega) (by omega) W1 h1.2.2.1
        have f2x := f2.x W1
        have W2 := f2x.1
        have k2' : M2.2.1 91 7 = zI (S.cnd.length : Int) := by rw [f2.2.2 _ _ (by unfold pPth; omega)]; exact k2
        have f3 : Fp (fun a j => a = 97 ∧ j = S.cnd.length) M2 (am_setI M2 97 S.cnd.length (zI f)) := Fp.set ⟨rfl, rfl⟩
        have f3x := f3.x W2
        obtain ⟨M3, g1, g2, g3⟩ := mwh_l (G := G) (d := d + 4) (c := S.cnd.length) (x1 := zI f) (x2 := zI (-1)) (w := fun i => M1.2.1 92 (1024 + i)) c.2 96 0 (am_setI M2 97 S.cnd.length (zI f)) rfl f3x.1 (by rw [setI_cell (by decide)]; exact k2') (fun i hi => by rw [setI_cell (by decide), f2.2.2 _ _ (by unfold pPth; omega)]) (fun i hi => by omega)
        have g2x := g2.x f3x.1
        have f5 : Fp (fun a j => a = 91 ∧ (j = 1 ∨ j = 7)) M3 (am_setI (am_setI M3 91 7 (zI ((S.cnd.length + 1 : Nat) : Int))) 91 1 (zI 0)) := Fp.tr (Fp.set ⟨rfl, Or.inr rfl⟩) (Fp.set ⟨rfl, Or.inl rfl⟩)
        have f5x := f5.x g2x.1
        have F : Fx (fun a j => (a = 91 ∧ (j = 1 ∨ j = 7)) ∨ (a = 92 ∧ 1120 + 96 * S.cnd.length ≤ j ∧ j < 1120 + 96 * S.cnd.length + 96) ∨ (a = 97 ∧ j = S.cnd.length) ∨ pPth (3 + S.cnd.length) a j) M1 (am_setI (am_setI M3 91 7 (zI ((S.cnd.length + 1 : Nat) : Int))) 91 1 (zI 0)) := (((f2x.up (fun a j q => Or.inr (Or.inr (Or.inr q)))).tr (f3x.up (fun a j q => Or.inr (Or.inr (Or.inl q))))).tr (g2x.up (fun a j q => Or.inr (Or.inl q)))).tr (f5x.up (fun a j q => Or.inl q))
        have hlen : (S.cnd ++ [(S.typ, f, S.buf)]).length = S.cnd.length + 1 := by rw [List.length_append, List.length_singleton]
        have hQl := hq.2.2.2.2
        refine ⟨_, pre2 _ ?_, ?_, F1.tr (F.up (fun a j q => by unfold pPth at q; unfold gM; omega))⟩
        · rw [if_neg (zI_ne ⟨by omega, by omega⟩ ⟨by omega, by omega⟩ (by omega)), if_pos ((zI_lt ⟨by omega, by omega⟩ ⟨by omega, by omega⟩).mpr (by omega))]
          refine ⟨_, e2, ev_M_where_71 ?_⟩
          rw [k2', zI_nat (show S.cnd.length < 2147483648 by omega)]
          exact ⟨okF_W W2 rfl, okF_W W2 rfl, okA_z W2 (show sg0[91 + 6]? = some (.inr (0, 3)) from rfl) (by omega) (by omega), g3⟩
        · obtain ⟨q0, q1, q2, q3, q4, q5, q6, q7⟩ := h1
          refine ⟨F.1, ⟨Nat.zero_le _, setI_self, fun i hi => (by cases hi), fun i hi => (by cases hi)⟩, q2.kx F (fun q => by unfold pPth at q; omega) (fun i _ _ q => by unfold pPth at q; omega), q3.kx hO.1 F (fun a j q => by unfold pPth at q; omega), q4.kx F (fun a j q => by unfold pPth at q; omega), ⟨by rw [hlen]; omega, ?_, fun c' hc' => ?_⟩, q6.kx F (fun a j q => by unfold pPth at q; omega), by rw [F.2.2 _ _ (fun q => by unfold pPth at q; omega)]; exact q7⟩
          · rw [setI_idx (by decide), setI_self, hlen]
          · rw [hlen] at hc'
            by_cases e : c' < S.cnd.length
            · rw [cD_app e]
              obtain ⟨r1, r2, r3, r4⟩ := k3 c' e
              have r2l := r4.2.1.2.2.2.2
              exact ⟨r1.kx F (fun q => by unfold pPth at q; omega) (fun i _ _ q => by unfold pPth at q; omega), r2.kx F (fun i hi q => by unfold pPth at q; omega), by rw [F.2.2 _ _ (fun q => by unfold pPth at q; omega)]; exact r3, r4⟩
            · have : c' = S.cnd.length := by omega
              rw [this, cD_new]
              refine ⟨((p2.kx f3x (fun q => by omega) (fun i _ _ q => by omega)).kx g2x (fun q => by omega) (fun i _ _ q => by omega)).kx f5x (fun q => by omega) (fun i _ _ q => by omega), ⟨F.1, q1.2.2.2, fun i hi => ?_, show 1120 + 96 * S.cnd.length + S.buf.length ≤ 1728 by omega⟩, ?_, cf, hq, c.1, c.2, okC_of hrd⟩
              · have hi : i < S.buf.length := hi
                rw [f5.2.2 _ _ (fun q => by omega), g1 i (by omega)]
                exact q1.2.2.1 i hi
              · rw [f5.2.2 _ _ (fun q => by omega), g2.2.2 _ _ (fun q => by omega), setI_self]
      · rw [if_neg (show ¬ (0 ≤ f ∧ f ≤ 7 ∧ 0 < S.typ.length ∧ S.cnd.length < 3) from fun q => c q.2.2)]
        refine ⟨M1, pre2 _ ?_, h1, F1⟩
        by_cases ct : S.typ.length = 0
        · rw [ct, if_pos (show zI ((0 : Nat) : Int) = zI 0 from rfl)]
        · rw [if_neg (zI_ne ⟨by omega, by omega⟩ ⟨by omega, by omega⟩ (by omega)), if_neg (fun q => by rw [zI_lt ⟨by omega, by omega⟩ ⟨by omega, by omega⟩] at q; omega)]
    · rw [if_neg (show ¬ (0 ≤ f ∧ f ≤ 7 ∧ 0 < S.typ.length ∧ S.cnd.length < 3) from fun q => cf ⟨q.1, q.2.1⟩)]
      refine ⟨M1, pre1 _ ⟨_, e_M_in_f hfr ⟨by omega, by omega⟩ ⟨by omega, by omega⟩ cf, ev_M_where_36 ?_⟩, h1, F1⟩
      rw [zI_0, if_pos rfl]
theorem e_M_anywhere (h : RepM M S) (hO : Ok S) : ∃ M', Ev G d 123 [.ref 91] M (some (.int (zI (sp_anywhere S).1)), M') ∧ RepM M' (sp_anywhere S).2 ∧ Fx gM M M' := by
  have hW := h.1
  have f : Fx (fun a j => a = 91 ∧ j = 7) M (am_setI M 91 7 (zI 0)) := Fx.setI hW ⟨rfl, rfl⟩
  obtain ⟨k1, k2, k3⟩ := h.2.2.2.2.2.1
  refine ⟨am_setI M 91 7 (zI 0), ev_of (q := mt_M_anywhere) rfl (ev_M_anywhere_0 ?_), ?_, f.up (fun a j q => by unfold gM; omega)⟩
  · rw [k2]
    exact ⟨okF_W hW rfl, okP_W hW rfl rfl, rfl⟩
  · obtain ⟨g0, g1, g2, g3, g4, g5, g6, g7⟩ := h
    exact ⟨f.1, g1.kx f (fun a j q => by omega), g2.kx f (fun q => by omega) (fun i _ _ q => by omega), g3.kx hO.1 f (fun a j q => by omega), g4.kx f (fun a j q => by omega), ⟨Nat.zero_le _, setI_self, fun c hc => by cases hc⟩, g6.kx f (fun a j q => by omega), by rw [f.2.2 _ _ (fun q => by omega)]; exact g7⟩
theorem e_M_found {k : Int} (h : RepM M S) (hk : rg k) : Ev G (d + 1) 133 [.ref 91, .int (zI k)] M (some (.int (zI (sp_found S k))), M) := by
  have hW := h.1
  obtain ⟨g1, g2, g3⟩ := h.2.2.2.2.2.2.1
  refine ev_of (q := mt_M_found) rfl (ev_M_found_0 ⟨okF_W hW rfl, ?_⟩)
  unfold sp_found
  rw [g2, zI_sub]
  by_cases c : 0 ≤ k ∧ k ≤ (S.fnd.length : Int) - 1
  · refine ⟨_, _, e_M_in_t hk ⟨by omega, by omega⟩ ⟨by omega, by omega⟩ c, ev_M_found_11 ?_⟩
    rw [zI_0, if_neg z10, if_pos (show 0 ≤ k ∧ k < (S.fnd.length : Int) by omega), zI_clamp hk, show M.2.1 (91 + 7) k.toNat = _ from g3 k.toNat (by omega)]
    exact ⟨okF_W hW rfl, okA_W hW (show sg0[91 + 7]? = some (.inr (0, 16)) from rfl) (zI_in (by omega) (by omega) (by omega)), rfl⟩
  · refine ⟨_, _, e_M_in_f hk ⟨by omega, by omega⟩ ⟨by omega, by omega⟩ c, ev_M_found_11 ?_⟩
    rw [zI_0, if_pos rfl, if_neg (show ¬ (0 ≤ k ∧ k < (S.fnd.length : Int)) by omega)]
theorem e_M_examined (h : RepM M S) : Ev G d 134 [.ref 91] M (some (.int (zI (S.exm : Int))), M) := by
  refine ev_of (q := mt_M_examined) rfl (ev_M_examined_0 ⟨okF_W h.1 rfl, ?_⟩)
  rw [h.2.2.2.2.2.2.2]
end MWHERE
