/-! THE CLASS's TREE: readContent; element -/
section TCONT2
variable {G : Nat × (Nat → Int32)} {d : Nat} {t q cap : Nat} {B : List Int} {N : List Nd} {S : List Nat} {tt x : Int} {s p : Nat}
theorem rc_nest {M : Mm_} (hE : tEn M t q cap B) (h : trP M t B N S tt x s p) (hp : p ≤ 200) (hn : N.length < 80) (hC : tt = 3 ∨ tt = 4) (hS : S.length ≤ 4) :
    ∃ M1 M', Ev G d 25 [.ref t, .int (zI 1), .int (zI 0), .int (zI 255)] M (some (.int (zI (okI (rdC B tt p)))), M1) ∧ (∀ d', EvC G d' m_T_readContent 140 [some (.ref t), some (.int (zI N.length)), some (.int (zI 1))] [.int (zI (okI (rdC B tt p)))] M1 (some (.int (zI (okI (rdC B tt p)))), M')) ∧ Fp (pT t) M M' ∧ ∀ z0, tOut M' t B (rdV B (z0, N, S) tt x s p) := by
  have hr : rdC B tt p = rb B 0 255 1 p := by
    unfold rdC
    rcases hC with rfl | rfl <;> simp
  obtain ⟨M1, e1, f1, o1⟩ := e_T_readBytes (G := G) (d := d) (k := 1) (p := p) (lo := 0) (hi := 255) ⟨by omega, by omega⟩ ⟨by omega, by omega⟩ (by omega) (by omega) hE h.1.1
  rw [← hr] at e1 o1
  have hW1 := f1.WM hE.1
  have h11 : M1.2.1 t 11 = zI S.length := (f1.2.2 t 11 (fun c => by unfold pPF at c; omega)).trans h.1.2.2.2.1
  have g8 : (am_setI (am_setI M1 t 10 (zI N.length)) t 11 (zI ((S.length : Int) + 1))).2.1 t 8 = M1.2.1 t 8 := (setI_idx (by decide)).trans (setI_idx (by decide))
  refine ⟨M1, am_setI (am_setI (am_setI M1 t 10 (zI N.length)) t 11 (zI ((S.length : Int) + 1))) (t + 5) N.length ((am_setI (am_setI M1 t 10 (zI N.length)) t 11 (zI ((S.length : Int) + 1))).2.1 t 8), e1, fun d' => ev_T_readContent_140 ?_, ?_, fun z0 => ?_⟩
  · rw [show (am_setI M1 t 10 (zI N.length)).2.1 t 11 = zI S.length from (setI_idx (by decide)).trans h11, zI_add]
    exact ⟨okP_W hW1 hE.2.1.1 rfl, okF_W (WM_setI hW1) hE.2.1.1, okP_W (WM_setI hW1) hE.2.1.1 rfl, rc_fin (okI_rg _) (WM_setI (WM_setI hW1)) hE.2.1 hn⟩
  · exact (((f1.up fun _ _ => pPF_T).tr (Fp.set ⟨by omega, by omega⟩)).tr (Fp.set ⟨by omega, by omega⟩)).tr (Fp.set ⟨by omega, by omega⟩)
  · unfold rdV
    cases hc : rdC B tt p with
    | inl g =>
      rw [hc] at o1
      show (am_setI _ (t + 5) _ _).2.1 t 9 = zI g
      rw [setI_cell (by omega), setI_idx (by decide), setI_idx (by decide)]
      exact o1
    | inr z =>
      rw [hc] at o1
      rw [g8, o1.1]
      exact rc_postC h f1 o1.1 o1.2 hC
theorem rc_text {M : Mm_} (hE : tEn M t q cap B) (h : trP M t B N S 2 x s p) (hp : p ≤ 200) (hn : N.length < 80) :
    ∃ b M1 M', Ev G d 25 [.ref t, .int (zI 1), .int (zI 0), .int (zI 8)] M (some (.int (zI b)), M1) ∧ EvC G (d + 1) m_T_readContent 81 [some (.ref t), some (.int (zI N.length)), some (.int (zI 1))] [.int (zI b)] M1 (some (.int (zI (okI (rdC B 2 p)))), M') ∧ Fp (pT t) M M' ∧ ∀ z0, tOut M' t B (rdV B (z0, N, S) 2 x s p) := by
  have hr : rdC B 2 p = (match rb B 0 8 1 p with
    | .inl f => .inl f
    | .inr q => rb B 32 126 (by_ B p).toNat q) := by
    unfold rdC
    rw [if_neg (by decide), if_pos rfl]
    cases rb B 0 8 1 p <;> rfl
  obtain ⟨M1, e1, f1, o1⟩ := e_T_readBytes (G := G) (d := d) (k := 1) (p := p) (lo := 0) (hi := 8) ⟨by omega, by omega⟩ ⟨by omega, by omega⟩ (by omega) (by omega) hE h.1.1
  have hW1 := f1.WM hE.1
  have hE1 := hE.kept (f1.up fun _ _ => pPF_T)
  cases h1 : rb B 0 8 1 p with
  | inl g =>
    rw [h1] at e1 o1 hr
    refine ⟨0, M1, am_setI M1 (t + 5) N.length (M1.2.1 t 8), e1, ev_T_readContent_81 ?_, f1.s5, fun z0 => ?_⟩
    · rw [zI_0, if_pos rfl, hr]
      exact ev_T_readContent_112 (ev_T_readContent_113 (rc_fin (Or.inl rfl) hW1 hE.2.1 hn))
    · unfold rdV
      rw [hr]
      show (am_setI M1 (t + 5) N.length (M1.2.1 t 8)).2.1 t 9 = zI g
      rw [setI_cell (by omega)]
      exact o1
  | inr q1 =>
    obtain ⟨r1, r2⟩ := rb_ok _ _ _ h1
    have r3 := r2 0 (by omega)
    rw [Nat.add_zero] at r3
    rw [h1] at e1 o1 hr
    obtain ⟨o8, o9⟩ := o1
    have hk : by_ B p = (((by_ B p).toNat : Nat) : Int) := by omega
    obtain ⟨M2, e2, f2, o2⟩ := e_T_readBytes (G := G) (d := d) (k := (by_ B p).toNat) (p := q1) (lo := 32) (hi := 126) ⟨by omega, by omega⟩ ⟨by omega, by omega⟩ (by omega) (by omega) hE1 o8
    have hr' : rdC B 2 p = rb B 32 126 (by_ B p).toNat q1 := hr
    rw [← hr'] at e2 o2
    have hW2 := f2.WM hW1
    have f12 := f1.tr f2
    refine ⟨1, M1, am_setI M2 (t + 5) N.length (M2.2.1 t 8), e1, ev_T_readContent_81 ?_, f12.s5, fun z0 => ?_⟩
    · rw [zI_0, if_neg z10, hE1.2.2.1, Option.getD_some, o8, zI_sub, show (q1 : Int) - 1 = (p : Int) by omega]
      refine ⟨okF_W hW1 hE.2.1.1, rfl, okF_W hW1 hE.2.1.1, okO_W hW1 hE1.2.2.2.1.1, _, _, e_R_cell hW1 hE1.2.2.2.1 ⟨by omega, by omega⟩, ev_T_readContent_98 ?_⟩
      have ec : cB B (p : Int) = (((by_ B p).toNat : Nat) : Int) := by unfold cB; rw [if_pos (by omega), Int.toNat_natCast]; exact hk
      rw [ec]
      refine ⟨okO_W hW1 hE.2.1.1, _, _, e2, ev_T_readContent_105 ?_⟩
      rcases okI_rg (rdC B 2 p) with c | c
      · rw [c, zI_0, if_pos rfl]
        exact ev_T_readContent_112 (ev_T_readContent_113 (rc_fin (Or.inl rfl) hW2 hE.2.1 hn))
      · rw [c, zI_0, if_neg z10]
        exact ev_T_readContent_113 (rc_fin (Or.inr rfl) hW2 hE.2.1 hn)
    · unfold rdV
      cases hc : rdC B 2 p with
      | inl g =>
        rw [hc] at o2
        show (am_setI M2 (t + 5) N.length (M2.2.1 t 8)).2.1 t 9 = zI g
        rw [setI_cell (by omega)]
        exact o2
      | inr z =>
        rw [hc] at o2
        refine rc_post h f12 o2.1 (o2.2.trans o9) ?_ (by decide)
        have := (rb_ok _ _ _ (hr' ▸ hc)).1
        unfold bh
        rw [if_neg (by decide), if_pos rfl]
        omega
theorem e_T_readContent {M : Mm_} (hE : tEn M t q cap B) (h : trP M t B N S tt x s p) (ht : 1 ≤ tt ∧ tt ≤ 6) (hp : p ≤ 200) (hn : N.length < 80) (hS : S.length ≤ 4) :
    ∃ M', Ev G (d + 1) 23 [.ref t, .int (zI N.length)] M (some (.int (zI (okI (rdC B tt p)))), M') ∧ Fp (pT t) M M' ∧ ∀ z0, tOut M' t B (rdV B (z0, N, S) tt x s p) := by
  have hT := hE.2.1
  have hW := hE.1
  have hty : M.2.1 (t + 1) N.length = zI tt := by
    have := (h.2.1 N.length (by simp)).1
    rw [this]
    unfold rTy
    rw [nd_app_eq]
  have hz : (zI (N.length : Int)).toNatClampNeg = N.length := zI_nat (by omega)
  have hm : ¬ zI (N.length : Int) = zI (-1) := zI_ne ⟨by omega, by omega⟩ ⟨by omega, by omega⟩ (by omega)
  have hA : am_okA M (t + 1) 0 (zI N.length) = true := okA_z hW (hT.2 1 (by omega) (by omega)) hn (by omega)
  have hO := okO_W hW hT.1
  have hc : tt = 1 ∨ tt = 2 ∨ tt = 3 ∨ tt = 4 ∨ tt = 5 ∨ tt = 6 := by omega
  have n21 : ¬ zI 2 = zI 1 := by decide +kernel
  have n31 : ¬ zI 3 = zI 1 := by decide +kernel
  have n32 : ¬ zI 3 = zI 2 := by decide +kernel
  have n41 : ¬ zI 4 = zI 1 := by decide +kernel
  have n42 : ¬ zI 4 = zI 2 := by decide +kernel
  have n43 : ¬ zI 4 = zI 3 := by decide +kernel
  have n51 : ¬ zI 5 = zI 1 := by decide +kernel
  have n52 : ¬ zI 5 = zI 2 := by decide +kernel
  have n53 : ¬ zI 5 = zI 3 := by decide +kernel
  have n54 : ¬ zI 5 = zI 4 := by decide +kernel
  have n61 : ¬ zI 6 = zI 1 := by decide +kernel
  have n62 : ¬ zI 6 = zI 2 := by decide +kernel
  have n63 : ¬ zI 6 = zI 3 := by decide +kernel
  have n64 : ¬ zI 6 = zI 4 := by decide +kernel
  have n65 : ¬ zI 6 = zI 5 := by decide +kernel
  rcases hc with rfl | rfl | rfl | rfl | rfl | rfl
  · obtain ⟨M1, M', e1, e2, f, o⟩ := rc_one (G := G) (d := d) (lo := 0) (hi := 255) (k := 2) ⟨by omega, by omega⟩ ⟨by omega, by omega⟩ (by omega) hE h hp hn (by decide) (by unfold rdC; rw [if_pos rfl]) (fun z hz => by have := (rb_ok _ _ _ hz).1; unfold bh; rw [if_pos rfl]; exact this)
    refine ⟨M', ev_of (q := mt_T_readContent) rfl (ev_T_readContent_0 ?_), f, o⟩
    rw [if_neg hm, hz, hty, if_pos rfl]
    exact ⟨okF_W hW hT.1, hA, hO, _, _, e1, ev_T_readContent_69 (e2 _)⟩
  · obtain ⟨b, M1, M', e1, e2, f, o⟩ := rc_text (G := G) (d := d) hE h hp hn
    refine ⟨M', ev_of (q := mt_T_readContent) rfl (ev_T_readContent_0 ?_), f, o⟩
    rw [if_neg hm, hz, hty, if_neg n21, if_pos rfl]
    exact ⟨okF_W hW hT.1, hA, hO, _, _, e1, e2⟩
  · obtain ⟨M1, M', e1, e2, f, o⟩ := rc_nest (G := G) (d := d) hE h hp hn (Or.inl rfl) hS
    refine ⟨M', ev_of (q := mt_T_readContent) rfl (ev_T_readContent_0 ?_), f, o⟩
    rw [if_neg hm, hz, hty, if_neg n31, if_neg n32, if_pos rfl]
    exact ⟨okF_W hW hT.1, hA, hO, _, _, e1, e2 _⟩
  · obtain ⟨M1, M', e1, e2, f, o⟩ := rc_nest (G := G) (d := d) hE h hp hn (Or.inr rfl) hS
    refine ⟨M', ev_of (q := mt_T_readContent) rfl (ev_T_readContent_0 ?_), f, o⟩
    rw [if_neg hm, hz, hty, if_neg n41, if_neg n42, if_neg n43, if_pos rfl]
    exact ⟨okF_W hW hT.1, hA, hO, _, _, e1, e2 _⟩
  · obtain ⟨M1, M', e1, e2, f, o⟩ := rc_one (G := G) (d := d) (lo := 0) (hi := 1) (k := 1) ⟨by omega, by omega⟩ ⟨by omega, by omega⟩ (by omega) hE h hp hn (by decide) (by unfold rdC; simp) (fun z hz => by have := (rb_ok _ _ _ hz).1; unfold bh; simp; exact this)
    refine ⟨M', ev_of (q := mt_T_readContent) rfl (ev_T_readContent_0 ?_), f, o⟩
    rw [if_neg hm, hz, hty, if_neg n51, if_neg n52, if_neg n53, if_neg n54, if_pos rfl]
    exact ⟨okF_W hW hT.1, hA, hO, _, _, e1, ev_T_readContent_124 (e2 _)⟩
  · have hr : rdC B 6 p = .inr p := by unfold rdC; simp
    refine ⟨am_setI M (t + 5) N.length (M.2.1 t 8), ev_of (q := mt_T_readContent) rfl (ev_T_readContent_0 ?_), Fp.set ⟨by omega, by omega⟩, fun z0 => ?_⟩
    · rw [if_neg hm, hz, hty, if_neg n61, if_neg n62, if_neg n63, if_neg n64, if_neg n65, if_pos rfl, hr]
      exact ⟨okF_W hW hT.1, hA, rc_fin (Or.inr rfl) hW hT hn⟩
    · unfold rdV
      rw [hr]
      exact rc_post (M1 := M) h Fp.rf h.1.1 rfl (by unfold bh; simp) (by decide)
end TCONT2
