/-! THE REFERENCE's reader: read of a document, of an operand -/
theorem rdV_pos {B : List Int} {P P' : Rs} {t x : Int} {s q : Nat} (hq : 0 < q ∨ isC t) (ht : 1 ≤ t ∧ t ≤ 6) (hp : q ≤ B.length) (h : rdV B P t x s q = .inr P') : 0 < P'.1 := by
  unfold rdV at h
  split at h
  · cases h
  · next q' hq' =>
    have h := Sum.inr.inj h
    subst h
    show 0 < q'
    by_cases c : isC t
    · have := (rdC_cont c hq').1
      omega
    · have := (rdC_plain ht c hp hq').2.1
      rcases hq with hq | hq
      · omega
      · exact absurd hq c
section MREAD3
variable {G : Nat × (Nat → Int32)} {d o : Nat} {B : List Int}
theorem zI_o0 : zI (o : Int) = zI ((o : Int) + ((0 : Nat) : Int)) := by rw [show (o : Int) + ((0 : Nat) : Int) = (o : Int) by omega]
theorem e_M_read_doc {M : Mm_} (h : mIn M o B) : ∃ M', Ev G (d + 3) 97 [.ref 91, .int (zI 3), .int (zI (o : Int)), .int (zI ((o : Int) + (B.length : Int)))] M (some (.int (zI (fo o (rdD B)))), M') ∧ Fp pRd M M' := by
  have h1 : mIn (am_setI M 91 20 (zI (-1))) o B := h.ft
  have hf1 : (am_setI M 91 20 (zI (-1))).2.1 91 20 = zI (-1) := setI_self
  have hTl : ∀ g, rdV B (0, [], []) 3 0 0 0 = .inl g → fo o (rdD B) = (o : Int) + (g : Int) := fun g hg => by
    unfold rdD
    rw [hg]
    rfl
  obtain ⟨M', e, f⟩ := ct_step (G := G) (d := d) (z := 0) (N := []) (S := []) (t := 3) (x := 0) (s := 0) (q := 0) (x1 := zI 3) (x2 := zI (o : Int)) (u8 := none) (T := fo o (rdD B)) h1 hf1 (Nat.zero_le _) ⟨by omega, by omega⟩ (fun _ => by decide) (by decide) trivial (fun c hc => by cases hc) hTl (fun P' M1 x6 x7 u8 hP m1 mf ms => by
    obtain ⟨i1, i2⟩ := rdV_inv (rInv0 B) (t := 3) (x := 0) (s := 0) (q := 0) (by decide) (fun _ => by decide) (Nat.zero_le _) (Or.inr ⟨Or.inl rfl, Nat.le_refl _⟩) (Nat.le_refl _) (fun c r e => by cases e) (fun _ => rfl) hP
    have hp := rdV_pos (Or.inr (Or.inl rfl)) ⟨by omega, by omega⟩ (Nat.zero_le _) hP
    have := hd_loop (G := G) (d := d) (x1 := zI 3) (x2 := zI (o : Int)) B.length P' M1 x6 x7 u8 (by omega) m1 mf i1 ms
    unfold rdD
    rw [hP]
    exact this)
  refine ⟨M', ev_of (q := mt_M_read) rfl (ev_M_read_0 ?_), pRd_ft.tr f⟩
  rw [zI_0, if_neg (by decide +kernel)]
  refine ⟨okP_W h.1 rfl rfl, ?_⟩
  rw [← zI_o0] at e
  exact e
theorem rdP_nil : rdP B (0, [], []) = if 1 ≤ by_ B 0 ∧ by_ B 0 ≤ 6 then rdV B (0, [], []) (by_ B 0) 0 0 1 else .inl 0 := by
  unfold rdP rdH
  dsimp only
  rw [if_neg (by simp)]
  by_cases c : 1 ≤ by_ B 0 ∧ by_ B 0 ≤ 6
  · rw [if_pos c, if_pos c]
  · rw [if_neg c, if_neg c]
theorem e_M_read_opd {M : Mm_} (h : mIn M o B) : ∃ M', Ev G (d + 3) 97 [.ref 91, .int (zI 0), .int (zI (o : Int)), .int (zI ((o : Int) + (B.length : Int)))] M (some (.int (zI (fo o (rdQ B)))), M') ∧ Fp pRd M M' := by
  have hm := h.2.2.2
  have h1 : mIn (am_setI M 91 20 (zI (-1))) o B := h.ft
  have hf1 : (am_setI M 91 20 (zI (-1))).2.1 91 20 = zI (-1) := setI_self
  -- no type's byte
  have bad : rdP B (0, [], []) = .inl 0 → fo o (rdQ B) = (o : Int) + ((0 : Nat) : Int) := fun e => by
    unfold rdQ
    rw [e]
    rfl
  have bad47 : rdP B (0, [], []) = .inl 0 → EvC G (d + 3) m_M_read 47 [some (.ref 91), some (.int (zI 0)), some (.int (zI (o : Int))), some (.int (zI ((o : Int) + (B.length : Int)))), some (.int (zI 0)), some (.int (zI (o : Int))), some (.int (zI 0)), some (.int (zI 1)), none] [] (am_setI (am_setI M 91 20 (zI (-1))) 91 20 (zI (o : Int))) (some (.int (zI (fo o (rdQ B)))), am_setI (am_setI M 91 20 (zI (-1))) 91 20 (zI (o : Int))) := fun e => by
    have hT := bad e
    have hf2 : (am_setI (am_setI M 91 20 (zI (-1))) 91 20 (zI (o : Int))).2.1 91 20 = zI (fo o (rdQ B)) := by rw [setI_self, hT, ← zI_o0]
    refine ev_M_read_47 ?_
    rw [if_neg (fPos hf2 ⟨by omega, by omega⟩)]
    exact ⟨okF_W (WM_setI h1.1) rfl, rd_f71 (WM_setI h1.1) hf2 ⟨by omega, by omega⟩⟩
  by_cases c0 : 0 < B.length
  · have hb := h.2.1 0 c0
    have i0 := mI h1 c0
    have o0 := mOk h1 c0
    rw [← zI_o0] at i0 o0
    by_cases c : 1 ≤ by_ B 0 ∧ by_ B 0 ≤ 6
    · have hP0 : rdP B (0, [], []) = rdV B (0, [], []) (by_ B 0) 0 0 1 := by rw [rdP_nil, if_pos c]
      have hTl : ∀ g, rdV B (0, [], []) (by_ B 0) 0 0 1 = .inl g → fo o (rdQ B) = (o : Int) + (g : Int) := fun g hg => by
        unfold rdQ
        rw [hP0, hg]
        rfl
      obtain ⟨M', e, f⟩ := ct_step (G := G) (d := d) (z := 0) (N := []) (S := []) (t := by_ B 0) (x := 0) (s := 0) (q := 1) (x1 := zI 0) (x2 := zI (o : Int)) (u8 := none) (T := fo o (rdQ B)) h1 hf1 c0 c (fun _ => by decide) (by decide) trivial (fun c hc => by cases hc) hTl (fun P' M1 x6 x7 u8 hP m1 mf ms => by
        obtain ⟨i1, i2⟩ := rdP_inv (rInv0 B) (fun _ => rfl) (hP0.trans hP)
        have i2 : 0 < P'.1 := i2
        have := hd_loop (G := G) (d := d) (x1 := zI 0) (x2 := zI (o : Int)) B.length P' M1 x6 x7 u8 (by omega) m1 mf i1 ms
        unfold rdQ
        rw [hP0, hP]
        exact this)
      refine ⟨M', ev_of (q := mt_M_read) rfl (ev_M_read_0 ?_), pRd_ft.tr f⟩
      rw [zI_0, if_pos rfl, if_pos ((zI_lt ⟨by omega, by omega⟩ ⟨by omega, by omega⟩).mpr (by omega)), i0]
      refine ⟨okP_W h.1 rfl rfl, okF_W h1.1 rfl, o0, _, _, e_M_in_t ⟨by omega, by omega⟩ ⟨by omega, by omega⟩ ⟨by omega, by omega⟩ c, ev_M_read_38 ?_⟩
      rw [zI_0, if_neg z10]
      refine ev_M_read_47 ?_
      rw [if_pos (fNeg hf1), i0, zI_add]
      exact ⟨okF_W h1.1 rfl, okF_W h1.1 rfl, o0, e⟩
    · have hP0 : rdP B (0, [], []) = .inl 0 := by rw [rdP_nil, if_neg c]
      refine ⟨am_setI (am_setI M 91 20 (zI (-1))) 91 20 (zI (o : Int)), ev_of (q := mt_M_read) rfl (ev_M_read_0 ?_), pRd_ft.tr pRd_ft⟩
      rw [zI_0, if_pos rfl, if_pos ((zI_lt ⟨by omega, by omega⟩ ⟨by omega, by omega⟩).mpr (by omega)), i0]
      refine ⟨okP_W h.1 rfl rfl, okF_W h1.1 rfl, o0, _, _, e_M_in_f ⟨by omega, by omega⟩ ⟨by omega, by omega⟩ ⟨by omega, by omega⟩ c, ev_M_read_38 ?_⟩
      rw [zI_0, if_pos rfl]
      exact ⟨okO_W h1.1 rfl, _, _, e_M_wrong h1.1 hf1, ev_M_read_46 (bad47 hP0)⟩
  · have hb := by_out (B := B) (p := 0) (by omega)
    have hP0 : rdP B (0, [], []) = .inl 0 := by rw [rdP_nil, if_neg (by omega)]
    refine ⟨am_setI (am_setI M 91 20 (zI (-1))) 91 20 (zI (o : Int)), ev_of (q := mt_M_read) rfl (ev_M_read_0 ?_), pRd_ft.tr pRd_ft⟩
    rw [zI_0, if_pos rfl, if_neg (fun q => by rw [zI_lt ⟨by omega, by omega⟩ ⟨by omega, by omega⟩] at q; omega)]
    exact ⟨okP_W h.1 rfl rfl, okO_W h1.1 rfl, _, _, e_M_wrong h1.1 hf1, ev_M_read_46 (bad47 hP0)⟩
end MREAD3
