/-! THE CLASS's Condition: sizes, comparisons, holds -/
section COND2
variable {G : Nat × (Nat → Int32)} {d : Nat} {M : Mm_} {q cap a : Nat} {B : List Int} {N : List Nd} {P : List (List Int)} {f : Int} {Q : List Int}
theorem okQ_1 (h : okQ Q) (e : by_ Q 0 = 1) : Q.length = 3 := by
  have := h.1
  unfold bh at this
  rw [if_pos e] at this
  omega
theorem okQ_2 (h : okQ Q) (e : by_ Q 0 = 2) : Q.length = 2 + (by_ Q 1).toNat ∧ 0 ≤ by_ Q 1 := by
  have := h.1
  unfold bh at this
  rw [if_neg (by omega), if_pos e] at this
  exact ⟨by omega, h.2.2.2.1 e⟩
theorem okQ_5 (h : okQ Q) (e : by_ Q 0 = 5) : Q.length = 2 := by
  have := h.1
  unfold bh at this
  rw [if_neg (by omega), if_neg (by omega), if_pos e] at this
  omega
theorem nd_1 {k : Nat} (hA : Acc B 3 0 N) (hk : k < N.length) (e : rTy N k = 1) : rPl N k + 2 ≤ B.length := by
  have hc := (hA.2.2.2.1 k hk (by simp)).1
  unfold rEn bh at hc
  rw [if_pos e] at hc
  exact hc
theorem nd_2 {k : Nat} (hA : Acc B 3 0 N) (hk : k < N.length) (e : rTy N k = 2) : rEn B N k = rPl N k + 1 + (by_ B (rPl N k)).toNat ∧ rEn B N k ≤ B.length ∧ 0 ≤ by_ B (rPl N k) := by
  have hc := (hA.2.2.2.1 k hk (by simp)).1
  have h5 := (hA.2.2.1 k hk).2.2.2.2.1 e
  refine ⟨?_, hc, h5.1⟩
  unfold rEn bh
  rw [if_neg (by omega), if_pos e]
theorem dif_rg (hA : Acc B 3 0 N) (hB : okB B) (hQ : okB Q) (h : okQ Q) {k : Nat} (hk : k < N.length) (hB80 : B.length ≤ 80) (ht : rTy N k = by_ Q 0) (h12 : by_ Q 0 = 1 ∨ by_ Q 0 = 2) : -65535 ≤ difV B N Q k ∧ difV B N Q k ≤ 65535 := by
  unfold difV
  by_cases c : by_ Q 0 = 1
  · rw [if_pos c]
    have l1 := okQ_1 h c
    have l2 := nd_1 hA hk (by omega)
    have r1 := sgn_rg hB (p := rPl N k) (by omega)
    have r2 := sgn_rg hQ (p := 1) (by omega)
    omega
  · rw [if_neg c]
    have l1 := okQ_2 h (by omega)
    have l2 := nd_2 hA hk (by omega)
    have hq := h.2.2.2.2
    have := cmpL_rg hB hQ (min (by_ B (rPl N k)).toNat (Q.length - 2)) (rPl N k + 1) 2 (by omega) (by omega)
    unfold cmpR
    split <;> omega
theorem e_C_difference {k : Nat} (h : dT M q cap B N) (hC : cnIs M a P f Q) (hk : k < N.length) (ht : rTy N k = by_ Q 0) (h12 : by_ Q 0 = 1 ∨ by_ Q 0 = 2) : Ev G (d + 2) 67 [.ref a, .ref 42, .int (zI (k : Int))] M (some (.int (zI (difV B N Q k))), M) := by
  obtain ⟨c1, c2, c3, c4, c5, c6, c7⟩ := hC
  obtain ⟨i1, -, -, i4, -, i6, i7, i8, i9, i10, i11, i12⟩ := h.at hk
  have hE := h.1
  have hW := hE.1
  have hT := hE.2.1
  have hR := hE.2.2.2.1
  have hA := h.2.2
  refine ev_of (q := mt_C_difference) rfl (ev_C_difference_0 ?_)
  rw [zI_nat (by omega), i4]
  refine ⟨okF_W hW hT.1, okA_z hW (hT.2 4 (by omega) (by omega)) (by omega) (by omega), okF_W hW c1, okO_W hW c3.1, _, _, e_R_cell' (p := 0) hW c3 (by omega), ev_C_difference_15 ?_⟩
  rw [hE.2.2.1, Option.getD_some]
  unfold difV
  by_cases c : by_ Q 0 = 1
  · have l1 := okQ_1 c6 c
    have l2 := nd_1 hA hk (by omega)
    rw [if_pos c, if_pos (by rw [c])]
    refine ⟨okF_W hW hT.1, rfl, okO_W hW hR.1, _, _, e_R_signedNumber hW hR (by omega), ev_C_difference_27 ⟨okF_W hW c1, okO_W hW c3.1, _, _, e_R_signedNumber (p := 1) hW c3 (by omega), ev_C_difference_35 ?_⟩⟩
    rw [zI_sub]
  · have l1 := okQ_2 c6 (by omega)
    have l2 := nd_2 hA hk (by omega)
    rw [if_neg c, if_neg (zI_ne ⟨by omega, by omega⟩ ⟨by omega, by omega⟩ c), zI_nat (by omega), i6, zI_add, show ((rPl N k : Nat) : Int) + 1 = ((rPl N k + 1 : Nat) : Int) by omega]
    have ec := e_R_compare (G := G) (d := d) (w := 2) (s := rPl N k + 1) (e := rEn B N k) hW hR c3 (by omega) i8 (by omega)
    rw [show rEn B N k - (rPl N k + 1) = (by_ B (rPl N k)).toNat by omega] at ec
    exact ⟨okF_W hW hT.1, rfl, okF_W hW hT.1, okA_z hW (hT.2 5 (by omega) (by omega)) (by omega) (by omega), okF_W hW c1, okO_W hW hR.1, _, _, ec, ev_C_difference_58 rfl⟩
theorem e_C_isSo {x : Int} (hW : WM M) (hC : cnIs M a P f Q) (hx : rg x) : ∃ y, Ev G d 68 [.ref a, .int (zI x)] M (some (.int y), M) ∧ b01 (isSo f x) y := by
  obtain ⟨c1, c2, c3, c4, c5, c6, c7⟩ := hC
  have z0 : rg 0 := ⟨by omega, by omega⟩
  have rf : rg f := ⟨by omega, by omega⟩
  have pre : ∀ y, (if zI f = zI 2 then (if zI x < zI 0 then ((some (.int y), M) = ((some (.int (zI 1)), M) : Out_)) else ((some (.int y), M) = ((some (.int (zI 0)), M) : Out_))) else (if zI f = zI 3 then (if zI 0 < zI x then ((some (.int y), M) = ((some (.int (zI 0)), M) : Out_)) else ((some (.int y), M) = ((some (.int (zI 1)), M) : Out_))) else (if zI f = zI 4 then (if zI 0 < zI x then ((some (.int y), M) = ((some (.int (zI 1)), M) : Out_)) else ((some (.int y), M) = ((some (.int (zI 0)), M) : Out_))) else (if zI x < zI 0 then ((some (.int y), M) = ((some (.int (zI 0)), M) : Out_)) else ((some (.int y), M) = ((some (.int (zI 1)), M) : Out_)))))) → Ev G d 68 [.ref a, .int (zI x)] M (some (.int y), M) := fun y hy => by
    refine ev_of (q := mt_C_isSo) rfl (ev_C_isSo_0 ?_)
    rw [c4, zI_0]
    exact ⟨okF_W hW c1, hy⟩
  unfold isSo
  by_cases f2 : f = 2
  · rw [if_pos f2]
    by_cases c : x < 0
    · exact ⟨zI 1, pre _ (by rw [if_pos (by rw [f2]), if_pos ((zI_lt hx z0).mpr c)]), b01_t c⟩
    · exact ⟨zI 0, pre _ (by rw [if_pos (by rw [f2]), if_neg (fun q => c ((zI_lt hx z0).mp q))]), b01_f c⟩
  · rw [if_neg f2]
    by_cases f3 : f = 3
    · rw [if_pos f3]
      by_cases c : 0 < x
      · exact ⟨zI 0, pre _ (by rw [if_neg (zI_ne rf ⟨by omega, by omega⟩ f2), if_pos (by rw [f3]), if_pos ((zI_lt z0 hx).mpr c)]), b01_f (by omega)⟩
      · exact ⟨zI 1, pre _ (by rw [if_neg (zI_ne rf ⟨by omega, by omega⟩ f2), if_pos (by rw [f3]), if_neg (fun q => c ((zI_lt z0 hx).mp q))]), b01_t (by omega)⟩
    · rw [if_neg f3]
      by_cases f4 : f = 4
      · rw [if_pos f4]
        by_cases c : 0 < x
        · exact ⟨zI 1, pre _ (by rw [if_neg (zI_ne rf ⟨by omega, by omega⟩ f2), if_neg (zI_ne rf ⟨by omega, by omega⟩ f3), if_pos (by rw [f4]), if_pos ((zI_lt z0 hx).mpr c)]), b01_t c⟩
        · exact ⟨zI 0, pre _ (by rw [if_neg (zI_ne rf ⟨by omega, by omega⟩ f2), if_neg (zI_ne rf ⟨by omega, by omega⟩ f3), if_pos (by rw [f4]), if_neg (fun q => c ((zI_lt z0 hx).mp q))]), b01_f c⟩
      · rw [if_neg f4]
        by_cases c : x < 0
        · exact ⟨zI 0, pre _ (by rw [if_neg (zI_ne rf ⟨by omega, by omega⟩ f2), if_neg (zI_ne rf ⟨by omega, by omega⟩ f3), if_neg (zI_ne rf ⟨by omega, by omega⟩ f4), if_pos ((zI_lt hx z0).mpr c)]), b01_f (by omega)⟩
        · exact ⟨zI 1, pre _ (by rw [if_neg (zI_ne rf ⟨by omega, by omega⟩ f2), if_neg (zI_ne rf ⟨by omega, by omega⟩ f3), if_neg (zI_ne rf ⟨by omega, by omega⟩ f4), if_neg (fun q => c ((zI_lt hx z0).mp q))]), b01_t (by omega)⟩
theorem cso_l {L : List (Nat × Bool)} (h : dT M q cap B N) (hC : cnIs M a P f Q) (h12 : by_ Q 0 = 1 ∨ by_ Q 0 = 2) (hL : trl M L) (hl : L.length ≤ 80) (hLN : ∀ z ∈ L, z.1 < N.length) : ∀ (m k : Nat) (u5 : Option Value), k + m = L.length → ∃ x, EvC G (d + 3) m_C_someComparesSo 24 [some (.ref a), some (.ref 42), some (.ref 51), some (.int (zI (by_ Q 0))), some (.int (zI (k : Int))), u5] [] M (some (.int x), M) ∧ b01 (∃ i, k ≤ i ∧ i < L.length ∧ (rTy N (L.getD i (0, false)).1 = by_ Q 0 ∧ isSo f (difV B N Q (L.getD i (0, false)).1))) x
  | 0, k, u5, hk => by
    refine ⟨zI 0, ev_C_someComparesSo_24 ?_, b01_f (fun ⟨i, h1, h2, _⟩ => by omega)⟩
    rw [hL.1, if_neg (fun q => by rw [zI_lt ⟨by omega, by omega⟩ ⟨by omega, by omega⟩] at q; omega)]
    exact ⟨okF_W h.1.1 rfl, rfl⟩
  | m + 1, k, u5, hk => by
    have hC' := hC
    obtain ⟨c1, c2, c3, c4, c5, c6, c7⟩ := hC
    have hW := h.1.1
    have hT := h.1.2.1
    have hkN := hLN _ (getD_mem (L := L) (i := k) (by omega))
    obtain ⟨i1, -, -, i4, -, i6, i7, i8, i9, i10, i11, i12⟩ := h.at hkN
    obtain ⟨x, e, w⟩ := cso_l h hC' h12 hL hl hLN m (k + 1) (some (.int (zI (((L.getD k (0, false)).1 : Nat) : Int)))) (by omega)
    have next : ¬ (rTy N (L.getD k (0, false)).1 = by_ Q 0 ∧ isSo f (difV B N Q (L.getD k (0, false)).1)) → b01 (∃ i, k ≤ i ∧ i < L.length ∧ (rTy N (L.getD i (0, false)).1 = by_ Q 0 ∧ isSo f (difV B N Q (L.getD i (0, false)).1))) x := fun c => by
      refine b01_iff w ⟨fun ⟨i, h1, h2, h3⟩ => ⟨i, by omega, h2, h3⟩, fun ⟨i, h1, h2, h3⟩ => ⟨i, ?_, h2, h3⟩⟩
      rcases Nat.lt_or_ge k i with h4 | h4
      · omega
      · have : i = k := by omega
        subst this
        exact absurd h3 c
    by_cases ct : rTy N (L.getD k (0, false)).1 = by_ Q 0
    · have dr := dif_rg h.2.2 h.1.2.2.2.1.okB c3.okB c6 hkN i12 ct h12
      obtain ⟨y, ey, wy⟩ := e_C_isSo (G := G) (d := d + 2) (x := difV B N Q (L.getD k (0, false)).1) hW hC' ⟨by omega, by omega⟩
      have ed := e_C_difference (G := G) (d := d) h hC' hkN ct h12
      have pre : ∀ v, EvC G (d + 3) m_C_someComparesSo 64 [some (.ref a), some (.ref 42), some (.ref 51), some (.int (zI (by_ Q 0))), some (.int (zI (k : Int))), some (.int (zI (((L.getD k (0, false)).1 : Nat) : Int)))] [.int y] M (some (.int v), M) → EvC G (d + 3) m_C_someComparesSo 24 [some (.ref a), some (.ref 42), some (.ref 51), some (.int (zI (by_ Q 0))), some (.int (zI (k : Int))), u5] [] M (some (.int v), M) := fun v hv => by
        refine ev_C_someComparesSo_24 ?_
        rw [hL.1, if_pos ((zI_lt ⟨by omega, by omega⟩ ⟨by omega, by omega⟩).mpr (by omega)), zI_nat (by omega), trl_at hL (by omega), zI_nat (by omega), i1, if_pos (by rw [ct])]
        exact ⟨okF_W hW rfl, okF_W hW rfl, okA_z hW (show sg0[51 + 2]? = some (.inr (0, 80)) from rfl) (by omega) (by omega), okF_W hW hT.1, okA_z hW (hT.2 1 (by omega) (by omega)) (by omega) (by omega), okO_W hW c1, _, _, ed, ev_C_someComparesSo_61 ⟨okO_W hW c1, _, _, ey, hv⟩⟩
      rcases wy with ⟨w1, w2⟩ | ⟨w1, w2⟩
      · refine ⟨zI 1, pre _ (ev_C_someComparesSo_64 ?_), b01_t ⟨k, Nat.le_refl _, by omega, ct, w1⟩⟩
        rw [w2, zI_0, if_neg z10]
      · refine ⟨x, pre _ (ev_C_someComparesSo_64 ?_), next (fun c => w1 c.2)⟩
        rw [w2, zI_0, if_pos rfl, zI_add, show (k : Int) + 1 = ((k + 1 : Nat) : Int) by omega]
        exact e
    · refine ⟨x, ev_C_someComparesSo_24 ?_, next (fun c => ct c.1)⟩
      rw [hL.1, if_pos ((zI_lt ⟨by omega, by omega⟩ ⟨by omega, by omega⟩).mpr (by omega)), zI_nat (by omega), trl_at hL (by omega), zI_nat (by omega), i1, if_neg (zI_ne ⟨by omega, by omega⟩ ⟨by omega, by omega⟩ ct), zI_add, show (k : Int) + 1 = ((k + 1 : Nat) : Int) by omega]
      exact ⟨okF_W hW rfl, okF_W hW rfl, okA_z hW (show sg0[51 + 2]? = some (.inr (0, 80)) from rfl) (by omega) (by omega), okF_W hW hT.1, okA_z hW (hT.2 1 (by omega) (by omega)) (by omega) (by omega), e⟩
theorem e_C_someComparesSo (h : dT M q cap B N) (hC : cnIs M a P f Q) (hL : trl M (follN N (pks P))) : ∃ x, Ev G (d + 3) 66 [.ref a, .ref 42, .ref 51] M (some (.int x), M) ∧ b01 (hCmp B N P f Q) x := by
  have hC' := hC
  obtain ⟨c1, c2, c3, c4, c5, c6, c7⟩ := hC
  have hW := h.1.1
  have hA := h.2.2
  have hl := hA.2.1
  have hB := h.1.2.2.2.2.2
  have fl := foll_len (N := N) (p := pks P)
  have hp : 0 < (pks P).length := by rw [pks_len]; exact c7
  have q1 := c6.2.1
  have q2 := c6.2.2.1
  have pre : ∀ y, EvC G (d + 3) m_C_someComparesSo 8 [some (.ref a), some (.ref 42), some (.ref 51), none, none, none] [.int (zI (by_ Q 0))] M (some (.int y), M) → Ev G (d + 3) 66 [.ref a, .ref 42, .ref 51] M (some (.int y), M) := fun y hy => by
    refine ev_of (q := mt_C_someComparesSo) rfl (ev_C_someComparesSo_0 ?_)
    exact ⟨okF_W hW c1, okO_W hW c3.1, _, _, e_R_cell' (p := 0) hW c3 (by omega), hy⟩
  by_cases h12 : by_ Q 0 = 1 ∨ by_ Q 0 = 2
  · obtain ⟨x, e, w⟩ := cso_l (G := G) (d := d) h hC' h12 hL (by omega) (fun z hz => foll_lt hz) _ 0 none (Nat.zero_add _)
    refine ⟨x, pre _ (ev_C_someComparesSo_8 ?_), b01_iff w ?_⟩
    · by_cases e1 : by_ Q 0 = 1
      · rw [if_pos (by rw [e1])]
        exact e
      · rw [if_neg (zI_ne ⟨by omega, by omega⟩ ⟨by omega, by omega⟩ e1), if_pos (by rw [show by_ Q 0 = 2 by omega])]
        exact e
    · rw [ex_idx (L := follN N (pks P)) (p := fun z => rTy N z.1 = by_ Q 0 ∧ isSo f (difV B N Q z.1))]
      constructor
      · rintro ⟨z, hz, h3⟩
        exact ⟨h12, z.1, (foll_any hA hp z.1).mp ⟨z.2, hz⟩, h3⟩
      · rintro ⟨-, k, hk, h3⟩
        obtain ⟨b, hb⟩ := (foll_any hA hp k).mpr hk
        exact ⟨(k, b), hb, h3⟩
  · refine ⟨zI 0, pre _ (ev_C_someComparesSo_8 ?_), b01_f (fun c => h12 c.1)⟩
    rw [if_neg (zI_ne ⟨by omega, by omega⟩ ⟨by omega, by omega⟩ (by omega)), if_neg (zI_ne ⟨by omega, by omega⟩ ⟨by omega, by omega⟩ (by omega))]
end COND2
