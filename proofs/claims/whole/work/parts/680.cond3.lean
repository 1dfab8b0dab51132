/-! THE CLASS's Condition: someHasSize, holds, suitsIndex -/
section COND3
variable {G : Nat × (Nat → Int32)} {d : Nat} {M : Mm_} {q cap a : Nat} {B : List Int} {N : List Nd} {P : List (List Int)} {f : Int} {Q : List Int}
theorem chs_l {L : List (Nat × Bool)} {w : Int} (h : dT M q cap B N) (hw : rg w) (hL : trl M L) (hl : L.length ≤ 80) (hLN : ∀ z ∈ L, z.1 < N.length) : ∀ (m k : Nat) (u5 : Option Value), k + m = L.length → ∃ x, EvC G (d + 1) m_C_someHasSize 26 [some (.ref a), some (.ref 42), some (.ref 51), some (.int (zI w)), some (.int (zI (k : Int))), u5] [] M (some (.int x), M) ∧ b01 (∃ i, k ≤ i ∧ i < L.length ∧ ((L.getD i (0, false)).2 = true ∧ rTy N (L.getD i (0, false)).1 = 4 ∧ ((kids N (L.getD i (0, false)).1).length : Int) = w)) x
  | 0, k, u5, hk => by
    refine ⟨zI 0, ev_C_someHasSize_26 ?_, b01_f (fun ⟨i, h1, h2, _⟩ => by omega)⟩
    rw [hL.1, if_neg (fun q => by rw [zI_lt ⟨by omega, by omega⟩ ⟨by omega, by omega⟩] at q; omega)]
    exact ⟨okF_W h.1.1 rfl, rfl⟩
  | m + 1, k, u5, hk => by
    have hW := h.1.1
    have hT := h.1.2.1
    have hkN := hLN _ (getD_mem (L := L) (i := k) (by omega))
    obtain ⟨i1, -, -, i4, -, i6, i7, i8, i9, i10, i11, i12⟩ := h.at hkN
    obtain ⟨x, e, wx⟩ := chs_l h hw hL hl hLN m (k + 1) (some (.int (zI (((L.getD k (0, false)).1 : Nat) : Int)))) (by omega)
    have hby : M.2.1 (51 + 3) k = zI (if (L.getD k (0, false)).2 = true then 1 else 0) := (hL.2 k (by omega)).2
    have next : ¬ ((L.getD k (0, false)).2 = true ∧ rTy N (L.getD k (0, false)).1 = 4 ∧ ((kids N (L.getD k (0, false)).1).length : Int) = w) → b01 (∃ i, k ≤ i ∧ i < L.length ∧ ((L.getD i (0, false)).2 = true ∧ rTy N (L.getD i (0, false)).1 = 4 ∧ ((kids N (L.getD i (0, false)).1).length : Int) = w)) x := fun c => by
      refine b01_iff wx ⟨fun ⟨i, h1, h2, h3⟩ => ⟨i, by omega, h2, h3⟩, fun ⟨i, h1, h2, h3⟩ => ⟨i, ?_, h2, h3⟩⟩
      rcases Nat.lt_or_ge k i with h4 | h4
      · omega
      · have : i = k := by omega
        subst this
        exact absurd h3 c
    have e1 : zI (k : Int) + zI 1 = zI ((k + 1 : Nat) : Int) := by rw [zI_add, show (k : Int) + 1 = ((k + 1 : Nat) : Int) by omega]
    by_cases cb : (L.getD k (0, false)).2 = true
    · by_cases ct : rTy N (L.getD k (0, false)).1 = 4
      · have kl : (kids N (L.getD k (0, false)).1).length ≤ 80 := by
          have := nodup_len N.length (kids N (L.getD k (0, false)).1) kids_nodup (fun z hz => (kids_lt hz).1)
          have := h.2.2.2.1
          omega
        have pre : ∀ v, EvC G (d + 1) m_C_someHasSize 71 [some (.ref a), some (.ref 42), some (.ref 51), some (.int (zI w)), some (.int (zI (k : Int))), some (.int (zI (((L.getD k (0, false)).1 : Nat) : Int)))] [.int (zI ((kids N (L.getD k (0, false)).1).length : Int))] M (some (.int v), M) → EvC G (d + 1) m_C_someHasSize 26 [some (.ref a), some (.ref 42), some (.ref 51), some (.int (zI w)), some (.int (zI (k : Int))), u5] [] M (some (.int v), M) := fun v hv => by
          refine ev_C_someHasSize_26 ?_
          rw [hL.1, if_pos ((zI_lt ⟨by omega, by omega⟩ ⟨by omega, by omega⟩).mpr (by omega)), zI_nat (by omega), hby, if_pos cb, zI_0, if_neg z10, trl_at hL (by omega), zI_nat (by omega), i1, if_pos (by rw [ct])]
          exact ⟨okF_W hW rfl, okF_W hW rfl, okA_z hW (show sg0[51 + 2]? = some (.inr (0, 80)) from rfl) (by omega) (by omega), okF_W hW rfl, okA_z hW (show sg0[51 + 3]? = some (.inr (1, 80)) from rfl) (by omega) (by omega), okF_W hW hT.1, okA_z hW (hT.2 1 (by omega) (by omega)) (by omega) (by omega), okO_W hW hT.1, _, _, e_T_itemTotal h hkN, hv⟩
        by_cases cw : ((kids N (L.getD k (0, false)).1).length : Int) = w
        · refine ⟨zI 1, pre _ (ev_C_someHasSize_71 ?_), b01_t ⟨k, Nat.le_refl _, by omega, cb, ct, cw⟩⟩
          rw [if_pos (by rw [cw])]
        · refine ⟨x, pre _ (ev_C_someHasSize_71 ?_), next (fun c => cw c.2.2)⟩
          rw [if_neg (zI_ne ⟨by omega, by omega⟩ hw cw), e1]
          exact e
      · refine ⟨x, ev_C_someHasSize_26 ?_, next (fun c => ct c.2.1)⟩
        rw [hL.1, if_pos ((zI_lt ⟨by omega, by omega⟩ ⟨by omega, by omega⟩).mpr (by omega)), zI_nat (by omega), hby, if_pos cb, zI_0, if_neg z10, trl_at hL (by omega), zI_nat (by omega), i1, if_neg (zI_ne ⟨by omega, by omega⟩ ⟨by omega, by omega⟩ ct), e1]
        exact ⟨okF_W hW rfl, okF_W hW rfl, okA_z hW (show sg0[51 + 2]? = some (.inr (0, 80)) from rfl) (by omega) (by omega), okF_W hW rfl, okA_z hW (show sg0[51 + 3]? = some (.inr (1, 80)) from rfl) (by omega) (by omega), okF_W hW hT.1, okA_z hW (hT.2 1 (by omega) (by omega)) (by omega) (by omega), e⟩
    · refine ⟨x, ev_C_someHasSize_26 ?_, next (fun c => cb c.1)⟩
      rw [hL.1, if_pos ((zI_lt ⟨by omega, by omega⟩ ⟨by omega, by omega⟩).mpr (by omega)), zI_nat (by omega), hby, if_neg cb, zI_0, if_pos rfl, trl_at hL (by omega), e1]
      exact ⟨okF_W hW rfl, okF_W hW rfl, okA_z hW (show sg0[51 + 2]? = some (.inr (0, 80)) from rfl) (by omega) (by omega), okF_W hW rfl, okA_z hW (show sg0[51 + 3]? = some (.inr (1, 80)) from rfl) (by omega) (by omega), e⟩
theorem e_C_someHasSize (h : dT M q cap B N) (hC : cnIs M a P f Q) (hL : trl M (follN N (pks P))) : ∃ x, Ev G (d + 2) 64 [.ref a, .ref 42, .ref 51] M (some (.int x), M) ∧ b01 (hSize N P Q) x := by
  obtain ⟨c1, c2, c3, c4, c5, c6, c7⟩ := hC
  have hW := h.1.1
  have hA := h.2.2
  have hl := hA.2.1
  have hB := h.1.2.2.2.2.2
  have fl := foll_len (N := N) (p := pks P)
  have hp : 0 < (pks P).length := by rw [pks_len]; exact c7
  have q1 := c6.2.1
  have q2 := c6.2.2.1
  have pre : ∀ y, EvC G (d + 2) m_C_someHasSize 8 [some (.ref a), some (.ref 42), some (.ref 51), none, none, none] [.int (zI (by_ Q 0))] M (some (.int y), M) → Ev G (d + 2) 64 [.ref a, .ref 42, .ref 51] M (some (.int y), M) := fun y hy => by
    refine ev_of (q := mt_C_someHasSize) rfl (ev_C_someHasSize_0 ?_)
    exact ⟨okF_W hW c1, okO_W hW c3.1, _, _, e_R_cell' (p := 0) hW c3 (by omega), hy⟩
  by_cases e1 : by_ Q 0 = 1
  · have l1 := okQ_1 c6 e1
    have sr := sgn_rg c3.okB (p := 1) (by omega)
    obtain ⟨x, e, w⟩ := chs_l (G := G) (d := d + 1) (a := a) (w := sgn Q 1) h ⟨by omega, by omega⟩ hL (by omega) (fun z hz => foll_lt hz) _ 0 none (Nat.zero_add _)
    refine ⟨x, pre _ (ev_C_someHasSize_8 ?_), b01_iff w ?_⟩
    · rw [if_pos (by rw [e1])]
      exact ⟨okF_W hW c1, okO_W hW c3.1, _, _, e_R_signedNumber (p := 1) hW c3 (by omega), ev_C_someHasSize_22 e⟩
    · rw [ex_idx (L := follN N (pks P)) (p := fun z => z.2 = true ∧ rTy N z.1 = 4 ∧ ((kids N z.1).length : Int) = sgn Q 1)]
      constructor
      · rintro ⟨z, hz, h2, h3⟩
        refine ⟨e1, z.1, (foll_true hA hp z.1).mp ?_, h3⟩
        rw [← h2]
        exact hz
      · rintro ⟨-, k, hk, h3⟩
        exact ⟨(k, true), (foll_true hA hp k).mpr hk, rfl, h3⟩
  · refine ⟨zI 0, pre _ (ev_C_someHasSize_8 ?_), b01_f (fun c => e1 c.1)⟩
    rw [if_neg (zI_ne ⟨by omega, by omega⟩ ⟨by omega, by omega⟩ e1)]
theorem cnIs.kept {M' : Mm_} (h : cnIs M a P f Q) (F : Fp pTr M M') (ha : 54 < a) : cnIs M' a P f Q := by
  obtain ⟨c1, c2, ⟨r1, r2, r3, r4, r5, r6⟩, c4, c5, c6, c7⟩ := h
  have g : ∀ b j, 54 < b → M'.2.1 b j = M.2.1 b j := fun b j hb => F.2.2 b j (by unfold pTr; omega)
  exact ⟨c1, c2.keptp F (fun j => by unfold pTr; omega) (fun j => by unfold pTr; omega), ⟨r1, r2, r3, by rw [g _ _ (by omega)]; exact r4, fun i hi => by rw [g _ _ (by omega)]; exact r5 i hi, r6⟩, by rw [g _ _ ha]; exact c4, c5, c6, c7⟩
theorem e_C_holds (hq : q + 1 < 51 ∨ 54 < q) (ha : 54 < a) (h : dT M q cap B N) (hC : cnIs M a P f Q) : ∃ M' x, Ev G (d + 4) 60 [.ref a, .ref 42, .ref 51] M (some (.int x), M') ∧ b01 (hHolds B N P f Q) x ∧ Fp pTr M M' := by
  obtain ⟨M1, e1, l1, f1⟩ := e_L_follow (G := G) (d := d + 1) hq (Or.inr (show 54 < a + 1 by omega)) h hC.2.1
  have h1 := h.kept f1 hq
  have hC1 := hC.kept f1 ha
  have hC1' := hC1
  obtain ⟨c1, c2, c3, c4, c5, c6, c7⟩ := hC1
  have hW := h1.1.1
  have hA := h1.2.2
  have hl := hA.2.1
  have hB := h1.1.2.2.2.2.2
  have fl := foll_len (N := N) (p := pks P)
  have hp : 0 < (pks P).length := by rw [pks_len]; exact c7
  have rf : rg f := ⟨by omega, by omega⟩
  have pre : ∀ y, EvC G (d + 4) m_C_holds 9 [some (.ref a), some (.ref 42), some (.ref 51)] [] M1 (some (.int y), M1) → Ev G (d + 4) 60 [.ref a, .ref 42, .ref 51] M (some (.int y), M1) := fun y hy =>
    ev_of (q := mt_C_holds) rfl (ev_C_holds_0 ⟨okF_W h.1.1 c1, okO_W h.1.1 rfl, _, e1, hy⟩)
  have ne : ∀ g : Int, g ≠ f → rg g → ¬ zI f = zI g := fun g hg rgg => zI_ne rf rgg (fun e => hg e.symm)
  unfold hHolds
  by_cases f0 : f = 0
  · rw [if_pos f0]
    obtain ⟨x, e, w⟩ := e_C_someIsEqual (G := G) (d := d) h1 hC1' l1
    refine ⟨M1, x, pre _ (ev_C_holds_9 ?_), w, f1⟩
    rw [c4, if_pos (by rw [f0])]
    exact ⟨okF_W hW c1, okO_W hW c1, _, _, e, ev_C_holds_66 ⟨b01_bit w, rfl⟩⟩
  · rw [if_neg f0]
    by_cases g1 : f = 1
    · rw [if_pos g1]
      obtain ⟨x, e, w⟩ := e_C_someIsEqual (G := G) (d := d) h1 hC1' l1
      have pre1 : ∀ y, EvC G (d + 4) m_C_holds 73 [some (.ref a), some (.ref 42), some (.ref 51)] [.int x] M1 (some (.int y), M1) → Ev G (d + 4) 60 [.ref a, .ref 42, .ref 51] M (some (.int y), M1) := fun y hy => by
        refine pre _ (ev_C_holds_9 ?_)
        rw [c4, if_neg (ne 0 (by omega) ⟨by omega, by omega⟩), if_pos (by rw [g1])]
        exact ⟨okF_W hW c1, okO_W hW c1, _, _, e, hy⟩
      rcases w with ⟨w1, w2⟩ | ⟨w1, w2⟩
      · refine ⟨M1, zI 0, pre1 _ (ev_C_holds_73 ?_), b01_f (fun c => c w1), f1⟩
        rw [w2, zI_0, if_neg z10]
      · refine ⟨M1, zI 1, pre1 _ (ev_C_holds_73 ?_), b01_t w1, f1⟩
        rw [w2, zI_0, if_pos rfl]
    · rw [if_neg g1]
      by_cases g6 : f = 6
      · rw [if_pos g6]
        have fn : (follN N (pks P)).length = 0 ↔ comeN N (pks P) = [] := by rw [List.length_eq_zero_iff, foll_nil hA hp, gath_nil]
        have q1 := c6.2.1
        have q2 := c6.2.2.1
        have b1 : -1 ≤ by_ Q 1 ∧ by_ Q 1 ≤ 255 := by
          rcases bO c3.okB 1 with ⟨_, b⟩ | ⟨_, b⟩ <;> omega
        -- whether there is none, as a number
        have key : ∀ v : Int, ((follN N (pks P)).length = 0 ∧ v = 1) ∨ (¬ (follN N (pks P)).length = 0 ∧ v = 0) → ∃ x, EvC G (d + 4) m_C_holds 102 [some (.ref a), some (.ref 42), some (.ref 51)] [.int (zI (by_ Q 0)), .int (zI v)] M1 (some (.int x), M1) ∧ b01 (hThere N P Q) x := fun v hv => by
          have ec := e_R_cell' (G := G) (d := d + 3) (p := 1) hW c3 (by omega)
          unfold hThere
          rw [← fn]
          by_cases q5 : by_ Q 0 = 5
          · have pre5 : ∀ y, EvC G (d + 4) m_C_holds 114 [some (.ref a), some (.ref 42), some (.ref 51)] [.int (zI (by_ Q 1)), .int (zI v)] M1 (some (.int y), M1) → EvC G (d + 4) m_C_holds 102 [some (.ref a), some (.ref 42), some (.ref 51)] [.int (zI (by_ Q 0)), .int (zI v)] M1 (some (.int y), M1) := fun y hy => by
              refine ev_C_holds_102 ?_
              rw [if_pos (by rw [q5])]
              exact ⟨okF_W hW c1, okO_W hW c3.1, _, _, ec, hy⟩
            by_cases b0 : by_ Q 1 = 0
            · rcases hv with ⟨h1, h2⟩ | ⟨h1, h2⟩
              · refine ⟨zI 1, pre5 _ (ev_C_holds_114 ?_), b01_t ⟨fun _ => ⟨q5, b0⟩, fun _ => h1⟩⟩
                rw [b0, zI_0, if_pos rfl, h2, if_pos rfl]
              · refine ⟨zI 0, pre5 _ (ev_C_holds_114 ?_), b01_f (fun c => h1 (c.mpr ⟨q5, b0⟩))⟩
                rw [b0, zI_0, if_pos rfl, h2, if_neg (by decide +kernel)]
            · rcases hv with ⟨h1, h2⟩ | ⟨h1, h2⟩
              · refine ⟨zI 0, pre5 _ (ev_C_holds_114 ?_), b01_f (fun c => b0 (c.mp h1).2)⟩
                rw [zI_0, if_neg (zI_ne ⟨by omega, by omega⟩ ⟨by omega, by omega⟩ b0), h2, if_neg z10]
              · refine ⟨zI 1, pre5 _ (ev_C_holds_114 ?_), b01_t ⟨fun c => absurd c h1, fun c => absurd c.2 b0⟩⟩
                rw [zI_0, if_neg (zI_ne ⟨by omega, by omega⟩ ⟨by omega, by omega⟩ b0), h2, if_pos rfl]
          · rcases hv with ⟨h1, h2⟩ | ⟨h1, h2⟩
            · refine ⟨zI 0, ev_C_holds_102 ?_, b01_f (fun c => q5 (c.mp h1).1)⟩
              rw [if_neg (zI_ne ⟨by omega, by omega⟩ ⟨by omega, by omega⟩ q5), h2, if_neg z10]
            · refine ⟨zI 1, ev_C_holds_102 ?_, b01_t ⟨fun c => absurd c h1, fun c => absurd c.1 q5⟩⟩
              rw [if_neg (zI_ne ⟨by omega, by omega⟩ ⟨by omega, by omega⟩ q5), h2, if_pos rfl]
        have ec0 := e_R_cell' (G := G) (d := d + 3) (p := 0) hW c3 (by omega)
        by_cases c0 : (follN N (pks P)).length = 0
        · obtain ⟨x, e, w⟩ := key 1 (Or.inl ⟨c0, rfl⟩)
          refine ⟨M1, x, pre _ (ev_C_holds_9 ?_), w, f1⟩
          rw [c4, if_neg (ne 0 (by omega) ⟨by omega, by omega⟩), if_neg (ne 1 (by omega) ⟨by omega, by omega⟩), if_neg (ne 2 (by omega) ⟨by omega, by omega⟩), if_neg (ne 3 (by omega) ⟨by omega, by omega⟩), if_neg (ne 4 (by omega) ⟨by omega, by omega⟩), if_neg (ne 5 (by omega) ⟨by omega, by omega⟩), if_pos (by rw [g6]), l1.1, c0, zI_0, if_pos (show zI ((0 : Nat) : Int) = zI 0 from rfl)]
          exact ⟨okF_W hW c1, okF_W hW rfl, okF_W hW c1, okO_W hW c3.1, _, _, ec0, e⟩
        · obtain ⟨x, e, w⟩ := key 0 (Or.inr ⟨c0, rfl⟩)
          refine ⟨M1, x, pre _ (ev_C_holds_9 ?_), w, f1⟩
          rw [c4, if_neg (ne 0 (by omega) ⟨by omega, by omega⟩), if_neg (ne 1 (by omega) ⟨by omega, by omega⟩), if_neg (ne 2 (by omega) ⟨by omega, by omega⟩), if_neg (ne 3 (by omega) ⟨by omega, by omega⟩), if_neg (ne 4 (by omega) ⟨by omega, by omega⟩), if_neg (ne 5 (by omega) ⟨by omega, by omega⟩), if_pos (by rw [g6]), l1.1, zI_0, if_neg (zI_ne ⟨by omega, by omega⟩ ⟨by omega, by omega⟩ (by omega))]
          exact ⟨okF_W hW c1, okF_W hW rfl, okF_W hW c1, okO_W hW c3.1, _, _, ec0, e⟩
      · rw [if_neg g6]
        by_cases g7 : f = 7
        · rw [if_pos g7]
          obtain ⟨x, e, w⟩ := e_C_someHasSize (G := G) (d := d + 1) h1 hC1' l1
          refine ⟨M1, x, pre _ (ev_C_holds_9 ?_), w, f1⟩
          rw [c4, if_neg (ne 0 (by omega) ⟨by omega, by omega⟩), if_neg (ne 1 (by omega) ⟨by omega, by omega⟩), if_neg (ne 2 (by omega) ⟨by omega, by omega⟩), if_neg (ne 3 (by omega) ⟨by omega, by omega⟩), if_neg (ne 4 (by omega) ⟨by omega, by omega⟩), if_neg (ne 5 (by omega) ⟨by omega, by omega⟩), if_neg (ne 6 (by omega) ⟨by omega, by omega⟩), if_pos (by rw [g7])]
          exact ⟨okF_W hW c1, okO_W hW c1, _, _, e, ev_C_holds_137 ⟨b01_bit w, rfl⟩⟩
        · rw [if_neg g7]
          obtain ⟨x, e, w⟩ := e_C_someComparesSo (G := G) (d := d) h1 hC1' l1
          refine ⟨M1, x, pre _ (ev_C_holds_9 ?_), w, f1⟩
          have fin : (am_okO M1 a 1) = true ∧ (∃ x' M', Ev G (d + 3) 66 [.ref a, .ref 42, .ref 51] M1 (some (.int x'), M') ∧ EvC G (d + 3 + 1) m_C_holds 144 [some (.ref a), some (.ref 42), some (.ref 51)] (.int x' :: []) M' (some (.int x), M1)) := ⟨okO_W hW c1, _, _, e, ev_C_holds_144 ⟨b01_bit w, rfl⟩⟩
          rw [c4, if_neg (ne 0 (by omega) ⟨by omega, by omega⟩), if_neg (ne 1 (by omega) ⟨by omega, by omega⟩), if_neg (ne 6 (by omega) ⟨by omega, by omega⟩), if_neg (ne 7 (by omega) ⟨by omega, by omega⟩)]
          refine ⟨okF_W hW c1, ?_⟩
          split
          · exact fin
          · split
            · exact fin
            · split
              · exact fin
              · split <;> exact fin
end COND3
