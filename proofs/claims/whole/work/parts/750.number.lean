/-! A DOCUMENT'S NUMBER: the class's documentNumber, the reference's numberAt -/
theorem NmAt_u {B : List Int} {p q q' : Nat} {x x' : Int} (h : NmAt B p x q) (h' : NmAt B p x' q') : q = q' ∧ x = x' := by
  obtain ⟨n, -, -, a3, a4, a5, -⟩ := NmAt_end h
  obtain ⟨n', -, -, b3, b4, b5, -⟩ := NmAt_end h'
  have e : n = n' := by
    rcases Nat.lt_trichotomy n n' with c | c | c
    · have := b3 n c; omega
    · exact c
    · have := a3 n' c; omega
  refine ⟨by omega, ?_⟩
  exact (nm_same h h' b5).mp (fun _ _ => rfl)
def dNum (B : List Int) (N : List Nd) : Int := if 2 ≤ N.length ∧ rNm N 1 = 26980 ∧ rTy N 1 = 1 ∧ 0 ≤ sgn B (rPl N 1) ∧ sgn B (rPl N 1) ≤ 999 then sgn B (rPl N 1) else -1
theorem dNum_rg {B : List Int} {N : List Nd} : dNum B N = -1 ∨ (0 ≤ dNum B N ∧ dNum B N ≤ 999) := by
  unfold dNum
  split
  · next h => exact Or.inr h.2.2.2
  · exact Or.inl rfl
section NUM1
variable {B : List Int} {N : List Nd}
theorem kid_1 (hA : Acc B 3 0 N) (h2 : 2 ≤ N.length) : rPa N 1 = 0 ∧ ∃ rest, kids N 0 = 1 :: rest := by
  have hr := hA.1.2.1
  have h0 : rPa N 0 = -1 := by unfold rPa; rw [hr]
  have hp := hA.1.2.2 1 (by omega) (by omega)
  have h1 : rPa N 1 = 0 := by
    have e : rPa N 1 = (((rPa N 1).toNat : Nat) : Int) := by omega
    have := hold_lt hA.2.2.1 (show 1 < N.length by omega) e
    omega
  refine ⟨h1, ?_⟩
  obtain ⟨n, hn⟩ : ∃ n, N.length = n + 2 := ⟨N.length - 2, by omega⟩
  unfold kids
  rw [hn, List.range_succ_eq_map, List.range_succ_eq_map, List.map_cons, List.filter_cons_of_neg (by rw [h0]; decide), List.filter_cons_of_pos (by rw [show Nat.succ 0 = 1 from rfl, h1]; decide)]
  exact ⟨_, rfl⟩
theorem root_0 (hA : Acc B 3 0 N) : rTy N 0 = 3 ∧ rPl N 0 = 0 ∧ Chn B N (kids N 0) 1 (rEn B N 0 - 1) := by
  have hr := hA.1.2.1
  have e1 : rTy N 0 = 3 := by unfold rTy; rw [hr]
  have e2 : rPl N 0 = 0 := by unfold rPl; rw [hr]
  have := ((hA.2.2.2.1 0 hA.1.1 (by simp)).2 (Or.inl e1)).1
  rw [e2] at this
  exact ⟨e1, e2, this⟩
theorem first_kid (hA : Acc B 3 0 N) (hE : rEn B N 0 = B.length) (h2 : 2 ≤ N.length) : NmAt B 2 (rNm N 1) (rPl N 1) ∧ by_ B 1 = rTy N 1 ∧ rEn B N 1 + 1 ≤ B.length := by
  obtain ⟨h1, rest, hk⟩ := kid_1 hA h2
  obtain ⟨r1, r2, r3⟩ := root_0 hA
  rw [hk] at r3
  obtain ⟨s1, s2⟩ := r3
  have hN := hA.2.2.1 1 (by omega)
  obtain ⟨e1, e2, e3, e4, e5⟩ := rSt_rEn hN (c := 0) h1 r1
  rw [s1] at e3 e4
  have hle := Chn_le r1 rest _ _ (fun k hk' => by
    have := kids_lt (show k ∈ kids N 0 by rw [hk]; exact List.mem_cons_of_mem _ hk')
    exact ⟨hA.2.2.1 k this.1, this.2⟩) s2
  have w := (hA.2.2.2.1 0 hA.1.1 (by simp)).2 (Or.inl r1)
  exact ⟨e4, e3, by omega⟩
theorem num_is (hA : Acc B 3 0 N) (hE : rEn B N 0 = B.length) (hL : by_ B 0 = (B.length : Int)) : (8 ≤ by_ B 0 ∧ by_ B 1 = 1 ∧ by_ B 2 = 105 ∧ by_ B 3 = 100 ∧ by_ B 4 = 0) ↔ (2 ≤ N.length ∧ rNm N 1 = 26980 ∧ rTy N 1 = 1) := by
  constructor
  · rintro ⟨b0, b1, b2, b3, b4⟩
    have h2 : 2 ≤ N.length := by
      rcases Nat.lt_or_ge N.length 2 with c | c
      · have hr := hA.1.2.1
        have h0 : rPa N 0 = -1 := by unfold rPa; rw [hr]
        have hk : kids N 0 = [] := kids_none (fun k hk => by
          have : k = 0 := by omega
          rw [this, h0]
          decide)
        obtain ⟨-, -, r3⟩ := root_0 hA
        rw [hk] at r3
        have r3 : 1 = rEn B N 0 - 1 := r3
        omega
      · exact c
    obtain ⟨w1, w2, w3⟩ := first_kid hA hE h2
    have hn : NmAt B 2 26980 5 := ⟨[105, 100], by decide, by decide, by decide, fun i hi => by
      have : i = 0 ∨ i = 1 := by simp at hi; omega
      rcases this with rfl | rfl
      · exact b2
      · exact b3, b4, rfl, by decide⟩
    exact ⟨h2, (NmAt_u w1 hn).2, by rw [← w2]; exact b1⟩
  · rintro ⟨h2, hn, ht⟩
    obtain ⟨w1, w2, w3⟩ := first_kid hA hE h2
    rw [hn] at w1
    obtain ⟨ls, a1, a2, a3, a4, a5, a6, a7⟩ := w1
    have e : ls = [105, 100] := pk_inj a3 (by decide) (a7.symm.trans (by decide))
    subst e
    have b2 := a4 0 (by decide)
    have b3 := a4 1 (by decide)
    have hpl : rPl N 1 = 5 := a6
    have hen : rEn B N 1 = 7 := by unfold rEn bh; rw [if_pos ht, hpl]
    exact ⟨by omega, by rw [w2]; exact ht, b2, b3, a5⟩
theorem num_pl (hA : Acc B 3 0 N) (hE : rEn B N 0 = B.length) (h : 2 ≤ N.length ∧ rNm N 1 = 26980 ∧ rTy N 1 = 1) : rPl N 1 = 5 ∧ 8 ≤ B.length := by
  obtain ⟨h2, hn, ht⟩ := h
  obtain ⟨w1, w2, w3⟩ := first_kid hA hE h2
  rw [hn] at w1
  obtain ⟨ls, a1, a2, a3, a4, a5, a6, a7⟩ := w1
  have e : ls = [105, 100] := pk_inj a3 (by decide) (a7.symm.trans (by decide))
  subst e
  have hpl : rPl N 1 = 5 := a6
  have hen : rEn B N 1 = 7 := by unfold rEn bh; rw [if_pos ht, hpl]
  exact ⟨hpl, by omega⟩
end NUM1
section NUM2
variable {G : Nat × (Nat → Int32)} {d : Nat} {M : Mm_} {q cap o : Nat} {B : List Int} {N : List Nd}
theorem nm1_rg (hA : Acc B 3 0 N) (h2 : 2 ≤ N.length) : rg (rNm N 1) := by
  obtain ⟨h1, -⟩ := kid_1 hA h2
  have r1 := (root_0 hA).1
  obtain ⟨-, -, -, e4, -⟩ := rSt_rEn (hA.2.2.1 1 (by omega)) (c := 0) h1 r1
  obtain ⟨ls, a1, a2, a3, a4, a5, a6, a7⟩ := e4
  have := pk_rg (ls := ls) ⟨a1, a2, a3⟩
  rw [a7]
  exact ⟨by omega, by omega⟩
theorem e_T_documentNumber (h : dT M q cap B N) (hE : rEn B N 0 = B.length) : Ev G (d + 2) 31 [.ref 42] M (some (.int (zI (dNum B N))), M) := by
  have hW := h.1.1
  have hA := h.2.2
  have hl := hA.2.1
  have hB := h.1.2.2.2.2.2
  have hR := h.1.2.2.2.1
  have h6 : M.2.1 42 6 = zI (N.length : Int) := h.2.1.1.2.1
  refine ev_of (q := mt_T_documentNumber) rfl (ev_T_documentNumber_0 ?_)
  have e1 : (zI 1).toNatClampNeg = 1 := by decide +kernel
  rw [h6, e1]
  refine ⟨okF_W hW rfl, ?_⟩
  unfold dNum
  by_cases c2 : 2 ≤ N.length
  · rw [if_neg (fun q => by rw [zI_lt ⟨by omega, by omega⟩ ⟨by omega, by omega⟩] at q; omega)]
    obtain ⟨i1, i2, -, i4, -, -, -, -, i9, i10, i11, i12⟩ := h.at (show 1 < N.length by omega)
    rw [i1, i2, i4]
    refine ⟨okF_W hW rfl, okA_W hW (show sg0[42 + 2]? = some (.inr (0, 80)) from rfl) (zI_in (by omega) (by omega) (by omega)), ?_⟩
    by_cases cn : rNm N 1 = 26980
    · rw [if_pos (show zI (rNm N 1) = zI 26980 by rw [cn])]
      refine ⟨okF_W hW rfl, okA_W hW (show sg0[42 + 1]? = some (.inr (0, 80)) from rfl) (zI_in (by omega) (by omega) (by omega)), ?_⟩
      by_cases ct : rTy N 1 = 1
      · rw [if_pos (show zI (rTy N 1) = zI 1 by rw [ct]), h.1.2.2.1, Option.getD_some]
        obtain ⟨hp, h8⟩ := num_pl hA hE ⟨c2, cn, ct⟩
        have sr := sgn_rg hR.okB (p := rPl N 1) (by omega)
        refine ⟨okF_W hW rfl, rfl, okF_W hW rfl, okA_W hW (show sg0[42 + 4]? = some (.inr (0, 80)) from rfl) (zI_in (by omega) (by omega) (by omega)), okO_W hW hR.1, _, _, e_R_signedNumber hW hR (by omega), ev_T_documentNumber_45 ?_⟩
        rw [zI_0]
        by_cases s0 : sgn B (rPl N 1) < 0
        · rw [if_pos ((zI_lt ⟨by omega, by omega⟩ ⟨by omega, by omega⟩).mpr s0), if_neg (show ¬ (2 ≤ N.length ∧ rNm N 1 = 26980 ∧ rTy N 1 = 1 ∧ 0 ≤ sgn B (rPl N 1) ∧ sgn B (rPl N 1) ≤ 999) by omega)]
        · rw [if_neg (fun q => s0 ((zI_lt ⟨by omega, by omega⟩ ⟨by omega, by omega⟩).mp q))]
          by_cases s9 : 999 < sgn B (rPl N 1)
          · rw [if_pos ((zI_lt ⟨by omega, by omega⟩ ⟨by omega, by omega⟩).mpr s9), if_neg (show ¬ (2 ≤ N.length ∧ rNm N 1 = 26980 ∧ rTy N 1 = 1 ∧ 0 ≤ sgn B (rPl N 1) ∧ sgn B (rPl N 1) ≤ 999) by omega)]
          · rw [if_neg (fun q => s9 ((zI_lt ⟨by omega, by omega⟩ ⟨by omega, by omega⟩).mp q)), if_pos (show 2 ≤ N.length ∧ rNm N 1 = 26980 ∧ rTy N 1 = 1 ∧ 0 ≤ sgn B (rPl N 1) ∧ sgn B (rPl N 1) ≤ 999 by omega)]
      · rw [if_neg (zI_ne ⟨by omega, by omega⟩ ⟨by omega, by omega⟩ ct), if_neg (show ¬ (2 ≤ N.length ∧ rNm N 1 = 26980 ∧ rTy N 1 = 1 ∧ 0 ≤ sgn B (rPl N 1) ∧ sgn B (rPl N 1) ≤ 999) from fun q => ct q.2.2.1)]
    · rw [if_neg (zI_ne (nm1_rg hA c2) ⟨by omega, by omega⟩ cn), if_neg (show ¬ (2 ≤ N.length ∧ rNm N 1 = 26980 ∧ rTy N 1 = 1 ∧ 0 ≤ sgn B (rPl N 1) ∧ sgn B (rPl N 1) ≤ 999) from fun q => cn q.2.1)]
  · rw [if_pos ((zI_lt ⟨by omega, by omega⟩ ⟨by omega, by omega⟩).mpr (by omega)), if_neg (show ¬ (2 ≤ N.length ∧ rNm N 1 = 26980 ∧ rTy N 1 = 1 ∧ 0 ≤ sgn B (rPl N 1) ∧ sgn B (rPl N 1) ≤ 999) from fun q => c2 q.1)]
theorem e_M_numberAt (h : mIn M o B) (hA : Acc B 3 0 N) (hE : rEn B N 0 = B.length) (hL : by_ B 0 = (B.length : Int)) (h2 : 2 ≤ B.length) : Ev G (d + 1) 104 [.ref 91, .int (zI (o : Int))] M (some (.int (zI (dNum B N))), M) := by
  have hq := h.2.2.2
  have key := num_is hA hE hL
  have at_ : ∀ i : Nat, zI (o : Int) + zI (i : Int) = zI ((o : Int) + (i : Int)) := fun i => zI_add _ _
  have no : ¬ (2 ≤ N.length ∧ rNm N 1 = 26980 ∧ rTy N 1 = 1) → EvC G (d + 1) m_M_numberAt 64 [some (.ref 91), some (.int (zI (o : Int))), none, none] [] M (some (.int (zI (dNum B N))), M) := fun hn => by
    have e : dNum B N = -1 := by unfold dNum; rw [if_neg (fun q => hn ⟨q.1, q.2.1, q.2.2.1⟩)]
    rw [e]
    refine ev_M_numberAt_64 (ev_M_numberAt_65 ?_)
    rw [zI_0, if_pos rfl]
    refine ⟨_, _, e_M_in_f ⟨by omega, by omega⟩ ⟨by omega, by omega⟩ ⟨by omega, by omega⟩ (by omega), ev_M_numberAt_90 ?_⟩
    rw [zI_0, if_pos rfl]
  refine ev_of (q := mt_M_numberAt) rfl (ev_M_numberAt_0 ?_)
  have i0 := mI h (i := 0) (by omega)
  have o0 := mOk h (i := 0) (by omega)
  rw [← zI_o0] at i0 o0
  rw [i0]
  refine ⟨okF_W h.1 rfl, o0, ?_⟩
  have b0 := h.2.1 0 (by omega)
  by_cases c0 : by_ B 0 < 8
  · rw [if_pos ((zI_lt ⟨by omega, by omega⟩ ⟨by omega, by omega⟩).mpr c0)]
    exact no (fun q => by have := (key.mpr q).1; omega)
  · rw [if_neg (fun q => c0 ((zI_lt ⟨by omega, by omega⟩ ⟨by omega, by omega⟩).mp q)), show zI (o : Int) + zI 1 = zI ((o : Int) + ((1 : Nat) : Int)) from at_ 1, show zI (o : Int) + zI 2 = zI ((o : Int) + ((2 : Nat) : Int)) from at_ 2, show zI (o : Int) + zI 3 = zI ((o : Int) + ((3 : Nat) : Int)) from at_ 3, show zI (o : Int) + zI 4 = zI ((o : Int) + ((4 : Nat) : Int)) from at_ 4, mI h (i := 1) (by omega), mI h (i := 2) (by omega), mI h (i := 3) (by omega), mI h (i := 4) (by omega), zI_0]
    have b1 := h.2.1 1 (by omega)
    have b2 := h.2.1 2 (by omega)
    have b3 := h.2.1 3 (by omega)
    have b4 := h.2.1 4 (by omega)
    refine ⟨okF_W h.1 rfl, mOk h (i := 1) (by omega), ?_⟩
    by_cases c1 : by_ B 1 = 1
    · rw [if_pos (show zI (by_ B 1) = zI 1 by rw [c1])]
      refine ⟨okF_W h.1 rfl, mOk h (i := 2) (by omega), ?_⟩
      by_cases c2 : by_ B 2 = 105
      · rw [if_pos (show zI (by_ B 2) = zI 105 by rw [c2])]
        refine ⟨okF_W h.1 rfl, mOk h (i := 3) (by omega), ?_⟩
        by_cases c3 : by_ B 3 = 100
        · rw [if_pos (show zI (by_ B 3) = zI 100 by rw [c3])]
          refine ⟨okF_W h.1 rfl, mOk h (i := 4) (by omega), ?_⟩
          by_cases c4 : by_ B 4 = 0
          · rw [if_pos (show zI (by_ B 4) = zI 0 by rw [c4])]
            have hh := key.mp ⟨by omega, c1, c2, c3, c4⟩
            obtain ⟨hp, h8⟩ := num_pl hA hE hh
            have sr := sgn_rg h.2.1 (p := 5) (by omega)
            refine ev_M_numberAt_65 ?_
            rw [zI_0, if_neg z10, show zI (o : Int) + zI 5 = zI ((o : Int) + ((5 : Nat) : Int)) from at_ 5]
            refine ⟨okO_W h.1 rfl, _, _, e_M_value h (by omega), ev_M_numberAt_77 ?_⟩
            unfold dNum
            rw [hp]
            by_cases s : 0 ≤ sgn B 5 ∧ sgn B 5 ≤ 999
            · rw [if_pos (show 2 ≤ N.length ∧ rNm N 1 = 26980 ∧ rTy N 1 = 1 ∧ 0 ≤ sgn B 5 ∧ sgn B 5 ≤ 999 from ⟨hh.1, hh.2.1, hh.2.2, s⟩)]
              refine ⟨_, _, e_M_in_t ⟨by omega, by omega⟩ ⟨by omega, by omega⟩ ⟨by omega, by omega⟩ s, ev_M_numberAt_90 ?_⟩
              rw [zI_0, if_neg z10]
            · rw [if_neg (show ¬ (2 ≤ N.length ∧ rNm N 1 = 26980 ∧ rTy N 1 = 1 ∧ 0 ≤ sgn B 5 ∧ sgn B 5 ≤ 999) from fun q => s q.2.2.2)]
              refine ⟨_, _, e_M_in_f ⟨by omega, by omega⟩ ⟨by omega, by omega⟩ ⟨by omega, by omega⟩ s, ev_M_numberAt_90 ?_⟩
              rw [zI_0, if_pos rfl]
          · rw [if_neg (zI_ne ⟨by omega, by omega⟩ ⟨by omega, by omega⟩ c4)]
            exact no (fun q => c4 (key.mpr q).2.2.2.2)
        · rw [if_neg (zI_ne ⟨by omega, by omega⟩ ⟨by omega, by omega⟩ c3)]
          exact no (fun q => c3 (key.mpr q).2.2.2.1)
      · rw [if_neg (zI_ne ⟨by omega, by omega⟩ ⟨by omega, by omega⟩ c2)]
        exact no (fun q => c2 (key.mpr q).2.2.1)
    · rw [if_neg (zI_ne ⟨by omega, by omega⟩ ⟨by omega, by omega⟩ c1)]
      exact no (fun q => c1 (key.mpr q).2.1)
end NUM2
