/-! THE REFERENCE's reader: read, the loop -/
theorem rdO_cons {B : List Int} {f z c : Nat} {N : List Nd} {r : List Nat} : rdO B (f + 1) (z, N, c :: r) = match rdS B (z, N, c :: r) with
    | .inl e => .inl e
    | .inr P' => rdO B f P' := rfl
theorem rdP_cons {B : List Int} {z c : Nat} {N : List Nd} {r : List Nat} : rdP B (z, N, c :: r) = if (by_ B z = 3 ∨ by_ B z = 4) ∧ 4 ≤ r.length + 1 then .inl z
    else if 1 ≤ by_ B z ∧ by_ B z ≤ 6 then (if rTy N c = 3 then (match rdN B N (c : Int) (z + 1) with
      | .inl f => .inl f
      | .inr (x, q) => rdV B (z, N, c :: r) (by_ B z) x z q) else rdV B (z, N, c :: r) (by_ B z) 0 z (z + 1)) else .inl z := by
  unfold rdP rdH
  dsimp only [List.length_cons]
  by_cases c1 : (by_ B z = 3 ∨ by_ B z = 4) ∧ 4 ≤ r.length + 1
  · rw [if_pos c1, if_pos c1]
  · rw [if_neg c1, if_neg c1]
    by_cases c2 : 1 ≤ by_ B z ∧ by_ B z ≤ 6
    · rw [if_pos c2, if_pos c2]
      by_cases c3 : rTy N c = 3
      · rw [if_pos c3, if_pos c3]
        cases rdN B N (c : Int) (z + 1) with
        | inl g => rfl
        | inr v => rfl
      · rw [if_neg c3, if_neg c3]
    · rw [if_neg c2, if_neg c2]
theorem rdN_fl {B : List Int} {N : List Nd} {w : Int} {p g : Nat} (hp : p ≤ B.length) (h : rdN B N w p = .inl g) : g ≤ B.length + 4 := by
  have key : ∀ (r : Nat) (f : Bool) (x : Int) (p g : Nat), p ≤ B.length → lt2 B r f x p = .inl g → g ≤ B.length := by
    intro r
    induction r with
    | zero =>
      intro f x p g hp h
      unfold lt2 at h
      split at h
      · cases h
      · have := Sum.inl.inj h
        omega
    | succ r ih =>
      intro f x p g hp h
      unfold lt2 at h
      split at h
      · cases h
      · split at h
        · next c =>
          have := by_lt (B := B) (p := p) (by omega)
          exact ih _ _ _ _ (by omega) h
        · have := Sum.inl.inj h
          omega
  rw [rdN_lt2] at h
  cases e : lt2 B 4 true 0 p with
  | inl f =>
    rw [e] at h
    have := key _ _ _ _ _ hp e
    have := Sum.inl.inj h
    omega
  | inr v =>
    rw [e] at h
    dsimp only at h
    split at h
    · have := Sum.inl.inj h
      omega
    · cases h
section MDOC2
variable {G : Nat × (Nat → Int32)} {d o : Nat} {B : List Int}
theorem hd_loop {x1 x2 : Int32} : ∀ (f : Nat) (P : Rs) (M : Mm_) (x6 x7 : Int32) (u8 : Option Value), B.length < P.1 + f → mIn M o B → M.2.1 91 20 = zI (-1) → RInv B P → stk M o P.2.1 P.2.2 →
    ∃ M', EvC G (d + 3) m_M_read 157 [some (.ref 91), some (.int x1), some (.int x2), some (.int (zI ((o : Int) + (B.length : Int)))), some (.int (zI (P.2.2.length : Int))), some (.int (zI ((o : Int) + (P.1 : Int)))), some (.int x6), some (.int x7), u8] [] M (some (.int (zI (fo o (rdE B (rdO B f P))))), M') ∧ Fp pRd M M'
  | 0, P, M, x6, x7, u8, hfu, h, hf, hI, hs => by
    have := hI.1
    omega
  | f + 1, (z, N, []), M, x6, x7, u8, hfu, h, hf, hI, hs => by
    have hm := h.2.2.2
    have hz : z ≤ B.length := hI.1
    have to367 : ∀ R, EvC G (d + 3) m_M_read 367 [some (.ref 91), some (.int x1), some (.int x2), some (.int (zI ((o : Int) + (B.length : Int)))), some (.int (zI ((0 : Nat) : Int))), some (.int (zI ((o : Int) + (z : Int)))), some (.int (zI 0)), some (.int (zI 0)), u8] [] M R →
        EvC G (d + 3) m_M_read 157 [some (.ref 91), some (.int x1), some (.int x2), some (.int (zI ((o : Int) + (B.length : Int)))), some (.int (zI ((0 : Nat) : Int))), some (.int (zI ((o : Int) + (z : Int)))), some (.int x6), some (.int x7), u8] [] M R := fun R k => by
      refine ev_M_read_157 ?_
      rw [zI_0, if_neg (fun q => by rw [zI_lt ⟨by omega, by omega⟩ ⟨by omega, by omega⟩] at q; omega)]
      refine ev_M_read_167 ?_
      rw [zI_0, if_pos rfl]
      refine ev_M_read_71 ?_
      rw [zI_0, if_pos rfl]
      exact k
    have hE : rdE B (rdO B (f + 1) (z, N, [])) = if z < B.length then .inl z else .inr N := rfl
    rw [hE]
    by_cases c : z < B.length
    · rw [if_pos c]
      refine ⟨am_setI M 91 20 (zI ((o : Int) + (z : Int))), to367 _ (ev_M_read_367 ?_), pRd_ft⟩
      rw [if_pos (fNeg hf), if_neg (zI_ne ⟨by omega, by omega⟩ ⟨by omega, by omega⟩ (by omega))]
      refine ⟨okF_W h.1 rfl, okO_W h.1 rfl, _, _, e_M_wrong h.1 hf, ev_M_read_386 ⟨okF_W (WM_setI h.1) rfl, ?_⟩⟩
      rw [setI_self]
      rfl
    · rw [if_neg c]
      refine ⟨M, to367 _ (ev_M_read_367 ?_), Fp.rf⟩
      rw [if_pos (fNeg hf), if_pos (by rw [show z = B.length by omega]), hf]
      exact ⟨okF_W h.1 rfl, okF_W h.1 rfl, rfl⟩
  | f + 1, (z, N, c :: r), M, x6, x7, u8, hfu, h, hf, hI, hs => by
    have hm := h.2.2.2
    have hz : z ≤ B.length := hI.1
    have hl : (c :: r).length ≤ 4 := hI.2.2.2.2.2.2.1
    have hl : r.length + 1 ≤ 4 := hl
    have hfu : B.length < z + (f + 1) := hfu
    obtain ⟨s1, s2, s3⟩ := hs
    have hOst := hI.2.2.2.1
    have hlt : ∀ c' ∈ c :: r, c' < N.length := Ost_lt (c :: r) [] z hOst
    have hpl : rPl N c + 1 ≤ z := hOst.2.2.2.1
    have hplB : rPl N c < B.length := by omega
    have hTl : ∀ g, rdS B (z, N, c :: r) = .inl g → fo o (rdE B (rdO B (f + 1) (z, N, c :: r))) = (o : Int) + (g : Int) := fun g hg => by
      rw [rdO_cons, hg]
      rfl
    have hTr : ∀ P', rdS B (z, N, c :: r) = .inr P' → fo o (rdE B (rdO B (f + 1) (z, N, c :: r))) = fo o (rdE B (rdO B f P')) := fun P' hg => by
      rw [rdO_cons, hg]
    generalize hT : fo o (rdE B (rdO B (f + 1) (z, N, c :: r))) = T at hTl hTr ⊢
    -- the end with a fault
    -- behind the round
    have ih : ∀ (P' : Rs) (M1 : Mm_) (x6 x7 : Int32) (u8 : Option Value), rdS B (z, N, c :: r) = .inr P' → mIn M1 o B → M1.2.1 91 20 = zI (-1) → stk M1 o P'.2.1 P'.2.2 → ∃ M', EvC G (d + 3) m_M_read 157 [some (.ref 91), some (.int x1), some (.int x2), some (.int (zI ((o : Int) + (B.length : Int)))), some (.int (zI (P'.2.2.length : Int))), some (.int (zI ((o : Int) + (P'.1 : Int)))), some (.int x6), some (.int x7), u8] [] M1 (some (.int (zI T)), M') ∧ Fp pRd M1 M' := fun P' M1 x6 x7 u8 hS h1 hf1 hs1 => by
      obtain ⟨i1, i2⟩ := rdS_inv hI rfl hS
      have i2 : z < P'.1 := i2
      rw [hTr P' hS]
      exact hd_loop f P' M1 x6 x7 u8 (by omega) h1 hf1 i1 hs1
    have to167 : ∀ R, EvC G (d + 3) m_M_read 167 [some (.ref 91), some (.int x1), some (.int x2), some (.int (zI ((o : Int) + (B.length : Int)))), some (.int (zI ((r.length + 1 : Nat) : Int))), some (.int (zI ((o : Int) + (z : Int)))), some (.int x6), some (.int x7), u8] [.int (zI 1)] M R →
        EvC G (d + 3) m_M_read 157 [some (.ref 91), some (.int x1), some (.int x2), some (.int (zI ((o : Int) + (B.length : Int)))), some (.int (zI ((r.length + 1 : Nat) : Int))), some (.int (zI ((o : Int) + (z : Int)))), some (.int x6), some (.int x7), u8] [] M R := fun R k => by
      refine ev_M_read_157 ?_
      rw [zI_0, if_pos ((zI_lt ⟨by omega, by omega⟩ ⟨by omega, by omega⟩).mpr (by omega))]
      exact k
    show ∃ M', EvC G (d + 3) m_M_read 157 [some (.ref 91), some (.int x1), some (.int x2), some (.int (zI ((o : Int) + (B.length : Int)))), some (.int (zI ((r.length + 1 : Nat) : Int))), some (.int (zI ((o : Int) + (z : Int)))), some (.int x6), some (.int x7), u8] [] M (some (.int (zI T)), M') ∧ Fp pRd M M'
    by_cases cz : z < B.length
    · have hb := h.2.1 z cz
      by_cases b6 : 6 < by_ B z
      · -- no type
        have hS : rdS B (z, N, c :: r) = .inl z := by rw [rdS_eq, if_neg (by omega), rdP_cons, if_neg (by omega), if_neg (by omega)]
        have hT' := hTl z hS
        refine ⟨am_setI M 91 20 (zI ((o : Int) + (z : Int))), to167 _ (ev_M_read_167 ?_), pRd_ft⟩
        rw [if_pos (fNeg hf), zI_0, if_neg z10, if_pos ((zI_lt ⟨by omega, by omega⟩ ⟨by omega, by omega⟩).mpr (by omega)), mI h cz, if_pos ((zI_lt ⟨by omega, by omega⟩ ⟨by omega, by omega⟩).mpr b6)]
        exact ⟨okF_W h.1 rfl, okF_W h.1 rfl, mOk h cz, okO_W h.1 rfl, _, _, e_M_wrong h.1 hf, ev_M_read_208 (rd_f209 (WM_setI h.1) (by rw [setI_self, hT']) ⟨by omega, by omega⟩)⟩
      · have to209 : ∀ R, EvC G (d + 3) m_M_read 209 [some (.ref 91), some (.int x1), some (.int x2), some (.int (zI ((o : Int) + (B.length : Int)))), some (.int (zI ((r.length + 1 : Nat) : Int))), some (.int (zI ((o : Int) + (z : Int)))), some (.int (zI 0)), some (.int (zI 1)), u8] [] M R →
            EvC G (d + 3) m_M_read 157 [some (.ref 91), some (.int x1), some (.int x2), some (.int (zI ((o : Int) + (B.length : Int)))), some (.int (zI ((r.length + 1 : Nat) : Int))), some (.int (zI ((o : Int) + (z : Int)))), some (.int x6), some (.int x7), u8] [] M R := fun R k => by
          refine to167 _ (ev_M_read_167 ?_)
          rw [if_pos (fNeg hf), zI_0, if_neg z10, if_pos ((zI_lt ⟨by omega, by omega⟩ ⟨by omega, by omega⟩).mpr (by omega)), mI h cz, if_neg (fun q => by rw [zI_lt ⟨by omega, by omega⟩ ⟨by omega, by omega⟩] at q; omega)]
          exact ⟨okF_W h.1 rfl, okF_W h.1 rfl, mOk h cz, k⟩
        by_cases b0 : by_ B z = 0
        · -- a nest's end
          have hS : rdS B (z, N, c :: r) = rdX B (z, N, c :: r) c r := by rw [rdS_eq, if_pos b0]
          have hX : rdX B (z, N, c :: r) c r = if by_ B (rPl N c) = (z : Int) + 1 - (rPl N c : Int) then .inr (z + 1, N, r) else .inl (rPl N c) := rfl
          have hbp := h.2.1 _ hplB
          have to278 : ∀ R, EvC G (d + 3) m_M_read 278 [some (.ref 91), some (.int x1), some (.int x2), some (.int (zI ((o : Int) + (B.length : Int)))), some (.int (zI ((r.length + 1 : Nat) : Int))), some (.int (zI ((o : Int) + (z : Int)))), some (.int (zI 0)), some (.int (zI 1)), some (.int (zI 1))] [] M R →
              EvC G (d + 3) m_M_read 157 [some (.ref 91), some (.int x1), some (.int x2), some (.int (zI ((o : Int) + (B.length : Int)))), some (.int (zI ((r.length + 1 : Nat) : Int))), some (.int (zI ((o : Int) + (z : Int)))), some (.int x6), some (.int x7), u8] [] M R := fun R k => by
            refine to209 _ (ev_M_read_209 ?_)
            rw [if_pos (fNeg hf), mI h cz, b0, zI_0, if_pos rfl]
            refine ⟨okF_W h.1 rfl, okF_W h.1 rfl, mOk h cz, ev_M_read_231 ?_⟩
            rw [if_pos (fNeg hf), mI h cz, b0]
            refine ⟨okF_W h.1 rfl, okF_W h.1 rfl, mOk h cz, ev_M_read_251 ?_⟩
            rw [if_neg (show ¬ zI 0 = zI 3 by decide +kernel), if_neg (show ¬ zI 0 = zI 4 by decide +kernel)]
            split
            · exact k
            · exact k
          by_cases cx : by_ B (rPl N c) = (z : Int) + 1 - (rPl N c : Int)
          · rw [hX, if_pos cx] at hS
            obtain ⟨M', e, f'⟩ := ih _ M (zI 0) (zI 1) (some (.int (zI 1))) hS h hf s3
            refine ⟨M', to278 _ (ev_M_read_278 ?_), f'⟩
            rw [zI_0, if_neg z10, zI_nat (by omega), show M.2.1 (91 + 13) (r.length + 1) = zI ((o : Int) + ((rPl N c : Nat) : Int)) from s1, mI h hplB, zI_add, zI_sub, if_pos (by rw [cx]; congr 1; omega)]
            refine ⟨okF_W h.1 rfl, okF_W h.1 rfl, okA_z h.1 (show sg0[91 + 13]? = some (.inr (0, 6)) from rfl) (by omega) (by omega), mOk h hplB, okF_W h.1 rfl, okA_z h.1 (show sg0[91 + 13]? = some (.inr (0, 6)) from rfl) (by omega) (by omega), ev_M_read_326 (ev_M_read_71 ?_)⟩
            rw [if_pos (fNeg hf), zI_0, if_neg z10, if_neg (show ¬ zI 0 = zI 3 by decide +kernel), if_neg (show ¬ zI 0 = zI 4 by decide +kernel), if_neg (show ¬ zI 0 < zI 0 by decide +kernel), zI_sub, show ((r.length + 1 : Nat) : Int) - 1 = (r.length : Int) by omega, show (o : Int) + (z : Int) + 1 = (o : Int) + ((z + 1 : Nat) : Int) by omega]
            exact ⟨okF_W h.1 rfl, e⟩
          · rw [hX, if_neg cx] at hS
            have hT' := hTl _ hS
            refine ⟨am_setI M 91 20 (zI ((o : Int) + ((rPl N c : Nat) : Int))), to278 _ (ev_M_read_278 ?_), pRd_ft⟩
            rw [zI_0, if_neg z10, zI_nat (by omega), show M.2.1 (91 + 13) (r.length + 1) = zI ((o : Int) + ((rPl N c : Nat) : Int)) from s1, mI h hplB, zI_add, zI_sub, if_neg (zI_ne ⟨by omega, by omega⟩ ⟨by omega, by omega⟩ (by omega))]
            exact ⟨okF_W h.1 rfl, okF_W h.1 rfl, okA_z h.1 (show sg0[91 + 13]? = some (.inr (0, 6)) from rfl) (by omega) (by omega), mOk h hplB, okF_W h.1 rfl, okA_z h.1 (show sg0[91 + 13]? = some (.inr (0, 6)) from rfl) (by omega) (by omega), okF_W h.1 rfl, okA_z h.1 (show sg0[91 + 13]? = some (.inr (0, 6)) from rfl) (by omega) (by omega), okO_W h.1 rfl, _, _, e_M_wrong h.1 hf, ev_M_read_325 (ev_M_read_326 (rd_f71 (WM_setI h.1) (by rw [setI_self, hT']) ⟨by omega, by omega⟩))⟩
        · -- a value
          have hS : rdS B (z, N, c :: r) = rdP B (z, N, c :: r) := by rw [rdS_eq, if_neg b0]
          have rb_ : rg (by_ B z) := ⟨by omega, by omega⟩
          have to251 : ∀ R, EvC G (d + 3) m_M_read 251 [some (.ref 91), some (.int x1), some (.int x2), some (.int (zI ((o : Int) + (B.length : Int)))), some (.int (zI ((r.length + 1 : Nat) : Int))), some (.int (zI ((o : Int) + (z : Int)))), some (.int (zI 0)), some (.int (zI 1)), some (.int (zI 0))] [.int (zI (by_ B z))] M R →
              EvC G (d + 3) m_M_read 157 [some (.ref 91), some (.int x1), some (.int x2), some (.int (zI ((o : Int) + (B.length : Int)))), some (.int (zI ((r.length + 1 : Nat) : Int))), some (.int (zI ((o : Int) + (z : Int)))), some (.int x6), some (.int x7), u8] [] M R := fun R k => by
            refine to209 _ (ev_M_read_209 ?_)
            rw [if_pos (fNeg hf), mI h cz, zI_0, if_neg (zI_ne rb_ ⟨by omega, by omega⟩ b0)]
            refine ⟨okF_W h.1 rfl, okF_W h.1 rfl, mOk h cz, ev_M_read_230 (ev_M_read_231 ?_)⟩
            rw [if_pos (fNeg hf), mI h cz]
            exact ⟨okF_W h.1 rfl, okF_W h.1 rfl, mOk h cz, k⟩
          by_cases c4 : (by_ B z = 3 ∨ by_ B z = 4) ∧ 4 ≤ r.length + 1
          · rw [rdP_cons, if_pos c4] at hS
            have hT' := hTl _ hS
            have hw : (am_okO M 91 8) = true ∧ (∃ x' M', Ev G (d + 2) 98 [.ref 91, .int (zI ((o : Int) + (z : Int)))] M (some (.int x'), M') ∧ EvC G (d + 2 + 1) m_M_read 277 [some (.ref 91), some (.int x1), some (.int x2), some (.int (zI ((o : Int) + (B.length : Int)))), some (.int (zI ((r.length + 1 : Nat) : Int))), some (.int (zI ((o : Int) + (z : Int)))), some (.int (zI (by_ B z))), some (.int (zI 1)), some (.int (zI 0))] (.int x' :: []) M' (some (.int (zI T)), am_setI M 91 20 (zI ((o : Int) + (z : Int))))) := ⟨okO_W h.1 rfl, _, _, e_M_wrong h.1 hf, ev_M_read_277 (rd_f278 (WM_setI h.1) (by rw [setI_self, hT']) ⟨by omega, by omega⟩)⟩
            refine ⟨am_setI M 91 20 (zI ((o : Int) + (z : Int))), to251 _ (ev_M_read_251 ?_), pRd_ft⟩
            rw [if_neg (fun q => by rw [zI_lt ⟨by omega, by omega⟩ ⟨by omega, by omega⟩] at q; omega)]
            by_cases b3 : by_ B z = 3
            · rw [if_pos (by rw [b3])]
              exact hw
            · rw [if_neg (zI_ne rb_ ⟨by omega, by omega⟩ b3), if_pos (by rw [c4.1.resolve_left b3])]
              exact hw
          · rw [rdP_cons, if_neg c4, if_pos ⟨by omega, by omega⟩] at hS
            have hd4 : isC (by_ B z) → (c :: r).length < 4 := fun q => by
              show r.length + 1 < 4
              have q : by_ B z = 3 ∨ by_ B z = 4 := q
              omega
            have to278 : ∀ R, EvC G (d + 3) m_M_read 278 [some (.ref 91), some (.int x1), some (.int x2), some (.int (zI ((o : Int) + (B.length : Int)))), some (.int (zI ((r.length + 1 : Nat) : Int))), some (.int (zI ((o : Int) + (z : Int)))), some (.int (zI (by_ B z))), some (.int (zI 1)), some (.int (zI 0))] [] M R →
                EvC G (d + 3) m_M_read 157 [some (.ref 91), some (.int x1), some (.int x2), some (.int (zI ((o : Int) + (B.length : Int)))), some (.int (zI ((r.length + 1 : Nat) : Int))), some (.int (zI ((o : Int) + (z : Int)))), some (.int x6), some (.int x7), u8] [] M R := fun R k => by
              refine to251 _ (ev_M_read_251 ?_)
              by_cases cl : r.length + 1 < 4
              · rw [if_pos ((zI_lt ⟨by omega, by omega⟩ ⟨by omega, by omega⟩).mpr (by omega))]
                exact k
              · rw [if_neg (fun q => by rw [zI_lt ⟨by omega, by omega⟩ ⟨by omega, by omega⟩] at q; omega), if_neg (zI_ne rb_ ⟨by omega, by omega⟩ (by omega)), if_neg (zI_ne rb_ ⟨by omega, by omega⟩ (by omega))]
                exact k
            by_cases c3 : rTy N c = 3
            · rw [if_pos c3] at hS
              obtain ⟨M1, y, e1, w1⟩ := e_M_readName (G := G) (d := d + 1) h hf hI cz c3 s1
              have to362 : ∀ R, EvC G (d + 3) m_M_read 362 [some (.ref 91), some (.int x1), some (.int x2), some (.int (zI ((o : Int) + (B.length : Int)))), some (.int (zI ((r.length + 1 : Nat) : Int))), some (.int (zI ((o : Int) + ((z + 1 : Nat) : Int)))), some (.int (zI (by_ B z))), some (.int (zI 1)), some (.int (zI 0))] [.int y] M1 R →
                  EvC G (d + 3) m_M_read 157 [some (.ref 91), some (.int x1), some (.int x2), some (.int (zI ((o : Int) + (B.length : Int)))), some (.int (zI ((r.length + 1 : Nat) : Int))), some (.int (zI ((o : Int) + (z : Int)))), some (.int x6), some (.int x7), u8] [] M R := fun R k => by
                refine to278 _ (ev_M_read_278 ?_)
                rw [if_pos (fNeg hf), zI_0, if_pos rfl, zI_nat (by omega), show M.2.1 (91 + 14) (r.length + 1) = zI (rTy N c) from s2, if_pos (by rw [c3]), zI_add, show (o : Int) + (z : Int) + 1 = (o : Int) + ((z + 1 : Nat) : Int) by omega]
                exact ⟨okF_W h.1 rfl, okF_W h.1 rfl, okA_z h.1 (show sg0[91 + 14]? = some (.inr (0, 6)) from rfl) (by omega) (by omega), okO_W h.1 rfl, _, _, e1, k⟩
              cases hN : rdN B N (c : Int) (z + 1) with
              | inl g =>
                rw [hN] at hS w1
                have hT' := hTl _ hS
                have hg := rdN_fl (by omega) hN
                have w1 : M1 = am_setI M 91 20 (zI ((o : Int) + (g : Int))) := w1
                subst w1
                exact ⟨_, to362 _ (ev_M_read_362 (rd_f71 (WM_setI h.1) (by rw [setI_self, hT']) ⟨by omega, by omega⟩)), pRd_ft⟩
              | inr v =>
                obtain ⟨x, q⟩ := v
                rw [hN] at hS w1
                dsimp only at hS
                obtain ⟨w1, w2⟩ := w1
                subst w1 w2
                have hok := rdN_ok hN
                obtain ⟨M', e, f'⟩ := ct_step (G := G) (d := d) (z := z) (N := N) (S := c :: r) (t := by_ B z) (x := x) (s := z) (q := q) (x1 := x1) (x2 := x2) (u8 := some (.int (zI 0))) (T := T) h hf hok.2.2.2 ⟨by omega, by omega⟩ hd4 hl ⟨s1, s2, s3⟩ hlt (fun g hg => hTl g (hS.trans hg)) (fun P' M1 x6 x7 u8 hP => ih P' M1 x6 x7 u8 (hS.trans hP))
                exact ⟨M', to362 _ (ev_M_read_362 e), f'⟩
            · rw [if_neg c3] at hS
              obtain ⟨M', e, f'⟩ := ct_step (G := G) (d := d) (z := z) (N := N) (S := c :: r) (t := by_ B z) (x := 0) (s := z) (q := z + 1) (x1 := x1) (x2 := x2) (u8 := some (.int (zI 0))) (T := T) h hf (by omega) ⟨by omega, by omega⟩ hd4 hl ⟨s1, s2, s3⟩ hlt (fun g hg => hTl g (hS.trans hg)) (fun P' M1 x6 x7 u8 hP => ih P' M1 x6 x7 u8 (hS.trans hP))
              refine ⟨M', to278 _ (ev_M_read_278 ?_), f'⟩
              have hty : rTy N c = 3 ∨ rTy N c = 4 := hOst.2.1
              rw [if_pos (fNeg hf), zI_0, if_pos rfl, zI_nat (by omega), show M.2.1 (91 + 14) (r.length + 1) = zI (rTy N c) from s2, if_neg (zI_ne ⟨by omega, by omega⟩ ⟨by omega, by omega⟩ c3), zI_add, show (o : Int) + (z : Int) + 1 = (o : Int) + ((z + 1 : Nat) : Int) by omega]
              exact ⟨okF_W h.1 rfl, okF_W h.1 rfl, okA_z h.1 (show sg0[91 + 14]? = some (.inr (0, 6)) from rfl) (by omega) (by omega), e⟩
    · -- behind the last byte
      have hb := by_out (B := B) (p := z) (by omega)
      have hS : rdS B (z, N, c :: r) = .inl z := by rw [rdS_eq, if_neg (by omega), rdP_cons, if_neg (by omega), if_neg (by omega)]
      have hT' := hTl z hS
      refine ⟨am_setI M 91 20 (zI ((o : Int) + (z : Int))), to167 _ (ev_M_read_167 ?_), pRd_ft⟩
      rw [if_pos (fNeg hf), zI_0, if_neg z10, if_neg (fun q => by rw [zI_lt ⟨by omega, by omega⟩ ⟨by omega, by omega⟩] at q; omega)]
      exact ⟨okF_W h.1 rfl, okO_W h.1 rfl, _, _, e_M_wrong h.1 hf, ev_M_read_208 (rd_f209 (WM_setI h.1) (by rw [setI_self, hT']) ⟨by omega, by omega⟩)⟩
end MDOC2
