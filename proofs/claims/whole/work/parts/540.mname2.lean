/-! THE REFERENCE's reader: readName -/
def lt2 (B : List Int) : Nat → Bool → Int → Nat → Nat ⊕ (Int × Nat)
  | 0, _, x, p => if by_ B p = 0 then .inr (x, p) else .inl p
  | r + 1, f, x, p => if f = false ∧ by_ B p = 0 then .inr (x, p) else if 97 ≤ by_ B p ∧ by_ B p ≤ 122 then lt2 B r false (x * 256 + by_ B p) (p + 1) else .inl p
theorem lt2_rdL {B : List Int} : ∀ (r : Nat) (f : Bool) (x : Int) (p : Nat), lt2 B r f x p = match rdL B r f x p with
    | .inl g => .inl g
    | .inr (y, q) => if by_ B q = 0 then .inr (y, q) else .inl q
  | 0, f, x, p => rfl
  | r + 1, f, x, p => by
    unfold lt2 rdL
    by_cases c : f = false ∧ by_ B p = 0
    · rw [if_pos c, if_pos c]
      dsimp only
      rw [if_pos c.2]
    · rw [if_neg c, if_neg c]
      by_cases c2 : 97 ≤ by_ B p ∧ by_ B p ≤ 122
      · rw [if_pos c2, if_pos c2]
        exact lt2_rdL r false _ _
      · rw [if_neg c2, if_neg c2]
theorem rdN_lt2 {B : List Int} {N : List Nd} {w : Int} {p : Nat} : rdN B N w p = match lt2 B 4 true 0 p with
    | .inl f => .inl f
    | .inr (x, q) => if hasNm N w x = true then .inl p else .inr (x, q + 1) := by
  rw [lt2_rdL]
  unfold rdN
  cases rdL B 4 true 0 p with
  | inl g => rfl
  | inr v =>
    obtain ⟨x, q⟩ := v
    dsimp only
    by_cases c : by_ B q = 0
    · rw [if_pos c, if_pos c]
    · rw [if_neg c, if_neg c]
theorem lt2_ok {B : List Int} {p q : Nat} {x : Int} (h : lt2 B 4 true 0 p = .inr (x, q)) : NmAt B p x (q + 1) := by
  have e : rdN B [] 0 p = .inr (x, q + 1) := by rw [rdN_lt2, h]; rfl
  exact (rdN_ok e).1
/-- the locals of readName ahead of the other names -/
abbrev nmL (o p dd k : Nat) (B : List Int) : List (Option Value) := [some (.ref 91), some (.int (zI ((o : Int) + (p : Int)))), some (.int (zI ((o : Int) + (B.length : Int)))), some (.int (zI (dd : Int))), some (.int (zI ((o : Int) + (k : Int)))), none, none, none, none]
def ltO (G : Nat × (Nat → Int32)) (d o p dd : Nat) (B : List Int) (M : Mm_) (k : Nat) : Nat ⊕ (Int × Nat) → Prop
  | .inl f => ∃ y, EvC G (d + 1) m_M_readName 3 (nmL o p dd k B) [] M (some (.int y), am_setI M 91 20 (zI ((o : Int) + (f : Int))))
  | .inr (_, q) => ∀ R, EvC G (d + 1) m_M_readName 82 (nmL o p dd q B) [] M R → EvC G (d + 1) m_M_readName 3 (nmL o p dd k B) [] M R
section MNAME2
variable {G : Nat × (Nat → Int32)} {d o dd : Nat} {B : List Int}
theorem nm_f82 {M : Mm_} {x1 x2 x4 : Int32} {u5 u6 u7 u8 : Option Value} {g : Int} (hd : dd < 6) (hW : WM M) (hf : M.2.1 91 20 = zI g) (hg : 0 ≤ g ∧ g < 5000) : EvC G d m_M_readName 82 [some (.ref 91), some (.int x1), some (.int x2), some (.int (zI (dd : Int))), some (.int x4), u5, u6, u7, u8] [] M (some (.int (x4 + zI 1)), M) := by
  refine ev_M_readName_82 ⟨okF_W hW rfl, okA_z hW (show sg0[91 + 13]? = some (.inr (0, 6)) from rfl) hd (by omega), ev_M_readName_92 ?_⟩
  rw [if_neg (fPos hf hg)]
  exact ⟨okF_W hW rfl, rfl⟩
theorem nm_f53 {M : Mm_} {k p : Nat} {g : Int} (hd : dd < 6) (h : mIn M o B) (hk : k < 5000) (hf : M.2.1 91 20 = zI g) (hg : 0 ≤ g ∧ g < 5000) : EvC G (d + 1) m_M_readName 53 (nmL o p dd k B) [] M (some (.int (zI ((o : Int) + (k : Int)) + zI 1)), M) := by
  have hq := h.2.2.2
  have w81 : ∀ y, EvC G (d + 1) m_M_readName 81 (nmL o p dd k B) [.int y] M (some (.int (zI ((o : Int) + (k : Int)) + zI 1)), M) := fun y => ev_M_readName_81 (nm_f82 hd h.1 hf hg)
  refine ev_M_readName_53 ?_
  by_cases c : k < B.length
  · rw [if_pos ((zI_lt ⟨by omega, by omega⟩ ⟨by omega, by omega⟩).mpr (by omega))]
    split
    · exact ⟨okO_W h.1 rfl, _, _, e_M_wrong_old h.1 hf hg, w81 _⟩
    · refine ⟨okF_W h.1 rfl, mOk h c, ?_⟩
      split
      · exact nm_f82 hd h.1 hf hg
      · exact ⟨okO_W h.1 rfl, _, _, e_M_wrong_old h.1 hf hg, w81 _⟩
  · rw [if_neg (fun q => by rw [zI_lt ⟨by omega, by omega⟩ ⟨by omega, by omega⟩] at q; omega)]
    exact ⟨okO_W h.1 rfl, _, _, e_M_wrong_old h.1 hf hg, w81 _⟩
theorem nm_w53 {M : Mm_} {k p : Nat} (hd : dd < 6) (h : mIn M o B) (hk : k < 3000) (hp : p < 3000) (hf : M.2.1 91 20 = zI (-1)) (hb : k = p ∨ by_ B k ≠ 0) : EvC G (d + 1) m_M_readName 53 (nmL o p dd k B) [] M (some (.int (zI ((o : Int) + (k : Int)) + zI 1)), am_setI M 91 20 (zI ((o : Int) + (k : Int)))) := by
  have hq := h.2.2.2
  have w81 : ∀ y, EvC G (d + 1) m_M_readName 81 (nmL o p dd k B) [.int y] (am_setI M 91 20 (zI ((o : Int) + (k : Int)))) (some (.int (zI ((o : Int) + (k : Int)) + zI 1)), am_setI M 91 20 (zI ((o : Int) + (k : Int)))) := fun y => ev_M_readName_81 (nm_f82 (g := (o : Int) + (k : Int)) hd (WM_setI h.1) setI_self ⟨by omega, by omega⟩)
  refine ev_M_readName_53 ?_
  by_cases c : k < B.length
  · rw [if_pos ((zI_lt ⟨by omega, by omega⟩ ⟨by omega, by omega⟩).mpr (by omega))]
    by_cases ck : k = p
    · rw [if_pos (by rw [ck])]
      exact ⟨okO_W h.1 rfl, _, _, e_M_wrong h.1 hf, w81 _⟩
    · have hb' := h.2.1 k c
      rw [if_neg (zI_ne ⟨by omega, by omega⟩ ⟨by omega, by omega⟩ (by omega)), mI h c, zI_0, if_neg (zI_ne ⟨by omega, by omega⟩ ⟨by omega, by omega⟩ (by omega))]
      exact ⟨okF_W h.1 rfl, mOk h c, okO_W h.1 rfl, _, _, e_M_wrong h.1 hf, w81 _⟩
  · rw [if_neg (fun q => by rw [zI_lt ⟨by omega, by omega⟩ ⟨by omega, by omega⟩] at q; omega)]
    exact ⟨okO_W h.1 rfl, _, _, e_M_wrong h.1 hf, w81 _⟩
theorem nm_g53 {M : Mm_} {k p : Nat} {R : Out_} (h : mIn M o B) (hp : p < 3000) (hkp : k ≠ p) (hb : by_ B k = 0) (kk : EvC G (d + 1) m_M_readName 82 (nmL o p dd k B) [] M R) : EvC G (d + 1) m_M_readName 53 (nmL o p dd k B) [] M R := by
  have hq := h.2.2.2
  have c : k < B.length := by_lt (by omega)
  refine ev_M_readName_53 ?_
  rw [if_pos ((zI_lt ⟨by omega, by omega⟩ ⟨by omega, by omega⟩).mpr (by omega)), if_neg (zI_ne ⟨by omega, by omega⟩ ⟨by omega, by omega⟩ (by omega)), mI h c, hb, zI_0, if_pos rfl]
  exact ⟨okF_W h.1 rfl, mOk h c, kk⟩
theorem nm_to53 {M : Mm_} {k p : Nat} {R : Out_} (h : mIn M o B) (hk : k < 3000) (hf : M.2.1 91 20 = zI (-1)) (hn : ¬ (97 ≤ by_ B k ∧ by_ B k ≤ 122)) (kk : EvC G (d + 1) m_M_readName 53 (nmL o p dd k B) [] M R) : EvC G (d + 1) m_M_readName 3 (nmL o p dd k B) [] M R := by
  have hq := h.2.2.2
  refine ev_M_readName_3 ?_
  rw [if_pos (fNeg hf)]
  by_cases c : k < B.length
  · have hb := h.2.1 k c
    rw [if_pos ((zI_lt ⟨by omega, by omega⟩ ⟨by omega, by omega⟩).mpr (by omega)), mI h c]
    refine ⟨okF_W h.1 rfl, okF_W h.1 rfl, mOk h c, _, _, e_M_isLetter_f ⟨by omega, by omega⟩ hn, ev_M_readName_26 ?_⟩
    rw [zI_0, if_pos rfl]
    exact kk
  · rw [if_neg (fun q => by rw [zI_lt ⟨by omega, by omega⟩ ⟨by omega, by omega⟩] at q; omega)]
    exact ⟨okF_W h.1 rfl, kk⟩
theorem nm_let {M : Mm_} {k p : Nat} {R : Out_} (h : mIn M o B) (hf : M.2.1 91 20 = zI (-1)) (hn : 97 ≤ by_ B k ∧ by_ B k ≤ 122) (kk : EvC G (d + 1) m_M_readName 26 (nmL o p dd k B) [.int (zI 1)] M R) : EvC G (d + 1) m_M_readName 3 (nmL o p dd k B) [] M R := by
  have hq := h.2.2.2
  have c : k < B.length := by_lt (by omega)
  refine ev_M_readName_3 ?_
  rw [if_pos (fNeg hf), if_pos ((zI_lt ⟨by omega, by omega⟩ ⟨by omega, by omega⟩).mpr (by omega)), mI h c]
  exact ⟨okF_W h.1 rfl, okF_W h.1 rfl, mOk h c, _, _, e_M_isLetter_t ⟨by omega, by omega⟩ hn, kk⟩
theorem nm_l {M : Mm_} {p : Nat} (h : mIn M o B) (hd : dd < 6) (hf : M.2.1 91 20 = zI (-1)) (hp : p ≤ B.length) : ∀ (r i : Nat) (acc : Int), i + r = 4 → ltO G d o p dd B M (p + i) (lt2 B r (decide (i = 0)) acc (p + i))
  | 0, i, acc, hi => by
    have hq := h.2.2.2
    unfold lt2
    by_cases b0 : by_ B (p + i) = 0
    · rw [if_pos b0]
      exact fun R kk => nm_to53 h (by omega) hf (by omega) (nm_g53 h (by omega) (by omega) b0 kk)
    · rw [if_neg b0]
      by_cases cl : 97 ≤ by_ B (p + i) ∧ by_ B (p + i) ≤ 122
      · refine ⟨zI ((o : Int) + ((p + i + 1 : Nat) : Int)) + zI 1, nm_let h hf cl (ev_M_readName_26 ?_)⟩
        rw [zI_0, if_neg z10, zI_sub, if_neg (fun q => by rw [zI_lt ⟨by omega, by omega⟩ ⟨by omega, by omega⟩] at q; omega)]
        refine ⟨okO_W h.1 rfl, _, _, e_M_wrong h.1 hf, ev_M_readName_43 (ev_M_readName_3 ?_)⟩
        have fP := fPos (M := am_setI M 91 20 (zI ((o : Int) + ((p + i : Nat) : Int)))) setI_self ⟨by omega, by omega⟩
        rw [if_neg fP, zI_add, show (o : Int) + ((p + i : Nat) : Int) + 1 = (o : Int) + ((p + i + 1 : Nat) : Int) by omega]
        exact ⟨okF_W (WM_setI h.1) rfl, nm_f53 (g := (o : Int) + ((p + i : Nat) : Int)) hd h.ft (by omega) setI_self ⟨by omega, by omega⟩⟩
      · exact ⟨_, nm_to53 h (by omega) hf cl (nm_w53 hd h (by omega) (by omega) hf (Or.inr b0))⟩
  | r + 1, i, acc, hi => by
    have hq := h.2.2.2
    unfold lt2
    by_cases b0 : decide (i = 0) = false ∧ by_ B (p + i) = 0
    · rw [if_pos b0]
      have hi0 : i ≠ 0 := of_decide_eq_false b0.1
      exact fun R kk => nm_to53 h (by omega) hf (by omega) (nm_g53 h (by omega) (by omega) b0.2 kk)
    · rw [if_neg b0]
      by_cases cl : 97 ≤ by_ B (p + i) ∧ by_ B (p + i) ≤ 122
      · rw [if_pos cl]
        have ih := nm_l h hd hf hp r (i + 1) (acc * 256 + by_ B (p + i)) (by omega)
        rw [show decide (i + 1 = 0) = false from rfl, show p + (i + 1) = p + i + 1 by omega] at ih
        have st : ∀ R, EvC G (d + 1) m_M_readName 3 (nmL o p dd (p + i + 1) B) [] M R → EvC G (d + 1) m_M_readName 3 (nmL o p dd (p + i) B) [] M R := fun R kk => by
          refine nm_let h hf cl (ev_M_readName_26 ?_)
          rw [zI_0, if_neg z10, zI_sub, if_pos ((zI_lt ⟨by omega, by omega⟩ ⟨by omega, by omega⟩).mpr (by omega)), zI_add, show (o : Int) + ((p + i : Nat) : Int) + 1 = (o : Int) + ((p + i + 1 : Nat) : Int) by omega]
          exact kk
        cases e : lt2 B r false (acc * 256 + by_ B (p + i)) (p + i + 1) with
        | inl f =>
          rw [e] at ih
          obtain ⟨y, ih⟩ := ih
          exact ⟨y, st _ ih⟩
        | inr v =>
          rw [e] at ih
          exact fun R kk => st _ (ih R kk)
      · rw [if_neg cl]
        refine ⟨_, nm_to53 h (by omega) hf cl (nm_w53 hd h (by omega) (by omega) hf ?_)⟩
        by_cases i0 : i = 0
        · exact Or.inl (by omega)
        · exact Or.inr (fun c => b0 ⟨decide_eq_false i0, c⟩)
/-! the other names -/
abbrev nmK (o p n dd a : Nat) (B : List Int) (x6 x7 x8 : Int32) : List (Option Value) := [some (.ref 91), some (.int (zI ((o : Int) + (p : Int)))), some (.int (zI ((o : Int) + (B.length : Int)))), some (.int (zI (dd : Int))), some (.int (zI ((o : Int) + ((p + n : Nat) : Int)))), some (.int (zI ((o : Int) + (a : Int)))), some (.int x6), some (.int x7), some (.int x8)]
theorem nm_cmp {M : Mm_} {p n a b v : Nat} {x' : Int} {R : Out_} (h : mIn M o B) (hf : M.2.1 91 20 = zI (-1)) (hb : b + n < B.length) (hp : p + n < B.length) (hv : NmAt B b x' v)
    (kE : (∀ j, j < n + 1 → by_ B (b + j) = by_ B (p + j)) → ∀ x7 x8, EvC G (d + 1) m_M_readName 187 (nmK o p n dd a B (zI ((o : Int) + (b : Int))) x7 x8) [.int (zI ((o : Int) + (v : Int)))] (am_setI M 91 20 (zI ((o : Int) + (p : Int)))) R)
    (kN : ¬ (∀ j, j < n + 1 → by_ B (b + j) = by_ B (p + j)) → ∀ x7 x8, EvC G (d + 1) m_M_readName 187 (nmK o p n dd a B (zI ((o : Int) + (b : Int))) x7 x8) [.int (zI ((o : Int) + (v : Int)))] M R) :
    ∀ m j, j + m = n + 1 → (∀ i, i < j → by_ B (b + i) = by_ B (p + i)) → EvC G (d + 1) m_M_readName 119 (nmK o p n dd a B (zI ((o : Int) + (b : Int))) (zI 1) (zI (j : Int))) [] M R
  | 0, j, hj, he => by
    have hq := h.2.2.2
    refine ev_M_readName_119 ?_
    rw [zI_sub, zI_add, if_neg (fun q => by rw [zI_lt ⟨by omega, by omega⟩ ⟨by omega, by omega⟩] at q; omega), zI_0, if_neg z10]
    exact ⟨okO_W h.1 rfl, _, _, e_M_wrong h.1 hf, ev_M_readName_180 ⟨okO_W (WM_setI h.1) rfl, _, _, e_M_nameEnd_at h.ft hv, kE (fun i hi => he i (by omega)) _ _⟩⟩
  | m + 1, j, hj, he => by
    have hq := h.2.2.2
    have b1 := h.2.1 (b + j) (by omega)
    have b2 := h.2.1 (p + j) (by omega)
    refine ev_M_readName_119 ?_
    rw [zI_sub, zI_add, if_pos ((zI_lt ⟨by omega, by omega⟩ ⟨by omega, by omega⟩).mpr (by omega)), zI_0, if_neg z10, zI_add, zI_add, zI_add, show (o : Int) + (b : Int) + (j : Int) = (o : Int) + ((b + j : Nat) : Int) by omega, show (o : Int) + (p : Int) + (j : Int) = (o : Int) + ((p + j : Nat) : Int) by omega, mI h (i := b + j) (by omega), mI h (i := p + j) (by omega), show (j : Int) + 1 = ((j + 1 : Nat) : Int) by omega]
    refine ⟨okF_W h.1 rfl, mOk h (by omega), okF_W h.1 rfl, mOk h (by omega), ?_⟩
    by_cases c : by_ B (b + j) = by_ B (p + j)
    · rw [if_pos (by rw [c])]
      exact nm_cmp h hf hb hp hv kE kN m (j + 1) (by omega) (fun i hi => by
        by_cases e : i = j
        · rw [e]; exact c
        · exact he i (by omega))
    · rw [if_neg (zI_ne ⟨by omega, by omega⟩ ⟨by omega, by omega⟩ c)]
      refine ev_M_readName_119 ?_
      have out : ∀ x8, (am_okO M 91 8) = true ∧ (∃ y M', Ev G d 102 [.ref 91, .int (zI ((o : Int) + (b : Int)))] M (some (.int y), M') ∧ EvC G (d + 1) m_M_readName 187 (nmK o p n dd a B (zI ((o : Int) + (b : Int))) (zI 0) x8) (.int y :: []) M' R) := fun x8 => ⟨okO_W h.1 rfl, _, _, e_M_nameEnd_at h hv, kN (fun q => c (q j (by omega))) _ _⟩
      rw [zI_0, if_pos rfl]
      split
      · exact out _
      · exact out _
/-- a holder's parts one behind the other -/
theorem rSt_rEn {N : List Nd} {c k : Nat} (hN : NdOk B N k) (hk : rPa N k = (c : Int)) (ht : rTy N c = 3) : rSt N k + 3 ≤ rPl N k ∧ rPl N k ≤ rEn B N k ∧ by_ B (rSt N k) = rTy N k ∧ NmAt B (rSt N k + 1) (rNm N k) (rPl N k) ∧ (rTy N k = 1 ∨ rTy N k = 5 ∨ rTy N k = 6 ∨ rPl N k < B.length) := by
  obtain ⟨h1, h2, h3, h4, h5, h6⟩ := hN
  obtain ⟨k1, k2, k3, k4, k5⟩ := h4 c hk
  have k4 := k4 ht
  obtain ⟨n, n1, n2, n3, n4, n5, n6⟩ := NmAt_end k4
  refine ⟨by omega, ?_, k3, k4, ?_⟩
  · unfold rEn bh
    split
    · omega
    · split
      · omega
      · split
        · omega
        · split <;> omega
  · by_cases c2 : rTy N k = 2
    · exact Or.inr (Or.inr (Or.inr (by_lt (h5 c2).1)))
    · by_cases c3 : isC (rTy N k)
      · exact Or.inr (Or.inr (Or.inr (by_lt (h6 c3))))
      · unfold isC at c3
        omega
theorem Chn_le {N : List Nd} {c : Nat} (ht : rTy N c = 3) : ∀ (ks : List Nat) (a z : Nat), (∀ k ∈ ks, NdOk B N k ∧ rPa N k = (c : Int)) → Chn B N ks a z → a ≤ z
  | [], a, z, _, h => Nat.le_of_eq h
  | k :: r, a, z, hk, h => by
    obtain ⟨h1, h2⟩ := h
    have := Chn_le ht r _ z (fun k' hk' => hk k' (List.mem_cons_of_mem _ hk')) h2
    obtain ⟨g1, g2⟩ := hk k List.mem_cons_self
    have := rSt_rEn g1 g2 ht
    omega
theorem nm_dup {M : Mm_} {N : List Nd} {c p n z : Nat} {x : Int} (h : mIn M o B) (hf : M.2.1 91 20 = zI (-1)) (ht : rTy N c = 3) (hx : NmAt B p x (p + n + 1)) (hp : p + n < B.length) (hz : z + 1 = p) :
    ∀ (ks : List Nat) (a : Nat), (∀ k ∈ ks, NdOk B N k ∧ rPa N k = (c : Int)) → Chn B N ks a z → ∀ u6 u7 u8 : Option Value, EvC G (d + 1) m_M_readName 92 [some (.ref 91), some (.int (zI ((o : Int) + (p : Int)))), some (.int (zI ((o : Int) + (B.length : Int)))), some (.int (zI (dd : Int))), some (.int (zI ((o : Int) + ((p + n : Nat) : Int)))), some (.int (zI ((o : Int) + (a : Int)))), u6, u7, u8] [] M
      (some (.int (zI ((o : Int) + ((p + n + 1 : Nat) : Int)))), if ks.any (fun k => decide (rNm N k = x)) = true then am_setI M 91 20 (zI ((o : Int) + (p : Int))) else M)
  | [], a, _, hc, u6, u7, u8 => by
    have hq := h.2.2.2
    have hc : a = z := hc
    refine ev_M_readName_92 ?_
    rw [if_pos (fNeg hf), zI_sub, if_neg (fun q => by rw [zI_lt ⟨by omega, by omega⟩ ⟨by omega, by omega⟩] at q; omega), if_neg (by simp), zI_add, show (o : Int) + ((p + n : Nat) : Int) + 1 = (o : Int) + ((p + n + 1 : Nat) : Int) by omega]
    exact ⟨okF_W h.1 rfl, rfl⟩
  | k :: r, a, hk, hc, u6, u7, u8 => by
    have hq := h.2.2.2
    obtain ⟨hc1, hc2⟩ := hc
    obtain ⟨g1, g2⟩ := hk k List.mem_cons_self
    have hr := fun k' hk' => hk k' (List.mem_cons_of_mem _ hk')
    obtain ⟨e1, e2, e3, e4, e5⟩ := rSt_rEn g1 g2 ht
    have hle := Chn_le ht r _ z hr hc2
    have hty : 1 ≤ rTy N k ∧ rTy N k ≤ 6 := ⟨g1.1, g1.2.1⟩
    subst hc1
    have hs := nm_same e4 hx rfl
    have es : ((k :: r).any (fun k => decide (rNm N k = x)) = true) ↔ (rNm N k = x ∨ r.any (fun k => decide (rNm N k = x)) = true) := by simp
    have hl : rSt N k < B.length := by omega
    -- behind the name
    have nxt : ∀ (M1 : Mm_) (R : Out_) (x6 x7 x8 : Int32), mIn M1 o B → (∀ u8, EvC G (d + 1) m_M_readName 92 [some (.ref 91), some (.int (zI ((o : Int) + (p : Int)))), some (.int (zI ((o : Int) + (B.length : Int)))), some (.int (zI (dd : Int))), some (.int (zI ((o : Int) + ((p + n : Nat) : Int)))), some (.int (zI ((o : Int) + ((rEn B N k : Nat) : Int)))), some (.int x6), some (.int x7), u8] [] M1 R) →
        EvC G (d + 1) m_M_readName 187 (nmK o p n dd (rSt N k) B x6 x7 x8) [.int (zI ((o : Int) + ((rPl N k : Nat) : Int)))] M1 R := fun M1 R x6 x7 x8 h1 kk => by
      refine ev_M_readName_187 ?_
      rw [mI h1 hl, e3]
      exact ⟨okF_W h1.1 rfl, mOk h1 hl, okO_W h1.1 rfl, _, _, e_M_behind h1 hty e5, ev_M_readName_202 (kk _)⟩
    refine ev_M_readName_92 ?_
    rw [if_pos (fNeg hf), zI_sub, if_pos ((zI_lt ⟨by omega, by omega⟩ ⟨by omega, by omega⟩).mpr (by omega)), zI_add, show (o : Int) + ((rSt N k : Nat) : Int) + 1 = (o : Int) + ((rSt N k + 1 : Nat) : Int) by omega]
    refine ⟨okF_W h.1 rfl, nm_cmp h hf (by omega) hp e4 (fun hE x7 x8 => nxt _ _ _ _ _ h.ft (fun u8 => ?_)) (fun hE x7 x8 => nxt _ _ _ _ _ h (fun u8 => ?_)) (n + 1) 0 (by omega) (fun i hi => absurd hi (by omega))⟩
    · rw [if_pos (es.mpr (Or.inl (hs.mp hE)))]
      refine ev_M_readName_92 ?_
      have fP := fPos (M := am_setI M 91 20 (zI ((o : Int) + ((p : Nat) : Int)))) setI_self ⟨by omega, by omega⟩
      rw [if_neg fP, zI_add, show (o : Int) + ((p + n : Nat) : Int) + 1 = (o : Int) + ((p + n + 1 : Nat) : Int) by omega]
      exact ⟨okF_W (WM_setI h.1) rfl, rfl⟩
    · have ih := nm_dup h hf ht hx hp hz r _ hr hc2 (some (.int (zI ((o : Int) + ((rSt N k + 1 : Nat) : Int))))) (some (.int x7)) u8
      have ee : ((k :: r).any (fun k => decide (rNm N k = x)) = true) ↔ r.any (fun k => decide (rNm N k = x)) = true := by
        rw [es]
        exact ⟨fun q => q.resolve_left (fun c => hE (hs.mpr c)), Or.inr⟩
      simp only [ee]
      exact ih
def nOut (M : Mm_) (o : Nat) (M' : Mm_) (y : Int32) : Nat ⊕ (Int × Nat) → Prop
  | .inl f => M' = am_setI M 91 20 (zI ((o : Int) + (f : Int)))
  | .inr (_, q) => M' = M ∧ y = zI ((o : Int) + (q : Int))
theorem hasNm_kids {N : List Nd} {c : Nat} {x : Int} : hasNm N (c : Int) x = (kids N c).any (fun k => decide (rNm N k = x)) := by
  unfold hasNm kids
  rw [List.any_filter]
  congr 1
  funext k
  simp
theorem e_M_readName {M : Mm_} {N : List Nd} {c z : Nat} {r : List Nat} (h : mIn M o B) (hf : M.2.1 91 20 = zI (-1)) (hI : RInv B (z, N, c :: r)) (hz : z < B.length) (ht : rTy N c = 3) (hst : M.2.1 104 (r.length + 1) = zI ((o : Int) + ((rPl N c : Nat) : Int))) :
    ∃ M' y, Ev G (d + 1) 101 [.ref 91, .int (zI ((o : Int) + ((z + 1 : Nat) : Int))), .int (zI ((o : Int) + (B.length : Int))), .int (zI ((r.length + 1 : Nat) : Int))] M (some (.int y), M') ∧ nOut M o M' y (rdN B N (c : Int) (z + 1)) := by
  have hq := h.2.2.2
  have hl : (c :: r).length ≤ 4 := hI.2.2.2.2.2.2.1
  simp only [List.length_cons] at hl
  have hs := nm_l (G := G) (d := d) (dd := r.length + 1) h (by omega) hf (show z + 1 ≤ B.length by omega) 4 0 0 rfl
  rw [show decide (0 = 0) = true from rfl, show z + 1 + 0 = z + 1 from rfl] at hs
  rw [rdN_lt2]
  cases e : lt2 B 4 true 0 (z + 1) with
  | inl f =>
    rw [e] at hs
    obtain ⟨y, hs⟩ := hs
    exact ⟨_, y, ev_of (q := mt_M_readName) rfl (ev_M_readName_0 hs), rfl⟩
  | inr v =>
    obtain ⟨x, q⟩ := v
    rw [e] at hs
    have hx := lt2_ok e
    obtain ⟨n, n1, n2, n3, n4, n5, n6⟩ := NmAt_end hx
    have hqn : q = z + 1 + n := by omega
    subst hqn
    obtain ⟨o1, o2, o3, o4, ⟨ks, o5, o6⟩, o7⟩ := hI.2.2.2.1
    rw [List.append_nil] at o5
    have hk : ∀ k ∈ ks, NdOk B N k ∧ rPa N k = (c : Int) := fun k hk => by
      rw [← o5] at hk
      obtain ⟨k1, k2⟩ := kids_lt hk
      exact ⟨hI.2.2.1 k k1, k2⟩
    have hdup := nm_dup (G := G) (d := d) (dd := r.length + 1) h hf ht hx n6 rfl ks _ hk o6 none none none
    have e82 := ev_M_readName_82 (G := G) (d := d + 1) (a0 := 91) (x1 := zI ((o : Int) + ((z + 1 : Nat) : Int))) (x2 := zI ((o : Int) + (B.length : Int))) (x3 := zI ((r.length + 1 : Nat) : Int)) (x4 := zI ((o : Int) + ((z + 1 + n : Nat) : Int))) (u5 := none) (u6 := none) (u7 := none) (u8 := none) (M := M) (r := (some (.int (zI ((o : Int) + ((z + 1 + n + 1 : Nat) : Int)))), if ks.any (fun k => decide (rNm N k = x)) = true then am_setI M 91 20 (zI ((o : Int) + ((z + 1 : Nat) : Int))) else M)) ⟨okF_W h.1 rfl, okA_z h.1 (show sg0[91 + 13]? = some (.inr (0, 6)) from rfl) (by omega) (by omega), by
      rw [zI_nat (by omega), show M.2.1 (91 + 13) (r.length + 1) = zI ((o : Int) + ((rPl N c : Nat) : Int)) from hst, zI_add, show (o : Int) + ((rPl N c : Nat) : Int) + 1 = (o : Int) + ((rPl N c + 1 : Nat) : Int) by omega]
      exact hdup⟩
    refine ⟨_, _, ev_of (q := mt_M_readName) rfl (ev_M_readName_0 (hs _ e82)), ?_⟩
    dsimp only
    rw [hasNm_kids, o5]
    by_cases cc : ks.any (fun k => decide (rNm N k = x)) = true
    · rw [if_pos cc, if_pos cc]
      exact rfl
    · rw [if_neg cc, if_neg cc]
      exact ⟨rfl, rfl⟩
end MNAME2
