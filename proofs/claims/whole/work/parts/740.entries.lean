/-! ENTRIES: the class's and the reference's method -/
theorem tsh42 : treeSh 42 := ⟨rfl, fun i h1 h2 => by
  have : i = 1 ∨ i = 2 ∨ i = 3 ∨ i = 4 ∨ i = 5 ∨ i = 6 := by omega
  rcases this with rfl | rfl | rfl | rfl | rfl | rfl <;> rfl⟩
theorem tsh60 : treeSh 60 := ⟨rfl, fun i h1 h2 => by
  have : i = 1 ∨ i = 2 ∨ i = 3 ∨ i = 4 ∨ i = 5 ∨ i = 6 := by omega
  rcases this with rfl | rfl | rfl | rfl | rfl | rfl <;> rfl⟩
def nds (B : List Int) : List Nd := match rdD B with
  | .inr N => N
  | .inl _ => []
theorem nds_of {B : List Int} {N : List Nd} (h : rdD B = .inr N) : nds B = N := by unfold nds; rw [h]
theorem okD.rd {D : List Dc} {k : Nat} (h : okD D) (hk : k < D.length) : rdD (dB D k) = .inr (nds (dB D k)) := by
  obtain ⟨N, e⟩ := (h.1 k hk).1
  rw [nds_of e]
  exact e
theorem okD.acc {D : List Dc} {k : Nat} (h : okD D) (hk : k < D.length) : Acc (dB D k) 3 0 (nds (dB D k)) := rdD_acc (h.rd hk)
/-- the entries of the documents from k on -/
def entS (D : List Dc) (p : List Int) : Nat → Nat → Nat
  | 0, _ => 0
  | m + 1, k => entN (dB D k) (nds (dB D k)) p + entS D p m (k + 1)
def sp_entries (S : St_) (i : Int) : Int := if 0 ≤ i ∧ i < 2 ∧ 0 < (S.ix i.toNat).length then (entS S.docs (pks (S.ix i.toNat)) S.docs.length 0 : Nat) else -1
section PENT
variable {G : Nat × (Nat → Int32)} {d : Nat} {S : St_}
/-- the class reads a document of its store -/
theorem rd_doc {M : Mm_} {D : List Dc} {k : Nat} (hW : WM M) (h : cSto M D) (hD : okD D) (hk : k < D.length) : ∃ R x M', M.2.2 6 k = some R ∧ isRw R ∧ rowIs M R 60 (dB D k) ∧ Ev G (d + 4) 20 [.ref 42, .ref R] M (some (.int x), M') ∧ dT M' R 60 (dB D k) (nds (dB D k)) ∧ Fx (pT 42) M M' := by
  obtain ⟨h1, h2, R, ⟨h3, h4⟩, h5⟩ := h
  obtain ⟨w1, w2⟩ := h5 k hk
  obtain ⟨r1, r2⟩ := h3 k (by omega)
  have r3 := r2
  unfold isRw at r3
  have hl := (hD.1 k hk).2.1
  obtain ⟨M', e, f, t1, t2⟩ := e_T_readDocument (G := G) (d := d) hW tsh42 w1 (by omega) (by omega)
  exact ⟨R k, _, M', r1, r2, w1, e, ⟨t1, t2 _ (hD.rd hk), hD.acc hk⟩, f.x rfl hW⟩
theorem pT_gW {a j : Nat} (h : pT 42 a j) : gW a j := by unfold pT at h; unfold gW; omega
theorem pTr_gW {a j : Nat} (h : pTr a j) : gW a j := by unfold pTr at h; unfold gW; omega
theorem pent_l {i : Nat} (hi : i < 2) (hP : 0 < (S.ix i).length) (hO : Ok S) : ∀ (m k s : Nat) (M : Mm_), k + m = S.docs.length → RepC M S → ∃ M', EvC G (d + 5) m_P_entries 27 [some (.ref 0), some (.int (zI (i : Int))), some (.int (zI (s : Int))), some (.int (zI (k : Int)))] [] M (some (.int (zI ((s + entS S.docs (pks (S.ix i)) m k : Nat) : Int))), M') ∧ Fx gW M M'
  | 0, k, s, M, hk, h => by
    have hl := h.2.2.2.1.1
    refine ⟨M, ev_P_entries_27 ?_, Fx.rf h.1⟩
    rw [show M.2.1 (0 + 5) 2 = zI (S.docs.length : Int) from h.2.2.2.1.2.1, if_neg (fun q => by rw [zI_lt ⟨by omega, by omega⟩ ⟨by omega, by omega⟩] at q; omega)]
    exact ⟨okF_W h.1 rfl, okF_W h.1 rfl, rfl⟩
  | m + 1, k, s, M, hk, h => by
    have hW := h.1
    have hl := h.2.2.2.1.1
    obtain ⟨R, x, M1, e1, e2, -, e3, t1, f1⟩ := rd_doc (G := G) (d := d) hW h.2.2.2.1 hO.1 (show k < S.docs.length by omega)
    have h1 := h.k f1 (fun a j q => Or.inl (pT_gW q))
    have hr := e2
    unfold isRw at hr
    obtain ⟨x1, x2⟩ := h1.2.2.2.2.1 i hi
    obtain ⟨M2, e4, t2, f2⟩ := e_L_follow (G := G) (d := d + 2) (q := R) (a := 72 + 2 * i) (by omega) (by omega) t1 x2
    have f2x := f2.x h1.1
    have h2 := h1.k f2x (fun a j q => Or.inl (pTr_gW q))
    have t1' := t1.kept f2 (by omega)
    have e5 := e_L_entryTotal (G := G) (d := d + 1) t1' hP t2
    obtain ⟨M3, e6, f3⟩ := pent_l hi hP hO m (k + 1) (s + entN (dB S.docs k) (nds (dB S.docs k)) (pks (S.ix i))) M2 (by omega) h2
    refine ⟨M3, ev_P_entries_27 ?_, ((f1.up (fun _ _ => pT_gW)).tr (f2x.up (fun _ _ => pTr_gW))).tr f3⟩
    rw [show M.2.1 (0 + 5) 2 = zI (S.docs.length : Int) from h.2.2.2.1.2.1, if_pos ((zI_lt ⟨by omega, by omega⟩ ⟨by omega, by omega⟩).mpr (by omega)), zI_nat (show k < 2147483648 by omega), show M.2.2 (0 + 5 + 1) k = some R from e1, Option.getD_some]
    refine ⟨okF_W hW rfl, okF_W hW rfl, okF_W hW rfl, okF_W hW rfl, okF_W hW rfl, okQ_6 hW (by omega), rfl, okO_W hW rfl, _, _, e3, ev_P_entries_54 ?_⟩
    rw [zI_nat (show i < 2147483648 by omega), show M1.2.2 (0 + 40) i = some (72 + 2 * i) from x1, Option.getD_some]
    refine ⟨okF_W h1.1 rfl, okF_W h1.1 rfl, okF_W h1.1 rfl, okQ_40 h1.1 hi, rfl, okO_W h1.1 rfl, _, e4, ev_P_entries_72 ⟨okF_W h2.1 rfl, okF_W h2.1 rfl, okO_W h2.1 rfl, _, _, e5, ev_P_entries_84 ?_⟩⟩
    rw [zI_add, zI_add, show (k : Int) + 1 = ((k + 1 : Nat) : Int) by omega, show (s : Int) + (entN (dB S.docs k) (nds (dB S.docs k)) (pks (S.ix i)) : Int) = ((s + entN (dB S.docs k) (nds (dB S.docs k)) (pks (S.ix i)) : Nat) : Int) by omega, show s + entS S.docs (pks (S.ix i)) (m + 1) k = s + entN (dB S.docs k) (nds (dB S.docs k)) (pks (S.ix i)) + entS S.docs (pks (S.ix i)) m (k + 1) by rw [entS]; omega]
    exact e6
theorem e_P_entries {M : Mm_} {i : Int} (h : RepC M S) (hO : Ok S) (hi : rg i) : ∃ M', Ev G (d + 5) 42 [.ref 0, .int (zI i)] M (some (.int (zI (sp_entries S i))), M') ∧ RepC M' S ∧ Fx gC M M' := by
  have hW := h.1
  unfold sp_entries
  by_cases c0 : i < 0
  · rw [if_neg (by omega)]
    refine ⟨M, ev_of (q := mt_P_entries) rfl (ev_P_entries_0 ?_), h, Fx.rf hW⟩
    rw [zI_0, if_pos ((zI_lt hi ⟨by omega, by omega⟩).mpr c0)]
  · by_cases c2 : i < 2
    · obtain ⟨n, rfl⟩ : ∃ n : Nat, i = (n : Int) := ⟨i.toNat, by omega⟩
      rw [Int.toNat_natCast]
      obtain ⟨x1, x2⟩ := h.2.2.2.2.1 n (by omega)
      have xl := x2.2.2.1
      have pre : ∀ r, (if zI ((S.ix n).length : Int) = zI 0 then (r = ((some (.int (zI (-1))), M) : Out_)) else (EvC G (d + 5) m_P_entries 27 [some (.ref 0), some (.int (zI (n : Int))), some (.int (zI 0)), some (.int (zI 0))] [] M r)) → Ev G (d + 5) 42 [.ref 0, .int (zI (n : Int))] M r := fun r hr => by
        refine ev_of (q := mt_P_entries) rfl (ev_P_entries_0 ?_)
        rw [zI_0, if_neg (fun q => c0 ((zI_lt hi ⟨by omega, by omega⟩).mp q)), if_pos ((zI_lt hi ⟨by omega, by omega⟩).mpr c2), zI_nat (show n < 2147483648 by omega), show M.2.2 (0 + 40) n = some (72 + 2 * n) from x1, Option.getD_some, x2.2.2.2.1]
        exact ⟨okF_W hW rfl, okQ_40 hW (by omega), rfl, okF_W hW x2.1, hr⟩
      by_cases cl : (S.ix n).length = 0
      · rw [if_neg (by omega)]
        refine ⟨M, pre _ ?_, h, Fx.rf hW⟩
        rw [cl, if_pos (show zI ((0 : Nat) : Int) = zI 0 from rfl)]
      · rw [if_pos (by omega)]
        obtain ⟨M', e, f⟩ := pent_l (G := G) (d := d) (i := n) (by omega) (by omega) hO S.docs.length 0 0 M (Nat.zero_add _) h
        rw [Nat.zero_add] at e
        refine ⟨M', pre _ ?_, h.k f (fun _ _ q => Or.inl q), f.up (fun a j q => by unfold gW at q; unfold gC; omega)⟩
        rw [if_neg (zI_ne ⟨by omega, by omega⟩ ⟨by omega, by omega⟩ (by omega))]
        exact e
    · rw [if_neg (by omega)]
      refine ⟨M, ev_of (q := mt_P_entries) rfl (ev_P_entries_0 ?_), h, Fx.rf hW⟩
      rw [zI_0, if_neg (fun q => c0 ((zI_lt hi ⟨by omega, by omega⟩).mp q)), if_neg (fun q => c2 ((zI_lt hi ⟨by omega, by omega⟩).mp q))]
end PENT
section MENT
variable {G : Nat × (Nat → Int32)} {d o : Nat} {M : Mm_} {B : List Int} {N : List Nd} {S : St_}
theorem men_j' {L : List Nat} {x1 x3 : Int32} {k s : Nat} {r : Out_} (h : mIn M o B) (hA : Acc B 3 0 N) (hL : cur M o N L) (hl : L.length ≤ 128) (hLN : ∀ z ∈ L, z < N.length) (hk : k < L.length) : ∀ (m j : Nat) (f : Int), j + m = k → (f = 0 ∨ f = 1) →
    (¬ (f = 1 ∧ ∀ i, j ≤ i → i < k → ¬ vl B N (L.getD i 0) = vl B N (L.getD k 0)) → ∀ u6 u7 : Option Value, EvC G (d + 2) m_M_entries 46 [some (.ref 91), some (.int x1), some (.int (zI (s : Int))), some (.int x3), some (.int (zI (L.length : Int))), some (.int (zI ((k + 1 : Nat) : Int))), u6, u7] [] M r) →
    ((f = 1 ∧ ∀ i, j ≤ i → i < k → ¬ vl B N (L.getD i 0) = vl B N (L.getD k 0)) → ∀ u6 u7 : Option Value, EvC G (d + 2) m_M_entries 46 [some (.ref 91), some (.int x1), some (.int (zI ((s + 1 : Nat) : Int))), some (.int x3), some (.int (zI (L.length : Int))), some (.int (zI ((k + 1 : Nat) : Int))), u6, u7] [] M r) →
    EvC G (d + 2) m_M_entries 85 [some (.ref 91), some (.int x1), some (.int (zI (s : Int))), some (.int x3), some (.int (zI (L.length : Int))), some (.int (zI (k : Int))), some (.int (zI f)), some (.int (zI (j : Int)))] [] M r
  | 0, j, f, hj, hf, H0, H1 => by
    refine ev_M_entries_85 ?_
    have ek : zI (k : Int) + zI 1 = zI ((k + 1 : Nat) : Int) := by rw [zI_add, show (k : Int) + 1 = ((k + 1 : Nat) : Int) by omega]
    have es : zI (s : Int) + zI 1 = zI ((s + 1 : Nat) : Int) := by rw [zI_add, show (s : Int) + 1 = ((s + 1 : Nat) : Int) by omega]
    rw [if_neg (fun q => by rw [zI_lt ⟨by omega, by omega⟩ ⟨by omega, by omega⟩] at q; omega), ek, es, zI_0]
    rcases hf with rfl | rfl
    · rw [if_pos rfl]
      exact H0 (fun q => absurd q.1 (by decide)) _ _
    · rw [if_neg z10]
      exact H1 ⟨rfl, fun i h1 h2 => by omega⟩ _ _
  | m + 1, j, f, hj, hf, H0, H1 => by
    have ej : zI (j : Int) + zI 1 = zI ((j + 1 : Nat) : Int) := by rw [zI_add, show (j : Int) + 1 = ((j + 1 : Nat) : Int) by omega]
    have z0 : EvC G (d + 2) m_M_entries 85 [some (.ref 91), some (.int x1), some (.int (zI (s : Int))), some (.int x3), some (.int (zI (L.length : Int))), some (.int (zI (k : Int))), some (.int (zI 0)), some (.int (zI ((j + 1 : Nat) : Int)))] [] M r ∨ (f = 1 ∧ ∀ i, j ≤ i → i < k → ¬ vl B N (L.getD i 0) = vl B N (L.getD k 0)) := by
      by_cases c : f = 1 ∧ ∀ i, j ≤ i → i < k → ¬ vl B N (L.getD i 0) = vl B N (L.getD k 0)
      · exact Or.inr c
      · exact Or.inl (men_j' h hA hL hl hLN hk m (j + 1) 0 (by omega) (Or.inl rfl) (fun _ => H0 c) (fun q => absurd q.1 (by decide)))
    refine ev_M_entries_85 ?_
    rw [if_pos ((zI_lt ⟨by omega, by omega⟩ ⟨by omega, by omega⟩).mpr (by omega)), zI_0]
    rcases hf with rfl | rfl
    · rw [if_pos rfl, ej]
      rcases z0 with z0 | z0
      · exact z0
      · exact absurd z0.1 (by decide)
    · have hjN := hLN _ (getD_memN (L := L) (i := j) (by omega))
      have hkN := hLN _ (getD_memN (L := L) (i := k) (by omega))
      obtain ⟨w1, w2, w3⟩ := nd_w hA hjN
      obtain ⟨v1, v2, v3⟩ := nd_w hA hkN
      obtain ⟨j1, j2⟩ := hL j (by omega)
      obtain ⟨k1, k2⟩ := hL k (by omega)
      have ee := e_M_equal (G := G) (d := d) h h v1 w1 v2 w2 v3 w3
      rw [if_neg z10, zI_nat (show j < 2147483648 by omega), zI_nat (show k < 2147483648 by omega), show M.2.1 (91 + 9) j = _ from j1, show M.2.1 (91 + 10) j = _ from j2, show M.2.1 (91 + 9) k = _ from k1, show M.2.1 (91 + 10) k = _ from k2]
      have a9 : ∀ z, z < 128 → am_okA M (91 + 9) 0 (zI ((z : Nat) : Int)) = true := fun z hz => okA_z h.1 (show sg0[91 + 9]? = some (.inr (0, 128)) from rfl) hz (by omega)
      have a10 : ∀ z, z < 128 → am_okA M (91 + 10) 0 (zI ((z : Nat) : Int)) = true := fun z hz => okA_z h.1 (show sg0[91 + 10]? = some (.inr (0, 128)) from rfl) hz (by omega)
      refine ⟨okF_W h.1 rfl, a9 k (by omega), okF_W h.1 rfl, a10 k (by omega), okF_W h.1 rfl, a9 j (by omega), okF_W h.1 rfl, a10 j (by omega), okO_W h.1 rfl, _, _, ee, ev_M_entries_129 ?_⟩
      by_cases c : vl B N (L.getD k 0) = vl B N (L.getD j 0)
      · rw [if_pos (show val B (rTy N (L.getD k 0)) (rPl N (L.getD k 0)) = val B (rTy N (L.getD j 0)) (rPl N (L.getD j 0)) from c), zI_0, if_neg z10, ej]
        rcases z0 with z0 | z0
        · exact z0
        · exact absurd c.symm (z0.2 j (Nat.le_refl _) (by omega))
      · rw [if_neg (show ¬ val B (rTy N (L.getD k 0)) (rPl N (L.getD k 0)) = val B (rTy N (L.getD j 0)) (rPl N (L.getD j 0)) from c), zI_0, if_pos rfl, ej]
        have iff : (∀ i, j ≤ i → i < k → ¬ vl B N (L.getD i 0) = vl B N (L.getD k 0)) ↔ (∀ i, j + 1 ≤ i → i < k → ¬ vl B N (L.getD i 0) = vl B N (L.getD k 0)) := by
          constructor
          · exact fun q i h1 h2 => q i (by omega) h2
          · intro q i h1 h2
            rcases Nat.lt_or_ge j i with h4 | h4
            · exact q i (by omega) h2
            · have : i = j := by omega
              subst this
              exact fun e => c e.symm
        exact men_j' h hA hL hl hLN hk m (j + 1) 1 (by omega) (Or.inr rfl) (fun q => H0 (fun w => q ⟨w.1, iff.mp w.2⟩)) (fun q => H1 ⟨q.1, iff.mpr q.2⟩)
theorem memN_map {done rest : List Nat} {x : Int × List Int} : x ∈ done.map (vl B N) ↔ ∃ i, i < done.length ∧ vl B N ((done ++ rest).getD i 0) = x := by
  rw [List.mem_map]
  constructor
  · rintro ⟨z, hz, e⟩
    obtain ⟨i, hi, e2⟩ := List.getElem_of_mem hz
    refine ⟨i, hi, ?_⟩
    rw [List.getD_eq_getElem?_getD, List.getElem?_append_left hi, List.getElem?_eq_getElem hi, Option.getD_some, e2]
    exact e
  · rintro ⟨i, hi, e⟩
    rw [List.getD_eq_getElem?_getD, List.getElem?_append_left hi, List.getElem?_eq_getElem hi, Option.getD_some] at e
    exact ⟨_, List.getElem_mem hi, e⟩
theorem men_i {L : List Nat} {x1 : Int32} {di : Nat} {r : Out_} (h : mIn M o B) (hA : Acc B 3 0 N) (hL : cur M o N L) (hl : L.length ≤ 128) (hLN : ∀ z ∈ L, z < N.length) : ∀ (rest done : List Nat) (s : Nat) (u6 u7 : Option Value), L = done ++ rest →
    (∀ u4 u5 u6 u7 : Option Value, EvC G (d + 2) m_M_entries 24 [some (.ref 91), some (.int x1), some (.int (zI ((s + (nw (vl B N) (pln N) done rest).length : Nat) : Int))), some (.int (zI ((di + 1 : Nat) : Int))), u4, u5, u6, u7] [] M r) →
    EvC G (d + 2) m_M_entries 46 [some (.ref 91), some (.int x1), some (.int (zI (s : Int))), some (.int (zI (di : Int))), some (.int (zI (L.length : Int))), some (.int (zI (done.length : Int))), u6, u7] [] M r
  | [], done, s, u6, u7, e, H => by
    have hlen : L.length = done.length := by rw [e, List.append_nil]
    refine ev_M_entries_46 ?_
    rw [if_neg (fun q => by rw [zI_lt ⟨by omega, by omega⟩ ⟨by omega, by omega⟩] at q; omega), zI_add, show (di : Int) + 1 = ((di + 1 : Nat) : Int) by omega]
    exact H _ _ _ _
  | z :: rest, done, s, u6, u7, e, H => by
    have hW := h.1
    have hlen : L.length = done.length + (rest.length + 1) := by rw [e, List.length_append, List.length_cons]
    have ez : L.getD done.length 0 = z := getD_mid e
    have hzN : z < N.length := hLN z (by rw [e]; simp)
    obtain ⟨v1, v2, v3⟩ := nd_w hA hzN
    have k1 : M.2.1 (91 + 9) done.length = zI (rTy N z) := by have := (hL done.length (by omega)).1; rw [ez] at this; exact this
    have e' : L = (done ++ [z]) ++ rest := by rw [e, List.append_assoc]; rfl
    have el : ((done ++ [z]).length : Nat) = done.length + 1 := by rw [List.length_append, List.length_singleton]
    have a9 : am_okA M (91 + 9) 0 (zI (done.length : Int)) = true := okA_z h.1 (show sg0[91 + 9]? = some (.inr (0, 128)) from rfl) (by omega) (by omega)
    have nx : ∀ s' : Nat, (s' + (nw (vl B N) (pln N) (done ++ [z]) rest).length = s + (nw (vl B N) (pln N) done (z :: rest)).length) → ∀ u6 u7 : Option Value, EvC G (d + 2) m_M_entries 46 [some (.ref 91), some (.int x1), some (.int (zI (s' : Int))), some (.int (zI (di : Int))), some (.int (zI (L.length : Int))), some (.int (zI ((done.length + 1 : Nat) : Int))), u6, u7] [] M r := fun s' hs' u6 u7 => by
      have := men_i (di := di) h hA hL hl hLN rest (done ++ [z]) s' u6 u7 e' (fun u4 u5 u6 u7 => by rw [hs']; exact H u4 u5 u6 u7)
      rw [el] at this
      exact this
    have fin : ∀ f : Int, (f = 0 ∨ f = 1) → (f = 1 ↔ pln N z = true) → EvC G (d + 2) m_M_entries 85 [some (.ref 91), some (.int x1), some (.int (zI (s : Int))), some (.int (zI (di : Int))), some (.int (zI (L.length : Int))), some (.int (zI (done.length : Int))), some (.int (zI f)), some (.int (zI 0))] [] M r := fun f hf hp => by
      have key : (f = 1 ∧ ∀ i, 0 ≤ i → i < done.length → ¬ vl B N (L.getD i 0) = vl B N (L.getD done.length 0)) ↔ (pln N z = true ∧ vl B N z ∉ done.map (vl B N)) := by
        rw [ez, e, memN_map (rest := z :: rest), hp]
        constructor
        · exact fun q => ⟨q.1, fun ⟨i, h1, h2⟩ => q.2 i (Nat.zero_le _) h1 h2⟩
        · exact fun q => ⟨q.1, fun i _ h1 h2 => q.2 ⟨i, h1, h2⟩⟩
      refine men_j' h hA hL hl hLN (show done.length < L.length by omega) done.length 0 f (Nat.zero_add _) hf (fun q => nx s ?_) (fun q => nx (s + 1) ?_)
      · rw [nw, if_neg (fun w => q (key.mpr w))]
      · rw [nw, if_pos (key.mp q), List.length_cons]
        omega
    refine ev_M_entries_46 ?_
    rw [if_pos ((zI_lt ⟨by omega, by omega⟩ ⟨by omega, by omega⟩).mpr (by omega)), zI_nat (show done.length < 2147483648 by omega), k1]
    refine ⟨okF_W hW rfl, a9, ?_⟩
    by_cases c3 : rTy N z = 3
    · rw [if_pos (by rw [c3])]
      exact fin 0 (Or.inl rfl) ⟨fun q => absurd q (by decide), fun q => absurd c3 (of_decide_eq_true q).1⟩
    · rw [if_neg (zI_ne ⟨by omega, by omega⟩ ⟨by omega, by omega⟩ c3)]
      refine ⟨okF_W hW rfl, a9, ?_⟩
      by_cases c4 : rTy N z = 4
      · rw [if_pos (by rw [c4])]
        exact fin 0 (Or.inl rfl) ⟨fun q => absurd q (by decide), fun q => absurd c4 (of_decide_eq_true q).2⟩
      · rw [if_neg (zI_ne ⟨by omega, by omega⟩ ⟨by omega, by omega⟩ c4)]
        exact fin 1 (Or.inr rfl) ⟨fun _ => decide_eq_true ⟨c3, c4⟩, fun _ => rfl⟩
end MENT
section MENT2
variable {G : Nat × (Nat → Int32)} {d : Nat} {S : St_}
theorem pCm_gV {a j : Nat} (h : pCm a j) : gV a j := by unfold pCm at h; unfold gV; omega
theorem mSto.at {M : Mm_} {D : List Dc} {k : Nat} (hW : WM M) (h : mSto M D) (hD : okD D) (hk : k < D.length) : mIn M (64 * k) (dB D k) := by
  have hl := (hD.1 k hk).2.1
  have := h.1
  exact ⟨hW, (hD.1 k hk).2.2.1, (h.2.2 k hk).1, by omega⟩
theorem ment_l {i : Nat} (hi : i < 2) (hO : Ok S) : ∀ (m k s : Nat) (M : Mm_), k + m = S.docs.length → RepM M S → ∃ M', (∀ u4 u5 u6 u7 : Option Value, EvC G (d + 7) m_M_entries 24 [some (.ref 91), some (.int (zI (i : Int))), some (.int (zI (s : Int))), some (.int (zI (k : Int))), u4, u5, u6, u7] [] M (some (.int (zI ((s + entS S.docs (pks (S.ix i)) m k : Nat) : Int))), M')) ∧ Fx gV M M'
  | 0, k, s, M, hk, h => by
    have hl := h.2.2.2.1.1
    refine ⟨M, fun u4 u5 u6 u7 => ev_M_entries_24 ?_, Fx.rf h.1⟩
    rw [h.2.2.2.1.2.1, if_neg (fun q => by rw [zI_lt ⟨by omega, by omega⟩ ⟨by omega, by omega⟩] at q; omega)]
    exact ⟨okF_W h.1 rfl, rfl⟩
  | m + 1, k, s, M, hk, h => by
    have hW := h.1
    have hl := h.2.2.2.1.1
    have hk' : k < S.docs.length := by omega
    have hA := hO.1.acc hk'
    have h60 := (hO.1.1 k hk').2.1
    obtain ⟨M1, e1, c1, f1⟩ := e_M_gather (G := G) (d := d) (h.2.2.2.1.at hW hO.1 hk') hA (by omega) (h.2.2.2.2.1 i hi) (by omega)
    have f1x := (f1.x hW).up (fun _ _ => pCm_gV)
    have h1 := h.k hO f1x (fun a j q => Or.inl q)
    have gl := gath_len hA (show (dB S.docs k).length ≤ 64 by omega) (p := pks (S.ix i))
    obtain ⟨M2, e2, f2⟩ := ment_l hi hO m (k + 1) (s + entN (dB S.docs k) (nds (dB S.docs k)) (pks (S.ix i))) M1 (by omega) h1
    refine ⟨M2, fun u4 u5 u6 u7 => ev_M_entries_24 ?_, f1x.tr f2⟩
    rw [h.2.2.2.1.2.1, if_pos ((zI_lt ⟨by omega, by omega⟩ ⟨by omega, by omega⟩).mpr (by omega)), zI_mul, show (64 : Int) * (k : Int) = ((64 * k : Nat) : Int) by omega]
    refine ⟨okF_W hW rfl, okO_W hW rfl, _, _, e1, ev_M_entries_41 ?_⟩
    refine men_i (d := d + 5) (di := k) (h1.2.2.2.1.at h1.1 hO.1 hk') hA c1 gl (fun z hz => gath_lt hA hz) _ [] s _ _ rfl (fun u4 u5 u6 u7 => ?_)
    have := e2 u4 u5 u6 u7
    rw [show s + entS S.docs (pks (S.ix i)) (m + 1) k = s + entN (dB S.docs k) (nds (dB S.docs k)) (pks (S.ix i)) + entS S.docs (pks (S.ix i)) m (k + 1) by rw [entS]; omega]
    exact this
theorem e_M_entries {M : Mm_} {i : Int} (h : RepM M S) (hO : Ok S) (hi : rg i) : ∃ M', Ev G (d + 7) 113 [.ref 91, .int (zI i)] M (some (.int (zI (sp_entries S i))), M') ∧ RepM M' S ∧ Fx gM M M' := by
  have hW := h.1
  unfold sp_entries
  by_cases c : 0 ≤ i ∧ i ≤ 1
  · obtain ⟨n, rfl⟩ : ∃ n : Nat, i = (n : Int) := ⟨i.toNat, by omega⟩
    rw [Int.toNat_natCast]
    have x2 := h.2.2.2.2.1 n (by omega)
    have xl := x2.1
    have pre : ∀ r, (if zI ((S.ix n).length : Int) = zI 0 then (r = ((some (.int (zI (-1))), M) : Out_)) else (EvC G (d + 7) m_M_entries 24 [some (.ref 91), some (.int (zI (n : Int))), some (.int (zI 0)), some (.int (zI 0)), none, none, none, none] [] M r)) → Ev G (d + 7) 113 [.ref 91, .int (zI (n : Int))] M r := fun r hr => by
      refine ev_of (q := mt_M_entries) rfl (ev_M_entries_0 ⟨_, _, e_M_in_t hi ⟨by omega, by omega⟩ ⟨by omega, by omega⟩ c, ev_M_entries_6 ?_⟩)
      rw [zI_0, if_neg z10, zI_nat (show n < 2147483648 by omega), show M.2.1 (91 + 4) n = zI ((S.ix n).length : Int) from x2.2.1]
      exact ⟨okF_W hW rfl, okA_z hW (show sg0[91 + 4]? = some (.inr (0, 6)) from rfl) (by omega) (by omega), hr⟩
    by_cases cl : (S.ix n).length = 0
    · rw [if_neg (by omega)]
      refine ⟨M, pre _ ?_, h, Fx.rf hW⟩
      rw [cl, if_pos (show zI ((0 : Nat) : Int) = zI 0 from rfl)]
    · rw [if_pos (by omega)]
      obtain ⟨M', e, f⟩ := ment_l (G := G) (d := d) (i := n) (by omega) hO S.docs.length 0 0 M (Nat.zero_add _) h
      rw [Nat.zero_add] at e
      refine ⟨M', pre _ ?_, h.k hO f (fun _ _ q => Or.inl q), f.up (fun a j q => by unfold gV at q; unfold gM; omega)⟩
      rw [if_neg (zI_ne ⟨by omega, by omega⟩ ⟨by omega, by omega⟩ (by omega))]
      exact e none none none none
  · rw [if_neg (by omega)]
    refine ⟨M, ev_of (q := mt_M_entries) rfl (ev_M_entries_0 ⟨_, _, e_M_in_f hi ⟨by omega, by omega⟩ ⟨by omega, by omega⟩ c, ev_M_entries_6 ?_⟩), h, Fx.rf hW⟩
    rw [zI_0, if_pos rfl]
end MENT2
