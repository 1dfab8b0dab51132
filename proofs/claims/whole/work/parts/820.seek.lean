/-! SEEKING: the class -/
/-- condition c holds on document k -/
def cH (S : St_) (k c : Nat) : Prop := hHolds (dB S.docs k) (nds (dB S.docs k)) (cD S.cnd c).1 (cD S.cnd c).2.1 (cD S.cnd c).2.2
/-- document k is looked at -/
def sn (S : St_) (k : Nat) : Prop := ldr S = -1 ∨ cH S k (ldr S).toNat
def mtc (S : St_) (k : Nat) : Prop := sn S k ∧ ∀ c, c < S.cnd.length → cH S k c
noncomputable def sL (S : St_) (k : Nat) : List Nat := (List.range k).filter (fun i => dcd (sn S i))
noncomputable def mL (S : St_) (k : Nat) : List Nat := (List.range k).filter (fun i => dcd (mtc S i))
theorem sL_succ {S : St_} {k : Nat} : (sn S k → sL S (k + 1) = sL S k ++ [k]) ∧ (¬ sn S k → sL S (k + 1) = sL S k) := by
  unfold sL
  rw [List.range_succ, List.filter_append]
  constructor
  · intro h
    rw [List.filter_cons_of_pos (p := fun i => dcd (sn S i)) (a := k) (dcd_t h)]
    rfl
  · intro h
    rw [List.filter_cons_of_neg (p := fun i => dcd (sn S i)) (a := k) (dcd_f h)]
    simp
theorem mL_succ {S : St_} {k : Nat} : (mtc S k → mL S (k + 1) = mL S k ++ [k]) ∧ (¬ mtc S k → mL S (k + 1) = mL S k) := by
  unfold mL
  rw [List.range_succ, List.filter_append]
  constructor
  · intro h
    rw [List.filter_cons_of_pos (p := fun i => dcd (mtc S i)) (a := k) (dcd_t h)]
    rfl
  · intro h
    rw [List.filter_cons_of_neg (p := fun i => dcd (mtc S i)) (a := k) (dcd_f h)]
    simp
theorem mL_len {S : St_} {k : Nat} : (mL S k).length ≤ k := by
  unfold mL
  exact Nat.le_trans (List.length_filter_le _ _) (by rw [List.length_range]; exact Nat.le_refl _)
theorem sL_len {S : St_} {k : Nat} : (sL S k).length ≤ k := by
  unfold sL
  exact Nat.le_trans (List.length_filter_le _ _) (by rw [List.length_range]; exact Nat.le_refl _)
theorem mL_lt {S : St_} {k i : Nat} (h : i ∈ mL S k) : i < k := by
  unfold mL at h
  exact List.mem_range.mp (List.mem_filter.mp h).1
/-- what a seeking leaves of the state -/
noncomputable def sk (S : St_) : St_ := (S.sE ((sL S S.docs.length).length))
noncomputable def sp_find (S : St_) : Int × St_ := (((mL S S.docs.length).length : Int), ((sk S).sF ((mL S S.docs.length).map (dN S.docs))))
def cMt (M : Mm_) (L : List Nat) : Prop := M.2.1 0 10 = zI (L.length : Int) ∧ ∀ i, i < L.length → M.2.1 70 i = zI ((L.getD i 0 : Nat) : Int)
theorem getD_snoc {L : List Nat} {x i : Nat} (h : i < L.length) : (L ++ [x]).getD i 0 = L.getD i 0 := by
  rw [List.getD_eq_getElem?_getD, List.getElem?_append_left h, List.getD_eq_getElem?_getD]
theorem getD_last {L : List Nat} {x : Nat} : (L ++ [x]).getD L.length 0 = x := by
  rw [List.getD_eq_getElem?_getD, List.getElem?_append_right (Nat.le_refl _), Nat.sub_self]
  rfl
section SEEK
variable {G : Nat × (Nat → Int32)} {d : Nat} {S : St_}
def pE (a j : Nat) : Prop := gW a j ∨ (a = 0 ∧ j = 11)
theorem RepC.ex {P : Nat → Nat → Prop} {M M' : Mm_} {e : Nat} (h : RepC M S) (f : Fx P M M') (hp : ∀ a j, P a j → pE a j) (he : M'.2.1 0 11 = zI (e : Int)) : RepC M' (S.sE (e)) := by
  obtain ⟨h0, h1, h2, h3, h4, h5, h6, h7⟩ := h
  unfold pE gW at hp
  exact ⟨f.1, h1.kx f (fun j q => by have := hp _ _ q; omega) (fun j q => by have := hp _ _ q; omega), h2.kx f (fun j q => by have := hp _ _ q; omega) (fun j q => by have := hp _ _ q; omega), h3.kx f (fun a j q => by have := hp _ _ q; omega), h4.kx f (fun a j q => by have := hp _ _ q; omega), h5.kx f (fun a j q => by have := hp _ _ q; omega), h6.kx f (fun a j q => by have := hp _ _ q; omega), he⟩
/-- the conditions of one document -/
theorem psk_c {k R : Nat} {x1 x2 : Int32} (hR : isRw R) : ∀ (m c : Nat) (a : Int) (M : Mm_), c + m = S.cnd.length → (a = 0 ∨ a = 1) → (a = 1 ↔ ∀ c', c' < c → cH S k c') → dT M R 60 (dB S.docs k) (nds (dB S.docs k)) → cCnd M S.cnd → ∃ (M' : Mm_) (a' : Int) (x4 : Int32), (a' = 0 ∨ a' = 1) ∧ (a' = 1 ↔ ∀ c', c' < S.cnd.length → cH S k c') ∧ Fx pTr M M' ∧ ∀ r, EvC G (d + 5) m_P_seek 126 [some (.ref 0), some (.int x1), some (.int x2), some (.int (zI a')), some (.int x4)] [] M' r → EvC G (d + 5) m_P_seek 88 [some (.ref 0), some (.int x1), some (.int x2), some (.int (zI a)), some (.int (zI (c : Int)))] [] M r
  | 0, c, a, M, hc, ha, hi, h, hC => by
    obtain ⟨k1, k2, k3, k4⟩ := hC
    have hW := h.1.1
    refine ⟨M, a, zI (c : Int), ha, by rw [show S.cnd.length = c by omega]; exact hi, Fx.rf hW, fun r hr => ev_P_seek_88 ?_⟩
    rw [k2, if_neg (fun q => by rw [zI_lt ⟨by omega, by omega⟩ ⟨by omega, by omega⟩] at q; omega)]
    exact ⟨okF_W hW rfl, hr⟩
  | m + 1, c, a, M, hc, ha, hi, h, hC => by
    have hC' := hC
    obtain ⟨k1, k2, k3, k4⟩ := hC
    have hW := h.1.1
    have hr' := hR
    unfold isRw at hr'
    rcases ha with rfl | rfl
    · refine ⟨M, 0, zI (c : Int), Or.inl rfl, ⟨fun q => absurd q (by decide), fun q => hi.mpr (fun c' hc' => q c' (by omega))⟩, Fx.rf hW, fun r hr => ev_P_seek_88 ?_⟩
      rw [k2, if_pos ((zI_lt ⟨by omega, by omega⟩ ⟨by omega, by omega⟩).mpr (by omega)), zI_0, if_pos rfl]
      exact ⟨okF_W hW rfl, hr⟩
    · obtain ⟨M1, x, e, w, f⟩ := e_C_holds (G := G) (d := d) (q := R) (by omega) (show 54 < 76 + 5 * c by omega) h (k4 c (by omega))
      have fx := f.x hW
      have h1 := h.kept f (by omega)
      have C1 : cCnd M1 S.cnd := hC'.kx fx (fun a j q => by unfold pTr at q; omega)
      have ec : zI (c : Int) + zI 1 = zI ((c + 1 : Nat) : Int) := by rw [zI_add, show (c : Int) + 1 = ((c + 1 : Nat) : Int) by omega]
      have key : ∀ a1 : Int, (a1 = 0 ∨ a1 = 1) → x = zI a1 → (a1 = 1 ↔ cH S k c) → ∃ (M' : Mm_) (a' : Int) (x4 : Int32), (a' = 0 ∨ a' = 1) ∧ (a' = 1 ↔ ∀ c', c' < S.cnd.length → cH S k c') ∧ Fx pTr M M' ∧ ∀ r, EvC G (d + 5) m_P_seek 126 [some (.ref 0), some (.int x1), some (.int x2), some (.int (zI a')), some (.int x4)] [] M' r → EvC G (d + 5) m_P_seek 88 [some (.ref 0), some (.int x1), some (.int x2), some (.int (zI 1)), some (.int (zI (c : Int)))] [] M r := fun a1 h01 hx hw => by
        obtain ⟨M', a', x4, g1, g2, g3, g4⟩ := psk_c (k := k) (x1 := x1) (x2 := x2) hR m (c + 1) a1 M1 (by omega) h01 ⟨fun q c' hc' => by
          rcases Nat.lt_or_ge c' c with q1 | q1
          · exact hi.mp rfl c' q1
          · have : c' = c := by omega
            rw [this]; exact hw.mp q, fun q => hw.mpr (q c (by omega))⟩ h1 C1
        refine ⟨M', a', x4, g1, g2, fx.tr g3, fun r hr => ev_P_seek_88 ?_⟩
        rw [k2, if_pos ((zI_lt ⟨by omega, by omega⟩ ⟨by omega, by omega⟩).mpr (by omega)), zI_0, if_neg z10, zI_nat (show c < 2147483648 by omega), show M.2.2 (0 + 41) c = some (76 + 5 * c) from k3 c (by omega), Option.getD_some]
        refine ⟨okF_W hW rfl, okF_W hW rfl, okQ_41 hW (by omega), rfl, okF_W hW rfl, okF_W hW rfl, okO_W hW (cnd_sg (show c < 3 by omega)).1, _, _, e, ev_P_seek_119 ?_⟩
        rw [hx, ec]
        exact g4 r hr
      rcases w with ⟨w1, w2⟩ | ⟨w1, w2⟩
      · exact key 1 (Or.inr rfl) w2 ⟨fun _ => w1, fun _ => rfl⟩
      · exact key 0 (Or.inl rfl) w2 ⟨fun q => absurd q (by decide), fun q => absurd q w1⟩
theorem psk_l (hO : Ok S) : ∀ (m k : Nat) (M : Mm_), k + m = S.docs.length → RepC M (S.sE ((sL S k).length)) → cMt M (mL S k) → ∃ M', (∀ u3 u4 : Option Value, EvC G (d + 5) m_P_seek 17 [some (.ref 0), some (.int (zI (ldr S))), some (.int (zI (k : Int))), u3, u4] [] M (none, M')) ∧ RepC M' (sk S) ∧ cMt M' (mL S S.docs.length) ∧ Fx pE M M'
  | 0, k, M, hk, h, hM => by
    have hl : S.docs.length ≤ 16 := h.2.2.2.1.1
    have ek : S.docs.length = k := by omega
    refine ⟨M, fun u3 u4 => ev_P_seek_17 ?_, by unfold sk; rw [ek]; exact h, by rw [ek]; exact hM, Fx.rf h.1⟩
    rw [show M.2.1 (0 + 5) 2 = zI (S.docs.length : Int) from h.2.2.2.1.2.1, if_neg (fun q => by rw [zI_lt ⟨by omega, by omega⟩ ⟨by omega, by omega⟩] at q; omega)]
    exact ⟨okF_W h.1 rfl, okF_W h.1 rfl, rfl⟩
  | m + 1, k, M, hk, h, hM => by
    have hW := h.1
    have hl : S.docs.length ≤ 16 := h.2.2.2.1.1
    have hk' : k < S.docs.length := by omega
    obtain ⟨R, x, M1, e1, e2, -, e3, t1, f1⟩ := rd_doc (G := G) (d := d) hW h.2.2.2.1 hO.1 hk'
    have h1 := h.k f1 (fun a j q => Or.inl (pT_gW q))
    have hr := e2
    unfold isRw at hr
    have ek : zI (k : Int) + zI 1 = zI ((k + 1 : Nat) : Int) := by rw [zI_add, show (k : Int) + 1 = ((k + 1 : Nat) : Int) by omega]
    have M1m : cMt M1 (mL S k) := ⟨by rw [f1.2.2 _ _ (fun q => by unfold pT at q; omega)]; exact hM.1, fun i hi => by rw [f1.2.2 _ _ (fun q => by unfold pT at q; omega)]; exact hM.2 i hi⟩
    have ml := mL_len (S := S) (k := k)
    have slk := sL_len (S := S) (k := k)
    have lr := ldr_rg (S := S)
    have hcl : S.cnd.length ≤ 3 := h.2.2.2.2.2.1.1
    -- from 73 on: the document is looked at
    have seen : sn S k → ∀ M2, RepC M2 (S.sE ((sL S k).length)) → dT M2 R 60 (dB S.docs k) (nds (dB S.docs k)) → cMt M2 (mL S k) → ∃ M', (∀ u3 u4 : Option Value, EvC G (d + 5) m_P_seek 73 [some (.ref 0), some (.int (zI (ldr S))), some (.int (zI (k : Int))), u3, u4] [] M2 (none, M')) ∧ RepC M' (sk S) ∧ cMt M' (mL S S.docs.length) ∧ Fx pE M2 M' := fun hs M2 h2 t2 m2 => by
      have W2 := h2.1
      have es : (sL S (k + 1)).length = (sL S k).length + 1 := by rw [(sL_succ (S := S) (k := k)).1 hs, List.length_append, List.length_singleton]
      have ee : zI ((sL S k).length : Int) + zI 1 = zI (((sL S (k + 1)).length : Nat) : Int) := by rw [zI_add, es, show ((sL S k).length : Int) + 1 = (((sL S k).length + 1 : Nat) : Int) by omega]
      have f3 : Fp (fun a j => a = 0 ∧ j = 11) M2 (am_setI M2 0 11 (zI (((sL S (k + 1)).length : Nat) : Int))) := Fp.set ⟨rfl, rfl⟩
      have f3x := f3.x W2
      have h3 : RepC (am_setI M2 0 11 (zI (((sL S (k + 1)).length : Nat) : Int))) (S.sE ((sL S (k + 1)).length)) := h2.ex f3x (fun a j q => Or.inr q) setI_self
      have t3 : dT (am_setI M2 0 11 (zI (((sL S (k + 1)).length : Nat) : Int))) R 60 (dB S.docs k) (nds (dB S.docs k)) := by
        obtain ⟨⟨e1, e2, e3, ⟨r1, r2, r3, r4, r5, r6⟩, e5, e6⟩, ⟨⟨a1, a2, a3, a4, a5⟩, hN, hEd⟩, hA⟩ := t2
        refine ⟨⟨f3x.1, e2, e3, ⟨r1, r2, r3, by rw [setI_cell (by omega)]; exact r4, fun i hi => by rw [setI_cell (by omega)]; exact r5 i hi, r6⟩, e5, e6⟩, ⟨⟨?_, ?_, ?_, ?_, ?_⟩, fun k hk => ?_, fun k hk hS => ?_⟩, hA⟩
        · rw [setI_cell (by decide)]; exact a1
        · rw [setI_cell (by decide)]; exact a2
        · rw [setI_cell (by decide)]; exact a3
        · rw [setI_cell (by decide)]; exact a4
        · rw [setI_cell (by decide)]; exact a5
        · rw [setI_cell (by decide), setI_cell (by decide), setI_cell (by decide), setI_cell (by decide), setI_cell (by decide)]; exact hN k hk
        · rw [setI_cell (by decide)]; exact hEd k hk hS
      have m3 : cMt (am_setI M2 0 11 (zI (((sL S (k + 1)).length : Nat) : Int))) (mL S k) := ⟨by rw [setI_idx (by decide)]; exact m2.1, fun i hi => by rw [setI_cell (by decide)]; exact m2.2 i hi⟩
      obtain ⟨M4, a', x4, g1, g2, g3, g4⟩ := psk_c (G := G) (d := d) (k := k) (x1 := zI (ldr S)) (x2 := zI (k : Int)) e2 S.cnd.length 0 1 _ (Nat.zero_add _) (Or.inr rfl) ⟨fun _ c' hc' => by omega, fun _ => rfl⟩ t3 h3.2.2.2.2.2.1
      have W4 := g3.1
      have h4 := h3.k g3 (fun a j q => Or.inl (pTr_gW q))
      have m4 : cMt M4 (mL S k) := ⟨by rw [g3.2.2 _ _ (fun q => by unfold pTr at q; omega)]; exact m3.1, fun i hi => by rw [g3.2.2 _ _ (fun q => by unfold pTr at q; omega)]; exact m3.2 i hi⟩
      have F4 : Fx pE M2 M4 := (f3x.up (fun a j q => Or.inr q)).tr (g3.up (fun a j q => Or.inl (pTr_gW q)))
      have go : ∀ M5, (∀ u3 u4 : Option Value, EvC G (d + 5) m_P_seek 126 [some (.ref 0), some (.int (zI (ldr S))), some (.int (zI (k : Int))), some (.int (zI a')), some (.int x4)] [] M4 (none, M5)) → ∀ u3 u4 : Option Value, EvC G (d + 5) m_P_seek 73 [some (.ref 0), some (.int (zI (ldr S))), some (.int (zI (k : Int))), u3, u4] [] M2 (none, M5) := fun M5 h5 u3 u4 => by
        refine ev_P_seek_73 ?_
        rw [show M2.2.1 0 11 = zI ((sL S k).length : Int) from h2.2.2.2.2.2.2.2, ee]
        exact ⟨okF_W W2 rfl, okP_W W2 rfl rfl, g4 _ (h5 u3 u4)⟩
      by_cases ca : a' = 1
      · subst ca
        have hm : mtc S k := ⟨hs, g2.mp rfl⟩
        have em := (mL_succ (S := S) (k := k)).1 hm
        have f5 : Fp gW M4 (am_setI (am_setI M4 70 (mL S k).length (zI (k : Int))) 0 10 (zI (((mL S k).length + 1 : Nat) : Int))) := Fp.tr (Fp.set (Or.inr ⟨by omega, by omega⟩)) (Fp.set (Or.inl ⟨rfl, rfl⟩))
        have f5x := f5.x W4
        have h5 := h4.k f5x (fun a j q => Or.inl q)
        have m5 : cMt (am_setI (am_setI M4 70 (mL S k).length (zI (k : Int))) 0 10 (zI (((mL S k).length + 1 : Nat) : Int))) (mL S (k + 1)) := by
          rw [em]
          refine ⟨by rw [setI_self, List.length_append, List.length_singleton], fun i hi => ?_⟩
          rw [List.length_append, List.length_singleton] at hi
          rw [setI_cell (by decide)]
          by_cases ei : i = (mL S k).length
          · rw [ei, setI_self, getD_last]
          · rw [setI_idx ei, getD_snoc (by omega)]
            exact m4.2 i (by omega)
        obtain ⟨M6, q1, q2, q3, q4⟩ := psk_l hO m (k + 1) _ (by omega) h5 m5
        refine ⟨M6, go M6 (fun u3 u4 => ev_P_seek_126 ?_), q2, q3, (F4.tr (f5x.up (fun a j q => Or.inl q))).tr q4⟩
        have e5 : zI ((mL S k).length : Int) + zI 1 = zI (((mL S k).length + 1 : Nat) : Int) := by rw [zI_add, show ((mL S k).length : Int) + 1 = (((mL S k).length + 1 : Nat) : Int) by omega]
        rw [zI_0, if_neg z10, m4.1, zI_nat (show (mL S k).length < 2147483648 by omega), ek, setI_cell (show (0 : Nat) ≠ 0 + 70 by decide), m4.1, e5]
        exact ⟨okF_W W4 rfl, okF_W W4 rfl, okA_z W4 (show sg0[0 + 70]? = some (.inr (0, 16)) from rfl) (by omega) (by omega), okF_W (WM_setI W4) rfl, okP_W (WM_setI W4) rfl rfl, q1 _ _⟩
      · have a0 : a' = 0 := by omega
        subst a0
        have em := (mL_succ (S := S) (k := k)).2 (fun q => by have := g2.mpr q.2; omega)
        rw [← em] at m4
        obtain ⟨M6, q1, q2, q3, q4⟩ := psk_l hO m (k + 1) M4 (by omega) h4 m4
        refine ⟨M6, go M6 (fun u3 u4 => ev_P_seek_126 ?_), q2, q3, F4.tr q4⟩
        rw [zI_0, if_pos rfl, ek]
        exact q1 _ _
    have pre : ∀ M', (∀ u3 u4 : Option Value, EvC G (d + 5) m_P_seek 44 [some (.ref 0), some (.int (zI (ldr S))), some (.int (zI (k : Int))), u3, u4] [.int x] M1 (none, M')) → ∀ u3 u4 : Option Value, EvC G (d + 5) m_P_seek 17 [some (.ref 0), some (.int (zI (ldr S))), some (.int (zI (k : Int))), u3, u4] [] M (none, M') := fun M' h' u3 u4 => by
      refine ev_P_seek_17 ?_
      rw [show M.2.1 (0 + 5) 2 = zI (S.docs.length : Int) from h.2.2.2.1.2.1, if_pos ((zI_lt ⟨by omega, by omega⟩ ⟨by omega, by omega⟩).mpr (by omega)), zI_nat (show k < 2147483648 by omega), show M.2.2 (0 + 5 + 1) k = some R from e1, Option.getD_some]
      exact ⟨okF_W hW rfl, okF_W hW rfl, okF_W hW rfl, okF_W hW rfl, okF_W hW rfl, okQ_6 hW (by omega), rfl, okO_W hW rfl, _, _, e3, h' u3 u4⟩
    have F1 : Fx pE M M1 := f1.up (fun a j q => Or.inl (pT_gW q))
    by_cases cl : ldr S = -1
    · obtain ⟨M6, q1, q2, q3, q4⟩ := seen (Or.inl cl) M1 h1 t1 M1m
      refine ⟨M6, pre M6 (fun u3 u4 => ev_P_seek_44 ?_), q2, q3, F1.tr q4⟩
      rw [if_pos (by rw [cl])]
      exact q1 _ _
    · obtain ⟨c, hc⟩ : ∃ c : Nat, ldr S = (c : Int) := ⟨(ldr S).toNat, by omega⟩
      have hcc : c < S.cnd.length := by omega
      obtain ⟨k1, k2, k3, k4⟩ := h1.2.2.2.2.2.1
      obtain ⟨M2, y, e4, w, f2⟩ := e_C_holds (G := G) (d := d) (q := R) (by omega) (show 54 < 76 + 5 * c by omega) t1 (k4 c hcc)
      have f2x := f2.x h1.1
      have h2 := h1.k f2x (fun a j q => Or.inl (pTr_gW q))
      have t2 := t1.kept f2 (by omega)
      have m2 : cMt M2 (mL S k) := ⟨by rw [f2.2.2 _ _ (fun q => by unfold pTr at q; omega)]; exact M1m.1, fun i hi => by rw [f2.2.2 _ _ (fun q => by unfold pTr at q; omega)]; exact M1m.2 i hi⟩
      have F2 : Fx pE M M2 := F1.tr (f2x.up (fun a j q => Or.inl (pTr_gW q)))
      have pre2 : ∀ M', (∀ u3 u4 : Option Value, EvC G (d + 5) m_P_seek 67 [some (.ref 0), some (.int (zI (ldr S))), some (.int (zI (k : Int))), u3, u4] [.int y] M2 (none, M')) → ∀ u3 u4 : Option Value, EvC G (d + 5) m_P_seek 17 [some (.ref 0), some (.int (zI (ldr S))), some (.int (zI (k : Int))), u3, u4] [] M (none, M') := fun M' h' => pre M' (fun u3 u4 => ev_P_seek_44 (by
        rw [if_neg (zI_ne ⟨by omega, by omega⟩ ⟨by omega, by omega⟩ cl), show (zI (ldr S)).toNatClampNeg = c by rw [hc]; exact zI_nat (by omega), show M1.2.2 (0 + 41) c = some (76 + 5 * c) from k3 c (by omega), Option.getD_some]
        exact ⟨okF_W h1.1 rfl, by rw [hc]; exact okQ_41 h1.1 (by omega), rfl, okF_W h1.1 rfl, okF_W h1.1 rfl, okO_W h1.1 (cnd_sg (show c < 3 by omega)).1, _, _, e4, h' u3 u4⟩))
      have sc : sn S k ↔ cH S k c := by
        unfold sn
        rw [hc, Int.toNat_natCast]
        constructor
        · rintro (q | q)
          · omega
          · exact q
        · exact Or.inr
      rcases w with ⟨w1, w2⟩ | ⟨w1, w2⟩
      · obtain ⟨M6, q1, q2, q3, q4⟩ := seen (sc.mpr w1) M2 h2 t2 m2
        refine ⟨M6, pre2 M6 (fun u3 u4 => ev_P_seek_67 ?_), q2, q3, F2.tr q4⟩
        rw [w2, zI_0, if_neg z10]
        exact q1 _ _
      · have ns : ¬ sn S k := fun q => w1 (sc.mp q)
        have es := (sL_succ (S := S) (k := k)).2 ns
        have em := (mL_succ (S := S) (k := k)).2 (fun q => ns q.1)
        rw [← em] at m2
        rw [← es] at h2
        obtain ⟨M6, q1, q2, q3, q4⟩ := psk_l hO m (k + 1) M2 (by omega) h2 m2
        refine ⟨M6, pre2 M6 (fun u3 u4 => ev_P_seek_67 ?_), q2, q3, F2.tr q4⟩
        rw [w2, zI_0, if_pos rfl, ek]
        exact q1 _ _
theorem e_P_seek {M : Mm_} (h : RepC M S) (hO : Ok S) : ∃ M', Ev G (d + 5) 55 [.ref 0] M (none, M') ∧ RepC M' (sk S) ∧ cMt M' (mL S S.docs.length) ∧ Fx pE M M' := by
  have hW := h.1
  have f0 : Fp pE M (am_setI (am_setI M 0 11 (zI 0)) 0 10 (zI 0)) := Fp.tr (Fp.set (Or.inr ⟨rfl, rfl⟩)) (Fp.set (Or.inl (Or.inl ⟨rfl, rfl⟩)))
  have f0x := f0.x hW
  have h0 : RepC (am_setI (am_setI M 0 11 (zI 0)) 0 10 (zI 0)) (S.sE ((sL S 0).length)) := h.ex f0x (fun a j q => q) (by rw [setI_idx (by decide), setI_self]; rfl)
  obtain ⟨M', q1, q2, q3, q4⟩ := psk_l (G := G) (d := d) hO S.docs.length 0 _ (Nat.zero_add _) h0 ⟨by rw [setI_self]; rfl, fun i hi => by cases hi⟩
  refine ⟨M', ev_of (q := mt_P_seek) rfl (ev_P_seek_0 ⟨okO_W hW rfl, _, _, e_P_leadingCondition (d := d + 2) h, ev_P_seek_4 ⟨okP_W hW rfl rfl, okP_W (WM_setI hW) rfl rfl, ?_⟩⟩), q2, q3, f0x.tr q4⟩
  exact q1 _ _
theorem RepC.fd {P : Nat → Nat → Prop} {M M' : Mm_} {F : List Int} (h : RepC M S) (f : Fx P M M') (hp : ∀ a j, P a j → (a = 0 ∧ j = 13) ∨ a = 71) (hF : cFnd M' F) : RepC M' (S.sF (F)) := by
  obtain ⟨h0, h1, h2, h3, h4, h5, h6, h7⟩ := h
  exact ⟨f.1, h1.kx f (fun j q => by have := hp _ _ q; omega) (fun j q => by have := hp _ _ q; omega), h2.kx f (fun j q => by have := hp _ _ q; omega) (fun j q => by have := hp _ _ q; omega), h3.kx f (fun a j q => by have := hp _ _ q; omega), h4.kx f (fun a j q => by have := hp _ _ q; omega), h5.kx f (fun a j q => by have := hp _ _ q; omega), hF, by rw [f.2.2 _ _ (fun q => by have := hp _ _ q; omega)]; exact h7⟩
theorem pfi_l {L : List Nat} {D : List Dc} (hL : L.length ≤ 16) (hD : D.length ≤ 16) (hLt : ∀ i ∈ L, i < D.length) : ∀ (m k : Nat) (M : Mm_), k + m = L.length → WM M → cMt M L → (∀ i, i < D.length → M.2.1 7 i = zI (dN D i)) → (∀ i, i < k → M.2.1 71 i = zI (dN D (L.getD i 0))) → ∃ M', EvC G d m_P_find 6 [some (.ref 0), some (.int (zI (k : Int)))] [] M (some (.int (zI (L.length : Int))), M') ∧ M'.2.1 0 13 = zI (L.length : Int) ∧ (∀ i, i < L.length → M'.2.1 71 i = zI (dN D (L.getD i 0))) ∧ Fp (fun a j => (a = 0 ∧ j = 13) ∨ a = 71) M M'
  | 0, k, M, hk, hW, h1, h2, h3 => by
    refine ⟨am_setI M 0 13 (zI (L.length : Int)), ev_P_find_6 ?_, setI_self, fun i hi => by rw [setI_cell (by decide)]; exact h3 i (by omega), Fp.set (Or.inl ⟨rfl, rfl⟩)⟩
    rw [h1.1, if_neg (fun q => by rw [zI_lt ⟨by omega, by omega⟩ ⟨by omega, by omega⟩] at q; omega), setI_self]
    exact ⟨okF_W hW rfl, okF_W hW rfl, okP_W hW rfl rfl, okF_W (WM_setI hW) rfl, rfl⟩
  | m + 1, k, M, hk, hW, h1, h2, h3 => by
    have hm := hLt _ (getD_memN (L := L) (i := k) (by omega))
    have ek : zI (k : Int) + zI 1 = zI ((k + 1 : Nat) : Int) := by rw [zI_add, show (k : Int) + 1 = ((k + 1 : Nat) : Int) by omega]
    have fp : Fp (fun a j => (a = 0 ∧ j = 13) ∨ a = 71) M (am_setI M 71 k (zI (dN D (L.getD k 0)))) := Fp.set (Or.inr rfl)
    obtain ⟨M', e, g1, g2, g3⟩ := pfi_l hL hD hLt m (k + 1) (am_setI M 71 k (zI (dN D (L.getD k 0)))) (by omega) (WM_setI hW) ⟨by rw [setI_cell (by decide)]; exact h1.1, fun i hi => by rw [setI_cell (by decide)]; exact h1.2 i hi⟩ (fun i hi => by rw [setI_cell (by decide)]; exact h2 i hi) (fun i hi => by
      by_cases e : i = k
      · rw [e, setI_self]
      · rw [setI_idx e]; exact h3 i (by omega))
    refine ⟨M', ev_P_find_6 ?_, g1, g2, fp.tr g3⟩
    rw [h1.1, if_pos ((zI_lt ⟨by omega, by omega⟩ ⟨by omega, by omega⟩).mpr (by omega)), zI_nat (show k < 2147483648 by omega), show M.2.1 (0 + 70) k = _ from h1.2 k (by omega), zI_nat (show L.getD k 0 < 2147483648 by omega), show M.2.1 (0 + 5 + 2) (L.getD k 0) = _ from h2 _ hm, ek]
    exact ⟨okF_W hW rfl, okF_W hW rfl, okF_W hW rfl, okF_W hW rfl, okF_W hW rfl, okA_z hW (show sg0[0 + 70]? = some (.inr (0, 16)) from rfl) (by omega) (by omega), okA_z hW (show sg0[0 + 5 + 2]? = some (.inr (0, 16)) from rfl) (by omega) (by omega), okA_z hW (show sg0[0 + 71]? = some (.inr (0, 16)) from rfl) (by omega) (by omega), e⟩
theorem map_dN {D : List Dc} {L : List Nat} {i : Nat} (hi : i < L.length) : (L.map (dN D)).getD i 0 = dN D (L.getD i 0) := by
  rw [List.getD_eq_getElem?_getD, List.getElem?_map, List.getElem?_eq_getElem hi, List.getD_eq_getElem?_getD, List.getElem?_eq_getElem hi]
  rfl
theorem e_P_find {M : Mm_} (h : RepC M S) (hO : Ok S) : ∃ M', Ev G (d + 6) 54 [.ref 0] M (some (.int (zI (sp_find S).1)), M') ∧ RepC M' (sp_find S).2 ∧ Fx gC M M' := by
  have hW := h.1
  obtain ⟨M1, e1, h1, m1, f1⟩ := e_P_seek (G := G) (d := d) h hO
  obtain ⟨d1, d2, R, d3, d4⟩ := h1.2.2.2.1
  have d1 : S.docs.length ≤ 16 := d1
  have ml := mL_len (S := S) (k := S.docs.length)
  obtain ⟨M2, e2, g1, g2, g3⟩ := pfi_l (G := G) (d := d + 6) (L := mL S S.docs.length) (D := S.docs) (by omega) d1 (fun i hi => mL_lt hi) (mL S S.docs.length).length 0 M1 (Nat.zero_add _) h1.1 m1 (fun i hi => (d4 i hi).2) (fun i hi => by omega)
  have g3x := g3.x h1.1
  refine ⟨M2, ev_of (q := mt_P_find) rfl (ev_P_find_0 ⟨okO_W hW rfl, _, e1, ev_P_find_4 e2⟩), h1.fd g3x (fun a j q => q) ⟨by rw [List.length_map]; omega, by rw [List.length_map]; exact g1, fun i hi => ?_⟩, (f1.up (fun a j q => ?_)).tr (g3x.up (fun a j q => by unfold gC; omega))⟩
  · rw [List.length_map] at hi
    rw [map_dN hi]
    exact g2 i hi
  · unfold pE gW at q
    unfold gC
    omega
end SEEK
