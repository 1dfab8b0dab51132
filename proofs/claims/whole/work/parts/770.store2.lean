/-! THE STORE of the class: drop; insert, fetch, remove, count -/
section STO2
variable {G : Nat × (Nat → Int32)} {d : Nat} {D : List Dc}
def drI (M : Mm_) (D : List Dc) (R : Nat → Nat) (p k : Nat) : Prop := WM M ∧ M.2.1 5 2 = zI ((D.length - 1 : Nat) : Int) ∧ (∀ j, j < 16 → M.2.2 6 j = some (if p ≤ j ∧ j < k then R (j + 1) else R j)) ∧ ∀ j, j < D.length → M.2.1 7 j = zI (if p ≤ j ∧ j < k then dN D (j + 1) else dN D j)
theorem drop_l {R : Nat → Nat} {p : Nat} (hl : D.length ≤ 16) (hp : p < D.length) (hR : ∀ k, k < 16 → isRw (R k)) : ∀ (m k : Nat) (M : Mm_), k + m = D.length - 1 → p ≤ k → drI M D R p k → ∃ M1, drI M1 D R p (D.length - 1) ∧ Fx p67 M M1 ∧
    EvC G d m_S_drop 32 [some (.ref 5), some (.int (zI (p : Int))), some (.ref (R p)), some (.int (zI (k : Int)))] [] M (none, am_setR M1 6 (D.length - 1) (R p))
  | 0, k, M, hk, hpk, h => by
    obtain ⟨hW, g1, g2, g3⟩ := h
    have ek : k = D.length - 1 := by omega
    refine ⟨M, by rw [← ek]; exact ⟨hW, g1, g2, g3⟩, Fx.rf hW, ev_S_drop_32 ?_⟩
    rw [g1, if_neg (fun q => by rw [zI_lt ⟨by omega, by omega⟩ ⟨by omega, by omega⟩] at q; omega), zI_nat (by omega)]
    exact ⟨okF_W hW rfl, okF_W hW rfl, okF_W hW rfl, okS_6 hW (by omega) (hR p (by omega)), rfl⟩
  | m + 1, k, M, hk, hpk, h => by
    obtain ⟨hW, g1, g2, g3⟩ := h
    have e1 : zI (k : Int) + zI 1 = zI ((k + 1 : Nat) : Int) := by rw [zI_add, show (k : Int) + 1 = ((k + 1 : Nat) : Int) by omega]
    have g6 : M.2.2 (5 + 1) (k + 1) = some (R (k + 1)) := by rw [show M.2.2 (5 + 1) (k + 1) = _ from g2 (k + 1) (by omega), if_neg (by omega)]
    have g7 : M.2.1 (5 + 2) (k + 1) = zI (dN D (k + 1)) := by rw [show M.2.1 (5 + 2) (k + 1) = _ from g3 (k + 1) (by omega), if_neg (by omega)]
    have WR : WM (am_setR M (5 + 1) k (R (k + 1))) := WM_setR hW (fun c hc => nf6 c hc _)
    have f1 : Fx p67 M (am_setI (am_setR M (5 + 1) k (R (k + 1))) (5 + 2) k (zI (dN D (k + 1)))) := (Fx.setR hW (fun c hc => nf6 c hc _) (Or.inl rfl)).tr (Fx.setI WR (Or.inr rfl))
    have a7 : ∀ {M' : Mm_} {k : Nat}, WM M' → k < 16 → am_okA M' (5 + 2) 0 (zI (k : Int)) = true := fun hW' hk => okA_z hW' (show sg0[5 + 2]? = some (.inr (0, 16)) from rfl) hk (by omega)
    have h1 : drI (am_setI (am_setR M (5 + 1) k (R (k + 1))) (5 + 2) k (zI (dN D (k + 1)))) D R p (k + 1) := by
      refine ⟨f1.1, ?_, fun j hj => ?_, fun j hj => ?_⟩
      · rw [setI_cell (by decide)]; exact g1
      · show (am_setR M 6 k (R (k + 1))).2.2 6 j = _
        by_cases e : j = k
        · rw [e, setR_at, if_pos (by omega)]
        · rw [setR_idx e, g2 j hj]
          by_cases c1 : p ≤ j ∧ j < k
          · rw [if_pos c1, if_pos (by omega)]
          · rw [if_neg c1, if_neg (by omega)]
      · show (am_setI (am_setR M (5 + 1) k (R (k + 1))) 7 k (zI (dN D (k + 1)))).2.1 7 j = _
        by_cases e : j = k
        · rw [e, setI_self, if_pos (by omega)]
        · rw [setI_idx e, show (am_setR M (5 + 1) k (R (k + 1))).2.1 7 j = M.2.1 7 j from rfl, g3 j hj]
          by_cases c1 : p ≤ j ∧ j < k
          · rw [if_pos c1, if_pos (by omega)]
          · rw [if_neg c1, if_neg (by omega)]
    obtain ⟨M1, k1, k2, k3⟩ := drop_l hl hp hR m (k + 1) _ (by omega) (by omega) h1
    refine ⟨M1, k1, f1.tr k2, ev_S_drop_32 ?_⟩
    rw [g1, if_pos ((zI_lt ⟨by omega, by omega⟩ ⟨by omega, by omega⟩).mpr (by omega)), e1, zI_nat (show k + 1 < 2147483648 by omega), zI_nat (show k < 2147483648 by omega), g6, Option.getD_some]
    refine ⟨okF_W hW rfl, okF_W hW rfl, okF_W hW rfl, okQ_6 hW (by omega), rfl, okS_6 hW (by omega) (hR _ (by omega)), okF_W WR rfl, okF_W WR rfl, a7 WR (by omega), a7 WR (by omega), ev_S_drop_68 ?_⟩
    rw [show (am_setR M (5 + 1) k (R (k + 1))).2.1 (5 + 2) (k + 1) = zI (dN D (k + 1)) from g7, e1]
    exact k3
def drpR (R : Nat → Nat) (p t j : Nat) : Nat := if j < p then R j else if j < t - 1 then R (j + 1) else if j = t - 1 then R p else R j
theorem e_S_drop {M : Mm_} {p : Nat} (hW : WM M) (h : cSto M D) (hp : p < D.length) : ∃ M', Ev G d 39 [.ref 5, .int (zI (p : Int))] M (none, M') ∧ cSto M' (D.eraseIdx p) ∧ Fx p5_39 M M' := by
  obtain ⟨h1, h2, R, ⟨h3, h4⟩, h5⟩ := h
  have W0 : WM (am_setI M 5 2 (zI ((D.length - 1 : Nat) : Int))) := WM_setI hW
  obtain ⟨M1, ⟨w1, g1, g2, g3⟩, k2, k3⟩ := drop_l (G := G) (d := d) h1 hp (fun k hk => (h3 k hk).2) (D.length - 1 - p) p (am_setI M 5 2 (zI ((D.length - 1 : Nat) : Int))) (by omega) (Nat.le_refl _) ⟨W0, setI_self, fun j hj => by rw [if_neg (by omega)]; exact (h3 j hj).1, fun j hj => by rw [if_neg (by omega), setI_cell (by decide)]; exact (h5 j hj).2⟩
  have el : (D.eraseIdx p).length = D.length - 1 := List.length_eraseIdx_of_lt hp
  have WR : WM (am_setR M1 6 (D.length - 1) (R p)) := WM_setR w1 (fun c hc => nf6 c hc _)
  refine ⟨am_setR M1 6 (D.length - 1) (R p), ev_of (q := mt_S_drop) rfl (ev_S_drop_0 ?_), ⟨by rw [el]; omega, by rw [el]; exact g1, drpR R p D.length, ⟨fun j hj => ?_, fun i j hi hj e => ?_⟩, fun j hj => ?_⟩, ?_⟩
  · rw [zI_0, if_neg (fun q => by rw [zI_lt ⟨by omega, by omega⟩ ⟨by omega, by omega⟩] at q; omega), h2, if_pos ((zI_lt ⟨by omega, by omega⟩ ⟨by omega, by omega⟩).mpr (by omega)), zI_nat (show p < 2147483648 by omega), show M.2.2 (5 + 1) p = some (R p) from (h3 p (by omega)).1, Option.getD_some, zI_sub, show (D.length : Int) - 1 = ((D.length - 1 : Nat) : Int) by omega]
    exact ⟨okF_W hW rfl, okF_W hW rfl, okQ_6 hW (by omega), rfl, okF_W hW rfl, okP_W hW rfl rfl, k3⟩
  · show (am_setR M1 6 (D.length - 1) (R p)).2.2 6 j = _ ∧ _
    unfold drpR
    by_cases e : j = D.length - 1
    · rw [if_neg (by omega), if_neg (by omega), if_pos e, e]
      exact ⟨setR_at, (h3 p (by omega)).2⟩
    · rw [setR_idx e, g2 j hj]
      by_cases c1 : j < p
      · rw [if_neg (by omega), if_pos c1]
        exact ⟨rfl, (h3 j hj).2⟩
      · rw [if_neg c1]
        by_cases c2 : j < D.length - 1
        · rw [if_pos (by omega), if_pos c2]
          exact ⟨rfl, (h3 _ (by omega)).2⟩
        · rw [if_neg (by omega), if_neg c2, if_neg e]
          exact ⟨rfl, (h3 j hj).2⟩
  · unfold drpR at e
    have key : ∀ k, k < 16 → ∃ s, s < 16 ∧ (if k < p then R k else if k < D.length - 1 then R (k + 1) else if k = D.length - 1 then R p else R k) = R s ∧ ((k < p ∧ s = k) ∨ (p ≤ k ∧ k < D.length - 1 ∧ s = k + 1) ∨ (k = D.length - 1 ∧ s = p) ∨ (D.length ≤ k ∧ s = k)) := fun k hk => by
      by_cases c1 : k < p
      · exact ⟨k, hk, by rw [if_pos c1], by omega⟩
      · by_cases c2 : k < D.length - 1
        · exact ⟨k + 1, by omega, by rw [if_neg c1, if_pos c2], by omega⟩
        · by_cases c3 : k = D.length - 1
          · exact ⟨p, by omega, by rw [if_neg c1, if_neg c2, if_pos c3], by omega⟩
          · exact ⟨k, hk, by rw [if_neg c1, if_neg c2, if_neg c3], by omega⟩
    obtain ⟨s, s1, s2, s3⟩ := key i hi
    obtain ⟨t, t1, t2, t3⟩ := key j hj
    have := h4 s t s1 t1 (s2.symm.trans (e.trans t2))
    omega
  · rw [el] at hj
    rw [era_N, era_B]
    unfold drpR
    have old : ∀ s, s < D.length → rowIs (am_setR M1 6 (D.length - 1) (R p)) (R s) 60 (dB D s) := fun s hs => by
      have hs' := (h3 s (by omega)).2
      unfold isRw at hs'
      obtain ⟨a1, a2, a3, a4, a5, a6⟩ := (h5 s hs).1
      refine ⟨a1, a2, a3, ?_, fun i hi => ?_, a6⟩
      · show M1.2.1 (R s) 1 = _
        rw [k2.2.2 _ _ (fun q => by unfold p67 at q; omega), setI_cell (by omega)]
        exact a4
      · show M1.2.1 (R s + 1) i = _
        rw [k2.2.2 _ _ (fun q => by unfold p67 at q; omega), setI_cell (by omega)]
        exact a5 i hi
    have n7 : (am_setR M1 6 (D.length - 1) (R p)).2.1 7 j = zI (if p ≤ j ∧ j < D.length - 1 then dN D (j + 1) else dN D j) := g3 j (by omega)
    by_cases c1 : j < p
    · rw [if_pos c1, if_pos c1, if_pos c1, n7, if_neg (by omega)]
      exact ⟨old j (by omega), rfl⟩
    · rw [if_neg c1, if_neg c1, if_neg c1, if_pos hj, n7, if_pos (by omega)]
      exact ⟨old (j + 1) (by omega), rfl⟩
  · refine ((Fx.setI hW (show p5_39 5 2 from ⟨by omega, by omega⟩)).tr (k2.up (fun a j q => by unfold p67 at q; unfold p5_39; omega))).tr (Fx.setR w1 (fun c hc => nf6 c hc _) (show p5_39 6 _ from ⟨by omega, by omega⟩))
end STO2
/-! what stays well formed -/
theorem era_ok {D : List Dc} {p : Nat} (h : okD D) (hp : p < D.length) : okD (D.eraseIdx p) := by
  have el : (D.eraseIdx p).length = D.length - 1 := List.length_eraseIdx_of_lt hp
  refine ⟨fun k hk => ?_, fun i j hij hj => ?_⟩
  · rw [el] at hk
    rw [era_N, era_B]
    split
    · exact h.1 k (by omega)
    · exact h.1 (k + 1) (by omega)
  · rw [el] at hj
    rw [era_N, era_N]
    split
    · split
      · exact h.2 i j hij (by omega)
      · exact h.2 i (j + 1) (by omega) (by omega)
    · split
      · omega
      · exact h.2 (i + 1) (j + 1) (by omega) (by omega)
theorem insG_spec {D : List Dc} {n : Int} : ∀ k, (∀ i, insG D n k ≤ i → i < k → n < dN D i) ∧ (0 < insG D n k → ¬ n < dN D (insG D n k - 1))
  | 0 => ⟨fun i h1 h2 => by omega, fun h => absurd h (by unfold insG; omega)⟩
  | k + 1 => by
    obtain ⟨h1, h2⟩ := insG_spec (D := D) (n := n) k
    unfold insG
    by_cases c : n < dN D k
    · rw [if_pos c]
      refine ⟨fun i q1 q2 => ?_, h2⟩
      rcases Nat.lt_or_ge i k with q | q
      · exact h1 i q1 q
      · have : i = k := by omega
        rw [this]; exact c
    · rw [if_neg c]
      exact ⟨fun i q1 q2 => by omega, fun _ => c⟩
theorem ins_ok {D : List Dc} {n : Int} {B : List Int} (h : okD D) (hn : 0 ≤ n ∧ n ≤ 999) (hu : ∀ i, i < D.length → ¬ dN D i = n) (hB : ∃ N, rdD B = .inr N) (hl : B.length ≤ 60) (ho : okB B) : okD (insD D (insP D n) (n, B)) := by
  have hp : insP D n ≤ D.length := insG_le _
  obtain ⟨s1, s2⟩ := insG_spec (D := D) (n := n) D.length
  have s1 : ∀ i, insP D n ≤ i → i < D.length → n < dN D i := s1
  have s2 : 0 < insP D n → ¬ n < dN D (insP D n - 1) := s2
  refine ⟨fun k hk => ?_, fun i j hij hj => ?_⟩
  · rw [insD_len hp] at hk
    rw [insD_N hp, insD_B hp]
    by_cases c1 : k < insP D n
    · rw [if_pos c1, if_pos c1]; exact h.1 k (by omega)
    · rw [if_neg c1, if_neg c1]
      by_cases c2 : k = insP D n
      · rw [if_pos c2, if_pos c2]; exact ⟨hB, hl, ho, hn⟩
      · rw [if_neg c2, if_neg c2]; exact h.1 (k - 1) (by omega)
  · rw [insD_len hp] at hj
    rw [insD_N hp, insD_N hp]
    have lo : ∀ i, i < insP D n → dN D i < n := fun i hi => by
      have a := s2 (by omega)
      have b := hu (insP D n - 1) (by omega)
      rcases Nat.lt_or_ge i (insP D n - 1) with q | q
      · have := h.2 i (insP D n - 1) q (by omega); omega
      · have : i = insP D n - 1 := by omega
        rw [this]; omega
    by_cases c1 : i < insP D n
    · rw [if_pos c1]
      by_cases c2 : j < insP D n
      · rw [if_pos c2]; exact h.2 i j hij (by omega)
      · rw [if_neg c2]
        by_cases c3 : j = insP D n
        · rw [if_pos c3]; exact lo i c1
        · rw [if_neg c3]; exact h.2 i (j - 1) (by omega) (by omega)
    · rw [if_neg c1, if_neg (show ¬ j < insP D n by omega), if_neg (show ¬ j = insP D n by omega)]
      by_cases c3 : i = insP D n
      · rw [if_pos c3]; exact s1 (j - 1) (by omega) (by omega)
      · rw [if_neg c3]; exact h.2 (i - 1) (j - 1) (by omega) (by omega)
/-! insert, fetch, remove -/
def sp_insert (S : St_) : Int × St_ := match rdD S.buf with
  | .inl f => (-1 - (f : Int), S)
  | .inr N => if 60 < S.buf.length ∨ dNum S.buf N = -1 then (-1000, S) else if ¬ plc S.docs (dNum S.buf N) = -1 then (-1001, S) else if 16 ≤ S.docs.length then (-1002, S) else (dNum S.buf N, ((S.sD (insD S.docs (insP S.docs (dNum S.buf N)) (dNum S.buf N, S.buf))).sB ([])))
def sp_fetch (S : St_) (n : Int) : Int × St_ := if plc S.docs n = -1 then (-1, S) else (((dB S.docs (plc S.docs n).toNat).length : Int), (S.sB (dB S.docs (plc S.docs n).toNat)))
def sp_remove (S : St_) (n : Int) : Int × St_ := if plc S.docs n = -1 then (0, S) else (1, (S.sD (S.docs.eraseIdx (plc S.docs n).toNat)))
section PSTO
variable {G : Nat × (Nat → Int32)} {d : Nat} {S : St_} {M : Mm_}
theorem RepC.buf {P : Nat → Nat → Prop} {M M' : Mm_} {B : List Int} (h : RepC M S) (f : Fx P M M') (hp : ∀ a j, P a j → gW a j ∨ a = 1 ∨ a = 2) (hB : rowIs M' 1 80 B) : RepC M' (S.sB (B)) := by
  obtain ⟨h0, h1, h2, h3, h4, h5, h6, h7⟩ := h
  unfold gW at hp
  exact ⟨f.1, hB, h2.kx f (fun j q => by have := hp _ _ q; omega) (fun j q => by have := hp _ _ q; omega), h3.kx f (fun a j q => by have := hp _ _ q; omega), h4.kx f (fun a j q => by have := hp _ _ q; omega), h5.kx f (fun a j q => by have := hp _ _ q; omega), h6.kx f (fun a j q => by have := hp _ _ q; omega), by rw [f.2.2 _ _ (fun q => by have := hp _ _ q; omega)]; exact h7⟩
theorem RepC.sto {P : Nat → Nat → Prop} {M M' : Mm_} {D : List Dc} (h : RepC M S) (f : Fx P M M') (hp : ∀ a j, P a j → gW a j ∨ (5 ≤ a ∧ a ≤ 39)) (hD : cSto M' D) : RepC M' (S.sD (D)) := by
  obtain ⟨h0, h1, h2, h3, h4, h5, h6, h7⟩ := h
  unfold gW at hp
  exact ⟨f.1, h1.kx f (fun j q => by have := hp _ _ q; omega) (fun j q => by have := hp _ _ q; omega), h2.kx f (fun j q => by have := hp _ _ q; omega) (fun j q => by have := hp _ _ q; omega), hD, h4.kx f (fun a j q => by have := hp _ _ q; omega), h5.kx f (fun a j q => by have := hp _ _ q; omega), h6.kx f (fun a j q => by have := hp _ _ q; omega), by rw [f.2.2 _ _ (fun q => by have := hp _ _ q; omega)]; exact h7⟩
theorem gW_C {a j : Nat} (h : gW a j) : gC a j := by unfold gW at h; unfold gC; omega
theorem fvn {f : Nat} (h : f < 5000) : ¬ zI (fv (.inl f)) = zI (-1) := zI_ne (a := (f : Int)) ⟨by omega, by omega⟩ ⟨by omega, by omega⟩ (by omega)
theorem e_P_insert (h : RepC M S) (hO : Ok S) (hf : ∀ f, rdD S.buf = .inl f → f < 1000) : ∃ M', Ev G (d + 5) 19 [.ref 0] M (some (.int (zI (sp_insert S).1)), M') ∧ RepC M' (sp_insert S).2 ∧ Fx gC M M' := by
  have hW := h.1
  have hb := h.2.1
  have hbl := hb.2.2.1
  obtain ⟨M1, e1, f1, t1, t2⟩ := e_T_readDocument (G := G) (d := d) hW tsh42 hb (by omega) hbl
  have f1x := f1.x rfl hW
  have h1 := h.k f1x (fun a j q => Or.inl (pT_gW q))
  have F1 : Fx gC M M1 := f1x.up (fun a j q => gW_C (pT_gW q))
  have pre : ∀ r, EvC G (d + 5) m_P_insert 11 [some (.ref 0), none, none] [.int (zI (fv (rdD S.buf)))] M1 r → Ev G (d + 5) 19 [.ref 0] M r := fun r hr => ev_of (q := mt_P_insert) rfl (ev_P_insert_0 ⟨okF_W hW rfl, okF_W hW rfl, okO_W hW rfl, _, _, e1, hr⟩)
  unfold sp_insert
  cases hrd : rdD S.buf with
  | inl f =>
    have hf' := hf f hrd
    refine ⟨M1, pre _ (ev_P_insert_11 ?_), h1, F1⟩
    rw [hrd, if_neg (fvn (by omega)), zI_sub]
    rfl
  | inr N =>
    have hA := rdD_acc hrd
    have hE := rdD_end hrd
    have T1 : dT M1 1 80 S.buf N := ⟨t1, t2 N hrd, hA⟩
    have en := e_T_documentNumber (G := G) (d := d + 2) T1 hE
    have dr := dNum_rg (B := S.buf) (N := N)
    have b1 : M1.2.1 (0 + 1) 1 = zI (S.buf.length : Int) := h1.2.1.2.2.2.1
    have W1 := h1.1
    have pre2 : ∀ r, EvC G (d + 5) m_P_insert 28 [some (.ref 0), some (.int (zI (-1))), none] [.int (zI (dNum S.buf N))] M1 r → Ev G (d + 5) 19 [.ref 0] M r := fun r hr => by
      refine pre _ (ev_P_insert_11 ?_)
      rw [hrd, show zI (fv (.inr N)) = zI (-1) from rfl, if_pos rfl]
      exact ⟨okF_W W1 rfl, okO_W W1 rfl, _, _, en, hr⟩
    show ∃ M', Ev G (d + 5) 19 [.ref 0] M (some (.int (zI (if 60 < S.buf.length ∨ dNum S.buf N = -1 then (-1000, S) else if ¬ plc S.docs (dNum S.buf N) = -1 then (-1001, S) else if 16 ≤ S.docs.length then (-1002, S) else (dNum S.buf N, ((S.sD (insD S.docs (insP S.docs (dNum S.buf N)) (dNum S.buf N, S.buf))).sB ([]))) : Int × St_).1)), M') ∧ RepC M' (if 60 < S.buf.length ∨ dNum S.buf N = -1 then (-1000, S) else if ¬ plc S.docs (dNum S.buf N) = -1 then (-1001, S) else if 16 ≤ S.docs.length then (-1002, S) else (dNum S.buf N, ((S.sD (insD S.docs (insP S.docs (dNum S.buf N)) (dNum S.buf N, S.buf))).sB ([]))) : Int × St_).2 ∧ Fx gC M M'
    by_cases c1 : 60 < S.buf.length ∨ dNum S.buf N = -1
    · rw [if_pos c1]
      refine ⟨M1, pre2 _ (ev_P_insert_28 ?_), h1, F1⟩
      rw [b1]
      refine ⟨okF_W W1 rfl, okF_W W1 rfl, ?_⟩
      by_cases c2 : 60 < S.buf.length
      · rw [if_pos ((zI_lt ⟨by omega, by omega⟩ ⟨by omega, by omega⟩).mpr (by omega))]
      · rw [if_neg (fun q => by rw [zI_lt ⟨by omega, by omega⟩ ⟨by omega, by omega⟩] at q; omega), if_pos (show zI (dNum S.buf N) = zI (-1) by rw [show dNum S.buf N = -1 by omega])]
    · rw [if_neg c1]
      have ep := e_S_placeOf (G := G) (d := d + 4) (n := dNum S.buf N) W1 h1.2.2.2.1 hO.1 ⟨by omega, by omega⟩
      have pre3 : ∀ r, EvC G (d + 5) m_P_insert 58 [some (.ref 0), some (.int (zI (-1))), some (.int (zI (dNum S.buf N)))] [.int (zI (plc S.docs (dNum S.buf N)))] M1 r → Ev G (d + 5) 19 [.ref 0] M r := fun r hr => by
        refine pre2 _ (ev_P_insert_28 ?_)
        rw [b1, if_neg (fun q => by rw [zI_lt ⟨by omega, by omega⟩ ⟨by omega, by omega⟩] at q; omega), if_neg (zI_ne ⟨by omega, by omega⟩ ⟨by omega, by omega⟩ (by omega))]
        exact ⟨okF_W W1 rfl, okF_W W1 rfl, okF_W W1 rfl, okO_W W1 rfl, _, _, ep, hr⟩
      have hdl := h1.2.2.2.1.1
      rcases plc_spec (D := S.docs) (n := dNum S.buf N) with ⟨p1, p2⟩ | ⟨i, p1, p2, p3, p4⟩
      · rw [if_neg (fun q => q p1)]
        obtain ⟨M2, k1, k2, k3⟩ := e_S_keep (G := G) (d := d + 1) (n := dNum S.buf N) W1 h1.2.2.2.1 hO.1 (by omega) h1.2.1 (by omega)
        have W2 := k3.1
        have pre4 : ∀ r, EvC G (d + 5) m_P_insert 78 [some (.ref 0), some (.int (zI (-1))), some (.int (zI (dNum S.buf N)))] [.int (zI (if S.docs.length < 16 then 1 else 0))] M2 r → Ev G (d + 5) 19 [.ref 0] M r := fun r hr => by
          refine pre3 _ (ev_P_insert_58 ?_)
          rw [p1, if_pos rfl]
          exact ⟨okF_W W1 rfl, okF_W W1 rfl, okO_W W1 rfl, _, _, k1, hr⟩
        have h2 := h1.sto k3 (fun a j q => Or.inr q) k2
        have F2 : Fx gC M M2 := F1.tr (k3.up (fun a j q => by unfold p5_39 at q; unfold gC; omega))
        by_cases c3 : S.docs.length < 16
        · rw [if_neg (show ¬ 16 ≤ S.docs.length by omega)]
          rw [if_pos c3] at h2
          have f3 : Fx (fun a _ => a = 1) M2 (am_setI M2 1 1 (zI 0)) := Fx.setI W2 rfl
          have h3 := h2.buf f3 (fun a j q => Or.inr (Or.inl q)) (row_clear h2.2.1)
          refine ⟨am_setI M2 1 1 (zI 0), pre4 _ (ev_P_insert_78 ?_), h3, F2.tr (f3.up (fun a j q => by unfold gC; omega))⟩
          rw [if_pos c3, zI_0, if_neg z10]
          exact ⟨okF_W W2 rfl, okP_W W2 rfl rfl, rfl⟩
        · rw [if_pos (show 16 ≤ S.docs.length by omega)]
          rw [if_neg c3] at h2
          refine ⟨M2, pre4 _ (ev_P_insert_78 ?_), h2, F2⟩
          rw [if_neg c3, zI_0, if_pos rfl]
      · rw [if_pos (show ¬ plc S.docs (dNum S.buf N) = -1 by omega)]
        refine ⟨M1, pre3 _ (ev_P_insert_58 ?_), h1, F1⟩
        rw [if_neg (zI_ne ⟨by omega, by omega⟩ ⟨by omega, by omega⟩ (by omega))]
theorem e_P_fetch {n : Int} (h : RepC M S) (hO : Ok S) (hn : rg n) : ∃ M', Ev G (d + 3) 37 [.ref 0, .int (zI n)] M (some (.int (zI (sp_fetch S n).1)), M') ∧ RepC M' (sp_fetch S n).2 ∧ Fx gC M M' := by
  have hW := h.1
  have ep := e_S_placeOf (G := G) (d := d + 2) (n := n) hW h.2.2.2.1 hO.1 hn
  have pre : ∀ r, EvC G (d + 3) m_P_fetch 8 [some (.ref 0), some (.int (zI n)), none] [.int (zI (plc S.docs n))] M r → Ev G (d + 3) 37 [.ref 0, .int (zI n)] M r := fun r hr => ev_of (q := mt_P_fetch) rfl (ev_P_fetch_0 ⟨okF_W hW rfl, okO_W hW rfl, _, _, ep, hr⟩)
  unfold sp_fetch
  rcases plc_spec (D := S.docs) (n := n) with ⟨p1, p2⟩ | ⟨i, p1, p2, p3, p4⟩
  · rw [if_pos p1]
    refine ⟨M, pre _ (ev_P_fetch_8 ?_), h, Fx.rf hW⟩
    rw [p1, if_pos rfl]
  · rw [if_neg (show ¬ plc S.docs n = -1 by omega), p3, Int.toNat_natCast]
    obtain ⟨h1, h2, R, ⟨h3, h4⟩, h5⟩ := h.2.2.2.1
    obtain ⟨w1, w2⟩ := h5 i p1
    obtain ⟨r1, r2⟩ := h3 i (by omega)
    have r3 := r2
    unfold isRw at r3
    have hl := w1.2.2.1
    obtain ⟨M1, e1, b1, f1⟩ := e_R_become (G := G) (d := d) (r := 1) (by omega) (by omega) (by omega) hW h.2.1 w1 (by omega)
    have f1x := f1.x hW
    have W1 := f1x.1
    refine ⟨M1, pre _ (ev_P_fetch_8 ?_), h.buf f1x (fun a j q => Or.inr (mem2 q)) b1, f1x.up (fun a j q => by have := mem2 q; unfold gC; omega)⟩
    rw [p3, if_neg (zI_ne ⟨by omega, by omega⟩ ⟨by omega, by omega⟩ (by omega)), zI_nat (show i < 2147483648 by omega), show M.2.2 (0 + 5 + 1) i = some (R i) from r1, Option.getD_some]
    refine ⟨okF_W hW rfl, okF_W hW rfl, okF_W hW rfl, okQ_6 hW (by omega), rfl, okO_W hW rfl, _, e1, ev_P_fetch_32 ⟨okF_W W1 rfl, okF_W W1 rfl, ?_⟩⟩
    rw [show M1.2.1 (0 + 1) 1 = _ from b1.2.2.2.1]
theorem e_P_remove {n : Int} (h : RepC M S) (hO : Ok S) (hn : rg n) : ∃ M', Ev G (d + 1) 38 [.ref 0, .int (zI n)] M (some (.int (zI (sp_remove S n).1)), M') ∧ RepC M' (sp_remove S n).2 ∧ Fx gC M M' := by
  have hW := h.1
  have ep := e_S_placeOf (G := G) (d := d) (n := n) hW h.2.2.2.1 hO.1 hn
  have pre : ∀ r, EvC G (d + 1) m_P_remove 8 [some (.ref 0), some (.int (zI n)), none] [.int (zI (plc S.docs n))] M r → Ev G (d + 1) 38 [.ref 0, .int (zI n)] M r := fun r hr => ev_of (q := mt_P_remove) rfl (ev_P_remove_0 ⟨okF_W hW rfl, okO_W hW rfl, _, _, ep, hr⟩)
  have hl := h.2.2.2.1.1
  unfold sp_remove
  rcases plc_spec (D := S.docs) (n := n) with ⟨p1, p2⟩ | ⟨i, p1, p2, p3, p4⟩
  · rw [if_pos p1]
    refine ⟨M, pre _ (ev_P_remove_8 ?_), h, Fx.rf hW⟩
    rw [p1, if_pos rfl]
  · rw [if_neg (show ¬ plc S.docs n = -1 by omega), p3, Int.toNat_natCast]
    obtain ⟨M1, e1, k1, k2⟩ := e_S_drop (G := G) (d := d) hW h.2.2.2.1 p1
    refine ⟨M1, pre _ (ev_P_remove_8 ?_), h.sto k2 (fun a j q => Or.inr q) k1, k2.up (fun a j q => by unfold p5_39 at q; unfold gC; omega)⟩
    rw [p3, if_neg (zI_ne ⟨by omega, by omega⟩ ⟨by omega, by omega⟩ (by omega))]
    exact ⟨okF_W hW rfl, okO_W hW rfl, _, e1, ev_P_remove_24 rfl⟩
theorem e_P_count (h : RepC M S) : Ev G d 84 [.ref 0] M (some (.int (zI (S.docs.length : Int))), M) := by
  have hW := h.1
  refine ev_of (q := mt_P_count) rfl (ev_P_count_0 ⟨okF_W hW rfl, okF_W hW rfl, ?_⟩)
  rw [show M.2.1 (0 + 5) 2 = _ from h.2.2.2.1.2.1]
end PSTO
