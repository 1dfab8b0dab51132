/-! THE REFERENCE's reader: wrong, behind, nameEnd, readText, readPlain -/
def mIn (M : Mm_) (o : Nat) (B : List Int) : Prop := WM M ∧ okB B ∧ mAt M o B ∧ o + B.length ≤ 1728
theorem setI_same {M : Mm_} {a j : Nat} : am_setI M a j (M.2.1 a j) = M := by
  have e : up2 M.2.1 a j (M.2.1 a j) = M.2.1 := by
    funext b i
    unfold up2
    split
    · next e =>
      subst e
      split
      · next e => subst e; rfl
      · rfl
    · rfl
  show (M.1, up2 M.2.1 a j (M.2.1 a j), M.2.2) = M
  rw [e]
theorem fNeg {M : Mm_} (h : M.2.1 91 20 = zI (-1)) : M.2.1 91 20 < 0 := by
  rw [h, zI_0, zI_lt ⟨by omega, by omega⟩ ⟨by omega, by omega⟩]
  omega
theorem fPos {M : Mm_} {g : Int} (h : M.2.1 91 20 = zI g) (hg : 0 ≤ g ∧ g < 5000) : ¬ M.2.1 91 20 < 0 := by
  rw [h, zI_0, zI_lt ⟨by omega, by omega⟩ ⟨by omega, by omega⟩]
  omega
theorem mI {M : Mm_} {o : Nat} {B : List Int} (h : mIn M o B) {i : Nat} (hi : i < B.length) : M.2.1 (91 + 1) (zI ((o : Int) + (i : Int))).toNatClampNeg = zI (by_ B i) := by
  have := h.2.2.2
  rw [zI_clamp ⟨by omega, by omega⟩, show ((o : Int) + (i : Int)).toNat = o + i by omega]
  exact h.2.2.1 i hi
theorem mOk {M : Mm_} {o : Nat} {B : List Int} (h : mIn M o B) {i : Nat} (hi : i < B.length) : am_okA M (91 + 1) 0 (zI ((o : Int) + (i : Int))) = true := by
  have := h.2.2.2
  exact okA_W h.1 (show sg0[91 + 1]? = some (.inr (0, 1728)) from rfl) (zI_in (by omega) (by omega) (by omega))
theorem mIn.ft {M : Mm_} {o : Nat} {B : List Int} {x : Int32} (h : mIn M o B) : mIn (am_setI M 91 20 x) o B := ⟨WM_setI h.1, h.2.1, fun i hi => by rw [setI_cell (by decide)]; exact h.2.2.1 i hi, h.2.2.2⟩
theorem bO {B : List Int} (h : okB B) (i : Nat) : (i < B.length ∧ 0 ≤ by_ B i ∧ by_ B i ≤ 255) ∨ (B.length ≤ i ∧ by_ B i = -1) := by
  by_cases c : i < B.length
  · exact Or.inl ⟨c, h i c⟩
  · exact Or.inr ⟨by omega, by_out (by omega)⟩
def pOut (M : Mm_) (o : Nat) (M' : Mm_) (x : Int32) : Nat ⊕ Nat → Prop
  | .inl f => M' = am_setI M 91 20 (zI ((o : Int) + (f : Int)))
  | .inr q => M' = M ∧ x = zI ((o : Int) + (q : Int))
section MREAD
variable {G : Nat × (Nat → Int32)} {d o : Nat} {B : List Int}
theorem e_M_wrong {M : Mm_} {x : Int32} (hW : WM M) (hf : M.2.1 91 20 = zI (-1)) : Ev G d 98 [.ref 91, .int x] M (some (.int (zI 0)), am_setI M 91 20 x) := by
  refine ev_of (q := mt_M_wrong) rfl (ev_M_wrong_0 ?_)
  rw [if_pos (fNeg hf)]
  exact ⟨okF_W hW rfl, okP_W hW rfl rfl, rfl⟩
theorem e_M_wrong_old {M : Mm_} {x : Int32} {g : Int} (hW : WM M) (hf : M.2.1 91 20 = zI g) (hg : 0 ≤ g ∧ g < 5000) : Ev G d 98 [.ref 91, .int x] M (some (.int (zI 0)), M) := by
  refine ev_of (q := mt_M_wrong) rfl (ev_M_wrong_0 ?_)
  rw [if_neg (fPos hf hg), setI_same]
  exact ⟨okF_W hW rfl, okF_W hW rfl, okP_W hW rfl rfl, rfl⟩
theorem e_M_behind {M : Mm_} {t : Int} {v : Nat} (h : mIn M o B) (ht : 1 ≤ t ∧ t ≤ 6) (hv : t = 1 ∨ t = 5 ∨ t = 6 ∨ v < B.length) : Ev G d 103 [.ref 91, .int (zI t), .int (zI ((o : Int) + (v : Int)))] M (some (.int (zI ((o : Int) + ((bh B t v : Nat) : Int)))), M) := by
  have hb := h.2.2.2
  refine ev_of (q := mt_M_behind) rfl (ev_M_behind_0 ?_)
  have rt : rg t := ⟨by omega, by omega⟩
  unfold bh
  by_cases c1 : t = 1
  · rw [if_pos c1, if_pos ((zI_eq rt ⟨by omega, by omega⟩).mpr c1), zI_add, show (o : Int) + (v : Int) + 2 = (o : Int) + ((v + 2 : Nat) : Int) by omega]
  · rw [if_neg c1, if_neg (zI_ne rt ⟨by omega, by omega⟩ c1)]
    by_cases c2 : t = 2
    · have hv : v < B.length := by omega
      have h0 := h.2.1 v hv
      rw [if_pos c2, if_pos ((zI_eq rt ⟨by omega, by omega⟩).mpr c2), mI h hv, zI_add, zI_add, show (o : Int) + (v : Int) + 1 + by_ B v = (o : Int) + ((v + 1 + (by_ B v).toNat : Nat) : Int) by omega]
      exact ⟨okF_W h.1 rfl, mOk h hv, rfl⟩
    · rw [if_neg c2, if_neg (zI_ne rt ⟨by omega, by omega⟩ c2)]
      by_cases c5 : t = 5
      · rw [if_pos c5, if_pos ((zI_eq rt ⟨by omega, by omega⟩).mpr c5), zI_add, show (o : Int) + (v : Int) + 1 = (o : Int) + ((v + 1 : Nat) : Int) by omega]
      · rw [if_neg c5, if_neg (zI_ne rt ⟨by omega, by omega⟩ c5)]
        by_cases c6 : t = 6
        · rw [if_pos c6, if_pos ((zI_eq rt ⟨by omega, by omega⟩).mpr c6)]
        · have hv : v < B.length := by omega
          have h0 := h.2.1 v hv
          rw [if_neg c6, if_neg (zI_ne rt ⟨by omega, by omega⟩ c6), mI h hv, zI_add, show (o : Int) + (v : Int) + by_ B v = (o : Int) + ((v + (by_ B v).toNat : Nat) : Int) by omega]
          exact ⟨okF_W h.1 rfl, mOk h hv, rfl⟩
theorem nameEnd_l {M : Mm_} {x1 : Int32} (h : mIn M o B) : ∀ (n p : Nat), (∀ i, i < n → by_ B (p + i) ≠ 0) → p + n < B.length → by_ B (p + n) = 0 → EvC G d m_M_nameEnd 2 [some (.ref 91), some (.int x1), some (.int (zI ((o : Int) + (p : Int))))] [] M (some (.int (zI ((o : Int) + ((p + n + 1 : Nat) : Int)))), M)
  | 0, p, h1, h2, h3 => by
    have hb := h.2.2.2
    refine ev_M_nameEnd_2 ?_
    rw [mI h (by omega), show by_ B p = 0 from h3, zI_0, if_pos rfl, zI_add, show (o : Int) + (p : Int) + 1 = (o : Int) + ((p + 0 + 1 : Nat) : Int) by omega]
    exact ⟨okF_W h.1 rfl, mOk h (by omega), rfl⟩
  | n + 1, p, h1, h2, h3 => by
    have hb := h.2.2.2
    have hp : p < B.length := by omega
    have h0 := h.2.1 p hp
    have ih := nameEnd_l (M := M) (x1 := x1) h n (p + 1) (fun i hi => by have := h1 (i + 1) (by omega); rwa [show p + (i + 1) = p + 1 + i by omega] at this) (by omega) (by rw [show p + 1 + n = p + (n + 1) by omega]; exact h3)
    refine ev_M_nameEnd_2 ?_
    rw [mI h hp, zI_0, if_neg (zI_ne ⟨by omega, by omega⟩ ⟨by omega, by omega⟩ (show by_ B p ≠ 0 from h1 0 (by omega))), zI_add, show (o : Int) + (p : Int) + 1 = (o : Int) + ((p + 1 : Nat) : Int) by omega, show p + (n + 1) + 1 = p + 1 + n + 1 by omega]
    exact ⟨okF_W h.1 rfl, mOk h hp, ih⟩
theorem e_M_nameEnd {M : Mm_} {n p : Nat} (h : mIn M o B) (h1 : ∀ i, i < n → by_ B (p + i) ≠ 0) (h2 : p + n < B.length) (h3 : by_ B (p + n) = 0) : Ev G d 102 [.ref 91, .int (zI ((o : Int) + (p : Int)))] M (some (.int (zI ((o : Int) + ((p + n + 1 : Nat) : Int)))), M) := ev_of (q := mt_M_nameEnd) rfl (ev_M_nameEnd_0 (nameEnd_l h n p h1 h2 h3))
theorem NmAt_end {p q : Nat} {x : Int} (h : NmAt B p x q) : ∃ n, 1 ≤ n ∧ n ≤ 4 ∧ (∀ i, i < n → 97 ≤ by_ B (p + i) ∧ by_ B (p + i) ≤ 122) ∧ by_ B (p + n) = 0 ∧ q = p + n + 1 ∧ p + n < B.length := by
  obtain ⟨ls, h1, h2, h3, h4, h5, h6, -⟩ := h
  refine ⟨ls.length, h1, h2, fun i hi => ?_, h5, h6, by_lt (by omega)⟩
  rw [h4 i hi, List.getD_eq_getElem?_getD, List.getElem?_eq_getElem hi]
  exact h3 _ (List.getElem_mem hi)
theorem e_M_nameEnd_at {M : Mm_} {p q : Nat} {x : Int} (h : mIn M o B) (hn : NmAt B p x q) : Ev G d 102 [.ref 91, .int (zI ((o : Int) + (p : Int)))] M (some (.int (zI ((o : Int) + (q : Int)))), M) := by
  obtain ⟨n, h1, h2, h3, h4, h5, h6⟩ := NmAt_end hn
  subst h5
  exact e_M_nameEnd h (fun i hi c => by have := h3 i hi; omega) h6 h4
/-! a text -/
theorem txt_f {M : Mm_} {x1 x2 x3 : Int32} {g : Int} (hW : WM M) (hf : M.2.1 91 20 = zI g) (hg : 0 ≤ g ∧ g < 5000) : EvC G (d + 1) m_M_readText 26 [some (.ref 91), some (.int x1), some (.int x2), some (.int x3)] [] M (some (.int x3), M) := by
  refine ev_M_readText_26 ?_
  rw [if_neg (fPos hf hg)]
  exact ⟨okF_W hW rfl, rfl⟩
theorem txt_loop {M : Mm_} {p : Nat} (h : mIn M o B) (hf : M.2.1 91 20 = zI (-1)) (hp : p < B.length) : ∀ (k i : Nat), i + k = p + 1 + (by_ B p).toNat →
    ∃ M' x, EvC G (d + 1) m_M_readText 26 [some (.ref 91), some (.int (zI ((o : Int) + (p : Int)))), some (.int (zI ((o : Int) + (B.length : Int)))), some (.int (zI ((o : Int) + (i : Int))))] [] M (some (.int x), M') ∧ pOut M o M' x (rb B 32 126 k i)
  | 0, i, hi => by
    have hb := h.2.1 p hp
    have hq := h.2.2.2
    refine ⟨M, _, ev_M_readText_26 ?_, (show pOut _ _ _ _ (.inr i) from ⟨rfl, rfl⟩)⟩
    rw [if_pos (fNeg hf), mI h hp, zI_add, if_pos ((zI_lt ⟨by omega, by omega⟩ ⟨by omega, by omega⟩).mpr (by omega))]
    exact ⟨okF_W h.1 rfl, okF_W h.1 rfl, mOk h hp, rfl⟩
  | k + 1, i, hi => by
    have hb := h.2.1 p hp
    have hq := h.2.2.2
    have hrb : rb B 32 126 (k + 1) i = if 32 ≤ by_ B i ∧ by_ B i ≤ 126 then rb B 32 126 k (i + 1) else .inl i := rfl
    have hout : ∀ x : Int32, EvC G (d + 1) m_M_readText 71 [some (.ref 91), some (.int (zI ((o : Int) + (p : Int)))), some (.int (zI ((o : Int) + (B.length : Int)))), some (.int (zI ((o : Int) + (i : Int))))] [.int x] (am_setI M 91 20 (zI ((o : Int) + (i : Int)))) (some (.int (zI ((o : Int) + (i : Int)) + zI 1)), am_setI M 91 20 (zI ((o : Int) + (i : Int)))) := fun x => ev_M_readText_71 (txt_f (g := (o : Int) + (i : Int)) (WM_setI h.1) setI_self ⟨by omega, by omega⟩)
    by_cases ci : i < B.length
    · have hbi := h.2.1 i ci
      by_cases c : 32 ≤ by_ B i ∧ by_ B i ≤ 126
      · obtain ⟨M', x, e, w⟩ := txt_loop h hf hp k (i + 1) (by omega)
        refine ⟨M', x, ev_M_readText_26 ?_, by rw [hrb, if_pos c]; exact w⟩
        rw [if_pos (fNeg hf), mI h hp, mI h ci, zI_add, if_neg (fun q => by rw [zI_lt ⟨by omega, by omega⟩ ⟨by omega, by omega⟩] at q; omega), if_pos ((zI_lt ⟨by omega, by omega⟩ ⟨by omega, by omega⟩).mpr (by omega))]
        refine ⟨okF_W h.1 rfl, okF_W h.1 rfl, mOk h hp, okF_W h.1 rfl, mOk h ci, _, _, e_M_in_t ⟨by omega, by omega⟩ ⟨by omega, by omega⟩ ⟨by omega, by omega⟩ c, ev_M_readText_63 ?_⟩
        rw [zI_0, if_neg z10, zI_add, show (o : Int) + (i : Int) + 1 = (o : Int) + ((i + 1 : Nat) : Int) by omega]
        exact e
      · refine ⟨am_setI M 91 20 (zI ((o : Int) + (i : Int))), zI ((o : Int) + (i : Int)) + zI 1, ev_M_readText_26 ?_, by rw [hrb, if_neg c]; exact rfl⟩
        rw [if_pos (fNeg hf), mI h hp, mI h ci, zI_add, if_neg (fun q => by rw [zI_lt ⟨by omega, by omega⟩ ⟨by omega, by omega⟩] at q; omega), if_pos ((zI_lt ⟨by omega, by omega⟩ ⟨by omega, by omega⟩).mpr (by omega))]
        refine ⟨okF_W h.1 rfl, okF_W h.1 rfl, mOk h hp, okF_W h.1 rfl, mOk h ci, _, _, e_M_in_f ⟨by omega, by omega⟩ ⟨by omega, by omega⟩ ⟨by omega, by omega⟩ c, ev_M_readText_63 ?_⟩
        rw [zI_0, if_pos rfl]
        exact ⟨okO_W h.1 rfl, _, _, e_M_wrong h.1 hf, hout _⟩
    · have hbi := by_out (B := B) (p := i) (by omega)
      refine ⟨am_setI M 91 20 (zI ((o : Int) + (i : Int))), zI ((o : Int) + (i : Int)) + zI 1, ev_M_readText_26 ?_, by rw [hrb, if_neg (by omega)]; exact rfl⟩
      rw [if_pos (fNeg hf), mI h hp, zI_add, if_neg (fun q => by rw [zI_lt ⟨by omega, by omega⟩ ⟨by omega, by omega⟩] at q; omega), if_neg (fun q => by rw [zI_lt ⟨by omega, by omega⟩ ⟨by omega, by omega⟩] at q; omega)]
      exact ⟨okF_W h.1 rfl, okF_W h.1 rfl, mOk h hp, okO_W h.1 rfl, _, _, e_M_wrong h.1 hf, hout _⟩
theorem rb_1 {lo hi : Int} {p : Nat} : rb B lo hi 1 p = if lo ≤ by_ B p ∧ by_ B p ≤ hi then .inr (p + 1) else .inl p := rfl
theorem rdC_2 {p : Nat} : rdC B 2 p = if 0 ≤ by_ B p ∧ by_ B p ≤ 8 then rb B 32 126 (by_ B p).toNat (p + 1) else .inl p := by
  unfold rdC
  rw [if_neg (by decide), if_pos rfl, rb_1]
  split
  · next f e =>
    split at e
    · cases e
    · next c =>
      rw [if_neg c]
      exact congrArg Sum.inl (Sum.inl.inj e).symm
  · next q e =>
    split at e
    · next c =>
      rw [if_pos c, ← Sum.inr.inj e]
    · cases e
theorem e_M_readText {M : Mm_} {p : Nat} (h : mIn M o B) (hf : M.2.1 91 20 = zI (-1)) (hp : p ≤ B.length) : ∃ M' x, Ev G (d + 1) 100 [.ref 91, .int (zI ((o : Int) + (p : Int))), .int (zI ((o : Int) + (B.length : Int)))] M (some (.int x), M') ∧ pOut M o M' x (rdC B 2 p) := by
  have hq := h.2.2.2
  have hout : ∀ x : Int32, EvC G (d + 1) m_M_readText 21 [some (.ref 91), some (.int (zI ((o : Int) + (p : Int)))), some (.int (zI ((o : Int) + (B.length : Int)))), none] [.int x] (am_setI M 91 20 (zI ((o : Int) + (p : Int)))) (some (.int (zI ((o : Int) + (p : Int)) + zI 1)), am_setI M 91 20 (zI ((o : Int) + (p : Int)))) := fun x => ev_M_readText_21 (txt_f (g := (o : Int) + (p : Int)) (WM_setI h.1) setI_self ⟨by omega, by omega⟩)
  rw [rdC_2]
  by_cases cp : p < B.length
  · have hb := h.2.1 p cp
    by_cases c : by_ B p ≤ 8
    · rw [if_pos ⟨hb.1, c⟩]
      obtain ⟨M', x, e, w⟩ := txt_loop (G := G) (d := d) h hf cp (by_ B p).toNat (p + 1) rfl
      refine ⟨M', x, ev_of (q := mt_M_readText) rfl (ev_M_readText_0 ?_), w⟩
      rw [if_pos ((zI_lt ⟨by omega, by omega⟩ ⟨by omega, by omega⟩).mpr (by omega)), mI h cp, if_neg (fun q => by rw [zI_lt ⟨by omega, by omega⟩ ⟨by omega, by omega⟩] at q; omega), zI_add, show (o : Int) + (p : Int) + 1 = (o : Int) + ((p + 1 : Nat) : Int) by omega]
      exact ⟨okF_W h.1 rfl, mOk h cp, e⟩
    · rw [if_neg (fun q => c q.2)]
      refine ⟨am_setI M 91 20 (zI ((o : Int) + (p : Int))), zI ((o : Int) + (p : Int)) + zI 1, ev_of (q := mt_M_readText) rfl (ev_M_readText_0 ?_), rfl⟩
      rw [if_pos ((zI_lt ⟨by omega, by omega⟩ ⟨by omega, by omega⟩).mpr (by omega)), mI h cp, if_pos ((zI_lt ⟨by omega, by omega⟩ ⟨by omega, by omega⟩).mpr (by omega))]
      exact ⟨okF_W h.1 rfl, mOk h cp, okO_W h.1 rfl, _, _, e_M_wrong h.1 hf, hout _⟩
  · have hb := by_out (B := B) (p := p) (by omega)
    rw [if_neg (by omega)]
    refine ⟨am_setI M 91 20 (zI ((o : Int) + (p : Int))), zI ((o : Int) + (p : Int)) + zI 1, ev_of (q := mt_M_readText) rfl (ev_M_readText_0 ?_), rfl⟩
    rw [if_neg (fun q => by rw [zI_lt ⟨by omega, by omega⟩ ⟨by omega, by omega⟩] at q; omega)]
    exact ⟨okO_W h.1 rfl, _, _, e_M_wrong h.1 hf, hout _⟩
end MREAD
