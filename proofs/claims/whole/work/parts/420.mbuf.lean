/-! THE REFERENCE's buffer: put, set, cut, size, at -/
def isM (P : Nat → Nat → Prop) : Prop := ∀ a j, P a j → 91 ≤ a
/-- bytes at place o of the reference's memory -/
def mAt (M : Mm_) (o : Nat) (B : List Int) : Prop := ∀ i, i < B.length → M.2.1 92 (o + i) = zI (by_ B i)
def okB (B : List Int) : Prop := ∀ i, i < B.length → 0 ≤ by_ B i ∧ by_ B i ≤ 255
def mBuf (M : Mm_) (B : List Int) : Prop := B.length ≤ 80 ∧ M.2.1 91 1 = zI B.length ∧ mAt M 1024 B ∧ okB B
/-- the places of the buffer -/
def pBuf (a j : Nat) : Prop := (a = 91 ∧ j = 1) ∨ (a = 92 ∧ 1024 ≤ j ∧ j < 1104)
def b01 (p : Prop) : Int32 → Prop := fun x => (p ∧ x = zI 1) ∨ (¬ p ∧ x = zI 0)
theorem zI_ne {a b : Int} (ha : rg a) (hb : rg b) (h : a ≠ b) : ¬ zI a = zI b := fun q => h ((zI_eq ha hb).mp q)
theorem z10 : ¬ zI 1 = zI 0 := by decide +kernel
section MBUF
variable {G : Nat × (Nat → Int32)} {d : Nat} {M : Mm_}
theorem e_M_in_t {v l h : Int} (hv : rg v) (hl : rg l) (hh : rg h) (c : l ≤ v ∧ v ≤ h) : Ev G d 87 [.int (zI v), .int (zI l), .int (zI h)] M (some (.int (zI 1)), M) := by
  refine ev_of (q := mt_M_in) rfl (ev_M_in_0 ?_)
  rw [if_neg (fun q => by rw [zI_lt hv hl] at q; omega), if_neg (fun q => by rw [zI_lt hh hv] at q; omega)]
theorem e_M_in_f {v l h : Int} (hv : rg v) (hl : rg l) (hh : rg h) (c : ¬ (l ≤ v ∧ v ≤ h)) : Ev G d 87 [.int (zI v), .int (zI l), .int (zI h)] M (some (.int (zI 0)), M) := by
  refine ev_of (q := mt_M_in) rfl (ev_M_in_0 ?_)
  by_cases c1 : v < l
  · rw [if_pos ((zI_lt hv hl).mpr c1)]
  · rw [if_neg (fun q => by rw [zI_lt hv hl] at q; omega), if_pos ((zI_lt hh hv).mpr (by omega))]
theorem Mput_loop {w x2 : Int32} : ∀ (k : Nat) (M : Mm_) (B : List Int), k ≤ 4 → WM M → mBuf M B → B.length + k ≤ 80 →
    ∃ M', EvC G d m_M_put 26 [some (.ref 91), some (.int w), some (.int x2), some (.int (zI ((k : Int) - 1)))] [] M (some (.int (zI 1)), M') ∧ mBuf M' (B ++ bts w k) ∧ Fp pBuf M M'
  | 0, M, B, hk, hW, h, hl => by
    refine ⟨M, ev_M_put_26 ?_, by rw [bts, List.append_nil]; exact h, Fp.rf⟩
    rw [zI_0, if_pos ((zI_lt ⟨by omega, by omega⟩ ⟨by omega, by omega⟩).mpr (by omega))]
  | k + 1, M, B, hk, hW, h, hl => by
    obtain ⟨h1, h2, h3, h4⟩ := h
    have hb := bt_rg w k
    have e0 : (zI (1024 + (B.length : Int))).toNatClampNeg = 1024 + B.length := by rw [zI_clamp ⟨by omega, by omega⟩]; omega
    have f1 : Fp pBuf M (am_setI M 92 (1024 + B.length) (zI (bt w k))) := Fp.set (Or.inr ⟨rfl, by omega, by omega⟩)
    have f2 : Fp pBuf (am_setI M 92 (1024 + B.length) (zI (bt w k))) (am_setI (am_setI M 92 (1024 + B.length) (zI (bt w k))) 91 1 (zI ((B.length : Int) + 1))) := Fp.set (Or.inl ⟨rfl, rfl⟩)
    have hB' : mBuf (am_setI (am_setI M 92 (1024 + B.length) (zI (bt w k))) 91 1 (zI ((B.length : Int) + 1))) (B ++ [bt w k]) := by
      refine ⟨by simp; omega, by rw [setI_self]; simp, fun i hi => ?_, fun i hi => ?_⟩
      · rw [List.length_append, List.length_singleton] at hi
        rw [setI_cell (by decide)]
        by_cases e : i = B.length
        · subst e
          rw [setI_self, by_app2 (Nat.le_refl _), Nat.sub_self]
          rfl
        · rw [setI_idx (by omega), h3 i (by omega), by_app (by omega)]
      · rw [List.length_append, List.length_singleton] at hi
        by_cases e : i = B.length
        · subst e
          rw [by_app2 (Nat.le_refl _), Nat.sub_self]
          exact hb
        · rw [by_app (by omega)]
          exact h4 i (by omega)
    obtain ⟨M2, e2, r2, f3⟩ := Mput_loop (w := w) (x2 := x2) k _ (B ++ [bt w k]) (by omega) (f2.WM (f1.WM hW)) hB' (by simp; omega)
    refine ⟨M2, ev_M_put_26 ?_, by rw [List.append_assoc] at r2; exact r2, (f1.tr f2).tr f3⟩
    rw [show ((k + 1 : Nat) : Int) - 1 = (k : Int) by omega, zI_0, if_neg (fun q => by rw [zI_lt ⟨by omega, by omega⟩ ⟨by omega, by omega⟩] at q; omega), zI_mul, sshr_bt w (by omega), h2, zI_add, e0]
    refine ⟨okF_W hW rfl, okF_W hW rfl, okA_W hW (show sg0[91 + 1]? = some (.inr (0, 1728)) from rfl) (zI_in (by omega) (by omega) (by omega)), okF_W (WM_setI hW) rfl, okP_W (WM_setI hW) rfl rfl, ev_M_put_63 ?_⟩
    rw [zI_add, show (k : Int) + -1 = (k : Int) - 1 by omega]
    rw [setI_cell (show (91 : Nat) ≠ 91 + 1 by decide), h2, zI_add]
    exact e2
theorem e_M_put {B : List Int} {w : Int32} {n : Int} (hW : WM M) (h : mBuf M B) (hn : rg n) : ∃ M', Ev G (d + 1) 86 [.ref 91, .int w, .int (zI n)] M (some (.int (zI (sp_put B w n).1)), M') ∧ mBuf M' (sp_put B w n).2 ∧ Fp pBuf M M' := by
  have hl := h.1
  unfold sp_put
  by_cases c : 1 ≤ n ∧ n ≤ 4 ∧ (B.length : Int) + n ≤ 80
  · rw [if_pos c]
    obtain ⟨M', e, r', f⟩ := Mput_loop (G := G) (d := d + 1) (w := w) (x2 := zI n) n.toNat M B (by omega) hW h (by omega)
    refine ⟨M', ev_of (q := mt_M_put) rfl (ev_M_put_0 ⟨_, _, e_M_in_t hn ⟨by omega, by omega⟩ ⟨by omega, by omega⟩ ⟨c.1, c.2.1⟩, ev_M_put_6 ?_⟩), r', f⟩
    rw [zI_0, if_neg z10]
    refine ⟨okF_W hW rfl, ?_⟩
    rw [h.2.1, zI_add, if_neg (fun q => by rw [zI_lt ⟨by omega, by omega⟩ ⟨by omega, by omega⟩] at q; omega), zI_sub, show n - 1 = ((n.toNat : Nat) : Int) - 1 by omega]
    exact e
  · rw [if_neg c]
    by_cases c1 : 1 ≤ n ∧ n ≤ 4
    · refine ⟨M, ev_of (q := mt_M_put) rfl (ev_M_put_0 ⟨_, _, e_M_in_t hn ⟨by omega, by omega⟩ ⟨by omega, by omega⟩ c1, ev_M_put_6 ?_⟩), h, Fp.rf⟩
      rw [zI_0, if_neg z10]
      refine ⟨okF_W hW rfl, ?_⟩
      rw [h.2.1, zI_add, if_pos ((zI_lt ⟨by omega, by omega⟩ ⟨by omega, by omega⟩).mpr (by omega))]
    · refine ⟨M, ev_of (q := mt_M_put) rfl (ev_M_put_0 ⟨_, _, e_M_in_f hn ⟨by omega, by omega⟩ ⟨by omega, by omega⟩ c1, ev_M_put_6 ?_⟩), h, Fp.rf⟩
      rw [zI_0, if_pos rfl]
theorem e_M_set {B : List Int} {p b : Int} (hW : WM M) (h : mBuf M B) (hp : rg p) (hb : rg b) : ∃ M', Ev G (d + 1) 88 [.ref 91, .int (zI p), .int (zI b)] M (some (.int (zI (sp_set B p b).1)), M') ∧ mBuf M' (sp_set B p b).2 ∧ Fp pBuf M M' := by
  obtain ⟨h1, h2, h3, h4⟩ := h
  unfold sp_set
  by_cases c1 : 0 ≤ p ∧ p ≤ (B.length : Int) - 1
  · by_cases c2 : 0 ≤ b ∧ b ≤ 255
    · rw [if_pos ⟨c1.1, by omega, c2⟩]
      have e0 : (zI (1024 + p)).toNatClampNeg = 1024 + p.toNat := by rw [zI_clamp ⟨by omega, by omega⟩]; omega
      refine ⟨am_setI M 92 (1024 + p.toNat) (zI b), ev_of (q := mt_M_set) rfl (ev_M_set_0 ⟨okF_W hW rfl, ?_⟩), ⟨by rw [List.length_set]; exact h1, by rw [List.length_set, setI_cell (by decide)]; exact h2, fun i hi => ?_, fun i hi => ?_⟩, Fp.set (Or.inr ⟨rfl, by omega, by omega⟩)⟩
      · rw [h2, zI_sub]
        refine ⟨_, _, e_M_in_t hp ⟨by omega, by omega⟩ ⟨by omega, by omega⟩ c1, ev_M_set_11 ?_⟩
        rw [zI_0, if_neg z10]
        refine ⟨_, _, e_M_in_t hb ⟨by omega, by omega⟩ ⟨by omega, by omega⟩ c2, ev_M_set_22 ?_⟩
        rw [zI_0, if_neg z10, zI_add, e0]
        exact ⟨okF_W hW rfl, okA_W hW (show sg0[91 + 1]? = some (.inr (0, 1728)) from rfl) (zI_in (by omega) (by omega) (by omega)), rfl⟩
      · rw [List.length_set] at hi
        rw [by_set (by omega)]
        by_cases e : i = p.toNat
        · rw [if_pos e, e]
          exact setI_self
        · rw [if_neg e]
          exact (setI_idx (by omega)).trans (h3 i hi)
      · rw [List.length_set] at hi
        rw [by_set (by omega)]
        by_cases e : i = p.toNat
        · rw [if_pos e]; exact c2
        · rw [if_neg e]; exact h4 i hi
    · rw [if_neg (fun q => c2 q.2.2)]
      refine ⟨M, ev_of (q := mt_M_set) rfl (ev_M_set_0 ⟨okF_W hW rfl, ?_⟩), ⟨h1, h2, h3, h4⟩, Fp.rf⟩
      rw [h2, zI_sub]
      refine ⟨_, _, e_M_in_t hp ⟨by omega, by omega⟩ ⟨by omega, by omega⟩ c1, ev_M_set_11 ?_⟩
      rw [zI_0, if_neg z10]
      refine ⟨_, _, e_M_in_f hb ⟨by omega, by omega⟩ ⟨by omega, by omega⟩ c2, ev_M_set_22 ?_⟩
      rw [zI_0, if_pos rfl]
  · rw [if_neg (fun q => c1 ⟨q.1, by omega⟩)]
    refine ⟨M, ev_of (q := mt_M_set) rfl (ev_M_set_0 ⟨okF_W hW rfl, ?_⟩), ⟨h1, h2, h3, h4⟩, Fp.rf⟩
    rw [h2, zI_sub]
    refine ⟨_, _, e_M_in_f hp ⟨by omega, by omega⟩ ⟨by omega, by omega⟩ c1, ev_M_set_11 ?_⟩
    rw [zI_0, if_pos rfl]
theorem e_M_cut {B : List Int} {n : Int} (hW : WM M) (h : mBuf M B) (hn : rg n) : ∃ M', Ev G (d + 1) 89 [.ref 91, .int (zI n)] M (some (.int (zI (sp_cut B n).1)), M') ∧ mBuf M' (sp_cut B n).2 ∧ Fp pBuf M M' := by
  obtain ⟨h1, h2, h3, h4⟩ := h
  unfold sp_cut
  by_cases c : 0 ≤ n ∧ n ≤ (B.length : Int)
  · rw [if_pos c]
    have hl : (B.take n.toNat).length = n.toNat := by rw [List.length_take]; omega
    refine ⟨am_setI M 91 1 (zI n), ev_of (q := mt_M_cut) rfl (ev_M_cut_0 ⟨okF_W hW rfl, ?_⟩), ⟨by rw [hl]; omega, by rw [hl, setI_self, show ((n.toNat : Nat) : Int) = n by omega], fun i hi => ?_, fun i hi => ?_⟩, Fp.set (Or.inl ⟨rfl, rfl⟩)⟩
    · rw [h2]
      refine ⟨_, _, e_M_in_t hn ⟨by omega, by omega⟩ ⟨by omega, by omega⟩ c, ev_M_cut_9 ?_⟩
      rw [zI_0, if_neg z10]
      exact ⟨okP_W hW rfl rfl, rfl⟩
    · rw [hl] at hi
      rw [by_take hi, setI_cell (by decide)]
      exact h3 i (by omega)
    · rw [hl] at hi
      rw [by_take hi]
      exact h4 i (by omega)
  · rw [if_neg c]
    refine ⟨M, ev_of (q := mt_M_cut) rfl (ev_M_cut_0 ⟨okF_W hW rfl, ?_⟩), ⟨h1, h2, h3, h4⟩, Fp.rf⟩
    rw [h2]
    refine ⟨_, _, e_M_in_f hn ⟨by omega, by omega⟩ ⟨by omega, by omega⟩ c, ev_M_cut_9 ?_⟩
    rw [zI_0, if_pos rfl]
theorem e_M_size {B : List Int} (hW : WM M) (h : mBuf M B) : Ev G d 90 [.ref 91] M (some (.int (zI B.length)), M) := by
  refine ev_of (q := mt_M_size) rfl (ev_M_size_0 ⟨okF_W hW rfl, ?_⟩)
  rw [h.2.1]
theorem e_M_at {B : List Int} {p : Int} (hW : WM M) (h : mBuf M B) (hp : rg p) : Ev G (d + 1) 91 [.ref 91, .int (zI p)] M (some (.int (zI (cB B p))), M) := by
  obtain ⟨h1, h2, h3, h4⟩ := h
  refine ev_of (q := mt_M_at) rfl (ev_M_at_0 ⟨okF_W hW rfl, ?_⟩)
  rw [h2, zI_sub]
  unfold cB
  by_cases c1 : 0 ≤ p ∧ p ≤ (B.length : Int) - 1
  · refine ⟨_, _, e_M_in_t hp ⟨by omega, by omega⟩ ⟨by omega, by omega⟩ c1, ev_M_at_11 ?_⟩
    have e0 : (zI (1024 + p)).toNatClampNeg = 1024 + p.toNat := by rw [zI_clamp ⟨by omega, by omega⟩]; omega
    rw [zI_0, if_neg z10, zI_add, e0, if_pos c1.1]
    refine ⟨okF_W hW rfl, okA_W hW (show sg0[91 + 1]? = some (.inr (0, 1728)) from rfl) (zI_in (by omega) (by omega) (by omega)), ?_⟩
    rw [show M.2.1 (91 + 1) (1024 + p.toNat) = zI (by_ B p.toNat) from h3 _ (by omega)]
  · refine ⟨_, _, e_M_in_f hp ⟨by omega, by omega⟩ ⟨by omega, by omega⟩ c1, ev_M_at_11 ?_⟩
    rw [zI_0, if_pos rfl]
    split
    · rw [by_out (by omega)]
    · rfl
end MBUF
