/-! FRAMES by cell and place; THE BUFFER: put, set, cut, size, at of the class and of the reference -/
def Fp (P : Nat → Nat → Prop) (M M' : Mm_) : Prop := M'.1 = M.1 ∧ M'.2.2 = M.2.2 ∧ ∀ a j, ¬ P a j → M'.2.1 a j = M.2.1 a j
theorem Fp.rf {P : Nat → Nat → Prop} {M : Mm_} : Fp P M M := ⟨rfl, rfl, fun _ _ _ => rfl⟩
theorem Fp.tr {P : Nat → Nat → Prop} {M M' M'' : Mm_} (h : Fp P M M') (h' : Fp P M' M'') : Fp P M M'' := ⟨h'.1.trans h.1, h'.2.1.trans h.2.1, fun a j hn => (h'.2.2 a j hn).trans (h.2.2 a j hn)⟩
theorem Fp.up {P P' : Nat → Nat → Prop} {M M' : Mm_} (h : Fp P M M') (hs : ∀ a j, P a j → P' a j) : Fp P' M M' := ⟨h.1, h.2.1, fun a j hn => h.2.2 a j (fun q => hn (hs a j q))⟩
theorem Fp.set {P : Nat → Nat → Prop} {M : Mm_} {a j : Nat} {x : Int32} (h : P a j) : Fp P M (am_setI M a j x) := by
  refine ⟨rfl, rfl, fun b i hn => ?_⟩
  show up2 M.2.1 a j x b i = _
  unfold up2
  split
  · next e =>
    split
    · next e' => subst e; subst e'; exact absurd h hn
    · rfl
  · rfl
theorem Fp.WM {P : Nat → Nat → Prop} {M M' : Mm_} (h : Fp P M M') (hM : WM M) : WM M' := ⟨h.1.trans hM.1, fun a c s ha hf => by rw [h.2.1]; exact hM.2 a c s ha hf⟩
theorem Fr.p {A : List Nat} {M M' : Mm_} (h : Fr A M M') : Fp (fun a _ => a ∈ A) M M' := ⟨h.1, h.2.1, fun a j hn => by rw [h.2.2 a hn]⟩
theorem rowIs.keptp {P : Nat → Nat → Prop} {M M' : Mm_} {r cap : Nat} {B : List Int} (h : rowIs M r cap B) (hF : Fp P M M') (h1 : ∀ j, ¬ P r j) (h2 : ∀ j, ¬ P (r + 1) j) : rowIs M' r cap B := by
  obtain ⟨a1, a2, a3, a4, a5, a6⟩ := h
  exact ⟨a1, a2, a3, by rw [hF.2.2 r 1 (h1 1)]; exact a4, fun i hi => by rw [hF.2.2 _ i (h2 i)]; exact a5 i hi, a6⟩
/-- the n lowest bytes of w, the highest first -/
def bts (w : Int32) : Nat → List Int
  | 0 => []
  | k + 1 => bt w k :: bts w k
theorem bts_len (w : Int32) : ∀ n, (bts w n).length = n
  | 0 => rfl
  | n + 1 => by simp [bts, bts_len w n]
def sp_put (B : List Int) (w : Int32) (n : Int) : Int × List Int := if 1 ≤ n ∧ n ≤ 4 ∧ (B.length : Int) + n ≤ 80 then (1, B ++ bts w n.toNat) else (0, B)
def sp_set (B : List Int) (p b : Int) : Int × List Int := if 0 ≤ p ∧ p < (B.length : Int) ∧ 0 ≤ b ∧ b ≤ 255 then (1, B.set p.toNat b) else (0, B)
def sp_cut (B : List Int) (n : Int) : Int × List Int := if 0 ≤ n ∧ n ≤ (B.length : Int) then (1, B.take n.toNat) else (0, B)
theorem by_set {B : List Int} {p i : Nat} {b : Int} (hp : p < B.length) : by_ (B.set p b) i = if i = p then b else by_ B i := by
  by_cases e : i = p
  · subst e
    simp [by_, List.getD_eq_getElem?_getD, List.getElem?_set_self hp]
  · rw [if_neg e]
    simp [by_, List.getD_eq_getElem?_getD, List.getElem?_set_ne (Ne.symm e)]
theorem by_take {B : List Int} {n i : Nat} (hi : i < n) : by_ (B.take n) i = by_ B i := by
  simp [by_, List.getD_eq_getElem?_getD, List.getElem?_take, hi]
section BUF
variable {G : Nat × (Nat → Int32)} {d : Nat}
theorem put_loop {w x2 : Int32} : ∀ (k : Nat) (M : Mm_) (B : List Int), k ≤ 4 → WM M → rowIs M 1 80 B → B.length + k ≤ 80 →
    ∃ M', EvC G (d + 1) m_P_put 30 [some (.ref 0), some (.int w), some (.int x2), some (.int (zI ((k : Int) - 1)))] [] M (some (.int (zI 1)), M') ∧ rowIs M' 1 80 (B ++ bts w k) ∧ Fr [1, 2] M M'
  | 0, M, B, hk, hW, h, hl => by
    refine ⟨M, ev_P_put_30 ?_, by rw [bts, List.append_nil]; exact h, Fr.rf⟩
    rw [zI_0, if_pos ((zI_lt ⟨by omega, by omega⟩ ⟨by omega, by omega⟩).mpr (by omega))]
  | k + 1, M, B, hk, hW, h, hl => by
    obtain ⟨M1, e1, r1, f1⟩ := e_R_add (G := G) (d := d) (x := bt w k) hW h (by omega) (bt_rg w k)
    obtain ⟨M2, e2, r2, f2⟩ := put_loop (w := w) (x2 := x2) k M1 (B ++ [bt w k]) (by omega) (f1.WM hW) r1 (by simp; omega)
    refine ⟨M2, ev_P_put_30 ?_, by rw [List.append_assoc] at r2; exact r2, f1.tr f2⟩
    rw [show ((k + 1 : Nat) : Int) - 1 = (k : Int) by omega, zI_0, if_neg (fun q => by rw [zI_lt ⟨by omega, by omega⟩ ⟨by omega, by omega⟩] at q; omega), zI_mul, ushr_bt w (by omega)]
    refine ⟨okF_W hW rfl, okO_W hW rfl, M1, e1, ev_P_put_51 ?_⟩
    rw [zI_add, show (k : Int) + -1 = (k : Int) - 1 by omega]
    exact e2
theorem e_P_put {M : Mm_} {B : List Int} {w : Int32} {n : Int} (hW : WM M) (h : rowIs M 1 80 B) (hn : rg n) : ∃ M', Ev G (d + 1) 8 [.ref 0, .int w, .int (zI n)] M (some (.int (zI (sp_put B w n).1)), M') ∧ rowIs M' 1 80 (sp_put B w n).2 ∧ Fr [1, 2] M M' := by
  have hl := h.2.2.1
  unfold sp_put
  by_cases c : 1 ≤ n ∧ n ≤ 4 ∧ (B.length : Int) + n ≤ 80
  · rw [if_pos c]
    obtain ⟨M', e, r', f⟩ := put_loop (G := G) (d := d) (w := w) (x2 := zI n) n.toNat M B (by omega) hW h (by omega)
    refine ⟨M', ev_of (q := mt_P_put) rfl (ev_P_put_0 ?_), r', f⟩
    rw [if_neg (fun q => by rw [zI_lt hn ⟨by omega, by omega⟩] at q; omega), if_neg (fun q => by rw [zI_lt ⟨by omega, by omega⟩ hn] at q; omega)]
    refine ⟨okF_W hW rfl, okF_W hW rfl, ?_⟩
    rw [show M.2.1 (0 + 1) 1 = zI B.length from h.2.2.2.1, zI_add, if_neg (fun q => by rw [zI_lt ⟨by omega, by omega⟩ ⟨by omega, by omega⟩] at q; omega), zI_sub, show n - 1 = ((n.toNat : Nat) : Int) - 1 by omega]
    exact e
  · rw [if_neg c]
    refine ⟨M, ev_of (q := mt_P_put) rfl (ev_P_put_0 ?_), h, Fr.rf⟩
    by_cases c1 : n < 1
    · rw [if_pos ((zI_lt hn ⟨by omega, by omega⟩).mpr c1)]
    · rw [if_neg (fun q => by rw [zI_lt hn ⟨by omega, by omega⟩] at q; omega)]
      by_cases c2 : 4 < n
      · rw [if_pos ((zI_lt ⟨by omega, by omega⟩ hn).mpr c2)]
      · rw [if_neg (fun q => by rw [zI_lt ⟨by omega, by omega⟩ hn] at q; omega)]
        refine ⟨okF_W hW rfl, okF_W hW rfl, ?_⟩
        rw [show M.2.1 (0 + 1) 1 = zI B.length from h.2.2.2.1, zI_add, if_pos ((zI_lt ⟨by omega, by omega⟩ ⟨by omega, by omega⟩).mpr (by omega))]
theorem e_P_set {M : Mm_} {B : List Int} {p b : Int} (hW : WM M) (h : rowIs M 1 80 B) (hp : rg p) (hb : rg b) : ∃ M', Ev G d 10 [.ref 0, .int (zI p), .int (zI b)] M (some (.int (zI (sp_set B p b).1)), M') ∧ rowIs M' 1 80 (sp_set B p b).2 ∧ Fr [1, 2] M M' := by
  obtain ⟨h1, h2, h3, h4, h5, h6⟩ := h
  have h4' : M.2.1 (0 + 1) 1 = zI B.length := h4
  unfold sp_set
  by_cases c : 0 ≤ p ∧ p < (B.length : Int) ∧ 0 ≤ b ∧ b ≤ 255
  · rw [if_pos c]
    refine ⟨am_setI M 2 p.toNat (zI b), ev_of (q := mt_P_set) rfl (ev_P_set_0 ?_), ⟨h1, h2, by rw [List.length_set]; exact h3, by rw [List.length_set, setI_cell (by decide)]; exact h4, fun i hi => ?_, fun i hi => ?_⟩, Fr.set (by simp)⟩
    · rw [zI_0, if_neg (fun q => by rw [zI_lt hp ⟨by omega, by omega⟩] at q; omega)]
      refine ⟨okF_W hW rfl, okF_W hW rfl, ?_⟩
      rw [h4', if_pos ((zI_lt hp ⟨by omega, by omega⟩).mpr c.2.1), if_neg (fun q => by rw [zI_lt hb ⟨by omega, by omega⟩] at q; omega), if_neg (fun q => by rw [zI_lt ⟨by omega, by omega⟩ hb] at q; omega)]
      refine ⟨okF_W hW rfl, okF_W hW rfl, okA_W hW (show sg0[0 + 1 + 1]? = some (.inr (0, 80)) from rfl) (zI_in c.1 (by omega) (by omega)), ?_⟩
      rw [zI_clamp hp]
    · rw [List.length_set] at hi
      rw [by_set (by omega)]
      by_cases e : i = p.toNat
      · rw [if_pos e, e]
        exact setI_self
      · rw [if_neg e]
        exact (setI_idx e).trans (h5 i hi)
    · rw [List.length_set] at hi
      rw [by_set (by omega)]
      by_cases e : i = p.toNat
      · rw [if_pos e]; exact c.2.2
      · rw [if_neg e]; exact h6 i hi
  · rw [if_neg c]
    refine ⟨M, ev_of (q := mt_P_set) rfl (ev_P_set_0 ?_), ⟨h1, h2, h3, h4, h5, h6⟩, Fr.rf⟩
    rw [zI_0]
    by_cases c1 : p < 0
    · rw [if_pos ((zI_lt hp ⟨by omega, by omega⟩).mpr c1)]
    · rw [if_neg (fun q => by rw [zI_lt hp ⟨by omega, by omega⟩] at q; omega)]
      refine ⟨okF_W hW rfl, okF_W hW rfl, ?_⟩
      rw [h4']
      by_cases c2 : p < (B.length : Int)
      · rw [if_pos ((zI_lt hp ⟨by omega, by omega⟩).mpr c2)]
        by_cases c3 : b < 0
        · rw [if_pos ((zI_lt hb ⟨by omega, by omega⟩).mpr c3)]
        · rw [if_neg (fun q => by rw [zI_lt hb ⟨by omega, by omega⟩] at q; omega), if_pos ((zI_lt ⟨by omega, by omega⟩ hb).mpr (by omega))]
      · rw [if_neg (fun q => by rw [zI_lt hp ⟨by omega, by omega⟩] at q; omega)]
theorem e_P_cut {M : Mm_} {B : List Int} {n : Int} (hW : WM M) (h : rowIs M 1 80 B) (hn : rg n) : ∃ M', Ev G d 11 [.ref 0, .int (zI n)] M (some (.int (zI (sp_cut B n).1)), M') ∧ rowIs M' 1 80 (sp_cut B n).2 ∧ Fr [1, 2] M M' := by
  obtain ⟨h1, h2, h3, h4, h5, h6⟩ := h
  have h4' : M.2.1 (0 + 1) 1 = zI B.length := h4
  unfold sp_cut
  by_cases c : 0 ≤ n ∧ n ≤ (B.length : Int)
  · rw [if_pos c]
    have hl : (B.take n.toNat).length = n.toNat := by rw [List.length_take]; omega
    refine ⟨am_setI M 1 1 (zI n), ev_of (q := mt_P_cut) rfl (ev_P_cut_0 ?_), ⟨h1, h2, by rw [hl]; omega, by rw [hl, setI_self, show ((n.toNat : Nat) : Int) = n by omega], fun i hi => ?_, fun i hi => ?_⟩, Fr.set (by simp)⟩
    · rw [zI_0, if_neg (fun q => by rw [zI_lt hn ⟨by omega, by omega⟩] at q; omega)]
      refine ⟨okF_W hW rfl, okF_W hW rfl, ?_⟩
      rw [h4', if_neg (fun q => by rw [zI_lt ⟨by omega, by omega⟩ hn] at q; omega)]
      exact ⟨okF_W hW rfl, okP_W hW rfl rfl, rfl⟩
    · rw [hl] at hi
      rw [by_take hi, setI_cell (by decide)]
      exact h5 i (by omega)
    · rw [hl] at hi
      rw [by_take hi]
      exact h6 i (by omega)
  · rw [if_neg c]
    refine ⟨M, ev_of (q := mt_P_cut) rfl (ev_P_cut_0 ?_), ⟨h1, h2, h3, h4, h5, h6⟩, Fr.rf⟩
    rw [zI_0]
    by_cases c1 : n < 0
    · rw [if_pos ((zI_lt hn ⟨by omega, by omega⟩).mpr c1)]
    · rw [if_neg (fun q => by rw [zI_lt hn ⟨by omega, by omega⟩] at q; omega)]
      refine ⟨okF_W hW rfl, okF_W hW rfl, ?_⟩
      rw [h4', if_pos ((zI_lt ⟨by omega, by omega⟩ hn).mpr (by omega))]
theorem e_P_size {M : Mm_} {B : List Int} (hW : WM M) (h : rowIs M 1 80 B) : Ev G d 12 [.ref 0] M (some (.int (zI B.length)), M) := by
  refine ev_of (q := mt_P_size) rfl (ev_P_size_0 ⟨okF_W hW rfl, okF_W hW rfl, ?_⟩)
  rw [show M.2.1 (0 + 1) 1 = zI B.length from h.2.2.2.1]
theorem e_P_at {M : Mm_} {B : List Int} {p : Int} (hW : WM M) (h : rowIs M 1 80 B) (hp : rg p) : Ev G (d + 1) 13 [.ref 0, .int (zI p)] M (some (.int (zI (cB B p))), M) :=
  ev_of (q := mt_P_at) rfl (ev_P_at_0 ⟨okF_W hW rfl, okO_W hW rfl, _, _, e_R_cell hW h hp, ev_P_at_8 rfl⟩)
end BUF
