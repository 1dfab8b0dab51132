/-! ROWS: what the methods of PathShelf.Row do -/
theorem sg_cap : (sg0.all fun h => match h with
  | .inr q => Nat.ble q.2 1728
  | _ => true) = true := by decide +kernel
theorem cap_le {a t n : Nat} (h : sg0[a]? = some (.inr (t, n))) : n ≤ 1728 := by
  have := List.all_eq_true.mp sg_cap _ (List.mem_of_getElem? h)
  exact Nat.le_of_ble_eq_true this
/-- at r lies a row for cap bytes, and the bytes are B -/
def rowIs (M : Mm_) (r cap : Nat) (B : List Int) : Prop := sg0[r]? = some (.inl 4) ∧ sg0[r + 1]? = some (.inr (0, cap)) ∧ B.length ≤ cap ∧ M.2.1 r 1 = zI B.length ∧ (∀ i, i < B.length → M.2.1 (r + 1) i = zI (by_ B i)) ∧ ∀ i, i < B.length → 0 ≤ by_ B i ∧ by_ B i ≤ 255
def cB (B : List Int) (p : Int) : Int := if 0 ≤ p then by_ B p.toNat else -1
theorem by_out {B : List Int} {p : Nat} (h : B.length ≤ p) : by_ B p = -1 := by simp [by_, List.getD_eq_getElem?_getD, List.getElem?_eq_none h]
theorem by_app {B C : List Int} {p : Nat} (h : p < B.length) : by_ (B ++ C) p = by_ B p := by simp [by_, List.getD_eq_getElem?_getD, List.getElem?_append_left h]
theorem by_app2 {B C : List Int} {p : Nat} (h : B.length ≤ p) : by_ (B ++ C) p = by_ C (p - B.length) := by simp [by_, List.getD_eq_getElem?_getD, List.getElem?_append_right h]
theorem cB_rg {B : List Int} (hB : ∀ i, i < B.length → 0 ≤ by_ B i ∧ by_ B i ≤ 255) (p : Int) : -1 ≤ cB B p ∧ cB B p ≤ 255 := by
  unfold cB
  split
  · by_cases h : p.toNat < B.length
    · have := hB _ h; omega
    · rw [by_out (by omega)]; omega
  · omega
theorem rowIs.kept {A : List Nat} {M M' : Mm_} {r cap : Nat} {B : List Int} (h : rowIs M r cap B) (hF : Fr A M M') (h1 : r ∉ A) (h2 : r + 1 ∉ A) : rowIs M' r cap B := by
  obtain ⟨a1, a2, a3, a4, a5, a6⟩ := h
  exact ⟨a1, a2, a3, by rw [hF.2.2 r h1]; exact a4, fun i hi => by rw [hF.2.2 _ h2]; exact a5 i hi, a6⟩
section ROW
variable {G : Nat × (Nat → Int32)} {d : Nat} {M : Mm_} {r cap : Nat} {B : List Int}
theorem e_R_cell {p : Int} (hW : WM M) (h : rowIs M r cap B) (hp : rg p) : Ev G d 14 [.ref r, .int (zI p)] M (some (.int (zI (cB B p))), M) := by
  obtain ⟨h1, h2, h3, h4, h5, h6⟩ := h
  have hc := cap_le h2
  refine ev_of (q := mt_R_cell) rfl (ev_R_cell_0 ?_)
  rw [zI_0]
  unfold cB
  by_cases p0 : p < 0
  · rw [if_pos ((zI_lt hp ⟨by omega, by omega⟩).mpr p0), if_neg (by omega)]
  · rw [if_neg (fun q => p0 ((zI_lt hp ⟨by omega, by omega⟩).mp q))]
    refine ⟨okF_W hW h1, ?_⟩
    rw [h4]
    by_cases pl : p < (B.length : Int)
    · rw [if_pos ((zI_lt hp ⟨by omega, by omega⟩).mpr pl)]
      refine ⟨okF_W hW h1, okA_W hW h2 (zI_in (by omega) (by omega) (by omega)), ?_⟩
      rw [zI_clamp hp, h5 _ (by omega), if_pos (by omega)]
    · rw [if_neg (fun q => pl ((zI_lt hp ⟨by omega, by omega⟩).mp q)), if_pos (by omega), by_out (by omega)]
theorem e_R_add {x : Int} (hW : WM M) (h : rowIs M r cap B) (hl : B.length < cap) (hx : 0 ≤ x ∧ x ≤ 255) : ∃ M', Ev G d 9 [.ref r, .int (zI x)] M (none, M') ∧ rowIs M' r cap (B ++ [x]) ∧ Fr [r, r + 1] M M' := by
  obtain ⟨h1, h2, h3, h4, h5, h6⟩ := h
  have hc := cap_le h2
  have hlen : (zI (B.length : Int)).toNatClampNeg = B.length := zI_nat (by omega)
  refine ⟨am_setI (am_setI M (r + 1) B.length (zI x)) r 1 (zI (B.length + 1 : Nat)), ?_, ?_, ?_⟩
  · refine ev_of (q := mt_R_add) rfl (ev_R_add_0 ?_)
    rw [len_W hW h2, Option.getD_some, h4, hlen]
    refine ⟨okF_W hW h1, okF_W hW h1, rfl, ?_⟩
    rw [if_pos ((zI_lt ⟨by omega, by omega⟩ ⟨by omega, by omega⟩).mpr (by omega))]
    refine ⟨okF_W hW h1, okF_W hW h1, okA_z hW h2 hl (by omega), okF_W (WM_setI hW) h1, okP_W (WM_setI hW) h1 rfl, ?_⟩
    rw [setI_cell (by omega), h4, zI_add]
    rfl
  · refine ⟨h1, h2, by simp; omega, by rw [setI_self]; simp, fun i hi => ?_, fun i hi => ?_⟩
    · rw [List.length_append, List.length_singleton] at hi
      rw [setI_cell (by omega)]
      by_cases e : i = B.length
      · subst e
        rw [setI_self, by_app2 (Nat.le_refl _), Nat.sub_self]
        rfl
      · rw [setI_idx e, h5 i (by omega), by_app (by omega)]
    · rw [List.length_append, List.length_singleton] at hi
      by_cases e : i = B.length
      · subst e
        rw [by_app2 (Nat.le_refl _), Nat.sub_self]
        exact hx
      · rw [by_app (by omega)]
        exact h6 i (by omega)
  · exact (Fr.set (by simp)).tr (Fr.set (by simp))
/-- a part of another row (or of none): the bytes from i up to j -/
def sl (C : List Int) (i j : Nat) : List Int := (C.drop i).take (j - i)
theorem sl_len {C : List Int} {i j : Nat} (hj : j ≤ C.length) : (sl C i j).length = j - i := by simp [sl]; omega
theorem sl_by {C : List Int} {i j k : Nat} (hk : k < j - i) : by_ (sl C i j) k = by_ C (i + k) := by
  simp [sl, by_, List.getD_eq_getElem?_getD, List.getElem?_take, List.getElem?_drop, hk]
theorem sl_step {C : List Int} {i j : Nat} (hi : i < j) (hj : j ≤ C.length) : sl C i j = by_ C i :: sl C (i + 1) j := by
  unfold sl
  have e : C.drop i = C[i] :: C.drop (i + 1) := List.drop_eq_getElem_cons (by omega)
  rw [e, show j - i = (j - (i + 1)) + 1 by omega, List.take_succ_cons]
  congr 1
  simp [by_, List.getD_eq_getElem?_getD, List.getElem?_eq_getElem (show i < C.length by omega)]
theorem sl_nil {C : List Int} {i : Nat} : sl C i i = [] := by simp [sl]
theorem addPart_loop {r2 cap2 : Nat} {C : List Int} {j : Nat} {s0 : Int32} (hr : r2 ≠ r) (hr1 : r2 ≠ r + 1) (hr2 : r2 + 1 ≠ r) : ∀ (k i : Nat) (M : Mm_) (B : List Int), i + k = j → WM M → rowIs M r cap B → rowIs M r2 cap2 C → j ≤ C.length → B.length + k ≤ cap →
    ∃ M', EvC G (d + 1) m_R_addPart 3 [some (.ref r), some (.ref r2), some (.int s0), some (.int (zI j)), some (.int (zI i))] [] M (none, M') ∧ rowIs M' r cap (B ++ sl C i j) ∧ Fr [r, r + 1] M M'
  | 0, i, M, B, hij, hW, h, h', hj, hl => by
    have hc := cap_le h'.2.1
    have := h'.2.2.1
    obtain rfl : i = j := by omega
    refine ⟨M, ev_R_addPart_3 ?_, by rw [sl_nil, List.append_nil]; exact h, Fr.rf⟩
    rw [if_neg (fun q => by rw [zI_lt ⟨by omega, by omega⟩ ⟨by omega, by omega⟩] at q; omega)]
  | k + 1, i, M, B, hij, hW, h, h', hj, hl => by
    have hc := cap_le h'.2.1
    have hle := h'.2.2.1
    have hby := h'.2.2.2.2.2 i (by omega)
    obtain ⟨M1, e1, r1, f1⟩ := e_R_add (G := G) (d := d) (x := by_ C i) hW h (by omega) hby
    have w1 := f1.WM hW
    have r1' : rowIs M1 r2 cap2 C := h'.kept f1 (by simp [hr, hr1]) (by simp [hr2]; omega)
    obtain ⟨M2, e2, r2', f2⟩ := addPart_loop hr hr1 hr2 k (i + 1) M1 (B ++ [by_ C i]) (by omega) w1 r1 r1' hj (by simp; omega)
    refine ⟨M2, ev_R_addPart_3 ?_, ?_, f1.tr f2⟩
    · rw [if_pos ((zI_lt ⟨by omega, by omega⟩ ⟨by omega, by omega⟩).mpr (by omega))]
      refine ⟨okO_W hW h'.1, _, _, e_R_cell hW h' ⟨by omega, by omega⟩, ?_⟩
      have ec : cB C (i : Int) = by_ C i := by unfold cB; rw [if_pos (by omega), Int.toNat_natCast]
      rw [ec]
      refine ev_R_addPart_16 ⟨okO_W hW h.1, _, e1, ev_R_addPart_19 ?_⟩
      rw [zI_add, show (i : Int) + 1 = ((i + 1 : Nat) : Int) by omega]
      exact e2
    · rw [sl_step (by omega) hj]
      rw [List.append_assoc] at r2'
      exact r2'
theorem e_R_addPart {r2 cap2 : Nat} {C : List Int} {i j : Nat} (hr : r2 ≠ r) (hr1 : r2 ≠ r + 1) (hr2 : r2 + 1 ≠ r) (hij : i ≤ j) (hW : WM M) (h : rowIs M r cap B) (h' : rowIs M r2 cap2 C) (hj : j ≤ C.length) (hl : B.length + (j - i) ≤ cap) :
    ∃ M', Ev G (d + 1) 36 [.ref r, .ref r2, .int (zI i), .int (zI j)] M (none, M') ∧ rowIs M' r cap (B ++ sl C i j) ∧ Fr [r, r + 1] M M' := by
  obtain ⟨M', e, q⟩ := addPart_loop (G := G) (d := d) (s0 := zI i) hr hr1 hr2 (j - i) i M B (by omega) hW h h' hj hl
  exact ⟨M', ev_of (q := mt_R_addPart) rfl (ev_R_addPart_0 e), q⟩
theorem sl_all (C : List Int) : sl C 0 C.length = C := by simp [sl]
/-- a row emptied -/
theorem row_clear (h : rowIs M r cap B) : rowIs (am_setI M r 1 (zI 0)) r cap [] := by
  obtain ⟨h1, h2, -⟩ := h
  exact ⟨h1, h2, Nat.zero_le _, setI_self, fun i hi => (by cases hi), fun i hi => (by cases hi)⟩
theorem e_R_become {r2 cap2 : Nat} {C : List Int} (hr : r2 ≠ r) (hr1 : r2 ≠ r + 1) (hr2 : r2 + 1 ≠ r) (hW : WM M) (h : rowIs M r cap B) (h' : rowIs M r2 cap2 C) (hl : C.length ≤ cap) :
    ∃ M', Ev G (d + 2) 35 [.ref r, .ref r2] M (none, M') ∧ rowIs M' r cap C ∧ Fr [r, r + 1] M M' := by
  have f0 : Fr [r, r + 1] M (am_setI M r 1 (zI 0)) := Fr.set (by simp)
  have h0 := row_clear h
  have h0' : rowIs (am_setI M r 1 (zI 0)) r2 cap2 C := h'.kept f0 (by simp [hr, hr1]) (by simp [hr2]; omega)
  obtain ⟨M', e, q, f⟩ := e_R_addPart (G := G) (d := d) (i := 0) (j := C.length) hr hr1 hr2 (Nat.zero_le _) (WM_setI hW) h0 h0' (Nat.le_refl _) (by simp; omega)
  refine ⟨M', ev_of (q := mt_R_become) rfl (ev_R_become_0 ⟨okP_W hW h.1 rfl, okF_W (WM_setI hW) h'.1, okO_W (WM_setI hW) h.1, M', ?_, ev_R_become_15 rfl⟩), by rw [sl_all] at q; exact q, f0.tr f⟩
  rw [h0'.2.2.2.1]
  exact e
end ROW
